/-! feeding, ruling -/
theorem Jn.tape {P : Nat → Nat → Prop} {w w' : Wd} {m tc rl tp tp' : Nat} (h : Jn w m tc rl tp) (hc : Ch P w w') (hP : ∀ i k, P i k → i = 6 ∨ (i = 5 ∧ k = 1) ∨ i = 55 ∨ (i = 52 ∧ k = 6)) (ht : tp' ≤ 160 ∧ gI w' 5 1 = nI tp' ∧ gI w' 52 6 = nI tp' ∧ ∀ k, k < tp' → gI w' 6 k = gI w' 55 k ∧ Ra (gI w' 6 k) 255) : Jn w' m tc rl tp' := by
  have n : ∀ {i k : Nat}, ¬ (i = 6 ∨ (i = 5 ∧ k = 1) ∨ i = 55 ∨ (i = 52 ∧ k = 6)) → gI w' i k = gI w i k := fun hn => hc.I (fun z => hn (hP _ _ z))
  have q : ∀ {i k : Nat}, ¬ (i = 6 ∨ (i = 5 ∧ k = 1) ∨ i = 55 ∨ (i = 52 ∧ k = 6)) → ¬ P i k := fun hn z => hn (hP _ _ z)
  obtain ⟨h1, h2, h3, h4, h5, h6, h7, h8, h9, h10, h11⟩ := h
  refine ⟨hc.St h1, ?_, ?_, ?_, ?_, fun k hk => ?_, fun i hi => (h7 i hi).ch hc (fun y => ⟨q (by omega), q (by omega), q (by omega)⟩), ht, fun t ht => ?_, fun s hs => (h10 s hs).ch hc (fun y => ⟨q (by omega), q (by omega), q (by omega), q (by omega), q (by omega), q (by omega)⟩), h11.ch h2.1 hc (fun i k z => by have := hP i k z; omega)⟩
  · rw [n (by omega), n (by omega)]; exact h2
  · rw [n (by omega), n (by omega)]; exact h3
  · rw [n (by omega), n (by omega)]; exact h4
  · rw [n (by omega), n (by omega)]; exact h5
  · rw [n (by omega), n (by omega)]; exact h6 k hk
  · obtain ⟨ev, e1, e2⟩ := h9 t ht
    exact ⟨ev, e1.ch hc (fun i k a b z => by have := hP i k z; omega) (by omega), e2.ch hc (fun k => ⟨q (by omega), q (by omega)⟩)⟩
theorem Jn.rule {P : Nat → Nat → Prop} {w w' : Wd} {m tc rl rl' tp : Nat} (h : Jn w m tc rl tp) (hc : Ch P w w') (hP : ∀ i k, P i k → (i = 0 ∧ k = 7) ∨ (i = 52 ∧ k = 4)) (hr : rl' < tc ∧ gI w' 0 7 = nI rl' ∧ gI w' 52 4 = nI rl') : Jn w' m tc rl' tp := by
  have n : ∀ {i k : Nat}, ¬ ((i = 0 ∧ k = 7) ∨ (i = 52 ∧ k = 4)) → gI w' i k = gI w i k := fun hn => hc.I (fun z => hn (hP _ _ z))
  have q : ∀ {i k : Nat}, ¬ ((i = 0 ∧ k = 7) ∨ (i = 52 ∧ k = 4)) → ¬ P i k := fun hn z => hn (hP _ _ z)
  obtain ⟨h1, h2, h3, h4, h5, h6, h7, h8, h9, h10, h11⟩ := h
  refine ⟨hc.St h1, ?_, ?_, hr, ?_, fun k hk => ?_, fun i hi => (h7 i hi).ch hc (fun y => ⟨q (by omega), q (by omega), q (by omega)⟩), ⟨h8.1, ?_, ?_, fun k hk => ?_⟩, fun t ht => ?_, fun s hs => (h10 s hs).ch hc (fun y => ⟨q (by omega), q (by omega), q (by omega), q (by omega), q (by omega), q (by omega)⟩), h11.ch h2.1 hc (fun i k z => by have := hP i k z; omega)⟩
  · rw [n (by omega), n (by omega)]; exact h2
  · rw [n (by omega), n (by omega)]; exact h3
  · rw [n (by omega), n (by omega)]; exact h5
  · rw [n (by omega), n (by omega)]; exact h6 k hk
  · rw [n (by omega)]; exact h8.2.1
  · rw [n (by omega)]; exact h8.2.2.1
  · rw [n (by omega), n (by omega)]; exact h8.2.2.2 k hk
  · obtain ⟨ev, e1, e2⟩ := h9 t ht
    exact ⟨ev, e1.ch hc (fun i k a b z => by have := hP i k z; omega) (by omega), e2.ch hc (fun k => ⟨q (by omega), q (by omega)⟩)⟩
theorem force_agree (a0 : Int32) : Agree JJ (fX6_force 0 a0) (fX7_force 52 a0) := by
  rintro w ⟨m, tc, rl, tp, h⟩
  have e0 : (0 : Int32).toInt64 = (0 : Int64) := by decide
  have h3 := h.2.2.1
  have h4 := h.2.2.2.1
  by_cases hc : 0 ≤ a0 ∧ a0 ≤ nI tc - 1
  · obtain ⟨r, hr, rfl⟩ := (in0 (by omega)).mp hc
    refine ⟨nI rl, sI w 0 7 (nI r), sI (sI w 0 7 (nI r)) 52 4 (nI r), ?_, ?_, m, tc, r, tp, ?_⟩
    · unfold fX6_force
      rw [h3.2.1, wn_ev, bnd_s, w01, if_pos hc, lt_e, lw_e, h4.2.1]
    · unfold fX7_force
      have g3 : gI (sI w 0 7 (nI r)) 52 3 = nI tc := by rw [gI_sI, if_neg (by omega)]; exact h3.2.2
      have g4 : gI (sI w 0 7 (nI r)) 52 4 = nI rl := by rw [gI_sI, if_neg (by omega)]; exact h4.2.2
      rw [g3, in0l rfl, bnd_s, w01, if_pos hc, lt_e, lw_e, g4]
    · refine h.rule (P := fun i k => (i = 0 ∧ k = 7) ∨ (i = 52 ∧ k = 4)) ((ch_sI (Or.inl ⟨rfl, rfl⟩)).tr (ch_sI (Or.inr ⟨rfl, rfl⟩))) (fun i k z => z) ⟨hr, ?_, ?_⟩
      · rw [gI_sI, if_neg (by omega), gI_sI, if_pos ⟨rfl, rfl⟩]
      · rw [gI_sI, if_pos ⟨rfl, rfl⟩]
  · refine ⟨-2, w, w, ?_, ?_, m, tc, rl, tp, h⟩
    · unfold fX6_force
      rw [h3.2.1, wn_ev, bnd_s, w01, if_neg hc]
    · unfold fX7_force
      rw [h3.2.2, in0l rfl, bnd_s, w01, if_neg hc]
theorem feed_agree (a0 : Int32) : Agree JJ (fX6_feed 0 a0) (fX7_feed 52 a0) := by
  rintro w ⟨m, tc, rl, tp, h⟩
  have e255 : (255 : Int32).toInt64 = (255 : Int64) := by decide
  have h8 := h.2.2.2.2.2.2.2.1
  have hS := h.1
  by_cases hc : 0 ≤ a0 ∧ a0 ≤ (255 : Int32)
  · obtain ⟨v, hv, rfl⟩ := (in0n (n := 255) (by omega)).mp hc
    by_cases hf : tp < 160
    · have ctp : (nI tp).toNatClampNeg = tp := nI_clamp (by omega)
      obtain ⟨w1, hw1⟩ : ∃ w1, w1 = sI (sI w 6 tp (nI v)) 5 1 (nI (tp + 1)) := ⟨_, rfl⟩
      obtain ⟨w2, hw2⟩ : ∃ w2, w2 = sI (sI w1 55 tp (nI v)) 52 6 (nI (tp + 1)) := ⟨_, rfl⟩
      have c1 : Ch (fun i k => i = 6 ∨ (i = 5 ∧ k = 1) ∨ i = 55 ∨ (i = 52 ∧ k = 6)) w w1 := by
        rw [hw1]
        exact (ch_sI (Or.inl rfl)).tr (ch_sI (Or.inr (Or.inl ⟨rfl, rfl⟩)))
      have c2 : Ch (fun i k => i = 6 ∨ (i = 5 ∧ k = 1) ∨ i = 55 ∨ (i = 52 ∧ k = 6)) w1 w2 := by
        rw [hw2]
        exact (ch_sI (Or.inr (Or.inr (Or.inl rfl)))).tr (ch_sI (Or.inr (Or.inr (Or.inr ⟨rfl, rfl⟩))))
      have hS1 := c1.St hS
      refine ⟨nI (tp + 1), w1, w2, ?_, ?_, m, tc, rl, tp + 1, h.tape (c1.tr c2) (fun i k z => z) ⟨by omega, ?_, ?_, fun k hk => ?_⟩⟩
      · have hlt : nI tp < (160 : Int32) := nI_lt (b := 160) hf (by omega)
        have hle : ¬ Int32.ofNat 160 ≤ nI tp := nI_ge (b := 160) hf (by omega)
        unfold fX6_feed
        rw [wn_ev, bnd_s, w01, if_pos hc, dg_0_8 hS, h8.2.1, if_pos hlt, dg_0_8 hS]
        unfold fX1_append
        rw [dg_5_0 hS, ln_6, h8.2.1, if_neg hle, dg_5_0 hS, grd_t (by rw [ln_6]; exact vin_nI hf (by omega)), ctp, lw_e]
        have e5 : gI (sI w 6 tp (nI v)) 5 1 + 1 = nI (tp + 1) := by rw [gI_sI, if_neg (by omega), h8.2.1, nI_1]
        rw [e5, lw_e, ← hw1, bnd_s, dg_0_8 hS1, hw1, gI_sI, if_pos ⟨rfl, rfl⟩]
      · have g6 : gI w1 52 6 = nI tp := by rw [hw1, gI_sI, if_neg (by omega), gI_sI, if_neg (by omega)]; exact h8.2.2.1
        have hne : ¬ nI tp = (160 : Int32) := fun y => by
          have := (nI_eq (a := tp) (b := 160) (by omega) (by omega)).mp y
          omega
        unfold fX7_feed
        rw [in0l e255, bnd_s, w01, if_pos hc, g6, if_neg hne, dg_52_5 hS1, grd_t (by rw [ln_55]; exact vin_nI hf (by omega)), ctp, lw_e]
        have e6 : gI (sI w1 55 tp (nI v)) 52 6 + 1 = nI (tp + 1) := by rw [gI_sI, if_neg (by omega), g6, nI_1]
        rw [e6, lw_e, ← hw2, hw2, gI_sI, if_pos ⟨rfl, rfl⟩]
      · rw [hw2, gI_sI, if_neg (by omega), gI_sI, if_neg (by omega), hw1, gI_sI, if_pos ⟨rfl, rfl⟩]
      · rw [hw2, gI_sI, if_pos ⟨rfl, rfl⟩]
      · have a1 : gI w2 6 k = if k = tp then nI v else gI w 6 k := by
          rw [hw2, gI_sI, if_neg (by omega), gI_sI, if_neg (by omega), hw1, gI_sI, if_neg (by omega), gI_sI]
          by_cases hk2 : k = tp
          · rw [if_pos ⟨rfl, hk2⟩, if_pos hk2]
          · rw [if_neg (fun z => hk2 z.2), if_neg hk2]
        have a2 : gI w2 55 k = if k = tp then nI v else gI w 55 k := by
          rw [hw2, gI_sI, if_neg (by omega), gI_sI]
          by_cases hk2 : k = tp
          · rw [if_pos ⟨rfl, hk2⟩, if_pos hk2]
          · rw [if_neg (fun z => hk2 z.2), if_neg hk2, hw1, gI_sI, if_neg (by omega), gI_sI, if_neg (by omega)]
        rw [a1, a2]
        by_cases hk2 : k = tp
        · rw [if_pos hk2, if_pos hk2]
          exact ⟨rfl, v, hv, rfl⟩
        · rw [if_neg hk2, if_neg hk2]
          exact h8.2.2.2 k (by omega)
    · have h160 : tp = 160 := by have := h8.1; omega
      subst h160
      refine ⟨-4, w, w, ?_, ?_, m, tc, rl, 160, h⟩
      · unfold fX6_feed
        rw [wn_ev, bnd_s, w01, if_pos hc, dg_0_8 hS, h8.2.1, if_neg (by decide)]
      · unfold fX7_feed
        rw [in0l e255, bnd_s, w01, if_pos hc, h8.2.2.1, if_pos (by decide)]
  · refine ⟨-2, w, w, ?_, ?_, m, tc, rl, tp, h⟩
    · unfold fX6_feed
      rw [wn_ev, bnd_s, w01, if_neg hc]
    · unfold fX7_feed
      rw [in0l e255, bnd_s, w01, if_neg hc]
