/-! mending -/
theorem Jn.walk {P : Nat → Nat → Prop} {w w' : Wd} {m tc rl tp : Nat} (h : Jn w m tc rl tp) (hc : Ch P w w') (hP : ∀ i k, P i k → (18 ≤ i ∧ i < 24) ∨ i = 58) (hw : ∀ i, i < m → Wk w' 18 58 5 i) : Jn w' m tc rl tp := by
  have n : ∀ {i k : Nat}, ¬ ((18 ≤ i ∧ i < 24) ∨ i = 58) → gI w' i k = gI w i k := fun hn => hc.I (fun z => hn (hP _ _ z))
  have q : ∀ {i k : Nat}, ¬ ((18 ≤ i ∧ i < 24) ∨ i = 58) → ¬ P i k := fun hn z => hn (hP _ _ z)
  obtain ⟨h1, h2, h3, h4, h5, h6, h7, h8, h9, h10, h11⟩ := h
  refine ⟨hc.St h1, ?_, ?_, ?_, ?_, fun k hk => ?_, hw, ⟨h8.1, ?_, ?_, fun k hk => ?_⟩, fun t ht => ?_, fun s hs => (h10 s hs).ch hc (fun y => ⟨q (by omega), q (by omega), q (by omega), q (by omega), q (by omega), q (by omega)⟩), h11.ch h2.1 hc (fun i k z => by have := hP i k z; omega)⟩
  · rw [n (by omega), n (by omega)]; exact h2
  · rw [n (by omega), n (by omega)]; exact h3
  · rw [n (by omega), n (by omega)]; exact h4
  · rw [n (by omega), n (by omega)]; exact h5
  · rw [n (by omega), n (by omega)]; exact h6 k hk
  · rw [n (by omega)]; exact h8.2.1
  · rw [n (by omega)]; exact h8.2.2.1
  · rw [n (by omega), n (by omega)]; exact h8.2.2.2 k hk
  · obtain ⟨ev, e1, e2⟩ := h9 t ht
    exact ⟨ev, e1.ch hc (fun i k a b z => by have := hP i k z; omega) (by omega), e2.ch hc (fun k => ⟨q (by omega), q (by omega)⟩)⟩
theorem mend_agree (a0 : Int32) : Agree JJ (fX6_mend 0 a0) (fX7_mend 52 a0) := by
  rintro w ⟨m, tc, rl, tp, h⟩
  rcases one_at h a0 with ⟨i, hi, rfl, e1, e2⟩ | ⟨e1, e2⟩
  · have hS := h.1
    have m6 := h.2.1.1
    have hw := h.2.2.2.2.2.2.1
    have n4 : (5 : Int32) * nI i + 4 = nI (5 * i + 4) := by rw [m5]; exact nI_add (5 * i) 4
    have c4 : (nI (5 * i + 4)).toNatClampNeg = 5 * i + 4 := nI_clamp (by omega)
    obtain ⟨w1, hw1⟩ : ∃ w1, w1 = sI w (18 + i) 5 0 := ⟨_, rfl⟩
    have hS1 : St w1 := by rw [hw1]; exact hS
    have c1 : Ch (fun i k => (18 ≤ i ∧ i < 24) ∨ i = 58) w w1 := by
      rw [hw1]
      exact ch_sI (Or.inl ⟨by omega, by omega⟩)
    have e58 : gI w1 58 (5 * i + 4) = gI w (18 + i) 5 := by
      rw [hw1, gI_sI, if_neg (by omega)]
      exact (hw i hi).2.2.2.2.2.1.symm
    have o1 : fX7_isOne 52 (nI i) w1 = some (1, w1) := by
      have e0 : (0 : Int32).toInt64 = (0 : Int64) := by decide
      have h11 : gI w1 52 11 = nI m := by rw [hw1, gI_sI, if_neg (by omega)]; exact h.2.1.2.2
      unfold fX7_isOne
      rw [h11, ← e0, in32, bnd_s, if_pos ((in0 (by omega)).mpr ⟨i, hi, rfl⟩), grd_t (Or.inr rfl)]
    refine ⟨gI w (18 + i) 5, w1, sI w1 58 (5 * i + 4) 0, ?_, ?_, m, tc, rl, tp, h.walk (c1.tr (ch_sI (Or.inr rfl))) (fun i k z => z) (fun j hj => ?_)⟩
    · unfold fX6_mend
      rw [e1, bnd_s, ifn_some, dr_at hS.1 (kd_wk (by omega)), lt_e, lw_e, hw1]
    · unfold fX7_mend
      rw [o1, bnd_s, if_neg (by decide), dg_52_10 hS1, n4, grd_t (by rw [ln_58]; exact vin_nI (by omega) (by omega)), lt_e, dg_52_10 hS1, grd_t (by rw [ln_58]; exact vin_nI (by omega) (by omega)), lw_e]
      simp only [c4]
      rw [e58]
    · have a : ∀ k, gI (sI w1 58 (5 * i + 4) 0) (18 + j) k = if j = i ∧ k = 5 then 0 else gI w (18 + j) k := fun k => by
        rw [gI_sI, if_neg (by omega), hw1, gI_sI]
        by_cases hk : j = i ∧ k = 5
        · rw [if_pos hk, if_pos ⟨by omega, hk.2⟩]
        · rw [if_neg hk, if_neg (fun z => hk ⟨by omega, z.2⟩)]
      have b : ∀ k, gI (sI w1 58 (5 * i + 4) 0) 58 k = if k = 5 * i + 4 then 0 else gI w 58 k := fun k => by
        rw [gI_sI]
        by_cases hk : k = 5 * i + 4
        · rw [if_pos ⟨rfl, hk⟩, if_pos hk]
        · rw [if_neg (fun z => hk z.2), if_neg hk, hw1, gI_sI, if_neg (by omega)]
      have d : ∀ k, gI (sI w1 58 (5 * i + 4) 0) 57 k = gI w 57 k := fun k => by
        rw [gI_sI, if_neg (by omega), hw1, gI_sI, if_neg (by omega)]
      obtain ⟨x0, x1, x2, x3, x4, x5, r0, r1, r2, r3, r4, r5⟩ := hw j hj
      have a5 : ∀ k, k ≠ 5 → gI (sI w1 58 (5 * i + 4) 0) (18 + j) k = gI w (18 + j) k := fun k hk => by rw [a, if_neg (fun z => hk z.2)]
      have b5 : ∀ k, k ≠ 5 * i + 4 → gI (sI w1 58 (5 * i + 4) 0) 58 k = gI w 58 k := fun k hk => by rw [b, if_neg hk]
      unfold Wk
      rw [a5 0 (by omega), a5 1 (by omega), a5 2 (by omega), a5 3 (by omega), a5 4 (by omega), d, b5 (5 * j) (by omega), b5 (5 * j + 1) (by omega), b5 (5 * j + 2) (by omega), b5 (5 * j + 3) (by omega)]
      by_cases hij : j = i
      · rw [a 5, if_pos ⟨hij, rfl⟩, b (5 * j + 4), if_pos (by omega)]
        exact ⟨x0, x1, x2, x3, x4, rfl, r0, r1, r2, r3, r4, 0, by omega, rfl⟩
      · rw [a 5, if_neg (fun z => hij z.1), b5 (5 * j + 4) (by omega)]
        exact ⟨x0, x1, x2, x3, x4, x5, r0, r1, r2, r3, r4, r5⟩
  · refine ⟨-2, w, w, ?_, ?_, m, tc, rl, tp, h⟩
    · unfold fX6_mend
      rw [e1, bnd_s, ifn_none]
    · unfold fX7_mend
      rw [e2, bnd_s, if_pos rfl]
