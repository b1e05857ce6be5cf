/-! a text is read on both sides -/
theorem TEv.eq {w w' : Wd} {t : Nat} {ev : Ev} (h : TEv w t ev) (e24 : ∀ k, gI w' (24 + 3 * t) k = gI w (24 + 3 * t) k) (e25 : ∀ k, gI w' (25 + 3 * t) k = gI w (25 + 3 * t) k) (e26 : ∀ k, gI w' (26 + 3 * t) k = gI w (26 + 3 * t) k) : TEv w' t ev := by
  obtain ⟨c0, c1, c2, h1, h2, h3, h4⟩ := h
  refine ⟨c0, c1, c2, ?_, h2, by rw [e24]; exact h3, by rw [e24]; exact h4⟩
  obtain ⟨a1, a2, a3, a4, a5⟩ := h1
  unfold TxOk
  rw [e26, e26, e26]
  exact ⟨a1, a2, a3, a4, fun q hq => by rw [e25]; exact a5 q hq⟩
theorem MEv.eq {w w' : Wd} {t : Nat} {ev : Ev} (h : MEv w t ev) (e53 : ∀ k, k < 160 → gI w' 53 (160 * t + k) = gI w 53 (160 * t + k)) (e54 : gI w' 54 t = gI w 54 t) : MEv w' t ev := fun w1 p hp hS h1 h2 => h w1 p hp hS (fun k hk => (h1 k hk).trans (e53 k hk)) (h2.trans e54)
theorem Im.mono {w : Wd} {m tc tc' : Nat} (h : Im w m tc) (hle : tc ≤ tc') : Im w m tc' := by
  refine h.imp id (fun y => ⟨y.1, ?_⟩)
  obtain ⟨k, y1, y2, y3, y4, y5, y6, ⟨r, hr, y7⟩, y8, y9⟩ := y.2
  exact ⟨k, y1, y2, y3, y4, y5, y6, ⟨r, by omega, y7⟩, y8, y9⟩
theorem Jn.texts {P : Nat → Nat → Prop} {w w' : Wd} {m tc rl tp tc' : Nat} (h : Jn w m tc rl tp) (h6 : tc < 6) (hc : Ch P w w') (hP : ∀ i k, P i k → i = 5 ∨ (24 + 3 * tc ≤ i ∧ i ≤ 26 + 3 * tc) ∨ i = 53 ∨ i = 54 ∨ (i = 0 ∧ k = 6) ∨ (i = 52 ∧ (k = 3 ∨ k = 6 ∨ (18 ≤ k ∧ k ≤ 26)))) (htc : tc' ≤ 6 ∧ gI w' 0 6 = nI tc' ∧ gI w' 52 3 = nI tc') (hle : tc ≤ tc') (htp : gI w' 5 1 = 0 ∧ gI w' 52 6 = 0) (h9 : ∀ t, t < tc' → ∃ ev, TEv w' t ev ∧ MEv w' t ev) : Jn w' m tc' rl 0 := by
  have n : ∀ {i k : Nat}, ¬ (i = 5 ∨ (24 + 3 * tc ≤ i ∧ i ≤ 26 + 3 * tc) ∨ i = 53 ∨ i = 54 ∨ (i = 0 ∧ k = 6) ∨ (i = 52 ∧ (k = 3 ∨ k = 6 ∨ (18 ≤ k ∧ k ≤ 26)))) → gI w' i k = gI w i k := fun hn => hc.I (fun z => hn (hP _ _ z))
  obtain ⟨g1, g2, g3, g4, g5, g6, g7, g8, g9, g10, g11⟩ := h
  refine ⟨hc.St g1, ?_, htc, ⟨by omega, ?_, ?_⟩, ?_, fun k hk => ?_, fun i hi => (g7 i hi).ch hc (fun y => ⟨fun z => by have := hP _ _ z; omega, fun z => by have := hP _ _ z; omega, fun z => by have := hP _ _ z; omega⟩), ⟨by omega, htp.1, htp.2, fun k hk => by omega⟩, h9, fun s hs => (g10 s hs).ch hc (fun y => ⟨fun z => by have := hP _ _ z; omega, fun z => by have := hP _ _ z; omega, fun z => by have := hP _ _ z; omega, fun z => by have := hP _ _ z; omega, fun z => by have := hP _ _ z; omega, fun z => by have := hP _ _ z; omega⟩), (g11.ch g2.1 hc (fun i k z => by have := hP i k z; omega)).mono hle⟩
  · rw [n (by omega), n (by omega)]; exact g2
  · rw [n (by omega)]; exact g4.2.1
  · rw [n (by omega)]; exact g4.2.2
  · rw [n (by omega), n (by omega)]; exact g5
  · rw [n (by omega), n (by omega)]; exact g6 k hk
def QT (tc i k : Nat) : Prop := i = 53 ∧ 160 * tc ≤ k ∧ k < 160 * tc + 160 ∨ (i = 54 ∧ k = tc) ∨ (i = 52 ∧ (k = 6 ∨ (18 ≤ k ∧ k ≤ 26)))
theorem textM {b : Nat → Int32} {w : Wd} {tc tp : Nat} (hS : St w) (h6 : tc < 6) (h3 : gI w 52 3 = nI tc) (hp6 : gI w 52 6 = nI tp) (htp : tp ≤ 160) (hb : ∀ k, k < tp → 0 ≤ b k) (h55 : ∀ k, k < tp → gI w 55 k = b k) : ∃ w5, (∀ v : Int32, (gI w5 52 25 = 0 → v = nI tc → ∃ w', w' = sI w5 52 3 (nI (tc + 1)) ∧ fX7_text 52 w = some (v, w')) ∧ (¬ gI w5 52 25 = 0 → v = (-100 : Int32) - gI w5 52 26 → fX7_text 52 w = some (v, w5))) ∧ (∃ v p0, Red w5 v 0 p0 (pText b tp)) ∧ gI w5 52 6 = 0 ∧ gI w5 54 tc = nI tp ∧ (∀ k, k < tp → gI w5 53 (160 * tc + k) = b k) ∧ Ch (QT tc) w w5 := by
  have ct : (nI tc).toNatClampNeg = tc := nI_clamp (by omega)
  obtain ⟨w2, fu, e2, c2, r2⟩ := lay_loop h6 htp tp 0 FU w hS h3 hp6 (by omega) (show tp < 2000 by omega)
  have hS2 := c2.St hS
  have k3 : gI w2 52 3 = nI tc := by rw [c2.I (by omega)]; exact h3
  have k6 : gI w2 52 6 = nI tp := by rw [c2.I (by omega)]; exact hp6
  obtain ⟨w4, hw4⟩ : ∃ z, z = sI (sI w2 54 tc (nI tp)) 52 6 0 := ⟨_, rfl⟩
  have hw4' : sI (sI w2 54 (nI tc).toNatClampNeg (nI tp)) 52 6 0 = w4 := by rw [ct, hw4]
  have c24 : Ch (QT tc) w2 w4 := by
    rw [hw4]
    exact (ch_sI (Or.inr (Or.inl ⟨rfl, rfl⟩))).tr (ch_sI (Or.inr (Or.inr ⟨rfl, Or.inl rfl⟩)))
  have c4 : Ch (QT tc) w w4 := (c2.mono (fun a k z => Or.inl ⟨z.1, by omega, z.2.2⟩)).tr c24
  have hS4 := c4.St hS
  have g54 : gI w4 54 tc = nI tp := by rw [hw4, gI_sI, if_neg (by omega), gI_sI, if_pos ⟨rfl, rfl⟩]
  have g53 : ∀ k, k < tp → gI w4 53 (160 * tc + k) = b k := fun k hk => by
    rw [hw4, gI_sI, if_neg (by omega), gI_sI, if_neg (by omega), r2 k (by omega) hk]
    exact h55 k hk
  have g3 : gI w4 52 3 = nI tc := by rw [hw4, gI_sI, if_neg (by omega), gI_sI, if_neg (by omega)]; exact k3
  obtain ⟨v, w5, e5, red, c5⟩ := read_ev (p := 0) hS4 htp h6 (by omega) hb g54 g53
  have e5 : fX7_read 52 (nI tc) (0 : Int32) w4 = some (v, w5) := e5
  have k35 : gI w5 52 3 = nI tc := by rw [c5.I (by unfold PR; omega)]; exact g3
  have n6 : ¬ gI w 52 3 = (6 : Int32) := by rw [h3]; exact nI_ne (b := 6) (by omega) (by omega) (by omega)
  have hle : nI tp ≤ nI tp := nI_le (Nat.le_refl _) (by omega)
  have run : fX7_text 52 w = if gI w5 52 25 = 0 then some (nI tc, sI w5 52 3 (nI (tc + 1))) else some ((-100 : Int32) - gI w5 52 26, w5) := by
    have el : gI (sI w5 52 3 (nI (tc + 1))) 52 3 - 1 = nI tc := by rw [gI_sI, if_pos ⟨rfl, rfl⟩, nI_pred]
    have e2 : fX7_text_14 52 FU (0 : Int32) w = fX7_text_14 52 (fu + 1) (nI tp) w2 := e2
    unfold fX7_text
    rw [if_neg n6, e2, fX7_text_14]
    dsimp only
    rw [k6, if_pos hle, dg_52_2 hS2, k3, grd_t (by rw [ln_54]; exact vin_nI h6 (by omega)), lw_e, lw_e, hw4', g3, e5, bnd_s]
    by_cases h25 : gI w5 52 25 = 0
    · rw [if_pos h25, if_pos h25, k35, nI_1, lw_e, el]
    · rw [if_neg h25, if_neg h25]
  refine ⟨w5, fun v => ⟨fun h25 hv => ⟨_, rfl, by rw [run, if_pos h25, hv]⟩, fun h25 hv => by rw [run, if_neg h25, hv]⟩, ⟨v, envM w4, red⟩, ?_, ?_, fun k hk => ?_, c4.tr (c5.mono (fun a k z => Or.inr (Or.inr ⟨z.1, Or.inr z.2⟩)))⟩
  · rw [c5.I (by unfold PR; omega), hw4, gI_sI, if_pos ⟨rfl, rfl⟩]
  · rw [c5.I (by unfold PR; omega)]; exact g54
  · rw [c5.I (by unfold PR; omega)]; exact g53 k hk
theorem text_agree : Agree JJ (fX6_text 0) (fX7_text 52) := by
  rintro w ⟨m, tc, rl, tp, h⟩
  have h3 := h.2.2.1
  have h8 := h.2.2.2.2.2.2.2.1
  have h9 := h.2.2.2.2.2.2.2.2.1
  have hS := h.S
  by_cases h6 : tc < 6
  · have hlt : gI w 0 6 < (6 : Int32) := by rw [h3.2.1]; exact nI_lt (b := 6) h6 (by omega)
    have htp := h8.1
    have hb : ∀ k, k < tp → 0 ≤ gI w 6 k := fun k hk => by
      obtain ⟨v, hv, e⟩ := (h8.2.2.2 k hk).2
      rw [e]
      exact nI_pos' (by omega)
    obtain ⟨rv, w1, f1, z1, into, c1⟩ := into_ev (b := gI w 6) (z := tp) (w := w) ⟨hS, htp, h8.2.1, fun k _ => rfl⟩ h6
    have p : ∀ {i k : Nat}, PI tc i k → i = 5 ∨ (24 + 3 * tc ≤ i ∧ i ≤ 26 + 3 * tc) := fun {i k} z => by unfold PI PTx at z; omega
    have n1 : ∀ {i k : Nat}, ¬ (i = 5 ∨ (24 + 3 * tc ≤ i ∧ i ≤ 26 + 3 * tc)) → gI w1 i k = gI w i k := fun hn => c1.I (fun z => hn (p z))
    have hS1 := c1.St hS
    have e4 : gR w 4 (nI tc).toNatClampNeg = some (24 + 3 * tc) := by rw [nI_clamp (by omega)]; exact st_tx hS h6
    have pre : ∀ F : Option (Int32 × Wd), (if rv = (-1 : Int32) then
      (lw (sI w1 0 6 ((gI w1 0 6) + (1 : Int32))) (fun w_5 => some ((gI w_5 0 6) - (1 : Int32), w_5)))
    else
      (some ((-100 : Int32) - rv, w1))) = F → fX6_text 0 w = F := by
      intro F hF
      unfold fX6_text
      rw [if_pos hlt, dg_0_5 hS, h3.2.1, grd_t (by rw [ln_4]; exact vin_nI h6 (by omega)), dg_0_8 hS, e4, f1, bnd_s]
      exact hF
    -- the model, over any world that the class leaves
    have md : ∀ w9 : Wd, Ch (fun i k => PI tc i k ∨ (i = 0 ∧ k = 6)) w w9 → _ := fun w9 c9 => textM (b := gI w 6) (w := w9) (tc := tc) (tp := tp) (c9.St hS) h6 (by rw [c9.I (fun z => by have := z.imp p id; omega)]; exact h3.2.2) (by rw [c9.I (fun z => by have := z.imp p id; omega)]; exact h8.2.2.1) htp hb (fun k hk => by rw [c9.I (fun z => by have := z.imp p id; omega)]; exact (h8.2.2.2 k hk).1.symm)
    have old : ∀ (w9 : Wd), Ch (fun i k => (PI tc i k ∨ (i = 0 ∧ k = 6)) ∨ QT tc i k ∨ (i = 52 ∧ k = 3)) w w9 → ∀ t, t < tc → ∃ ev, TEv w9 t ev ∧ MEv w9 t ev := by
      intro w9 c9 t ht
      obtain ⟨ev, y1, y2⟩ := h9 t ht
      have q : ∀ {i k : Nat}, ((24 ≤ i ∧ i < 24 + 3 * tc) ∨ (i = 53 ∧ k < 160 * tc) ∨ (i = 54 ∧ k < tc)) → gI w9 i k = gI w i k := fun {i k} hn => c9.I (fun z => by
        rcases z with (z | z) | z | z
        · have := p z
          omega
        · omega
        · unfold QT at z
          omega
        · omega)
      exact ⟨ev, y1.eq (fun k => q (by omega)) (fun k => q (by omega)) (fun k => q (by omega)), y2.eq (fun k hk => q (by omega)) (q (by omega))⟩
    match hx : pText (gI w 6) tp, into with
    | .inl f, into =>
      obtain ⟨hrv, hf⟩ : rv = nI f ∧ f ≤ 160 := into
      obtain ⟨w5, run, ⟨v, p0, red⟩, a6, a54, a53, c5⟩ := md w1 (c1.mono (fun a b z => Or.inl z))
      rw [hx] at red
      obtain ⟨r25, r26⟩ : gI w5 52 25 = 1 ∧ gI w5 52 26 = nI f := red
      have e7 := (run ((-100 : Int32) - nI f)).2 (by rw [r25]; decide) (by rw [r26])
      have cc : Ch (fun i k => (PI tc i k ∨ (i = 0 ∧ k = 6)) ∨ QT tc i k ∨ (i = 52 ∧ k = 3)) w w5 := (c1.mono (fun a b z => Or.inl (Or.inl z))).tr (c5.mono (fun a b z => Or.inr (Or.inl z)))
      have nq : ∀ {i k : Nat}, ¬ QT tc i k → gI w5 i k = gI w1 i k := fun hn => c5.I hn
      refine ⟨(-100 : Int32) - nI f, w1, w5, pre _ (by rw [hrv, if_neg (m1_nI (by omega))]), e7, m, tc, rl, 0, h.texts h6 cc (fun i k z => ?_) ⟨h3.1, ?_, ?_⟩ (Nat.le_refl _) ⟨?_, a6⟩ (old w5 cc)⟩
      · rcases z with (z | z) | z | z
        · have := p z
          omega
        · omega
        · unfold QT at z
          omega
        · omega
      · rw [nq (by unfold QT; omega), n1 (by omega)]; exact h3.2.1
      · rw [nq (by unfold QT; omega), n1 (by omega)]; exact h3.2.2
      · rw [nq (by unfold QT; omega)]; exact z1
    | .inr (x0, x1, x2, ev), into =>
      obtain ⟨hrv, hT⟩ : rv = -1 ∧ TEv w1 tc ev := into
      have k6 : gI w1 0 6 = nI tc := by rw [n1 (by omega)]; exact h3.2.1
      have c1b : Ch (fun i k => PI tc i k ∨ (i = 0 ∧ k = 6)) w (sI w1 0 6 (nI (tc + 1))) := (c1.mono (fun a b z => Or.inl z)).tr (ch_sI (Or.inr ⟨rfl, rfl⟩))
      obtain ⟨w5, run, ⟨v, p0, red⟩, a6, a54, a53, c5⟩ := md (sI w1 0 6 (nI (tc + 1))) c1b
      rw [hx] at red
      obtain ⟨r25, -⟩ : gI w5 52 25 = 0 ∧ v = ev 0 p0 := red
      obtain ⟨w6, hw6, e7⟩ := (run (nI tc)).1 r25 rfl
      have c56 : Ch (fun i k => i = 52 ∧ k = 3) w5 w6 := by rw [hw6]; exact ch_sI ⟨rfl, rfl⟩
      have cc : Ch (fun i k => (PI tc i k ∨ (i = 0 ∧ k = 6)) ∨ QT tc i k ∨ (i = 52 ∧ k = 3)) w w6 := (c1b.mono (fun a b z => Or.inl z)).tr ((c5.mono (fun a b z => Or.inr (Or.inl z))).tr (c56.mono (fun a b z => Or.inr (Or.inr z))))
      have nq : ∀ {i k : Nat}, ¬ QT tc i k → ¬ (i = 52 ∧ k = 3) → ¬ (i = 0 ∧ k = 6) → gI w6 i k = gI w1 i k := fun hn h52 h0 => by rw [c56.I h52, c5.I hn, gI_sI, if_neg h0]
      have el : gI (sI w1 0 6 (nI (tc + 1))) 0 6 - 1 = nI tc := by rw [gI_sI, if_pos ⟨rfl, rfl⟩, nI_pred]
      refine ⟨nI tc, _, w6, pre _ (by rw [if_pos hrv, k6, nI_1, lw_e, el]), e7, m, tc + 1, rl, 0, h.texts h6 cc (fun i k z => ?_) ⟨by omega, ?_, ?_⟩ (by omega) ⟨?_, ?_⟩ (fun t ht => ?_)⟩
      · rcases z with (z | z) | z | z
        · have := p z
          omega
        · omega
        · unfold QT at z
          omega
        · omega
      · rw [c56.I (by omega), c5.I (by unfold QT; omega), gI_sI, if_pos ⟨rfl, rfl⟩]
      · rw [hw6, gI_sI, if_pos ⟨rfl, rfl⟩]
      · rw [nq (by unfold QT; omega) (by omega) (by omega)]; exact z1
      · rw [c56.I (by omega)]; exact a6
      · by_cases htt : t = tc
        · subst htt
          refine ⟨ev, hT.eq (fun k => nq (by unfold QT; omega) (by omega) (by omega)) (fun k => nq (by unfold QT; omega) (by omega) (by omega)) (fun k => nq (by unfold QT; omega) (by omega) (by omega)), mev_of htp h6 hb (by rw [c56.I (by omega)]; exact a54) (fun k hk => by rw [c56.I (by omega)]; exact a53 k hk) hx⟩
        · exact old w6 cc t (by omega)
  · have h66 : tc = 6 := by have := h3.1; omega
    subst h66
    refine ⟨-4, w, w, ?_, ?_, m, 6, rl, tp, h⟩
    · unfold fX6_text
      rw [h3.2.1, if_neg (by decide)]
    · unfold fX7_text
      rw [h3.2.2, if_pos (by decide)]
