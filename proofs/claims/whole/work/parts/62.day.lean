/-! a day of the road -/
theorem st_wkc {w : Wd} (h : St w) {j : Nat} (hj : j < 6) : gR w 3 (nI j).toNatClampNeg = some (18 + j) := by
  rw [nI_clamp (by omega)]
  exact st_wk h hj
theorem thC_eq {w w' : Wd} {h h' : Nat → Int32} {i : Nat} {told : Int32} (e0 : ∀ k, gI w' (18 + i) k = gI w (18 + i) k) (eh : h' = h) (ed : gI w' 0 4 = gI w 0 4) : thC w' h' i told = thC w h i told := by
  unfold thC
  rw [eh, ed, e0, e0, e0, e0, e0]
theorem thM_eq {w w' : Wd} {j : Nat} (e58 : ∀ q, q < 5 → gI w' 58 (5 * j + q) = gI w 58 (5 * j + q)) (e56 : gI w' 56 = gI w 56) (e57 : gI w' 57 j = gI w 57 j) (e7 : gI w' 52 7 = gI w 52 7) : thM w' j = thM w j := by
  unfold thM
  rw [e56, e57, e7, e58 1 (by omega), e58 2 (by omega), e58 3 (by omega), e58 4 (by omega)]
  have := e58 0 (by omega)
  rw [Nat.add_zero] at this
  rw [this]
theorem thC_ch {P : Nat → Nat → Prop} {w w' : Wd} (hc : Ch P w w') (hP : ∀ i k, P i k → i ≠ 1 ∧ ¬ (18 ≤ i ∧ i < 24) ∧ ¬ (i = 0 ∧ k = 4)) {j : Nat} (hj : j < 6) : thC w' (gI w' 1) j (gI w' (18 + j) 3) = thC w (gI w 1) j (gI w (18 + j) 3) := by
  rw [hc.I (i := 18 + j) (k := 3) (fun z => (hP _ _ z).2.1 ⟨by omega, by omega⟩)]
  exact thC_eq (fun k => hc.I (fun z => (hP _ _ z).2.1 ⟨by omega, by omega⟩)) (funext (fun k => hc.I (fun z => (hP _ _ z).1 rfl))) (hc.I (fun z => (hP _ _ z).2.2 ⟨rfl, rfl⟩))
def QC (i k : Nat) : Prop := PT i k ∨ (18 ≤ i ∧ i < 24 ∧ (k = 4 ∨ k = 5)) ∨ (i = 0 ∧ k = 4)
def QM (i k : Nat) : Prop := PG i k ∨ i = 58 ∨ (i = 52 ∧ k = 7)
theorem goI_b (ev : Ev) (th : Nat → Int32) : (if goI ev th = 0 then (0 : Int32) else 1) = goI ev th := by
  rcases goI_bit ev th with h | h
  · rw [if_pos h, h]
  · rw [if_neg (by rw [h]; decide), h]
theorem dayC_loop {rl M : Nat} {ev : Ev} (hM : M ≤ 6) {T : Nat → Nat → Int32} : ∀ (n i fu : Nat) (w : Wd) (a : Int32), Ru w rl ev → gI w 0 3 = nI M → (∀ j, i ≤ j → j < M → thC w (gI w 1) j (gI w (18 + j) 3) = T j) → i + n = M → n < fu → ∃ w', fX6_day_17 0 fu a (nI i) w = some (abS (fun j => goI ev (T j)) n i a, w') ∧ Ch QC w w' ∧ gI w' 0 4 = gI w 0 4 + 1 ∧ ∀ j, j < M → ∀ q, gI w' (18 + j) q = if i ≤ j ∧ q = 4 then dayS ev (T j) 4 else if i ≤ j ∧ q = 5 then dayS ev (T j) 5 else gI w (18 + j) q := by
  intro n
  induction n with
  | zero =>
    intro i fu w a h h3 hT hi hf
    obtain ⟨fu, rfl⟩ : ∃ z, fu = z + 1 := ⟨fu - 1, by omega⟩
    have h1 : nI M ≤ nI i := nI_le (by omega) (by omega)
    refine ⟨sI w 0 4 (gI w 0 4 + 1), ?_, ch_sI (Or.inr (Or.inr ⟨rfl, rfl⟩)), by rw [gI_sI, if_pos ⟨rfl, rfl⟩], fun j hj q => ?_⟩
    · rw [fX6_day_17]
      dsimp only
      rw [h3, if_pos h1, lw_e]
      rfl
    · rw [if_neg (by omega), if_neg (by omega), gI_sI, if_neg (by omega)]
  | succ n ih =>
    intro i fu w a h h3 hT hi hf
    obtain ⟨fu, rfl⟩ : ∃ z, fu = z + 1 := ⟨fu - 1, by omega⟩
    have h1 : ¬ nI M ≤ nI i := nI_ge (by omega) (by omega)
    have ci : (nI i).toNatClampNeg = i := nI_clamp (by omega)
    have hS := h.1
    obtain ⟨w1, f1, tc1, c1⟩ := think_ev h (i := i) (by omega)
    rw [hT i (by omega) (by omega)] at tc1
    obtain ⟨w2, f2, tc2, c2⟩ := pass_ev tc1
    have c12 : Ch PT w w2 := c1.tr (c2.mono PD_PT)
    obtain ⟨w3, hw3⟩ : ∃ z, z = sI w2 (18 + i) 4 (dayS ev (T i) 4) := ⟨_, rfl⟩
    obtain ⟨w4, hw4⟩ : ∃ z, z = sI w3 (18 + i) 5 (dayS ev (T i) 5) := ⟨_, rfl⟩
    have hS2 := tc2.1
    have hS3 : St w3 := by rw [hw3]; exact St_sI hS2
    have g4 : ∀ a b, gI w4 a b = if a = 18 + i ∧ b = 5 then dayS ev (T i) 5 else if a = 18 + i ∧ b = 4 then dayS ev (T i) 4 else gI w2 a b := fun a b => by rw [hw4, gI_sI, hw3, gI_sI]
    have c34 : Ch (fun a b => 18 ≤ a ∧ a < 24 ∧ (b = 4 ∨ b = 5)) w2 w4 := by
      rw [hw4, hw3]
      exact (ch_sI ⟨by omega, by omega, Or.inl rfl⟩).tr (ch_sI ⟨by omega, by omega, Or.inr rfl⟩)
    have c4 : Ch QC w w4 := (c12.mono (fun a b z => Or.inl z)).tr (c34.mono (fun a b z => Or.inr (Or.inl z)))
    have c4' : Ch (fun a b => PT a b ∨ (18 ≤ a ∧ a < 24 ∧ (b = 4 ∨ b = 5))) w w4 := (c12.mono (fun a b z => Or.inl z)).tr (c34.mono (fun a b z => Or.inr z))
    have hT4 : ∀ j, i + 1 ≤ j → j < M → thC w4 (gI w4 1) j (gI w4 (18 + j) 3) = T j := by
      intro j hj hjM
      rw [← hT j (by omega) hjM]
      have q : ∀ k, gI w4 (18 + j) k = gI w (18 + j) k := fun k => by
        rw [g4, if_neg (by omega), if_neg (by omega), c12.I (by unfold PT; omega)]
      rw [q 3]
      exact thC_eq q (funext (fun k => c4'.I (by unfold PT; omega))) (c4'.I (by unfold PT; omega))
    obtain ⟨w5, e5, c5, d5, y5⟩ := ih (i + 1) fu w4 (a + goI ev (T i)) (h.ch c4' (fun a b z => by unfold PT at z; omega)) (by rw [c4'.I (by unfold PT; omega)]; exact h3) hT4 (by omega) (by omega)
    refine ⟨w5, ?_, c4.tr c5, by rw [d5, c4'.I (by unfold PT; omega)], fun j hj q => ?_⟩
    · rw [fX6_day_17]
      dsimp only
      rw [h3, if_neg h1, dg_0_2 hS, grd_t (by rw [ln_3]; exact vin_nI (by omega) (by omega)), st_wkc hS (by omega), f1, bnd_s, dg_0_9 tc1.1, f2, bnd_s, bit_ev, bnd_s, goI_b, lt_e, dg_0_2 hS2, grd_t (by rw [ln_3]; exact vin_nI (by omega) (by omega)), dg_0_9 hS2, st_wkc hS2 (by omega), dr_at hS2.1 (kd_wk (by omega)), lw_e, tc2.2.2.2.2 4 (by omega), ← hw3, dg_0_2 hS3, grd_t (by rw [ln_3]; exact vin_nI (by omega) (by omega)), dg_0_9 hS3, st_wkc hS3 (by omega), dr_at hS3.1 (kd_wk (by omega)), lw_e]
      have e50 : gI w3 50 5 = dayS ev (T i) 5 := by rw [hw3, gI_sI, if_neg (by omega)]; exact tc2.2.2.2.2 5 (by omega)
      rw [e50, ← hw4, nI_1]
      exact e5
    · rw [y5 j hj q, g4]
      by_cases hji : j = i
      · subst hji
        by_cases q4 : q = 4
        · rw [if_neg (by omega), if_neg (by omega), if_neg (by omega), if_pos ⟨rfl, q4⟩, if_pos ⟨Nat.le_refl _, q4⟩]
        · by_cases q5 : q = 5
          · rw [if_neg (by omega), if_neg (by omega), if_pos ⟨rfl, q5⟩, if_neg (by omega), if_pos ⟨Nat.le_refl _, q5⟩]
          · rw [if_neg (by omega), if_neg (by omega), if_neg (by omega), if_neg (by omega), if_neg (by omega), if_neg (by omega)]
            exact c12.I (by unfold PT; omega)
      · rw [if_neg (show ¬ (18 + j = 18 + i ∧ q = 5) by omega), if_neg (show ¬ (18 + j = 18 + i ∧ q = 4) by omega), c12.I (by unfold PT; omega)]
        by_cases hij : i ≤ j
        · have : i + 1 ≤ j := by omega
          simp only [hij, this]
        · have : ¬ i + 1 ≤ j := by omega
          simp only [hij, this]
theorem dayM_loop {rl M : Nat} {ev : Ev} (hM : M ≤ 6) {T : Nat → Nat → Int32} : ∀ (n i fu : Nat) (w : Wd) (a : Int32), Rm w rl ev → gI w 52 11 = nI M → (∀ j, i ≤ j → j < M → thM w j = T j ∧ RT (T j)) → i + n = M → n < fu → ∃ w', fX7_day_17 52 fu a (nI i) w = some (abS (fun j => goI ev (T j)) n i a, w') ∧ Ch QM w w' ∧ gI w' 52 7 = gI w 52 7 + 1 ∧ ∀ j, j < M → ∀ q, q < 5 → gI w' 58 (5 * j + q) = if i ≤ j ∧ q = 3 then dayS ev (T j) 4 else if i ≤ j ∧ q = 4 then dayS ev (T j) 5 else gI w 58 (5 * j + q) := by
  intro n
  induction n with
  | zero =>
    intro i fu w a h h3 hT hi hf
    obtain ⟨fu, rfl⟩ : ∃ z, fu = z + 1 := ⟨fu - 1, by omega⟩
    have h1 : nI M ≤ nI i := nI_le (by omega) (by omega)
    refine ⟨sI w 52 7 (gI w 52 7 + 1), ?_, ch_sI (Or.inr (Or.inr ⟨rfl, rfl⟩)), by rw [gI_sI, if_pos ⟨rfl, rfl⟩], fun j hj q hq => ?_⟩
    · rw [fX7_day_17]
      dsimp only
      rw [h3, if_pos h1, lw_e]
      rfl
    · rw [if_neg (by omega), if_neg (by omega), gI_sI, if_neg (by omega)]
  | succ n ih =>
    intro i fu w a h h3 hT hi hf
    obtain ⟨fu, rfl⟩ : ∃ z, fu = z + 1 := ⟨fu - 1, by omega⟩
    have h1 : ¬ nI M ≤ nI i := nI_ge (by omega) (by omega)
    obtain ⟨hTi, hR⟩ := hT i (by omega) (by omega)
    obtain ⟨w1, f1, t1, c1⟩ := begins_ev h (p := i) (by omega)
    rw [hTi] at t1
    obtain ⟨w2, f2, t2, c2⟩ := goes_ev t1 hR
    have c12 : Ch PG w w2 := (c1.mono PB_PG).tr c2
    obtain ⟨w3, hw3⟩ : ∃ z, z = sI w2 58 (5 * i + 3) (dayS ev (T i) 4) := ⟨_, rfl⟩
    obtain ⟨w4, hw4⟩ : ∃ z, z = sI w3 58 (5 * i + 4) (dayS ev (T i) 5) := ⟨_, rfl⟩
    have hS2 := t2.1
    have hS3 : St w3 := by rw [hw3]; exact St_sI hS2
    have g4 : ∀ a b, gI w4 a b = if a = 58 ∧ b = 5 * i + 4 then dayS ev (T i) 5 else if a = 58 ∧ b = 5 * i + 3 then dayS ev (T i) 4 else gI w2 a b := fun a b => by rw [hw4, gI_sI, hw3, gI_sI]
    have c34 : Ch (fun a b => a = 58) w2 w4 := by
      rw [hw4, hw3]
      exact (ch_sI (P := fun a b => a = 58) rfl).tr (ch_sI (P := fun a b => a = 58) rfl)
    have c4' : Ch (fun a b => PG a b ∨ a = 58) w w4 := (c12.mono (fun a b z => Or.inl z)).tr (c34.mono (fun a b z => Or.inr z))
    have c4 : Ch QM w w4 := c4'.mono (fun a b z => z.elim (fun y => Or.inl y) (fun y => Or.inr (Or.inl y)))
    have n3 : (5 : Int32) * nI i + 3 = nI (5 * i + 3) := by rw [m5]; exact nI_add (5 * i) 3
    have n4 : (5 : Int32) * nI i + 4 = nI (5 * i + 4) := by rw [m5]; exact nI_add (5 * i) 4
    have k3 : (nI (5 * i + 3)).toNatClampNeg = 5 * i + 3 := nI_clamp (by omega)
    have k4 : (nI (5 * i + 4)).toNatClampNeg = 5 * i + 4 := nI_clamp (by omega)
    have hT4 : ∀ j, i + 1 ≤ j → j < M → thM w4 j = T j ∧ RT (T j) := by
      intro j hj hjM
      obtain ⟨u1, u2⟩ := hT j (by omega) hjM
      refine ⟨?_, u2⟩
      rw [← u1]
      exact thM_eq (fun q hq => by rw [g4, if_neg (by omega), if_neg (by omega), c12.I (by unfold PG; omega)]) (funext (fun k => c4'.I (by unfold PG; omega))) (c4'.I (by unfold PG; omega)) (c4'.I (by unfold PG; omega))
    obtain ⟨w5, e5, c5, d5, y5⟩ := ih (i + 1) fu w4 (a + goI ev (T i)) (h.ch c4' (fun a b z => by unfold PG at z; omega)) (by rw [c4'.I (by unfold PG; omega)]; exact h3) hT4 (by omega) (by omega)
    refine ⟨w5, ?_, c4.tr c5, by rw [d5, c4'.I (by unfold PG; omega)], fun j hj q hq => ?_⟩
    · have f44 : ∀ y : Int32, y = goI ev (T i) → fX7_day_44 (fX7_day_17 52 fu) 52 (nI i) y a w2 = some (abS (fun j => goI ev (T j)) (n + 1) i a, w5) := by
        rintro y rfl
        unfold fX7_day_44
        rw [lt_e, dg_52_10 hS2, n3, grd_t (by rw [ln_58]; exact vin_nI (by omega) (by omega)), k3, lw_e, t2.step, ← hw3, dg_52_10 hS3, n4, grd_t (by rw [ln_58]; exact vin_nI (by omega) (by omega)), k4, lw_e]
        have e30 : gI w3 52 30 = dayS ev (T i) 5 := by rw [hw3, gI_sI, if_neg (by omega)]; exact t2.worn
        rw [e30, ← hw4, nI_1]
        exact e5
      rw [fX7_day_17]
      dsimp only
      rw [h3, if_neg h1, f1, bnd_s, f2, bnd_s]
      rcases goI_bit ev (T i) with hg | hg
      · rw [if_pos hg]; exact f44 _ hg.symm
      · rw [if_neg (by rw [hg]; decide)]; exact f44 _ hg.symm
    · rw [y5 j hj q hq, g4]
      by_cases hji : j = i
      · subst hji
        by_cases q4 : q = 3
        · rw [if_neg (by omega), if_neg (by omega), if_neg (by omega), if_pos ⟨rfl, by omega⟩, if_pos ⟨Nat.le_refl _, q4⟩]
        · by_cases q5 : q = 4
          · rw [if_neg (by omega), if_neg (by omega), if_pos ⟨rfl, by omega⟩, if_neg (by omega), if_pos ⟨Nat.le_refl _, q5⟩]
          · rw [if_neg (by omega), if_neg (by omega), if_neg (by omega), if_neg (by omega), if_neg (by omega), if_neg (by omega)]
            exact c12.I (by unfold PG; omega)
      · rw [if_neg (show ¬ (58 = 58 ∧ 5 * j + q = 5 * i + 4) by omega), if_neg (show ¬ (58 = 58 ∧ 5 * j + q = 5 * i + 3) by omega), c12.I (by unfold PG; omega)]
        by_cases hij : i ≤ j
        · have : i + 1 ≤ j := by omega
          simp only [hij, this]
        · have : ¬ i + 1 ≤ j := by omega
          simp only [hij, this]
theorem day_agree : Agree JJ (fX6_day 0) (fX7_day 52) := by
  rintro w ⟨m, tc, rl, tp, h⟩
  obtain ⟨d1, v, hv, ed⟩ := h.dy
  have m6 := h.m6
  by_cases hlt : v < 999
  · obtain ⟨ev, r1, r2⟩ := h.ru
    have h1 : gI w 0 4 < (999 : Int32) := by rw [ed]; exact nI_lt (b := 999) hlt (by omega)
    obtain ⟨w1, e1, c1, x1, y1⟩ := dayC_loop m6 (T := thM w) m 0 FU w 0 r1 h.c3 (fun j _ hj => (h.th hj).1) (by omega) (show m < 2000 by omega)
    have q1 : ∀ i k, QC i k → i ≠ 56 ∧ i ≠ 57 ∧ i ≠ 58 ∧ ¬ (i = 52 ∧ k = 7) := fun i k z => by unfold QC PT at z; omega
    obtain ⟨w2, e2, c2, x2, y2⟩ := dayM_loop m6 (T := thM w) m 0 FU w1 0 (r2.ch c1 (fun i k z => by unfold QC PT at z; omega)) (by rw [c1.I (by unfold QC PT; omega)]; exact h.c11) (fun j _ hj => ⟨thM_ch c1 q1 j, (h.th hj).2⟩) (by omega) (show m < 2000 by omega)
    have hne : ¬ gI w1 52 7 = (999 : Int32) := by
      rw [c1.I (by unfold QC PT; omega), ← d1, ed]
      exact nI_ne (b := 999) (by omega) (by omega) (by omega)
    have cc : Ch (fun a b => SC a b ∨ (a = 0 ∧ b = 4) ∨ (a = 52 ∧ b = 7) ∨ a = 1 ∨ a = 56 ∨ (18 ≤ a ∧ a < 24) ∨ a = 58) w w2 := (c1.mono (fun a b z => by unfold QC PT at z; unfold SC; omega)).tr (c2.mono (fun a b z => by unfold QM PG at z; unfold SC; omega))
    refine ⟨abS (fun j => goI ev (thM w j)) m 0 0, w1, w2, ?_, ?_, m, tc, rl, tp, h.body cc (fun a b z => z) ?_ ?_ ?_⟩
    · unfold fX6_day
      rw [if_pos h1]
      exact e1
    · unfold fX7_day
      rw [if_neg hne]
      exact e2
    · rw [c2.I (by unfold QM PG; omega), x1, x2, c1.I (by unfold QC PT; omega), ← d1, ed, nI_1]
      exact ⟨rfl, v + 1, by omega, rfl⟩
    · intro t ht
      rw [c2.I (by unfold QM PG; omega), c1.I (by unfold QC PT; omega), c2.I (by unfold QM PG; omega), c1.I (by unfold QC PT; omega)]
      exact h.hv t ht
    · intro j hj
      obtain ⟨z0, z1, z2⟩ := Wk_iff.mp (h.wk j hj)
      have a1 : ∀ q, gI w2 (18 + j) q = if q = 4 then dayS ev (thM w j) 4 else if q = 5 then dayS ev (thM w j) 5 else gI w (18 + j) q := fun q => by
        rw [c2.I (by unfold QM PG; omega), y1 j hj q]
        simp only [Nat.zero_le, true_and]
      have a2 : ∀ q, q < 5 → gI w2 58 (5 * j + q) = if q = 3 then dayS ev (thM w j) 4 else if q = 4 then dayS ev (thM w j) 5 else gI w 58 (5 * j + q) := fun q hq => by
        rw [y2 j hj q hq, c1.I (by unfold QC PT; omega)]
        simp only [Nat.zero_le, true_and]
      have e57 : gI w2 57 j = gI w 57 j := by rw [c2.I (by unfold QM PG; omega), c1.I (by unfold QC PT; omega)]
      obtain ⟨n, s, o, k1, k2, k3, k4, k5, k6⟩ := (h.th hj).2.d (ev := ev)
      refine Wk_iff.mpr ⟨?_, ?_, fun q hq => ?_⟩
      · rw [a1, if_neg (by omega), if_neg (by omega), e57]; exact z0
      · rw [a1, if_neg (by omega), if_neg (by omega)]; exact z1
      · rw [a1, a2 q hq]
        by_cases q3 : q = 3
        · subst q3
          rw [if_pos rfl, if_pos rfl]
          exact ⟨rfl, s, k2, k5⟩
        · by_cases q4 : q = 4
          · subst q4
            rw [if_neg (by omega), if_pos rfl, if_neg (by omega), if_pos rfl]
            exact ⟨rfl, o, k3, k6⟩
          · rw [if_neg (by omega), if_neg (by omega), if_neg (by omega), if_neg (by omega)]
            exact z2 q hq
  · have hv9 : v = 999 := by omega
    subst hv9
    refine ⟨-3, w, w, ?_, ?_, m, tc, rl, tp, h⟩
    · unfold fX6_day
      rw [ed, if_neg (by decide)]
    · unfold fX7_day
      rw [← d1, ed, if_pos (by decide)]
/-! counting -/
theorem socC_loop {rl M : Nat} {ev : Ev} (hM : M ≤ 6) {T : Nat → Nat → Int32} : ∀ (n i fu : Nat) (w : Wd) (a : Int32), Ru w rl ev → gI w 0 3 = nI M → (∀ j, i ≤ j → j < M → thC w (gI w 1) j (gI w (18 + j) 3) = T j) → i + n = M → n < fu → ∃ w', fX6_countInSocks_4 0 fu a (nI i) w = some (abS (fun j => if sockS ev (T j) = 0 then 0 else 1) n i a, w') ∧ Ch PT w w' := by
  intro n
  induction n with
  | zero =>
    intro i fu w a h h3 hT hi hf
    obtain ⟨fu, rfl⟩ : ∃ z, fu = z + 1 := ⟨fu - 1, by omega⟩
    have h1 : nI M ≤ nI i := nI_le (by omega) (by omega)
    rw [fX6_countInSocks_4]
    dsimp only
    rw [h3, if_pos h1]
    exact ⟨w, rfl, Ch.rf⟩
  | succ n ih =>
    intro i fu w a h h3 hT hi hf
    obtain ⟨fu, rfl⟩ : ∃ z, fu = z + 1 := ⟨fu - 1, by omega⟩
    have h1 : ¬ nI M ≤ nI i := nI_ge (by omega) (by omega)
    have ci : (nI i).toNatClampNeg = i := nI_clamp (by omega)
    have hS := h.1
    obtain ⟨w1, f1, tc1, c1⟩ := think_ev h (i := i) (by omega)
    rw [hT i (by omega) (by omega)] at tc1
    obtain ⟨w2, f2, c2⟩ := sock_ev tc1
    have c12 : Ch PT w w2 := c1.tr (c2.mono PT51)
    obtain ⟨w5, e5, c5⟩ := ih (i + 1) fu w2 (a + (if sockS ev (T i) = 0 then 0 else 1)) (h.ch c12 (fun a b z => by unfold PT at z; omega)) (by rw [c12.I (by unfold PT; omega)]; exact h3) (fun j hj hjM => by rw [thC_ch c12 (fun a b z => by unfold PT at z; omega) (by omega)]; exact hT j (by omega) hjM) (by omega) (by omega)
    refine ⟨w5, ?_, c12.tr c5⟩
    rw [fX6_countInSocks_4]
    dsimp only
    rw [h3, if_neg h1, dg_0_2 hS, grd_t (by rw [ln_3]; exact vin_nI (by omega) (by omega)), st_wkc hS (by omega), f1, bnd_s, dg_0_9 tc1.1, f2, bnd_s, bit_ev, bnd_s, lt_e, nI_1]
    exact e5
theorem stpC_loop {rl M : Nat} {ev : Ev} (hM : M ≤ 6) {T : Nat → Nat → Int32} : ∀ (n i fu : Nat) (w : Wd) (a : Int32), Ru w rl ev → gI w 0 3 = nI M → (∀ j, i ≤ j → j < M → thC w (gI w 1) j (gI w (18 + j) 3) = T j) → i + n = M → n < fu → ∃ w', fX6_countStopped_4 0 fu a (nI i) w = some (abS (fun j => if stopS ev (T j) = 0 then 0 else 1) n i a, w') ∧ Ch PT w w' := by
  intro n
  induction n with
  | zero =>
    intro i fu w a h h3 hT hi hf
    obtain ⟨fu, rfl⟩ : ∃ z, fu = z + 1 := ⟨fu - 1, by omega⟩
    have h1 : nI M ≤ nI i := nI_le (by omega) (by omega)
    rw [fX6_countStopped_4]
    dsimp only
    rw [h3, if_pos h1]
    exact ⟨w, rfl, Ch.rf⟩
  | succ n ih =>
    intro i fu w a h h3 hT hi hf
    obtain ⟨fu, rfl⟩ : ∃ z, fu = z + 1 := ⟨fu - 1, by omega⟩
    have h1 : ¬ nI M ≤ nI i := nI_ge (by omega) (by omega)
    have ci : (nI i).toNatClampNeg = i := nI_clamp (by omega)
    have hS := h.1
    obtain ⟨w1, f1, tc1, c1⟩ := think_ev h (i := i) (by omega)
    rw [hT i (by omega) (by omega)] at tc1
    obtain ⟨w2, f2, c2⟩ := stop_ev tc1
    have c12 : Ch PT w w2 := c1.tr (c2.mono PT51)
    obtain ⟨w5, e5, c5⟩ := ih (i + 1) fu w2 (a + (if stopS ev (T i) = 0 then 0 else 1)) (h.ch c12 (fun a b z => by unfold PT at z; omega)) (by rw [c12.I (by unfold PT; omega)]; exact h3) (fun j hj hjM => by rw [thC_ch c12 (fun a b z => by unfold PT at z; omega) (by omega)]; exact hT j (by omega) hjM) (by omega) (by omega)
    refine ⟨w5, ?_, c12.tr c5⟩
    rw [fX6_countStopped_4]
    dsimp only
    rw [h3, if_neg h1, dg_0_2 hS, grd_t (by rw [ln_3]; exact vin_nI (by omega) (by omega)), st_wkc hS (by omega), f1, bnd_s, dg_0_9 tc1.1, f2, bnd_s, bit_ev, bnd_s, lt_e, nI_1]
    exact e5
theorem cntM_loop {rl M c : Nat} {ev : Ev} (hM : M ≤ 6) (hcc : c = 2 ∨ c = 3) {T : Nat → Nat → Int32} : ∀ (n i fu : Nat) (w : Wd) (a : Int32), Rm w rl ev → gI w 52 11 = nI M → (∀ j, i ≤ j → j < M → thM w j = T j) → i + n = M → n < fu → ∃ w', fX7_count_81 52 fu (nI c) a (nI i) w = some (abS (fun j => if (if c = 2 then sockS ev (T j) else stopS ev (T j)) = 0 then 0 else 1) n i a, w') ∧ Ch PG w w' := by
  intro n
  induction n with
  | zero =>
    intro i fu w a h h3 hT hi hf
    obtain ⟨fu, rfl⟩ : ∃ z, fu = z + 1 := ⟨fu - 1, by omega⟩
    have h1 : nI M ≤ nI i := nI_le (by omega) (by omega)
    rw [fX7_count_81]
    dsimp only
    rw [h3, if_pos h1]
    exact ⟨w, rfl, Ch.rf⟩
  | succ n ih =>
    intro i fu w a h h3 hT hi hf
    obtain ⟨fu, rfl⟩ : ∃ z, fu = z + 1 := ⟨fu - 1, by omega⟩
    have h1 : ¬ nI M ≤ nI i := nI_ge (by omega) (by omega)
    obtain ⟨w1, f1, t1, c1⟩ := begins_ev h (p := i) (by omega)
    rw [hT i (by omega) (by omega)] at t1
    have q1 : ∀ i k, PG i k → i ≠ 56 ∧ i ≠ 57 ∧ i ≠ 58 ∧ ¬ (i = 52 ∧ k = 7) := fun i k z => by unfold PG at z; omega
    have nxt : ∀ (w2 : Wd) (b : Int32), Ch PG w w2 → b = (if (if c = 2 then sockS ev (T i) else stopS ev (T i)) = 0 then 0 else 1) → ∃ w', fX7_count_81 52 fu (nI c) (a + b) (nI (i + 1)) w2 = some (abS (fun j => if (if c = 2 then sockS ev (T j) else stopS ev (T j)) = 0 then 0 else 1) (n + 1) i a, w') ∧ Ch PG w w' := by
      rintro w2 b c2 rfl
      obtain ⟨w5, e5, c5⟩ := ih (i + 1) fu w2 (a + (if (if c = 2 then sockS ev (T i) else stopS ev (T i)) = 0 then 0 else 1)) (h.ch c2 (fun a b z => by unfold PG at z; omega)) (by rw [c2.I (by unfold PG; omega)]; exact h3) (fun j hj hjM => by rw [thM_ch c2 q1]; exact hT j (by omega) hjM) (by omega) (by omega)
      exact ⟨w5, e5, c2.tr c5⟩
    rw [fX7_count_81]
    dsimp only
    rw [h3, if_neg h1, f1, bnd_s]
    unfold fX7_count_123 fX7_count_119 fX7_count_124
    rcases hcc with rfl | rfl
    · obtain ⟨w2, f2, c2⟩ := msock_ev t1
      have c12 : Ch PG w w2 := (c1.mono PB_PG).tr (c2.mono PA_PG)
      rw [if_pos (by decide), f2, bnd_s, nI_1]
      by_cases hs : sockS ev (T i) = 0
      · rw [if_pos hs, lt_e]
        exact nxt w2 0 c12 (by rw [if_pos rfl, if_pos hs])
      · rw [if_neg hs, lt_e]
        exact nxt w2 1 c12 (by rw [if_pos rfl, if_neg hs])
    · obtain ⟨w2, f2, c2⟩ := mstop_ev t1
      have c12 : Ch PG w w2 := (c1.mono PB_PG).tr (c2.mono PA_PG)
      rw [if_neg (by decide), f2, bnd_s, nI_1]
      by_cases hs : stopS ev (T i) = 0
      · rw [if_pos hs, lt_e]
        exact nxt w2 0 c12 (by rw [if_neg (show ¬ (3 : Nat) = 2 by omega), if_pos hs])
      · rw [if_neg hs, lt_e]
        exact nxt w2 1 c12 (by rw [if_neg (show ¬ (3 : Nat) = 2 by omega), if_neg hs])
theorem count_agree (a0 : Int32) : Agree JJ (fX6_count 0 a0) (fX7_count 52 a0) := by
  rintro w ⟨m, tc, rl, tp, h⟩
  have e6 : (6 : Int32).toInt64 = (6 : Int64) := by decide
  have J : JJ w := ⟨m, tc, rl, tp, h⟩
  have m6 := h.m6
  have h3 := h.2.2.1
  have h4 := h.2.2.2.1
  have h8 := h.2.2.2.2.2.2.2.1
  by_cases hd : 0 ≤ a0 ∧ a0 ≤ (6 : Int32)
  · obtain ⟨k, hk, rfl⟩ := (in0n (n := 6) (by omega)).mp hd
    have hc : k = 0 ∨ k = 1 ∨ k = 2 ∨ k = 3 ∨ k = 4 ∨ k = 5 ∨ k = 6 := by omega
    have nof : nI k = nI k := rfl
    rcases hc with rfl | rfl | rfl | rfl | rfl | rfl | rfl
    · refine ⟨nI m, w, w, ?_, ?_, J⟩
      · unfold fX6_count
        rw [if_pos (by decide), h.c3]
      · unfold fX7_count fX7_count_25
        rw [in0l e6, bnd_s, w01, if_pos hd, if_pos (by decide), if_pos (by decide), h.c11]
    · refine ⟨gI w 0 4, w, w, ?_, ?_, J⟩
      · unfold fX6_count
        rw [if_neg (by decide), if_pos (by decide)]
      · unfold fX7_count fX7_count_25
        rw [in0l e6, bnd_s, w01, if_pos hd, if_pos (by decide), if_neg (by decide), if_pos (by decide), h.dy.1]
    · obtain ⟨ev, r1, r2⟩ := h.ru
      obtain ⟨w1, e1, c1⟩ := socC_loop m6 (T := thM w) m 0 FU w 0 r1 h.c3 (fun j _ hj => (h.th hj).1) (by omega) (show m < 2000 by omega)
      have c1 := c1.mono PT_SC
      have h1 := h.ch c1
      obtain ⟨w2, e2, c2⟩ := cntM_loop m6 (c := 2) (Or.inl rfl) (T := thM w) m 0 FU w1 0 (r2.ch c1 (fun i k z => by unfold SC at z; omega)) h1.c11 (fun j _ hj => thM_ch c1 (fun i k z => by unfold SC at z; omega) j) (by omega) (show m < 2000 by omega)
      refine ⟨abS (fun j => if sockS ev (thM w j) = 0 then 0 else 1) m 0 0, w1, w2, ?_, ?_, m, tc, rl, tp, h1.ch (c2.mono (fun i k z => PM_SC i k (PG_PM i k z)))⟩
      · unfold fX6_count
        rw [if_neg (by decide), if_neg (by decide), if_pos (by decide)]
        unfold fX6_countInSocks
        have e1' : fX6_countInSocks_4 0 FU (0 : Int32) (0 : Int32) w = _ := e1
        rw [e1', bnd_s]
      · unfold fX7_count
        rw [in0l e6, bnd_s, w01, if_pos hd, if_neg (by decide), if_pos (by decide)]
        exact e2
    · obtain ⟨ev, r1, r2⟩ := h.ru
      obtain ⟨w1, e1, c1⟩ := stpC_loop m6 (T := thM w) m 0 FU w 0 r1 h.c3 (fun j _ hj => (h.th hj).1) (by omega) (show m < 2000 by omega)
      have c1 := c1.mono PT_SC
      have h1 := h.ch c1
      obtain ⟨w2, e2, c2⟩ := cntM_loop m6 (c := 3) (Or.inr rfl) (T := thM w) m 0 FU w1 0 (r2.ch c1 (fun i k z => by unfold SC at z; omega)) h1.c11 (fun j _ hj => thM_ch c1 (fun i k z => by unfold SC at z; omega) j) (by omega) (show m < 2000 by omega)
      refine ⟨abS (fun j => if stopS ev (thM w j) = 0 then 0 else 1) m 0 0, w1, w2, ?_, ?_, m, tc, rl, tp, h1.ch (c2.mono (fun i k z => PM_SC i k (PG_PM i k z)))⟩
      · unfold fX6_count
        rw [if_neg (by decide), if_neg (by decide), if_neg (by decide), if_pos (by decide)]
        unfold fX6_countStopped
        have e1' : fX6_countStopped_4 0 FU (0 : Int32) (0 : Int32) w = _ := e1
        rw [e1', bnd_s]
      · unfold fX7_count
        rw [in0l e6, bnd_s, w01, if_pos hd, if_neg (by decide), if_pos (by decide)]
        exact e2
    · refine ⟨nI tc, w, w, ?_, ?_, J⟩
      · unfold fX6_count
        rw [if_neg (by decide), if_neg (by decide), if_neg (by decide), if_neg (by decide), if_pos (by decide), h3.2.1]
      · unfold fX7_count fX7_count_25
        rw [in0l e6, bnd_s, w01, if_pos hd, if_neg (by decide), if_neg (by decide), if_neg (by decide), if_neg (by decide), if_pos (by decide), h3.2.2]
    · refine ⟨nI tp, w, w, ?_, ?_, J⟩
      · unfold fX6_count
        rw [if_neg (by decide), if_neg (by decide), if_neg (by decide), if_neg (by decide), if_neg (by decide), if_pos (by decide), dg_0_8 h.S, h8.2.1]
      · unfold fX7_count fX7_count_25
        rw [in0l e6, bnd_s, w01, if_pos hd, if_neg (by decide), if_neg (by decide), if_neg (by decide), if_neg (by decide), if_neg (by decide), if_pos (by decide), h8.2.2.1]
    · refine ⟨nI rl, w, w, ?_, ?_, J⟩
      · unfold fX6_count
        rw [if_neg (by decide), if_neg (by decide), if_neg (by decide), if_neg (by decide), if_neg (by decide), if_neg (by decide), if_pos (by decide), h4.2.1]
      · unfold fX7_count fX7_count_25
        rw [in0l e6, bnd_s, w01, if_pos hd, if_neg (by decide), if_neg (by decide), if_neg (by decide), if_neg (by decide), if_neg (by decide), if_neg (by decide), h4.2.2]
  · refine ⟨-2, w, w, ?_, ?_, J⟩
    · unfold fX6_count
      rw [if_neg (fun z => hd (by rw [z]; decide)), if_neg (fun z => hd (by rw [z]; decide)), if_neg (fun z => hd (by rw [z]; decide)), if_neg (fun z => hd (by rw [z]; decide)), if_neg (fun z => hd (by rw [z]; decide)), if_neg (fun z => hd (by rw [z]; decide)), if_neg (fun z => hd (by rw [z]; decide))]
    · unfold fX7_count
      rw [in0l e6, bnd_s, w01, if_neg hd]
