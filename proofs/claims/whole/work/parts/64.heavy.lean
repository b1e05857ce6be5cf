/-! weights that are otherwise -/
theorem asNow_ev {w : Wd} (hS : St w) : ∃ w', fX6_weighAsNow 0 w = some ((), w') ∧ (∀ t, t < 8 → gI w' 2 t = gI w 1 t) ∧ Ch (fun i _ => i = 2) w w' := by
  have c0 : (0 : Int32).toNatClampNeg = 0 := by decide
  have c8 : (8 : Int32).toNatClampNeg = 8 := by decide
  refine ⟨cI w 2 (va_cpy (gI w 1) (gI w 2) (0 : Int32).toNatClampNeg (0 : Int32).toNatClampNeg (8 : Int32).toNatClampNeg), ?_, fun t ht => ?_, ch_cI (fun k => rfl)⟩
  · unfold fX6_weighAsNow
    rw [dg_0_0 hS, dg_0_1 hS, ln_1, ln_2, grd_t (by decide), lw_e]
  · rw [gI_cI, if_pos rfl, c0, c8]
    unfold va_cpy
    rw [if_pos ⟨by omega, by omega⟩, Nat.zero_add, Nat.sub_zero]
theorem nI_m1 (n : Nat) : nI n + (-1 : Int32) = nI n - 1 := (Int32.sub_eq_add_neg (nI n) 1).symm
def hvS (g : Nat → Int32) (k : Int32) : Nat → Int32
  | 0 => -1
  | n + 1 => if g n < k then hvS g k n else nI n
/-- weights, but for one thing -/
def oneW (w : Wd) (thing : Nat) (v : Int32) : Nat → Int32 := fun t => if t = thing then v else gI w 56 t
theorem hvC_loop {m tc rl tp i thing : Nat} {ev : Ev} {k : Int32} {w : Wd} (h : Jn w m tc rl tp) (hr : Ru w rl ev) (hi : i < m) (ht : thing < 8) : ∀ (n fu : Nat) (w2 : Wd), Ch SC w w2 → (∀ t, t < 8 → t ≠ thing → gI w2 2 t = gI w 56 t) → n ≤ 100 → n < fu → ∃ w', fX6_heaviest_41 0 fu (nI thing) k (some (18 + i)) (nI n - 1) w2 = some (hvS (fun v => daysS ev 40 (thY w (oneW w thing (nI v)) i (gI w 58 (5 * i + 2))) 4) k n, w') ∧ Ch SC w w' := by
  have m6 := h.m6
  intro n
  induction n with
  | zero =>
    intro fu w2 c hrow hn hf
    obtain ⟨fu, rfl⟩ : ∃ z, fu = z + 1 := ⟨fu - 1, by omega⟩
    have h1 : nI 0 - 1 < 0 := by decide
    refine ⟨w2, ?_, c⟩
    rw [fX6_heaviest_41]
    dsimp only
    rw [if_pos h1]
    rfl
  | succ n ih =>
    intro fu w2 c hrow hn hf
    obtain ⟨fu, rfl⟩ : ∃ z, fu = z + 1 := ⟨fu - 1, by omega⟩
    have ci : (nI thing).toNatClampNeg = thing := nI_clamp (by omega)
    obtain ⟨w3, hw3⟩ : ∃ z, z = sI w2 2 thing (nI n) := ⟨_, rfl⟩
    have c3 : Ch SC w w3 := c.tr (by rw [hw3]; exact ch_sI (Or.inl rfl))
    have h3 := h.ch c3
    have hg : ∀ t, t < 8 → gI w3 2 t = oneW w thing (nI n) t := by
      intro t ht8
      rw [hw3, gI_sI]
      unfold oneW
      by_cases hh : t = thing
      · rw [if_pos ⟨rfl, hh⟩, if_pos hh]
      · rw [if_neg (fun z => hh z.2), if_neg hh]
        exact hrow t ht8 hh
    have r3 : Ru w3 rl ev := hr.ch c3 (fun i k z => by unfold SC at z; omega)
    obtain ⟨w4, f4, tc4, c4⟩ := thinkOth_ev r3 (i := i) (by omega)
    have et : gI w3 (18 + i) 3 = gI w 58 (5 * i + 2) := by rw [c3.I (by unfold SC; omega)]; exact h.told hi
    rw [(h3.thy hi hg _).1, thY_ch c3 (fun i k z => by unfold SC at z; omega), et] at tc4
    obtain ⟨w5, f5, c5⟩ := step_ev (n := 40) tc4 (by omega)
    have f5 : fX4_stepBehind 50 (40 : Int32) w4 = some (daysS ev 40 (thY w (oneW w thing (nI n)) i (gI w 58 (5 * i + 2))) 4, w5) := f5
    have c35 : Ch SC w3 w5 := (c4.tr (c5.mono PD_PT)).mono PT_SC
    have c6 : Ch SC w w5 := c3.tr c35
    have hS2 := c.St h.S
    rw [nI_pred, fX6_heaviest_41]
    dsimp only
    rw [if_neg (nI_pos (by omega)), dg_0_1 hS2, grd_t (by rw [ln_2]; exact vin_nI ht (by omega)), ci, lw_e, ← hw3, f4, bnd_s, dg_0_9 tc4.1, f5, bnd_s, hvS, nI_m1]
    by_cases hk : daysS ev 40 (thY w (oneW w thing (nI n)) i (gI w 58 (5 * i + 2))) 4 < k
    · rw [if_pos hk, if_pos hk]
      refine ih fu w5 c6 (fun t ht8 hne => ?_) (by omega) (by omega)
      have e5 : gI w5 2 t = gI w3 2 t := by rw [(c4.tr (c5.mono PD_PT)).I (by unfold PT; omega)]
      rw [e5, hw3, gI_sI, if_neg (fun z => hne z.2)]
      exact hrow t ht8 hne
    · rw [if_neg hk, if_neg hk]
      exact ⟨w5, rfl, c6⟩
theorem hvM_loop {m tc rl tp i thing : Nat} {ev : Ev} {k : Int32} {w : Wd} (h : Jn w m tc rl tp) (hr : Rm w rl ev) (hi : i < m) (ht : thing < 8) : ∀ (n fu : Nat) (w2 : Wd), Ch (fun a b => PM a b ∨ (a = 56 ∧ b = thing)) w w2 → n ≤ 100 → n + 1 < fu → ∃ w', fX7_heaviest_50 52 fu (nI thing) (nI i) k (gI w 56 thing) (-1) (nI n - 1) w2 = some (hvS (fun v => daysS ev 40 (thY w (oneW w thing (nI v)) i (gI w 58 (5 * i + 2))) 4) k n, w') ∧ Ch PM w w' := by
  have m6 := h.m6
  have ci : (nI thing).toNatClampNeg = thing := nI_clamp (by omega)
  have fin : ∀ (w9 : Wd) (x : Int32), Ch (fun a b => PM a b ∨ (a = 56 ∧ b = thing)) w w9 → ∃ w', fX7_heaviest_94 52 (nI thing) (gI w 56 thing) x w9 = some (x, w') ∧ Ch PM w w' := by
    intro w9 x c9
    refine ⟨sI w9 56 thing (gI w 56 thing), ?_, ?_⟩
    · unfold fX7_heaviest_94
      rw [dg_52_8 (c9.St h.S), grd_t (by rw [ln_56]; exact vin_nI ht (by omega)), ci, lw_e]
    · refine Ch.outB (c9.tr (ch_sI (Or.inr ⟨rfl, rfl⟩))) (fun a b z => ?_) (fun a b z => by omega)
      rw [gI_sI, if_pos z, z.1, z.2]
  intro n
  induction n with
  | zero =>
    intro fu w2 c hn hf
    obtain ⟨fu, rfl⟩ : ∃ z, fu = z + 1 := ⟨fu - 1, by omega⟩
    have h1 : nI 0 - 1 < 0 := by decide
    rw [fX7_heaviest_50]
    dsimp only
    rw [if_pos h1]
    exact fin w2 (-1) c
  | succ n ih =>
    intro fu w2 c hn hf
    obtain ⟨fu, rfl⟩ : ∃ z, fu = z + 1 := ⟨fu - 1, by omega⟩
    obtain ⟨w3, hw3⟩ : ∃ z, z = sI w2 56 thing (nI n) := ⟨_, rfl⟩
    have c3 : Ch (fun a b => PM a b ∨ (a = 56 ∧ b = thing)) w w3 := c.tr (by rw [hw3]; exact ch_sI (Or.inr ⟨rfl, rfl⟩))
    have hg : ∀ t, t < 8 → gI w3 56 t = oneW w thing (nI n) t := by
      intro t ht8
      rw [hw3, gI_sI]
      unfold oneW
      by_cases hh : t = thing
      · rw [if_pos ⟨rfl, hh⟩, if_pos hh]
      · rw [if_neg (fun z => hh z.2), if_neg hh, c.I (by unfold PM; omega)]
    have r3 : Rm w3 rl ev := hr.ch c3 (fun i k z => by unfold PM at z; omega)
    have et : thM w3 i = thY w (oneW w thing (nI n)) i (gI w 58 (5 * i + 2)) := thM_thY hg (c3.I (by unfold PM; omega)) (fun q _ _ => c3.I (by unfold PM; omega)) (c3.I (by unfold PM; omega)) (c3.I (by unfold PM; omega))
    have hRT : RT (thM w3 i) := by rw [et]; exact (h.thy hi (fun t _ => rfl) _).2
    obtain ⟨w5, f5, c5⟩ := mstep_ev (n := 40) r3 (p := i) (by omega) hRT (by omega)
    rw [et] at f5
    have f5 : fX7_stepBehind 52 (nI i) (40 : Int32) w3 = some (daysS ev 40 (thY w (oneW w thing (nI n)) i (gI w 58 (5 * i + 2))) 4, w5) := f5
    have c6 : Ch (fun a b => PM a b ∨ (a = 56 ∧ b = thing)) w w5 := c3.tr (c5.mono (fun a b z => Or.inl (PG_PM a b z)))
    have hS2 := c.St h.S
    rw [nI_pred, fX7_heaviest_50]
    dsimp only
    rw [if_neg (nI_pos (by omega)), if_pos rfl, dg_52_8 hS2, grd_t (by rw [ln_56]; exact vin_nI ht (by omega)), ci, lw_e, ← hw3, f5, bnd_s, hvS]
    unfold fX7_heaviest_86
    rw [nI_m1]
    by_cases hk : daysS ev 40 (thY w (oneW w thing (nI n)) i (gI w 58 (5 * i + 2))) 4 < k
    · rw [if_pos hk, if_pos hk]
      exact ih fu w5 c6 (by omega) (by omega)
    · rw [if_neg hk, if_neg hk]
      obtain ⟨fu, rfl⟩ : ∃ z, fu = z + 1 := ⟨fu - 1, by omega⟩
      rw [fX7_heaviest_50]
      dsimp only
      by_cases h0 : nI n - 1 < 0
      · rw [if_pos h0]
        exact fin w5 (nI n) c6
      · rw [if_neg h0, if_neg (m1_nI (by omega))]
        exact fin w5 (nI n) c6
theorem heaviest_agree (a0 a1 a2 : Int32) : Agree JJ (fX6_heaviest 0 a0 a1 a2) (fX7_heaviest 52 a0 a1 a2) := by
  rintro w ⟨m, tc, rl, tp, h⟩
  have e7 : (7 : Int32).toInt64 = (7 : Int64) := by decide
  have e9 : (999 : Int32).toInt64 = (999 : Int64) := by decide
  have J : JJ w := ⟨m, tc, rl, tp, h⟩
  have m6 := h.m6
  rcases one_at h a1 with ⟨i, hi, rfl, e1, e2⟩ | ⟨e1, e2⟩
  · by_cases hd : 0 ≤ a0 ∧ a0 ≤ (7 : Int32)
    · by_cases hs : 0 ≤ a2 ∧ a2 ≤ (999 : Int32)
      · obtain ⟨t, ht, rfl⟩ := (in0n (n := 7) (by omega)).mp hd
        obtain ⟨ev, r1, r2⟩ := h.ru
        obtain ⟨w1, f1, q1, c1⟩ := asNow_ev h.S
        have c1 : Ch SC w w1 := c1.mono (fun i k z => Or.inl z)
        obtain ⟨w2, f2, c2⟩ := hvC_loop (k := a2) h r1 hi (thing := t) (by omega) 100 FU w1 c1 (fun t ht _ => by rw [q1 t ht]; exact (h.hv t ht).1) (by omega) (show 100 < 2000 by omega)
        have h2 := h.ch c2
        obtain ⟨w3, f3, c3⟩ := hvM_loop (k := a2) h2 (r2.ch c2 (fun i k z => by unfold SC at z; omega)) hi (thing := t) (by omega) 100 FU w2 Ch.rf (by omega) (show 101 < 2000 by omega)
        have ci : (nI t).toNatClampNeg = t := nI_clamp (by omega)
        have eY : ∀ v, thY w2 (oneW w2 t (nI v)) i (gI w2 58 (5 * i + 2)) = thY w (oneW w t (nI v)) i (gI w 58 (5 * i + 2)) := by
          intro v
          have o : oneW w2 t (nI v) = oneW w t (nI v) := funext (fun q => by
            unfold oneW
            rw [c2.I (show ¬ SC 56 q by unfold SC; omega)])
          rw [thY_ch c2 (fun i k z => by unfold SC at z; omega), o, c2.I (show ¬ SC 58 (5 * i + 2) by unfold SC; omega)]
        simp only [eY] at f3
        refine ⟨hvS (fun v => daysS ev 40 (thY w (oneW w t (nI v)) i (gI w 58 (5 * i + 2))) 4) a2 100, w2, w3, ?_, ?_, m, tc, rl, tp, h2.ch (c3.mono PM_SC)⟩
        · unfold fX6_heaviest
          rw [e1, bnd_s, thing_ev, bnd_s, w01, if_pos hd, ifn_some, wn_ev, bnd_s, w01, if_pos hs, f1, bnd_s]
          exact f2
        · unfold fX7_heaviest
          rw [in0l e7, bnd_s, w01, if_pos hd, atM h2.c11 m6 hi, bnd_s, if_neg (by decide), in0l e9, bnd_s, w01, if_pos hs, dg_52_8 h2.S, grd_t (by rw [ln_56]; exact vin_nI (by omega) (by omega)), lt_e, ci]
          exact f3
      · refine ⟨-2, w, w, ?_, ?_, J⟩
        · unfold fX6_heaviest
          rw [e1, bnd_s, thing_ev, bnd_s, w01, if_pos hd, ifn_some, wn_ev, bnd_s, w01, if_neg hs]
        · unfold fX7_heaviest
          rw [in0l e7, bnd_s, w01, if_pos hd, e2, bnd_s, if_neg (by decide), in0l e9, bnd_s, w01, if_neg hs]
    · refine ⟨-2, w, w, ?_, ?_, J⟩
      · unfold fX6_heaviest
        rw [e1, bnd_s, thing_ev, bnd_s, w01, if_neg hd]
      · unfold fX7_heaviest
        rw [in0l e7, bnd_s, w01, if_neg hd]
  · refine ⟨-2, w, w, ?_, ?_, J⟩
    · unfold fX6_heaviest
      rw [e1, bnd_s, thing_ev, bnd_s, w01]
      by_cases hd : 0 ≤ a0 ∧ a0 ≤ (7 : Int32)
      · rw [if_pos hd, ifn_none]
      · rw [if_neg hd]
    · unfold fX7_heaviest
      rw [in0l e7, bnd_s, w01]
      by_cases hd : 0 ≤ a0 ∧ a0 ≤ (7 : Int32)
      · rw [if_pos hd, e2, bnd_s, if_pos rfl]
      · rw [if_neg hd]
/-! steps of all, by other weights -/
theorem soaC_loop {m tc rl tp N : Nat} {ev : Ev} {w : Wd} (h : Jn w m tc rl tp) (hr : Ru w rl ev) (hN : N ≤ 40) {H : Nat → Int32} (hH : ∀ t, t < 8 → gI w 2 t = H t) : ∀ (n i fu : Nat) (w2 : Wd) (a : Int32), Ch PT w w2 → i + n = m → n < fu → ∃ w', fX6_stepsOfAll_4 0 fu (nI N) a (nI i) w2 = some (abS (fun j => daysS ev N (thY w H j (gI w 58 (5 * j + 2))) 4) n i a, w') ∧ Ch PT w w' := by
  have m6 := h.m6
  intro n
  induction n with
  | zero =>
    intro i fu w2 a c hi hf
    obtain ⟨fu, rfl⟩ : ∃ z, fu = z + 1 := ⟨fu - 1, by omega⟩
    have h1 : nI m ≤ nI i := nI_le (by omega) (by omega)
    refine ⟨w2, ?_, c⟩
    rw [fX6_stepsOfAll_4]
    dsimp only
    rw [c.I (by unfold PT; omega), h.c3, if_pos h1]
    rfl
  | succ n ih =>
    intro i fu w2 a c hi hf
    obtain ⟨fu, rfl⟩ : ∃ z, fu = z + 1 := ⟨fu - 1, by omega⟩
    have h1 : ¬ nI m ≤ nI i := nI_ge (by omega) (by omega)
    have ci : (nI i).toNatClampNeg = i := nI_clamp (by omega)
    have h2 := h.ch (c.mono PT_SC)
    have hS2 := h2.S
    obtain ⟨w4, f4, tc4, c4⟩ := thinkOth_ev (hr.ch c (fun i k z => by unfold PT at z; omega)) (i := i) (by omega)
    have et : gI w2 (18 + i) 3 = gI w 58 (5 * i + 2) := by rw [c.I (by unfold PT; omega)]; exact h.told (by omega)
    rw [(h2.thy (show i < m by omega) (g := gI w2 2) (H := H) (fun t ht => by rw [c.I (by unfold PT; omega)]; exact hH t ht) _).1, thY_ch c (fun i k z => by unfold PT at z; omega), et] at tc4
    obtain ⟨w5, f5, c5⟩ := step_ev tc4 hN
    have c6 : Ch PT w w5 := c.tr (c4.tr (c5.mono PD_PT))
    obtain ⟨w7, f7, c7⟩ := ih (i + 1) fu w5 (a + daysS ev N (thY w H i (gI w 58 (5 * i + 2))) 4) c6 (by omega) (by omega)
    refine ⟨w7, ?_, c7⟩
    rw [fX6_stepsOfAll_4]
    dsimp only
    rw [c.I (by unfold PT; omega), h.c3, if_neg h1, dg_0_2 hS2, grd_t (by rw [ln_3]; exact vin_nI (by omega) (by omega)), st_wkc hS2 (by omega), f4, bnd_s, dg_0_9 tc4.1, f5, bnd_s, lt_e, nI_1]
    exact f7
theorem soaC {m tc rl tp N : Nat} {ev : Ev} {w : Wd} (h : Jn w m tc rl tp) (hr : Ru w rl ev) (hN : N ≤ 40) {H : Nat → Int32} (hH : ∀ t, t < 8 → gI w 2 t = H t) : ∃ w', fX6_stepsOfAll 0 (nI N) w = some (abS (fun j => daysS ev N (thY w H j (gI w 58 (5 * j + 2))) 4) m 0 0, w') ∧ Ch PT w w' := by
  have m6 := h.m6
  exact soaC_loop h hr hN hH m 0 FU w 0 Ch.rf (by omega) (show m < 2000 by omega)
theorem soaM {m tc rl tp N : Nat} {ev : Ev} {w w2 : Wd} {P : Nat → Nat → Prop} (h : Jn w m tc rl tp) (hr : Rm w rl ev) (hN : N ≤ 40) {H : Nat → Int32} (c : Ch P w w2) (hP : ∀ i k, P i k → ¬ (i = 52 ∧ k < 12) ∧ i ≠ 57 ∧ i ≠ 58 ∧ i ≠ 53 ∧ i ≠ 54) (hH : ∀ t, t < 8 → gI w2 56 t = H t) : ∃ w', fX7_allBehind 52 (nI N) w2 = some (abS (fun j => daysS ev N (thY w H j (gI w 58 (5 * j + 2))) 4) m 0 0, w') ∧ Ch PG w2 w' := by
  have q : ∀ {i k : Nat}, ((i = 52 ∧ k < 12) ∨ i = 57 ∨ i = 58) → gI w2 i k = gI w i k := fun hk => c.I (fun z => by have := hP _ _ z; omega)
  have et : ∀ j, thM w2 j = thY w H j (gI w 58 (5 * j + 2)) := fun j => thM_thY hH (q (by omega)) (fun _ _ _ => q (by omega)) (q (by omega)) (q (by omega))
  exact mall_ev (hr.ch c (fun i k z => by have := hP i k z; omega)) hN h.m6 (by rw [q (by omega)]; exact h.c11) (fun j hj => ⟨by rw [et]; exact (h.thy hj (fun t _ => rfl) _).2, by rw [et]⟩)
def kpS (G : Nat → Int32) : Nat → Nat → Int32 → Int32 → Int32 × Int32
  | 0, _, b, s => (b, s)
  | n + 1, i, b, s => if G i ≤ s then kpS G n (i + 1) b s else kpS G n (i + 1) (nI i) (G i)
theorem kpC_loop {m tc rl tp N : Nat} {ev : Ev} {w : Wd} {x2 : Int32} (h : Jn w m tc rl tp) (hr : Ru w rl ev) (hN : N ≤ 40) : ∀ (n i fu : Nat) (w2 : Wd) (b s : Int32), Ch SC w w2 → i + n = 8 → n < fu → ∃ w', fX6_keeper_35 0 fu (nI N) x2 b s (nI i) w2 = some (prt x2 (kpS (fun t => abS (fun j => daysS ev N (thY w (oneW w t 0) j (gI w 58 (5 * j + 2))) 4) m 0 0) n i b s), w') ∧ Ch SC w w' := by
  have m6 := h.m6
  intro n
  induction n with
  | zero =>
    intro i fu w2 b s c hi hf
    obtain ⟨fu, rfl⟩ : ∃ z, fu = z + 1 := ⟨fu - 1, by omega⟩
    have h1 : (8 : Int32) ≤ nI i := nI_le (a := 8) (by omega) (by omega)
    refine ⟨w2, ?_, c⟩
    rw [fX6_keeper_35]
    dsimp only
    rw [if_pos h1]
    unfold prt kpS
    by_cases hx : x2 = 0
    · rw [if_pos hx, if_pos hx]
    · rw [if_neg hx, if_neg hx]
  | succ n ih =>
    intro i fu w2 b s c hi hf
    obtain ⟨fu, rfl⟩ : ∃ z, fu = z + 1 := ⟨fu - 1, by omega⟩
    have h1 : ¬ (8 : Int32) ≤ nI i := nI_ge (b := 8) (by omega) (by omega)
    have ci : (nI i).toNatClampNeg = i := nI_clamp (by omega)
    obtain ⟨w3, f3, q3, c3⟩ := asNow_ev (c.St h.S)
    have c3' : Ch SC w w3 := c.tr (c3.mono (fun i k z => Or.inl z))
    obtain ⟨w4, hw4⟩ : ∃ z, z = sI w3 2 i 0 := ⟨_, rfl⟩
    have c4 : Ch SC w w4 := c3'.tr (by rw [hw4]; exact ch_sI (Or.inl rfl))
    have h4 := h.ch c4
    obtain ⟨w5, f5, c5⟩ := soaC (H := oneW w i 0) h4 (hr.ch c4 (fun i k z => by unfold SC at z; omega)) hN (fun t ht => by
      rw [hw4, gI_sI]
      unfold oneW
      by_cases hh : t = i
      · rw [if_pos ⟨rfl, hh⟩, if_pos hh]
      · rw [if_neg (fun z => hh z.2), if_neg hh, q3 t ht, c.I (by unfold SC; omega)]
        exact (h.hv t ht).1)
    have eY : ∀ j, thY w4 (oneW w i 0) j (gI w4 58 (5 * j + 2)) = thY w (oneW w i 0) j (gI w 58 (5 * j + 2)) := fun j => by
      rw [thY_ch c4 (fun i k z => by unfold SC at z; omega), c4.I (show ¬ SC 58 (5 * j + 2) by unfold SC; omega)]
    simp only [eY] at f5
    have c6 := c4.tr (c5.mono PT_SC)
    rw [fX6_keeper_35]
    dsimp only
    rw [if_neg h1, f3, bnd_s, dg_0_1 (c3'.St h.S), grd_t (by rw [ln_2]; exact vin_nI (by omega) (by omega)), ci, lw_e, ← hw4, f5, bnd_s]
    unfold fX6_keeper_75
    rw [nI_1, kpS]
    by_cases hk : abS (fun j => daysS ev N (thY w (oneW w i 0) j (gI w 58 (5 * j + 2))) 4) m 0 0 ≤ s
    · rw [if_pos hk, if_pos hk]
      exact ih (i + 1) fu w5 _ _ c6 (by omega) (by omega)
    · rw [if_neg hk, if_neg hk]
      exact ih (i + 1) fu w5 _ _ c6 (by omega) (by omega)
theorem kpM_loop {m tc rl tp N : Nat} {ev : Ev} {w : Wd} {x2 : Int32} (h : Jn w m tc rl tp) (hr : Rm w rl ev) (hN : N ≤ 40) : ∀ (n i fu : Nat) (w2 : Wd) (b s : Int32), Ch PM w w2 → gI w2 52 34 = b → gI w2 52 35 = s → i + n = 8 → n < fu → ∃ w', fX7_keeper_41 52 fu (nI N) x2 (nI i) w2 = some (prt x2 (kpS (fun t => abS (fun j => daysS ev N (thY w (oneW w t 0) j (gI w 58 (5 * j + 2))) 4) m 0 0) n i b s), w') ∧ Ch PM w w' := by
  have m6 := h.m6
  intro n
  induction n with
  | zero =>
    intro i fu w2 b s c hb hs hi hf
    obtain ⟨fu, rfl⟩ : ∃ z, fu = z + 1 := ⟨fu - 1, by omega⟩
    have h1 : (8 : Int32) ≤ nI i := nI_le (a := 8) (by omega) (by omega)
    refine ⟨w2, ?_, c⟩
    rw [fX7_keeper_41]
    dsimp only
    rw [if_pos h1, hb, hs]
    unfold prt kpS
    by_cases hx : x2 = 0
    · rw [if_pos hx, if_pos hx]
    · rw [if_neg hx, if_neg hx]
  | succ n ih =>
    intro i fu w2 b s c hb hs hi hf
    obtain ⟨fu, rfl⟩ : ∃ z, fu = z + 1 := ⟨fu - 1, by omega⟩
    have h1 : ¬ (8 : Int32) ≤ nI i := nI_ge (b := 8) (by omega) (by omega)
    have ci : (nI i).toNatClampNeg = i := nI_clamp (by omega)
    have hS2 := c.St h.S
    obtain ⟨w3, hw3⟩ : ∃ z, z = sI w2 56 i 0 := ⟨_, rfl⟩
    have c3 : Ch (fun a b => PM a b ∨ (a = 56 ∧ b = i)) w w3 := (c.mono (fun a b z => Or.inl z)).tr (by rw [hw3]; exact ch_sI (Or.inr ⟨rfl, rfl⟩))
    obtain ⟨w4, f4, c4⟩ := soaM (H := oneW w i 0) h hr hN c3 (fun a b z => by unfold PM at z; omega) (fun t ht => by
      rw [hw3, gI_sI]
      unfold oneW
      by_cases hh : t = i
      · rw [if_pos ⟨rfl, hh⟩, if_pos hh]
      · rw [if_neg (fun z => hh z.2), if_neg hh, c.I (by unfold PM; omega)])
    have c34 := c3.tr (c4.mono (fun a b z => Or.inl (PG_PM a b z)))
    obtain ⟨w5, hw5⟩ : ∃ z, z = sI w4 56 i (gI w2 56 i) := ⟨_, rfl⟩
    have c5 : Ch PM w w5 := by
      refine Ch.outB (Q := fun a b => a = 56 ∧ b = i) (c34.tr (by rw [hw5]; exact ch_sI (Or.inr ⟨rfl, rfl⟩))) (fun a b z => ?_) (fun a b z => by omega)
      rw [hw5, gI_sI, if_pos z, z.1, z.2, c.I (by unfold PM; omega)]
    have g34 : gI w5 52 34 = b := by rw [hw5, gI_sI, if_neg (by omega), c4.I (by unfold PG; omega), hw3, gI_sI, if_neg (by omega)]; exact hb
    have g35 : gI w5 52 35 = s := by rw [hw5, gI_sI, if_neg (by omega), c4.I (by unfold PG; omega), hw3, gI_sI, if_neg (by omega)]; exact hs
    have hw3' : sI w2 56 (nI i).toNatClampNeg 0 = w3 := by rw [ci, hw3]
    have hw5' : sI w4 56 (nI i).toNatClampNeg (gI w2 56 (nI i).toNatClampNeg) = w5 := by rw [ci, hw5]
    rw [fX7_keeper_41]
    dsimp only
    rw [if_neg h1, dg_52_8 hS2, grd_t (by rw [ln_56]; exact vin_nI (by omega) (by omega)), lt_e, dg_52_8 hS2, grd_t (by rw [ln_56]; exact vin_nI (by omega) (by omega)), lw_e, hw3', f4, bnd_s, dg_52_8 (c34.St h.S), grd_t (by rw [ln_56]; exact vin_nI (by omega) (by omega)), lw_e, hw5', g35]
    unfold fX7_keeper_97
    rw [nI_1, kpS]
    by_cases hk : abS (fun j => daysS ev N (thY w (oneW w i 0) j (gI w 58 (5 * j + 2))) 4) m 0 0 ≤ s
    · rw [if_pos hk, if_pos hk]
      exact ih (i + 1) fu w5 _ _ c5 g34 g35 (by omega) (by omega)
    · rw [if_neg hk, if_neg hk, lw_e, lw_e]
      exact ih (i + 1) fu _ _ _ (c5.tr ((ch_sI ⟨rfl, by omega, by omega⟩).tr (ch_sI ⟨rfl, by omega, by omega⟩))) (by rw [gI_sI, if_neg (by omega), gI_sI, if_pos ⟨rfl, rfl⟩]) (by rw [gI_sI, if_pos ⟨rfl, rfl⟩]) (by omega) (by omega)
theorem keeper_agree (a0 a1 : Int32) : Agree JJ (fX6_keeper 0 a0 a1) (fX7_keeper 52 a0 a1) := by
  rintro w ⟨m, tc, rl, tp, h⟩
  have e40 : (40 : Int32).toInt64 = (40 : Int64) := by decide
  have e1 : (1 : Int32).toInt64 = (1 : Int64) := by decide
  have J : JJ w := ⟨m, tc, rl, tp, h⟩
  have m6 := h.m6
  by_cases hd : 0 ≤ a0 ∧ a0 ≤ (40 : Int32)
  · by_cases hs : 0 ≤ a1 ∧ a1 ≤ (1 : Int32)
    · obtain ⟨N, hN, rfl⟩ := (in0n (n := 40) (by omega)).mp hd
      obtain ⟨ev, r1, r2⟩ := h.ru
      obtain ⟨w1, f1, q1, c1⟩ := asNow_ev h.S
      have c1 : Ch SC w w1 := c1.mono (fun i k z => Or.inl z)
      have h1 := h.ch c1
      obtain ⟨w2, f2, c2⟩ := soaC (H := gI w 56) h1 (r1.ch c1 (fun i k z => by unfold SC at z; omega)) hN (fun t ht => by rw [q1 t ht]; exact (h.hv t ht).1)
      have c12 := c1.tr (c2.mono PT_SC)
      have e58 : ∀ k, gI w1 58 k = gI w 58 k := fun k => c1.I (by unfold SC; omega)
      have eY : ∀ H j told, thY w1 H j told = thY w H j told := fun H j told => thY_ch c1 (fun i k z => by unfold SC at z; omega) H j told
      simp only [e58, eY] at f2
      obtain ⟨w3, f3, c3⟩ := kpC_loop (x2 := a1) h r1 hN 8 0 FU w2 (-1) (abS (fun j => daysS ev N (thY w (gI w 56) j (gI w 58 (5 * j + 2))) 4) m 0 0) c12 (by omega) (show 8 < 2000 by omega)
      have h3 := h.ch c3
      have r3 := r2.ch c3 (fun i k z => by unfold SC at z; omega)
      obtain ⟨w4, hw4⟩ : ∃ z, z = sI w3 52 34 (-1) := ⟨_, rfl⟩
      have c4 : Ch PM w3 w4 := by rw [hw4]; exact ch_sI ⟨rfl, by omega, by omega⟩
      obtain ⟨w5, f5, c5⟩ := soaM (H := gI w 56) h3 r3 hN c4 (fun a b z => by unfold PM at z; omega) (fun t ht => by rw [c4.I (by unfold PM; omega), c3.I (by unfold SC; omega)])
      have e58 : ∀ k, gI w3 58 k = gI w 58 k := fun k => c3.I (by unfold SC; omega)
      have eY : ∀ H j told, thY w3 H j told = thY w H j told := fun H j told => thY_ch c3 (fun i k z => by unfold SC at z; omega) H j told
      have eO : ∀ t v, oneW w3 t v = oneW w t v := fun t v => funext (fun q => by
        unfold oneW
        rw [c3.I (show ¬ SC 56 q by unfold SC; omega)])
      simp only [e58, eY] at f5
      obtain ⟨w6, hw6⟩ : ∃ z, z = sI w5 52 35 (abS (fun j => daysS ev N (thY w (gI w 56) j (gI w 58 (5 * j + 2))) 4) m 0 0) := ⟨_, rfl⟩
      have c6 : Ch PM w3 w6 := c4.tr ((c5.mono PG_PM).tr (by rw [hw6]; exact ch_sI ⟨rfl, by omega, by omega⟩))
      obtain ⟨w7, f7, c7⟩ := kpM_loop (x2 := a1) h3 r3 hN 8 0 FU w6 (-1) (abS (fun j => daysS ev N (thY w (gI w 56) j (gI w 58 (5 * j + 2))) 4) m 0 0) c6 (by rw [hw6, gI_sI, if_neg (by omega), c5.I (by unfold PG; omega), hw4, gI_sI, if_pos ⟨rfl, rfl⟩]) (by rw [hw6, gI_sI, if_pos ⟨rfl, rfl⟩]) (by omega) (show 8 < 2000 by omega)
      simp only [e58, eY, eO] at f7
      refine ⟨prt a1 (kpS (fun t => abS (fun j => daysS ev N (thY w (oneW w t 0) j (gI w 58 (5 * j + 2))) 4) m 0 0) 8 0 (-1) (abS (fun j => daysS ev N (thY w (gI w 56) j (gI w 58 (5 * j + 2))) 4) m 0 0)), w3, w7, ?_, ?_, m, tc, rl, tp, h3.ch (c7.mono PM_SC)⟩
      · unfold fX6_keeper
        rw [days_ev, bnd_s, w01, if_pos hd, wn_ev, bnd_s, w01, if_pos hs, f1, bnd_s, f2, bnd_s]
        exact f3
      · unfold fX7_keeper
        rw [in0l e40, bnd_s, w01, if_pos hd, in0l e1, bnd_s, w01, if_pos hs, lw_e, ← hw4, f5, bnd_s, lw_e, ← hw6]
        exact f7
    · refine ⟨-2, w, w, ?_, ?_, J⟩
      · unfold fX6_keeper
        rw [days_ev, bnd_s, w01, if_pos hd, wn_ev, bnd_s, w01, if_neg hs]
      · unfold fX7_keeper
        rw [in0l e40, bnd_s, w01, if_pos hd, in0l e1, bnd_s, w01, if_neg hs]
  · refine ⟨-2, w, w, ?_, ?_, J⟩
    · unfold fX6_keeper
      rw [days_ev, bnd_s, w01, if_neg hd]
    · unfold fX7_keeper
      rw [in0l e40, bnd_s, w01, if_neg hd]
