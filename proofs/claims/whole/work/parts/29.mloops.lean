/-! many days of the model -/
theorem wof_loop {w : Wd} (hS : St w) {s : Int32} : ∀ (n i fu : Nat), i + n = 8 → n < fu → fX7_weightOf_4 52 fu s (wS (gI w 56) s i) (nI i) w = some (wS (gI w 56) s 8, w) := by
  intro n
  induction n with
  | zero =>
    intro i fu hi hf
    obtain ⟨fu, rfl⟩ : ∃ z, fu = z + 1 := ⟨fu - 1, by omega⟩
    have h1 : (8 : Int32) ≤ nI i := nI_le (a := 8) (by omega) (by omega)
    rw [fX7_weightOf_4]
    dsimp only
    rw [if_pos h1, show i = 8 by omega]
  | succ n ih =>
    intro i fu hi hf
    obtain ⟨fu, rfl⟩ : ∃ z, fu = z + 1 := ⟨fu - 1, by omega⟩
    have h1 : ¬ (8 : Int32) ≤ nI i := nI_ge (b := 8) (by omega) (by omega)
    have c5 : (nI i).toNatClampNeg = i := nI_clamp (by omega)
    have eT : wS (gI w 56) s (i + 1) = if hasB s i then wS (gI w 56) s i + gI w 56 i else wS (gI w 56) s i := rfl
    have nx := ih (i + 1) fu (by omega) (by omega)
    rw [fX7_weightOf_4]
    dsimp only
    rw [if_neg h1]
    unfold fX7_weightOf_30
    by_cases hb : hasB s i
    · rw [if_pos hb] at eT
      rw [if_pos hb, dg_52_8 hS, grd_t (by rw [ln_56]; exact vin_nI (by omega) (by omega)), lt_e, c5, nI_1, ← eT]
      exact nx
    · rw [if_neg hb] at eT
      rw [if_neg hb, lt_e, Int32.add_zero, nI_1, ← eT]
      exact nx
theorem wof_ev {w : Wd} (hS : St w) {s : Int32} : fX7_weightOf 52 s w = some (wS (gI w 56) s 8, w) := wof_loop hS 8 0 FU (by omega) (by show 8 < 2000; omega)
/-- walker p of the model in thought -/
def thM (w : Wd) (p : Nat) : Nat → Int32 := thW (gI w 57 p) (gI w 58 (5 * p)) (wS (gI w 56) (gI w 58 (5 * p + 1) &&& gI w 58 (5 * p + 2)) 8) (wS (gI w 56) (gI w 58 (5 * p + 1) &&& (gI w 58 (5 * p + 2) ^^^ (-1))) 8) (gI w 58 (5 * p + 3)) (gI w 58 (5 * p + 4)) (gI w 52 7)
/-- what the model's thinking needs -/
def Rm (w : Wd) (rl : Nat) (ev : Ev) : Prop := St w ∧ rl < 6 ∧ gI w 52 4 = nI rl ∧ MEv w rl ev
theorem Rm.ch {P : Nat → Nat → Prop} {w w' : Wd} {rl : Nat} {ev : Ev} (h : Rm w rl ev) (hc : Ch P w w') (hP : ∀ i k, P i k → ¬ (i = 52 ∧ k = 4) ∧ i ≠ 53 ∧ i ≠ 54) : Rm w' rl ev := by
  obtain ⟨h1, h2, h3, h4⟩ := h
  exact ⟨hc.St h1, h2, by rw [hc.I (fun z => (hP _ _ z).1 ⟨rfl, rfl⟩)]; exact h3, h4.ch hc (fun k => ⟨fun z => (hP _ _ z).2.1 rfl, fun z => (hP _ _ z).2.2 rfl⟩)⟩
def PB (i k : Nat) : Prop := i = 52 ∧ 27 ≤ k ∧ k ≤ 31
theorem PB_PG (i k : Nat) (h : PB i k) : PG i k := by unfold PB at h; unfold PG; omega
theorem begins_ev {w : Wd} {p rl : Nat} {ev : Ev} (h : Rm w rl ev) (hp : p < 6) : ∃ w', fX7_begins 52 (nI p) w = some ((), w') ∧ Tm w' (thM w p) p rl ev ∧ Ch PB w w' := by
  obtain ⟨h1, h2, h3, h4⟩ := h
  have k : ∀ q : Nat, q ≤ 4 → (nI (5 * p + q)).toNatClampNeg = 5 * p + q := fun q hq => nI_clamp (by omega)
  have g : ∀ q : Nat, q ≤ 4 → vin (nI (5 * p + q)) (ln 58) := fun q hq => by rw [ln_58]; exact vin_nI (by omega) (by omega)
  have n1 : (5 : Int32) * nI p + 1 = nI (5 * p + 1) := by rw [m5, nI_1]
  have n2 : (5 : Int32) * nI p + 2 = nI (5 * p + 2) := by rw [m5]; exact nI_add (5 * p) 2
  have n3 : (5 : Int32) * nI p + 3 = nI (5 * p + 3) := by rw [m5]; exact nI_add (5 * p) 3
  have n4 : (5 : Int32) * nI p + 4 = nI (5 * p + 4) := by rw [m5]; exact nI_add (5 * p) 4
  obtain ⟨a, ha⟩ : ∃ z, z = wS (gI w 56) (gI w 58 (5 * p + 1) &&& gI w 58 (5 * p + 2)) 8 := ⟨_, rfl⟩
  obtain ⟨b, hb⟩ : ∃ z, z = wS (gI w 56) (gI w 58 (5 * p + 1) &&& (gI w 58 (5 * p + 2) ^^^ (-1))) 8 := ⟨_, rfl⟩
  refine ⟨sI (sI (sI (sI (sI w 52 27 a) 52 28 b) 52 29 (gI w 58 (5 * p + 3))) 52 30 (gI w 58 (5 * p + 4))) 52 31 (gI w 52 7), ?_, ?_, ?_⟩
  · have k1 := k 1 (by omega)
    have k2 := k 2 (by omega)
    have k3 := k 3 (by omega)
    have k4 := k 4 (by omega)
    unfold fX7_begins
    rw [dg_52_10 h1, n1, grd_t (g 1 (by omega)), lt_e, dg_52_10 h1, n2, grd_t (g 2 (by omega))]
    simp only [k1, k2]
    rw [wof_ev h1, bnd_s, lw_e, dg_52_10 (St_sI h1), grd_t (g 2 (by omega)), ← ha]
    have e58 : gI (sI w 52 27 a) 58 (5 * p + 2) = gI w 58 (5 * p + 2) := by rw [gI_sI, if_neg (by omega)]
    have e56 : gI (sI w 52 27 a) 56 = gI w 56 := by funext q; rw [gI_sI, if_neg (by omega)]
    rw [e58, wof_ev (St_sI h1), bnd_s, lw_e, e56, ← hb, dg_52_10 (St_sI (St_sI h1)), n3, grd_t (g 3 (by omega)), lw_e, dg_52_10 (St_sI (St_sI (St_sI h1))), n4, grd_t (g 4 (by omega)), lw_e, lw_e]
    simp only [k3, k4]
    simp [gI_sI]
  · have c : Ch PB w (sI (sI (sI (sI (sI w 52 27 a) 52 28 b) 52 29 (gI w 58 (5 * p + 3))) 52 30 (gI w 58 (5 * p + 4))) 52 31 (gI w 52 7)) := Ch.tr (Ch.tr (Ch.tr (Ch.tr (ch_sI ⟨rfl, by omega, by omega⟩) (ch_sI ⟨rfl, by omega, by omega⟩)) (ch_sI ⟨rfl, by omega, by omega⟩)) (ch_sI ⟨rfl, by omega, by omega⟩)) (ch_sI ⟨rfl, by omega, by omega⟩)
    refine ⟨c.St h1, hp, h2, ?_, h4.ch c (fun k => ⟨fun z => by have := z.1; omega, fun z => by have := z.1; omega⟩), ?_, ?_, ?_, ?_, ?_, ?_, ?_⟩
    · rw [c.I (by unfold PB; omega)]; exact h3
    · rw [c.I (by unfold PB; omega)]; rfl
    · rw [c.I (by unfold PB; omega)]; rfl
    · simp [gI_sI, ha, thM, thW]
    · simp [gI_sI, hb, thM, thW]
    · simp [gI_sI, thM, thW]
    · simp [gI_sI, thM, thW]
    · simp [gI_sI, thM, thW]
  · exact Ch.tr (Ch.tr (Ch.tr (Ch.tr (ch_sI ⟨rfl, by omega, by omega⟩) (ch_sI ⟨rfl, by omega, by omega⟩)) (ch_sI ⟨rfl, by omega, by omega⟩)) (ch_sI ⟨rfl, by omega, by omega⟩)) (ch_sI ⟨rfl, by omega, by omega⟩)
theorem Tm.worn {w : Wd} {th : Nat → Int32} {p rl : Nat} {ev : Ev} (h : Tm w th p rl ev) : gI w 52 30 = th 5 := h.2.2.2.2.2.2.2.2.2.2.1
theorem Tm.step {w : Wd} {th : Nat → Int32} {p rl : Nat} {ev : Ev} (h : Tm w th p rl ev) : gI w 52 29 = th 4 := h.2.2.2.2.2.2.2.2.2.1
theorem mstep_loop {p rl : Nat} {ev : Ev} {N : Nat} (hN : N < 2 ^ 31) : ∀ (n i fu : Nat) (w : Wd) (th : Nat → Int32), Tm w th p rl ev → RT th → i + n = N → n < fu → ∃ w', fX7_stepBehind_7 52 fu (nI p) (nI N) (nI i) w = some (daysS ev n th 4, w') ∧ Ch PG w w' := by
  intro n
  induction n with
  | zero =>
    intro i fu w th h hr hi hf
    obtain ⟨fu, rfl⟩ : ∃ z, fu = z + 1 := ⟨fu - 1, by omega⟩
    have h1 : nI N ≤ nI i := nI_le (by omega) (by omega)
    rw [fX7_stepBehind_7]
    dsimp only
    rw [if_pos h1, h.step]
    exact ⟨w, rfl, Ch.rf⟩
  | succ n ih =>
    intro i fu w th h hr hi hf
    obtain ⟨fu, rfl⟩ : ∃ z, fu = z + 1 := ⟨fu - 1, by omega⟩
    have h1 : ¬ nI N ≤ nI i := nI_ge (by omega) (by omega)
    obtain ⟨w1, e1, t1, c1⟩ := goes_ev h hr
    obtain ⟨w2, e2, c2⟩ := ih (i + 1) fu w1 (dayS ev th) t1 hr.d (by omega) (by omega)
    refine ⟨w2, ?_, c1.tr c2⟩
    rw [fX7_stepBehind_7]
    dsimp only
    rw [if_neg h1, e1, bnd_s, nI_1]
    exact e2
theorem mstep_ev {w : Wd} {p rl n : Nat} {ev : Ev} (h : Rm w rl ev) (hp : p < 6) (hr : RT (thM w p)) (hn : n ≤ 40) : ∃ w', fX7_stepBehind 52 (nI p) (nI n) w = some (daysS ev n (thM w p) 4, w') ∧ Ch PG w w' := by
  obtain ⟨w1, e1, t1, c1⟩ := begins_ev h hp
  obtain ⟨w2, e2, c2⟩ := mstep_loop (N := n) (by omega) n 0 FU w1 _ t1 hr (by omega) (by show n < 2000; omega)
  refine ⟨w2, ?_, (c1.mono PB_PG).tr c2⟩
  unfold fX7_stepBehind
  rw [e1, bnd_s]
  exact e2
theorem mdt_loop {p rl : Nat} {ev : Ev} {k : Int32} : ∀ (n i fu : Nat) (w : Wd) (th : Nat → Int32), Tm w th p rl ev → RT th → i + n = 41 → n < fu → ∃ w', fX7_daysTill_7 52 fu (nI p) k (nI i) w = some (dtS ev k n i th, w') ∧ Ch PG w w' := by
  intro n
  induction n with
  | zero =>
    intro i fu w th h hr hi hf
    obtain ⟨fu, rfl⟩ : ∃ z, fu = z + 1 := ⟨fu - 1, by omega⟩
    have h1 : (40 : Int32) < nI i := nI_lt (a := 40) (by omega) (by omega)
    have h2 : ¬ nI i ≤ (40 : Int32) := nI_ge (a := 40) (by omega) (by omega)
    rw [fX7_daysTill_7]
    dsimp only
    rw [if_pos h1]
    unfold fX7_daysTill_33
    rw [if_neg h2]
    exact ⟨w, rfl, Ch.rf⟩
  | succ n ih =>
    intro i fu w th h hr hi hf
    obtain ⟨fu, rfl⟩ : ∃ z, fu = z + 1 := ⟨fu - 1, by omega⟩
    have h1 : ¬ (40 : Int32) < nI i := nI_nlt (a := 40) (by omega) (by omega)
    have h2 : nI i ≤ (40 : Int32) := nI_le (b := 40) (by omega) (by omega)
    rw [fX7_daysTill_7]
    dsimp only
    rw [if_neg h1, h.step, dtS]
    by_cases hk : th 4 < k
    · have hk2 : ¬ k ≤ th 4 := Int32.not_le.mpr hk
      obtain ⟨w1, e1, t1, c1⟩ := goes_ev h hr
      rw [if_neg hk2, if_pos hk, e1, bnd_s, nI_1]
      obtain ⟨w3, e3, c3⟩ := ih (i + 1) fu w1 (dayS ev th) t1 hr.d (by omega) (by omega)
      exact ⟨w3, e3, c1.tr c3⟩
    · have hk2 : k ≤ th 4 := Int32.not_lt.mp hk
      rw [if_pos hk2, if_neg hk]
      unfold fX7_daysTill_33
      rw [if_pos h2]
      exact ⟨w, rfl, Ch.rf⟩
theorem mdt_ev {w : Wd} {p rl : Nat} {ev : Ev} {k : Int32} (h : Rm w rl ev) (hp : p < 6) (hr : RT (thM w p)) : ∃ w', fX7_daysTill 52 (nI p) k w = some (dtS ev k 41 0 (thM w p), w') ∧ Ch PG w w' := by
  obtain ⟨w1, e1, t1, c1⟩ := begins_ev h hp
  obtain ⟨w2, e2, c2⟩ := mdt_loop (k := k) 41 0 FU w1 _ t1 hr (by omega) (by show 41 < 2000; omega)
  refine ⟨w2, ?_, (c1.mono PB_PG).tr c2⟩
  unfold fX7_daysTill
  rw [e1, bnd_s]
  exact e2
/-- what living a life changes -/
def PL (i k : Nat) : Prop := i = 52 ∧ 12 ≤ k ∧ k ≤ 33
theorem PG_PL (i k : Nat) (h : PG i k) : PL i k := by unfold PG at h; unfold PL; omega
theorem PA_PL (i k : Nat) (h : PA i k) : PL i k := PG_PL i k (PA_PG i k h)
theorem m1_nI {i : Nat} (h : i < 2 ^ 31) : ¬ nI i = (-1 : Int32) := fun z => by
  have h1 := nI_pos h
  rw [z] at h1
  exact h1 (by decide)
theorem lives_loop {p rl : Nat} {ev : Ev} {N : Nat} (hN : N < 2 ^ 31) : ∀ (n i fu : Nat) (w : Wd) (th : Nat → Int32), Tm w th p rl ev → RT th → i + n = N → n < fu → ∃ w', fX7_lives_17 52 fu (nI p) (nI N) (nI i) w = some ((), w') ∧ gI w' 52 32 = (if gI w 52 32 = -1 then fiS ev n i th else gI w 52 32) ∧ gI w' 52 33 = (if gI w 52 33 = -1 then fsS ev n i th else gI w 52 33) ∧ gI w' 52 29 = daysS ev n th 4 ∧ gI w' 52 30 = daysS ev n th 5 ∧ Ch PL w w' := by
  intro n
  induction n with
  | zero =>
    intro i fu w th h hr hi hf
    obtain ⟨fu, rfl⟩ : ∃ z, fu = z + 1 := ⟨fu - 1, by omega⟩
    have h1 : nI N ≤ nI i := nI_le (by omega) (by omega)
    rw [fX7_lives_17]
    dsimp only
    rw [if_pos h1]
    refine ⟨w, rfl, ?_, ?_, h.step, h.worn, Ch.rf⟩
    · by_cases a : gI w 52 32 = -1
      · rw [if_pos a, a]; rfl
      · rw [if_neg a]
    · by_cases a : gI w 52 33 = -1
      · rw [if_pos a, a]; rfl
      · rw [if_neg a]
  | succ n ih =>
    intro i fu w th h hr hi hf
    obtain ⟨fu, rfl⟩ : ∃ z, fu = z + 1 := ⟨fu - 1, by omega⟩
    have h1 : ¬ nI N ≤ nI i := nI_ge (by omega) (by omega)
    obtain ⟨w1, e1, t1, c1⟩ := goes_ev h hr
    have hset : ∀ {w9 : Wd} {q : Nat} {v : Int32}, Tm w9 (dayS ev th) p rl ev → (q = 32 ∨ q = 33) → Tm (sI w9 52 q v) (dayS ev th) p rl ev := fun t9 hq => t9.ch (P := fun i k => i = 52 ∧ (k = 32 ∨ k = 33)) (ch_sI ⟨rfl, hq⟩) (fun i k z => by omega)
    -- behind the first sort: the second
    have sec : ∀ w9 : Wd, Tm w9 (dayS ev th) p rl ev → Ch PL w w9 → gI w9 52 32 = gI w 52 32 → gI w9 52 33 = (if gI w 52 33 = -1 then (if goI ev th = 0 then nI i else -1) else gI w 52 33) → ∃ w', fX7_lives_43 (fX7_lives_17 52 fu) 52 (nI p) (nI N) (nI i) w9 = some ((), w') ∧ gI w' 52 32 = (if gI w 52 32 = -1 then fiS ev (n + 1) i th else gI w 52 32) ∧ gI w' 52 33 = (if gI w 52 33 = -1 then fsS ev (n + 1) i th else gI w 52 33) ∧ gI w' 52 29 = daysS ev (n + 1) th 4 ∧ gI w' 52 30 = daysS ev (n + 1) th 5 ∧ Ch PL w w' := by
      intro w9 t9 c9 a2 a3
      have thr : ∀ w8 : Wd, Tm w8 (dayS ev th) p rl ev → Ch PL w w8 → gI w8 52 33 = (if gI w 52 33 = -1 then (if goI ev th = 0 then nI i else -1) else gI w 52 33) → gI w8 52 32 = (if gI w 52 32 = -1 then (if sockS ev (dayS ev th) = 0 then -1 else nI i) else gI w 52 32) → ∃ w', fX7_lives_64 (fX7_lives_17 52 fu) 52 (nI p) (nI N) (nI i) w8 = some ((), w') ∧ gI w' 52 32 = (if gI w 52 32 = -1 then fiS ev (n + 1) i th else gI w 52 32) ∧ gI w' 52 33 = (if gI w 52 33 = -1 then fsS ev (n + 1) i th else gI w 52 33) ∧ gI w' 52 29 = daysS ev (n + 1) th 4 ∧ gI w' 52 30 = daysS ev (n + 1) th 5 ∧ Ch PL w w' := by
        intro w8 t8 c8 b3 b2
        obtain ⟨w', e, r2, r3, r4, r5, c⟩ := ih (i + 1) fu w8 (dayS ev th) t8 hr.d (by omega) (by omega)
        refine ⟨w', ?_, ?_, ?_, r4, r5, c8.tr c⟩
        · unfold fX7_lives_64
          rw [nI_1]
          exact e
        · rw [r2, b2, fiS]
          by_cases a : gI w 52 32 = -1
          · rw [if_pos a, if_pos a]
            by_cases s : sockS ev (dayS ev th) = 0
            · rw [if_pos s, if_pos s, if_pos rfl]
            · rw [if_neg s, if_neg s, if_neg (m1_nI (by omega))]
          · rw [if_neg a, if_neg a, if_neg a]
        · rw [r3, b3, fsS]
          by_cases a : gI w 52 33 = -1
          · rw [if_pos a, if_pos a]
            by_cases s : goI ev th = 0
            · rw [if_pos s, if_pos s, if_neg (m1_nI (by omega))]
            · rw [if_neg s, if_neg s, if_pos rfl]
          · rw [if_neg a, if_neg a, if_neg a]
      unfold fX7_lives_43
      rw [a2]
      by_cases a : gI w 52 32 = -1
      · rw [if_pos a]
        obtain ⟨w8, e8, c8⟩ := msock_ev t9
        have t8 := t9.ca c8
        have c7 := c9.tr (c8.mono PA_PL)
        have q3 : gI w8 52 33 = gI w9 52 33 := c8.I (by unfold PA; omega)
        have q2 : gI w8 52 32 = gI w9 52 32 := c8.I (by unfold PA; omega)
        rw [e8, bnd_s]
        by_cases s : sockS ev (dayS ev th) = 0
        · rw [if_pos s]
          exact thr w8 t8 c7 (q3.trans a3) (by rw [q2, a2, if_pos a, if_pos s, a])
        · rw [if_neg s, lw_e]
          refine thr _ (hset t8 (Or.inl rfl)) (c7.tr (ch_sI ⟨rfl, by omega, by omega⟩)) ?_ ?_
          · rw [gI_sI, if_neg (by omega), q3, a3]
          · rw [gI_sI, if_pos ⟨rfl, rfl⟩, if_pos a, if_neg s]
      · rw [if_neg a]
        exact thr w9 t9 c9 a3 (by rw [a2, if_neg a])
    have q3 : gI w1 52 33 = gI w 52 33 := c1.I (by unfold PG; omega)
    have q2 : gI w1 52 32 = gI w 52 32 := c1.I (by unfold PG; omega)
    have c1 := c1.mono PG_PL
    rw [fX7_lives_17]
    dsimp only
    rw [if_neg h1, e1, bnd_s, q3]
    by_cases g : goI ev th = 0
    · rw [if_pos g]
      by_cases a : gI w 52 33 = -1
      · rw [if_pos a, lw_e]
        refine sec _ (hset t1 (Or.inr rfl)) (c1.tr (ch_sI ⟨rfl, by omega, by omega⟩)) ?_ ?_
        · rw [gI_sI, if_neg (by omega), q2]
        · rw [gI_sI, if_pos ⟨rfl, rfl⟩, if_pos a, if_pos g]
      · rw [if_neg a]
        exact sec _ t1 c1 q2 (by rw [q3, if_neg a])
    · rw [if_neg g]
      refine sec _ t1 c1 q2 ?_
      rw [q3]
      by_cases a : gI w 52 33 = -1
      · rw [if_pos a, if_neg g, a]
      · rw [if_neg a]
theorem lives_ev {w : Wd} {p rl n : Nat} {ev : Ev} (h : Rm w rl ev) (hp : p < 6) (hr : RT (thM w p)) (hn : n ≤ 40) : ∃ w', fX7_lives 52 (nI p) (nI n) w = some ((), w') ∧ gI w' 52 32 = fiS ev n 0 (thM w p) ∧ gI w' 52 33 = fsS ev n 0 (thM w p) ∧ gI w' 52 29 = daysS ev n (thM w p) 4 ∧ gI w' 52 30 = daysS ev n (thM w p) 5 ∧ Ch PL w w' := by
  obtain ⟨w1, e1, t1, c1⟩ := begins_ev h hp
  have c2 : Ch PL w1 (sI (sI w1 52 32 (-1)) 52 33 (-1)) := (ch_sI ⟨rfl, by omega, by omega⟩).tr (ch_sI ⟨rfl, by omega, by omega⟩)
  have t2 : Tm (sI (sI w1 52 32 (-1)) 52 33 (-1)) (thM w p) p rl ev := t1.ch (P := fun i k => i = 52 ∧ (k = 32 ∨ k = 33)) ((ch_sI ⟨rfl, by omega⟩).tr (ch_sI ⟨rfl, by omega⟩)) (fun i k z => by omega)
  obtain ⟨w2, e2, r2, r3, r4, r5, c3⟩ := lives_loop (N := n) (by omega) n 0 FU _ _ t2 hr (by omega) (by show n < 2000; omega)
  have z3 : gI (sI (sI w1 52 32 (-1)) 52 33 (-1)) 52 33 = -1 := by rw [gI_sI, if_pos ⟨rfl, rfl⟩]
  have z2 : gI (sI (sI w1 52 32 (-1)) 52 33 (-1)) 52 32 = -1 := by rw [gI_sI, if_neg (by omega), gI_sI, if_pos ⟨rfl, rfl⟩]
  rw [z2, if_pos rfl] at r2
  rw [z3, if_pos rfl] at r3
  refine ⟨w2, ?_, r2, r3, r4, r5, ((c1.mono PB_PG).mono PG_PL).tr (c2.tr c3)⟩
  unfold fX7_lives
  rw [e1, bnd_s, lw_e, lw_e]
  exact e2
