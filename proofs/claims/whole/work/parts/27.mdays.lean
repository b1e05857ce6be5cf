/-! a day of a walker of the model -/
theorem w9999 (x : Int32) : wi x 0 (9999 : Int32) = bdd x 9999 := wi_bdd x (m := 9999) (by omega)
theorem w99 (x : Int32) : wi x 0 (99 : Int32) = bdd x 99 := wi_bdd x (m := 99) (by omega)
theorem Tm.ca {w w' : Wd} {th : Nat → Int32} {p rl : Nat} {ev : Ev} (h : Tm w th p rl ev) (hc : Ch PA w w') : Tm w' th p rl ev := h.ch hc (fun i k z => by unfold PA at z; omega)
theorem Tm.kind {α : Type} {w : Wd} {th : Nat → Int32} {p rl : Nat} {ev : Ev} (h : Tm w th p rl ev) {f : Int32 → Option α} : dr (gR w 52 9) 8 w (fun a => grd (vin (nI p) (ln a)) (lt (gI w a (nI p).toNatClampNeg) f)) = f (th 0) := by
  obtain ⟨h1, h2, h3, h4, h5, h6, -⟩ := h
  have c5 : (nI p).toNatClampNeg = p := nI_clamp (by omega)
  rw [dg_52_9 h1, grd_t (by rw [ln_57]; exact vin_nI (by omega) (by omega)), c5, lt_e, h6]
theorem Tm.numb {α : Type} {w : Wd} {th : Nat → Int32} {p rl : Nat} {ev : Ev} (h : Tm w th p rl ev) {f : Int32 → Option α} : dr (gR w 52 10) 8 w (fun a => grd (vin ((5 : Int32) * nI p) (ln a)) (f (gI w a ((5 : Int32) * nI p).toNatClampNeg))) = f (th 1) := by
  obtain ⟨h1, h2, h3, h4, h5, h6, h7, -⟩ := h
  have c5 : (nI (5 * p)).toNatClampNeg = 5 * p := nI_clamp (by omega)
  rw [dg_52_10 h1, m5, grd_t (by rw [ln_58]; exact vin_nI (by omega) (by omega)), c5, h7]
theorem asks0_ev {w : Wd} {th : Nat → Int32} {p rl : Nat} {ev : Ev} (h : Tm w th p rl ev) : ∃ w', fX7_asks 52 (0 : Int32) (nI p) w = some (bdd (ev 0 (envS th)) 999, w') ∧ Ch PA w w' := by
  obtain ⟨w', e, c⟩ := asks_ev h (q := 0) (by omega)
  rw [if_neg (by decide), if_pos rfl] at e
  exact ⟨w', e, c⟩
theorem asks1_ev {w : Wd} {th : Nat → Int32} {p rl : Nat} {ev : Ev} (h : Tm w th p rl ev) : ∃ w', fX7_asks 52 (1 : Int32) (nI p) w = some (bdd (ev 1 (envS th)) 99, w') ∧ Ch PA w w' := by
  obtain ⟨w', e, c⟩ := asks_ev h (q := 1) (by omega)
  rw [if_neg (by decide), if_neg (by decide)] at e
  exact ⟨w', e, c⟩
theorem asks2_ev {w : Wd} {th : Nat → Int32} {p rl : Nat} {ev : Ev} (h : Tm w th p rl ev) : ∃ w', fX7_asks 52 (2 : Int32) (nI p) w = some (ev 2 (envS th), w') ∧ Ch PA w w' := by
  obtain ⟨w', e, c⟩ := asks_ev h (q := 2) (by omega)
  rw [if_pos rfl] at e
  exact ⟨w', e, c⟩
theorem mlasts_ev {w : Wd} {th : Nat → Int32} {p rl : Nat} {ev : Ev} (h : Tm w th p rl ev) : ∃ w', fX7_lastsOf 52 (nI p) w = some (lastsS ev th, w') ∧ Ch PA w w' := by
  have n5 : ∀ {w : Wd} {x : Int32}, x ≠ 5 → x = 3 → fX7_lastsOf_26 52 x w = some (0, w) := by
    intro w x h1 _
    unfold fX7_lastsOf_26
    rw [if_neg h1]
  have f97 : ∀ (w : Wd) (x : Int32), fX7_lastsOf_97 52 x w = some (bdd x 9999, w) := by
    intro w x
    unfold fX7_lastsOf_97
    rw [within_ev, bnd_s, w9999]
  have f39 : ∀ x2 : Int32, x2 = th 0 → x2 ≠ 5 → (x2 = 3 → (10 : Int32) ≤ th 2) → ∃ w', fX7_lastsOf_39 52 (nI p) x2 w = some (lastsS ev th, w') ∧ Ch PA w w' := by
    intro x2 h0 h5 h3
    obtain ⟨w1, e1, c1⟩ := asks0_ev h
    have t1 := h.ca c1
    have f56 : ∀ v : Int32, fX7_lastsOf_56 52 (nI p) v w1 = some (bdd (v + th 1) 9999, w1) := by
      intro v
      unfold fX7_lastsOf_56
      rw [t1.numb (f := fun z => fX7_lastsOf_97 52 (v + z) w1), f97]
    refine ⟨w1, ?_, c1⟩
    unfold fX7_lastsOf_39
    rw [e1, bnd_s]
    unfold lastsS lastsK
    rw [← h0]
    by_cases a1 : x2 = 1
    · rw [if_pos a1, if_pos a1, f56]
    rw [if_neg a1, if_neg a1]
    by_cases a3 : x2 = 3
    · have a2 : ¬ x2 = 2 := by rw [a3]; decide
      rw [if_pos a3, if_neg a2, if_pos a3, if_pos (h3 a3), f56]
    rw [if_neg a3]
    by_cases a2 : x2 = 2
    · rw [if_pos a2, if_pos a2, f97]
    rw [if_neg a2, if_neg a2, if_neg a3]
    have t27 : gI w1 52 27 = th 2 := t1.2.2.2.2.2.2.2.1
    by_cases a4 : x2 = 4
    · rw [if_pos a4, if_pos a4, t27, f97]
    rw [if_neg a4, if_neg a4, if_neg h5, f97]
  have t27 : gI w 52 27 = th 2 := h.2.2.2.2.2.2.2.1
  unfold fX7_lastsOf
  rw [h.kind]
  by_cases a5 : th 0 = 5
  · rw [if_pos a5]
    refine ⟨w, ?_, Ch.rf⟩
    unfold fX7_lastsOf_26 lastsS lastsK
    rw [if_pos a5, a5, if_neg (by decide), if_neg (by decide), if_neg (by decide), if_neg (by decide), if_pos rfl, show bdd 999 9999 = 999 by decide +kernel]
  rw [if_neg a5]
  by_cases a3 : th 0 = 3
  · rw [if_pos a3, t27]
    by_cases a10 : (10 : Int32) ≤ th 2
    · rw [if_pos a10]
      exact f39 _ rfl a5 (fun _ => a10)
    · rw [if_neg a10, n5 a5 a3]
      refine ⟨w, ?_, Ch.rf⟩
      unfold lastsS lastsK
      rw [a3, if_neg (by decide), if_neg (by decide), if_pos rfl, if_neg a10]
      rfl
  · rw [if_neg a3]
    exact f39 _ rfl a5 (fun z => absurd z a3)
/-- the ranges that a walker keeps -/
def RT (th : Nat → Int32) : Prop := ∃ n s o : Nat, n ≤ 9 ∧ s ≤ 999 ∧ o ≤ 9999 ∧ th 1 = nI n ∧ th 4 = nI s ∧ th 5 = nI o
theorem bdd_in {n m : Nat} (h : n ≤ m) (hm : m < 2 ^ 31) : bdd (nI n) (nI m) = nI n := by
  unfold bdd
  by_cases hl : n < m
  · have h1 : nI n < nI m := nI_lt hl hm
    rw [if_pos h1]
    by_cases hz : n = 0
    · subst hz; rfl
    · have h2 : (0 : Int32) < nI n := nI_lt (a := 0) (by omega) (by omega)
      rw [if_pos h2]
  · have h1 : ¬ nI n < nI m := nI_nlt (by omega) (by omega)
    rw [if_neg h1, show m = n by omega]
    by_cases hz : n = 0
    · subst hz; rfl
    · have h2 : (0 : Int32) < nI n := nI_lt (a := 0) (by omega) (by omega)
      rw [if_pos h2]
theorem mpace_ev {w : Wd} {th : Nat → Int32} {p rl : Nat} {ev : Ev} (h : Tm w th p rl ev) (hr : RT th) : ∃ w', fX7_paceOf 52 (nI p) w = some (paceS ev th, w') ∧ Ch PA w w' := by
  have f92 : ∀ (w : Wd) (x : Int32), fX7_paceOf_92 52 x w = some (bdd x 99, w) := by
    intro w x
    unfold fX7_paceOf_92
    rw [within_ev, bnd_s, w99]
  unfold fX7_paceOf
  rw [h.kind]
  by_cases a4 : th 0 = 4
  · rw [if_pos a4]
    refine ⟨w, ?_, Ch.rf⟩
    unfold fX7_paceOf_17 paceS paceK
    rw [a4, if_neg (by decide), if_neg (by decide), if_neg (by decide), if_neg (by decide), if_pos rfl]
    rfl
  rw [if_neg a4]
  by_cases a5 : th 0 = 5
  · rw [if_pos a5]
    refine ⟨w, ?_, Ch.rf⟩
    unfold fX7_paceOf_17 paceS paceK
    rw [a5, if_pos rfl, h.numb (f := fun z => some (z, w)), if_neg (by decide), if_neg (by decide), if_neg (by decide), if_neg (by decide), if_pos rfl]
    obtain ⟨n, s, o, h1, h2, h3, h4, -⟩ := hr
    rw [h4]
    have hb : bdd (nI n) 99 = nI n := bdd_in (m := 99) (by omega) (by omega)
    rw [hb]
  rw [if_neg a5]
  obtain ⟨w1, e1, c1⟩ := asks1_ev h
  have t1 := h.ca c1
  have t28 : gI w1 52 28 = th 3 := t1.2.2.2.2.2.2.2.2.1
  refine ⟨w1, ?_, c1⟩
  rw [e1, bnd_s, t28]
  have f56 : ∀ y v : Int32, fX7_paceOf_56 52 (th 0) v y w1 = some (bdd (if th 0 = 1 then y else if th 0 = 2 then v + 2 else if th 0 = 3 then y + 3 else v) 99, w1) := by
    intro y v
    unfold fX7_paceOf_56
    by_cases a1 : th 0 = 1
    · rw [if_pos a1, if_pos a1, f92]
    rw [if_neg a1, if_neg a1]
    by_cases a3 : th 0 = 3
    · have a2 : ¬ th 0 = 2 := by rw [a3]; decide
      rw [if_pos a3, if_neg a2, if_pos a3, f92]
    rw [if_neg a3]
    by_cases a2 : th 0 = 2
    · rw [if_pos a2, if_pos a2, f92]
    rw [if_neg a2, if_neg a2, if_neg a3, f92]
  unfold paceS paceK
  rw [if_neg a4, if_neg a5]
  by_cases hu : th 3 = 0
  · rw [if_pos hu, f56]
    simp only [if_pos hu]
  · rw [if_neg hu, f56]
    simp only [if_neg hu]
theorem stopK5 (u y : Int32) : stopK 5 u y = if u ≤ 0 then 0 else 1 := by
  unfold stopK
  rw [if_neg (show ¬ (5 : Int32) = 1 by decide), if_neg (show ¬ (5 : Int32) = 2 by decide), if_neg (show ¬ (5 : Int32) = 3 by decide), if_neg (show ¬ (5 : Int32) = 4 by decide), if_pos rfl]
theorem mstop_ev {w : Wd} {th : Nat → Int32} {p rl : Nat} {ev : Ev} (h : Tm w th p rl ev) : ∃ w', fX7_isStopped 52 (nI p) w = some (stopS ev th, w') ∧ Ch PA w w' := by
  have t28 : gI w 52 28 = th 3 := h.2.2.2.2.2.2.2.2.1
  unfold fX7_isStopped
  rw [h.kind]
  by_cases a3 : th 0 = 3
  · rw [if_pos a3]
    refine ⟨w, ?_, Ch.rf⟩
    unfold fX7_isStopped_17 stopS stopK
    rw [a3, if_neg (by decide), if_neg (by decide), if_neg (by decide), if_pos rfl]
  rw [if_neg a3]
  by_cases a5 : th 0 = 5
  · rw [if_pos a5]
    refine ⟨w, ?_, Ch.rf⟩
    unfold fX7_isStopped_17 stopS
    rw [a5, if_pos rfl, t28, stopK5]
    by_cases h9 : th 3 ≤ 0
    · rw [if_pos h9, if_pos h9]
    · rw [if_neg h9, if_neg h9]
  rw [if_neg a5]
  obtain ⟨w1, e1, c1⟩ := asks2_ev h
  have t1 := h.ca c1
  have t28 : gI w1 52 28 = th 3 := t1.2.2.2.2.2.2.2.2.1
  refine ⟨w1, ?_, c1⟩
  rw [e1, bnd_s]
  have f49 : ∀ y : Int32, (y = 0 ∨ y = 1) → fX7_isStopped_49 52 (th 0) y w1 = some (stopK (th 0) (th 3) y, w1) := by
    intro y hy
    unfold fX7_isStopped_49 stopK
    rw [if_neg a3, if_neg a5]
    have f85 : fX7_isStopped_85 52 y w1 = some (if y = 0 then (if th 3 ≤ 30 then 0 else 1) else 1, w1) := by
      unfold fX7_isStopped_85 fX7_isStopped_98
      rw [t28]
      by_cases hy0 : y = 0
      · rw [if_pos hy0, if_pos hy0]
        by_cases h : th 3 ≤ 30
        · rw [if_pos h, if_pos h]
        · rw [if_neg h, if_neg h]
      · rw [if_neg hy0, if_neg hy0]
    by_cases a1 : th 0 = 1
    · rw [if_pos a1, if_pos a1]
      unfold fX7_isStopped_71
      rw [t28]
      by_cases hy0 : y = 0
      · rw [if_pos hy0, if_pos hy0]
      · rw [if_neg hy0, if_neg hy0]
        by_cases h : th 3 ≤ 5
        · rw [if_pos h, if_pos h]
        · rw [if_neg h, if_neg h]
    rw [if_neg a1, if_neg a1]
    by_cases a2 : th 0 = 2
    · rw [if_pos a2, if_pos a2, f85]
    rw [if_neg a2, if_neg a2]
    by_cases a4 : th 0 = 4
    · rw [if_pos a4, if_pos a4, f85]
    rw [if_neg a4, if_neg a4, grd_t hy]
  unfold stopS
  by_cases h9 : ev 2 (envS th) = 0
  · rw [if_pos h9, if_pos h9, f49 _ (Or.inl rfl)]
  · rw [if_neg h9, if_neg h9, f49 _ (Or.inr rfl)]
theorem msock_ev {w : Wd} {th : Nat → Int32} {p rl : Nat} {ev : Ev} (h : Tm w th p rl ev) : ∃ w', fX7_isInSocks 52 (nI p) w = some (sockS ev th, w') ∧ Ch PA w w' := by
  obtain ⟨w1, e1, c1⟩ := mlasts_ev h
  have t30 : gI w 52 30 = th 5 := h.2.2.2.2.2.2.2.2.2.2.1
  refine ⟨w1, ?_, c1⟩
  unfold fX7_isInSocks sockS
  rw [e1, bnd_s, t30]
  by_cases h9 : th 5 < lastsS ev th
  · rw [if_pos h9, if_pos h9]
  · rw [if_neg h9, if_neg h9]
