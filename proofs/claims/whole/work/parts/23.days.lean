/-! a day of a walker: what both sides mean -/
abbrev Ev : Type := Nat → (Nat → Int32) → Int32
def bdd (x m : Int32) : Int32 := if 0 < (if x < m then x else m) then (if x < m then x else m) else 0
def lastsK (kd nb tw v : Int32) : Int32 := if kd = 1 then v + nb else if kd = 2 then v / 2 else if kd = 3 then (if 10 ≤ tw then v + nb else 0) else if kd = 4 then v / 2 + tw else if kd = 5 then 999 else v
def paceK (kd nb uw v : Int32) : Int32 := if kd = 1 then (if uw = 0 then 2 * v else v) else if kd = 2 then v + 2 else if kd = 3 then (if uw = 0 then 2 * v else v) + 3 else if kd = 4 then 1 else if kd = 5 then nb else v
def stopK (kd uw y : Int32) : Int32 := if kd = 1 then (if y = 0 then 0 else if uw ≤ 5 then 0 else 1) else if kd = 2 then (if y = 0 then (if uw ≤ 30 then 0 else 1) else 1) else if kd = 3 then 0 else if kd = 4 then (if y = 0 then (if uw ≤ 30 then 0 else 1) else 1) else if kd = 5 then (if uw ≤ 0 then 0 else 1) else y
/-- the names out of a walker in thought: 0 kind, 1 number, 2 told, 3 untold, 4 step, 5 worn, 6 day -/
def envS (th : Nat → Int32) (q : Nat) : Int32 := if q = 0 then th 2 else if q = 1 then th 3 else if q = 2 then th 4 else if q = 3 then th 1 else if q = 4 then th 6 else th 5
def lastsS (ev : Ev) (th : Nat → Int32) : Int32 := bdd (lastsK (th 0) (th 1) (th 2) (bdd (ev 0 (envS th)) 999)) 9999
def paceS (ev : Ev) (th : Nat → Int32) : Int32 := bdd (paceK (th 0) (th 1) (th 3) (bdd (ev 1 (envS th)) 99)) 99
def stopS (ev : Ev) (th : Nat → Int32) : Int32 := stopK (th 0) (th 3) (if ev 2 (envS th) = 0 then 0 else 1)
def sockS (ev : Ev) (th : Nat → Int32) : Int32 := if th 5 < lastsS ev th then 0 else 1
def goI (ev : Ev) (th : Nat → Int32) : Int32 := if lastsS ev th ≤ th 5 then 0 else if stopS ev th = 0 then 1 else 0
def moreS (ev : Ev) (th : Nat → Int32) : Int32 := if lastsS ev th - th 5 < paceS ev th then lastsS ev th - th 5 else paceS ev th
def dayS (ev : Ev) (th : Nat → Int32) : Nat → Int32 := fun k =>
  if k = 6 then th 6 + 1 else if goI ev th = 0 then th k else if k = 4 then (if th 4 + moreS ev th < 999 then th 4 + moreS ev th else 999) else if k = 5 then (if th 5 + moreS ev th < 9999 then th 5 + moreS ev th else 9999) else th k
def daysS (ev : Ev) : Nat → (Nat → Int32) → Nat → Int32
  | 0, th => th
  | n + 1, th => daysS ev n (dayS ev th)
/-- in which of n days (from i) one is first in socks behind it -/
def fiS (ev : Ev) : Nat → Nat → (Nat → Int32) → Int32
  | 0, _, _ => -1
  | n + 1, i, th => if sockS ev (dayS ev th) = 0 then fiS ev n (i + 1) (dayS ev th) else nI i
def fsS (ev : Ev) : Nat → Nat → (Nat → Int32) → Int32
  | 0, _, _ => -1
  | n + 1, i, th => if goI ev th = 0 then nI i else fsS ev n (i + 1) (dayS ev th)
def heS (ev : Ev) : Nat → (Nat → Int32) → Int32
  | 0, _ => 0
  | n + 1, th => if goI ev th = 0 then 1 else if sockS ev (dayS ev th) = 0 then heS ev n (dayS ev th) else 1
def dtS (ev : Ev) (k : Int32) : Nat → Nat → (Nat → Int32) → Int32
  | 0, _, _ => -1
  | n + 1, i, th => if th 4 < k then dtS ev k n (i + 1) (dayS ev th) else nI i
def foS (ev : Ev) (f : Nat → Int32) : Nat → Nat → (Nat → Int32) → Int32
  | 0, _, _ => -1
  | n + 1, i, th => if dayS ev th 4 = f i then foS ev f n (i + 1) (dayS ev th) else nI i
/-! the class's thought -/
def Tc (w : Wd) (th : Nat → Int32) (j : Nat) (ev : Ev) : Prop := St w ∧ j < 6 ∧ gR w 50 7 = some (24 + 3 * j) ∧ TEv w j ev ∧ ∀ k, k < 7 → gI w 50 k = th k
theorem Tc.env {w : Wd} {th : Nat → Int32} {j : Nat} {ev : Ev} (h : Tc w th j ev) : envT w = envS th := by
  obtain ⟨-, -, -, -, h⟩ := h
  funext q
  simp only [envT, envS, h 1 (by omega), h 2 (by omega), h 3 (by omega), h 4 (by omega), h 5 (by omega), h 6 (by omega)]
theorem Tc.c51 {w w' : Wd} {th : Nat → Int32} {j : Nat} {ev : Ev} (h : Tc w th j ev) (hc : Ch (fun i _ => i = 51) w w') : Tc w' th j ev := by
  obtain ⟨h1, h2, h3, h4, h5⟩ := h
  refine ⟨hc.St h1, h2, ?_, h4.ch hc (fun i k _ _ => by omega) h2, fun k hk => ?_⟩
  · rw [hc.R (fun h9 => by have : 50 = 51 := h9.1; omega)]; exact h3
  · rw [hc.I (by omega)]; exact h5 k hk
theorem bdd_ev {x m : Int32} {w : Wd} : fX6_bounded x m w = some (bdd x m, w) := rfl
theorem lastsK_ev {v : Int32} {w : Wd} : fX4_lastsByKind 50 v w = some (lastsK (gI w 50 0) (gI w 50 1) (gI w 50 2) v, w) := by
  unfold fX4_lastsByKind lastsK
  by_cases h1 : gI w 50 0 = 1
  · rw [if_pos h1, if_pos h1]
  rw [if_neg h1, if_neg h1]
  by_cases h2 : gI w 50 0 = 2
  · rw [if_pos h2, if_pos h2]
  rw [if_neg h2, if_neg h2]
  by_cases h3 : gI w 50 0 = 3
  · rw [if_pos h3, if_pos h3]
    by_cases h : (10 : Int32) ≤ gI w 50 2
    · rw [if_pos h, if_pos h]
    · rw [if_neg h, if_neg h]
  rw [if_neg h3, if_neg h3]
  by_cases h4 : gI w 50 0 = 4
  · rw [if_pos h4, if_pos h4]
  rw [if_neg h4, if_neg h4]
  by_cases h5 : gI w 50 0 = 5
  · rw [if_pos h5, if_pos h5]
  rw [if_neg h5, if_neg h5]
theorem lasts_ev {w : Wd} {th : Nat → Int32} {j : Nat} {ev : Ev} (h : Tc w th j ev) : ∃ w', fX4_lasts 50 w = some (lastsS ev th, w') ∧ Ch (fun i _ => i = 51) w w' := by
  have h0 := h
  obtain ⟨h1, h2, h3, h4, h5⟩ := h0
  obtain ⟨w1, e1, c1⟩ := vop_ev2 h1 h2 h3 h4 (p := 0) (by omega)
  have e1 : fX4_valueOfPart 50 0 w = some (ev 0 (envT w), w1) := e1
  have t1 := h.c51 c1
  refine ⟨w1, ?_, c1⟩
  unfold fX4_lasts
  rw [e1, bnd_s, bdd_ev, bnd_s, lastsK_ev, bnd_s, bdd_ev, bnd_s, h.env, t1.2.2.2.2 0 (by omega), t1.2.2.2.2 1 (by omega), t1.2.2.2.2 2 (by omega)]
  rfl
theorem paceK14_ev {v y : Int32} {w : Wd} : fX4_paceByKind_14 50 v y w = some (if gI w 50 0 = 1 then y else if gI w 50 0 = 2 then v + 2 else if gI w 50 0 = 3 then y + 3 else if gI w 50 0 = 4 then 1 else if gI w 50 0 = 5 then gI w 50 1 else v, w) := by
  unfold fX4_paceByKind_14
  by_cases h1 : gI w 50 0 = 1
  · rw [if_pos h1, if_pos h1]
  rw [if_neg h1, if_neg h1]
  by_cases h2 : gI w 50 0 = 2
  · rw [if_pos h2, if_pos h2]
  rw [if_neg h2, if_neg h2]
  by_cases h3 : gI w 50 0 = 3
  · rw [if_pos h3, if_pos h3]
  rw [if_neg h3, if_neg h3]
  by_cases h4 : gI w 50 0 = 4
  · rw [if_pos h4, if_pos h4]
  rw [if_neg h4, if_neg h4]
  by_cases h5 : gI w 50 0 = 5
  · rw [if_pos h5, if_pos h5]
  rw [if_neg h5, if_neg h5]
theorem paceK_ev {v : Int32} {w : Wd} : fX4_paceByKind 50 v w = some (paceK (gI w 50 0) (gI w 50 1) (gI w 50 3) v, w) := by
  unfold fX4_paceByKind paceK
  by_cases h : gI w 50 3 = 0
  · rw [if_pos h, paceK14_ev]
    simp only [if_pos h]
  · rw [if_neg h, paceK14_ev]
    simp only [if_neg h]
theorem pace_ev {w : Wd} {th : Nat → Int32} {j : Nat} {ev : Ev} (h : Tc w th j ev) : ∃ w', fX4_pace 50 w = some (paceS ev th, w') ∧ Ch (fun i _ => i = 51) w w' := by
  have h0 := h
  obtain ⟨h1, h2, h3, h4, h5⟩ := h0
  obtain ⟨w1, e1, c1⟩ := vop_ev2 h1 h2 h3 h4 (p := 1) (by omega)
  have e1 : fX4_valueOfPart 50 1 w = some (ev 1 (envT w), w1) := e1
  have t1 := h.c51 c1
  refine ⟨w1, ?_, c1⟩
  unfold fX4_pace
  rw [e1, bnd_s, bdd_ev, bnd_s, paceK_ev, bnd_s, bdd_ev, bnd_s, h.env, t1.2.2.2.2 0 (by omega), t1.2.2.2.2 1 (by omega), t1.2.2.2.2 3 (by omega)]
  rfl
theorem stop13_ev {y : Int32} {w : Wd} (hy : y = 0 ∨ y = 1) : fX4_isStopped_13 50 y w = some (stopK (gI w 50 0) (gI w 50 3) y, w) := by
  unfold fX4_isStopped_13 stopK
  by_cases h1 : gI w 50 0 = 1
  · rw [if_pos h1, if_pos h1]
    by_cases hy0 : y = 0
    · rw [if_pos hy0, if_pos hy0]
    · rw [if_neg hy0, if_neg hy0]
      by_cases h : gI w 50 3 ≤ 5
      · rw [if_pos h, if_pos h]
      · rw [if_neg h, if_neg h]
  rw [if_neg h1, if_neg h1]
  have hb : ∀ K : Wd → Option (Int32 × Wd), (∀ w, K w = some (1, w)) → (if y = 0 then (if gI w 50 3 ≤ 30 then some ((0 : Int32), w) else K w) else K w) = some (if y = 0 then (if gI w 50 3 ≤ 30 then 0 else 1) else 1, w) := by
    intro K hK
    by_cases hy0 : y = 0
    · rw [if_pos hy0, if_pos hy0]
      by_cases h : gI w 50 3 ≤ 30
      · rw [if_pos h, if_pos h]
      · rw [if_neg h, if_neg h, hK]
    · rw [if_neg hy0, if_neg hy0, hK]
  by_cases h2 : gI w 50 0 = 2
  · rw [if_pos h2, if_pos h2]
    exact hb _ (fun _ => rfl)
  rw [if_neg h2, if_neg h2]
  by_cases h3 : gI w 50 0 = 3
  · rw [if_pos h3, if_pos h3]
  rw [if_neg h3, if_neg h3]
  by_cases h4 : gI w 50 0 = 4
  · rw [if_pos h4, if_pos h4]
    exact hb _ (fun _ => rfl)
  rw [if_neg h4, if_neg h4]
  by_cases h5 : gI w 50 0 = 5
  · rw [if_pos h5, if_pos h5]
    by_cases h : gI w 50 3 ≤ 0
    · rw [if_pos h, if_pos h]
    · rw [if_neg h, if_neg h]
  rw [if_neg h5, if_neg h5, grd_t hy]
theorem stop_ev {w : Wd} {th : Nat → Int32} {j : Nat} {ev : Ev} (h : Tc w th j ev) : ∃ w', fX4_isStopped 50 w = some (stopS ev th, w') ∧ Ch (fun i _ => i = 51) w w' := by
  have h0 := h
  obtain ⟨h1, h2, h3, h4, h5⟩ := h0
  obtain ⟨w1, e1, c1⟩ := vop_ev2 h1 h2 h3 h4 (p := 2) (by omega)
  have e1 : fX4_valueOfPart 50 2 w = some (ev 2 (envT w), w1) := e1
  have t1 := h.c51 c1
  refine ⟨w1, ?_, c1⟩
  unfold fX4_isStopped stopS
  rw [e1, bnd_s, h.env]
  by_cases h9 : ev 2 (envS th) = 0
  · rw [if_pos h9, if_pos h9, stop13_ev (Or.inl rfl), t1.2.2.2.2 0 (by omega), t1.2.2.2.2 3 (by omega)]
  · rw [if_neg h9, if_neg h9, stop13_ev (Or.inr rfl), t1.2.2.2.2 0 (by omega), t1.2.2.2.2 3 (by omega)]
theorem sock_ev {w : Wd} {th : Nat → Int32} {j : Nat} {ev : Ev} (h : Tc w th j ev) : ∃ w', fX4_isInSocks 50 w = some (sockS ev th, w') ∧ Ch (fun i _ => i = 51) w w' := by
  obtain ⟨w1, e1, c1⟩ := lasts_ev h
  refine ⟨w1, ?_, c1⟩
  unfold fX4_isInSocks sockS
  rw [e1, bnd_s, h.2.2.2.2 5 (by omega)]
  by_cases h9 : th 5 < lastsS ev th
  · rw [if_pos h9, if_pos h9]
  · rw [if_neg h9, if_neg h9]
theorem goI_bit (ev : Ev) (th : Nat → Int32) : goI ev th = 0 ∨ goI ev th = 1 := by
  unfold goI
  split
  · exact Or.inl rfl
  · split
    · exact Or.inr rfl
    · exact Or.inl rfl
/-- an own field of the thought changes -/
theorem Tc.set {w : Wd} {th th2 : Nat → Int32} {j q : Nat} {ev : Ev} {v : Int32} (h : Tc w th j ev) (hq : 4 ≤ q ∧ q ≤ 6) (h2 : ∀ k, k < 7 → th2 k = if k = q then v else th k) : Tc (sI w 50 q v) th2 j ev := by
  obtain ⟨h1, h3, h4, h5, h6⟩ := h
  refine ⟨h1, h3, h4, h5.ch (P := fun i _ => i = 50) (ch_sI rfl) (fun i k _ _ => by omega) h3, fun k hk => ?_⟩
  rw [gI_sI, h2 k hk]
  by_cases e : k = q
  · rw [if_pos ⟨rfl, e⟩, if_pos e]
  · rw [if_neg (fun z => e z.2), if_neg e]
    exact h6 k hk
theorem pass_ev {w : Wd} {th : Nat → Int32} {j : Nat} {ev : Ev} (h : Tc w th j ev) : ∃ w', fX4_passDay 50 w = some (goI ev th, w') ∧ Tc w' (dayS ev th) j ev ∧ Ch PD w w' := by
  obtain ⟨w1, e1, c1⟩ := lasts_ev h
  have t1 := h.c51 c1
  have hPD : ∀ i k : Nat, i = 51 → PD i k := fun i k h => Or.inr h
  -- the day's end: one day more
  have fin : ∀ (w9 : Wd) (th9 : Nat → Int32) (x : Int32), Tc w9 th9 j ev → Ch PD w w9 → x = goI ev th → (∀ k, k < 7 → dayS ev th k = if k = 6 then th9 6 + 1 else th9 k) → ∃ w', fX4_passDay_76 50 x w9 = some (goI ev th, w') ∧ Tc w' (dayS ev th) j ev ∧ Ch PD w w' := by
    intro w9 th9 x t9 c9 hx hd
    refine ⟨sI w9 50 6 (gI w9 50 6 + 1), ?_, t9.set ⟨by omega, by omega⟩ (fun k hk => ?_), c9.tr (ch_sI (Or.inl ⟨rfl, by omega, by omega⟩))⟩
    · unfold fX4_passDay_76
      rw [lw_e, hx, grd_t (goI_bit ev th)]
    · rw [t9.2.2.2.2 6 (by omega)]
      exact hd k hk
  have stay : ∀ w9 : Wd, Tc w9 th j ev → Ch PD w w9 → goI ev th = 0 → ∃ w', fX4_passDay_25 50 (lastsS ev th) 0 w9 = some (goI ev th, w') ∧ Tc w' (dayS ev th) j ev ∧ Ch PD w w' := by
    intro w9 t9 c9 h0
    unfold fX4_passDay_25
    rw [if_pos rfl]
    refine fin w9 th 0 t9 c9 h0.symm (fun k hk => ?_)
    unfold dayS
    rw [if_pos h0]
  unfold fX4_passDay
  rw [e1, bnd_s, t1.2.2.2.2 5 (by omega)]
  by_cases hl : lastsS ev th ≤ th 5
  · rw [if_pos hl]
    exact stay w1 t1 (c1.mono hPD) (by unfold goI; rw [if_pos hl])
  · rw [if_neg hl]
    obtain ⟨w2, e2, c2⟩ := stop_ev t1
    have t2 := t1.c51 c2
    have c2 := (c1.tr c2).mono hPD
    rw [e2, bnd_s]
    by_cases hs : stopS ev th = 0
    · rw [if_pos hs]
      have hg : goI ev th = 1 := by unfold goI; rw [if_neg hl, if_pos hs]
      obtain ⟨w3, e3, c3⟩ := pace_ev t2
      have t3 := t2.c51 c3
      have c3 := c2.tr (c3.mono hPD)
      unfold fX4_passDay_25
      rw [if_neg (by decide), e3, bnd_s, lt_e, t3.2.2.2.2 5 (by omega)]
      have hm : (if lastsS ev th - th 5 < paceS ev th then lastsS ev th - th 5 else paceS ev th) = moreS ev th := rfl
      rw [hm, lw_e, t3.2.2.2.2 4 (by omega), lw_e]
      have t4 : Tc (sI w3 50 4 (if th 4 + moreS ev th < 999 then th 4 + moreS ev th else 999)) (fun k => if k = 4 then (if th 4 + moreS ev th < 999 then th 4 + moreS ev th else 999) else th k) j ev := t3.set ⟨by omega, by omega⟩ (fun k _ => rfl)
      have c4 := c3.tr (ch_sI (P := PD) (w := w3) (i := 50) (k := 4) (v := if th 4 + moreS ev th < 999 then th 4 + moreS ev th else 999) (Or.inl ⟨rfl, by omega, by omega⟩))
      have t4w := t4.2.2.2.2 5 (by omega)
      simp only [] at t4w
      rw [t4w]
      rw [if_neg (show ¬ (5 = 4) by omega)]
      refine fin _ (fun k => if k = 5 then (if th 5 + moreS ev th < 9999 then th 5 + moreS ev th else 9999) else if k = 4 then (if th 4 + moreS ev th < 999 then th 4 + moreS ev th else 999) else th k) 1 (t4.set ⟨by omega, by omega⟩ (fun k _ => rfl)) (c4.tr (ch_sI (Or.inl ⟨rfl, by omega, by omega⟩))) hg.symm (fun k hk => ?_)
      unfold dayS
      rw [if_neg (show ¬ goI ev th = 0 by rw [hg]; decide)]
      by_cases h6 : k = 6
      · subst h6; simp
      · rw [if_neg h6, if_neg h6]
        by_cases h4 : k = 4
        · subst h4; simp
        · by_cases h5 : k = 5
          · subst h5; simp
          · simp [h4, h5]
    · rw [if_neg hs]
      exact stay w2 t2 c2 (by unfold goI; rw [if_neg hl, if_neg hs])
