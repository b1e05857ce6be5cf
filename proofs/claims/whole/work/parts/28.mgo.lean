/-! the model's day passes -/
theorem Tm.set {w : Wd} {th th2 : Nat → Int32} {p rl q : Nat} {ev : Ev} {v : Int32} (h : Tm w th p rl ev) (hq : 29 ≤ q ∧ q ≤ 31) (h2 : ∀ k, k < 7 → th2 k = if k + 25 = q then v else th k) : Tm (sI w 52 q v) th2 p rl ev := by
  obtain ⟨h1, h3, h4, h5, h6, h7, h8, h9, h10, h11, h12, h13⟩ := h
  have e : ∀ i k, ¬ (i = 52 ∧ k = q) → gI (sI w 52 q v) i k = gI w i k := fun i k hn => by rw [gI_sI, if_neg hn]
  have e2 : ∀ k, k < 7 → k ≠ 0 → k ≠ 1 → gI w 52 (k + 25) = th k → gI (sI w 52 q v) 52 (k + 25) = th2 k := by
    intro k hk _ _ hh
    rw [gI_sI, h2 k hk]
    by_cases hz : k + 25 = q
    · rw [if_pos ⟨rfl, hz⟩, if_pos hz]
    · rw [if_neg (fun z => hz z.2), if_neg hz]
      exact hh
  refine ⟨h1, h3, h4, ?_, h6.ch (P := fun i _ => i = 52) (ch_sI rfl) (fun k => ⟨by omega, by omega⟩), ?_, ?_, e2 2 (by omega) (by omega) (by omega) h9, e2 3 (by omega) (by omega) (by omega) h10, e2 4 (by omega) (by omega) (by omega) h11, e2 5 (by omega) (by omega) (by omega) h12, e2 6 (by omega) (by omega) (by omega) h13⟩
  · rw [e _ _ (by omega)]; exact h5
  · rw [e _ _ (by omega), h2 0 (by omega), if_neg (by omega)]; exact h7
  · rw [e _ _ (by omega), h2 1 (by omega), if_neg (by omega)]; exact h8
theorem RT.day {th : Nat → Int32} {ev : Ev} (hr : RT th) : ∀ {l a : Nat}, lastsS ev th = nI l → l ≤ 9999 → paceS ev th = nI a → a ≤ 99 → RT (dayS ev th) ∧ (¬ lastsS ev th ≤ th 5 → (if paceS ev th ≤ lastsS ev th - th 5 then paceS ev th else lastsS ev th - th 5) = moreS ev th ∧ wi (th 4 + moreS ev th) 0 (999 : Int32) = (if th 4 + moreS ev th < 999 then th 4 + moreS ev th else 999) ∧ wi (th 5 + moreS ev th) 0 (9999 : Int32) = (if th 5 + moreS ev th < 9999 then th 5 + moreS ev th else 9999)) := by
  intro l a hl hl2 ha ha2
  obtain ⟨n, s, o, h1, h2, h3, h4, h5, h6⟩ := hr
  have cap : ∀ {k m : Nat}, k < 2 ^ 31 → m < 2 ^ 31 → wi (nI k) 0 (nI m) = (if nI k < nI m then nI k else nI m) ∧ ∃ j, j ≤ m ∧ (if nI k < nI m then nI k else nI m) = nI j := by
    intro k m hk hm
    have hp : (0 : Int32) ≤ nI k := nI_pos' hk
    unfold wi
    rw [if_pos hp]
    by_cases hkm : k < m
    · rw [if_pos (nI_lt hkm hm), if_pos (nI_le (by omega) hm)]
      exact ⟨rfl, k, by omega, rfl⟩
    · rw [if_neg (nI_nlt (by omega) hk)]
      refine ⟨?_, m, Nat.le_refl _, rfl⟩
      by_cases hkm2 : k ≤ m
      · rw [if_pos (nI_le hkm2 hm), show k = m by omega]
      · rw [if_neg (nI_ge (by omega) hk)]
  have hmore : ¬ lastsS ev th ≤ th 5 → (∃ m, m ≤ 99 ∧ moreS ev th = nI m) ∧ (if paceS ev th ≤ lastsS ev th - th 5 then paceS ev th else lastsS ev th - th 5) = moreS ev th := by
    intro hn
    rw [hl, h6] at hn
    have hol : o < l := by
      refine Nat.lt_of_not_le (fun z => hn (nI_le z (by omega)))
    unfold moreS
    rw [hl, h6, ha, pk_sub (by omega)]
    by_cases hla : l - o < a
    · rw [if_pos (nI_lt hla (by omega)), if_neg (nI_ge hla (by omega))]
      exact ⟨⟨l - o, by omega, rfl⟩, rfl⟩
    · rw [if_neg (nI_nlt (by omega) (by omega)), if_pos (nI_le (by omega) (by omega))]
      exact ⟨⟨a, by omega, rfl⟩, rfl⟩
  constructor
  · by_cases hg : goI ev th = 0
    · refine ⟨n, s, o, h1, h2, h3, ?_, ?_, ?_⟩
      · unfold dayS; rw [if_neg (by decide), if_pos hg]; exact h4
      · unfold dayS; rw [if_neg (by decide), if_pos hg]; exact h5
      · unfold dayS; rw [if_neg (by decide), if_pos hg]; exact h6
    · have hn : ¬ lastsS ev th ≤ th 5 := fun z => hg (by unfold goI; rw [if_pos z])
      obtain ⟨⟨m, hm, em⟩, -⟩ := hmore hn
      obtain ⟨-, j1, hj1, e1⟩ := cap (k := s + m) (m := 999) (by omega) (by omega)
      obtain ⟨-, j2, hj2, e2⟩ := cap (k := o + m) (m := 9999) (by omega) (by omega)
      refine ⟨n, j1, j2, h1, hj1, hj2, ?_, ?_, ?_⟩
      · unfold dayS; rw [if_neg (by decide), if_neg hg, if_neg (by decide), if_neg (by decide)]; exact h4
      · unfold dayS; rw [if_neg (by decide), if_neg hg, if_pos rfl, em, h5, nI_add]; exact e1
      · unfold dayS; rw [if_neg (by decide), if_neg hg, if_neg (by decide), if_pos rfl, em, h6, nI_add]; exact e2
  · intro hn
    obtain ⟨⟨m, hm, em⟩, e⟩ := hmore hn
    refine ⟨e, ?_, ?_⟩
    · rw [em, h5, nI_add]
      exact (cap (k := s + m) (m := 999) (by omega) (by omega)).1
    · rw [em, h6, nI_add]
      exact (cap (k := o + m) (m := 9999) (by omega) (by omega)).1
theorem RT.d {th : Nat → Int32} {ev : Ev} (hr : RT th) : RT (dayS ev th) := by
  obtain ⟨l, hl, el, -⟩ := bdd_nI (lastsK (th 0) (th 1) (th 2) (bdd (ev 0 (envS th)) 999)) (m := 9999) (by omega)
  obtain ⟨a, ha, ea, -⟩ := bdd_nI (paceK (th 0) (th 1) (th 3) (bdd (ev 1 (envS th)) 99)) (m := 99) (by omega)
  exact (hr.day el hl ea ha).1
theorem goes_ev {w : Wd} {th : Nat → Int32} {p rl : Nat} {ev : Ev} (h : Tm w th p rl ev) (hr : RT th) : ∃ w', fX7_goes 52 (nI p) w = some (goI ev th, w') ∧ Tm w' (dayS ev th) p rl ev ∧ Ch PG w w' := by
  obtain ⟨l, hl, el, -⟩ := bdd_nI (lastsK (th 0) (th 1) (th 2) (bdd (ev 0 (envS th)) 999)) (m := 9999) (by omega)
  obtain ⟨a, ha, ea, -⟩ := bdd_nI (paceK (th 0) (th 1) (th 3) (bdd (ev 1 (envS th)) 99)) (m := 99) (by omega)
  obtain ⟨-, hmv⟩ := hr.day el hl ea ha
  obtain ⟨w1, e1, c1⟩ := mlasts_ev h
  have t1 := h.ca c1
  obtain ⟨w2, e2, c2⟩ := mpace_ev t1 hr
  have t2 := t1.ca c2
  obtain ⟨w3, e3, c3⟩ := mstop_ev t2
  have t3 := t2.ca c3
  have c3 := ((c1.tr c2).tr c3).mono PA_PG
  have t30 : gI w3 52 30 = th 5 := t3.2.2.2.2.2.2.2.2.2.2.1
  have t29 : gI w3 52 29 = th 4 := t3.2.2.2.2.2.2.2.2.2.1
  have fin : ∀ (w9 : Wd) (th9 : Nat → Int32) (x : Int32), Tm w9 th9 p rl ev → Ch PG w w9 → x = goI ev th → (∀ k, k < 7 → dayS ev th k = if k = 6 then th9 6 + 1 else th9 k) → ∃ w', fX7_goes_98 52 x w9 = some (goI ev th, w') ∧ Tm w' (dayS ev th) p rl ev ∧ Ch PG w w' := by
    intro w9 th9 x t9 c9 hx hd
    have t31 : gI w9 52 31 = th9 6 := t9.2.2.2.2.2.2.2.2.2.2.2
    refine ⟨sI w9 52 31 (gI w9 52 31 + 1), ?_, t9.set ⟨by omega, by omega⟩ (fun k hk => ?_), c9.tr (ch_sI ⟨rfl, by omega, by omega⟩)⟩
    · unfold fX7_goes_98
      rw [lw_e, hx, grd_t (goI_bit ev th)]
    · rw [t31, hd k hk]
      by_cases h6 : k = 6
      · rw [if_pos h6, if_pos (by omega)]
      · rw [if_neg h6, if_neg (by omega)]
  have stay : goI ev th = 0 → ∃ w', fX7_goes_32 52 (lastsS ev th) (paceS ev th) w3 = some (goI ev th, w') ∧ Tm w' (dayS ev th) p rl ev ∧ Ch PG w w' := by
    intro h0
    unfold fX7_goes_32 fX7_goes_33
    rw [if_pos rfl]
    refine fin w3 th 0 t3 c3 h0.symm (fun k hk => ?_)
    unfold dayS
    rw [if_pos h0]
  unfold fX7_goes
  rw [e1, bnd_s, e2, bnd_s, e3, bnd_s, t30]
  by_cases hs : stopS ev th = 0
  · rw [if_pos hs]
    by_cases hn : lastsS ev th ≤ th 5
    · rw [if_pos hn]
      exact stay (by unfold goI; rw [if_pos hn])
    · rw [if_neg hn]
      have hg : goI ev th = 1 := by unfold goI; rw [if_neg hn, if_pos hs]
      obtain ⟨m1, m2, m3⟩ := hmv hn
      unfold fX7_goes_33
      rw [if_neg (by decide), t30]
      have f60 : ∃ w', fX7_goes_60 52 1 (moreS ev th) w3 = some (goI ev th, w') ∧ Tm w' (dayS ev th) p rl ev ∧ Ch PG w w' := by
        unfold fX7_goes_60
        rw [t29, within_ev, bnd_s, lw_e, m2]
        rw [show gI (sI w3 52 29 (if th 4 + moreS ev th < 999 then th 4 + moreS ev th else 999)) 52 30 = th 5 by rw [gI_sI, if_neg (by omega)]; exact t30]
        rw [within_ev, bnd_s, lw_e, m3]
        have t4 : Tm (sI w3 52 29 (if th 4 + moreS ev th < 999 then th 4 + moreS ev th else 999)) (fun k => if k = 4 then (if th 4 + moreS ev th < 999 then th 4 + moreS ev th else 999) else th k) p rl ev := t3.set ⟨by omega, by omega⟩ (fun k _ => by
          by_cases h4 : k = 4
          · subst h4; simp
          · simp [h4])
        have c4 := c3.tr (ch_sI (P := PG) (w := w3) (i := 52) (k := 29) (v := if th 4 + moreS ev th < 999 then th 4 + moreS ev th else 999) ⟨rfl, by omega, by omega⟩)
        refine fin _ (fun k => if k = 5 then (if th 5 + moreS ev th < 9999 then th 5 + moreS ev th else 9999) else if k = 4 then (if th 4 + moreS ev th < 999 then th 4 + moreS ev th else 999) else th k) 1 (t4.set ⟨by omega, by omega⟩ (fun k _ => ?_)) (c4.tr (ch_sI ⟨rfl, by omega, by omega⟩)) hg.symm (fun k hk => ?_)
        · by_cases h5 : k = 5
          · subst h5; simp
          · simp [h5]
        · unfold dayS
          rw [if_neg (show ¬ goI ev th = 0 by rw [hg]; decide)]
          by_cases h6 : k = 6
          · subst h6; simp
          · rw [if_neg h6, if_neg h6]
            by_cases h4 : k = 4
            · subst h4; simp
            · by_cases h5 : k = 5
              · subst h5; simp
              · simp [h4, h5]
      by_cases hp : paceS ev th ≤ lastsS ev th - th 5
      · rw [if_pos hp] at m1
        rw [if_pos hp, m1]
        exact f60
      · rw [if_neg hp] at m1
        rw [if_neg hp, m1]
        exact f60
  · rw [if_neg hs]
    refine stay ?_
    unfold goI
    rw [if_neg hs]
    by_cases hn : lastsS ev th ≤ th 5
    · rw [if_pos hn]
    · rw [if_neg hn]
