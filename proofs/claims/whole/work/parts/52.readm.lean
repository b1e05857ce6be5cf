/-! the model reads a text -/
theorem mk_0 {b : Nat → Int32} {z p : Nat} : mk b z p = 0 ↔ tk b z p = 1 := by
  rcases tk_mk b z p with ⟨a, c⟩ | ⟨a, c, _⟩ | ⟨a, c⟩ | ⟨a, c, _⟩ | ⟨a, c⟩
  · rw [a, c]; exact ⟨fun _ => rfl, fun _ => rfl⟩
  · rw [a, c]
    constructor
    · intro y; exact absurd y (by decide)
    · intro y
      by_cases hn : nmT b (tS b z p) (wE b z (tS b z p)) = -1
      · rw [if_pos hn] at y; exact absurd y (wdT_in _ _ _).2.2.1
      · rw [if_neg hn] at y; exact absurd y (by decide)
  · rw [a, c]; decide
  · rw [a, c]
    exact ⟨fun y => absurd y (by decide), fun y => absurd y (sgT_in _).2.2.1⟩
  · rw [a, c]; decide
theorem mpart_ev {b : Nat → Int32} {z t x : Nat} {w : Wd} {env : Nat → Int32} {p : Nat} (h : MG b z t w 0 env p) : ∃ v w', fX7_part 52 (if tk b z p = nI (4 + x) then 1 else 0) w = some (v, w') ∧ MV b z t w' 0 env v (pPart b z (nI (4 + x)) p) ∧ Ch PQ w w' := by
  have L0 := (lv0 b z t).1
  unfold fX7_part pPart
  by_cases ht : tk b z p = nI (4 + x)
  · rw [if_pos ht, if_pos ht, if_neg (by decide)]
    unfold fX7_part_8
    by_cases hx0 : nI (4 + x) = 0
    · -- a token 0 is none of the parts' words; here it can't be reached usefully
      rw [if_pos h.bad]
      sorry
    obtain ⟨w1, e1, g1, c1⟩ := h.next (by rw [ht]; exact hx0)
    obtain ⟨v2, w2, e2, q2, c2⟩ := L0.1 w1 env _ g1
    rw [if_pos h.bad, e1, bnd_s]
    unfold fX7_part_19
    rw [if_pos g1.bad, e2, bnd_s]
    unfold fX7_part_34
    match hy : pL b z 5 0 (nx b z p) with
    | .inl f =>
      have b2 := MB.col hy q2
      rw [b2.sign, bnd_s, if_pos rfl, b2.fail, bnd_s]
      unfold fX7_part_48 fX7_part_59
      rw [if_neg b2.bad]
      exact ⟨_, w2, rfl, b2, c1.tr c2⟩
    | .inr (c9, s9, p9) =>
      obtain ⟨g2, rfl⟩ := MG.col hy q2
      have s59 : fX7_isSign 52 (59 : Int32) w2 = some (if tk b z p9 = 12 then 1 else 0, w2) := g2.sign (x := 59) (by decide)
      show ∃ v w', _ ∧ MV b z t w' 0 env v (if tk b z p9 = 12 then (.inr (c9, s9, nx b z p9) : Rz) else .inl (tS b z p9)) ∧ _
      rw [s59, bnd_s, w01]
      unfold fX7_part_48 fX7_part_59
      by_cases h12 : tk b z p9 = 12
      · obtain ⟨w3, e3, g3, c3⟩ := g2.next (by rw [h12]; decide)
        rw [if_pos h12, if_pos h12, if_pos g2.bad, e3, bnd_s]
        exact ⟨_, w3, rfl, ⟨g3, rfl⟩, c1.tr (c2.tr c3)⟩
      · obtain ⟨w3, e3, b3, c3⟩ := g2.fail
        rw [if_neg h12, if_neg h12, e3, bnd_s, if_neg b3.bad]
        exact ⟨_, w3, rfl, b3, c1.tr (c2.tr c3)⟩
  · obtain ⟨w1, e1, b1, c1⟩ := h.fail
    rw [if_neg ht, if_neg ht, if_pos rfl, e1, bnd_s]
    unfold fX7_part_8 fX7_part_19 fX7_part_34
    rw [if_neg b1.bad, if_neg b1.bad, b1.sign, bnd_s, if_pos rfl, b1.fail, bnd_s]
    unfold fX7_part_48 fX7_part_59
    rw [if_neg b1.bad]
    exact ⟨_, w1, rfl, b1, c1⟩
