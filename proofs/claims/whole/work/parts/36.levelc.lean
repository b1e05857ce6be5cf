/-! the class's reader, level by level -/
theorem CG.apt {b : Nat → Int32} {z j : Nat} {w : Wd} {d : Nat} {c : List Int32} {p : Nat} {o : Int32} (h : CG b z j w d c p) (ht : tk b z p ≠ 1) : ∃ w1 w', fX3_append (24 + 3 * j) o w = some ((), w1) ∧ fX1_take 5 w1 = some ((), w') ∧ CG b z j w' d (c ++ [o]) (nx b z p) ∧ Ch (PZ j) w w' := by
  obtain ⟨h0, h1, h2, h3, h4, h5, h6, h7, h8⟩ := h
  have hz := h1.2.1
  obtain ⟨n1, n2, n3⟩ := nx_le (b := b) h5
  have n3 := n3 ht
  obtain ⟨w1, e, t, c1⟩ := ap_ev (o := o) h1.1 h0 h7 (by omega)
  have e5 : ∀ k, gI w1 5 k = gI w 5 k := fun k => c1.I (by unfold PTx; omega)
  have c1 := c1.mono PTx_PZ
  obtain ⟨w', e2, l, c2⟩ := take_ev (bz_PZ h0 h1 c1) n2 (by rw [e5]; exact h4.1)
  refine ⟨w1, w', e, e2, ⟨h0, (bz_PZ h0 h1 c1).x c2, ?_, ?_, l, n2, ?_, t.ch c2 (fun i k q => by unfold PX at q; omega), by simp only [List.length_append, List.length_cons, List.length_nil]; omega⟩, c1.tr (c2.mono PX_PZ)⟩
  · rw [r8_X c2 (by unfold PX; omega), r8_X c1 (by unfold PZ PTx; omega)]; exact h2
  · rw [c2.I (by unfold PX; omega), e5]; exact h3
  · rw [c2.I (by unfold PX; omega), e5]; exact h6
theorem one_bad {b : Nat → Int32} {z j : Nat} {call : Nat → Nat → Wd → Option (Unit × Wd)} {w : Wd} {d f : Nat} (h : CB b z j w d f) : ∃ w', fX1_readOne call 5 w = some ((), w') ∧ CB b z j w' d f ∧ Ch (PZ j) w w' := by
  obtain ⟨w1, e1, b1, c1⟩ := h.fail
  refine ⟨w1, ?_, b1, c1⟩
  unfold fX1_readOne
  rw [h.tok, if_neg (by decide), if_neg (by decide), if_neg (by decide), if_neg (by decide), e1, bnd_s]
theorem one_ev {b : Nat → Int32} {z j d k : Nat} {call : Nat → Nat → Wd → Option (Unit × Wd)} {g : Bool} {lo : Nat → Nat → Rz} (hg : g = true → d < 5) (hg2 : ¬ g = true → d = 5) (l5 : g = true → ImF b z j (call 5 5) (d + 1) (lo 5)) (l0 : g = true → ImF b z j (call 0 5) (d + 1) (lo 0)) (k5 : g = true → ∀ p, p ≤ z → Gd z k p (lo 5 p)) : ImF b z j (fX1_readOne call 5) d (pO b z g lo) := by
  refine ⟨fun w c p h => ?_, fun w f h => one_bad h⟩
  have hpz := h.2.2.2.2.2.1
  have hcl := h.2.2.2.2.2.2.2.2
  have am5 := h.2.2.2.2.1.2.2.2
  obtain ⟨n1, n2, n3⟩ := nx_le (b := b) hpz
  have dn : nI (d + 1) - 1 = nI d := nI_pred d
  unfold fX1_readOne pO
  rw [h.tok]
  by_cases a2 : tk b z p = 2
  · rw [if_pos a2, if_pos a2, h.into, am5 (Or.inl a2)]
    obtain ⟨w1, w2, e1, e2, g2, c2⟩ := h.apt (o := 16 + am b z p) (by rw [a2]; decide)
    rw [e1, bnd_s, e2, bnd_s]
    exact ⟨w2, rfl, g2, c2⟩
  rw [if_neg a2, if_neg a2]
  by_cases a3 : tk b z p = 3
  · rw [if_pos a3, if_pos a3, h.into, am5 (Or.inr a3)]
    obtain ⟨w1, w2, e1, e2, g2, c2⟩ := h.apt (o := am b z p) (by rw [a3]; decide)
    rw [e1, bnd_s, e2, bnd_s]
    exact ⟨w2, rfl, g2, c2⟩
  rw [if_neg a3, if_neg a3]
  by_cases a14 : tk b z p = 14
  · have n3 := n3 (by rw [a14]; decide)
    rw [if_pos a14, if_pos a14]
    by_cases hgt : g = true
    · rw [if_pos hgt]
      obtain ⟨w1, e1, g1, c1⟩ := open_good h (hg hgt)
      obtain ⟨w2, e2, q2, c2⟩ := (l5 hgt).1 w1 _ _ g1
      rw [e1, bnd_s, if_neg (by decide), e2, bnd_s]
      match hx : lo 5 (nx b z p) with
      | .inl f =>
        have b2 := CB.col hx q2
        obtain ⟨w3, e3, b3, c3⟩ := b2.app (o := 7)
        obtain ⟨b4, c4⟩ := b3.setD (d2 := d)
        rw [b2.into, e3, bnd_s, lw_e, b3.2.2.2.1, dn]
        exact ⟨_, rfl, b4, c1.tr (c2.tr (c3.tr c4))⟩
      | .inr (c9, s9, p9) =>
        have g2 := CG.col hx q2
        obtain ⟨x1, x2, x3, -⟩ := k5 hgt _ n2 c9 s9 p9 hx
        obtain ⟨w3, e3, g3, c3⟩ := g2.app (o := 7) (by simp only [List.length_append] at hcl ⊢; omega)
        obtain ⟨g4, c4⟩ := g3.setD (d2 := d)
        rw [g2.into, e3, bnd_s, lw_e, g3.2.2.2.1, dn]
        rw [List.append_assoc] at g4
        exact ⟨_, rfl, g4, c1.tr (c2.tr (c3.tr c4))⟩
    · rw [if_neg hgt]
      have hd := hg2 hgt
      subst hd
      obtain ⟨w1, e1, b1, c1⟩ := open_full h
      rw [e1, bnd_s, if_pos rfl]
      exact ⟨w1, rfl, b1, c1⟩
  rw [if_neg a14, if_neg a14]
  by_cases a10 : tk b z p = 10
  · have n3 := n3 (by rw [a10]; decide)
    rw [if_pos a10, if_pos a10]
    by_cases hgt : g = true
    · rw [if_pos hgt]
      obtain ⟨w1, e1, g1, c1⟩ := open_good h (hg hgt)
      obtain ⟨w2, e2, q2, c2⟩ := (l0 hgt).1 w1 _ _ g1
      rw [e1, bnd_s, if_neg (by decide), e2, bnd_s]
      match hx : lo 0 (nx b z p) with
      | .inl f =>
        have b2 := CB.col hx q2
        obtain ⟨w3, e3, b3, c3⟩ := expect_bad (t := 11) b2 (by decide)
        obtain ⟨b4, c4⟩ := b3.setD (d2 := d)
        rw [e3, bnd_s, lw_e, b3.2.2.2.1, dn]
        exact ⟨_, rfl, b4, c1.tr (c2.tr (c3.tr c4))⟩
      | .inr (c9, s9, p9) =>
        have g2 := CG.col hx q2
        obtain ⟨w3, e3, g3, c3⟩ := expect_good (t := 11) g2
        rw [e3, bnd_s, lw_e]
        show ∃ w', _ ∧ CQ b z j w' d c (if tk b z p9 = 11 then (.inr (c9, s9, nx b z p9) : Rz) else .inl (tS b z p9)) ∧ _
        by_cases a11 : tk b z p9 = 11
        · rw [if_pos a11] at g3 ⊢
          obtain ⟨g4, c4⟩ := g3.setD (d2 := d)
          rw [g3.2.2.2.1, dn]
          exact ⟨_, rfl, g4, c1.tr (c2.tr (c3.tr c4))⟩
        · rw [if_neg a11] at g3 ⊢
          obtain ⟨g4, c4⟩ := g3.setD (d2 := d)
          rw [g3.2.2.2.1, dn]
          exact ⟨_, rfl, g4, c1.tr (c2.tr (c3.tr c4))⟩
    · rw [if_neg hgt]
      have hd := hg2 hgt
      subst hd
      obtain ⟨w1, e1, b1, c1⟩ := open_full h
      rw [e1, bnd_s, if_pos rfl]
      exact ⟨w1, rfl, b1, c1⟩
  rw [if_neg a10, if_neg a10]
  obtain ⟨w1, e1, b1, c1⟩ := h.fail
  rw [e1, bnd_s]
  exact ⟨w1, rfl, b1, c1⟩
theorem not_ev {b : Nat → Int32} {z j d k : Nat} {call : Nat → Nat → Wd → Option (Unit × Wd)} {g : Bool} {sum : Nat → Rz} {lo : Nat → Nat → Rz} (hg : g = true → d < 5) (hg2 : ¬ g = true → d = 5) (hS : ImF b z j (call 3 5) d sum) (kS : ∀ p, p ≤ z → Gd z k p (sum p)) (l2 : g = true → ImF b z j (call 2 5) (d + 1) (lo 2)) (k2 : g = true → ∀ p, p ≤ z → Gd z (k + 1) p (lo 2 p)) : ImF b z j (fX1_readNot call 5) d (pN b z g sum lo) := by
  have dn : nI (d + 1) - 1 = nI d := nI_pred d
  refine ⟨fun w c p h => ?_, fun w f h => ?_⟩
  · have hpz := h.2.2.2.2.2.1
    have hcl := h.2.2.2.2.2.2.2.2
    obtain ⟨n1, n2, n3⟩ := nx_le (b := b) hpz
    unfold fX1_readNot pN
    rw [h.tok]
    by_cases a9 : tk b z p = 9
    · have n3 := n3 (by rw [a9]; decide)
      rw [if_pos a9, if_pos a9]
      by_cases hgt : g = true
      · rw [if_pos hgt]
        obtain ⟨w1, e1, g1, c1⟩ := open_good h (hg hgt)
        obtain ⟨w2, e2, q2, c2⟩ := (l2 hgt).1 w1 _ _ g1
        rw [e1, bnd_s, if_neg (by decide), e2, bnd_s]
        match hx : lo 2 (nx b z p) with
        | .inl f =>
          have b2 := CB.col hx q2
          obtain ⟨w3, e3, b3, c3⟩ := b2.app (o := 6)
          obtain ⟨b4, c4⟩ := b3.setD (d2 := d)
          rw [b2.into, e3, bnd_s, lw_e, b3.2.2.2.1, dn]
          exact ⟨_, rfl, b4, c1.tr (c2.tr (c3.tr c4))⟩
        | .inr (c9, s9, p9) =>
          have g2 := CG.col hx q2
          obtain ⟨x1, x2, x3, -⟩ := k2 hgt _ n2 c9 s9 p9 hx
          obtain ⟨w3, e3, g3, c3⟩ := g2.app (o := 6) (by simp only [List.length_append] at hcl ⊢; omega)
          obtain ⟨g4, c4⟩ := g3.setD (d2 := d)
          rw [g2.into, e3, bnd_s, lw_e, g3.2.2.2.1, dn]
          rw [List.append_assoc] at g4
          exact ⟨_, rfl, g4, c1.tr (c2.tr (c3.tr c4))⟩
      · rw [if_neg hgt]
        have hd := hg2 hgt
        subst hd
        obtain ⟨w1, e1, b1, c1⟩ := open_full h
        rw [e1, bnd_s, if_pos rfl]
        exact ⟨w1, rfl, b1, c1⟩
    rw [if_neg a9, if_neg a9]
    obtain ⟨w1, e1, q1, c1⟩ := hS.1 w _ _ h
    rw [e1, bnd_s]
    match hx : sum p with
    | .inl f =>
      have b1 := CB.col hx q1
      rw [b1.tok, if_neg (by decide), if_neg (by decide)]
      exact ⟨w1, rfl, b1, c1⟩
    | .inr (c9, s9, p9) =>
      have g1 := CG.col hx q1
      have hcl1 := g1.2.2.2.2.2.2.2.2
      obtain ⟨x1, x2, x3, -⟩ := kS _ hpz c9 s9 p9 hx
      obtain ⟨m1, m2, m3⟩ := nx_le (b := b) x3
      have f78 : ∀ o : Int32, tk b z p9 ≠ 1 → ∃ w', fX1_readNot_78 call 5 o w1 = some ((), w') ∧ CQ b z j w' d c (bR (sum (nx b z p9)) (fun c2 s2 p2 => .inr (c9 ++ (c2 ++ [o]), fun e => op2 o (s9 e) (s2 e), p2))) ∧ Ch (PZ j) w w' := by
        intro o hne
        have m3 := m3 hne
        obtain ⟨w2, e2, g2, c2⟩ := g1.take
        obtain ⟨w3, e3, q3, c3⟩ := hS.1 w2 _ _ g2
        unfold fX1_readNot_78
        rw [e2, bnd_s, e3, bnd_s]
        match hy : sum (nx b z p9) with
        | .inl f =>
          have b3 := CB.col hy q3
          obtain ⟨w4, e4, b4, c4⟩ := b3.app (o := o)
          rw [b3.into, e4, bnd_s]
          exact ⟨w4, rfl, b4, c1.tr (c2.tr (c3.tr c4))⟩
        | .inr (c8, s8, p8) =>
          have g3 := CG.col hy q3
          obtain ⟨y1, y2, y3, -⟩ := kS _ m2 c8 s8 p8 hy
          obtain ⟨w4, e4, g4, c4⟩ := g3.app (o := o) (by simp only [List.length_append] at hcl1 ⊢; omega)
          rw [g3.into, e4, bnd_s]
          have g4 : CG b z j w4 d (c ++ (c9 ++ (c8 ++ [o]))) p8 := by
            have : c ++ (c9 ++ (c8 ++ [o])) = c ++ c9 ++ c8 ++ [o] := by simp only [List.append_assoc]
            rw [this]
            exact g4
          exact ⟨w4, rfl, g4, c1.tr (c2.tr (c3.tr c4))⟩
      show ∃ w', _ ∧ CQ b z j w' d c (if tk b z p9 = 16 ∨ tk b z p9 = 17 then bR (sum (nx b z p9)) (fun c2 s2 p2 => .inr (c9 ++ (c2 ++ [opC (tk b z p9)]), fun e => op2 (opC (tk b z p9)) (s9 e) (s2 e), p2)) else .inr (c9, s9, p9)) ∧ _
      rw [g1.tok]
      by_cases t16 : tk b z p9 = 16
      · rw [if_pos t16, if_pos (Or.inl t16)]
        have ho : opC (tk b z p9) = 11 := by rw [t16]; rfl
        rw [ho]
        unfold fX1_readNot_62
        rw [g1.tok, if_pos t16]
        exact f78 11 (by rw [t16]; decide)
      rw [if_neg t16]
      by_cases t17 : tk b z p9 = 17
      · rw [if_pos t17, if_pos (Or.inr t17)]
        have ho : opC (tk b z p9) = 12 := by rw [t17]; rfl
        rw [ho]
        unfold fX1_readNot_62
        rw [g1.tok, if_neg t16]
        exact f78 12 (by rw [t17]; decide)
      · rw [if_neg t17, if_neg (fun y => y.elim t16 t17)]
        exact ⟨w1, rfl, g1, c1⟩
  · obtain ⟨w1, e1, b1, c1⟩ := hS.2 w f h
    refine ⟨w1, ?_, b1, c1⟩
    unfold fX1_readNot
    rw [h.tok, if_neg (by decide), e1, bnd_s, b1.tok, if_neg (by decide), if_neg (by decide)]
