/-! the model reads: level 1 -/
theorem matom1_ev {b : Nat → Int32} {z t : Nat} {lo : Nat → Nat → Rz} (l5 : ImM b z t (fX7_atom2 52) (1 + 1) (lo 5)) (l0 : ImM b z t (fX7_either2 52) (1 + 1) (lo 0)) : ImM b z t (fX7_atom1 52) 1 (pO b z true lo) := by
  refine ⟨fun w env p h => ?_, fun w env f h => ?_⟩
  · have s45 : fX7_isSign 52 (45 : Int32) w = some (if tk b z p = 14 then 1 else 0, w) := h.sign (x := 45) (by decide)
    have s40 : fX7_isSign 52 (40 : Int32) w = some (if tk b z p = 10 then 1 else 0, w) := h.sign (x := 40) (by decide)
    have dn : nI (1 + 1) - 1 = nI 1 := nI_pred 1
    unfold fX7_atom1 pO
    rw [s45, bnd_s, w01]
    by_cases a14 : tk b z p = 14
    · rw [if_pos a14, if_neg (show ¬ tk b z p = 2 by rw [a14]; decide), if_neg (show ¬ tk b z p = 3 by rw [a14]; decide), if_pos a14, if_pos rfl]
      obtain ⟨w1, e1, g1, c1⟩ := mopen_good h (by omega) (by rw [a14]; decide)
      obtain ⟨v2, w2, e2, q2, c2⟩ := l5.1 w1 env _ g1
      rw [e1, bnd_s, if_neg (by decide), e2, bnd_s, lt_e]
      unfold fX7_atom1_161
      match hx : lo 5 (nx b z p) with
      | .inl f =>
        have b2 := MB.col hx q2
        obtain ⟨b3, c3⟩ := b2.setD (d2 := 1)
        rw [b2.2.2.1, dn, lw_e]
        exact ⟨_, _, rfl, b3, c1.tr (c2.tr c3)⟩
      | .inr (c9, s9, p9) =>
        obtain ⟨g2, rfl⟩ := MG.col hx q2
        obtain ⟨g3, c3⟩ := g2.setD (d2 := 1)
        rw [g2.2.2.1, dn, lw_e]
        exact ⟨_, _, rfl, ⟨g3, rfl⟩, c1.tr (c2.tr c3)⟩
    rw [if_neg a14, s40, bnd_s, w01]
    by_cases a10 : tk b z p = 10
    · rw [if_pos a10, if_neg (show ¬ tk b z p = 2 by rw [a10]; decide), if_neg (show ¬ tk b z p = 3 by rw [a10]; decide), if_neg a14, if_pos a10, if_pos rfl]
      obtain ⟨w1, e1, g1, c1⟩ := mopen_good h (by omega) (by rw [a10]; decide)
      obtain ⟨v2, w2, e2, q2, c2⟩ := l0.1 w1 env _ g1
      rw [e1, bnd_s, if_neg (by decide), e2, bnd_s]
      match hx : lo 0 (nx b z p) with
      | .inl f =>
        have b2 := MB.col hx q2
        obtain ⟨b3, c3⟩ := b2.setD (d2 := 1)
        rw [b2.sign, bnd_s, if_pos rfl, b2.fail, bnd_s]
        unfold fX7_atom1_71 fX7_atom1_161
        rw [b2.2.2.1, dn, lw_e, if_neg b3.bad]
        exact ⟨_, _, rfl, b3, c1.tr (c2.tr c3)⟩
      | .inr (c9, s9, p9) =>
        obtain ⟨g2, rfl⟩ := MG.col hx q2
        have s41 : fX7_isSign 52 (41 : Int32) w2 = some (if tk b z p9 = 11 then 1 else 0, w2) := g2.sign (x := 41) (by decide)
        rw [s41, bnd_s, w01]
        show ∃ v w', _ ∧ MV b z t w' 1 env v (if tk b z p9 = 11 then (.inr (c9, s9, nx b z p9) : Rz) else .inl (tS b z p9)) ∧ _
        unfold fX7_atom1_71 fX7_atom1_161
        by_cases a11 : tk b z p9 = 11
        · rw [if_pos a11, if_pos a11]
          obtain ⟨g3, c3⟩ := g2.setD (d2 := 1)
          obtain ⟨w4, e4, g4, c4⟩ := g3.next (by rw [a11]; decide)
          rw [g2.2.2.1, dn, lw_e, if_pos g3.bad, e4, bnd_s]
          exact ⟨_, w4, rfl, ⟨g4, rfl⟩, c1.tr (c2.tr (c3.tr c4))⟩
        · rw [if_neg a11, if_neg a11]
          obtain ⟨w3, e3, b3, c3⟩ := g2.fail
          obtain ⟨b4, c4⟩ := b3.setD (d2 := 1)
          rw [e3, bnd_s, b3.2.2.1, dn, lw_e, if_neg b4.bad]
          exact ⟨_, _, rfl, b4, c1.tr (c2.tr (c3.tr c4))⟩
    rw [if_neg a10, if_pos h.bad, h.kind]
    by_cases a2 : tk b z p = 2
    · rw [if_pos (mk_2.mpr a2), if_pos a2, lt_e]
      obtain ⟨w1, e1, g1, c1⟩ := h.next (by rw [a2]; decide)
      rw [e1, bnd_s]
      unfold fX7_atom1_161
      exact ⟨_, w1, rfl, ⟨g1, h.num a2⟩, c1⟩
    rw [if_neg (fun y => a2 (mk_2.mp y)), if_neg a2]
    unfold fX7_atom1_123
    rw [if_pos h.bad, h.kind]
    by_cases m1 : mk b z p = 1
    · rw [if_pos m1]
      obtain ⟨n1, n2⟩ := mname_ev h m1
      by_cases a3 : tk b z p = 3
      · obtain ⟨w1, e1, g1, c1⟩ := h.next (by rw [a3]; decide)
        rw [n1 a3, bnd_s, if_pos h.bad, e1, bnd_s, if_pos a3]
        unfold fX7_atom1_161
        exact ⟨_, w1, rfl, ⟨g1, rfl⟩, c1⟩
      · obtain ⟨w1, e1, b1, c1⟩ := n2 a3
        rw [e1, bnd_s, if_neg b1.bad, if_neg a3, if_neg a14, if_neg a10]
        unfold fX7_atom1_161
        exact ⟨_, w1, rfl, b1, c1⟩
    · have a3 : ¬ tk b z p = 3 := fun y => m1 (mk_3.mp y).1
      obtain ⟨w1, e1, b1, c1⟩ := h.fail
      rw [if_neg m1, if_neg a3, if_neg a14, if_neg a10]
      unfold fX7_atom1_157 fX7_atom1_161
      rw [e1, bnd_s]
      exact ⟨_, w1, rfl, b1, c1⟩
  · refine ⟨0, w, ?_, h, Ch.rf⟩
    unfold fX7_atom1
    rw [h.sign, bnd_s, if_pos rfl, h.sign, bnd_s, if_pos rfl, if_neg h.bad]
    unfold fX7_atom1_123
    rw [if_neg h.bad]
    unfold fX7_atom1_157 fX7_atom1_161
    rw [h.fail, bnd_s]
theorem mterm1_ev {b : Nat → Int32} {z t k : Nat} {sp : Nat → Rz} (h1 : ImM b z t (fX7_atom1 52) 1 sp) (hG : ∀ p, p ≤ z → Gd z k p (sp p)) : ImM b z t (fX7_term1 52) 1 (many b z opT sp) := by
  refine mmany_ev (F := fX7_term1_5 52) ⟨fun n x w env p h => ?_, fun n x w env f h => ?_⟩ rfl rfl h1 hG (fun w => rfl)
  · have s : fX7_isSign 52 (42 : Int32) w = some (if tk b z p = 15 then 1 else 0, w) := h.sign (x := 42) (by decide)
    rw [fX7_term1_5]
    dsimp only
    rw [s, bnd_s, w01]
    unfold opT
    by_cases ht : tk b z p = 15
    · rw [if_pos ht, if_pos ht, if_neg (by decide)]
      rfl
    · rw [if_neg ht, if_neg ht, if_pos rfl]
  · rw [fX7_term1_5]
    dsimp only
    rw [h.sign, bnd_s, if_pos rfl]
theorem madded1_ev {b : Nat → Int32} {z t k : Nat} {sp : Nat → Rz} (h1 : ImM b z t (fX7_term1 52) 1 sp) (hG : ∀ p, p ≤ z → Gd z k p (sp p)) : ImM b z t (fX7_added1 52) 1 (many b z opS sp) := by
  refine mmany_ev (F := fX7_added1_5 52) ⟨fun n x w env p h => ?_, fun n x w env f h => ?_⟩ rfl rfl h1 hG (fun w => rfl)
  · have s : fX7_isSign 52 (43 : Int32) w = some (if tk b z p = 13 then 1 else 0, w) := h.sign (x := 43) (by decide)
    have s2 : fX7_isSign 52 (45 : Int32) w = some (if tk b z p = 14 then 1 else 0, w) := h.sign (x := 45) (by decide)
    have e43 : (43 : Int64) = (43 : Int32).toInt64 := by decide
    rw [fX7_added1_5]
    dsimp only
    rw [s, bnd_s, w01]
    unfold opS
    by_cases ht : tk b z p = 13
    · have hs := (tk_s (x := 43) (by decide)).mpr ht
      have hL := h.2.2.2.2.1.2.2.2.1 hs.1
      rw [if_pos ht, if_pos ht, if_neg (by decide)]
      unfold fX7_added1_23 fX7_added1_39 fX7_added1_62
      rw [hL, hs.2, e43, if_pos ((lgeq _ _).mpr rfl)]
      rfl
    rw [if_neg ht, if_neg ht, s2, bnd_s, w01]
    by_cases h2 : tk b z p = 14
    · have hs := (tk_s (x := 45) (by decide)).mpr h2
      have hL := h.2.2.2.2.1.2.2.2.1 hs.1
      rw [if_pos h2, if_pos h2, if_neg (by decide)]
      unfold fX7_added1_23 fX7_added1_39 fX7_added1_62
      rw [hL, hs.2, e43, if_neg (fun y => absurd ((eq64 _ _).mp ((lgeq _ _).mp y)) (by decide))]
      rfl
    · rw [if_neg h2, if_neg h2, if_pos rfl]
  · rw [fX7_added1_5]
    dsimp only
    rw [h.sign, bnd_s, if_pos rfl, h.sign, bnd_s, if_pos rfl]
theorem mboth1_ev {b : Nat → Int32} {z t k : Nat} {sp : Nat → Rz} (h1 : ImM b z t (fX7_not1 52) 1 sp) (hG : ∀ p, p ≤ z → Gd z k p (sp p)) : ImM b z t (fX7_both1 52) 1 (many b z opB sp) := by
  refine mmany_ev (F := fX7_both1_5 52) ⟨fun n x w env p h => ?_, fun n x w env f h => ?_⟩ rfl rfl h1 hG (fun w => rfl)
  · have s : fX7_isWord 52 (97 : Int32) (110 : Int32) (100 : Int32) (0 : Int32) (0 : Int32) (0 : Int32) (0 : Int32) (0 : Int32) w = some (if tk b z p = 8 then 1 else 0, w) := h.word (k := 11) (by omega)
    rw [fX7_both1_5]
    dsimp only
    rw [s, bnd_s, w01]
    unfold opB
    by_cases ht : tk b z p = 8
    · rw [if_pos ht, if_pos ht, if_neg (by decide)]
      congr 1
      funext _ w6
      congr 1
      funext x7 w8
      unfold fX7_both1_44 fX7_both1_45
      have e : op2 14 x x7 = if x = 0 ∨ x7 = 0 then 0 else 1 := rfl
      rw [e]
      by_cases hx : x = 0
      · rw [if_pos hx, if_pos (Or.inl hx)]
      · rw [if_neg hx]
        by_cases hy : x7 = 0
        · rw [if_pos hy, if_pos (Or.inr hy)]
        · rw [if_neg hy, if_neg (fun q => q.elim hx hy)]
    · rw [if_neg ht, if_neg ht, if_pos rfl]
  · rw [fX7_both1_5]
    dsimp only
    rw [h.word, bnd_s, if_pos rfl]
theorem meither1_ev {b : Nat → Int32} {z t k : Nat} {sp : Nat → Rz} (h1 : ImM b z t (fX7_both1 52) 1 sp) (hG : ∀ p, p ≤ z → Gd z k p (sp p)) : ImM b z t (fX7_either1 52) 1 (many b z opE sp) := by
  refine mmany_ev (F := fX7_either1_5 52) ⟨fun n x w env p h => ?_, fun n x w env f h => ?_⟩ rfl rfl h1 hG (fun w => rfl)
  · have s : fX7_isWord 52 (111 : Int32) (114 : Int32) (0 : Int32) (0 : Int32) (0 : Int32) (0 : Int32) (0 : Int32) (0 : Int32) w = some (if tk b z p = 7 then 1 else 0, w) := h.word (k := 10) (by omega)
    rw [fX7_either1_5]
    dsimp only
    rw [s, bnd_s, w01]
    unfold opE
    by_cases ht : tk b z p = 7
    · rw [if_pos ht, if_pos ht, if_neg (by decide)]
      congr 1
      funext _ w6
      congr 1
      funext x7 w8
      unfold fX7_either1_39 fX7_either1_44
      have e : op2 13 x x7 = if x = 0 ∧ x7 = 0 then 0 else 1 := rfl
      rw [e]
      by_cases hx : x = 0
      · rw [if_pos hx]
        by_cases hy : x7 = 0
        · rw [if_pos hy, if_pos ⟨hx, hy⟩]
        · rw [if_neg hy, if_neg (fun q => hy q.2)]
      · rw [if_neg hx, if_neg (fun q => hx q.1)]
    · rw [if_neg ht, if_neg ht, if_pos rfl]
  · rw [fX7_either1_5]
    dsimp only
    rw [h.word, bnd_s, if_pos rfl]
theorem mnot1_ev {b : Nat → Int32} {z t : Nat} {sum : Nat → Rz} {lo : Nat → Nat → Rz} (hS : ImM b z t (fX7_added1 52) 1 sum) (l2 : ImM b z t (fX7_not2 52) (1 + 1) (lo 2)) : ImM b z t (fX7_not1 52) 1 (pN b z true sum lo) := by
  refine ⟨fun w env p h => ?_, fun w env f h => ?_⟩
  · have s9 : fX7_isWord 52 (110 : Int32) (111 : Int32) (116 : Int32) (0 : Int32) (0 : Int32) (0 : Int32) (0 : Int32) (0 : Int32) w = some (if tk b z p = 9 then 1 else 0, w) := h.word (k := 12) (by omega)
    have e60 : (60 : Int64) = (60 : Int32).toInt64 := by decide
    unfold fX7_not1 pN
    rw [s9, bnd_s, w01]
    by_cases a9 : tk b z p = 9
    · rw [if_pos a9, if_pos a9]
      obtain ⟨w1, e1, g1, c1⟩ := mopen_good h (by omega) (by rw [a9]; decide)
      obtain ⟨v2, w2, e2, q2, c2⟩ := l2.1 w1 env _ g1
      have dn : nI (1 + 1) - 1 = nI 1 := nI_pred 1
      rw [if_pos rfl, e1, bnd_s, if_neg (by decide), e2, bnd_s]
      have fin : ∀ w9 : Wd, (if v2 = 0 then some ((1 : Int32), w9) else some ((0 : Int32), w9)) = some (op1 6 v2, w9) := fun w9 => by
        rw [op1_6]
        by_cases hv : v2 = 0
        · rw [if_pos hv, if_pos hv]
        · rw [if_neg hv, if_neg hv]
      match hx : lo 2 (nx b z p) with
      | .inl f =>
        have b2 := MB.col hx q2
        obtain ⟨b3, c3⟩ := b2.setD (d2 := 1)
        rw [b2.2.2.1, dn, lw_e, fin]
        exact ⟨_, _, rfl, b3, c1.tr (c2.tr c3)⟩
      | .inr (c9, s9, p9) =>
        obtain ⟨g2, rfl⟩ := MG.col hx q2
        obtain ⟨g3, c3⟩ := g2.setD (d2 := 1)
        rw [g2.2.2.1, dn, lw_e, fin]
        exact ⟨_, _, rfl, ⟨g3, rfl⟩, c1.tr (c2.tr c3)⟩
    rw [if_neg a9, if_neg a9]
    obtain ⟨v1, w1, e1, q1, c1⟩ := hS.1 w env _ h
    rw [e1, bnd_s]
    match hx : sum p with
    | .inl f =>
      have b1 := MB.col hx q1
      rw [b1.sign, bnd_s, if_pos rfl, b1.sign, bnd_s, if_pos rfl]
      exact ⟨_, w1, rfl, b1, c1⟩
    | .inr (c9, s9, p9) =>
      obtain ⟨g1, rfl⟩ := MG.col hx q1
      have s60 : fX7_isSign 52 (60 : Int32) w1 = some (if tk b z p9 = 16 then 1 else 0, w1) := g1.sign (x := 60) (by decide)
      have s61 : fX7_isSign 52 (61 : Int32) w1 = some (if tk b z p9 = 17 then 1 else 0, w1) := g1.sign (x := 61) (by decide)
      have f93 : ∀ o y : Int32, tk b z p9 ≠ 0 → (∀ a d : Int32, op2 o a d = if y = 0 then (if a = d then 1 else 0) else (if d ≤ a then 0 else 1)) → ∃ v w', fX7_not1_93 52 (s9 env) y w1 = some (v, w') ∧ MV b z t w' 1 env v (bR (sum (nx b z p9)) (fun c2 s2 p2 => .inr (c9 ++ (c2 ++ [o]), fun e => op2 o (s9 e) (s2 e), p2))) ∧ Ch PQ w w' := by
        intro o y hne ho
        obtain ⟨w2, e2, g2, c2⟩ := g1.next hne
        obtain ⟨v3, w3, e3, q3, c3⟩ := hS.1 w2 env _ g2
        unfold fX7_not1_93 fX7_not1_120
        rw [e2, bnd_s, e3, bnd_s]
        have fin : ∃ v, (if y = 0 then (if s9 env = v3 then some ((1 : Int32), w3) else some ((0 : Int32), w3)) else (if v3 ≤ s9 env then some ((0 : Int32), w3) else some ((1 : Int32), w3))) = some (v, w3) ∧ v = op2 o (s9 env) v3 := by
          refine ⟨_, ?_, rfl⟩
          rw [ho]
          by_cases hy : y = 0
          · rw [if_pos hy, if_pos hy]
            by_cases h1 : s9 env = v3
            · rw [if_pos h1, if_pos h1]
            · rw [if_neg h1, if_neg h1]
          · rw [if_neg hy, if_neg hy]
            by_cases h1 : v3 ≤ s9 env
            · rw [if_pos h1, if_pos h1]
            · rw [if_neg h1, if_neg h1]
        obtain ⟨v, ev, hv⟩ := fin
        match hy : sum (nx b z p9) with
        | .inl f =>
          have b3 := MB.col hy q3
          exact ⟨v, w3, ev, b3, c1.tr (c2.tr c3)⟩
        | .inr (c8, s8, p8) =>
          obtain ⟨g3, rfl⟩ := MG.col hy q3
          exact ⟨v, w3, ev, ⟨g3, hv⟩, c1.tr (c2.tr c3)⟩
      show ∃ v w', _ ∧ MV b z t w' 1 env v (if tk b z p9 = 16 ∨ tk b z p9 = 17 then bR (sum (nx b z p9)) (fun c2 s2 p2 => .inr (c9 ++ (c2 ++ [opC (tk b z p9)]), fun e => op2 (opC (tk b z p9)) (s9 e) (s2 e), p2)) else .inr (c9, s9, p9)) ∧ _
      rw [s60, bnd_s, w01]
      by_cases t16 : tk b z p9 = 16
      · have hs := (tk_s (x := 60) (by decide)).mpr t16
        have hL := g1.2.2.2.2.1.2.2.2.1 hs.1
        have ho : opC (tk b z p9) = 11 := by rw [t16]; rfl
        rw [if_pos t16, if_pos (Or.inl t16), ho]
        unfold fX7_not1_77
        rw [hL, hs.2, e60, if_pos ((lgeq _ _).mpr rfl)]
        refine f93 11 1 (by rw [t16]; decide) (fun a d => ?_)
        rw [if_neg (by decide)]
        show (if a < d then (1 : Int32) else 0) = _
        by_cases hl : a < d
        · rw [if_pos hl, if_neg (Int32.not_le.mpr hl)]
        · rw [if_neg hl, if_pos (Int32.not_lt.mp hl)]
      rw [if_neg t16, s61, bnd_s, w01]
      by_cases t17 : tk b z p9 = 17
      · have hs := (tk_s (x := 61) (by decide)).mpr t17
        have hL := g1.2.2.2.2.1.2.2.2.1 hs.1
        have ho : opC (tk b z p9) = 12 := by rw [t17]; rfl
        rw [if_pos t17, if_pos (Or.inr t17), ho]
        unfold fX7_not1_77
        rw [hL, hs.2, e60, if_neg (fun y => absurd ((eq64 _ _).mp ((lgeq _ _).mp y)) (by decide))]
        exact f93 12 0 (by rw [t17]; decide) (fun a d => by rw [if_pos rfl]; rfl)
      · rw [if_neg t17, if_neg (fun y => y.elim t16 t17)]
        exact ⟨_, w1, rfl, ⟨g1, rfl⟩, c1⟩
  · obtain ⟨v1, w1, e1, b1, c1⟩ := hS.2 w env f h
    refine ⟨v1, w1, ?_, b1, c1⟩
    unfold fX7_not1
    rw [h.word, bnd_s, if_pos rfl, e1, bnd_s, b1.sign, bnd_s, if_pos rfl, b1.sign, bnd_s, if_pos rfl]
