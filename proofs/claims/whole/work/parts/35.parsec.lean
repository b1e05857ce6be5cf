/-! the class's reader reads as the language says -/
def CQ (b : Nat → Int32) (z j : Nat) (w : Wd) (d : Nat) (pre : List Int32) (r : Rz) : Prop := match r with
  | .inl f => CB b z j w d f
  | .inr (c, _, p) => CG b z j w d (pre ++ c) p
def ImF (b : Nat → Int32) (z j : Nat) (f : Wd → Option (Unit × Wd)) (d : Nat) (sp : Nat → Rz) : Prop :=
  (∀ w pre p, CG b z j w d pre p → ∃ w', f w = some ((), w') ∧ CQ b z j w' d pre (sp p) ∧ Ch (PZ j) w w') ∧ (∀ w fl, CB b z j w d fl → ∃ w', f w = some ((), w') ∧ CB b z j w' d fl ∧ Ch (PZ j) w w')
theorem CG.tok {b : Nat → Int32} {z j : Nat} {w : Wd} {d : Nat} {c : List Int32} {p : Nat} (h : CG b z j w d c p) : gI w 5 4 = tk b z p := h.2.2.2.2.1.2.2.1
theorem CB.tok {b : Nat → Int32} {z j : Nat} {w : Wd} {d f : Nat} (h : CB b z j w d f) : gI w 5 4 = 0 := h.2.2.2.2.1
theorem CG.into {α : Type} {b : Nat → Int32} {z j : Nat} {w : Wd} {d : Nat} {c : List Int32} {p : Nat} {f : Nat → Option α} (h : CG b z j w d c p) : dr (gR w 5 8) 3 w f = f (24 + 3 * j) := by
  rw [h.2.2.1]
  exact dr_at h.2.1.1.1 ⟨by have := h.1; omega, (kd_tx h.1).2⟩
theorem CB.into {α : Type} {b : Nat → Int32} {z j : Nat} {w : Wd} {d fl : Nat} {f : Nat → Option α} (h : CB b z j w d fl) : dr (gR w 5 8) 3 w f = f (24 + 3 * j) := by
  rw [h.2.2.1]
  exact dr_at h.2.1.1.1 ⟨by have := h.1; omega, (kd_tx h.1).2⟩
theorem CB.col {b : Nat → Int32} {z j : Nat} {w : Wd} {d : Nat} {pre : List Int32} {x : Rz} {f : Nat} (hx : x = .inl f) (h : CQ b z j w d pre x) : CB b z j w d f := by rw [hx] at h; exact h
theorem CG.col {b : Nat → Int32} {z j : Nat} {w : Wd} {d : Nat} {pre : List Int32} {x : Rz} {c : List Int32} {s : Sem} {p : Nat} (hx : x = .inr (c, s, p)) (h : CQ b z j w d pre x) : CG b z j w d (pre ++ c) p := by rw [hx] at h; exact h
/-- a loop over operators -/
def LoopC (op : Int32 → Int32) (call : Wd → Option (Unit × Wd)) (F : Nat → Int32 → Wd → Option (Unit × Wd)) : Prop := ∀ n x1 w, F (n + 1) x1 w = if (160 : Int32) ≤ x1 then some ((), w) else if op (gI w 5 4) = 0 then some ((), w) else bnd (fX1_take 5 w) (fun _ w4 => bnd (call w4) (fun _ w6 => dr (gR w6 5 8) 3 w6 (fun a => bnd (fX3_append a (op (gI w 5 4)) w6) (fun _ w9 => F n (x1 + (1 : Int32)) w9))))
theorem loop_bad {b : Nat → Int32} {z j d f : Nat} {op : Int32 → Int32} {call : Wd → Option (Unit × Wd)} {F : Nat → Int32 → Wd → Option (Unit × Wd)} (hF : LoopC op call F) (h0 : op 0 = 0) {fu : Nat} {x : Int32} {w : Wd} (h : CB b z j w d f) (hf : 0 < fu) : F fu x w = some ((), w) := by
  obtain ⟨fu, rfl⟩ : ∃ y, fu = y + 1 := ⟨fu - 1, by omega⟩
  rw [hF, h.tok, h0, if_pos rfl]
  by_cases h1 : (160 : Int32) ≤ x
  · rw [if_pos h1]
  · rw [if_neg h1]
theorem loop_good {b : Nat → Int32} {z j d k : Nat} {op : Int32 → Int32} {call : Wd → Option (Unit × Wd)} {F : Nat → Int32 → Wd → Option (Unit × Wd)} {one : Nat → Rz} (hF : LoopC op call F) (h0 : op 0 = 0) (hop : ∀ t, op t ≠ 0 → ¬ (op t < 8 ∨ 16 ≤ op t) ∧ t ≠ 1) (h1 : ImF b z j call d one) (hG : ∀ p, p ≤ z → Gd z k p (one p)) : ∀ (n i fu : Nat) (w : Wd) (pre c : List Int32) (s : Sem) (p : Nat), i + n = 160 → n < fu → CG b z j w d (pre ++ c) p → ∃ w', F fu (nI i) w = some ((), w') ∧ CQ b z j w' d pre (lp b z op one n c s p) ∧ Ch (PZ j) w w' := by
  intro n
  induction n with
  | zero =>
    intro i fu w pre c s p hi hf h
    obtain ⟨fu, rfl⟩ : ∃ y, fu = y + 1 := ⟨fu - 1, by omega⟩
    have hle : (160 : Int32) ≤ nI i := nI_le (a := 160) (by omega) (by omega)
    rw [hF, if_pos hle]
    exact ⟨w, rfl, h, Ch.rf⟩
  | succ n ih =>
    intro i fu w pre c s p hi hf h
    obtain ⟨fu, rfl⟩ : ∃ y, fu = y + 1 := ⟨fu - 1, by omega⟩
    have hle : ¬ (160 : Int32) ≤ nI i := nI_ge (b := 160) (by omega) (by omega)
    rw [hF, if_neg hle, h.tok, lp]
    by_cases ho : op (tk b z p) = 0
    · rw [if_pos ho, if_pos ho]
      exact ⟨w, rfl, h, Ch.rf⟩
    · rw [if_neg ho, if_neg ho]
      obtain ⟨o1, o2⟩ := hop _ ho
      have hpz := h.2.2.2.2.2.1
      have hcl := h.2.2.2.2.2.2.2.2
      obtain ⟨n1, n2, n3⟩ := nx_le (b := b) hpz
      have n3 := n3 o2
      obtain ⟨w1, e1, g1, c1⟩ := h.take
      obtain ⟨w2, e2, q2, c2⟩ := h1.1 w1 _ _ g1
      rw [e1, bnd_s, e2, bnd_s]
      match hx : one (nx b z p) with
      | .inl f =>
        have b2 := CB.col hx q2
        obtain ⟨w3, e3, b3, c3⟩ := b2.app (o := op (tk b z p))
        rw [b2.into, e3, bnd_s, loop_bad hF h0 b3 (by omega)]
        exact ⟨w3, rfl, b3, c1.tr (c2.tr c3)⟩
      | .inr (c9, s9, p9) =>
        have g2 := CG.col hx q2
        obtain ⟨a1, a2, a3, -⟩ := hG _ n2 c9 s9 p9 hx
        obtain ⟨w3, e3, g3, c3⟩ := g2.app (o := op (tk b z p)) (by simp only [List.length_append] at hcl ⊢; omega)
        rw [g2.into, e3, bnd_s, nI_1]
        have g3 : CG b z j w3 d (pre ++ (c ++ (c9 ++ [op (tk b z p)]))) p9 := by
          have : pre ++ (c ++ (c9 ++ [op (tk b z p)])) = pre ++ c ++ c9 ++ [op (tk b z p)] := by simp only [List.append_assoc]
          rw [this]
          exact g3
        obtain ⟨w4, e4, q4, c4⟩ := ih (i + 1) fu w3 pre (c ++ (c9 ++ [op (tk b z p)])) (fun e => op2 (op (tk b z p)) (s e) (s9 e)) p9 (by omega) (by omega) g3
        exact ⟨w4, e4, q4, c1.tr (c2.tr (c3.tr c4))⟩
theorem many_ev {b : Nat → Int32} {z j d k : Nat} {op : Int32 → Int32} {call f : Wd → Option (Unit × Wd)} {F : Nat → Int32 → Wd → Option (Unit × Wd)} {one : Nat → Rz} (hF : LoopC op call F) (h0 : op 0 = 0) (hop : ∀ t, op t ≠ 0 → ¬ (op t < 8 ∨ 16 ≤ op t) ∧ t ≠ 1) (h1 : ImF b z j call d one) (hG : ∀ p, p ≤ z → Gd z k p (one p)) (hf : ∀ w, f w = bnd (call w) (fun _ w2 => F FU (0 : Int32) w2)) : ImF b z j f d (many b z op one) := by
  refine ⟨fun w pre p h => ?_, fun w fl h => ?_⟩
  · obtain ⟨w1, e1, q1, c1⟩ := h1.1 w pre p h
    rw [hf, e1, bnd_s]
    unfold many
    match hx : one p with
    | .inl f =>
      have b1 := CB.col hx q1
      rw [loop_bad hF h0 b1 (by show 0 < 2000; omega)]
      exact ⟨w1, rfl, b1, c1⟩
    | .inr (c9, s9, p9) =>
      have g1 := CG.col hx q1
      obtain ⟨w2, e2, q2, c2⟩ := loop_good hF h0 hop h1 hG 160 0 FU w1 pre c9 s9 p9 (by omega) (by show 160 < 2000; omega) g1
      exact ⟨w2, e2, q2, c1.tr c2⟩
  · obtain ⟨w1, e1, b1, c1⟩ := h1.2 w fl h
    rw [hf, e1, bnd_s, loop_bad hF h0 b1 (by show 0 < 2000; omega)]
    exact ⟨w1, rfl, b1, c1⟩
theorem loopE_C (call : Nat → Nat → Wd → Option (Unit × Wd)) : LoopC opE (call 1 5) (fX1_readEither_6 call 5) := fun n x1 w => by
  rw [fX1_readEither_6]
  dsimp only
  unfold opE
  by_cases h : (160 : Int32) ≤ x1
  · rw [if_pos h, if_pos h]
  rw [if_neg h, if_neg h]
  by_cases ht : gI w 5 4 = 7
  · rw [if_pos ht, if_pos ht, if_neg (by decide)]
  · rw [if_neg ht, if_neg ht, if_pos rfl]
theorem loopB_C (call : Nat → Nat → Wd → Option (Unit × Wd)) : LoopC opB (call 2 5) (fX1_readBoth_6 call 5) := fun n x1 w => by
  rw [fX1_readBoth_6]
  dsimp only
  unfold opB
  by_cases h : (160 : Int32) ≤ x1
  · rw [if_pos h, if_pos h]
  rw [if_neg h, if_neg h]
  by_cases ht : gI w 5 4 = 8
  · rw [if_pos ht, if_pos ht, if_neg (by decide)]
  · rw [if_neg ht, if_neg ht, if_pos rfl]
theorem loopT_C (call : Nat → Nat → Wd → Option (Unit × Wd)) : LoopC opT (call 5 5) (fX1_readTerm_6 call 5) := fun n x1 w => by
  rw [fX1_readTerm_6]
  dsimp only
  unfold opT
  by_cases h : (160 : Int32) ≤ x1
  · rw [if_pos h, if_pos h]
  rw [if_neg h, if_neg h]
  by_cases ht : gI w 5 4 = 15
  · rw [if_pos ht, if_pos ht, if_neg (by decide)]
  · rw [if_neg ht, if_neg ht, if_pos rfl]
theorem loopS_C (call : Nat → Nat → Wd → Option (Unit × Wd)) : LoopC opS (call 4 5) (fX1_readSum_6 call 5) := fun n x1 w => by
  rw [fX1_readSum_6]
  dsimp only
  unfold opS
  by_cases h : (160 : Int32) ≤ x1
  · rw [if_pos h, if_pos h]
  rw [if_neg h, if_neg h]
  by_cases ht : gI w 5 4 = 13
  · rw [if_pos ht, if_pos ht, if_neg (by decide)]
    unfold fX1_readSum_31 fX1_readSum_47
    rw [if_pos ht]
  · rw [if_neg ht, if_neg ht]
    by_cases h2 : gI w 5 4 = 14
    · rw [if_pos h2, if_pos h2, if_neg (by decide)]
      unfold fX1_readSum_31 fX1_readSum_47
      rw [if_neg ht]
    · rw [if_neg h2, if_neg h2, if_pos rfl]
/-- an opening: allowed below five -/
theorem open_good {b : Nat → Int32} {z j : Nat} {w : Wd} {d : Nat} {c : List Int32} {p : Nat} (h : CG b z j w d c p) (hd : d < 5) : ∃ w', fX1_takeOpening 5 w = some (1, w') ∧ CG b z j w' (d + 1) c (nx b z p) ∧ Ch (PZ j) w w' := by
  have h6 := h.2.2.2.1
  obtain ⟨g1, c1⟩ := h.setD (d2 := d + 1)
  obtain ⟨w2, e2, g2, c2⟩ := g1.take
  refine ⟨w2, ?_, g2, c1.tr c2⟩
  unfold fX1_takeOpening
  have hlt : gI w 5 6 < 5 := by rw [h6]; exact nI_lt (b := 5) hd (by omega)
  rw [if_pos hlt, lw_e, h6, nI_1, e2, bnd_s]
theorem open_full {b : Nat → Int32} {z j : Nat} {w : Wd} {c : List Int32} {p : Nat} (h : CG b z j w 5 c p) : ∃ w', fX1_takeOpening 5 w = some (0, w') ∧ CB b z j w' 5 (tS b z p) ∧ Ch (PZ j) w w' := by
  have h6 := h.2.2.2.1
  obtain ⟨w2, e2, g2, c2⟩ := h.fail
  refine ⟨w2, ?_, g2, c2⟩
  unfold fX1_takeOpening
  have hlt : ¬ gI w 5 6 < 5 := by rw [h6]; decide
  rw [if_neg hlt, e2, bnd_s]
theorem expect_good {b : Nat → Int32} {z j : Nat} {w : Wd} {d : Nat} {c : List Int32} {p : Nat} {t : Int32} (h : CG b z j w d c p) : ∃ w', fX1_expect 5 t w = some ((), w') ∧ (if tk b z p = t then CG b z j w' d c (nx b z p) else CB b z j w' d (tS b z p)) ∧ Ch (PZ j) w w' := by
  unfold fX1_expect
  rw [h.tok]
  by_cases ht : tk b z p = t
  · obtain ⟨w1, e1, g1, c1⟩ := h.take
    rw [if_pos ht, e1, bnd_s]
    exact ⟨w1, rfl, by rw [if_pos ht]; exact g1, c1⟩
  · obtain ⟨w1, e1, g1, c1⟩ := h.fail
    rw [if_neg ht, e1, bnd_s]
    exact ⟨w1, rfl, by rw [if_neg ht]; exact g1, c1⟩
theorem expect_bad {b : Nat → Int32} {z j : Nat} {w : Wd} {d f : Nat} {t : Int32} (h : CB b z j w d f) (ht : t ≠ 0) : ∃ w', fX1_expect 5 t w = some ((), w') ∧ CB b z j w' d f ∧ Ch (PZ j) w w' := by
  unfold fX1_expect
  rw [h.tok, if_neg (fun z => ht z.symm)]
  obtain ⟨w1, e1, g1, c1⟩ := h.fail
  rw [e1, bnd_s]
  exact ⟨w1, rfl, g1, c1⟩
