/-! the class's reader reads into a text -/
def bX {α : Type} (x : Rz) (f : List Int32 → Sem → Nat → Nat ⊕ α) : Nat ⊕ α := match x with
  | .inl e => .inl e
  | .inr (c, s, p) => f c s p
def ev3 (s0 s1 s2 : Sem) : Ev := fun p => if p = 0 then s0 else if p = 1 then s1 else s2
/-- what a text says, or where its fault is -/
def pText (b : Nat → Int32) (z : Nat) : Nat ⊕ (List Int32 × List Int32 × List Int32 × Ev) :=
  bX (pPart b z (nI 4) 0) (fun c0 s0 p0 => bX (pPart b z (nI 5) p0) (fun c1 s1 p1 => bX (pPart b z (nI 6) p1) (fun c2 s2 p2 => if tk b z p2 = 1 then .inr (c0, c1, c2, ev3 s0 s1 s2) else .inl (tS b z p2))))
theorem gd_part {b : Nat → Int32} {z p : Nat} {t : Int32} (hp : p ≤ z) (ht : t ≠ 1) : Gd z 31 p (pPart b z t p) := by
  unfold pPart
  by_cases h : tk b z p = t
  · rw [if_pos h]
    obtain ⟨n1, n2, n3⟩ := nx_le (b := b) hp
    have n3 := n3 (by rw [h]; exact ht)
    have g := gd_pL (b := b) (z := z) 5 0 (by omega) _ n2
    refine fun c s p' e => ?_
    match hx : pL b z 5 0 (nx b z p), e with
    | .inl f, e => exact absurd e (by simp [bR])
    | .inr (c2, s2, p2), e =>
      obtain ⟨b1, b2, b3, b4⟩ := g c2 s2 p2 hx
      obtain ⟨m1, m2, m3⟩ := nx_le (b := b) b3
      have e : (if tk b z p2 = 12 then (.inr (c2, s2, nx b z p2) : Rz) else .inl (tS b z p2)) = .inr (c, s, p') := e
      by_cases h12 : tk b z p2 = 12
      · rw [if_pos h12] at e
        exact gd_in (p := p) (k := 31) ⟨by omega, by omega, m2, b4⟩ c s p' e
      · rw [if_neg h12] at e
        exact absurd e (by simp)
  · rw [if_neg h]
    exact gd_fl
theorem ne1 {n : Nat} (h : 4 ≤ n ∧ n ≤ 6) : nI n ≠ 1 := fun y => by
  have := (nI_eq (a := n) (b := 1) (by omega) (by omega)).mp y
  omega
def PI (j i k : Nat) : Prop := i = 5 ∨ PTx j i k ∨ i = 26 + 3 * j
theorem PY_PI {j : Nat} (i k : Nat) (h : PY j i k) : PI j i k := by unfold PY PZ PTx at h; unfold PI PTx; omega
/-- what reading into text j does -/
def Into (b : Nat → Int32) (z j : Nat) (rv : Int32) (w' : Wd) (x : Nat ⊕ (List Int32 × List Int32 × List Int32 × Ev)) : Prop := match x with
  | .inl f => rv = nI f ∧ f ≤ 160
  | .inr (_, _, _, ev) => rv = -1 ∧ TEv w' j ev
theorem into_ev {b : Nat → Int32} {z j : Nat} {w : Wd} (hB : Bz b z w) (hj : j < 6) : ∃ rv w', fX1_readInto 5 (some (24 + 3 * j)) w = some (rv, w') ∧ gI w' 5 1 = 0 ∧ Into b z j rv w' (pText b z) ∧ Ch (PI j) w w' := by
  have hz := hB.2.1
  obtain ⟨w1, hw1⟩ : ∃ w1, w1 = sI (sI (sI (sI (sI (sR w 5 8 (some (24 + 3 * j))) (24 + 3 * j) 2 0) (24 + 3 * j) 3 0) 5 2 0) 5 6 0) 5 7 (-1) := ⟨_, rfl⟩
  have c0 : Ch (PI j) w (sR w 5 8 (some (24 + 3 * j))) := ch_sR ⟨Or.inl rfl, Or.inr ⟨rfl, rfl⟩⟩
  have c1 : Ch (PI j) w w1 := by
    rw [hw1]
    exact c0.tr (Ch.tr (Ch.tr (Ch.tr (Ch.tr (ch_sI (Or.inr (Or.inl (Or.inl ⟨rfl, Or.inl rfl⟩)))) (ch_sI (Or.inr (Or.inl (Or.inl ⟨rfl, Or.inr rfl⟩))))) (ch_sI (Or.inl rfl))) (ch_sI (Or.inl rfl))) (ch_sI (Or.inl rfl)))
  have hS1 := c1.St hB.1
  have g51 : gI w1 5 1 = nI z := by
    rw [hw1]
    simp only [gI_sI, gI_sR]
    rw [if_neg (by omega), if_neg (by omega), if_neg (by omega), if_neg (by omega), if_neg (by omega)]
    exact hB.2.2.1
  have B1 : Bz b z w1 := ⟨hS1, hz, g51, fun k hk => by
    rw [c1.I (by unfold PI PTx; omega)]
    exact hB.2.2.2 k hk⟩
  have g2 : gI w1 5 2 = nI 0 := by
    rw [hw1, gI_sI, if_neg (by omega), gI_sI, if_neg (by omega), gI_sI, if_pos ⟨rfl, rfl⟩]
    rfl
  obtain ⟨w2, e2, l2, c2⟩ := take_ev B1 (Nat.zero_le z) g2
  have G2 : CG b z j w2 0 [] 0 := by
    refine ⟨hj, B1.x c2, ?_, ?_, l2, Nat.zero_le _, ?_, TX.ch (w := w1) ⟨by simp, ?_, fun q hq => absurd hq (by simp), Or.inl ?_, fun _ o ho => absurd ho (by simp)⟩ c2 (fun i k q => by unfold PX at q; omega), by simp⟩
    · rw [r8_X c2 (by unfold PX; omega), hw1]
      simp only [gR_sI]
      rw [gR_sR, if_pos ⟨rfl, rfl⟩]
    · rw [c2.I (by unfold PX; omega), hw1, gI_sI, if_neg (by omega), gI_sI, if_pos ⟨rfl, rfl⟩]
      rfl
    · rw [c2.I (by unfold PX; omega), hw1, gI_sI, if_pos ⟨rfl, rfl⟩]
    · rw [hw1, gI_sI, if_neg (by omega), gI_sI, if_neg (by omega), gI_sI, if_neg (by omega), gI_sI, if_neg (by omega), gI_sI, if_pos ⟨rfl, rfl⟩]
      rfl
    · rw [hw1, gI_sI, if_neg (by omega), gI_sI, if_neg (by omega), gI_sI, if_neg (by omega), gI_sI, if_pos ⟨rfl, rfl⟩]
  have c2 := c1.tr (c2.mono (fun i k h => PY_PI i k (PZ_PY i k (PX_PZ i k h))))
  have start : fX1_readInto 5 (some (24 + 3 * j)) w = fX1_readInto_33 5 FU (nI 0) w2 := by
    unfold fX1_readInto
    have r8 : gR (sR w 5 8 (some (24 + 3 * j))) 5 8 = some (24 + 3 * j) := by rw [gR_sR, if_pos ⟨rfl, rfl⟩]
    rw [lw_e, r8, dr_sR, dr_at hB.1.1 ⟨by omega, (kd_tx hj).2⟩]
    unfold fX3_clear
    rw [lw_e, lw_e, bnd_s, lw_e, lw_e, lw_e, ← hw1, e2, bnd_s]
    rfl
  rw [start]
  have fin : ∀ (w9 : Wd) (rv : Int32), gI w9 5 7 = rv → fX1_readInto_81 5 w9 = some (rv, sI w9 5 1 0) := fun w9 rv h => by
    unfold fX1_readInto_81
    rw [lw_e, gI_sI, if_neg (by omega), h]
  have endB : ∀ (fu : Nat) (w9 : Wd) (f : Nat), 0 < fu → CB b z j w9 0 f → ∃ w', fX1_readInto_33 5 fu (nI 3) w9 = some (nI f, w') ∧ gI w' 5 1 = 0 ∧ f ≤ 160 ∧ Ch (PI j) w9 w' := by
    intro fu w9 f hf h9
    obtain ⟨fu, rfl⟩ : ∃ y, fu = y + 1 := ⟨fu - 1, by omega⟩
    obtain ⟨w8, e8, b8, c8⟩ := h9.fail
    have h33 : (3 : Int32) ≤ nI 3 := by decide
    rw [fX1_readInto_33]
    dsimp only
    rw [if_pos h33, h9.tok, if_neg (by decide), e8, bnd_s, fin w8 (nI f) b8.2.2.2.2.2.1]
    exact ⟨_, rfl, by rw [gI_sI, if_pos ⟨rfl, rfl⟩], b8.2.2.2.2.2.2.1, (c8.mono (fun i k h => PY_PI i k (PZ_PY i k h))).tr (ch_sI (Or.inl rfl))⟩
  unfold pText
  obtain ⟨w3, e3, p3f, p3g, k3, c3⟩ := part_good (fu := FU - 1) G2 (x := 0) (by omega)
  rw [show FU = (FU - 1) + 1 from rfl, e3]
  have c3 := c2.tr (c3.mono PY_PI)
  have G1 := gd_part (b := b) (z := z) (p := 0) (t := nI 4) (Nat.zero_le z) (ne1 (by omega))
  match h1 : pPart b z (nI 4) 0 with
  | .inl f =>
    obtain ⟨w4, e4, b4, c4⟩ := part_bad (fu := FU - 2) (p3f f h1) (x := 1) (by omega)
    obtain ⟨w5, e5, b5, c5⟩ := part_bad (fu := FU - 3) b4 (x := 2) (by omega)
    obtain ⟨w6, e6, z6, l6, c6⟩ := endB (FU - 3) w5 f (by decide) b5
    refine ⟨nI f, w6, ?_, z6, ⟨rfl, l6⟩, c3.tr ((c4.mono PY_PI).tr ((c5.mono PY_PI).tr c6))⟩
    exact e4.trans (e5.trans e6)
  | .inr (a0, s0, p0) =>
    obtain ⟨g3, n3⟩ := p3g a0 s0 p0 h1
    obtain ⟨x1, x2, x3, x4⟩ := G1 a0 s0 p0 h1
    obtain ⟨w4, e4, p4f, p4g, k4, c4⟩ := part_good (fu := FU - 2) g3 (x := 1) (by omega)
    have c4 := c3.tr (c4.mono PY_PI)
    have G2' := gd_part (b := b) (z := z) (p := p0) (t := nI 5) x3 (ne1 (by omega))
    show ∃ rv w', _ ∧ _ ∧ Into b z j rv w' (bX (pPart b z (nI 5) p0) _) ∧ _
    match h2 : pPart b z (nI 5) p0 with
    | .inl f =>
      obtain ⟨w5, e5, b5, c5⟩ := part_bad (fu := FU - 3) (p4f f h2) (x := 2) (by omega)
      obtain ⟨w6, e6, z6, l6, c6⟩ := endB (FU - 3) w5 f (by decide) b5
      refine ⟨nI f, w6, ?_, z6, ⟨rfl, l6⟩, c4.tr ((c5.mono PY_PI).tr c6)⟩
      exact e4.trans (e5.trans e6)
    | .inr (a1, s1, p1) =>
      obtain ⟨g4, n4⟩ := p4g a1 s1 p1 h2
      obtain ⟨y1, y2, y3, y4⟩ := G2' a1 s1 p1 h2
      obtain ⟨w5, e5, p5f, p5g, k5, c5⟩ := part_good (fu := FU - 3) g4 (x := 2) (by omega)
      have c5 := c4.tr (c5.mono PY_PI)
      have G3 := gd_part (b := b) (z := z) (p := p1) (t := nI 6) y3 (ne1 (by omega))
      show ∃ rv w', _ ∧ _ ∧ Into b z j rv w' (bX (pPart b z (nI 6) p1) _) ∧ _
      match h3 : pPart b z (nI 6) p1 with
      | .inl f =>
        obtain ⟨w6, e6, z6, l6, c6⟩ := endB (FU - 3) w5 f (by decide) (p5f f h3)
        refine ⟨nI f, w6, ?_, z6, ⟨rfl, l6⟩, c5.tr c6⟩
        exact e4.trans (e5.trans e6)
      | .inr (a2, s2, p2) =>
        obtain ⟨g5, n5⟩ := p5g a2 s2 p2 h3
        obtain ⟨v1, v2, v3, v4⟩ := G3 a2 s2 p2 h3
        show ∃ rv w', _ ∧ _ ∧ Into b z j rv w' (if tk b z p2 = 1 then .inr (a0, a1, a2, ev3 s0 s1 s2) else .inl (tS b z p2)) ∧ _
        have h33 : (3 : Int32) ≤ nI 3 := by decide
        by_cases ht : tk b z p2 = 1
        · rw [if_pos ht]
          have e6 : fX1_readInto_33 5 (FU - 3) (nI 3) w5 = some (-1, sI w5 5 1 0) := by
            rw [show FU - 3 = (FU - 4) + 1 from rfl, fX1_readInto_33]
            dsimp only
            rw [if_pos h33, g5.tok, if_pos ht]
            exact fin w5 (-1) g5.2.2.2.2.2.2.1
          have n26 : ∀ k, gI (sI w5 5 1 0) (26 + 3 * j) k = gI w5 (26 + 3 * j) k := fun k => by rw [gI_sI, if_neg (by omega)]
          have T5 : TX (sI w5 5 1 0) j ([] ++ a0 ++ a1 ++ a2) := g5.2.2.2.2.2.2.2.1.ch (P := fun i _ => i = 5) (ch_sI rfl) (fun i k q => by omega)
          obtain ⟨t1, t2, t3, t4, t5⟩ := T5
          have hl : ([] ++ a0 ++ a1 ++ a2) = a0 ++ (a1 ++ a2) := by simp only [List.nil_append, List.append_assoc]
          refine ⟨-1, _, e4.trans (e5.trans e6), by rw [gI_sI, if_pos ⟨rfl, rfl⟩], ⟨rfl, a0, a1, a2, ⟨?_, ?_, ?_, ?_, ?_⟩, ?_, t4, ?_⟩, c5.tr (ch_sI (Or.inl rfl))⟩
          · rw [hl] at t1
            simp only [List.length_append] at t1
            omega
          · rw [n26, k5 0 (by omega), k4 0 (by omega), n3]
            rfl
          · rw [n26, k5 1 (by omega), n4]
            simp only [List.nil_append, List.length_append]
          · rw [n26, n5]
            simp only [List.nil_append, List.length_append]
          · intro q hq
            rw [t3 q (by rw [hl]; simp only [List.length_append]; omega), hl]
          · intro p hp env
            match p, hp with
            | 0, _ => exact x4 env [] (by simp)
            | 1, _ => exact y4 env [] (by simp)
            | 2, _ => exact v4 env [] (by simp)
          · rw [hl] at t5
            exact t5
        · rw [if_neg ht]
          have hz2 := tS_le (b := b) v3
          obtain ⟨w8, e8, b8, c8⟩ := g5.fail
          have e6 : fX1_readInto_33 5 (FU - 3) (nI 3) w5 = some (nI (tS b z p2), sI w8 5 1 0) := by
            rw [show FU - 3 = (FU - 4) + 1 from rfl, fX1_readInto_33]
            dsimp only
            rw [if_pos h33, g5.tok, if_neg ht, e8, bnd_s]
            exact fin w8 _ b8.2.2.2.2.2.1
          exact ⟨_, _, e4.trans (e5.trans e6), by rw [gI_sI, if_pos ⟨rfl, rfl⟩], ⟨rfl, by omega⟩, c5.tr ((c8.mono (fun i k h => PY_PI i k (PZ_PY i k h))).tr (ch_sI (Or.inl rfl)))⟩
