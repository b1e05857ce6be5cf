/-! the model reads a text -/
theorem mk_0 {b : Nat → Int32} {z p : Nat} : mk b z p = 0 ↔ tk b z p = 1 := by
  rcases tk_mk b z p with ⟨a, c⟩ | ⟨a, c, _⟩ | ⟨a, c⟩ | ⟨a, c, _⟩ | ⟨a, c⟩
  · rw [a, c]; exact ⟨fun _ => rfl, fun _ => rfl⟩
  · rw [a, c]
    constructor
    · intro y; exact absurd y (by decide)
    · intro y
      by_cases hn : nmT b (tS b z p) (wE b z (tS b z p)) = -1
      · rw [if_pos hn] at y; exact absurd y (wdT_in _ _ _).2.2.1
      · rw [if_neg hn] at y; exact absurd y (by decide)
  · rw [a, c]; decide
  · rw [a, c]
    exact ⟨fun y => absurd y (by decide), fun y => absurd y (sgT_in _).2.2.1⟩
  · rw [a, c]; decide
theorem mpart_ev {b : Nat → Int32} {z t x : Nat} {w : Wd} {env : Nat → Int32} {p : Nat} (hx3 : x < 3) (h : MG b z t w 0 env p) : ∃ v w', fX7_part 52 (if tk b z p = nI (4 + x) then 1 else 0) w = some (v, w') ∧ MV b z t w' 0 env v (pPart b z (nI (4 + x)) p) ∧ Ch PQ w w' := by
  have L0 := (lv0 b z t).1
  unfold fX7_part pPart
  by_cases ht : tk b z p = nI (4 + x)
  · rw [if_pos ht, if_pos ht, if_neg (by decide)]
    unfold fX7_part_8
    have hx0 : nI (4 + x) ≠ 0 := fun y => by
      have := (nI_eq (a := 4 + x) (b := 0) (by omega) (by omega)).mp y
      omega
    obtain ⟨w1, e1, g1, c1⟩ := h.next (by rw [ht]; exact hx0)
    obtain ⟨v2, w2, e2, q2, c2⟩ := L0.1 w1 env _ g1
    rw [if_pos h.bad, e1, bnd_s]
    unfold fX7_part_19
    rw [if_pos g1.bad, e2, bnd_s]
    unfold fX7_part_34
    match hy : pL b z 5 0 (nx b z p) with
    | .inl f =>
      have b2 := MB.col hy q2
      rw [b2.sign, bnd_s, if_pos rfl, b2.fail, bnd_s]
      unfold fX7_part_48 fX7_part_59
      rw [if_neg b2.bad]
      exact ⟨_, w2, rfl, b2, c1.tr c2⟩
    | .inr (c9, s9, p9) =>
      obtain ⟨g2, rfl⟩ := MG.col hy q2
      have s59 : fX7_isSign 52 (59 : Int32) w2 = some (if tk b z p9 = 12 then 1 else 0, w2) := g2.sign (x := 59) (by decide)
      show ∃ v w', _ ∧ MV b z t w' 0 env v (if tk b z p9 = 12 then (.inr (c9, s9, nx b z p9) : Rz) else .inl (tS b z p9)) ∧ _
      rw [s59, bnd_s, w01]
      unfold fX7_part_48 fX7_part_59
      by_cases h12 : tk b z p9 = 12
      · obtain ⟨w3, e3, g3, c3⟩ := g2.next (by rw [h12]; decide)
        rw [if_pos h12, if_pos h12, if_pos g2.bad, e3, bnd_s]
        exact ⟨_, w3, rfl, ⟨g3, rfl⟩, c1.tr (c2.tr c3)⟩
      · obtain ⟨w3, e3, b3, c3⟩ := g2.fail
        rw [if_neg h12, if_neg h12, e3, bnd_s, if_neg b3.bad]
        exact ⟨_, w3, rfl, b3, c1.tr (c2.tr c3)⟩
  · obtain ⟨w1, e1, b1, c1⟩ := h.fail
    rw [if_neg ht, if_neg ht, if_pos rfl, e1, bnd_s]
    unfold fX7_part_8 fX7_part_19 fX7_part_34
    rw [if_neg b1.bad, if_neg b1.bad, b1.sign, bnd_s, if_pos rfl, b1.fail, bnd_s]
    unfold fX7_part_48 fX7_part_59
    rw [if_neg b1.bad]
    exact ⟨_, w1, rfl, b1, c1⟩
/-- what reading text t of the model, part p, gives -/
def Red (w' : Wd) (v : Int32) (p : Nat) (env : Nat → Int32) (x : Nat ⊕ (List Int32 × List Int32 × List Int32 × Ev)) : Prop := match x with
  | .inl f => gI w' 52 25 = 1 ∧ gI w' 52 26 = nI f
  | .inr (_, _, _, ev) => gI w' 52 25 = 0 ∧ v = ev p env
theorem read_ev {b : Nat → Int32} {z t p : Nat} {w : Wd} (hS : St w) (hz : z ≤ 160) (ht : t < 6) (hp : p < 3) (hb : ∀ k, k < z → 0 ≤ b k) (h54 : gI w 54 t = nI z) (h53 : ∀ k, k < z → gI w 53 (160 * t + k) = b k) : ∃ v w', fX7_read 52 (nI t) (nI p) w = some (v, w') ∧ Red w' v p (envM w) (pText b z) ∧ Ch PR w w' := by
  obtain ⟨w1, hw1⟩ : ∃ w1, w1 = sI (sI (sI (sI (sI w 52 18 (nI (160 * t))) 52 19 (nI z)) 52 20 0) 52 24 0) 52 25 0 := ⟨_, rfl⟩
  have c1 : Ch PR w w1 := by
    rw [hw1]
    exact Ch.tr (Ch.tr (Ch.tr (Ch.tr (ch_sI ⟨rfl, by omega, by omega⟩) (ch_sI ⟨rfl, by omega, by omega⟩)) (ch_sI ⟨rfl, by omega, by omega⟩)) (ch_sI ⟨rfl, by omega, by omega⟩)) (ch_sI ⟨rfl, by omega, by omega⟩)
  have M1 : Mz b z t w1 := by
    refine ⟨c1.St hS, hz, ht, ?_, ?_, fun k hk => ?_⟩
    · rw [hw1, gI_sI, if_neg (by omega), gI_sI, if_neg (by omega), gI_sI, if_neg (by omega), gI_sI, if_neg (by omega), gI_sI, if_pos ⟨rfl, rfl⟩]
    · rw [hw1, gI_sI, if_neg (by omega), gI_sI, if_neg (by omega), gI_sI, if_neg (by omega), gI_sI, if_pos ⟨rfl, rfl⟩]
    · rw [c1.I (by unfold PR; omega)]; exact h53 k hk
  have g20 : gI w1 52 20 = nI 0 := by rw [hw1, gI_sI, if_neg (by omega), gI_sI, if_neg (by omega), gI_sI, if_pos ⟨rfl, rfl⟩]; rfl
  have e1 : envM w1 = envM w := envM_ch c1 (fun k _ _ => by unfold PR; omega)
  obtain ⟨w2, e2, x2, c2⟩ := next_ev hb M1 (Nat.zero_le z) g20
  have G2 : MG b z t w2 0 (envM w) 0 := by
    refine ⟨hb, M1.k c2, ?_, ?_, x2, Nat.zero_le _, ?_⟩
    · rw [c2.I (by unfold PK; omega), hw1, gI_sI, if_neg (by omega), gI_sI, if_pos ⟨rfl, rfl⟩]; rfl
    · rw [c2.I (by unfold PK; omega), hw1, gI_sI, if_pos ⟨rfl, rfl⟩]
    · rw [envM_ch c2 (fun k _ _ => by unfold PK; omega), e1]
  have c2 := c1.tr (c2.mono PK_PR)
  have f146 : ∀ (w9 : Wd) (v0 v1 v2 : Int32), fX7_read_146 52 (nI p) v0 v1 v2 w9 = some (if p = 0 then v0 else if p = 1 then v1 else v2, w9) := by
    intro w9 v0 v1 v2
    unfold fX7_read_146
    have hp3 : p = 0 ∨ p = 1 ∨ p = 2 := by omega
    rcases hp3 with rfl | rfl | rfl
    · rw [if_pos (by decide), if_pos rfl]
    · rw [if_neg (by decide), if_pos (by decide), if_neg (by decide), if_pos rfl]
    · rw [if_neg (by decide), if_neg (by decide), if_neg (by decide), if_neg (by decide)]
  have s1 : fX7_isWord 52 (108 : Int32) (97 : Int32) (115 : Int32) (116 : Int32) (115 : Int32) (0 : Int32) (0 : Int32) (0 : Int32) w2 = some (if tk b z 0 = nI (4 + 0) then 1 else 0, w2) := G2.word (k := 7) (by omega)
  obtain ⟨v3, w3, e3, q3, c3⟩ := mpart_ev (x := 0) (by omega) G2
  have c3 := c2.tr (c3.mono PQ_PR)
  have start : fX7_read 52 (nI t) (nI p) w = if (gI w3 52 25) = 0 then (bnd (fX7_isWord 52 (112 : Int32) (97 : Int32) (99 : Int32) (101 : Int32) (115 : Int32) (0 : Int32) (0 : Int32) (0 : Int32) w3) (fun x_13 w_14 => bnd (fX7_part 52 x_13 w_14) (fun x_15 w_16 => fX7_read_92 52 (nI p) v3 x_15 w_16))) else (fX7_read_92 52 (nI p) v3 (0 : Int32) w3) := by
    have m : (160 : Int32) * nI t = nI (160 * t) := pk_mul 160 t
    have ct : (nI t).toNatClampNeg = t := nI_clamp (by omega)
    have e54 : gI (sI w 52 18 (nI (160 * t))) 54 t = nI z := by rw [gI_sI, if_neg (by omega)]; exact h54
    unfold fX7_read
    rw [m, lw_e, dg_52_2 (St_sI hS), grd_t (by rw [ln_54]; exact vin_nI (by omega) (by omega)), ct, e54, lw_e, lw_e, lw_e, lw_e, ← hw1, e2, bnd_s, s1, bnd_s, e3, bnd_s]
  rw [start]
  unfold pText
  match h1 : pPart b z (nI 4) 0 with
  | .inl f =>
    have b3 := MB.col (x := pPart b z (nI 4) 0) h1 q3
    rw [if_neg b3.bad]
    unfold fX7_read_92
    rw [if_neg b3.bad]
    unfold fX7_read_126
    rw [if_neg b3.bad, f146]
    exact ⟨_, w3, rfl, ⟨b3.2.2.2.1, b3.2.2.2.2.1⟩, c3⟩
  | .inr (a0, s0, p0) =>
    obtain ⟨g3, hv3⟩ := MG.col (x := pPart b z (nI 4) 0) h1 q3
    have s2 : fX7_isWord 52 (112 : Int32) (97 : Int32) (99 : Int32) (101 : Int32) (115 : Int32) (0 : Int32) (0 : Int32) (0 : Int32) w3 = some (if tk b z p0 = nI (4 + 1) then 1 else 0, w3) := g3.word (k := 8) (by omega)
    obtain ⟨v4, w4, e4, q4, c4⟩ := mpart_ev (x := 1) (by omega) g3
    have c4 := c3.tr (c4.mono PQ_PR)
    rw [if_pos g3.bad, s2, bnd_s, e4, bnd_s]
    unfold fX7_read_92
    show ∃ v w', _ ∧ Red w' v p (envM w) (bX (pPart b z (nI 5) p0) _) ∧ _
    match h2 : pPart b z (nI 5) p0 with
    | .inl f =>
      have b4 := MB.col (x := pPart b z (nI 5) p0) h2 q4
      rw [if_neg b4.bad]
      unfold fX7_read_126
      rw [if_neg b4.bad, f146]
      exact ⟨_, w4, rfl, ⟨b4.2.2.2.1, b4.2.2.2.2.1⟩, c4⟩
    | .inr (a1, s1, p1) =>
      obtain ⟨g4, hv4⟩ := MG.col (x := pPart b z (nI 5) p0) h2 q4
      have s3 : fX7_isWord 52 (115 : Int32) (116 : Int32) (111 : Int32) (112 : Int32) (115 : Int32) (0 : Int32) (0 : Int32) (0 : Int32) w4 = some (if tk b z p1 = nI (4 + 2) then 1 else 0, w4) := g4.word (k := 9) (by omega)
      obtain ⟨v5, w5, e5, q5, c5⟩ := mpart_ev (x := 2) (by omega) g4
      have c5 := c4.tr (c5.mono PQ_PR)
      rw [if_pos g4.bad, s3, bnd_s, e5, bnd_s]
      unfold fX7_read_126
      show ∃ v w', _ ∧ Red w' v p (envM w) (bX (pPart b z (nI 6) p1) _) ∧ _
      match h3 : pPart b z (nI 6) p1 with
      | .inl f =>
        have b5 := MB.col (x := pPart b z (nI 6) p1) h3 q5
        rw [if_neg b5.bad, f146]
        exact ⟨_, w5, rfl, ⟨b5.2.2.2.1, b5.2.2.2.2.1⟩, c5⟩
      | .inr (a2, s2, p2) =>
        obtain ⟨g5, hv5⟩ := MG.col (x := pPart b z (nI 6) p1) h3 q5
        show ∃ v w', _ ∧ Red w' v p (envM w) (if tk b z p2 = 1 then .inr (a0, a1, a2, ev3 s0 s1 s2) else .inl (tS b z p2)) ∧ _
        rw [if_pos g5.bad, g5.kind]
        by_cases hk : tk b z p2 = 1
        · rw [if_pos hk, if_pos (mk_0.mpr hk), f146]
          refine ⟨_, w5, rfl, ⟨g5.bad, ?_⟩, c5⟩
          rw [hv3, hv4, hv5]
          unfold ev3
          by_cases q0 : p = 0
          · rw [if_pos q0, if_pos q0]
          · rw [if_neg q0, if_neg q0]
            by_cases q1 : p = 1
            · rw [if_pos q1, if_pos q1]
            · rw [if_neg q1, if_neg q1]
        · obtain ⟨w6, e6, b6, c6⟩ := g5.fail
          rw [if_neg hk, if_neg (fun y => hk (mk_0.mp y)), e6, bnd_s, f146]
          exact ⟨_, w6, rfl, ⟨b6.2.2.2.1, b6.2.2.2.2.1⟩, c5.tr (c6.mono PQ_PR)⟩
