/-! the model's reading: where it stands -/
theorem tk_mk (b : Nat → Int32) (z p : Nat) : (mk b z p = 0 ∧ tk b z p = 1) ∨ (mk b z p = 1 ∧ tk b z p = (if nmT b (tS b z p) (wE b z (tS b z p)) = -1 then wdT b (tS b z p) (wE b z (tS b z p)) else 3) ∧ am b z p = nmT b (tS b z p) (wE b z (tS b z p))) ∨ (mk b z p = 2 ∧ tk b z p = 2) ∨ (mk b z p = 3 ∧ tk b z p = sgT (b (tS b z p)) ∧ sgT (b (tS b z p)) ≠ 0) ∨ (mk b z p = 4 ∧ tk b z p = 0) := by
  unfold mk tk am
  by_cases hq : tS b z p < z
  · rw [if_pos hq, if_pos hq]
    by_cases hl : cL (b (tS b z p)) = true
    · rw [if_pos hl, if_pos hl, if_pos hl]
      exact Or.inr (Or.inl ⟨rfl, rfl, rfl⟩)
    · rw [if_neg hl, if_neg hl, if_neg hl]
      by_cases hd : cD (b (tS b z p)) = true
      · rw [if_pos hd, if_pos hd]
        by_cases h4 : nE b z (tS b z p) ≤ tS b z p + 4
        · rw [if_pos h4, if_pos h4]
          exact Or.inr (Or.inr (Or.inl ⟨rfl, rfl⟩))
        · rw [if_neg h4, if_neg h4]
          exact Or.inr (Or.inr (Or.inr (Or.inr ⟨rfl, rfl⟩)))
      · rw [if_neg hd, if_neg hd]
        by_cases hs : sgT (b (tS b z p)) = 0
        · rw [if_pos hs]
          exact Or.inr (Or.inr (Or.inr (Or.inr ⟨rfl, hs⟩)))
        · rw [if_neg hs]
          exact Or.inr (Or.inr (Or.inr (Or.inl ⟨rfl, rfl, hs⟩)))
  · rw [if_neg hq, if_neg hq]
    exact Or.inl ⟨rfl, rfl⟩
theorem mk_ne4 {b : Nat → Int32} {z p : Nat} (h : tk b z p ≠ 0) : mk b z p ≠ 4 := by
  intro h4
  rcases tk_mk b z p with ⟨a, _⟩ | ⟨a, _⟩ | ⟨a, _⟩ | ⟨a, _⟩ | ⟨_, a⟩
  · rw [h4] at a; exact absurd a (by decide)
  · rw [h4] at a; exact absurd a (by decide)
  · rw [h4] at a; exact absurd a (by decide)
  · rw [h4] at a; exact absurd a (by decide)
  · exact h a
theorem sgT_inj {x y : Int32} (h : sgT x = sgT y) (h0 : sgT x ≠ 0) : x = y := by
  have key : ∀ u : Int32, sgT u ≠ 0 → u = (if sgT u = 10 then 40 else if sgT u = 11 then 41 else if sgT u = 15 then 42 else if sgT u = 13 then 43 else if sgT u = 14 then 45 else if sgT u = 12 then 59 else if sgT u = 16 then 60 else 61) := by
    intro u hu
    by_cases h1 : u = 40
    · rw [h1]; rfl
    by_cases h2 : u = 41
    · rw [h2]; rfl
    by_cases h3 : u = 42
    · rw [h3]; rfl
    by_cases h4 : u = 43
    · rw [h4]; rfl
    by_cases h5 : u = 45
    · rw [h5]; rfl
    by_cases h6 : u = 59
    · rw [h6]; rfl
    by_cases h7 : u = 60
    · rw [h7]; rfl
    by_cases h8 : u = 61
    · rw [h8]; rfl
    refine absurd ?_ hu
    unfold sgT
    rw [if_neg h1, if_neg h2, if_neg h3, if_neg h4, if_neg h5, if_neg h6, if_neg h7, if_neg h8]
  rw [key x h0, key y (by rw [← h]; exact h0), h]
/-- a sign's token -/
theorem tk_s {b : Nat → Int32} {z p : Nat} {x : Int32} (h0 : sgT x ≠ 0) : (mk b z p = 3 ∧ b (tS b z p) = x) ↔ tk b z p = sgT x := by
  have hx := sgT_in x
  constructor
  · rintro ⟨a1, a2⟩
    rcases tk_mk b z p with ⟨a, _⟩ | ⟨a, _⟩ | ⟨a, _⟩ | ⟨_, a, _⟩ | ⟨a, _⟩
    · rw [a1] at a; exact absurd a (by decide)
    · rw [a1] at a; exact absurd a (by decide)
    · rw [a1] at a; exact absurd a (by decide)
    · rw [a, a2]
    · rw [a1] at a; exact absurd a (by decide)
  · intro h
    rcases tk_mk b z p with ⟨_, a⟩ | ⟨_, a, _⟩ | ⟨_, a⟩ | ⟨a1, a, a2⟩ | ⟨_, a⟩
    · rw [h] at a; exact absurd a hx.2.2.1
    · rw [h] at a
      by_cases hn : nmT b (tS b z p) (wE b z (tS b z p)) = -1
      · rw [if_pos hn] at a
        unfold wdT at a
        revert a
        split
        · intro a; exact absurd a hx.2.2.2.1
        split
        · intro a; exact absurd a hx.2.2.2.2.1
        split
        · intro a; exact absurd a hx.2.2.2.2.2.1
        split
        · intro a; exact absurd a hx.2.2.2.2.2.2.1
        split
        · intro a; exact absurd a hx.2.2.2.2.2.2.2.1
        split
        · intro a; exact absurd a hx.2.2.2.2.2.2.2.2
        · intro a; exact absurd a h0
      · rw [if_neg hn] at a; exact absurd a hx.2.1
    · rw [h] at a; exact absurd a hx.1
    · exact ⟨a1, sgT_inj (a.symm.trans h) a2⟩
    · rw [h] at a; exact absurd a h0
/-- a name is no other word -/
theorem nmT_no {b : Nat → Int32} {q e k : Nat} (hk : 7 ≤ k ∧ k < 13) (h : isW b q e k = true) : nmT b q e = -1 := by
  have n : ∀ k2, 1 ≤ k2 → k2 ≤ 6 → ¬ isW b q e k2 = true := fun k2 a1 a2 y => by
    have := isW_one h y (by omega) (by omega)
    omega
  unfold nmT
  rw [if_neg (n 1 (by omega) (by omega)), if_neg (n 2 (by omega) (by omega)), if_neg (n 3 (by omega) (by omega)), if_neg (n 4 (by omega) (by omega)), if_neg (n 5 (by omega) (by omega)), if_neg (n 6 (by omega) (by omega))]
theorem wdT_k {b : Nat → Int32} {q e k : Nat} (hk : 7 ≤ k ∧ k < 13) (h : isW b q e k = true) : wdT b q e = nI (k - 3) := by
  have n : ∀ k2, 7 ≤ k2 → k2 < 13 → k2 ≠ k → ¬ isW b q e k2 = true := fun k2 a1 a2 a3 y => a3 (isW_one y h (by omega) (by omega))
  unfold wdT
  have hk2 : k = 7 ∨ k = 8 ∨ k = 9 ∨ k = 10 ∨ k = 11 ∨ k = 12 := by omega
  rcases hk2 with rfl | rfl | rfl | rfl | rfl | rfl
  · rw [if_pos h]; rfl
  · rw [if_neg (n 7 (by omega) (by omega) (by omega)), if_pos h]; rfl
  · rw [if_neg (n 7 (by omega) (by omega) (by omega)), if_neg (n 8 (by omega) (by omega) (by omega)), if_pos h]; rfl
  · rw [if_neg (n 7 (by omega) (by omega) (by omega)), if_neg (n 8 (by omega) (by omega) (by omega)), if_neg (n 9 (by omega) (by omega) (by omega)), if_pos h]; rfl
  · rw [if_neg (n 7 (by omega) (by omega) (by omega)), if_neg (n 8 (by omega) (by omega) (by omega)), if_neg (n 9 (by omega) (by omega) (by omega)), if_neg (n 10 (by omega) (by omega) (by omega)), if_pos h]; rfl
  · rw [if_neg (n 7 (by omega) (by omega) (by omega)), if_neg (n 8 (by omega) (by omega) (by omega)), if_neg (n 9 (by omega) (by omega) (by omega)), if_neg (n 10 (by omega) (by omega) (by omega)), if_neg (n 11 (by omega) (by omega) (by omega)), if_pos h]; rfl
theorem wdT_inv {b : Nat → Int32} {q e : Nat} (h : wdT b q e ≠ 0) : ∃ k, 7 ≤ k ∧ k < 13 ∧ isW b q e k = true := by
  by_cases h7 : isW b q e 7 = true
  · exact ⟨7, by omega, by omega, h7⟩
  by_cases h8 : isW b q e 8 = true
  · exact ⟨8, by omega, by omega, h8⟩
  by_cases h9 : isW b q e 9 = true
  · exact ⟨9, by omega, by omega, h9⟩
  by_cases h10 : isW b q e 10 = true
  · exact ⟨10, by omega, by omega, h10⟩
  by_cases h11 : isW b q e 11 = true
  · exact ⟨11, by omega, by omega, h11⟩
  by_cases h12 : isW b q e 12 = true
  · exact ⟨12, by omega, by omega, h12⟩
  refine absurd ?_ h
  unfold wdT
  rw [if_neg h7, if_neg h8, if_neg h9, if_neg h10, if_neg h11, if_neg h12]
/-- a word's token -/
theorem tk_w {b : Nat → Int32} {z p k : Nat} (hk : 7 ≤ k ∧ k < 13) : (mk b z p = 1 ∧ isW b (tS b z p) (wE b z (tS b z p)) k = true) ↔ tk b z p = nI (k - 3) := by
  have hin : ∀ n : Nat, n < 100 → nI (k - 3) = nI n → n = k - 3 := fun n hn y => ((nI_eq (a := k - 3) (b := n) (by omega) (by omega)).mp y).symm
  constructor
  · rintro ⟨a1, a2⟩
    rcases tk_mk b z p with ⟨a, _⟩ | ⟨_, a, _⟩ | ⟨a, _⟩ | ⟨a, _⟩ | ⟨a, _⟩
    · rw [a1] at a; exact absurd a (by decide)
    · rw [a, if_pos (nmT_no hk a2), wdT_k hk a2]
    · rw [a1] at a; exact absurd a (by decide)
    · rw [a1] at a; exact absurd a (by decide)
    · rw [a1] at a; exact absurd a (by decide)
  · intro h
    rcases tk_mk b z p with ⟨_, a⟩ | ⟨a0, a, _⟩ | ⟨_, a⟩ | ⟨_, a, a2⟩ | ⟨_, a⟩
    · rw [h] at a; have := hin 1 (by omega) a; omega
    · refine ⟨a0, ?_⟩
      rw [h] at a
      by_cases hn : nmT b (tS b z p) (wE b z (tS b z p)) = -1
      · rw [if_pos hn] at a
        have hne : wdT b (tS b z p) (wE b z (tS b z p)) ≠ 0 := fun y => by
          rw [y] at a
          have := hin 0 (by omega) a
          omega
        obtain ⟨k2, b1, b2, b3⟩ := wdT_inv hne
        rw [wdT_k ⟨b1, b2⟩ b3] at a
        have := hin (k2 - 3) (by omega) a
        rw [show k = k2 by omega]
        exact b3
      · rw [if_neg hn] at a; have := hin 3 (by omega) a; omega
    · rw [h] at a; have := hin 2 (by omega) a; omega
    · have hx := sgT_in (b (tS b z p))
      rw [← a, h] at hx
      obtain ⟨-, -, -, y1, y2, y3, y4, y5, y6⟩ := hx
      have hk2 : k = 7 ∨ k = 8 ∨ k = 9 ∨ k = 10 ∨ k = 11 ∨ k = 12 := by omega
      rcases hk2 with rfl | rfl | rfl | rfl | rfl | rfl
      · exact absurd rfl y1
      · exact absurd rfl y2
      · exact absurd rfl y3
      · exact absurd rfl y4
      · exact absurd rfl y5
      · exact absurd rfl y6
    · rw [h] at a; have := hin 0 (by omega) a; omega
