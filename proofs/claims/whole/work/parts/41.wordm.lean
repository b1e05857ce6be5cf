/-! the model asks what its token is -/
theorem isW_of {b : Nat → Int32} {q e k : Nat} : isW b q e k = true ↔ (e = q + (sByt.getD k []).length ∧ ∀ i, i < (sByt.getD k []).length → b (q + i) = (sByt.getD k []).getD i 0) := by
  unfold isW
  simp only [decide_eq_true_eq]
/-- which word it is, by its length and first letter -/
def wInv (n : Nat) (x : Int32) : Nat := if n = 2 then 10 else if n = 3 then (if x = 100 then 5 else if x = 97 then 11 else 12) else if n = 4 then (if x = 116 then 1 else if x = 115 then 3 else 6) else if n = 5 then (if x = 108 then 7 else if x = 112 then 8 else 9) else if x = 117 then 2 else 4
theorem words_inv : ∀ k, k < 13 → 1 ≤ k → wInv (sByt.getD k []).length ((sByt.getD k []).getD 0 0) = k := by decide +kernel
theorem words_len : ∀ k, k < 13 → 0 < (sByt.getD k []).length := by decide +kernel
theorem getD_none {l : List Int32} {i : Nat} (h : l.length ≤ i) : l.getD i 0 = 0 := by
  rw [List.getD_eq_getElem?_getD, List.getElem?_eq_none h]
  rfl
theorem isW_one {b : Nat → Int32} {q e k k2 : Nat} (h : isW b q e k = true) (h2 : isW b q e k2 = true) (hk : 1 ≤ k ∧ k < 13) (hk2 : 1 ≤ k2 ∧ k2 < 13) : k = k2 := by
  obtain ⟨a1, a2⟩ := isW_of.mp h
  obtain ⟨b1, b2⟩ := isW_of.mp h2
  have e1 : (sByt.getD k []).length = (sByt.getD k2 []).length := by omega
  have e2 : (sByt.getD k []).getD 0 0 = (sByt.getD k2 []).getD 0 0 := (a2 0 (words_len k hk.2)).symm.trans (b2 0 (words_len k2 hk2.2))
  rw [← words_inv k hk.2 hk.1, ← words_inv k2 hk2.2 hk2.1, e1, e2]
theorem words_ok : ∀ k, k < 13 → 1 ≤ k → (sByt.getD k []).length ≤ 8 ∧ ∀ i, i < (sByt.getD k []).length → (sByt.getD k []).getD i 0 ≠ 0 := by decide +kernel
theorem mletter_ev {b : Nat → Int32} {z t q e i : Nat} {x : Int32} {w : Wd} (h : Mz b z t w) (h22 : gI w 52 22 = nI q) (h20 : gI w 52 20 = nI e) (he : e ≤ z) (hi : i < 8) (hq : q ≤ z) : fX7_isLetter 52 (nI i) x w = some (if (if e ≤ q + i then decide (x = 0) else decide (b (q + i) = x)) = true then 1 else 0, w) := by
  have hz := h.2.1
  unfold fX7_isLetter
  rw [h22, h20, nI_add]
  by_cases hle : e ≤ q + i
  · rw [if_pos (nI_le hle (by omega)), if_pos hle]
    by_cases hx : x = 0
    · rw [if_pos hx, if_pos (by simp only [decide_eq_true_eq]; exact hx)]
    · rw [if_neg hx, if_neg (by simp only [decide_eq_true_eq]; exact hx)]
  · rw [if_neg (nI_ge (by omega) (by omega)), if_neg hle, h.byte (by omega), bnd_s, if_pos (show q + i < z by omega)]
    by_cases hx : b (q + i) = x
    · rw [if_pos hx, if_pos (by simp only [decide_eq_true_eq]; exact hx)]
    · rw [if_neg hx, if_neg (by simp only [decide_eq_true_eq]; exact hx)]
theorem misW_ev {b : Nat → Int32} {z t p k : Nat} {w : Wd} (hk : 1 ≤ k ∧ k < 13) (h : Mz b z t w) (h25 : gI w 52 25 = 0) (hx : Mx b z w p) (hp : p ≤ z) : fX7_isWord 52 ((sByt.getD k []).getD 0 0) ((sByt.getD k []).getD 1 0) ((sByt.getD k []).getD 2 0) ((sByt.getD k []).getD 3 0) ((sByt.getD k []).getD 4 0) ((sByt.getD k []).getD 5 0) ((sByt.getD k []).getD 6 0) ((sByt.getD k []).getD 7 0) w = some (if mk b z p = 1 ∧ isW b (tS b z p) (wE b z (tS b z p)) k = true then 1 else 0, w) := by
  have hz := h.2.1
  obtain ⟨x1, x2, x3, -, -⟩ := hx
  obtain ⟨t1, t2⟩ := tS_le (b := b) hp
  obtain ⟨o1, o2⟩ := words_ok k hk.2 hk.1
  unfold fX7_isWord
  rw [if_pos h25, x1]
  by_cases hm : mk b z p = 1
  · rw [if_pos hm]
    have x3 := x3 (by rw [hm]; decide)
    have hmw : tS b z p < z ∧ cL (b (tS b z p)) = true := by
      unfold mk at hm
      by_cases hq : tS b z p < z
      · rw [if_pos hq] at hm
        by_cases hl : cL (b (tS b z p)) = true
        · exact ⟨hq, hl⟩
        · rw [if_neg hl] at hm
          by_cases hd : cD (b (tS b z p)) = true
          · rw [if_pos hd] at hm
            by_cases h4 : nE b z (tS b z p) ≤ tS b z p + 4
            · rw [if_pos h4] at hm; exact absurd hm (by decide)
            · rw [if_neg h4] at hm; exact absurd hm (by decide)
          · rw [if_neg hd] at hm
            by_cases h4 : sgT (b (tS b z p)) = 0
            · rw [if_pos h4] at hm; exact absurd hm (by decide)
            · rw [if_neg h4] at hm; exact absurd hm (by decide)
      · rw [if_neg hq] at hm; exact absurd hm (by decide)
    obtain ⟨hq, hl⟩ := hmw
    have hnx : nx b z p = wE b z (tS b z p) := by rw [nx, if_pos hq, if_pos hl]
    rw [hnx] at x3
    obtain ⟨e, he⟩ : ∃ e, e = wE b z (tS b z p) := ⟨_, rfl⟩
    obtain ⟨q, hqd⟩ : ∃ q, q = tS b z p := ⟨_, rfl⟩
    have hgo := sc_go (b := b) hq hl
    have hgo : q < e ∧ e ≤ z := by rw [he, hqd]; exact hgo
    have hall : ∀ y, q ≤ y → y < e → cL (b y) = true := fun y y1 y2 => sc_all (z - tS b z p) (tS b z p) y (by omega) (by rw [he] at y2; exact y2)
    rw [← he, ← hqd]
    rw [← he] at x3
    rw [← hqd] at x2
    have L : ∀ (i : Nat) (x : Int32), i < 8 → fX7_isLetter 52 (nI i) x w = some (if (if e ≤ q + i then decide (x = 0) else decide (b (q + i) = x)) = true then 1 else 0, w) := fun i x hi => mletter_ev h x2 x3 hgo.2 hi (by omega)
    have e8 : gI w 52 22 + 8 = nI (q + 8) := by rw [x2]; exact nI_add q 8
    rw [e8, x3]
    obtain ⟨X, hX⟩ : ∃ X : Nat → Int32, X = fun i => (sByt.getD k []).getD i 0 := ⟨_, rfl⟩
    have L0 : ∀ x : Int32, fX7_isLetter 52 (0 : Int32) x w = _ := fun x => L 0 x (by omega)
    have L1 : ∀ x : Int32, fX7_isLetter 52 (1 : Int32) x w = _ := fun x => L 1 x (by omega)
    have L2 : ∀ x : Int32, fX7_isLetter 52 (2 : Int32) x w = _ := fun x => L 2 x (by omega)
    have L3 : ∀ x : Int32, fX7_isLetter 52 (3 : Int32) x w = _ := fun x => L 3 x (by omega)
    have L4 : ∀ x : Int32, fX7_isLetter 52 (4 : Int32) x w = _ := fun x => L 4 x (by omega)
    have L5 : ∀ x : Int32, fX7_isLetter 52 (5 : Int32) x w = _ := fun x => L 5 x (by omega)
    have L6 : ∀ x : Int32, fX7_isLetter 52 (6 : Int32) x w = _ := fun x => L 6 x (by omega)
    have L7 : ∀ x : Int32, fX7_isLetter 52 (7 : Int32) x w = _ := fun x => L 7 x (by omega)
    by_cases hw : isW b q e k = true
    · obtain ⟨a1, a2⟩ := isW_of.mp hw
      have A : ∀ i, i < 8 → (if e ≤ q + i then decide ((sByt.getD k []).getD i 0 = 0) else decide (b (q + i) = (sByt.getD k []).getD i 0)) = true := by
        intro i hi
        by_cases hle : e ≤ q + i
        · rw [if_pos hle, decide_eq_true_eq]
          exact getD_none (by omega)
        · rw [if_neg hle, decide_eq_true_eq]
          exact a2 i (by omega)
      have n8 : ¬ nI (q + 8) < nI e := nI_nlt (by omega) (by omega)
      rw [if_neg n8, if_pos ⟨hm, hw⟩, L0, bnd_s, w01, if_pos (A 0 (by omega)), L1, bnd_s, w01, if_pos (A 1 (by omega)), L2, bnd_s, w01, if_pos (A 2 (by omega)), L3, bnd_s, w01, if_pos (A 3 (by omega)), L4, bnd_s, w01, if_pos (A 4 (by omega)), L5, bnd_s, w01, if_pos (A 5 (by omega)), L6, bnd_s, w01, if_pos (A 6 (by omega)), L7, bnd_s, w01, if_pos (A 7 (by omega))]
    · rw [if_neg (show ¬ (mk b z p = 1 ∧ isW b q e k = true) from fun y => hw y.2)]
      by_cases n8 : nI (q + 8) < nI e
      · rw [if_pos n8]
      · rw [if_neg n8]
        have n8 : e ≤ q + 8 := Nat.le_of_not_lt (fun y => n8 (nI_lt y (by omega)))
        have key : ¬ ∀ i, i < 8 → (if e ≤ q + i then decide ((sByt.getD k []).getD i 0 = 0) else decide (b (q + i) = (sByt.getD k []).getD i 0)) = true := by
          intro A
          refine hw (isW_of.mpr ⟨?_, ?_⟩)
          · rcases Nat.lt_trichotomy (e - q) (sByt.getD k []).length with hlt | heq | hgt
            · have a := A (e - q) (by omega)
              rw [if_pos (by omega), decide_eq_true_eq] at a
              exact absurd a (o2 (e - q) hlt)
            · omega
            · have a := A (sByt.getD k []).length (by omega)
              rw [if_neg (by omega), decide_eq_true_eq, getD_none (l := sByt.getD k []) (Nat.le_refl _)] at a
              have a2 := hall (q + (sByt.getD k []).length) (by omega) (by omega)
              rw [a] at a2
              exact absurd a2 (by decide)
          · intro i hi
            have a := A i (by omega)
            by_cases hle : e ≤ q + i
            · rw [if_pos hle, decide_eq_true_eq] at a
              exact absurd a (o2 i hi)
            · rw [if_neg hle, decide_eq_true_eq] at a
              exact a
        rw [L0, bnd_s, w01]
        by_cases A0 : (if e ≤ q + 0 then decide ((sByt.getD k []).getD 0 0 = 0) else decide (b (q + 0) = (sByt.getD k []).getD 0 0)) = true
        · rw [if_pos A0, L1, bnd_s, w01]
          by_cases A1 : (if e ≤ q + 1 then decide ((sByt.getD k []).getD 1 0 = 0) else decide (b (q + 1) = (sByt.getD k []).getD 1 0)) = true
          · rw [if_pos A1, L2, bnd_s, w01]
            by_cases A2 : (if e ≤ q + 2 then decide ((sByt.getD k []).getD 2 0 = 0) else decide (b (q + 2) = (sByt.getD k []).getD 2 0)) = true
            · rw [if_pos A2, L3, bnd_s, w01]
              by_cases A3 : (if e ≤ q + 3 then decide ((sByt.getD k []).getD 3 0 = 0) else decide (b (q + 3) = (sByt.getD k []).getD 3 0)) = true
              · rw [if_pos A3, L4, bnd_s, w01]
                by_cases A4 : (if e ≤ q + 4 then decide ((sByt.getD k []).getD 4 0 = 0) else decide (b (q + 4) = (sByt.getD k []).getD 4 0)) = true
                · rw [if_pos A4, L5, bnd_s, w01]
                  by_cases A5 : (if e ≤ q + 5 then decide ((sByt.getD k []).getD 5 0 = 0) else decide (b (q + 5) = (sByt.getD k []).getD 5 0)) = true
                  · rw [if_pos A5, L6, bnd_s, w01]
                    by_cases A6 : (if e ≤ q + 6 then decide ((sByt.getD k []).getD 6 0 = 0) else decide (b (q + 6) = (sByt.getD k []).getD 6 0)) = true
                    · rw [if_pos A6, L7, bnd_s, w01]
                      by_cases A7 : (if e ≤ q + 7 then decide ((sByt.getD k []).getD 7 0 = 0) else decide (b (q + 7) = (sByt.getD k []).getD 7 0)) = true
                      · refine absurd (fun i hi => ?_) key
                        match i, hi with
                        | 0, _ => exact A0
                        | 1, _ => exact A1
                        | 2, _ => exact A2
                        | 3, _ => exact A3
                        | 4, _ => exact A4
                        | 5, _ => exact A5
                        | 6, _ => exact A6
                        | 7, _ => exact A7
                      · rw [if_neg A7]
                    · rw [if_neg A6]
                  · rw [if_neg A5]
                · rw [if_neg A4]
              · rw [if_neg A3]
            · rw [if_neg A2]
          · rw [if_neg A1]
        · rw [if_neg A0]
  · rw [if_neg hm, if_neg (fun y => hm y.1)]
theorem misS_ev {b : Nat → Int32} {z p : Nat} {w : Wd} {x : Int32} (h25 : gI w 52 25 = 0) (hx : Mx b z w p) : fX7_isSign 52 x w = some (if mk b z p = 3 ∧ b (tS b z p) = x then 1 else 0, w) := by
  obtain ⟨x1, x2, x3, x4, -⟩ := hx
  unfold fX7_isSign
  rw [if_pos h25, x1]
  by_cases hm : mk b z p = 3
  · rw [if_pos hm, x4 hm]
    by_cases hb : b (tS b z p) = x
    · rw [if_pos ((lgeq _ _).mpr ((eq64 _ _).mpr hb)), if_pos ⟨hm, hb⟩]
    · rw [if_neg (fun y => hb ((eq64 _ _).mp ((lgeq _ _).mp y))), if_neg (fun y => hb y.2)]
  · rw [if_neg hm, if_neg (fun y => hm y.1)]
