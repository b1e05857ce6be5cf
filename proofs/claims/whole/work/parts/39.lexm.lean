/-! the model takes a token -/
theorem lgeq (x y : Int64) : lg_cmp x y = 0 ↔ x = y := by
  unfold lg_cmp
  by_cases h : x > y
  · rw [if_pos h]
    constructor
    · intro z; exact absurd z (by decide)
    · intro z
      have h2 := Int64.lt_iff_toInt_lt.mp h
      rw [z] at h2
      omega
  · rw [if_neg h]
    by_cases h2 : x = y
    · rw [if_pos h2]; exact ⟨fun _ => h2, fun _ => rfl⟩
    · rw [if_neg h2]
      constructor
      · intro z; exact absurd z (by decide)
      · intro z; exact absurd z h2
theorem in_ev {x a c : Int64} {w : Wd} : fX7_in x a c w = some (if a ≤ x ∧ x ≤ c then 1 else 0, w) := by
  unfold fX7_in
  by_cases h1 : lg_cmp x a < 0
  · have h2 := (lg_cmp_lt x a).mp h1
    rw [if_pos h1, if_neg (fun z => by
      have a1 := Int64.lt_iff_toInt_lt.mp h2
      have a2 := Int64.le_iff_toInt_le.mp z.1
      omega)]
  · rw [if_neg h1]
    have h1 : ¬ x < a := fun z => h1 ((lg_cmp_lt x a).mpr z)
    by_cases h2 : 0 < lg_cmp x c
    · have h3 := (lg_cmp_gt x c).mp h2
      rw [if_pos h2, if_neg (fun z => by
        have a1 := Int64.lt_iff_toInt_lt.mp h3
        have a2 := Int64.le_iff_toInt_le.mp z.2
        omega)]
    · rw [if_neg h2]
      have h2 : ¬ c < x := fun z => h2 ((lg_cmp_gt x c).mpr z)
      have h3 : ¬ x.toInt < a.toInt := fun z => h1 (Int64.lt_iff_toInt_lt.mpr z)
      have h4 : ¬ c.toInt < x.toInt := fun z => h2 (Int64.lt_iff_toInt_lt.mpr z)
      rw [if_pos ⟨Int64.le_iff_toInt_le.mpr (by omega), Int64.le_iff_toInt_le.mpr (by omega)⟩]
theorem le64 (x y : Int32) : x.toInt64 ≤ y.toInt64 ↔ x ≤ y := by
  rw [Int64.le_iff_toInt_le, Int32.le_iff_toInt_le, Int32.toInt_toInt64, Int32.toInt_toInt64]
theorem eq64 (x y : Int32) : x.toInt64 = y.toInt64 ↔ x = y := by
  rw [← Int64.toInt_inj, ← Int32.toInt_inj, Int32.toInt_toInt64, Int32.toInt_toInt64]
theorem in32 {x a c : Int32} {w : Wd} : fX7_in x.toInt64 a.toInt64 c.toInt64 w = some (if a ≤ x ∧ x ≤ c then 1 else 0, w) := by
  rw [in_ev]
  by_cases h : a ≤ x ∧ x ≤ c
  · rw [if_pos h, if_pos ⟨(le64 _ _).mpr h.1, (le64 _ _).mpr h.2⟩]
  · rw [if_neg h, if_neg (fun z => h ⟨(le64 _ _).mp z.1, (le64 _ _).mp z.2⟩)]
theorem inL {x : Int32} {w : Wd} : fX7_in x.toInt64 (97 : Int64) (122 : Int64) w = some (if cL x = true then 1 else 0, w) := by
  have h := in32 (x := x) (a := 97) (c := 122) (w := w)
  have e1 : (97 : Int32).toInt64 = (97 : Int64) := by decide
  have e2 : (122 : Int32).toInt64 = (122 : Int64) := by decide
  rw [e1, e2] at h
  rw [h]
  unfold cL
  by_cases c : 97 ≤ x ∧ x ≤ 122
  · rw [if_pos c, if_pos (by simp only [decide_eq_true_eq]; exact c)]
  · rw [if_neg c, if_neg (by simp only [decide_eq_true_eq]; exact c)]
theorem inD {x : Int32} {w : Wd} : fX7_in x.toInt64 (48 : Int64) (57 : Int64) w = some (if cD x = true then 1 else 0, w) := by
  have h := in32 (x := x) (a := 48) (c := 57) (w := w)
  have e1 : (48 : Int32).toInt64 = (48 : Int64) := by decide
  have e2 : (57 : Int32).toInt64 = (57 : Int64) := by decide
  rw [e1, e2] at h
  rw [h]
  unfold cD
  by_cases c : 48 ≤ x ∧ x ≤ 57
  · rw [if_pos c, if_pos (by simp only [decide_eq_true_eq]; exact c)]
  · rw [if_neg c, if_neg (by simp only [decide_eq_true_eq]; exact c)]
/-- the bytes that the model reads -/
def Mz (b : Nat → Int32) (z t : Nat) (w : Wd) : Prop := St w ∧ z ≤ 160 ∧ t < 6 ∧ gI w 52 18 = nI (160 * t) ∧ gI w 52 19 = nI z ∧ ∀ k, k < z → gI w 53 (160 * t + k) = b k
/-- a token's places -/
def PK (i k : Nat) : Prop := i = 52 ∧ 20 ≤ k ∧ k ≤ 22
theorem PK_PR (i k : Nat) (h : PK i k) : PR i k := by unfold PK at h; unfold PR; omega
theorem Mz.ch {P : Nat → Nat → Prop} {b : Nat → Int32} {z t : Nat} {w w' : Wd} (h : Mz b z t w) (hc : Ch P w w') (hP : ∀ i k, P i k → i = 52 ∧ 20 ≤ k) : Mz b z t w' := by
  obtain ⟨h1, h2, h3, h4, h5, h6⟩ := h
  refine ⟨hc.St h1, h2, h3, ?_, ?_, fun k hk => ?_⟩
  · rw [hc.I (fun q => by have := hP _ _ q; omega)]; exact h4
  · rw [hc.I (fun q => by have := hP _ _ q; omega)]; exact h5
  · rw [hc.I (fun q => by have := hP _ _ q; omega)]; exact h6 k hk
theorem Mz.k {b : Nat → Int32} {z t : Nat} {w w' : Wd} (h : Mz b z t w) (hc : Ch PK w w') : Mz b z t w' := h.ch hc (fun i k q => by unfold PK at q; omega)
theorem Mz.byte {b : Nat → Int32} {z t q : Nat} {w : Wd} (h : Mz b z t w) (hq : q < 2 ^ 20) : fX7_byteAt 52 (nI q) w = some (if q < z then b q else -1, w) := by
  obtain ⟨h1, h2, h3, h4, h5, h6⟩ := h
  unfold fX7_byteAt
  rw [h5]
  by_cases hz : q < z
  · have c : (nI (160 * t + q)).toNatClampNeg = 160 * t + q := nI_clamp (by omega)
    rw [if_neg (nI_ge hz (by omega)), if_pos hz, dg_52_1 h1, h4, nI_add, grd_t (by rw [ln_53]; exact vin_nI (by omega) (by omega)), c, h6 q hz]
  · rw [if_pos (nI_le (by omega) (by omega)), if_neg hz]
/-- the sort of a token, as the model has it -/
def mk (b : Nat → Int32) (z p : Nat) : Int32 := if tS b z p < z then (if cL (b (tS b z p)) = true then 1 else if cD (b (tS b z p)) = true then (if nE b z (tS b z p) ≤ tS b z p + 4 then 2 else 4) else if sgT (b (tS b z p)) = 0 then 4 else 3) else 0
def Mx (b : Nat → Int32) (z : Nat) (w : Wd) (p : Nat) : Prop := gI w 52 21 = mk b z p ∧ gI w 52 22 = nI (tS b z p) ∧ (mk b z p ≠ 4 → gI w 52 20 = nI (nx b z p)) ∧ (mk b z p = 3 → gL w 52 23 = (b (tS b z p)).toInt64) ∧ (mk b z p = 2 → gL w 52 23 = (am b z p).toInt64)
theorem mword_loop {b : Nat → Int32} {z t : Nat} : ∀ (n q fu : Nat) (w : Wd), Mz b z t w → q + n = z → gI w 52 20 = nI q → n < fu → ∃ w1, fX7_next_100 52 fu w = some ((), w1) ∧ gI w1 52 20 = nI (sc cL b n q) ∧ Ch (fun i k => i = 52 ∧ k = 20) w w1 := by
  intro n
  induction n with
  | zero =>
    intro q fu w h hn h2 hf
    obtain ⟨fu, rfl⟩ : ∃ y, fu = y + 1 := ⟨fu - 1, by omega⟩
    have hz := h.2.1
    rw [fX7_next_100]
    dsimp only
    have hm : cL (-1) = false := by decide
    rw [h2, h.byte (by omega), bnd_s, inL, bnd_s, if_neg (show ¬ q < z by omega), hm, if_neg (show ¬ (false = true) by decide), if_pos rfl]
    exact ⟨w, rfl, h2, Ch.rf⟩
  | succ n ih =>
    intro q fu w h hn h2 hf
    obtain ⟨fu, rfl⟩ : ∃ y, fu = y + 1 := ⟨fu - 1, by omega⟩
    have hz := h.2.1
    rw [fX7_next_100]
    dsimp only
    rw [h2, h.byte (by omega), bnd_s, inL, bnd_s, if_pos (show q < z by omega), w01, sc]
    by_cases hc : cL (b q) = true
    · rw [if_pos hc, if_pos hc, lw_e, h2, nI_1]
      have c1 : Ch (fun i k => i = 52 ∧ k = 20) w (sI w 52 20 (nI (q + 1))) := ch_sI ⟨rfl, rfl⟩
      obtain ⟨w2, e2, r2, c2⟩ := ih (q + 1) fu _ (h.ch c1 (fun i k q => by omega)) (by omega) (by rw [gI_sI, if_pos ⟨rfl, rfl⟩]) (by omega)
      exact ⟨w2, e2, r2, c1.tr c2⟩
    · rw [if_neg hc, if_neg hc]
      exact ⟨w, rfl, h2, Ch.rf⟩
theorem mnum_loop {b : Nat → Int32} {z t : Nat} : ∀ (n q i v fu : Nat) (w : Wd), Mz b z t w → q + n = z → gI w 52 20 = nI q → (i ≤ 4 → v < 10 ^ i ∧ gL w 52 23 = lN v) → i ≤ q → n < fu → ∃ w1, fX7_next_160 52 fu (nI i) w = some ((), w1) ∧ gI w1 52 20 = nI (sc cD b n q) ∧ gI w1 52 21 = (if sc cD b n q + i ≤ q + 4 then 2 else 4) ∧ (sc cD b n q + i ≤ q + 4 → gL w1 52 23 = (vl b n q (nI v)).toInt64) ∧ Ch (fun i k => i = 52 ∧ (k = 20 ∨ k = 21)) w w1 := by
  have e246 : ∀ (w : Wd) (y : Int32), fX7_next_246 52 y w = some ((), sI w 52 21 y) := fun w y => rfl
  have stop : ∀ (q i v : Nat) (w : Wd), gI w 52 20 = nI q → i < 2 ^ 20 → (i ≤ 4 → v < 10 ^ i ∧ gL w 52 23 = lN v) → ∃ w1, (if nI i ≤ (4 : Int32) then fX7_next_246 52 (2 : Int32) w else fX7_next_246 52 (4 : Int32) w) = some ((), w1) ∧ gI w1 52 20 = nI q ∧ gI w1 52 21 = (if q + i ≤ q + 4 then 2 else 4) ∧ (q + i ≤ q + 4 → gL w1 52 23 = (nI v).toInt64) ∧ Ch (fun i k => i = 52 ∧ (k = 20 ∨ k = 21)) w w1 := by
    intro q i v w h2 hi hv
    by_cases h4 : i ≤ 4
    · have hle : nI i ≤ (4 : Int32) := nI_le (b := 4) h4 (by omega)
      rw [if_pos hle, if_pos (show q + i ≤ q + 4 by omega), e246]
      obtain ⟨v1, v2⟩ := hv h4
      have hp : 10 ^ i ≤ 10 ^ 4 := Nat.pow_le_pow_right (by omega) h4
      have hp2 : (10 : Nat) ^ 4 = 10000 := by decide
      refine ⟨_, rfl, by rw [gI_sI, if_neg (by omega)]; exact h2, by rw [gI_sI, if_pos ⟨rfl, rfl⟩], fun _ => ?_, ch_sI ⟨rfl, Or.inr rfl⟩⟩
      rw [nI_l (by omega)]
      exact v2
    · have hle : ¬ nI i ≤ (4 : Int32) := nI_ge (a := 4) (by omega) (by omega)
      rw [if_neg hle, if_neg (show ¬ q + i ≤ q + 4 by omega), e246]
      exact ⟨_, rfl, by rw [gI_sI, if_neg (by omega)]; exact h2, by rw [gI_sI, if_pos ⟨rfl, rfl⟩], fun z => by omega, ch_sI ⟨rfl, Or.inr rfl⟩⟩
  intro n
  induction n with
  | zero =>
    intro q i v fu w h hn h2 hv hi hf
    obtain ⟨fu, rfl⟩ : ∃ y, fu = y + 1 := ⟨fu - 1, by omega⟩
    have hz := h.2.1
    rw [fX7_next_160]
    dsimp only
    have hm : cD (-1) = false := by decide
    rw [h2, h.byte (by omega), bnd_s, inD, bnd_s, if_neg (show ¬ q < z by omega), hm, if_neg (show ¬ (false = true) by decide), if_pos rfl]
    exact stop q i v w h2 (by omega) hv
  | succ n ih =>
    intro q i v fu w h hn h2 hv hi hf
    obtain ⟨fu, rfl⟩ : ∃ y, fu = y + 1 := ⟨fu - 1, by omega⟩
    have hz := h.2.1
    rw [fX7_next_160]
    dsimp only
    rw [h2, h.byte (by omega), bnd_s, inD, bnd_s, if_pos (show q < z by omega), w01, sc, vl]
    by_cases hc : cD (b q) = true
    · rw [if_pos hc, if_pos hc, if_pos hc]
      obtain ⟨d, d1, d2, d3⟩ := cD_nI hc
      have hs := sc_le cD b n (q + 1)
      have e1 : nI v * 10 + b q - 48 = nI (v * 10 + (d - 48)) := by
        have e1 : nI v * (10 : Int32) = nI (v * 10) := pk_mul v 10
        have e2 : nI (v * 10 + d) - (48 : Int32) = nI (v * 10 + d - 48) := pk_sub (a := v * 10 + d) (b := 48) (by omega)
        rw [d3, e1, nI_add, e2, show v * 10 + d - 48 = v * 10 + (d - 48) by omega]
      have go : ∀ y : Int64, (i + 1 ≤ 4 → v * 10 + (d - 48) < 10 ^ (i + 1) ∧ y = lN (v * 10 + (d - 48))) → ∃ w1, fX7_next_216 (fX7_next_160 52 fu) 52 (nI i) y w = some ((), w1) ∧ gI w1 52 20 = nI (sc cD b n (q + 1)) ∧ gI w1 52 21 = (if sc cD b n (q + 1) + i ≤ q + 4 then 2 else 4) ∧ (sc cD b n (q + 1) + i ≤ q + 4 → gL w1 52 23 = (vl b n (q + 1) (nI v * 10 + b q - 48)).toInt64) ∧ Ch (fun i k => i = 52 ∧ (k = 20 ∨ k = 21)) w w1 := by
        intro y hy
        have c1 : Ch (fun i k => i = 52 ∧ (k = 20 ∨ k = 21)) w (sI (sL w 52 23 y) 52 20 (nI (q + 1))) := ch_sL.tr (ch_sI ⟨rfl, Or.inl rfl⟩)
        obtain ⟨w2, e2, r2, r3, r4, c2⟩ := ih (q + 1) (i + 1) (v * 10 + (d - 48)) fu _ (h.ch c1 (fun i k q => by omega)) (by omega) (by rw [gI_sI, if_pos ⟨rfl, rfl⟩]) (fun h4 => ⟨(hy h4).1, by
          have : gL (sI (sL w 52 23 y) 52 20 (nI (q + 1))) 52 23 = y := by rw [gL_sI, gL_sL, if_pos ⟨rfl, rfl⟩]
          rw [this]; exact (hy h4).2⟩) (by omega) (by omega)
        refine ⟨w2, ?_, r2, ?_, fun h4 => ?_, c1.tr c2⟩
        · unfold fX7_next_216
          have g20 : gI (sL w 52 23 y) 52 20 = nI q := h2
          rw [lw_e, g20, nI_1, lw_e, nI_1]
          exact e2
        · rw [r3]
          by_cases h5 : sc cD b n (q + 1) + i ≤ q + 4
          · rw [if_pos h5, if_pos (by omega)]
          · rw [if_neg h5, if_neg (by omega)]
        · rw [e1]
          exact r4 (by omega)
      by_cases h4 : i < 4
      · have hle : ¬ (4 : Int32) ≤ nI i := nI_ge (b := 4) h4 (by omega)
        obtain ⟨v1, v2⟩ := hv (by omega)
        have hp : 10 ^ i ≤ 10 ^ 4 := Nat.pow_le_pow_right (by omega) (by omega)
        have hp2 : (10 : Nat) ^ 4 = 10000 := by decide
        rw [if_neg hle, h2, h.byte (by omega), bnd_s, if_pos (show q < z by omega), v2]
        refine go _ (fun h5 => ⟨by rw [Nat.pow_succ]; omega, ?_⟩)
        have a1 : (10 : Int64) * lN v = lN (10 * v) := lN_mul 10 v
        have a2 : lN (10 * v + d) - (48 : Int64) = lN (10 * v + d - 48) := lN_sub (a := 10 * v + d) (b := 48) (by omega)
        rw [a1, d3, nI_l (by omega), lN_add, a2, show 10 * v + d - 48 = v * 10 + (d - 48) by omega]
      · have hle : (4 : Int32) ≤ nI i := nI_le (a := 4) (by omega) (by omega)
        rw [if_pos hle]
        exact go _ (fun h5 => by omega)
    · rw [if_neg hc, if_neg hc, if_neg hc]
      exact stop q i v w h2 (by omega) hv
