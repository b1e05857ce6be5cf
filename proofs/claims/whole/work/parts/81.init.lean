/-! the making: what is left behind -/
theorem some_of {o : Option (Unit × Wd)} (h : o.isSome = true) : o = some ((), (o.getD ((), w0)).2) := by
  cases o with
  | none => exact absurd h (by decide)
  | some q => rfl
def w1X : Wd := ((fX6_init 0 (al w0)).getD ((), w0)).2
def w2X : Wd := ((fX7_init 52 (al w1X)).getD ((), w0)).2
set_option maxRecDepth 1000000 in
theorem x6_some : (fX6_init 0 (al w0)).isSome = true := by decide +kernel
set_option maxRecDepth 1000000 in
theorem x6_wn : wn w1X = 52 := by decide +kernel
set_option maxRecDepth 1000000 in
theorem x7_some : (fX7_init 52 (al w1X)).isSome = true := by decide +kernel
set_option maxRecDepth 1000000 in
theorem x7_wn : wn w2X = 66 := by decide +kernel
def refB (w : Wd) : Bool := (List.range 66).all (fun i => (List.range 46).all (fun k => decide ((i = 50 ∧ k = 7) ∨ (i = 5 ∧ k = 8) ∨ gR w i k = Rs i k)))
set_option maxRecDepth 1000000 in
theorem x_refs : refB w2X = true := by decide +kernel
def intB (w : Wd) : Prop := gI w 0 3 = 0 ∧ gI w 52 11 = 0 ∧ gI w 0 6 = 1 ∧ gI w 52 3 = 1 ∧ gI w 0 7 = 0 ∧ gI w 52 4 = 0 ∧ gI w 0 4 = 0 ∧ gI w 52 7 = 0 ∧ gI w 5 1 = 0 ∧ gI w 52 6 = 0 ∧ gI w 8 0 = 0 ∧ gI w 52 39 = -1
set_option maxRecDepth 1000000 in
theorem x_ints : intB w2X := by
  unfold intB
  decide +kernel
set_option maxRecDepth 1000000 in
theorem x_hv : ∀ k, k < 8 → gI w2X 1 k = 10 ∧ gI w2X 56 k = 10 := by decide +kernel
set_option maxRecDepth 1000000 in
theorem x_sh : ∀ s, s < 4 → gI w2X (42 + 2 * s) 1 = -1 ∧ gI w2X 62 s = 0 := by decide +kernel
def cX0 : List Int32 := [0, 19, 10, 21, 8]
def cX1 : List Int32 := [26, 1, 9]
def cX2 : List Int32 := [66, 1, 11]
def txB (w : Wd) : Prop := gI w 26 0 = 5 ∧ gI w 26 1 = 8 ∧ gI w 26 2 = 11 ∧ gI w 24 3 = 0 ∧ gI w 54 0 = 64
set_option maxRecDepth 1000000 in
theorem x_tx : txB w2X := by
  unfold txB
  decide +kernel
set_option maxRecDepth 1000000 in
theorem x_txs : ∀ q, q < 11 → gI w2X 25 q = (cX0 ++ (cX1 ++ cX2)).getD q 0 := by decide +kernel
set_option maxRecDepth 1000000 in
theorem x_pos : ∀ k, k < 64 → 0 ≤ gI w2X 53 k := by decide +kernel
def codes (x : Nat ⊕ (List Int32 × List Int32 × List Int32 × Ev)) : Option (List Int32 × List Int32 × List Int32) := match x with
  | .inl _ => none
  | .inr (a, b, c, _) => some (a, b, c)
set_option maxRecDepth 1000000 in
theorem x_codes : codes (pText (gI w2X 53) 64) = some (cX0, cX1, cX2) := by decide +kernel
