/-! names and amounts of the model -/
theorem op1_7 (a : Int32) : op1 7 a = -a := rfl
theorem op1_6 (a : Int32) : op1 6 a = if a = 0 then 1 else 0 := rfl
theorem op0_16 {env : Nat → Int32} {v : Nat} (hv : v < 10000) : op0 env (16 + nI v) = nI v := by
  have e : (16 : Int32) + nI v = nI (16 + v) := nI_add 16 v
  have n : ∀ k : Nat, k < 6 → ¬ nI (16 + v) = nI k := fun k hk y => by
    have := (nI_eq (a := 16 + v) (b := k) (by omega) (by omega)).mp y
    omega
  rw [e]
  unfold op0
  have e2 : nI (16 + v) - (16 : Int32) = nI v := by
    have : nI (16 + v) - (16 : Int32) = nI (16 + v - 16) := pk_sub (a := 16 + v) (b := 16) (by omega)
    rw [this, show 16 + v - 16 = v by omega]
  have n0 : ¬ nI (16 + v) = 0 := n 0 (by omega)
  have n1 : ¬ nI (16 + v) = 1 := n 1 (by omega)
  have n2 : ¬ nI (16 + v) = 2 := n 2 (by omega)
  have n3 : ¬ nI (16 + v) = 3 := n 3 (by omega)
  have n4 : ¬ nI (16 + v) = 4 := n 4 (by omega)
  have n5 : ¬ nI (16 + v) = 5 := n 5 (by omega)
  rw [if_neg n0, if_neg n1, if_neg n2, if_neg n3, if_neg n4, if_neg n5, e2]
theorem mk_2 {b : Nat → Int32} {z p : Nat} : mk b z p = 2 ↔ tk b z p = 2 := by
  rcases tk_mk b z p with ⟨a, c⟩ | ⟨a, c, _⟩ | ⟨a, c⟩ | ⟨a, c, _⟩ | ⟨a, c⟩
  · rw [a, c]; decide
  · rw [a, c]
    constructor
    · intro y; exact absurd y (by decide)
    · intro y
      by_cases hn : nmT b (tS b z p) (wE b z (tS b z p)) = -1
      · rw [if_pos hn] at y; exact absurd y (wdT_in _ _ _).1
      · rw [if_neg hn] at y; exact absurd y (by decide)
  · rw [a, c]
  · rw [a, c]
    constructor
    · intro y; exact absurd y (by decide)
    · intro y; exact absurd y (sgT_in _).1
  · rw [a, c]; decide
theorem mk_3 {b : Nat → Int32} {z p : Nat} : tk b z p = 3 ↔ (mk b z p = 1 ∧ nmT b (tS b z p) (wE b z (tS b z p)) ≠ -1) := by
  rcases tk_mk b z p with ⟨a, c⟩ | ⟨a, c, _⟩ | ⟨a, c⟩ | ⟨a, c, _⟩ | ⟨a, c⟩
  · rw [a, c]; exact ⟨fun y => absurd y (by decide), fun y => absurd y.1 (by decide)⟩
  · rw [a, c]
    by_cases hn : nmT b (tS b z p) (wE b z (tS b z p)) = -1
    · rw [if_pos hn]
      exact ⟨fun y => absurd y (wdT_in _ _ _).2.1, fun y => absurd hn y.2⟩
    · rw [if_neg hn]
      exact ⟨fun _ => ⟨rfl, hn⟩, fun _ => rfl⟩
  · rw [a, c]; exact ⟨fun y => absurd y (by decide), fun y => absurd y.1 (by decide)⟩
  · rw [a, c]; exact ⟨fun y => absurd y (sgT_in _).2.1, fun y => absurd y.1 (by decide)⟩
  · rw [a, c]; exact ⟨fun y => absurd y (by decide), fun y => absurd y.1 (by decide)⟩
theorem MG.num {b : Nat → Int32} {z t : Nat} {w : Wd} {d : Nat} {env : Nat → Int32} {p : Nat} (h : MG b z t w d env p) (a2 : tk b z p = 2) : (gL w 52 23).toInt32 = op0 env (16 + am b z p) := by
  obtain ⟨v, hv, ev⟩ := am_2 a2
  rw [h.2.2.2.2.1.2.2.2.2 (mk_2.mpr a2), ev, op0_16 hv, nI_l (by omega), lN_i]
theorem mname_ev {b : Nat → Int32} {z t : Nat} {w : Wd} {d : Nat} {env : Nat → Int32} {p : Nat} (h : MG b z t w d env p) (m1 : mk b z p = 1) : (tk b z p = 3 → fX7_name 52 w = some (op0 env (am b z p), w)) ∧ (¬ tk b z p = 3 → ∃ w', fX7_name 52 w = some (0, w') ∧ MB b z t w' d env (tS b z p) ∧ Ch PQ w w') := by
  have W : ∀ k, 1 ≤ k → k < 13 → fX7_isWord 52 ((sByt.getD k []).getD 0 0) ((sByt.getD k []).getD 1 0) ((sByt.getD k []).getD 2 0) ((sByt.getD k []).getD 3 0) ((sByt.getD k []).getD 4 0) ((sByt.getD k []).getD 5 0) ((sByt.getD k []).getD 6 0) ((sByt.getD k []).getD 7 0) w = some (if isW b (tS b z p) (wE b z (tS b z p)) k = true then 1 else 0, w) := fun k h1 h2 => by
    rw [misW_ev ⟨h1, h2⟩ h.2.1 h.2.2.2.1 h.2.2.2.2.1 h.2.2.2.2.2.1]
    by_cases hc : isW b (tS b z p) (wE b z (tS b z p)) k = true
    · rw [if_pos hc, if_pos ⟨m1, hc⟩]
    · rw [if_neg hc, if_neg (fun y => hc y.2)]
  have he := h.2.2.2.2.2.2
  have ham : am b z p = nmT b (tS b z p) (wE b z (tS b z p)) := by
    rcases tk_mk b z p with ⟨a, c⟩ | ⟨a, c, c2⟩ | ⟨a, c⟩ | ⟨a, c, _⟩ | ⟨a, c⟩
    · rw [m1] at a; exact absurd a (by decide)
    · exact c2
    · rw [m1] at a; exact absurd a (by decide)
    · rw [m1] at a; exact absurd a (by decide)
    · rw [m1] at a; exact absurd a (by decide)
  have W1 : fX7_isWord 52 (116 : Int32) (111 : Int32) (108 : Int32) (100 : Int32) (0 : Int32) (0 : Int32) (0 : Int32) (0 : Int32) w = _ := W 1 (by omega) (by omega)
  have W2 : fX7_isWord 52 (117 : Int32) (110 : Int32) (116 : Int32) (111 : Int32) (108 : Int32) (100 : Int32) (0 : Int32) (0 : Int32) w = _ := W 2 (by omega) (by omega)
  have W3 : fX7_isWord 52 (115 : Int32) (116 : Int32) (101 : Int32) (112 : Int32) (0 : Int32) (0 : Int32) (0 : Int32) (0 : Int32) w = _ := W 3 (by omega) (by omega)
  have W4 : fX7_isWord 52 (110 : Int32) (117 : Int32) (109 : Int32) (98 : Int32) (101 : Int32) (114 : Int32) (0 : Int32) (0 : Int32) w = _ := W 4 (by omega) (by omega)
  have W5 : fX7_isWord 52 (100 : Int32) (97 : Int32) (121 : Int32) (0 : Int32) (0 : Int32) (0 : Int32) (0 : Int32) (0 : Int32) w = _ := W 5 (by omega) (by omega)
  have W6 : fX7_isWord 52 (119 : Int32) (111 : Int32) (114 : Int32) (110 : Int32) (0 : Int32) (0 : Int32) (0 : Int32) (0 : Int32) w = _ := W 6 (by omega) (by omega)
  have key : fX7_name 52 w = if nmT b (tS b z p) (wE b z (tS b z p)) = -1 then bnd (fX7_fail 52 w) (fun _ w_14 => some ((0 : Int32), w_14)) else some (op0 env (nmT b (tS b z p) (wE b z (tS b z p))), w) := by
    unfold fX7_name nmT
    rw [W1, bnd_s, w01, ← he]
    by_cases k1 : isW b (tS b z p) (wE b z (tS b z p)) 1 = true
    · rw [if_pos k1, if_pos k1]; rfl
    rw [if_neg k1, if_neg k1, W2, bnd_s, w01]
    by_cases k2 : isW b (tS b z p) (wE b z (tS b z p)) 2 = true
    · rw [if_pos k2, if_pos k2]; rfl
    rw [if_neg k2, if_neg k2, W3, bnd_s, w01]
    by_cases k3 : isW b (tS b z p) (wE b z (tS b z p)) 3 = true
    · rw [if_pos k3, if_pos k3]; rfl
    rw [if_neg k3, if_neg k3, W4, bnd_s, w01]
    by_cases k4 : isW b (tS b z p) (wE b z (tS b z p)) 4 = true
    · rw [if_pos k4, if_pos k4]; rfl
    rw [if_neg k4, if_neg k4, W5, bnd_s, w01]
    by_cases k5 : isW b (tS b z p) (wE b z (tS b z p)) 5 = true
    · rw [if_pos k5, if_pos k5]; rfl
    rw [if_neg k5, if_neg k5, W6, bnd_s, w01]
    by_cases k6 : isW b (tS b z p) (wE b z (tS b z p)) 6 = true
    · rw [if_pos k6, if_pos k6]; rfl
    rw [if_neg k6, if_neg k6, if_pos rfl]
  constructor
  · intro a3
    rw [key, if_neg (mk_3.mp a3).2, ham]
  · intro a3
    have hn : nmT b (tS b z p) (wE b z (tS b z p)) = -1 := by
      by_cases hn : nmT b (tS b z p) (wE b z (tS b z p)) = -1
      · exact hn
      · exact absurd (mk_3.mpr ⟨m1, hn⟩) a3
    obtain ⟨w1, e1, b1, c1⟩ := h.fail
    rw [key, if_pos hn, e1, bnd_s]
    exact ⟨w1, rfl, b1, c1⟩
