/-! the model reads, all levels -/
theorem gd_all {b : Nat → Int32} {z k : Nat} {g : Bool} {lo : Nat → Nat → Rz} (hk : 1 ≤ k) (h5 : g = true → ∀ p, p ≤ z → Gd z k p (lo 5 p)) (h2 : g = true → ∀ p, p ≤ z → Gd z (k + 3) p (lo 2 p)) (h0 : g = true → ∀ p, p ≤ z → Gd z k p (lo 0 p)) : (∀ p, p ≤ z → Gd z k p (pO b z g lo p)) ∧ (∀ p, p ≤ z → Gd z (k + 1) p (many b z opT (pO b z g lo) p)) ∧ (∀ p, p ≤ z → Gd z (k + 1 + 1 + 1) p (pN b z g (many b z opS (many b z opT (pO b z g lo))) lo p)) ∧ (∀ p, p ≤ z → Gd z (k + 1 + 1 + 1 + 1) p (many b z opB (pN b z g (many b z opS (many b z opT (pO b z g lo))) lo) p)) := by
  have o := gd_pO (b := b) (g := g) (lo := lo) hk h5 h0
  have t := gd_many (b := b) (op := opT) (fun t h => opT_ok h) o
  have s := gd_many (b := b) (op := opS) (fun t h => opS_ok h) t
  have n := gd_pN (b := b) (g := g) (lo := lo) s h2
  have c := gd_many (b := b) (op := opB) (fun t h => opB_ok h) n
  exact ⟨o, t, n, c⟩
theorem lv5 (b : Nat → Int32) (z t : Nat) : ImM b z t (fX7_either5 52) 5 (pL b z 0 0) ∧ ImM b z t (fX7_not5 52) 5 (pL b z 0 2) ∧ ImM b z t (fX7_atom5 52) 5 (pL b z 0 5) := by
  obtain ⟨go, gt, gn, gc⟩ := gd_all (b := b) (z := z) (k := 1) (g := false) (lo := fun _ _ => .inl 0) (by omega) (fun h => absurd h (by decide)) (fun h => absurd h (by decide)) (fun h => absurd h (by decide))
  have o := matom5_ev (b := b) (z := z) (t := t) (lo := fun _ _ => .inl 0)
  have tt := mterm5_ev o go
  have s := madded5_ev tt gt
  have n := mnot5_ev (lo := fun _ _ => .inl 0) s
  have c := mboth5_ev n gn
  have e := meither5_ev c gc
  exact ⟨e, n, o⟩
theorem lv4 (b : Nat → Int32) (z t : Nat) : ImM b z t (fX7_either4 52) 4 (pL b z 1 0) ∧ ImM b z t (fX7_not4 52) 4 (pL b z 1 2) ∧ ImM b z t (fX7_atom4 52) 4 (pL b z 1 5) := by
  obtain ⟨le, ln, la⟩ := lv5 b z t
  obtain ⟨go, gt, gn, gc⟩ := gd_all (b := b) (z := z) (k := 5 * 0 + 6) (g := true) (lo := pL b z 0) (by omega) (fun _ p hp => gd_mono (gd_pL 0 5 (by omega) p hp) (by omega)) (fun _ p hp => gd_mono (gd_pL 0 2 (by omega) p hp) (by omega)) (fun _ p hp => gd_pL 0 0 (by omega) p hp)
  have o := matom4_ev (lo := pL b z 0) la le
  have tt := mterm4_ev o go
  have s := madded4_ev tt gt
  have n := mnot4_ev (lo := pL b z 0) s ln
  have c := mboth4_ev n gn
  have e := meither4_ev c gc
  exact ⟨e, n, o⟩
theorem lv3 (b : Nat → Int32) (z t : Nat) : ImM b z t (fX7_either3 52) 3 (pL b z 2 0) ∧ ImM b z t (fX7_not3 52) 3 (pL b z 2 2) ∧ ImM b z t (fX7_atom3 52) 3 (pL b z 2 5) := by
  obtain ⟨le, ln, la⟩ := lv4 b z t
  obtain ⟨go, gt, gn, gc⟩ := gd_all (b := b) (z := z) (k := 5 * 1 + 6) (g := true) (lo := pL b z 1) (by omega) (fun _ p hp => gd_mono (gd_pL 1 5 (by omega) p hp) (by omega)) (fun _ p hp => gd_mono (gd_pL 1 2 (by omega) p hp) (by omega)) (fun _ p hp => gd_pL 1 0 (by omega) p hp)
  have o := matom3_ev (lo := pL b z 1) la le
  have tt := mterm3_ev o go
  have s := madded3_ev tt gt
  have n := mnot3_ev (lo := pL b z 1) s ln
  have c := mboth3_ev n gn
  have e := meither3_ev c gc
  exact ⟨e, n, o⟩
theorem lv2 (b : Nat → Int32) (z t : Nat) : ImM b z t (fX7_either2 52) 2 (pL b z 3 0) ∧ ImM b z t (fX7_not2 52) 2 (pL b z 3 2) ∧ ImM b z t (fX7_atom2 52) 2 (pL b z 3 5) := by
  obtain ⟨le, ln, la⟩ := lv3 b z t
  obtain ⟨go, gt, gn, gc⟩ := gd_all (b := b) (z := z) (k := 5 * 2 + 6) (g := true) (lo := pL b z 2) (by omega) (fun _ p hp => gd_mono (gd_pL 2 5 (by omega) p hp) (by omega)) (fun _ p hp => gd_mono (gd_pL 2 2 (by omega) p hp) (by omega)) (fun _ p hp => gd_pL 2 0 (by omega) p hp)
  have o := matom2_ev (lo := pL b z 2) la le
  have tt := mterm2_ev o go
  have s := madded2_ev tt gt
  have n := mnot2_ev (lo := pL b z 2) s ln
  have c := mboth2_ev n gn
  have e := meither2_ev c gc
  exact ⟨e, n, o⟩
theorem lv1 (b : Nat → Int32) (z t : Nat) : ImM b z t (fX7_either1 52) 1 (pL b z 4 0) ∧ ImM b z t (fX7_not1 52) 1 (pL b z 4 2) ∧ ImM b z t (fX7_atom1 52) 1 (pL b z 4 5) := by
  obtain ⟨le, ln, la⟩ := lv2 b z t
  obtain ⟨go, gt, gn, gc⟩ := gd_all (b := b) (z := z) (k := 5 * 3 + 6) (g := true) (lo := pL b z 3) (by omega) (fun _ p hp => gd_mono (gd_pL 3 5 (by omega) p hp) (by omega)) (fun _ p hp => gd_mono (gd_pL 3 2 (by omega) p hp) (by omega)) (fun _ p hp => gd_pL 3 0 (by omega) p hp)
  have o := matom1_ev (lo := pL b z 3) la le
  have tt := mterm1_ev o go
  have s := madded1_ev tt gt
  have n := mnot1_ev (lo := pL b z 3) s ln
  have c := mboth1_ev n gn
  have e := meither1_ev c gc
  exact ⟨e, n, o⟩
theorem lv0 (b : Nat → Int32) (z t : Nat) : ImM b z t (fX7_either0 52) 0 (pL b z 5 0) ∧ ImM b z t (fX7_not0 52) 0 (pL b z 5 2) ∧ ImM b z t (fX7_atom0 52) 0 (pL b z 5 5) := by
  obtain ⟨le, ln, la⟩ := lv1 b z t
  obtain ⟨go, gt, gn, gc⟩ := gd_all (b := b) (z := z) (k := 5 * 4 + 6) (g := true) (lo := pL b z 4) (by omega) (fun _ p hp => gd_mono (gd_pL 4 5 (by omega) p hp) (by omega)) (fun _ p hp => gd_mono (gd_pL 4 2 (by omega) p hp) (by omega)) (fun _ p hp => gd_pL 4 0 (by omega) p hp)
  have o := matom0_ev (lo := pL b z 4) la le
  have tt := mterm0_ev o go
  have s := madded0_ev tt gt
  have n := mnot0_ev (lo := pL b z 4) s ln
  have c := mboth0_ev n gn
  have e := meither0_ev c gc
  exact ⟨e, n, o⟩
