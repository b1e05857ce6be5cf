/-! the class's reader writes steps -/
def TX (w : Wd) (j : Nat) (c : List Int32) : Prop := c.length ≤ 160 ∧ gI w (24 + 3 * j) 2 = nI c.length ∧ (∀ q, q < c.length → gI w (25 + 3 * j) q = c.getD q 0) ∧ (gI w (24 + 3 * j) 3 = 0 ∨ gI w (24 + 3 * j) 3 = 1) ∧ (gI w (24 + 3 * j) 3 = 0 → ∀ o ∈ c, o ≠ 4)
def PTx (j i k : Nat) : Prop := (i = 24 + 3 * j ∧ (k = 2 ∨ k = 3)) ∨ i = 25 + 3 * j
theorem TX.ch {P : Nat → Nat → Prop} {w w' : Wd} {j : Nat} {c : List Int32} (h : TX w j c) (hc : Ch P w w') (hP : ∀ i k, P i k → i ≠ 24 + 3 * j ∧ i ≠ 25 + 3 * j) : TX w' j c := by
  obtain ⟨h1, h2, h3, h4, h5⟩ := h
  have a : ∀ k, gI w' (24 + 3 * j) k = gI w (24 + 3 * j) k := fun k => hc.I (fun z => (hP _ _ z).1 rfl)
  have b : ∀ k, gI w' (25 + 3 * j) k = gI w (25 + 3 * j) k := fun k => hc.I (fun z => (hP _ _ z).2 rfl)
  refine ⟨h1, by rw [a]; exact h2, fun q hq => by rw [b]; exact h3 q hq, by rw [a]; exact h4, by rw [a]; exact h5⟩
theorem ap_ev {w : Wd} {j : Nat} {c : List Int32} {o : Int32} (hS : St w) (hj : j < 6) (h : TX w j c) (hl : c.length < 160) : ∃ w', fX3_append (24 + 3 * j) o w = some ((), w') ∧ TX w' j (c ++ [o]) ∧ Ch (PTx j) w w' := by
  obtain ⟨h1, h2, h3, h4, h5⟩ := h
  have ht := kd_txs hj
  have hn : ¬ Int32.ofNat 160 ≤ nI c.length := nI_ge (b := 160) (by omega) (by omega)
  have cc : (nI c.length).toNatClampNeg = c.length := nI_clamp (by omega)
  obtain ⟨w4, hw4⟩ : ∃ w4, w4 = sI (sI w (25 + 3 * j) c.length o) (24 + 3 * j) 2 (nI (c.length + 1)) := ⟨_, rfl⟩
  have c4 : Ch (PTx j) w w4 := by
    rw [hw4]
    exact (ch_sI (Or.inr rfl)).tr (ch_sI (Or.inl ⟨rfl, Or.inl rfl⟩))
  have f4 : gI w4 (24 + 3 * j) 3 = gI w (24 + 3 * j) 3 := by
    rw [hw4, gI_sI, if_neg (by omega), gI_sI, if_neg (by omega)]
  have hd : ∀ v : Int32, (v = 0 ∨ v = 1) → (v = 0 → o ≠ 4 ∧ gI w (24 + 3 * j) 3 = 0) → TX (sI w4 (24 + 3 * j) 3 v) j (c ++ [o]) := by
    intro v hv hv2
    refine ⟨by simp only [List.length_append, List.length_cons, List.length_nil]; omega, ?_, fun q hq => ?_, ?_, fun hz o2 ho => ?_⟩
    · rw [gI_sI, if_neg (by omega), hw4, gI_sI, if_pos ⟨rfl, rfl⟩]
      simp only [List.length_append, List.length_cons, List.length_nil]
    · simp only [List.length_append, List.length_cons, List.length_nil] at hq
      rw [gI_sI, if_neg (by omega), hw4, gI_sI, if_neg (by omega), gI_sI]
      by_cases hqc : q = c.length
      · rw [if_pos ⟨rfl, hqc⟩, hqc]
        simp [List.getD_eq_getElem?_getD]
      · rw [if_neg (fun z => hqc z.2), h3 q (by omega)]
        have hq2 : q < c.length := by omega
        simp [List.getD_eq_getElem?_getD, List.getElem?_append_left hq2]
    · rw [gI_sI, if_pos ⟨rfl, rfl⟩]
      exact hv
    · rw [gI_sI, if_pos ⟨rfl, rfl⟩] at hz
      obtain ⟨a1, a2⟩ := hv2 hz
      rcases List.mem_append.mp ho with m | m
      · exact h5 a2 o2 m
      · rw [List.mem_singleton.mp m]
        exact a1
  unfold fX3_append
  rw [dg_txs hS hj, ht.2, h2, if_neg hn, dg_txs hS hj, grd_t (by rw [ht.2]; exact vin_nI (by omega) (by omega)), cc, lw_e]
  have e2 : gI (sI w (25 + 3 * j) c.length o) (24 + 3 * j) 2 + 1 = nI (c.length + 1) := by rw [gI_sI, if_neg (by omega), h2, nI_1]
  rw [e2, lw_e, ← hw4, f4]
  have h1v : fX3_append_45 (24 + 3 * j) w4 = some ((), sI w4 (24 + 3 * j) 3 1) := by
    unfold fX3_append_45 fX3_append_50
    rw [grd_t (Or.inr rfl), lw_e]
  have hc1 : Ch (PTx j) w (sI w4 (24 + 3 * j) 3 1) := c4.tr (ch_sI (Or.inl ⟨rfl, Or.inr rfl⟩))
  by_cases hz0 : gI w (24 + 3 * j) 3 = 0
  · rw [if_pos hz0]
    by_cases h44 : o = 4
    · rw [if_pos h44]
      exact ⟨_, h1v, hd 1 (Or.inr rfl) (fun z => absurd z (by decide)), hc1⟩
    · rw [if_neg h44]
      refine ⟨_, ?_, hd 0 (Or.inl rfl) (fun _ => ⟨h44, hz0⟩), c4.tr (ch_sI (Or.inl ⟨rfl, Or.inr rfl⟩))⟩
      unfold fX3_append_50
      rw [grd_t (Or.inl rfl), lw_e]
  · rw [if_neg hz0]
    exact ⟨_, h1v, hd 1 (Or.inr rfl) (fun z => absurd z (by decide)), hc1⟩
theorem ap_bad {w : Wd} {j : Nat} {c : List Int32} {o : Int32} (hS : St w) (hj : j < 6) (h : TX w j c) : ∃ w' c', fX3_append (24 + 3 * j) o w = some ((), w') ∧ TX w' j c' ∧ Ch (PTx j) w w' := by
  by_cases hl : c.length < 160
  · obtain ⟨w', e, t, c9⟩ := ap_ev (o := o) hS hj h hl
    exact ⟨w', _, e, t, c9⟩
  · have ht := kd_txs hj
    have hle := h.1
    have hn : Int32.ofNat 160 ≤ nI c.length := nI_le (a := 160) (by omega) (by omega)
    refine ⟨w, c, ?_, h, Ch.rf⟩
    unfold fX3_append
    rw [dg_txs hS hj, ht.2, h.2.1, if_pos hn]
/-- what reading a text changes in the class -/
def PZ (j i k : Nat) : Prop := (i = 5 ∧ 2 ≤ k ∧ k ≤ 7) ∨ PTx j i k
theorem PX_PZ {j : Nat} (i k : Nat) (h : PX i k) : PZ j i k := by unfold PX at h; unfold PZ; omega
theorem PTx_PZ {j : Nat} (i k : Nat) (h : PTx j i k) : PZ j i k := Or.inr h
/-- good: at p, with the steps c -/
def CG (b : Nat → Int32) (z j : Nat) (w : Wd) (d : Nat) (c : List Int32) (p : Nat) : Prop := j < 6 ∧ Bz b z w ∧ gR w 5 8 = some (24 + 3 * j) ∧ gI w 5 6 = nI d ∧ Lx b z w p ∧ p ≤ z ∧ gI w 5 7 = -1 ∧ TX w j c ∧ c.length ≤ p
/-- bad: a fault at f -/
def CB (b : Nat → Int32) (z j : Nat) (w : Wd) (d : Nat) (f : Nat) : Prop := j < 6 ∧ Bz b z w ∧ gR w 5 8 = some (24 + 3 * j) ∧ gI w 5 6 = nI d ∧ gI w 5 4 = 0 ∧ gI w 5 7 = nI f ∧ f ≤ 160 ∧ ∃ c, TX w j c
theorem bz_PZ {b : Nat → Int32} {z j : Nat} {w w' : Wd} (hj : j < 6) (h : Bz b z w) (hc : Ch (PZ j) w w') : Bz b z w' := h.ch hc (fun i k q => by unfold PZ PTx at q; omega)
theorem r8_X {P : Nat → Nat → Prop} {w w' : Wd} (hc : Ch P w w') (hP : ¬ P 5 8) : gR w' 5 8 = gR w 5 8 := hc.R (fun z => hP z.1)
theorem CG.take {b : Nat → Int32} {z j : Nat} {w : Wd} {d : Nat} {c : List Int32} {p : Nat} (h : CG b z j w d c p) : ∃ w', fX1_take 5 w = some ((), w') ∧ CG b z j w' d c (nx b z p) ∧ Ch (PZ j) w w' := by
  obtain ⟨h0, h1, h2, h3, h4, h5, h6, h7, h8⟩ := h
  obtain ⟨n1, n2, n3⟩ := nx_le (b := b) h5
  obtain ⟨w', e, l, c1⟩ := take_ev h1 n2 h4.1
  refine ⟨w', e, ⟨h0, h1.x c1, ?_, ?_, l, n2, ?_, h7.ch c1 (fun i k q => by unfold PX at q; omega), by omega⟩, c1.mono PX_PZ⟩
  · rw [r8_X c1 (by unfold PX; omega)]; exact h2
  · rw [c1.I (by unfold PX; omega)]; exact h3
  · rw [c1.I (by unfold PX; omega)]; exact h6
theorem CG.app {b : Nat → Int32} {z j : Nat} {w : Wd} {d : Nat} {c : List Int32} {p : Nat} {o : Int32} (h : CG b z j w d c p) (hl : c.length + 1 ≤ p) : ∃ w', fX3_append (24 + 3 * j) o w = some ((), w') ∧ CG b z j w' d (c ++ [o]) p ∧ Ch (PZ j) w w' := by
  obtain ⟨h0, h1, h2, h3, h4, h5, h6, h7, h8⟩ := h
  have hz := h1.2.1
  obtain ⟨w', e, t, c1⟩ := ap_ev (o := o) h1.1 h0 h7 (by omega)
  have e5 : ∀ k, gI w' 5 k = gI w 5 k := fun k => c1.I (by unfold PTx; omega)
  refine ⟨w', e, ⟨h0, bz_PZ h0 h1 (c1.mono PTx_PZ), ?_, ?_, ⟨?_, ?_, ?_, ?_⟩, h5, ?_, t, by simp only [List.length_append, List.length_cons, List.length_nil]; omega⟩, c1.mono PTx_PZ⟩
  · rw [r8_X c1 (by unfold PTx; omega)]; exact h2
  · rw [e5]; exact h3
  · rw [e5]; exact h4.1
  · rw [e5]; exact h4.2.1
  · rw [e5]; exact h4.2.2.1
  · rw [e5]; exact h4.2.2.2
  · rw [e5]; exact h6
theorem CB.app {b : Nat → Int32} {z j : Nat} {w : Wd} {d f : Nat} {o : Int32} (h : CB b z j w d f) : ∃ w', fX3_append (24 + 3 * j) o w = some ((), w') ∧ CB b z j w' d f ∧ Ch (PZ j) w w' := by
  obtain ⟨h0, h1, h2, h3, h4, h5, h6, c, h7⟩ := h
  obtain ⟨w', c', e, t, c1⟩ := ap_bad (o := o) h1.1 h0 h7
  have e5 : ∀ k, gI w' 5 k = gI w 5 k := fun k => c1.I (by unfold PTx; omega)
  refine ⟨w', e, ⟨h0, bz_PZ h0 h1 (c1.mono PTx_PZ), ?_, ?_, ?_, ?_, h6, c', t⟩, c1.mono PTx_PZ⟩
  · rw [r8_X c1 (by unfold PTx; omega)]; exact h2
  · rw [e5]; exact h3
  · rw [e5]; exact h4
  · rw [e5]; exact h5
theorem CG.fail {b : Nat → Int32} {z j : Nat} {w : Wd} {d : Nat} {c : List Int32} {p : Nat} (h : CG b z j w d c p) : ∃ w', fX1_fail 5 w = some ((), w') ∧ CB b z j w' d (tS b z p) ∧ Ch (PZ j) w w' := by
  obtain ⟨h0, h1, h2, h3, h4, h5, h6, h7, h8⟩ := h
  have hz := h1.2.1
  obtain ⟨t1, t2⟩ := tS_le (b := b) h5
  have c1 : Ch (PZ j) w (sI (sI w 5 7 (nI (tS b z p))) 5 4 0) := (ch_sI (Or.inl ⟨rfl, by omega, by omega⟩)).tr (ch_sI (Or.inl ⟨rfl, by omega, by omega⟩))
  have c2 : Ch (fun i _ => i = 5) w (sI (sI w 5 7 (nI (tS b z p))) 5 4 0) := (ch_sI (P := fun i _ => i = 5) rfl).tr (ch_sI rfl)
  refine ⟨_, ?_, ⟨h0, bz_PZ h0 h1 c1, h2, ?_, ?_, ?_, by omega, c, h7.ch c2 (fun i k q => by omega)⟩, c1⟩
  · unfold fX1_fail fX1_fail_16
    rw [h6, if_pos rfl, lw_e, h4.2.1, lw_e]
  · rw [gI_sI, if_neg (by omega), gI_sI, if_neg (by omega)]; exact h3
  · rw [gI_sI, if_pos ⟨rfl, rfl⟩]
  · rw [gI_sI, if_neg (by omega), gI_sI, if_pos ⟨rfl, rfl⟩]
theorem CB.fail {b : Nat → Int32} {z j : Nat} {w : Wd} {d f : Nat} (h : CB b z j w d f) : ∃ w', fX1_fail 5 w = some ((), w') ∧ CB b z j w' d f ∧ Ch (PZ j) w w' := by
  obtain ⟨h0, h1, h2, h3, h4, h5, h6, c, h7⟩ := h
  have c1 : Ch (PZ j) w (sI w 5 4 0) := ch_sI (Or.inl ⟨rfl, by omega, by omega⟩)
  refine ⟨_, ?_, ⟨h0, bz_PZ h0 h1 c1, h2, ?_, ?_, ?_, h6, c, h7.ch (P := fun i k => i = 5) (ch_sI rfl) (fun i k q => by omega)⟩, c1⟩
  · unfold fX1_fail fX1_fail_16
    rw [h5, if_neg (m1_nI (by omega)), lw_e]
  · rw [gI_sI, if_neg (by omega)]; exact h3
  · rw [gI_sI, if_pos ⟨rfl, rfl⟩]
  · rw [gI_sI, if_neg (by omega)]; exact h5
theorem CG.setD {b : Nat → Int32} {z j : Nat} {w : Wd} {d d2 : Nat} {c : List Int32} {p : Nat} (h : CG b z j w d c p) : CG b z j (sI w 5 6 (nI d2)) d2 c p ∧ Ch (PZ j) w (sI w 5 6 (nI d2)) := by
  obtain ⟨h0, h1, h2, h3, h4, h5, h6, h7, h8⟩ := h
  have c1 : Ch (PZ j) w (sI w 5 6 (nI d2)) := ch_sI (Or.inl ⟨rfl, by omega, by omega⟩)
  have e5 : ∀ k, k ≠ 6 → gI (sI w 5 6 (nI d2)) 5 k = gI w 5 k := fun k hk => by rw [gI_sI, if_neg (by omega)]
  refine ⟨⟨h0, bz_PZ h0 h1 c1, h2, ?_, ⟨?_, ?_, ?_, ?_⟩, h5, ?_, h7.ch (P := fun i k => i = 5) (ch_sI rfl) (fun i k q => by omega), h8⟩, c1⟩
  · rw [gI_sI, if_pos ⟨rfl, rfl⟩]
  · rw [e5 _ (by omega)]; exact h4.1
  · rw [e5 _ (by omega)]; exact h4.2.1
  · rw [e5 _ (by omega)]; exact h4.2.2.1
  · rw [e5 _ (by omega)]; exact h4.2.2.2
  · rw [e5 _ (by omega)]; exact h6
theorem CB.setD {b : Nat → Int32} {z j : Nat} {w : Wd} {d d2 f : Nat} (h : CB b z j w d f) : CB b z j (sI w 5 6 (nI d2)) d2 f ∧ Ch (PZ j) w (sI w 5 6 (nI d2)) := by
  obtain ⟨h0, h1, h2, h3, h4, h5, h6, c, h7⟩ := h
  have c1 : Ch (PZ j) w (sI w 5 6 (nI d2)) := ch_sI (Or.inl ⟨rfl, by omega, by omega⟩)
  have e5 : ∀ k, k ≠ 6 → gI (sI w 5 6 (nI d2)) 5 k = gI w 5 k := fun k hk => by rw [gI_sI, if_neg (by omega)]
  refine ⟨⟨h0, bz_PZ h0 h1 c1, h2, ?_, ?_, ?_, h6, c, h7.ch (P := fun i k => i = 5) (ch_sI rfl) (fun i k q => by omega)⟩, c1⟩
  · rw [gI_sI, if_pos ⟨rfl, rfl⟩]
  · rw [e5 _ (by omega)]; exact h4
  · rw [e5 _ (by omega)]; exact h5
