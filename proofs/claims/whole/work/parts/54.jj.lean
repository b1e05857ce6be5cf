/-! the relation of the class to the model -/
def Ra (x : Int32) (n : Nat) : Prop := ∃ v : Nat, v ≤ n ∧ x = nI v
/-- the walkers number i are one -/
def Wk (w : Wd) (a r q i : Nat) : Prop := gI w (a + i) 0 = gI w 57 i ∧ gI w (a + i) 1 = gI w r (q * i) ∧ gI w (a + i) 2 = gI w r (q * i + 1) ∧ gI w (a + i) 3 = gI w r (q * i + 2) ∧ gI w (a + i) 4 = gI w r (q * i + 3) ∧ gI w (a + i) 5 = gI w r (q * i + 4) ∧ Ra (gI w (a + i) 0) 5 ∧ Ra (gI w (a + i) 1) 9 ∧ Ra (gI w (a + i) 2) 255 ∧ Ra (gI w (a + i) 3) 255 ∧ Ra (gI w (a + i) 4) 999 ∧ Ra (gI w (a + i) 5) 9999
theorem Wk.ch {P : Nat → Nat → Prop} {w w' : Wd} {a r q i : Nat} (h : Wk w a r q i) (hc : Ch P w w') (hP : ∀ k, ¬ P (a + i) k ∧ ¬ P 57 k ∧ ¬ P r k) : Wk w' a r q i := by
  have e1 : ∀ k, gI w' (a + i) k = gI w (a + i) k := fun k => hc.I (hP k).1
  have e2 : ∀ k, gI w' 57 k = gI w 57 k := fun k => hc.I (hP k).2.1
  have e3 : ∀ k, gI w' r k = gI w r k := fun k => hc.I (hP k).2.2
  unfold Wk
  simp only [e1, e2, e3]
  exact h
/-- sheet s -/
def Sh (w : Wd) (s : Nat) : Prop := (gI w (42 + 2 * s) 1 = -1 ∧ gI w 62 s = 0) ∨ (gI w 62 s = 1 ∧ gI w (42 + 2 * s) 1 = gI w 63 s ∧ Ra (gI w 63 s) 2 ∧ gI w (42 + 2 * s) 2 = gI w 64 s ∧ Ra (gI w 64 s) 40 ∧ ∀ k, nI k < gI w 64 s → k < 40 → gI w (43 + 2 * s) k = gI w 65 (40 * s + k))
theorem Sh.ch {P : Nat → Nat → Prop} {w w' : Wd} {s : Nat} (h : Sh w s) (hc : Ch P w w') (hP : ∀ k, ¬ P (42 + 2 * s) k ∧ ¬ P (43 + 2 * s) k ∧ ¬ P 62 k ∧ ¬ P 63 k ∧ ¬ P 64 k ∧ ¬ P 65 k) : Sh w' s := by
  have e1 : ∀ k, gI w' (42 + 2 * s) k = gI w (42 + 2 * s) k := fun k => hc.I (hP k).1
  have e2 : ∀ k, gI w' (43 + 2 * s) k = gI w (43 + 2 * s) k := fun k => hc.I (hP k).2.1
  have e3 : ∀ k, gI w' 62 k = gI w 62 k := fun k => hc.I (hP k).2.2.1
  have e4 : ∀ k, gI w' 63 k = gI w 63 k := fun k => hc.I (hP k).2.2.2.1
  have e5 : ∀ k, gI w' 64 k = gI w 64 k := fun k => hc.I (hP k).2.2.2.2.1
  have e6 : ∀ k, gI w' 65 k = gI w 65 k := fun k => hc.I (hP k).2.2.2.2.2
  unfold Sh
  simp only [e1, e2, e3, e4, e5, e6]
  exact h
/-- the kept image, with m walkers now and tc texts -/
def Im (w : Wd) (m tc : Nat) : Prop := (gI w 8 0 = 0 ∧ gI w 52 39 = -1) ∨ (gI w 8 0 = 1 ∧ ∃ k, k ≤ m ∧ gI w 8 3 = nI k ∧ gI w 52 39 = nI k ∧ gI w 8 1 = gI w 52 40 ∧ Ra (gI w 8 1) 999 ∧ gI w 8 2 = gI w 52 41 ∧ (∃ r, r < tc ∧ gI w 8 2 = nI r) ∧ (∀ t, t < 8 → gI w 9 t = gI w 60 t ∧ Ra (gI w 9 t) 99) ∧ ∀ i, i < k → Wk w 11 61 5 i)
theorem Im.ch {P : Nat → Nat → Prop} {w w' : Wd} {m tc : Nat} (hm : m ≤ 6) (h : Im w m tc) (hc : Ch P w w') (hP : ∀ i k, P i k → i ≠ 8 ∧ i ≠ 9 ∧ i ≠ 57 ∧ i ≠ 60 ∧ i ≠ 61 ∧ ¬ (11 ≤ i ∧ i ≤ 16) ∧ ¬ (i = 52 ∧ 36 ≤ k)) : Im w' m tc := by
  have e8 : ∀ k, gI w' 8 k = gI w 8 k := fun k => hc.I (fun z => (hP _ _ z).1 rfl)
  have e9 : ∀ k, gI w' 9 k = gI w 9 k := fun k => hc.I (fun z => (hP _ _ z).2.1 rfl)
  have e60 : ∀ k, gI w' 60 k = gI w 60 k := fun k => hc.I (fun z => (hP _ _ z).2.2.2.1 rfl)
  have e39 : gI w' 52 39 = gI w 52 39 := hc.I (fun z => (hP _ _ z).2.2.2.2.2.2 ⟨rfl, by omega⟩)
  have e40 : gI w' 52 40 = gI w 52 40 := hc.I (fun z => (hP _ _ z).2.2.2.2.2.2 ⟨rfl, by omega⟩)
  have e41 : gI w' 52 41 = gI w 52 41 := hc.I (fun z => (hP _ _ z).2.2.2.2.2.2 ⟨rfl, by omega⟩)
  unfold Im
  simp only [e8, e9, e60, e39, e40, e41]
  refine h.imp id (fun y => ⟨y.1, ?_⟩)
  obtain ⟨k, y1, y2, y3, y4, y5, y6, y7, y8, y9⟩ := y.2
  exact ⟨k, y1, y2, y3, y4, y5, y6, y7, y8, fun i hi => (y9 i hi).ch hc (fun q => ⟨fun z => (hP _ _ z).2.2.2.2.2.1 ⟨by omega, by omega⟩, fun z => (hP _ _ z).2.2.1 rfl, fun z => (hP _ _ z).2.2.2.2.1 rfl⟩)⟩
/-- all of it: m walkers, tc texts, the text rl rules, tp bytes lie on the tape -/
def Jn (w : Wd) (m tc rl tp : Nat) : Prop := St w ∧ (m ≤ 6 ∧ gI w 0 3 = nI m ∧ gI w 52 11 = nI m) ∧ (tc ≤ 6 ∧ gI w 0 6 = nI tc ∧ gI w 52 3 = nI tc) ∧ (rl < tc ∧ gI w 0 7 = nI rl ∧ gI w 52 4 = nI rl) ∧ (gI w 0 4 = gI w 52 7 ∧ Ra (gI w 0 4) 999) ∧ (∀ k, k < 8 → gI w 1 k = gI w 56 k ∧ Ra (gI w 1 k) 99) ∧ (∀ i, i < m → Wk w 18 58 5 i) ∧ (tp ≤ 160 ∧ gI w 5 1 = nI tp ∧ gI w 52 6 = nI tp ∧ ∀ k, k < tp → gI w 6 k = gI w 55 k ∧ Ra (gI w 6 k) 255) ∧ (∀ t, t < tc → ∃ ev, TEv w t ev ∧ MEv w t ev) ∧ (∀ s, s < 4 → Sh w s) ∧ Im w m tc
def JJ (w : Wd) : Prop := ∃ m tc rl tp, Jn w m tc rl tp
theorem Jn.ch {w w' : Wd} {m tc rl tp : Nat} (h : Jn w m tc rl tp) (hc : Ch SC w w') : Jn w' m tc rl tp := by
  have n : ∀ {i k : Nat}, ¬ SC i k → gI w' i k = gI w i k := fun hn => hc.I hn
  obtain ⟨h1, h2, h3, h4, h5, h6, h7, h8, h9, h10, h11⟩ := h
  refine ⟨hc.St h1, ?_, ?_, ?_, ?_, fun k hk => ?_, fun i hi => (h7 i hi).ch hc (fun q => ⟨by unfold SC; omega, by unfold SC; omega, by unfold SC; omega⟩), ⟨h8.1, ?_, ?_, fun k hk => ?_⟩, fun t ht => ?_, fun s hs => (h10 s hs).ch hc (fun q => ⟨by unfold SC; omega, by unfold SC; omega, by unfold SC; omega, by unfold SC; omega, by unfold SC; omega, by unfold SC; omega⟩), h11.ch h2.1 hc (fun i k z => by unfold SC at z; omega)⟩
  · rw [n (by unfold SC; omega), n (by unfold SC; omega)]; exact h2
  · rw [n (by unfold SC; omega), n (by unfold SC; omega)]; exact h3
  · rw [n (by unfold SC; omega), n (by unfold SC; omega)]; exact h4
  · rw [n (by unfold SC; omega), n (by unfold SC; omega)]; exact h5
  · rw [n (by unfold SC; omega), n (by unfold SC; omega)]; exact h6 k hk
  · rw [n (by unfold SC; omega)]; exact h8.2.1
  · rw [n (by unfold SC; omega)]; exact h8.2.2.1
  · rw [n (by unfold SC; omega), n (by unfold SC; omega)]; exact h8.2.2.2 k hk
  · obtain ⟨ev, e1, e2⟩ := h9 t ht
    exact ⟨ev, e1.ch hc (fun i k a b z => by unfold SC at z; omega) (by omega), e2.ch hc (fun k => ⟨by unfold SC; omega, by unfold SC; omega⟩)⟩
/-- the rule's text, on both sides; walkers in thought on both sides are one -/
theorem Jn.ru {w : Wd} {m tc rl tp : Nat} (h : Jn w m tc rl tp) : ∃ ev, Ru w rl ev ∧ Rm w rl ev := by
  obtain ⟨h1, h2, h3, h4, h5, h6, h7, h8, h9, h10, h11⟩ := h
  obtain ⟨ev, e1, e2⟩ := h9 rl h4.1
  exact ⟨ev, ⟨h1, by omega, h4.2.1, e1⟩, ⟨h1, by omega, h4.2.2, e2⟩⟩
theorem Jn.th {w : Wd} {m tc rl tp i : Nat} (h : Jn w m tc rl tp) (hi : i < m) : thC w (gI w 1) i (gI w (18 + i) 3) = thM w i ∧ RT (thM w i) := by
  obtain ⟨h1, h2, h3, h4, h5, h6, h7, h8, h9, h10, h11⟩ := h
  obtain ⟨a0, a1, a2, a3, a4, a5, r0, r1, r2, r3, r4, r5⟩ := h7 i hi
  constructor
  · unfold thC thM
    rw [a0, a1, a2, a3, a4, a5, h5.1, wS_congr _ 8 (fun t ht => (h6 t ht).1), wS_congr (gI w 58 (5 * i + 1) &&& (gI w 58 (5 * i + 2) ^^^ -1)) 8 (fun t ht => (h6 t ht).1)]
  · obtain ⟨v1, l1, e1⟩ := r1
    obtain ⟨v4, l4, e4⟩ := r4
    obtain ⟨v5, l5, e5⟩ := r5
    exact ⟨v1, v4, v5, l1, l4, l5, a1.symm.trans e1, a4.symm.trans e4, a5.symm.trans e5⟩
