/-! the class's reader reads a text -/
theorem pA_ev {b : Nat → Int32} {z j d k N : Nat} {g : Bool} {lo : Nat → Nat → Rz} (hk : 1 ≤ k) (hg : g = true → d < 5) (hg2 : ¬ g = true → d = 5) (hl : g = true → ∀ s, s ≤ 5 → ∀ n, N ≤ n → ImF b z j (rdX1 n s 5) (d + 1) (lo s)) (h5 : g = true → ∀ p, p ≤ z → Gd z k p (lo 5 p)) (h2 : g = true → ∀ p, p ≤ z → Gd z (k + 3) p (lo 2 p)) (h0 : g = true → ∀ p, p ≤ z → Gd z k p (lo 0 p)) : ∀ s, s ≤ 5 → ∀ n, N + 6 ≤ n + s → ImF b z j (rdX1 n s 5) d (pA b z g lo s) := by
  have go := gd_pO (b := b) (g := g) (lo := lo) hk h5 h0
  have gt := gd_many (b := b) (op := opT) (fun t h => opT_ok h) go
  have gs := gd_many (b := b) (op := opS) (fun t h => opS_ok h) gt
  have gn := gd_pN (b := b) (g := g) (lo := lo) gs h2
  have gc := gd_many (b := b) (op := opB) (fun t h => opB_ok h) gn
  have o : ∀ n, N + 1 ≤ n → ImF b z j (rdX1 n 5 5) d (pO b z g lo) := fun n hn => by
    obtain ⟨n, rfl⟩ : ∃ y, n = y + 1 := ⟨n - 1, by omega⟩
    exact one_ev (call := rdX1 n) hg hg2 (fun h => hl h 5 (by omega) n (by omega)) (fun h => hl h 0 (by omega) n (by omega)) h5
  have t : ∀ n, N + 2 ≤ n → ImF b z j (rdX1 n 4 5) d (many b z opT (pO b z g lo)) := fun n hn => by
    obtain ⟨n, rfl⟩ : ∃ y, n = y + 1 := ⟨n - 1, by omega⟩
    exact many_ev (loopT_C (rdX1 n)) rfl (fun t h => opT_ok h) (o n (by omega)) go (fun w => rfl)
  have s : ∀ n, N + 3 ≤ n → ImF b z j (rdX1 n 3 5) d (many b z opS (many b z opT (pO b z g lo))) := fun n hn => by
    obtain ⟨n, rfl⟩ : ∃ y, n = y + 1 := ⟨n - 1, by omega⟩
    exact many_ev (loopS_C (rdX1 n)) rfl (fun t h => opS_ok h) (t n (by omega)) gt (fun w => rfl)
  have n2 : ∀ n, N + 4 ≤ n → ImF b z j (rdX1 n 2 5) d (pN b z g (many b z opS (many b z opT (pO b z g lo))) lo) := fun n hn => by
    obtain ⟨n, rfl⟩ : ∃ y, n = y + 1 := ⟨n - 1, by omega⟩
    exact not_ev (call := rdX1 n) hg hg2 (s n (by omega)) gs (fun h => hl h 2 (by omega) n (by omega)) h2
  have c : ∀ n, N + 5 ≤ n → ImF b z j (rdX1 n 1 5) d (many b z opB (pN b z g (many b z opS (many b z opT (pO b z g lo))) lo)) := fun n hn => by
    obtain ⟨n, rfl⟩ : ∃ y, n = y + 1 := ⟨n - 1, by omega⟩
    exact many_ev (loopB_C (rdX1 n)) rfl (fun t h => opB_ok h) (n2 n (by omega)) gn (fun w => rfl)
  have e : ∀ n, N + 6 ≤ n → ImF b z j (rdX1 n 0 5) d (many b z opE (many b z opB (pN b z g (many b z opS (many b z opT (pO b z g lo))) lo))) := fun n hn => by
    obtain ⟨n, rfl⟩ : ∃ y, n = y + 1 := ⟨n - 1, by omega⟩
    exact many_ev (loopE_C (rdX1 n)) rfl (fun t h => opE_ok h) (c n (by omega)) gc (fun w => rfl)
  intro q hq n hn
  match q, hq with
  | 0, _ => exact e n (by omega)
  | 1, _ => exact c n (by omega)
  | 2, _ => exact n2 n (by omega)
  | 3, _ => exact s n (by omega)
  | 4, _ => exact t n (by omega)
  | 5, _ => exact o n (by omega)
theorem pL_ev {b : Nat → Int32} {z j : Nat} : ∀ r d, r + d = 5 → ∀ s, s ≤ 5 → ∀ n, 6 * r + 6 ≤ n + s → ImF b z j (rdX1 n s 5) d (pL b z r s)
  | 0, d, hd, s, hs, n, hn => pA_ev (k := 1) (N := 0) (by omega) (fun h => absurd h (by decide)) (fun _ => by omega) (fun h => absurd h (by decide)) (fun h => absurd h (by decide)) (fun h => absurd h (by decide)) (fun h => absurd h (by decide)) s hs n (by omega)
  | r + 1, d, hd, s, hs, n, hn => pA_ev (k := 5 * r + 6) (N := 6 * r + 6) (lo := pL b z r) (g := true) (by omega) (fun _ => by omega) (fun h => absurd rfl h) (fun _ s hs n hn => pL_ev r (d + 1) (by omega) s hs n (by omega)) (fun _ p hp => gd_mono (gd_pL r 5 (by omega) p hp) (by omega)) (fun _ p hp => gd_mono (gd_pL r 2 (by omega) p hp) (by omega)) (fun _ p hp => gd_pL r 0 (by omega) p hp) s hs n (by omega)
theorem CG.ch {P : Nat → Nat → Prop} {b : Nat → Int32} {z j : Nat} {w w' : Wd} {d : Nat} {c : List Int32} {p : Nat} (h : CG b z j w d c p) (hc : Ch P w w') (hP : ∀ i k, P i k → i ≠ 5 ∧ i ≠ 6 ∧ i ≠ 24 + 3 * j ∧ i ≠ 25 + 3 * j) : CG b z j w' d c p := by
  obtain ⟨h0, h1, h2, h3, h4, h5, h6, h7, h8⟩ := h
  have e5 : ∀ k, gI w' 5 k = gI w 5 k := fun k => hc.I (fun q => (hP _ _ q).1 rfl)
  refine ⟨h0, h1.ch hc (fun i k q => ⟨(hP i k q).2.1, fun y => (hP i k q).1 y.1⟩), ?_, ?_, ⟨?_, ?_, ?_, ?_⟩, h5, ?_, h7.ch hc (fun i k q => (hP i k q).2.2), h8⟩
  · rw [r8_X hc (fun q => (hP _ _ q).1 rfl)]; exact h2
  · rw [e5]; exact h3
  · rw [e5]; exact h4.1
  · rw [e5]; exact h4.2.1
  · rw [e5]; exact h4.2.2.1
  · rw [e5]; exact h4.2.2.2
  · rw [e5]; exact h6
theorem CB.ch {P : Nat → Nat → Prop} {b : Nat → Int32} {z j : Nat} {w w' : Wd} {d f : Nat} (h : CB b z j w d f) (hc : Ch P w w') (hP : ∀ i k, P i k → i ≠ 5 ∧ i ≠ 6 ∧ i ≠ 24 + 3 * j ∧ i ≠ 25 + 3 * j) : CB b z j w' d f := by
  obtain ⟨h0, h1, h2, h3, h4, h5, h6, c, h7⟩ := h
  have e5 : ∀ k, gI w' 5 k = gI w 5 k := fun k => hc.I (fun q => (hP _ _ q).1 rfl)
  refine ⟨h0, h1.ch hc (fun i k q => ⟨(hP i k q).2.1, fun y => (hP i k q).1 y.1⟩), ?_, ?_, ?_, ?_, h6, c, h7.ch hc (fun i k q => (hP i k q).2.2)⟩
  · rw [r8_X hc (fun q => (hP _ _ q).1 rfl)]; exact h2
  · rw [e5]; exact h3
  · rw [e5]; exact h4
  · rw [e5]; exact h5
theorem end_part {w : Wd} {j x : Nat} {v : Int32} (hS : St w) (hj : j < 6) (hx : x < 3) (hv : gI w (24 + 3 * j) 2 = v) : fX3_endPart (24 + 3 * j) (nI x) w = some ((), sI w (26 + 3 * j) x v) := by
  have ht := kd_txe hj
  have h3 : ¬ Int32.ofNat 3 ≤ nI x := nI_ge (b := 3) hx (by omega)
  have c : (nI x).toNatClampNeg = x := nI_clamp (by omega)
  unfold fX3_endPart
  rw [if_neg (nI_pos (by omega)), dg_txe hS hj, ht.2, if_neg h3, dg_txe hS hj, grd_t (by rw [ht.2]; exact vin_nI hx (by omega)), c, hv, lw_e]
def PY (j i k : Nat) : Prop := PZ j i k ∨ i = 26 + 3 * j
theorem PZ_PY {j : Nat} (i k : Nat) (h : PZ j i k) : PY j i k := Or.inl h
/-- one part -/
theorem part_good {b : Nat → Int32} {z j x fu : Nat} {w : Wd} {c : List Int32} {p : Nat} (h : CG b z j w 0 c p) (hx : x < 3) : ∃ w', fX1_readInto_33 5 (fu + 1) (nI x) w = fX1_readInto_33 5 fu (nI (x + 1)) w' ∧ (∀ f, pPart b z (nI (4 + x)) p = .inl f → CB b z j w' 0 f) ∧ (∀ c9 s9 p9, pPart b z (nI (4 + x)) p = .inr (c9, s9, p9) → CG b z j w' 0 (c ++ c9) p9 ∧ gI w' (26 + 3 * j) x = nI (c ++ c9).length) ∧ (∀ k, k ≠ x → gI w' (26 + 3 * j) k = gI w (26 + 3 * j) k) ∧ Ch (PY j) w w' := by
  have hj := h.1
  have ha : (4 : Int32) + nI x = nI (4 + x) := nI_add 4 x
  have hn3 : ¬ (3 : Int32) ≤ nI x := nI_ge (b := 3) hx (by omega)
  have im := pL_ev (b := b) (z := z) (j := j) 5 0 rfl 0 (by omega) RF (by show 6 * 5 + 6 ≤ 60 + 0; omega)
  have h26 : ∀ i k : Nat, i = 26 + 3 * j → i ≠ 5 ∧ i ≠ 6 ∧ i ≠ 24 + 3 * j ∧ i ≠ 25 + 3 * j := fun i k h => by omega
  have nz : ¬ PZ j (26 + 3 * j) 0 := by unfold PZ PTx; omega
  -- behind a fault all parts fail
  have tail : ∀ w1 : Wd, ∀ f, CB b z j w1 0 f → Ch (PY j) w w1 → (∀ k, gI w1 (26 + 3 * j) k = gI w (26 + 3 * j) k) → ∃ w', bnd (rdX1 RF 0 5 w1) (fun _ w_15 => dr (gR w_15 5 8) 3 w_15 (fun a_16 => bnd (fX3_endPart a_16 (nI x) w_15) (fun _ w_18 => bnd (fX1_expect 5 (12 : Int32) w_18) (fun _ w_20 => fX1_readInto_33 5 fu (nI x + (1 : Int32)) w_20)))) = fX1_readInto_33 5 fu (nI (x + 1)) w' ∧ CB b z j w' 0 f ∧ (∀ k, k ≠ x → gI w' (26 + 3 * j) k = gI w (26 + 3 * j) k) ∧ Ch (PY j) w w' := by
    intro w1 f b1 c1 k1
    obtain ⟨w2, e2, b2, c2⟩ := im.2 w1 f b1
    rw [e2, bnd_s, b2.into, end_part b2.2.1.1 hj hx rfl, bnd_s]
    have c3 : Ch (fun i _ => i = 26 + 3 * j) w2 (sI w2 (26 + 3 * j) x (gI w2 (24 + 3 * j) 2)) := ch_sI rfl
    have b3 := b2.ch c3 h26
    obtain ⟨w4, e4, b4, c4⟩ := expect_bad (t := 12) b3 (by decide)
    rw [e4, bnd_s, nI_1]
    refine ⟨w4, rfl, b4, fun k hk => ?_, c1.tr ((c2.mono PZ_PY).tr ((c3.mono (fun i k h => Or.inr h)).tr (c4.mono PZ_PY)))⟩
    rw [c4.I (by unfold PZ PTx; omega), gI_sI, if_neg (fun y => hk y.2), c2.I (by unfold PZ PTx; omega), k1]
  rw [fX1_readInto_33]
  dsimp only
  rw [if_neg hn3, ha]
  obtain ⟨w1, e1, g1, c1⟩ := expect_good (t := nI (4 + x)) h
  have k1 : ∀ k, gI w1 (26 + 3 * j) k = gI w (26 + 3 * j) k := fun k => c1.I (by unfold PZ PTx; omega)
  rw [e1, bnd_s]
  unfold pPart
  by_cases ht : tk b z p = nI (4 + x)
  · rw [if_pos ht] at g1
    rw [if_pos ht]
    obtain ⟨w2, e2, q2, c2⟩ := im.1 w1 _ _ g1
    have k2 : ∀ k, gI w2 (26 + 3 * j) k = gI w (26 + 3 * j) k := fun k => by rw [c2.I (by unfold PZ PTx; omega), k1]
    match hy : pL b z 5 0 (nx b z p) with
    | .inl f =>
      have b2 := CB.col hy q2
      rw [e2, bnd_s, b2.into, end_part b2.2.1.1 hj hx rfl, bnd_s]
      have c3 : Ch (fun i _ => i = 26 + 3 * j) w2 (sI w2 (26 + 3 * j) x (gI w2 (24 + 3 * j) 2)) := ch_sI rfl
      have b3 := b2.ch c3 h26
      obtain ⟨w4, e4, b4, c4⟩ := expect_bad (t := 12) b3 (by decide)
      rw [e4, bnd_s, nI_1]
      refine ⟨w4, rfl, fun f2 hf => ?_, fun c9 s9 p9 he => absurd he (by simp [bR]), fun k hk => ?_, (c1.mono PZ_PY).tr ((c2.mono PZ_PY).tr ((c3.mono (fun i k h => Or.inr h)).tr (c4.mono PZ_PY)))⟩
      · have : f = f2 := by simpa [bR] using hf
        rw [← this]
        exact b4
      · rw [c4.I (by unfold PZ PTx; omega), gI_sI, if_neg (fun y => hk y.2), k2]
    | .inr (c9, s9, p9) =>
      have g2 := CG.col hy q2
      have hsz : gI w2 (24 + 3 * j) 2 = nI (c ++ c9).length := g2.2.2.2.2.2.2.2.1.2.1
      rw [e2, bnd_s, g2.into, end_part g2.2.1.1 hj hx hsz, bnd_s]
      have c3 : Ch (fun i _ => i = 26 + 3 * j) w2 (sI w2 (26 + 3 * j) x (nI (c ++ c9).length)) := ch_sI rfl
      have g3 := g2.ch c3 h26
      obtain ⟨w4, e4, g4, c4⟩ := expect_good (t := 12) g3
      rw [e4, bnd_s, nI_1]
      have hb : (bR (.inr (c9, s9, p9)) fun c s p2 => if tk b z p2 = 12 then (.inr (c, s, nx b z p2) : Rz) else .inl (tS b z p2)) = if tk b z p9 = 12 then (.inr (c9, s9, nx b z p9) : Rz) else .inl (tS b z p9) := rfl
      rw [hb]
      refine ⟨w4, rfl, fun f2 hf => ?_, fun c8 s8 p8 he => ?_, fun k hk => ?_, (c1.mono PZ_PY).tr ((c2.mono PZ_PY).tr ((c3.mono (fun i k h => Or.inr h)).tr (c4.mono PZ_PY)))⟩
      · by_cases h12 : tk b z p9 = 12
        · rw [if_pos h12] at hf; exact absurd hf (by simp)
        · rw [if_neg h12] at hf g4
          have : tS b z p9 = f2 := by simpa using hf
          rw [← this]
          exact g4
      · by_cases h12 : tk b z p9 = 12
        · rw [if_pos h12] at he g4
          simp only [Sum.inr.injEq, Prod.mk.injEq] at he
          obtain ⟨rfl, rfl, rfl⟩ := he
          refine ⟨g4, ?_⟩
          rw [c4.I (by unfold PZ PTx; omega), gI_sI, if_pos ⟨rfl, rfl⟩]
        · rw [if_neg h12] at he; exact absurd he (by simp)
      · rw [c4.I (by unfold PZ PTx; omega), gI_sI, if_neg (fun y => hk y.2), k2]
  · rw [if_neg ht] at g1
    rw [if_neg ht]
    obtain ⟨w4, e4, b4, k4, c4⟩ := tail w1 _ g1 (c1.mono PZ_PY) k1
    refine ⟨w4, e4, fun f2 hf => ?_, fun c9 s9 p9 he => absurd he (by simp), k4, c4⟩
    have : tS b z p = f2 := by simpa using hf
    rw [← this]
    exact b4
theorem part_bad {b : Nat → Int32} {z j x f fu : Nat} {w : Wd} (h : CB b z j w 0 f) (hx : x < 3) : ∃ w', fX1_readInto_33 5 (fu + 1) (nI x) w = fX1_readInto_33 5 fu (nI (x + 1)) w' ∧ CB b z j w' 0 f ∧ Ch (PY j) w w' := by
  have hj := h.1
  have ha : (4 : Int32) + nI x = nI (4 + x) := nI_add 4 x
  have hn3 : ¬ (3 : Int32) ≤ nI x := nI_ge (b := 3) hx (by omega)
  have im := pL_ev (b := b) (z := z) (j := j) 5 0 rfl 0 (by omega) RF (by show 6 * 5 + 6 ≤ 60 + 0; omega)
  have h26 : ∀ i k : Nat, i = 26 + 3 * j → i ≠ 5 ∧ i ≠ 6 ∧ i ≠ 24 + 3 * j ∧ i ≠ 25 + 3 * j := fun i k h => by omega
  have hne : nI (4 + x) ≠ 0 := fun y => by
    have := (nI_eq (a := 4 + x) (b := 0) (by omega) (by omega)).mp y
    omega
  obtain ⟨w1, e1, b1, c1⟩ := expect_bad (t := nI (4 + x)) h hne
  obtain ⟨w2, e2, b2, c2⟩ := im.2 w1 f b1
  have c3 : Ch (fun i _ => i = 26 + 3 * j) w2 (sI w2 (26 + 3 * j) x (gI w2 (24 + 3 * j) 2)) := ch_sI rfl
  have b3 := b2.ch c3 h26
  obtain ⟨w4, e4, b4, c4⟩ := expect_bad (t := 12) b3 (by decide)
  refine ⟨w4, ?_, b4, (c1.mono PZ_PY).tr ((c2.mono PZ_PY).tr ((c3.mono (fun i k h => Or.inr h)).tr (c4.mono PZ_PY)))⟩
  rw [fX1_readInto_33]
  dsimp only
  rw [if_neg hn3, ha, e1, bnd_s, e2, bnd_s, b2.into, end_part b2.2.1.1 hj hx rfl, bnd_s, e4, bnd_s, nI_1]
