/-! good readings, level by level -/
theorem cD_nI {x : Int32} (h : cD x = true) : ∃ d : Nat, 48 ≤ d ∧ d ≤ 57 ∧ x = nI d := by
  unfold cD at h
  have h := of_decide_eq_true h
  obtain ⟨h1, h2⟩ := h
  have h0 : ¬ x < 0 := fun z => by
    have a := Int32.lt_iff_toInt_lt.mp z
    have b := Int32.le_iff_toInt_le.mp h1
    have c : (48 : Int32).toInt = 48 := rfl
    have d : (0 : Int32).toInt = 0 := rfl
    omega
  obtain ⟨j, hj, rfl⟩ := nI_of2 (x := x) (M := 57) (n := 57) rfl h0 h2
  refine ⟨j, ?_, hj, rfl⟩
  refine Nat.le_of_not_lt (fun z => ?_)
  have h3 : ¬ nI 48 ≤ nI j := nI_ge z (by omega)
  exact h3 h1
theorem vl_nI (b : Nat → Int32) : ∀ (n q v k M : Nat), sc cD b n q ≤ q + k → v + 1 ≤ M → ∃ v', vl b n q (nI v) = nI v' ∧ v' + 1 ≤ M * 10 ^ k
  | 0, q, v, k, M, _, h => ⟨v, rfl, Nat.le_trans h (Nat.le_mul_of_pos_right M (Nat.pow_pos (by omega)))⟩
  | n + 1, q, v, k, M, hs, h => by
    unfold vl
    unfold sc at hs
    by_cases hc : cD (b q) = true
    · rw [if_pos hc] at hs
      rw [if_pos hc]
      have h2 := sc_le cD b n (q + 1)
      obtain ⟨k, rfl⟩ : ∃ j, k = j + 1 := ⟨k - 1, by omega⟩
      obtain ⟨d, d1, d2, d3⟩ := cD_nI hc
      have e : nI v * 10 + b q - 48 = nI (v * 10 + (d - 48)) := by
        have e1 : nI v * (10 : Int32) = nI (v * 10) := pk_mul v 10
        have e2 : nI (v * 10 + d) - (48 : Int32) = nI (v * 10 + d - 48) := pk_sub (a := v * 10 + d) (b := 48) (by omega)
        rw [d3, e1, nI_add, e2, show v * 10 + d - 48 = v * 10 + (d - 48) by omega]
      obtain ⟨v', e', h'⟩ := vl_nI b n (q + 1) (v * 10 + (d - 48)) k (10 * M) (by omega) (by omega)
      refine ⟨v', by rw [e]; exact e', ?_⟩
      rw [Nat.pow_succ, Nat.mul_comm (10 ^ k) 10, ← Nat.mul_assoc, Nat.mul_comm M 10]
      exact h'
    · rw [if_neg hc]
      exact ⟨v, rfl, Nat.le_trans h (Nat.le_mul_of_pos_right M (Nat.pow_pos (by omega)))⟩
theorem nmT_in (b : Nat → Int32) (q e : Nat) : nmT b q e = -1 ∨ ∃ j, j ≤ 5 ∧ nmT b q e = nI j := by
  unfold nmT
  split
  · exact Or.inr ⟨0, by omega, rfl⟩
  split
  · exact Or.inr ⟨1, by omega, rfl⟩
  split
  · exact Or.inr ⟨2, by omega, rfl⟩
  split
  · exact Or.inr ⟨3, by omega, rfl⟩
  split
  · exact Or.inr ⟨4, by omega, rfl⟩
  split
  · exact Or.inr ⟨5, by omega, rfl⟩
  exact Or.inl rfl
theorem wdT_in (b : Nat → Int32) (q e : Nat) : wdT b q e ≠ 2 ∧ wdT b q e ≠ 3 ∧ wdT b q e ≠ 1 ∧ wdT b q e ≠ 10 ∧ wdT b q e ≠ 11 ∧ wdT b q e ≠ 12 ∧ wdT b q e ≠ 13 ∧ wdT b q e ≠ 14 ∧ wdT b q e ≠ 15 ∧ wdT b q e ≠ 16 ∧ wdT b q e ≠ 17 := by
  unfold wdT
  split
  · decide
  split
  · decide
  split
  · decide
  split
  · decide
  split
  · decide
  split
  · decide
  decide
theorem sgT_in (x : Int32) : sgT x ≠ 2 ∧ sgT x ≠ 3 ∧ sgT x ≠ 1 ∧ sgT x ≠ 4 ∧ sgT x ≠ 5 ∧ sgT x ≠ 6 ∧ sgT x ≠ 7 ∧ sgT x ≠ 8 ∧ sgT x ≠ 9 := by
  unfold sgT
  split
  · decide
  split
  · decide
  split
  · decide
  split
  · decide
  split
  · decide
  split
  · decide
  split
  · decide
  split
  · decide
  decide
/-- an amount's token -/
theorem tk_2 {b : Nat → Int32} {z p : Nat} (h : tk b z p = 2) : tS b z p < z ∧ ¬ cL (b (tS b z p)) = true ∧ cD (b (tS b z p)) = true ∧ nE b z (tS b z p) ≤ tS b z p + 4 := by
  unfold tk at h
  by_cases hq : tS b z p < z
  · rw [if_pos hq] at h
    by_cases hl : cL (b (tS b z p)) = true
    · rw [if_pos hl] at h
      by_cases hn : nmT b (tS b z p) (wE b z (tS b z p)) = -1
      · rw [if_pos hn] at h
        exact absurd h (wdT_in _ _ _).1
      · rw [if_neg hn] at h
        exact absurd h (by decide)
    · rw [if_neg hl] at h
      by_cases hd : cD (b (tS b z p)) = true
      · rw [if_pos hd] at h
        by_cases h4 : nE b z (tS b z p) ≤ tS b z p + 4
        · exact ⟨hq, hl, hd, h4⟩
        · rw [if_neg h4] at h
          exact absurd h (by decide)
      · rw [if_neg hd] at h
        exact absurd h (sgT_in _).1
  · rw [if_neg hq] at h
    exact absurd h (by decide)
theorem am_2 {b : Nat → Int32} {z p : Nat} (h : tk b z p = 2) : ∃ v, v < 10000 ∧ am b z p = nI v := by
  obtain ⟨h1, h2, h3, h4⟩ := tk_2 h
  unfold am
  rw [if_neg h2]
  obtain ⟨v, e, hv⟩ := vl_nI b (z - tS b z p) (tS b z p) 0 4 1 h4 (by omega)
  exact ⟨v, by omega, e⟩
/-- a name's token -/
theorem tk_3 {b : Nat → Int32} {z p : Nat} (h : tk b z p = 3) : tS b z p < z ∧ cL (b (tS b z p)) = true ∧ nmT b (tS b z p) (wE b z (tS b z p)) ≠ -1 := by
  unfold tk at h
  by_cases hq : tS b z p < z
  · rw [if_pos hq] at h
    by_cases hl : cL (b (tS b z p)) = true
    · rw [if_pos hl] at h
      by_cases hn : nmT b (tS b z p) (wE b z (tS b z p)) = -1
      · rw [if_pos hn] at h
        exact absurd h (wdT_in _ _ _).2.1
      · exact ⟨hq, hl, hn⟩
    · rw [if_neg hl] at h
      by_cases hd : cD (b (tS b z p)) = true
      · rw [if_pos hd] at h
        by_cases h4 : nE b z (tS b z p) ≤ tS b z p + 4
        · rw [if_pos h4] at h
          exact absurd h (by decide)
        · rw [if_neg h4] at h
          exact absurd h (by decide)
      · rw [if_neg hd] at h
        exact absurd h (sgT_in _).2.1
  · rw [if_neg hq] at h
    exact absurd h (by decide)
theorem am_3 {b : Nat → Int32} {z p : Nat} (h : tk b z p = 3) : ∃ v, v ≤ 5 ∧ am b z p = nI v := by
  obtain ⟨h1, h2, h3⟩ := tk_3 h
  unfold am
  rw [if_pos h2]
  exact (nmT_in b _ _).resolve_left h3
theorem run_none {env : Nat → Int32} {o : Int32} {st : List Int32} (h : o < 8 ∨ 16 ≤ o) (h6 : ¬ (o = 6 ∨ o = 7)) (hl : st.length + 1 ≤ 31) : runC env [o] st = op0 env o :: st := by
  show stp env o st = _
  unfold stp
  rw [if_pos h, if_neg h6, if_pos (show st.length < 31 by omega)]
theorem run_one {env : Nat → Int32} {o a : Int32} {st : List Int32} (h : o = 6 ∨ o = 7) : runC env [o] (a :: st) = op1 o a :: st := by
  show stp env o (a :: st) = _
  unfold stp
  have h8 : o < 8 := h.elim (fun e => by rw [e]; decide) (fun e => by rw [e]; decide)
  rw [if_pos (Or.inl h8), if_pos h]
  rfl
theorem gd_in {z k p p9 : Nat} {c9 : List Int32} {s9 : Sem} (h : p + c9.length ≤ p9 ∧ p < p9 ∧ p9 ≤ z ∧ ∀ env st, st.length + k ≤ 31 → runC env c9 st = s9 env :: st) : Gd z k p (.inr (c9, s9, p9)) := fun c s p' e => by
  simp only [Sum.inr.injEq, Prod.mk.injEq] at e
  obtain ⟨rfl, rfl, rfl⟩ := e
  exact h
theorem gd_fl {z k p f : Nat} : Gd z k p (.inl f) := fun c s p' e => absurd e (by simp)
theorem gd_pO {b : Nat → Int32} {z k : Nat} {g : Bool} {lo : Nat → Nat → Rz} (hk : 1 ≤ k) (h5 : g = true → ∀ p, p ≤ z → Gd z k p (lo 5 p)) (h0 : g = true → ∀ p, p ≤ z → Gd z k p (lo 0 p)) : ∀ p, p ≤ z → Gd z k p (pO b z g lo p) := fun p hp => by
  obtain ⟨n1, n2, n3⟩ := nx_le (b := b) hp
  unfold pO
  by_cases a2 : tk b z p = 2
  · rw [if_pos a2]
    obtain ⟨v, hv, ev⟩ := am_2 a2
    have n3 := n3 (by rw [a2]; decide)
    refine gd_in ⟨by simp only [List.length_cons, List.length_nil]; omega, n3, n2, fun env st hs => ?_⟩
    have e : (16 : Int32) + am b z p = nI (16 + v) := by rw [ev]; exact nI_add 16 v
    have q1 : (16 : Int32) ≤ nI (16 + v) := nI_le (a := 16) (by omega) (by omega)
    rw [e]
    refine run_none (Or.inr q1) (fun z => ?_) (by omega)
    rcases z with z | z
    · rw [z] at q1; exact absurd q1 (by decide)
    · rw [z] at q1; exact absurd q1 (by decide)
  rw [if_neg a2]
  by_cases a3 : tk b z p = 3
  · rw [if_pos a3]
    obtain ⟨v, hv, ev⟩ := am_3 a3
    have n3 := n3 (by rw [a3]; decide)
    refine gd_in ⟨by simp only [List.length_cons, List.length_nil]; omega, n3, n2, fun env st hs => ?_⟩
    rw [ev]
    have q1 : nI v < (8 : Int32) := nI_lt (b := 8) (by omega) (by omega)
    refine run_none (Or.inl q1) (fun z => ?_) (by omega)
    rcases z with z | z
    · have := (nI_eq (a := v) (b := 6) (by omega) (by omega)).mp z
      omega
    · have := (nI_eq (a := v) (b := 7) (by omega) (by omega)).mp z
      omega
  rw [if_neg a3]
  by_cases a14 : tk b z p = 14
  · rw [if_pos a14]
    have n3 := n3 (by rw [a14]; decide)
    by_cases hg : g = true
    · rw [if_pos hg]
      refine fun c s p' e => ?_
      match hx : lo 5 (nx b z p), e with
      | .inl f, e => exact absurd e (by simp [bR])
      | .inr (c2, s2, p2), e =>
        obtain ⟨b1, b2, b3, b4⟩ := h5 hg _ n2 c2 s2 p2 hx
        refine gd_in (p := p) (k := k) ⟨?_, ?_, b3, fun env st hs => ?_⟩ c s p' e
        · simp only [List.length_append, List.length_cons, List.length_nil]; omega
        · omega
        · rw [runC_app, b4 env st hs, run_one (Or.inr rfl)]
    · rw [if_neg hg]
      exact gd_fl
  rw [if_neg a14]
  by_cases a10 : tk b z p = 10
  · rw [if_pos a10]
    have n3 := n3 (by rw [a10]; decide)
    by_cases hg : g = true
    · rw [if_pos hg]
      refine fun c s p' e => ?_
      match hx : lo 0 (nx b z p), e with
      | .inl f, e => exact absurd e (by simp [bR])
      | .inr (c2, s2, p2), e =>
        obtain ⟨b1, b2, b3, b4⟩ := h0 hg _ n2 c2 s2 p2 hx
        obtain ⟨m1, m2, m3⟩ := nx_le (b := b) b3
        by_cases a11 : tk b z p2 = 11
        · have e : (if tk b z p2 = 11 then (.inr (c2, s2, nx b z p2) : Rz) else .inl (tS b z p2)) = .inr (c, s, p') := e
          rw [if_pos a11] at e
          exact gd_in (p := p) (k := k) ⟨by omega, by omega, m2, b4⟩ c s p' e
        · have e : (if tk b z p2 = 11 then (.inr (c2, s2, nx b z p2) : Rz) else .inl (tS b z p2)) = .inr (c, s, p') := e
          rw [if_neg a11] at e
          exact absurd e (by simp)
    · rw [if_neg hg]
      exact gd_fl
  rw [if_neg a10]
  exact gd_fl
theorem gd_pN {b : Nat → Int32} {z k : Nat} {g : Bool} {sum : Nat → Rz} {lo : Nat → Nat → Rz} (hS : ∀ p, p ≤ z → Gd z k p (sum p)) (h2 : g = true → ∀ p, p ≤ z → Gd z (k + 1) p (lo 2 p)) : ∀ p, p ≤ z → Gd z (k + 1) p (pN b z g sum lo p) := fun p hp => by
  obtain ⟨n1, n2, n3⟩ := nx_le (b := b) hp
  unfold pN
  by_cases a9 : tk b z p = 9
  · rw [if_pos a9]
    have n3 := n3 (by rw [a9]; decide)
    by_cases hg : g = true
    · rw [if_pos hg]
      refine fun c s p' e => ?_
      match hx : lo 2 (nx b z p), e with
      | .inl f, e => exact absurd e (by simp [bR])
      | .inr (c2, s2, p2), e =>
        obtain ⟨b1, b2, b3, b4⟩ := h2 hg _ n2 c2 s2 p2 hx
        refine gd_in (p := p) (k := k + 1) ⟨?_, ?_, b3, fun env st hs => ?_⟩ c s p' e
        · simp only [List.length_append, List.length_cons, List.length_nil]; omega
        · omega
        · rw [runC_app, b4 env st hs, run_one (Or.inl rfl)]
    · rw [if_neg hg]
      exact gd_fl
  rw [if_neg a9]
  refine gd_bR (gd_mono (hS p hp) (by omega)) (fun c s p1 e => ?_)
  obtain ⟨a1, a2, a3, a4⟩ := hS p hp c s p1 e
  by_cases ac : tk b z p1 = 16 ∨ tk b z p1 = 17
  · rw [if_pos ac]
    have hne : tk b z p1 ≠ 1 := fun z => ac.elim (fun y => by rw [y] at z; exact absurd z (by decide)) (fun y => by rw [y] at z; exact absurd z (by decide))
    obtain ⟨m1, m2, m3⟩ := nx_le (b := b) a3
    have m3 := m3 hne
    refine fun c9 s9 p9 e9 => ?_
    match hx : sum (nx b z p1), e9 with
    | .inl f, e => exact absurd e (by simp [bR])
    | .inr (c2, s2, p2), e =>
      obtain ⟨b1, b2, b3, b4⟩ := hS _ m2 c2 s2 p2 hx
      refine gd_in (p := p) (k := k + 1) ⟨?_, ?_, b3, fun env st hs => ?_⟩ c9 s9 p9 e
      · simp only [List.length_append, List.length_cons, List.length_nil]; omega
      · omega
      · rw [runC_app, runC_app, a4 env st (by omega), b4 env (s env :: st) (by simp only [List.length_cons]; omega), run_two opC_ok]
  · rw [if_neg ac]
    exact gd_in ⟨a1, a2, a3, fun env st hs => a4 env st (by omega)⟩
theorem gd_pA {b : Nat → Int32} {z k : Nat} {g : Bool} {lo : Nat → Nat → Rz} (hk : 1 ≤ k) (h5 : g = true → ∀ p, p ≤ z → Gd z k p (lo 5 p)) (h2 : g = true → ∀ p, p ≤ z → Gd z (k + 3) p (lo 2 p)) (h0 : g = true → ∀ p, p ≤ z → Gd z k p (lo 0 p)) : ∀ j, j ≤ 5 → ∀ p, p ≤ z → Gd z (k + 5 - j) p (pA b z g lo j p) := by
  have o := gd_pO (b := b) (g := g) (lo := lo) hk h5 h0
  have t := gd_many (b := b) (op := opT) (fun t h => opT_ok h) o
  have s := gd_many (b := b) (op := opS) (fun t h => opS_ok h) t
  have n := gd_pN (b := b) (g := g) (lo := lo) s h2
  have c := gd_many (b := b) (op := opB) (fun t h => opB_ok h) n
  have e := gd_many (b := b) (op := opE) (fun t h => opE_ok h) c
  intro j hj
  match j, hj with
  | 0, _ => exact e
  | 1, _ => exact c
  | 2, _ => exact n
  | 3, _ => exact s
  | 4, _ => exact t
  | 5, _ => exact o
theorem gd_pL {b : Nat → Int32} {z : Nat} : ∀ r j, j ≤ 5 → ∀ p, p ≤ z → Gd z (5 * r + 6 - j) p (pL b z r j p)
  | 0, j, hj, p, hp => gd_pA (k := 1) (by omega) (fun h => absurd h (by decide)) (fun h => absurd h (by decide)) (fun h => absurd h (by decide)) j hj p hp
  | r + 1, j, hj, p, hp => by
    have h := gd_pA (b := b) (z := z) (k := 5 * r + 6) (g := true) (lo := pL b z r) (by omega) (fun _ p hp => gd_mono (gd_pL r 5 (by omega) p hp) (by omega)) (fun _ p hp => gd_mono (gd_pL r 2 (by omega) p hp) (by omega)) (fun _ p hp => gd_pL r 0 (by omega) p hp) j hj p hp
    exact gd_mono h (by omega)
