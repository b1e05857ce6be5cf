/-! what the calls ask first -/
theorem wn_ev {x a c : Int32} {w : Wd} : fX6_within x a c w = some (if a ≤ x ∧ x ≤ c then 1 else 0, w) := by
  unfold fX6_within
  by_cases h1 : x < a
  · rw [if_pos h1, if_neg (fun z => Int32.not_le.mpr h1 z.1)]
  · rw [if_neg h1]
    by_cases h2 : c < x
    · rw [if_pos h2, if_neg (fun z => Int32.not_le.mpr h2 z.2)]
    · rw [if_neg h2, if_pos ⟨Int32.not_lt.mp h1, Int32.not_lt.mp h2⟩]
theorem in0 {x : Int32} {m : Nat} (hm : m < 2 ^ 31) : (0 ≤ x ∧ x ≤ nI m - 1) ↔ ∃ i, i < m ∧ x = nI i := by
  constructor
  · rintro ⟨h1, h2⟩
    obtain ⟨j, hj, rfl⟩ := nI_of (Int32.not_lt.mpr h1)
    cases m with
    | zero =>
      have h3 : (0 : Int32) ≤ nI 0 - 1 := by
        have a := Int32.le_iff_toInt_le.mp h1
        have b := Int32.le_iff_toInt_le.mp h2
        exact Int32.le_iff_toInt_le.mpr (by omega)
      exact absurd h3 (by decide)
    | succ m =>
      rw [nI_pred] at h2
      refine ⟨j, ?_, rfl⟩
      have := (nI_leI hj (by omega)).mp h2
      omega
  · rintro ⟨i, hi, rfl⟩
    cases m with
    | zero => omega
    | succ m =>
      rw [nI_pred]
      exact ⟨nI_pos' (by omega), nI_le (by omega) (by omega)⟩
theorem in0n {x : Int32} {n : Nat} (hn : n < 2 ^ 31) : (0 ≤ x ∧ x ≤ nI n) ↔ ∃ i, i ≤ n ∧ x = nI i := by
  constructor
  · rintro ⟨h1, h2⟩
    obtain ⟨j, hj, rfl⟩ := nI_of (Int32.not_lt.mpr h1)
    exact ⟨j, (nI_leI hj hn).mp h2, rfl⟩
  · rintro ⟨i, hi, rfl⟩
    exact ⟨nI_pos' (by omega), nI_le hi hn⟩
/-- a walker is asked for -/
theorem one_at {w : Wd} {m tc rl tp : Nat} (h : Jn w m tc rl tp) (x : Int32) : (∃ i, i < m ∧ x = nI i ∧ fX6_walkerAt 0 x w = some (some (18 + i), w) ∧ fX7_isOne 52 x w = some (1, w)) ∨ (fX6_walkerAt 0 x w = some (none, w) ∧ fX7_isOne 52 x w = some (0, w)) := by
  obtain ⟨h1, ⟨m6, h2, h3⟩, -⟩ := h
  have e0 : (0 : Int32).toInt64 = (0 : Int64) := by decide
  have hone : fX7_isOne 52 x w = some (if 0 ≤ x ∧ x ≤ nI m - 1 then 1 else 0, w) := by
    unfold fX7_isOne
    rw [h3, ← e0, in32, bnd_s]
    by_cases hc : 0 ≤ x ∧ x ≤ nI m - 1
    · rw [if_pos hc, grd_t (Or.inr rfl)]
    · rw [if_neg hc, grd_t (Or.inl rfl)]
  by_cases hc : 0 ≤ x ∧ x ≤ nI m - 1
  · obtain ⟨i, hi, rfl⟩ := (in0 (by omega)).mp hc
    refine Or.inl ⟨i, hi, rfl, ?_, by rw [hone, if_pos hc]⟩
    have ci : (nI i).toNatClampNeg = i := nI_clamp (by omega)
    unfold fX6_walkerAt
    rw [if_neg (nI_pos (by omega)), h2, if_neg (nI_ge hi (by omega)), dg_0_2 h1, grd_t (by rw [ln_3]; exact vin_nI (by omega) (by omega)), ci, st_wk h1 (by omega)]
  · refine Or.inr ⟨?_, by rw [hone, if_neg hc]⟩
    unfold fX6_walkerAt fX6_walkerAt_21
    by_cases hn : x < 0
    · rw [if_pos hn]
    · rw [if_neg hn]
      obtain ⟨j, hj, rfl⟩ := nI_of hn
      have hjm : m ≤ j := Nat.le_of_not_lt (fun z => hc ((in0 (by omega)).mpr ⟨j, z, rfl⟩))
      rw [h2, if_pos (nI_le hjm hj)]
theorem days_ev {x : Int32} {w : Wd} : fX6_isDays x w = some (if 0 ≤ x ∧ x ≤ (40 : Int32) then 1 else 0, w) := by
  unfold fX6_isDays
  rw [wn_ev, bnd_s]
  by_cases h : 0 ≤ x ∧ x ≤ (40 : Int32)
  · rw [if_pos h, grd_t (Or.inr rfl)]
  · rw [if_neg h, grd_t (Or.inl rfl)]
theorem in0l {x c : Int32} {w : Wd} {l : Int64} (hl : c.toInt64 = l) : fX7_in x.toInt64 (0 : Int64) l w = some (if 0 ≤ x ∧ x ≤ c then 1 else 0, w) := by
  have e0 : (0 : Int32).toInt64 = (0 : Int64) := by decide
  rw [← e0, ← hl, in32]
theorem ifn_some {α : Type} {i : Nat} {a b : Option α} : ifn (some i) a b = b := rfl
theorem ifn_none {α : Type} {a b : Option α} : ifn (none : Option Nat) a b = a := rfl
/-- a query keeps the relation -/
theorem jj_query {w w1 w2 : Wd} {m tc rl tp : Nat} (h : Jn w m tc rl tp) (c1 : Ch SC w w1) (c2 : Ch SC w1 w2) : JJ w2 := ⟨m, tc, rl, tp, (h.ch c1).ch c2⟩
theorem k3 {k : Nat} (h : k ≤ 3) : k = 0 ∨ k = 1 ∨ k = 2 ∨ k = 3 := by omega
theorem run_model {w : Wd} {m tc rl tp i n k : Nat} {ev : Ev} (h : Jn w m tc rl tp) (hr : Rm w rl ev) (hi : i < m) (hn : n ≤ 40) (hk : k ≤ 3) : ∃ w3, fX7_run 52 (nI i) (nI n) (nI k) w = some (if k = 0 then daysS ev n (thM w i) 4 else if k = 1 then fiS ev n 0 (thM w i) else if k = 2 then fsS ev n 0 (thM w i) else daysS ev n (thM w i) 5, w3) ∧ Ch SC w w3 := by
  have e40 : (40 : Int32).toInt64 = (40 : Int64) := by decide
  have e3 : (3 : Int32).toInt64 = (3 : Int64) := by decide
  have m6 := h.2.1.1
  have hd : 0 ≤ nI n ∧ nI n ≤ (40 : Int32) := (in0n (n := 40) (by omega)).mpr ⟨n, hn, rfl⟩
  have hs : 0 ≤ nI k ∧ nI k ≤ (3 : Int32) := (in0n (n := 3) (by omega)).mpr ⟨k, hk, rfl⟩
  have e9 : fX7_isOne 52 (nI i) w = some (1, w) := by
    rcases one_at h (nI i) with ⟨i2, hi2, ei, -, e9⟩ | ⟨e8, e9⟩
    · exact e9
    · exfalso
      have ci : (nI i).toNatClampNeg = i := nI_clamp (by omega)
      unfold fX6_walkerAt at e8
      rw [if_neg (nI_pos (by omega)), h.2.1.2.1, if_neg (nI_ge hi (by omega)), dg_0_2 h.1, grd_t (by rw [ln_3]; exact vin_nI (by omega) (by omega)), ci, st_wk h.1 (by omega)] at e8
      simp at e8
  obtain ⟨w3, g1, g2, g3, g4, g5, c3⟩ := lives_ev (n := n) hr (p := i) (by omega) (h.th hi).2 hn
  refine ⟨w3, ?_, c3.mono (fun i k z => by unfold PL at z; unfold SC; omega)⟩
  unfold fX7_run
  rw [e9, bnd_s, if_neg (by decide), in0l e40, bnd_s, w01, if_pos hd, in0l e3, bnd_s, w01, if_pos hs, g1, bnd_s]
  rcases k3 hk with rfl | rfl | rfl | rfl
  · rw [if_pos (by decide), g4, if_pos rfl]
  · rw [if_neg (by decide), if_pos (by decide), g2, if_neg (by decide), if_pos rfl]
  · rw [if_neg (by decide), if_neg (by decide), if_pos (by decide), g3, if_neg (by decide), if_neg (by decide), if_pos rfl]
  · rw [if_neg (by decide), if_neg (by decide), if_neg (by decide), g5, if_neg (by decide), if_neg (by decide), if_neg (by decide)]
theorem run_agree (a0 a1 a2 : Int32) : Agree JJ (fX6_run 0 a0 a1 a2) (fX7_run 52 a0 a1 a2) := by
  rintro w ⟨m, tc, rl, tp, h⟩
  have e40 : (40 : Int32).toInt64 = (40 : Int64) := by decide
  have e3 : (3 : Int32).toInt64 = (3 : Int64) := by decide
  have J : JJ w := ⟨m, tc, rl, tp, h⟩
  rcases one_at h a0 with ⟨i, hi, rfl, e1, e2⟩ | ⟨e1, e2⟩
  · by_cases hd : 0 ≤ a1 ∧ a1 ≤ (40 : Int32)
    · by_cases hs : 0 ≤ a2 ∧ a2 ≤ (3 : Int32)
      · obtain ⟨n, hn, rfl⟩ := (in0n (n := 40) (by omega)).mp hd
        obtain ⟨k, hk, rfl⟩ := (in0n (n := 3) (by omega)).mp hs
        obtain ⟨ev, r1, r2⟩ := h.ru
        have m6 := h.2.1.1
        obtain ⟨w1, f1, tc1, c1⟩ := think_ev r1 (i := i) (by omega)
        have c1 := c1.mono PT_SC
        rw [(h.th hi).1] at tc1
        have pd : ∀ i k, PD i k → SC i k := fun i k q => PT_SC i k (PD_PT i k q)
        -- behind the class's answer v the model answers the same
        have fin : ∀ (v : Int32) (w2 : Wd), fX6_run 0 (nI i) (nI n) (nI k) w = some (v, w2) → Ch PD w1 w2 → v = (if k = 0 then daysS ev n (thM w i) 4 else if k = 1 then fiS ev n 0 (thM w i) else if k = 2 then fsS ev n 0 (thM w i) else daysS ev n (thM w i) 5) → ∃ r u1 u2, fX6_run 0 (nI i) (nI n) (nI k) w = some (r, u1) ∧ fX7_run 52 (nI i) (nI n) (nI k) u1 = some (r, u2) ∧ JJ u2 := by
          intro v w2 e c2 hv
          have c3 := c1.tr (c2.mono pd)
          have h2 := h.ch c3
          have et : thM w2 i = thM w i := thM_ch c3 (fun i k z => by unfold SC at z; omega) i
          obtain ⟨w3, g, c4⟩ := run_model h2 (r2.ch c3 (fun i k z => by unfold SC at z; omega)) hi hn hk
          rw [et, ← hv] at g
          exact ⟨v, w2, w3, e, g, m, tc, rl, tp, h2.ch c4⟩
        have pre : ∀ F : Option (Int32 × Wd), (if nI k = (0 : Int32) then
          (dr (gR w1 0 9) 4 w1 (fun a_9 => bnd (fX4_stepBehind a_9 (nI n) w1) (fun x_10 w_11 => some (x_10, w_11))))
        else if nI k = (1 : Int32) then
          (dr (gR w1 0 9) 4 w1 (fun a_12 => bnd (fX4_firstInSocks a_12 (nI n) w1) (fun x_13 w_14 => some (x_13, w_14))))
        else if nI k = (2 : Int32) then
          (dr (gR w1 0 9) 4 w1 (fun a_15 => bnd (fX4_firstStay a_15 (nI n) w1) (fun x_16 w_17 => some (x_16, w_17))))
        else
          (dr (gR w1 0 9) 4 w1 (fun a_18 => bnd (fX4_wornBehind a_18 (nI n) w1) (fun x_19 w_20 => some (x_19, w_20))))) = F → fX6_run 0 (nI i) (nI n) (nI k) w = F := by
          intro F hF
          unfold fX6_run
          rw [e1, bnd_s, ifn_some, days_ev, bnd_s, w01, if_pos hd, wn_ev, bnd_s, w01, if_pos hs, f1, bnd_s]
          exact hF
        rcases k3 hk with rfl | rfl | rfl | rfl
        · obtain ⟨w2, g, c2⟩ := step_ev tc1 hn
          exact fin (daysS ev n (thM w i) 4) w2 (pre _ (by rw [if_pos (by decide), dg_0_9 tc1.1, g, bnd_s])) c2 rfl
        · obtain ⟨w2, g, c2⟩ := fi_ev tc1 hn
          exact fin (fiS ev n 0 (thM w i)) w2 (pre _ (by rw [if_neg (by decide), if_pos (by decide), dg_0_9 tc1.1, g, bnd_s])) c2 rfl
        · obtain ⟨w2, g, c2⟩ := fs_ev tc1 hn
          exact fin (fsS ev n 0 (thM w i)) w2 (pre _ (by rw [if_neg (by decide), if_neg (by decide), if_pos (by decide), dg_0_9 tc1.1, g, bnd_s])) c2 rfl
        · obtain ⟨w2, g, c2⟩ := worn_ev tc1 hn
          exact fin (daysS ev n (thM w i) 5) w2 (pre _ (by rw [if_neg (by decide), if_neg (by decide), if_neg (by decide), dg_0_9 tc1.1, g, bnd_s])) c2 rfl
      · refine ⟨-2, w, w, ?_, ?_, J⟩
        · unfold fX6_run
          rw [e1, bnd_s, ifn_some, days_ev, bnd_s, w01, if_pos hd, wn_ev, bnd_s, w01, if_neg hs]
        · unfold fX7_run
          rw [e2, bnd_s, if_neg (by decide), in0l e40, bnd_s, w01, if_pos hd, in0l e3, bnd_s, w01, if_neg hs]
    · refine ⟨-2, w, w, ?_, ?_, J⟩
      · unfold fX6_run
        rw [e1, bnd_s, ifn_some, days_ev, bnd_s, w01, if_neg hd]
      · unfold fX7_run
        rw [e2, bnd_s, if_neg (by decide), in0l e40, bnd_s, w01, if_neg hd]
  · refine ⟨-2, w, w, ?_, ?_, J⟩
    · unfold fX6_run
      rw [e1, bnd_s, ifn_none]
    · unfold fX7_run
      rw [e2, bnd_s, if_pos rfl]
