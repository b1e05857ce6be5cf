/-! what a read text says: its steps worked off on a stack -/
def op2 (o a b : Int32) : Int32 := if o = 8 then a + b else if o = 9 then a - b else if o = 10 then a * b else if o = 11 then (if a < b then 1 else 0) else if o = 12 then (if a = b then 1 else 0) else if o = 13 then (if a = 0 ∧ b = 0 then 0 else 1) else (if a = 0 ∨ b = 0 then 0 else 1)
def op1 (o a : Int32) : Int32 := if o = 6 then (if a = 0 then 1 else 0) else -a
def op0 (env : Nat → Int32) (o : Int32) : Int32 := if o = 0 then env 0 else if o = 1 then env 1 else if o = 2 then env 2 else if o = 3 then env 3 else if o = 4 then env 4 else if o = 5 then env 5 else o - 16
def stp2 (o : Int32) (st : List Int32) : List Int32 := match st with
  | b :: a :: r => op2 o a b :: r
  | st => st
def stp1 (o : Int32) (st : List Int32) : List Int32 := match st with
  | a :: r => op1 o a :: r
  | [] => []
def stp (env : Nat → Int32) (o : Int32) (st : List Int32) : List Int32 :=
  if o < 8 ∨ 16 ≤ o then
    (if o = 6 ∨ o = 7 then stp1 o st
    else if st.length < 31 then op0 env o :: st else st)
  else stp2 o st
def runC (env : Nat → Int32) : List Int32 → List Int32 → List Int32
  | [], st => st
  | o :: c, st => runC env c (stp env o st)
theorem ofTwo_ev {o a b : Int32} {w : Wd} : fX4_ofTwo o a b w = some (op2 o a b, w) := by
  unfold fX4_ofTwo op2
  by_cases h8 : o = 8
  · rw [if_pos h8, if_pos h8]
  rw [if_neg h8, if_neg h8]
  by_cases h9 : o = 9
  · rw [if_pos h9, if_pos h9]
  rw [if_neg h9, if_neg h9]
  by_cases h10 : o = 10
  · rw [if_pos h10, if_pos h10]
  rw [if_neg h10, if_neg h10]
  by_cases h11 : o = 11
  · rw [if_pos h11, if_pos h11]
    by_cases h : b ≤ a
    · rw [if_pos h, if_neg (Int32.not_lt.mpr h)]
    · rw [if_neg h, if_pos (Int32.not_le.mp h)]
  rw [if_neg h11, if_neg h11]
  by_cases h12 : o = 12
  · rw [if_pos h12, if_pos h12]
    by_cases h : a = b
    · rw [if_pos h, if_pos h]
    · rw [if_neg h, if_neg h]
  rw [if_neg h12, if_neg h12]
  by_cases h13 : o = 13
  · rw [if_pos h13, if_pos h13]
    by_cases h : a = 0
    · by_cases h2 : b = 0
      · rw [if_pos h, if_pos h2, if_pos ⟨h, h2⟩]
      · rw [if_pos h, if_neg h2, if_neg (fun q => h2 q.2)]
        rfl
    · rw [if_neg h, if_neg (fun q => h q.1)]
      rfl
  rw [if_neg h13, if_neg h13]
  by_cases h : a = 0
  · rw [if_pos h, if_pos (Or.inl h)]
  · by_cases h2 : b = 0
    · rw [if_neg h, if_pos h2, if_pos (Or.inr h2)]
    · rw [if_neg h, if_neg h2, if_neg (fun q => q.elim h h2)]
/-- the names, as a thought has them -/
def envT (w : Wd) (q : Nat) : Int32 := if q = 0 then gI w 50 2 else if q = 1 then gI w 50 3 else if q = 2 then gI w 50 4 else if q = 3 then gI w 50 1 else if q = 4 then gI w 50 6 else gI w 50 5
theorem ofNone_ev {o : Int32} {w : Wd} : fX4_ofNone 50 o w = some (op0 (envT w) o, w) := by
  unfold fX4_ofNone op0
  by_cases h0 : o = 0
  · rw [if_pos h0, if_pos h0]; rfl
  rw [if_neg h0, if_neg h0]
  by_cases h1 : o = 1
  · rw [if_pos h1, if_pos h1]; rfl
  rw [if_neg h1, if_neg h1]
  by_cases h2 : o = 2
  · rw [if_pos h2, if_pos h2]; rfl
  rw [if_neg h2, if_neg h2]
  by_cases h3 : o = 3
  · rw [if_pos h3, if_pos h3]; rfl
  rw [if_neg h3, if_neg h3]
  by_cases h4 : o = 4
  · rw [if_pos h4, if_pos h4]; rfl
  rw [if_neg h4, if_neg h4]
  by_cases h5 : o = 5
  · rw [if_pos h5, if_pos h5]; rfl
  rw [if_neg h5, if_neg h5]
theorem envT_ch {w w' : Wd} (h : Ch (fun i _ => i = 51) w w') : envT w' = envT w := by
  have e : ∀ k, gI w' 50 k = gI w 50 k := fun k => h.I (by show ¬ (50 = 51); omega)
  funext q
  simp only [envT, e]
theorem bit_ev {x : Int32} {w : Wd} : fX6_bit x w = some (if x = 0 then 0 else 1, w) := by
  unfold fX6_bit
  split <;> rfl
/-- the stack's row holds st, its first at the top -/
def Sk (w : Wd) (st : List Int32) : Prop := ∀ q, q < st.length → gI w 51 q = st.getD (st.length - 1 - q) 0
theorem sk_push {w : Wd} {st : List Int32} {v : Int32} (h : Sk w st) : Sk (sI w 51 st.length v) (v :: st) := by
  intro q hq
  rw [gI_sI]
  by_cases e : q = st.length
  · subst e
    rw [if_pos ⟨rfl, rfl⟩]
    simp
  · rw [if_neg (fun z => e z.2), h q (by simp only [List.length_cons] at hq; omega)]
    simp only [List.length_cons] at hq ⊢
    rw [show st.length + 1 - 1 - q = (st.length - 1 - q) + 1 by omega, List.getD_cons_succ]
theorem sk_one {w : Wd} {r : List Int32} {a v : Int32} (h : Sk w (a :: r)) : Sk (sI w 51 r.length v) (v :: r) := by
  intro q hq
  rw [gI_sI]
  by_cases e : q = r.length
  · subst e
    rw [if_pos ⟨rfl, rfl⟩]
    simp
  · rw [if_neg (fun z => e z.2)]
    have h1 := h q (by simp only [List.length_cons] at hq ⊢; omega)
    rw [h1]
    simp only [List.length_cons] at hq ⊢
    rw [show r.length + 1 - 1 - q = (r.length - 1 - q) + 1 by omega, List.getD_cons_succ, List.getD_cons_succ]
theorem sk_two {w : Wd} {r : List Int32} {a b v : Int32} (h : Sk w (b :: a :: r)) : Sk (sI w 51 r.length v) (v :: r) := by
  intro q hq
  rw [gI_sI]
  by_cases e : q = r.length
  · subst e
    rw [if_pos ⟨rfl, rfl⟩]
    simp
  · rw [if_neg (fun z => e z.2)]
    have h1 := h q (by simp only [List.length_cons] at hq ⊢; omega)
    rw [h1]
    simp only [List.length_cons] at hq ⊢
    rw [show r.length + 1 + 1 - 1 - q = ((r.length - 1 - q) + 1) + 1 by omega, List.getD_cons_succ, List.getD_cons_succ, show r.length + 1 - 1 - q = (r.length - 1 - q) + 1 by omega, List.getD_cons_succ]
theorem ch51 {w : Wd} {k : Nat} {v : Int32} : Ch (fun i _ => i = 51) w (sI w 51 k v) := ch_sI rfl
abbrev K35 : Type := Option Nat → Int32 → Int32 → Int32 → Wd → Option (Int32 × Wd)
theorem vp_one {k : K35} {r2 : Option Nat} {x3 x5 o : Int32} {st : List Int32} {w : Wd} (hS : St w) (hl : st.length ≤ 31) (hk : Sk w st) (ho : o < 8 ∨ 16 ≤ o) : ∃ w1, fX4_valueOfPart_103 k 50 r2 x3 (nI st.length) x5 o w = k r2 x3 (nI (stp (envT w) o st).length) (x5 + 1) w1 ∧ Sk w1 (stp (envT w) o st) ∧ Ch (fun i _ => i = 51) w w1 := by
  have h117 : (o = 6 ∨ o = 7) → ∃ w1, fX4_valueOfPart_117 k 50 r2 x3 (nI st.length) x5 o w = k r2 x3 (nI (stp (envT w) o st).length) (x5 + 1) w1 ∧ Sk w1 (stp (envT w) o st) ∧ Ch (fun i _ => i = 51) w w1 := by
    intro h67
    unfold stp
    rw [if_pos ho, if_pos h67]
    unfold fX4_valueOfPart_117
    cases st with
    | nil =>
      rw [if_pos (by show nI 0 ≤ 0; decide)]
      exact ⟨w, rfl, hk, Ch.rf⟩
    | cons a r =>
      have hl2 : r.length + 1 ≤ 31 := hl
      rw [if_neg (by simp only [List.length_cons]; exact nI_nle (by omega) (by omega))]
      simp only [List.length_cons, nI_pred]
      have hv : gI w 51 r.length = a := by
        have := hk r.length (by simp)
        simpa using this
      by_cases h6 : o = 6
      · rw [if_pos h6, dg_50_8 hS, grd_t (by rw [ln_51]; exact vin_nI (by omega) (by omega)), nI_clamp (by omega), hv]
        refine ⟨sI w 51 r.length (op1 o a), ?_, sk_one hk, ch51⟩
        have e1 : op1 o a = if a = 0 then 1 else 0 := by unfold op1; rw [if_pos h6]
        by_cases ha : a = 0
        · rw [if_pos ha]
          unfold fX4_valueOfPart_154 fX4_valueOfPart_170
          rw [bit_ev, bnd_s, dk_51 hS.1, grd_t (by rw [ln_51]; exact vin_nI (by omega) (by omega)), nI_clamp (by omega), e1, if_pos ha, if_neg (by decide)]
          rfl
        · rw [if_neg ha]
          unfold fX4_valueOfPart_154 fX4_valueOfPart_170
          rw [bit_ev, bnd_s, dk_51 hS.1, grd_t (by rw [ln_51]; exact vin_nI (by omega) (by omega)), nI_clamp (by omega), e1, if_neg ha, if_pos rfl]
          rfl
      · rw [if_neg h6, dg_50_8 hS, grd_t (by rw [ln_51]; exact vin_nI (by omega) (by omega)), nI_clamp (by omega), hv]
        refine ⟨sI w 51 r.length (op1 o a), ?_, sk_one hk, ch51⟩
        have e1 : op1 o a = -a := by unfold op1; rw [if_neg h6]
        unfold fX4_valueOfPart_170
        rw [dk_51 hS.1, grd_t (by rw [ln_51]; exact vin_nI (by omega) (by omega)), nI_clamp (by omega), e1]
        rfl
  unfold fX4_valueOfPart_103
  by_cases h6 : o = 6
  · rw [if_pos h6]
    exact h117 (Or.inl h6)
  rw [if_neg h6]
  by_cases h7 : o = 7
  · rw [if_pos h7]
    exact h117 (Or.inr h7)
  rw [if_neg h7]
  have h67 : ¬ (o = 6 ∨ o = 7) := fun q => q.elim h6 h7
  unfold stp
  rw [if_pos ho, if_neg h67]
  by_cases h31 : st.length < 31
  · have h32 : ¬ (31 : Int32) ≤ nI st.length := nI_ge (a := st.length) (b := 31) h31 (by omega)
    rw [if_neg h32, if_pos h31, ofNone_ev, bnd_s, dg_50_8 hS, grd_t (by rw [ln_51]; exact vin_nI (by omega) (by omega)), nI_clamp (by omega)]
    refine ⟨sI w 51 st.length (op0 (envT w) o), ?_, sk_push hk, ch51⟩
    rw [lw_e]
    unfold fX4_valueOfPart_197
    rw [List.length_cons, nI_1]
  · have h32 : (31 : Int32) ≤ nI st.length := nI_le (a := 31) (b := st.length) (by omega) (by omega)
    rw [if_pos h32, if_neg h31]
    exact ⟨w, rfl, hk, Ch.rf⟩
theorem vp_loop {j : Nat} (hj : j < 6) : ∀ (code : List Int32) (a : Nat) (st : List Int32) (fu : Nat) (w : Wd), St w → a + code.length ≤ 160 → (∀ q, q < code.length → gI w (25 + 3 * j) (a + q) = code.getD q 0) → st.length ≤ 31 → Sk w st → code.length < fu → ∃ w', fX4_valueOfPart_35 50 fu (some (25 + 3 * j)) (nI (a + code.length)) (nI st.length) (nI a) w = some (gI w' 51 0, w') ∧ Sk w' (runC (envT w) code st) ∧ Ch (fun i _ => i = 51) w w' := by
  intro code
  induction code with
  | nil =>
    intro a st fu w hS ha hc hl hk hf
    obtain ⟨fu, rfl⟩ : ∃ z, fu = z + 1 := ⟨fu - 1, by simp only [List.length_nil] at hf; omega⟩
    have h1 : nI (a + ([] : List Int32).length) ≤ nI a := by rw [List.length_nil, Nat.add_zero]; exact Int32.le_refl _
    rw [fX4_valueOfPart_35]
    dsimp only
    rw [if_pos h1, dg_50_8 hS, grd_t (by rw [ln_51]; decide)]
    exact ⟨w, rfl, hk, Ch.rf⟩
  | cons o code ih =>
    intro a st fu w hS ha hc hl hk hf
    simp only [List.length_cons] at ha hf
    obtain ⟨fu, rfl⟩ : ∃ z, fu = z + 1 := ⟨fu - 1, by omega⟩
    have ho : gI w (25 + 3 * j) a = o := by
      have := hc 0 (by simp)
      simpa using this
    have ht := kd_txs hj
    -- what one step does
    have key : ∃ w1, fX4_valueOfPart_35 50 (fu + 1) (some (25 + 3 * j)) (nI (a + (o :: code).length)) (nI st.length) (nI a) w = fX4_valueOfPart_35 50 fu (some (25 + 3 * j)) (nI (a + (o :: code).length)) (nI (stp (envT w) o st).length) (nI a + 1) w1 ∧ Sk w1 (stp (envT w) o st) ∧ Ch (fun i _ => i = 51) w w1 := by
      have h1 : ¬ nI (a + (o :: code).length) ≤ nI a := nI_ge (by simp) (by simp only [List.length_cons]; omega)
      rw [fX4_valueOfPart_35]
      dsimp only
      rw [if_neg h1, dr_at hS.1 ht.1, grd_t (by rw [ht.2]; exact vin_nI (by omega) (by omega)), nI_clamp (by omega), ho]
      rw [lt_e]
      by_cases h8 : o < 8
      · rw [if_pos h8]
        exact vp_one hS hl hk (Or.inl h8)
      rw [if_neg h8]
      by_cases h16 : (16 : Int32) ≤ o
      · rw [if_pos h16]
        exact vp_one hS hl hk (Or.inr h16)
      rw [if_neg h16]
      have hno : ¬ (o < 8 ∨ 16 ≤ o) := fun q => q.elim h8 h16
      have hst : stp (envT w) o st = stp2 o st := by
        unfold stp
        rw [if_neg hno]
      match st, hl, hk, hst with
      | [], hl, hk, hst =>
        have h2 : nI ([] : List Int32).length ≤ (1 : Int32) := by decide
        rw [hst, if_pos h2]
        exact ⟨w, rfl, hk, Ch.rf⟩
      | [b], hl, hk, hst =>
        have h2 : nI ([b] : List Int32).length ≤ (1 : Int32) := by show nI 1 ≤ nI 1; decide
        rw [hst, if_pos h2]
        exact ⟨w, rfl, hk, Ch.rf⟩
      | b :: a2 :: r, hl, hk, hst =>
        have hl2 : r.length + 2 ≤ 31 := hl
        have hb : gI w 51 (r.length + 1) = b := by
          have := hk (r.length + 1) (by simp)
          simpa using this
        have ha2 : gI w 51 r.length = a2 := by
          have := hk r.length (by simp only [List.length_cons]; omega)
          rw [this]
          simp only [List.length_cons]
          rw [show r.length + 1 + 1 - 1 - r.length = 1 by omega]
          rfl
        have e1 : nI (b :: a2 :: r).length + (-1 : Int32) = nI (r.length + 1) := pk_m1 (r.length + 1)
        have h2 : ¬ nI (b :: a2 :: r).length ≤ (1 : Int32) := by show ¬ nI (r.length + 2) ≤ nI 1; exact nI_ge (by omega) (by omega)
        rw [if_neg h2, e1, nI_pred, dg_50_8 hS, grd_t (by rw [ln_51]; exact vin_nI (by omega) (by omega)), dg_50_8 hS, grd_t (by rw [ln_51]; exact vin_nI (by omega) (by omega))]
        have c1 : (nI r.length).toNatClampNeg = r.length := nI_clamp (by omega)
        have c2 : (nI (r.length + 1)).toNatClampNeg = r.length + 1 := nI_clamp (by omega)
        simp only [c1, c2]
        rw [ha2, hb, ofTwo_ev, bnd_s, grd_t (by rw [ln_51]; exact vin_nI (by omega) (by omega))]
        rw [hst]
        exact ⟨sI w 51 r.length (op2 o a2 b), rfl, sk_two hk, ch51⟩
    obtain ⟨w1, e1, hk1, hc1⟩ := key
    have hl1 : (stp (envT w) o st).length ≤ 31 := by
      unfold stp
      split
      · split
        · cases st with
          | nil => simp [stp1]
          | cons a r => simpa [stp1] using hl
        · split
          · simp only [List.length_cons]; omega
          · exact hl
      · match st, hl with
        | [], hl => simp [stp2]
        | [b], hl => simp [stp2]
        | b :: a2 :: r, hl => simp only [stp2, List.length_cons] at hl ⊢; omega
    have hS1 : St w1 := hc1.St hS
    obtain ⟨w2, e2, hk2, hc2⟩ := ih (a + 1) (stp (envT w) o st) fu w1 hS1 (by omega) (fun q hq => by
      rw [hc1.I (by show ¬ (25 + 3 * j = 51); omega), show a + 1 + q = a + (q + 1) by omega, hc (q + 1) (by simp only [List.length_cons]; omega), List.getD_cons_succ]) hl1 hk1 (by omega)
    rw [envT_ch hc1] at hk2
    refine ⟨w2, ?_, hk2, hc1.tr hc2⟩
    rw [e1, nI_1]
    rw [show a + (o :: code).length = a + 1 + code.length by simp only [List.length_cons]; omega]
    exact e2
