/-- text j holds the steps c0, c1, c2 of its three parts, one behind the other -/
def TxOk (w : Wd) (j : Nat) (c0 c1 c2 : List Int32) : Prop := c0.length + c1.length + c2.length ≤ 160 ∧ gI w (26 + 3 * j) 0 = nI c0.length ∧ gI w (26 + 3 * j) 1 = nI (c0.length + c1.length) ∧ gI w (26 + 3 * j) 2 = nI (c0.length + c1.length + c2.length) ∧ ∀ q, q < c0.length + c1.length + c2.length → gI w (25 + 3 * j) q = (c0 ++ (c1 ++ c2)).getD q 0
def cof (p : Nat) (c0 c1 c2 : List Int32) : List Int32 := if p = 0 then c0 else if p = 1 then c1 else c2
def sof (p : Nat) (c0 c1 : List Int32) : Nat := if p = 0 then 0 else if p = 1 then c0.length else c0.length + c1.length
theorem end_ev {w : Wd} (hS : St w) {j : Nat} (hj : j < 6) {c0 c1 c2 : List Int32} (hT : TxOk w j c0 c1 c2) {p : Nat} (hp : p < 3) : fX3_endOf (24 + 3 * j) (nI p) w = some (nI (sof p c0 c1 + (cof p c0 c1 c2).length), w) := by
  have ht := kd_txe hj
  unfold fX3_endOf
  rw [if_neg (nI_pos (by omega)), dg_txe hS hj, ht.2]
  have h3 : ¬ Int32.ofNat 3 ≤ nI p := nI_ge (a := p) (b := 3) hp (by omega)
  rw [if_neg h3, dg_txe hS hj, ht.2, grd_t (vin_nI hp (by omega)), nI_clamp (by omega)]
  obtain ⟨h0, h1, h2, h4, h5⟩ := hT
  match p, hp with
  | 0, _ => rw [h1]; simp [sof, cof]
  | 1, _ => rw [h2]; simp [sof, cof]
  | 2, _ => rw [h4]; simp [sof, cof]
theorem start_ev {w : Wd} (hS : St w) {j : Nat} (hj : j < 6) {c0 c1 c2 : List Int32} (hT : TxOk w j c0 c1 c2) {p : Nat} (hp : p < 3) : fX3_startOf (24 + 3 * j) (nI p) w = some (nI (sof p c0 c1), w) := by
  have ht := kd_txe hj
  unfold fX3_startOf
  cases p with
  | zero =>
    rw [if_pos (by decide)]
    rfl
  | succ p =>
    rw [if_neg (nI_nle (by omega) (by omega)), dg_txe hS hj, ht.2]
    have h3 : ¬ Int32.ofNat 3 < nI (p + 1) := nI_nlt (a := 3) (b := p + 1) (by omega) (by omega)
    rw [if_neg h3, dg_txe hS hj, ht.2, nI_pred, grd_t (vin_nI (by omega) (by omega)), nI_clamp (by omega)]
    obtain ⟨h0, h1, h2, h4, h5⟩ := hT
    match p, hp with
    | 0, _ => rw [h1]; simp [sof]
    | 1, _ => rw [h2]; simp [sof]
theorem vop_ev {w : Wd} (hS : St w) {j : Nat} (hj : j < 6) (hr : gR w 50 7 = some (24 + 3 * j)) {c0 c1 c2 : List Int32} (hT : TxOk w j c0 c1 c2) {p : Nat} (hp : p < 3) {v : Int32} (hv : runC (envT w) (cof p c0 c1 c2) [] = [v]) : ∃ w', fX4_valueOfPart 50 (nI p) w = some (v, w') ∧ Ch (fun i _ => i = 51) w w' := by
  have hT0 := hT
  obtain ⟨h0, h1, h2, h4, h5⟩ := hT0
  have hle : sof p c0 c1 + (cof p c0 c1 c2).length ≤ 160 := by
    match p, hp with
    | 0, _ => simp only [sof, cof, if_true]; omega
    | 1, _ => simp [sof, cof]; omega
    | 2, _ => simp [sof, cof]; omega
  have hq : ∀ q, q < (cof p c0 c1 c2).length → gI w (25 + 3 * j) (sof p c0 c1 + q) = (cof p c0 c1 c2).getD q 0 := by
    intro q hq
    match p, hp with
    | 0, _ =>
      simp only [sof, cof, if_true] at hq ⊢
      rw [Nat.zero_add, h5 q (by omega), List.getD_eq_getElem?_getD, List.getElem?_append_left hq, List.getD_eq_getElem?_getD]
    | 1, _ =>
      simp [sof, cof] at hq ⊢
      rw [h5 _ (by omega), List.getD_eq_getElem?_getD, List.getElem?_append_right (by omega), Nat.add_sub_cancel_left, List.getElem?_append_left hq]
    | 2, _ =>
      simp [sof, cof] at hq ⊢
      rw [h5 _ (by omega), List.getD_eq_getElem?_getD, List.getElem?_append_right (by omega), List.getElem?_append_right (by omega)]
      rw [show c0.length + c1.length + q - c0.length - c1.length = q by omega]
  have ht := kd_txs hj
  have hk := kd_tx hj
  unfold fX4_valueOfPart
  rw [hr, dr_at hS.1 hk, dr_at hS.1 hk, end_ev hS hj hT hp, bnd_s, dg_txs hS hj, lt_e, ht.2]
  have hmin : (if Int32.ofNat 160 < nI (sof p c0 c1 + (cof p c0 c1 c2).length) then Int32.ofNat 160 else nI (sof p c0 c1 + (cof p c0 c1 c2).length)) = nI (sof p c0 c1 + (cof p c0 c1 c2).length) := by
    by_cases h : Int32.ofNat 160 < nI (sof p c0 c1 + (cof p c0 c1 c2).length)
    · exact absurd h (nI_nlt (a := 160) (by omega) (by omega))
    · rw [if_neg h]
  rw [hmin, hr, dr_at hS.1 hk, start_ev hS hj hT hp, bnd_s]
  obtain ⟨w', e1, e2, e3⟩ := vp_loop hj (cof p c0 c1 c2) (sof p c0 c1) [] FU w hS hle hq (by simp) (fun q h => by simp at h) (by show _ < 2000; omega)
  rw [hv] at e2
  have e4 : gI w' 51 0 = v := by
    have := e2 0 (by simp)
    simpa using this
  refine ⟨w', ?_, e3⟩
  rw [e4] at e1
  exact e1
/-- text j says what ev says, for every names' worth; whether it tells of the day -/
def TEv (w : Wd) (j : Nat) (ev : Nat → (Nat → Int32) → Int32) : Prop := ∃ c0 c1 c2, TxOk w j c0 c1 c2 ∧ (∀ p, p < 3 → ∀ env, runC env (cof p c0 c1 c2) [] = [ev p env]) ∧ (gI w (24 + 3 * j) 3 = 0 ∨ gI w (24 + 3 * j) 3 = 1) ∧ (gI w (24 + 3 * j) 3 = 0 → ∀ o ∈ c0 ++ (c1 ++ c2), o ≠ 4)
theorem TEv.ch {P : Nat → Nat → Prop} {w w' : Wd} {j : Nat} {ev : Nat → (Nat → Int32) → Int32} (h : TEv w j ev) (hc : Ch P w w') (hP : ∀ i k, 24 ≤ i → i < 42 → ¬ P i k) (hj : j < 6) : TEv w' j ev := by
  obtain ⟨c0, c1, c2, h1, h2, h3, h4⟩ := h
  have e : ∀ i k, 24 ≤ i → i < 42 → gI w' i k = gI w i k := fun i k a b => hc.I (hP i k a b)
  refine ⟨c0, c1, c2, ⟨h1.1, ?_, ?_, ?_, fun q hq => ?_⟩, h2, ?_, ?_⟩
  · rw [e _ _ (by omega) (by omega)]; exact h1.2.1
  · rw [e _ _ (by omega) (by omega)]; exact h1.2.2.1
  · rw [e _ _ (by omega) (by omega)]; exact h1.2.2.2.1
  · rw [e _ _ (by omega) (by omega)]; exact h1.2.2.2.2 q hq
  · rw [e _ _ (by omega) (by omega)]; exact h3
  · rw [e _ _ (by omega) (by omega)]; exact h4
theorem vop_ev2 {w : Wd} (hS : St w) {j : Nat} (hj : j < 6) (hr : gR w 50 7 = some (24 + 3 * j)) {ev : Nat → (Nat → Int32) → Int32} (hT : TEv w j ev) {p : Nat} (hp : p < 3) : ∃ w', fX4_valueOfPart 50 (nI p) w = some (ev p (envT w), w') ∧ Ch (fun i _ => i = 51) w w' := by
  obtain ⟨c0, c1, c2, h1, h2, h3, h4⟩ := hT
  exact vop_ev hS hj hr h1 hp (h2 p hp _)
/-- steps that don't name the day don't hear of it -/
theorem stp_day {e1 e2 : Nat → Int32} (he : ∀ q, q ≠ 4 → e1 q = e2 q) {o : Int32} (ho : o ≠ 4) (st : List Int32) : stp e1 o st = stp e2 o st := by
  have : op0 e1 o = op0 e2 o := by
    unfold op0
    rw [he 0 (by omega), he 1 (by omega), he 2 (by omega), he 3 (by omega), he 5 (by omega), if_neg ho, if_neg ho]
  unfold stp
  rw [this]
theorem runC_day {e1 e2 : Nat → Int32} (he : ∀ q, q ≠ 4 → e1 q = e2 q) : ∀ (c : List Int32) (st : List Int32), (∀ o ∈ c, o ≠ 4) → runC e1 c st = runC e2 c st
  | [], _, _ => rfl
  | o :: c, st, h => by
    show runC e1 c (stp e1 o st) = runC e2 c (stp e2 o st)
    rw [stp_day he (h o List.mem_cons_self)]
    exact runC_day he c _ (fun q hq => h q (List.mem_cons_of_mem _ hq))
theorem TEv.day {w : Wd} {j : Nat} {ev : Nat → (Nat → Int32) → Int32} (h : TEv w j ev) (h0 : gI w (24 + 3 * j) 3 = 0) {e1 e2 : Nat → Int32} (he : ∀ q, q ≠ 4 → e1 q = e2 q) {p : Nat} (hp : p < 3) : ev p e1 = ev p e2 := by
  obtain ⟨c0, c1, c2, h1, h2, h3, h4⟩ := h
  have h5 := h4 h0
  have hc : ∀ o ∈ cof p c0 c1 c2, o ≠ 4 := by
    intro o ho
    refine h5 o ?_
    unfold cof at ho
    by_cases hp0 : p = 0
    · rw [if_pos hp0] at ho; exact List.mem_append_left _ ho
    · rw [if_neg hp0] at ho
      by_cases hp1 : p = 1
      · rw [if_pos hp1] at ho; exact List.mem_append_right _ (List.mem_append_left _ ho)
      · rw [if_neg hp1] at ho; exact List.mem_append_right _ (List.mem_append_right _ ho)
  have h6 := h2 p hp e1
  rw [runC_day he _ _ hc, h2 p hp e2] at h6
  exact (List.cons.inj h6).1.symm
