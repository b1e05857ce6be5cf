theorem cat_le4 : ∀ (st : List Value), st.length ≤ 4 → (st.map fun v => v.category).sum ≤ 8 := by
  have h2 : ∀ v : Value, v.category ≤ 2 := fun v => by cases v <;> exact Nat.le_of_ble_eq_true rfl
  have h3 : ∀ st : List Value, (st.map fun v => v.category).sum ≤ 2 * st.length := by
    intro st
    induction st with
    | nil => exact Nat.le_refl _
    | cons v st ih =>
      have := h2 v
      simp only [List.map_cons, List.sum_cons, List.length_cons]
      omega
  intro st h
  have := h3 st
  omega
abbrev FU : Nat := 2000
abbrev RF : Nat := 60
theorem bz_nar {x : Int32} (h : x = 0 ∨ x = 1) : vp_nar .boolean x = x := by rcases h with rfl | rfl <;> decide
theorem bz_ok {x : Int32} (h : x = 0 ∨ x = 1) : narrow .boolean (.int x) = .int x ∧ fits .boolean (.int x) = true := by rcases h with rfl | rfl <;> exact ⟨rfl, rfl⟩
theorem fdX2_9 : FdOk RX2 9 2 0 (.array .int) true := ⟨RX2, TX2, 3, tyX2, rfl, inX2, by decide, rfl, by decide, rfl, wfl_X2_9, tyX2_ok, nmX2, rfl, rfl⟩
theorem fdX2_15 : FdOk RX2 15 2 1 .int false := ⟨RX2, TX2, 3, tyX2, rfl, inX2, by decide, rfl, by decide, rfl, wfl_X2_15, tyX2_ok, nmX2, rfl, rfl⟩
theorem fdX2_19 : FdOk RX2 19 2 2 .int false := ⟨RX2, TX2, 3, tyX2, rfl, inX2, by decide, rfl, by decide, rfl, wfl_X2_19, tyX2_ok, nmX2, rfl, rfl⟩
theorem fdX3_9 : FdOk RX3 9 3 0 (.array .int) true := ⟨RX3, TX3, 4, tyX3, rfl, inX3, by decide, rfl, by decide, rfl, wfl_X3_9, tyX3_ok, nmX3, rfl, rfl⟩
theorem fdX3_15 : FdOk RX3 15 3 1 (.array .int) true := ⟨RX3, TX3, 4, tyX3, rfl, inX3, by decide, rfl, by decide, rfl, wfl_X3_15, tyX3_ok, nmX3, rfl, rfl⟩
theorem fdX3_18 : FdOk RX3 18 3 2 .int false := ⟨RX3, TX3, 4, tyX3, rfl, inX3, by decide, rfl, by decide, rfl, wfl_X3_18, tyX3_ok, nmX3, rfl, rfl⟩
theorem fdX3_22 : FdOk RX3 22 3 3 .boolean false := ⟨RX3, TX3, 4, tyX3, rfl, inX3, by decide, rfl, by decide, rfl, wfl_X3_22, tyX3_ok, nmX3, rfl, rfl⟩
theorem fdX5_7 : FdOk RX5 7 5 0 .int false := ⟨RX5, TX5, 6, tyX5, rfl, inX5, by decide, rfl, by decide, rfl, wfl_X5_7, tyX5_ok, nmX5, rfl, rfl⟩
theorem fdX5_13 : FdOk RX5 13 5 1 .int false := ⟨RX5, TX5, 6, tyX5, rfl, inX5, by decide, rfl, by decide, rfl, wfl_X5_13, tyX5_ok, nmX5, rfl, rfl⟩
theorem fdX5_16 : FdOk RX5 16 5 2 .int false := ⟨RX5, TX5, 6, tyX5, rfl, inX5, by decide, rfl, by decide, rfl, wfl_X5_16, tyX5_ok, nmX5, rfl, rfl⟩
theorem fdX5_19 : FdOk RX5 19 5 3 .int false := ⟨RX5, TX5, 6, tyX5, rfl, inX5, by decide, rfl, by decide, rfl, wfl_X5_19, tyX5_ok, nmX5, rfl, rfl⟩
theorem fdX5_22 : FdOk RX5 22 5 4 .int false := ⟨RX5, TX5, 6, tyX5, rfl, inX5, by decide, rfl, by decide, rfl, wfl_X5_22, tyX5_ok, nmX5, rfl, rfl⟩
theorem fdX5_25 : FdOk RX5 25 5 5 .int false := ⟨RX5, TX5, 6, tyX5, rfl, inX5, by decide, rfl, by decide, rfl, wfl_X5_25, tyX5_ok, nmX5, rfl, rfl⟩
theorem csX6_114 : CsOk RX6 114 yX6_within cX6_within 3 (some .boolean) 3 := ⟨⟨⟨by decide, by decide, rfl⟩, by decide, wco_X6_within, win_X6⟩, wml_X6_114, wst_X6_within⟩
theorem csX2_26 : CsOk RX2 26 yJ7_fill_53178 cJ7_fill_53178 4 none 2 := ⟨⟨⟨by decide, by decide, rfl⟩, by decide, wco_J7_fill_53178, win_J7⟩, wml_X2_26, wst_J7_fill_53178⟩
theorem cnX2_22 : CnOk RX2 22 yX6_bounded cX6_bounded 2 (some .int) 2 := ⟨⟨⟨by decide, by decide, rfl⟩, by decide, wco_X6_bounded, win_X6⟩, List.mem_of_getElem? (i := 8) rfl, wst_X6_bounded⟩
def fX3_append_50 (t : Nat) (y0 : Int32) (w : Wd) : Option (Unit × Wd) :=
  grd (y0 = 0 ∨ y0 = 1) (lw (sI w t 3 y0) (fun w_5 => some ((), w_5)))
set_option maxHeartbeats 4000000 in
theorem kX3_append_50 {X : Cx} (h : Ok X cX3_append RX3 2 0 0) (hr : RetV X 0 0) (hnL : nLX X = 2) {t : Nat} (ht : InN X t 3) : ∀ (y0 : Int32) (w : Wd), OkR X (fun _ : Unit => Value.null) (fX3_append_50 t y0 w) → G X 0 0 50 [] [.int y0, rv X.1 (some t)] w := by
  have hj : ∀ j, j < 2 → j < nLX X := fun j q => by rw [hnL]; exact q
  intro y0 w hF
  unfold fX3_append_50 at hF
  obtain ⟨g_2, hF⟩ := grd_ok hF
  refine g_putI (pc := 50) h fdX3_22 (inw ht) (by decide) (bz_ok g_2) dX3_append_50 ?_
  refine g_w hF (fun w_5 hF => ?_)
  exact g_vret (pc := 53) h hr ⟨Nat.le_refl _, Nat.le_refl _⟩ hF dX3_append_53
def fX3_append_45 (t : Nat) (w : Wd) : Option (Unit × Wd) :=
  fX3_append_50 t (1 : Int32) w
set_option maxHeartbeats 4000000 in
theorem kX3_append_45 {X : Cx} (h : Ok X cX3_append RX3 2 0 0) (hr : RetV X 0 0) (hnL : nLX X = 2) {t : Nat} (ht : InN X t 3) : ∀ (w : Wd), OkR X (fun _ : Unit => Value.null) (fX3_append_45 t  w) → G X 0 0 45 [] [rv X.1 (some t)] w := by
  have hj : ∀ j, j < 2 → j < nLX X := fun j q => by rw [hnL]; exact q
  intro w hF
  unfold fX3_append_45 at hF
  refine g_iconst (pc := 45) (v := (1 : Int32)) h dX3_append_45 (by decide) ?_
  refine g_goto (pc := 46) (tgt := 50) h dX3_append_46 (by decide) ?_
  exact kX3_append_50 h hr hnL ht _ _ hF
def fX3_append (t : Nat) (x1 : Int32) (w : Wd) : Option (Unit × Wd) :=
  dr (gR w t 0) 8 w (fun a_1 => if (Int32.ofNat (ln a_1)) ≤ (gI w t 2) then
    (some ((), w))
  else
    (dr (gR w t 0) 8 w (fun a_2 => grd (vin (gI w t 2) (ln a_2)) (lw (sI w a_2 (gI w t 2).toNatClampNeg x1) (fun w_3 => lw (sI w_3 t 2 ((gI w_3 t 2) + (1 : Int32))) (fun w_4 => if (gI w_4 t 3) = 0 then
      (if x1 = (4 : Int32) then
        (fX3_append_45 t w_4)
      else
        (fX3_append_50 t (0 : Int32) w_4))
    else
      (fX3_append_45 t w_4)))))))
set_option maxHeartbeats 4000000 in
theorem mX3_append {Γ : En} {t : Nat} {x1 : Int32} {w : Wd} (ht : t < wn w ∧ kd t = 3) : MtV Γ yX3_append cX3_append 2 none 2 0 0 [rv Γ (some t), .int x1] w (fX3_append t x1 w) := by
  refine mtV [.inr (.inl (some t)), .inl x1] rfl (Nat.le_of_ble_eq_true rfl) (fun X hΓ hnL hn0 h _ hr hF => ?_)
  subst hΓ
  have ht : InN X t 3 := ⟨by rw [hn0]; exact ht.1, ht.2⟩
  have h : Ok X cX3_append RX3 2 0 0 := h
  have hj : ∀ j, j < 2 → j < nLX X := fun j q => by rw [hnL]; exact q
  show G X 0 0 0 [(0, .inr (.inl (some t))), (1, .inl x1)] [] w
  unfold fX3_append at hF
  refine g_aload_n (pc := 0) h 0 rfl dX3_append_0 ?_
  refine g_getI (pc := 1) h fdX3_18 (inw ht) (by decide) dX3_append_1 ?_
  refine g_aload_n (pc := 4) h 0 rfl dX3_append_4 ?_
  refine g_getR (pc := 5) h fdX3_9 (inw ht) rfl dX3_append_5 ?_
  refine g_dr hF (fun a_1 e_a_1 h_a_1 hF => ?_)
  rw [e_a_1]
  refine g_alen (pc := 8) h h_a_1 rfl dX3_append_8 ?_
  refine g_icmp_ge (pc := 9) (tgt := 53) h dX3_append_9 (by decide) hF (fun hF => ?_) (fun hF => ?_)
  · exact g_vret (pc := 53) h hr ⟨Nat.le_refl _, Nat.le_refl _⟩ hF dX3_append_53
  · refine g_aload_n (pc := 12) h 0 rfl dX3_append_12 ?_
    refine g_getR (pc := 13) h fdX3_9 (inw ht) rfl dX3_append_13 ?_
    refine g_aload_n (pc := 16) h 0 rfl dX3_append_16 ?_
    refine g_getI (pc := 17) h fdX3_18 (inw ht) (by decide) dX3_append_17 ?_
    refine g_iload_n (pc := 20) h 1 rfl dX3_append_20 ?_
    refine g_dr hF (fun a_2 e_a_2 h_a_2 hF => ?_)
    rw [e_a_2]
    obtain ⟨g_1, hF⟩ := grd_ok hF
    refine g_iast (pc := 21) h h_a_2 g_1 dX3_append_21 ?_
    refine g_w hF (fun w_3 hF => ?_)
    refine g_aload_n (pc := 22) h 0 rfl dX3_append_22 ?_
    refine g_dup (pc := 23) h dX3_append_23 rv_cat ?_
    refine g_getI (pc := 24) h fdX3_18 (inw ht) (by decide) dX3_append_24 ?_
    refine g_iconst (pc := 27) (v := (1 : Int32)) h dX3_append_27 (by decide) ?_
    refine g_iadd (pc := 28) h dX3_append_28 ?_
    refine g_putI (pc := 29) h fdX3_18 (inw ht) (by decide) ⟨rfl, rfl⟩ dX3_append_29 ?_
    refine g_w hF (fun w_4 hF => ?_)
    refine g_aload_n (pc := 32) h 0 rfl dX3_append_32 ?_
    refine g_aload_n (pc := 33) h 0 rfl dX3_append_33 ?_
    refine g_getI (pc := 34) h fdX3_22 (inw ht) (by decide) dX3_append_34 ?_
    refine g_if_ne (pc := 37) (tgt := 45) h dX3_append_37 (by decide) hF (fun hF => ?_) (fun hF => ?_)
    · refine g_lv (lv' := []) [] rfl ?_
      exact kX3_append_45 h hr hnL ht _ hF
    · refine g_iload_n (pc := 40) h 1 rfl dX3_append_40 ?_
      refine g_iconst (pc := 41) (v := (4 : Int32)) h dX3_append_41 (by decide) ?_
      refine g_icmp_ne (pc := 42) (tgt := 49) h dX3_append_42 (by decide) hF (fun hF => ?_) (fun hF => ?_)
      · refine g_iconst (pc := 49) (v := (0 : Int32)) h dX3_append_49 (by decide) ?_
        refine g_lv (lv' := []) [] rfl ?_
        exact kX3_append_50 h hr hnL ht _ _ hF
      · refine g_lv (lv' := []) [] rfl ?_
        exact kX3_append_45 h hr hnL ht _ hF
def fX3_clear (t : Nat) (w : Wd) : Option (Unit × Wd) :=
  lw (sI w t 2 (0 : Int32)) (fun w_1 => lw (sI w_1 t 3 (0 : Int32)) (fun w_2 => some ((), w_2)))
set_option maxHeartbeats 4000000 in
theorem mX3_clear {Γ : En} {t : Nat} {w : Wd} (ht : t < wn w ∧ kd t = 3) : MtV Γ yX3_clear cX3_clear 1 none 2 0 0 [rv Γ (some t)] w (fX3_clear t w) := by
  refine mtV [.inr (.inl (some t))] rfl (Nat.le_of_ble_eq_true rfl) (fun X hΓ hnL hn0 h _ hr hF => ?_)
  subst hΓ
  have ht : InN X t 3 := ⟨by rw [hn0]; exact ht.1, ht.2⟩
  have h : Ok X cX3_clear RX3 2 0 0 := h
  have hj : ∀ j, j < 1 → j < nLX X := fun j q => by rw [hnL]; exact q
  show G X 0 0 0 [(0, .inr (.inl (some t)))] [] w
  unfold fX3_clear at hF
  refine g_aload_n (pc := 0) h 0 rfl dX3_clear_0 ?_
  refine g_iconst (pc := 1) (v := (0 : Int32)) h dX3_clear_1 (by decide) ?_
  refine g_putI (pc := 2) h fdX3_18 (inw ht) (by decide) ⟨rfl, rfl⟩ dX3_clear_2 ?_
  refine g_w hF (fun w_1 hF => ?_)
  refine g_aload_n (pc := 5) h 0 rfl dX3_clear_5 ?_
  refine g_iconst (pc := 6) (v := (0 : Int32)) h dX3_clear_6 (by decide) ?_
  refine g_putI (pc := 7) h fdX3_22 (inw ht) (by decide) ⟨by decide, by decide⟩ dX3_clear_7 ?_
  refine g_w hF (fun w_2 hF => ?_)
  exact g_vret (pc := 10) h hr ⟨Nat.le_refl _, Nat.le_refl _⟩ hF dX3_clear_10
def fX3_endPart (t : Nat) (x1 : Int32) (w : Wd) : Option (Unit × Wd) :=
  if x1 < 0 then
    (some ((), w))
  else
    (dr (gR w t 1) 8 w (fun a_1 => if (Int32.ofNat (ln a_1)) ≤ x1 then
      (some ((), w))
    else
      (dr (gR w t 1) 8 w (fun a_2 => grd (vin x1 (ln a_2)) (lw (sI w a_2 x1.toNatClampNeg (gI w t 2)) (fun w_3 => some ((), w_3)))))))
set_option maxHeartbeats 4000000 in
theorem mX3_endPart {Γ : En} {t : Nat} {x1 : Int32} {w : Wd} (ht : t < wn w ∧ kd t = 3) : MtV Γ yX3_endPart cX3_endPart 2 none 2 0 0 [rv Γ (some t), .int x1] w (fX3_endPart t x1 w) := by
  refine mtV [.inr (.inl (some t)), .inl x1] rfl (Nat.le_of_ble_eq_true rfl) (fun X hΓ hnL hn0 h _ hr hF => ?_)
  subst hΓ
  have ht : InN X t 3 := ⟨by rw [hn0]; exact ht.1, ht.2⟩
  have h : Ok X cX3_endPart RX3 2 0 0 := h
  have hj : ∀ j, j < 2 → j < nLX X := fun j q => by rw [hnL]; exact q
  show G X 0 0 0 [(0, .inr (.inl (some t))), (1, .inl x1)] [] w
  unfold fX3_endPart at hF
  refine g_iload_n (pc := 0) h 1 rfl dX3_endPart_0 ?_
  refine g_if_lt (pc := 1) (tgt := 23) h dX3_endPart_1 (by decide) hF (fun hF => ?_) (fun hF => ?_)
  · exact g_vret (pc := 23) h hr ⟨Nat.le_refl _, Nat.le_refl _⟩ hF dX3_endPart_23
  · refine g_iload_n (pc := 4) h 1 rfl dX3_endPart_4 ?_
    refine g_aload_n (pc := 5) h 0 rfl dX3_endPart_5 ?_
    refine g_getR (pc := 6) h fdX3_15 (inw ht) rfl dX3_endPart_6 ?_
    refine g_dr hF (fun a_1 e_a_1 h_a_1 hF => ?_)
    rw [e_a_1]
    refine g_alen (pc := 9) h h_a_1 rfl dX3_endPart_9 ?_
    refine g_icmp_ge (pc := 10) (tgt := 23) h dX3_endPart_10 (by decide) hF (fun hF => ?_) (fun hF => ?_)
    · exact g_vret (pc := 23) h hr ⟨Nat.le_refl _, Nat.le_refl _⟩ hF dX3_endPart_23
    · refine g_aload_n (pc := 13) h 0 rfl dX3_endPart_13 ?_
      refine g_getR (pc := 14) h fdX3_15 (inw ht) rfl dX3_endPart_14 ?_
      refine g_iload_n (pc := 17) h 1 rfl dX3_endPart_17 ?_
      refine g_aload_n (pc := 18) h 0 rfl dX3_endPart_18 ?_
      refine g_getI (pc := 19) h fdX3_18 (inw ht) (by decide) dX3_endPart_19 ?_
      refine g_dr hF (fun a_2 e_a_2 h_a_2 hF => ?_)
      rw [e_a_2]
      obtain ⟨g_1, hF⟩ := grd_ok hF
      refine g_iast (pc := 22) h h_a_2 g_1 dX3_endPart_22 ?_
      refine g_w hF (fun w_3 hF => ?_)
      exact g_vret (pc := 23) h hr ⟨Nat.le_refl _, Nat.le_refl _⟩ hF dX3_endPart_23
def fX2_isMissing (t : Nat) (w : Wd) : Option (Int32 × Wd) :=
  if (gI w t 1) = (-1 : Int32) then
    (some ((1 : Int32), w))
  else
    (some ((0 : Int32), w))
set_option maxHeartbeats 4000000 in
theorem mX2_isMissing {Γ : En} {t : Nat} {w : Wd} (ht : t < wn w ∧ kd t = 2) : MtI Γ yX2_isMissing cX2_isMissing 1 (some .boolean) 2 0 0 [rv Γ (some t)] w (fX2_isMissing t w) := by
  refine mtI [.inr (.inl (some t))] rfl (Nat.le_of_ble_eq_true rfl) (fun X hΓ hnL hn0 h _ hr hF => ?_)
  subst hΓ
  have ht : InN X t 2 := ⟨by rw [hn0]; exact ht.1, ht.2⟩
  have h : Ok X cX2_isMissing RX2 2 0 0 := h
  have hj : ∀ j, j < 1 → j < nLX X := fun j q => by rw [hnL]; exact q
  show G X 0 0 0 [(0, .inr (.inl (some t)))] [] w
  unfold fX2_isMissing at hF
  refine g_aload_n (pc := 0) h 0 rfl dX2_isMissing_0 ?_
  refine g_getI (pc := 1) h fdX2_15 (inw ht) (by decide) dX2_isMissing_1 ?_
  refine g_iconst (pc := 4) (v := (-1 : Int32)) h dX2_isMissing_4 (by decide) ?_
  refine g_icmp_ne (pc := 5) (tgt := 12) h dX2_isMissing_5 (by decide) hF (fun hF => ?_) (fun hF => ?_)
  · refine g_iconst (pc := 12) (v := (0 : Int32)) h dX2_isMissing_12 (by decide) ?_
    exact g_zret (pc := 13) h hr ⟨Nat.le_refl _, Nat.le_refl _⟩ (by decide) hF dX2_isMissing_13
  · refine g_iconst (pc := 8) (v := (1 : Int32)) h dX2_isMissing_8 (by decide) ?_
    refine g_goto (pc := 9) (tgt := 13) h dX2_isMissing_9 (by decide) ?_
    exact g_zret (pc := 13) h hr ⟨Nat.le_refl _, Nat.le_refl _⟩ (by decide) hF dX2_isMissing_13
def fJ7_fill_53178_5 : Nat → Option Nat → Int32 → Int32 → Int32 → Wd → Option (Unit × Wd)
  | 0 => fun _ _ _ _ _ => none
  | n + 1 => fun r0 x1 x2 x3 w =>
    if x3 ≤ x2 then
      (some ((), w))
    else
      (dr r0 8 w (fun a_3 => grd (vin x2 (ln a_3)) (lw (sI w a_3 x2.toNatClampNeg x1) (fun w_4 => fJ7_fill_53178_5 n (some a_3) x1 (x2 + (1 : Int32)) x3 w_4))))
set_option maxHeartbeats 4000000 in
theorem kJ7_fill_53178_5 {X : Cx} (h : Ok X cJ7_fill_53178 RJ7 2 0 0) (hr : RetV X 0 0) (hnL : nLX X = 4) : ∀ (fu : Nat) (r0 : Option Nat) (x1 : Int32) (x2 : Int32) (x3 : Int32) (w : Wd), OkR X (fun _ : Unit => Value.null) (fJ7_fill_53178_5 fu r0 x1 x2 x3 w) → G X 0 0 5 [(0, .inr (.inl r0)), (1, .inl x1), (2, .inl x2), (3, .inl x3)] [] w := by
  have hj : ∀ j, j < 4 → j < nLX X := fun j q => by rw [hnL]; exact q
  intro fu
  induction fu with
  | zero => intro r0 x1 x2 x3 w hF; exact okN hF
  | succ fu ih =>
    intro r0 x1 x2 x3 w hF
    rw [fJ7_fill_53178_5] at hF
    refine g_iload_n (pc := 5) h 2 rfl dJ7_fill_53178_5 ?_
    refine g_iload_n (pc := 6) h 3 rfl dJ7_fill_53178_6 ?_
    refine g_icmp_ge (pc := 7) (tgt := 20) h dJ7_fill_53178_7 (by decide) hF (fun hF => ?_) (fun hF => ?_)
    · exact g_vret (pc := 20) h hr ⟨Nat.le_refl _, Nat.le_refl _⟩ hF dJ7_fill_53178_20
    · refine g_aload_n (pc := 10) h 0 rfl dJ7_fill_53178_10 ?_
      refine g_iload_n (pc := 11) h 2 rfl dJ7_fill_53178_11 ?_
      refine g_iload_n (pc := 12) h 1 rfl dJ7_fill_53178_12 ?_
      refine g_dr hF (fun a_3 e_a_3 h_a_3 hF => ?_)
      rw [e_a_3]
      obtain ⟨g_1, hF⟩ := grd_ok hF
      refine g_iast (pc := 13) h h_a_3 g_1 dJ7_fill_53178_13 ?_
      refine g_w hF (fun w_4 hF => ?_)
      refine g_iinc (pc := 14) (lv' := [(2, .inl (x2 + (1 : Int32))), (0, .inr (.inl (some a_3))), (1, .inl x1), (3, .inl x3)]) h 2 rfl dJ7_fill_53178_14 (dv := (1 : Int32)) (by decide) (hj 2 (by decide)) rfl ?_
      refine g_goto (pc := 17) (tgt := 5) h dJ7_fill_53178_17 (by decide) ?_
      refine g_lv (lv' := [(0, .inr (.inl (some a_3))), (1, .inl x1), (2, .inl (x2 + (1 : Int32))), (3, .inl x3)]) [1, 2, 0, 3] rfl ?_
      exact ih _ _ _ _ _ hF
def fJ7_fill_53178 (r0 : Option Nat) (x1 : Int32) (w : Wd) : Option (Unit × Wd) :=
  dr r0 8 w (fun a_1 => lt (Int32.ofNat (ln a_1)) (fun x3_2 => fJ7_fill_53178_5 FU (some a_1) x1 (0 : Int32) x3_2 w))
set_option maxHeartbeats 4000000 in
theorem mJ7_fill_53178 {Γ : En} {r0 : Option Nat} {x1 : Int32} {w : Wd} : MtV Γ yJ7_fill_53178 cJ7_fill_53178 4 none 2 0 0 [rv Γ r0, .int x1] w (fJ7_fill_53178 r0 x1 w) := by
  refine mtV [.inr (.inl r0), .inl x1] rfl (Nat.le_of_ble_eq_true rfl) (fun X hΓ hnL hn0 h _ hr hF => ?_)
  subst hΓ
  have h : Ok X cJ7_fill_53178 RJ7 2 0 0 := h
  have hj : ∀ j, j < 4 → j < nLX X := fun j q => by rw [hnL]; exact q
  show G X 0 0 0 [(0, .inr (.inl r0)), (1, .inl x1)] [] w
  unfold fJ7_fill_53178 at hF
  refine g_iconst (pc := 0) (v := (0 : Int32)) h dJ7_fill_53178_0 (by decide) ?_
  refine g_istore_n (pc := 1) (lv' := [(2, .inl (0 : Int32)), (0, .inr (.inl r0)), (1, .inl x1)]) h dJ7_fill_53178_1 (hj 2 (by decide)) rfl ?_
  refine g_aload_n (pc := 2) h 1 rfl dJ7_fill_53178_2 ?_
  refine g_dr hF (fun a_1 e_a_1 h_a_1 hF => ?_)
  rw [e_a_1]
  refine g_alen (pc := 3) h h_a_1 rfl dJ7_fill_53178_3 ?_
  refine g_t hF (fun x3_2 hF => ?_)
  refine g_istore_n (pc := 4) (lv' := [(3, .inl x3_2), (2, .inl (0 : Int32)), (0, .inr (.inl (some a_1))), (1, .inl x1)]) h dJ7_fill_53178_4 (hj 3 (by decide)) rfl ?_
  refine g_lv (lv' := [(0, .inr (.inl (some a_1))), (1, .inl x1), (2, .inl (0 : Int32)), (3, .inl x3_2)]) [2, 3, 1, 0] rfl ?_
  exact kJ7_fill_53178_5 h hr hnL _ _ _ _ _ _ hF
def fX6_bounded (x0 : Int32) (x1 : Int32) (w : Wd) : Option (Int32 × Wd) :=
  some (if (0 : Int32) < (if x0 < x1 then x0 else x1) then (if x0 < x1 then x0 else x1) else (0 : Int32), w)
set_option maxHeartbeats 4000000 in
theorem mX6_bounded {Γ : En} {x0 : Int32} {x1 : Int32} {w : Wd} : MtI Γ yX6_bounded cX6_bounded 2 (some .int) 6 0 0 [.int x0, .int x1] w (fX6_bounded x0 x1 w) := by
  refine mtI [.inl x0, .inl x1] rfl (Nat.le_of_ble_eq_true rfl) (fun X hΓ hnL hn0 h _ hr hF => ?_)
  subst hΓ
  have h : Ok X cX6_bounded RX6 6 0 0 := h
  have hj : ∀ j, j < 2 → j < nLX X := fun j q => by rw [hnL]; exact q
  show G X 0 0 0 [(0, .inl x0), (1, .inl x1)] [] w
  unfold fX6_bounded at hF
  refine g_iconst (pc := 0) (v := (0 : Int32)) h dX6_bounded_0 (by decide) ?_
  refine g_iload_n (pc := 1) h 1 rfl dX6_bounded_1 ?_
  refine g_iload_n (pc := 2) h 0 rfl dX6_bounded_2 ?_
  refine g_mmin (pc := 3) h wml_X6_321 (by decide) (Nat.le_of_ble_eq_true rfl) ⟨by decide, by decide⟩ dX6_bounded_3 ?_
  refine g_mmax (pc := 6) h wml_X6_326 (by decide) (Nat.le_of_ble_eq_true rfl) ⟨by decide, by decide⟩ dX6_bounded_6 ?_
  exact g_iret (pc := 9) h hr ⟨Nat.le_refl _, Nat.le_refl _⟩ hF dX6_bounded_9
def fX2_becomeRow (t : Nat) (x1 : Int32) (x2 : Int32) (w : Wd) : Option (Unit × Wd) :=
  lw (sI w t 1 x1) (fun w_1 => bnd (fX6_bounded x2 (40 : Int32) w_1) (fun x_2 w_3 => lw (sI w_3 t 2 x_2) (fun w_4 => bnd (fJ7_fill_53178 (gR w_4 t 0) (0 : Int32) w_4) (fun u_5 w_6 => some ((), w_6)))))
set_option maxHeartbeats 4000000 in
theorem mX2_becomeRow {Γ : En} {t : Nat} {x1 : Int32} {x2 : Int32} {w : Wd} (ht : t < wn w ∧ kd t = 2) : MtV Γ yX2_becomeRow cX2_becomeRow 3 none 7 0 0 [rv Γ (some t), .int x1, .int x2] w (fX2_becomeRow t x1 x2 w) := by
  refine mtV [.inr (.inl (some t)), .inl x1, .inl x2] rfl (Nat.le_of_ble_eq_true rfl) (fun X hΓ hnL hn0 h _ hr hF => ?_)
  subst hΓ
  have ht : InN X t 2 := ⟨by rw [hn0]; exact ht.1, ht.2⟩
  have h : Ok X cX2_becomeRow RX2 7 0 0 := h
  have hj : ∀ j, j < 3 → j < nLX X := fun j q => by rw [hnL]; exact q
  show G X 0 0 0 [(0, .inr (.inl (some t))), (1, .inl x1), (2, .inl x2)] [] w
  unfold fX2_becomeRow at hF
  refine g_aload_n (pc := 0) h 0 rfl dX2_becomeRow_0 ?_
  refine g_iload_n (pc := 1) h 1 rfl dX2_becomeRow_1 ?_
  refine g_putI (pc := 2) h fdX2_15 (inw ht) (by decide) ⟨rfl, rfl⟩ dX2_becomeRow_2 ?_
  refine g_w hF (fun w_1 hF => ?_)
  refine g_aload_n (pc := 5) h 0 rfl dX2_becomeRow_5 ?_
  refine g_iload_n (pc := 6) h 2 rfl dX2_becomeRow_6 ?_
  refine g_bipush (pc := 7) (v := (40 : Int32)) h dX2_becomeRow_7 (by decide) ?_
  refine g_cnI (pc := 9) (st := [rv X.1 (some t)]) h mX6_bounded cnX2_22 (by decide) ⟨by decide, by decide⟩ (Nat.le_of_ble_eq_true rfl) rfl rfl dX2_becomeRow_9 hF (fun x_2 w_3 hF => ?_)
  refine g_putI (pc := 12) h fdX2_19 (inw ht) (by decide) ⟨rfl, rfl⟩ dX2_becomeRow_12 ?_
  refine g_w hF (fun w_4 hF => ?_)
  refine g_aload_n (pc := 15) h 0 rfl dX2_becomeRow_15 ?_
  refine g_getR (pc := 16) h fdX2_9 (inw ht) rfl dX2_becomeRow_16 ?_
  refine g_iconst (pc := 19) (v := (0 : Int32)) h dX2_becomeRow_19 (by decide) ?_
  refine g_csV (pc := 20) (st := []) h mJ7_fill_53178 csX2_26 (by decide) ⟨by decide, by decide⟩ (Nat.le_of_ble_eq_true rfl) rfl rfl dX2_becomeRow_20 hF (fun u_5 w_6 hF => ?_)
  exact g_vret (pc := 23) h hr ⟨Nat.le_refl _, Nat.le_refl _⟩ hF dX2_becomeRow_23
def fX2_holds (t : Nat) (x1 : Int32) (x2 : Int32) (w : Wd) : Option (Int32 × Wd) :=
  if x1 < 0 then
    (some ((0 : Int32), w))
  else
    (if x2 < 0 then
      (some ((0 : Int32), w))
    else
      (if (gI w t 2) < x2 then
        (some ((0 : Int32), w))
      else
        (if ((gI w t 2) - x2) < x1 then
          (some ((0 : Int32), w))
        else
          (some ((1 : Int32), w)))))
set_option maxHeartbeats 4000000 in
theorem mX2_holds {Γ : En} {t : Nat} {x1 : Int32} {x2 : Int32} {w : Wd} (ht : t < wn w ∧ kd t = 2) : MtI Γ yX2_holds cX2_holds 3 (some .boolean) 2 0 0 [rv Γ (some t), .int x1, .int x2] w (fX2_holds t x1 x2 w) := by
  refine mtI [.inr (.inl (some t)), .inl x1, .inl x2] rfl (Nat.le_of_ble_eq_true rfl) (fun X hΓ hnL hn0 h _ hr hF => ?_)
  subst hΓ
  have ht : InN X t 2 := ⟨by rw [hn0]; exact ht.1, ht.2⟩
  have h : Ok X cX2_holds RX2 2 0 0 := h
  have hj : ∀ j, j < 3 → j < nLX X := fun j q => by rw [hnL]; exact q
  show G X 0 0 0 [(0, .inr (.inl (some t))), (1, .inl x1), (2, .inl x2)] [] w
  unfold fX2_holds at hF
  refine g_iload_n (pc := 0) h 1 rfl dX2_holds_0 ?_
  refine g_if_lt (pc := 1) (tgt := 30) h dX2_holds_1 (by decide) hF (fun hF => ?_) (fun hF => ?_)
  · refine g_iconst (pc := 30) (v := (0 : Int32)) h dX2_holds_30 (by decide) ?_
    exact g_zret (pc := 31) h hr ⟨Nat.le_refl _, Nat.le_refl _⟩ (by decide) hF dX2_holds_31
  · refine g_iload_n (pc := 4) h 2 rfl dX2_holds_4 ?_
    refine g_if_lt (pc := 5) (tgt := 30) h dX2_holds_5 (by decide) hF (fun hF => ?_) (fun hF => ?_)
    · refine g_iconst (pc := 30) (v := (0 : Int32)) h dX2_holds_30 (by decide) ?_
      exact g_zret (pc := 31) h hr ⟨Nat.le_refl _, Nat.le_refl _⟩ (by decide) hF dX2_holds_31
    · refine g_iload_n (pc := 8) h 2 rfl dX2_holds_8 ?_
      refine g_aload_n (pc := 9) h 0 rfl dX2_holds_9 ?_
      refine g_getI (pc := 10) h fdX2_19 (inw ht) (by decide) dX2_holds_10 ?_
      refine g_icmp_gt (pc := 13) (tgt := 30) h dX2_holds_13 (by decide) hF (fun hF => ?_) (fun hF => ?_)
      · refine g_iconst (pc := 30) (v := (0 : Int32)) h dX2_holds_30 (by decide) ?_
        exact g_zret (pc := 31) h hr ⟨Nat.le_refl _, Nat.le_refl _⟩ (by decide) hF dX2_holds_31
      · refine g_iload_n (pc := 16) h 1 rfl dX2_holds_16 ?_
        refine g_aload_n (pc := 17) h 0 rfl dX2_holds_17 ?_
        refine g_getI (pc := 18) h fdX2_19 (inw ht) (by decide) dX2_holds_18 ?_
        refine g_iload_n (pc := 21) h 2 rfl dX2_holds_21 ?_
        refine g_isub (pc := 22) h dX2_holds_22 ?_
        refine g_icmp_gt (pc := 23) (tgt := 30) h dX2_holds_23 (by decide) hF (fun hF => ?_) (fun hF => ?_)
        · refine g_iconst (pc := 30) (v := (0 : Int32)) h dX2_holds_30 (by decide) ?_
          exact g_zret (pc := 31) h hr ⟨Nat.le_refl _, Nat.le_refl _⟩ (by decide) hF dX2_holds_31
        · refine g_iconst (pc := 26) (v := (1 : Int32)) h dX2_holds_26 (by decide) ?_
          refine g_goto (pc := 27) (tgt := 31) h dX2_holds_27 (by decide) ?_
          exact g_zret (pc := 31) h hr ⟨Nat.le_refl _, Nat.le_refl _⟩ (by decide) hF dX2_holds_31
def fX2_put_43 (t : Nat) (y0 : Int32) (y1 : Int32) (y2 : Option Nat) (w : Wd) : Option (Unit × Wd) :=
  dr y2 8 w (fun a_1 => grd (vin y1 (ln a_1)) (lw (sI w a_1 y1.toNatClampNeg y0) (fun w_2 => some ((), w_2))))
set_option maxHeartbeats 4000000 in
theorem kX2_put_43 {X : Cx} (h : Ok X cX2_put RX2 2 0 0) (hr : RetV X 0 0) (hnL : nLX X = 3) {t : Nat} (ht : InN X t 2) : ∀ (y0 : Int32) (y1 : Int32) (y2 : Option Nat) (w : Wd), OkR X (fun _ : Unit => Value.null) (fX2_put_43 t y0 y1 y2 w) → G X 0 0 43 [] [.int y0, .int y1, rv X.1 y2] w := by
  have hj : ∀ j, j < 3 → j < nLX X := fun j q => by rw [hnL]; exact q
  intro y0 y1 y2 w hF
  unfold fX2_put_43 at hF
  refine g_dr hF (fun a_1 e_a_1 h_a_1 hF => ?_)
  rw [e_a_1]
  obtain ⟨g_1, hF⟩ := grd_ok hF
  refine g_iast (pc := 43) h h_a_1 g_1 dX2_put_43 ?_
  refine g_w hF (fun w_2 hF => ?_)
  exact g_vret (pc := 44) h hr ⟨Nat.le_refl _, Nat.le_refl _⟩ hF dX2_put_44
def fX2_put (t : Nat) (x1 : Int32) (x2 : Int32) (w : Wd) : Option (Unit × Wd) :=
  if x1 < 0 then
    (some ((), w))
  else
    (if (gI w t 2) ≤ x1 then
      (some ((), w))
    else
      (if (gI w t 1) = 0 then
        (fX2_put_43 t (x2.toInt8.toInt32) x1 (gR w t 0) w)
      else
        (if (gI w t 1) = (1 : Int32) then
          (fX2_put_43 t (x2.toInt16.toInt32) x1 (gR w t 0) w)
        else
          (fX2_put_43 t x2 x1 (gR w t 0) w))))
set_option maxHeartbeats 4000000 in
theorem mX2_put {Γ : En} {t : Nat} {x1 : Int32} {x2 : Int32} {w : Wd} (ht : t < wn w ∧ kd t = 2) : MtV Γ yX2_put cX2_put 3 none 2 0 0 [rv Γ (some t), .int x1, .int x2] w (fX2_put t x1 x2 w) := by
  refine mtV [.inr (.inl (some t)), .inl x1, .inl x2] rfl (Nat.le_of_ble_eq_true rfl) (fun X hΓ hnL hn0 h _ hr hF => ?_)
  subst hΓ
  have ht : InN X t 2 := ⟨by rw [hn0]; exact ht.1, ht.2⟩
  have h : Ok X cX2_put RX2 2 0 0 := h
  have hj : ∀ j, j < 3 → j < nLX X := fun j q => by rw [hnL]; exact q
  show G X 0 0 0 [(0, .inr (.inl (some t))), (1, .inl x1), (2, .inl x2)] [] w
  unfold fX2_put at hF
  refine g_iload_n (pc := 0) h 1 rfl dX2_put_0 ?_
  refine g_if_lt (pc := 1) (tgt := 44) h dX2_put_1 (by decide) hF (fun hF => ?_) (fun hF => ?_)
  · exact g_vret (pc := 44) h hr ⟨Nat.le_refl _, Nat.le_refl _⟩ hF dX2_put_44
  · refine g_iload_n (pc := 4) h 1 rfl dX2_put_4 ?_
    refine g_aload_n (pc := 5) h 0 rfl dX2_put_5 ?_
    refine g_getI (pc := 6) h fdX2_19 (inw ht) (by decide) dX2_put_6 ?_
    refine g_icmp_ge (pc := 9) (tgt := 44) h dX2_put_9 (by decide) hF (fun hF => ?_) (fun hF => ?_)
    · exact g_vret (pc := 44) h hr ⟨Nat.le_refl _, Nat.le_refl _⟩ hF dX2_put_44
    · refine g_aload_n (pc := 12) h 0 rfl dX2_put_12 ?_
      refine g_getR (pc := 13) h fdX2_9 (inw ht) rfl dX2_put_13 ?_
      refine g_iload_n (pc := 16) h 1 rfl dX2_put_16 ?_
      refine g_aload_n (pc := 17) h 0 rfl dX2_put_17 ?_
      refine g_getI (pc := 18) h fdX2_15 (inw ht) (by decide) dX2_put_18 ?_
      refine g_if_ne (pc := 21) (tgt := 29) h dX2_put_21 (by decide) hF (fun hF => ?_) (fun hF => ?_)
      · refine g_aload_n (pc := 29) h 0 rfl dX2_put_29 ?_
        refine g_getI (pc := 30) h fdX2_15 (inw ht) (by decide) dX2_put_30 ?_
        refine g_iconst (pc := 33) (v := (1 : Int32)) h dX2_put_33 (by decide) ?_
        refine g_icmp_ne (pc := 34) (tgt := 42) h dX2_put_34 (by decide) hF (fun hF => ?_) (fun hF => ?_)
        · refine g_iload_n (pc := 42) h 2 rfl dX2_put_42 ?_
          refine g_lv (lv' := []) [] rfl ?_
          exact kX2_put_43 h hr hnL ht _ _ _ _ hF
        · refine g_iload_n (pc := 37) h 2 rfl dX2_put_37 ?_
          refine g_i2s (pc := 38) h dX2_put_38 ?_
          refine g_goto (pc := 39) (tgt := 43) h dX2_put_39 (by decide) ?_
          refine g_lv (lv' := []) [] rfl ?_
          exact kX2_put_43 h hr hnL ht _ _ _ _ hF
      · refine g_iload_n (pc := 24) h 2 rfl dX2_put_24 ?_
        refine g_i2b (pc := 25) h dX2_put_25 ?_
        refine g_goto (pc := 26) (tgt := 43) h dX2_put_26 (by decide) ?_
        refine g_lv (lv' := []) [] rfl ?_
        exact kX2_put_43 h hr hnL ht _ _ _ _ hF
def fX3_startOf (t : Nat) (x1 : Int32) (w : Wd) : Option (Int32 × Wd) :=
  if x1 ≤ 0 then
    (some ((0 : Int32), w))
  else
    (dr (gR w t 1) 8 w (fun a_1 => if (Int32.ofNat (ln a_1)) < x1 then
      (some ((0 : Int32), w))
    else
      (dr (gR w t 1) 8 w (fun a_2 => grd (vin (x1 - (1 : Int32)) (ln a_2)) (some (gI w a_2 (x1 - (1 : Int32)).toNatClampNeg, w))))))
set_option maxHeartbeats 4000000 in
theorem mX3_startOf {Γ : En} {t : Nat} {x1 : Int32} {w : Wd} (ht : t < wn w ∧ kd t = 3) : MtI Γ yX3_startOf cX3_startOf 2 (some .int) 2 0 0 [rv Γ (some t), .int x1] w (fX3_startOf t x1 w) := by
  refine mtI [.inr (.inl (some t)), .inl x1] rfl (Nat.le_of_ble_eq_true rfl) (fun X hΓ hnL hn0 h _ hr hF => ?_)
  subst hΓ
  have ht : InN X t 3 := ⟨by rw [hn0]; exact ht.1, ht.2⟩
  have h : Ok X cX3_startOf RX3 2 0 0 := h
  have hj : ∀ j, j < 2 → j < nLX X := fun j q => by rw [hnL]; exact q
  show G X 0 0 0 [(0, .inr (.inl (some t))), (1, .inl x1)] [] w
  unfold fX3_startOf at hF
  refine g_iload_n (pc := 0) h 1 rfl dX3_startOf_0 ?_
  refine g_if_le (pc := 1) (tgt := 24) h dX3_startOf_1 (by decide) hF (fun hF => ?_) (fun hF => ?_)
  · refine g_iconst (pc := 24) (v := (0 : Int32)) h dX3_startOf_24 (by decide) ?_
    exact g_iret (pc := 25) h hr ⟨Nat.le_refl _, Nat.le_refl _⟩ hF dX3_startOf_25
  · refine g_iload_n (pc := 4) h 1 rfl dX3_startOf_4 ?_
    refine g_aload_n (pc := 5) h 0 rfl dX3_startOf_5 ?_
    refine g_getR (pc := 6) h fdX3_15 (inw ht) rfl dX3_startOf_6 ?_
    refine g_dr hF (fun a_1 e_a_1 h_a_1 hF => ?_)
    rw [e_a_1]
    refine g_alen (pc := 9) h h_a_1 rfl dX3_startOf_9 ?_
    refine g_icmp_gt (pc := 10) (tgt := 24) h dX3_startOf_10 (by decide) hF (fun hF => ?_) (fun hF => ?_)
    · refine g_iconst (pc := 24) (v := (0 : Int32)) h dX3_startOf_24 (by decide) ?_
      exact g_iret (pc := 25) h hr ⟨Nat.le_refl _, Nat.le_refl _⟩ hF dX3_startOf_25
    · refine g_aload_n (pc := 13) h 0 rfl dX3_startOf_13 ?_
      refine g_getR (pc := 14) h fdX3_15 (inw ht) rfl dX3_startOf_14 ?_
      refine g_iload_n (pc := 17) h 1 rfl dX3_startOf_17 ?_
      refine g_iconst (pc := 18) (v := (1 : Int32)) h dX3_startOf_18 (by decide) ?_
      refine g_isub (pc := 19) h dX3_startOf_19 ?_
      refine g_dr hF (fun a_2 e_a_2 h_a_2 hF => ?_)
      rw [e_a_2]
      obtain ⟨g_1, hF⟩ := grd_ok hF
      refine g_iald (pc := 20) h h_a_2 g_1 dX3_startOf_20 ?_
      refine g_goto (pc := 21) (tgt := 25) h dX3_startOf_21 (by decide) ?_
      exact g_iret (pc := 25) h hr ⟨Nat.le_refl _, Nat.le_refl _⟩ hF dX3_startOf_25
def fX3_endOf (t : Nat) (x1 : Int32) (w : Wd) : Option (Int32 × Wd) :=
  if x1 < 0 then
    (some ((0 : Int32), w))
  else
    (dr (gR w t 1) 8 w (fun a_1 => if (Int32.ofNat (ln a_1)) ≤ x1 then
      (some ((0 : Int32), w))
    else
      (dr (gR w t 1) 8 w (fun a_2 => grd (vin x1 (ln a_2)) (some (gI w a_2 x1.toNatClampNeg, w))))))
set_option maxHeartbeats 4000000 in
theorem mX3_endOf {Γ : En} {t : Nat} {x1 : Int32} {w : Wd} (ht : t < wn w ∧ kd t = 3) : MtI Γ yX3_endOf cX3_endOf 2 (some .int) 2 0 0 [rv Γ (some t), .int x1] w (fX3_endOf t x1 w) := by
  refine mtI [.inr (.inl (some t)), .inl x1] rfl (Nat.le_of_ble_eq_true rfl) (fun X hΓ hnL hn0 h _ hr hF => ?_)
  subst hΓ
  have ht : InN X t 3 := ⟨by rw [hn0]; exact ht.1, ht.2⟩
  have h : Ok X cX3_endOf RX3 2 0 0 := h
  have hj : ∀ j, j < 2 → j < nLX X := fun j q => by rw [hnL]; exact q
  show G X 0 0 0 [(0, .inr (.inl (some t))), (1, .inl x1)] [] w
  unfold fX3_endOf at hF
  refine g_iload_n (pc := 0) h 1 rfl dX3_endOf_0 ?_
  refine g_if_lt (pc := 1) (tgt := 22) h dX3_endOf_1 (by decide) hF (fun hF => ?_) (fun hF => ?_)
  · refine g_iconst (pc := 22) (v := (0 : Int32)) h dX3_endOf_22 (by decide) ?_
    exact g_iret (pc := 23) h hr ⟨Nat.le_refl _, Nat.le_refl _⟩ hF dX3_endOf_23
  · refine g_iload_n (pc := 4) h 1 rfl dX3_endOf_4 ?_
    refine g_aload_n (pc := 5) h 0 rfl dX3_endOf_5 ?_
    refine g_getR (pc := 6) h fdX3_15 (inw ht) rfl dX3_endOf_6 ?_
    refine g_dr hF (fun a_1 e_a_1 h_a_1 hF => ?_)
    rw [e_a_1]
    refine g_alen (pc := 9) h h_a_1 rfl dX3_endOf_9 ?_
    refine g_icmp_ge (pc := 10) (tgt := 22) h dX3_endOf_10 (by decide) hF (fun hF => ?_) (fun hF => ?_)
    · refine g_iconst (pc := 22) (v := (0 : Int32)) h dX3_endOf_22 (by decide) ?_
      exact g_iret (pc := 23) h hr ⟨Nat.le_refl _, Nat.le_refl _⟩ hF dX3_endOf_23
    · refine g_aload_n (pc := 13) h 0 rfl dX3_endOf_13 ?_
      refine g_getR (pc := 14) h fdX3_15 (inw ht) rfl dX3_endOf_14 ?_
      refine g_iload_n (pc := 17) h 1 rfl dX3_endOf_17 ?_
      refine g_dr hF (fun a_2 e_a_2 h_a_2 hF => ?_)
      rw [e_a_2]
      obtain ⟨g_1, hF⟩ := grd_ok hF
      refine g_iald (pc := 18) h h_a_2 g_1 dX3_endOf_18 ?_
      refine g_goto (pc := 19) (tgt := 23) h dX3_endOf_19 (by decide) ?_
      exact g_iret (pc := 23) h hr ⟨Nat.le_refl _, Nat.le_refl _⟩ hF dX3_endOf_23
def fX6_has (x0 : Int32) (x1 : Int32) (w : Wd) : Option (Int32 × Wd) :=
  if ((x0 >>> (x1 &&& 31)) &&& (1 : Int32)) = (1 : Int32) then
    (some ((1 : Int32), w))
  else
    (some ((0 : Int32), w))
set_option maxHeartbeats 4000000 in
theorem mX6_has {Γ : En} {x0 : Int32} {x1 : Int32} {w : Wd} : MtI Γ yX6_has cX6_has 2 (some .boolean) 2 0 0 [.int x0, .int x1] w (fX6_has x0 x1 w) := by
  refine mtI [.inl x0, .inl x1] rfl (Nat.le_of_ble_eq_true rfl) (fun X hΓ hnL hn0 h _ hr hF => ?_)
  subst hΓ
  have h : Ok X cX6_has RX6 2 0 0 := h
  have hj : ∀ j, j < 2 → j < nLX X := fun j q => by rw [hnL]; exact q
  show G X 0 0 0 [(0, .inl x0), (1, .inl x1)] [] w
  unfold fX6_has at hF
  refine g_iload_n (pc := 0) h 0 rfl dX6_has_0 ?_
  refine g_iload_n (pc := 1) h 1 rfl dX6_has_1 ?_
  refine g_ishr (pc := 2) h dX6_has_2 ?_
  refine g_iconst (pc := 3) (v := (1 : Int32)) h dX6_has_3 (by decide) ?_
  refine g_iand (pc := 4) h dX6_has_4 ?_
  refine g_iconst (pc := 5) (v := (1 : Int32)) h dX6_has_5 (by decide) ?_
  refine g_icmp_ne (pc := 6) (tgt := 13) h dX6_has_6 (by decide) hF (fun hF => ?_) (fun hF => ?_)
  · refine g_iconst (pc := 13) (v := (0 : Int32)) h dX6_has_13 (by decide) ?_
    exact g_zret (pc := 14) h hr ⟨Nat.le_refl _, Nat.le_refl _⟩ (by decide) hF dX6_has_14
  · refine g_iconst (pc := 9) (v := (1 : Int32)) h dX6_has_9 (by decide) ?_
    refine g_goto (pc := 10) (tgt := 14) h dX6_has_10 (by decide) ?_
    exact g_zret (pc := 14) h hr ⟨Nat.le_refl _, Nat.le_refl _⟩ (by decide) hF dX6_has_14
def fX6_bit (x0 : Int32) (w : Wd) : Option (Int32 × Wd) :=
  if x0 = 0 then
    (some ((0 : Int32), w))
  else
    (some ((1 : Int32), w))
set_option maxHeartbeats 4000000 in
theorem mX6_bit {Γ : En} {x0 : Int32} {w : Wd} : MtI Γ yX6_bit cX6_bit 1 (some .int) 2 0 0 [.int x0] w (fX6_bit x0 w) := by
  refine mtI [.inl x0] rfl (Nat.le_of_ble_eq_true rfl) (fun X hΓ hnL hn0 h _ hr hF => ?_)
  subst hΓ
  have h : Ok X cX6_bit RX6 2 0 0 := h
  have hj : ∀ j, j < 1 → j < nLX X := fun j q => by rw [hnL]; exact q
  show G X 0 0 0 [(0, .inl x0)] [] w
  unfold fX6_bit at hF
  refine g_iload_n (pc := 0) h 0 rfl dX6_bit_0 ?_
  refine g_if_eq (pc := 1) (tgt := 8) h dX6_bit_1 (by decide) hF (fun hF => ?_) (fun hF => ?_)
  · refine g_iconst (pc := 8) (v := (0 : Int32)) h dX6_bit_8 (by decide) ?_
    exact g_iret (pc := 9) h hr ⟨Nat.le_refl _, Nat.le_refl _⟩ hF dX6_bit_9
  · refine g_iconst (pc := 4) (v := (1 : Int32)) h dX6_bit_4 (by decide) ?_
    refine g_goto (pc := 5) (tgt := 9) h dX6_bit_5 (by decide) ?_
    exact g_iret (pc := 9) h hr ⟨Nat.le_refl _, Nat.le_refl _⟩ hF dX6_bit_9
def fX5_comeAs (t : Nat) (x1 : Int32) (x2 : Int32) (x3 : Int32) (w : Wd) : Option (Unit × Wd) :=
  lw (sI w t 0 x1) (fun w_1 => lw (sI w_1 t 1 x2) (fun w_2 => lw (sI w_2 t 2 x3) (fun w_3 => lw (sI w_3 t 3 (0 : Int32)) (fun w_4 => lw (sI w_4 t 4 (0 : Int32)) (fun w_5 => lw (sI w_5 t 5 (0 : Int32)) (fun w_6 => some ((), w_6)))))))
set_option maxHeartbeats 4000000 in
theorem mX5_comeAs {Γ : En} {t : Nat} {x1 : Int32} {x2 : Int32} {x3 : Int32} {w : Wd} (ht : t < wn w ∧ kd t = 5) : MtV Γ yX5_comeAs cX5_comeAs 4 none 2 0 0 [rv Γ (some t), .int x1, .int x2, .int x3] w (fX5_comeAs t x1 x2 x3 w) := by
  refine mtV [.inr (.inl (some t)), .inl x1, .inl x2, .inl x3] rfl (Nat.le_of_ble_eq_true rfl) (fun X hΓ hnL hn0 h _ hr hF => ?_)
  subst hΓ
  have ht : InN X t 5 := ⟨by rw [hn0]; exact ht.1, ht.2⟩
  have h : Ok X cX5_comeAs RX5 2 0 0 := h
  have hj : ∀ j, j < 4 → j < nLX X := fun j q => by rw [hnL]; exact q
  show G X 0 0 0 [(0, .inr (.inl (some t))), (1, .inl x1), (2, .inl x2), (3, .inl x3)] [] w
  unfold fX5_comeAs at hF
  refine g_aload_n (pc := 0) h 0 rfl dX5_comeAs_0 ?_
  refine g_iload_n (pc := 1) h 1 rfl dX5_comeAs_1 ?_
  refine g_putI (pc := 2) h fdX5_7 (inw ht) (by decide) ⟨rfl, rfl⟩ dX5_comeAs_2 ?_
  refine g_w hF (fun w_1 hF => ?_)
  refine g_aload_n (pc := 5) h 0 rfl dX5_comeAs_5 ?_
  refine g_iload_n (pc := 6) h 2 rfl dX5_comeAs_6 ?_
  refine g_putI (pc := 7) h fdX5_13 (inw ht) (by decide) ⟨rfl, rfl⟩ dX5_comeAs_7 ?_
  refine g_w hF (fun w_2 hF => ?_)
  refine g_aload_n (pc := 10) h 0 rfl dX5_comeAs_10 ?_
  refine g_iload_n (pc := 11) h 3 rfl dX5_comeAs_11 ?_
  refine g_putI (pc := 12) h fdX5_16 (inw ht) (by decide) ⟨rfl, rfl⟩ dX5_comeAs_12 ?_
  refine g_w hF (fun w_3 hF => ?_)
  refine g_aload_n (pc := 15) h 0 rfl dX5_comeAs_15 ?_
  refine g_iconst (pc := 16) (v := (0 : Int32)) h dX5_comeAs_16 (by decide) ?_
  refine g_putI (pc := 17) h fdX5_19 (inw ht) (by decide) ⟨rfl, rfl⟩ dX5_comeAs_17 ?_
  refine g_w hF (fun w_4 hF => ?_)
  refine g_aload_n (pc := 20) h 0 rfl dX5_comeAs_20 ?_
  refine g_iconst (pc := 21) (v := (0 : Int32)) h dX5_comeAs_21 (by decide) ?_
  refine g_putI (pc := 22) h fdX5_22 (inw ht) (by decide) ⟨rfl, rfl⟩ dX5_comeAs_22 ?_
  refine g_w hF (fun w_5 hF => ?_)
  refine g_aload_n (pc := 25) h 0 rfl dX5_comeAs_25 ?_
  refine g_iconst (pc := 26) (v := (0 : Int32)) h dX5_comeAs_26 (by decide) ?_
  refine g_putI (pc := 27) h fdX5_25 (inw ht) (by decide) ⟨rfl, rfl⟩ dX5_comeAs_27 ?_
  refine g_w hF (fun w_6 hF => ?_)
  exact g_vret (pc := 30) h hr ⟨Nat.le_refl _, Nat.le_refl _⟩ hF dX5_comeAs_30
def fX5_become (t : Nat) (r1 : Option Nat) (w : Wd) : Option (Unit × Wd) :=
  dr r1 5 w (fun a_1 => lw (sI w t 0 (gI w a_1 0)) (fun w_2 => lw (sI w_2 t 1 (gI w_2 a_1 1)) (fun w_3 => lw (sI w_3 t 2 (gI w_3 a_1 2)) (fun w_4 => lw (sI w_4 t 3 (gI w_4 a_1 3)) (fun w_5 => lw (sI w_5 t 4 (gI w_5 a_1 4)) (fun w_6 => lw (sI w_6 t 5 (gI w_6 a_1 5)) (fun w_7 => some ((), w_7))))))))
set_option maxHeartbeats 4000000 in
theorem mX5_become {Γ : En} {t : Nat} {r1 : Option Nat} {w : Wd} (ht : t < wn w ∧ kd t = 5) : MtV Γ yX5_become cX5_become 2 none 2 0 0 [rv Γ (some t), rv Γ r1] w (fX5_become t r1 w) := by
  refine mtV [.inr (.inl (some t)), .inr (.inl r1)] rfl (Nat.le_of_ble_eq_true rfl) (fun X hΓ hnL hn0 h _ hr hF => ?_)
  subst hΓ
  have ht : InN X t 5 := ⟨by rw [hn0]; exact ht.1, ht.2⟩
  have h : Ok X cX5_become RX5 2 0 0 := h
  have hj : ∀ j, j < 2 → j < nLX X := fun j q => by rw [hnL]; exact q
  show G X 0 0 0 [(0, .inr (.inl (some t))), (1, .inr (.inl r1))] [] w
  unfold fX5_become at hF
  refine g_aload_n (pc := 0) h 0 rfl dX5_become_0 ?_
  refine g_aload_n (pc := 1) h 1 rfl dX5_become_1 ?_
  refine g_dr hF (fun a_1 e_a_1 h_a_1 hF => ?_)
  rw [e_a_1]
  refine g_getI (pc := 2) h fdX5_7 h_a_1 (by decide) dX5_become_2 ?_
  refine g_putI (pc := 5) h fdX5_7 (inw ht) (by decide) ⟨rfl, rfl⟩ dX5_become_5 ?_
  refine g_w hF (fun w_2 hF => ?_)
  refine g_aload_n (pc := 8) h 0 rfl dX5_become_8 ?_
  refine g_aload_n (pc := 9) h 1 rfl dX5_become_9 ?_
  refine g_getI (pc := 10) h fdX5_13 h_a_1 (by decide) dX5_become_10 ?_
  refine g_putI (pc := 13) h fdX5_13 (inw ht) (by decide) ⟨rfl, rfl⟩ dX5_become_13 ?_
  refine g_w hF (fun w_3 hF => ?_)
  refine g_aload_n (pc := 16) h 0 rfl dX5_become_16 ?_
  refine g_aload_n (pc := 17) h 1 rfl dX5_become_17 ?_
  refine g_getI (pc := 18) h fdX5_16 h_a_1 (by decide) dX5_become_18 ?_
  refine g_putI (pc := 21) h fdX5_16 (inw ht) (by decide) ⟨rfl, rfl⟩ dX5_become_21 ?_
  refine g_w hF (fun w_4 hF => ?_)
  refine g_aload_n (pc := 24) h 0 rfl dX5_become_24 ?_
  refine g_aload_n (pc := 25) h 1 rfl dX5_become_25 ?_
  refine g_getI (pc := 26) h fdX5_19 h_a_1 (by decide) dX5_become_26 ?_
  refine g_putI (pc := 29) h fdX5_19 (inw ht) (by decide) ⟨rfl, rfl⟩ dX5_become_29 ?_
  refine g_w hF (fun w_5 hF => ?_)
  refine g_aload_n (pc := 32) h 0 rfl dX5_become_32 ?_
  refine g_aload_n (pc := 33) h 1 rfl dX5_become_33 ?_
  refine g_getI (pc := 34) h fdX5_22 h_a_1 (by decide) dX5_become_34 ?_
  refine g_putI (pc := 37) h fdX5_22 (inw ht) (by decide) ⟨rfl, rfl⟩ dX5_become_37 ?_
  refine g_w hF (fun w_6 hF => ?_)
  refine g_aload_n (pc := 40) h 0 rfl dX5_become_40 ?_
  refine g_aload_n (pc := 41) h 1 rfl dX5_become_41 ?_
  refine g_getI (pc := 42) h fdX5_25 h_a_1 (by decide) dX5_become_42 ?_
  refine g_putI (pc := 45) h fdX5_25 (inw ht) (by decide) ⟨rfl, rfl⟩ dX5_become_45 ?_
  refine g_w hF (fun w_7 hF => ?_)
  exact g_vret (pc := 48) h hr ⟨Nat.le_refl _, Nat.le_refl _⟩ hF dX5_become_48
def fX6_within (x0 : Int32) (x1 : Int32) (x2 : Int32) (w : Wd) : Option (Int32 × Wd) :=
  if x0 < x1 then
    (some ((0 : Int32), w))
  else
    (if x2 < x0 then
      (some ((0 : Int32), w))
    else
      (some ((1 : Int32), w)))
set_option maxHeartbeats 4000000 in
theorem mX6_within {Γ : En} {x0 : Int32} {x1 : Int32} {x2 : Int32} {w : Wd} : MtI Γ yX6_within cX6_within 3 (some .boolean) 2 0 0 [.int x0, .int x1, .int x2] w (fX6_within x0 x1 x2 w) := by
  refine mtI [.inl x0, .inl x1, .inl x2] rfl (Nat.le_of_ble_eq_true rfl) (fun X hΓ hnL hn0 h _ hr hF => ?_)
  subst hΓ
  have h : Ok X cX6_within RX6 2 0 0 := h
  have hj : ∀ j, j < 3 → j < nLX X := fun j q => by rw [hnL]; exact q
  show G X 0 0 0 [(0, .inl x0), (1, .inl x1), (2, .inl x2)] [] w
  unfold fX6_within at hF
  refine g_iload_n (pc := 0) h 0 rfl dX6_within_0 ?_
  refine g_iload_n (pc := 1) h 1 rfl dX6_within_1 ?_
  refine g_icmp_lt (pc := 2) (tgt := 14) h dX6_within_2 (by decide) hF (fun hF => ?_) (fun hF => ?_)
  · refine g_iconst (pc := 14) (v := (0 : Int32)) h dX6_within_14 (by decide) ?_
    exact g_zret (pc := 15) h hr ⟨Nat.le_refl _, Nat.le_refl _⟩ (by decide) hF dX6_within_15
  · refine g_iload_n (pc := 5) h 0 rfl dX6_within_5 ?_
    refine g_iload_n (pc := 6) h 2 rfl dX6_within_6 ?_
    refine g_icmp_gt (pc := 7) (tgt := 14) h dX6_within_7 (by decide) hF (fun hF => ?_) (fun hF => ?_)
    · refine g_iconst (pc := 14) (v := (0 : Int32)) h dX6_within_14 (by decide) ?_
      exact g_zret (pc := 15) h hr ⟨Nat.le_refl _, Nat.le_refl _⟩ (by decide) hF dX6_within_15
    · refine g_iconst (pc := 10) (v := (1 : Int32)) h dX6_within_10 (by decide) ?_
      refine g_goto (pc := 11) (tgt := 15) h dX6_within_11 (by decide) ?_
      exact g_zret (pc := 15) h hr ⟨Nat.le_refl _, Nat.le_refl _⟩ (by decide) hF dX6_within_15
def fX6_isThing (x0 : Int32) (w : Wd) : Option (Int32 × Wd) :=
  bnd (fX6_within x0 (0 : Int32) (7 : Int32) w) (fun x_1 w_2 => grd (x_1 = 0 ∨ x_1 = 1) (some (x_1, w_2)))
set_option maxHeartbeats 4000000 in
theorem mX6_isThing {Γ : En} {x0 : Int32} {w : Wd} : MtI Γ yX6_isThing cX6_isThing 1 (some .boolean) 3 0 0 [.int x0] w (fX6_isThing x0 w) := by
  refine mtI [.inl x0] rfl (Nat.le_of_ble_eq_true rfl) (fun X hΓ hnL hn0 h _ hr hF => ?_)
  subst hΓ
  have h : Ok X cX6_isThing RX6 3 0 0 := h
  have hj : ∀ j, j < 1 → j < nLX X := fun j q => by rw [hnL]; exact q
  show G X 0 0 0 [(0, .inl x0)] [] w
  unfold fX6_isThing at hF
  refine g_iload_n (pc := 0) h 0 rfl dX6_isThing_0 ?_
  refine g_iconst (pc := 1) (v := (0 : Int32)) h dX6_isThing_1 (by decide) ?_
  refine g_bipush (pc := 2) (v := (7 : Int32)) h dX6_isThing_2 (by decide) ?_
  refine g_csI (pc := 4) (st := []) h mX6_within csX6_114 (by decide) ⟨by decide, by decide⟩ (Nat.le_of_ble_eq_true rfl) rfl rfl dX6_isThing_4 hF (fun x_1 w_2 hF => ?_)
  obtain ⟨g_1, hF⟩ := grd_ok hF
  exact g_zret (pc := 7) h hr ⟨Nat.le_refl _, Nat.le_refl _⟩ (bz_ok g_1).1 hF dX6_isThing_7
def fX6_isDays (x0 : Int32) (w : Wd) : Option (Int32 × Wd) :=
  bnd (fX6_within x0 (0 : Int32) (40 : Int32) w) (fun x_1 w_2 => grd (x_1 = 0 ∨ x_1 = 1) (some (x_1, w_2)))
set_option maxHeartbeats 4000000 in
theorem mX6_isDays {Γ : En} {x0 : Int32} {w : Wd} : MtI Γ yX6_isDays cX6_isDays 1 (some .boolean) 3 0 0 [.int x0] w (fX6_isDays x0 w) := by
  refine mtI [.inl x0] rfl (Nat.le_of_ble_eq_true rfl) (fun X hΓ hnL hn0 h _ hr hF => ?_)
  subst hΓ
  have h : Ok X cX6_isDays RX6 3 0 0 := h
  have hj : ∀ j, j < 1 → j < nLX X := fun j q => by rw [hnL]; exact q
  show G X 0 0 0 [(0, .inl x0)] [] w
  unfold fX6_isDays at hF
  refine g_iload_n (pc := 0) h 0 rfl dX6_isDays_0 ?_
  refine g_iconst (pc := 1) (v := (0 : Int32)) h dX6_isDays_1 (by decide) ?_
  refine g_bipush (pc := 2) (v := (40 : Int32)) h dX6_isDays_2 (by decide) ?_
  refine g_csI (pc := 4) (st := []) h mX6_within csX6_114 (by decide) ⟨by decide, by decide⟩ (Nat.le_of_ble_eq_true rfl) rfl rfl dX6_isDays_4 hF (fun x_1 w_2 hF => ?_)
  obtain ⟨g_1, hF⟩ := grd_ok hF
  exact g_zret (pc := 7) h hr ⟨Nat.le_refl _, Nat.le_refl _⟩ (bz_ok g_1).1 hF dX6_isDays_7
def fX6_isPart (x0 : Int32) (x1 : Int32) (w : Wd) : Option (Int32 × Wd) :=
  if (x0 &&& (x1 ^^^ (-1 : Int32))) = 0 then
    (some ((1 : Int32), w))
  else
    (some ((0 : Int32), w))
set_option maxHeartbeats 4000000 in
theorem mX6_isPart {Γ : En} {x0 : Int32} {x1 : Int32} {w : Wd} : MtI Γ yX6_isPart cX6_isPart 2 (some .boolean) 2 0 0 [.int x0, .int x1] w (fX6_isPart x0 x1 w) := by
  refine mtI [.inl x0, .inl x1] rfl (Nat.le_of_ble_eq_true rfl) (fun X hΓ hnL hn0 h _ hr hF => ?_)
  subst hΓ
  have h : Ok X cX6_isPart RX6 2 0 0 := h
  have hj : ∀ j, j < 2 → j < nLX X := fun j q => by rw [hnL]; exact q
  show G X 0 0 0 [(0, .inl x0), (1, .inl x1)] [] w
  unfold fX6_isPart at hF
  refine g_iload_n (pc := 0) h 0 rfl dX6_isPart_0 ?_
  refine g_iload_n (pc := 1) h 1 rfl dX6_isPart_1 ?_
  refine g_iconst (pc := 2) (v := (-1 : Int32)) h dX6_isPart_2 (by decide) ?_
  refine g_ixor (pc := 3) h dX6_isPart_3 ?_
  refine g_iand (pc := 4) h dX6_isPart_4 ?_
  refine g_if_ne (pc := 5) (tgt := 12) h dX6_isPart_5 (by decide) hF (fun hF => ?_) (fun hF => ?_)
  · refine g_iconst (pc := 12) (v := (0 : Int32)) h dX6_isPart_12 (by decide) ?_
    exact g_zret (pc := 13) h hr ⟨Nat.le_refl _, Nat.le_refl _⟩ (by decide) hF dX6_isPart_13
  · refine g_iconst (pc := 8) (v := (1 : Int32)) h dX6_isPart_8 (by decide) ?_
    refine g_goto (pc := 9) (tgt := 13) h dX6_isPart_9 (by decide) ?_
    exact g_zret (pc := 13) h hr ⟨Nat.le_refl _, Nat.le_refl _⟩ (by decide) hF dX6_isPart_13
def fX6_commonDivisor_34 (x2 : Int32) (w : Wd) : Option (Int32 × Wd) :=
  some (x2, w)
set_option maxHeartbeats 4000000 in
theorem kX6_commonDivisor_34 {X : Cx} (h : Ok X cX6_commonDivisor RX6 2 0 0) (hr : RetI X .int 0 0) (hnL : nLX X = 6) : ∀ (x2 : Int32) (w : Wd), OkR X Value.int (fX6_commonDivisor_34 x2 w) → G X 0 0 34 [(2, .inl x2)] [] w := by
  have hj : ∀ j, j < 6 → j < nLX X := fun j q => by rw [hnL]; exact q
  intro x2 w hF
  unfold fX6_commonDivisor_34 at hF
  refine g_iload_n (pc := 34) h 0 rfl dX6_commonDivisor_34 ?_
  exact g_iret (pc := 35) h hr ⟨Nat.le_refl _, Nat.le_refl _⟩ hF dX6_commonDivisor_35
def fX6_commonDivisor_7 : Nat → Int32 → Int32 → Int32 → Wd → Option (Int32 × Wd)
  | 0 => fun _ _ _ _ => none
  | n + 1 => fun x2 x3 x4 w =>
    if (20 : Int32) ≤ x4 then
      (fX6_commonDivisor_34 x2 w)
    else
      (if x3 ≤ 0 then
        (fX6_commonDivisor_34 x2 w)
      else
        (grd (¬ x3 = 0) (lt (x2 - x2 / x3 * x3) (fun x5_1 => fX6_commonDivisor_7 n x3 x5_1 (x4 + (1 : Int32)) w))))
set_option maxHeartbeats 4000000 in
theorem kX6_commonDivisor_7 {X : Cx} (h : Ok X cX6_commonDivisor RX6 2 0 0) (hr : RetI X .int 0 0) (hnL : nLX X = 6) : ∀ (fu : Nat) (x2 : Int32) (x3 : Int32) (x4 : Int32) (w : Wd), OkR X Value.int (fX6_commonDivisor_7 fu x2 x3 x4 w) → G X 0 0 7 [(2, .inl x2), (3, .inl x3), (4, .inl x4)] [] w := by
  have hj : ∀ j, j < 6 → j < nLX X := fun j q => by rw [hnL]; exact q
  intro fu
  induction fu with
  | zero => intro x2 x3 x4 w hF; exact okN hF
  | succ fu ih =>
    intro x2 x3 x4 w hF
    rw [fX6_commonDivisor_7] at hF
    refine g_iload (pc := 7) h 2 rfl dX6_commonDivisor_7 ?_
    refine g_bipush (pc := 9) (v := (20 : Int32)) h dX6_commonDivisor_9 (by decide) ?_
    refine g_icmp_ge (pc := 11) (tgt := 34) h dX6_commonDivisor_11 (by decide) hF (fun hF => ?_) (fun hF => ?_)
    · refine g_lv (lv' := [(2, .inl x2)]) [0] rfl ?_
      exact kX6_commonDivisor_34 h hr hnL _ _ hF
    · refine g_iload_n (pc := 14) h 1 rfl dX6_commonDivisor_14 ?_
      refine g_if_le (pc := 15) (tgt := 34) h dX6_commonDivisor_15 (by decide) hF (fun hF => ?_) (fun hF => ?_)
      · refine g_lv (lv' := [(2, .inl x2)]) [0] rfl ?_
        exact kX6_commonDivisor_34 h hr hnL _ _ hF
      · refine g_iload_n (pc := 18) h 0 rfl dX6_commonDivisor_18 ?_
        refine g_iload_n (pc := 19) h 1 rfl dX6_commonDivisor_19 ?_
        obtain ⟨g_1, hF⟩ := grd_ok hF
        refine g_irem (pc := 20) h dX6_commonDivisor_20 g_1 ?_
        refine g_t hF (fun x5_1 hF => ?_)
        refine g_istore (pc := 21) (lv' := [(5, .inl x5_1), (2, .inl x2), (3, .inl x3), (4, .inl x4)]) h dX6_commonDivisor_21 (hj 5 (by decide)) rfl ?_
        refine g_iload_n (pc := 23) h 2 rfl dX6_commonDivisor_23 ?_
        refine g_istore_n (pc := 24) (lv' := [(2, .inl x3), (5, .inl x5_1), (3, .inl x3), (4, .inl x4)]) h dX6_commonDivisor_24 (hj 2 (by decide)) rfl ?_
        refine g_iload (pc := 25) h 1 rfl dX6_commonDivisor_25 ?_
        refine g_istore_n (pc := 27) (lv' := [(3, .inl x5_1), (2, .inl x3), (5, .inl x5_1), (4, .inl x4)]) h dX6_commonDivisor_27 (hj 3 (by decide)) rfl ?_
        refine g_iinc (pc := 28) (lv' := [(4, .inl (x4 + (1 : Int32))), (3, .inl x5_1), (2, .inl x3), (5, .inl x5_1)]) h 3 rfl dX6_commonDivisor_28 (dv := (1 : Int32)) (by decide) (hj 4 (by decide)) rfl ?_
        refine g_goto (pc := 31) (tgt := 7) h dX6_commonDivisor_31 (by decide) ?_
        refine g_lv (lv' := [(2, .inl x3), (3, .inl x5_1), (4, .inl (x4 + (1 : Int32)))]) [2, 1, 0] rfl ?_
        exact ih _ _ _ _ hF
def fX6_commonDivisor (x0 : Int32) (x1 : Int32) (w : Wd) : Option (Int32 × Wd) :=
  fX6_commonDivisor_7 FU x1 x0 (0 : Int32) w
set_option maxHeartbeats 4000000 in
theorem mX6_commonDivisor {Γ : En} {x0 : Int32} {x1 : Int32} {w : Wd} : MtI Γ yX6_commonDivisor cX6_commonDivisor 6 (some .int) 2 0 0 [.int x0, .int x1] w (fX6_commonDivisor x0 x1 w) := by
  refine mtI [.inl x0, .inl x1] rfl (Nat.le_of_ble_eq_true rfl) (fun X hΓ hnL hn0 h _ hr hF => ?_)
  subst hΓ
  have h : Ok X cX6_commonDivisor RX6 2 0 0 := h
  have hj : ∀ j, j < 6 → j < nLX X := fun j q => by rw [hnL]; exact q
  show G X 0 0 0 [(0, .inl x0), (1, .inl x1)] [] w
  unfold fX6_commonDivisor at hF
  refine g_iload_n (pc := 0) h 1 rfl dX6_commonDivisor_0 ?_
  refine g_istore_n (pc := 1) (lv' := [(2, .inl x1), (0, .inl x0), (1, .inl x1)]) h dX6_commonDivisor_1 (hj 2 (by decide)) rfl ?_
  refine g_iload_n (pc := 2) h 1 rfl dX6_commonDivisor_2 ?_
  refine g_istore_n (pc := 3) (lv' := [(3, .inl x0), (2, .inl x1), (0, .inl x0), (1, .inl x1)]) h dX6_commonDivisor_3 (hj 3 (by decide)) rfl ?_
  refine g_iconst (pc := 4) (v := (0 : Int32)) h dX6_commonDivisor_4 (by decide) ?_
  refine g_istore (pc := 5) (lv' := [(4, .inl (0 : Int32)), (3, .inl x0), (2, .inl x1), (0, .inl x0), (1, .inl x1)]) h dX6_commonDivisor_5 (hj 4 (by decide)) rfl ?_
  refine g_lv (lv' := [(2, .inl x1), (3, .inl x0), (4, .inl (0 : Int32))]) [2, 1, 0] rfl ?_
  exact kX6_commonDivisor_7 h hr hnL _ _ _ _ _ hF
def fX6_isUnder_4 : Nat → Int32 → Int32 → Int32 → Wd → Option (Int32 × Wd)
  | 0 => fun _ _ _ _ => none
  | n + 1 => fun x1 x2 x3 w =>
    if (6 : Int32) ≤ x3 then
      (some ((0 : Int32), w))
    else
      (if x2 < 0 then
        (some ((0 : Int32), w))
      else
        (if (6 : Int32) ≤ x2 then
          (some ((0 : Int32), w))
        else
          (if x2 = x1 then
            (some ((1 : Int32), w))
          else
            (grd (vin x2 6) (lt (undL.getD x2.toNatClampNeg 0) (fun x2_1 => fX6_isUnder_4 n x1 x2_1 (x3 + (1 : Int32)) w))))))
set_option maxHeartbeats 4000000 in
theorem kX6_isUnder_4 {X : Cx} (h : Ok X cX6_isUnder RX6 2 0 0) (hr : RetI X .boolean 0 0) (hnL : nLX X = 4) : ∀ (fu : Nat) (x1 : Int32) (x2 : Int32) (x3 : Int32) (w : Wd), OkR X Value.int (fX6_isUnder_4 fu x1 x2 x3 w) → G X 0 0 4 [(1, .inl x1), (2, .inl x2), (3, .inl x3)] [] w := by
  have hj : ∀ j, j < 4 → j < nLX X := fun j q => by rw [hnL]; exact q
  intro fu
  induction fu with
  | zero => intro x1 x2 x3 w hF; exact okN hF
  | succ fu ih =>
    intro x1 x2 x3 w hF
    rw [fX6_isUnder_4] at hF
    refine g_iload_n (pc := 4) h 2 rfl dX6_isUnder_4 ?_
    refine g_bipush (pc := 5) (v := (6 : Int32)) h dX6_isUnder_5 (by decide) ?_
    refine g_icmp_ge (pc := 7) (tgt := 41) h dX6_isUnder_7 (by decide) hF (fun hF => ?_) (fun hF => ?_)
    · refine g_iconst (pc := 41) (v := (0 : Int32)) h dX6_isUnder_41 (by decide) ?_
      exact g_zret (pc := 42) h hr ⟨Nat.le_refl _, Nat.le_refl _⟩ (by decide) hF dX6_isUnder_42
    · refine g_iload_n (pc := 10) h 1 rfl dX6_isUnder_10 ?_
      refine g_if_lt (pc := 11) (tgt := 41) h dX6_isUnder_11 (by decide) hF (fun hF => ?_) (fun hF => ?_)
      · refine g_iconst (pc := 41) (v := (0 : Int32)) h dX6_isUnder_41 (by decide) ?_
        exact g_zret (pc := 42) h hr ⟨Nat.le_refl _, Nat.le_refl _⟩ (by decide) hF dX6_isUnder_42
      · refine g_iload_n (pc := 14) h 1 rfl dX6_isUnder_14 ?_
        refine g_getU (pc := 15) h dX6_isUnder_15 ?_
        refine g_lenU (pc := 18) h dX6_isUnder_18 ?_
        refine g_icmp_ge (pc := 19) (tgt := 41) h dX6_isUnder_19 (by decide) hF (fun hF => ?_) (fun hF => ?_)
        · refine g_iconst (pc := 41) (v := (0 : Int32)) h dX6_isUnder_41 (by decide) ?_
          exact g_zret (pc := 42) h hr ⟨Nat.le_refl _, Nat.le_refl _⟩ (by decide) hF dX6_isUnder_42
        · refine g_iload_n (pc := 22) h 1 rfl dX6_isUnder_22 ?_
          refine g_iload_n (pc := 23) h 0 rfl dX6_isUnder_23 ?_
          refine g_icmp_ne (pc := 24) (tgt := 29) h dX6_isUnder_24 (by decide) hF (fun hF => ?_) (fun hF => ?_)
          · refine g_getU (pc := 29) h dX6_isUnder_29 ?_
            refine g_iload_n (pc := 32) h 1 rfl dX6_isUnder_32 ?_
            obtain ⟨g_1, hF⟩ := grd_ok hF
            refine g_ldU (pc := 33) h g_1 dX6_isUnder_33 ?_
            refine g_t hF (fun x2_1 hF => ?_)
            refine g_istore_n (pc := 34) (lv' := [(2, .inl x2_1), (1, .inl x1), (3, .inl x3)]) h dX6_isUnder_34 (hj 2 (by decide)) rfl ?_
            refine g_iinc (pc := 35) (lv' := [(3, .inl (x3 + (1 : Int32))), (2, .inl x2_1), (1, .inl x1)]) h 2 rfl dX6_isUnder_35 (dv := (1 : Int32)) (by decide) (hj 3 (by decide)) rfl ?_
            refine g_goto (pc := 38) (tgt := 4) h dX6_isUnder_38 (by decide) ?_
            refine g_lv (lv' := [(1, .inl x1), (2, .inl x2_1), (3, .inl (x3 + (1 : Int32)))]) [2, 1, 0] rfl ?_
            exact ih _ _ _ _ hF
          · refine g_iconst (pc := 27) (v := (1 : Int32)) h dX6_isUnder_27 (by decide) ?_
            exact g_zret (pc := 28) h hr ⟨Nat.le_refl _, Nat.le_refl _⟩ (by decide) hF dX6_isUnder_28
def fX6_isUnder (x0 : Int32) (x1 : Int32) (w : Wd) : Option (Int32 × Wd) :=
  fX6_isUnder_4 FU x1 x0 (0 : Int32) w
set_option maxHeartbeats 4000000 in
theorem mX6_isUnder {Γ : En} {x0 : Int32} {x1 : Int32} {w : Wd} : MtI Γ yX6_isUnder cX6_isUnder 4 (some .boolean) 2 0 0 [.int x0, .int x1] w (fX6_isUnder x0 x1 w) := by
  refine mtI [.inl x0, .inl x1] rfl (Nat.le_of_ble_eq_true rfl) (fun X hΓ hnL hn0 h _ hr hF => ?_)
  subst hΓ
  have h : Ok X cX6_isUnder RX6 2 0 0 := h
  have hj : ∀ j, j < 4 → j < nLX X := fun j q => by rw [hnL]; exact q
  show G X 0 0 0 [(0, .inl x0), (1, .inl x1)] [] w
  unfold fX6_isUnder at hF
  refine g_iload_n (pc := 0) h 0 rfl dX6_isUnder_0 ?_
  refine g_istore_n (pc := 1) (lv' := [(2, .inl x0), (0, .inl x0), (1, .inl x1)]) h dX6_isUnder_1 (hj 2 (by decide)) rfl ?_
  refine g_iconst (pc := 2) (v := (0 : Int32)) h dX6_isUnder_2 (by decide) ?_
  refine g_istore_n (pc := 3) (lv' := [(3, .inl (0 : Int32)), (2, .inl x0), (0, .inl x0), (1, .inl x1)]) h dX6_isUnder_3 (hj 3 (by decide)) rfl ?_
  refine g_lv (lv' := [(1, .inl x1), (2, .inl x0), (3, .inl (0 : Int32))]) [3, 1, 0] rfl ?_
  exact kX6_isUnder_4 h hr hnL _ _ _ _ _ hF
