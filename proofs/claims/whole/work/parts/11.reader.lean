theorem fdX1_9 : FdOk RX1 9 1 0 (.array .int) true := ⟨RX1, TX1, 9, tyX1, rfl, inX1, by decide, rfl, by decide, rfl, wfl_X1_9, tyX1_ok, nmX1, rfl, rfl⟩
theorem fdX1_15 : FdOk RX1 15 1 1 .int false := ⟨RX1, TX1, 9, tyX1, rfl, inX1, by decide, rfl, by decide, rfl, wfl_X1_15, tyX1_ok, nmX1, rfl, rfl⟩
theorem fdX1_19 : FdOk RX1 19 1 8 (.object "SolesByWhatIsTold$Text") false := ⟨RX1, TX1, 9, tyX1, rfl, inX1, by decide, rfl, by decide, rfl, wfl_X1_19, tyX1_ok, nmX1, rfl, rfl⟩
theorem fdX1_28 : FdOk RX1 28 1 2 .int false := ⟨RX1, TX1, 9, tyX1, rfl, inX1, by decide, rfl, by decide, rfl, wfl_X1_28, tyX1_ok, nmX1, rfl, rfl⟩
theorem fdX1_31 : FdOk RX1 31 1 6 .int false := ⟨RX1, TX1, 9, tyX1, rfl, inX1, by decide, rfl, by decide, rfl, wfl_X1_31, tyX1_ok, nmX1, rfl, rfl⟩
theorem fdX1_34 : FdOk RX1 34 1 7 .int false := ⟨RX1, TX1, 9, tyX1, rfl, inX1, by decide, rfl, by decide, rfl, wfl_X1_34, tyX1_ok, nmX1, rfl, rfl⟩
theorem fdX1_50 : FdOk RX1 50 1 4 .int false := ⟨RX1, TX1, 9, tyX1, rfl, inX1, by decide, rfl, by decide, rfl, wfl_X1_50, tyX1_ok, nmX1, rfl, rfl⟩
theorem fdX1_56 : FdOk RX1 56 1 3 .int false := ⟨RX1, TX1, 9, tyX1, rfl, inX1, by decide, rfl, by decide, rfl, wfl_X1_56, tyX1_ok, nmX1, rfl, rfl⟩
theorem fdX1_81 : FdOk RX1 81 1 5 .int false := ⟨RX1, TX1, 9, tyX1, rfl, inX1, by decide, rfl, by decide, rfl, wfl_X1_81, tyX1_ok, nmX1, rfl, rfl⟩
theorem cvX1_23 : CvOk RX1 23 3 yX3_clear cX3_clear 1 none 0 := ⟨⟨⟨by decide, by decide, rfl⟩, by decide, wco_X3_clear, win_X3⟩, by decide, ⟨_, _, rfl⟩, wml_X1_23, wim_X3_clear, wse_X3_clear⟩
theorem cvX1_37 : CvOk RX1 37 1 yX1_take cX1_take 1 none 0 := ⟨⟨⟨by decide, by decide, rfl⟩, by decide, wco_X1_take, win_X1⟩, by decide, ⟨_, _, rfl⟩, wml_X1_37, wim_X1_take, wse_X1_take⟩
theorem cvX1_40 : CvOk RX1 40 1 yX1_expect cX1_expect 2 none 1 := ⟨⟨⟨by decide, by decide, rfl⟩, by decide, wco_X1_expect, win_X1⟩, by decide, ⟨_, _, rfl⟩, wml_X1_40, wim_X1_expect, wse_X1_expect⟩
theorem cvX1_44 : CvOk RX1 44 1 yX1_readEither cX1_readEither 2 none 0 := ⟨⟨⟨by decide, by decide, rfl⟩, by decide, wco_X1_readEither, win_X1⟩, by decide, ⟨_, _, rfl⟩, wml_X1_44, wim_X1_readEither, wse_X1_readEither⟩
theorem cvX1_47 : CvOk RX1 47 3 yX3_endPart cX3_endPart 2 none 1 := ⟨⟨⟨by decide, by decide, rfl⟩, by decide, wco_X3_endPart, win_X3⟩, by decide, ⟨_, _, rfl⟩, wml_X1_47, wim_X3_endPart, wse_X3_endPart⟩
theorem cvX1_53 : CvOk RX1 53 1 yX1_fail cX1_fail 1 none 0 := ⟨⟨⟨by decide, by decide, rfl⟩, by decide, wco_X1_fail, win_X1⟩, by decide, ⟨_, _, rfl⟩, wml_X1_53, wim_X1_fail, wse_X1_fail⟩
theorem cvX1_59 : CvOk RX1 59 1 yX1_readBoth cX1_readBoth 2 none 0 := ⟨⟨⟨by decide, by decide, rfl⟩, by decide, wco_X1_readBoth, win_X1⟩, by decide, ⟨_, _, rfl⟩, wml_X1_59, wim_X1_readBoth, wse_X1_readBoth⟩
theorem cvX1_62 : CvOk RX1 62 3 yX3_append cX3_append 2 none 1 := ⟨⟨⟨by decide, by decide, rfl⟩, by decide, wco_X3_append, win_X3⟩, by decide, ⟨_, _, rfl⟩, wml_X1_62, wim_X3_append, wse_X3_append⟩
theorem cvX1_65 : CvOk RX1 65 1 yX1_readNot cX1_readNot 2 none 0 := ⟨⟨⟨by decide, by decide, rfl⟩, by decide, wco_X1_readNot, win_X1⟩, by decide, ⟨_, _, rfl⟩, wml_X1_65, wim_X1_readNot, wse_X1_readNot⟩
theorem cvX1_68 : CvOk RX1 68 1 yX1_takeOpening cX1_takeOpening 1 (some .boolean) 0 := ⟨⟨⟨by decide, by decide, rfl⟩, by decide, wco_X1_takeOpening, win_X1⟩, by decide, ⟨_, _, rfl⟩, wml_X1_68, wim_X1_takeOpening, wse_X1_takeOpening⟩
theorem cvX1_72 : CvOk RX1 72 1 yX1_readSum cX1_readSum 3 none 0 := ⟨⟨⟨by decide, by decide, rfl⟩, by decide, wco_X1_readSum, win_X1⟩, by decide, ⟨_, _, rfl⟩, wml_X1_72, wim_X1_readSum, wse_X1_readSum⟩
theorem cvX1_75 : CvOk RX1 75 1 yX1_readTerm cX1_readTerm 2 none 0 := ⟨⟨⟨by decide, by decide, rfl⟩, by decide, wco_X1_readTerm, win_X1⟩, by decide, ⟨_, _, rfl⟩, wml_X1_75, wim_X1_readTerm, wse_X1_readTerm⟩
theorem cvX1_78 : CvOk RX1 78 1 yX1_readOne cX1_readOne 1 none 0 := ⟨⟨⟨by decide, by decide, rfl⟩, by decide, wco_X1_readOne, win_X1⟩, by decide, ⟨_, _, rfl⟩, wml_X1_78, wim_X1_readOne, wse_X1_readOne⟩
theorem cvX1_91 : CvOk RX1 91 1 yX1_takeWord cX1_takeWord 1 none 0 := ⟨⟨⟨by decide, by decide, rfl⟩, by decide, wco_X1_takeWord, win_X1⟩, by decide, ⟨_, _, rfl⟩, wml_X1_91, wim_X1_takeWord, wse_X1_takeWord⟩
theorem cvX1_97 : CvOk RX1 97 1 yX1_takeAmount cX1_takeAmount 1 none 0 := ⟨⟨⟨by decide, by decide, rfl⟩, by decide, wco_X1_takeAmount, win_X1⟩, by decide, ⟨_, _, rfl⟩, wml_X1_97, wim_X1_takeAmount, wse_X1_takeAmount⟩
theorem cvX1_106 : CvOk RX1 106 1 yX1_spells cX1_spells 3 (some .boolean) 1 := ⟨⟨⟨by decide, by decide, rfl⟩, by decide, wco_X1_spells, win_X1⟩, by decide, ⟨_, _, rfl⟩, wml_X1_106, wim_X1_spells, wse_X1_spells⟩
theorem csX1_84 : CsOk RX1 84 yX1_isBlank cX1_isBlank 1 (some .boolean) 1 := ⟨⟨⟨by decide, by decide, rfl⟩, by decide, wco_X1_isBlank, win_X1⟩, wml_X1_84, wst_X1_isBlank⟩
theorem csX1_88 : CsOk RX1 88 yX1_isLetter cX1_isLetter 1 (some .boolean) 1 := ⟨⟨⟨by decide, by decide, rfl⟩, by decide, wco_X1_isLetter, win_X1⟩, wml_X1_88, wst_X1_isLetter⟩
theorem csX1_94 : CsOk RX1 94 yX1_isDigit cX1_isDigit 1 (some .boolean) 1 := ⟨⟨⟨by decide, by decide, rfl⟩, by decide, wco_X1_isDigit, win_X1⟩, wml_X1_94, wst_X1_isDigit⟩
theorem csX1_100 : CsOk RX1 100 yX1_signOf cX1_signOf 1 (some .int) 1 := ⟨⟨⟨by decide, by decide, rfl⟩, by decide, wco_X1_signOf, win_X1⟩, wml_X1_100, wst_X1_signOf⟩
def fX1_append (t : Nat) (x1 : Int32) (w : Wd) : Option (Unit × Wd) :=
  dr (gR w t 0) 8 w (fun a_1 => if (Int32.ofNat (ln a_1)) ≤ (gI w t 1) then
    (some ((), w))
  else
    (dr (gR w t 0) 8 w (fun a_2 => grd (vin (gI w t 1) (ln a_2)) (lw (sI w a_2 (gI w t 1).toNatClampNeg x1) (fun w_3 => lw (sI w_3 t 1 ((gI w_3 t 1) + (1 : Int32))) (fun w_4 => some ((), w_4)))))))
set_option maxHeartbeats 4000000 in
theorem mX1_append {Γ : En} {t : Nat} {x1 : Int32} {w : Wd} (ht : t < wn w ∧ kd t = 1) : MtV Γ yX1_append cX1_append 2 none 2 0 0 [rv Γ (some t), .int x1] w (fX1_append t x1 w) := by
  refine mtV [.inr (.inl (some t)), .inl x1] rfl (Nat.le_of_ble_eq_true rfl) (fun X hΓ hnL hn0 h _ hr hF => ?_)
  subst hΓ
  have ht : InN X t 1 := ⟨by rw [hn0]; exact ht.1, ht.2⟩
  have h : Ok X cX1_append RX1 2 0 0 := h
  have hj : ∀ j, j < 2 → j < nLX X := fun j q => by rw [hnL]; exact q
  show G X 0 0 0 [(0, .inr (.inl (some t))), (1, .inl x1)] [] w
  unfold fX1_append at hF
  refine g_aload_n (pc := 0) h 0 rfl dX1_append_0 ?_
  refine g_getI (pc := 1) h fdX1_15 (inw ht) (by decide) dX1_append_1 ?_
  refine g_aload_n (pc := 4) h 0 rfl dX1_append_4 ?_
  refine g_getR (pc := 5) h fdX1_9 (inw ht) rfl dX1_append_5 ?_
  refine g_dr hF (fun a_1 e_a_1 h_a_1 hF => ?_)
  rw [e_a_1]
  refine g_alen (pc := 8) h h_a_1 rfl dX1_append_8 ?_
  refine g_icmp_ge (pc := 9) (tgt := 32) h dX1_append_9 (by decide) hF (fun hF => ?_) (fun hF => ?_)
  · exact g_vret (pc := 32) h hr ⟨Nat.le_refl _, Nat.le_refl _⟩ hF dX1_append_32
  · refine g_aload_n (pc := 12) h 0 rfl dX1_append_12 ?_
    refine g_getR (pc := 13) h fdX1_9 (inw ht) rfl dX1_append_13 ?_
    refine g_aload_n (pc := 16) h 0 rfl dX1_append_16 ?_
    refine g_getI (pc := 17) h fdX1_15 (inw ht) (by decide) dX1_append_17 ?_
    refine g_iload_n (pc := 20) h 1 rfl dX1_append_20 ?_
    refine g_dr hF (fun a_2 e_a_2 h_a_2 hF => ?_)
    rw [e_a_2]
    obtain ⟨g_1, hF⟩ := grd_ok hF
    refine g_iast (pc := 21) h h_a_2 g_1 dX1_append_21 ?_
    refine g_w hF (fun w_3 hF => ?_)
    refine g_aload_n (pc := 22) h 0 rfl dX1_append_22 ?_
    refine g_dup (pc := 23) h dX1_append_23 rv_cat ?_
    refine g_getI (pc := 24) h fdX1_15 (inw ht) (by decide) dX1_append_24 ?_
    refine g_iconst (pc := 27) (v := (1 : Int32)) h dX1_append_27 (by decide) ?_
    refine g_iadd (pc := 28) h dX1_append_28 ?_
    refine g_putI (pc := 29) h fdX1_15 (inw ht) (by decide) ⟨rfl, rfl⟩ dX1_append_29 ?_
    refine g_w hF (fun w_4 hF => ?_)
    exact g_vret (pc := 32) h hr ⟨Nat.le_refl _, Nat.le_refl _⟩ hF dX1_append_32
def fX1_fail_16 (t : Nat) (w : Wd) : Option (Unit × Wd) :=
  lw (sI w t 4 (0 : Int32)) (fun w_2 => some ((), w_2))
set_option maxHeartbeats 4000000 in
theorem kX1_fail_16 {X : Cx} (h : Ok X cX1_fail RX1 2 0 0) (hr : RetV X 0 0) (hnL : nLX X = 1) {t : Nat} (ht : InN X t 1) : ∀ (w : Wd), OkR X (fun _ : Unit => Value.null) (fX1_fail_16 t  w) → G X 0 0 16 [(0, .inr (.inl (some t)))] [] w := by
  have hj : ∀ j, j < 1 → j < nLX X := fun j q => by rw [hnL]; exact q
  intro w hF
  unfold fX1_fail_16 at hF
  refine g_aload_n (pc := 16) h 0 rfl dX1_fail_16 ?_
  refine g_iconst (pc := 17) (v := (0 : Int32)) h dX1_fail_17 (by decide) ?_
  refine g_putI (pc := 18) h fdX1_50 (inw ht) (by decide) ⟨rfl, rfl⟩ dX1_fail_18 ?_
  refine g_w hF (fun w_2 hF => ?_)
  exact g_vret (pc := 21) h hr ⟨Nat.le_refl _, Nat.le_refl _⟩ hF dX1_fail_21
def fX1_fail (t : Nat) (w : Wd) : Option (Unit × Wd) :=
  if (gI w t 7) = (-1 : Int32) then
    (lw (sI w t 7 (gI w t 3)) (fun w_1 => fX1_fail_16 t w_1))
  else
    (fX1_fail_16 t w)
set_option maxHeartbeats 4000000 in
theorem mX1_fail {Γ : En} {t : Nat} {w : Wd} (ht : t < wn w ∧ kd t = 1) : MtV Γ yX1_fail cX1_fail 1 none 2 0 0 [rv Γ (some t)] w (fX1_fail t w) := by
  refine mtV [.inr (.inl (some t))] rfl (Nat.le_of_ble_eq_true rfl) (fun X hΓ hnL hn0 h _ hr hF => ?_)
  subst hΓ
  have ht : InN X t 1 := ⟨by rw [hn0]; exact ht.1, ht.2⟩
  have h : Ok X cX1_fail RX1 2 0 0 := h
  have hj : ∀ j, j < 1 → j < nLX X := fun j q => by rw [hnL]; exact q
  show G X 0 0 0 [(0, .inr (.inl (some t)))] [] w
  unfold fX1_fail at hF
  refine g_aload_n (pc := 0) h 0 rfl dX1_fail_0 ?_
  refine g_getI (pc := 1) h fdX1_34 (inw ht) (by decide) dX1_fail_1 ?_
  refine g_iconst (pc := 4) (v := (-1 : Int32)) h dX1_fail_4 (by decide) ?_
  refine g_icmp_ne (pc := 5) (tgt := 16) h dX1_fail_5 (by decide) hF (fun hF => ?_) (fun hF => ?_)
  · exact kX1_fail_16 h hr hnL ht _ hF
  · refine g_aload_n (pc := 8) h 0 rfl dX1_fail_8 ?_
    refine g_aload_n (pc := 9) h 0 rfl dX1_fail_9 ?_
    refine g_getI (pc := 10) h fdX1_56 (inw ht) (by decide) dX1_fail_10 ?_
    refine g_putI (pc := 13) h fdX1_34 (inw ht) (by decide) ⟨rfl, rfl⟩ dX1_fail_13 ?_
    refine g_w hF (fun w_1 hF => ?_)
    exact kX1_fail_16 h hr hnL ht _ hF
def fX1_isBlank_12 (w : Wd) : Option (Int32 × Wd) :=
  some ((1 : Int32), w)
set_option maxHeartbeats 4000000 in
theorem kX1_isBlank_12 {X : Cx} (h : Ok X cX1_isBlank RX1 2 0 0) (hr : RetI X .boolean 0 0) (hnL : nLX X = 1) : ∀ (w : Wd), OkR X Value.int (fX1_isBlank_12  w) → G X 0 0 12 [] [] w := by
  have hj : ∀ j, j < 1 → j < nLX X := fun j q => by rw [hnL]; exact q
  intro w hF
  unfold fX1_isBlank_12 at hF
  refine g_iconst (pc := 12) (v := (1 : Int32)) h dX1_isBlank_12 (by decide) ?_
  refine g_goto (pc := 13) (tgt := 17) h dX1_isBlank_13 (by decide) ?_
  exact g_zret (pc := 17) h hr ⟨Nat.le_refl _, Nat.le_refl _⟩ (by decide) hF dX1_isBlank_17
def fX1_isBlank (x0 : Int32) (w : Wd) : Option (Int32 × Wd) :=
  if x0 = (32 : Int32) then
    (fX1_isBlank_12 w)
  else
    (if x0 = (10 : Int32) then
      (fX1_isBlank_12 w)
    else
      (some ((0 : Int32), w)))
set_option maxHeartbeats 4000000 in
theorem mX1_isBlank {Γ : En} {x0 : Int32} {w : Wd} : MtI Γ yX1_isBlank cX1_isBlank 1 (some .boolean) 2 0 0 [.int x0] w (fX1_isBlank x0 w) := by
  refine mtI [.inl x0] rfl (Nat.le_of_ble_eq_true rfl) (fun X hΓ hnL hn0 h _ hr hF => ?_)
  subst hΓ
  have h : Ok X cX1_isBlank RX1 2 0 0 := h
  have hj : ∀ j, j < 1 → j < nLX X := fun j q => by rw [hnL]; exact q
  show G X 0 0 0 [(0, .inl x0)] [] w
  unfold fX1_isBlank at hF
  refine g_iload_n (pc := 0) h 0 rfl dX1_isBlank_0 ?_
  refine g_bipush (pc := 1) (v := (32 : Int32)) h dX1_isBlank_1 (by decide) ?_
  refine g_icmp_eq (pc := 3) (tgt := 12) h dX1_isBlank_3 (by decide) hF (fun hF => ?_) (fun hF => ?_)
  · refine g_lv (lv' := []) [] rfl ?_
    exact kX1_isBlank_12 h hr hnL _ hF
  · refine g_iload_n (pc := 6) h 0 rfl dX1_isBlank_6 ?_
    refine g_bipush (pc := 7) (v := (10 : Int32)) h dX1_isBlank_7 (by decide) ?_
    refine g_icmp_ne (pc := 9) (tgt := 16) h dX1_isBlank_9 (by decide) hF (fun hF => ?_) (fun hF => ?_)
    · refine g_iconst (pc := 16) (v := (0 : Int32)) h dX1_isBlank_16 (by decide) ?_
      exact g_zret (pc := 17) h hr ⟨Nat.le_refl _, Nat.le_refl _⟩ (by decide) hF dX1_isBlank_17
    · refine g_lv (lv' := []) [] rfl ?_
      exact kX1_isBlank_12 h hr hnL _ hF
def fX1_isDigit (x0 : Int32) (w : Wd) : Option (Int32 × Wd) :=
  if x0 < (48 : Int32) then
    (some ((0 : Int32), w))
  else
    (if (57 : Int32) < x0 then
      (some ((0 : Int32), w))
    else
      (some ((1 : Int32), w)))
set_option maxHeartbeats 4000000 in
theorem mX1_isDigit {Γ : En} {x0 : Int32} {w : Wd} : MtI Γ yX1_isDigit cX1_isDigit 1 (some .boolean) 2 0 0 [.int x0] w (fX1_isDigit x0 w) := by
  refine mtI [.inl x0] rfl (Nat.le_of_ble_eq_true rfl) (fun X hΓ hnL hn0 h _ hr hF => ?_)
  subst hΓ
  have h : Ok X cX1_isDigit RX1 2 0 0 := h
  have hj : ∀ j, j < 1 → j < nLX X := fun j q => by rw [hnL]; exact q
  show G X 0 0 0 [(0, .inl x0)] [] w
  unfold fX1_isDigit at hF
  refine g_iload_n (pc := 0) h 0 rfl dX1_isDigit_0 ?_
  refine g_bipush (pc := 1) (v := (48 : Int32)) h dX1_isDigit_1 (by decide) ?_
  refine g_icmp_lt (pc := 3) (tgt := 16) h dX1_isDigit_3 (by decide) hF (fun hF => ?_) (fun hF => ?_)
  · refine g_iconst (pc := 16) (v := (0 : Int32)) h dX1_isDigit_16 (by decide) ?_
    exact g_zret (pc := 17) h hr ⟨Nat.le_refl _, Nat.le_refl _⟩ (by decide) hF dX1_isDigit_17
  · refine g_iload_n (pc := 6) h 0 rfl dX1_isDigit_6 ?_
    refine g_bipush (pc := 7) (v := (57 : Int32)) h dX1_isDigit_7 (by decide) ?_
    refine g_icmp_gt (pc := 9) (tgt := 16) h dX1_isDigit_9 (by decide) hF (fun hF => ?_) (fun hF => ?_)
    · refine g_iconst (pc := 16) (v := (0 : Int32)) h dX1_isDigit_16 (by decide) ?_
      exact g_zret (pc := 17) h hr ⟨Nat.le_refl _, Nat.le_refl _⟩ (by decide) hF dX1_isDigit_17
    · refine g_iconst (pc := 12) (v := (1 : Int32)) h dX1_isDigit_12 (by decide) ?_
      refine g_goto (pc := 13) (tgt := 17) h dX1_isDigit_13 (by decide) ?_
      exact g_zret (pc := 17) h hr ⟨Nat.le_refl _, Nat.le_refl _⟩ (by decide) hF dX1_isDigit_17
def fX1_isLetter (x0 : Int32) (w : Wd) : Option (Int32 × Wd) :=
  if x0 < (97 : Int32) then
    (some ((0 : Int32), w))
  else
    (if (122 : Int32) < x0 then
      (some ((0 : Int32), w))
    else
      (some ((1 : Int32), w)))
set_option maxHeartbeats 4000000 in
theorem mX1_isLetter {Γ : En} {x0 : Int32} {w : Wd} : MtI Γ yX1_isLetter cX1_isLetter 1 (some .boolean) 2 0 0 [.int x0] w (fX1_isLetter x0 w) := by
  refine mtI [.inl x0] rfl (Nat.le_of_ble_eq_true rfl) (fun X hΓ hnL hn0 h _ hr hF => ?_)
  subst hΓ
  have h : Ok X cX1_isLetter RX1 2 0 0 := h
  have hj : ∀ j, j < 1 → j < nLX X := fun j q => by rw [hnL]; exact q
  show G X 0 0 0 [(0, .inl x0)] [] w
  unfold fX1_isLetter at hF
  refine g_iload_n (pc := 0) h 0 rfl dX1_isLetter_0 ?_
  refine g_bipush (pc := 1) (v := (97 : Int32)) h dX1_isLetter_1 (by decide) ?_
  refine g_icmp_lt (pc := 3) (tgt := 16) h dX1_isLetter_3 (by decide) hF (fun hF => ?_) (fun hF => ?_)
  · refine g_iconst (pc := 16) (v := (0 : Int32)) h dX1_isLetter_16 (by decide) ?_
    exact g_zret (pc := 17) h hr ⟨Nat.le_refl _, Nat.le_refl _⟩ (by decide) hF dX1_isLetter_17
  · refine g_iload_n (pc := 6) h 0 rfl dX1_isLetter_6 ?_
    refine g_bipush (pc := 7) (v := (122 : Int32)) h dX1_isLetter_7 (by decide) ?_
    refine g_icmp_gt (pc := 9) (tgt := 16) h dX1_isLetter_9 (by decide) hF (fun hF => ?_) (fun hF => ?_)
    · refine g_iconst (pc := 16) (v := (0 : Int32)) h dX1_isLetter_16 (by decide) ?_
      exact g_zret (pc := 17) h hr ⟨Nat.le_refl _, Nat.le_refl _⟩ (by decide) hF dX1_isLetter_17
    · refine g_iconst (pc := 12) (v := (1 : Int32)) h dX1_isLetter_12 (by decide) ?_
      refine g_goto (pc := 13) (tgt := 17) h dX1_isLetter_13 (by decide) ?_
      exact g_zret (pc := 17) h hr ⟨Nat.le_refl _, Nat.le_refl _⟩ (by decide) hF dX1_isLetter_17
def fX1_signOf (x0 : Int32) (w : Wd) : Option (Int32 × Wd) :=
  if x0 = (40 : Int32) then
    (some ((10 : Int32), w))
  else if x0 = (41 : Int32) then
    (some ((11 : Int32), w))
  else if x0 = (42 : Int32) then
    (some ((15 : Int32), w))
  else if x0 = (43 : Int32) then
    (some ((13 : Int32), w))
  else if x0 = (44 : Int32) then
    (some ((0 : Int32), w))
  else if x0 = (45 : Int32) then
    (some ((14 : Int32), w))
  else if x0 = (46 : Int32) then
    (some ((0 : Int32), w))
  else if x0 = (47 : Int32) then
    (some ((0 : Int32), w))
  else if x0 = (48 : Int32) then
    (some ((0 : Int32), w))
  else if x0 = (49 : Int32) then
    (some ((0 : Int32), w))
  else if x0 = (50 : Int32) then
    (some ((0 : Int32), w))
  else if x0 = (51 : Int32) then
    (some ((0 : Int32), w))
  else if x0 = (52 : Int32) then
    (some ((0 : Int32), w))
  else if x0 = (53 : Int32) then
    (some ((0 : Int32), w))
  else if x0 = (54 : Int32) then
    (some ((0 : Int32), w))
  else if x0 = (55 : Int32) then
    (some ((0 : Int32), w))
  else if x0 = (56 : Int32) then
    (some ((0 : Int32), w))
  else if x0 = (57 : Int32) then
    (some ((0 : Int32), w))
  else if x0 = (58 : Int32) then
    (some ((0 : Int32), w))
  else if x0 = (59 : Int32) then
    (some ((12 : Int32), w))
  else if x0 = (60 : Int32) then
    (some ((16 : Int32), w))
  else if x0 = (61 : Int32) then
    (some ((17 : Int32), w))
  else 
    (some ((0 : Int32), w))
set_option maxHeartbeats 4000000 in
theorem mX1_signOf {Γ : En} {x0 : Int32} {w : Wd} : MtI Γ yX1_signOf cX1_signOf 1 (some .int) 2 0 0 [.int x0] w (fX1_signOf x0 w) := by
  refine mtI [.inl x0] rfl (Nat.le_of_ble_eq_true rfl) (fun X hΓ hnL hn0 h _ hr hF => ?_)
  subst hΓ
  have h : Ok X cX1_signOf RX1 2 0 0 := h
  have hj : ∀ j, j < 1 → j < nLX X := fun j q => by rw [hnL]; exact q
  show G X 0 0 0 [(0, .inl x0)] [] w
  unfold fX1_signOf at hF
  refine g_iload_n (pc := 0) h 0 rfl dX1_signOf_0 ?_
  refine g_swEq (pc := 1) (off := 103) (tgt := 104) h (40 : Int32) dX1_signOf_1 (by decide) (by decide) hF (fun hF => ?_) (fun c_0 hF => ?_)
  · refine g_bipush (pc := 104) (v := (10 : Int32)) h dX1_signOf_104 (by decide) ?_
    exact g_iret (pc := 106) h hr ⟨Nat.le_refl _, Nat.le_refl _⟩ hF dX1_signOf_106
  refine g_swEq (pc := 1) (off := 106) (tgt := 107) h (41 : Int32) dX1_signOf_1 (by decide) (by decide) hF (fun hF => ?_) (fun c_1 hF => ?_)
  · refine g_bipush (pc := 107) (v := (11 : Int32)) h dX1_signOf_107 (by decide) ?_
    exact g_iret (pc := 109) h hr ⟨Nat.le_refl _, Nat.le_refl _⟩ hF dX1_signOf_109
  refine g_swEq (pc := 1) (off := 118) (tgt := 119) h (42 : Int32) dX1_signOf_1 (by decide) (by decide) hF (fun hF => ?_) (fun c_2 hF => ?_)
  · refine g_bipush (pc := 119) (v := (15 : Int32)) h dX1_signOf_119 (by decide) ?_
    exact g_iret (pc := 121) h hr ⟨Nat.le_refl _, Nat.le_refl _⟩ hF dX1_signOf_121
  refine g_swEq (pc := 1) (off := 112) (tgt := 113) h (43 : Int32) dX1_signOf_1 (by decide) (by decide) hF (fun hF => ?_) (fun c_3 hF => ?_)
  · refine g_bipush (pc := 113) (v := (13 : Int32)) h dX1_signOf_113 (by decide) ?_
    exact g_iret (pc := 115) h hr ⟨Nat.le_refl _, Nat.le_refl _⟩ hF dX1_signOf_115
  refine g_swEq (pc := 1) (off := 127) (tgt := 128) h (44 : Int32) dX1_signOf_1 (by decide) (by decide) hF (fun hF => ?_) (fun c_4 hF => ?_)
  · refine g_iconst (pc := 128) (v := (0 : Int32)) h dX1_signOf_128 (by decide) ?_
    exact g_iret (pc := 129) h hr ⟨Nat.le_refl _, Nat.le_refl _⟩ hF dX1_signOf_129
  refine g_swEq (pc := 1) (off := 115) (tgt := 116) h (45 : Int32) dX1_signOf_1 (by decide) (by decide) hF (fun hF => ?_) (fun c_5 hF => ?_)
  · refine g_bipush (pc := 116) (v := (14 : Int32)) h dX1_signOf_116 (by decide) ?_
    exact g_iret (pc := 118) h hr ⟨Nat.le_refl _, Nat.le_refl _⟩ hF dX1_signOf_118
  refine g_swEq (pc := 1) (off := 127) (tgt := 128) h (46 : Int32) dX1_signOf_1 (by decide) (by decide) hF (fun hF => ?_) (fun c_6 hF => ?_)
  · refine g_iconst (pc := 128) (v := (0 : Int32)) h dX1_signOf_128 (by decide) ?_
    exact g_iret (pc := 129) h hr ⟨Nat.le_refl _, Nat.le_refl _⟩ hF dX1_signOf_129
  refine g_swEq (pc := 1) (off := 127) (tgt := 128) h (47 : Int32) dX1_signOf_1 (by decide) (by decide) hF (fun hF => ?_) (fun c_7 hF => ?_)
  · refine g_iconst (pc := 128) (v := (0 : Int32)) h dX1_signOf_128 (by decide) ?_
    exact g_iret (pc := 129) h hr ⟨Nat.le_refl _, Nat.le_refl _⟩ hF dX1_signOf_129
  refine g_swEq (pc := 1) (off := 127) (tgt := 128) h (48 : Int32) dX1_signOf_1 (by decide) (by decide) hF (fun hF => ?_) (fun c_8 hF => ?_)
  · refine g_iconst (pc := 128) (v := (0 : Int32)) h dX1_signOf_128 (by decide) ?_
    exact g_iret (pc := 129) h hr ⟨Nat.le_refl _, Nat.le_refl _⟩ hF dX1_signOf_129
  refine g_swEq (pc := 1) (off := 127) (tgt := 128) h (49 : Int32) dX1_signOf_1 (by decide) (by decide) hF (fun hF => ?_) (fun c_9 hF => ?_)
  · refine g_iconst (pc := 128) (v := (0 : Int32)) h dX1_signOf_128 (by decide) ?_
    exact g_iret (pc := 129) h hr ⟨Nat.le_refl _, Nat.le_refl _⟩ hF dX1_signOf_129
  refine g_swEq (pc := 1) (off := 127) (tgt := 128) h (50 : Int32) dX1_signOf_1 (by decide) (by decide) hF (fun hF => ?_) (fun c_10 hF => ?_)
  · refine g_iconst (pc := 128) (v := (0 : Int32)) h dX1_signOf_128 (by decide) ?_
    exact g_iret (pc := 129) h hr ⟨Nat.le_refl _, Nat.le_refl _⟩ hF dX1_signOf_129
  refine g_swEq (pc := 1) (off := 127) (tgt := 128) h (51 : Int32) dX1_signOf_1 (by decide) (by decide) hF (fun hF => ?_) (fun c_11 hF => ?_)
  · refine g_iconst (pc := 128) (v := (0 : Int32)) h dX1_signOf_128 (by decide) ?_
    exact g_iret (pc := 129) h hr ⟨Nat.le_refl _, Nat.le_refl _⟩ hF dX1_signOf_129
  refine g_swEq (pc := 1) (off := 127) (tgt := 128) h (52 : Int32) dX1_signOf_1 (by decide) (by decide) hF (fun hF => ?_) (fun c_12 hF => ?_)
  · refine g_iconst (pc := 128) (v := (0 : Int32)) h dX1_signOf_128 (by decide) ?_
    exact g_iret (pc := 129) h hr ⟨Nat.le_refl _, Nat.le_refl _⟩ hF dX1_signOf_129
  refine g_swEq (pc := 1) (off := 127) (tgt := 128) h (53 : Int32) dX1_signOf_1 (by decide) (by decide) hF (fun hF => ?_) (fun c_13 hF => ?_)
  · refine g_iconst (pc := 128) (v := (0 : Int32)) h dX1_signOf_128 (by decide) ?_
    exact g_iret (pc := 129) h hr ⟨Nat.le_refl _, Nat.le_refl _⟩ hF dX1_signOf_129
  refine g_swEq (pc := 1) (off := 127) (tgt := 128) h (54 : Int32) dX1_signOf_1 (by decide) (by decide) hF (fun hF => ?_) (fun c_14 hF => ?_)
  · refine g_iconst (pc := 128) (v := (0 : Int32)) h dX1_signOf_128 (by decide) ?_
    exact g_iret (pc := 129) h hr ⟨Nat.le_refl _, Nat.le_refl _⟩ hF dX1_signOf_129
  refine g_swEq (pc := 1) (off := 127) (tgt := 128) h (55 : Int32) dX1_signOf_1 (by decide) (by decide) hF (fun hF => ?_) (fun c_15 hF => ?_)
  · refine g_iconst (pc := 128) (v := (0 : Int32)) h dX1_signOf_128 (by decide) ?_
    exact g_iret (pc := 129) h hr ⟨Nat.le_refl _, Nat.le_refl _⟩ hF dX1_signOf_129
  refine g_swEq (pc := 1) (off := 127) (tgt := 128) h (56 : Int32) dX1_signOf_1 (by decide) (by decide) hF (fun hF => ?_) (fun c_16 hF => ?_)
  · refine g_iconst (pc := 128) (v := (0 : Int32)) h dX1_signOf_128 (by decide) ?_
    exact g_iret (pc := 129) h hr ⟨Nat.le_refl _, Nat.le_refl _⟩ hF dX1_signOf_129
  refine g_swEq (pc := 1) (off := 127) (tgt := 128) h (57 : Int32) dX1_signOf_1 (by decide) (by decide) hF (fun hF => ?_) (fun c_17 hF => ?_)
  · refine g_iconst (pc := 128) (v := (0 : Int32)) h dX1_signOf_128 (by decide) ?_
    exact g_iret (pc := 129) h hr ⟨Nat.le_refl _, Nat.le_refl _⟩ hF dX1_signOf_129
  refine g_swEq (pc := 1) (off := 127) (tgt := 128) h (58 : Int32) dX1_signOf_1 (by decide) (by decide) hF (fun hF => ?_) (fun c_18 hF => ?_)
  · refine g_iconst (pc := 128) (v := (0 : Int32)) h dX1_signOf_128 (by decide) ?_
    exact g_iret (pc := 129) h hr ⟨Nat.le_refl _, Nat.le_refl _⟩ hF dX1_signOf_129
  refine g_swEq (pc := 1) (off := 109) (tgt := 110) h (59 : Int32) dX1_signOf_1 (by decide) (by decide) hF (fun hF => ?_) (fun c_19 hF => ?_)
  · refine g_bipush (pc := 110) (v := (12 : Int32)) h dX1_signOf_110 (by decide) ?_
    exact g_iret (pc := 112) h hr ⟨Nat.le_refl _, Nat.le_refl _⟩ hF dX1_signOf_112
  refine g_swEq (pc := 1) (off := 121) (tgt := 122) h (60 : Int32) dX1_signOf_1 (by decide) (by decide) hF (fun hF => ?_) (fun c_20 hF => ?_)
  · refine g_bipush (pc := 122) (v := (16 : Int32)) h dX1_signOf_122 (by decide) ?_
    exact g_iret (pc := 124) h hr ⟨Nat.le_refl _, Nat.le_refl _⟩ hF dX1_signOf_124
  refine g_swEq (pc := 1) (off := 124) (tgt := 125) h (61 : Int32) dX1_signOf_1 (by decide) (by decide) hF (fun hF => ?_) (fun c_21 hF => ?_)
  · refine g_bipush (pc := 125) (v := (17 : Int32)) h dX1_signOf_125 (by decide) ?_
    exact g_iret (pc := 127) h hr ⟨Nat.le_refl _, Nat.le_refl _⟩ hF dX1_signOf_127
  refine g_swOut (pc := 1) (tgt := 128) h dX1_signOf_1 (sw_out (q := 22) (fun j hj9 => ?_)) (by decide) ?_
  · match j, hj9 with
    | 0, _ => exact c_0
    | 1, _ => exact c_1
    | 2, _ => exact c_2
    | 3, _ => exact c_3
    | 4, _ => exact c_4
    | 5, _ => exact c_5
    | 6, _ => exact c_6
    | 7, _ => exact c_7
    | 8, _ => exact c_8
    | 9, _ => exact c_9
    | 10, _ => exact c_10
    | 11, _ => exact c_11
    | 12, _ => exact c_12
    | 13, _ => exact c_13
    | 14, _ => exact c_14
    | 15, _ => exact c_15
    | 16, _ => exact c_16
    | 17, _ => exact c_17
    | 18, _ => exact c_18
    | 19, _ => exact c_19
    | 20, _ => exact c_20
    | 21, _ => exact c_21
    | j + 22, hj9 => exact absurd hj9 (by omega)
  · refine g_iconst (pc := 128) (v := (0 : Int32)) h dX1_signOf_128 (by decide) ?_
    exact g_iret (pc := 129) h hr ⟨Nat.le_refl _, Nat.le_refl _⟩ hF dX1_signOf_129
def fX1_takeAmount_87 (t : Nat) (y0 : Int32) (w : Wd) : Option (Unit × Wd) :=
  lw (sI w t 4 y0) (fun w_8 => some ((), w_8))
set_option maxHeartbeats 4000000 in
theorem kX1_takeAmount_87 {X : Cx} (h : Ok X cX1_takeAmount RX1 3 0 0) (hr : RetV X 0 0) (hnL : nLX X = 1) {t : Nat} (ht : InN X t 1) : ∀ (y0 : Int32) (w : Wd), OkR X (fun _ : Unit => Value.null) (fX1_takeAmount_87 t y0 w) → G X 0 0 87 [] [.int y0, rv X.1 (some t)] w := by
  have hj : ∀ j, j < 1 → j < nLX X := fun j q => by rw [hnL]; exact q
  intro y0 w hF
  unfold fX1_takeAmount_87 at hF
  refine g_putI (pc := 87) h fdX1_50 (inw ht) (by decide) ⟨rfl, rfl⟩ dX1_takeAmount_87 ?_
  refine g_w hF (fun w_8 hF => ?_)
  exact g_vret (pc := 90) h hr ⟨Nat.le_refl _, Nat.le_refl _⟩ hF dX1_takeAmount_90
def fX1_takeAmount_68 (t : Nat) (w : Wd) : Option (Unit × Wd) :=
  if ((gI w t 2) - (gI w t 3)) ≤ (4 : Int32) then
    (fX1_takeAmount_87 t (2 : Int32) w)
  else
    (fX1_takeAmount_87 t (0 : Int32) w)
set_option maxHeartbeats 4000000 in
theorem kX1_takeAmount_68 {X : Cx} (h : Ok X cX1_takeAmount RX1 3 0 0) (hr : RetV X 0 0) (hnL : nLX X = 1) {t : Nat} (ht : InN X t 1) : ∀ (w : Wd), OkR X (fun _ : Unit => Value.null) (fX1_takeAmount_68 t  w) → G X 0 0 68 [(0, .inr (.inl (some t)))] [] w := by
  have hj : ∀ j, j < 1 → j < nLX X := fun j q => by rw [hnL]; exact q
  intro w hF
  unfold fX1_takeAmount_68 at hF
  refine g_aload_n (pc := 68) h 0 rfl dX1_takeAmount_68 ?_
  refine g_aload_n (pc := 69) h 0 rfl dX1_takeAmount_69 ?_
  refine g_getI (pc := 70) h fdX1_28 (inw ht) (by decide) dX1_takeAmount_70 ?_
  refine g_aload_n (pc := 73) h 0 rfl dX1_takeAmount_73 ?_
  refine g_getI (pc := 74) h fdX1_56 (inw ht) (by decide) dX1_takeAmount_74 ?_
  refine g_isub (pc := 77) h dX1_takeAmount_77 ?_
  refine g_iconst (pc := 78) (v := (4 : Int32)) h dX1_takeAmount_78 (by decide) ?_
  refine g_icmp_le (pc := 79) (tgt := 86) h dX1_takeAmount_79 (by decide) hF (fun hF => ?_) (fun hF => ?_)
  · refine g_iconst (pc := 86) (v := (2 : Int32)) h dX1_takeAmount_86 (by decide) ?_
    refine g_lv (lv' := []) [] rfl ?_
    exact kX1_takeAmount_87 h hr hnL ht _ _ hF
  · refine g_iconst (pc := 82) (v := (0 : Int32)) h dX1_takeAmount_82 (by decide) ?_
    refine g_goto (pc := 83) (tgt := 87) h dX1_takeAmount_83 (by decide) ?_
    refine g_lv (lv' := []) [] rfl ?_
    exact kX1_takeAmount_87 h hr hnL ht _ _ hF
def fX1_takeAmount_5 (t : Nat) : Nat → Wd → Option (Unit × Wd)
  | 0 => fun _ => none
  | n + 1 => fun w =>
    if (gI w t 1) ≤ (gI w t 2) then
      (fX1_takeAmount_68 t w)
    else
      (dr (gR w t 0) 8 w (fun a_2 => grd (vin (gI w t 2) (ln a_2)) (bnd (fX1_isDigit (gI w a_2 (gI w t 2).toNatClampNeg) w) (fun x_3 w_4 => if x_3 = 0 then
        (fX1_takeAmount_68 t w_4)
      else
        (dr (gR w_4 t 0) 8 w_4 (fun a_5 => grd (vin (gI w_4 t 2) (ln a_5)) (lw (sI w_4 t 5 ((((gI w_4 t 5) * (10 : Int32)) + (gI w_4 a_5 (gI w_4 t 2).toNatClampNeg)) - (48 : Int32))) (fun w_6 => lw (sI w_6 t 2 ((gI w_6 t 2) + (1 : Int32))) (fun w_7 => fX1_takeAmount_5 t n w_7)))))))))
set_option maxHeartbeats 4000000 in
theorem kX1_takeAmount_5 {X : Cx} (h : Ok X cX1_takeAmount RX1 3 0 0) (hr : RetV X 0 0) (hnL : nLX X = 1) {t : Nat} (ht : InN X t 1) : ∀ (fu : Nat) (w : Wd), OkR X (fun _ : Unit => Value.null) (fX1_takeAmount_5 t fu  w) → G X 0 0 5 [(0, .inr (.inl (some t)))] [] w := by
  have hj : ∀ j, j < 1 → j < nLX X := fun j q => by rw [hnL]; exact q
  intro fu
  induction fu with
  | zero => intro w hF; exact okN hF
  | succ fu ih =>
    intro w hF
    rw [fX1_takeAmount_5] at hF
    refine g_aload_n (pc := 5) h 0 rfl dX1_takeAmount_5 ?_
    refine g_getI (pc := 6) h fdX1_28 (inw ht) (by decide) dX1_takeAmount_6 ?_
    refine g_aload_n (pc := 9) h 0 rfl dX1_takeAmount_9 ?_
    refine g_getI (pc := 10) h fdX1_15 (inw ht) (by decide) dX1_takeAmount_10 ?_
    refine g_icmp_ge (pc := 13) (tgt := 68) h dX1_takeAmount_13 (by decide) hF (fun hF => ?_) (fun hF => ?_)
    · exact kX1_takeAmount_68 h hr hnL ht _ hF
    · refine g_aload_n (pc := 16) h 0 rfl dX1_takeAmount_16 ?_
      refine g_getR (pc := 17) h fdX1_9 (inw ht) rfl dX1_takeAmount_17 ?_
      refine g_aload_n (pc := 20) h 0 rfl dX1_takeAmount_20 ?_
      refine g_getI (pc := 21) h fdX1_28 (inw ht) (by decide) dX1_takeAmount_21 ?_
      refine g_dr hF (fun a_2 e_a_2 h_a_2 hF => ?_)
      rw [e_a_2]
      obtain ⟨g_1, hF⟩ := grd_ok hF
      refine g_iald (pc := 24) h h_a_2 g_1 dX1_takeAmount_24 ?_
      refine g_csI (pc := 25) (st := []) h mX1_isDigit csX1_94 (by decide) ⟨by decide, by decide⟩ (Nat.le_of_ble_eq_true rfl) rfl rfl dX1_takeAmount_25 hF (fun x_3 w_4 hF => ?_)
      refine g_if_eq (pc := 28) (tgt := 68) h dX1_takeAmount_28 (by decide) hF (fun hF => ?_) (fun hF => ?_)
      · exact kX1_takeAmount_68 h hr hnL ht _ hF
      · refine g_aload_n (pc := 31) h 0 rfl dX1_takeAmount_31 ?_
        refine g_aload_n (pc := 32) h 0 rfl dX1_takeAmount_32 ?_
        refine g_getI (pc := 33) h fdX1_81 (inw ht) (by decide) dX1_takeAmount_33 ?_
        refine g_bipush (pc := 36) (v := (10 : Int32)) h dX1_takeAmount_36 (by decide) ?_
        refine g_imul (pc := 38) h dX1_takeAmount_38 ?_
        refine g_aload_n (pc := 39) h 0 rfl dX1_takeAmount_39 ?_
        refine g_getR (pc := 40) h fdX1_9 (inw ht) rfl dX1_takeAmount_40 ?_
        refine g_aload_n (pc := 43) h 0 rfl dX1_takeAmount_43 ?_
        refine g_getI (pc := 44) h fdX1_28 (inw ht) (by decide) dX1_takeAmount_44 ?_
        refine g_dr hF (fun a_5 e_a_5 h_a_5 hF => ?_)
        rw [e_a_5]
        obtain ⟨g_2, hF⟩ := grd_ok hF
        refine g_iald (pc := 47) h h_a_5 g_2 dX1_takeAmount_47 ?_
        refine g_iadd (pc := 48) h dX1_takeAmount_48 ?_
        refine g_bipush (pc := 49) (v := (48 : Int32)) h dX1_takeAmount_49 (by decide) ?_
        refine g_isub (pc := 51) h dX1_takeAmount_51 ?_
        refine g_putI (pc := 52) h fdX1_81 (inw ht) (by decide) ⟨rfl, rfl⟩ dX1_takeAmount_52 ?_
        refine g_w hF (fun w_6 hF => ?_)
        refine g_aload_n (pc := 55) h 0 rfl dX1_takeAmount_55 ?_
        refine g_dup (pc := 56) h dX1_takeAmount_56 rv_cat ?_
        refine g_getI (pc := 57) h fdX1_28 (inw ht) (by decide) dX1_takeAmount_57 ?_
        refine g_iconst (pc := 60) (v := (1 : Int32)) h dX1_takeAmount_60 (by decide) ?_
        refine g_iadd (pc := 61) h dX1_takeAmount_61 ?_
        refine g_putI (pc := 62) h fdX1_28 (inw ht) (by decide) ⟨rfl, rfl⟩ dX1_takeAmount_62 ?_
        refine g_w hF (fun w_7 hF => ?_)
        refine g_goto (pc := 65) (tgt := 5) h dX1_takeAmount_65 (by decide) ?_
        exact ih _ hF
def fX1_takeAmount (t : Nat) (w : Wd) : Option (Unit × Wd) :=
  lw (sI w t 5 (0 : Int32)) (fun w_1 => fX1_takeAmount_5 t FU w_1)
set_option maxHeartbeats 4000000 in
theorem mX1_takeAmount {Γ : En} {t : Nat} {w : Wd} (ht : t < wn w ∧ kd t = 1) : MtV Γ yX1_takeAmount cX1_takeAmount 1 none 3 0 0 [rv Γ (some t)] w (fX1_takeAmount t w) := by
  refine mtV [.inr (.inl (some t))] rfl (Nat.le_of_ble_eq_true rfl) (fun X hΓ hnL hn0 h _ hr hF => ?_)
  subst hΓ
  have ht : InN X t 1 := ⟨by rw [hn0]; exact ht.1, ht.2⟩
  have h : Ok X cX1_takeAmount RX1 3 0 0 := h
  have hj : ∀ j, j < 1 → j < nLX X := fun j q => by rw [hnL]; exact q
  show G X 0 0 0 [(0, .inr (.inl (some t)))] [] w
  unfold fX1_takeAmount at hF
  refine g_aload_n (pc := 0) h 0 rfl dX1_takeAmount_0 ?_
  refine g_iconst (pc := 1) (v := (0 : Int32)) h dX1_takeAmount_1 (by decide) ?_
  refine g_putI (pc := 2) h fdX1_81 (inw ht) (by decide) ⟨rfl, rfl⟩ dX1_takeAmount_2 ?_
  refine g_w hF (fun w_1 hF => ?_)
  exact kX1_takeAmount_5 h hr hnL ht _ _ hF
def fX1_spells_20 (t : Nat) : Nat → Nat → Int32 → Wd → Option (Int32 × Wd)
  | 0 => fun _ _ _ => none
  | n + 1 => fun s1 x2 w =>
    if (Int32.ofNat (sLen.getD s1 0)) ≤ x2 then
      (some ((1 : Int32), w))
    else
      (if (gI w t 1) ≤ ((gI w t 3) + x2) then
        (some ((1 : Int32), w))
      else
        (dr (gR w t 0) 8 w (fun a_1 => grd (vin ((gI w t 3) + x2) (ln a_1)) (grd (vin x2 (sLen.getD s1 0)) (if (gI w a_1 ((gI w t 3) + x2).toNatClampNeg) = ((sByt.getD s1 []).getD x2.toNatClampNeg 0) then
          (fX1_spells_20 t n s1 (x2 + (1 : Int32)) w)
        else
          (some ((0 : Int32), w)))))))
set_option maxHeartbeats 4000000 in
theorem kX1_spells_20 {X : Cx} (h : Ok X cX1_spells RX1 6 0 0) (hr : RetI X .boolean 0 0) (hnL : nLX X = 3) {t : Nat} (ht : InN X t 1) : ∀ (fu : Nat) (s1 : Nat) (x2 : Int32) (w : Wd), s1 < 13 → OkR X Value.int (fX1_spells_20 t fu s1 x2 w) → G X 0 0 20 [(0, .inr (.inl (some t))), (1, .inr (.inr (.inr (sref (adK X.1 s1))))), (2, .inl x2)] [] w := by
  have hj : ∀ j, j < 3 → j < nLX X := fun j q => by rw [hnL]; exact q
  intro fu
  induction fu with
  | zero => intro s1 x2 w hs hF; exact okN hF
  | succ fu ih =>
    intro s1 x2 w hs hF
    rw [fX1_spells_20] at hF
    refine g_iload_n (pc := 20) h 2 rfl dX1_spells_20 ?_
    refine g_saload_n (pc := 21) h 1 rfl dX1_spells_21 ?_
    refine g_slen (pc := 22) h hs wml_X1_132 (by decide) ⟨by decide, by decide⟩ (Nat.le_of_ble_eq_true rfl) dX1_spells_22 ?_
    refine g_icmp_ge (pc := 25) (tgt := 68) h dX1_spells_25 (by decide) hF (fun hF => ?_) (fun hF => ?_)
    · refine g_iconst (pc := 68) (v := (1 : Int32)) h dX1_spells_68 (by decide) ?_
      exact g_zret (pc := 69) h hr ⟨Nat.le_refl _, Nat.le_refl _⟩ (by decide) hF dX1_spells_69
    · refine g_aload_n (pc := 28) h 0 rfl dX1_spells_28 ?_
      refine g_getI (pc := 29) h fdX1_56 (inw ht) (by decide) dX1_spells_29 ?_
      refine g_iload_n (pc := 32) h 2 rfl dX1_spells_32 ?_
      refine g_iadd (pc := 33) h dX1_spells_33 ?_
      refine g_aload_n (pc := 34) h 0 rfl dX1_spells_34 ?_
      refine g_getI (pc := 35) h fdX1_15 (inw ht) (by decide) dX1_spells_35 ?_
      refine g_icmp_ge (pc := 38) (tgt := 68) h dX1_spells_38 (by decide) hF (fun hF => ?_) (fun hF => ?_)
      · refine g_iconst (pc := 68) (v := (1 : Int32)) h dX1_spells_68 (by decide) ?_
        exact g_zret (pc := 69) h hr ⟨Nat.le_refl _, Nat.le_refl _⟩ (by decide) hF dX1_spells_69
      · refine g_aload_n (pc := 41) h 0 rfl dX1_spells_41 ?_
        refine g_getR (pc := 42) h fdX1_9 (inw ht) rfl dX1_spells_42 ?_
        refine g_aload_n (pc := 45) h 0 rfl dX1_spells_45 ?_
        refine g_getI (pc := 46) h fdX1_56 (inw ht) (by decide) dX1_spells_46 ?_
        refine g_iload_n (pc := 49) h 2 rfl dX1_spells_49 ?_
        refine g_iadd (pc := 50) h dX1_spells_50 ?_
        refine g_dr hF (fun a_1 e_a_1 h_a_1 hF => ?_)
        rw [e_a_1]
        obtain ⟨g_1, hF⟩ := grd_ok hF
        refine g_iald (pc := 51) h h_a_1 g_1 dX1_spells_51 ?_
        refine g_saload_n (pc := 52) h 1 rfl dX1_spells_52 ?_
        refine g_iload_n (pc := 53) h 2 rfl dX1_spells_53 ?_
        obtain ⟨g_2, hF⟩ := grd_ok hF
        refine g_schar (pc := 54) h hs g_2 wml_X1_138 (by decide) ⟨by decide, by decide⟩ (Nat.le_of_ble_eq_true rfl) dX1_spells_54 ?_
        refine g_icmp_eq (pc := 57) (tgt := 62) h dX1_spells_57 (by decide) hF (fun hF => ?_) (fun hF => ?_)
        · refine g_iinc (pc := 62) (lv' := [(2, .inl (x2 + (1 : Int32))), (0, .inr (.inl (some t))), (1, .inr (.inr (.inr (sref (adK X.1 s1)))))]) h 2 rfl dX1_spells_62 (dv := (1 : Int32)) (by decide) (hj 2 (by decide)) rfl ?_
          refine g_goto (pc := 65) (tgt := 20) h dX1_spells_65 (by decide) ?_
          refine g_lv (lv' := [(0, .inr (.inl (some t))), (1, .inr (.inr (.inr (sref (adK X.1 s1))))), (2, .inl (x2 + (1 : Int32)))]) [1, 2, 0] rfl ?_
          exact ih _ _ _ hs hF
        · refine g_iconst (pc := 60) (v := (0 : Int32)) h dX1_spells_60 (by decide) ?_
          exact g_zret (pc := 61) h hr ⟨Nat.le_refl _, Nat.le_refl _⟩ (by decide) hF dX1_spells_61
def fX1_spells (t : Nat) (s1 : Nat) (w : Wd) : Option (Int32 × Wd) :=
  if ((gI w t 2) - (gI w t 3)) = (Int32.ofNat (sLen.getD s1 0)) then
    (fX1_spells_20 t FU s1 (0 : Int32) w)
  else
    (some ((0 : Int32), w))
set_option maxHeartbeats 4000000 in
theorem mX1_spells {Γ : En} {t : Nat} {s1 : Nat} {w : Wd} (ht : t < wn w ∧ kd t = 1) (hs : s1 < 13) : MtI Γ yX1_spells cX1_spells 3 (some .boolean) 6 0 0 [rv Γ (some t), .ref (adK Γ s1)] w (fX1_spells t s1 w) := by
  refine mtI [.inr (.inl (some t)), .inr (.inr (.inr (sref (adK Γ s1))))] rfl (Nat.le_of_ble_eq_true rfl) (fun X hΓ hnL hn0 h _ hr hF => ?_)
  subst hΓ
  have ht : InN X t 1 := ⟨by rw [hn0]; exact ht.1, ht.2⟩
  have h : Ok X cX1_spells RX1 6 0 0 := h
  have hj : ∀ j, j < 3 → j < nLX X := fun j q => by rw [hnL]; exact q
  show G X 0 0 0 [(0, .inr (.inl (some t))), (1, .inr (.inr (.inr (sref (adK X.1 s1)))))] [] w
  unfold fX1_spells at hF
  refine g_aload_n (pc := 0) h 0 rfl dX1_spells_0 ?_
  refine g_getI (pc := 1) h fdX1_28 (inw ht) (by decide) dX1_spells_1 ?_
  refine g_aload_n (pc := 4) h 0 rfl dX1_spells_4 ?_
  refine g_getI (pc := 5) h fdX1_56 (inw ht) (by decide) dX1_spells_5 ?_
  refine g_isub (pc := 8) h dX1_spells_8 ?_
  refine g_saload_n (pc := 9) h 1 rfl dX1_spells_9 ?_
  refine g_slen (pc := 10) h hs wml_X1_132 (by decide) ⟨by decide, by decide⟩ (Nat.le_of_ble_eq_true rfl) dX1_spells_10 ?_
  refine g_icmp_eq (pc := 13) (tgt := 18) h dX1_spells_13 (by decide) hF (fun hF => ?_) (fun hF => ?_)
  · refine g_iconst (pc := 18) (v := (0 : Int32)) h dX1_spells_18 (by decide) ?_
    refine g_istore_n (pc := 19) (lv' := [(2, .inl (0 : Int32)), (0, .inr (.inl (some t))), (1, .inr (.inr (.inr (sref (adK X.1 s1)))))]) h dX1_spells_19 (hj 2 (by decide)) rfl ?_
    refine g_lv (lv' := [(0, .inr (.inl (some t))), (1, .inr (.inr (.inr (sref (adK X.1 s1))))), (2, .inl (0 : Int32))]) [1, 2, 0] rfl ?_
    exact kX1_spells_20 h hr hnL ht _ _ _ _ hs hF
  · refine g_iconst (pc := 16) (v := (0 : Int32)) h dX1_spells_16 (by decide) ?_
    exact g_zret (pc := 17) h hr ⟨Nat.le_refl _, Nat.le_refl _⟩ (by decide) hF dX1_spells_17
def fX1_takeWord_218 (t : Nat) (y0 : Int32) (w : Wd) : Option (Unit × Wd) :=
  lw (sI w t 4 y0) (fun w_30 => some ((), w_30))
set_option maxHeartbeats 4000000 in
theorem kX1_takeWord_218 {X : Cx} (h : Ok X cX1_takeWord RX1 7 0 0) (hr : RetV X 0 0) (hnL : nLX X = 1) {t : Nat} (ht : InN X t 1) : ∀ (y0 : Int32) (w : Wd), OkR X (fun _ : Unit => Value.null) (fX1_takeWord_218 t y0 w) → G X 0 0 218 [] [.int y0, rv X.1 (some t)] w := by
  have hj : ∀ j, j < 1 → j < nLX X := fun j q => by rw [hnL]; exact q
  intro y0 w hF
  unfold fX1_takeWord_218 at hF
  refine g_putI (pc := 218) h fdX1_50 (inw ht) (by decide) ⟨rfl, rfl⟩ dX1_takeWord_218 ?_
  refine g_w hF (fun w_30 hF => ?_)
  exact g_vret (pc := 221) h hr ⟨Nat.le_refl _, Nat.le_refl _⟩ hF dX1_takeWord_221
def fX1_takeWord_119 (t : Nat) (y0 : Int32) (w : Wd) : Option (Unit × Wd) :=
  lw (sI w t 5 y0) (fun w_17 => if (gI w_17 t 5) = (-1 : Int32) then
    (bnd (fX1_spells t 7 w_17) (fun x_18 w_19 => if x_18 = 0 then
      (bnd (fX1_spells t 8 w_19) (fun x_20 w_21 => if x_20 = 0 then
        (bnd (fX1_spells t 9 w_21) (fun x_22 w_23 => if x_22 = 0 then
          (bnd (fX1_spells t 10 w_23) (fun x_24 w_25 => if x_24 = 0 then
            (bnd (fX1_spells t 11 w_25) (fun x_26 w_27 => if x_26 = 0 then
              (bnd (fX1_spells t 12 w_27) (fun x_28 w_29 => if x_28 = 0 then
                (fX1_takeWord_218 t (0 : Int32) w_29)
              else
                (fX1_takeWord_218 t (9 : Int32) w_29)))
            else
              (fX1_takeWord_218 t (8 : Int32) w_27)))
          else
            (fX1_takeWord_218 t (7 : Int32) w_25)))
        else
          (fX1_takeWord_218 t (6 : Int32) w_23)))
      else
        (fX1_takeWord_218 t (5 : Int32) w_21)))
    else
      (fX1_takeWord_218 t (4 : Int32) w_19)))
  else
    (fX1_takeWord_218 t (3 : Int32) w_17))
set_option maxHeartbeats 4000000 in
theorem kX1_takeWord_119 {X : Cx} (h : Ok X cX1_takeWord RX1 7 0 0) (hr : RetV X 0 0) (hnL : nLX X = 1) {t : Nat} (ht : InN X t 1) : ∀ (y0 : Int32) (w : Wd), OkR X (fun _ : Unit => Value.null) (fX1_takeWord_119 t y0 w) → G X 0 0 119 [(0, .inr (.inl (some t)))] [.int y0, rv X.1 (some t)] w := by
  have hj : ∀ j, j < 1 → j < nLX X := fun j q => by rw [hnL]; exact q
  intro y0 w hF
  unfold fX1_takeWord_119 at hF
  refine g_putI (pc := 119) h fdX1_81 (inw ht) (by decide) ⟨rfl, rfl⟩ dX1_takeWord_119 ?_
  refine g_w hF (fun w_17 hF => ?_)
  refine g_aload_n (pc := 122) h 0 rfl dX1_takeWord_122 ?_
  refine g_aload_n (pc := 123) h 0 rfl dX1_takeWord_123 ?_
  refine g_getI (pc := 124) h fdX1_81 (inw ht) (by decide) dX1_takeWord_124 ?_
  refine g_iconst (pc := 127) (v := (-1 : Int32)) h dX1_takeWord_127 (by decide) ?_
  refine g_icmp_eq (pc := 128) (tgt := 135) h dX1_takeWord_128 (by decide) hF (fun hF => ?_) (fun hF => ?_)
  · refine g_aload_n (pc := 135) h 0 rfl dX1_takeWord_135 ?_
    refine g_ldcS (pc := 136) h 7 (by decide) rfl dX1_takeWord_136 ?_
    refine g_cvI (pc := 138) (st := [rv X.1 (some t)]) h (fun hq9 => mX1_spells hq9 (by decide)) cvX1_106 (inw ht) (by decide) ⟨by decide, by decide⟩ (Nat.le_of_ble_eq_true rfl) rfl rfl dX1_takeWord_138 hF (fun x_18 w_19 hF => ?_)
    refine g_if_eq (pc := 141) (tgt := 148) h dX1_takeWord_141 (by decide) hF (fun hF => ?_) (fun hF => ?_)
    · refine g_aload_n (pc := 148) h 0 rfl dX1_takeWord_148 ?_
      refine g_ldcS (pc := 149) h 8 (by decide) rfl dX1_takeWord_149 ?_
      refine g_cvI (pc := 151) (st := [rv X.1 (some t)]) h (fun hq9 => mX1_spells hq9 (by decide)) cvX1_106 (inw ht) (by decide) ⟨by decide, by decide⟩ (Nat.le_of_ble_eq_true rfl) rfl rfl dX1_takeWord_151 hF (fun x_20 w_21 hF => ?_)
      refine g_if_eq (pc := 154) (tgt := 161) h dX1_takeWord_154 (by decide) hF (fun hF => ?_) (fun hF => ?_)
      · refine g_aload_n (pc := 161) h 0 rfl dX1_takeWord_161 ?_
        refine g_ldcS (pc := 162) h 9 (by decide) rfl dX1_takeWord_162 ?_
        refine g_cvI (pc := 164) (st := [rv X.1 (some t)]) h (fun hq9 => mX1_spells hq9 (by decide)) cvX1_106 (inw ht) (by decide) ⟨by decide, by decide⟩ (Nat.le_of_ble_eq_true rfl) rfl rfl dX1_takeWord_164 hF (fun x_22 w_23 hF => ?_)
        refine g_if_eq (pc := 167) (tgt := 175) h dX1_takeWord_167 (by decide) hF (fun hF => ?_) (fun hF => ?_)
        · refine g_aload_n (pc := 175) h 0 rfl dX1_takeWord_175 ?_
          refine g_ldcS (pc := 176) h 10 (by decide) rfl dX1_takeWord_176 ?_
          refine g_cvI (pc := 178) (st := [rv X.1 (some t)]) h (fun hq9 => mX1_spells hq9 (by decide)) cvX1_106 (inw ht) (by decide) ⟨by decide, by decide⟩ (Nat.le_of_ble_eq_true rfl) rfl rfl dX1_takeWord_178 hF (fun x_24 w_25 hF => ?_)
          refine g_if_eq (pc := 181) (tgt := 189) h dX1_takeWord_181 (by decide) hF (fun hF => ?_) (fun hF => ?_)
          · refine g_aload_n (pc := 189) h 0 rfl dX1_takeWord_189 ?_
            refine g_ldcS (pc := 190) h 11 (by decide) rfl dX1_takeWord_190 ?_
            refine g_cvI (pc := 192) (st := [rv X.1 (some t)]) h (fun hq9 => mX1_spells hq9 (by decide)) cvX1_106 (inw ht) (by decide) ⟨by decide, by decide⟩ (Nat.le_of_ble_eq_true rfl) rfl rfl dX1_takeWord_192 hF (fun x_26 w_27 hF => ?_)
            refine g_if_eq (pc := 195) (tgt := 203) h dX1_takeWord_195 (by decide) hF (fun hF => ?_) (fun hF => ?_)
            · refine g_aload_n (pc := 203) h 0 rfl dX1_takeWord_203 ?_
              refine g_ldcS (pc := 204) h 12 (by decide) rfl dX1_takeWord_204 ?_
              refine g_cvI (pc := 206) (st := [rv X.1 (some t)]) h (fun hq9 => mX1_spells hq9 (by decide)) cvX1_106 (inw ht) (by decide) ⟨by decide, by decide⟩ (Nat.le_of_ble_eq_true rfl) rfl rfl dX1_takeWord_206 hF (fun x_28 w_29 hF => ?_)
              refine g_if_eq (pc := 209) (tgt := 217) h dX1_takeWord_209 (by decide) hF (fun hF => ?_) (fun hF => ?_)
              · refine g_iconst (pc := 217) (v := (0 : Int32)) h dX1_takeWord_217 (by decide) ?_
                refine g_lv (lv' := []) [] rfl ?_
                exact kX1_takeWord_218 h hr hnL ht _ _ hF
              · refine g_bipush (pc := 212) (v := (9 : Int32)) h dX1_takeWord_212 (by decide) ?_
                refine g_goto (pc := 214) (tgt := 218) h dX1_takeWord_214 (by decide) ?_
                refine g_lv (lv' := []) [] rfl ?_
                exact kX1_takeWord_218 h hr hnL ht _ _ hF
            · refine g_bipush (pc := 198) (v := (8 : Int32)) h dX1_takeWord_198 (by decide) ?_
              refine g_goto (pc := 200) (tgt := 218) h dX1_takeWord_200 (by decide) ?_
              refine g_lv (lv' := []) [] rfl ?_
              exact kX1_takeWord_218 h hr hnL ht _ _ hF
          · refine g_bipush (pc := 184) (v := (7 : Int32)) h dX1_takeWord_184 (by decide) ?_
            refine g_goto (pc := 186) (tgt := 218) h dX1_takeWord_186 (by decide) ?_
            refine g_lv (lv' := []) [] rfl ?_
            exact kX1_takeWord_218 h hr hnL ht _ _ hF
        · refine g_bipush (pc := 170) (v := (6 : Int32)) h dX1_takeWord_170 (by decide) ?_
          refine g_goto (pc := 172) (tgt := 218) h dX1_takeWord_172 (by decide) ?_
          refine g_lv (lv' := []) [] rfl ?_
          exact kX1_takeWord_218 h hr hnL ht _ _ hF
      · refine g_iconst (pc := 157) (v := (5 : Int32)) h dX1_takeWord_157 (by decide) ?_
        refine g_goto (pc := 158) (tgt := 218) h dX1_takeWord_158 (by decide) ?_
        refine g_lv (lv' := []) [] rfl ?_
        exact kX1_takeWord_218 h hr hnL ht _ _ hF
    · refine g_iconst (pc := 144) (v := (4 : Int32)) h dX1_takeWord_144 (by decide) ?_
      refine g_goto (pc := 145) (tgt := 218) h dX1_takeWord_145 (by decide) ?_
      refine g_lv (lv' := []) [] rfl ?_
      exact kX1_takeWord_218 h hr hnL ht _ _ hF
  · refine g_iconst (pc := 131) (v := (3 : Int32)) h dX1_takeWord_131 (by decide) ?_
    refine g_goto (pc := 132) (tgt := 218) h dX1_takeWord_132 (by decide) ?_
    refine g_lv (lv' := []) [] rfl ?_
    exact kX1_takeWord_218 h hr hnL ht _ _ hF
def fX1_takeWord_39 (t : Nat) (w : Wd) : Option (Unit × Wd) :=
  bnd (fX1_spells t 1 w) (fun x_5 w_6 => if x_5 = 0 then
    (bnd (fX1_spells t 2 w_6) (fun x_7 w_8 => if x_7 = 0 then
      (bnd (fX1_spells t 3 w_8) (fun x_9 w_10 => if x_9 = 0 then
        (bnd (fX1_spells t 4 w_10) (fun x_11 w_12 => if x_11 = 0 then
          (bnd (fX1_spells t 5 w_12) (fun x_13 w_14 => if x_13 = 0 then
            (bnd (fX1_spells t 6 w_14) (fun x_15 w_16 => if x_15 = 0 then
              (fX1_takeWord_119 t (-1 : Int32) w_16)
            else
              (fX1_takeWord_119 t (5 : Int32) w_16)))
          else
            (fX1_takeWord_119 t (4 : Int32) w_14)))
        else
          (fX1_takeWord_119 t (3 : Int32) w_12)))
      else
        (fX1_takeWord_119 t (2 : Int32) w_10)))
    else
      (fX1_takeWord_119 t (1 : Int32) w_8)))
  else
    (fX1_takeWord_119 t (0 : Int32) w_6))
set_option maxHeartbeats 4000000 in
theorem kX1_takeWord_39 {X : Cx} (h : Ok X cX1_takeWord RX1 7 0 0) (hr : RetV X 0 0) (hnL : nLX X = 1) {t : Nat} (ht : InN X t 1) : ∀ (w : Wd), OkR X (fun _ : Unit => Value.null) (fX1_takeWord_39 t  w) → G X 0 0 39 [(0, .inr (.inl (some t)))] [] w := by
  have hj : ∀ j, j < 1 → j < nLX X := fun j q => by rw [hnL]; exact q
  intro w hF
  unfold fX1_takeWord_39 at hF
  refine g_aload_n (pc := 39) h 0 rfl dX1_takeWord_39 ?_
  refine g_aload_n (pc := 40) h 0 rfl dX1_takeWord_40 ?_
  refine g_ldcS (pc := 41) h 1 (by decide) rfl dX1_takeWord_41 ?_
  refine g_cvI (pc := 43) (st := [rv X.1 (some t)]) h (fun hq9 => mX1_spells hq9 (by decide)) cvX1_106 (inw ht) (by decide) ⟨by decide, by decide⟩ (Nat.le_of_ble_eq_true rfl) rfl rfl dX1_takeWord_43 hF (fun x_5 w_6 hF => ?_)
  refine g_if_eq (pc := 46) (tgt := 53) h dX1_takeWord_46 (by decide) hF (fun hF => ?_) (fun hF => ?_)
  · refine g_aload_n (pc := 53) h 0 rfl dX1_takeWord_53 ?_
    refine g_ldcS (pc := 54) h 2 (by decide) rfl dX1_takeWord_54 ?_
    refine g_cvI (pc := 56) (st := [rv X.1 (some t)]) h (fun hq9 => mX1_spells hq9 (by decide)) cvX1_106 (inw ht) (by decide) ⟨by decide, by decide⟩ (Nat.le_of_ble_eq_true rfl) rfl rfl dX1_takeWord_56 hF (fun x_7 w_8 hF => ?_)
    refine g_if_eq (pc := 59) (tgt := 66) h dX1_takeWord_59 (by decide) hF (fun hF => ?_) (fun hF => ?_)
    · refine g_aload_n (pc := 66) h 0 rfl dX1_takeWord_66 ?_
      refine g_ldcS (pc := 67) h 3 (by decide) rfl dX1_takeWord_67 ?_
      refine g_cvI (pc := 69) (st := [rv X.1 (some t)]) h (fun hq9 => mX1_spells hq9 (by decide)) cvX1_106 (inw ht) (by decide) ⟨by decide, by decide⟩ (Nat.le_of_ble_eq_true rfl) rfl rfl dX1_takeWord_69 hF (fun x_9 w_10 hF => ?_)
      refine g_if_eq (pc := 72) (tgt := 79) h dX1_takeWord_72 (by decide) hF (fun hF => ?_) (fun hF => ?_)
      · refine g_aload_n (pc := 79) h 0 rfl dX1_takeWord_79 ?_
        refine g_ldcS (pc := 80) h 4 (by decide) rfl dX1_takeWord_80 ?_
        refine g_cvI (pc := 82) (st := [rv X.1 (some t)]) h (fun hq9 => mX1_spells hq9 (by decide)) cvX1_106 (inw ht) (by decide) ⟨by decide, by decide⟩ (Nat.le_of_ble_eq_true rfl) rfl rfl dX1_takeWord_82 hF (fun x_11 w_12 hF => ?_)
        refine g_if_eq (pc := 85) (tgt := 92) h dX1_takeWord_85 (by decide) hF (fun hF => ?_) (fun hF => ?_)
        · refine g_aload_n (pc := 92) h 0 rfl dX1_takeWord_92 ?_
          refine g_ldcS (pc := 93) h 5 (by decide) rfl dX1_takeWord_93 ?_
          refine g_cvI (pc := 95) (st := [rv X.1 (some t)]) h (fun hq9 => mX1_spells hq9 (by decide)) cvX1_106 (inw ht) (by decide) ⟨by decide, by decide⟩ (Nat.le_of_ble_eq_true rfl) rfl rfl dX1_takeWord_95 hF (fun x_13 w_14 hF => ?_)
          refine g_if_eq (pc := 98) (tgt := 105) h dX1_takeWord_98 (by decide) hF (fun hF => ?_) (fun hF => ?_)
          · refine g_aload_n (pc := 105) h 0 rfl dX1_takeWord_105 ?_
            refine g_ldcS (pc := 106) h 6 (by decide) rfl dX1_takeWord_106 ?_
            refine g_cvI (pc := 108) (st := [rv X.1 (some t)]) h (fun hq9 => mX1_spells hq9 (by decide)) cvX1_106 (inw ht) (by decide) ⟨by decide, by decide⟩ (Nat.le_of_ble_eq_true rfl) rfl rfl dX1_takeWord_108 hF (fun x_15 w_16 hF => ?_)
            refine g_if_eq (pc := 111) (tgt := 118) h dX1_takeWord_111 (by decide) hF (fun hF => ?_) (fun hF => ?_)
            · refine g_iconst (pc := 118) (v := (-1 : Int32)) h dX1_takeWord_118 (by decide) ?_
              exact kX1_takeWord_119 h hr hnL ht _ _ hF
            · refine g_iconst (pc := 114) (v := (5 : Int32)) h dX1_takeWord_114 (by decide) ?_
              refine g_goto (pc := 115) (tgt := 119) h dX1_takeWord_115 (by decide) ?_
              exact kX1_takeWord_119 h hr hnL ht _ _ hF
          · refine g_iconst (pc := 101) (v := (4 : Int32)) h dX1_takeWord_101 (by decide) ?_
            refine g_goto (pc := 102) (tgt := 119) h dX1_takeWord_102 (by decide) ?_
            exact kX1_takeWord_119 h hr hnL ht _ _ hF
        · refine g_iconst (pc := 88) (v := (3 : Int32)) h dX1_takeWord_88 (by decide) ?_
          refine g_goto (pc := 89) (tgt := 119) h dX1_takeWord_89 (by decide) ?_
          exact kX1_takeWord_119 h hr hnL ht _ _ hF
      · refine g_iconst (pc := 75) (v := (2 : Int32)) h dX1_takeWord_75 (by decide) ?_
        refine g_goto (pc := 76) (tgt := 119) h dX1_takeWord_76 (by decide) ?_
        exact kX1_takeWord_119 h hr hnL ht _ _ hF
    · refine g_iconst (pc := 62) (v := (1 : Int32)) h dX1_takeWord_62 (by decide) ?_
      refine g_goto (pc := 63) (tgt := 119) h dX1_takeWord_63 (by decide) ?_
      exact kX1_takeWord_119 h hr hnL ht _ _ hF
  · refine g_iconst (pc := 49) (v := (0 : Int32)) h dX1_takeWord_49 (by decide) ?_
    refine g_goto (pc := 50) (tgt := 119) h dX1_takeWord_50 (by decide) ?_
    exact kX1_takeWord_119 h hr hnL ht _ _ hF
def fX1_takeWord_0 (t : Nat) : Nat → Wd → Option (Unit × Wd)
  | 0 => fun _ => none
  | n + 1 => fun w =>
    if (gI w t 1) ≤ (gI w t 2) then
      (fX1_takeWord_39 t w)
    else
      (dr (gR w t 0) 8 w (fun a_1 => grd (vin (gI w t 2) (ln a_1)) (bnd (fX1_isLetter (gI w a_1 (gI w t 2).toNatClampNeg) w) (fun x_2 w_3 => if x_2 = 0 then
        (fX1_takeWord_39 t w_3)
      else
        (lw (sI w_3 t 2 ((gI w_3 t 2) + (1 : Int32))) (fun w_4 => fX1_takeWord_0 t n w_4))))))
set_option maxHeartbeats 4000000 in
theorem kX1_takeWord_0 {X : Cx} (h : Ok X cX1_takeWord RX1 7 0 0) (hr : RetV X 0 0) (hnL : nLX X = 1) {t : Nat} (ht : InN X t 1) : ∀ (fu : Nat) (w : Wd), OkR X (fun _ : Unit => Value.null) (fX1_takeWord_0 t fu  w) → G X 0 0 0 [(0, .inr (.inl (some t)))] [] w := by
  have hj : ∀ j, j < 1 → j < nLX X := fun j q => by rw [hnL]; exact q
  intro fu
  induction fu with
  | zero => intro w hF; exact okN hF
  | succ fu ih =>
    intro w hF
    rw [fX1_takeWord_0] at hF
    refine g_aload_n (pc := 0) h 0 rfl dX1_takeWord_0 ?_
    refine g_getI (pc := 1) h fdX1_28 (inw ht) (by decide) dX1_takeWord_1 ?_
    refine g_aload_n (pc := 4) h 0 rfl dX1_takeWord_4 ?_
    refine g_getI (pc := 5) h fdX1_15 (inw ht) (by decide) dX1_takeWord_5 ?_
    refine g_icmp_ge (pc := 8) (tgt := 39) h dX1_takeWord_8 (by decide) hF (fun hF => ?_) (fun hF => ?_)
    · exact kX1_takeWord_39 h hr hnL ht _ hF
    · refine g_aload_n (pc := 11) h 0 rfl dX1_takeWord_11 ?_
      refine g_getR (pc := 12) h fdX1_9 (inw ht) rfl dX1_takeWord_12 ?_
      refine g_aload_n (pc := 15) h 0 rfl dX1_takeWord_15 ?_
      refine g_getI (pc := 16) h fdX1_28 (inw ht) (by decide) dX1_takeWord_16 ?_
      refine g_dr hF (fun a_1 e_a_1 h_a_1 hF => ?_)
      rw [e_a_1]
      obtain ⟨g_1, hF⟩ := grd_ok hF
      refine g_iald (pc := 19) h h_a_1 g_1 dX1_takeWord_19 ?_
      refine g_csI (pc := 20) (st := []) h mX1_isLetter csX1_88 (by decide) ⟨by decide, by decide⟩ (Nat.le_of_ble_eq_true rfl) rfl rfl dX1_takeWord_20 hF (fun x_2 w_3 hF => ?_)
      refine g_if_eq (pc := 23) (tgt := 39) h dX1_takeWord_23 (by decide) hF (fun hF => ?_) (fun hF => ?_)
      · exact kX1_takeWord_39 h hr hnL ht _ hF
      · refine g_aload_n (pc := 26) h 0 rfl dX1_takeWord_26 ?_
        refine g_dup (pc := 27) h dX1_takeWord_27 rv_cat ?_
        refine g_getI (pc := 28) h fdX1_28 (inw ht) (by decide) dX1_takeWord_28 ?_
        refine g_iconst (pc := 31) (v := (1 : Int32)) h dX1_takeWord_31 (by decide) ?_
        refine g_iadd (pc := 32) h dX1_takeWord_32 ?_
        refine g_putI (pc := 33) h fdX1_28 (inw ht) (by decide) ⟨rfl, rfl⟩ dX1_takeWord_33 ?_
        refine g_w hF (fun w_4 hF => ?_)
        refine g_goto (pc := 36) (tgt := 0) h dX1_takeWord_36 (by decide) ?_
        exact ih _ hF
def fX1_takeWord (t : Nat) (w : Wd) : Option (Unit × Wd) :=
  fX1_takeWord_0 t FU w
set_option maxHeartbeats 4000000 in
theorem mX1_takeWord {Γ : En} {t : Nat} {w : Wd} (ht : t < wn w ∧ kd t = 1) : MtV Γ yX1_takeWord cX1_takeWord 1 none 7 0 0 [rv Γ (some t)] w (fX1_takeWord t w) := by
  refine mtV [.inr (.inl (some t))] rfl (Nat.le_of_ble_eq_true rfl) (fun X hΓ hnL hn0 h _ hr hF => ?_)
  subst hΓ
  have ht : InN X t 1 := ⟨by rw [hn0]; exact ht.1, ht.2⟩
  have h : Ok X cX1_takeWord RX1 7 0 0 := h
  have hj : ∀ j, j < 1 → j < nLX X := fun j q => by rw [hnL]; exact q
  show G X 0 0 0 [(0, .inr (.inl (some t)))] [] w
  unfold fX1_takeWord at hF
  exact kX1_takeWord_0 h hr hnL ht _ _ hF
def fX1_take_39 (t : Nat) (w : Wd) : Option (Unit × Wd) :=
  lw (sI w t 3 (gI w t 2)) (fun w_5 => if (gI w_5 t 2) < (gI w_5 t 1) then
    (dr (gR w_5 t 0) 8 w_5 (fun a_6 => grd (vin (gI w_5 t 2) (ln a_6)) (bnd (fX1_isLetter (gI w_5 a_6 (gI w_5 t 2).toNatClampNeg) w_5) (fun x_7 w_8 => if x_7 = 0 then
      (dr (gR w_8 t 0) 8 w_8 (fun a_9 => grd (vin (gI w_8 t 2) (ln a_9)) (bnd (fX1_isDigit (gI w_8 a_9 (gI w_8 t 2).toNatClampNeg) w_8) (fun x_10 w_11 => if x_10 = 0 then
        (dr (gR w_11 t 0) 8 w_11 (fun a_12 => grd (vin (gI w_11 t 2) (ln a_12)) (bnd (fX1_signOf (gI w_11 a_12 (gI w_11 t 2).toNatClampNeg) w_11) (fun x_13 w_14 => lw (sI w_14 t 4 x_13) (fun w_15 => lw (sI w_15 t 2 ((gI w_15 t 2) + (1 : Int32))) (fun w_16 => some ((), w_16)))))))
      else
        (bnd (fX1_takeAmount t w_11) (fun u_17 w_18 => some ((), w_18)))))))
    else
      (bnd (fX1_takeWord t w_8) (fun u_19 w_20 => some ((), w_20)))))))
  else
    (lw (sI w_5 t 4 (1 : Int32)) (fun w_21 => some ((), w_21))))
set_option maxHeartbeats 4000000 in
theorem kX1_take_39 {X : Cx} (h : Ok X cX1_take RX1 8 0 0) (hr : RetV X 0 0) (hnL : nLX X = 1) {t : Nat} (ht : InN X t 1) : ∀ (w : Wd), OkR X (fun _ : Unit => Value.null) (fX1_take_39 t  w) → G X 0 0 39 [(0, .inr (.inl (some t)))] [] w := by
  have hj : ∀ j, j < 1 → j < nLX X := fun j q => by rw [hnL]; exact q
  intro w hF
  unfold fX1_take_39 at hF
  refine g_aload_n (pc := 39) h 0 rfl dX1_take_39 ?_
  refine g_aload_n (pc := 40) h 0 rfl dX1_take_40 ?_
  refine g_getI (pc := 41) h fdX1_28 (inw ht) (by decide) dX1_take_41 ?_
  refine g_putI (pc := 44) h fdX1_56 (inw ht) (by decide) ⟨rfl, rfl⟩ dX1_take_44 ?_
  refine g_w hF (fun w_5 hF => ?_)
  refine g_aload_n (pc := 47) h 0 rfl dX1_take_47 ?_
  refine g_getI (pc := 48) h fdX1_28 (inw ht) (by decide) dX1_take_48 ?_
  refine g_aload_n (pc := 51) h 0 rfl dX1_take_51 ?_
  refine g_getI (pc := 52) h fdX1_15 (inw ht) (by decide) dX1_take_52 ?_
  refine g_icmp_lt (pc := 55) (tgt := 66) h dX1_take_55 (by decide) hF (fun hF => ?_) (fun hF => ?_)
  · refine g_aload_n (pc := 66) h 0 rfl dX1_take_66 ?_
    refine g_getR (pc := 67) h fdX1_9 (inw ht) rfl dX1_take_67 ?_
    refine g_aload_n (pc := 70) h 0 rfl dX1_take_70 ?_
    refine g_getI (pc := 71) h fdX1_28 (inw ht) (by decide) dX1_take_71 ?_
    refine g_dr hF (fun a_6 e_a_6 h_a_6 hF => ?_)
    rw [e_a_6]
    obtain ⟨g_2, hF⟩ := grd_ok hF
    refine g_iald (pc := 74) h h_a_6 g_2 dX1_take_74 ?_
    refine g_csI (pc := 75) (st := []) h mX1_isLetter csX1_88 (by decide) ⟨by decide, by decide⟩ (Nat.le_of_ble_eq_true rfl) rfl rfl dX1_take_75 hF (fun x_7 w_8 hF => ?_)
    refine g_if_eq (pc := 78) (tgt := 88) h dX1_take_78 (by decide) hF (fun hF => ?_) (fun hF => ?_)
    · refine g_aload_n (pc := 88) h 0 rfl dX1_take_88 ?_
      refine g_getR (pc := 89) h fdX1_9 (inw ht) rfl dX1_take_89 ?_
      refine g_aload_n (pc := 92) h 0 rfl dX1_take_92 ?_
      refine g_getI (pc := 93) h fdX1_28 (inw ht) (by decide) dX1_take_93 ?_
      refine g_dr hF (fun a_9 e_a_9 h_a_9 hF => ?_)
      rw [e_a_9]
      obtain ⟨g_3, hF⟩ := grd_ok hF
      refine g_iald (pc := 96) h h_a_9 g_3 dX1_take_96 ?_
      refine g_csI (pc := 97) (st := []) h mX1_isDigit csX1_94 (by decide) ⟨by decide, by decide⟩ (Nat.le_of_ble_eq_true rfl) rfl rfl dX1_take_97 hF (fun x_10 w_11 hF => ?_)
      refine g_if_eq (pc := 100) (tgt := 110) h dX1_take_100 (by decide) hF (fun hF => ?_) (fun hF => ?_)
      · refine g_aload_n (pc := 110) h 0 rfl dX1_take_110 ?_
        refine g_aload_n (pc := 111) h 0 rfl dX1_take_111 ?_
        refine g_getR (pc := 112) h fdX1_9 (inw ht) rfl dX1_take_112 ?_
        refine g_aload_n (pc := 115) h 0 rfl dX1_take_115 ?_
        refine g_getI (pc := 116) h fdX1_28 (inw ht) (by decide) dX1_take_116 ?_
        refine g_dr hF (fun a_12 e_a_12 h_a_12 hF => ?_)
        rw [e_a_12]
        obtain ⟨g_4, hF⟩ := grd_ok hF
        refine g_iald (pc := 119) h h_a_12 g_4 dX1_take_119 ?_
        refine g_csI (pc := 120) (st := [rv X.1 (some t)]) h mX1_signOf csX1_100 (by decide) ⟨by decide, by decide⟩ (Nat.le_of_ble_eq_true rfl) rfl rfl dX1_take_120 hF (fun x_13 w_14 hF => ?_)
        refine g_putI (pc := 123) h fdX1_50 (inw ht) (by decide) ⟨rfl, rfl⟩ dX1_take_123 ?_
        refine g_w hF (fun w_15 hF => ?_)
        refine g_aload_n (pc := 126) h 0 rfl dX1_take_126 ?_
        refine g_dup (pc := 127) h dX1_take_127 rv_cat ?_
        refine g_getI (pc := 128) h fdX1_28 (inw ht) (by decide) dX1_take_128 ?_
        refine g_iconst (pc := 131) (v := (1 : Int32)) h dX1_take_131 (by decide) ?_
        refine g_iadd (pc := 132) h dX1_take_132 ?_
        refine g_putI (pc := 133) h fdX1_28 (inw ht) (by decide) ⟨rfl, rfl⟩ dX1_take_133 ?_
        refine g_w hF (fun w_16 hF => ?_)
        exact g_vret (pc := 136) h hr ⟨Nat.le_refl _, Nat.le_refl _⟩ hF dX1_take_136
      · refine g_aload_n (pc := 103) h 0 rfl dX1_take_103 ?_
        refine g_cvV (pc := 104) (st := []) h mX1_takeAmount cvX1_97 (inw ht) (by decide) ⟨by decide, by decide⟩ (Nat.le_of_ble_eq_true rfl) rfl rfl dX1_take_104 hF (fun u_17 w_18 hF => ?_)
        refine g_goto (pc := 107) (tgt := 136) h dX1_take_107 (by decide) ?_
        exact g_vret (pc := 136) h hr ⟨Nat.le_refl _, Nat.le_refl _⟩ hF dX1_take_136
    · refine g_aload_n (pc := 81) h 0 rfl dX1_take_81 ?_
      refine g_cvV (pc := 82) (st := []) h mX1_takeWord cvX1_91 (inw ht) (by decide) ⟨by decide, by decide⟩ (Nat.le_of_ble_eq_true rfl) rfl rfl dX1_take_82 hF (fun u_19 w_20 hF => ?_)
      refine g_goto (pc := 85) (tgt := 136) h dX1_take_85 (by decide) ?_
      exact g_vret (pc := 136) h hr ⟨Nat.le_refl _, Nat.le_refl _⟩ hF dX1_take_136
  · refine g_aload_n (pc := 58) h 0 rfl dX1_take_58 ?_
    refine g_iconst (pc := 59) (v := (1 : Int32)) h dX1_take_59 (by decide) ?_
    refine g_putI (pc := 60) h fdX1_50 (inw ht) (by decide) ⟨rfl, rfl⟩ dX1_take_60 ?_
    refine g_w hF (fun w_21 hF => ?_)
    refine g_goto (pc := 63) (tgt := 136) h dX1_take_63 (by decide) ?_
    exact g_vret (pc := 136) h hr ⟨Nat.le_refl _, Nat.le_refl _⟩ hF dX1_take_136
def fX1_take_0 (t : Nat) : Nat → Wd → Option (Unit × Wd)
  | 0 => fun _ => none
  | n + 1 => fun w =>
    if (gI w t 1) ≤ (gI w t 2) then
      (fX1_take_39 t w)
    else
      (dr (gR w t 0) 8 w (fun a_1 => grd (vin (gI w t 2) (ln a_1)) (bnd (fX1_isBlank (gI w a_1 (gI w t 2).toNatClampNeg) w) (fun x_2 w_3 => if x_2 = 0 then
        (fX1_take_39 t w_3)
      else
        (lw (sI w_3 t 2 ((gI w_3 t 2) + (1 : Int32))) (fun w_4 => fX1_take_0 t n w_4))))))
set_option maxHeartbeats 4000000 in
theorem kX1_take_0 {X : Cx} (h : Ok X cX1_take RX1 8 0 0) (hr : RetV X 0 0) (hnL : nLX X = 1) {t : Nat} (ht : InN X t 1) : ∀ (fu : Nat) (w : Wd), OkR X (fun _ : Unit => Value.null) (fX1_take_0 t fu  w) → G X 0 0 0 [(0, .inr (.inl (some t)))] [] w := by
  have hj : ∀ j, j < 1 → j < nLX X := fun j q => by rw [hnL]; exact q
  intro fu
  induction fu with
  | zero => intro w hF; exact okN hF
  | succ fu ih =>
    intro w hF
    rw [fX1_take_0] at hF
    refine g_aload_n (pc := 0) h 0 rfl dX1_take_0 ?_
    refine g_getI (pc := 1) h fdX1_28 (inw ht) (by decide) dX1_take_1 ?_
    refine g_aload_n (pc := 4) h 0 rfl dX1_take_4 ?_
    refine g_getI (pc := 5) h fdX1_15 (inw ht) (by decide) dX1_take_5 ?_
    refine g_icmp_ge (pc := 8) (tgt := 39) h dX1_take_8 (by decide) hF (fun hF => ?_) (fun hF => ?_)
    · exact kX1_take_39 h hr hnL ht _ hF
    · refine g_aload_n (pc := 11) h 0 rfl dX1_take_11 ?_
      refine g_getR (pc := 12) h fdX1_9 (inw ht) rfl dX1_take_12 ?_
      refine g_aload_n (pc := 15) h 0 rfl dX1_take_15 ?_
      refine g_getI (pc := 16) h fdX1_28 (inw ht) (by decide) dX1_take_16 ?_
      refine g_dr hF (fun a_1 e_a_1 h_a_1 hF => ?_)
      rw [e_a_1]
      obtain ⟨g_1, hF⟩ := grd_ok hF
      refine g_iald (pc := 19) h h_a_1 g_1 dX1_take_19 ?_
      refine g_csI (pc := 20) (st := []) h mX1_isBlank csX1_84 (by decide) ⟨by decide, by decide⟩ (Nat.le_of_ble_eq_true rfl) rfl rfl dX1_take_20 hF (fun x_2 w_3 hF => ?_)
      refine g_if_eq (pc := 23) (tgt := 39) h dX1_take_23 (by decide) hF (fun hF => ?_) (fun hF => ?_)
      · exact kX1_take_39 h hr hnL ht _ hF
      · refine g_aload_n (pc := 26) h 0 rfl dX1_take_26 ?_
        refine g_dup (pc := 27) h dX1_take_27 rv_cat ?_
        refine g_getI (pc := 28) h fdX1_28 (inw ht) (by decide) dX1_take_28 ?_
        refine g_iconst (pc := 31) (v := (1 : Int32)) h dX1_take_31 (by decide) ?_
        refine g_iadd (pc := 32) h dX1_take_32 ?_
        refine g_putI (pc := 33) h fdX1_28 (inw ht) (by decide) ⟨rfl, rfl⟩ dX1_take_33 ?_
        refine g_w hF (fun w_4 hF => ?_)
        refine g_goto (pc := 36) (tgt := 0) h dX1_take_36 (by decide) ?_
        exact ih _ hF
def fX1_take (t : Nat) (w : Wd) : Option (Unit × Wd) :=
  fX1_take_0 t FU w
set_option maxHeartbeats 4000000 in
theorem mX1_take {Γ : En} {t : Nat} {w : Wd} (ht : t < wn w ∧ kd t = 1) : MtV Γ yX1_take cX1_take 1 none 8 0 0 [rv Γ (some t)] w (fX1_take t w) := by
  refine mtV [.inr (.inl (some t))] rfl (Nat.le_of_ble_eq_true rfl) (fun X hΓ hnL hn0 h _ hr hF => ?_)
  subst hΓ
  have ht : InN X t 1 := ⟨by rw [hn0]; exact ht.1, ht.2⟩
  have h : Ok X cX1_take RX1 8 0 0 := h
  have hj : ∀ j, j < 1 → j < nLX X := fun j q => by rw [hnL]; exact q
  show G X 0 0 0 [(0, .inr (.inl (some t)))] [] w
  unfold fX1_take at hF
  exact kX1_take_0 h hr hnL ht _ _ hF
def fX1_expect (t : Nat) (x1 : Int32) (w : Wd) : Option (Unit × Wd) :=
  if (gI w t 4) = x1 then
    (bnd (fX1_take t w) (fun u_3 w_4 => some ((), w_4)))
  else
    (bnd (fX1_fail t w) (fun u_1 w_2 => some ((), w_2)))
set_option maxHeartbeats 4000000 in
theorem mX1_expect {Γ : En} {t : Nat} {x1 : Int32} {w : Wd} (ht : t < wn w ∧ kd t = 1) : MtV Γ yX1_expect cX1_expect 2 none 9 0 0 [rv Γ (some t), .int x1] w (fX1_expect t x1 w) := by
  refine mtV [.inr (.inl (some t)), .inl x1] rfl (Nat.le_of_ble_eq_true rfl) (fun X hΓ hnL hn0 h _ hr hF => ?_)
  subst hΓ
  have ht : InN X t 1 := ⟨by rw [hn0]; exact ht.1, ht.2⟩
  have h : Ok X cX1_expect RX1 9 0 0 := h
  have hj : ∀ j, j < 2 → j < nLX X := fun j q => by rw [hnL]; exact q
  show G X 0 0 0 [(0, .inr (.inl (some t))), (1, .inl x1)] [] w
  unfold fX1_expect at hF
  refine g_aload_n (pc := 0) h 0 rfl dX1_expect_0 ?_
  refine g_getI (pc := 1) h fdX1_50 (inw ht) (by decide) dX1_expect_1 ?_
  refine g_iload_n (pc := 4) h 1 rfl dX1_expect_4 ?_
  refine g_icmp_ne (pc := 5) (tgt := 15) h dX1_expect_5 (by decide) hF (fun hF => ?_) (fun hF => ?_)
  · refine g_aload_n (pc := 15) h 0 rfl dX1_expect_15 ?_
    refine g_cvV (pc := 16) (st := []) h mX1_fail cvX1_53 (inw ht) (by decide) ⟨by decide, by decide⟩ (Nat.le_of_ble_eq_true rfl) rfl rfl dX1_expect_16 hF (fun u_1 w_2 hF => ?_)
    exact g_vret (pc := 19) h hr ⟨Nat.le_refl _, Nat.le_refl _⟩ hF dX1_expect_19
  · refine g_aload_n (pc := 8) h 0 rfl dX1_expect_8 ?_
    refine g_cvV (pc := 9) (st := []) h mX1_take cvX1_37 (inw ht) (by decide) ⟨by decide, by decide⟩ (Nat.le_of_ble_eq_true rfl) rfl rfl dX1_expect_9 hF (fun u_3 w_4 hF => ?_)
    refine g_goto (pc := 12) (tgt := 19) h dX1_expect_12 (by decide) ?_
    exact g_vret (pc := 19) h hr ⟨Nat.le_refl _, Nat.le_refl _⟩ hF dX1_expect_19
def fX1_takeOpening (t : Nat) (w : Wd) : Option (Int32 × Wd) :=
  if (gI w t 6) < (5 : Int32) then
    (lw (sI w t 6 ((gI w t 6) + (1 : Int32))) (fun w_1 => bnd (fX1_take t w_1) (fun u_2 w_3 => some ((1 : Int32), w_3))))
  else
    (bnd (fX1_fail t w) (fun u_4 w_5 => some ((0 : Int32), w_5)))
set_option maxHeartbeats 4000000 in
theorem mX1_takeOpening {Γ : En} {t : Nat} {w : Wd} (ht : t < wn w ∧ kd t = 1) : MtI Γ yX1_takeOpening cX1_takeOpening 1 (some .boolean) 9 0 0 [rv Γ (some t)] w (fX1_takeOpening t w) := by
  refine mtI [.inr (.inl (some t))] rfl (Nat.le_of_ble_eq_true rfl) (fun X hΓ hnL hn0 h _ hr hF => ?_)
  subst hΓ
  have ht : InN X t 1 := ⟨by rw [hn0]; exact ht.1, ht.2⟩
  have h : Ok X cX1_takeOpening RX1 9 0 0 := h
  have hj : ∀ j, j < 1 → j < nLX X := fun j q => by rw [hnL]; exact q
  show G X 0 0 0 [(0, .inr (.inl (some t)))] [] w
  unfold fX1_takeOpening at hF
  refine g_aload_n (pc := 0) h 0 rfl dX1_takeOpening_0 ?_
  refine g_getI (pc := 1) h fdX1_31 (inw ht) (by decide) dX1_takeOpening_1 ?_
  refine g_iconst (pc := 4) (v := (5 : Int32)) h dX1_takeOpening_4 (by decide) ?_
  refine g_icmp_lt (pc := 5) (tgt := 14) h dX1_takeOpening_5 (by decide) hF (fun hF => ?_) (fun hF => ?_)
  · refine g_aload_n (pc := 14) h 0 rfl dX1_takeOpening_14 ?_
    refine g_dup (pc := 15) h dX1_takeOpening_15 rv_cat ?_
    refine g_getI (pc := 16) h fdX1_31 (inw ht) (by decide) dX1_takeOpening_16 ?_
    refine g_iconst (pc := 19) (v := (1 : Int32)) h dX1_takeOpening_19 (by decide) ?_
    refine g_iadd (pc := 20) h dX1_takeOpening_20 ?_
    refine g_putI (pc := 21) h fdX1_31 (inw ht) (by decide) ⟨rfl, rfl⟩ dX1_takeOpening_21 ?_
    refine g_w hF (fun w_1 hF => ?_)
    refine g_aload_n (pc := 24) h 0 rfl dX1_takeOpening_24 ?_
    refine g_cvV (pc := 25) (st := []) h mX1_take cvX1_37 (inw ht) (by decide) ⟨by decide, by decide⟩ (Nat.le_of_ble_eq_true rfl) rfl rfl dX1_takeOpening_25 hF (fun u_2 w_3 hF => ?_)
    refine g_iconst (pc := 28) (v := (1 : Int32)) h dX1_takeOpening_28 (by decide) ?_
    exact g_zret (pc := 29) h hr ⟨Nat.le_refl _, Nat.le_refl _⟩ (by decide) hF dX1_takeOpening_29
  · refine g_aload_n (pc := 8) h 0 rfl dX1_takeOpening_8 ?_
    refine g_cvV (pc := 9) (st := []) h mX1_fail cvX1_53 (inw ht) (by decide) ⟨by decide, by decide⟩ (Nat.le_of_ble_eq_true rfl) rfl rfl dX1_takeOpening_9 hF (fun u_4 w_5 hF => ?_)
    refine g_iconst (pc := 12) (v := (0 : Int32)) h dX1_takeOpening_12 (by decide) ?_
    exact g_zret (pc := 13) h hr ⟨Nat.le_refl _, Nat.le_refl _⟩ (by decide) hF dX1_takeOpening_13
def fX1_readEither_6 (call : Nat → Nat → Wd → Option (Unit × Wd)) (t : Nat) : Nat → Int32 → Wd → Option (Unit × Wd)
  | 0 => fun _ _ => none
  | n + 1 => fun x1 w =>
    if (160 : Int32) ≤ x1 then
      (some ((), w))
    else
      (if (gI w t 4) = (7 : Int32) then
        (bnd (fX1_take t w) (fun u_3 w_4 => bnd (call 1 t w_4) (fun u_5 w_6 => dr (gR w_6 t 8) 3 w_6 (fun a_7 => bnd (fX3_append a_7 (13 : Int32) w_6) (fun u_8 w_9 => fX1_readEither_6 call t n (x1 + (1 : Int32)) w_9)))))
      else
        (some ((), w)))
set_option maxHeartbeats 4000000 in
theorem kX1_readEither_6 {X : Cx} {dc : Nat} (hdc : 12 ≤ dc) (h : Ok X cX1_readEither RX1 (dc + 1) 0 0) (hr : RetV X 0 0) (hnL : nLX X = 2) {t : Nat} (ht : InN X t 1) {call : Nat → Nat → Wd → Option (Unit × Wd)} (hcall : CallOk X.1 dc call) : ∀ (fu : Nat) (x1 : Int32) (w : Wd), OkR X (fun _ : Unit => Value.null) (fX1_readEither_6 call t fu x1 w) → G X 0 0 6 [(0, .inr (.inl (some t))), (1, .inl x1)] [] w := by
  have hj : ∀ j, j < 2 → j < nLX X := fun j q => by rw [hnL]; exact q
  intro fu
  induction fu with
  | zero => intro x1 w hF; exact okN hF
  | succ fu ih =>
    intro x1 w hF
    rw [fX1_readEither_6] at hF
    refine g_iload_n (pc := 6) h 1 rfl dX1_readEither_6 ?_
    refine g_sipush (pc := 7) (v := (160 : Int32)) h dX1_readEither_7 (by decide) ?_
    refine g_icmp_ge (pc := 10) (tgt := 45) h dX1_readEither_10 (by decide) hF (fun hF => ?_) (fun hF => ?_)
    · exact g_vret (pc := 45) h hr ⟨Nat.le_refl _, Nat.le_refl _⟩ hF dX1_readEither_45
    · refine g_aload_n (pc := 13) h 0 rfl dX1_readEither_13 ?_
      refine g_getI (pc := 14) h fdX1_50 (inw ht) (by decide) dX1_readEither_14 ?_
      refine g_bipush (pc := 17) (v := (7 : Int32)) h dX1_readEither_17 (by decide) ?_
      refine g_icmp_ne (pc := 19) (tgt := 45) h dX1_readEither_19 (by decide) hF (fun hF => ?_) (fun hF => ?_)
      · exact g_vret (pc := 45) h hr ⟨Nat.le_refl _, Nat.le_refl _⟩ hF dX1_readEither_45
      · refine g_aload_n (pc := 22) h 0 rfl dX1_readEither_22 ?_
        refine g_cvV (pc := 23) (st := []) h mX1_take cvX1_37 (inw ht) (by omega) ⟨by decide, by decide⟩ (Nat.le_of_ble_eq_true rfl) rfl rfl dX1_readEither_23 hF (fun u_3 w_4 hF => ?_)
        refine g_aload_n (pc := 26) h 0 rfl dX1_readEither_26 ?_
        refine g_cvV (pc := 27) (st := []) h (hcall_X1_readBoth hcall) cvX1_59 (inw ht) (by omega) ⟨by decide, by decide⟩ (Nat.le_of_ble_eq_true rfl) rfl rfl dX1_readEither_27 hF (fun u_5 w_6 hF => ?_)
        refine g_aload_n (pc := 30) h 0 rfl dX1_readEither_30 ?_
        refine g_getR (pc := 31) h fdX1_19 (inw ht) rfl dX1_readEither_31 ?_
        refine g_bipush (pc := 34) (v := (13 : Int32)) h dX1_readEither_34 (by decide) ?_
        refine g_dr hF (fun a_7 e_a_7 h_a_7 hF => ?_)
        rw [e_a_7]
        refine g_cvV (pc := 36) (st := []) h mX3_append cvX1_62 h_a_7 (by omega) ⟨by decide, by decide⟩ (Nat.le_of_ble_eq_true rfl) rfl rfl dX1_readEither_36 hF (fun u_8 w_9 hF => ?_)
        refine g_iinc (pc := 39) (lv' := [(1, .inl (x1 + (1 : Int32))), (0, .inr (.inl (some t)))]) h 1 rfl dX1_readEither_39 (dv := (1 : Int32)) (by decide) (hj 1 (by decide)) rfl ?_
        refine g_goto (pc := 42) (tgt := 6) h dX1_readEither_42 (by decide) ?_
        refine g_lv (lv' := [(0, .inr (.inl (some t))), (1, .inl (x1 + (1 : Int32)))]) [1, 0] rfl ?_
        exact ih _ _ hF
def fX1_readEither (call : Nat → Nat → Wd → Option (Unit × Wd)) (t : Nat) (w : Wd) : Option (Unit × Wd) :=
  bnd (call 1 t w) (fun u_1 w_2 => fX1_readEither_6 call t FU (0 : Int32) w_2)
set_option maxHeartbeats 4000000 in
theorem mX1_readEither {Γ : En} {dc : Nat} (hdc : 12 ≤ dc) {call : Nat → Nat → Wd → Option (Unit × Wd)} {t : Nat} {w : Wd} (ht : t < wn w ∧ kd t = 1) (hcall : CallOk Γ dc call) : MtV Γ yX1_readEither cX1_readEither 2 none (dc + 1) 0 0 [rv Γ (some t)] w (fX1_readEither call t w) := by
  refine mtV [.inr (.inl (some t))] rfl (Nat.le_of_ble_eq_true rfl) (fun X hΓ hnL hn0 h _ hr hF => ?_)
  subst hΓ
  have ht : InN X t 1 := ⟨by rw [hn0]; exact ht.1, ht.2⟩
  have h : Ok X cX1_readEither RX1 (dc + 1) 0 0 := h
  have hj : ∀ j, j < 2 → j < nLX X := fun j q => by rw [hnL]; exact q
  show G X 0 0 0 [(0, .inr (.inl (some t)))] [] w
  unfold fX1_readEither at hF
  refine g_aload_n (pc := 0) h 0 rfl dX1_readEither_0 ?_
  refine g_cvV (pc := 1) (st := []) h (hcall_X1_readBoth hcall) cvX1_59 (inw ht) (by omega) ⟨by decide, by decide⟩ (Nat.le_of_ble_eq_true rfl) rfl rfl dX1_readEither_1 hF (fun u_1 w_2 hF => ?_)
  refine g_iconst (pc := 4) (v := (0 : Int32)) h dX1_readEither_4 (by decide) ?_
  refine g_istore_n (pc := 5) (lv' := [(1, .inl (0 : Int32)), (0, .inr (.inl (some t)))]) h dX1_readEither_5 (hj 1 (by decide)) rfl ?_
  refine g_lv (lv' := [(0, .inr (.inl (some t))), (1, .inl (0 : Int32))]) [1, 0] rfl ?_
  exact kX1_readEither_6 hdc h hr hnL ht hcall _ _ _ hF
def fX1_readBoth_6 (call : Nat → Nat → Wd → Option (Unit × Wd)) (t : Nat) : Nat → Int32 → Wd → Option (Unit × Wd)
  | 0 => fun _ _ => none
  | n + 1 => fun x1 w =>
    if (160 : Int32) ≤ x1 then
      (some ((), w))
    else
      (if (gI w t 4) = (8 : Int32) then
        (bnd (fX1_take t w) (fun u_3 w_4 => bnd (call 2 t w_4) (fun u_5 w_6 => dr (gR w_6 t 8) 3 w_6 (fun a_7 => bnd (fX3_append a_7 (14 : Int32) w_6) (fun u_8 w_9 => fX1_readBoth_6 call t n (x1 + (1 : Int32)) w_9)))))
      else
        (some ((), w)))
set_option maxHeartbeats 4000000 in
theorem kX1_readBoth_6 {X : Cx} {dc : Nat} (hdc : 12 ≤ dc) (h : Ok X cX1_readBoth RX1 (dc + 1) 0 0) (hr : RetV X 0 0) (hnL : nLX X = 2) {t : Nat} (ht : InN X t 1) {call : Nat → Nat → Wd → Option (Unit × Wd)} (hcall : CallOk X.1 dc call) : ∀ (fu : Nat) (x1 : Int32) (w : Wd), OkR X (fun _ : Unit => Value.null) (fX1_readBoth_6 call t fu x1 w) → G X 0 0 6 [(0, .inr (.inl (some t))), (1, .inl x1)] [] w := by
  have hj : ∀ j, j < 2 → j < nLX X := fun j q => by rw [hnL]; exact q
  intro fu
  induction fu with
  | zero => intro x1 w hF; exact okN hF
  | succ fu ih =>
    intro x1 w hF
    rw [fX1_readBoth_6] at hF
    refine g_iload_n (pc := 6) h 1 rfl dX1_readBoth_6 ?_
    refine g_sipush (pc := 7) (v := (160 : Int32)) h dX1_readBoth_7 (by decide) ?_
    refine g_icmp_ge (pc := 10) (tgt := 45) h dX1_readBoth_10 (by decide) hF (fun hF => ?_) (fun hF => ?_)
    · exact g_vret (pc := 45) h hr ⟨Nat.le_refl _, Nat.le_refl _⟩ hF dX1_readBoth_45
    · refine g_aload_n (pc := 13) h 0 rfl dX1_readBoth_13 ?_
      refine g_getI (pc := 14) h fdX1_50 (inw ht) (by decide) dX1_readBoth_14 ?_
      refine g_bipush (pc := 17) (v := (8 : Int32)) h dX1_readBoth_17 (by decide) ?_
      refine g_icmp_ne (pc := 19) (tgt := 45) h dX1_readBoth_19 (by decide) hF (fun hF => ?_) (fun hF => ?_)
      · exact g_vret (pc := 45) h hr ⟨Nat.le_refl _, Nat.le_refl _⟩ hF dX1_readBoth_45
      · refine g_aload_n (pc := 22) h 0 rfl dX1_readBoth_22 ?_
        refine g_cvV (pc := 23) (st := []) h mX1_take cvX1_37 (inw ht) (by omega) ⟨by decide, by decide⟩ (Nat.le_of_ble_eq_true rfl) rfl rfl dX1_readBoth_23 hF (fun u_3 w_4 hF => ?_)
        refine g_aload_n (pc := 26) h 0 rfl dX1_readBoth_26 ?_
        refine g_cvV (pc := 27) (st := []) h (hcall_X1_readNot hcall) cvX1_65 (inw ht) (by omega) ⟨by decide, by decide⟩ (Nat.le_of_ble_eq_true rfl) rfl rfl dX1_readBoth_27 hF (fun u_5 w_6 hF => ?_)
        refine g_aload_n (pc := 30) h 0 rfl dX1_readBoth_30 ?_
        refine g_getR (pc := 31) h fdX1_19 (inw ht) rfl dX1_readBoth_31 ?_
        refine g_bipush (pc := 34) (v := (14 : Int32)) h dX1_readBoth_34 (by decide) ?_
        refine g_dr hF (fun a_7 e_a_7 h_a_7 hF => ?_)
        rw [e_a_7]
        refine g_cvV (pc := 36) (st := []) h mX3_append cvX1_62 h_a_7 (by omega) ⟨by decide, by decide⟩ (Nat.le_of_ble_eq_true rfl) rfl rfl dX1_readBoth_36 hF (fun u_8 w_9 hF => ?_)
        refine g_iinc (pc := 39) (lv' := [(1, .inl (x1 + (1 : Int32))), (0, .inr (.inl (some t)))]) h 1 rfl dX1_readBoth_39 (dv := (1 : Int32)) (by decide) (hj 1 (by decide)) rfl ?_
        refine g_goto (pc := 42) (tgt := 6) h dX1_readBoth_42 (by decide) ?_
        refine g_lv (lv' := [(0, .inr (.inl (some t))), (1, .inl (x1 + (1 : Int32)))]) [1, 0] rfl ?_
        exact ih _ _ hF
def fX1_readBoth (call : Nat → Nat → Wd → Option (Unit × Wd)) (t : Nat) (w : Wd) : Option (Unit × Wd) :=
  bnd (call 2 t w) (fun u_1 w_2 => fX1_readBoth_6 call t FU (0 : Int32) w_2)
set_option maxHeartbeats 4000000 in
theorem mX1_readBoth {Γ : En} {dc : Nat} (hdc : 12 ≤ dc) {call : Nat → Nat → Wd → Option (Unit × Wd)} {t : Nat} {w : Wd} (ht : t < wn w ∧ kd t = 1) (hcall : CallOk Γ dc call) : MtV Γ yX1_readBoth cX1_readBoth 2 none (dc + 1) 0 0 [rv Γ (some t)] w (fX1_readBoth call t w) := by
  refine mtV [.inr (.inl (some t))] rfl (Nat.le_of_ble_eq_true rfl) (fun X hΓ hnL hn0 h _ hr hF => ?_)
  subst hΓ
  have ht : InN X t 1 := ⟨by rw [hn0]; exact ht.1, ht.2⟩
  have h : Ok X cX1_readBoth RX1 (dc + 1) 0 0 := h
  have hj : ∀ j, j < 2 → j < nLX X := fun j q => by rw [hnL]; exact q
  show G X 0 0 0 [(0, .inr (.inl (some t)))] [] w
  unfold fX1_readBoth at hF
  refine g_aload_n (pc := 0) h 0 rfl dX1_readBoth_0 ?_
  refine g_cvV (pc := 1) (st := []) h (hcall_X1_readNot hcall) cvX1_65 (inw ht) (by omega) ⟨by decide, by decide⟩ (Nat.le_of_ble_eq_true rfl) rfl rfl dX1_readBoth_1 hF (fun u_1 w_2 hF => ?_)
  refine g_iconst (pc := 4) (v := (0 : Int32)) h dX1_readBoth_4 (by decide) ?_
  refine g_istore_n (pc := 5) (lv' := [(1, .inl (0 : Int32)), (0, .inr (.inl (some t)))]) h dX1_readBoth_5 (hj 1 (by decide)) rfl ?_
  refine g_lv (lv' := [(0, .inr (.inl (some t))), (1, .inl (0 : Int32))]) [1, 0] rfl ?_
  exact kX1_readBoth_6 hdc h hr hnL ht hcall _ _ _ hF
def fX1_readNot_78 (call : Nat → Nat → Wd → Option (Unit × Wd)) (t : Nat) (y0 : Int32) (w : Wd) : Option (Unit × Wd) :=
  bnd (fX1_take t w) (fun u_11 w_12 => bnd (call 3 t w_12) (fun u_13 w_14 => dr (gR w_14 t 8) 3 w_14 (fun a_15 => bnd (fX3_append a_15 y0 w_14) (fun u_16 w_17 => some ((), w_17)))))
set_option maxHeartbeats 4000000 in
theorem kX1_readNot_78 {X : Cx} {dc : Nat} (hdc : 12 ≤ dc) (h : Ok X cX1_readNot RX1 (dc + 1) 0 0) (hr : RetV X 0 0) (hnL : nLX X = 2) {t : Nat} (ht : InN X t 1) {call : Nat → Nat → Wd → Option (Unit × Wd)} (hcall : CallOk X.1 dc call) : ∀ (y0 : Int32) (w : Wd), OkR X (fun _ : Unit => Value.null) (fX1_readNot_78 call t y0 w) → G X 0 0 78 [(0, .inr (.inl (some t)))] [.int y0] w := by
  have hj : ∀ j, j < 2 → j < nLX X := fun j q => by rw [hnL]; exact q
  intro y0 w hF
  unfold fX1_readNot_78 at hF
  refine g_istore_n (pc := 78) (lv' := [(1, .inl y0), (0, .inr (.inl (some t)))]) h dX1_readNot_78 (hj 1 (by decide)) rfl ?_
  refine g_aload_n (pc := 79) h 1 rfl dX1_readNot_79 ?_
  refine g_cvV (pc := 80) (st := []) h mX1_take cvX1_37 (inw ht) (by omega) ⟨by decide, by decide⟩ (Nat.le_of_ble_eq_true rfl) rfl rfl dX1_readNot_80 hF (fun u_11 w_12 hF => ?_)
  refine g_aload_n (pc := 83) h 1 rfl dX1_readNot_83 ?_
  refine g_cvV (pc := 84) (st := []) h (hcall_X1_readSum hcall) cvX1_72 (inw ht) (by omega) ⟨by decide, by decide⟩ (Nat.le_of_ble_eq_true rfl) rfl rfl dX1_readNot_84 hF (fun u_13 w_14 hF => ?_)
  refine g_aload_n (pc := 87) h 1 rfl dX1_readNot_87 ?_
  refine g_getR (pc := 88) h fdX1_19 (inw ht) rfl dX1_readNot_88 ?_
  refine g_iload_n (pc := 91) h 0 rfl dX1_readNot_91 ?_
  refine g_dr hF (fun a_15 e_a_15 h_a_15 hF => ?_)
  rw [e_a_15]
  refine g_cvV (pc := 92) (st := []) h mX3_append cvX1_62 h_a_15 (by omega) ⟨by decide, by decide⟩ (Nat.le_of_ble_eq_true rfl) rfl rfl dX1_readNot_92 hF (fun u_16 w_17 hF => ?_)
  exact g_vret (pc := 95) h hr ⟨Nat.le_refl _, Nat.le_refl _⟩ hF dX1_readNot_95
def fX1_readNot_62 (call : Nat → Nat → Wd → Option (Unit × Wd)) (t : Nat) (w : Wd) : Option (Unit × Wd) :=
  if (gI w t 4) = (16 : Int32) then
    (fX1_readNot_78 call t (11 : Int32) w)
  else
    (fX1_readNot_78 call t (12 : Int32) w)
set_option maxHeartbeats 4000000 in
theorem kX1_readNot_62 {X : Cx} {dc : Nat} (hdc : 12 ≤ dc) (h : Ok X cX1_readNot RX1 (dc + 1) 0 0) (hr : RetV X 0 0) (hnL : nLX X = 2) {t : Nat} (ht : InN X t 1) {call : Nat → Nat → Wd → Option (Unit × Wd)} (hcall : CallOk X.1 dc call) : ∀ (w : Wd), OkR X (fun _ : Unit => Value.null) (fX1_readNot_62 call t  w) → G X 0 0 62 [(0, .inr (.inl (some t)))] [] w := by
  have hj : ∀ j, j < 2 → j < nLX X := fun j q => by rw [hnL]; exact q
  intro w hF
  unfold fX1_readNot_62 at hF
  refine g_aload_n (pc := 62) h 0 rfl dX1_readNot_62 ?_
  refine g_getI (pc := 63) h fdX1_50 (inw ht) (by decide) dX1_readNot_63 ?_
  refine g_bipush (pc := 66) (v := (16 : Int32)) h dX1_readNot_66 (by decide) ?_
  refine g_icmp_ne (pc := 68) (tgt := 76) h dX1_readNot_68 (by decide) hF (fun hF => ?_) (fun hF => ?_)
  · refine g_bipush (pc := 76) (v := (12 : Int32)) h dX1_readNot_76 (by decide) ?_
    exact kX1_readNot_78 hdc h hr hnL ht hcall _ _ hF
  · refine g_bipush (pc := 71) (v := (11 : Int32)) h dX1_readNot_71 (by decide) ?_
    refine g_goto (pc := 73) (tgt := 78) h dX1_readNot_73 (by decide) ?_
    exact kX1_readNot_78 hdc h hr hnL ht hcall _ _ hF
def fX1_readNot (call : Nat → Nat → Wd → Option (Unit × Wd)) (t : Nat) (w : Wd) : Option (Unit × Wd) :=
  if (gI w t 4) = (9 : Int32) then
    (bnd (fX1_takeOpening t w) (fun x_3 w_4 => if x_3 = 0 then
      (some ((), w_4))
    else
      (bnd (call 2 t w_4) (fun u_5 w_6 => dr (gR w_6 t 8) 3 w_6 (fun a_7 => bnd (fX3_append a_7 (6 : Int32) w_6) (fun u_8 w_9 => lw (sI w_9 t 6 ((gI w_9 t 6) - (1 : Int32))) (fun w_10 => some ((), w_10))))))))
  else
    (bnd (call 3 t w) (fun u_1 w_2 => if (gI w_2 t 4) = (16 : Int32) then
      (fX1_readNot_62 call t w_2)
    else
      (if (gI w_2 t 4) = (17 : Int32) then
        (fX1_readNot_62 call t w_2)
      else
        (some ((), w_2)))))
set_option maxHeartbeats 4000000 in
theorem mX1_readNot {Γ : En} {dc : Nat} (hdc : 12 ≤ dc) {call : Nat → Nat → Wd → Option (Unit × Wd)} {t : Nat} {w : Wd} (ht : t < wn w ∧ kd t = 1) (hcall : CallOk Γ dc call) : MtV Γ yX1_readNot cX1_readNot 2 none (dc + 1) 0 0 [rv Γ (some t)] w (fX1_readNot call t w) := by
  refine mtV [.inr (.inl (some t))] rfl (Nat.le_of_ble_eq_true rfl) (fun X hΓ hnL hn0 h _ hr hF => ?_)
  subst hΓ
  have ht : InN X t 1 := ⟨by rw [hn0]; exact ht.1, ht.2⟩
  have h : Ok X cX1_readNot RX1 (dc + 1) 0 0 := h
  have hj : ∀ j, j < 2 → j < nLX X := fun j q => by rw [hnL]; exact q
  show G X 0 0 0 [(0, .inr (.inl (some t)))] [] w
  unfold fX1_readNot at hF
  refine g_aload_n (pc := 0) h 0 rfl dX1_readNot_0 ?_
  refine g_getI (pc := 1) h fdX1_50 (inw ht) (by decide) dX1_readNot_1 ?_
  refine g_bipush (pc := 4) (v := (9 : Int32)) h dX1_readNot_4 (by decide) ?_
  refine g_icmp_ne (pc := 6) (tgt := 40) h dX1_readNot_6 (by decide) hF (fun hF => ?_) (fun hF => ?_)
  · refine g_aload_n (pc := 40) h 0 rfl dX1_readNot_40 ?_
    refine g_cvV (pc := 41) (st := []) h (hcall_X1_readSum hcall) cvX1_72 (inw ht) (by omega) ⟨by decide, by decide⟩ (Nat.le_of_ble_eq_true rfl) rfl rfl dX1_readNot_41 hF (fun u_1 w_2 hF => ?_)
    refine g_aload_n (pc := 44) h 0 rfl dX1_readNot_44 ?_
    refine g_getI (pc := 45) h fdX1_50 (inw ht) (by decide) dX1_readNot_45 ?_
    refine g_bipush (pc := 48) (v := (16 : Int32)) h dX1_readNot_48 (by decide) ?_
    refine g_icmp_eq (pc := 50) (tgt := 62) h dX1_readNot_50 (by decide) hF (fun hF => ?_) (fun hF => ?_)
    · exact kX1_readNot_62 hdc h hr hnL ht hcall _ hF
    · refine g_aload_n (pc := 53) h 0 rfl dX1_readNot_53 ?_
      refine g_getI (pc := 54) h fdX1_50 (inw ht) (by decide) dX1_readNot_54 ?_
      refine g_bipush (pc := 57) (v := (17 : Int32)) h dX1_readNot_57 (by decide) ?_
      refine g_icmp_ne (pc := 59) (tgt := 95) h dX1_readNot_59 (by decide) hF (fun hF => ?_) (fun hF => ?_)
      · exact g_vret (pc := 95) h hr ⟨Nat.le_refl _, Nat.le_refl _⟩ hF dX1_readNot_95
      · exact kX1_readNot_62 hdc h hr hnL ht hcall _ hF
  · refine g_aload_n (pc := 9) h 0 rfl dX1_readNot_9 ?_
    refine g_cvI (pc := 10) (st := []) h mX1_takeOpening cvX1_68 (inw ht) (by omega) ⟨by decide, by decide⟩ (Nat.le_of_ble_eq_true rfl) rfl rfl dX1_readNot_10 hF (fun x_3 w_4 hF => ?_)
    refine g_if_eq (pc := 13) (tgt := 39) h dX1_readNot_13 (by decide) hF (fun hF => ?_) (fun hF => ?_)
    · exact g_vret (pc := 39) h hr ⟨Nat.le_refl _, Nat.le_refl _⟩ hF dX1_readNot_39
    · refine g_aload_n (pc := 16) h 0 rfl dX1_readNot_16 ?_
      refine g_cvV (pc := 17) (st := []) h (hcall_X1_readNot hcall) cvX1_65 (inw ht) (by omega) ⟨by decide, by decide⟩ (Nat.le_of_ble_eq_true rfl) rfl rfl dX1_readNot_17 hF (fun u_5 w_6 hF => ?_)
      refine g_aload_n (pc := 20) h 0 rfl dX1_readNot_20 ?_
      refine g_getR (pc := 21) h fdX1_19 (inw ht) rfl dX1_readNot_21 ?_
      refine g_bipush (pc := 24) (v := (6 : Int32)) h dX1_readNot_24 (by decide) ?_
      refine g_dr hF (fun a_7 e_a_7 h_a_7 hF => ?_)
      rw [e_a_7]
      refine g_cvV (pc := 26) (st := []) h mX3_append cvX1_62 h_a_7 (by omega) ⟨by decide, by decide⟩ (Nat.le_of_ble_eq_true rfl) rfl rfl dX1_readNot_26 hF (fun u_8 w_9 hF => ?_)
      refine g_aload_n (pc := 29) h 0 rfl dX1_readNot_29 ?_
      refine g_dup (pc := 30) h dX1_readNot_30 rv_cat ?_
      refine g_getI (pc := 31) h fdX1_31 (inw ht) (by decide) dX1_readNot_31 ?_
      refine g_iconst (pc := 34) (v := (1 : Int32)) h dX1_readNot_34 (by decide) ?_
      refine g_isub (pc := 35) h dX1_readNot_35 ?_
      refine g_putI (pc := 36) h fdX1_31 (inw ht) (by decide) ⟨rfl, rfl⟩ dX1_readNot_36 ?_
      refine g_w hF (fun w_10 hF => ?_)
      exact g_vret (pc := 39) h hr ⟨Nat.le_refl _, Nat.le_refl _⟩ hF dX1_readNot_39
def fX1_readSum_47 (call : Nat → Nat → Wd → Option (Unit × Wd)) (k6 : Int32 → Wd → Option (Unit × Wd)) (t : Nat) (x1 : Int32) (y0 : Int32) (w : Wd) : Option (Unit × Wd) :=
  bnd (fX1_take t w) (fun u_3 w_4 => bnd (call 4 t w_4) (fun u_5 w_6 => dr (gR w_6 t 8) 3 w_6 (fun a_7 => bnd (fX3_append a_7 y0 w_6) (fun u_8 w_9 => k6 (x1 + (1 : Int32)) w_9))))
set_option maxHeartbeats 4000000 in
theorem kX1_readSum_47 {X : Cx} {dc : Nat} (hdc : 12 ≤ dc) (h : Ok X cX1_readSum RX1 (dc + 1) 0 0) (hr : RetV X 0 0) (hnL : nLX X = 3) {t : Nat} (ht : InN X t 1) {call : Nat → Nat → Wd → Option (Unit × Wd)} (hcall : CallOk X.1 dc call) {k6 : Int32 → Wd → Option (Unit × Wd)} (hk6 : ∀ (x1 : Int32) (w : Wd), OkR X (fun _ : Unit => Value.null) (k6 x1 w) → G X 0 0 6 [(0, .inr (.inl (some t))), (1, .inl x1)] [] w) : ∀ (x1 : Int32) (y0 : Int32) (w : Wd), OkR X (fun _ : Unit => Value.null) (fX1_readSum_47 call k6 t x1 y0 w) → G X 0 0 47 [(0, .inr (.inl (some t))), (1, .inl x1)] [.int y0] w := by
  have hj : ∀ j, j < 3 → j < nLX X := fun j q => by rw [hnL]; exact q
  intro x1 y0 w hF
  unfold fX1_readSum_47 at hF
  refine g_istore_n (pc := 47) (lv' := [(2, .inl y0), (0, .inr (.inl (some t))), (1, .inl x1)]) h dX1_readSum_47 (hj 2 (by decide)) rfl ?_
  refine g_aload_n (pc := 48) h 1 rfl dX1_readSum_48 ?_
  refine g_cvV (pc := 49) (st := []) h mX1_take cvX1_37 (inw ht) (by omega) ⟨by decide, by decide⟩ (Nat.le_of_ble_eq_true rfl) rfl rfl dX1_readSum_49 hF (fun u_3 w_4 hF => ?_)
  refine g_aload_n (pc := 52) h 1 rfl dX1_readSum_52 ?_
  refine g_cvV (pc := 53) (st := []) h (hcall_X1_readTerm hcall) cvX1_75 (inw ht) (by omega) ⟨by decide, by decide⟩ (Nat.le_of_ble_eq_true rfl) rfl rfl dX1_readSum_53 hF (fun u_5 w_6 hF => ?_)
  refine g_aload_n (pc := 56) h 1 rfl dX1_readSum_56 ?_
  refine g_getR (pc := 57) h fdX1_19 (inw ht) rfl dX1_readSum_57 ?_
  refine g_iload_n (pc := 60) h 0 rfl dX1_readSum_60 ?_
  refine g_dr hF (fun a_7 e_a_7 h_a_7 hF => ?_)
  rw [e_a_7]
  refine g_cvV (pc := 61) (st := []) h mX3_append cvX1_62 h_a_7 (by omega) ⟨by decide, by decide⟩ (Nat.le_of_ble_eq_true rfl) rfl rfl dX1_readSum_61 hF (fun u_8 w_9 hF => ?_)
  refine g_iinc (pc := 64) (lv' := [(1, .inl (x1 + (1 : Int32))), (2, .inl y0), (0, .inr (.inl (some t)))]) h 2 rfl dX1_readSum_64 (dv := (1 : Int32)) (by decide) (hj 1 (by decide)) rfl ?_
  refine g_goto (pc := 67) (tgt := 6) h dX1_readSum_67 (by decide) ?_
  refine g_lv (lv' := [(0, .inr (.inl (some t))), (1, .inl (x1 + (1 : Int32)))]) [2, 0] rfl ?_
  exact hk6 _ _ hF
def fX1_readSum_31 (call : Nat → Nat → Wd → Option (Unit × Wd)) (k6 : Int32 → Wd → Option (Unit × Wd)) (t : Nat) (x1 : Int32) (w : Wd) : Option (Unit × Wd) :=
  if (gI w t 4) = (13 : Int32) then
    (fX1_readSum_47 call k6 t x1 (8 : Int32) w)
  else
    (fX1_readSum_47 call k6 t x1 (9 : Int32) w)
set_option maxHeartbeats 4000000 in
theorem kX1_readSum_31 {X : Cx} {dc : Nat} (hdc : 12 ≤ dc) (h : Ok X cX1_readSum RX1 (dc + 1) 0 0) (hr : RetV X 0 0) (hnL : nLX X = 3) {t : Nat} (ht : InN X t 1) {call : Nat → Nat → Wd → Option (Unit × Wd)} (hcall : CallOk X.1 dc call) {k6 : Int32 → Wd → Option (Unit × Wd)} (hk6 : ∀ (x1 : Int32) (w : Wd), OkR X (fun _ : Unit => Value.null) (k6 x1 w) → G X 0 0 6 [(0, .inr (.inl (some t))), (1, .inl x1)] [] w) : ∀ (x1 : Int32) (w : Wd), OkR X (fun _ : Unit => Value.null) (fX1_readSum_31 call k6 t x1 w) → G X 0 0 31 [(0, .inr (.inl (some t))), (1, .inl x1)] [] w := by
  have hj : ∀ j, j < 3 → j < nLX X := fun j q => by rw [hnL]; exact q
  intro x1 w hF
  unfold fX1_readSum_31 at hF
  refine g_aload_n (pc := 31) h 0 rfl dX1_readSum_31 ?_
  refine g_getI (pc := 32) h fdX1_50 (inw ht) (by decide) dX1_readSum_32 ?_
  refine g_bipush (pc := 35) (v := (13 : Int32)) h dX1_readSum_35 (by decide) ?_
  refine g_icmp_ne (pc := 37) (tgt := 45) h dX1_readSum_37 (by decide) hF (fun hF => ?_) (fun hF => ?_)
  · refine g_bipush (pc := 45) (v := (9 : Int32)) h dX1_readSum_45 (by decide) ?_
    exact kX1_readSum_47 hdc h hr hnL ht hcall hk6 _ _ _ hF
  · refine g_bipush (pc := 40) (v := (8 : Int32)) h dX1_readSum_40 (by decide) ?_
    refine g_goto (pc := 42) (tgt := 47) h dX1_readSum_42 (by decide) ?_
    exact kX1_readSum_47 hdc h hr hnL ht hcall hk6 _ _ _ hF
def fX1_readSum_6 (call : Nat → Nat → Wd → Option (Unit × Wd)) (t : Nat) : Nat → Int32 → Wd → Option (Unit × Wd)
  | 0 => fun _ _ => none
  | n + 1 => fun x1 w =>
    if (160 : Int32) ≤ x1 then
      (some ((), w))
    else
      (if (gI w t 4) = (13 : Int32) then
        (fX1_readSum_31 call (fX1_readSum_6 call t n) t x1 w)
      else
        (if (gI w t 4) = (14 : Int32) then
          (fX1_readSum_31 call (fX1_readSum_6 call t n) t x1 w)
        else
          (some ((), w))))
set_option maxHeartbeats 4000000 in
theorem kX1_readSum_6 {X : Cx} {dc : Nat} (hdc : 12 ≤ dc) (h : Ok X cX1_readSum RX1 (dc + 1) 0 0) (hr : RetV X 0 0) (hnL : nLX X = 3) {t : Nat} (ht : InN X t 1) {call : Nat → Nat → Wd → Option (Unit × Wd)} (hcall : CallOk X.1 dc call) : ∀ (fu : Nat) (x1 : Int32) (w : Wd), OkR X (fun _ : Unit => Value.null) (fX1_readSum_6 call t fu x1 w) → G X 0 0 6 [(0, .inr (.inl (some t))), (1, .inl x1)] [] w := by
  have hj : ∀ j, j < 3 → j < nLX X := fun j q => by rw [hnL]; exact q
  intro fu
  induction fu with
  | zero => intro x1 w hF; exact okN hF
  | succ fu ih =>
    intro x1 w hF
    rw [fX1_readSum_6] at hF
    refine g_iload_n (pc := 6) h 1 rfl dX1_readSum_6 ?_
    refine g_sipush (pc := 7) (v := (160 : Int32)) h dX1_readSum_7 (by decide) ?_
    refine g_icmp_ge (pc := 10) (tgt := 70) h dX1_readSum_10 (by decide) hF (fun hF => ?_) (fun hF => ?_)
    · exact g_vret (pc := 70) h hr ⟨Nat.le_refl _, Nat.le_refl _⟩ hF dX1_readSum_70
    · refine g_aload_n (pc := 13) h 0 rfl dX1_readSum_13 ?_
      refine g_getI (pc := 14) h fdX1_50 (inw ht) (by decide) dX1_readSum_14 ?_
      refine g_bipush (pc := 17) (v := (13 : Int32)) h dX1_readSum_17 (by decide) ?_
      refine g_icmp_eq (pc := 19) (tgt := 31) h dX1_readSum_19 (by decide) hF (fun hF => ?_) (fun hF => ?_)
      · exact kX1_readSum_31 hdc h hr hnL ht hcall (fun z0 z1 hF => ih z0 z1 hF) _ _ hF
      · refine g_aload_n (pc := 22) h 0 rfl dX1_readSum_22 ?_
        refine g_getI (pc := 23) h fdX1_50 (inw ht) (by decide) dX1_readSum_23 ?_
        refine g_bipush (pc := 26) (v := (14 : Int32)) h dX1_readSum_26 (by decide) ?_
        refine g_icmp_ne (pc := 28) (tgt := 70) h dX1_readSum_28 (by decide) hF (fun hF => ?_) (fun hF => ?_)
        · exact g_vret (pc := 70) h hr ⟨Nat.le_refl _, Nat.le_refl _⟩ hF dX1_readSum_70
        · exact kX1_readSum_31 hdc h hr hnL ht hcall (fun z0 z1 hF => ih z0 z1 hF) _ _ hF
def fX1_readSum (call : Nat → Nat → Wd → Option (Unit × Wd)) (t : Nat) (w : Wd) : Option (Unit × Wd) :=
  bnd (call 4 t w) (fun u_1 w_2 => fX1_readSum_6 call t FU (0 : Int32) w_2)
set_option maxHeartbeats 4000000 in
theorem mX1_readSum {Γ : En} {dc : Nat} (hdc : 12 ≤ dc) {call : Nat → Nat → Wd → Option (Unit × Wd)} {t : Nat} {w : Wd} (ht : t < wn w ∧ kd t = 1) (hcall : CallOk Γ dc call) : MtV Γ yX1_readSum cX1_readSum 3 none (dc + 1) 0 0 [rv Γ (some t)] w (fX1_readSum call t w) := by
  refine mtV [.inr (.inl (some t))] rfl (Nat.le_of_ble_eq_true rfl) (fun X hΓ hnL hn0 h _ hr hF => ?_)
  subst hΓ
  have ht : InN X t 1 := ⟨by rw [hn0]; exact ht.1, ht.2⟩
  have h : Ok X cX1_readSum RX1 (dc + 1) 0 0 := h
  have hj : ∀ j, j < 3 → j < nLX X := fun j q => by rw [hnL]; exact q
  show G X 0 0 0 [(0, .inr (.inl (some t)))] [] w
  unfold fX1_readSum at hF
  refine g_aload_n (pc := 0) h 0 rfl dX1_readSum_0 ?_
  refine g_cvV (pc := 1) (st := []) h (hcall_X1_readTerm hcall) cvX1_75 (inw ht) (by omega) ⟨by decide, by decide⟩ (Nat.le_of_ble_eq_true rfl) rfl rfl dX1_readSum_1 hF (fun u_1 w_2 hF => ?_)
  refine g_iconst (pc := 4) (v := (0 : Int32)) h dX1_readSum_4 (by decide) ?_
  refine g_istore_n (pc := 5) (lv' := [(1, .inl (0 : Int32)), (0, .inr (.inl (some t)))]) h dX1_readSum_5 (hj 1 (by decide)) rfl ?_
  refine g_lv (lv' := [(0, .inr (.inl (some t))), (1, .inl (0 : Int32))]) [1, 0] rfl ?_
  exact kX1_readSum_6 hdc h hr hnL ht hcall _ _ _ hF
def fX1_readTerm_6 (call : Nat → Nat → Wd → Option (Unit × Wd)) (t : Nat) : Nat → Int32 → Wd → Option (Unit × Wd)
  | 0 => fun _ _ => none
  | n + 1 => fun x1 w =>
    if (160 : Int32) ≤ x1 then
      (some ((), w))
    else
      (if (gI w t 4) = (15 : Int32) then
        (bnd (fX1_take t w) (fun u_3 w_4 => bnd (call 5 t w_4) (fun u_5 w_6 => dr (gR w_6 t 8) 3 w_6 (fun a_7 => bnd (fX3_append a_7 (10 : Int32) w_6) (fun u_8 w_9 => fX1_readTerm_6 call t n (x1 + (1 : Int32)) w_9)))))
      else
        (some ((), w)))
set_option maxHeartbeats 4000000 in
theorem kX1_readTerm_6 {X : Cx} {dc : Nat} (hdc : 12 ≤ dc) (h : Ok X cX1_readTerm RX1 (dc + 1) 0 0) (hr : RetV X 0 0) (hnL : nLX X = 2) {t : Nat} (ht : InN X t 1) {call : Nat → Nat → Wd → Option (Unit × Wd)} (hcall : CallOk X.1 dc call) : ∀ (fu : Nat) (x1 : Int32) (w : Wd), OkR X (fun _ : Unit => Value.null) (fX1_readTerm_6 call t fu x1 w) → G X 0 0 6 [(0, .inr (.inl (some t))), (1, .inl x1)] [] w := by
  have hj : ∀ j, j < 2 → j < nLX X := fun j q => by rw [hnL]; exact q
  intro fu
  induction fu with
  | zero => intro x1 w hF; exact okN hF
  | succ fu ih =>
    intro x1 w hF
    rw [fX1_readTerm_6] at hF
    refine g_iload_n (pc := 6) h 1 rfl dX1_readTerm_6 ?_
    refine g_sipush (pc := 7) (v := (160 : Int32)) h dX1_readTerm_7 (by decide) ?_
    refine g_icmp_ge (pc := 10) (tgt := 45) h dX1_readTerm_10 (by decide) hF (fun hF => ?_) (fun hF => ?_)
    · exact g_vret (pc := 45) h hr ⟨Nat.le_refl _, Nat.le_refl _⟩ hF dX1_readTerm_45
    · refine g_aload_n (pc := 13) h 0 rfl dX1_readTerm_13 ?_
      refine g_getI (pc := 14) h fdX1_50 (inw ht) (by decide) dX1_readTerm_14 ?_
      refine g_bipush (pc := 17) (v := (15 : Int32)) h dX1_readTerm_17 (by decide) ?_
      refine g_icmp_ne (pc := 19) (tgt := 45) h dX1_readTerm_19 (by decide) hF (fun hF => ?_) (fun hF => ?_)
      · exact g_vret (pc := 45) h hr ⟨Nat.le_refl _, Nat.le_refl _⟩ hF dX1_readTerm_45
      · refine g_aload_n (pc := 22) h 0 rfl dX1_readTerm_22 ?_
        refine g_cvV (pc := 23) (st := []) h mX1_take cvX1_37 (inw ht) (by omega) ⟨by decide, by decide⟩ (Nat.le_of_ble_eq_true rfl) rfl rfl dX1_readTerm_23 hF (fun u_3 w_4 hF => ?_)
        refine g_aload_n (pc := 26) h 0 rfl dX1_readTerm_26 ?_
        refine g_cvV (pc := 27) (st := []) h (hcall_X1_readOne hcall) cvX1_78 (inw ht) (by omega) ⟨by decide, by decide⟩ (Nat.le_of_ble_eq_true rfl) rfl rfl dX1_readTerm_27 hF (fun u_5 w_6 hF => ?_)
        refine g_aload_n (pc := 30) h 0 rfl dX1_readTerm_30 ?_
        refine g_getR (pc := 31) h fdX1_19 (inw ht) rfl dX1_readTerm_31 ?_
        refine g_bipush (pc := 34) (v := (10 : Int32)) h dX1_readTerm_34 (by decide) ?_
        refine g_dr hF (fun a_7 e_a_7 h_a_7 hF => ?_)
        rw [e_a_7]
        refine g_cvV (pc := 36) (st := []) h mX3_append cvX1_62 h_a_7 (by omega) ⟨by decide, by decide⟩ (Nat.le_of_ble_eq_true rfl) rfl rfl dX1_readTerm_36 hF (fun u_8 w_9 hF => ?_)
        refine g_iinc (pc := 39) (lv' := [(1, .inl (x1 + (1 : Int32))), (0, .inr (.inl (some t)))]) h 1 rfl dX1_readTerm_39 (dv := (1 : Int32)) (by decide) (hj 1 (by decide)) rfl ?_
        refine g_goto (pc := 42) (tgt := 6) h dX1_readTerm_42 (by decide) ?_
        refine g_lv (lv' := [(0, .inr (.inl (some t))), (1, .inl (x1 + (1 : Int32)))]) [1, 0] rfl ?_
        exact ih _ _ hF
def fX1_readTerm (call : Nat → Nat → Wd → Option (Unit × Wd)) (t : Nat) (w : Wd) : Option (Unit × Wd) :=
  bnd (call 5 t w) (fun u_1 w_2 => fX1_readTerm_6 call t FU (0 : Int32) w_2)
set_option maxHeartbeats 4000000 in
theorem mX1_readTerm {Γ : En} {dc : Nat} (hdc : 12 ≤ dc) {call : Nat → Nat → Wd → Option (Unit × Wd)} {t : Nat} {w : Wd} (ht : t < wn w ∧ kd t = 1) (hcall : CallOk Γ dc call) : MtV Γ yX1_readTerm cX1_readTerm 2 none (dc + 1) 0 0 [rv Γ (some t)] w (fX1_readTerm call t w) := by
  refine mtV [.inr (.inl (some t))] rfl (Nat.le_of_ble_eq_true rfl) (fun X hΓ hnL hn0 h _ hr hF => ?_)
  subst hΓ
  have ht : InN X t 1 := ⟨by rw [hn0]; exact ht.1, ht.2⟩
  have h : Ok X cX1_readTerm RX1 (dc + 1) 0 0 := h
  have hj : ∀ j, j < 2 → j < nLX X := fun j q => by rw [hnL]; exact q
  show G X 0 0 0 [(0, .inr (.inl (some t)))] [] w
  unfold fX1_readTerm at hF
  refine g_aload_n (pc := 0) h 0 rfl dX1_readTerm_0 ?_
  refine g_cvV (pc := 1) (st := []) h (hcall_X1_readOne hcall) cvX1_78 (inw ht) (by omega) ⟨by decide, by decide⟩ (Nat.le_of_ble_eq_true rfl) rfl rfl dX1_readTerm_1 hF (fun u_1 w_2 hF => ?_)
  refine g_iconst (pc := 4) (v := (0 : Int32)) h dX1_readTerm_4 (by decide) ?_
  refine g_istore_n (pc := 5) (lv' := [(1, .inl (0 : Int32)), (0, .inr (.inl (some t)))]) h dX1_readTerm_5 (hj 1 (by decide)) rfl ?_
  refine g_lv (lv' := [(0, .inr (.inl (some t))), (1, .inl (0 : Int32))]) [1, 0] rfl ?_
  exact kX1_readTerm_6 hdc h hr hnL ht hcall _ _ _ hF
def fX1_readOne (call : Nat → Nat → Wd → Option (Unit × Wd)) (t : Nat) (w : Wd) : Option (Unit × Wd) :=
  if (gI w t 4) = (2 : Int32) then
    (dr (gR w t 8) 3 w (fun a_23 => bnd (fX3_append a_23 ((16 : Int32) + (gI w t 5)) w) (fun u_24 w_25 => bnd (fX1_take t w_25) (fun u_26 w_27 => some ((), w_27)))))
  else
    (if (gI w t 4) = (3 : Int32) then
      (dr (gR w t 8) 3 w (fun a_18 => bnd (fX3_append a_18 (gI w t 5) w) (fun u_19 w_20 => bnd (fX1_take t w_20) (fun u_21 w_22 => some ((), w_22)))))
    else
      (if (gI w t 4) = (14 : Int32) then
        (bnd (fX1_takeOpening t w) (fun x_10 w_11 => if x_10 = 0 then
          (some ((), w_11))
        else
          (bnd (call 5 t w_11) (fun u_12 w_13 => dr (gR w_13 t 8) 3 w_13 (fun a_14 => bnd (fX3_append a_14 (7 : Int32) w_13) (fun u_15 w_16 => lw (sI w_16 t 6 ((gI w_16 t 6) - (1 : Int32))) (fun w_17 => some ((), w_17))))))))
      else
        (if (gI w t 4) = (10 : Int32) then
          (bnd (fX1_takeOpening t w) (fun x_3 w_4 => if x_3 = 0 then
            (some ((), w_4))
          else
            (bnd (call 0 t w_4) (fun u_5 w_6 => bnd (fX1_expect t (11 : Int32) w_6) (fun u_7 w_8 => lw (sI w_8 t 6 ((gI w_8 t 6) - (1 : Int32))) (fun w_9 => some ((), w_9)))))))
        else
          (bnd (fX1_fail t w) (fun u_1 w_2 => some ((), w_2))))))
set_option maxHeartbeats 4000000 in
theorem mX1_readOne {Γ : En} {dc : Nat} (hdc : 12 ≤ dc) {call : Nat → Nat → Wd → Option (Unit × Wd)} {t : Nat} {w : Wd} (ht : t < wn w ∧ kd t = 1) (hcall : CallOk Γ dc call) : MtV Γ yX1_readOne cX1_readOne 1 none (dc + 1) 0 0 [rv Γ (some t)] w (fX1_readOne call t w) := by
  refine mtV [.inr (.inl (some t))] rfl (Nat.le_of_ble_eq_true rfl) (fun X hΓ hnL hn0 h _ hr hF => ?_)
  subst hΓ
  have ht : InN X t 1 := ⟨by rw [hn0]; exact ht.1, ht.2⟩
  have h : Ok X cX1_readOne RX1 (dc + 1) 0 0 := h
  have hj : ∀ j, j < 1 → j < nLX X := fun j q => by rw [hnL]; exact q
  show G X 0 0 0 [(0, .inr (.inl (some t)))] [] w
  unfold fX1_readOne at hF
  refine g_aload_n (pc := 0) h 0 rfl dX1_readOne_0 ?_
  refine g_getI (pc := 1) h fdX1_50 (inw ht) (by decide) dX1_readOne_1 ?_
  refine g_iconst (pc := 4) (v := (2 : Int32)) h dX1_readOne_4 (by decide) ?_
  refine g_icmp_ne (pc := 5) (tgt := 29) h dX1_readOne_5 (by decide) hF (fun hF => ?_) (fun hF => ?_)
  · refine g_aload_n (pc := 29) h 0 rfl dX1_readOne_29 ?_
    refine g_getI (pc := 30) h fdX1_50 (inw ht) (by decide) dX1_readOne_30 ?_
    refine g_iconst (pc := 33) (v := (3 : Int32)) h dX1_readOne_33 (by decide) ?_
    refine g_icmp_ne (pc := 34) (tgt := 55) h dX1_readOne_34 (by decide) hF (fun hF => ?_) (fun hF => ?_)
    · refine g_aload_n (pc := 55) h 0 rfl dX1_readOne_55 ?_
      refine g_getI (pc := 56) h fdX1_50 (inw ht) (by decide) dX1_readOne_56 ?_
      refine g_bipush (pc := 59) (v := (14 : Int32)) h dX1_readOne_59 (by decide) ?_
      refine g_icmp_ne (pc := 61) (tgt := 97) h dX1_readOne_61 (by decide) hF (fun hF => ?_) (fun hF => ?_)
      · refine g_aload_n (pc := 97) h 0 rfl dX1_readOne_97 ?_
        refine g_getI (pc := 98) h fdX1_50 (inw ht) (by decide) dX1_readOne_98 ?_
        refine g_bipush (pc := 101) (v := (10 : Int32)) h dX1_readOne_101 (by decide) ?_
        refine g_icmp_ne (pc := 103) (tgt := 136) h dX1_readOne_103 (by decide) hF (fun hF => ?_) (fun hF => ?_)
        · refine g_aload_n (pc := 136) h 0 rfl dX1_readOne_136 ?_
          refine g_cvV (pc := 137) (st := []) h mX1_fail cvX1_53 (inw ht) (by omega) ⟨by decide, by decide⟩ (Nat.le_of_ble_eq_true rfl) rfl rfl dX1_readOne_137 hF (fun u_1 w_2 hF => ?_)
          exact g_vret (pc := 140) h hr ⟨Nat.le_refl _, Nat.le_refl _⟩ hF dX1_readOne_140
        · refine g_aload_n (pc := 106) h 0 rfl dX1_readOne_106 ?_
          refine g_cvI (pc := 107) (st := []) h mX1_takeOpening cvX1_68 (inw ht) (by omega) ⟨by decide, by decide⟩ (Nat.le_of_ble_eq_true rfl) rfl rfl dX1_readOne_107 hF (fun x_3 w_4 hF => ?_)
          refine g_if_eq (pc := 110) (tgt := 140) h dX1_readOne_110 (by decide) hF (fun hF => ?_) (fun hF => ?_)
          · exact g_vret (pc := 140) h hr ⟨Nat.le_refl _, Nat.le_refl _⟩ hF dX1_readOne_140
          · refine g_aload_n (pc := 113) h 0 rfl dX1_readOne_113 ?_
            refine g_cvV (pc := 114) (st := []) h (hcall_X1_readEither hcall) cvX1_44 (inw ht) (by omega) ⟨by decide, by decide⟩ (Nat.le_of_ble_eq_true rfl) rfl rfl dX1_readOne_114 hF (fun u_5 w_6 hF => ?_)
            refine g_aload_n (pc := 117) h 0 rfl dX1_readOne_117 ?_
            refine g_bipush (pc := 118) (v := (11 : Int32)) h dX1_readOne_118 (by decide) ?_
            refine g_cvV (pc := 120) (st := []) h mX1_expect cvX1_40 (inw ht) (by omega) ⟨by decide, by decide⟩ (Nat.le_of_ble_eq_true rfl) rfl rfl dX1_readOne_120 hF (fun u_7 w_8 hF => ?_)
            refine g_aload_n (pc := 123) h 0 rfl dX1_readOne_123 ?_
            refine g_dup (pc := 124) h dX1_readOne_124 rv_cat ?_
            refine g_getI (pc := 125) h fdX1_31 (inw ht) (by decide) dX1_readOne_125 ?_
            refine g_iconst (pc := 128) (v := (1 : Int32)) h dX1_readOne_128 (by decide) ?_
            refine g_isub (pc := 129) h dX1_readOne_129 ?_
            refine g_putI (pc := 130) h fdX1_31 (inw ht) (by decide) ⟨rfl, rfl⟩ dX1_readOne_130 ?_
            refine g_w hF (fun w_9 hF => ?_)
            refine g_goto (pc := 133) (tgt := 140) h dX1_readOne_133 (by decide) ?_
            exact g_vret (pc := 140) h hr ⟨Nat.le_refl _, Nat.le_refl _⟩ hF dX1_readOne_140
      · refine g_aload_n (pc := 64) h 0 rfl dX1_readOne_64 ?_
        refine g_cvI (pc := 65) (st := []) h mX1_takeOpening cvX1_68 (inw ht) (by omega) ⟨by decide, by decide⟩ (Nat.le_of_ble_eq_true rfl) rfl rfl dX1_readOne_65 hF (fun x_10 w_11 hF => ?_)
        refine g_if_eq (pc := 68) (tgt := 140) h dX1_readOne_68 (by decide) hF (fun hF => ?_) (fun hF => ?_)
        · exact g_vret (pc := 140) h hr ⟨Nat.le_refl _, Nat.le_refl _⟩ hF dX1_readOne_140
        · refine g_aload_n (pc := 71) h 0 rfl dX1_readOne_71 ?_
          refine g_cvV (pc := 72) (st := []) h (hcall_X1_readOne hcall) cvX1_78 (inw ht) (by omega) ⟨by decide, by decide⟩ (Nat.le_of_ble_eq_true rfl) rfl rfl dX1_readOne_72 hF (fun u_12 w_13 hF => ?_)
          refine g_aload_n (pc := 75) h 0 rfl dX1_readOne_75 ?_
          refine g_getR (pc := 76) h fdX1_19 (inw ht) rfl dX1_readOne_76 ?_
          refine g_bipush (pc := 79) (v := (7 : Int32)) h dX1_readOne_79 (by decide) ?_
          refine g_dr hF (fun a_14 e_a_14 h_a_14 hF => ?_)
          rw [e_a_14]
          refine g_cvV (pc := 81) (st := []) h mX3_append cvX1_62 h_a_14 (by omega) ⟨by decide, by decide⟩ (Nat.le_of_ble_eq_true rfl) rfl rfl dX1_readOne_81 hF (fun u_15 w_16 hF => ?_)
          refine g_aload_n (pc := 84) h 0 rfl dX1_readOne_84 ?_
          refine g_dup (pc := 85) h dX1_readOne_85 rv_cat ?_
          refine g_getI (pc := 86) h fdX1_31 (inw ht) (by decide) dX1_readOne_86 ?_
          refine g_iconst (pc := 89) (v := (1 : Int32)) h dX1_readOne_89 (by decide) ?_
          refine g_isub (pc := 90) h dX1_readOne_90 ?_
          refine g_putI (pc := 91) h fdX1_31 (inw ht) (by decide) ⟨rfl, rfl⟩ dX1_readOne_91 ?_
          refine g_w hF (fun w_17 hF => ?_)
          refine g_goto (pc := 94) (tgt := 140) h dX1_readOne_94 (by decide) ?_
          exact g_vret (pc := 140) h hr ⟨Nat.le_refl _, Nat.le_refl _⟩ hF dX1_readOne_140
    · refine g_aload_n (pc := 37) h 0 rfl dX1_readOne_37 ?_
      refine g_getR (pc := 38) h fdX1_19 (inw ht) rfl dX1_readOne_38 ?_
      refine g_aload_n (pc := 41) h 0 rfl dX1_readOne_41 ?_
      refine g_getI (pc := 42) h fdX1_81 (inw ht) (by decide) dX1_readOne_42 ?_
      refine g_dr hF (fun a_18 e_a_18 h_a_18 hF => ?_)
      rw [e_a_18]
      refine g_cvV (pc := 45) (st := []) h mX3_append cvX1_62 h_a_18 (by omega) ⟨by decide, by decide⟩ (Nat.le_of_ble_eq_true rfl) rfl rfl dX1_readOne_45 hF (fun u_19 w_20 hF => ?_)
      refine g_aload_n (pc := 48) h 0 rfl dX1_readOne_48 ?_
      refine g_cvV (pc := 49) (st := []) h mX1_take cvX1_37 (inw ht) (by omega) ⟨by decide, by decide⟩ (Nat.le_of_ble_eq_true rfl) rfl rfl dX1_readOne_49 hF (fun u_21 w_22 hF => ?_)
      refine g_goto (pc := 52) (tgt := 140) h dX1_readOne_52 (by decide) ?_
      exact g_vret (pc := 140) h hr ⟨Nat.le_refl _, Nat.le_refl _⟩ hF dX1_readOne_140
  · refine g_aload_n (pc := 8) h 0 rfl dX1_readOne_8 ?_
    refine g_getR (pc := 9) h fdX1_19 (inw ht) rfl dX1_readOne_9 ?_
    refine g_bipush (pc := 12) (v := (16 : Int32)) h dX1_readOne_12 (by decide) ?_
    refine g_aload_n (pc := 14) h 0 rfl dX1_readOne_14 ?_
    refine g_getI (pc := 15) h fdX1_81 (inw ht) (by decide) dX1_readOne_15 ?_
    refine g_iadd (pc := 18) h dX1_readOne_18 ?_
    refine g_dr hF (fun a_23 e_a_23 h_a_23 hF => ?_)
    rw [e_a_23]
    refine g_cvV (pc := 19) (st := []) h mX3_append cvX1_62 h_a_23 (by omega) ⟨by decide, by decide⟩ (Nat.le_of_ble_eq_true rfl) rfl rfl dX1_readOne_19 hF (fun u_24 w_25 hF => ?_)
    refine g_aload_n (pc := 22) h 0 rfl dX1_readOne_22 ?_
    refine g_cvV (pc := 23) (st := []) h mX1_take cvX1_37 (inw ht) (by omega) ⟨by decide, by decide⟩ (Nat.le_of_ble_eq_true rfl) rfl rfl dX1_readOne_23 hF (fun u_26 w_27 hF => ?_)
    refine g_goto (pc := 26) (tgt := 140) h dX1_readOne_26 (by decide) ?_
    exact g_vret (pc := 140) h hr ⟨Nat.le_refl _, Nat.le_refl _⟩ hF dX1_readOne_140
theorem mtV_none {Γ : En} {y : MethodName} {cc : ByteArray} {mL d K N : Nat} {ret : Option FieldType} {vs : List Value} {w : Wd} : MtV Γ y cc mL ret d K N vs w none := fun r w2 h => by cases h
/-- the reader's calls of itself, as deep as n -/
def rdX1 : Nat → Nat → Nat → Wd → Option (Unit × Wd)
  | 0 => fun _ _ _ => none
  | n + 1 => fun j t w => if j = 0 then fX1_readEither (rdX1 n) t w else if j = 1 then fX1_readBoth (rdX1 n) t w else if j = 2 then fX1_readNot (rdX1 n) t w else if j = 3 then fX1_readSum (rdX1 n) t w else if j = 4 then fX1_readTerm (rdX1 n) t w else fX1_readOne (rdX1 n) t w
theorem rdOk {Γ : En} : ∀ n : Nat, CallOk Γ (12 + n) (rdX1 n)
  | 0 => ⟨fun a w ha => mtV_none, fun a w ha => mtV_none, fun a w ha => mtV_none, fun a w ha => mtV_none, fun a w ha => mtV_none, fun a w ha => mtV_none⟩
  | n + 1 => by
    have ih := rdOk (Γ := Γ) n
    have hd : 12 ≤ 12 + n := by omega
    exact ⟨fun a w ha => mX1_readEither hd ha ih, fun a w ha => mX1_readBoth hd ha ih, fun a w ha => mX1_readNot hd ha ih, fun a w ha => mX1_readSum hd ha ih, fun a w ha => mX1_readTerm hd ha ih, fun a w ha => mX1_readOne hd ha ih⟩
theorem rX1_readEither {Γ : En} {a : Nat} {w : Wd} (ha : a < wn w ∧ kd a = 1) : MtV Γ yX1_readEither cX1_readEither 2 none 72 0 0 [rv Γ (some a)] w (rdX1 RF 0 a w) := (rdOk RF).1 a w ha
theorem rX1_readBoth {Γ : En} {a : Nat} {w : Wd} (ha : a < wn w ∧ kd a = 1) : MtV Γ yX1_readBoth cX1_readBoth 2 none 72 0 0 [rv Γ (some a)] w (rdX1 RF 1 a w) := (rdOk RF).2.1 a w ha
theorem rX1_readNot {Γ : En} {a : Nat} {w : Wd} (ha : a < wn w ∧ kd a = 1) : MtV Γ yX1_readNot cX1_readNot 2 none 72 0 0 [rv Γ (some a)] w (rdX1 RF 2 a w) := (rdOk RF).2.2.1 a w ha
theorem rX1_readSum {Γ : En} {a : Nat} {w : Wd} (ha : a < wn w ∧ kd a = 1) : MtV Γ yX1_readSum cX1_readSum 3 none 72 0 0 [rv Γ (some a)] w (rdX1 RF 3 a w) := (rdOk RF).2.2.2.1 a w ha
theorem rX1_readTerm {Γ : En} {a : Nat} {w : Wd} (ha : a < wn w ∧ kd a = 1) : MtV Γ yX1_readTerm cX1_readTerm 2 none 72 0 0 [rv Γ (some a)] w (rdX1 RF 4 a w) := (rdOk RF).2.2.2.2.1 a w ha
theorem rX1_readOne {Γ : En} {a : Nat} {w : Wd} (ha : a < wn w ∧ kd a = 1) : MtV Γ yX1_readOne cX1_readOne 1 none 72 0 0 [rv Γ (some a)] w (rdX1 RF 5 a w) := (rdOk RF).2.2.2.2.2 a w ha
def fX1_readInto_81 (t : Nat) (w : Wd) : Option (Int32 × Wd) :=
  lw (sI w t 1 (0 : Int32)) (fun w_21 => some (gI w_21 t 7, w_21))
set_option maxHeartbeats 4000000 in
theorem kX1_readInto_81 {X : Cx} (h : Ok X cX1_readInto RX1 73 0 0) (hr : RetI X .int 0 0) (hnL : nLX X = 3) {t : Nat} (ht : InN X t 1) : ∀ (w : Wd), OkR X Value.int (fX1_readInto_81 t  w) → G X 0 0 81 [(0, .inr (.inl (some t)))] [] w := by
  have hj : ∀ j, j < 3 → j < nLX X := fun j q => by rw [hnL]; exact q
  intro w hF
  unfold fX1_readInto_81 at hF
  refine g_aload_n (pc := 81) h 0 rfl dX1_readInto_81 ?_
  refine g_iconst (pc := 82) (v := (0 : Int32)) h dX1_readInto_82 (by decide) ?_
  refine g_putI (pc := 83) h fdX1_15 (inw ht) (by decide) ⟨rfl, rfl⟩ dX1_readInto_83 ?_
  refine g_w hF (fun w_21 hF => ?_)
  refine g_aload_n (pc := 86) h 0 rfl dX1_readInto_86 ?_
  refine g_getI (pc := 87) h fdX1_34 (inw ht) (by decide) dX1_readInto_87 ?_
  exact g_iret (pc := 90) h hr ⟨Nat.le_refl _, Nat.le_refl _⟩ hF dX1_readInto_90
def fX1_readInto_33 (t : Nat) : Nat → Int32 → Wd → Option (Int32 × Wd)
  | 0 => fun _ _ => none
  | n + 1 => fun x2 w =>
    if (3 : Int32) ≤ x2 then
      (if (gI w t 4) = (1 : Int32) then
        (fX1_readInto_81 t w)
      else
        (bnd (fX1_fail t w) (fun u_10 w_11 => fX1_readInto_81 t w_11)))
    else
      (bnd (fX1_expect t ((4 : Int32) + x2) w) (fun u_12 w_13 => bnd (rdX1 RF 0 t w_13) (fun u_14 w_15 => dr (gR w_15 t 8) 3 w_15 (fun a_16 => bnd (fX3_endPart a_16 x2 w_15) (fun u_17 w_18 => bnd (fX1_expect t (12 : Int32) w_18) (fun u_19 w_20 => fX1_readInto_33 t n (x2 + (1 : Int32)) w_20))))))
set_option maxHeartbeats 4000000 in
theorem kX1_readInto_33 {X : Cx} (h : Ok X cX1_readInto RX1 73 0 0) (hr : RetI X .int 0 0) (hnL : nLX X = 3) {t : Nat} (ht : InN X t 1) : ∀ (fu : Nat) (x2 : Int32) (w : Wd), OkR X Value.int (fX1_readInto_33 t fu x2 w) → G X 0 0 33 [(0, .inr (.inl (some t))), (2, .inl x2)] [] w := by
  have hj : ∀ j, j < 3 → j < nLX X := fun j q => by rw [hnL]; exact q
  intro fu
  induction fu with
  | zero => intro x2 w hF; exact okN hF
  | succ fu ih =>
    intro x2 w hF
    rw [fX1_readInto_33] at hF
    refine g_iload_n (pc := 33) h 1 rfl dX1_readInto_33 ?_
    refine g_iconst (pc := 34) (v := (3 : Int32)) h dX1_readInto_34 (by decide) ?_
    refine g_icmp_ge (pc := 35) (tgt := 69) h dX1_readInto_35 (by decide) hF (fun hF => ?_) (fun hF => ?_)
    · refine g_aload_n (pc := 69) h 0 rfl dX1_readInto_69 ?_
      refine g_getI (pc := 70) h fdX1_50 (inw ht) (by decide) dX1_readInto_70 ?_
      refine g_iconst (pc := 73) (v := (1 : Int32)) h dX1_readInto_73 (by decide) ?_
      refine g_icmp_eq (pc := 74) (tgt := 81) h dX1_readInto_74 (by decide) hF (fun hF => ?_) (fun hF => ?_)
      · refine g_lv (lv' := [(0, .inr (.inl (some t)))]) [0] rfl ?_
        exact kX1_readInto_81 h hr hnL ht _ hF
      · refine g_aload_n (pc := 77) h 0 rfl dX1_readInto_77 ?_
        refine g_cvV (pc := 78) (st := []) h mX1_fail cvX1_53 (inw ht) (by decide) ⟨by decide, by decide⟩ (Nat.le_of_ble_eq_true rfl) rfl rfl dX1_readInto_78 hF (fun u_10 w_11 hF => ?_)
        refine g_lv (lv' := [(0, .inr (.inl (some t)))]) [0] rfl ?_
        exact kX1_readInto_81 h hr hnL ht _ hF
    · refine g_aload_n (pc := 38) h 0 rfl dX1_readInto_38 ?_
      refine g_iconst (pc := 39) (v := (4 : Int32)) h dX1_readInto_39 (by decide) ?_
      refine g_iload_n (pc := 40) h 1 rfl dX1_readInto_40 ?_
      refine g_iadd (pc := 41) h dX1_readInto_41 ?_
      refine g_cvV (pc := 42) (st := []) h mX1_expect cvX1_40 (inw ht) (by decide) ⟨by decide, by decide⟩ (Nat.le_of_ble_eq_true rfl) rfl rfl dX1_readInto_42 hF (fun u_12 w_13 hF => ?_)
      refine g_aload_n (pc := 45) h 0 rfl dX1_readInto_45 ?_
      refine g_cvV (pc := 46) (st := []) h rX1_readEither cvX1_44 (inw ht) (by decide) ⟨by decide, by decide⟩ (Nat.le_of_ble_eq_true rfl) rfl rfl dX1_readInto_46 hF (fun u_14 w_15 hF => ?_)
      refine g_aload_n (pc := 49) h 0 rfl dX1_readInto_49 ?_
      refine g_getR (pc := 50) h fdX1_19 (inw ht) rfl dX1_readInto_50 ?_
      refine g_iload_n (pc := 53) h 1 rfl dX1_readInto_53 ?_
      refine g_dr hF (fun a_16 e_a_16 h_a_16 hF => ?_)
      rw [e_a_16]
      refine g_cvV (pc := 54) (st := []) h mX3_endPart cvX1_47 h_a_16 (by decide) ⟨by decide, by decide⟩ (Nat.le_of_ble_eq_true rfl) rfl rfl dX1_readInto_54 hF (fun u_17 w_18 hF => ?_)
      refine g_aload_n (pc := 57) h 0 rfl dX1_readInto_57 ?_
      refine g_bipush (pc := 58) (v := (12 : Int32)) h dX1_readInto_58 (by decide) ?_
      refine g_cvV (pc := 60) (st := []) h mX1_expect cvX1_40 (inw ht) (by decide) ⟨by decide, by decide⟩ (Nat.le_of_ble_eq_true rfl) rfl rfl dX1_readInto_60 hF (fun u_19 w_20 hF => ?_)
      refine g_iinc (pc := 63) (lv' := [(2, .inl (x2 + (1 : Int32))), (0, .inr (.inl (some t)))]) h 1 rfl dX1_readInto_63 (dv := (1 : Int32)) (by decide) (hj 2 (by decide)) rfl ?_
      refine g_goto (pc := 66) (tgt := 33) h dX1_readInto_66 (by decide) ?_
      refine g_lv (lv' := [(0, .inr (.inl (some t))), (2, .inl (x2 + (1 : Int32)))]) [1, 0] rfl ?_
      exact ih _ _ hF
def fX1_readInto (t : Nat) (r1 : Option Nat) (w : Wd) : Option (Int32 × Wd) :=
  lw (sR w t 8 r1) (fun w_1 => dr (gR w_1 t 8) 3 w_1 (fun a_2 => bnd (fX3_clear a_2 w_1) (fun u_3 w_4 => lw (sI w_4 t 2 (0 : Int32)) (fun w_5 => lw (sI w_5 t 6 (0 : Int32)) (fun w_6 => lw (sI w_6 t 7 (-1 : Int32)) (fun w_7 => bnd (fX1_take t w_7) (fun u_8 w_9 => fX1_readInto_33 t FU (0 : Int32) w_9)))))))
set_option maxHeartbeats 4000000 in
theorem mX1_readInto {Γ : En} {t : Nat} {r1 : Option Nat} {w : Wd} (ht : t < wn w ∧ kd t = 1) : MtI Γ yX1_readInto cX1_readInto 3 (some .int) 73 0 0 [rv Γ (some t), rv Γ r1] w (fX1_readInto t r1 w) := by
  refine mtI [.inr (.inl (some t)), .inr (.inl r1)] rfl (Nat.le_of_ble_eq_true rfl) (fun X hΓ hnL hn0 h _ hr hF => ?_)
  subst hΓ
  have ht : InN X t 1 := ⟨by rw [hn0]; exact ht.1, ht.2⟩
  have h : Ok X cX1_readInto RX1 73 0 0 := h
  have hj : ∀ j, j < 3 → j < nLX X := fun j q => by rw [hnL]; exact q
  show G X 0 0 0 [(0, .inr (.inl (some t))), (1, .inr (.inl r1))] [] w
  unfold fX1_readInto at hF
  refine g_aload_n (pc := 0) h 0 rfl dX1_readInto_0 ?_
  refine g_aload_n (pc := 1) h 1 rfl dX1_readInto_1 ?_
  refine g_putR (pc := 2) h fdX1_19 (inw ht) rfl (Or.inl ⟨_, rfl⟩) dX1_readInto_2 ?_
  refine g_w hF (fun w_1 hF => ?_)
  refine g_aload_n (pc := 5) h 0 rfl dX1_readInto_5 ?_
  refine g_getR (pc := 6) h fdX1_19 (inw ht) rfl dX1_readInto_6 ?_
  refine g_dr hF (fun a_2 e_a_2 h_a_2 hF => ?_)
  rw [e_a_2]
  refine g_cvV (pc := 9) (st := []) h mX3_clear cvX1_23 h_a_2 (by decide) ⟨by decide, by decide⟩ (Nat.le_of_ble_eq_true rfl) rfl rfl dX1_readInto_9 hF (fun u_3 w_4 hF => ?_)
  refine g_aload_n (pc := 12) h 0 rfl dX1_readInto_12 ?_
  refine g_iconst (pc := 13) (v := (0 : Int32)) h dX1_readInto_13 (by decide) ?_
  refine g_putI (pc := 14) h fdX1_28 (inw ht) (by decide) ⟨rfl, rfl⟩ dX1_readInto_14 ?_
  refine g_w hF (fun w_5 hF => ?_)
  refine g_aload_n (pc := 17) h 0 rfl dX1_readInto_17 ?_
  refine g_iconst (pc := 18) (v := (0 : Int32)) h dX1_readInto_18 (by decide) ?_
  refine g_putI (pc := 19) h fdX1_31 (inw ht) (by decide) ⟨rfl, rfl⟩ dX1_readInto_19 ?_
  refine g_w hF (fun w_6 hF => ?_)
  refine g_aload_n (pc := 22) h 0 rfl dX1_readInto_22 ?_
  refine g_iconst (pc := 23) (v := (-1 : Int32)) h dX1_readInto_23 (by decide) ?_
  refine g_putI (pc := 24) h fdX1_34 (inw ht) (by decide) ⟨rfl, rfl⟩ dX1_readInto_24 ?_
  refine g_w hF (fun w_7 hF => ?_)
  refine g_aload_n (pc := 27) h 0 rfl dX1_readInto_27 ?_
  refine g_cvV (pc := 28) (st := []) h mX1_take cvX1_37 (inw ht) (by decide) ⟨by decide, by decide⟩ (Nat.le_of_ble_eq_true rfl) rfl rfl dX1_readInto_28 hF (fun u_8 w_9 hF => ?_)
  refine g_iconst (pc := 31) (v := (0 : Int32)) h dX1_readInto_31 (by decide) ?_
  refine g_istore_n (pc := 32) (lv' := [(2, .inl (0 : Int32)), (0, .inr (.inl (some t))), (1, .inr (.inl r1))]) h dX1_readInto_32 (hj 2 (by decide)) rfl ?_
  refine g_lv (lv' := [(0, .inr (.inl (some t))), (2, .inl (0 : Int32))]) [1, 0] rfl ?_
  exact kX1_readInto_33 h hr hnL ht _ _ _ hF
