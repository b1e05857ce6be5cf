theorem fdX4_11 : FdOk RX4 11 4 8 (.array .int) true := ⟨RX4, TX4, 9, tyX4, rfl, inX4, by decide, rfl, by decide, rfl, wfl_X4_11, tyX4_ok, nmX4, rfl, rfl⟩
theorem fdX4_15 : FdOk RX4 15 4 7 (.object "SolesByWhatIsTold$Text") false := ⟨RX4, TX4, 9, tyX4, rfl, inX4, by decide, rfl, by decide, rfl, wfl_X4_15, tyX4_ok, nmX4, rfl, rfl⟩
theorem fdX4_19 : FdOk RX4 19 5 0 .int false := ⟨RX5, TX5, 6, tyX5, rfl, inX5, by decide, rfl, by decide, rfl, wfl_X4_19, tyX5_ok, nmX5, rfl, rfl⟩
theorem fdX4_25 : FdOk RX4 25 4 0 .int false := ⟨RX4, TX4, 9, tyX4, rfl, inX4, by decide, rfl, by decide, rfl, wfl_X4_25, tyX4_ok, nmX4, rfl, rfl⟩
theorem fdX4_26 : FdOk RX4 26 5 1 .int false := ⟨RX5, TX5, 6, tyX5, rfl, inX5, by decide, rfl, by decide, rfl, wfl_X4_26, tyX5_ok, nmX5, rfl, rfl⟩
theorem fdX4_29 : FdOk RX4 29 4 1 .int false := ⟨RX4, TX4, 9, tyX4, rfl, inX4, by decide, rfl, by decide, rfl, wfl_X4_29, tyX4_ok, nmX4, rfl, rfl⟩
theorem fdX4_30 : FdOk RX4 30 5 4 .int false := ⟨RX5, TX5, 6, tyX5, rfl, inX5, by decide, rfl, by decide, rfl, wfl_X4_30, tyX5_ok, nmX5, rfl, rfl⟩
theorem fdX4_33 : FdOk RX4 33 4 4 .int false := ⟨RX4, TX4, 9, tyX4, rfl, inX4, by decide, rfl, by decide, rfl, wfl_X4_33, tyX4_ok, nmX4, rfl, rfl⟩
theorem fdX4_34 : FdOk RX4 34 5 5 .int false := ⟨RX5, TX5, 6, tyX5, rfl, inX5, by decide, rfl, by decide, rfl, wfl_X4_34, tyX5_ok, nmX5, rfl, rfl⟩
theorem fdX4_37 : FdOk RX4 37 4 5 .int false := ⟨RX4, TX4, 9, tyX4, rfl, inX4, by decide, rfl, by decide, rfl, wfl_X4_37, tyX4_ok, nmX4, rfl, rfl⟩
theorem fdX4_38 : FdOk RX4 38 4 6 .int false := ⟨RX4, TX4, 9, tyX4, rfl, inX4, by decide, rfl, by decide, rfl, wfl_X4_38, tyX4_ok, nmX4, rfl, rfl⟩
theorem fdX4_41 : FdOk RX4 41 4 2 .int false := ⟨RX4, TX4, 9, tyX4, rfl, inX4, by decide, rfl, by decide, rfl, wfl_X4_41, tyX4_ok, nmX4, rfl, rfl⟩
theorem fdX4_44 : FdOk RX4 44 4 3 .int false := ⟨RX4, TX4, 9, tyX4, rfl, inX4, by decide, rfl, by decide, rfl, wfl_X4_44, tyX4_ok, nmX4, rfl, rfl⟩
theorem fdX4_84 : FdOk RX4 84 3 3 .boolean false := ⟨RX3, TX3, 4, tyX3, rfl, inX3, by decide, rfl, by decide, rfl, wfl_X4_84, tyX3_ok, nmX3, rfl, rfl⟩
theorem fdX4_93 : FdOk RX4 93 2 2 .int false := ⟨RX2, TX2, 3, tyX2, rfl, inX2, by decide, rfl, by decide, rfl, wfl_X4_93, tyX2_ok, nmX2, rfl, rfl⟩
theorem fdX4_98 : FdOk RX4 98 2 0 (.array .int) true := ⟨RX2, TX2, 3, tyX2, rfl, inX2, by decide, rfl, by decide, rfl, wfl_X4_98, tyX2_ok, nmX2, rfl, rfl⟩
theorem fdX4_101 : FdOk RX4 101 3 0 (.array .int) true := ⟨RX3, TX3, 4, tyX3, rfl, inX3, by decide, rfl, by decide, rfl, wfl_X4_101, tyX3_ok, nmX3, rfl, rfl⟩
theorem cvX4_51 : CvOk RX4 51 4 yX4_valueOfPart cX4_valueOfPart 7 (some .int) 1 := ⟨⟨⟨by decide, by decide, rfl⟩, by decide, wco_X4_valueOfPart, win_X4⟩, by decide, ⟨_, _, rfl⟩, wml_X4_51, wim_X4_valueOfPart, wse_X4_valueOfPart⟩
theorem cvX4_59 : CvOk RX4 59 4 yX4_lastsByKind cX4_lastsByKind 2 (some .int) 1 := ⟨⟨⟨by decide, by decide, rfl⟩, by decide, wco_X4_lastsByKind, win_X4⟩, by decide, ⟨_, _, rfl⟩, wml_X4_59, wim_X4_lastsByKind, wse_X4_lastsByKind⟩
theorem cvX4_62 : CvOk RX4 62 4 yX4_paceByKind cX4_paceByKind 3 (some .int) 1 := ⟨⟨⟨by decide, by decide, rfl⟩, by decide, wco_X4_paceByKind, win_X4⟩, by decide, ⟨_, _, rfl⟩, wml_X4_62, wim_X4_paceByKind, wse_X4_paceByKind⟩
theorem cvX4_65 : CvOk RX4 65 4 yX4_lasts cX4_lasts 1 (some .int) 0 := ⟨⟨⟨by decide, by decide, rfl⟩, by decide, wco_X4_lasts, win_X4⟩, by decide, ⟨_, _, rfl⟩, wml_X4_65, wim_X4_lasts, wse_X4_lasts⟩
theorem cvX4_69 : CvOk RX4 69 4 yX4_isStopped cX4_isStopped 2 (some .boolean) 0 := ⟨⟨⟨by decide, by decide, rfl⟩, by decide, wco_X4_isStopped, win_X4⟩, by decide, ⟨_, _, rfl⟩, wml_X4_69, wim_X4_isStopped, wse_X4_isStopped⟩
theorem cvX4_73 : CvOk RX4 73 4 yX4_pace cX4_pace 1 (some .int) 0 := ⟨⟨⟨by decide, by decide, rfl⟩, by decide, wco_X4_pace, win_X4⟩, by decide, ⟨_, _, rfl⟩, wml_X4_73, wim_X4_pace, wse_X4_pace⟩
theorem cvX4_81 : CvOk RX4 81 4 yX4_passDay cX4_passDay 4 (some .boolean) 0 := ⟨⟨⟨by decide, by decide, rfl⟩, by decide, wco_X4_passDay, win_X4⟩, by decide, ⟨_, _, rfl⟩, wml_X4_81, wim_X4_passDay, wse_X4_passDay⟩
theorem cvX4_90 : CvOk RX4 90 4 yX4_isInSocks cX4_isInSocks 1 (some .boolean) 0 := ⟨⟨⟨by decide, by decide, rfl⟩, by decide, wco_X4_isInSocks, win_X4⟩, by decide, ⟨_, _, rfl⟩, wml_X4_90, wim_X4_isInSocks, wse_X4_isInSocks⟩
theorem cvX4_104 : CvOk RX4 104 3 yX3_endOf cX3_endOf 2 (some .int) 1 := ⟨⟨⟨by decide, by decide, rfl⟩, by decide, wco_X3_endOf, win_X3⟩, by decide, ⟨_, _, rfl⟩, wml_X4_104, wim_X3_endOf, wse_X3_endOf⟩
theorem cvX4_107 : CvOk RX4 107 3 yX3_startOf cX3_startOf 2 (some .int) 1 := ⟨⟨⟨by decide, by decide, rfl⟩, by decide, wco_X3_startOf, win_X3⟩, by decide, ⟨_, _, rfl⟩, wml_X4_107, wim_X3_startOf, wse_X3_startOf⟩
theorem cvX4_118 : CvOk RX4 118 4 yX4_ofNone cX4_ofNone 2 (some .int) 1 := ⟨⟨⟨by decide, by decide, rfl⟩, by decide, wco_X4_ofNone, win_X4⟩, by decide, ⟨_, _, rfl⟩, wml_X4_118, wim_X4_ofNone, wse_X4_ofNone⟩
theorem csX4_110 : CsOk RX4 110 yX4_ofTwo cX4_ofTwo 3 (some .int) 3 := ⟨⟨⟨by decide, by decide, rfl⟩, by decide, wco_X4_ofTwo, win_X4⟩, wml_X4_110, wst_X4_ofTwo⟩
theorem cnX4_47 : CnOk RX4 47 yX6_has cX6_has 2 (some .boolean) 2 := ⟨⟨⟨by decide, by decide, rfl⟩, by decide, wco_X6_has, win_X6⟩, List.mem_of_getElem? (i := 5) rfl, wst_X6_has⟩
theorem cnX4_55 : CnOk RX4 55 yX6_bounded cX6_bounded 2 (some .int) 2 := ⟨⟨⟨by decide, by decide, rfl⟩, by decide, wco_X6_bounded, win_X6⟩, List.mem_of_getElem? (i := 7) rfl, wst_X6_bounded⟩
theorem cnX4_114 : CnOk RX4 114 yX6_bit cX6_bit 1 (some .int) 1 := ⟨⟨⟨by decide, by decide, rfl⟩, by decide, wco_X6_bit, win_X6⟩, List.mem_of_getElem? (i := 6) rfl, wst_X6_bit⟩
def fX4_startAs (t : Nat) (r1 : Option Nat) (r2 : Option Nat) (x3 : Int32) (w : Wd) : Option (Unit × Wd) :=
  dr r1 5 w (fun a_1 => lw (sI w t 0 (gI w a_1 0)) (fun w_2 => lw (sI w_2 t 1 (gI w_2 a_1 1)) (fun w_3 => lw (sI w_3 t 4 (gI w_3 a_1 4)) (fun w_4 => lw (sI w_4 t 5 (gI w_4 a_1 5)) (fun w_5 => lw (sI w_5 t 6 x3) (fun w_6 => lw (sR w_6 t 7 r2) (fun w_7 => some ((), w_7))))))))
set_option maxHeartbeats 4000000 in
theorem mX4_startAs {Γ : En} {t : Nat} {r1 : Option Nat} {r2 : Option Nat} {x3 : Int32} {w : Wd} (ht : t < wn w ∧ kd t = 4) : MtV Γ yX4_startAs cX4_startAs 4 none 2 0 0 [rv Γ (some t), rv Γ r1, rv Γ r2, .int x3] w (fX4_startAs t r1 r2 x3 w) := by
  refine mtV [.inr (.inl (some t)), .inr (.inl r1), .inr (.inl r2), .inl x3] rfl (Nat.le_of_ble_eq_true rfl) (fun X hΓ hnL hn0 h _ hr hF => ?_)
  subst hΓ
  have ht : InN X t 4 := ⟨by rw [hn0]; exact ht.1, ht.2⟩
  have h : Ok X cX4_startAs RX4 2 0 0 := h
  have hj : ∀ j, j < 4 → j < nLX X := fun j q => by rw [hnL]; exact q
  show G X 0 0 0 [(0, .inr (.inl (some t))), (1, .inr (.inl r1)), (2, .inr (.inl r2)), (3, .inl x3)] [] w
  unfold fX4_startAs at hF
  refine g_aload_n (pc := 0) h 0 rfl dX4_startAs_0 ?_
  refine g_aload_n (pc := 1) h 1 rfl dX4_startAs_1 ?_
  refine g_dr hF (fun a_1 e_a_1 h_a_1 hF => ?_)
  rw [e_a_1]
  refine g_getI (pc := 2) h fdX4_19 h_a_1 (by decide) dX4_startAs_2 ?_
  refine g_putI (pc := 5) h fdX4_25 (inw ht) (by decide) ⟨rfl, rfl⟩ dX4_startAs_5 ?_
  refine g_w hF (fun w_2 hF => ?_)
  refine g_aload_n (pc := 8) h 0 rfl dX4_startAs_8 ?_
  refine g_aload_n (pc := 9) h 1 rfl dX4_startAs_9 ?_
  refine g_getI (pc := 10) h fdX4_26 h_a_1 (by decide) dX4_startAs_10 ?_
  refine g_putI (pc := 13) h fdX4_29 (inw ht) (by decide) ⟨rfl, rfl⟩ dX4_startAs_13 ?_
  refine g_w hF (fun w_3 hF => ?_)
  refine g_aload_n (pc := 16) h 0 rfl dX4_startAs_16 ?_
  refine g_aload_n (pc := 17) h 1 rfl dX4_startAs_17 ?_
  refine g_getI (pc := 18) h fdX4_30 h_a_1 (by decide) dX4_startAs_18 ?_
  refine g_putI (pc := 21) h fdX4_33 (inw ht) (by decide) ⟨rfl, rfl⟩ dX4_startAs_21 ?_
  refine g_w hF (fun w_4 hF => ?_)
  refine g_aload_n (pc := 24) h 0 rfl dX4_startAs_24 ?_
  refine g_aload_n (pc := 25) h 1 rfl dX4_startAs_25 ?_
  refine g_getI (pc := 26) h fdX4_34 h_a_1 (by decide) dX4_startAs_26 ?_
  refine g_putI (pc := 29) h fdX4_37 (inw ht) (by decide) ⟨rfl, rfl⟩ dX4_startAs_29 ?_
  refine g_w hF (fun w_5 hF => ?_)
  refine g_aload_n (pc := 32) h 0 rfl dX4_startAs_32 ?_
  refine g_iload_n (pc := 33) h 3 rfl dX4_startAs_33 ?_
  refine g_putI (pc := 34) h fdX4_38 (inw ht) (by decide) ⟨rfl, rfl⟩ dX4_startAs_34 ?_
  refine g_w hF (fun w_6 hF => ?_)
  refine g_aload_n (pc := 37) h 0 rfl dX4_startAs_37 ?_
  refine g_aload_n (pc := 38) h 2 rfl dX4_startAs_38 ?_
  refine g_putR (pc := 39) h fdX4_15 (inw ht) rfl (Or.inl ⟨_, rfl⟩) dX4_startAs_39 ?_
  refine g_w hF (fun w_7 hF => ?_)
  exact g_vret (pc := 42) h hr ⟨Nat.le_refl _, Nat.le_refl _⟩ hF dX4_startAs_42
def fX4_weigh_69 (k13 : Int32 → Int32 → Option Nat → Int32 → Wd → Option (Unit × Wd)) (t : Nat) (x1 : Int32) (x2 : Int32) (r3 : Option Nat) (x4 : Int32) (w : Wd) : Option (Unit × Wd) :=
  k13 x1 x2 r3 (x4 + (1 : Int32)) w
set_option maxHeartbeats 4000000 in
theorem kX4_weigh_69 {X : Cx} (h : Ok X cX4_weigh RX4 3 0 0) (hr : RetV X 0 0) (hnL : nLX X = 5) {t : Nat} (ht : InN X t 4) {k13 : Int32 → Int32 → Option Nat → Int32 → Wd → Option (Unit × Wd)} (hk13 : ∀ (x1 : Int32) (x2 : Int32) (r3 : Option Nat) (x4 : Int32) (w : Wd), OkR X (fun _ : Unit => Value.null) (k13 x1 x2 r3 x4 w) → G X 0 0 13 [(0, .inr (.inl (some t))), (1, .inl x1), (2, .inl x2), (3, .inr (.inl r3)), (4, .inl x4)] [] w) : ∀ (x1 : Int32) (x2 : Int32) (r3 : Option Nat) (x4 : Int32) (w : Wd), OkR X (fun _ : Unit => Value.null) (fX4_weigh_69 k13 t x1 x2 r3 x4 w) → G X 0 0 69 [(0, .inr (.inl (some t))), (1, .inl x1), (2, .inl x2), (3, .inr (.inl r3)), (4, .inl x4)] [] w := by
  have hj : ∀ j, j < 5 → j < nLX X := fun j q => by rw [hnL]; exact q
  intro x1 x2 r3 x4 w hF
  unfold fX4_weigh_69 at hF
  refine g_iinc (pc := 69) (lv' := [(4, .inl (x4 + (1 : Int32))), (0, .inr (.inl (some t))), (1, .inl x1), (2, .inl x2), (3, .inr (.inl r3))]) h 4 rfl dX4_weigh_69 (dv := (1 : Int32)) (by decide) (hj 4 (by decide)) rfl ?_
  refine g_goto (pc := 72) (tgt := 13) h dX4_weigh_72 (by decide) ?_
  refine g_lv (lv' := [(0, .inr (.inl (some t))), (1, .inl x1), (2, .inl x2), (3, .inr (.inl r3)), (4, .inl (x4 + (1 : Int32)))]) [1, 2, 3, 4, 0] rfl ?_
  exact hk13 _ _ _ _ _ hF
def fX4_weigh_13 (t : Nat) : Nat → Int32 → Int32 → Option Nat → Int32 → Wd → Option (Unit × Wd)
  | 0 => fun _ _ _ _ _ => none
  | n + 1 => fun x1 x2 r3 x4 w =>
    dr r3 8 w (fun a_3 => if (Int32.ofNat (ln a_3)) ≤ x4 then
      (some ((), w))
    else
      (bnd (fX6_has (x1 &&& x2) x4 w) (fun x_4 w_5 => if x_4 = 0 then
        (bnd (fX6_has x1 x4 w_5) (fun x_6 w_7 => if x_6 = 0 then
          (fX4_weigh_69 (fX4_weigh_13 t n) t x1 x2 (some a_3) x4 w_7)
        else
          (grd (vin x4 (ln a_3)) (lw (sI w_7 t 3 ((gI w_7 t 3) + (gI w_7 a_3 x4.toNatClampNeg))) (fun w_8 => fX4_weigh_69 (fX4_weigh_13 t n) t x1 x2 (some a_3) x4 w_8)))))
      else
        (grd (vin x4 (ln a_3)) (lw (sI w_5 t 2 ((gI w_5 t 2) + (gI w_5 a_3 x4.toNatClampNeg))) (fun w_9 => fX4_weigh_69 (fX4_weigh_13 t n) t x1 x2 (some a_3) x4 w_9))))))
set_option maxHeartbeats 4000000 in
theorem kX4_weigh_13 {X : Cx} (h : Ok X cX4_weigh RX4 3 0 0) (hr : RetV X 0 0) (hnL : nLX X = 5) {t : Nat} (ht : InN X t 4) : ∀ (fu : Nat) (x1 : Int32) (x2 : Int32) (r3 : Option Nat) (x4 : Int32) (w : Wd), OkR X (fun _ : Unit => Value.null) (fX4_weigh_13 t fu x1 x2 r3 x4 w) → G X 0 0 13 [(0, .inr (.inl (some t))), (1, .inl x1), (2, .inl x2), (3, .inr (.inl r3)), (4, .inl x4)] [] w := by
  have hj : ∀ j, j < 5 → j < nLX X := fun j q => by rw [hnL]; exact q
  intro fu
  induction fu with
  | zero => intro x1 x2 r3 x4 w hF; exact okN hF
  | succ fu ih =>
    intro x1 x2 r3 x4 w hF
    rw [fX4_weigh_13] at hF
    refine g_iload (pc := 13) h 4 rfl dX4_weigh_13 ?_
    refine g_aload_n (pc := 15) h 3 rfl dX4_weigh_15 ?_
    refine g_dr hF (fun a_3 e_a_3 h_a_3 hF => ?_)
    rw [e_a_3]
    refine g_alen (pc := 16) h h_a_3 rfl dX4_weigh_16 ?_
    refine g_icmp_ge (pc := 17) (tgt := 75) h dX4_weigh_17 (by decide) hF (fun hF => ?_) (fun hF => ?_)
    · exact g_vret (pc := 75) h hr ⟨Nat.le_refl _, Nat.le_refl _⟩ hF dX4_weigh_75
    · refine g_iload_n (pc := 20) h 1 rfl dX4_weigh_20 ?_
      refine g_iload_n (pc := 21) h 2 rfl dX4_weigh_21 ?_
      refine g_iand (pc := 22) h dX4_weigh_22 ?_
      refine g_iload (pc := 23) h 4 rfl dX4_weigh_23 ?_
      refine g_cnI (pc := 25) (st := []) h mX6_has cnX4_47 (by decide) ⟨by decide, by decide⟩ (Nat.le_of_ble_eq_true rfl) rfl rfl dX4_weigh_25 hF (fun x_4 w_5 hF => ?_)
      refine g_if_eq (pc := 28) (tgt := 47) h dX4_weigh_28 (by decide) hF (fun hF => ?_) (fun hF => ?_)
      · refine g_iload_n (pc := 47) h 1 rfl dX4_weigh_47 ?_
        refine g_iload (pc := 48) h 4 rfl dX4_weigh_48 ?_
        refine g_cnI (pc := 50) (st := []) h mX6_has cnX4_47 (by decide) ⟨by decide, by decide⟩ (Nat.le_of_ble_eq_true rfl) rfl rfl dX4_weigh_50 hF (fun x_6 w_7 hF => ?_)
        refine g_if_eq (pc := 53) (tgt := 69) h dX4_weigh_53 (by decide) hF (fun hF => ?_) (fun hF => ?_)
        · exact kX4_weigh_69 h hr hnL ht (fun z0 z1 z2 z3 z4 hF => ih z0 z1 z2 z3 z4 hF) _ _ _ _ _ hF
        · refine g_aload_n (pc := 56) h 0 rfl dX4_weigh_56 ?_
          refine g_dup (pc := 57) h dX4_weigh_57 rv_cat ?_
          refine g_getI (pc := 58) h fdX4_44 (inw ht) (by decide) dX4_weigh_58 ?_
          refine g_aload_n (pc := 61) h 3 rfl dX4_weigh_61 ?_
          refine g_iload (pc := 62) h 4 rfl dX4_weigh_62 ?_
          obtain ⟨g_1, hF⟩ := grd_ok hF
          refine g_iald (pc := 64) h h_a_3 g_1 dX4_weigh_64 ?_
          refine g_iadd (pc := 65) h dX4_weigh_65 ?_
          refine g_putI (pc := 66) h fdX4_44 (inw ht) (by decide) ⟨rfl, rfl⟩ dX4_weigh_66 ?_
          refine g_w hF (fun w_8 hF => ?_)
          exact kX4_weigh_69 h hr hnL ht (fun z0 z1 z2 z3 z4 hF => ih z0 z1 z2 z3 z4 hF) _ _ _ _ _ hF
      · refine g_aload_n (pc := 31) h 0 rfl dX4_weigh_31 ?_
        refine g_dup (pc := 32) h dX4_weigh_32 rv_cat ?_
        refine g_getI (pc := 33) h fdX4_41 (inw ht) (by decide) dX4_weigh_33 ?_
        refine g_aload_n (pc := 36) h 3 rfl dX4_weigh_36 ?_
        refine g_iload (pc := 37) h 4 rfl dX4_weigh_37 ?_
        obtain ⟨g_2, hF⟩ := grd_ok hF
        refine g_iald (pc := 39) h h_a_3 g_2 dX4_weigh_39 ?_
        refine g_iadd (pc := 40) h dX4_weigh_40 ?_
        refine g_putI (pc := 41) h fdX4_41 (inw ht) (by decide) ⟨rfl, rfl⟩ dX4_weigh_41 ?_
        refine g_w hF (fun w_9 hF => ?_)
        refine g_goto (pc := 44) (tgt := 69) h dX4_weigh_44 (by decide) ?_
        exact kX4_weigh_69 h hr hnL ht (fun z0 z1 z2 z3 z4 hF => ih z0 z1 z2 z3 z4 hF) _ _ _ _ _ hF
def fX4_weigh (t : Nat) (x1 : Int32) (x2 : Int32) (r3 : Option Nat) (w : Wd) : Option (Unit × Wd) :=
  lw (sI w t 2 (0 : Int32)) (fun w_1 => lw (sI w_1 t 3 (0 : Int32)) (fun w_2 => fX4_weigh_13 t FU x1 x2 r3 (0 : Int32) w_2))
set_option maxHeartbeats 4000000 in
theorem mX4_weigh {Γ : En} {t : Nat} {x1 : Int32} {x2 : Int32} {r3 : Option Nat} {w : Wd} (ht : t < wn w ∧ kd t = 4) : MtV Γ yX4_weigh cX4_weigh 5 none 3 0 0 [rv Γ (some t), .int x1, .int x2, rv Γ r3] w (fX4_weigh t x1 x2 r3 w) := by
  refine mtV [.inr (.inl (some t)), .inl x1, .inl x2, .inr (.inl r3)] rfl (Nat.le_of_ble_eq_true rfl) (fun X hΓ hnL hn0 h _ hr hF => ?_)
  subst hΓ
  have ht : InN X t 4 := ⟨by rw [hn0]; exact ht.1, ht.2⟩
  have h : Ok X cX4_weigh RX4 3 0 0 := h
  have hj : ∀ j, j < 5 → j < nLX X := fun j q => by rw [hnL]; exact q
  show G X 0 0 0 [(0, .inr (.inl (some t))), (1, .inl x1), (2, .inl x2), (3, .inr (.inl r3))] [] w
  unfold fX4_weigh at hF
  refine g_aload_n (pc := 0) h 0 rfl dX4_weigh_0 ?_
  refine g_iconst (pc := 1) (v := (0 : Int32)) h dX4_weigh_1 (by decide) ?_
  refine g_putI (pc := 2) h fdX4_41 (inw ht) (by decide) ⟨rfl, rfl⟩ dX4_weigh_2 ?_
  refine g_w hF (fun w_1 hF => ?_)
  refine g_aload_n (pc := 5) h 0 rfl dX4_weigh_5 ?_
  refine g_iconst (pc := 6) (v := (0 : Int32)) h dX4_weigh_6 (by decide) ?_
  refine g_putI (pc := 7) h fdX4_44 (inw ht) (by decide) ⟨rfl, rfl⟩ dX4_weigh_7 ?_
  refine g_w hF (fun w_2 hF => ?_)
  refine g_iconst (pc := 10) (v := (0 : Int32)) h dX4_weigh_10 (by decide) ?_
  refine g_istore (pc := 11) (lv' := [(4, .inl (0 : Int32)), (0, .inr (.inl (some t))), (1, .inl x1), (2, .inl x2), (3, .inr (.inl r3))]) h dX4_weigh_11 (hj 4 (by decide)) rfl ?_
  refine g_lv (lv' := [(0, .inr (.inl (some t))), (1, .inl x1), (2, .inl x2), (3, .inr (.inl r3)), (4, .inl (0 : Int32))]) [1, 2, 3, 4, 0] rfl ?_
  exact kX4_weigh_13 h hr hnL ht _ _ _ _ _ _ hF
def fX4_lastsByKind (t : Nat) (x1 : Int32) (w : Wd) : Option (Int32 × Wd) :=
  if (gI w t 0) = (1 : Int32) then
    (some (x1 + (gI w t 1), w))
  else if (gI w t 0) = (2 : Int32) then
    (some (x1 / (2 : Int32), w))
  else if (gI w t 0) = (3 : Int32) then
    (if (10 : Int32) ≤ (gI w t 2) then
      (some (x1 + (gI w t 1), w))
    else
      (some ((0 : Int32), w)))
  else if (gI w t 0) = (4 : Int32) then
    (some ((x1 / (2 : Int32)) + (gI w t 2), w))
  else if (gI w t 0) = (5 : Int32) then
    (some ((999 : Int32), w))
  else 
    (some (x1, w))
set_option maxHeartbeats 4000000 in
theorem mX4_lastsByKind {Γ : En} {t : Nat} {x1 : Int32} {w : Wd} (ht : t < wn w ∧ kd t = 4) : MtI Γ yX4_lastsByKind cX4_lastsByKind 2 (some .int) 2 0 0 [rv Γ (some t), .int x1] w (fX4_lastsByKind t x1 w) := by
  refine mtI [.inr (.inl (some t)), .inl x1] rfl (Nat.le_of_ble_eq_true rfl) (fun X hΓ hnL hn0 h _ hr hF => ?_)
  subst hΓ
  have ht : InN X t 4 := ⟨by rw [hn0]; exact ht.1, ht.2⟩
  have h : Ok X cX4_lastsByKind RX4 2 0 0 := h
  have hj : ∀ j, j < 2 → j < nLX X := fun j q => by rw [hnL]; exact q
  show G X 0 0 0 [(0, .inr (.inl (some t))), (1, .inl x1)] [] w
  unfold fX4_lastsByKind at hF
  refine g_aload_n (pc := 0) h 0 rfl dX4_lastsByKind_0 ?_
  refine g_getI (pc := 1) h fdX4_25 (inw ht) (by decide) dX4_lastsByKind_1 ?_
  refine g_swEq (pc := 4) (off := 36) (tgt := 40) h (1 : Int32) dX4_lastsByKind_4 (by decide) (by decide) hF (fun hF => ?_) (fun c_0 hF => ?_)
  · refine g_iload_n (pc := 40) h 1 rfl dX4_lastsByKind_40 ?_
    refine g_aload_n (pc := 41) h 0 rfl dX4_lastsByKind_41 ?_
    refine g_getI (pc := 42) h fdX4_29 (inw ht) (by decide) dX4_lastsByKind_42 ?_
    refine g_iadd (pc := 45) h dX4_lastsByKind_45 ?_
    exact g_iret (pc := 46) h hr ⟨Nat.le_refl _, Nat.le_refl _⟩ hF dX4_lastsByKind_46
  refine g_swEq (pc := 4) (off := 43) (tgt := 47) h (2 : Int32) dX4_lastsByKind_4 (by decide) (by decide) hF (fun hF => ?_) (fun c_1 hF => ?_)
  · refine g_iload_n (pc := 47) h 1 rfl dX4_lastsByKind_47 ?_
    refine g_iconst (pc := 48) (v := (2 : Int32)) h dX4_lastsByKind_48 (by decide) ?_
    refine g_idiv (pc := 49) h dX4_lastsByKind_49 (by decide) ?_
    exact g_iret (pc := 50) h hr ⟨Nat.le_refl _, Nat.le_refl _⟩ hF dX4_lastsByKind_50
  refine g_swEq (pc := 4) (off := 47) (tgt := 51) h (3 : Int32) dX4_lastsByKind_4 (by decide) (by decide) hF (fun hF => ?_) (fun c_2 hF => ?_)
  · refine g_aload_n (pc := 51) h 0 rfl dX4_lastsByKind_51 ?_
    refine g_getI (pc := 52) h fdX4_41 (inw ht) (by decide) dX4_lastsByKind_52 ?_
    refine g_bipush (pc := 55) (v := (10 : Int32)) h dX4_lastsByKind_55 (by decide) ?_
    refine g_icmp_ge (pc := 57) (tgt := 64) h dX4_lastsByKind_57 (by decide) hF (fun hF => ?_) (fun hF => ?_)
    · refine g_iload_n (pc := 64) h 1 rfl dX4_lastsByKind_64 ?_
      refine g_aload_n (pc := 65) h 0 rfl dX4_lastsByKind_65 ?_
      refine g_getI (pc := 66) h fdX4_29 (inw ht) (by decide) dX4_lastsByKind_66 ?_
      refine g_iadd (pc := 69) h dX4_lastsByKind_69 ?_
      exact g_iret (pc := 70) h hr ⟨Nat.le_refl _, Nat.le_refl _⟩ hF dX4_lastsByKind_70
    · refine g_iconst (pc := 60) (v := (0 : Int32)) h dX4_lastsByKind_60 (by decide) ?_
      refine g_goto (pc := 61) (tgt := 70) h dX4_lastsByKind_61 (by decide) ?_
      exact g_iret (pc := 70) h hr ⟨Nat.le_refl _, Nat.le_refl _⟩ hF dX4_lastsByKind_70
  refine g_swEq (pc := 4) (off := 67) (tgt := 71) h (4 : Int32) dX4_lastsByKind_4 (by decide) (by decide) hF (fun hF => ?_) (fun c_3 hF => ?_)
  · refine g_iload_n (pc := 71) h 1 rfl dX4_lastsByKind_71 ?_
    refine g_iconst (pc := 72) (v := (2 : Int32)) h dX4_lastsByKind_72 (by decide) ?_
    refine g_idiv (pc := 73) h dX4_lastsByKind_73 (by decide) ?_
    refine g_aload_n (pc := 74) h 0 rfl dX4_lastsByKind_74 ?_
    refine g_getI (pc := 75) h fdX4_41 (inw ht) (by decide) dX4_lastsByKind_75 ?_
    refine g_iadd (pc := 78) h dX4_lastsByKind_78 ?_
    exact g_iret (pc := 79) h hr ⟨Nat.le_refl _, Nat.le_refl _⟩ hF dX4_lastsByKind_79
  refine g_swEq (pc := 4) (off := 76) (tgt := 80) h (5 : Int32) dX4_lastsByKind_4 (by decide) (by decide) hF (fun hF => ?_) (fun c_4 hF => ?_)
  · refine g_sipush (pc := 80) (v := (999 : Int32)) h dX4_lastsByKind_80 (by decide) ?_
    exact g_iret (pc := 83) h hr ⟨Nat.le_refl _, Nat.le_refl _⟩ hF dX4_lastsByKind_83
  refine g_swOut (pc := 4) (tgt := 84) h dX4_lastsByKind_4 (sw_out (q := 5) (fun j hj9 => ?_)) (by decide) ?_
  · match j, hj9 with
    | 0, _ => exact c_0
    | 1, _ => exact c_1
    | 2, _ => exact c_2
    | 3, _ => exact c_3
    | 4, _ => exact c_4
    | j + 5, hj9 => exact absurd hj9 (by omega)
  · refine g_iload_n (pc := 84) h 1 rfl dX4_lastsByKind_84 ?_
    exact g_iret (pc := 85) h hr ⟨Nat.le_refl _, Nat.le_refl _⟩ hF dX4_lastsByKind_85
def fX4_ofNone (t : Nat) (x1 : Int32) (w : Wd) : Option (Int32 × Wd) :=
  if x1 = (0 : Int32) then
    (some (gI w t 2, w))
  else if x1 = (1 : Int32) then
    (some (gI w t 3, w))
  else if x1 = (2 : Int32) then
    (some (gI w t 4, w))
  else if x1 = (3 : Int32) then
    (some (gI w t 1, w))
  else if x1 = (4 : Int32) then
    (some (gI w t 6, w))
  else if x1 = (5 : Int32) then
    (some (gI w t 5, w))
  else 
    (some (x1 - (16 : Int32), w))
set_option maxHeartbeats 4000000 in
theorem mX4_ofNone {Γ : En} {t : Nat} {x1 : Int32} {w : Wd} (ht : t < wn w ∧ kd t = 4) : MtI Γ yX4_ofNone cX4_ofNone 2 (some .int) 2 0 0 [rv Γ (some t), .int x1] w (fX4_ofNone t x1 w) := by
  refine mtI [.inr (.inl (some t)), .inl x1] rfl (Nat.le_of_ble_eq_true rfl) (fun X hΓ hnL hn0 h _ hr hF => ?_)
  subst hΓ
  have ht : InN X t 4 := ⟨by rw [hn0]; exact ht.1, ht.2⟩
  have h : Ok X cX4_ofNone RX4 2 0 0 := h
  have hj : ∀ j, j < 2 → j < nLX X := fun j q => by rw [hnL]; exact q
  show G X 0 0 0 [(0, .inr (.inl (some t))), (1, .inl x1)] [] w
  unfold fX4_ofNone at hF
  refine g_iload_n (pc := 0) h 1 rfl dX4_ofNone_0 ?_
  refine g_swEq (pc := 1) (off := 39) (tgt := 40) h (0 : Int32) dX4_ofNone_1 (by decide) (by decide) hF (fun hF => ?_) (fun c_0 hF => ?_)
  · refine g_aload_n (pc := 40) h 0 rfl dX4_ofNone_40 ?_
    refine g_getI (pc := 41) h fdX4_41 (inw ht) (by decide) dX4_ofNone_41 ?_
    exact g_iret (pc := 44) h hr ⟨Nat.le_refl _, Nat.le_refl _⟩ hF dX4_ofNone_44
  refine g_swEq (pc := 1) (off := 44) (tgt := 45) h (1 : Int32) dX4_ofNone_1 (by decide) (by decide) hF (fun hF => ?_) (fun c_1 hF => ?_)
  · refine g_aload_n (pc := 45) h 0 rfl dX4_ofNone_45 ?_
    refine g_getI (pc := 46) h fdX4_44 (inw ht) (by decide) dX4_ofNone_46 ?_
    exact g_iret (pc := 49) h hr ⟨Nat.le_refl _, Nat.le_refl _⟩ hF dX4_ofNone_49
  refine g_swEq (pc := 1) (off := 49) (tgt := 50) h (2 : Int32) dX4_ofNone_1 (by decide) (by decide) hF (fun hF => ?_) (fun c_2 hF => ?_)
  · refine g_aload_n (pc := 50) h 0 rfl dX4_ofNone_50 ?_
    refine g_getI (pc := 51) h fdX4_33 (inw ht) (by decide) dX4_ofNone_51 ?_
    exact g_iret (pc := 54) h hr ⟨Nat.le_refl _, Nat.le_refl _⟩ hF dX4_ofNone_54
  refine g_swEq (pc := 1) (off := 54) (tgt := 55) h (3 : Int32) dX4_ofNone_1 (by decide) (by decide) hF (fun hF => ?_) (fun c_3 hF => ?_)
  · refine g_aload_n (pc := 55) h 0 rfl dX4_ofNone_55 ?_
    refine g_getI (pc := 56) h fdX4_29 (inw ht) (by decide) dX4_ofNone_56 ?_
    exact g_iret (pc := 59) h hr ⟨Nat.le_refl _, Nat.le_refl _⟩ hF dX4_ofNone_59
  refine g_swEq (pc := 1) (off := 59) (tgt := 60) h (4 : Int32) dX4_ofNone_1 (by decide) (by decide) hF (fun hF => ?_) (fun c_4 hF => ?_)
  · refine g_aload_n (pc := 60) h 0 rfl dX4_ofNone_60 ?_
    refine g_getI (pc := 61) h fdX4_38 (inw ht) (by decide) dX4_ofNone_61 ?_
    exact g_iret (pc := 64) h hr ⟨Nat.le_refl _, Nat.le_refl _⟩ hF dX4_ofNone_64
  refine g_swEq (pc := 1) (off := 64) (tgt := 65) h (5 : Int32) dX4_ofNone_1 (by decide) (by decide) hF (fun hF => ?_) (fun c_5 hF => ?_)
  · refine g_aload_n (pc := 65) h 0 rfl dX4_ofNone_65 ?_
    refine g_getI (pc := 66) h fdX4_37 (inw ht) (by decide) dX4_ofNone_66 ?_
    exact g_iret (pc := 69) h hr ⟨Nat.le_refl _, Nat.le_refl _⟩ hF dX4_ofNone_69
  refine g_swOut (pc := 1) (tgt := 70) h dX4_ofNone_1 (sw_out (q := 6) (fun j hj9 => ?_)) (by decide) ?_
  · match j, hj9 with
    | 0, _ => exact c_0
    | 1, _ => exact c_1
    | 2, _ => exact c_2
    | 3, _ => exact c_3
    | 4, _ => exact c_4
    | 5, _ => exact c_5
    | j + 6, hj9 => exact absurd hj9 (by omega)
  · refine g_iload_n (pc := 70) h 1 rfl dX4_ofNone_70 ?_
    refine g_bipush (pc := 71) (v := (16 : Int32)) h dX4_ofNone_71 (by decide) ?_
    refine g_isub (pc := 73) h dX4_ofNone_73 ?_
    exact g_iret (pc := 74) h hr ⟨Nat.le_refl _, Nat.le_refl _⟩ hF dX4_ofNone_74
def fX4_ofTwo_82 (w : Wd) : Option (Int32 × Wd) :=
  some ((1 : Int32), w)
set_option maxHeartbeats 4000000 in
theorem kX4_ofTwo_82 {X : Cx} (h : Ok X cX4_ofTwo RX4 2 0 0) (hr : RetI X .int 0 0) (hnL : nLX X = 3) : ∀ (w : Wd), OkR X Value.int (fX4_ofTwo_82  w) → G X 0 0 82 [] [] w := by
  have hj : ∀ j, j < 3 → j < nLX X := fun j q => by rw [hnL]; exact q
  intro w hF
  unfold fX4_ofTwo_82 at hF
  refine g_iconst (pc := 82) (v := (1 : Int32)) h dX4_ofTwo_82 (by decide) ?_
  refine g_goto (pc := 83) (tgt := 87) h dX4_ofTwo_83 (by decide) ?_
  exact g_iret (pc := 87) h hr ⟨Nat.le_refl _, Nat.le_refl _⟩ hF dX4_ofTwo_87
def fX4_ofTwo (x0 : Int32) (x1 : Int32) (x2 : Int32) (w : Wd) : Option (Int32 × Wd) :=
  if x0 = (8 : Int32) then
    (some (x1 + x2, w))
  else if x0 = (9 : Int32) then
    (some (x1 - x2, w))
  else if x0 = (10 : Int32) then
    (some (x1 * x2, w))
  else if x0 = (11 : Int32) then
    (if x2 ≤ x1 then
      (some ((0 : Int32), w))
    else
      (some ((1 : Int32), w)))
  else if x0 = (12 : Int32) then
    (if x1 = x2 then
      (some ((1 : Int32), w))
    else
      (some ((0 : Int32), w)))
  else if x0 = (13 : Int32) then
    (if x1 = 0 then
      (if x2 = 0 then
        (some ((0 : Int32), w))
      else
        (fX4_ofTwo_82 w))
    else
      (fX4_ofTwo_82 w))
  else 
    (if x1 = 0 then
      (some ((0 : Int32), w))
    else
      (if x2 = 0 then
        (some ((0 : Int32), w))
      else
        (some ((1 : Int32), w))))
set_option maxHeartbeats 4000000 in
theorem mX4_ofTwo {Γ : En} {x0 : Int32} {x1 : Int32} {x2 : Int32} {w : Wd} : MtI Γ yX4_ofTwo cX4_ofTwo 3 (some .int) 2 0 0 [.int x0, .int x1, .int x2] w (fX4_ofTwo x0 x1 x2 w) := by
  refine mtI [.inl x0, .inl x1, .inl x2] rfl (Nat.le_of_ble_eq_true rfl) (fun X hΓ hnL hn0 h _ hr hF => ?_)
  subst hΓ
  have h : Ok X cX4_ofTwo RX4 2 0 0 := h
  have hj : ∀ j, j < 3 → j < nLX X := fun j q => by rw [hnL]; exact q
  show G X 0 0 0 [(0, .inl x0), (1, .inl x1), (2, .inl x2)] [] w
  unfold fX4_ofTwo at hF
  refine g_iload_n (pc := 0) h 0 rfl dX4_ofTwo_0 ?_
  refine g_swEq (pc := 1) (off := 39) (tgt := 40) h (8 : Int32) dX4_ofTwo_1 (by decide) (by decide) hF (fun hF => ?_) (fun c_0 hF => ?_)
  · refine g_iload_n (pc := 40) h 1 rfl dX4_ofTwo_40 ?_
    refine g_iload_n (pc := 41) h 2 rfl dX4_ofTwo_41 ?_
    refine g_iadd (pc := 42) h dX4_ofTwo_42 ?_
    exact g_iret (pc := 43) h hr ⟨Nat.le_refl _, Nat.le_refl _⟩ hF dX4_ofTwo_43
  refine g_swEq (pc := 1) (off := 43) (tgt := 44) h (9 : Int32) dX4_ofTwo_1 (by decide) (by decide) hF (fun hF => ?_) (fun c_1 hF => ?_)
  · refine g_iload_n (pc := 44) h 1 rfl dX4_ofTwo_44 ?_
    refine g_iload_n (pc := 45) h 2 rfl dX4_ofTwo_45 ?_
    refine g_isub (pc := 46) h dX4_ofTwo_46 ?_
    exact g_iret (pc := 47) h hr ⟨Nat.le_refl _, Nat.le_refl _⟩ hF dX4_ofTwo_47
  refine g_swEq (pc := 1) (off := 47) (tgt := 48) h (10 : Int32) dX4_ofTwo_1 (by decide) (by decide) hF (fun hF => ?_) (fun c_2 hF => ?_)
  · refine g_iload_n (pc := 48) h 1 rfl dX4_ofTwo_48 ?_
    refine g_iload_n (pc := 49) h 2 rfl dX4_ofTwo_49 ?_
    refine g_imul (pc := 50) h dX4_ofTwo_50 ?_
    exact g_iret (pc := 51) h hr ⟨Nat.le_refl _, Nat.le_refl _⟩ hF dX4_ofTwo_51
  refine g_swEq (pc := 1) (off := 51) (tgt := 52) h (11 : Int32) dX4_ofTwo_1 (by decide) (by decide) hF (fun hF => ?_) (fun c_3 hF => ?_)
  · refine g_iload_n (pc := 52) h 1 rfl dX4_ofTwo_52 ?_
    refine g_iload_n (pc := 53) h 2 rfl dX4_ofTwo_53 ?_
    refine g_icmp_ge (pc := 54) (tgt := 61) h dX4_ofTwo_54 (by decide) hF (fun hF => ?_) (fun hF => ?_)
    · refine g_iconst (pc := 61) (v := (0 : Int32)) h dX4_ofTwo_61 (by decide) ?_
      exact g_iret (pc := 62) h hr ⟨Nat.le_refl _, Nat.le_refl _⟩ hF dX4_ofTwo_62
    · refine g_iconst (pc := 57) (v := (1 : Int32)) h dX4_ofTwo_57 (by decide) ?_
      refine g_goto (pc := 58) (tgt := 62) h dX4_ofTwo_58 (by decide) ?_
      exact g_iret (pc := 62) h hr ⟨Nat.le_refl _, Nat.le_refl _⟩ hF dX4_ofTwo_62
  refine g_swEq (pc := 1) (off := 62) (tgt := 63) h (12 : Int32) dX4_ofTwo_1 (by decide) (by decide) hF (fun hF => ?_) (fun c_4 hF => ?_)
  · refine g_iload_n (pc := 63) h 1 rfl dX4_ofTwo_63 ?_
    refine g_iload_n (pc := 64) h 2 rfl dX4_ofTwo_64 ?_
    refine g_icmp_ne (pc := 65) (tgt := 72) h dX4_ofTwo_65 (by decide) hF (fun hF => ?_) (fun hF => ?_)
    · refine g_iconst (pc := 72) (v := (0 : Int32)) h dX4_ofTwo_72 (by decide) ?_
      exact g_iret (pc := 73) h hr ⟨Nat.le_refl _, Nat.le_refl _⟩ hF dX4_ofTwo_73
    · refine g_iconst (pc := 68) (v := (1 : Int32)) h dX4_ofTwo_68 (by decide) ?_
      refine g_goto (pc := 69) (tgt := 73) h dX4_ofTwo_69 (by decide) ?_
      exact g_iret (pc := 73) h hr ⟨Nat.le_refl _, Nat.le_refl _⟩ hF dX4_ofTwo_73
  refine g_swEq (pc := 1) (off := 73) (tgt := 74) h (13 : Int32) dX4_ofTwo_1 (by decide) (by decide) hF (fun hF => ?_) (fun c_5 hF => ?_)
  · refine g_iload_n (pc := 74) h 1 rfl dX4_ofTwo_74 ?_
    refine g_if_ne (pc := 75) (tgt := 82) h dX4_ofTwo_75 (by decide) hF (fun hF => ?_) (fun hF => ?_)
    · refine g_lv (lv' := []) [] rfl ?_
      exact kX4_ofTwo_82 h hr hnL _ hF
    · refine g_iload_n (pc := 78) h 2 rfl dX4_ofTwo_78 ?_
      refine g_if_eq (pc := 79) (tgt := 86) h dX4_ofTwo_79 (by decide) hF (fun hF => ?_) (fun hF => ?_)
      · refine g_iconst (pc := 86) (v := (0 : Int32)) h dX4_ofTwo_86 (by decide) ?_
        exact g_iret (pc := 87) h hr ⟨Nat.le_refl _, Nat.le_refl _⟩ hF dX4_ofTwo_87
      · refine g_lv (lv' := []) [] rfl ?_
        exact kX4_ofTwo_82 h hr hnL _ hF
  refine g_swOut (pc := 1) (tgt := 88) h dX4_ofTwo_1 (sw_out (q := 6) (fun j hj9 => ?_)) (by decide) ?_
  · match j, hj9 with
    | 0, _ => exact c_0
    | 1, _ => exact c_1
    | 2, _ => exact c_2
    | 3, _ => exact c_3
    | 4, _ => exact c_4
    | 5, _ => exact c_5
    | j + 6, hj9 => exact absurd hj9 (by omega)
  · refine g_iload_n (pc := 88) h 1 rfl dX4_ofTwo_88 ?_
    refine g_if_eq (pc := 89) (tgt := 100) h dX4_ofTwo_89 (by decide) hF (fun hF => ?_) (fun hF => ?_)
    · refine g_iconst (pc := 100) (v := (0 : Int32)) h dX4_ofTwo_100 (by decide) ?_
      exact g_iret (pc := 101) h hr ⟨Nat.le_refl _, Nat.le_refl _⟩ hF dX4_ofTwo_101
    · refine g_iload_n (pc := 92) h 2 rfl dX4_ofTwo_92 ?_
      refine g_if_eq (pc := 93) (tgt := 100) h dX4_ofTwo_93 (by decide) hF (fun hF => ?_) (fun hF => ?_)
      · refine g_iconst (pc := 100) (v := (0 : Int32)) h dX4_ofTwo_100 (by decide) ?_
        exact g_iret (pc := 101) h hr ⟨Nat.le_refl _, Nat.le_refl _⟩ hF dX4_ofTwo_101
      · refine g_iconst (pc := 96) (v := (1 : Int32)) h dX4_ofTwo_96 (by decide) ?_
        refine g_goto (pc := 97) (tgt := 101) h dX4_ofTwo_97 (by decide) ?_
        exact g_iret (pc := 101) h hr ⟨Nat.le_refl _, Nat.le_refl _⟩ hF dX4_ofTwo_101
def fX4_valueOfPart_197 (k35 : Option Nat → Int32 → Int32 → Int32 → Wd → Option (Int32 × Wd)) (t : Nat) (r2 : Option Nat) (x3 : Int32) (x4 : Int32) (x5 : Int32) (w : Wd) : Option (Int32 × Wd) :=
  k35 r2 x3 x4 (x5 + (1 : Int32)) w
set_option maxHeartbeats 4000000 in
theorem kX4_valueOfPart_197 {X : Cx} (h : Ok X cX4_valueOfPart RX4 6 0 0) (hr : RetI X .int 0 0) (hnL : nLX X = 7) {t : Nat} (ht : InN X t 4) {k35 : Option Nat → Int32 → Int32 → Int32 → Wd → Option (Int32 × Wd)} (hk35 : ∀ (r2 : Option Nat) (x3 : Int32) (x4 : Int32) (x5 : Int32) (w : Wd), OkR X Value.int (k35 r2 x3 x4 x5 w) → G X 0 0 35 [(0, .inr (.inl (some t))), (2, .inr (.inl r2)), (3, .inl x3), (4, .inl x4), (5, .inl x5)] [] w) : ∀ (r2 : Option Nat) (x3 : Int32) (x4 : Int32) (x5 : Int32) (w : Wd), OkR X Value.int (fX4_valueOfPart_197 k35 t r2 x3 x4 x5 w) → G X 0 0 197 [(0, .inr (.inl (some t))), (2, .inr (.inl r2)), (3, .inl x3), (4, .inl x4), (5, .inl x5)] [] w := by
  have hj : ∀ j, j < 7 → j < nLX X := fun j q => by rw [hnL]; exact q
  intro r2 x3 x4 x5 w hF
  unfold fX4_valueOfPart_197 at hF
  refine g_iinc (pc := 197) (lv' := [(5, .inl (x5 + (1 : Int32))), (0, .inr (.inl (some t))), (2, .inr (.inl r2)), (3, .inl x3), (4, .inl x4)]) h 4 rfl dX4_valueOfPart_197 (dv := (1 : Int32)) (by decide) (hj 5 (by decide)) rfl ?_
  refine g_goto (pc := 200) (tgt := 35) h dX4_valueOfPart_200 (by decide) ?_
  refine g_lv (lv' := [(0, .inr (.inl (some t))), (2, .inr (.inl r2)), (3, .inl x3), (4, .inl x4), (5, .inl (x5 + (1 : Int32)))]) [1, 2, 3, 4, 0] rfl ?_
  exact hk35 _ _ _ _ _ hF
def fX4_valueOfPart_170 (k35 : Option Nat → Int32 → Int32 → Int32 → Wd → Option (Int32 × Wd)) (t : Nat) (r2 : Option Nat) (x3 : Int32) (x4 : Int32) (x5 : Int32) (y0 : Int32) (y1 : Int32) (y2 : Option Nat) (w : Wd) : Option (Int32 × Wd) :=
  dr y2 8 w (fun a_24 => grd (vin y1 (ln a_24)) (lw (sI w a_24 y1.toNatClampNeg y0) (fun w_25 => fX4_valueOfPart_197 k35 t r2 x3 x4 x5 w_25)))
set_option maxHeartbeats 4000000 in
theorem kX4_valueOfPart_170 {X : Cx} (h : Ok X cX4_valueOfPart RX4 6 0 0) (hr : RetI X .int 0 0) (hnL : nLX X = 7) {t : Nat} (ht : InN X t 4) {k35 : Option Nat → Int32 → Int32 → Int32 → Wd → Option (Int32 × Wd)} (hk35 : ∀ (r2 : Option Nat) (x3 : Int32) (x4 : Int32) (x5 : Int32) (w : Wd), OkR X Value.int (k35 r2 x3 x4 x5 w) → G X 0 0 35 [(0, .inr (.inl (some t))), (2, .inr (.inl r2)), (3, .inl x3), (4, .inl x4), (5, .inl x5)] [] w) : ∀ (r2 : Option Nat) (x3 : Int32) (x4 : Int32) (x5 : Int32) (y0 : Int32) (y1 : Int32) (y2 : Option Nat) (w : Wd), OkR X Value.int (fX4_valueOfPart_170 k35 t r2 x3 x4 x5 y0 y1 y2 w) → G X 0 0 170 [(0, .inr (.inl (some t))), (2, .inr (.inl r2)), (3, .inl x3), (4, .inl x4), (5, .inl x5)] [.int y0, .int y1, rv X.1 y2] w := by
  have hj : ∀ j, j < 7 → j < nLX X := fun j q => by rw [hnL]; exact q
  intro r2 x3 x4 x5 y0 y1 y2 w hF
  unfold fX4_valueOfPart_170 at hF
  refine g_dr hF (fun a_24 e_a_24 h_a_24 hF => ?_)
  rw [e_a_24]
  obtain ⟨g_9, hF⟩ := grd_ok hF
  refine g_iast (pc := 170) h h_a_24 g_9 dX4_valueOfPart_170 ?_
  refine g_w hF (fun w_25 hF => ?_)
  refine g_goto (pc := 171) (tgt := 197) h dX4_valueOfPart_171 (by decide) ?_
  exact kX4_valueOfPart_197 h hr hnL ht hk35 _ _ _ _ _ hF
def fX4_valueOfPart_154 (k35 : Option Nat → Int32 → Int32 → Int32 → Wd → Option (Int32 × Wd)) (t : Nat) (r2 : Option Nat) (x3 : Int32) (x4 : Int32) (x5 : Int32) (y0 : Int32) (y1 : Int32) (y2 : Option Nat) (w : Wd) : Option (Int32 × Wd) :=
  bnd (fX6_bit y0 w) (fun x_26 w_27 => fX4_valueOfPart_170 k35 t r2 x3 x4 x5 x_26 y1 y2 w_27)
set_option maxHeartbeats 4000000 in
theorem kX4_valueOfPart_154 {X : Cx} (h : Ok X cX4_valueOfPart RX4 6 0 0) (hr : RetI X .int 0 0) (hnL : nLX X = 7) {t : Nat} (ht : InN X t 4) {k35 : Option Nat → Int32 → Int32 → Int32 → Wd → Option (Int32 × Wd)} (hk35 : ∀ (r2 : Option Nat) (x3 : Int32) (x4 : Int32) (x5 : Int32) (w : Wd), OkR X Value.int (k35 r2 x3 x4 x5 w) → G X 0 0 35 [(0, .inr (.inl (some t))), (2, .inr (.inl r2)), (3, .inl x3), (4, .inl x4), (5, .inl x5)] [] w) : ∀ (r2 : Option Nat) (x3 : Int32) (x4 : Int32) (x5 : Int32) (y0 : Int32) (y1 : Int32) (y2 : Option Nat) (w : Wd), OkR X Value.int (fX4_valueOfPart_154 k35 t r2 x3 x4 x5 y0 y1 y2 w) → G X 0 0 154 [(0, .inr (.inl (some t))), (2, .inr (.inl r2)), (3, .inl x3), (4, .inl x4), (5, .inl x5)] [.int y0, .int y1, rv X.1 y2] w := by
  have hj : ∀ j, j < 7 → j < nLX X := fun j q => by rw [hnL]; exact q
  intro r2 x3 x4 x5 y0 y1 y2 w hF
  unfold fX4_valueOfPart_154 at hF
  refine g_cnI (pc := 154) (st := [.int y1, rv X.1 y2]) h mX6_bit cnX4_114 (by decide) ⟨by decide, by decide⟩ (cat_le4 _ (Nat.le_of_ble_eq_true rfl)) rfl rfl dX4_valueOfPart_154 hF (fun x_26 w_27 hF => ?_)
  refine g_goto (pc := 157) (tgt := 170) h dX4_valueOfPart_157 (by decide) ?_
  exact kX4_valueOfPart_170 h hr hnL ht hk35 _ _ _ _ _ _ _ _ hF
def fX4_valueOfPart_117 (k35 : Option Nat → Int32 → Int32 → Int32 → Wd → Option (Int32 × Wd)) (t : Nat) (r2 : Option Nat) (x3 : Int32) (x4 : Int32) (x5 : Int32) (x6 : Int32) (w : Wd) : Option (Int32 × Wd) :=
  if x4 ≤ 0 then
    (fX4_valueOfPart_197 k35 t r2 x3 x4 x5 w)
  else
    (if x6 = (6 : Int32) then
      (dr (gR w t 8) 8 w (fun a_23 => grd (vin (x4 - (1 : Int32)) (ln a_23)) (if (gI w a_23 (x4 - (1 : Int32)).toNatClampNeg) = 0 then
        (fX4_valueOfPart_154 k35 t r2 x3 x4 x5 (1 : Int32) (x4 - (1 : Int32)) (some a_23) w)
      else
        (fX4_valueOfPart_154 k35 t r2 x3 x4 x5 (0 : Int32) (x4 - (1 : Int32)) (some a_23) w))))
    else
      (dr (gR w t 8) 8 w (fun a_22 => grd (vin (x4 - (1 : Int32)) (ln a_22)) (fX4_valueOfPart_170 k35 t r2 x3 x4 x5 (-(gI w a_22 (x4 - (1 : Int32)).toNatClampNeg)) (x4 - (1 : Int32)) (some a_22) w))))
set_option maxHeartbeats 4000000 in
theorem kX4_valueOfPart_117 {X : Cx} (h : Ok X cX4_valueOfPart RX4 6 0 0) (hr : RetI X .int 0 0) (hnL : nLX X = 7) {t : Nat} (ht : InN X t 4) {k35 : Option Nat → Int32 → Int32 → Int32 → Wd → Option (Int32 × Wd)} (hk35 : ∀ (r2 : Option Nat) (x3 : Int32) (x4 : Int32) (x5 : Int32) (w : Wd), OkR X Value.int (k35 r2 x3 x4 x5 w) → G X 0 0 35 [(0, .inr (.inl (some t))), (2, .inr (.inl r2)), (3, .inl x3), (4, .inl x4), (5, .inl x5)] [] w) : ∀ (r2 : Option Nat) (x3 : Int32) (x4 : Int32) (x5 : Int32) (x6 : Int32) (w : Wd), OkR X Value.int (fX4_valueOfPart_117 k35 t r2 x3 x4 x5 x6 w) → G X 0 0 117 [(0, .inr (.inl (some t))), (2, .inr (.inl r2)), (3, .inl x3), (4, .inl x4), (5, .inl x5), (6, .inl x6)] [] w := by
  have hj : ∀ j, j < 7 → j < nLX X := fun j q => by rw [hnL]; exact q
  intro r2 x3 x4 x5 x6 w hF
  unfold fX4_valueOfPart_117 at hF
  refine g_iload (pc := 117) h 3 rfl dX4_valueOfPart_117 ?_
  refine g_if_le (pc := 119) (tgt := 197) h dX4_valueOfPart_119 (by decide) hF (fun hF => ?_) (fun hF => ?_)
  · refine g_lv (lv' := [(0, .inr (.inl (some t))), (2, .inr (.inl r2)), (3, .inl x3), (4, .inl x4), (5, .inl x5)]) [0, 1, 2, 3, 4] rfl ?_
    exact kX4_valueOfPart_197 h hr hnL ht hk35 _ _ _ _ _ hF
  · refine g_aload_n (pc := 122) h 0 rfl dX4_valueOfPart_122 ?_
    refine g_getR (pc := 123) h fdX4_11 (inw ht) rfl dX4_valueOfPart_123 ?_
    refine g_iload (pc := 126) h 3 rfl dX4_valueOfPart_126 ?_
    refine g_iconst (pc := 128) (v := (1 : Int32)) h dX4_valueOfPart_128 (by decide) ?_
    refine g_isub (pc := 129) h dX4_valueOfPart_129 ?_
    refine g_iload (pc := 130) h 5 rfl dX4_valueOfPart_130 ?_
    refine g_bipush (pc := 132) (v := (6 : Int32)) h dX4_valueOfPart_132 (by decide) ?_
    refine g_icmp_ne (pc := 134) (tgt := 160) h dX4_valueOfPart_134 (by decide) hF (fun hF => ?_) (fun hF => ?_)
    · refine g_aload_n (pc := 160) h 0 rfl dX4_valueOfPart_160 ?_
      refine g_getR (pc := 161) h fdX4_11 (inw ht) rfl dX4_valueOfPart_161 ?_
      refine g_iload (pc := 164) h 3 rfl dX4_valueOfPart_164 ?_
      refine g_iconst (pc := 166) (v := (1 : Int32)) h dX4_valueOfPart_166 (by decide) ?_
      refine g_isub (pc := 167) h dX4_valueOfPart_167 ?_
      refine g_dr hF (fun a_22 e_a_22 h_a_22 hF => ?_)
      rw [e_a_22]
      obtain ⟨g_7, hF⟩ := grd_ok hF
      refine g_iald (pc := 168) h h_a_22 g_7 dX4_valueOfPart_168 ?_
      refine g_ineg (pc := 169) h dX4_valueOfPart_169 ?_
      refine g_lv (lv' := [(0, .inr (.inl (some t))), (2, .inr (.inl r2)), (3, .inl x3), (4, .inl x4), (5, .inl x5)]) [0, 1, 2, 3, 4] rfl ?_
      exact kX4_valueOfPart_170 h hr hnL ht hk35 _ _ _ _ _ _ _ _ hF
    · refine g_aload_n (pc := 137) h 0 rfl dX4_valueOfPart_137 ?_
      refine g_getR (pc := 138) h fdX4_11 (inw ht) rfl dX4_valueOfPart_138 ?_
      refine g_iload (pc := 141) h 3 rfl dX4_valueOfPart_141 ?_
      refine g_iconst (pc := 143) (v := (1 : Int32)) h dX4_valueOfPart_143 (by decide) ?_
      refine g_isub (pc := 144) h dX4_valueOfPart_144 ?_
      refine g_dr hF (fun a_23 e_a_23 h_a_23 hF => ?_)
      rw [e_a_23]
      obtain ⟨g_8, hF⟩ := grd_ok hF
      refine g_iald (pc := 145) h h_a_23 g_8 dX4_valueOfPart_145 ?_
      refine g_if_ne (pc := 146) (tgt := 153) h dX4_valueOfPart_146 (by decide) hF (fun hF => ?_) (fun hF => ?_)
      · refine g_iconst (pc := 153) (v := (0 : Int32)) h dX4_valueOfPart_153 (by decide) ?_
        refine g_lv (lv' := [(0, .inr (.inl (some t))), (2, .inr (.inl r2)), (3, .inl x3), (4, .inl x4), (5, .inl x5)]) [0, 1, 2, 3, 4] rfl ?_
        exact kX4_valueOfPart_154 h hr hnL ht hk35 _ _ _ _ _ _ _ _ hF
      · refine g_iconst (pc := 149) (v := (1 : Int32)) h dX4_valueOfPart_149 (by decide) ?_
        refine g_goto (pc := 150) (tgt := 154) h dX4_valueOfPart_150 (by decide) ?_
        refine g_lv (lv' := [(0, .inr (.inl (some t))), (2, .inr (.inl r2)), (3, .inl x3), (4, .inl x4), (5, .inl x5)]) [0, 1, 2, 3, 4] rfl ?_
        exact kX4_valueOfPart_154 h hr hnL ht hk35 _ _ _ _ _ _ _ _ hF
def fX4_valueOfPart_103 (k35 : Option Nat → Int32 → Int32 → Int32 → Wd → Option (Int32 × Wd)) (t : Nat) (r2 : Option Nat) (x3 : Int32) (x4 : Int32) (x5 : Int32) (x6 : Int32) (w : Wd) : Option (Int32 × Wd) :=
  if x6 = (6 : Int32) then
    (fX4_valueOfPart_117 k35 t r2 x3 x4 x5 x6 w)
  else
    (if x6 = (7 : Int32) then
      (fX4_valueOfPart_117 k35 t r2 x3 x4 x5 x6 w)
    else
      (if (31 : Int32) ≤ x4 then
        (fX4_valueOfPart_197 k35 t r2 x3 x4 x5 w)
      else
        (bnd (fX4_ofNone t x6 w) (fun x_18 w_19 => dr (gR w t 8) 8 w_19 (fun a_20 => grd (vin x4 (ln a_20)) (lw (sI w_19 a_20 x4.toNatClampNeg x_18) (fun w_21 => fX4_valueOfPart_197 k35 t r2 x3 (x4 + (1 : Int32)) x5 w_21)))))))
set_option maxHeartbeats 4000000 in
theorem kX4_valueOfPart_103 {X : Cx} (h : Ok X cX4_valueOfPart RX4 6 0 0) (hr : RetI X .int 0 0) (hnL : nLX X = 7) {t : Nat} (ht : InN X t 4) {k35 : Option Nat → Int32 → Int32 → Int32 → Wd → Option (Int32 × Wd)} (hk35 : ∀ (r2 : Option Nat) (x3 : Int32) (x4 : Int32) (x5 : Int32) (w : Wd), OkR X Value.int (k35 r2 x3 x4 x5 w) → G X 0 0 35 [(0, .inr (.inl (some t))), (2, .inr (.inl r2)), (3, .inl x3), (4, .inl x4), (5, .inl x5)] [] w) : ∀ (r2 : Option Nat) (x3 : Int32) (x4 : Int32) (x5 : Int32) (x6 : Int32) (w : Wd), OkR X Value.int (fX4_valueOfPart_103 k35 t r2 x3 x4 x5 x6 w) → G X 0 0 103 [(0, .inr (.inl (some t))), (2, .inr (.inl r2)), (3, .inl x3), (4, .inl x4), (5, .inl x5), (6, .inl x6)] [] w := by
  have hj : ∀ j, j < 7 → j < nLX X := fun j q => by rw [hnL]; exact q
  intro r2 x3 x4 x5 x6 w hF
  unfold fX4_valueOfPart_103 at hF
  refine g_iload (pc := 103) h 5 rfl dX4_valueOfPart_103 ?_
  refine g_bipush (pc := 105) (v := (6 : Int32)) h dX4_valueOfPart_105 (by decide) ?_
  refine g_icmp_eq (pc := 107) (tgt := 117) h dX4_valueOfPart_107 (by decide) hF (fun hF => ?_) (fun hF => ?_)
  · exact kX4_valueOfPart_117 h hr hnL ht hk35 _ _ _ _ _ _ hF
  · refine g_iload (pc := 110) h 5 rfl dX4_valueOfPart_110 ?_
    refine g_bipush (pc := 112) (v := (7 : Int32)) h dX4_valueOfPart_112 (by decide) ?_
    refine g_icmp_ne (pc := 114) (tgt := 174) h dX4_valueOfPart_114 (by decide) hF (fun hF => ?_) (fun hF => ?_)
    · refine g_iload (pc := 174) h 3 rfl dX4_valueOfPart_174 ?_
      refine g_bipush (pc := 176) (v := (31 : Int32)) h dX4_valueOfPart_176 (by decide) ?_
      refine g_icmp_ge (pc := 178) (tgt := 197) h dX4_valueOfPart_178 (by decide) hF (fun hF => ?_) (fun hF => ?_)
      · refine g_lv (lv' := [(0, .inr (.inl (some t))), (2, .inr (.inl r2)), (3, .inl x3), (4, .inl x4), (5, .inl x5)]) [0, 1, 2, 3, 4] rfl ?_
        exact kX4_valueOfPart_197 h hr hnL ht hk35 _ _ _ _ _ hF
      · refine g_aload_n (pc := 181) h 0 rfl dX4_valueOfPart_181 ?_
        refine g_getR (pc := 182) h fdX4_11 (inw ht) rfl dX4_valueOfPart_182 ?_
        refine g_iload (pc := 185) h 3 rfl dX4_valueOfPart_185 ?_
        refine g_aload_n (pc := 187) h 0 rfl dX4_valueOfPart_187 ?_
        refine g_iload (pc := 188) h 5 rfl dX4_valueOfPart_188 ?_
        refine g_cvI (pc := 190) (st := [.int x4, rv X.1 (gR w t 8)]) h mX4_ofNone cvX4_118 (inw ht) (by decide) ⟨by decide, by decide⟩ (cat_le4 _ (Nat.le_of_ble_eq_true rfl)) rfl rfl dX4_valueOfPart_190 hF (fun x_18 w_19 hF => ?_)
        refine g_dr hF (fun a_20 e_a_20 h_a_20 hF => ?_)
        rw [e_a_20]
        obtain ⟨g_6, hF⟩ := grd_ok hF
        refine g_iast (pc := 193) h h_a_20 g_6 dX4_valueOfPart_193 ?_
        refine g_w hF (fun w_21 hF => ?_)
        refine g_iinc (pc := 194) (lv' := [(4, .inl (x4 + (1 : Int32))), (0, .inr (.inl (some t))), (2, .inr (.inl r2)), (3, .inl x3), (5, .inl x5), (6, .inl x6)]) h 3 rfl dX4_valueOfPart_194 (dv := (1 : Int32)) (by decide) (hj 4 (by decide)) rfl ?_
        refine g_lv (lv' := [(0, .inr (.inl (some t))), (2, .inr (.inl r2)), (3, .inl x3), (4, .inl (x4 + (1 : Int32))), (5, .inl x5)]) [1, 2, 3, 0, 4] rfl ?_
        exact kX4_valueOfPart_197 h hr hnL ht hk35 _ _ _ _ _ hF
    · exact kX4_valueOfPart_117 h hr hnL ht hk35 _ _ _ _ _ _ hF
def fX4_valueOfPart_35 (t : Nat) : Nat → Option Nat → Int32 → Int32 → Int32 → Wd → Option (Int32 × Wd)
  | 0 => fun _ _ _ _ _ => none
  | n + 1 => fun r2 x3 x4 x5 w =>
    if x3 ≤ x5 then
      (dr (gR w t 8) 8 w (fun a_10 => grd (vin (0 : Int32) (ln a_10)) (some (gI w a_10 (0 : Int32).toNatClampNeg, w))))
    else
      (dr r2 8 w (fun a_11 => grd (vin x5 (ln a_11)) (lt (gI w a_11 x5.toNatClampNeg) (fun x6_12 => if x6_12 < (8 : Int32) then
        (fX4_valueOfPart_103 (fX4_valueOfPart_35 t n) t (some a_11) x3 x4 x5 x6_12 w)
      else
        (if (16 : Int32) ≤ x6_12 then
          (fX4_valueOfPart_103 (fX4_valueOfPart_35 t n) t (some a_11) x3 x4 x5 x6_12 w)
        else
          (if x4 ≤ (1 : Int32) then
            (fX4_valueOfPart_197 (fX4_valueOfPart_35 t n) t (some a_11) x3 x4 x5 w)
          else
            (dr (gR w t 8) 8 w (fun a_13 => grd (vin ((x4 + (-1 : Int32)) - (1 : Int32)) (ln a_13)) (dr (gR w t 8) 8 w (fun a_14 => grd (vin (x4 + (-1 : Int32)) (ln a_14)) (bnd (fX4_ofTwo x6_12 (gI w a_13 ((x4 + (-1 : Int32)) - (1 : Int32)).toNatClampNeg) (gI w a_14 (x4 + (-1 : Int32)).toNatClampNeg) w) (fun x_15 w_16 => grd (vin ((x4 + (-1 : Int32)) - (1 : Int32)) (ln a_13)) (lw (sI w_16 a_13 ((x4 + (-1 : Int32)) - (1 : Int32)).toNatClampNeg x_15) (fun w_17 => fX4_valueOfPart_197 (fX4_valueOfPart_35 t n) t (some a_11) x3 (x4 + (-1 : Int32)) x5 w_17))))))))))))))
set_option maxHeartbeats 4000000 in
theorem kX4_valueOfPart_35 {X : Cx} (h : Ok X cX4_valueOfPart RX4 6 0 0) (hr : RetI X .int 0 0) (hnL : nLX X = 7) {t : Nat} (ht : InN X t 4) : ∀ (fu : Nat) (r2 : Option Nat) (x3 : Int32) (x4 : Int32) (x5 : Int32) (w : Wd), OkR X Value.int (fX4_valueOfPart_35 t fu r2 x3 x4 x5 w) → G X 0 0 35 [(0, .inr (.inl (some t))), (2, .inr (.inl r2)), (3, .inl x3), (4, .inl x4), (5, .inl x5)] [] w := by
  have hj : ∀ j, j < 7 → j < nLX X := fun j q => by rw [hnL]; exact q
  intro fu
  induction fu with
  | zero => intro r2 x3 x4 x5 w hF; exact okN hF
  | succ fu ih =>
    intro r2 x3 x4 x5 w hF
    rw [fX4_valueOfPart_35] at hF
    refine g_iload (pc := 35) h 4 rfl dX4_valueOfPart_35 ?_
    refine g_iload_n (pc := 37) h 2 rfl dX4_valueOfPart_37 ?_
    refine g_icmp_ge (pc := 38) (tgt := 203) h dX4_valueOfPart_38 (by decide) hF (fun hF => ?_) (fun hF => ?_)
    · refine g_aload_n (pc := 203) h 0 rfl dX4_valueOfPart_203 ?_
      refine g_getR (pc := 204) h fdX4_11 (inw ht) rfl dX4_valueOfPart_204 ?_
      refine g_iconst (pc := 207) (v := (0 : Int32)) h dX4_valueOfPart_207 (by decide) ?_
      refine g_dr hF (fun a_10 e_a_10 h_a_10 hF => ?_)
      rw [e_a_10]
      obtain ⟨g_1, hF⟩ := grd_ok hF
      refine g_iald (pc := 208) h h_a_10 g_1 dX4_valueOfPart_208 ?_
      exact g_iret (pc := 209) h hr ⟨Nat.le_refl _, Nat.le_refl _⟩ hF dX4_valueOfPart_209
    · refine g_aload_n (pc := 41) h 1 rfl dX4_valueOfPart_41 ?_
      refine g_iload (pc := 42) h 4 rfl dX4_valueOfPart_42 ?_
      refine g_dr hF (fun a_11 e_a_11 h_a_11 hF => ?_)
      rw [e_a_11]
      obtain ⟨g_2, hF⟩ := grd_ok hF
      refine g_iald (pc := 44) h h_a_11 g_2 dX4_valueOfPart_44 ?_
      refine g_t hF (fun x6_12 hF => ?_)
      refine g_istore (pc := 45) (lv' := [(6, .inl x6_12), (0, .inr (.inl (some t))), (2, .inr (.inl (some a_11))), (3, .inl x3), (4, .inl x4), (5, .inl x5)]) h dX4_valueOfPart_45 (hj 6 (by decide)) rfl ?_
      refine g_iload (pc := 47) h 0 rfl dX4_valueOfPart_47 ?_
      refine g_bipush (pc := 49) (v := (8 : Int32)) h dX4_valueOfPart_49 (by decide) ?_
      refine g_icmp_lt (pc := 51) (tgt := 103) h dX4_valueOfPart_51 (by decide) hF (fun hF => ?_) (fun hF => ?_)
      · refine g_lv (lv' := [(0, .inr (.inl (some t))), (2, .inr (.inl (some a_11))), (3, .inl x3), (4, .inl x4), (5, .inl x5), (6, .inl x6_12)]) [1, 2, 3, 4, 5, 0] rfl ?_
        exact kX4_valueOfPart_103 h hr hnL ht (fun z0 z1 z2 z3 z4 hF => ih z0 z1 z2 z3 z4 hF) _ _ _ _ _ _ hF
      · refine g_iload (pc := 54) h 0 rfl dX4_valueOfPart_54 ?_
        refine g_bipush (pc := 56) (v := (16 : Int32)) h dX4_valueOfPart_56 (by decide) ?_
        refine g_icmp_ge (pc := 58) (tgt := 103) h dX4_valueOfPart_58 (by decide) hF (fun hF => ?_) (fun hF => ?_)
        · refine g_lv (lv' := [(0, .inr (.inl (some t))), (2, .inr (.inl (some a_11))), (3, .inl x3), (4, .inl x4), (5, .inl x5), (6, .inl x6_12)]) [1, 2, 3, 4, 5, 0] rfl ?_
          exact kX4_valueOfPart_103 h hr hnL ht (fun z0 z1 z2 z3 z4 hF => ih z0 z1 z2 z3 z4 hF) _ _ _ _ _ _ hF
        · refine g_iload (pc := 61) h 4 rfl dX4_valueOfPart_61 ?_
          refine g_iconst (pc := 63) (v := (1 : Int32)) h dX4_valueOfPart_63 (by decide) ?_
          refine g_icmp_le (pc := 64) (tgt := 197) h dX4_valueOfPart_64 (by decide) hF (fun hF => ?_) (fun hF => ?_)
          · refine g_lv (lv' := [(0, .inr (.inl (some t))), (2, .inr (.inl (some a_11))), (3, .inl x3), (4, .inl x4), (5, .inl x5)]) [1, 2, 3, 4, 5] rfl ?_
            exact kX4_valueOfPart_197 h hr hnL ht (fun z0 z1 z2 z3 z4 hF => ih z0 z1 z2 z3 z4 hF) _ _ _ _ _ hF
          · refine g_iinc (pc := 67) (lv' := [(4, .inl (x4 + (-1 : Int32))), (6, .inl x6_12), (0, .inr (.inl (some t))), (2, .inr (.inl (some a_11))), (3, .inl x3), (5, .inl x5)]) h 4 rfl dX4_valueOfPart_67 (dv := (-1 : Int32)) (by decide) (hj 4 (by decide)) rfl ?_
            refine g_aload_n (pc := 70) h 2 rfl dX4_valueOfPart_70 ?_
            refine g_getR (pc := 71) h fdX4_11 (inw ht) rfl dX4_valueOfPart_71 ?_
            refine g_iload (pc := 74) h 0 rfl dX4_valueOfPart_74 ?_
            refine g_iconst (pc := 76) (v := (1 : Int32)) h dX4_valueOfPart_76 (by decide) ?_
            refine g_isub (pc := 77) h dX4_valueOfPart_77 ?_
            refine g_iload (pc := 78) h 1 rfl dX4_valueOfPart_78 ?_
            refine g_aload_n (pc := 80) h 2 rfl dX4_valueOfPart_80 ?_
            refine g_getR (pc := 81) h fdX4_11 (inw ht) rfl dX4_valueOfPart_81 ?_
            refine g_iload (pc := 84) h 0 rfl dX4_valueOfPart_84 ?_
            refine g_iconst (pc := 86) (v := (1 : Int32)) h dX4_valueOfPart_86 (by decide) ?_
            refine g_isub (pc := 87) h dX4_valueOfPart_87 ?_
            refine g_dr hF (fun a_13 e_a_13 h_a_13 hF => ?_)
            rw [e_a_13]
            obtain ⟨g_3, hF⟩ := grd_ok hF
            refine g_iald (pc := 88) h h_a_13 g_3 dX4_valueOfPart_88 ?_
            refine g_aload_n (pc := 89) h 2 rfl dX4_valueOfPart_89 ?_
            refine g_getR (pc := 90) h fdX4_11 (inw ht) rfl dX4_valueOfPart_90 ?_
            refine g_iload (pc := 93) h 0 rfl dX4_valueOfPart_93 ?_
            refine g_dr hF (fun a_14 e_a_14 h_a_14 hF => ?_)
            rw [e_a_14]
            obtain ⟨g_4, hF⟩ := grd_ok hF
            refine g_iald (pc := 95) h h_a_14 g_4 dX4_valueOfPart_95 ?_
            refine g_csI (pc := 96) (st := [.int ((x4 + (-1 : Int32)) - (1 : Int32)), rv X.1 (some a_13)]) h mX4_ofTwo csX4_110 (by decide) ⟨by decide, by decide⟩ (Nat.le_of_ble_eq_true rfl) rfl rfl dX4_valueOfPart_96 hF (fun x_15 w_16 hF => ?_)
            obtain ⟨g_5, hF⟩ := grd_ok hF
            refine g_iast (pc := 99) h h_a_13 g_5 dX4_valueOfPart_99 ?_
            refine g_w hF (fun w_17 hF => ?_)
            refine g_goto (pc := 100) (tgt := 197) h dX4_valueOfPart_100 (by decide) ?_
            refine g_lv (lv' := [(0, .inr (.inl (some t))), (2, .inr (.inl (some a_11))), (3, .inl x3), (4, .inl (x4 + (-1 : Int32))), (5, .inl x5)]) [2, 3, 4, 0, 5] rfl ?_
            exact kX4_valueOfPart_197 h hr hnL ht (fun z0 z1 z2 z3 z4 hF => ih z0 z1 z2 z3 z4 hF) _ _ _ _ _ hF
def fX4_valueOfPart (t : Nat) (x1 : Int32) (w : Wd) : Option (Int32 × Wd) :=
  dr (gR w t 7) 3 w (fun a_1 => dr (gR w t 7) 3 w (fun a_2 => bnd (fX3_endOf a_2 x1 w) (fun x_3 w_4 => dr (gR w a_1 0) 8 w_4 (fun a_5 => lt (if (Int32.ofNat (ln a_5)) < x_3 then (Int32.ofNat (ln a_5)) else x_3) (fun x3_6 => dr (gR w_4 t 7) 3 w_4 (fun a_7 => bnd (fX3_startOf a_7 x1 w_4) (fun x_8 w_9 => fX4_valueOfPart_35 t FU (some a_5) x3_6 (0 : Int32) x_8 w_9)))))))
set_option maxHeartbeats 4000000 in
theorem mX4_valueOfPart {Γ : En} {t : Nat} {x1 : Int32} {w : Wd} (ht : t < wn w ∧ kd t = 4) : MtI Γ yX4_valueOfPart cX4_valueOfPart 7 (some .int) 6 0 0 [rv Γ (some t), .int x1] w (fX4_valueOfPart t x1 w) := by
  refine mtI [.inr (.inl (some t)), .inl x1] rfl (Nat.le_of_ble_eq_true rfl) (fun X hΓ hnL hn0 h _ hr hF => ?_)
  subst hΓ
  have ht : InN X t 4 := ⟨by rw [hn0]; exact ht.1, ht.2⟩
  have h : Ok X cX4_valueOfPart RX4 6 0 0 := h
  have hj : ∀ j, j < 7 → j < nLX X := fun j q => by rw [hnL]; exact q
  show G X 0 0 0 [(0, .inr (.inl (some t))), (1, .inl x1)] [] w
  unfold fX4_valueOfPart at hF
  refine g_aload_n (pc := 0) h 0 rfl dX4_valueOfPart_0 ?_
  refine g_getR (pc := 1) h fdX4_15 (inw ht) rfl dX4_valueOfPart_1 ?_
  refine g_dr hF (fun a_1 e_a_1 h_a_1 hF => ?_)
  rw [e_a_1]
  refine g_getR (pc := 4) h fdX4_101 h_a_1 rfl dX4_valueOfPart_4 ?_
  refine g_astore_n (pc := 7) (lv' := [(2, .inr (.inl (gR w a_1 0))), (0, .inr (.inl (some t))), (1, .inl x1)]) h dX4_valueOfPart_7 (hj 2 (by decide)) rfl ?_
  refine g_aload_n (pc := 8) h 1 rfl dX4_valueOfPart_8 ?_
  refine g_getR (pc := 9) h fdX4_15 (inw ht) rfl dX4_valueOfPart_9 ?_
  refine g_iload_n (pc := 12) h 2 rfl dX4_valueOfPart_12 ?_
  refine g_dr hF (fun a_2 e_a_2 h_a_2 hF => ?_)
  rw [e_a_2]
  refine g_cvI (pc := 13) (st := []) h mX3_endOf cvX4_104 h_a_2 (by decide) ⟨by decide, by decide⟩ (Nat.le_of_ble_eq_true rfl) rfl rfl dX4_valueOfPart_13 hF (fun x_3 w_4 hF => ?_)
  refine g_aload_n (pc := 16) h 0 rfl dX4_valueOfPart_16 ?_
  refine g_dr hF (fun a_5 e_a_5 h_a_5 hF => ?_)
  rw [e_a_5]
  refine g_alen (pc := 17) h h_a_5 rfl dX4_valueOfPart_17 ?_
  refine g_mmin (pc := 18) h wml_X4_76 (by decide) (Nat.le_of_ble_eq_true rfl) ⟨by decide, by decide⟩ dX4_valueOfPart_18 ?_
  refine g_t hF (fun x3_6 hF => ?_)
  refine g_istore_n (pc := 21) (lv' := [(3, .inl x3_6), (2, .inr (.inl (some a_5))), (0, .inr (.inl (some t))), (1, .inl x1)]) h dX4_valueOfPart_21 (hj 3 (by decide)) rfl ?_
  refine g_iconst (pc := 22) (v := (0 : Int32)) h dX4_valueOfPart_22 (by decide) ?_
  refine g_istore (pc := 23) (lv' := [(4, .inl (0 : Int32)), (3, .inl x3_6), (2, .inr (.inl (some a_5))), (0, .inr (.inl (some t))), (1, .inl x1)]) h dX4_valueOfPart_23 (hj 4 (by decide)) rfl ?_
  refine g_aload_n (pc := 25) h 3 rfl dX4_valueOfPart_25 ?_
  refine g_getR (pc := 26) h fdX4_15 (inw ht) rfl dX4_valueOfPart_26 ?_
  refine g_iload_n (pc := 29) h 4 rfl dX4_valueOfPart_29 ?_
  refine g_dr hF (fun a_7 e_a_7 h_a_7 hF => ?_)
  rw [e_a_7]
  refine g_cvI (pc := 30) (st := []) h mX3_startOf cvX4_107 h_a_7 (by decide) ⟨by decide, by decide⟩ (Nat.le_of_ble_eq_true rfl) rfl rfl dX4_valueOfPart_30 hF (fun x_8 w_9 hF => ?_)
  refine g_istore (pc := 33) (lv' := [(5, .inl x_8), (4, .inl (0 : Int32)), (3, .inl x3_6), (2, .inr (.inl (some a_5))), (0, .inr (.inl (some t))), (1, .inl x1)]) h dX4_valueOfPart_33 (hj 5 (by decide)) rfl ?_
  refine g_lv (lv' := [(0, .inr (.inl (some t))), (2, .inr (.inl (some a_5))), (3, .inl x3_6), (4, .inl (0 : Int32)), (5, .inl x_8)]) [4, 3, 2, 1, 0] rfl ?_
  exact kX4_valueOfPart_35 h hr hnL ht _ _ _ _ _ _ hF
def fX4_lasts (t : Nat) (w : Wd) : Option (Int32 × Wd) :=
  bnd (fX4_valueOfPart t (0 : Int32) w) (fun x_1 w_2 => bnd (fX6_bounded x_1 (999 : Int32) w_2) (fun x_3 w_4 => bnd (fX4_lastsByKind t x_3 w_4) (fun x_5 w_6 => bnd (fX6_bounded x_5 (9999 : Int32) w_6) (fun x_7 w_8 => some (x_7, w_8)))))
set_option maxHeartbeats 4000000 in
theorem mX4_lasts {Γ : En} {t : Nat} {w : Wd} (ht : t < wn w ∧ kd t = 4) : MtI Γ yX4_lasts cX4_lasts 1 (some .int) 7 0 0 [rv Γ (some t)] w (fX4_lasts t w) := by
  refine mtI [.inr (.inl (some t))] rfl (Nat.le_of_ble_eq_true rfl) (fun X hΓ hnL hn0 h _ hr hF => ?_)
  subst hΓ
  have ht : InN X t 4 := ⟨by rw [hn0]; exact ht.1, ht.2⟩
  have h : Ok X cX4_lasts RX4 7 0 0 := h
  have hj : ∀ j, j < 1 → j < nLX X := fun j q => by rw [hnL]; exact q
  show G X 0 0 0 [(0, .inr (.inl (some t)))] [] w
  unfold fX4_lasts at hF
  refine g_aload_n (pc := 0) h 0 rfl dX4_lasts_0 ?_
  refine g_aload_n (pc := 1) h 0 rfl dX4_lasts_1 ?_
  refine g_iconst (pc := 2) (v := (0 : Int32)) h dX4_lasts_2 (by decide) ?_
  refine g_cvI (pc := 3) (st := [rv X.1 (some t)]) h mX4_valueOfPart cvX4_51 (inw ht) (by decide) ⟨by decide, by decide⟩ (Nat.le_of_ble_eq_true rfl) rfl rfl dX4_lasts_3 hF (fun x_1 w_2 hF => ?_)
  refine g_sipush (pc := 6) (v := (999 : Int32)) h dX4_lasts_6 (by decide) ?_
  refine g_cnI (pc := 9) (st := [rv X.1 (some t)]) h mX6_bounded cnX4_55 (by decide) ⟨by decide, by decide⟩ (Nat.le_of_ble_eq_true rfl) rfl rfl dX4_lasts_9 hF (fun x_3 w_4 hF => ?_)
  refine g_cvI (pc := 12) (st := []) h mX4_lastsByKind cvX4_59 (inw ht) (by decide) ⟨by decide, by decide⟩ (Nat.le_of_ble_eq_true rfl) rfl rfl dX4_lasts_12 hF (fun x_5 w_6 hF => ?_)
  refine g_sipush (pc := 15) (v := (9999 : Int32)) h dX4_lasts_15 (by decide) ?_
  refine g_cnI (pc := 18) (st := []) h mX6_bounded cnX4_55 (by decide) ⟨by decide, by decide⟩ (Nat.le_of_ble_eq_true rfl) rfl rfl dX4_lasts_18 hF (fun x_7 w_8 hF => ?_)
  exact g_iret (pc := 21) h hr ⟨Nat.le_refl _, Nat.le_refl _⟩ hF dX4_lasts_21
def fX4_paceByKind_14 (t : Nat) (x1 : Int32) (y0 : Int32) (w : Wd) : Option (Int32 × Wd) :=
  if (gI w t 0) = (1 : Int32) then
    (some (y0, w))
  else if (gI w t 0) = (2 : Int32) then
    (some (x1 + (2 : Int32), w))
  else if (gI w t 0) = (3 : Int32) then
    (some (y0 + (3 : Int32), w))
  else if (gI w t 0) = (4 : Int32) then
    (some ((1 : Int32), w))
  else if (gI w t 0) = (5 : Int32) then
    (some (gI w t 1, w))
  else 
    (some (x1, w))
set_option maxHeartbeats 4000000 in
theorem kX4_paceByKind_14 {X : Cx} (h : Ok X cX4_paceByKind RX4 2 0 0) (hr : RetI X .int 0 0) (hnL : nLX X = 3) {t : Nat} (ht : InN X t 4) : ∀ (x1 : Int32) (y0 : Int32) (w : Wd), OkR X Value.int (fX4_paceByKind_14 t x1 y0 w) → G X 0 0 14 [(0, .inr (.inl (some t))), (1, .inl x1)] [.int y0] w := by
  have hj : ∀ j, j < 3 → j < nLX X := fun j q => by rw [hnL]; exact q
  intro x1 y0 w hF
  unfold fX4_paceByKind_14 at hF
  refine g_istore_n (pc := 14) (lv' := [(2, .inl y0), (0, .inr (.inl (some t))), (1, .inl x1)]) h dX4_paceByKind_14 (hj 2 (by decide)) rfl ?_
  refine g_aload_n (pc := 15) h 1 rfl dX4_paceByKind_15 ?_
  refine g_getI (pc := 16) h fdX4_25 (inw ht) (by decide) dX4_paceByKind_16 ?_
  refine g_swEq (pc := 19) (off := 33) (tgt := 52) h (1 : Int32) dX4_paceByKind_19 (by decide) (by decide) hF (fun hF => ?_) (fun c_0 hF => ?_)
  · refine g_iload_n (pc := 52) h 0 rfl dX4_paceByKind_52 ?_
    exact g_iret (pc := 53) h hr ⟨Nat.le_refl _, Nat.le_refl _⟩ hF dX4_paceByKind_53
  refine g_swEq (pc := 19) (off := 35) (tgt := 54) h (2 : Int32) dX4_paceByKind_19 (by decide) (by decide) hF (fun hF => ?_) (fun c_1 hF => ?_)
  · refine g_iload_n (pc := 54) h 2 rfl dX4_paceByKind_54 ?_
    refine g_iconst (pc := 55) (v := (2 : Int32)) h dX4_paceByKind_55 (by decide) ?_
    refine g_iadd (pc := 56) h dX4_paceByKind_56 ?_
    exact g_iret (pc := 57) h hr ⟨Nat.le_refl _, Nat.le_refl _⟩ hF dX4_paceByKind_57
  refine g_swEq (pc := 19) (off := 39) (tgt := 58) h (3 : Int32) dX4_paceByKind_19 (by decide) (by decide) hF (fun hF => ?_) (fun c_2 hF => ?_)
  · refine g_iload_n (pc := 58) h 0 rfl dX4_paceByKind_58 ?_
    refine g_iconst (pc := 59) (v := (3 : Int32)) h dX4_paceByKind_59 (by decide) ?_
    refine g_iadd (pc := 60) h dX4_paceByKind_60 ?_
    exact g_iret (pc := 61) h hr ⟨Nat.le_refl _, Nat.le_refl _⟩ hF dX4_paceByKind_61
  refine g_swEq (pc := 19) (off := 43) (tgt := 62) h (4 : Int32) dX4_paceByKind_19 (by decide) (by decide) hF (fun hF => ?_) (fun c_3 hF => ?_)
  · refine g_iconst (pc := 62) (v := (1 : Int32)) h dX4_paceByKind_62 (by decide) ?_
    exact g_iret (pc := 63) h hr ⟨Nat.le_refl _, Nat.le_refl _⟩ hF dX4_paceByKind_63
  refine g_swEq (pc := 19) (off := 45) (tgt := 64) h (5 : Int32) dX4_paceByKind_19 (by decide) (by decide) hF (fun hF => ?_) (fun c_4 hF => ?_)
  · refine g_aload_n (pc := 64) h 1 rfl dX4_paceByKind_64 ?_
    refine g_getI (pc := 65) h fdX4_29 (inw ht) (by decide) dX4_paceByKind_65 ?_
    exact g_iret (pc := 68) h hr ⟨Nat.le_refl _, Nat.le_refl _⟩ hF dX4_paceByKind_68
  refine g_swOut (pc := 19) (tgt := 69) h dX4_paceByKind_19 (sw_out (q := 5) (fun j hj9 => ?_)) (by decide) ?_
  · match j, hj9 with
    | 0, _ => exact c_0
    | 1, _ => exact c_1
    | 2, _ => exact c_2
    | 3, _ => exact c_3
    | 4, _ => exact c_4
    | j + 5, hj9 => exact absurd hj9 (by omega)
  · refine g_iload_n (pc := 69) h 2 rfl dX4_paceByKind_69 ?_
    exact g_iret (pc := 70) h hr ⟨Nat.le_refl _, Nat.le_refl _⟩ hF dX4_paceByKind_70
def fX4_paceByKind (t : Nat) (x1 : Int32) (w : Wd) : Option (Int32 × Wd) :=
  if (gI w t 3) = 0 then
    (fX4_paceByKind_14 t x1 ((2 : Int32) * x1) w)
  else
    (fX4_paceByKind_14 t x1 x1 w)
set_option maxHeartbeats 4000000 in
theorem mX4_paceByKind {Γ : En} {t : Nat} {x1 : Int32} {w : Wd} (ht : t < wn w ∧ kd t = 4) : MtI Γ yX4_paceByKind cX4_paceByKind 3 (some .int) 2 0 0 [rv Γ (some t), .int x1] w (fX4_paceByKind t x1 w) := by
  refine mtI [.inr (.inl (some t)), .inl x1] rfl (Nat.le_of_ble_eq_true rfl) (fun X hΓ hnL hn0 h _ hr hF => ?_)
  subst hΓ
  have ht : InN X t 4 := ⟨by rw [hn0]; exact ht.1, ht.2⟩
  have h : Ok X cX4_paceByKind RX4 2 0 0 := h
  have hj : ∀ j, j < 3 → j < nLX X := fun j q => by rw [hnL]; exact q
  show G X 0 0 0 [(0, .inr (.inl (some t))), (1, .inl x1)] [] w
  unfold fX4_paceByKind at hF
  refine g_aload_n (pc := 0) h 0 rfl dX4_paceByKind_0 ?_
  refine g_getI (pc := 1) h fdX4_44 (inw ht) (by decide) dX4_paceByKind_1 ?_
  refine g_if_ne (pc := 4) (tgt := 13) h dX4_paceByKind_4 (by decide) hF (fun hF => ?_) (fun hF => ?_)
  · refine g_iload_n (pc := 13) h 1 rfl dX4_paceByKind_13 ?_
    exact kX4_paceByKind_14 h hr hnL ht _ _ _ hF
  · refine g_iconst (pc := 7) (v := (2 : Int32)) h dX4_paceByKind_7 (by decide) ?_
    refine g_iload_n (pc := 8) h 1 rfl dX4_paceByKind_8 ?_
    refine g_imul (pc := 9) h dX4_paceByKind_9 ?_
    refine g_goto (pc := 10) (tgt := 14) h dX4_paceByKind_10 (by decide) ?_
    exact kX4_paceByKind_14 h hr hnL ht _ _ _ hF
def fX4_pace (t : Nat) (w : Wd) : Option (Int32 × Wd) :=
  bnd (fX4_valueOfPart t (1 : Int32) w) (fun x_1 w_2 => bnd (fX6_bounded x_1 (99 : Int32) w_2) (fun x_3 w_4 => bnd (fX4_paceByKind t x_3 w_4) (fun x_5 w_6 => bnd (fX6_bounded x_5 (99 : Int32) w_6) (fun x_7 w_8 => some (x_7, w_8)))))
set_option maxHeartbeats 4000000 in
theorem mX4_pace {Γ : En} {t : Nat} {w : Wd} (ht : t < wn w ∧ kd t = 4) : MtI Γ yX4_pace cX4_pace 1 (some .int) 7 0 0 [rv Γ (some t)] w (fX4_pace t w) := by
  refine mtI [.inr (.inl (some t))] rfl (Nat.le_of_ble_eq_true rfl) (fun X hΓ hnL hn0 h _ hr hF => ?_)
  subst hΓ
  have ht : InN X t 4 := ⟨by rw [hn0]; exact ht.1, ht.2⟩
  have h : Ok X cX4_pace RX4 7 0 0 := h
  have hj : ∀ j, j < 1 → j < nLX X := fun j q => by rw [hnL]; exact q
  show G X 0 0 0 [(0, .inr (.inl (some t)))] [] w
  unfold fX4_pace at hF
  refine g_aload_n (pc := 0) h 0 rfl dX4_pace_0 ?_
  refine g_aload_n (pc := 1) h 0 rfl dX4_pace_1 ?_
  refine g_iconst (pc := 2) (v := (1 : Int32)) h dX4_pace_2 (by decide) ?_
  refine g_cvI (pc := 3) (st := [rv X.1 (some t)]) h mX4_valueOfPart cvX4_51 (inw ht) (by decide) ⟨by decide, by decide⟩ (Nat.le_of_ble_eq_true rfl) rfl rfl dX4_pace_3 hF (fun x_1 w_2 hF => ?_)
  refine g_bipush (pc := 6) (v := (99 : Int32)) h dX4_pace_6 (by decide) ?_
  refine g_cnI (pc := 8) (st := [rv X.1 (some t)]) h mX6_bounded cnX4_55 (by decide) ⟨by decide, by decide⟩ (Nat.le_of_ble_eq_true rfl) rfl rfl dX4_pace_8 hF (fun x_3 w_4 hF => ?_)
  refine g_cvI (pc := 11) (st := []) h mX4_paceByKind cvX4_62 (inw ht) (by decide) ⟨by decide, by decide⟩ (Nat.le_of_ble_eq_true rfl) rfl rfl dX4_pace_11 hF (fun x_5 w_6 hF => ?_)
  refine g_bipush (pc := 14) (v := (99 : Int32)) h dX4_pace_14 (by decide) ?_
  refine g_cnI (pc := 16) (st := []) h mX6_bounded cnX4_55 (by decide) ⟨by decide, by decide⟩ (Nat.le_of_ble_eq_true rfl) rfl rfl dX4_pace_16 hF (fun x_7 w_8 hF => ?_)
  exact g_iret (pc := 19) h hr ⟨Nat.le_refl _, Nat.le_refl _⟩ hF dX4_pace_19
def fX4_isStopped_83 (t : Nat) (w : Wd) : Option (Int32 × Wd) :=
  some ((1 : Int32), w)
set_option maxHeartbeats 4000000 in
theorem kX4_isStopped_83 {X : Cx} (h : Ok X cX4_isStopped RX4 7 0 0) (hr : RetI X .boolean 0 0) (hnL : nLX X = 2) {t : Nat} (ht : InN X t 4) : ∀ (w : Wd), OkR X Value.int (fX4_isStopped_83 t  w) → G X 0 0 83 [] [] w := by
  have hj : ∀ j, j < 2 → j < nLX X := fun j q => by rw [hnL]; exact q
  intro w hF
  unfold fX4_isStopped_83 at hF
  refine g_iconst (pc := 83) (v := (1 : Int32)) h dX4_isStopped_83 (by decide) ?_
  refine g_goto (pc := 84) (tgt := 88) h dX4_isStopped_84 (by decide) ?_
  exact g_zret (pc := 88) h hr ⟨Nat.le_refl _, Nat.le_refl _⟩ (by decide) hF dX4_isStopped_88
def fX4_isStopped_104 (t : Nat) (w : Wd) : Option (Int32 × Wd) :=
  some ((1 : Int32), w)
set_option maxHeartbeats 4000000 in
theorem kX4_isStopped_104 {X : Cx} (h : Ok X cX4_isStopped RX4 7 0 0) (hr : RetI X .boolean 0 0) (hnL : nLX X = 2) {t : Nat} (ht : InN X t 4) : ∀ (w : Wd), OkR X Value.int (fX4_isStopped_104 t  w) → G X 0 0 104 [] [] w := by
  have hj : ∀ j, j < 2 → j < nLX X := fun j q => by rw [hnL]; exact q
  intro w hF
  unfold fX4_isStopped_104 at hF
  refine g_iconst (pc := 104) (v := (1 : Int32)) h dX4_isStopped_104 (by decide) ?_
  refine g_goto (pc := 105) (tgt := 109) h dX4_isStopped_105 (by decide) ?_
  exact g_zret (pc := 109) h hr ⟨Nat.le_refl _, Nat.le_refl _⟩ (by decide) hF dX4_isStopped_109
def fX4_isStopped_13 (t : Nat) (y0 : Int32) (w : Wd) : Option (Int32 × Wd) :=
  if (gI w t 0) = (1 : Int32) then
    (if y0 = 0 then
      (some ((0 : Int32), w))
    else
      (if (gI w t 3) ≤ (5 : Int32) then
        (some ((0 : Int32), w))
      else
        (some ((1 : Int32), w))))
  else if (gI w t 0) = (2 : Int32) then
    (if y0 = 0 then
      (if (gI w t 3) ≤ (30 : Int32) then
        (some ((0 : Int32), w))
      else
        (fX4_isStopped_83 t w))
    else
      (fX4_isStopped_83 t w))
  else if (gI w t 0) = (3 : Int32) then
    (some ((0 : Int32), w))
  else if (gI w t 0) = (4 : Int32) then
    (if y0 = 0 then
      (if (gI w t 3) ≤ (30 : Int32) then
        (some ((0 : Int32), w))
      else
        (fX4_isStopped_104 t w))
    else
      (fX4_isStopped_104 t w))
  else if (gI w t 0) = (5 : Int32) then
    (if (gI w t 3) ≤ 0 then
      (some ((0 : Int32), w))
    else
      (some ((1 : Int32), w)))
  else 
    (grd (y0 = 0 ∨ y0 = 1) (some (y0, w)))
set_option maxHeartbeats 4000000 in
theorem kX4_isStopped_13 {X : Cx} (h : Ok X cX4_isStopped RX4 7 0 0) (hr : RetI X .boolean 0 0) (hnL : nLX X = 2) {t : Nat} (ht : InN X t 4) : ∀ (y0 : Int32) (w : Wd), OkR X Value.int (fX4_isStopped_13 t y0 w) → G X 0 0 13 [(0, .inr (.inl (some t)))] [.int y0] w := by
  have hj : ∀ j, j < 2 → j < nLX X := fun j q => by rw [hnL]; exact q
  intro y0 w hF
  unfold fX4_isStopped_13 at hF
  refine g_istore_n (pc := 13) (lv' := [(1, .inl y0), (0, .inr (.inl (some t)))]) h dX4_isStopped_13 (hj 1 (by decide)) rfl ?_
  refine g_aload_n (pc := 14) h 1 rfl dX4_isStopped_14 ?_
  refine g_getI (pc := 15) h fdX4_25 (inw ht) (by decide) dX4_isStopped_15 ?_
  refine g_swEq (pc := 18) (off := 34) (tgt := 52) h (1 : Int32) dX4_isStopped_18 (by decide) (by decide) hF (fun hF => ?_) (fun c_0 hF => ?_)
  · refine g_iload_n (pc := 52) h 0 rfl dX4_isStopped_52 ?_
    refine g_if_eq (pc := 53) (tgt := 68) h dX4_isStopped_53 (by decide) hF (fun hF => ?_) (fun hF => ?_)
    · refine g_iconst (pc := 68) (v := (0 : Int32)) h dX4_isStopped_68 (by decide) ?_
      exact g_zret (pc := 69) h hr ⟨Nat.le_refl _, Nat.le_refl _⟩ (by decide) hF dX4_isStopped_69
    · refine g_aload_n (pc := 56) h 1 rfl dX4_isStopped_56 ?_
      refine g_getI (pc := 57) h fdX4_44 (inw ht) (by decide) dX4_isStopped_57 ?_
      refine g_iconst (pc := 60) (v := (5 : Int32)) h dX4_isStopped_60 (by decide) ?_
      refine g_icmp_le (pc := 61) (tgt := 68) h dX4_isStopped_61 (by decide) hF (fun hF => ?_) (fun hF => ?_)
      · refine g_iconst (pc := 68) (v := (0 : Int32)) h dX4_isStopped_68 (by decide) ?_
        exact g_zret (pc := 69) h hr ⟨Nat.le_refl _, Nat.le_refl _⟩ (by decide) hF dX4_isStopped_69
      · refine g_iconst (pc := 64) (v := (1 : Int32)) h dX4_isStopped_64 (by decide) ?_
        refine g_goto (pc := 65) (tgt := 69) h dX4_isStopped_65 (by decide) ?_
        exact g_zret (pc := 69) h hr ⟨Nat.le_refl _, Nat.le_refl _⟩ (by decide) hF dX4_isStopped_69
  refine g_swEq (pc := 18) (off := 52) (tgt := 70) h (2 : Int32) dX4_isStopped_18 (by decide) (by decide) hF (fun hF => ?_) (fun c_1 hF => ?_)
  · refine g_iload_n (pc := 70) h 0 rfl dX4_isStopped_70 ?_
    refine g_if_ne (pc := 71) (tgt := 83) h dX4_isStopped_71 (by decide) hF (fun hF => ?_) (fun hF => ?_)
    · refine g_lv (lv' := []) [] rfl ?_
      exact kX4_isStopped_83 h hr hnL ht _ hF
    · refine g_aload_n (pc := 74) h 1 rfl dX4_isStopped_74 ?_
      refine g_getI (pc := 75) h fdX4_44 (inw ht) (by decide) dX4_isStopped_75 ?_
      refine g_bipush (pc := 78) (v := (30 : Int32)) h dX4_isStopped_78 (by decide) ?_
      refine g_icmp_le (pc := 80) (tgt := 87) h dX4_isStopped_80 (by decide) hF (fun hF => ?_) (fun hF => ?_)
      · refine g_iconst (pc := 87) (v := (0 : Int32)) h dX4_isStopped_87 (by decide) ?_
        exact g_zret (pc := 88) h hr ⟨Nat.le_refl _, Nat.le_refl _⟩ (by decide) hF dX4_isStopped_88
      · refine g_lv (lv' := []) [] rfl ?_
        exact kX4_isStopped_83 h hr hnL ht _ hF
  refine g_swEq (pc := 18) (off := 71) (tgt := 89) h (3 : Int32) dX4_isStopped_18 (by decide) (by decide) hF (fun hF => ?_) (fun c_2 hF => ?_)
  · refine g_iconst (pc := 89) (v := (0 : Int32)) h dX4_isStopped_89 (by decide) ?_
    exact g_zret (pc := 90) h hr ⟨Nat.le_refl _, Nat.le_refl _⟩ (by decide) hF dX4_isStopped_90
  refine g_swEq (pc := 18) (off := 73) (tgt := 91) h (4 : Int32) dX4_isStopped_18 (by decide) (by decide) hF (fun hF => ?_) (fun c_3 hF => ?_)
  · refine g_iload_n (pc := 91) h 0 rfl dX4_isStopped_91 ?_
    refine g_if_ne (pc := 92) (tgt := 104) h dX4_isStopped_92 (by decide) hF (fun hF => ?_) (fun hF => ?_)
    · refine g_lv (lv' := []) [] rfl ?_
      exact kX4_isStopped_104 h hr hnL ht _ hF
    · refine g_aload_n (pc := 95) h 1 rfl dX4_isStopped_95 ?_
      refine g_getI (pc := 96) h fdX4_44 (inw ht) (by decide) dX4_isStopped_96 ?_
      refine g_bipush (pc := 99) (v := (30 : Int32)) h dX4_isStopped_99 (by decide) ?_
      refine g_icmp_le (pc := 101) (tgt := 108) h dX4_isStopped_101 (by decide) hF (fun hF => ?_) (fun hF => ?_)
      · refine g_iconst (pc := 108) (v := (0 : Int32)) h dX4_isStopped_108 (by decide) ?_
        exact g_zret (pc := 109) h hr ⟨Nat.le_refl _, Nat.le_refl _⟩ (by decide) hF dX4_isStopped_109
      · refine g_lv (lv' := []) [] rfl ?_
        exact kX4_isStopped_104 h hr hnL ht _ hF
  refine g_swEq (pc := 18) (off := 92) (tgt := 110) h (5 : Int32) dX4_isStopped_18 (by decide) (by decide) hF (fun hF => ?_) (fun c_4 hF => ?_)
  · refine g_aload_n (pc := 110) h 1 rfl dX4_isStopped_110 ?_
    refine g_getI (pc := 111) h fdX4_44 (inw ht) (by decide) dX4_isStopped_111 ?_
    refine g_if_le (pc := 114) (tgt := 121) h dX4_isStopped_114 (by decide) hF (fun hF => ?_) (fun hF => ?_)
    · refine g_iconst (pc := 121) (v := (0 : Int32)) h dX4_isStopped_121 (by decide) ?_
      exact g_zret (pc := 122) h hr ⟨Nat.le_refl _, Nat.le_refl _⟩ (by decide) hF dX4_isStopped_122
    · refine g_iconst (pc := 117) (v := (1 : Int32)) h dX4_isStopped_117 (by decide) ?_
      refine g_goto (pc := 118) (tgt := 122) h dX4_isStopped_118 (by decide) ?_
      exact g_zret (pc := 122) h hr ⟨Nat.le_refl _, Nat.le_refl _⟩ (by decide) hF dX4_isStopped_122
  refine g_swOut (pc := 18) (tgt := 123) h dX4_isStopped_18 (sw_out (q := 5) (fun j hj9 => ?_)) (by decide) ?_
  · match j, hj9 with
    | 0, _ => exact c_0
    | 1, _ => exact c_1
    | 2, _ => exact c_2
    | 3, _ => exact c_3
    | 4, _ => exact c_4
    | j + 5, hj9 => exact absurd hj9 (by omega)
  · refine g_iload_n (pc := 123) h 0 rfl dX4_isStopped_123 ?_
    obtain ⟨g_1, hF⟩ := grd_ok hF
    exact g_zret (pc := 124) h hr ⟨Nat.le_refl _, Nat.le_refl _⟩ (bz_ok g_1).1 hF dX4_isStopped_124
def fX4_isStopped (t : Nat) (w : Wd) : Option (Int32 × Wd) :=
  bnd (fX4_valueOfPart t (2 : Int32) w) (fun x_1 w_2 => if x_1 = 0 then
    (fX4_isStopped_13 t (0 : Int32) w_2)
  else
    (fX4_isStopped_13 t (1 : Int32) w_2))
set_option maxHeartbeats 4000000 in
theorem mX4_isStopped {Γ : En} {t : Nat} {w : Wd} (ht : t < wn w ∧ kd t = 4) : MtI Γ yX4_isStopped cX4_isStopped 2 (some .boolean) 7 0 0 [rv Γ (some t)] w (fX4_isStopped t w) := by
  refine mtI [.inr (.inl (some t))] rfl (Nat.le_of_ble_eq_true rfl) (fun X hΓ hnL hn0 h _ hr hF => ?_)
  subst hΓ
  have ht : InN X t 4 := ⟨by rw [hn0]; exact ht.1, ht.2⟩
  have h : Ok X cX4_isStopped RX4 7 0 0 := h
  have hj : ∀ j, j < 2 → j < nLX X := fun j q => by rw [hnL]; exact q
  show G X 0 0 0 [(0, .inr (.inl (some t)))] [] w
  unfold fX4_isStopped at hF
  refine g_aload_n (pc := 0) h 0 rfl dX4_isStopped_0 ?_
  refine g_iconst (pc := 1) (v := (2 : Int32)) h dX4_isStopped_1 (by decide) ?_
  refine g_cvI (pc := 2) (st := []) h mX4_valueOfPart cvX4_51 (inw ht) (by decide) ⟨by decide, by decide⟩ (Nat.le_of_ble_eq_true rfl) rfl rfl dX4_isStopped_2 hF (fun x_1 w_2 hF => ?_)
  refine g_if_eq (pc := 5) (tgt := 12) h dX4_isStopped_5 (by decide) hF (fun hF => ?_) (fun hF => ?_)
  · refine g_iconst (pc := 12) (v := (0 : Int32)) h dX4_isStopped_12 (by decide) ?_
    exact kX4_isStopped_13 h hr hnL ht _ _ hF
  · refine g_iconst (pc := 8) (v := (1 : Int32)) h dX4_isStopped_8 (by decide) ?_
    refine g_goto (pc := 9) (tgt := 13) h dX4_isStopped_9 (by decide) ?_
    exact kX4_isStopped_13 h hr hnL ht _ _ hF
def fX4_isInSocks (t : Nat) (w : Wd) : Option (Int32 × Wd) :=
  bnd (fX4_lasts t w) (fun x_1 w_2 => if (gI w t 5) < x_1 then
    (some ((0 : Int32), w_2))
  else
    (some ((1 : Int32), w_2)))
set_option maxHeartbeats 4000000 in
theorem mX4_isInSocks {Γ : En} {t : Nat} {w : Wd} (ht : t < wn w ∧ kd t = 4) : MtI Γ yX4_isInSocks cX4_isInSocks 1 (some .boolean) 8 0 0 [rv Γ (some t)] w (fX4_isInSocks t w) := by
  refine mtI [.inr (.inl (some t))] rfl (Nat.le_of_ble_eq_true rfl) (fun X hΓ hnL hn0 h _ hr hF => ?_)
  subst hΓ
  have ht : InN X t 4 := ⟨by rw [hn0]; exact ht.1, ht.2⟩
  have h : Ok X cX4_isInSocks RX4 8 0 0 := h
  have hj : ∀ j, j < 1 → j < nLX X := fun j q => by rw [hnL]; exact q
  show G X 0 0 0 [(0, .inr (.inl (some t)))] [] w
  unfold fX4_isInSocks at hF
  refine g_aload_n (pc := 0) h 0 rfl dX4_isInSocks_0 ?_
  refine g_getI (pc := 1) h fdX4_37 (inw ht) (by decide) dX4_isInSocks_1 ?_
  refine g_aload_n (pc := 4) h 0 rfl dX4_isInSocks_4 ?_
  refine g_cvI (pc := 5) (st := [.int (gI w t 5)]) h mX4_lasts cvX4_65 (inw ht) (by decide) ⟨by decide, by decide⟩ (Nat.le_of_ble_eq_true rfl) rfl rfl dX4_isInSocks_5 hF (fun x_1 w_2 hF => ?_)
  refine g_icmp_lt (pc := 8) (tgt := 15) h dX4_isInSocks_8 (by decide) hF (fun hF => ?_) (fun hF => ?_)
  · refine g_iconst (pc := 15) (v := (0 : Int32)) h dX4_isInSocks_15 (by decide) ?_
    exact g_zret (pc := 16) h hr ⟨Nat.le_refl _, Nat.le_refl _⟩ (by decide) hF dX4_isInSocks_16
  · refine g_iconst (pc := 11) (v := (1 : Int32)) h dX4_isInSocks_11 (by decide) ?_
    refine g_goto (pc := 12) (tgt := 16) h dX4_isInSocks_12 (by decide) ?_
    exact g_zret (pc := 16) h hr ⟨Nat.le_refl _, Nat.le_refl _⟩ (by decide) hF dX4_isInSocks_16
def fX4_passDay_76 (t : Nat) (x2 : Int32) (w : Wd) : Option (Int32 × Wd) :=
  lw (sI w t 6 ((gI w t 6) + (1 : Int32))) (fun w_10 => grd (x2 = 0 ∨ x2 = 1) (some (x2, w_10)))
set_option maxHeartbeats 4000000 in
theorem kX4_passDay_76 {X : Cx} (h : Ok X cX4_passDay RX4 8 0 0) (hr : RetI X .boolean 0 0) (hnL : nLX X = 4) {t : Nat} (ht : InN X t 4) : ∀ (x2 : Int32) (w : Wd), OkR X Value.int (fX4_passDay_76 t x2 w) → G X 0 0 76 [(0, .inr (.inl (some t))), (2, .inl x2)] [] w := by
  have hj : ∀ j, j < 4 → j < nLX X := fun j q => by rw [hnL]; exact q
  intro x2 w hF
  unfold fX4_passDay_76 at hF
  refine g_aload_n (pc := 76) h 0 rfl dX4_passDay_76 ?_
  refine g_dup (pc := 77) h dX4_passDay_77 rv_cat ?_
  refine g_getI (pc := 78) h fdX4_38 (inw ht) (by decide) dX4_passDay_78 ?_
  refine g_iconst (pc := 81) (v := (1 : Int32)) h dX4_passDay_81 (by decide) ?_
  refine g_iadd (pc := 82) h dX4_passDay_82 ?_
  refine g_putI (pc := 83) h fdX4_38 (inw ht) (by decide) ⟨rfl, rfl⟩ dX4_passDay_83 ?_
  refine g_w hF (fun w_10 hF => ?_)
  refine g_iload_n (pc := 86) h 1 rfl dX4_passDay_86 ?_
  obtain ⟨g_1, hF⟩ := grd_ok hF
  exact g_zret (pc := 87) h hr ⟨Nat.le_refl _, Nat.le_refl _⟩ (bz_ok g_1).1 hF dX4_passDay_87
def fX4_passDay_25 (t : Nat) (x1 : Int32) (y0 : Int32) (w : Wd) : Option (Int32 × Wd) :=
  if y0 = 0 then
    (fX4_passDay_76 t y0 w)
  else
    (bnd (fX4_pace t w) (fun x_5 w_6 => lt (if (x1 - (gI w_6 t 5)) < x_5 then (x1 - (gI w_6 t 5)) else x_5) (fun x3_7 => lw (sI w_6 t 4 (if ((gI w_6 t 4) + x3_7) < (999 : Int32) then ((gI w_6 t 4) + x3_7) else (999 : Int32))) (fun w_8 => lw (sI w_8 t 5 (if ((gI w_8 t 5) + x3_7) < (9999 : Int32) then ((gI w_8 t 5) + x3_7) else (9999 : Int32))) (fun w_9 => fX4_passDay_76 t y0 w_9)))))
set_option maxHeartbeats 4000000 in
theorem kX4_passDay_25 {X : Cx} (h : Ok X cX4_passDay RX4 8 0 0) (hr : RetI X .boolean 0 0) (hnL : nLX X = 4) {t : Nat} (ht : InN X t 4) : ∀ (x1 : Int32) (y0 : Int32) (w : Wd), OkR X Value.int (fX4_passDay_25 t x1 y0 w) → G X 0 0 25 [(0, .inr (.inl (some t))), (1, .inl x1)] [.int y0] w := by
  have hj : ∀ j, j < 4 → j < nLX X := fun j q => by rw [hnL]; exact q
  intro x1 y0 w hF
  unfold fX4_passDay_25 at hF
  refine g_istore_n (pc := 25) (lv' := [(2, .inl y0), (0, .inr (.inl (some t))), (1, .inl x1)]) h dX4_passDay_25 (hj 2 (by decide)) rfl ?_
  refine g_iload_n (pc := 26) h 0 rfl dX4_passDay_26 ?_
  refine g_if_eq (pc := 27) (tgt := 76) h dX4_passDay_27 (by decide) hF (fun hF => ?_) (fun hF => ?_)
  · refine g_lv (lv' := [(0, .inr (.inl (some t))), (2, .inl y0)]) [1, 0] rfl ?_
    exact kX4_passDay_76 h hr hnL ht _ _ hF
  · refine g_aload_n (pc := 30) h 1 rfl dX4_passDay_30 ?_
    refine g_cvI (pc := 31) (st := []) h mX4_pace cvX4_73 (inw ht) (by decide) ⟨by decide, by decide⟩ (Nat.le_of_ble_eq_true rfl) rfl rfl dX4_passDay_31 hF (fun x_5 w_6 hF => ?_)
    refine g_iload_n (pc := 34) h 2 rfl dX4_passDay_34 ?_
    refine g_aload_n (pc := 35) h 1 rfl dX4_passDay_35 ?_
    refine g_getI (pc := 36) h fdX4_37 (inw ht) (by decide) dX4_passDay_36 ?_
    refine g_isub (pc := 39) h dX4_passDay_39 ?_
    refine g_mmin (pc := 40) h wml_X4_76 (by decide) (Nat.le_of_ble_eq_true rfl) ⟨by decide, by decide⟩ dX4_passDay_40 ?_
    refine g_t hF (fun x3_7 hF => ?_)
    refine g_istore_n (pc := 43) (lv' := [(3, .inl x3_7), (2, .inl y0), (0, .inr (.inl (some t))), (1, .inl x1)]) h dX4_passDay_43 (hj 3 (by decide)) rfl ?_
    refine g_aload_n (pc := 44) h 2 rfl dX4_passDay_44 ?_
    refine g_sipush (pc := 45) (v := (999 : Int32)) h dX4_passDay_45 (by decide) ?_
    refine g_aload_n (pc := 48) h 2 rfl dX4_passDay_48 ?_
    refine g_getI (pc := 49) h fdX4_33 (inw ht) (by decide) dX4_passDay_49 ?_
    refine g_iload_n (pc := 52) h 0 rfl dX4_passDay_52 ?_
    refine g_iadd (pc := 53) h dX4_passDay_53 ?_
    refine g_mmin (pc := 54) h wml_X4_76 (by decide) (Nat.le_of_ble_eq_true rfl) ⟨by decide, by decide⟩ dX4_passDay_54 ?_
    refine g_putI (pc := 57) h fdX4_33 (inw ht) (by decide) ⟨rfl, rfl⟩ dX4_passDay_57 ?_
    refine g_w hF (fun w_8 hF => ?_)
    refine g_aload_n (pc := 60) h 2 rfl dX4_passDay_60 ?_
    refine g_sipush (pc := 61) (v := (9999 : Int32)) h dX4_passDay_61 (by decide) ?_
    refine g_aload_n (pc := 64) h 2 rfl dX4_passDay_64 ?_
    refine g_getI (pc := 65) h fdX4_37 (inw ht) (by decide) dX4_passDay_65 ?_
    refine g_iload_n (pc := 68) h 0 rfl dX4_passDay_68 ?_
    refine g_iadd (pc := 69) h dX4_passDay_69 ?_
    refine g_mmin (pc := 70) h wml_X4_76 (by decide) (Nat.le_of_ble_eq_true rfl) ⟨by decide, by decide⟩ dX4_passDay_70 ?_
    refine g_putI (pc := 73) h fdX4_37 (inw ht) (by decide) ⟨rfl, rfl⟩ dX4_passDay_73 ?_
    refine g_w hF (fun w_9 hF => ?_)
    refine g_lv (lv' := [(0, .inr (.inl (some t))), (2, .inl y0)]) [2, 1] rfl ?_
    exact kX4_passDay_76 h hr hnL ht _ _ hF
def fX4_passDay_24 (t : Nat) (x1 : Int32) (w : Wd) : Option (Int32 × Wd) :=
  fX4_passDay_25 t x1 (0 : Int32) w
set_option maxHeartbeats 4000000 in
theorem kX4_passDay_24 {X : Cx} (h : Ok X cX4_passDay RX4 8 0 0) (hr : RetI X .boolean 0 0) (hnL : nLX X = 4) {t : Nat} (ht : InN X t 4) : ∀ (x1 : Int32) (w : Wd), OkR X Value.int (fX4_passDay_24 t x1 w) → G X 0 0 24 [(0, .inr (.inl (some t))), (1, .inl x1)] [] w := by
  have hj : ∀ j, j < 4 → j < nLX X := fun j q => by rw [hnL]; exact q
  intro x1 w hF
  unfold fX4_passDay_24 at hF
  refine g_iconst (pc := 24) (v := (0 : Int32)) h dX4_passDay_24 (by decide) ?_
  exact kX4_passDay_25 h hr hnL ht _ _ _ hF
def fX4_passDay (t : Nat) (w : Wd) : Option (Int32 × Wd) :=
  bnd (fX4_lasts t w) (fun x_1 w_2 => if x_1 ≤ (gI w_2 t 5) then
    (fX4_passDay_24 t x_1 w_2)
  else
    (bnd (fX4_isStopped t w_2) (fun x_3 w_4 => if x_3 = 0 then
      (fX4_passDay_25 t x_1 (1 : Int32) w_4)
    else
      (fX4_passDay_24 t x_1 w_4))))
set_option maxHeartbeats 4000000 in
theorem mX4_passDay {Γ : En} {t : Nat} {w : Wd} (ht : t < wn w ∧ kd t = 4) : MtI Γ yX4_passDay cX4_passDay 4 (some .boolean) 8 0 0 [rv Γ (some t)] w (fX4_passDay t w) := by
  refine mtI [.inr (.inl (some t))] rfl (Nat.le_of_ble_eq_true rfl) (fun X hΓ hnL hn0 h _ hr hF => ?_)
  subst hΓ
  have ht : InN X t 4 := ⟨by rw [hn0]; exact ht.1, ht.2⟩
  have h : Ok X cX4_passDay RX4 8 0 0 := h
  have hj : ∀ j, j < 4 → j < nLX X := fun j q => by rw [hnL]; exact q
  show G X 0 0 0 [(0, .inr (.inl (some t)))] [] w
  unfold fX4_passDay at hF
  refine g_aload_n (pc := 0) h 0 rfl dX4_passDay_0 ?_
  refine g_cvI (pc := 1) (st := []) h mX4_lasts cvX4_65 (inw ht) (by decide) ⟨by decide, by decide⟩ (Nat.le_of_ble_eq_true rfl) rfl rfl dX4_passDay_1 hF (fun x_1 w_2 hF => ?_)
  refine g_istore_n (pc := 4) (lv' := [(1, .inl x_1), (0, .inr (.inl (some t)))]) h dX4_passDay_4 (hj 1 (by decide)) rfl ?_
  refine g_aload_n (pc := 5) h 1 rfl dX4_passDay_5 ?_
  refine g_getI (pc := 6) h fdX4_37 (inw ht) (by decide) dX4_passDay_6 ?_
  refine g_iload_n (pc := 9) h 0 rfl dX4_passDay_9 ?_
  refine g_icmp_ge (pc := 10) (tgt := 24) h dX4_passDay_10 (by decide) hF (fun hF => ?_) (fun hF => ?_)
  · refine g_lv (lv' := [(0, .inr (.inl (some t))), (1, .inl x_1)]) [1, 0] rfl ?_
    exact kX4_passDay_24 h hr hnL ht _ _ hF
  · refine g_aload_n (pc := 13) h 1 rfl dX4_passDay_13 ?_
    refine g_cvI (pc := 14) (st := []) h mX4_isStopped cvX4_69 (inw ht) (by decide) ⟨by decide, by decide⟩ (Nat.le_of_ble_eq_true rfl) rfl rfl dX4_passDay_14 hF (fun x_3 w_4 hF => ?_)
    refine g_if_ne (pc := 17) (tgt := 24) h dX4_passDay_17 (by decide) hF (fun hF => ?_) (fun hF => ?_)
    · refine g_lv (lv' := [(0, .inr (.inl (some t))), (1, .inl x_1)]) [1, 0] rfl ?_
      exact kX4_passDay_24 h hr hnL ht _ _ hF
    · refine g_iconst (pc := 20) (v := (1 : Int32)) h dX4_passDay_20 (by decide) ?_
      refine g_goto (pc := 21) (tgt := 25) h dX4_passDay_21 (by decide) ?_
      refine g_lv (lv' := [(0, .inr (.inl (some t))), (1, .inl x_1)]) [1, 0] rfl ?_
      exact kX4_passDay_25 h hr hnL ht _ _ _ hF
def fX4_stepBehind_29 (k2 : Int32 → Int32 → Wd → Option (Int32 × Wd)) (t : Nat) (x1 : Int32) (x2 : Int32) (w : Wd) : Option (Int32 × Wd) :=
  k2 x1 (x2 + (1 : Int32)) w
set_option maxHeartbeats 4000000 in
theorem kX4_stepBehind_29 {X : Cx} (h : Ok X cX4_stepBehind RX4 9 0 0) (hr : RetI X .int 0 0) (hnL : nLX X = 3) {t : Nat} (ht : InN X t 4) {k2 : Int32 → Int32 → Wd → Option (Int32 × Wd)} (hk2 : ∀ (x1 : Int32) (x2 : Int32) (w : Wd), OkR X Value.int (k2 x1 x2 w) → G X 0 0 2 [(0, .inr (.inl (some t))), (1, .inl x1), (2, .inl x2)] [] w) : ∀ (x1 : Int32) (x2 : Int32) (w : Wd), OkR X Value.int (fX4_stepBehind_29 k2 t x1 x2 w) → G X 0 0 29 [(0, .inr (.inl (some t))), (1, .inl x1), (2, .inl x2)] [] w := by
  have hj : ∀ j, j < 3 → j < nLX X := fun j q => by rw [hnL]; exact q
  intro x1 x2 w hF
  unfold fX4_stepBehind_29 at hF
  refine g_iinc (pc := 29) (lv' := [(2, .inl (x2 + (1 : Int32))), (0, .inr (.inl (some t))), (1, .inl x1)]) h 2 rfl dX4_stepBehind_29 (dv := (1 : Int32)) (by decide) (hj 2 (by decide)) rfl ?_
  refine g_goto (pc := 32) (tgt := 2) h dX4_stepBehind_32 (by decide) ?_
  refine g_lv (lv' := [(0, .inr (.inl (some t))), (1, .inl x1), (2, .inl (x2 + (1 : Int32)))]) [1, 2, 0] rfl ?_
  exact hk2 _ _ _ hF
def fX4_stepBehind_2 (t : Nat) : Nat → Int32 → Int32 → Wd → Option (Int32 × Wd)
  | 0 => fun _ _ _ => none
  | n + 1 => fun x1 x2 w =>
    if x1 ≤ x2 then
      (some (gI w t 4, w))
    else
      (bnd (fX4_passDay t w) (fun x_1 w_2 => if x_1 = 0 then
        (dr (gR w_2 t 7) 3 w_2 (fun a_3 => if (gI w_2 a_3 3) = 0 then
          (some (gI w_2 t 4, w_2))
        else
          (fX4_stepBehind_29 (fX4_stepBehind_2 t n) t x1 x2 w_2)))
      else
        (fX4_stepBehind_29 (fX4_stepBehind_2 t n) t x1 x2 w_2)))
set_option maxHeartbeats 4000000 in
theorem kX4_stepBehind_2 {X : Cx} (h : Ok X cX4_stepBehind RX4 9 0 0) (hr : RetI X .int 0 0) (hnL : nLX X = 3) {t : Nat} (ht : InN X t 4) : ∀ (fu : Nat) (x1 : Int32) (x2 : Int32) (w : Wd), OkR X Value.int (fX4_stepBehind_2 t fu x1 x2 w) → G X 0 0 2 [(0, .inr (.inl (some t))), (1, .inl x1), (2, .inl x2)] [] w := by
  have hj : ∀ j, j < 3 → j < nLX X := fun j q => by rw [hnL]; exact q
  intro fu
  induction fu with
  | zero => intro x1 x2 w hF; exact okN hF
  | succ fu ih =>
    intro x1 x2 w hF
    rw [fX4_stepBehind_2] at hF
    refine g_iload_n (pc := 2) h 2 rfl dX4_stepBehind_2 ?_
    refine g_iload_n (pc := 3) h 1 rfl dX4_stepBehind_3 ?_
    refine g_icmp_ge (pc := 4) (tgt := 35) h dX4_stepBehind_4 (by decide) hF (fun hF => ?_) (fun hF => ?_)
    · refine g_aload_n (pc := 35) h 0 rfl dX4_stepBehind_35 ?_
      refine g_getI (pc := 36) h fdX4_33 (inw ht) (by decide) dX4_stepBehind_36 ?_
      exact g_iret (pc := 39) h hr ⟨Nat.le_refl _, Nat.le_refl _⟩ hF dX4_stepBehind_39
    · refine g_aload_n (pc := 7) h 0 rfl dX4_stepBehind_7 ?_
      refine g_cvI (pc := 8) (st := []) h mX4_passDay cvX4_81 (inw ht) (by decide) ⟨by decide, by decide⟩ (Nat.le_of_ble_eq_true rfl) rfl rfl dX4_stepBehind_8 hF (fun x_1 w_2 hF => ?_)
      refine g_if_ne (pc := 11) (tgt := 29) h dX4_stepBehind_11 (by decide) hF (fun hF => ?_) (fun hF => ?_)
      · exact kX4_stepBehind_29 h hr hnL ht (fun z0 z1 z2 hF => ih z0 z1 z2 hF) _ _ _ hF
      · refine g_aload_n (pc := 14) h 0 rfl dX4_stepBehind_14 ?_
        refine g_getR (pc := 15) h fdX4_15 (inw ht) rfl dX4_stepBehind_15 ?_
        refine g_dr hF (fun a_3 e_a_3 h_a_3 hF => ?_)
        rw [e_a_3]
        refine g_getI (pc := 18) h fdX4_84 h_a_3 (by decide) dX4_stepBehind_18 ?_
        refine g_if_ne (pc := 21) (tgt := 29) h dX4_stepBehind_21 (by decide) hF (fun hF => ?_) (fun hF => ?_)
        · exact kX4_stepBehind_29 h hr hnL ht (fun z0 z1 z2 hF => ih z0 z1 z2 hF) _ _ _ hF
        · refine g_aload_n (pc := 24) h 0 rfl dX4_stepBehind_24 ?_
          refine g_getI (pc := 25) h fdX4_33 (inw ht) (by decide) dX4_stepBehind_25 ?_
          exact g_iret (pc := 28) h hr ⟨Nat.le_refl _, Nat.le_refl _⟩ hF dX4_stepBehind_28
def fX4_stepBehind (t : Nat) (x1 : Int32) (w : Wd) : Option (Int32 × Wd) :=
  fX4_stepBehind_2 t FU x1 (0 : Int32) w
set_option maxHeartbeats 4000000 in
theorem mX4_stepBehind {Γ : En} {t : Nat} {x1 : Int32} {w : Wd} (ht : t < wn w ∧ kd t = 4) : MtI Γ yX4_stepBehind cX4_stepBehind 3 (some .int) 9 0 0 [rv Γ (some t), .int x1] w (fX4_stepBehind t x1 w) := by
  refine mtI [.inr (.inl (some t)), .inl x1] rfl (Nat.le_of_ble_eq_true rfl) (fun X hΓ hnL hn0 h _ hr hF => ?_)
  subst hΓ
  have ht : InN X t 4 := ⟨by rw [hn0]; exact ht.1, ht.2⟩
  have h : Ok X cX4_stepBehind RX4 9 0 0 := h
  have hj : ∀ j, j < 3 → j < nLX X := fun j q => by rw [hnL]; exact q
  show G X 0 0 0 [(0, .inr (.inl (some t))), (1, .inl x1)] [] w
  unfold fX4_stepBehind at hF
  refine g_iconst (pc := 0) (v := (0 : Int32)) h dX4_stepBehind_0 (by decide) ?_
  refine g_istore_n (pc := 1) (lv' := [(2, .inl (0 : Int32)), (0, .inr (.inl (some t))), (1, .inl x1)]) h dX4_stepBehind_1 (hj 2 (by decide)) rfl ?_
  refine g_lv (lv' := [(0, .inr (.inl (some t))), (1, .inl x1), (2, .inl (0 : Int32))]) [1, 2, 0] rfl ?_
  exact kX4_stepBehind_2 h hr hnL ht _ _ _ _ hF
def fX4_wornBehind_2 (t : Nat) : Nat → Int32 → Int32 → Wd → Option (Int32 × Wd)
  | 0 => fun _ _ _ => none
  | n + 1 => fun x1 x2 w =>
    if x1 ≤ x2 then
      (some (gI w t 5, w))
    else
      (bnd (fX4_passDay t w) (fun x_1 w_2 => fX4_wornBehind_2 t n x1 (x2 + (1 : Int32)) w_2))
set_option maxHeartbeats 4000000 in
theorem kX4_wornBehind_2 {X : Cx} (h : Ok X cX4_wornBehind RX4 9 0 0) (hr : RetI X .int 0 0) (hnL : nLX X = 3) {t : Nat} (ht : InN X t 4) : ∀ (fu : Nat) (x1 : Int32) (x2 : Int32) (w : Wd), OkR X Value.int (fX4_wornBehind_2 t fu x1 x2 w) → G X 0 0 2 [(0, .inr (.inl (some t))), (1, .inl x1), (2, .inl x2)] [] w := by
  have hj : ∀ j, j < 3 → j < nLX X := fun j q => by rw [hnL]; exact q
  intro fu
  induction fu with
  | zero => intro x1 x2 w hF; exact okN hF
  | succ fu ih =>
    intro x1 x2 w hF
    rw [fX4_wornBehind_2] at hF
    refine g_iload_n (pc := 2) h 2 rfl dX4_wornBehind_2 ?_
    refine g_iload_n (pc := 3) h 1 rfl dX4_wornBehind_3 ?_
    refine g_icmp_ge (pc := 4) (tgt := 18) h dX4_wornBehind_4 (by decide) hF (fun hF => ?_) (fun hF => ?_)
    · refine g_aload_n (pc := 18) h 0 rfl dX4_wornBehind_18 ?_
      refine g_getI (pc := 19) h fdX4_37 (inw ht) (by decide) dX4_wornBehind_19 ?_
      exact g_iret (pc := 22) h hr ⟨Nat.le_refl _, Nat.le_refl _⟩ hF dX4_wornBehind_22
    · refine g_aload_n (pc := 7) h 0 rfl dX4_wornBehind_7 ?_
      refine g_cvI (pc := 8) (st := []) h mX4_passDay cvX4_81 (inw ht) (by decide) ⟨by decide, by decide⟩ (Nat.le_of_ble_eq_true rfl) rfl rfl dX4_wornBehind_8 hF (fun x_1 w_2 hF => ?_)
      refine g_pop (pc := 11) h dX4_wornBehind_11 rfl ?_
      refine g_iinc (pc := 12) (lv' := [(2, .inl (x2 + (1 : Int32))), (0, .inr (.inl (some t))), (1, .inl x1)]) h 2 rfl dX4_wornBehind_12 (dv := (1 : Int32)) (by decide) (hj 2 (by decide)) rfl ?_
      refine g_goto (pc := 15) (tgt := 2) h dX4_wornBehind_15 (by decide) ?_
      refine g_lv (lv' := [(0, .inr (.inl (some t))), (1, .inl x1), (2, .inl (x2 + (1 : Int32)))]) [1, 2, 0] rfl ?_
      exact ih _ _ _ hF
def fX4_wornBehind (t : Nat) (x1 : Int32) (w : Wd) : Option (Int32 × Wd) :=
  fX4_wornBehind_2 t FU x1 (0 : Int32) w
set_option maxHeartbeats 4000000 in
theorem mX4_wornBehind {Γ : En} {t : Nat} {x1 : Int32} {w : Wd} (ht : t < wn w ∧ kd t = 4) : MtI Γ yX4_wornBehind cX4_wornBehind 3 (some .int) 9 0 0 [rv Γ (some t), .int x1] w (fX4_wornBehind t x1 w) := by
  refine mtI [.inr (.inl (some t)), .inl x1] rfl (Nat.le_of_ble_eq_true rfl) (fun X hΓ hnL hn0 h _ hr hF => ?_)
  subst hΓ
  have ht : InN X t 4 := ⟨by rw [hn0]; exact ht.1, ht.2⟩
  have h : Ok X cX4_wornBehind RX4 9 0 0 := h
  have hj : ∀ j, j < 3 → j < nLX X := fun j q => by rw [hnL]; exact q
  show G X 0 0 0 [(0, .inr (.inl (some t))), (1, .inl x1)] [] w
  unfold fX4_wornBehind at hF
  refine g_iconst (pc := 0) (v := (0 : Int32)) h dX4_wornBehind_0 (by decide) ?_
  refine g_istore_n (pc := 1) (lv' := [(2, .inl (0 : Int32)), (0, .inr (.inl (some t))), (1, .inl x1)]) h dX4_wornBehind_1 (hj 2 (by decide)) rfl ?_
  refine g_lv (lv' := [(0, .inr (.inl (some t))), (1, .inl x1), (2, .inl (0 : Int32))]) [1, 2, 0] rfl ?_
  exact kX4_wornBehind_2 h hr hnL ht _ _ _ _ hF
def fX4_firstInSocks_2 (t : Nat) : Nat → Int32 → Int32 → Wd → Option (Int32 × Wd)
  | 0 => fun _ _ _ => none
  | n + 1 => fun x1 x2 w =>
    if x1 ≤ x2 then
      (some ((-1 : Int32), w))
    else
      (bnd (fX4_passDay t w) (fun x_1 w_2 => bnd (fX4_isInSocks t w_2) (fun x_3 w_4 => if x_3 = 0 then
        (fX4_firstInSocks_2 t n x1 (x2 + (1 : Int32)) w_4)
      else
        (some (x2, w_4)))))
set_option maxHeartbeats 4000000 in
theorem kX4_firstInSocks_2 {X : Cx} (h : Ok X cX4_firstInSocks RX4 9 0 0) (hr : RetI X .int 0 0) (hnL : nLX X = 3) {t : Nat} (ht : InN X t 4) : ∀ (fu : Nat) (x1 : Int32) (x2 : Int32) (w : Wd), OkR X Value.int (fX4_firstInSocks_2 t fu x1 x2 w) → G X 0 0 2 [(0, .inr (.inl (some t))), (1, .inl x1), (2, .inl x2)] [] w := by
  have hj : ∀ j, j < 3 → j < nLX X := fun j q => by rw [hnL]; exact q
  intro fu
  induction fu with
  | zero => intro x1 x2 w hF; exact okN hF
  | succ fu ih =>
    intro x1 x2 w hF
    rw [fX4_firstInSocks_2] at hF
    refine g_iload_n (pc := 2) h 2 rfl dX4_firstInSocks_2 ?_
    refine g_iload_n (pc := 3) h 1 rfl dX4_firstInSocks_3 ?_
    refine g_icmp_ge (pc := 4) (tgt := 27) h dX4_firstInSocks_4 (by decide) hF (fun hF => ?_) (fun hF => ?_)
    · refine g_iconst (pc := 27) (v := (-1 : Int32)) h dX4_firstInSocks_27 (by decide) ?_
      exact g_iret (pc := 28) h hr ⟨Nat.le_refl _, Nat.le_refl _⟩ hF dX4_firstInSocks_28
    · refine g_aload_n (pc := 7) h 0 rfl dX4_firstInSocks_7 ?_
      refine g_cvI (pc := 8) (st := []) h mX4_passDay cvX4_81 (inw ht) (by decide) ⟨by decide, by decide⟩ (Nat.le_of_ble_eq_true rfl) rfl rfl dX4_firstInSocks_8 hF (fun x_1 w_2 hF => ?_)
      refine g_pop (pc := 11) h dX4_firstInSocks_11 rfl ?_
      refine g_aload_n (pc := 12) h 0 rfl dX4_firstInSocks_12 ?_
      refine g_cvI (pc := 13) (st := []) h mX4_isInSocks cvX4_90 (inw ht) (by decide) ⟨by decide, by decide⟩ (Nat.le_of_ble_eq_true rfl) rfl rfl dX4_firstInSocks_13 hF (fun x_3 w_4 hF => ?_)
      refine g_if_eq (pc := 16) (tgt := 21) h dX4_firstInSocks_16 (by decide) hF (fun hF => ?_) (fun hF => ?_)
      · refine g_iinc (pc := 21) (lv' := [(2, .inl (x2 + (1 : Int32))), (0, .inr (.inl (some t))), (1, .inl x1)]) h 2 rfl dX4_firstInSocks_21 (dv := (1 : Int32)) (by decide) (hj 2 (by decide)) rfl ?_
        refine g_goto (pc := 24) (tgt := 2) h dX4_firstInSocks_24 (by decide) ?_
        refine g_lv (lv' := [(0, .inr (.inl (some t))), (1, .inl x1), (2, .inl (x2 + (1 : Int32)))]) [1, 2, 0] rfl ?_
        exact ih _ _ _ hF
      · refine g_iload_n (pc := 19) h 2 rfl dX4_firstInSocks_19 ?_
        exact g_iret (pc := 20) h hr ⟨Nat.le_refl _, Nat.le_refl _⟩ hF dX4_firstInSocks_20
def fX4_firstInSocks (t : Nat) (x1 : Int32) (w : Wd) : Option (Int32 × Wd) :=
  fX4_firstInSocks_2 t FU x1 (0 : Int32) w
set_option maxHeartbeats 4000000 in
theorem mX4_firstInSocks {Γ : En} {t : Nat} {x1 : Int32} {w : Wd} (ht : t < wn w ∧ kd t = 4) : MtI Γ yX4_firstInSocks cX4_firstInSocks 3 (some .int) 9 0 0 [rv Γ (some t), .int x1] w (fX4_firstInSocks t x1 w) := by
  refine mtI [.inr (.inl (some t)), .inl x1] rfl (Nat.le_of_ble_eq_true rfl) (fun X hΓ hnL hn0 h _ hr hF => ?_)
  subst hΓ
  have ht : InN X t 4 := ⟨by rw [hn0]; exact ht.1, ht.2⟩
  have h : Ok X cX4_firstInSocks RX4 9 0 0 := h
  have hj : ∀ j, j < 3 → j < nLX X := fun j q => by rw [hnL]; exact q
  show G X 0 0 0 [(0, .inr (.inl (some t))), (1, .inl x1)] [] w
  unfold fX4_firstInSocks at hF
  refine g_iconst (pc := 0) (v := (0 : Int32)) h dX4_firstInSocks_0 (by decide) ?_
  refine g_istore_n (pc := 1) (lv' := [(2, .inl (0 : Int32)), (0, .inr (.inl (some t))), (1, .inl x1)]) h dX4_firstInSocks_1 (hj 2 (by decide)) rfl ?_
  refine g_lv (lv' := [(0, .inr (.inl (some t))), (1, .inl x1), (2, .inl (0 : Int32))]) [1, 2, 0] rfl ?_
  exact kX4_firstInSocks_2 h hr hnL ht _ _ _ _ hF
def fX4_firstStay_2 (t : Nat) : Nat → Int32 → Int32 → Wd → Option (Int32 × Wd)
  | 0 => fun _ _ _ => none
  | n + 1 => fun x1 x2 w =>
    if x1 ≤ x2 then
      (some ((-1 : Int32), w))
    else
      (bnd (fX4_passDay t w) (fun x_1 w_2 => if x_1 = 0 then
        (some (x2, w_2))
      else
        (fX4_firstStay_2 t n x1 (x2 + (1 : Int32)) w_2)))
set_option maxHeartbeats 4000000 in
theorem kX4_firstStay_2 {X : Cx} (h : Ok X cX4_firstStay RX4 9 0 0) (hr : RetI X .int 0 0) (hnL : nLX X = 3) {t : Nat} (ht : InN X t 4) : ∀ (fu : Nat) (x1 : Int32) (x2 : Int32) (w : Wd), OkR X Value.int (fX4_firstStay_2 t fu x1 x2 w) → G X 0 0 2 [(0, .inr (.inl (some t))), (1, .inl x1), (2, .inl x2)] [] w := by
  have hj : ∀ j, j < 3 → j < nLX X := fun j q => by rw [hnL]; exact q
  intro fu
  induction fu with
  | zero => intro x1 x2 w hF; exact okN hF
  | succ fu ih =>
    intro x1 x2 w hF
    rw [fX4_firstStay_2] at hF
    refine g_iload_n (pc := 2) h 2 rfl dX4_firstStay_2 ?_
    refine g_iload_n (pc := 3) h 1 rfl dX4_firstStay_3 ?_
    refine g_icmp_ge (pc := 4) (tgt := 22) h dX4_firstStay_4 (by decide) hF (fun hF => ?_) (fun hF => ?_)
    · refine g_iconst (pc := 22) (v := (-1 : Int32)) h dX4_firstStay_22 (by decide) ?_
      exact g_iret (pc := 23) h hr ⟨Nat.le_refl _, Nat.le_refl _⟩ hF dX4_firstStay_23
    · refine g_aload_n (pc := 7) h 0 rfl dX4_firstStay_7 ?_
      refine g_cvI (pc := 8) (st := []) h mX4_passDay cvX4_81 (inw ht) (by decide) ⟨by decide, by decide⟩ (Nat.le_of_ble_eq_true rfl) rfl rfl dX4_firstStay_8 hF (fun x_1 w_2 hF => ?_)
      refine g_if_ne (pc := 11) (tgt := 16) h dX4_firstStay_11 (by decide) hF (fun hF => ?_) (fun hF => ?_)
      · refine g_iinc (pc := 16) (lv' := [(2, .inl (x2 + (1 : Int32))), (0, .inr (.inl (some t))), (1, .inl x1)]) h 2 rfl dX4_firstStay_16 (dv := (1 : Int32)) (by decide) (hj 2 (by decide)) rfl ?_
        refine g_goto (pc := 19) (tgt := 2) h dX4_firstStay_19 (by decide) ?_
        refine g_lv (lv' := [(0, .inr (.inl (some t))), (1, .inl x1), (2, .inl (x2 + (1 : Int32)))]) [1, 2, 0] rfl ?_
        exact ih _ _ _ hF
      · refine g_iload_n (pc := 14) h 2 rfl dX4_firstStay_14 ?_
        exact g_iret (pc := 15) h hr ⟨Nat.le_refl _, Nat.le_refl _⟩ hF dX4_firstStay_15
def fX4_firstStay (t : Nat) (x1 : Int32) (w : Wd) : Option (Int32 × Wd) :=
  fX4_firstStay_2 t FU x1 (0 : Int32) w
set_option maxHeartbeats 4000000 in
theorem mX4_firstStay {Γ : En} {t : Nat} {x1 : Int32} {w : Wd} (ht : t < wn w ∧ kd t = 4) : MtI Γ yX4_firstStay cX4_firstStay 3 (some .int) 9 0 0 [rv Γ (some t), .int x1] w (fX4_firstStay t x1 w) := by
  refine mtI [.inr (.inl (some t)), .inl x1] rfl (Nat.le_of_ble_eq_true rfl) (fun X hΓ hnL hn0 h _ hr hF => ?_)
  subst hΓ
  have ht : InN X t 4 := ⟨by rw [hn0]; exact ht.1, ht.2⟩
  have h : Ok X cX4_firstStay RX4 9 0 0 := h
  have hj : ∀ j, j < 3 → j < nLX X := fun j q => by rw [hnL]; exact q
  show G X 0 0 0 [(0, .inr (.inl (some t))), (1, .inl x1)] [] w
  unfold fX4_firstStay at hF
  refine g_iconst (pc := 0) (v := (0 : Int32)) h dX4_firstStay_0 (by decide) ?_
  refine g_istore_n (pc := 1) (lv' := [(2, .inl (0 : Int32)), (0, .inr (.inl (some t))), (1, .inl x1)]) h dX4_firstStay_1 (hj 2 (by decide)) rfl ?_
  refine g_lv (lv' := [(0, .inr (.inl (some t))), (1, .inl x1), (2, .inl (0 : Int32))]) [1, 2, 0] rfl ?_
  exact kX4_firstStay_2 h hr hnL ht _ _ _ _ hF
def fX4_isHeldUp_2 (t : Nat) : Nat → Int32 → Int32 → Wd → Option (Int32 × Wd)
  | 0 => fun _ _ _ => none
  | n + 1 => fun x1 x2 w =>
    if x1 ≤ x2 then
      (some ((0 : Int32), w))
    else
      (bnd (fX4_passDay t w) (fun x_1 w_2 => if x_1 = 0 then
        (some ((1 : Int32), w_2))
      else
        (bnd (fX4_isInSocks t w_2) (fun x_3 w_4 => if x_3 = 0 then
          (fX4_isHeldUp_2 t n x1 (x2 + (1 : Int32)) w_4)
        else
          (some ((1 : Int32), w_4))))))
set_option maxHeartbeats 4000000 in
theorem kX4_isHeldUp_2 {X : Cx} (h : Ok X cX4_isHeldUp RX4 9 0 0) (hr : RetI X .boolean 0 0) (hnL : nLX X = 3) {t : Nat} (ht : InN X t 4) : ∀ (fu : Nat) (x1 : Int32) (x2 : Int32) (w : Wd), OkR X Value.int (fX4_isHeldUp_2 t fu x1 x2 w) → G X 0 0 2 [(0, .inr (.inl (some t))), (1, .inl x1), (2, .inl x2)] [] w := by
  have hj : ∀ j, j < 3 → j < nLX X := fun j q => by rw [hnL]; exact q
  intro fu
  induction fu with
  | zero => intro x1 x2 w hF; exact okN hF
  | succ fu ih =>
    intro x1 x2 w hF
    rw [fX4_isHeldUp_2] at hF
    refine g_iload_n (pc := 2) h 2 rfl dX4_isHeldUp_2 ?_
    refine g_iload_n (pc := 3) h 1 rfl dX4_isHeldUp_3 ?_
    refine g_icmp_ge (pc := 4) (tgt := 29) h dX4_isHeldUp_4 (by decide) hF (fun hF => ?_) (fun hF => ?_)
    · refine g_iconst (pc := 29) (v := (0 : Int32)) h dX4_isHeldUp_29 (by decide) ?_
      exact g_zret (pc := 30) h hr ⟨Nat.le_refl _, Nat.le_refl _⟩ (by decide) hF dX4_isHeldUp_30
    · refine g_aload_n (pc := 7) h 0 rfl dX4_isHeldUp_7 ?_
      refine g_cvI (pc := 8) (st := []) h mX4_passDay cvX4_81 (inw ht) (by decide) ⟨by decide, by decide⟩ (Nat.le_of_ble_eq_true rfl) rfl rfl dX4_isHeldUp_8 hF (fun x_1 w_2 hF => ?_)
      refine g_if_eq (pc := 11) (tgt := 21) h dX4_isHeldUp_11 (by decide) hF (fun hF => ?_) (fun hF => ?_)
      · refine g_iconst (pc := 21) (v := (1 : Int32)) h dX4_isHeldUp_21 (by decide) ?_
        exact g_zret (pc := 22) h hr ⟨Nat.le_refl _, Nat.le_refl _⟩ (by decide) hF dX4_isHeldUp_22
      · refine g_aload_n (pc := 14) h 0 rfl dX4_isHeldUp_14 ?_
        refine g_cvI (pc := 15) (st := []) h mX4_isInSocks cvX4_90 (inw ht) (by decide) ⟨by decide, by decide⟩ (Nat.le_of_ble_eq_true rfl) rfl rfl dX4_isHeldUp_15 hF (fun x_3 w_4 hF => ?_)
        refine g_if_eq (pc := 18) (tgt := 23) h dX4_isHeldUp_18 (by decide) hF (fun hF => ?_) (fun hF => ?_)
        · refine g_iinc (pc := 23) (lv' := [(2, .inl (x2 + (1 : Int32))), (0, .inr (.inl (some t))), (1, .inl x1)]) h 2 rfl dX4_isHeldUp_23 (dv := (1 : Int32)) (by decide) (hj 2 (by decide)) rfl ?_
          refine g_goto (pc := 26) (tgt := 2) h dX4_isHeldUp_26 (by decide) ?_
          refine g_lv (lv' := [(0, .inr (.inl (some t))), (1, .inl x1), (2, .inl (x2 + (1 : Int32)))]) [1, 2, 0] rfl ?_
          exact ih _ _ _ hF
        · refine g_iconst (pc := 21) (v := (1 : Int32)) h dX4_isHeldUp_21 (by decide) ?_
          exact g_zret (pc := 22) h hr ⟨Nat.le_refl _, Nat.le_refl _⟩ (by decide) hF dX4_isHeldUp_22
def fX4_isHeldUp (t : Nat) (x1 : Int32) (w : Wd) : Option (Int32 × Wd) :=
  fX4_isHeldUp_2 t FU x1 (0 : Int32) w
set_option maxHeartbeats 4000000 in
theorem mX4_isHeldUp {Γ : En} {t : Nat} {x1 : Int32} {w : Wd} (ht : t < wn w ∧ kd t = 4) : MtI Γ yX4_isHeldUp cX4_isHeldUp 3 (some .boolean) 9 0 0 [rv Γ (some t), .int x1] w (fX4_isHeldUp t x1 w) := by
  refine mtI [.inr (.inl (some t)), .inl x1] rfl (Nat.le_of_ble_eq_true rfl) (fun X hΓ hnL hn0 h _ hr hF => ?_)
  subst hΓ
  have ht : InN X t 4 := ⟨by rw [hn0]; exact ht.1, ht.2⟩
  have h : Ok X cX4_isHeldUp RX4 9 0 0 := h
  have hj : ∀ j, j < 3 → j < nLX X := fun j q => by rw [hnL]; exact q
  show G X 0 0 0 [(0, .inr (.inl (some t))), (1, .inl x1)] [] w
  unfold fX4_isHeldUp at hF
  refine g_iconst (pc := 0) (v := (0 : Int32)) h dX4_isHeldUp_0 (by decide) ?_
  refine g_istore_n (pc := 1) (lv' := [(2, .inl (0 : Int32)), (0, .inr (.inl (some t))), (1, .inl x1)]) h dX4_isHeldUp_1 (hj 2 (by decide)) rfl ?_
  refine g_lv (lv' := [(0, .inr (.inl (some t))), (1, .inl x1), (2, .inl (0 : Int32))]) [1, 2, 0] rfl ?_
  exact kX4_isHeldUp_2 h hr hnL ht _ _ _ _ hF
def fX4_daysTill_2 (t : Nat) : Nat → Int32 → Int32 → Wd → Option (Int32 × Wd)
  | 0 => fun _ _ _ => none
  | n + 1 => fun x1 x2 w =>
    if (40 : Int32) < x2 then
      (some ((-1 : Int32), w))
    else
      (if (gI w t 4) < x1 then
        (bnd (fX4_passDay t w) (fun x_1 w_2 => fX4_daysTill_2 t n x1 (x2 + (1 : Int32)) w_2))
      else
        (some (x2, w)))
set_option maxHeartbeats 4000000 in
theorem kX4_daysTill_2 {X : Cx} (h : Ok X cX4_daysTill RX4 9 0 0) (hr : RetI X .int 0 0) (hnL : nLX X = 3) {t : Nat} (ht : InN X t 4) : ∀ (fu : Nat) (x1 : Int32) (x2 : Int32) (w : Wd), OkR X Value.int (fX4_daysTill_2 t fu x1 x2 w) → G X 0 0 2 [(0, .inr (.inl (some t))), (1, .inl x1), (2, .inl x2)] [] w := by
  have hj : ∀ j, j < 3 → j < nLX X := fun j q => by rw [hnL]; exact q
  intro fu
  induction fu with
  | zero => intro x1 x2 w hF; exact okN hF
  | succ fu ih =>
    intro x1 x2 w hF
    rw [fX4_daysTill_2] at hF
    refine g_iload_n (pc := 2) h 2 rfl dX4_daysTill_2 ?_
    refine g_bipush (pc := 3) (v := (40 : Int32)) h dX4_daysTill_3 (by decide) ?_
    refine g_icmp_gt (pc := 5) (tgt := 29) h dX4_daysTill_5 (by decide) hF (fun hF => ?_) (fun hF => ?_)
    · refine g_iconst (pc := 29) (v := (-1 : Int32)) h dX4_daysTill_29 (by decide) ?_
      exact g_iret (pc := 30) h hr ⟨Nat.le_refl _, Nat.le_refl _⟩ hF dX4_daysTill_30
    · refine g_aload_n (pc := 8) h 0 rfl dX4_daysTill_8 ?_
      refine g_getI (pc := 9) h fdX4_33 (inw ht) (by decide) dX4_daysTill_9 ?_
      refine g_iload_n (pc := 12) h 1 rfl dX4_daysTill_12 ?_
      refine g_icmp_lt (pc := 13) (tgt := 18) h dX4_daysTill_13 (by decide) hF (fun hF => ?_) (fun hF => ?_)
      · refine g_aload_n (pc := 18) h 0 rfl dX4_daysTill_18 ?_
        refine g_cvI (pc := 19) (st := []) h mX4_passDay cvX4_81 (inw ht) (by decide) ⟨by decide, by decide⟩ (Nat.le_of_ble_eq_true rfl) rfl rfl dX4_daysTill_19 hF (fun x_1 w_2 hF => ?_)
        refine g_pop (pc := 22) h dX4_daysTill_22 rfl ?_
        refine g_iinc (pc := 23) (lv' := [(2, .inl (x2 + (1 : Int32))), (0, .inr (.inl (some t))), (1, .inl x1)]) h 2 rfl dX4_daysTill_23 (dv := (1 : Int32)) (by decide) (hj 2 (by decide)) rfl ?_
        refine g_goto (pc := 26) (tgt := 2) h dX4_daysTill_26 (by decide) ?_
        refine g_lv (lv' := [(0, .inr (.inl (some t))), (1, .inl x1), (2, .inl (x2 + (1 : Int32)))]) [1, 2, 0] rfl ?_
        exact ih _ _ _ hF
      · refine g_iload_n (pc := 16) h 2 rfl dX4_daysTill_16 ?_
        exact g_iret (pc := 17) h hr ⟨Nat.le_refl _, Nat.le_refl _⟩ hF dX4_daysTill_17
def fX4_daysTill (t : Nat) (x1 : Int32) (w : Wd) : Option (Int32 × Wd) :=
  fX4_daysTill_2 t FU x1 (0 : Int32) w
set_option maxHeartbeats 4000000 in
theorem mX4_daysTill {Γ : En} {t : Nat} {x1 : Int32} {w : Wd} (ht : t < wn w ∧ kd t = 4) : MtI Γ yX4_daysTill cX4_daysTill 3 (some .int) 9 0 0 [rv Γ (some t), .int x1] w (fX4_daysTill t x1 w) := by
  refine mtI [.inr (.inl (some t)), .inl x1] rfl (Nat.le_of_ble_eq_true rfl) (fun X hΓ hnL hn0 h _ hr hF => ?_)
  subst hΓ
  have ht : InN X t 4 := ⟨by rw [hn0]; exact ht.1, ht.2⟩
  have h : Ok X cX4_daysTill RX4 9 0 0 := h
  have hj : ∀ j, j < 3 → j < nLX X := fun j q => by rw [hnL]; exact q
  show G X 0 0 0 [(0, .inr (.inl (some t))), (1, .inl x1)] [] w
  unfold fX4_daysTill at hF
  refine g_iconst (pc := 0) (v := (0 : Int32)) h dX4_daysTill_0 (by decide) ?_
  refine g_istore_n (pc := 1) (lv' := [(2, .inl (0 : Int32)), (0, .inr (.inl (some t))), (1, .inl x1)]) h dX4_daysTill_1 (hj 2 (by decide)) rfl ?_
  refine g_lv (lv' := [(0, .inr (.inl (some t))), (1, .inl x1), (2, .inl (0 : Int32))]) [1, 2, 0] rfl ?_
  exact kX4_daysTill_2 h hr hnL ht _ _ _ _ hF
def fX4_firstOtherwise_15 (t : Nat) : Nat → Option Nat → Int32 → Int32 → Wd → Option (Int32 × Wd)
  | 0 => fun _ _ _ _ => none
  | n + 1 => fun r1 x2 x3 w =>
    if x2 ≤ x3 then
      (some ((-1 : Int32), w))
    else
      (bnd (fX4_passDay t w) (fun x_4 w_5 => dr r1 2 w_5 (fun a_6 => dr (gR w_5 a_6 0) 8 w_5 (fun a_7 => grd (vin x3 (ln a_7)) (if (gI w_5 t 4) = (gI w_5 a_7 x3.toNatClampNeg) then
        (fX4_firstOtherwise_15 t n (some a_6) x2 (x3 + (1 : Int32)) w_5)
      else
        (some (x3, w_5)))))))
set_option maxHeartbeats 4000000 in
theorem kX4_firstOtherwise_15 {X : Cx} (h : Ok X cX4_firstOtherwise RX4 9 0 0) (hr : RetI X .int 0 0) (hnL : nLX X = 4) {t : Nat} (ht : InN X t 4) : ∀ (fu : Nat) (r1 : Option Nat) (x2 : Int32) (x3 : Int32) (w : Wd), OkR X Value.int (fX4_firstOtherwise_15 t fu r1 x2 x3 w) → G X 0 0 15 [(0, .inr (.inl (some t))), (1, .inr (.inl r1)), (2, .inl x2), (3, .inl x3)] [] w := by
  have hj : ∀ j, j < 4 → j < nLX X := fun j q => by rw [hnL]; exact q
  intro fu
  induction fu with
  | zero => intro r1 x2 x3 w hF; exact okN hF
  | succ fu ih =>
    intro r1 x2 x3 w hF
    rw [fX4_firstOtherwise_15] at hF
    refine g_iload_n (pc := 15) h 3 rfl dX4_firstOtherwise_15 ?_
    refine g_iload_n (pc := 16) h 2 rfl dX4_firstOtherwise_16 ?_
    refine g_icmp_ge (pc := 17) (tgt := 46) h dX4_firstOtherwise_17 (by decide) hF (fun hF => ?_) (fun hF => ?_)
    · refine g_iconst (pc := 46) (v := (-1 : Int32)) h dX4_firstOtherwise_46 (by decide) ?_
      exact g_iret (pc := 47) h hr ⟨Nat.le_refl _, Nat.le_refl _⟩ hF dX4_firstOtherwise_47
    · refine g_aload_n (pc := 20) h 0 rfl dX4_firstOtherwise_20 ?_
      refine g_cvI (pc := 21) (st := []) h mX4_passDay cvX4_81 (inw ht) (by decide) ⟨by decide, by decide⟩ (Nat.le_of_ble_eq_true rfl) rfl rfl dX4_firstOtherwise_21 hF (fun x_4 w_5 hF => ?_)
      refine g_pop (pc := 24) h dX4_firstOtherwise_24 rfl ?_
      refine g_aload_n (pc := 25) h 0 rfl dX4_firstOtherwise_25 ?_
      refine g_getI (pc := 26) h fdX4_33 (inw ht) (by decide) dX4_firstOtherwise_26 ?_
      refine g_aload_n (pc := 29) h 1 rfl dX4_firstOtherwise_29 ?_
      refine g_dr hF (fun a_6 e_a_6 h_a_6 hF => ?_)
      rw [e_a_6]
      refine g_getR (pc := 30) h fdX4_98 h_a_6 rfl dX4_firstOtherwise_30 ?_
      refine g_iload_n (pc := 33) h 3 rfl dX4_firstOtherwise_33 ?_
      refine g_dr hF (fun a_7 e_a_7 h_a_7 hF => ?_)
      rw [e_a_7]
      obtain ⟨g_1, hF⟩ := grd_ok hF
      refine g_iald (pc := 34) h h_a_7 g_1 dX4_firstOtherwise_34 ?_
      refine g_icmp_eq (pc := 35) (tgt := 40) h dX4_firstOtherwise_35 (by decide) hF (fun hF => ?_) (fun hF => ?_)
      · refine g_iinc (pc := 40) (lv' := [(3, .inl (x3 + (1 : Int32))), (0, .inr (.inl (some t))), (1, .inr (.inl (some a_6))), (2, .inl x2)]) h 3 rfl dX4_firstOtherwise_40 (dv := (1 : Int32)) (by decide) (hj 3 (by decide)) rfl ?_
        refine g_goto (pc := 43) (tgt := 15) h dX4_firstOtherwise_43 (by decide) ?_
        refine g_lv (lv' := [(0, .inr (.inl (some t))), (1, .inr (.inl (some a_6))), (2, .inl x2), (3, .inl (x3 + (1 : Int32)))]) [1, 2, 3, 0] rfl ?_
        exact ih _ _ _ _ hF
      · refine g_iload_n (pc := 38) h 3 rfl dX4_firstOtherwise_38 ?_
        exact g_iret (pc := 39) h hr ⟨Nat.le_refl _, Nat.le_refl _⟩ hF dX4_firstOtherwise_39
def fX4_firstOtherwise (t : Nat) (r1 : Option Nat) (w : Wd) : Option (Int32 × Wd) :=
  dr r1 2 w (fun a_1 => dr (gR w a_1 0) 8 w (fun a_2 => lt (if (Int32.ofNat (ln a_2)) < (gI w a_1 2) then (Int32.ofNat (ln a_2)) else (gI w a_1 2)) (fun x2_3 => fX4_firstOtherwise_15 t FU (some a_1) x2_3 (0 : Int32) w)))
set_option maxHeartbeats 4000000 in
theorem mX4_firstOtherwise {Γ : En} {t : Nat} {r1 : Option Nat} {w : Wd} (ht : t < wn w ∧ kd t = 4) : MtI Γ yX4_firstOtherwise cX4_firstOtherwise 4 (some .int) 9 0 0 [rv Γ (some t), rv Γ r1] w (fX4_firstOtherwise t r1 w) := by
  refine mtI [.inr (.inl (some t)), .inr (.inl r1)] rfl (Nat.le_of_ble_eq_true rfl) (fun X hΓ hnL hn0 h _ hr hF => ?_)
  subst hΓ
  have ht : InN X t 4 := ⟨by rw [hn0]; exact ht.1, ht.2⟩
  have h : Ok X cX4_firstOtherwise RX4 9 0 0 := h
  have hj : ∀ j, j < 4 → j < nLX X := fun j q => by rw [hnL]; exact q
  show G X 0 0 0 [(0, .inr (.inl (some t))), (1, .inr (.inl r1))] [] w
  unfold fX4_firstOtherwise at hF
  refine g_aload_n (pc := 0) h 1 rfl dX4_firstOtherwise_0 ?_
  refine g_dr hF (fun a_1 e_a_1 h_a_1 hF => ?_)
  rw [e_a_1]
  refine g_getI (pc := 1) h fdX4_93 h_a_1 (by decide) dX4_firstOtherwise_1 ?_
  refine g_aload_n (pc := 4) h 1 rfl dX4_firstOtherwise_4 ?_
  refine g_getR (pc := 5) h fdX4_98 h_a_1 rfl dX4_firstOtherwise_5 ?_
  refine g_dr hF (fun a_2 e_a_2 h_a_2 hF => ?_)
  rw [e_a_2]
  refine g_alen (pc := 8) h h_a_2 rfl dX4_firstOtherwise_8 ?_
  refine g_mmin (pc := 9) h wml_X4_76 (by decide) (Nat.le_of_ble_eq_true rfl) ⟨by decide, by decide⟩ dX4_firstOtherwise_9 ?_
  refine g_t hF (fun x2_3 hF => ?_)
  refine g_istore_n (pc := 12) (lv' := [(2, .inl x2_3), (0, .inr (.inl (some t))), (1, .inr (.inl (some a_1)))]) h dX4_firstOtherwise_12 (hj 2 (by decide)) rfl ?_
  refine g_iconst (pc := 13) (v := (0 : Int32)) h dX4_firstOtherwise_13 (by decide) ?_
  refine g_istore_n (pc := 14) (lv' := [(3, .inl (0 : Int32)), (2, .inl x2_3), (0, .inr (.inl (some t))), (1, .inr (.inl (some a_1)))]) h dX4_firstOtherwise_14 (hj 3 (by decide)) rfl ?_
  refine g_lv (lv' := [(0, .inr (.inl (some t))), (1, .inr (.inl (some a_1))), (2, .inl x2_3), (3, .inl (0 : Int32))]) [2, 3, 1, 0] rfl ?_
  exact kX4_firstOtherwise_15 h hr hnL ht _ _ _ _ _ hF
