theorem fdX7_20 : FdOk RX7 20 7 5 (.array .int) true := ⟨RX7, TX7, 46, tyX7, rfl, inX7, by decide, rfl, by decide, rfl, wfl_X7_20, tyX7_ok, nmX7, rfl, rfl⟩
theorem fdX7_23 : FdOk RX7 23 7 8 (.array .int) true := ⟨RX7, TX7, 46, tyX7, rfl, inX7, by decide, rfl, by decide, rfl, wfl_X7_23, tyX7_ok, nmX7, rfl, rfl⟩
theorem fdX7_26 : FdOk RX7 26 7 9 (.array .int) true := ⟨RX7, TX7, 46, tyX7, rfl, inX7, by decide, rfl, by decide, rfl, wfl_X7_26, tyX7_ok, nmX7, rfl, rfl⟩
theorem fdX7_29 : FdOk RX7 29 7 10 (.array .int) true := ⟨RX7, TX7, 46, tyX7, rfl, inX7, by decide, rfl, by decide, rfl, wfl_X7_29, tyX7_ok, nmX7, rfl, rfl⟩
theorem fdX7_32 : FdOk RX7 32 7 36 (.array .int) true := ⟨RX7, TX7, 46, tyX7, rfl, inX7, by decide, rfl, by decide, rfl, wfl_X7_32, tyX7_ok, nmX7, rfl, rfl⟩
theorem fdX7_35 : FdOk RX7 35 7 37 (.array .int) true := ⟨RX7, TX7, 46, tyX7, rfl, inX7, by decide, rfl, by decide, rfl, wfl_X7_35, tyX7_ok, nmX7, rfl, rfl⟩
theorem fdX7_38 : FdOk RX7 38 7 38 (.array .int) true := ⟨RX7, TX7, 46, tyX7, rfl, inX7, by decide, rfl, by decide, rfl, wfl_X7_38, tyX7_ok, nmX7, rfl, rfl⟩
theorem fdX7_41 : FdOk RX7 41 7 39 .int false := ⟨RX7, TX7, 46, tyX7, rfl, inX7, by decide, rfl, by decide, rfl, wfl_X7_41, tyX7_ok, nmX7, rfl, rfl⟩
theorem fdX7_44 : FdOk RX7 44 7 42 (.array .boolean) true := ⟨RX7, TX7, 46, tyX7, rfl, inX7, by decide, rfl, by decide, rfl, wfl_X7_44, tyX7_ok, nmX7, rfl, rfl⟩
theorem fdX7_48 : FdOk RX7 48 7 43 (.array .int) true := ⟨RX7, TX7, 46, tyX7, rfl, inX7, by decide, rfl, by decide, rfl, wfl_X7_48, tyX7_ok, nmX7, rfl, rfl⟩
theorem fdX7_51 : FdOk RX7 51 7 44 (.array .int) true := ⟨RX7, TX7, 46, tyX7, rfl, inX7, by decide, rfl, by decide, rfl, wfl_X7_51, tyX7_ok, nmX7, rfl, rfl⟩
theorem fdX7_54 : FdOk RX7 54 7 45 (.array .int) true := ⟨RX7, TX7, 46, tyX7, rfl, inX7, by decide, rfl, by decide, rfl, wfl_X7_54, tyX7_ok, nmX7, rfl, rfl⟩
theorem fdX7_61 : FdOk RX7 61 7 3 .int false := ⟨RX7, TX7, 46, tyX7, rfl, inX7, by decide, rfl, by decide, rfl, wfl_X7_61, tyX7_ok, nmX7, rfl, rfl⟩
theorem fdX7_64 : FdOk RX7 64 7 11 .int false := ⟨RX7, TX7, 46, tyX7, rfl, inX7, by decide, rfl, by decide, rfl, wfl_X7_64, tyX7_ok, nmX7, rfl, rfl⟩
theorem fdX7_95 : FdOk RX7 95 7 7 .int false := ⟨RX7, TX7, 46, tyX7, rfl, inX7, by decide, rfl, by decide, rfl, wfl_X7_95, tyX7_ok, nmX7, rfl, rfl⟩
theorem fdX7_98 : FdOk RX7 98 7 4 .int false := ⟨RX7, TX7, 46, tyX7, rfl, inX7, by decide, rfl, by decide, rfl, wfl_X7_98, tyX7_ok, nmX7, rfl, rfl⟩
theorem fdX7_113 : FdOk RX7 113 7 27 .int false := ⟨RX7, TX7, 46, tyX7, rfl, inX7, by decide, rfl, by decide, rfl, wfl_X7_113, tyX7_ok, nmX7, rfl, rfl⟩
theorem fdX7_116 : FdOk RX7 116 7 28 .int false := ⟨RX7, TX7, 46, tyX7, rfl, inX7, by decide, rfl, by decide, rfl, wfl_X7_116, tyX7_ok, nmX7, rfl, rfl⟩
theorem fdX7_128 : FdOk RX7 128 7 30 .int false := ⟨RX7, TX7, 46, tyX7, rfl, inX7, by decide, rfl, by decide, rfl, wfl_X7_128, tyX7_ok, nmX7, rfl, rfl⟩
theorem fdX7_131 : FdOk RX7 131 7 6 .int false := ⟨RX7, TX7, 46, tyX7, rfl, inX7, by decide, rfl, by decide, rfl, wfl_X7_131, tyX7_ok, nmX7, rfl, rfl⟩
theorem fdX7_340 : FdOk RX7 340 7 29 .int false := ⟨RX7, TX7, 46, tyX7, rfl, inX7, by decide, rfl, by decide, rfl, wfl_X7_340, tyX7_ok, nmX7, rfl, rfl⟩
theorem fdX7_343 : FdOk RX7 343 7 31 .int false := ⟨RX7, TX7, 46, tyX7, rfl, inX7, by decide, rfl, by decide, rfl, wfl_X7_343, tyX7_ok, nmX7, rfl, rfl⟩
theorem fdX7_353 : FdOk RX7 353 7 32 .int false := ⟨RX7, TX7, 46, tyX7, rfl, inX7, by decide, rfl, by decide, rfl, wfl_X7_353, tyX7_ok, nmX7, rfl, rfl⟩
theorem fdX7_356 : FdOk RX7 356 7 33 .int false := ⟨RX7, TX7, 46, tyX7, rfl, inX7, by decide, rfl, by decide, rfl, wfl_X7_356, tyX7_ok, nmX7, rfl, rfl⟩
theorem fdX7_376 : FdOk RX7 376 7 34 .int false := ⟨RX7, TX7, 46, tyX7, rfl, inX7, by decide, rfl, by decide, rfl, wfl_X7_376, tyX7_ok, nmX7, rfl, rfl⟩
theorem fdX7_379 : FdOk RX7 379 7 35 .int false := ⟨RX7, TX7, 46, tyX7, rfl, inX7, by decide, rfl, by decide, rfl, wfl_X7_379, tyX7_ok, nmX7, rfl, rfl⟩
theorem fdX7_413 : FdOk RX7 413 7 40 .int false := ⟨RX7, TX7, 46, tyX7, rfl, inX7, by decide, rfl, by decide, rfl, wfl_X7_413, tyX7_ok, nmX7, rfl, rfl⟩
theorem fdX7_416 : FdOk RX7 416 7 41 .int false := ⟨RX7, TX7, 46, tyX7, rfl, inX7, by decide, rfl, by decide, rfl, wfl_X7_416, tyX7_ok, nmX7, rfl, rfl⟩
theorem cvX7_73 : CvOk RX7 73 7 yX7_isOne cX7_isOne 2 (some .boolean) 1 := ⟨⟨⟨by decide, by decide, rfl⟩, by decide, wco_X7_isOne, win_X7⟩, by decide, ⟨_, _, rfl⟩, wml_X7_73, wim_X7_isOne, wse_X7_isOne⟩
theorem cvX7_79 : CvOk RX7 79 7 yX7_isOf cX7_isOf 3 (some .boolean) 2 := ⟨⟨⟨by decide, by decide, rfl⟩, by decide, wco_X7_isOf, win_X7⟩, by decide, ⟨_, _, rfl⟩, wml_X7_79, wim_X7_isOf, wse_X7_isOf⟩
theorem cvX7_87 : CvOk RX7 87 7 yX7_told cX7_told 3 (some .int) 2 := ⟨⟨⟨by decide, by decide, rfl⟩, by decide, wco_X7_told, win_X7⟩, by decide, ⟨_, _, rfl⟩, wml_X7_87, wim_X7_told, wse_X7_told⟩
theorem cvX7_91 : CvOk RX7 91 7 yX7_lays cX7_lays 4 none 3 := ⟨⟨⟨by decide, by decide, rfl⟩, by decide, wco_X7_lays, win_X7⟩, by decide, ⟨_, _, rfl⟩, wml_X7_91, wim_X7_lays, wse_X7_lays⟩
theorem cvX7_109 : CvOk RX7 109 7 yX7_begins cX7_begins 3 none 1 := ⟨⟨⟨by decide, by decide, rfl⟩, by decide, wco_X7_begins, win_X7⟩, by decide, ⟨_, _, rfl⟩, wml_X7_109, wim_X7_begins, wse_X7_begins⟩
theorem cvX7_119 : CvOk RX7 119 7 yX7_lastsOf cX7_lastsOf 5 (some .int) 1 := ⟨⟨⟨by decide, by decide, rfl⟩, by decide, wco_X7_lastsOf, win_X7⟩, by decide, ⟨_, _, rfl⟩, wml_X7_119, wim_X7_lastsOf, wse_X7_lastsOf⟩
theorem cvX7_122 : CvOk RX7 122 7 yX7_paceOf cX7_paceOf 5 (some .int) 1 := ⟨⟨⟨by decide, by decide, rfl⟩, by decide, wco_X7_paceOf, win_X7⟩, by decide, ⟨_, _, rfl⟩, wml_X7_122, wim_X7_paceOf, wse_X7_paceOf⟩
theorem cvX7_125 : CvOk RX7 125 7 yX7_isStopped cX7_isStopped 4 (some .boolean) 1 := ⟨⟨⟨by decide, by decide, rfl⟩, by decide, wco_X7_isStopped, win_X7⟩, by decide, ⟨_, _, rfl⟩, wml_X7_125, wim_X7_isStopped, wse_X7_isStopped⟩
theorem cvX7_334 : CvOk RX7 334 7 yX7_read cX7_read 6 (some .int) 2 := ⟨⟨⟨by decide, by decide, rfl⟩, by decide, wco_X7_read, win_X7⟩, by decide, ⟨_, _, rfl⟩, wml_X7_334, wim_X7_read, wse_X7_read⟩
theorem cvX7_337 : CvOk RX7 337 7 yX7_weightOf cX7_weightOf 4 (some .int) 1 := ⟨⟨⟨by decide, by decide, rfl⟩, by decide, wco_X7_weightOf, win_X7⟩, by decide, ⟨_, _, rfl⟩, wml_X7_337, wim_X7_weightOf, wse_X7_weightOf⟩
theorem cvX7_350 : CvOk RX7 350 7 yX7_asks cX7_asks 4 (some .int) 2 := ⟨⟨⟨by decide, by decide, rfl⟩, by decide, wco_X7_asks, win_X7⟩, by decide, ⟨_, _, rfl⟩, wml_X7_350, wim_X7_asks, wse_X7_asks⟩
theorem cvX7_359 : CvOk RX7 359 7 yX7_goes cX7_goes 6 (some .boolean) 1 := ⟨⟨⟨by decide, by decide, rfl⟩, by decide, wco_X7_goes, win_X7⟩, by decide, ⟨_, _, rfl⟩, wml_X7_359, wim_X7_goes, wse_X7_goes⟩
theorem cvX7_362 : CvOk RX7 362 7 yX7_isInSocks cX7_isInSocks 2 (some .boolean) 1 := ⟨⟨⟨by decide, by decide, rfl⟩, by decide, wco_X7_isInSocks, win_X7⟩, by decide, ⟨_, _, rfl⟩, wml_X7_362, wim_X7_isInSocks, wse_X7_isInSocks⟩
theorem cvX7_369 : CvOk RX7 369 7 yX7_lives cX7_lives 4 none 2 := ⟨⟨⟨by decide, by decide, rfl⟩, by decide, wco_X7_lives, win_X7⟩, by decide, ⟨_, _, rfl⟩, wml_X7_369, wim_X7_lives, wse_X7_lives⟩
theorem cvX7_373 : CvOk RX7 373 7 yX7_stepBehind cX7_stepBehind 4 (some .int) 2 := ⟨⟨⟨by decide, by decide, rfl⟩, by decide, wco_X7_stepBehind, win_X7⟩, by decide, ⟨_, _, rfl⟩, wml_X7_373, wim_X7_stepBehind, wse_X7_stepBehind⟩
theorem cvX7_382 : CvOk RX7 382 7 yX7_isLighter cX7_isLighter 2 (some .boolean) 1 := ⟨⟨⟨by decide, by decide, rfl⟩, by decide, wco_X7_isLighter, win_X7⟩, by decide, ⟨_, _, rfl⟩, wml_X7_382, wim_X7_isLighter, wse_X7_isLighter⟩
theorem cvX7_387 : CvOk RX7 387 7 yX7_daysTill cX7_daysTill 4 (some .int) 2 := ⟨⟨⟨by decide, by decide, rfl⟩, by decide, wco_X7_daysTill, win_X7⟩, by decide, ⟨_, _, rfl⟩, wml_X7_387, wim_X7_daysTill, wse_X7_daysTill⟩
theorem cvX7_390 : CvOk RX7 390 7 yX7_allBehind cX7_allBehind 4 (some .int) 1 := ⟨⟨⟨by decide, by decide, rfl⟩, by decide, wco_X7_allBehind, win_X7⟩, by decide, ⟨_, _, rfl⟩, wml_X7_390, wim_X7_allBehind, wse_X7_allBehind⟩
theorem cvX7_396 : CvOk RX7 396 7 yX7_firstOther cX7_firstOther 4 (some .int) 2 := ⟨⟨⟨by decide, by decide, rfl⟩, by decide, wco_X7_firstOther, win_X7⟩, by decide, ⟨_, _, rfl⟩, wml_X7_396, wim_X7_firstOther, wse_X7_firstOther⟩
theorem cvX7_399 : CvOk RX7 399 7 yX7_sheet cX7_sheet 5 (some .int) 3 := ⟨⟨⟨by decide, by decide, rfl⟩, by decide, wco_X7_sheet, win_X7⟩, by decide, ⟨_, _, rfl⟩, wml_X7_399, wim_X7_sheet, wse_X7_sheet⟩
theorem cvX7_403 : CvOk RX7 403 7 yX7_draws cX7_draws 4 none 1 := ⟨⟨⟨by decide, by decide, rfl⟩, by decide, wco_X7_draws, win_X7⟩, by decide, ⟨_, _, rfl⟩, wml_X7_403, wim_X7_draws, wse_X7_draws⟩
theorem cvX7_406 : CvOk RX7 406 7 yX7_laysBack cX7_laysBack 2 none 0 := ⟨⟨⟨by decide, by decide, rfl⟩, by decide, wco_X7_laysBack, win_X7⟩, by decide, ⟨_, _, rfl⟩, wml_X7_406, wim_X7_laysBack, wse_X7_laysBack⟩
theorem cvX7_423 : CvOk RX7 423 7 yX7_walker cX7_walker 4 (some .int) 3 := ⟨⟨⟨by decide, by decide, rfl⟩, by decide, wco_X7_walker, win_X7⟩, by decide, ⟨_, _, rfl⟩, wml_X7_423, wim_X7_walker, wse_X7_walker⟩
theorem csX7_83 : CsOk RX7 83 yX7_mostOf cX7_mostOf 1 (some .int) 1 := ⟨⟨⟨by decide, by decide, rfl⟩, by decide, wco_X7_mostOf, win_X7⟩, wml_X7_83, wst_X7_mostOf⟩
theorem csX7_346 : CsOk RX7 346 yX7_within cX7_within 3 (some .int) 3 := ⟨⟨⟨by decide, by decide, rfl⟩, by decide, wco_X7_within, win_X7⟩, wml_X7_346, wst_X7_within⟩
theorem csX7_393 : CsOk RX7 393 yX7_isSheet cX7_isSheet 1 (some .boolean) 1 := ⟨⟨⟨by decide, by decide, rfl⟩, by decide, wco_X7_isSheet, win_X7⟩, wml_X7_393, wst_X7_isSheet⟩
theorem csX7_426 : CsOk RX7 426 yX7_over cX7_over 1 (some .int) 1 := ⟨⟨⟨by decide, by decide, rfl⟩, by decide, wco_X7_over, win_X7⟩, wml_X7_426, wst_X7_over⟩
def fX7_spell (t : Nat) (x1 : Int32) (x2 : Int32) (x3 : Int32) (x4 : Int32) (x5 : Int32) (x6 : Int32) (x7 : Int32) (x8 : Int32) (x9 : Int32) (w : Wd) : Option (Unit × Wd) :=
  dr (gR w t 1) 8 w (fun a_1 => grd (vin x1 (ln a_1)) (lw (sI w a_1 x1.toNatClampNeg x2) (fun w_2 => dr (gR w_2 t 1) 8 w_2 (fun a_3 => grd (vin (x1 + (1 : Int32)) (ln a_3)) (lw (sI w_2 a_3 (x1 + (1 : Int32)).toNatClampNeg x3) (fun w_4 => dr (gR w_4 t 1) 8 w_4 (fun a_5 => grd (vin (x1 + (2 : Int32)) (ln a_5)) (lw (sI w_4 a_5 (x1 + (2 : Int32)).toNatClampNeg x4) (fun w_6 => dr (gR w_6 t 1) 8 w_6 (fun a_7 => grd (vin (x1 + (3 : Int32)) (ln a_7)) (lw (sI w_6 a_7 (x1 + (3 : Int32)).toNatClampNeg x5) (fun w_8 => dr (gR w_8 t 1) 8 w_8 (fun a_9 => grd (vin (x1 + (4 : Int32)) (ln a_9)) (lw (sI w_8 a_9 (x1 + (4 : Int32)).toNatClampNeg x6) (fun w_10 => dr (gR w_10 t 1) 8 w_10 (fun a_11 => grd (vin (x1 + (5 : Int32)) (ln a_11)) (lw (sI w_10 a_11 (x1 + (5 : Int32)).toNatClampNeg x7) (fun w_12 => dr (gR w_12 t 1) 8 w_12 (fun a_13 => grd (vin (x1 + (6 : Int32)) (ln a_13)) (lw (sI w_12 a_13 (x1 + (6 : Int32)).toNatClampNeg x8) (fun w_14 => dr (gR w_14 t 1) 8 w_14 (fun a_15 => grd (vin (x1 + (7 : Int32)) (ln a_15)) (lw (sI w_14 a_15 (x1 + (7 : Int32)).toNatClampNeg x9) (fun w_16 => some ((), w_16)))))))))))))))))))))))))
set_option maxHeartbeats 4000000 in
theorem mX7_spell {Γ : En} {t : Nat} {x1 : Int32} {x2 : Int32} {x3 : Int32} {x4 : Int32} {x5 : Int32} {x6 : Int32} {x7 : Int32} {x8 : Int32} {x9 : Int32} {w : Wd} (ht : t < wn w ∧ kd t = 7) : MtV Γ yX7_spell cX7_spell 10 none 2 0 0 [rv Γ (some t), .int x1, .int x2, .int x3, .int x4, .int x5, .int x6, .int x7, .int x8, .int x9] w (fX7_spell t x1 x2 x3 x4 x5 x6 x7 x8 x9 w) := by
  refine mtV [.inr (.inl (some t)), .inl x1, .inl x2, .inl x3, .inl x4, .inl x5, .inl x6, .inl x7, .inl x8, .inl x9] rfl (Nat.le_of_ble_eq_true rfl) (fun X hΓ hnL hn0 h _ hr hF => ?_)
  subst hΓ
  have ht : InN X t 7 := ⟨by rw [hn0]; exact ht.1, ht.2⟩
  have h : Ok X cX7_spell RX7 2 0 0 := h
  have hj : ∀ j, j < 10 → j < nLX X := fun j q => by rw [hnL]; exact q
  show G X 0 0 0 [(0, .inr (.inl (some t))), (1, .inl x1), (2, .inl x2), (3, .inl x3), (4, .inl x4), (5, .inl x5), (6, .inl x6), (7, .inl x7), (8, .inl x8), (9, .inl x9)] [] w
  unfold fX7_spell at hF
  refine g_aload_n (pc := 0) h 0 rfl dX7_spell_0 ?_
  refine g_getR (pc := 1) h fdX7_13 (inw ht) rfl dX7_spell_1 ?_
  refine g_iload_n (pc := 4) h 1 rfl dX7_spell_4 ?_
  refine g_iload_n (pc := 5) h 2 rfl dX7_spell_5 ?_
  refine g_dr hF (fun a_1 e_a_1 h_a_1 hF => ?_)
  rw [e_a_1]
  obtain ⟨g_1, hF⟩ := grd_ok hF
  refine g_iast (pc := 6) h h_a_1 g_1 dX7_spell_6 ?_
  refine g_w hF (fun w_2 hF => ?_)
  refine g_aload_n (pc := 7) h 0 rfl dX7_spell_7 ?_
  refine g_getR (pc := 8) h fdX7_13 (inw ht) rfl dX7_spell_8 ?_
  refine g_iload_n (pc := 11) h 1 rfl dX7_spell_11 ?_
  refine g_iconst (pc := 12) (v := (1 : Int32)) h dX7_spell_12 (by decide) ?_
  refine g_iadd (pc := 13) h dX7_spell_13 ?_
  refine g_iload_n (pc := 14) h 3 rfl dX7_spell_14 ?_
  refine g_dr hF (fun a_3 e_a_3 h_a_3 hF => ?_)
  rw [e_a_3]
  obtain ⟨g_2, hF⟩ := grd_ok hF
  refine g_iast (pc := 15) h h_a_3 g_2 dX7_spell_15 ?_
  refine g_w hF (fun w_4 hF => ?_)
  refine g_aload_n (pc := 16) h 0 rfl dX7_spell_16 ?_
  refine g_getR (pc := 17) h fdX7_13 (inw ht) rfl dX7_spell_17 ?_
  refine g_iload_n (pc := 20) h 1 rfl dX7_spell_20 ?_
  refine g_iconst (pc := 21) (v := (2 : Int32)) h dX7_spell_21 (by decide) ?_
  refine g_iadd (pc := 22) h dX7_spell_22 ?_
  refine g_iload (pc := 23) h 4 rfl dX7_spell_23 ?_
  refine g_dr hF (fun a_5 e_a_5 h_a_5 hF => ?_)
  rw [e_a_5]
  obtain ⟨g_3, hF⟩ := grd_ok hF
  refine g_iast (pc := 25) h h_a_5 g_3 dX7_spell_25 ?_
  refine g_w hF (fun w_6 hF => ?_)
  refine g_aload_n (pc := 26) h 0 rfl dX7_spell_26 ?_
  refine g_getR (pc := 27) h fdX7_13 (inw ht) rfl dX7_spell_27 ?_
  refine g_iload_n (pc := 30) h 1 rfl dX7_spell_30 ?_
  refine g_iconst (pc := 31) (v := (3 : Int32)) h dX7_spell_31 (by decide) ?_
  refine g_iadd (pc := 32) h dX7_spell_32 ?_
  refine g_iload (pc := 33) h 5 rfl dX7_spell_33 ?_
  refine g_dr hF (fun a_7 e_a_7 h_a_7 hF => ?_)
  rw [e_a_7]
  obtain ⟨g_4, hF⟩ := grd_ok hF
  refine g_iast (pc := 35) h h_a_7 g_4 dX7_spell_35 ?_
  refine g_w hF (fun w_8 hF => ?_)
  refine g_aload_n (pc := 36) h 0 rfl dX7_spell_36 ?_
  refine g_getR (pc := 37) h fdX7_13 (inw ht) rfl dX7_spell_37 ?_
  refine g_iload_n (pc := 40) h 1 rfl dX7_spell_40 ?_
  refine g_iconst (pc := 41) (v := (4 : Int32)) h dX7_spell_41 (by decide) ?_
  refine g_iadd (pc := 42) h dX7_spell_42 ?_
  refine g_iload (pc := 43) h 6 rfl dX7_spell_43 ?_
  refine g_dr hF (fun a_9 e_a_9 h_a_9 hF => ?_)
  rw [e_a_9]
  obtain ⟨g_5, hF⟩ := grd_ok hF
  refine g_iast (pc := 45) h h_a_9 g_5 dX7_spell_45 ?_
  refine g_w hF (fun w_10 hF => ?_)
  refine g_aload_n (pc := 46) h 0 rfl dX7_spell_46 ?_
  refine g_getR (pc := 47) h fdX7_13 (inw ht) rfl dX7_spell_47 ?_
  refine g_iload_n (pc := 50) h 1 rfl dX7_spell_50 ?_
  refine g_iconst (pc := 51) (v := (5 : Int32)) h dX7_spell_51 (by decide) ?_
  refine g_iadd (pc := 52) h dX7_spell_52 ?_
  refine g_iload (pc := 53) h 7 rfl dX7_spell_53 ?_
  refine g_dr hF (fun a_11 e_a_11 h_a_11 hF => ?_)
  rw [e_a_11]
  obtain ⟨g_6, hF⟩ := grd_ok hF
  refine g_iast (pc := 55) h h_a_11 g_6 dX7_spell_55 ?_
  refine g_w hF (fun w_12 hF => ?_)
  refine g_aload_n (pc := 56) h 0 rfl dX7_spell_56 ?_
  refine g_getR (pc := 57) h fdX7_13 (inw ht) rfl dX7_spell_57 ?_
  refine g_iload_n (pc := 60) h 1 rfl dX7_spell_60 ?_
  refine g_bipush (pc := 61) (v := (6 : Int32)) h dX7_spell_61 (by decide) ?_
  refine g_iadd (pc := 63) h dX7_spell_63 ?_
  refine g_iload (pc := 64) h 8 rfl dX7_spell_64 ?_
  refine g_dr hF (fun a_13 e_a_13 h_a_13 hF => ?_)
  rw [e_a_13]
  obtain ⟨g_7, hF⟩ := grd_ok hF
  refine g_iast (pc := 66) h h_a_13 g_7 dX7_spell_66 ?_
  refine g_w hF (fun w_14 hF => ?_)
  refine g_aload_n (pc := 67) h 0 rfl dX7_spell_67 ?_
  refine g_getR (pc := 68) h fdX7_13 (inw ht) rfl dX7_spell_68 ?_
  refine g_iload_n (pc := 71) h 1 rfl dX7_spell_71 ?_
  refine g_bipush (pc := 72) (v := (7 : Int32)) h dX7_spell_72 (by decide) ?_
  refine g_iadd (pc := 74) h dX7_spell_74 ?_
  refine g_iload (pc := 75) h 9 rfl dX7_spell_75 ?_
  refine g_dr hF (fun a_15 e_a_15 h_a_15 hF => ?_)
  rw [e_a_15]
  obtain ⟨g_8, hF⟩ := grd_ok hF
  refine g_iast (pc := 77) h h_a_15 g_8 dX7_spell_77 ?_
  refine g_w hF (fun w_16 hF => ?_)
  exact g_vret (pc := 78) h hr ⟨Nat.le_refl _, Nat.le_refl _⟩ hF dX7_spell_78
def fX7_isOne (t : Nat) (x1 : Int32) (w : Wd) : Option (Int32 × Wd) :=
  bnd (fX7_in (x1.toInt64) (0 : Int64) (((gI w t 11) - (1 : Int32)).toInt64) w) (fun x_1 w_2 => grd (x_1 = 0 ∨ x_1 = 1) (some (x_1, w_2)))
set_option maxHeartbeats 4000000 in
theorem mX7_isOne {Γ : En} {t : Nat} {x1 : Int32} {w : Wd} (ht : t < wn w ∧ kd t = 7) : MtI Γ yX7_isOne cX7_isOne 2 (some .boolean) 3 0 0 [rv Γ (some t), .int x1] w (fX7_isOne t x1 w) := by
  refine mtI [.inr (.inl (some t)), .inl x1] rfl (Nat.le_of_ble_eq_true rfl) (fun X hΓ hnL hn0 h _ hr hF => ?_)
  subst hΓ
  have ht : InN X t 7 := ⟨by rw [hn0]; exact ht.1, ht.2⟩
  have h : Ok X cX7_isOne RX7 3 0 0 := h
  have hj : ∀ j, j < 2 → j < nLX X := fun j q => by rw [hnL]; exact q
  show G X 0 0 0 [(0, .inr (.inl (some t))), (1, .inl x1)] [] w
  unfold fX7_isOne at hF
  refine g_iload_n (pc := 0) h 1 rfl dX7_isOne_0 ?_
  refine g_i2l (pc := 1) h dX7_isOne_1 ?_
  refine g_lconst (pc := 2) (v := (0 : Int64)) h dX7_isOne_2 (by decide) ?_
  refine g_aload_n (pc := 3) h 0 rfl dX7_isOne_3 ?_
  refine g_getI (pc := 4) h fdX7_64 (inw ht) (by decide) dX7_isOne_4 ?_
  refine g_iconst (pc := 7) (v := (1 : Int32)) h dX7_isOne_7 (by decide) ?_
  refine g_isub (pc := 8) h dX7_isOne_8 ?_
  refine g_i2l (pc := 9) h dX7_isOne_9 ?_
  refine g_csI (pc := 10) (st := []) h mX7_in csX7_67 (by decide) ⟨by decide, by decide⟩ (Nat.le_of_ble_eq_true rfl) rfl rfl dX7_isOne_10 hF (fun x_1 w_2 hF => ?_)
  obtain ⟨g_1, hF⟩ := grd_ok hF
  exact g_zret (pc := 13) h hr ⟨Nat.le_refl _, Nat.le_refl _⟩ (bz_ok g_1).1 hF dX7_isOne_13
def fX7_mostOf (x0 : Int32) (w : Wd) : Option (Int32 × Wd) :=
  if x0 = 0 then
    (some ((999 : Int32), w))
  else
    (if x0 = (1 : Int32) then
      (some ((99 : Int32), w))
    else
      (if x0 = (2 : Int32) then
        (some ((9 : Int32), w))
      else
        (if (5 : Int32) ≤ x0 then
          (if x0 = (5 : Int32) then
            (some ((999 : Int32), w))
          else
            (some ((9999 : Int32), w)))
        else
          (some ((255 : Int32), w)))))
set_option maxHeartbeats 4000000 in
theorem mX7_mostOf {Γ : En} {x0 : Int32} {w : Wd} : MtI Γ yX7_mostOf cX7_mostOf 1 (some .int) 2 0 0 [.int x0] w (fX7_mostOf x0 w) := by
  refine mtI [.inl x0] rfl (Nat.le_of_ble_eq_true rfl) (fun X hΓ hnL hn0 h _ hr hF => ?_)
  subst hΓ
  have h : Ok X cX7_mostOf RX7 2 0 0 := h
  have hj : ∀ j, j < 1 → j < nLX X := fun j q => by rw [hnL]; exact q
  show G X 0 0 0 [(0, .inl x0)] [] w
  unfold fX7_mostOf at hF
  refine g_iload_n (pc := 0) h 0 rfl dX7_mostOf_0 ?_
  refine g_if_ne (pc := 1) (tgt := 10) h dX7_mostOf_1 (by decide) hF (fun hF => ?_) (fun hF => ?_)
  · refine g_iload_n (pc := 10) h 0 rfl dX7_mostOf_10 ?_
    refine g_iconst (pc := 11) (v := (1 : Int32)) h dX7_mostOf_11 (by decide) ?_
    refine g_icmp_ne (pc := 12) (tgt := 20) h dX7_mostOf_12 (by decide) hF (fun hF => ?_) (fun hF => ?_)
    · refine g_iload_n (pc := 20) h 0 rfl dX7_mostOf_20 ?_
      refine g_iconst (pc := 21) (v := (2 : Int32)) h dX7_mostOf_21 (by decide) ?_
      refine g_icmp_ne (pc := 22) (tgt := 30) h dX7_mostOf_22 (by decide) hF (fun hF => ?_) (fun hF => ?_)
      · refine g_iload_n (pc := 30) h 0 rfl dX7_mostOf_30 ?_
        refine g_iconst (pc := 31) (v := (5 : Int32)) h dX7_mostOf_31 (by decide) ?_
        refine g_icmp_ge (pc := 32) (tgt := 41) h dX7_mostOf_32 (by decide) hF (fun hF => ?_) (fun hF => ?_)
        · refine g_iload_n (pc := 41) h 0 rfl dX7_mostOf_41 ?_
          refine g_iconst (pc := 42) (v := (5 : Int32)) h dX7_mostOf_42 (by decide) ?_
          refine g_icmp_ne (pc := 43) (tgt := 52) h dX7_mostOf_43 (by decide) hF (fun hF => ?_) (fun hF => ?_)
          · refine g_sipush (pc := 52) (v := (9999 : Int32)) h dX7_mostOf_52 (by decide) ?_
            exact g_iret (pc := 55) h hr ⟨Nat.le_refl _, Nat.le_refl _⟩ hF dX7_mostOf_55
          · refine g_sipush (pc := 46) (v := (999 : Int32)) h dX7_mostOf_46 (by decide) ?_
            refine g_goto (pc := 49) (tgt := 55) h dX7_mostOf_49 (by decide) ?_
            exact g_iret (pc := 55) h hr ⟨Nat.le_refl _, Nat.le_refl _⟩ hF dX7_mostOf_55
        · refine g_sipush (pc := 35) (v := (255 : Int32)) h dX7_mostOf_35 (by decide) ?_
          refine g_goto (pc := 38) (tgt := 55) h dX7_mostOf_38 (by decide) ?_
          exact g_iret (pc := 55) h hr ⟨Nat.le_refl _, Nat.le_refl _⟩ hF dX7_mostOf_55
      · refine g_bipush (pc := 25) (v := (9 : Int32)) h dX7_mostOf_25 (by decide) ?_
        refine g_goto (pc := 27) (tgt := 55) h dX7_mostOf_27 (by decide) ?_
        exact g_iret (pc := 55) h hr ⟨Nat.le_refl _, Nat.le_refl _⟩ hF dX7_mostOf_55
    · refine g_bipush (pc := 15) (v := (99 : Int32)) h dX7_mostOf_15 (by decide) ?_
      refine g_goto (pc := 17) (tgt := 55) h dX7_mostOf_17 (by decide) ?_
      exact g_iret (pc := 55) h hr ⟨Nat.le_refl _, Nat.le_refl _⟩ hF dX7_mostOf_55
  · refine g_sipush (pc := 4) (v := (999 : Int32)) h dX7_mostOf_4 (by decide) ?_
    refine g_goto (pc := 7) (tgt := 55) h dX7_mostOf_7 (by decide) ?_
    exact g_iret (pc := 55) h hr ⟨Nat.le_refl _, Nat.le_refl _⟩ hF dX7_mostOf_55
def fX7_isOf_32 (t : Nat) (w : Wd) : Option (Int32 × Wd) :=
  some ((1 : Int32), w)
set_option maxHeartbeats 4000000 in
theorem kX7_isOf_32 {X : Cx} (h : Ok X cX7_isOf RX7 4 0 0) (hr : RetI X .boolean 0 0) (hnL : nLX X = 3) {t : Nat} (ht : InN X t 7) : ∀ (w : Wd), OkR X Value.int (fX7_isOf_32 t  w) → G X 0 0 32 [] [] w := by
  have hj : ∀ j, j < 3 → j < nLX X := fun j q => by rw [hnL]; exact q
  intro w hF
  unfold fX7_isOf_32 at hF
  refine g_iconst (pc := 32) (v := (1 : Int32)) h dX7_isOf_32 (by decide) ?_
  refine g_goto (pc := 33) (tgt := 37) h dX7_isOf_33 (by decide) ?_
  exact g_zret (pc := 37) h hr ⟨Nat.le_refl _, Nat.le_refl _⟩ (by decide) hF dX7_isOf_37
def fX7_isOf (t : Nat) (x1 : Int32) (x2 : Int32) (w : Wd) : Option (Int32 × Wd) :=
  if x1 = 0 then
    (fX7_isOf_32 t w)
  else
    (if x1 = (1 : Int32) then
      (bnd (fX7_in (x2.toInt64) (0 : Int64) (7 : Int64) w) (fun x_3 w_4 => if x_3 = 0 then
        (some ((0 : Int32), w_4))
      else
        (fX7_isOf_32 t w_4)))
    else
      (bnd (fX7_isOne t x2 w) (fun x_1 w_2 => if x_1 = 0 then
        (some ((0 : Int32), w_2))
      else
        (fX7_isOf_32 t w_2))))
set_option maxHeartbeats 4000000 in
theorem mX7_isOf {Γ : En} {t : Nat} {x1 : Int32} {x2 : Int32} {w : Wd} (ht : t < wn w ∧ kd t = 7) : MtI Γ yX7_isOf cX7_isOf 3 (some .boolean) 4 0 0 [rv Γ (some t), .int x1, .int x2] w (fX7_isOf t x1 x2 w) := by
  refine mtI [.inr (.inl (some t)), .inl x1, .inl x2] rfl (Nat.le_of_ble_eq_true rfl) (fun X hΓ hnL hn0 h _ hr hF => ?_)
  subst hΓ
  have ht : InN X t 7 := ⟨by rw [hn0]; exact ht.1, ht.2⟩
  have h : Ok X cX7_isOf RX7 4 0 0 := h
  have hj : ∀ j, j < 3 → j < nLX X := fun j q => by rw [hnL]; exact q
  show G X 0 0 0 [(0, .inr (.inl (some t))), (1, .inl x1), (2, .inl x2)] [] w
  unfold fX7_isOf at hF
  refine g_iload_n (pc := 0) h 1 rfl dX7_isOf_0 ?_
  refine g_if_eq (pc := 1) (tgt := 32) h dX7_isOf_1 (by decide) hF (fun hF => ?_) (fun hF => ?_)
  · refine g_lv (lv' := []) [] rfl ?_
    exact kX7_isOf_32 h hr hnL ht _ hF
  · refine g_iload_n (pc := 4) h 1 rfl dX7_isOf_4 ?_
    refine g_iconst (pc := 5) (v := (1 : Int32)) h dX7_isOf_5 (by decide) ?_
    refine g_icmp_ne (pc := 6) (tgt := 24) h dX7_isOf_6 (by decide) hF (fun hF => ?_) (fun hF => ?_)
    · refine g_aload_n (pc := 24) h 0 rfl dX7_isOf_24 ?_
      refine g_iload_n (pc := 25) h 2 rfl dX7_isOf_25 ?_
      refine g_cvI (pc := 26) (st := []) h mX7_isOne cvX7_73 (inw ht) (by decide) ⟨by decide, by decide⟩ (Nat.le_of_ble_eq_true rfl) rfl rfl dX7_isOf_26 hF (fun x_1 w_2 hF => ?_)
      refine g_if_eq (pc := 29) (tgt := 36) h dX7_isOf_29 (by decide) hF (fun hF => ?_) (fun hF => ?_)
      · refine g_iconst (pc := 36) (v := (0 : Int32)) h dX7_isOf_36 (by decide) ?_
        exact g_zret (pc := 37) h hr ⟨Nat.le_refl _, Nat.le_refl _⟩ (by decide) hF dX7_isOf_37
      · refine g_lv (lv' := []) [] rfl ?_
        exact kX7_isOf_32 h hr hnL ht _ hF
    · refine g_iload_n (pc := 9) h 2 rfl dX7_isOf_9 ?_
      refine g_i2l (pc := 10) h dX7_isOf_10 ?_
      refine g_lconst (pc := 11) (v := (0 : Int64)) h dX7_isOf_11 (by decide) ?_
      refine g_ldc2 (pc := 12) h wcL_X7_71 dX7_isOf_12 ?_
      refine g_csI (pc := 15) (st := []) h mX7_in csX7_67 (by decide) ⟨by decide, by decide⟩ (Nat.le_of_ble_eq_true rfl) rfl rfl dX7_isOf_15 hF (fun x_3 w_4 hF => ?_)
      refine g_if_eq (pc := 18) (tgt := 36) h dX7_isOf_18 (by decide) hF (fun hF => ?_) (fun hF => ?_)
      · refine g_iconst (pc := 36) (v := (0 : Int32)) h dX7_isOf_36 (by decide) ?_
        exact g_zret (pc := 37) h hr ⟨Nat.le_refl _, Nat.le_refl _⟩ (by decide) hF dX7_isOf_37
      · refine g_goto (pc := 21) (tgt := 32) h dX7_isOf_21 (by decide) ?_
        refine g_lv (lv' := []) [] rfl ?_
        exact kX7_isOf_32 h hr hnL ht _ hF
def fX7_lays (t : Nat) (x1 : Int32) (x2 : Int32) (x3 : Int32) (w : Wd) : Option (Unit × Wd) :=
  if x1 = 0 then
    (lw (sI w t 7 x3) (fun w_8 => some ((), w_8)))
  else
    (if x1 = (1 : Int32) then
      (dr (gR w t 8) 8 w (fun a_6 => grd (vin x2 (ln a_6)) (lw (sI w a_6 x2.toNatClampNeg x3) (fun w_7 => some ((), w_7)))))
    else
      (if (7 : Int32) ≤ x1 then
        (if x1 = (7 : Int32) then
          (dr (gR w t 9) 8 w (fun a_2 => grd (vin x2 (ln a_2)) (lw (sI w a_2 x2.toNatClampNeg x3) (fun w_3 => some ((), w_3)))))
        else
          (lw (sI w t 4 x3) (fun w_1 => some ((), w_1))))
      else
        (dr (gR w t 10) 8 w (fun a_4 => grd (vin ((((5 : Int32) * x2) + x1) - (2 : Int32)) (ln a_4)) (lw (sI w a_4 ((((5 : Int32) * x2) + x1) - (2 : Int32)).toNatClampNeg x3) (fun w_5 => some ((), w_5)))))))
set_option maxHeartbeats 4000000 in
theorem mX7_lays {Γ : En} {t : Nat} {x1 : Int32} {x2 : Int32} {x3 : Int32} {w : Wd} (ht : t < wn w ∧ kd t = 7) : MtV Γ yX7_lays cX7_lays 4 none 2 0 0 [rv Γ (some t), .int x1, .int x2, .int x3] w (fX7_lays t x1 x2 x3 w) := by
  refine mtV [.inr (.inl (some t)), .inl x1, .inl x2, .inl x3] rfl (Nat.le_of_ble_eq_true rfl) (fun X hΓ hnL hn0 h _ hr hF => ?_)
  subst hΓ
  have ht : InN X t 7 := ⟨by rw [hn0]; exact ht.1, ht.2⟩
  have h : Ok X cX7_lays RX7 2 0 0 := h
  have hj : ∀ j, j < 4 → j < nLX X := fun j q => by rw [hnL]; exact q
  show G X 0 0 0 [(0, .inr (.inl (some t))), (1, .inl x1), (2, .inl x2), (3, .inl x3)] [] w
  unfold fX7_lays at hF
  refine g_iload_n (pc := 0) h 1 rfl dX7_lays_0 ?_
  refine g_if_ne (pc := 1) (tgt := 12) h dX7_lays_1 (by decide) hF (fun hF => ?_) (fun hF => ?_)
  · refine g_iload_n (pc := 12) h 1 rfl dX7_lays_12 ?_
    refine g_iconst (pc := 13) (v := (1 : Int32)) h dX7_lays_13 (by decide) ?_
    refine g_icmp_ne (pc := 14) (tgt := 27) h dX7_lays_14 (by decide) hF (fun hF => ?_) (fun hF => ?_)
    · refine g_iload_n (pc := 27) h 1 rfl dX7_lays_27 ?_
      refine g_bipush (pc := 28) (v := (7 : Int32)) h dX7_lays_28 (by decide) ?_
      refine g_icmp_ge (pc := 30) (tgt := 49) h dX7_lays_30 (by decide) hF (fun hF => ?_) (fun hF => ?_)
      · refine g_iload_n (pc := 49) h 1 rfl dX7_lays_49 ?_
        refine g_bipush (pc := 50) (v := (7 : Int32)) h dX7_lays_50 (by decide) ?_
        refine g_icmp_ne (pc := 52) (tgt := 65) h dX7_lays_52 (by decide) hF (fun hF => ?_) (fun hF => ?_)
        · refine g_aload_n (pc := 65) h 0 rfl dX7_lays_65 ?_
          refine g_iload_n (pc := 66) h 3 rfl dX7_lays_66 ?_
          refine g_putI (pc := 67) h fdX7_98 (inw ht) (by decide) ⟨rfl, rfl⟩ dX7_lays_67 ?_
          refine g_w hF (fun w_1 hF => ?_)
          exact g_vret (pc := 70) h hr ⟨Nat.le_refl _, Nat.le_refl _⟩ hF dX7_lays_70
        · refine g_aload_n (pc := 55) h 0 rfl dX7_lays_55 ?_
          refine g_getR (pc := 56) h fdX7_26 (inw ht) rfl dX7_lays_56 ?_
          refine g_iload_n (pc := 59) h 2 rfl dX7_lays_59 ?_
          refine g_iload_n (pc := 60) h 3 rfl dX7_lays_60 ?_
          refine g_dr hF (fun a_2 e_a_2 h_a_2 hF => ?_)
          rw [e_a_2]
          obtain ⟨g_1, hF⟩ := grd_ok hF
          refine g_iast (pc := 61) h h_a_2 g_1 dX7_lays_61 ?_
          refine g_w hF (fun w_3 hF => ?_)
          refine g_goto (pc := 62) (tgt := 70) h dX7_lays_62 (by decide) ?_
          exact g_vret (pc := 70) h hr ⟨Nat.le_refl _, Nat.le_refl _⟩ hF dX7_lays_70
      · refine g_aload_n (pc := 33) h 0 rfl dX7_lays_33 ?_
        refine g_getR (pc := 34) h fdX7_29 (inw ht) rfl dX7_lays_34 ?_
        refine g_iconst (pc := 37) (v := (5 : Int32)) h dX7_lays_37 (by decide) ?_
        refine g_iload_n (pc := 38) h 2 rfl dX7_lays_38 ?_
        refine g_imul (pc := 39) h dX7_lays_39 ?_
        refine g_iload_n (pc := 40) h 1 rfl dX7_lays_40 ?_
        refine g_iadd (pc := 41) h dX7_lays_41 ?_
        refine g_iconst (pc := 42) (v := (2 : Int32)) h dX7_lays_42 (by decide) ?_
        refine g_isub (pc := 43) h dX7_lays_43 ?_
        refine g_iload_n (pc := 44) h 3 rfl dX7_lays_44 ?_
        refine g_dr hF (fun a_4 e_a_4 h_a_4 hF => ?_)
        rw [e_a_4]
        obtain ⟨g_2, hF⟩ := grd_ok hF
        refine g_iast (pc := 45) h h_a_4 g_2 dX7_lays_45 ?_
        refine g_w hF (fun w_5 hF => ?_)
        refine g_goto (pc := 46) (tgt := 70) h dX7_lays_46 (by decide) ?_
        exact g_vret (pc := 70) h hr ⟨Nat.le_refl _, Nat.le_refl _⟩ hF dX7_lays_70
    · refine g_aload_n (pc := 17) h 0 rfl dX7_lays_17 ?_
      refine g_getR (pc := 18) h fdX7_23 (inw ht) rfl dX7_lays_18 ?_
      refine g_iload_n (pc := 21) h 2 rfl dX7_lays_21 ?_
      refine g_iload_n (pc := 22) h 3 rfl dX7_lays_22 ?_
      refine g_dr hF (fun a_6 e_a_6 h_a_6 hF => ?_)
      rw [e_a_6]
      obtain ⟨g_3, hF⟩ := grd_ok hF
      refine g_iast (pc := 23) h h_a_6 g_3 dX7_lays_23 ?_
      refine g_w hF (fun w_7 hF => ?_)
      refine g_goto (pc := 24) (tgt := 70) h dX7_lays_24 (by decide) ?_
      exact g_vret (pc := 70) h hr ⟨Nat.le_refl _, Nat.le_refl _⟩ hF dX7_lays_70
  · refine g_aload_n (pc := 4) h 0 rfl dX7_lays_4 ?_
    refine g_iload_n (pc := 5) h 3 rfl dX7_lays_5 ?_
    refine g_putI (pc := 6) h fdX7_95 (inw ht) (by decide) ⟨rfl, rfl⟩ dX7_lays_6 ?_
    refine g_w hF (fun w_8 hF => ?_)
    refine g_goto (pc := 9) (tgt := 70) h dX7_lays_9 (by decide) ?_
    exact g_vret (pc := 70) h hr ⟨Nat.le_refl _, Nat.le_refl _⟩ hF dX7_lays_70
def fX7_weightOf_30 (k4 : Int32 → Int32 → Int32 → Wd → Option (Int32 × Wd)) (t : Nat) (x1 : Int32) (x3 : Int32) (y0 : Int32) (y1 : Int32) (w : Wd) : Option (Int32 × Wd) :=
  lt (y1 + y0) (fun x2_2 => k4 x1 x2_2 (x3 + (1 : Int32)) w)
set_option maxHeartbeats 4000000 in
theorem kX7_weightOf_30 {X : Cx} (h : Ok X cX7_weightOf RX7 2 0 0) (hr : RetI X .int 0 0) (hnL : nLX X = 4) {t : Nat} (ht : InN X t 7) {k4 : Int32 → Int32 → Int32 → Wd → Option (Int32 × Wd)} (hk4 : ∀ (x1 : Int32) (x2 : Int32) (x3 : Int32) (w : Wd), OkR X Value.int (k4 x1 x2 x3 w) → G X 0 0 4 [(0, .inr (.inl (some t))), (1, .inl x1), (2, .inl x2), (3, .inl x3)] [] w) : ∀ (x1 : Int32) (x3 : Int32) (y0 : Int32) (y1 : Int32) (w : Wd), OkR X Value.int (fX7_weightOf_30 k4 t x1 x3 y0 y1 w) → G X 0 0 30 [(0, .inr (.inl (some t))), (1, .inl x1), (3, .inl x3)] [.int y0, .int y1] w := by
  have hj : ∀ j, j < 4 → j < nLX X := fun j q => by rw [hnL]; exact q
  intro x1 x3 y0 y1 w hF
  unfold fX7_weightOf_30 at hF
  refine g_iadd (pc := 30) h dX7_weightOf_30 ?_
  refine g_t hF (fun x2_2 hF => ?_)
  refine g_istore_n (pc := 31) (lv' := [(2, .inl x2_2), (0, .inr (.inl (some t))), (1, .inl x1), (3, .inl x3)]) h dX7_weightOf_31 (hj 2 (by decide)) rfl ?_
  refine g_iinc (pc := 32) (lv' := [(3, .inl (x3 + (1 : Int32))), (2, .inl x2_2), (0, .inr (.inl (some t))), (1, .inl x1)]) h 3 rfl dX7_weightOf_32 (dv := (1 : Int32)) (by decide) (hj 3 (by decide)) rfl ?_
  refine g_goto (pc := 35) (tgt := 4) h dX7_weightOf_35 (by decide) ?_
  refine g_lv (lv' := [(0, .inr (.inl (some t))), (1, .inl x1), (2, .inl x2_2), (3, .inl (x3 + (1 : Int32)))]) [2, 3, 1, 0] rfl ?_
  exact hk4 _ _ _ _ hF
def fX7_weightOf_4 (t : Nat) : Nat → Int32 → Int32 → Int32 → Wd → Option (Int32 × Wd)
  | 0 => fun _ _ _ _ => none
  | n + 1 => fun x1 x2 x3 w =>
    if (8 : Int32) ≤ x3 then
      (some (x2, w))
    else
      (if ((x1 >>> (x3 &&& 31)) &&& (1 : Int32)) = (1 : Int32) then
        (dr (gR w t 8) 8 w (fun a_1 => grd (vin x3 (ln a_1)) (fX7_weightOf_30 (fX7_weightOf_4 t n) t x1 x3 (gI w a_1 x3.toNatClampNeg) x2 w)))
      else
        (fX7_weightOf_30 (fX7_weightOf_4 t n) t x1 x3 (0 : Int32) x2 w))
set_option maxHeartbeats 4000000 in
theorem kX7_weightOf_4 {X : Cx} (h : Ok X cX7_weightOf RX7 2 0 0) (hr : RetI X .int 0 0) (hnL : nLX X = 4) {t : Nat} (ht : InN X t 7) : ∀ (fu : Nat) (x1 : Int32) (x2 : Int32) (x3 : Int32) (w : Wd), OkR X Value.int (fX7_weightOf_4 t fu x1 x2 x3 w) → G X 0 0 4 [(0, .inr (.inl (some t))), (1, .inl x1), (2, .inl x2), (3, .inl x3)] [] w := by
  have hj : ∀ j, j < 4 → j < nLX X := fun j q => by rw [hnL]; exact q
  intro fu
  induction fu with
  | zero => intro x1 x2 x3 w hF; exact okN hF
  | succ fu ih =>
    intro x1 x2 x3 w hF
    rw [fX7_weightOf_4] at hF
    refine g_iload_n (pc := 4) h 3 rfl dX7_weightOf_4 ?_
    refine g_bipush (pc := 5) (v := (8 : Int32)) h dX7_weightOf_5 (by decide) ?_
    refine g_icmp_ge (pc := 7) (tgt := 38) h dX7_weightOf_7 (by decide) hF (fun hF => ?_) (fun hF => ?_)
    · refine g_iload_n (pc := 38) h 2 rfl dX7_weightOf_38 ?_
      exact g_iret (pc := 39) h hr ⟨Nat.le_refl _, Nat.le_refl _⟩ hF dX7_weightOf_39
    · refine g_iload_n (pc := 10) h 2 rfl dX7_weightOf_10 ?_
      refine g_iload_n (pc := 11) h 1 rfl dX7_weightOf_11 ?_
      refine g_iload_n (pc := 12) h 3 rfl dX7_weightOf_12 ?_
      refine g_ishr (pc := 13) h dX7_weightOf_13 ?_
      refine g_iconst (pc := 14) (v := (1 : Int32)) h dX7_weightOf_14 (by decide) ?_
      refine g_iand (pc := 15) h dX7_weightOf_15 ?_
      refine g_iconst (pc := 16) (v := (1 : Int32)) h dX7_weightOf_16 (by decide) ?_
      refine g_icmp_ne (pc := 17) (tgt := 29) h dX7_weightOf_17 (by decide) hF (fun hF => ?_) (fun hF => ?_)
      · refine g_iconst (pc := 29) (v := (0 : Int32)) h dX7_weightOf_29 (by decide) ?_
        refine g_lv (lv' := [(0, .inr (.inl (some t))), (1, .inl x1), (3, .inl x3)]) [0, 1, 3] rfl ?_
        exact kX7_weightOf_30 h hr hnL ht (fun z0 z1 z2 z3 hF => ih z0 z1 z2 z3 hF) _ _ _ _ _ hF
      · refine g_aload_n (pc := 20) h 0 rfl dX7_weightOf_20 ?_
        refine g_getR (pc := 21) h fdX7_23 (inw ht) rfl dX7_weightOf_21 ?_
        refine g_iload_n (pc := 24) h 3 rfl dX7_weightOf_24 ?_
        refine g_dr hF (fun a_1 e_a_1 h_a_1 hF => ?_)
        rw [e_a_1]
        obtain ⟨g_1, hF⟩ := grd_ok hF
        refine g_iald (pc := 25) h h_a_1 g_1 dX7_weightOf_25 ?_
        refine g_goto (pc := 26) (tgt := 30) h dX7_weightOf_26 (by decide) ?_
        refine g_lv (lv' := [(0, .inr (.inl (some t))), (1, .inl x1), (3, .inl x3)]) [0, 1, 3] rfl ?_
        exact kX7_weightOf_30 h hr hnL ht (fun z0 z1 z2 z3 hF => ih z0 z1 z2 z3 hF) _ _ _ _ _ hF
def fX7_weightOf (t : Nat) (x1 : Int32) (w : Wd) : Option (Int32 × Wd) :=
  fX7_weightOf_4 t FU x1 (0 : Int32) (0 : Int32) w
set_option maxHeartbeats 4000000 in
theorem mX7_weightOf {Γ : En} {t : Nat} {x1 : Int32} {w : Wd} (ht : t < wn w ∧ kd t = 7) : MtI Γ yX7_weightOf cX7_weightOf 4 (some .int) 2 0 0 [rv Γ (some t), .int x1] w (fX7_weightOf t x1 w) := by
  refine mtI [.inr (.inl (some t)), .inl x1] rfl (Nat.le_of_ble_eq_true rfl) (fun X hΓ hnL hn0 h _ hr hF => ?_)
  subst hΓ
  have ht : InN X t 7 := ⟨by rw [hn0]; exact ht.1, ht.2⟩
  have h : Ok X cX7_weightOf RX7 2 0 0 := h
  have hj : ∀ j, j < 4 → j < nLX X := fun j q => by rw [hnL]; exact q
  show G X 0 0 0 [(0, .inr (.inl (some t))), (1, .inl x1)] [] w
  unfold fX7_weightOf at hF
  refine g_iconst (pc := 0) (v := (0 : Int32)) h dX7_weightOf_0 (by decide) ?_
  refine g_istore_n (pc := 1) (lv' := [(2, .inl (0 : Int32)), (0, .inr (.inl (some t))), (1, .inl x1)]) h dX7_weightOf_1 (hj 2 (by decide)) rfl ?_
  refine g_iconst (pc := 2) (v := (0 : Int32)) h dX7_weightOf_2 (by decide) ?_
  refine g_istore_n (pc := 3) (lv' := [(3, .inl (0 : Int32)), (2, .inl (0 : Int32)), (0, .inr (.inl (some t))), (1, .inl x1)]) h dX7_weightOf_3 (hj 3 (by decide)) rfl ?_
  refine g_lv (lv' := [(0, .inr (.inl (some t))), (1, .inl x1), (2, .inl (0 : Int32)), (3, .inl (0 : Int32))]) [2, 3, 1, 0] rfl ?_
  exact kX7_weightOf_4 h hr hnL ht _ _ _ _ _ hF
def fX7_begins (t : Nat) (x1 : Int32) (w : Wd) : Option (Unit × Wd) :=
  dr (gR w t 10) 8 w (fun a_1 => grd (vin (((5 : Int32) * x1) + (1 : Int32)) (ln a_1)) (lt (gI w a_1 (((5 : Int32) * x1) + (1 : Int32)).toNatClampNeg) (fun x2_2 => dr (gR w t 10) 8 w (fun a_3 => grd (vin (((5 : Int32) * x1) + (2 : Int32)) (ln a_3)) (bnd (fX7_weightOf t (x2_2 &&& (gI w a_3 (((5 : Int32) * x1) + (2 : Int32)).toNatClampNeg)) w) (fun x_4 w_5 => lw (sI w_5 t 27 x_4) (fun w_6 => dr (gR w_6 t 10) 8 w_6 (fun a_7 => grd (vin (((5 : Int32) * x1) + (2 : Int32)) (ln a_7)) (bnd (fX7_weightOf t (x2_2 &&& ((gI w_6 a_7 (((5 : Int32) * x1) + (2 : Int32)).toNatClampNeg) ^^^ (-1 : Int32))) w_6) (fun x_8 w_9 => lw (sI w_9 t 28 x_8) (fun w_10 => dr (gR w_10 t 10) 8 w_10 (fun a_11 => grd (vin (((5 : Int32) * x1) + (3 : Int32)) (ln a_11)) (lw (sI w_10 t 29 (gI w_10 a_11 (((5 : Int32) * x1) + (3 : Int32)).toNatClampNeg)) (fun w_12 => dr (gR w_12 t 10) 8 w_12 (fun a_13 => grd (vin (((5 : Int32) * x1) + (4 : Int32)) (ln a_13)) (lw (sI w_12 t 30 (gI w_12 a_13 (((5 : Int32) * x1) + (4 : Int32)).toNatClampNeg)) (fun w_14 => lw (sI w_14 t 31 (gI w_14 t 7)) (fun w_15 => some ((), w_15)))))))))))))))))))
set_option maxHeartbeats 4000000 in
theorem mX7_begins {Γ : En} {t : Nat} {x1 : Int32} {w : Wd} (ht : t < wn w ∧ kd t = 7) : MtV Γ yX7_begins cX7_begins 3 none 3 0 0 [rv Γ (some t), .int x1] w (fX7_begins t x1 w) := by
  refine mtV [.inr (.inl (some t)), .inl x1] rfl (Nat.le_of_ble_eq_true rfl) (fun X hΓ hnL hn0 h _ hr hF => ?_)
  subst hΓ
  have ht : InN X t 7 := ⟨by rw [hn0]; exact ht.1, ht.2⟩
  have h : Ok X cX7_begins RX7 3 0 0 := h
  have hj : ∀ j, j < 3 → j < nLX X := fun j q => by rw [hnL]; exact q
  show G X 0 0 0 [(0, .inr (.inl (some t))), (1, .inl x1)] [] w
  unfold fX7_begins at hF
  refine g_aload_n (pc := 0) h 0 rfl dX7_begins_0 ?_
  refine g_getR (pc := 1) h fdX7_29 (inw ht) rfl dX7_begins_1 ?_
  refine g_iconst (pc := 4) (v := (5 : Int32)) h dX7_begins_4 (by decide) ?_
  refine g_iload_n (pc := 5) h 1 rfl dX7_begins_5 ?_
  refine g_imul (pc := 6) h dX7_begins_6 ?_
  refine g_iconst (pc := 7) (v := (1 : Int32)) h dX7_begins_7 (by decide) ?_
  refine g_iadd (pc := 8) h dX7_begins_8 ?_
  refine g_dr hF (fun a_1 e_a_1 h_a_1 hF => ?_)
  rw [e_a_1]
  obtain ⟨g_1, hF⟩ := grd_ok hF
  refine g_iald (pc := 9) h h_a_1 g_1 dX7_begins_9 ?_
  refine g_t hF (fun x2_2 hF => ?_)
  refine g_istore_n (pc := 10) (lv' := [(2, .inl x2_2), (0, .inr (.inl (some t))), (1, .inl x1)]) h dX7_begins_10 (hj 2 (by decide)) rfl ?_
  refine g_aload_n (pc := 11) h 1 rfl dX7_begins_11 ?_
  refine g_aload_n (pc := 12) h 1 rfl dX7_begins_12 ?_
  refine g_iload_n (pc := 13) h 0 rfl dX7_begins_13 ?_
  refine g_aload_n (pc := 14) h 1 rfl dX7_begins_14 ?_
  refine g_getR (pc := 15) h fdX7_29 (inw ht) rfl dX7_begins_15 ?_
  refine g_iconst (pc := 18) (v := (5 : Int32)) h dX7_begins_18 (by decide) ?_
  refine g_iload_n (pc := 19) h 2 rfl dX7_begins_19 ?_
  refine g_imul (pc := 20) h dX7_begins_20 ?_
  refine g_iconst (pc := 21) (v := (2 : Int32)) h dX7_begins_21 (by decide) ?_
  refine g_iadd (pc := 22) h dX7_begins_22 ?_
  refine g_dr hF (fun a_3 e_a_3 h_a_3 hF => ?_)
  rw [e_a_3]
  obtain ⟨g_2, hF⟩ := grd_ok hF
  refine g_iald (pc := 23) h h_a_3 g_2 dX7_begins_23 ?_
  refine g_iand (pc := 24) h dX7_begins_24 ?_
  refine g_cvI (pc := 25) (st := [rv X.1 (some t)]) h mX7_weightOf cvX7_337 (inw ht) (by decide) ⟨by decide, by decide⟩ (Nat.le_of_ble_eq_true rfl) rfl rfl dX7_begins_25 hF (fun x_4 w_5 hF => ?_)
  refine g_putI (pc := 28) h fdX7_113 (inw ht) (by decide) ⟨rfl, rfl⟩ dX7_begins_28 ?_
  refine g_w hF (fun w_6 hF => ?_)
  refine g_aload_n (pc := 31) h 1 rfl dX7_begins_31 ?_
  refine g_aload_n (pc := 32) h 1 rfl dX7_begins_32 ?_
  refine g_iload_n (pc := 33) h 0 rfl dX7_begins_33 ?_
  refine g_aload_n (pc := 34) h 1 rfl dX7_begins_34 ?_
  refine g_getR (pc := 35) h fdX7_29 (inw ht) rfl dX7_begins_35 ?_
  refine g_iconst (pc := 38) (v := (5 : Int32)) h dX7_begins_38 (by decide) ?_
  refine g_iload_n (pc := 39) h 2 rfl dX7_begins_39 ?_
  refine g_imul (pc := 40) h dX7_begins_40 ?_
  refine g_iconst (pc := 41) (v := (2 : Int32)) h dX7_begins_41 (by decide) ?_
  refine g_iadd (pc := 42) h dX7_begins_42 ?_
  refine g_dr hF (fun a_7 e_a_7 h_a_7 hF => ?_)
  rw [e_a_7]
  obtain ⟨g_3, hF⟩ := grd_ok hF
  refine g_iald (pc := 43) h h_a_7 g_3 dX7_begins_43 ?_
  refine g_iconst (pc := 44) (v := (-1 : Int32)) h dX7_begins_44 (by decide) ?_
  refine g_ixor (pc := 45) h dX7_begins_45 ?_
  refine g_iand (pc := 46) h dX7_begins_46 ?_
  refine g_cvI (pc := 47) (st := [rv X.1 (some t)]) h mX7_weightOf cvX7_337 (inw ht) (by decide) ⟨by decide, by decide⟩ (Nat.le_of_ble_eq_true rfl) rfl rfl dX7_begins_47 hF (fun x_8 w_9 hF => ?_)
  refine g_putI (pc := 50) h fdX7_116 (inw ht) (by decide) ⟨rfl, rfl⟩ dX7_begins_50 ?_
  refine g_w hF (fun w_10 hF => ?_)
  refine g_aload_n (pc := 53) h 1 rfl dX7_begins_53 ?_
  refine g_aload_n (pc := 54) h 1 rfl dX7_begins_54 ?_
  refine g_getR (pc := 55) h fdX7_29 (inw ht) rfl dX7_begins_55 ?_
  refine g_iconst (pc := 58) (v := (5 : Int32)) h dX7_begins_58 (by decide) ?_
  refine g_iload_n (pc := 59) h 2 rfl dX7_begins_59 ?_
  refine g_imul (pc := 60) h dX7_begins_60 ?_
  refine g_iconst (pc := 61) (v := (3 : Int32)) h dX7_begins_61 (by decide) ?_
  refine g_iadd (pc := 62) h dX7_begins_62 ?_
  refine g_dr hF (fun a_11 e_a_11 h_a_11 hF => ?_)
  rw [e_a_11]
  obtain ⟨g_4, hF⟩ := grd_ok hF
  refine g_iald (pc := 63) h h_a_11 g_4 dX7_begins_63 ?_
  refine g_putI (pc := 64) h fdX7_340 (inw ht) (by decide) ⟨rfl, rfl⟩ dX7_begins_64 ?_
  refine g_w hF (fun w_12 hF => ?_)
  refine g_aload_n (pc := 67) h 1 rfl dX7_begins_67 ?_
  refine g_aload_n (pc := 68) h 1 rfl dX7_begins_68 ?_
  refine g_getR (pc := 69) h fdX7_29 (inw ht) rfl dX7_begins_69 ?_
  refine g_iconst (pc := 72) (v := (5 : Int32)) h dX7_begins_72 (by decide) ?_
  refine g_iload_n (pc := 73) h 2 rfl dX7_begins_73 ?_
  refine g_imul (pc := 74) h dX7_begins_74 ?_
  refine g_iconst (pc := 75) (v := (4 : Int32)) h dX7_begins_75 (by decide) ?_
  refine g_iadd (pc := 76) h dX7_begins_76 ?_
  refine g_dr hF (fun a_13 e_a_13 h_a_13 hF => ?_)
  rw [e_a_13]
  obtain ⟨g_5, hF⟩ := grd_ok hF
  refine g_iald (pc := 77) h h_a_13 g_5 dX7_begins_77 ?_
  refine g_putI (pc := 78) h fdX7_128 (inw ht) (by decide) ⟨rfl, rfl⟩ dX7_begins_78 ?_
  refine g_w hF (fun w_14 hF => ?_)
  refine g_aload_n (pc := 81) h 1 rfl dX7_begins_81 ?_
  refine g_aload_n (pc := 82) h 1 rfl dX7_begins_82 ?_
  refine g_getI (pc := 83) h fdX7_95 (inw ht) (by decide) dX7_begins_83 ?_
  refine g_putI (pc := 86) h fdX7_343 (inw ht) (by decide) ⟨rfl, rfl⟩ dX7_begins_86 ?_
  refine g_w hF (fun w_15 hF => ?_)
  exact g_vret (pc := 89) h hr ⟨Nat.le_refl _, Nat.le_refl _⟩ hF dX7_begins_89
def fX7_asks_85 (t : Nat) (y0 : Int32) (y1 : Int32) (y2 : Int32) (w : Wd) : Option (Int32 × Wd) :=
  bnd (fX7_within y2 y1 y0 w) (fun x_10 w_11 => some (x_10, w_11))
set_option maxHeartbeats 4000000 in
theorem kX7_asks_85 {X : Cx} (h : Ok X cX7_asks RX7 44 0 0) (hr : RetI X .int 0 0) (hnL : nLX X = 4) {t : Nat} (ht : InN X t 7) : ∀ (y0 : Int32) (y1 : Int32) (y2 : Int32) (w : Wd), OkR X Value.int (fX7_asks_85 t y0 y1 y2 w) → G X 0 0 85 [] [.int y0, .int y1, .int y2] w := by
  have hj : ∀ j, j < 4 → j < nLX X := fun j q => by rw [hnL]; exact q
  intro y0 y1 y2 w hF
  unfold fX7_asks_85 at hF
  refine g_csI (pc := 85) (st := []) h mX7_within csX7_346 (by decide) ⟨by decide, by decide⟩ (Nat.le_of_ble_eq_true rfl) rfl rfl dX7_asks_85 hF (fun x_10 w_11 hF => ?_)
  exact g_iret (pc := 88) h hr ⟨Nat.le_refl _, Nat.le_refl _⟩ hF dX7_asks_88
def fX7_asks (t : Nat) (x1 : Int32) (x2 : Int32) (w : Wd) : Option (Int32 × Wd) :=
  lw (sI w t 12 (gI w t 27)) (fun w_1 => lw (sI w_1 t 13 (gI w_1 t 28)) (fun w_2 => lw (sI w_2 t 14 (gI w_2 t 29)) (fun w_3 => dr (gR w_3 t 10) 8 w_3 (fun a_4 => grd (vin ((5 : Int32) * x2) (ln a_4)) (lw (sI w_3 t 15 (gI w_3 a_4 ((5 : Int32) * x2).toNatClampNeg)) (fun w_5 => lw (sI w_5 t 16 (gI w_5 t 31)) (fun w_6 => lw (sI w_6 t 17 (gI w_6 t 30)) (fun w_7 => bnd (fX7_read t (gI w_7 t 4) x1 w_7) (fun x_8 w_9 => if x1 = (2 : Int32) then
    (some (x_8, w_9))
  else
    (if x1 = 0 then
      (fX7_asks_85 t (999 : Int32) (0 : Int32) x_8 w_9)
    else
      (fX7_asks_85 t (99 : Int32) (0 : Int32) x_8 w_9)))))))))))
set_option maxHeartbeats 4000000 in
theorem mX7_asks {Γ : En} {t : Nat} {x1 : Int32} {x2 : Int32} {w : Wd} (ht : t < wn w ∧ kd t = 7) : MtI Γ yX7_asks cX7_asks 4 (some .int) 44 0 0 [rv Γ (some t), .int x1, .int x2] w (fX7_asks t x1 x2 w) := by
  refine mtI [.inr (.inl (some t)), .inl x1, .inl x2] rfl (Nat.le_of_ble_eq_true rfl) (fun X hΓ hnL hn0 h _ hr hF => ?_)
  subst hΓ
  have ht : InN X t 7 := ⟨by rw [hn0]; exact ht.1, ht.2⟩
  have h : Ok X cX7_asks RX7 44 0 0 := h
  have hj : ∀ j, j < 4 → j < nLX X := fun j q => by rw [hnL]; exact q
  show G X 0 0 0 [(0, .inr (.inl (some t))), (1, .inl x1), (2, .inl x2)] [] w
  unfold fX7_asks at hF
  refine g_aload_n (pc := 0) h 0 rfl dX7_asks_0 ?_
  refine g_aload_n (pc := 1) h 0 rfl dX7_asks_1 ?_
  refine g_getI (pc := 2) h fdX7_113 (inw ht) (by decide) dX7_asks_2 ?_
  refine g_putI (pc := 5) h fdX7_189 (inw ht) (by decide) ⟨rfl, rfl⟩ dX7_asks_5 ?_
  refine g_w hF (fun w_1 hF => ?_)
  refine g_aload_n (pc := 8) h 0 rfl dX7_asks_8 ?_
  refine g_aload_n (pc := 9) h 0 rfl dX7_asks_9 ?_
  refine g_getI (pc := 10) h fdX7_116 (inw ht) (by decide) dX7_asks_10 ?_
  refine g_putI (pc := 13) h fdX7_192 (inw ht) (by decide) ⟨rfl, rfl⟩ dX7_asks_13 ?_
  refine g_w hF (fun w_2 hF => ?_)
  refine g_aload_n (pc := 16) h 0 rfl dX7_asks_16 ?_
  refine g_aload_n (pc := 17) h 0 rfl dX7_asks_17 ?_
  refine g_getI (pc := 18) h fdX7_340 (inw ht) (by decide) dX7_asks_18 ?_
  refine g_putI (pc := 21) h fdX7_195 (inw ht) (by decide) ⟨rfl, rfl⟩ dX7_asks_21 ?_
  refine g_w hF (fun w_3 hF => ?_)
  refine g_aload_n (pc := 24) h 0 rfl dX7_asks_24 ?_
  refine g_aload_n (pc := 25) h 0 rfl dX7_asks_25 ?_
  refine g_getR (pc := 26) h fdX7_29 (inw ht) rfl dX7_asks_26 ?_
  refine g_iconst (pc := 29) (v := (5 : Int32)) h dX7_asks_29 (by decide) ?_
  refine g_iload_n (pc := 30) h 2 rfl dX7_asks_30 ?_
  refine g_imul (pc := 31) h dX7_asks_31 ?_
  refine g_dr hF (fun a_4 e_a_4 h_a_4 hF => ?_)
  rw [e_a_4]
  obtain ⟨g_1, hF⟩ := grd_ok hF
  refine g_iald (pc := 32) h h_a_4 g_1 dX7_asks_32 ?_
  refine g_putI (pc := 33) h fdX7_198 (inw ht) (by decide) ⟨rfl, rfl⟩ dX7_asks_33 ?_
  refine g_w hF (fun w_5 hF => ?_)
  refine g_aload_n (pc := 36) h 0 rfl dX7_asks_36 ?_
  refine g_aload_n (pc := 37) h 0 rfl dX7_asks_37 ?_
  refine g_getI (pc := 38) h fdX7_343 (inw ht) (by decide) dX7_asks_38 ?_
  refine g_putI (pc := 41) h fdX7_201 (inw ht) (by decide) ⟨rfl, rfl⟩ dX7_asks_41 ?_
  refine g_w hF (fun w_6 hF => ?_)
  refine g_aload_n (pc := 44) h 0 rfl dX7_asks_44 ?_
  refine g_aload_n (pc := 45) h 0 rfl dX7_asks_45 ?_
  refine g_getI (pc := 46) h fdX7_128 (inw ht) (by decide) dX7_asks_46 ?_
  refine g_putI (pc := 49) h fdX7_204 (inw ht) (by decide) ⟨rfl, rfl⟩ dX7_asks_49 ?_
  refine g_w hF (fun w_7 hF => ?_)
  refine g_aload_n (pc := 52) h 0 rfl dX7_asks_52 ?_
  refine g_aload_n (pc := 53) h 0 rfl dX7_asks_53 ?_
  refine g_getI (pc := 54) h fdX7_98 (inw ht) (by decide) dX7_asks_54 ?_
  refine g_iload_n (pc := 57) h 1 rfl dX7_asks_57 ?_
  refine g_cvI (pc := 58) (st := []) h mX7_read cvX7_334 (inw ht) (by decide) ⟨by decide, by decide⟩ (Nat.le_of_ble_eq_true rfl) rfl rfl dX7_asks_58 hF (fun x_8 w_9 hF => ?_)
  refine g_istore_n (pc := 61) (lv' := [(3, .inl x_8), (0, .inr (.inl (some t))), (1, .inl x1), (2, .inl x2)]) h dX7_asks_61 (hj 3 (by decide)) rfl ?_
  refine g_iload_n (pc := 62) h 2 rfl dX7_asks_62 ?_
  refine g_iconst (pc := 63) (v := (2 : Int32)) h dX7_asks_63 (by decide) ?_
  refine g_icmp_ne (pc := 64) (tgt := 71) h dX7_asks_64 (by decide) hF (fun hF => ?_) (fun hF => ?_)
  · refine g_iload_n (pc := 71) h 0 rfl dX7_asks_71 ?_
    refine g_iconst (pc := 72) (v := (0 : Int32)) h dX7_asks_72 (by decide) ?_
    refine g_iload_n (pc := 73) h 2 rfl dX7_asks_73 ?_
    refine g_if_ne (pc := 74) (tgt := 83) h dX7_asks_74 (by decide) hF (fun hF => ?_) (fun hF => ?_)
    · refine g_bipush (pc := 83) (v := (99 : Int32)) h dX7_asks_83 (by decide) ?_
      refine g_lv (lv' := []) [] rfl ?_
      exact kX7_asks_85 h hr hnL ht _ _ _ _ hF
    · refine g_sipush (pc := 77) (v := (999 : Int32)) h dX7_asks_77 (by decide) ?_
      refine g_goto (pc := 80) (tgt := 85) h dX7_asks_80 (by decide) ?_
      refine g_lv (lv' := []) [] rfl ?_
      exact kX7_asks_85 h hr hnL ht _ _ _ _ hF
  · refine g_iload_n (pc := 67) h 0 rfl dX7_asks_67 ?_
    refine g_goto (pc := 68) (tgt := 88) h dX7_asks_68 (by decide) ?_
    exact g_iret (pc := 88) h hr ⟨Nat.le_refl _, Nat.le_refl _⟩ hF dX7_asks_88
def fX7_isStopped_17 (t : Nat) (x2 : Int32) (w : Wd) : Option (Int32 × Wd) :=
  if x2 = (5 : Int32) then
    (if (gI w t 28) ≤ 0 then
      (some ((0 : Int32), w))
    else
      (some ((1 : Int32), w)))
  else
    (some ((0 : Int32), w))
set_option maxHeartbeats 4000000 in
theorem kX7_isStopped_17 {X : Cx} (h : Ok X cX7_isStopped RX7 45 0 0) (hr : RetI X .boolean 0 0) (hnL : nLX X = 4) {t : Nat} (ht : InN X t 7) : ∀ (x2 : Int32) (w : Wd), OkR X Value.int (fX7_isStopped_17 t x2 w) → G X 0 0 17 [(0, .inr (.inl (some t))), (2, .inl x2)] [] w := by
  have hj : ∀ j, j < 4 → j < nLX X := fun j q => by rw [hnL]; exact q
  intro x2 w hF
  unfold fX7_isStopped_17 at hF
  refine g_iload_n (pc := 17) h 1 rfl dX7_isStopped_17 ?_
  refine g_iconst (pc := 18) (v := (5 : Int32)) h dX7_isStopped_18 (by decide) ?_
  refine g_icmp_ne (pc := 19) (tgt := 33) h dX7_isStopped_19 (by decide) hF (fun hF => ?_) (fun hF => ?_)
  · refine g_iconst (pc := 33) (v := (0 : Int32)) h dX7_isStopped_33 (by decide) ?_
    exact g_zret (pc := 34) h hr ⟨Nat.le_refl _, Nat.le_refl _⟩ (by decide) hF dX7_isStopped_34
  · refine g_aload_n (pc := 22) h 0 rfl dX7_isStopped_22 ?_
    refine g_getI (pc := 23) h fdX7_116 (inw ht) (by decide) dX7_isStopped_23 ?_
    refine g_if_le (pc := 26) (tgt := 33) h dX7_isStopped_26 (by decide) hF (fun hF => ?_) (fun hF => ?_)
    · refine g_iconst (pc := 33) (v := (0 : Int32)) h dX7_isStopped_33 (by decide) ?_
      exact g_zret (pc := 34) h hr ⟨Nat.le_refl _, Nat.le_refl _⟩ (by decide) hF dX7_isStopped_34
    · refine g_iconst (pc := 29) (v := (1 : Int32)) h dX7_isStopped_29 (by decide) ?_
      refine g_goto (pc := 30) (tgt := 34) h dX7_isStopped_30 (by decide) ?_
      exact g_zret (pc := 34) h hr ⟨Nat.le_refl _, Nat.le_refl _⟩ (by decide) hF dX7_isStopped_34
def fX7_isStopped_71 (t : Nat) (w : Wd) : Option (Int32 × Wd) :=
  some ((0 : Int32), w)
set_option maxHeartbeats 4000000 in
theorem kX7_isStopped_71 {X : Cx} (h : Ok X cX7_isStopped RX7 45 0 0) (hr : RetI X .boolean 0 0) (hnL : nLX X = 4) {t : Nat} (ht : InN X t 7) : ∀ (w : Wd), OkR X Value.int (fX7_isStopped_71 t  w) → G X 0 0 71 [] [] w := by
  have hj : ∀ j, j < 4 → j < nLX X := fun j q => by rw [hnL]; exact q
  intro w hF
  unfold fX7_isStopped_71 at hF
  refine g_iconst (pc := 71) (v := (0 : Int32)) h dX7_isStopped_71 (by decide) ?_
  refine g_goto (pc := 72) (tgt := 107) h dX7_isStopped_72 (by decide) ?_
  exact g_zret (pc := 107) h hr ⟨Nat.le_refl _, Nat.le_refl _⟩ (by decide) hF dX7_isStopped_107
def fX7_isStopped_98 (t : Nat) (w : Wd) : Option (Int32 × Wd) :=
  some ((1 : Int32), w)
set_option maxHeartbeats 4000000 in
theorem kX7_isStopped_98 {X : Cx} (h : Ok X cX7_isStopped RX7 45 0 0) (hr : RetI X .boolean 0 0) (hnL : nLX X = 4) {t : Nat} (ht : InN X t 7) : ∀ (w : Wd), OkR X Value.int (fX7_isStopped_98 t  w) → G X 0 0 98 [] [] w := by
  have hj : ∀ j, j < 4 → j < nLX X := fun j q => by rw [hnL]; exact q
  intro w hF
  unfold fX7_isStopped_98 at hF
  refine g_iconst (pc := 98) (v := (1 : Int32)) h dX7_isStopped_98 (by decide) ?_
  refine g_goto (pc := 99) (tgt := 107) h dX7_isStopped_99 (by decide) ?_
  exact g_zret (pc := 107) h hr ⟨Nat.le_refl _, Nat.le_refl _⟩ (by decide) hF dX7_isStopped_107
def fX7_isStopped_85 (t : Nat) (x3 : Int32) (w : Wd) : Option (Int32 × Wd) :=
  if x3 = 0 then
    (if (gI w t 28) ≤ (30 : Int32) then
      (some ((0 : Int32), w))
    else
      (fX7_isStopped_98 t w))
  else
    (fX7_isStopped_98 t w)
set_option maxHeartbeats 4000000 in
theorem kX7_isStopped_85 {X : Cx} (h : Ok X cX7_isStopped RX7 45 0 0) (hr : RetI X .boolean 0 0) (hnL : nLX X = 4) {t : Nat} (ht : InN X t 7) : ∀ (x3 : Int32) (w : Wd), OkR X Value.int (fX7_isStopped_85 t x3 w) → G X 0 0 85 [(0, .inr (.inl (some t))), (3, .inl x3)] [] w := by
  have hj : ∀ j, j < 4 → j < nLX X := fun j q => by rw [hnL]; exact q
  intro x3 w hF
  unfold fX7_isStopped_85 at hF
  refine g_iload_n (pc := 85) h 1 rfl dX7_isStopped_85 ?_
  refine g_if_ne (pc := 86) (tgt := 98) h dX7_isStopped_86 (by decide) hF (fun hF => ?_) (fun hF => ?_)
  · refine g_lv (lv' := []) [] rfl ?_
    exact kX7_isStopped_98 h hr hnL ht _ hF
  · refine g_aload_n (pc := 89) h 0 rfl dX7_isStopped_89 ?_
    refine g_getI (pc := 90) h fdX7_116 (inw ht) (by decide) dX7_isStopped_90 ?_
    refine g_bipush (pc := 93) (v := (30 : Int32)) h dX7_isStopped_93 (by decide) ?_
    refine g_icmp_le (pc := 95) (tgt := 102) h dX7_isStopped_95 (by decide) hF (fun hF => ?_) (fun hF => ?_)
    · refine g_iconst (pc := 102) (v := (0 : Int32)) h dX7_isStopped_102 (by decide) ?_
      refine g_goto (pc := 103) (tgt := 107) h dX7_isStopped_103 (by decide) ?_
      exact g_zret (pc := 107) h hr ⟨Nat.le_refl _, Nat.le_refl _⟩ (by decide) hF dX7_isStopped_107
    · refine g_lv (lv' := []) [] rfl ?_
      exact kX7_isStopped_98 h hr hnL ht _ hF
def fX7_isStopped_49 (t : Nat) (x2 : Int32) (y0 : Int32) (w : Wd) : Option (Int32 × Wd) :=
  if x2 = (1 : Int32) then
    (if y0 = 0 then
      (fX7_isStopped_71 t w)
    else
      (if (gI w t 28) ≤ (5 : Int32) then
        (fX7_isStopped_71 t w)
      else
        (some ((1 : Int32), w))))
  else
    (if x2 = (2 : Int32) then
      (fX7_isStopped_85 t y0 w)
    else
      (if x2 = (4 : Int32) then
        (fX7_isStopped_85 t y0 w)
      else
        (grd (y0 = 0 ∨ y0 = 1) (some (y0, w)))))
set_option maxHeartbeats 4000000 in
theorem kX7_isStopped_49 {X : Cx} (h : Ok X cX7_isStopped RX7 45 0 0) (hr : RetI X .boolean 0 0) (hnL : nLX X = 4) {t : Nat} (ht : InN X t 7) : ∀ (x2 : Int32) (y0 : Int32) (w : Wd), OkR X Value.int (fX7_isStopped_49 t x2 y0 w) → G X 0 0 49 [(0, .inr (.inl (some t))), (2, .inl x2)] [.int y0] w := by
  have hj : ∀ j, j < 4 → j < nLX X := fun j q => by rw [hnL]; exact q
  intro x2 y0 w hF
  unfold fX7_isStopped_49 at hF
  refine g_istore_n (pc := 49) (lv' := [(3, .inl y0), (0, .inr (.inl (some t))), (2, .inl x2)]) h dX7_isStopped_49 (hj 3 (by decide)) rfl ?_
  refine g_iload_n (pc := 50) h 2 rfl dX7_isStopped_50 ?_
  refine g_iconst (pc := 51) (v := (1 : Int32)) h dX7_isStopped_51 (by decide) ?_
  refine g_icmp_ne (pc := 52) (tgt := 75) h dX7_isStopped_52 (by decide) hF (fun hF => ?_) (fun hF => ?_)
  · refine g_iload_n (pc := 75) h 2 rfl dX7_isStopped_75 ?_
    refine g_iconst (pc := 76) (v := (2 : Int32)) h dX7_isStopped_76 (by decide) ?_
    refine g_icmp_eq (pc := 77) (tgt := 85) h dX7_isStopped_77 (by decide) hF (fun hF => ?_) (fun hF => ?_)
    · refine g_lv (lv' := [(0, .inr (.inl (some t))), (3, .inl y0)]) [1, 0] rfl ?_
      exact kX7_isStopped_85 h hr hnL ht _ _ hF
    · refine g_iload_n (pc := 80) h 2 rfl dX7_isStopped_80 ?_
      refine g_iconst (pc := 81) (v := (4 : Int32)) h dX7_isStopped_81 (by decide) ?_
      refine g_icmp_ne (pc := 82) (tgt := 106) h dX7_isStopped_82 (by decide) hF (fun hF => ?_) (fun hF => ?_)
      · refine g_iload_n (pc := 106) h 0 rfl dX7_isStopped_106 ?_
        obtain ⟨g_2, hF⟩ := grd_ok hF
        exact g_zret (pc := 107) h hr ⟨Nat.le_refl _, Nat.le_refl _⟩ (bz_ok g_2).1 hF dX7_isStopped_107
      · refine g_lv (lv' := [(0, .inr (.inl (some t))), (3, .inl y0)]) [1, 0] rfl ?_
        exact kX7_isStopped_85 h hr hnL ht _ _ hF
  · refine g_iload_n (pc := 55) h 0 rfl dX7_isStopped_55 ?_
    refine g_if_eq (pc := 56) (tgt := 71) h dX7_isStopped_56 (by decide) hF (fun hF => ?_) (fun hF => ?_)
    · refine g_lv (lv' := []) [] rfl ?_
      exact kX7_isStopped_71 h hr hnL ht _ hF
    · refine g_aload_n (pc := 59) h 1 rfl dX7_isStopped_59 ?_
      refine g_getI (pc := 60) h fdX7_116 (inw ht) (by decide) dX7_isStopped_60 ?_
      refine g_iconst (pc := 63) (v := (5 : Int32)) h dX7_isStopped_63 (by decide) ?_
      refine g_icmp_le (pc := 64) (tgt := 71) h dX7_isStopped_64 (by decide) hF (fun hF => ?_) (fun hF => ?_)
      · refine g_lv (lv' := []) [] rfl ?_
        exact kX7_isStopped_71 h hr hnL ht _ hF
      · refine g_iconst (pc := 67) (v := (1 : Int32)) h dX7_isStopped_67 (by decide) ?_
        refine g_goto (pc := 68) (tgt := 107) h dX7_isStopped_68 (by decide) ?_
        exact g_zret (pc := 107) h hr ⟨Nat.le_refl _, Nat.le_refl _⟩ (by decide) hF dX7_isStopped_107
def fX7_isStopped (t : Nat) (x1 : Int32) (w : Wd) : Option (Int32 × Wd) :=
  dr (gR w t 9) 8 w (fun a_1 => grd (vin x1 (ln a_1)) (lt (gI w a_1 x1.toNatClampNeg) (fun x2_2 => if x2_2 = (3 : Int32) then
    (fX7_isStopped_17 t x2_2 w)
  else
    (if x2_2 = (5 : Int32) then
      (fX7_isStopped_17 t x2_2 w)
    else
      (bnd (fX7_asks t (2 : Int32) x1 w) (fun x_3 w_4 => if x_3 = 0 then
        (fX7_isStopped_49 t x2_2 (0 : Int32) w_4)
      else
        (fX7_isStopped_49 t x2_2 (1 : Int32) w_4)))))))
set_option maxHeartbeats 4000000 in
theorem mX7_isStopped {Γ : En} {t : Nat} {x1 : Int32} {w : Wd} (ht : t < wn w ∧ kd t = 7) : MtI Γ yX7_isStopped cX7_isStopped 4 (some .boolean) 45 0 0 [rv Γ (some t), .int x1] w (fX7_isStopped t x1 w) := by
  refine mtI [.inr (.inl (some t)), .inl x1] rfl (Nat.le_of_ble_eq_true rfl) (fun X hΓ hnL hn0 h _ hr hF => ?_)
  subst hΓ
  have ht : InN X t 7 := ⟨by rw [hn0]; exact ht.1, ht.2⟩
  have h : Ok X cX7_isStopped RX7 45 0 0 := h
  have hj : ∀ j, j < 4 → j < nLX X := fun j q => by rw [hnL]; exact q
  show G X 0 0 0 [(0, .inr (.inl (some t))), (1, .inl x1)] [] w
  unfold fX7_isStopped at hF
  refine g_aload_n (pc := 0) h 0 rfl dX7_isStopped_0 ?_
  refine g_getR (pc := 1) h fdX7_26 (inw ht) rfl dX7_isStopped_1 ?_
  refine g_iload_n (pc := 4) h 1 rfl dX7_isStopped_4 ?_
  refine g_dr hF (fun a_1 e_a_1 h_a_1 hF => ?_)
  rw [e_a_1]
  obtain ⟨g_1, hF⟩ := grd_ok hF
  refine g_iald (pc := 5) h h_a_1 g_1 dX7_isStopped_5 ?_
  refine g_t hF (fun x2_2 hF => ?_)
  refine g_istore_n (pc := 6) (lv' := [(2, .inl x2_2), (0, .inr (.inl (some t))), (1, .inl x1)]) h dX7_isStopped_6 (hj 2 (by decide)) rfl ?_
  refine g_iload_n (pc := 7) h 0 rfl dX7_isStopped_7 ?_
  refine g_iconst (pc := 8) (v := (3 : Int32)) h dX7_isStopped_8 (by decide) ?_
  refine g_icmp_eq (pc := 9) (tgt := 17) h dX7_isStopped_9 (by decide) hF (fun hF => ?_) (fun hF => ?_)
  · refine g_lv (lv' := [(0, .inr (.inl (some t))), (2, .inl x2_2)]) [1, 0] rfl ?_
    exact kX7_isStopped_17 h hr hnL ht _ _ hF
  · refine g_iload_n (pc := 12) h 0 rfl dX7_isStopped_12 ?_
    refine g_iconst (pc := 13) (v := (5 : Int32)) h dX7_isStopped_13 (by decide) ?_
    refine g_icmp_ne (pc := 14) (tgt := 35) h dX7_isStopped_14 (by decide) hF (fun hF => ?_) (fun hF => ?_)
    · refine g_aload_n (pc := 35) h 1 rfl dX7_isStopped_35 ?_
      refine g_iconst (pc := 36) (v := (2 : Int32)) h dX7_isStopped_36 (by decide) ?_
      refine g_iload_n (pc := 37) h 2 rfl dX7_isStopped_37 ?_
      refine g_cvI (pc := 38) (st := []) h mX7_asks cvX7_350 (inw ht) (by decide) ⟨by decide, by decide⟩ (Nat.le_of_ble_eq_true rfl) rfl rfl dX7_isStopped_38 hF (fun x_3 w_4 hF => ?_)
      refine g_if_eq (pc := 41) (tgt := 48) h dX7_isStopped_41 (by decide) hF (fun hF => ?_) (fun hF => ?_)
      · refine g_iconst (pc := 48) (v := (0 : Int32)) h dX7_isStopped_48 (by decide) ?_
        refine g_lv (lv' := [(0, .inr (.inl (some t))), (2, .inl x2_2)]) [1, 0] rfl ?_
        exact kX7_isStopped_49 h hr hnL ht _ _ _ hF
      · refine g_iconst (pc := 44) (v := (1 : Int32)) h dX7_isStopped_44 (by decide) ?_
        refine g_goto (pc := 45) (tgt := 49) h dX7_isStopped_45 (by decide) ?_
        refine g_lv (lv' := [(0, .inr (.inl (some t))), (2, .inl x2_2)]) [1, 0] rfl ?_
        exact kX7_isStopped_49 h hr hnL ht _ _ _ hF
    · refine g_lv (lv' := [(0, .inr (.inl (some t))), (2, .inl x2_2)]) [1, 0] rfl ?_
      exact kX7_isStopped_17 h hr hnL ht _ _ hF
def fX7_lastsOf_26 (t : Nat) (x2 : Int32) (w : Wd) : Option (Int32 × Wd) :=
  if x2 = (5 : Int32) then
    (some ((999 : Int32), w))
  else
    (some ((0 : Int32), w))
set_option maxHeartbeats 4000000 in
theorem kX7_lastsOf_26 {X : Cx} (h : Ok X cX7_lastsOf RX7 45 0 0) (hr : RetI X .int 0 0) (hnL : nLX X = 5) {t : Nat} (ht : InN X t 7) : ∀ (x2 : Int32) (w : Wd), OkR X Value.int (fX7_lastsOf_26 t x2 w) → G X 0 0 26 [(2, .inl x2)] [] w := by
  have hj : ∀ j, j < 5 → j < nLX X := fun j q => by rw [hnL]; exact q
  intro x2 w hF
  unfold fX7_lastsOf_26 at hF
  refine g_iload_n (pc := 26) h 0 rfl dX7_lastsOf_26 ?_
  refine g_iconst (pc := 27) (v := (5 : Int32)) h dX7_lastsOf_27 (by decide) ?_
  refine g_icmp_ne (pc := 28) (tgt := 37) h dX7_lastsOf_28 (by decide) hF (fun hF => ?_) (fun hF => ?_)
  · refine g_iconst (pc := 37) (v := (0 : Int32)) h dX7_lastsOf_37 (by decide) ?_
    exact g_iret (pc := 38) h hr ⟨Nat.le_refl _, Nat.le_refl _⟩ hF dX7_lastsOf_38
  · refine g_sipush (pc := 31) (v := (999 : Int32)) h dX7_lastsOf_31 (by decide) ?_
    refine g_goto (pc := 34) (tgt := 38) h dX7_lastsOf_34 (by decide) ?_
    exact g_iret (pc := 38) h hr ⟨Nat.le_refl _, Nat.le_refl _⟩ hF dX7_lastsOf_38
def fX7_lastsOf_97 (t : Nat) (y0 : Int32) (w : Wd) : Option (Int32 × Wd) :=
  bnd (fX7_within y0 (0 : Int32) (9999 : Int32) w) (fun x_6 w_7 => some (x_6, w_7))
set_option maxHeartbeats 4000000 in
theorem kX7_lastsOf_97 {X : Cx} (h : Ok X cX7_lastsOf RX7 45 0 0) (hr : RetI X .int 0 0) (hnL : nLX X = 5) {t : Nat} (ht : InN X t 7) : ∀ (y0 : Int32) (w : Wd), OkR X Value.int (fX7_lastsOf_97 t y0 w) → G X 0 0 97 [] [.int y0] w := by
  have hj : ∀ j, j < 5 → j < nLX X := fun j q => by rw [hnL]; exact q
  intro y0 w hF
  unfold fX7_lastsOf_97 at hF
  refine g_istore (pc := 97) (lv' := [(4, .inl y0)]) h dX7_lastsOf_97 (hj 4 (by decide)) rfl ?_
  refine g_iload (pc := 99) h 0 rfl dX7_lastsOf_99 ?_
  refine g_iconst (pc := 101) (v := (0 : Int32)) h dX7_lastsOf_101 (by decide) ?_
  refine g_sipush (pc := 102) (v := (9999 : Int32)) h dX7_lastsOf_102 (by decide) ?_
  refine g_csI (pc := 105) (st := []) h mX7_within csX7_346 (by decide) ⟨by decide, by decide⟩ (Nat.le_of_ble_eq_true rfl) rfl rfl dX7_lastsOf_105 hF (fun x_6 w_7 hF => ?_)
  exact g_iret (pc := 108) h hr ⟨Nat.le_refl _, Nat.le_refl _⟩ hF dX7_lastsOf_108
def fX7_lastsOf_56 (t : Nat) (x1 : Int32) (x3 : Int32) (w : Wd) : Option (Int32 × Wd) :=
  dr (gR w t 10) 8 w (fun a_5 => grd (vin ((5 : Int32) * x1) (ln a_5)) (fX7_lastsOf_97 t (x3 + (gI w a_5 ((5 : Int32) * x1).toNatClampNeg)) w))
set_option maxHeartbeats 4000000 in
theorem kX7_lastsOf_56 {X : Cx} (h : Ok X cX7_lastsOf RX7 45 0 0) (hr : RetI X .int 0 0) (hnL : nLX X = 5) {t : Nat} (ht : InN X t 7) : ∀ (x1 : Int32) (x3 : Int32) (w : Wd), OkR X Value.int (fX7_lastsOf_56 t x1 x3 w) → G X 0 0 56 [(0, .inr (.inl (some t))), (1, .inl x1), (3, .inl x3)] [] w := by
  have hj : ∀ j, j < 5 → j < nLX X := fun j q => by rw [hnL]; exact q
  intro x1 x3 w hF
  unfold fX7_lastsOf_56 at hF
  refine g_iload_n (pc := 56) h 2 rfl dX7_lastsOf_56 ?_
  refine g_aload_n (pc := 57) h 0 rfl dX7_lastsOf_57 ?_
  refine g_getR (pc := 58) h fdX7_29 (inw ht) rfl dX7_lastsOf_58 ?_
  refine g_iconst (pc := 61) (v := (5 : Int32)) h dX7_lastsOf_61 (by decide) ?_
  refine g_iload_n (pc := 62) h 1 rfl dX7_lastsOf_62 ?_
  refine g_imul (pc := 63) h dX7_lastsOf_63 ?_
  refine g_dr hF (fun a_5 e_a_5 h_a_5 hF => ?_)
  rw [e_a_5]
  obtain ⟨g_2, hF⟩ := grd_ok hF
  refine g_iald (pc := 64) h h_a_5 g_2 dX7_lastsOf_64 ?_
  refine g_iadd (pc := 65) h dX7_lastsOf_65 ?_
  refine g_goto (pc := 66) (tgt := 97) h dX7_lastsOf_66 (by decide) ?_
  refine g_lv (lv' := []) [] rfl ?_
  exact kX7_lastsOf_97 h hr hnL ht _ _ hF
def fX7_lastsOf_39 (t : Nat) (x1 : Int32) (x2 : Int32) (w : Wd) : Option (Int32 × Wd) :=
  bnd (fX7_asks t (0 : Int32) x1 w) (fun x_3 w_4 => if x2 = (1 : Int32) then
    (fX7_lastsOf_56 t x1 x_3 w_4)
  else
    (if x2 = (3 : Int32) then
      (fX7_lastsOf_56 t x1 x_3 w_4)
    else
      (if x2 = (2 : Int32) then
        (fX7_lastsOf_97 t (x_3 / (2 : Int32)) w_4)
      else
        (if x2 = (4 : Int32) then
          (fX7_lastsOf_97 t ((x_3 / (2 : Int32)) + (gI w_4 t 27)) w_4)
        else
          (fX7_lastsOf_97 t x_3 w_4)))))
set_option maxHeartbeats 4000000 in
theorem kX7_lastsOf_39 {X : Cx} (h : Ok X cX7_lastsOf RX7 45 0 0) (hr : RetI X .int 0 0) (hnL : nLX X = 5) {t : Nat} (ht : InN X t 7) : ∀ (x1 : Int32) (x2 : Int32) (w : Wd), OkR X Value.int (fX7_lastsOf_39 t x1 x2 w) → G X 0 0 39 [(0, .inr (.inl (some t))), (1, .inl x1), (2, .inl x2)] [] w := by
  have hj : ∀ j, j < 5 → j < nLX X := fun j q => by rw [hnL]; exact q
  intro x1 x2 w hF
  unfold fX7_lastsOf_39 at hF
  refine g_aload_n (pc := 39) h 0 rfl dX7_lastsOf_39 ?_
  refine g_iconst (pc := 40) (v := (0 : Int32)) h dX7_lastsOf_40 (by decide) ?_
  refine g_iload_n (pc := 41) h 1 rfl dX7_lastsOf_41 ?_
  refine g_cvI (pc := 42) (st := []) h mX7_asks cvX7_350 (inw ht) (by decide) ⟨by decide, by decide⟩ (Nat.le_of_ble_eq_true rfl) rfl rfl dX7_lastsOf_42 hF (fun x_3 w_4 hF => ?_)
  refine g_istore_n (pc := 45) (lv' := [(3, .inl x_3), (0, .inr (.inl (some t))), (1, .inl x1), (2, .inl x2)]) h dX7_lastsOf_45 (hj 3 (by decide)) rfl ?_
  refine g_iload_n (pc := 46) h 3 rfl dX7_lastsOf_46 ?_
  refine g_iconst (pc := 47) (v := (1 : Int32)) h dX7_lastsOf_47 (by decide) ?_
  refine g_icmp_eq (pc := 48) (tgt := 56) h dX7_lastsOf_48 (by decide) hF (fun hF => ?_) (fun hF => ?_)
  · refine g_lv (lv' := [(0, .inr (.inl (some t))), (1, .inl x1), (3, .inl x_3)]) [1, 2, 0] rfl ?_
    exact kX7_lastsOf_56 h hr hnL ht _ _ _ hF
  · refine g_iload_n (pc := 51) h 3 rfl dX7_lastsOf_51 ?_
    refine g_iconst (pc := 52) (v := (3 : Int32)) h dX7_lastsOf_52 (by decide) ?_
    refine g_icmp_ne (pc := 53) (tgt := 69) h dX7_lastsOf_53 (by decide) hF (fun hF => ?_) (fun hF => ?_)
    · refine g_iload_n (pc := 69) h 3 rfl dX7_lastsOf_69 ?_
      refine g_iconst (pc := 70) (v := (2 : Int32)) h dX7_lastsOf_70 (by decide) ?_
      refine g_icmp_ne (pc := 71) (tgt := 80) h dX7_lastsOf_71 (by decide) hF (fun hF => ?_) (fun hF => ?_)
      · refine g_iload_n (pc := 80) h 3 rfl dX7_lastsOf_80 ?_
        refine g_iconst (pc := 81) (v := (4 : Int32)) h dX7_lastsOf_81 (by decide) ?_
        refine g_icmp_ne (pc := 82) (tgt := 96) h dX7_lastsOf_82 (by decide) hF (fun hF => ?_) (fun hF => ?_)
        · refine g_iload_n (pc := 96) h 0 rfl dX7_lastsOf_96 ?_
          refine g_lv (lv' := []) [] rfl ?_
          exact kX7_lastsOf_97 h hr hnL ht _ _ hF
        · refine g_iload_n (pc := 85) h 0 rfl dX7_lastsOf_85 ?_
          refine g_iconst (pc := 86) (v := (2 : Int32)) h dX7_lastsOf_86 (by decide) ?_
          refine g_idiv (pc := 87) h dX7_lastsOf_87 (by decide) ?_
          refine g_aload_n (pc := 88) h 1 rfl dX7_lastsOf_88 ?_
          refine g_getI (pc := 89) h fdX7_113 (inw ht) (by decide) dX7_lastsOf_89 ?_
          refine g_iadd (pc := 92) h dX7_lastsOf_92 ?_
          refine g_goto (pc := 93) (tgt := 97) h dX7_lastsOf_93 (by decide) ?_
          refine g_lv (lv' := []) [] rfl ?_
          exact kX7_lastsOf_97 h hr hnL ht _ _ hF
      · refine g_iload_n (pc := 74) h 0 rfl dX7_lastsOf_74 ?_
        refine g_iconst (pc := 75) (v := (2 : Int32)) h dX7_lastsOf_75 (by decide) ?_
        refine g_idiv (pc := 76) h dX7_lastsOf_76 (by decide) ?_
        refine g_goto (pc := 77) (tgt := 97) h dX7_lastsOf_77 (by decide) ?_
        refine g_lv (lv' := []) [] rfl ?_
        exact kX7_lastsOf_97 h hr hnL ht _ _ hF
    · refine g_lv (lv' := [(0, .inr (.inl (some t))), (1, .inl x1), (3, .inl x_3)]) [1, 2, 0] rfl ?_
      exact kX7_lastsOf_56 h hr hnL ht _ _ _ hF
def fX7_lastsOf (t : Nat) (x1 : Int32) (w : Wd) : Option (Int32 × Wd) :=
  dr (gR w t 9) 8 w (fun a_1 => grd (vin x1 (ln a_1)) (lt (gI w a_1 x1.toNatClampNeg) (fun x2_2 => if x2_2 = (5 : Int32) then
    (fX7_lastsOf_26 t x2_2 w)
  else
    (if x2_2 = (3 : Int32) then
      (if (10 : Int32) ≤ (gI w t 27) then
        (fX7_lastsOf_39 t x1 x2_2 w)
      else
        (fX7_lastsOf_26 t x2_2 w))
    else
      (fX7_lastsOf_39 t x1 x2_2 w)))))
set_option maxHeartbeats 4000000 in
theorem mX7_lastsOf {Γ : En} {t : Nat} {x1 : Int32} {w : Wd} (ht : t < wn w ∧ kd t = 7) : MtI Γ yX7_lastsOf cX7_lastsOf 5 (some .int) 45 0 0 [rv Γ (some t), .int x1] w (fX7_lastsOf t x1 w) := by
  refine mtI [.inr (.inl (some t)), .inl x1] rfl (Nat.le_of_ble_eq_true rfl) (fun X hΓ hnL hn0 h _ hr hF => ?_)
  subst hΓ
  have ht : InN X t 7 := ⟨by rw [hn0]; exact ht.1, ht.2⟩
  have h : Ok X cX7_lastsOf RX7 45 0 0 := h
  have hj : ∀ j, j < 5 → j < nLX X := fun j q => by rw [hnL]; exact q
  show G X 0 0 0 [(0, .inr (.inl (some t))), (1, .inl x1)] [] w
  unfold fX7_lastsOf at hF
  refine g_aload_n (pc := 0) h 0 rfl dX7_lastsOf_0 ?_
  refine g_getR (pc := 1) h fdX7_26 (inw ht) rfl dX7_lastsOf_1 ?_
  refine g_iload_n (pc := 4) h 1 rfl dX7_lastsOf_4 ?_
  refine g_dr hF (fun a_1 e_a_1 h_a_1 hF => ?_)
  rw [e_a_1]
  obtain ⟨g_1, hF⟩ := grd_ok hF
  refine g_iald (pc := 5) h h_a_1 g_1 dX7_lastsOf_5 ?_
  refine g_t hF (fun x2_2 hF => ?_)
  refine g_istore_n (pc := 6) (lv' := [(2, .inl x2_2), (0, .inr (.inl (some t))), (1, .inl x1)]) h dX7_lastsOf_6 (hj 2 (by decide)) rfl ?_
  refine g_iload_n (pc := 7) h 0 rfl dX7_lastsOf_7 ?_
  refine g_iconst (pc := 8) (v := (5 : Int32)) h dX7_lastsOf_8 (by decide) ?_
  refine g_icmp_eq (pc := 9) (tgt := 26) h dX7_lastsOf_9 (by decide) hF (fun hF => ?_) (fun hF => ?_)
  · refine g_lv (lv' := [(2, .inl x2_2)]) [0] rfl ?_
    exact kX7_lastsOf_26 h hr hnL ht _ _ hF
  · refine g_iload_n (pc := 12) h 0 rfl dX7_lastsOf_12 ?_
    refine g_iconst (pc := 13) (v := (3 : Int32)) h dX7_lastsOf_13 (by decide) ?_
    refine g_icmp_ne (pc := 14) (tgt := 39) h dX7_lastsOf_14 (by decide) hF (fun hF => ?_) (fun hF => ?_)
    · refine g_lv (lv' := [(0, .inr (.inl (some t))), (1, .inl x1), (2, .inl x2_2)]) [1, 2, 0] rfl ?_
      exact kX7_lastsOf_39 h hr hnL ht _ _ _ hF
    · refine g_aload_n (pc := 17) h 1 rfl dX7_lastsOf_17 ?_
      refine g_getI (pc := 18) h fdX7_113 (inw ht) (by decide) dX7_lastsOf_18 ?_
      refine g_bipush (pc := 21) (v := (10 : Int32)) h dX7_lastsOf_21 (by decide) ?_
      refine g_icmp_ge (pc := 23) (tgt := 39) h dX7_lastsOf_23 (by decide) hF (fun hF => ?_) (fun hF => ?_)
      · refine g_lv (lv' := [(0, .inr (.inl (some t))), (1, .inl x1), (2, .inl x2_2)]) [1, 2, 0] rfl ?_
        exact kX7_lastsOf_39 h hr hnL ht _ _ _ hF
      · refine g_lv (lv' := [(2, .inl x2_2)]) [0] rfl ?_
        exact kX7_lastsOf_26 h hr hnL ht _ _ hF
def fX7_paceOf_17 (t : Nat) (x1 : Int32) (x2 : Int32) (w : Wd) : Option (Int32 × Wd) :=
  if x2 = (5 : Int32) then
    (dr (gR w t 10) 8 w (fun a_5 => grd (vin ((5 : Int32) * x1) (ln a_5)) (some (gI w a_5 ((5 : Int32) * x1).toNatClampNeg, w))))
  else
    (some ((1 : Int32), w))
set_option maxHeartbeats 4000000 in
theorem kX7_paceOf_17 {X : Cx} (h : Ok X cX7_paceOf RX7 45 0 0) (hr : RetI X .int 0 0) (hnL : nLX X = 5) {t : Nat} (ht : InN X t 7) : ∀ (x1 : Int32) (x2 : Int32) (w : Wd), OkR X Value.int (fX7_paceOf_17 t x1 x2 w) → G X 0 0 17 [(0, .inr (.inl (some t))), (1, .inl x1), (2, .inl x2)] [] w := by
  have hj : ∀ j, j < 5 → j < nLX X := fun j q => by rw [hnL]; exact q
  intro x1 x2 w hF
  unfold fX7_paceOf_17 at hF
  refine g_iload_n (pc := 17) h 2 rfl dX7_paceOf_17 ?_
  refine g_iconst (pc := 18) (v := (5 : Int32)) h dX7_paceOf_18 (by decide) ?_
  refine g_icmp_ne (pc := 19) (tgt := 33) h dX7_paceOf_19 (by decide) hF (fun hF => ?_) (fun hF => ?_)
  · refine g_iconst (pc := 33) (v := (1 : Int32)) h dX7_paceOf_33 (by decide) ?_
    exact g_iret (pc := 34) h hr ⟨Nat.le_refl _, Nat.le_refl _⟩ hF dX7_paceOf_34
  · refine g_aload_n (pc := 22) h 0 rfl dX7_paceOf_22 ?_
    refine g_getR (pc := 23) h fdX7_29 (inw ht) rfl dX7_paceOf_23 ?_
    refine g_iconst (pc := 26) (v := (5 : Int32)) h dX7_paceOf_26 (by decide) ?_
    refine g_iload_n (pc := 27) h 1 rfl dX7_paceOf_27 ?_
    refine g_imul (pc := 28) h dX7_paceOf_28 ?_
    refine g_dr hF (fun a_5 e_a_5 h_a_5 hF => ?_)
    rw [e_a_5]
    obtain ⟨g_2, hF⟩ := grd_ok hF
    refine g_iald (pc := 29) h h_a_5 g_2 dX7_paceOf_29 ?_
    refine g_goto (pc := 30) (tgt := 34) h dX7_paceOf_30 (by decide) ?_
    exact g_iret (pc := 34) h hr ⟨Nat.le_refl _, Nat.le_refl _⟩ hF dX7_paceOf_34
def fX7_paceOf_92 (t : Nat) (y0 : Int32) (w : Wd) : Option (Int32 × Wd) :=
  bnd (fX7_within y0 (0 : Int32) (99 : Int32) w) (fun x_6 w_7 => some (x_6, w_7))
set_option maxHeartbeats 4000000 in
theorem kX7_paceOf_92 {X : Cx} (h : Ok X cX7_paceOf RX7 45 0 0) (hr : RetI X .int 0 0) (hnL : nLX X = 5) {t : Nat} (ht : InN X t 7) : ∀ (y0 : Int32) (w : Wd), OkR X Value.int (fX7_paceOf_92 t y0 w) → G X 0 0 92 [] [.int y0] w := by
  have hj : ∀ j, j < 5 → j < nLX X := fun j q => by rw [hnL]; exact q
  intro y0 w hF
  unfold fX7_paceOf_92 at hF
  refine g_iconst (pc := 92) (v := (0 : Int32)) h dX7_paceOf_92 (by decide) ?_
  refine g_bipush (pc := 93) (v := (99 : Int32)) h dX7_paceOf_93 (by decide) ?_
  refine g_csI (pc := 95) (st := []) h mX7_within csX7_346 (by decide) ⟨by decide, by decide⟩ (Nat.le_of_ble_eq_true rfl) rfl rfl dX7_paceOf_95 hF (fun x_6 w_7 hF => ?_)
  exact g_iret (pc := 98) h hr ⟨Nat.le_refl _, Nat.le_refl _⟩ hF dX7_paceOf_98
def fX7_paceOf_56 (t : Nat) (x2 : Int32) (x3 : Int32) (y0 : Int32) (w : Wd) : Option (Int32 × Wd) :=
  if x2 = (1 : Int32) then
    (fX7_paceOf_92 t y0 w)
  else
    (if x2 = (3 : Int32) then
      (fX7_paceOf_92 t (y0 + (3 : Int32)) w)
    else
      (if x2 = (2 : Int32) then
        (fX7_paceOf_92 t (x3 + (2 : Int32)) w)
      else
        (fX7_paceOf_92 t x3 w)))
set_option maxHeartbeats 4000000 in
theorem kX7_paceOf_56 {X : Cx} (h : Ok X cX7_paceOf RX7 45 0 0) (hr : RetI X .int 0 0) (hnL : nLX X = 5) {t : Nat} (ht : InN X t 7) : ∀ (x2 : Int32) (x3 : Int32) (y0 : Int32) (w : Wd), OkR X Value.int (fX7_paceOf_56 t x2 x3 y0 w) → G X 0 0 56 [(2, .inl x2), (3, .inl x3)] [.int y0] w := by
  have hj : ∀ j, j < 5 → j < nLX X := fun j q => by rw [hnL]; exact q
  intro x2 x3 y0 w hF
  unfold fX7_paceOf_56 at hF
  refine g_istore (pc := 56) (lv' := [(4, .inl y0), (2, .inl x2), (3, .inl x3)]) h dX7_paceOf_56 (hj 4 (by decide)) rfl ?_
  refine g_iload_n (pc := 58) h 1 rfl dX7_paceOf_58 ?_
  refine g_iconst (pc := 59) (v := (1 : Int32)) h dX7_paceOf_59 (by decide) ?_
  refine g_icmp_ne (pc := 60) (tgt := 68) h dX7_paceOf_60 (by decide) hF (fun hF => ?_) (fun hF => ?_)
  · refine g_iload_n (pc := 68) h 1 rfl dX7_paceOf_68 ?_
    refine g_iconst (pc := 69) (v := (3 : Int32)) h dX7_paceOf_69 (by decide) ?_
    refine g_icmp_ne (pc := 70) (tgt := 80) h dX7_paceOf_70 (by decide) hF (fun hF => ?_) (fun hF => ?_)
    · refine g_iload_n (pc := 80) h 1 rfl dX7_paceOf_80 ?_
      refine g_iconst (pc := 81) (v := (2 : Int32)) h dX7_paceOf_81 (by decide) ?_
      refine g_icmp_ne (pc := 82) (tgt := 91) h dX7_paceOf_82 (by decide) hF (fun hF => ?_) (fun hF => ?_)
      · refine g_iload_n (pc := 91) h 2 rfl dX7_paceOf_91 ?_
        refine g_lv (lv' := []) [] rfl ?_
        exact kX7_paceOf_92 h hr hnL ht _ _ hF
      · refine g_iload_n (pc := 85) h 2 rfl dX7_paceOf_85 ?_
        refine g_iconst (pc := 86) (v := (2 : Int32)) h dX7_paceOf_86 (by decide) ?_
        refine g_iadd (pc := 87) h dX7_paceOf_87 ?_
        refine g_goto (pc := 88) (tgt := 92) h dX7_paceOf_88 (by decide) ?_
        refine g_lv (lv' := []) [] rfl ?_
        exact kX7_paceOf_92 h hr hnL ht _ _ hF
    · refine g_iload (pc := 73) h 0 rfl dX7_paceOf_73 ?_
      refine g_iconst (pc := 75) (v := (3 : Int32)) h dX7_paceOf_75 (by decide) ?_
      refine g_iadd (pc := 76) h dX7_paceOf_76 ?_
      refine g_goto (pc := 77) (tgt := 92) h dX7_paceOf_77 (by decide) ?_
      refine g_lv (lv' := []) [] rfl ?_
      exact kX7_paceOf_92 h hr hnL ht _ _ hF
  · refine g_iload (pc := 63) h 0 rfl dX7_paceOf_63 ?_
    refine g_goto (pc := 65) (tgt := 92) h dX7_paceOf_65 (by decide) ?_
    refine g_lv (lv' := []) [] rfl ?_
    exact kX7_paceOf_92 h hr hnL ht _ _ hF
def fX7_paceOf (t : Nat) (x1 : Int32) (w : Wd) : Option (Int32 × Wd) :=
  dr (gR w t 9) 8 w (fun a_1 => grd (vin x1 (ln a_1)) (lt (gI w a_1 x1.toNatClampNeg) (fun x2_2 => if x2_2 = (4 : Int32) then
    (fX7_paceOf_17 t x1 x2_2 w)
  else
    (if x2_2 = (5 : Int32) then
      (fX7_paceOf_17 t x1 x2_2 w)
    else
      (bnd (fX7_asks t (1 : Int32) x1 w) (fun x_3 w_4 => if (gI w_4 t 28) = 0 then
        (fX7_paceOf_56 t x2_2 x_3 ((2 : Int32) * x_3) w_4)
      else
        (fX7_paceOf_56 t x2_2 x_3 x_3 w_4)))))))
set_option maxHeartbeats 4000000 in
theorem mX7_paceOf {Γ : En} {t : Nat} {x1 : Int32} {w : Wd} (ht : t < wn w ∧ kd t = 7) : MtI Γ yX7_paceOf cX7_paceOf 5 (some .int) 45 0 0 [rv Γ (some t), .int x1] w (fX7_paceOf t x1 w) := by
  refine mtI [.inr (.inl (some t)), .inl x1] rfl (Nat.le_of_ble_eq_true rfl) (fun X hΓ hnL hn0 h _ hr hF => ?_)
  subst hΓ
  have ht : InN X t 7 := ⟨by rw [hn0]; exact ht.1, ht.2⟩
  have h : Ok X cX7_paceOf RX7 45 0 0 := h
  have hj : ∀ j, j < 5 → j < nLX X := fun j q => by rw [hnL]; exact q
  show G X 0 0 0 [(0, .inr (.inl (some t))), (1, .inl x1)] [] w
  unfold fX7_paceOf at hF
  refine g_aload_n (pc := 0) h 0 rfl dX7_paceOf_0 ?_
  refine g_getR (pc := 1) h fdX7_26 (inw ht) rfl dX7_paceOf_1 ?_
  refine g_iload_n (pc := 4) h 1 rfl dX7_paceOf_4 ?_
  refine g_dr hF (fun a_1 e_a_1 h_a_1 hF => ?_)
  rw [e_a_1]
  obtain ⟨g_1, hF⟩ := grd_ok hF
  refine g_iald (pc := 5) h h_a_1 g_1 dX7_paceOf_5 ?_
  refine g_t hF (fun x2_2 hF => ?_)
  refine g_istore_n (pc := 6) (lv' := [(2, .inl x2_2), (0, .inr (.inl (some t))), (1, .inl x1)]) h dX7_paceOf_6 (hj 2 (by decide)) rfl ?_
  refine g_iload_n (pc := 7) h 0 rfl dX7_paceOf_7 ?_
  refine g_iconst (pc := 8) (v := (4 : Int32)) h dX7_paceOf_8 (by decide) ?_
  refine g_icmp_eq (pc := 9) (tgt := 17) h dX7_paceOf_9 (by decide) hF (fun hF => ?_) (fun hF => ?_)
  · refine g_lv (lv' := [(0, .inr (.inl (some t))), (1, .inl x1), (2, .inl x2_2)]) [1, 2, 0] rfl ?_
    exact kX7_paceOf_17 h hr hnL ht _ _ _ hF
  · refine g_iload_n (pc := 12) h 0 rfl dX7_paceOf_12 ?_
    refine g_iconst (pc := 13) (v := (5 : Int32)) h dX7_paceOf_13 (by decide) ?_
    refine g_icmp_ne (pc := 14) (tgt := 35) h dX7_paceOf_14 (by decide) hF (fun hF => ?_) (fun hF => ?_)
    · refine g_aload_n (pc := 35) h 1 rfl dX7_paceOf_35 ?_
      refine g_iconst (pc := 36) (v := (1 : Int32)) h dX7_paceOf_36 (by decide) ?_
      refine g_iload_n (pc := 37) h 2 rfl dX7_paceOf_37 ?_
      refine g_cvI (pc := 38) (st := []) h mX7_asks cvX7_350 (inw ht) (by decide) ⟨by decide, by decide⟩ (Nat.le_of_ble_eq_true rfl) rfl rfl dX7_paceOf_38 hF (fun x_3 w_4 hF => ?_)
      refine g_istore_n (pc := 41) (lv' := [(3, .inl x_3), (2, .inl x2_2), (0, .inr (.inl (some t))), (1, .inl x1)]) h dX7_paceOf_41 (hj 3 (by decide)) rfl ?_
      refine g_aload_n (pc := 42) h 2 rfl dX7_paceOf_42 ?_
      refine g_getI (pc := 43) h fdX7_116 (inw ht) (by decide) dX7_paceOf_43 ?_
      refine g_if_ne (pc := 46) (tgt := 55) h dX7_paceOf_46 (by decide) hF (fun hF => ?_) (fun hF => ?_)
      · refine g_iload_n (pc := 55) h 0 rfl dX7_paceOf_55 ?_
        refine g_lv (lv' := [(2, .inl x2_2), (3, .inl x_3)]) [1, 0] rfl ?_
        exact kX7_paceOf_56 h hr hnL ht _ _ _ _ hF
      · refine g_iconst (pc := 49) (v := (2 : Int32)) h dX7_paceOf_49 (by decide) ?_
        refine g_iload_n (pc := 50) h 0 rfl dX7_paceOf_50 ?_
        refine g_imul (pc := 51) h dX7_paceOf_51 ?_
        refine g_goto (pc := 52) (tgt := 56) h dX7_paceOf_52 (by decide) ?_
        refine g_lv (lv' := [(2, .inl x2_2), (3, .inl x_3)]) [1, 0] rfl ?_
        exact kX7_paceOf_56 h hr hnL ht _ _ _ _ hF
    · refine g_lv (lv' := [(0, .inr (.inl (some t))), (1, .inl x1), (2, .inl x2_2)]) [1, 2, 0] rfl ?_
      exact kX7_paceOf_17 h hr hnL ht _ _ _ hF
def fX7_told (t : Nat) (x1 : Int32) (x2 : Int32) (w : Wd) : Option (Int32 × Wd) :=
  bnd (fX7_in (x2.toInt64) (0 : Int64) (13 : Int64) w) (fun x_1 w_2 => if x_1 = 0 then
    (some ((-2 : Int32), w_2))
  else
    (bnd (fX7_isOf t x2 x1 w_2) (fun x_3 w_4 => if x_3 = 0 then
      (some ((-2 : Int32), w_4))
    else
      (if (2 : Int32) ≤ x2 then
        (if (7 : Int32) ≤ x2 then
          (if x2 = (7 : Int32) then
            (dr (gR w_4 t 9) 8 w_4 (fun a_15 => grd (vin x1 (ln a_15)) (some (gI w_4 a_15 x1.toNatClampNeg, w_4))))
          else
            (bnd (fX7_begins t x1 w_4) (fun u_5 w_6 => if x2 = (8 : Int32) then
              (some (gI w_6 t 27, w_6))
            else
              (if x2 = (9 : Int32) then
                (some (gI w_6 t 28, w_6))
              else
                (if x2 = (10 : Int32) then
                  (bnd (fX7_lastsOf t x1 w_6) (fun x_13 w_14 => some (x_13, w_14)))
                else
                  (if x2 = (11 : Int32) then
                    (bnd (fX7_paceOf t x1 w_6) (fun x_11 w_12 => some (x_11, w_12)))
                  else
                    (if x2 = (12 : Int32) then
                      (bnd (fX7_isStopped t x1 w_6) (fun x_9 w_10 => if x_9 = 0 then
                        (some ((0 : Int32), w_10))
                      else
                        (some ((1 : Int32), w_10))))
                    else
                      (bnd (fX7_lastsOf t x1 w_6) (fun x_7 w_8 => if (gI w_6 t 30) < x_7 then
                        (some ((0 : Int32), w_8))
                      else
                        (some ((1 : Int32), w_8)))))))))))
        else
          (dr (gR w_4 t 10) 8 w_4 (fun a_16 => grd (vin ((((5 : Int32) * x1) + x2) - (2 : Int32)) (ln a_16)) (some (gI w_4 a_16 ((((5 : Int32) * x1) + x2) - (2 : Int32)).toNatClampNeg, w_4)))))
      else
        (if x2 = 0 then
          (some (gI w_4 t 7, w_4))
        else
          (dr (gR w_4 t 8) 8 w_4 (fun a_17 => grd (vin x1 (ln a_17)) (some (gI w_4 a_17 x1.toNatClampNeg, w_4)))))))))
set_option maxHeartbeats 4000000 in
theorem mX7_told {Γ : En} {t : Nat} {x1 : Int32} {x2 : Int32} {w : Wd} (ht : t < wn w ∧ kd t = 7) : MtI Γ yX7_told cX7_told 3 (some .int) 46 0 0 [rv Γ (some t), .int x1, .int x2] w (fX7_told t x1 x2 w) := by
  refine mtI [.inr (.inl (some t)), .inl x1, .inl x2] rfl (Nat.le_of_ble_eq_true rfl) (fun X hΓ hnL hn0 h _ hr hF => ?_)
  subst hΓ
  have ht : InN X t 7 := ⟨by rw [hn0]; exact ht.1, ht.2⟩
  have h : Ok X cX7_told RX7 46 0 0 := h
  have hj : ∀ j, j < 3 → j < nLX X := fun j q => by rw [hnL]; exact q
  show G X 0 0 0 [(0, .inr (.inl (some t))), (1, .inl x1), (2, .inl x2)] [] w
  unfold fX7_told at hF
  refine g_iload_n (pc := 0) h 2 rfl dX7_told_0 ?_
  refine g_i2l (pc := 1) h dX7_told_1 ?_
  refine g_lconst (pc := 2) (v := (0 : Int64)) h dX7_told_2 (by decide) ?_
  refine g_ldc2 (pc := 3) h wcL_X7_107 dX7_told_3 ?_
  refine g_csI (pc := 6) (st := []) h mX7_in csX7_67 (by decide) ⟨by decide, by decide⟩ (Nat.le_of_ble_eq_true rfl) rfl rfl dX7_told_6 hF (fun x_1 w_2 hF => ?_)
  refine g_if_eq (pc := 9) (tgt := 21) h dX7_told_9 (by decide) hF (fun hF => ?_) (fun hF => ?_)
  · refine g_bipush (pc := 21) (v := (-2 : Int32)) h dX7_told_21 (by decide) ?_
    exact g_iret (pc := 23) h hr ⟨Nat.le_refl _, Nat.le_refl _⟩ hF dX7_told_23
  · refine g_aload_n (pc := 12) h 0 rfl dX7_told_12 ?_
    refine g_iload_n (pc := 13) h 2 rfl dX7_told_13 ?_
    refine g_iload_n (pc := 14) h 1 rfl dX7_told_14 ?_
    refine g_cvI (pc := 15) (st := []) h mX7_isOf cvX7_79 (inw ht) (by decide) ⟨by decide, by decide⟩ (Nat.le_of_ble_eq_true rfl) rfl rfl dX7_told_15 hF (fun x_3 w_4 hF => ?_)
    refine g_if_ne (pc := 18) (tgt := 24) h dX7_told_18 (by decide) hF (fun hF => ?_) (fun hF => ?_)
    · refine g_iload_n (pc := 24) h 2 rfl dX7_told_24 ?_
      refine g_iconst (pc := 25) (v := (2 : Int32)) h dX7_told_25 (by decide) ?_
      refine g_icmp_ge (pc := 26) (tgt := 47) h dX7_told_26 (by decide) hF (fun hF => ?_) (fun hF => ?_)
      · refine g_iload_n (pc := 47) h 2 rfl dX7_told_47 ?_
        refine g_bipush (pc := 48) (v := (7 : Int32)) h dX7_told_48 (by decide) ?_
        refine g_icmp_ge (pc := 50) (tgt := 66) h dX7_told_50 (by decide) hF (fun hF => ?_) (fun hF => ?_)
        · refine g_iload_n (pc := 66) h 2 rfl dX7_told_66 ?_
          refine g_bipush (pc := 67) (v := (7 : Int32)) h dX7_told_67 (by decide) ?_
          refine g_icmp_ne (pc := 69) (tgt := 79) h dX7_told_69 (by decide) hF (fun hF => ?_) (fun hF => ?_)
          · refine g_aload_n (pc := 79) h 0 rfl dX7_told_79 ?_
            refine g_iload_n (pc := 80) h 1 rfl dX7_told_80 ?_
            refine g_cvV (pc := 81) (st := []) h mX7_begins cvX7_109 (inw ht) (by decide) ⟨by decide, by decide⟩ (Nat.le_of_ble_eq_true rfl) rfl rfl dX7_told_81 hF (fun u_5 w_6 hF => ?_)
            refine g_iload_n (pc := 84) h 2 rfl dX7_told_84 ?_
            refine g_bipush (pc := 85) (v := (8 : Int32)) h dX7_told_85 (by decide) ?_
            refine g_icmp_ne (pc := 87) (tgt := 97) h dX7_told_87 (by decide) hF (fun hF => ?_) (fun hF => ?_)
            · refine g_iload_n (pc := 97) h 2 rfl dX7_told_97 ?_
              refine g_bipush (pc := 98) (v := (9 : Int32)) h dX7_told_98 (by decide) ?_
              refine g_icmp_ne (pc := 100) (tgt := 110) h dX7_told_100 (by decide) hF (fun hF => ?_) (fun hF => ?_)
              · refine g_iload_n (pc := 110) h 2 rfl dX7_told_110 ?_
                refine g_bipush (pc := 111) (v := (10 : Int32)) h dX7_told_111 (by decide) ?_
                refine g_icmp_ne (pc := 113) (tgt := 124) h dX7_told_113 (by decide) hF (fun hF => ?_) (fun hF => ?_)
                · refine g_iload_n (pc := 124) h 2 rfl dX7_told_124 ?_
                  refine g_bipush (pc := 125) (v := (11 : Int32)) h dX7_told_125 (by decide) ?_
                  refine g_icmp_ne (pc := 127) (tgt := 138) h dX7_told_127 (by decide) hF (fun hF => ?_) (fun hF => ?_)
                  · refine g_iload_n (pc := 138) h 2 rfl dX7_told_138 ?_
                    refine g_bipush (pc := 139) (v := (12 : Int32)) h dX7_told_139 (by decide) ?_
                    refine g_icmp_ne (pc := 141) (tgt := 160) h dX7_told_141 (by decide) hF (fun hF => ?_) (fun hF => ?_)
                    · refine g_aload_n (pc := 160) h 0 rfl dX7_told_160 ?_
                      refine g_getI (pc := 161) h fdX7_128 (inw ht) (by decide) dX7_told_161 ?_
                      refine g_aload_n (pc := 164) h 0 rfl dX7_told_164 ?_
                      refine g_iload_n (pc := 165) h 1 rfl dX7_told_165 ?_
                      refine g_cvI (pc := 166) (st := [.int (gI w_6 t 30)]) h mX7_lastsOf cvX7_119 (inw ht) (by decide) ⟨by decide, by decide⟩ (Nat.le_of_ble_eq_true rfl) rfl rfl dX7_told_166 hF (fun x_7 w_8 hF => ?_)
                      refine g_icmp_lt (pc := 169) (tgt := 176) h dX7_told_169 (by decide) hF (fun hF => ?_) (fun hF => ?_)
                      · refine g_iconst (pc := 176) (v := (0 : Int32)) h dX7_told_176 (by decide) ?_
                        exact g_iret (pc := 177) h hr ⟨Nat.le_refl _, Nat.le_refl _⟩ hF dX7_told_177
                      · refine g_iconst (pc := 172) (v := (1 : Int32)) h dX7_told_172 (by decide) ?_
                        refine g_goto (pc := 173) (tgt := 177) h dX7_told_173 (by decide) ?_
                        exact g_iret (pc := 177) h hr ⟨Nat.le_refl _, Nat.le_refl _⟩ hF dX7_told_177
                    · refine g_aload_n (pc := 144) h 0 rfl dX7_told_144 ?_
                      refine g_iload_n (pc := 145) h 1 rfl dX7_told_145 ?_
                      refine g_cvI (pc := 146) (st := []) h mX7_isStopped cvX7_125 (inw ht) (by decide) ⟨by decide, by decide⟩ (Nat.le_of_ble_eq_true rfl) rfl rfl dX7_told_146 hF (fun x_9 w_10 hF => ?_)
                      refine g_if_eq (pc := 149) (tgt := 156) h dX7_told_149 (by decide) hF (fun hF => ?_) (fun hF => ?_)
                      · refine g_iconst (pc := 156) (v := (0 : Int32)) h dX7_told_156 (by decide) ?_
                        refine g_goto (pc := 157) (tgt := 177) h dX7_told_157 (by decide) ?_
                        exact g_iret (pc := 177) h hr ⟨Nat.le_refl _, Nat.le_refl _⟩ hF dX7_told_177
                      · refine g_iconst (pc := 152) (v := (1 : Int32)) h dX7_told_152 (by decide) ?_
                        refine g_goto (pc := 153) (tgt := 177) h dX7_told_153 (by decide) ?_
                        exact g_iret (pc := 177) h hr ⟨Nat.le_refl _, Nat.le_refl _⟩ hF dX7_told_177
                  · refine g_aload_n (pc := 130) h 0 rfl dX7_told_130 ?_
                    refine g_iload_n (pc := 131) h 1 rfl dX7_told_131 ?_
                    refine g_cvI (pc := 132) (st := []) h mX7_paceOf cvX7_122 (inw ht) (by decide) ⟨by decide, by decide⟩ (Nat.le_of_ble_eq_true rfl) rfl rfl dX7_told_132 hF (fun x_11 w_12 hF => ?_)
                    refine g_goto (pc := 135) (tgt := 177) h dX7_told_135 (by decide) ?_
                    exact g_iret (pc := 177) h hr ⟨Nat.le_refl _, Nat.le_refl _⟩ hF dX7_told_177
                · refine g_aload_n (pc := 116) h 0 rfl dX7_told_116 ?_
                  refine g_iload_n (pc := 117) h 1 rfl dX7_told_117 ?_
                  refine g_cvI (pc := 118) (st := []) h mX7_lastsOf cvX7_119 (inw ht) (by decide) ⟨by decide, by decide⟩ (Nat.le_of_ble_eq_true rfl) rfl rfl dX7_told_118 hF (fun x_13 w_14 hF => ?_)
                  refine g_goto (pc := 121) (tgt := 177) h dX7_told_121 (by decide) ?_
                  exact g_iret (pc := 177) h hr ⟨Nat.le_refl _, Nat.le_refl _⟩ hF dX7_told_177
              · refine g_aload_n (pc := 103) h 0 rfl dX7_told_103 ?_
                refine g_getI (pc := 104) h fdX7_116 (inw ht) (by decide) dX7_told_104 ?_
                refine g_goto (pc := 107) (tgt := 177) h dX7_told_107 (by decide) ?_
                exact g_iret (pc := 177) h hr ⟨Nat.le_refl _, Nat.le_refl _⟩ hF dX7_told_177
            · refine g_aload_n (pc := 90) h 0 rfl dX7_told_90 ?_
              refine g_getI (pc := 91) h fdX7_113 (inw ht) (by decide) dX7_told_91 ?_
              refine g_goto (pc := 94) (tgt := 177) h dX7_told_94 (by decide) ?_
              exact g_iret (pc := 177) h hr ⟨Nat.le_refl _, Nat.le_refl _⟩ hF dX7_told_177
          · refine g_aload_n (pc := 72) h 0 rfl dX7_told_72 ?_
            refine g_getR (pc := 73) h fdX7_26 (inw ht) rfl dX7_told_73 ?_
            refine g_iload_n (pc := 76) h 1 rfl dX7_told_76 ?_
            refine g_dr hF (fun a_15 e_a_15 h_a_15 hF => ?_)
            rw [e_a_15]
            obtain ⟨g_1, hF⟩ := grd_ok hF
            refine g_iald (pc := 77) h h_a_15 g_1 dX7_told_77 ?_
            exact g_iret (pc := 78) h hr ⟨Nat.le_refl _, Nat.le_refl _⟩ hF dX7_told_78
        · refine g_aload_n (pc := 53) h 0 rfl dX7_told_53 ?_
          refine g_getR (pc := 54) h fdX7_29 (inw ht) rfl dX7_told_54 ?_
          refine g_iconst (pc := 57) (v := (5 : Int32)) h dX7_told_57 (by decide) ?_
          refine g_iload_n (pc := 58) h 1 rfl dX7_told_58 ?_
          refine g_imul (pc := 59) h dX7_told_59 ?_
          refine g_iload_n (pc := 60) h 2 rfl dX7_told_60 ?_
          refine g_iadd (pc := 61) h dX7_told_61 ?_
          refine g_iconst (pc := 62) (v := (2 : Int32)) h dX7_told_62 (by decide) ?_
          refine g_isub (pc := 63) h dX7_told_63 ?_
          refine g_dr hF (fun a_16 e_a_16 h_a_16 hF => ?_)
          rw [e_a_16]
          obtain ⟨g_2, hF⟩ := grd_ok hF
          refine g_iald (pc := 64) h h_a_16 g_2 dX7_told_64 ?_
          exact g_iret (pc := 65) h hr ⟨Nat.le_refl _, Nat.le_refl _⟩ hF dX7_told_65
      · refine g_iload_n (pc := 29) h 2 rfl dX7_told_29 ?_
        refine g_if_ne (pc := 30) (tgt := 40) h dX7_told_30 (by decide) hF (fun hF => ?_) (fun hF => ?_)
        · refine g_aload_n (pc := 40) h 0 rfl dX7_told_40 ?_
          refine g_getR (pc := 41) h fdX7_23 (inw ht) rfl dX7_told_41 ?_
          refine g_iload_n (pc := 44) h 1 rfl dX7_told_44 ?_
          refine g_dr hF (fun a_17 e_a_17 h_a_17 hF => ?_)
          rw [e_a_17]
          obtain ⟨g_3, hF⟩ := grd_ok hF
          refine g_iald (pc := 45) h h_a_17 g_3 dX7_told_45 ?_
          exact g_iret (pc := 46) h hr ⟨Nat.le_refl _, Nat.le_refl _⟩ hF dX7_told_46
        · refine g_aload_n (pc := 33) h 0 rfl dX7_told_33 ?_
          refine g_getI (pc := 34) h fdX7_95 (inw ht) (by decide) dX7_told_34 ?_
          refine g_goto (pc := 37) (tgt := 46) h dX7_told_37 (by decide) ?_
          exact g_iret (pc := 46) h hr ⟨Nat.le_refl _, Nat.le_refl _⟩ hF dX7_told_46
    · refine g_bipush (pc := 21) (v := (-2 : Int32)) h dX7_told_21 (by decide) ?_
      exact g_iret (pc := 23) h hr ⟨Nat.le_refl _, Nat.le_refl _⟩ hF dX7_told_23
def fX7_set (t : Nat) (x1 : Int32) (x2 : Int32) (x3 : Int32) (w : Wd) : Option (Int32 × Wd) :=
  bnd (fX7_in (x1.toInt64) (0 : Int64) (6 : Int64) w) (fun x_1 w_2 => if x_1 = 0 then
    (some ((-2 : Int32), w_2))
  else
    (bnd (fX7_isOf t x1 x2 w_2) (fun x_3 w_4 => if x_3 = 0 then
      (some ((-2 : Int32), w_4))
    else
      (bnd (fX7_mostOf x1 w_4) (fun x_5 w_6 => bnd (fX7_in (x3.toInt64) (0 : Int64) (x_5.toInt64) w_6) (fun x_7 w_8 => if x_7 = 0 then
        (some ((-2 : Int32), w_8))
      else
        (bnd (fX7_told t x2 x1 w_8) (fun x_9 w_10 => bnd (fX7_lays t x1 x2 x3 w_10) (fun u_11 w_12 => some (x_9, w_12))))))))))
set_option maxHeartbeats 4000000 in
theorem mX7_set {Γ : En} {t : Nat} {x1 : Int32} {x2 : Int32} {x3 : Int32} {w : Wd} (ht : t < wn w ∧ kd t = 7) : MtI Γ yX7_set cX7_set 5 (some .int) 47 0 0 [rv Γ (some t), .int x1, .int x2, .int x3] w (fX7_set t x1 x2 x3 w) := by
  refine mtI [.inr (.inl (some t)), .inl x1, .inl x2, .inl x3] rfl (Nat.le_of_ble_eq_true rfl) (fun X hΓ hnL hn0 h _ hr hF => ?_)
  subst hΓ
  have ht : InN X t 7 := ⟨by rw [hn0]; exact ht.1, ht.2⟩
  have h : Ok X cX7_set RX7 47 0 0 := h
  have hj : ∀ j, j < 5 → j < nLX X := fun j q => by rw [hnL]; exact q
  show G X 0 0 0 [(0, .inr (.inl (some t))), (1, .inl x1), (2, .inl x2), (3, .inl x3)] [] w
  unfold fX7_set at hF
  refine g_iload_n (pc := 0) h 1 rfl dX7_set_0 ?_
  refine g_i2l (pc := 1) h dX7_set_1 ?_
  refine g_lconst (pc := 2) (v := (0 : Int64)) h dX7_set_2 (by decide) ?_
  refine g_ldc2 (pc := 3) h wcL_X7_77 dX7_set_3 ?_
  refine g_csI (pc := 6) (st := []) h mX7_in csX7_67 (by decide) ⟨by decide, by decide⟩ (Nat.le_of_ble_eq_true rfl) rfl rfl dX7_set_6 hF (fun x_1 w_2 hF => ?_)
  refine g_if_eq (pc := 9) (tgt := 35) h dX7_set_9 (by decide) hF (fun hF => ?_) (fun hF => ?_)
  · refine g_bipush (pc := 35) (v := (-2 : Int32)) h dX7_set_35 (by decide) ?_
    exact g_iret (pc := 37) h hr ⟨Nat.le_refl _, Nat.le_refl _⟩ hF dX7_set_37
  · refine g_aload_n (pc := 12) h 0 rfl dX7_set_12 ?_
    refine g_iload_n (pc := 13) h 1 rfl dX7_set_13 ?_
    refine g_iload_n (pc := 14) h 2 rfl dX7_set_14 ?_
    refine g_cvI (pc := 15) (st := []) h mX7_isOf cvX7_79 (inw ht) (by decide) ⟨by decide, by decide⟩ (Nat.le_of_ble_eq_true rfl) rfl rfl dX7_set_15 hF (fun x_3 w_4 hF => ?_)
    refine g_if_eq (pc := 18) (tgt := 35) h dX7_set_18 (by decide) hF (fun hF => ?_) (fun hF => ?_)
    · refine g_bipush (pc := 35) (v := (-2 : Int32)) h dX7_set_35 (by decide) ?_
      exact g_iret (pc := 37) h hr ⟨Nat.le_refl _, Nat.le_refl _⟩ hF dX7_set_37
    · refine g_iload_n (pc := 21) h 3 rfl dX7_set_21 ?_
      refine g_i2l (pc := 22) h dX7_set_22 ?_
      refine g_lconst (pc := 23) (v := (0 : Int64)) h dX7_set_23 (by decide) ?_
      refine g_iload_n (pc := 24) h 1 rfl dX7_set_24 ?_
      refine g_csI (pc := 25) (st := [.long (0 : Int64), .long (x3.toInt64)]) h mX7_mostOf csX7_83 (by decide) ⟨by decide, by decide⟩ (Nat.le_of_ble_eq_true rfl) rfl rfl dX7_set_25 hF (fun x_5 w_6 hF => ?_)
      refine g_i2l (pc := 28) h dX7_set_28 ?_
      refine g_csI (pc := 29) (st := []) h mX7_in csX7_67 (by decide) ⟨by decide, by decide⟩ (Nat.le_of_ble_eq_true rfl) rfl rfl dX7_set_29 hF (fun x_7 w_8 hF => ?_)
      refine g_if_ne (pc := 32) (tgt := 38) h dX7_set_32 (by decide) hF (fun hF => ?_) (fun hF => ?_)
      · refine g_aload_n (pc := 38) h 0 rfl dX7_set_38 ?_
        refine g_iload_n (pc := 39) h 2 rfl dX7_set_39 ?_
        refine g_iload_n (pc := 40) h 1 rfl dX7_set_40 ?_
        refine g_cvI (pc := 41) (st := []) h mX7_told cvX7_87 (inw ht) (by decide) ⟨by decide, by decide⟩ (Nat.le_of_ble_eq_true rfl) rfl rfl dX7_set_41 hF (fun x_9 w_10 hF => ?_)
        refine g_istore (pc := 44) (lv' := [(4, .inl x_9), (0, .inr (.inl (some t))), (1, .inl x1), (2, .inl x2), (3, .inl x3)]) h dX7_set_44 (hj 4 (by decide)) rfl ?_
        refine g_aload_n (pc := 46) h 1 rfl dX7_set_46 ?_
        refine g_iload_n (pc := 47) h 2 rfl dX7_set_47 ?_
        refine g_iload_n (pc := 48) h 3 rfl dX7_set_48 ?_
        refine g_iload_n (pc := 49) h 4 rfl dX7_set_49 ?_
        refine g_cvV (pc := 50) (st := []) h mX7_lays cvX7_91 (inw ht) (by decide) ⟨by decide, by decide⟩ (Nat.le_of_ble_eq_true rfl) rfl rfl dX7_set_50 hF (fun u_11 w_12 hF => ?_)
        refine g_iload (pc := 53) h 0 rfl dX7_set_53 ?_
        exact g_iret (pc := 55) h hr ⟨Nat.le_refl _, Nat.le_refl _⟩ hF dX7_set_55
      · refine g_bipush (pc := 35) (v := (-2 : Int32)) h dX7_set_35 (by decide) ?_
        exact g_iret (pc := 37) h hr ⟨Nat.le_refl _, Nat.le_refl _⟩ hF dX7_set_37
def fX7_walker (t : Nat) (x1 : Int32) (x2 : Int32) (x3 : Int32) (w : Wd) : Option (Int32 × Wd) :=
  bnd (fX7_in (x1.toInt64) (0 : Int64) (5 : Int64) w) (fun x_1 w_2 => if x_1 = 0 then
    (some ((-2 : Int32), w_2))
  else
    (bnd (fX7_in (x2.toInt64) (0 : Int64) (9 : Int64) w_2) (fun x_3 w_4 => if x_3 = 0 then
      (some ((-2 : Int32), w_4))
    else
      (bnd (fX7_in (x3.toInt64) (0 : Int64) (255 : Int64) w_4) (fun x_5 w_6 => if x_5 = 0 then
        (some ((-2 : Int32), w_6))
      else
        (if (gI w_6 t 11) = (6 : Int32) then
          (some ((-4 : Int32), w_6))
        else
          (dr (gR w_6 t 9) 8 w_6 (fun a_7 => grd (vin (gI w_6 t 11) (ln a_7)) (lw (sI w_6 a_7 (gI w_6 t 11).toNatClampNeg x1) (fun w_8 => dr (gR w_8 t 10) 8 w_8 (fun a_9 => grd (vin ((5 : Int32) * (gI w_8 t 11)) (ln a_9)) (lw (sI w_8 a_9 ((5 : Int32) * (gI w_8 t 11)).toNatClampNeg x2) (fun w_10 => dr (gR w_10 t 10) 8 w_10 (fun a_11 => grd (vin (((5 : Int32) * (gI w_10 t 11)) + (1 : Int32)) (ln a_11)) (lw (sI w_10 a_11 (((5 : Int32) * (gI w_10 t 11)) + (1 : Int32)).toNatClampNeg x3) (fun w_12 => dr (gR w_12 t 10) 8 w_12 (fun a_13 => grd (vin (((5 : Int32) * (gI w_12 t 11)) + (2 : Int32)) (ln a_13)) (lw (sI w_12 a_13 (((5 : Int32) * (gI w_12 t 11)) + (2 : Int32)).toNatClampNeg (0 : Int32)) (fun w_14 => dr (gR w_14 t 10) 8 w_14 (fun a_15 => grd (vin (((5 : Int32) * (gI w_14 t 11)) + (3 : Int32)) (ln a_15)) (lw (sI w_14 a_15 (((5 : Int32) * (gI w_14 t 11)) + (3 : Int32)).toNatClampNeg (0 : Int32)) (fun w_16 => dr (gR w_16 t 10) 8 w_16 (fun a_17 => grd (vin (((5 : Int32) * (gI w_16 t 11)) + (4 : Int32)) (ln a_17)) (lw (sI w_16 a_17 (((5 : Int32) * (gI w_16 t 11)) + (4 : Int32)).toNatClampNeg (0 : Int32)) (fun w_18 => lw (sI w_18 t 11 ((gI w_18 t 11) + (1 : Int32))) (fun w_19 => some ((gI w_19 t 11) - (1 : Int32), w_19)))))))))))))))))))))))))))
set_option maxHeartbeats 4000000 in
theorem mX7_walker {Γ : En} {t : Nat} {x1 : Int32} {x2 : Int32} {x3 : Int32} {w : Wd} (ht : t < wn w ∧ kd t = 7) : MtI Γ yX7_walker cX7_walker 4 (some .int) 3 0 0 [rv Γ (some t), .int x1, .int x2, .int x3] w (fX7_walker t x1 x2 x3 w) := by
  refine mtI [.inr (.inl (some t)), .inl x1, .inl x2, .inl x3] rfl (Nat.le_of_ble_eq_true rfl) (fun X hΓ hnL hn0 h _ hr hF => ?_)
  subst hΓ
  have ht : InN X t 7 := ⟨by rw [hn0]; exact ht.1, ht.2⟩
  have h : Ok X cX7_walker RX7 3 0 0 := h
  have hj : ∀ j, j < 4 → j < nLX X := fun j q => by rw [hnL]; exact q
  show G X 0 0 0 [(0, .inr (.inl (some t))), (1, .inl x1), (2, .inl x2), (3, .inl x3)] [] w
  unfold fX7_walker at hF
  refine g_iload_n (pc := 0) h 1 rfl dX7_walker_0 ?_
  refine g_i2l (pc := 1) h dX7_walker_1 ?_
  refine g_lconst (pc := 2) (v := (0 : Int64)) h dX7_walker_2 (by decide) ?_
  refine g_ldc2 (pc := 3) h wcL_X7_101 dX7_walker_3 ?_
  refine g_csI (pc := 6) (st := []) h mX7_in csX7_67 (by decide) ⟨by decide, by decide⟩ (Nat.le_of_ble_eq_true rfl) rfl rfl dX7_walker_6 hF (fun x_1 w_2 hF => ?_)
  refine g_if_eq (pc := 9) (tgt := 36) h dX7_walker_9 (by decide) hF (fun hF => ?_) (fun hF => ?_)
  · refine g_bipush (pc := 36) (v := (-2 : Int32)) h dX7_walker_36 (by decide) ?_
    exact g_iret (pc := 38) h hr ⟨Nat.le_refl _, Nat.le_refl _⟩ hF dX7_walker_38
  · refine g_iload_n (pc := 12) h 2 rfl dX7_walker_12 ?_
    refine g_i2l (pc := 13) h dX7_walker_13 ?_
    refine g_lconst (pc := 14) (v := (0 : Int64)) h dX7_walker_14 (by decide) ?_
    refine g_ldc2 (pc := 15) h wcL_X7_103 dX7_walker_15 ?_
    refine g_csI (pc := 18) (st := []) h mX7_in csX7_67 (by decide) ⟨by decide, by decide⟩ (Nat.le_of_ble_eq_true rfl) rfl rfl dX7_walker_18 hF (fun x_3 w_4 hF => ?_)
    refine g_if_eq (pc := 21) (tgt := 36) h dX7_walker_21 (by decide) hF (fun hF => ?_) (fun hF => ?_)
    · refine g_bipush (pc := 36) (v := (-2 : Int32)) h dX7_walker_36 (by decide) ?_
      exact g_iret (pc := 38) h hr ⟨Nat.le_refl _, Nat.le_refl _⟩ hF dX7_walker_38
    · refine g_iload_n (pc := 24) h 3 rfl dX7_walker_24 ?_
      refine g_i2l (pc := 25) h dX7_walker_25 ?_
      refine g_lconst (pc := 26) (v := (0 : Int64)) h dX7_walker_26 (by decide) ?_
      refine g_ldc2 (pc := 27) h wcL_X7_105 dX7_walker_27 ?_
      refine g_csI (pc := 30) (st := []) h mX7_in csX7_67 (by decide) ⟨by decide, by decide⟩ (Nat.le_of_ble_eq_true rfl) rfl rfl dX7_walker_30 hF (fun x_5 w_6 hF => ?_)
      refine g_if_ne (pc := 33) (tgt := 39) h dX7_walker_33 (by decide) hF (fun hF => ?_) (fun hF => ?_)
      · refine g_aload_n (pc := 39) h 0 rfl dX7_walker_39 ?_
        refine g_getI (pc := 40) h fdX7_64 (inw ht) (by decide) dX7_walker_40 ?_
        refine g_bipush (pc := 43) (v := (6 : Int32)) h dX7_walker_43 (by decide) ?_
        refine g_icmp_ne (pc := 45) (tgt := 51) h dX7_walker_45 (by decide) hF (fun hF => ?_) (fun hF => ?_)
        · refine g_aload_n (pc := 51) h 0 rfl dX7_walker_51 ?_
          refine g_getR (pc := 52) h fdX7_26 (inw ht) rfl dX7_walker_52 ?_
          refine g_aload_n (pc := 55) h 0 rfl dX7_walker_55 ?_
          refine g_getI (pc := 56) h fdX7_64 (inw ht) (by decide) dX7_walker_56 ?_
          refine g_iload_n (pc := 59) h 1 rfl dX7_walker_59 ?_
          refine g_dr hF (fun a_7 e_a_7 h_a_7 hF => ?_)
          rw [e_a_7]
          obtain ⟨g_1, hF⟩ := grd_ok hF
          refine g_iast (pc := 60) h h_a_7 g_1 dX7_walker_60 ?_
          refine g_w hF (fun w_8 hF => ?_)
          refine g_aload_n (pc := 61) h 0 rfl dX7_walker_61 ?_
          refine g_getR (pc := 62) h fdX7_29 (inw ht) rfl dX7_walker_62 ?_
          refine g_iconst (pc := 65) (v := (5 : Int32)) h dX7_walker_65 (by decide) ?_
          refine g_aload_n (pc := 66) h 0 rfl dX7_walker_66 ?_
          refine g_getI (pc := 67) h fdX7_64 (inw ht) (by decide) dX7_walker_67 ?_
          refine g_imul (pc := 70) h dX7_walker_70 ?_
          refine g_iload_n (pc := 71) h 2 rfl dX7_walker_71 ?_
          refine g_dr hF (fun a_9 e_a_9 h_a_9 hF => ?_)
          rw [e_a_9]
          obtain ⟨g_2, hF⟩ := grd_ok hF
          refine g_iast (pc := 72) h h_a_9 g_2 dX7_walker_72 ?_
          refine g_w hF (fun w_10 hF => ?_)
          refine g_aload_n (pc := 73) h 0 rfl dX7_walker_73 ?_
          refine g_getR (pc := 74) h fdX7_29 (inw ht) rfl dX7_walker_74 ?_
          refine g_iconst (pc := 77) (v := (5 : Int32)) h dX7_walker_77 (by decide) ?_
          refine g_aload_n (pc := 78) h 0 rfl dX7_walker_78 ?_
          refine g_getI (pc := 79) h fdX7_64 (inw ht) (by decide) dX7_walker_79 ?_
          refine g_imul (pc := 82) h dX7_walker_82 ?_
          refine g_iconst (pc := 83) (v := (1 : Int32)) h dX7_walker_83 (by decide) ?_
          refine g_iadd (pc := 84) h dX7_walker_84 ?_
          refine g_iload_n (pc := 85) h 3 rfl dX7_walker_85 ?_
          refine g_dr hF (fun a_11 e_a_11 h_a_11 hF => ?_)
          rw [e_a_11]
          obtain ⟨g_3, hF⟩ := grd_ok hF
          refine g_iast (pc := 86) h h_a_11 g_3 dX7_walker_86 ?_
          refine g_w hF (fun w_12 hF => ?_)
          refine g_aload_n (pc := 87) h 0 rfl dX7_walker_87 ?_
          refine g_getR (pc := 88) h fdX7_29 (inw ht) rfl dX7_walker_88 ?_
          refine g_iconst (pc := 91) (v := (5 : Int32)) h dX7_walker_91 (by decide) ?_
          refine g_aload_n (pc := 92) h 0 rfl dX7_walker_92 ?_
          refine g_getI (pc := 93) h fdX7_64 (inw ht) (by decide) dX7_walker_93 ?_
          refine g_imul (pc := 96) h dX7_walker_96 ?_
          refine g_iconst (pc := 97) (v := (2 : Int32)) h dX7_walker_97 (by decide) ?_
          refine g_iadd (pc := 98) h dX7_walker_98 ?_
          refine g_iconst (pc := 99) (v := (0 : Int32)) h dX7_walker_99 (by decide) ?_
          refine g_dr hF (fun a_13 e_a_13 h_a_13 hF => ?_)
          rw [e_a_13]
          obtain ⟨g_4, hF⟩ := grd_ok hF
          refine g_iast (pc := 100) h h_a_13 g_4 dX7_walker_100 ?_
          refine g_w hF (fun w_14 hF => ?_)
          refine g_aload_n (pc := 101) h 0 rfl dX7_walker_101 ?_
          refine g_getR (pc := 102) h fdX7_29 (inw ht) rfl dX7_walker_102 ?_
          refine g_iconst (pc := 105) (v := (5 : Int32)) h dX7_walker_105 (by decide) ?_
          refine g_aload_n (pc := 106) h 0 rfl dX7_walker_106 ?_
          refine g_getI (pc := 107) h fdX7_64 (inw ht) (by decide) dX7_walker_107 ?_
          refine g_imul (pc := 110) h dX7_walker_110 ?_
          refine g_iconst (pc := 111) (v := (3 : Int32)) h dX7_walker_111 (by decide) ?_
          refine g_iadd (pc := 112) h dX7_walker_112 ?_
          refine g_iconst (pc := 113) (v := (0 : Int32)) h dX7_walker_113 (by decide) ?_
          refine g_dr hF (fun a_15 e_a_15 h_a_15 hF => ?_)
          rw [e_a_15]
          obtain ⟨g_5, hF⟩ := grd_ok hF
          refine g_iast (pc := 114) h h_a_15 g_5 dX7_walker_114 ?_
          refine g_w hF (fun w_16 hF => ?_)
          refine g_aload_n (pc := 115) h 0 rfl dX7_walker_115 ?_
          refine g_getR (pc := 116) h fdX7_29 (inw ht) rfl dX7_walker_116 ?_
          refine g_iconst (pc := 119) (v := (5 : Int32)) h dX7_walker_119 (by decide) ?_
          refine g_aload_n (pc := 120) h 0 rfl dX7_walker_120 ?_
          refine g_getI (pc := 121) h fdX7_64 (inw ht) (by decide) dX7_walker_121 ?_
          refine g_imul (pc := 124) h dX7_walker_124 ?_
          refine g_iconst (pc := 125) (v := (4 : Int32)) h dX7_walker_125 (by decide) ?_
          refine g_iadd (pc := 126) h dX7_walker_126 ?_
          refine g_iconst (pc := 127) (v := (0 : Int32)) h dX7_walker_127 (by decide) ?_
          refine g_dr hF (fun a_17 e_a_17 h_a_17 hF => ?_)
          rw [e_a_17]
          obtain ⟨g_6, hF⟩ := grd_ok hF
          refine g_iast (pc := 128) h h_a_17 g_6 dX7_walker_128 ?_
          refine g_w hF (fun w_18 hF => ?_)
          refine g_aload_n (pc := 129) h 0 rfl dX7_walker_129 ?_
          refine g_dup (pc := 130) h dX7_walker_130 rv_cat ?_
          refine g_getI (pc := 131) h fdX7_64 (inw ht) (by decide) dX7_walker_131 ?_
          refine g_iconst (pc := 134) (v := (1 : Int32)) h dX7_walker_134 (by decide) ?_
          refine g_iadd (pc := 135) h dX7_walker_135 ?_
          refine g_putI (pc := 136) h fdX7_64 (inw ht) (by decide) ⟨rfl, rfl⟩ dX7_walker_136 ?_
          refine g_w hF (fun w_19 hF => ?_)
          refine g_aload_n (pc := 139) h 0 rfl dX7_walker_139 ?_
          refine g_getI (pc := 140) h fdX7_64 (inw ht) (by decide) dX7_walker_140 ?_
          refine g_iconst (pc := 143) (v := (1 : Int32)) h dX7_walker_143 (by decide) ?_
          refine g_isub (pc := 144) h dX7_walker_144 ?_
          exact g_iret (pc := 145) h hr ⟨Nat.le_refl _, Nat.le_refl _⟩ hF dX7_walker_145
        · refine g_bipush (pc := 48) (v := (-4 : Int32)) h dX7_walker_48 (by decide) ?_
          exact g_iret (pc := 50) h hr ⟨Nat.le_refl _, Nat.le_refl _⟩ hF dX7_walker_50
      · refine g_bipush (pc := 36) (v := (-2 : Int32)) h dX7_walker_36 (by decide) ?_
        exact g_iret (pc := 38) h hr ⟨Nat.le_refl _, Nat.le_refl _⟩ hF dX7_walker_38
def fX7_feed (t : Nat) (x1 : Int32) (w : Wd) : Option (Int32 × Wd) :=
  bnd (fX7_in (x1.toInt64) (0 : Int64) (255 : Int64) w) (fun x_1 w_2 => if x_1 = 0 then
    (some ((-2 : Int32), w_2))
  else
    (if (gI w_2 t 6) = (160 : Int32) then
      (some ((-4 : Int32), w_2))
    else
      (dr (gR w_2 t 5) 8 w_2 (fun a_3 => grd (vin (gI w_2 t 6) (ln a_3)) (lw (sI w_2 a_3 (gI w_2 t 6).toNatClampNeg x1) (fun w_4 => lw (sI w_4 t 6 ((gI w_4 t 6) + (1 : Int32))) (fun w_5 => some (gI w_5 t 6, w_5))))))))
set_option maxHeartbeats 4000000 in
theorem mX7_feed {Γ : En} {t : Nat} {x1 : Int32} {w : Wd} (ht : t < wn w ∧ kd t = 7) : MtI Γ yX7_feed cX7_feed 2 (some .int) 3 0 0 [rv Γ (some t), .int x1] w (fX7_feed t x1 w) := by
  refine mtI [.inr (.inl (some t)), .inl x1] rfl (Nat.le_of_ble_eq_true rfl) (fun X hΓ hnL hn0 h _ hr hF => ?_)
  subst hΓ
  have ht : InN X t 7 := ⟨by rw [hn0]; exact ht.1, ht.2⟩
  have h : Ok X cX7_feed RX7 3 0 0 := h
  have hj : ∀ j, j < 2 → j < nLX X := fun j q => by rw [hnL]; exact q
  show G X 0 0 0 [(0, .inr (.inl (some t))), (1, .inl x1)] [] w
  unfold fX7_feed at hF
  refine g_iload_n (pc := 0) h 1 rfl dX7_feed_0 ?_
  refine g_i2l (pc := 1) h dX7_feed_1 ?_
  refine g_lconst (pc := 2) (v := (0 : Int64)) h dX7_feed_2 (by decide) ?_
  refine g_ldc2 (pc := 3) h wcL_X7_105 dX7_feed_3 ?_
  refine g_csI (pc := 6) (st := []) h mX7_in csX7_67 (by decide) ⟨by decide, by decide⟩ (Nat.le_of_ble_eq_true rfl) rfl rfl dX7_feed_6 hF (fun x_1 w_2 hF => ?_)
  refine g_if_ne (pc := 9) (tgt := 15) h dX7_feed_9 (by decide) hF (fun hF => ?_) (fun hF => ?_)
  · refine g_aload_n (pc := 15) h 0 rfl dX7_feed_15 ?_
    refine g_getI (pc := 16) h fdX7_131 (inw ht) (by decide) dX7_feed_16 ?_
    refine g_sipush (pc := 19) (v := (160 : Int32)) h dX7_feed_19 (by decide) ?_
    refine g_icmp_ne (pc := 22) (tgt := 28) h dX7_feed_22 (by decide) hF (fun hF => ?_) (fun hF => ?_)
    · refine g_aload_n (pc := 28) h 0 rfl dX7_feed_28 ?_
      refine g_getR (pc := 29) h fdX7_20 (inw ht) rfl dX7_feed_29 ?_
      refine g_aload_n (pc := 32) h 0 rfl dX7_feed_32 ?_
      refine g_getI (pc := 33) h fdX7_131 (inw ht) (by decide) dX7_feed_33 ?_
      refine g_iload_n (pc := 36) h 1 rfl dX7_feed_36 ?_
      refine g_dr hF (fun a_3 e_a_3 h_a_3 hF => ?_)
      rw [e_a_3]
      obtain ⟨g_1, hF⟩ := grd_ok hF
      refine g_iast (pc := 37) h h_a_3 g_1 dX7_feed_37 ?_
      refine g_w hF (fun w_4 hF => ?_)
      refine g_aload_n (pc := 38) h 0 rfl dX7_feed_38 ?_
      refine g_dup (pc := 39) h dX7_feed_39 rv_cat ?_
      refine g_getI (pc := 40) h fdX7_131 (inw ht) (by decide) dX7_feed_40 ?_
      refine g_iconst (pc := 43) (v := (1 : Int32)) h dX7_feed_43 (by decide) ?_
      refine g_iadd (pc := 44) h dX7_feed_44 ?_
      refine g_putI (pc := 45) h fdX7_131 (inw ht) (by decide) ⟨rfl, rfl⟩ dX7_feed_45 ?_
      refine g_w hF (fun w_5 hF => ?_)
      refine g_aload_n (pc := 48) h 0 rfl dX7_feed_48 ?_
      refine g_getI (pc := 49) h fdX7_131 (inw ht) (by decide) dX7_feed_49 ?_
      exact g_iret (pc := 52) h hr ⟨Nat.le_refl _, Nat.le_refl _⟩ hF dX7_feed_52
    · refine g_bipush (pc := 25) (v := (-4 : Int32)) h dX7_feed_25 (by decide) ?_
      exact g_iret (pc := 27) h hr ⟨Nat.le_refl _, Nat.le_refl _⟩ hF dX7_feed_27
  · refine g_bipush (pc := 12) (v := (-2 : Int32)) h dX7_feed_12 (by decide) ?_
    exact g_iret (pc := 14) h hr ⟨Nat.le_refl _, Nat.le_refl _⟩ hF dX7_feed_14
def fX7_text_14 (t : Nat) : Nat → Int32 → Wd → Option (Int32 × Wd)
  | 0 => fun _ _ => none
  | n + 1 => fun x1 w =>
    if (gI w t 6) ≤ x1 then
      (dr (gR w t 2) 8 w (fun a_1 => grd (vin (gI w t 3) (ln a_1)) (lw (sI w a_1 (gI w t 3).toNatClampNeg (gI w t 6)) (fun w_2 => lw (sI w_2 t 6 (0 : Int32)) (fun w_3 => bnd (fX7_read t (gI w_3 t 3) (0 : Int32) w_3) (fun x_4 w_5 => if (gI w_5 t 25) = 0 then
        (lw (sI w_5 t 3 ((gI w_5 t 3) + (1 : Int32))) (fun w_6 => some ((gI w_6 t 3) - (1 : Int32), w_6)))
      else
        (some ((-100 : Int32) - (gI w_5 t 26), w_5))))))))
    else
      (dr (gR w t 5) 8 w (fun a_7 => grd (vin x1 (ln a_7)) (dr (gR w t 1) 8 w (fun a_8 => grd (vin (((160 : Int32) * (gI w t 3)) + x1) (ln a_8)) (lw (sI w a_8 (((160 : Int32) * (gI w t 3)) + x1).toNatClampNeg (gI w a_7 x1.toNatClampNeg)) (fun w_9 => fX7_text_14 t n (x1 + (1 : Int32)) w_9))))))
set_option maxHeartbeats 4000000 in
theorem kX7_text_14 {X : Cx} (h : Ok X cX7_text RX7 44 0 0) (hr : RetI X .int 0 0) (hnL : nLX X = 2) {t : Nat} (ht : InN X t 7) : ∀ (fu : Nat) (x1 : Int32) (w : Wd), OkR X Value.int (fX7_text_14 t fu x1 w) → G X 0 0 14 [(0, .inr (.inl (some t))), (1, .inl x1)] [] w := by
  have hj : ∀ j, j < 2 → j < nLX X := fun j q => by rw [hnL]; exact q
  intro fu
  induction fu with
  | zero => intro x1 w hF; exact okN hF
  | succ fu ih =>
    intro x1 w hF
    rw [fX7_text_14] at hF
    refine g_iload_n (pc := 14) h 1 rfl dX7_text_14 ?_
    refine g_aload_n (pc := 15) h 0 rfl dX7_text_15 ?_
    refine g_getI (pc := 16) h fdX7_131 (inw ht) (by decide) dX7_text_16 ?_
    refine g_icmp_ge (pc := 19) (tgt := 49) h dX7_text_19 (by decide) hF (fun hF => ?_) (fun hF => ?_)
    · refine g_aload_n (pc := 49) h 0 rfl dX7_text_49 ?_
      refine g_getR (pc := 50) h fdX7_17 (inw ht) rfl dX7_text_50 ?_
      refine g_aload_n (pc := 53) h 0 rfl dX7_text_53 ?_
      refine g_getI (pc := 54) h fdX7_61 (inw ht) (by decide) dX7_text_54 ?_
      refine g_aload_n (pc := 57) h 0 rfl dX7_text_57 ?_
      refine g_getI (pc := 58) h fdX7_131 (inw ht) (by decide) dX7_text_58 ?_
      refine g_dr hF (fun a_1 e_a_1 h_a_1 hF => ?_)
      rw [e_a_1]
      obtain ⟨g_1, hF⟩ := grd_ok hF
      refine g_iast (pc := 61) h h_a_1 g_1 dX7_text_61 ?_
      refine g_w hF (fun w_2 hF => ?_)
      refine g_aload_n (pc := 62) h 0 rfl dX7_text_62 ?_
      refine g_iconst (pc := 63) (v := (0 : Int32)) h dX7_text_63 (by decide) ?_
      refine g_putI (pc := 64) h fdX7_131 (inw ht) (by decide) ⟨rfl, rfl⟩ dX7_text_64 ?_
      refine g_w hF (fun w_3 hF => ?_)
      refine g_aload_n (pc := 67) h 0 rfl dX7_text_67 ?_
      refine g_aload_n (pc := 68) h 0 rfl dX7_text_68 ?_
      refine g_getI (pc := 69) h fdX7_61 (inw ht) (by decide) dX7_text_69 ?_
      refine g_iconst (pc := 72) (v := (0 : Int32)) h dX7_text_72 (by decide) ?_
      refine g_cvI (pc := 73) (st := []) h mX7_read cvX7_334 (inw ht) (by decide) ⟨by decide, by decide⟩ (Nat.le_of_ble_eq_true rfl) rfl rfl dX7_text_73 hF (fun x_4 w_5 hF => ?_)
      refine g_istore_n (pc := 76) (lv' := [(1, .inl x_4), (0, .inr (.inl (some t)))]) h dX7_text_76 (hj 1 (by decide)) rfl ?_
      refine g_aload_n (pc := 77) h 1 rfl dX7_text_77 ?_
      refine g_getI (pc := 78) h fdX7_166 (inw ht) (by decide) dX7_text_78 ?_
      refine g_if_eq (pc := 81) (tgt := 92) h dX7_text_81 (by decide) hF (fun hF => ?_) (fun hF => ?_)
      · refine g_aload_n (pc := 92) h 1 rfl dX7_text_92 ?_
        refine g_dup (pc := 93) h dX7_text_93 rv_cat ?_
        refine g_getI (pc := 94) h fdX7_61 (inw ht) (by decide) dX7_text_94 ?_
        refine g_iconst (pc := 97) (v := (1 : Int32)) h dX7_text_97 (by decide) ?_
        refine g_iadd (pc := 98) h dX7_text_98 ?_
        refine g_putI (pc := 99) h fdX7_61 (inw ht) (by decide) ⟨rfl, rfl⟩ dX7_text_99 ?_
        refine g_w hF (fun w_6 hF => ?_)
        refine g_aload_n (pc := 102) h 1 rfl dX7_text_102 ?_
        refine g_getI (pc := 103) h fdX7_61 (inw ht) (by decide) dX7_text_103 ?_
        refine g_iconst (pc := 106) (v := (1 : Int32)) h dX7_text_106 (by decide) ?_
        refine g_isub (pc := 107) h dX7_text_107 ?_
        exact g_iret (pc := 108) h hr ⟨Nat.le_refl _, Nat.le_refl _⟩ hF dX7_text_108
      · refine g_bipush (pc := 84) (v := (-100 : Int32)) h dX7_text_84 (by decide) ?_
        refine g_aload_n (pc := 86) h 1 rfl dX7_text_86 ?_
        refine g_getI (pc := 87) h fdX7_170 (inw ht) (by decide) dX7_text_87 ?_
        refine g_isub (pc := 90) h dX7_text_90 ?_
        exact g_iret (pc := 91) h hr ⟨Nat.le_refl _, Nat.le_refl _⟩ hF dX7_text_91
    · refine g_aload_n (pc := 22) h 0 rfl dX7_text_22 ?_
      refine g_getR (pc := 23) h fdX7_13 (inw ht) rfl dX7_text_23 ?_
      refine g_sipush (pc := 26) (v := (160 : Int32)) h dX7_text_26 (by decide) ?_
      refine g_aload_n (pc := 29) h 0 rfl dX7_text_29 ?_
      refine g_getI (pc := 30) h fdX7_61 (inw ht) (by decide) dX7_text_30 ?_
      refine g_imul (pc := 33) h dX7_text_33 ?_
      refine g_iload_n (pc := 34) h 1 rfl dX7_text_34 ?_
      refine g_iadd (pc := 35) h dX7_text_35 ?_
      refine g_aload_n (pc := 36) h 0 rfl dX7_text_36 ?_
      refine g_getR (pc := 37) h fdX7_20 (inw ht) rfl dX7_text_37 ?_
      refine g_iload_n (pc := 40) h 1 rfl dX7_text_40 ?_
      refine g_dr hF (fun a_7 e_a_7 h_a_7 hF => ?_)
      rw [e_a_7]
      obtain ⟨g_2, hF⟩ := grd_ok hF
      refine g_iald (pc := 41) h h_a_7 g_2 dX7_text_41 ?_
      refine g_dr hF (fun a_8 e_a_8 h_a_8 hF => ?_)
      rw [e_a_8]
      obtain ⟨g_3, hF⟩ := grd_ok hF
      refine g_iast (pc := 42) h h_a_8 g_3 dX7_text_42 ?_
      refine g_w hF (fun w_9 hF => ?_)
      refine g_iinc (pc := 43) (lv' := [(1, .inl (x1 + (1 : Int32))), (0, .inr (.inl (some t)))]) h 1 rfl dX7_text_43 (dv := (1 : Int32)) (by decide) (hj 1 (by decide)) rfl ?_
      refine g_goto (pc := 46) (tgt := 14) h dX7_text_46 (by decide) ?_
      refine g_lv (lv' := [(0, .inr (.inl (some t))), (1, .inl (x1 + (1 : Int32)))]) [1, 0] rfl ?_
      exact ih _ _ hF
def fX7_text (t : Nat) (w : Wd) : Option (Int32 × Wd) :=
  if (gI w t 3) = (6 : Int32) then
    (some ((-4 : Int32), w))
  else
    (fX7_text_14 t FU (0 : Int32) w)
set_option maxHeartbeats 4000000 in
theorem mX7_text {Γ : En} {t : Nat} {w : Wd} (ht : t < wn w ∧ kd t = 7) : MtI Γ yX7_text cX7_text 2 (some .int) 44 0 0 [rv Γ (some t)] w (fX7_text t w) := by
  refine mtI [.inr (.inl (some t))] rfl (Nat.le_of_ble_eq_true rfl) (fun X hΓ hnL hn0 h _ hr hF => ?_)
  subst hΓ
  have ht : InN X t 7 := ⟨by rw [hn0]; exact ht.1, ht.2⟩
  have h : Ok X cX7_text RX7 44 0 0 := h
  have hj : ∀ j, j < 2 → j < nLX X := fun j q => by rw [hnL]; exact q
  show G X 0 0 0 [(0, .inr (.inl (some t)))] [] w
  unfold fX7_text at hF
  refine g_aload_n (pc := 0) h 0 rfl dX7_text_0 ?_
  refine g_getI (pc := 1) h fdX7_61 (inw ht) (by decide) dX7_text_1 ?_
  refine g_bipush (pc := 4) (v := (6 : Int32)) h dX7_text_4 (by decide) ?_
  refine g_icmp_ne (pc := 6) (tgt := 12) h dX7_text_6 (by decide) hF (fun hF => ?_) (fun hF => ?_)
  · refine g_iconst (pc := 12) (v := (0 : Int32)) h dX7_text_12 (by decide) ?_
    refine g_istore_n (pc := 13) (lv' := [(1, .inl (0 : Int32)), (0, .inr (.inl (some t)))]) h dX7_text_13 (hj 1 (by decide)) rfl ?_
    refine g_lv (lv' := [(0, .inr (.inl (some t))), (1, .inl (0 : Int32))]) [1, 0] rfl ?_
    exact kX7_text_14 h hr hnL ht _ _ _ hF
  · refine g_bipush (pc := 9) (v := (-4 : Int32)) h dX7_text_9 (by decide) ?_
    exact g_iret (pc := 11) h hr ⟨Nat.le_refl _, Nat.le_refl _⟩ hF dX7_text_11
def fX7_force (t : Nat) (x1 : Int32) (w : Wd) : Option (Int32 × Wd) :=
  bnd (fX7_in (x1.toInt64) (0 : Int64) (((gI w t 3) - (1 : Int32)).toInt64) w) (fun x_1 w_2 => if x_1 = 0 then
    (some ((-2 : Int32), w_2))
  else
    (lt (gI w_2 t 4) (fun x2_3 => lw (sI w_2 t 4 x1) (fun w_4 => some (x2_3, w_4)))))
set_option maxHeartbeats 4000000 in
theorem mX7_force {Γ : En} {t : Nat} {x1 : Int32} {w : Wd} (ht : t < wn w ∧ kd t = 7) : MtI Γ yX7_force cX7_force 3 (some .int) 3 0 0 [rv Γ (some t), .int x1] w (fX7_force t x1 w) := by
  refine mtI [.inr (.inl (some t)), .inl x1] rfl (Nat.le_of_ble_eq_true rfl) (fun X hΓ hnL hn0 h _ hr hF => ?_)
  subst hΓ
  have ht : InN X t 7 := ⟨by rw [hn0]; exact ht.1, ht.2⟩
  have h : Ok X cX7_force RX7 3 0 0 := h
  have hj : ∀ j, j < 3 → j < nLX X := fun j q => by rw [hnL]; exact q
  show G X 0 0 0 [(0, .inr (.inl (some t))), (1, .inl x1)] [] w
  unfold fX7_force at hF
  refine g_iload_n (pc := 0) h 1 rfl dX7_force_0 ?_
  refine g_i2l (pc := 1) h dX7_force_1 ?_
  refine g_lconst (pc := 2) (v := (0 : Int64)) h dX7_force_2 (by decide) ?_
  refine g_aload_n (pc := 3) h 0 rfl dX7_force_3 ?_
  refine g_getI (pc := 4) h fdX7_61 (inw ht) (by decide) dX7_force_4 ?_
  refine g_iconst (pc := 7) (v := (1 : Int32)) h dX7_force_7 (by decide) ?_
  refine g_isub (pc := 8) h dX7_force_8 ?_
  refine g_i2l (pc := 9) h dX7_force_9 ?_
  refine g_csI (pc := 10) (st := []) h mX7_in csX7_67 (by decide) ⟨by decide, by decide⟩ (Nat.le_of_ble_eq_true rfl) rfl rfl dX7_force_10 hF (fun x_1 w_2 hF => ?_)
  refine g_if_ne (pc := 13) (tgt := 19) h dX7_force_13 (by decide) hF (fun hF => ?_) (fun hF => ?_)
  · refine g_aload_n (pc := 19) h 0 rfl dX7_force_19 ?_
    refine g_getI (pc := 20) h fdX7_98 (inw ht) (by decide) dX7_force_20 ?_
    refine g_t hF (fun x2_3 hF => ?_)
    refine g_istore_n (pc := 23) (lv' := [(2, .inl x2_3), (0, .inr (.inl (some t))), (1, .inl x1)]) h dX7_force_23 (hj 2 (by decide)) rfl ?_
    refine g_aload_n (pc := 24) h 1 rfl dX7_force_24 ?_
    refine g_iload_n (pc := 25) h 2 rfl dX7_force_25 ?_
    refine g_putI (pc := 26) h fdX7_98 (inw ht) (by decide) ⟨rfl, rfl⟩ dX7_force_26 ?_
    refine g_w hF (fun w_4 hF => ?_)
    refine g_iload_n (pc := 29) h 0 rfl dX7_force_29 ?_
    exact g_iret (pc := 30) h hr ⟨Nat.le_refl _, Nat.le_refl _⟩ hF dX7_force_30
  · refine g_bipush (pc := 16) (v := (-2 : Int32)) h dX7_force_16 (by decide) ?_
    exact g_iret (pc := 18) h hr ⟨Nat.le_refl _, Nat.le_refl _⟩ hF dX7_force_18
def fX7_isInSocks (t : Nat) (x1 : Int32) (w : Wd) : Option (Int32 × Wd) :=
  bnd (fX7_lastsOf t x1 w) (fun x_1 w_2 => if (gI w t 30) < x_1 then
    (some ((0 : Int32), w_2))
  else
    (some ((1 : Int32), w_2)))
set_option maxHeartbeats 4000000 in
theorem mX7_isInSocks {Γ : En} {t : Nat} {x1 : Int32} {w : Wd} (ht : t < wn w ∧ kd t = 7) : MtI Γ yX7_isInSocks cX7_isInSocks 2 (some .boolean) 46 0 0 [rv Γ (some t), .int x1] w (fX7_isInSocks t x1 w) := by
  refine mtI [.inr (.inl (some t)), .inl x1] rfl (Nat.le_of_ble_eq_true rfl) (fun X hΓ hnL hn0 h _ hr hF => ?_)
  subst hΓ
  have ht : InN X t 7 := ⟨by rw [hn0]; exact ht.1, ht.2⟩
  have h : Ok X cX7_isInSocks RX7 46 0 0 := h
  have hj : ∀ j, j < 2 → j < nLX X := fun j q => by rw [hnL]; exact q
  show G X 0 0 0 [(0, .inr (.inl (some t))), (1, .inl x1)] [] w
  unfold fX7_isInSocks at hF
  refine g_aload_n (pc := 0) h 0 rfl dX7_isInSocks_0 ?_
  refine g_getI (pc := 1) h fdX7_128 (inw ht) (by decide) dX7_isInSocks_1 ?_
  refine g_aload_n (pc := 4) h 0 rfl dX7_isInSocks_4 ?_
  refine g_iload_n (pc := 5) h 1 rfl dX7_isInSocks_5 ?_
  refine g_cvI (pc := 6) (st := [.int (gI w t 30)]) h mX7_lastsOf cvX7_119 (inw ht) (by decide) ⟨by decide, by decide⟩ (Nat.le_of_ble_eq_true rfl) rfl rfl dX7_isInSocks_6 hF (fun x_1 w_2 hF => ?_)
  refine g_icmp_lt (pc := 9) (tgt := 16) h dX7_isInSocks_9 (by decide) hF (fun hF => ?_) (fun hF => ?_)
  · refine g_iconst (pc := 16) (v := (0 : Int32)) h dX7_isInSocks_16 (by decide) ?_
    exact g_zret (pc := 17) h hr ⟨Nat.le_refl _, Nat.le_refl _⟩ (by decide) hF dX7_isInSocks_17
  · refine g_iconst (pc := 12) (v := (1 : Int32)) h dX7_isInSocks_12 (by decide) ?_
    refine g_goto (pc := 13) (tgt := 17) h dX7_isInSocks_13 (by decide) ?_
    exact g_zret (pc := 17) h hr ⟨Nat.le_refl _, Nat.le_refl _⟩ (by decide) hF dX7_isInSocks_17
def fX7_goes_98 (t : Nat) (x4 : Int32) (w : Wd) : Option (Int32 × Wd) :=
  lw (sI w t 31 ((gI w t 31) + (1 : Int32))) (fun w_7 => grd (x4 = 0 ∨ x4 = 1) (some (x4, w_7)))
set_option maxHeartbeats 4000000 in
theorem kX7_goes_98 {X : Cx} (h : Ok X cX7_goes RX7 46 0 0) (hr : RetI X .boolean 0 0) (hnL : nLX X = 6) {t : Nat} (ht : InN X t 7) : ∀ (x4 : Int32) (w : Wd), OkR X Value.int (fX7_goes_98 t x4 w) → G X 0 0 98 [(0, .inr (.inl (some t))), (4, .inl x4)] [] w := by
  have hj : ∀ j, j < 6 → j < nLX X := fun j q => by rw [hnL]; exact q
  intro x4 w hF
  unfold fX7_goes_98 at hF
  refine g_aload_n (pc := 98) h 0 rfl dX7_goes_98 ?_
  refine g_dup (pc := 99) h dX7_goes_99 rv_cat ?_
  refine g_getI (pc := 100) h fdX7_343 (inw ht) (by decide) dX7_goes_100 ?_
  refine g_iconst (pc := 103) (v := (1 : Int32)) h dX7_goes_103 (by decide) ?_
  refine g_iadd (pc := 104) h dX7_goes_104 ?_
  refine g_putI (pc := 105) h fdX7_343 (inw ht) (by decide) ⟨rfl, rfl⟩ dX7_goes_105 ?_
  refine g_w hF (fun w_7 hF => ?_)
  refine g_iload (pc := 108) h 1 rfl dX7_goes_108 ?_
  obtain ⟨g_1, hF⟩ := grd_ok hF
  exact g_zret (pc := 110) h hr ⟨Nat.le_refl _, Nat.le_refl _⟩ (bz_ok g_1).1 hF dX7_goes_110
def fX7_goes_60 (t : Nat) (x4 : Int32) (y0 : Int32) (w : Wd) : Option (Int32 × Wd) :=
  bnd (fX7_within ((gI w t 29) + y0) (0 : Int32) (999 : Int32) w) (fun x_8 w_9 => lw (sI w_9 t 29 x_8) (fun w_10 => bnd (fX7_within ((gI w_10 t 30) + y0) (0 : Int32) (9999 : Int32) w_10) (fun x_11 w_12 => lw (sI w_12 t 30 x_11) (fun w_13 => fX7_goes_98 t x4 w_13))))
set_option maxHeartbeats 4000000 in
theorem kX7_goes_60 {X : Cx} (h : Ok X cX7_goes RX7 46 0 0) (hr : RetI X .boolean 0 0) (hnL : nLX X = 6) {t : Nat} (ht : InN X t 7) : ∀ (x4 : Int32) (y0 : Int32) (w : Wd), OkR X Value.int (fX7_goes_60 t x4 y0 w) → G X 0 0 60 [(0, .inr (.inl (some t))), (4, .inl x4)] [.int y0] w := by
  have hj : ∀ j, j < 6 → j < nLX X := fun j q => by rw [hnL]; exact q
  intro x4 y0 w hF
  unfold fX7_goes_60 at hF
  refine g_istore (pc := 60) (lv' := [(5, .inl y0), (0, .inr (.inl (some t))), (4, .inl x4)]) h dX7_goes_60 (hj 5 (by decide)) rfl ?_
  refine g_aload_n (pc := 62) h 1 rfl dX7_goes_62 ?_
  refine g_aload_n (pc := 63) h 1 rfl dX7_goes_63 ?_
  refine g_getI (pc := 64) h fdX7_340 (inw ht) (by decide) dX7_goes_64 ?_
  refine g_iload (pc := 67) h 0 rfl dX7_goes_67 ?_
  refine g_iadd (pc := 69) h dX7_goes_69 ?_
  refine g_iconst (pc := 70) (v := (0 : Int32)) h dX7_goes_70 (by decide) ?_
  refine g_sipush (pc := 71) (v := (999 : Int32)) h dX7_goes_71 (by decide) ?_
  refine g_csI (pc := 74) (st := [rv X.1 (some t)]) h mX7_within csX7_346 (by decide) ⟨by decide, by decide⟩ (Nat.le_of_ble_eq_true rfl) rfl rfl dX7_goes_74 hF (fun x_8 w_9 hF => ?_)
  refine g_putI (pc := 77) h fdX7_340 (inw ht) (by decide) ⟨rfl, rfl⟩ dX7_goes_77 ?_
  refine g_w hF (fun w_10 hF => ?_)
  refine g_aload_n (pc := 80) h 1 rfl dX7_goes_80 ?_
  refine g_aload_n (pc := 81) h 1 rfl dX7_goes_81 ?_
  refine g_getI (pc := 82) h fdX7_128 (inw ht) (by decide) dX7_goes_82 ?_
  refine g_iload (pc := 85) h 0 rfl dX7_goes_85 ?_
  refine g_iadd (pc := 87) h dX7_goes_87 ?_
  refine g_iconst (pc := 88) (v := (0 : Int32)) h dX7_goes_88 (by decide) ?_
  refine g_sipush (pc := 89) (v := (9999 : Int32)) h dX7_goes_89 (by decide) ?_
  refine g_csI (pc := 92) (st := [rv X.1 (some t)]) h mX7_within csX7_346 (by decide) ⟨by decide, by decide⟩ (Nat.le_of_ble_eq_true rfl) rfl rfl dX7_goes_92 hF (fun x_11 w_12 hF => ?_)
  refine g_putI (pc := 95) h fdX7_128 (inw ht) (by decide) ⟨rfl, rfl⟩ dX7_goes_95 ?_
  refine g_w hF (fun w_13 hF => ?_)
  refine g_lv (lv' := [(0, .inr (.inl (some t))), (4, .inl x4)]) [1, 2] rfl ?_
  exact kX7_goes_98 h hr hnL ht _ _ hF
def fX7_goes_33 (t : Nat) (x2 : Int32) (x3 : Int32) (y0 : Int32) (w : Wd) : Option (Int32 × Wd) :=
  if y0 = 0 then
    (fX7_goes_98 t y0 w)
  else
    (if x3 ≤ (x2 - (gI w t 30)) then
      (fX7_goes_60 t y0 x3 w)
    else
      (fX7_goes_60 t y0 (x2 - (gI w t 30)) w))
set_option maxHeartbeats 4000000 in
theorem kX7_goes_33 {X : Cx} (h : Ok X cX7_goes RX7 46 0 0) (hr : RetI X .boolean 0 0) (hnL : nLX X = 6) {t : Nat} (ht : InN X t 7) : ∀ (x2 : Int32) (x3 : Int32) (y0 : Int32) (w : Wd), OkR X Value.int (fX7_goes_33 t x2 x3 y0 w) → G X 0 0 33 [(0, .inr (.inl (some t))), (2, .inl x2), (3, .inl x3)] [.int y0] w := by
  have hj : ∀ j, j < 6 → j < nLX X := fun j q => by rw [hnL]; exact q
  intro x2 x3 y0 w hF
  unfold fX7_goes_33 at hF
  refine g_istore (pc := 33) (lv' := [(4, .inl y0), (0, .inr (.inl (some t))), (2, .inl x2), (3, .inl x3)]) h dX7_goes_33 (hj 4 (by decide)) rfl ?_
  refine g_iload (pc := 35) h 0 rfl dX7_goes_35 ?_
  refine g_if_eq (pc := 37) (tgt := 98) h dX7_goes_37 (by decide) hF (fun hF => ?_) (fun hF => ?_)
  · refine g_lv (lv' := [(0, .inr (.inl (some t))), (4, .inl y0)]) [1, 0] rfl ?_
    exact kX7_goes_98 h hr hnL ht _ _ hF
  · refine g_iload_n (pc := 40) h 2 rfl dX7_goes_40 ?_
    refine g_aload_n (pc := 41) h 1 rfl dX7_goes_41 ?_
    refine g_getI (pc := 42) h fdX7_128 (inw ht) (by decide) dX7_goes_42 ?_
    refine g_isub (pc := 45) h dX7_goes_45 ?_
    refine g_iload_n (pc := 46) h 3 rfl dX7_goes_46 ?_
    refine g_icmp_ge (pc := 47) (tgt := 59) h dX7_goes_47 (by decide) hF (fun hF => ?_) (fun hF => ?_)
    · refine g_iload_n (pc := 59) h 3 rfl dX7_goes_59 ?_
      refine g_lv (lv' := [(0, .inr (.inl (some t))), (4, .inl y0)]) [1, 0] rfl ?_
      exact kX7_goes_60 h hr hnL ht _ _ _ hF
    · refine g_iload_n (pc := 50) h 2 rfl dX7_goes_50 ?_
      refine g_aload_n (pc := 51) h 1 rfl dX7_goes_51 ?_
      refine g_getI (pc := 52) h fdX7_128 (inw ht) (by decide) dX7_goes_52 ?_
      refine g_isub (pc := 55) h dX7_goes_55 ?_
      refine g_goto (pc := 56) (tgt := 60) h dX7_goes_56 (by decide) ?_
      refine g_lv (lv' := [(0, .inr (.inl (some t))), (4, .inl y0)]) [1, 0] rfl ?_
      exact kX7_goes_60 h hr hnL ht _ _ _ hF
def fX7_goes_32 (t : Nat) (x2 : Int32) (x3 : Int32) (w : Wd) : Option (Int32 × Wd) :=
  fX7_goes_33 t x2 x3 (0 : Int32) w
set_option maxHeartbeats 4000000 in
theorem kX7_goes_32 {X : Cx} (h : Ok X cX7_goes RX7 46 0 0) (hr : RetI X .boolean 0 0) (hnL : nLX X = 6) {t : Nat} (ht : InN X t 7) : ∀ (x2 : Int32) (x3 : Int32) (w : Wd), OkR X Value.int (fX7_goes_32 t x2 x3 w) → G X 0 0 32 [(0, .inr (.inl (some t))), (2, .inl x2), (3, .inl x3)] [] w := by
  have hj : ∀ j, j < 6 → j < nLX X := fun j q => by rw [hnL]; exact q
  intro x2 x3 w hF
  unfold fX7_goes_32 at hF
  refine g_iconst (pc := 32) (v := (0 : Int32)) h dX7_goes_32 (by decide) ?_
  exact kX7_goes_33 h hr hnL ht _ _ _ _ hF
def fX7_goes (t : Nat) (x1 : Int32) (w : Wd) : Option (Int32 × Wd) :=
  bnd (fX7_lastsOf t x1 w) (fun x_1 w_2 => bnd (fX7_paceOf t x1 w_2) (fun x_3 w_4 => bnd (fX7_isStopped t x1 w_4) (fun x_5 w_6 => if x_5 = 0 then
    (if x_1 ≤ (gI w_6 t 30) then
      (fX7_goes_32 t x_1 x_3 w_6)
    else
      (fX7_goes_33 t x_1 x_3 (1 : Int32) w_6))
  else
    (fX7_goes_32 t x_1 x_3 w_6))))
set_option maxHeartbeats 4000000 in
theorem mX7_goes {Γ : En} {t : Nat} {x1 : Int32} {w : Wd} (ht : t < wn w ∧ kd t = 7) : MtI Γ yX7_goes cX7_goes 6 (some .boolean) 46 0 0 [rv Γ (some t), .int x1] w (fX7_goes t x1 w) := by
  refine mtI [.inr (.inl (some t)), .inl x1] rfl (Nat.le_of_ble_eq_true rfl) (fun X hΓ hnL hn0 h _ hr hF => ?_)
  subst hΓ
  have ht : InN X t 7 := ⟨by rw [hn0]; exact ht.1, ht.2⟩
  have h : Ok X cX7_goes RX7 46 0 0 := h
  have hj : ∀ j, j < 6 → j < nLX X := fun j q => by rw [hnL]; exact q
  show G X 0 0 0 [(0, .inr (.inl (some t))), (1, .inl x1)] [] w
  unfold fX7_goes at hF
  refine g_aload_n (pc := 0) h 0 rfl dX7_goes_0 ?_
  refine g_iload_n (pc := 1) h 1 rfl dX7_goes_1 ?_
  refine g_cvI (pc := 2) (st := []) h mX7_lastsOf cvX7_119 (inw ht) (by decide) ⟨by decide, by decide⟩ (Nat.le_of_ble_eq_true rfl) rfl rfl dX7_goes_2 hF (fun x_1 w_2 hF => ?_)
  refine g_istore_n (pc := 5) (lv' := [(2, .inl x_1), (0, .inr (.inl (some t))), (1, .inl x1)]) h dX7_goes_5 (hj 2 (by decide)) rfl ?_
  refine g_aload_n (pc := 6) h 1 rfl dX7_goes_6 ?_
  refine g_iload_n (pc := 7) h 2 rfl dX7_goes_7 ?_
  refine g_cvI (pc := 8) (st := []) h mX7_paceOf cvX7_122 (inw ht) (by decide) ⟨by decide, by decide⟩ (Nat.le_of_ble_eq_true rfl) rfl rfl dX7_goes_8 hF (fun x_3 w_4 hF => ?_)
  refine g_istore_n (pc := 11) (lv' := [(3, .inl x_3), (2, .inl x_1), (0, .inr (.inl (some t))), (1, .inl x1)]) h dX7_goes_11 (hj 3 (by decide)) rfl ?_
  refine g_aload_n (pc := 12) h 2 rfl dX7_goes_12 ?_
  refine g_iload_n (pc := 13) h 3 rfl dX7_goes_13 ?_
  refine g_cvI (pc := 14) (st := []) h mX7_isStopped cvX7_125 (inw ht) (by decide) ⟨by decide, by decide⟩ (Nat.le_of_ble_eq_true rfl) rfl rfl dX7_goes_14 hF (fun x_5 w_6 hF => ?_)
  refine g_if_ne (pc := 17) (tgt := 32) h dX7_goes_17 (by decide) hF (fun hF => ?_) (fun hF => ?_)
  · refine g_lv (lv' := [(0, .inr (.inl (some t))), (2, .inl x_1), (3, .inl x_3)]) [2, 1, 0] rfl ?_
    exact kX7_goes_32 h hr hnL ht _ _ _ hF
  · refine g_aload_n (pc := 20) h 2 rfl dX7_goes_20 ?_
    refine g_getI (pc := 21) h fdX7_128 (inw ht) (by decide) dX7_goes_21 ?_
    refine g_iload_n (pc := 24) h 1 rfl dX7_goes_24 ?_
    refine g_icmp_ge (pc := 25) (tgt := 32) h dX7_goes_25 (by decide) hF (fun hF => ?_) (fun hF => ?_)
    · refine g_lv (lv' := [(0, .inr (.inl (some t))), (2, .inl x_1), (3, .inl x_3)]) [2, 1, 0] rfl ?_
      exact kX7_goes_32 h hr hnL ht _ _ _ hF
    · refine g_iconst (pc := 28) (v := (1 : Int32)) h dX7_goes_28 (by decide) ?_
      refine g_goto (pc := 29) (tgt := 33) h dX7_goes_29 (by decide) ?_
      refine g_lv (lv' := [(0, .inr (.inl (some t))), (2, .inl x_1), (3, .inl x_3)]) [2, 1, 0] rfl ?_
      exact kX7_goes_33 h hr hnL ht _ _ _ _ hF
def fX7_lives_64 (k17 : Int32 → Int32 → Int32 → Wd → Option (Unit × Wd)) (t : Nat) (x1 : Int32) (x2 : Int32) (x3 : Int32) (w : Wd) : Option (Unit × Wd) :=
  k17 x1 x2 (x3 + (1 : Int32)) w
set_option maxHeartbeats 4000000 in
theorem kX7_lives_64 {X : Cx} (h : Ok X cX7_lives RX7 47 0 0) (hr : RetV X 0 0) (hnL : nLX X = 4) {t : Nat} (ht : InN X t 7) {k17 : Int32 → Int32 → Int32 → Wd → Option (Unit × Wd)} (hk17 : ∀ (x1 : Int32) (x2 : Int32) (x3 : Int32) (w : Wd), OkR X (fun _ : Unit => Value.null) (k17 x1 x2 x3 w) → G X 0 0 17 [(0, .inr (.inl (some t))), (1, .inl x1), (2, .inl x2), (3, .inl x3)] [] w) : ∀ (x1 : Int32) (x2 : Int32) (x3 : Int32) (w : Wd), OkR X (fun _ : Unit => Value.null) (fX7_lives_64 k17 t x1 x2 x3 w) → G X 0 0 64 [(0, .inr (.inl (some t))), (1, .inl x1), (2, .inl x2), (3, .inl x3)] [] w := by
  have hj : ∀ j, j < 4 → j < nLX X := fun j q => by rw [hnL]; exact q
  intro x1 x2 x3 w hF
  unfold fX7_lives_64 at hF
  refine g_iinc (pc := 64) (lv' := [(3, .inl (x3 + (1 : Int32))), (0, .inr (.inl (some t))), (1, .inl x1), (2, .inl x2)]) h 3 rfl dX7_lives_64 (dv := (1 : Int32)) (by decide) (hj 3 (by decide)) rfl ?_
  refine g_goto (pc := 67) (tgt := 17) h dX7_lives_67 (by decide) ?_
  refine g_lv (lv' := [(0, .inr (.inl (some t))), (1, .inl x1), (2, .inl x2), (3, .inl (x3 + (1 : Int32)))]) [1, 2, 3, 0] rfl ?_
  exact hk17 _ _ _ _ hF
def fX7_lives_43 (k17 : Int32 → Int32 → Int32 → Wd → Option (Unit × Wd)) (t : Nat) (x1 : Int32) (x2 : Int32) (x3 : Int32) (w : Wd) : Option (Unit × Wd) :=
  if (gI w t 32) = (-1 : Int32) then
    (bnd (fX7_isInSocks t x1 w) (fun x_8 w_9 => if x_8 = 0 then
      (fX7_lives_64 k17 t x1 x2 x3 w_9)
    else
      (lw (sI w_9 t 32 x3) (fun w_10 => fX7_lives_64 k17 t x1 x2 x3 w_10))))
  else
    (fX7_lives_64 k17 t x1 x2 x3 w)
set_option maxHeartbeats 4000000 in
theorem kX7_lives_43 {X : Cx} (h : Ok X cX7_lives RX7 47 0 0) (hr : RetV X 0 0) (hnL : nLX X = 4) {t : Nat} (ht : InN X t 7) {k17 : Int32 → Int32 → Int32 → Wd → Option (Unit × Wd)} (hk17 : ∀ (x1 : Int32) (x2 : Int32) (x3 : Int32) (w : Wd), OkR X (fun _ : Unit => Value.null) (k17 x1 x2 x3 w) → G X 0 0 17 [(0, .inr (.inl (some t))), (1, .inl x1), (2, .inl x2), (3, .inl x3)] [] w) : ∀ (x1 : Int32) (x2 : Int32) (x3 : Int32) (w : Wd), OkR X (fun _ : Unit => Value.null) (fX7_lives_43 k17 t x1 x2 x3 w) → G X 0 0 43 [(0, .inr (.inl (some t))), (1, .inl x1), (2, .inl x2), (3, .inl x3)] [] w := by
  have hj : ∀ j, j < 4 → j < nLX X := fun j q => by rw [hnL]; exact q
  intro x1 x2 x3 w hF
  unfold fX7_lives_43 at hF
  refine g_aload_n (pc := 43) h 0 rfl dX7_lives_43 ?_
  refine g_getI (pc := 44) h fdX7_353 (inw ht) (by decide) dX7_lives_44 ?_
  refine g_iconst (pc := 47) (v := (-1 : Int32)) h dX7_lives_47 (by decide) ?_
  refine g_icmp_ne (pc := 48) (tgt := 64) h dX7_lives_48 (by decide) hF (fun hF => ?_) (fun hF => ?_)
  · exact kX7_lives_64 h hr hnL ht hk17 _ _ _ _ hF
  · refine g_aload_n (pc := 51) h 0 rfl dX7_lives_51 ?_
    refine g_iload_n (pc := 52) h 1 rfl dX7_lives_52 ?_
    refine g_cvI (pc := 53) (st := []) h mX7_isInSocks cvX7_362 (inw ht) (by decide) ⟨by decide, by decide⟩ (Nat.le_of_ble_eq_true rfl) rfl rfl dX7_lives_53 hF (fun x_8 w_9 hF => ?_)
    refine g_if_eq (pc := 56) (tgt := 64) h dX7_lives_56 (by decide) hF (fun hF => ?_) (fun hF => ?_)
    · exact kX7_lives_64 h hr hnL ht hk17 _ _ _ _ hF
    · refine g_aload_n (pc := 59) h 0 rfl dX7_lives_59 ?_
      refine g_iload_n (pc := 60) h 3 rfl dX7_lives_60 ?_
      refine g_putI (pc := 61) h fdX7_353 (inw ht) (by decide) ⟨rfl, rfl⟩ dX7_lives_61 ?_
      refine g_w hF (fun w_10 hF => ?_)
      exact kX7_lives_64 h hr hnL ht hk17 _ _ _ _ hF
def fX7_lives_17 (t : Nat) : Nat → Int32 → Int32 → Int32 → Wd → Option (Unit × Wd)
  | 0 => fun _ _ _ _ => none
  | n + 1 => fun x1 x2 x3 w =>
    if x2 ≤ x3 then
      (some ((), w))
    else
      (bnd (fX7_goes t x1 w) (fun x_5 w_6 => if x_5 = 0 then
        (if (gI w_6 t 33) = (-1 : Int32) then
          (lw (sI w_6 t 33 x3) (fun w_7 => fX7_lives_43 (fX7_lives_17 t n) t x1 x2 x3 w_7))
        else
          (fX7_lives_43 (fX7_lives_17 t n) t x1 x2 x3 w_6))
      else
        (fX7_lives_43 (fX7_lives_17 t n) t x1 x2 x3 w_6)))
set_option maxHeartbeats 4000000 in
theorem kX7_lives_17 {X : Cx} (h : Ok X cX7_lives RX7 47 0 0) (hr : RetV X 0 0) (hnL : nLX X = 4) {t : Nat} (ht : InN X t 7) : ∀ (fu : Nat) (x1 : Int32) (x2 : Int32) (x3 : Int32) (w : Wd), OkR X (fun _ : Unit => Value.null) (fX7_lives_17 t fu x1 x2 x3 w) → G X 0 0 17 [(0, .inr (.inl (some t))), (1, .inl x1), (2, .inl x2), (3, .inl x3)] [] w := by
  have hj : ∀ j, j < 4 → j < nLX X := fun j q => by rw [hnL]; exact q
  intro fu
  induction fu with
  | zero => intro x1 x2 x3 w hF; exact okN hF
  | succ fu ih =>
    intro x1 x2 x3 w hF
    rw [fX7_lives_17] at hF
    refine g_iload_n (pc := 17) h 3 rfl dX7_lives_17 ?_
    refine g_iload_n (pc := 18) h 2 rfl dX7_lives_18 ?_
    refine g_icmp_ge (pc := 19) (tgt := 70) h dX7_lives_19 (by decide) hF (fun hF => ?_) (fun hF => ?_)
    · exact g_vret (pc := 70) h hr ⟨Nat.le_refl _, Nat.le_refl _⟩ hF dX7_lives_70
    · refine g_aload_n (pc := 22) h 0 rfl dX7_lives_22 ?_
      refine g_iload_n (pc := 23) h 1 rfl dX7_lives_23 ?_
      refine g_cvI (pc := 24) (st := []) h mX7_goes cvX7_359 (inw ht) (by decide) ⟨by decide, by decide⟩ (Nat.le_of_ble_eq_true rfl) rfl rfl dX7_lives_24 hF (fun x_5 w_6 hF => ?_)
      refine g_if_ne (pc := 27) (tgt := 43) h dX7_lives_27 (by decide) hF (fun hF => ?_) (fun hF => ?_)
      · exact kX7_lives_43 h hr hnL ht (fun z0 z1 z2 z3 hF => ih z0 z1 z2 z3 hF) _ _ _ _ hF
      · refine g_aload_n (pc := 30) h 0 rfl dX7_lives_30 ?_
        refine g_getI (pc := 31) h fdX7_356 (inw ht) (by decide) dX7_lives_31 ?_
        refine g_iconst (pc := 34) (v := (-1 : Int32)) h dX7_lives_34 (by decide) ?_
        refine g_icmp_ne (pc := 35) (tgt := 43) h dX7_lives_35 (by decide) hF (fun hF => ?_) (fun hF => ?_)
        · exact kX7_lives_43 h hr hnL ht (fun z0 z1 z2 z3 hF => ih z0 z1 z2 z3 hF) _ _ _ _ hF
        · refine g_aload_n (pc := 38) h 0 rfl dX7_lives_38 ?_
          refine g_iload_n (pc := 39) h 3 rfl dX7_lives_39 ?_
          refine g_putI (pc := 40) h fdX7_356 (inw ht) (by decide) ⟨rfl, rfl⟩ dX7_lives_40 ?_
          refine g_w hF (fun w_7 hF => ?_)
          exact kX7_lives_43 h hr hnL ht (fun z0 z1 z2 z3 hF => ih z0 z1 z2 z3 hF) _ _ _ _ hF
def fX7_lives (t : Nat) (x1 : Int32) (x2 : Int32) (w : Wd) : Option (Unit × Wd) :=
  bnd (fX7_begins t x1 w) (fun u_1 w_2 => lw (sI w_2 t 32 (-1 : Int32)) (fun w_3 => lw (sI w_3 t 33 (-1 : Int32)) (fun w_4 => fX7_lives_17 t FU x1 x2 (0 : Int32) w_4)))
set_option maxHeartbeats 4000000 in
theorem mX7_lives {Γ : En} {t : Nat} {x1 : Int32} {x2 : Int32} {w : Wd} (ht : t < wn w ∧ kd t = 7) : MtV Γ yX7_lives cX7_lives 4 none 47 0 0 [rv Γ (some t), .int x1, .int x2] w (fX7_lives t x1 x2 w) := by
  refine mtV [.inr (.inl (some t)), .inl x1, .inl x2] rfl (Nat.le_of_ble_eq_true rfl) (fun X hΓ hnL hn0 h _ hr hF => ?_)
  subst hΓ
  have ht : InN X t 7 := ⟨by rw [hn0]; exact ht.1, ht.2⟩
  have h : Ok X cX7_lives RX7 47 0 0 := h
  have hj : ∀ j, j < 4 → j < nLX X := fun j q => by rw [hnL]; exact q
  show G X 0 0 0 [(0, .inr (.inl (some t))), (1, .inl x1), (2, .inl x2)] [] w
  unfold fX7_lives at hF
  refine g_aload_n (pc := 0) h 0 rfl dX7_lives_0 ?_
  refine g_iload_n (pc := 1) h 1 rfl dX7_lives_1 ?_
  refine g_cvV (pc := 2) (st := []) h mX7_begins cvX7_109 (inw ht) (by decide) ⟨by decide, by decide⟩ (Nat.le_of_ble_eq_true rfl) rfl rfl dX7_lives_2 hF (fun u_1 w_2 hF => ?_)
  refine g_aload_n (pc := 5) h 0 rfl dX7_lives_5 ?_
  refine g_iconst (pc := 6) (v := (-1 : Int32)) h dX7_lives_6 (by decide) ?_
  refine g_putI (pc := 7) h fdX7_353 (inw ht) (by decide) ⟨rfl, rfl⟩ dX7_lives_7 ?_
  refine g_w hF (fun w_3 hF => ?_)
  refine g_aload_n (pc := 10) h 0 rfl dX7_lives_10 ?_
  refine g_iconst (pc := 11) (v := (-1 : Int32)) h dX7_lives_11 (by decide) ?_
  refine g_putI (pc := 12) h fdX7_356 (inw ht) (by decide) ⟨rfl, rfl⟩ dX7_lives_12 ?_
  refine g_w hF (fun w_4 hF => ?_)
  refine g_iconst (pc := 15) (v := (0 : Int32)) h dX7_lives_15 (by decide) ?_
  refine g_istore_n (pc := 16) (lv' := [(3, .inl (0 : Int32)), (0, .inr (.inl (some t))), (1, .inl x1), (2, .inl x2)]) h dX7_lives_16 (hj 3 (by decide)) rfl ?_
  refine g_lv (lv' := [(0, .inr (.inl (some t))), (1, .inl x1), (2, .inl x2), (3, .inl (0 : Int32))]) [1, 2, 3, 0] rfl ?_
  exact kX7_lives_17 h hr hnL ht _ _ _ _ _ hF
def fX7_day_44 (k17 : Int32 → Int32 → Wd → Option (Int32 × Wd)) (t : Nat) (x2 : Int32) (y0 : Int32) (y1 : Int32) (w : Wd) : Option (Int32 × Wd) :=
  lt (y1 + y0) (fun x1_6 => dr (gR w t 10) 8 w (fun a_7 => grd (vin (((5 : Int32) * x2) + (3 : Int32)) (ln a_7)) (lw (sI w a_7 (((5 : Int32) * x2) + (3 : Int32)).toNatClampNeg (gI w t 29)) (fun w_8 => dr (gR w_8 t 10) 8 w_8 (fun a_9 => grd (vin (((5 : Int32) * x2) + (4 : Int32)) (ln a_9)) (lw (sI w_8 a_9 (((5 : Int32) * x2) + (4 : Int32)).toNatClampNeg (gI w_8 t 30)) (fun w_10 => k17 x1_6 (x2 + (1 : Int32)) w_10)))))))
set_option maxHeartbeats 4000000 in
theorem kX7_day_44 {X : Cx} (h : Ok X cX7_day RX7 47 0 0) (hr : RetI X .int 0 0) (hnL : nLX X = 3) {t : Nat} (ht : InN X t 7) {k17 : Int32 → Int32 → Wd → Option (Int32 × Wd)} (hk17 : ∀ (x1 : Int32) (x2 : Int32) (w : Wd), OkR X Value.int (k17 x1 x2 w) → G X 0 0 17 [(0, .inr (.inl (some t))), (1, .inl x1), (2, .inl x2)] [] w) : ∀ (x2 : Int32) (y0 : Int32) (y1 : Int32) (w : Wd), OkR X Value.int (fX7_day_44 k17 t x2 y0 y1 w) → G X 0 0 44 [(0, .inr (.inl (some t))), (2, .inl x2)] [.int y0, .int y1] w := by
  have hj : ∀ j, j < 3 → j < nLX X := fun j q => by rw [hnL]; exact q
  intro x2 y0 y1 w hF
  unfold fX7_day_44 at hF
  refine g_iadd (pc := 44) h dX7_day_44 ?_
  refine g_t hF (fun x1_6 hF => ?_)
  refine g_istore_n (pc := 45) (lv' := [(1, .inl x1_6), (0, .inr (.inl (some t))), (2, .inl x2)]) h dX7_day_45 (hj 1 (by decide)) rfl ?_
  refine g_aload_n (pc := 46) h 1 rfl dX7_day_46 ?_
  refine g_getR (pc := 47) h fdX7_29 (inw ht) rfl dX7_day_47 ?_
  refine g_iconst (pc := 50) (v := (5 : Int32)) h dX7_day_50 (by decide) ?_
  refine g_iload_n (pc := 51) h 2 rfl dX7_day_51 ?_
  refine g_imul (pc := 52) h dX7_day_52 ?_
  refine g_iconst (pc := 53) (v := (3 : Int32)) h dX7_day_53 (by decide) ?_
  refine g_iadd (pc := 54) h dX7_day_54 ?_
  refine g_aload_n (pc := 55) h 1 rfl dX7_day_55 ?_
  refine g_getI (pc := 56) h fdX7_340 (inw ht) (by decide) dX7_day_56 ?_
  refine g_dr hF (fun a_7 e_a_7 h_a_7 hF => ?_)
  rw [e_a_7]
  obtain ⟨g_1, hF⟩ := grd_ok hF
  refine g_iast (pc := 59) h h_a_7 g_1 dX7_day_59 ?_
  refine g_w hF (fun w_8 hF => ?_)
  refine g_aload_n (pc := 60) h 1 rfl dX7_day_60 ?_
  refine g_getR (pc := 61) h fdX7_29 (inw ht) rfl dX7_day_61 ?_
  refine g_iconst (pc := 64) (v := (5 : Int32)) h dX7_day_64 (by decide) ?_
  refine g_iload_n (pc := 65) h 2 rfl dX7_day_65 ?_
  refine g_imul (pc := 66) h dX7_day_66 ?_
  refine g_iconst (pc := 67) (v := (4 : Int32)) h dX7_day_67 (by decide) ?_
  refine g_iadd (pc := 68) h dX7_day_68 ?_
  refine g_aload_n (pc := 69) h 1 rfl dX7_day_69 ?_
  refine g_getI (pc := 70) h fdX7_128 (inw ht) (by decide) dX7_day_70 ?_
  refine g_dr hF (fun a_9 e_a_9 h_a_9 hF => ?_)
  rw [e_a_9]
  obtain ⟨g_2, hF⟩ := grd_ok hF
  refine g_iast (pc := 73) h h_a_9 g_2 dX7_day_73 ?_
  refine g_w hF (fun w_10 hF => ?_)
  refine g_iinc (pc := 74) (lv' := [(2, .inl (x2 + (1 : Int32))), (1, .inl x1_6), (0, .inr (.inl (some t)))]) h 2 rfl dX7_day_74 (dv := (1 : Int32)) (by decide) (hj 2 (by decide)) rfl ?_
  refine g_goto (pc := 77) (tgt := 17) h dX7_day_77 (by decide) ?_
  refine g_lv (lv' := [(0, .inr (.inl (some t))), (1, .inl x1_6), (2, .inl (x2 + (1 : Int32)))]) [2, 1, 0] rfl ?_
  exact hk17 _ _ _ hF
def fX7_day_17 (t : Nat) : Nat → Int32 → Int32 → Wd → Option (Int32 × Wd)
  | 0 => fun _ _ _ => none
  | n + 1 => fun x1 x2 w =>
    if (gI w t 11) ≤ x2 then
      (lw (sI w t 7 ((gI w t 7) + (1 : Int32))) (fun w_1 => some (x1, w_1)))
    else
      (bnd (fX7_begins t x2 w) (fun u_2 w_3 => bnd (fX7_goes t x2 w_3) (fun x_4 w_5 => if x_4 = 0 then
        (fX7_day_44 (fX7_day_17 t n) t x2 (0 : Int32) x1 w_5)
      else
        (fX7_day_44 (fX7_day_17 t n) t x2 (1 : Int32) x1 w_5))))
set_option maxHeartbeats 4000000 in
theorem kX7_day_17 {X : Cx} (h : Ok X cX7_day RX7 47 0 0) (hr : RetI X .int 0 0) (hnL : nLX X = 3) {t : Nat} (ht : InN X t 7) : ∀ (fu : Nat) (x1 : Int32) (x2 : Int32) (w : Wd), OkR X Value.int (fX7_day_17 t fu x1 x2 w) → G X 0 0 17 [(0, .inr (.inl (some t))), (1, .inl x1), (2, .inl x2)] [] w := by
  have hj : ∀ j, j < 3 → j < nLX X := fun j q => by rw [hnL]; exact q
  intro fu
  induction fu with
  | zero => intro x1 x2 w hF; exact okN hF
  | succ fu ih =>
    intro x1 x2 w hF
    rw [fX7_day_17] at hF
    refine g_iload_n (pc := 17) h 2 rfl dX7_day_17 ?_
    refine g_aload_n (pc := 18) h 0 rfl dX7_day_18 ?_
    refine g_getI (pc := 19) h fdX7_64 (inw ht) (by decide) dX7_day_19 ?_
    refine g_icmp_ge (pc := 22) (tgt := 80) h dX7_day_22 (by decide) hF (fun hF => ?_) (fun hF => ?_)
    · refine g_aload_n (pc := 80) h 0 rfl dX7_day_80 ?_
      refine g_dup (pc := 81) h dX7_day_81 rv_cat ?_
      refine g_getI (pc := 82) h fdX7_95 (inw ht) (by decide) dX7_day_82 ?_
      refine g_iconst (pc := 85) (v := (1 : Int32)) h dX7_day_85 (by decide) ?_
      refine g_iadd (pc := 86) h dX7_day_86 ?_
      refine g_putI (pc := 87) h fdX7_95 (inw ht) (by decide) ⟨rfl, rfl⟩ dX7_day_87 ?_
      refine g_w hF (fun w_1 hF => ?_)
      refine g_iload_n (pc := 90) h 1 rfl dX7_day_90 ?_
      exact g_iret (pc := 91) h hr ⟨Nat.le_refl _, Nat.le_refl _⟩ hF dX7_day_91
    · refine g_aload_n (pc := 25) h 0 rfl dX7_day_25 ?_
      refine g_iload_n (pc := 26) h 2 rfl dX7_day_26 ?_
      refine g_cvV (pc := 27) (st := []) h mX7_begins cvX7_109 (inw ht) (by decide) ⟨by decide, by decide⟩ (Nat.le_of_ble_eq_true rfl) rfl rfl dX7_day_27 hF (fun u_2 w_3 hF => ?_)
      refine g_iload_n (pc := 30) h 1 rfl dX7_day_30 ?_
      refine g_aload_n (pc := 31) h 0 rfl dX7_day_31 ?_
      refine g_iload_n (pc := 32) h 2 rfl dX7_day_32 ?_
      refine g_cvI (pc := 33) (st := [.int x1]) h mX7_goes cvX7_359 (inw ht) (by decide) ⟨by decide, by decide⟩ (Nat.le_of_ble_eq_true rfl) rfl rfl dX7_day_33 hF (fun x_4 w_5 hF => ?_)
      refine g_if_eq (pc := 36) (tgt := 43) h dX7_day_36 (by decide) hF (fun hF => ?_) (fun hF => ?_)
      · refine g_iconst (pc := 43) (v := (0 : Int32)) h dX7_day_43 (by decide) ?_
        refine g_lv (lv' := [(0, .inr (.inl (some t))), (2, .inl x2)]) [0, 2] rfl ?_
        exact kX7_day_44 h hr hnL ht (fun z0 z1 z2 hF => ih z0 z1 z2 hF) _ _ _ _ hF
      · refine g_iconst (pc := 39) (v := (1 : Int32)) h dX7_day_39 (by decide) ?_
        refine g_goto (pc := 40) (tgt := 44) h dX7_day_40 (by decide) ?_
        refine g_lv (lv' := [(0, .inr (.inl (some t))), (2, .inl x2)]) [0, 2] rfl ?_
        exact kX7_day_44 h hr hnL ht (fun z0 z1 z2 hF => ih z0 z1 z2 hF) _ _ _ _ hF
def fX7_day (t : Nat) (w : Wd) : Option (Int32 × Wd) :=
  if (gI w t 7) = (999 : Int32) then
    (some ((-3 : Int32), w))
  else
    (fX7_day_17 t FU (0 : Int32) (0 : Int32) w)
set_option maxHeartbeats 4000000 in
theorem mX7_day {Γ : En} {t : Nat} {w : Wd} (ht : t < wn w ∧ kd t = 7) : MtI Γ yX7_day cX7_day 3 (some .int) 47 0 0 [rv Γ (some t)] w (fX7_day t w) := by
  refine mtI [.inr (.inl (some t))] rfl (Nat.le_of_ble_eq_true rfl) (fun X hΓ hnL hn0 h _ hr hF => ?_)
  subst hΓ
  have ht : InN X t 7 := ⟨by rw [hn0]; exact ht.1, ht.2⟩
  have h : Ok X cX7_day RX7 47 0 0 := h
  have hj : ∀ j, j < 3 → j < nLX X := fun j q => by rw [hnL]; exact q
  show G X 0 0 0 [(0, .inr (.inl (some t)))] [] w
  unfold fX7_day at hF
  refine g_aload_n (pc := 0) h 0 rfl dX7_day_0 ?_
  refine g_getI (pc := 1) h fdX7_95 (inw ht) (by decide) dX7_day_1 ?_
  refine g_sipush (pc := 4) (v := (999 : Int32)) h dX7_day_4 (by decide) ?_
  refine g_icmp_ne (pc := 7) (tgt := 13) h dX7_day_7 (by decide) hF (fun hF => ?_) (fun hF => ?_)
  · refine g_iconst (pc := 13) (v := (0 : Int32)) h dX7_day_13 (by decide) ?_
    refine g_istore_n (pc := 14) (lv' := [(1, .inl (0 : Int32)), (0, .inr (.inl (some t)))]) h dX7_day_14 (hj 1 (by decide)) rfl ?_
    refine g_iconst (pc := 15) (v := (0 : Int32)) h dX7_day_15 (by decide) ?_
    refine g_istore_n (pc := 16) (lv' := [(2, .inl (0 : Int32)), (1, .inl (0 : Int32)), (0, .inr (.inl (some t)))]) h dX7_day_16 (hj 2 (by decide)) rfl ?_
    refine g_lv (lv' := [(0, .inr (.inl (some t))), (1, .inl (0 : Int32)), (2, .inl (0 : Int32))]) [2, 1, 0] rfl ?_
    exact kX7_day_17 h hr hnL ht _ _ _ _ hF
  · refine g_bipush (pc := 10) (v := (-3 : Int32)) h dX7_day_10 (by decide) ?_
    exact g_iret (pc := 12) h hr ⟨Nat.le_refl _, Nat.le_refl _⟩ hF dX7_day_12
def fX7_run (t : Nat) (x1 : Int32) (x2 : Int32) (x3 : Int32) (w : Wd) : Option (Int32 × Wd) :=
  bnd (fX7_isOne t x1 w) (fun x_1 w_2 => if x_1 = 0 then
    (some ((-2 : Int32), w_2))
  else
    (bnd (fX7_in (x2.toInt64) (0 : Int64) (40 : Int64) w_2) (fun x_3 w_4 => if x_3 = 0 then
      (some ((-2 : Int32), w_4))
    else
      (bnd (fX7_in (x3.toInt64) (0 : Int64) (3 : Int64) w_4) (fun x_5 w_6 => if x_5 = 0 then
        (some ((-2 : Int32), w_6))
      else
        (bnd (fX7_lives t x1 x2 w_6) (fun u_7 w_8 => if x3 = 0 then
          (some (gI w_8 t 29, w_8))
        else
          (if x3 = (1 : Int32) then
            (some (gI w_8 t 32, w_8))
          else
            (if x3 = (2 : Int32) then
              (some (gI w_8 t 33, w_8))
            else
              (some (gI w_8 t 30, w_8)))))))))))
set_option maxHeartbeats 4000000 in
theorem mX7_run {Γ : En} {t : Nat} {x1 : Int32} {x2 : Int32} {x3 : Int32} {w : Wd} (ht : t < wn w ∧ kd t = 7) : MtI Γ yX7_run cX7_run 4 (some .int) 48 0 0 [rv Γ (some t), .int x1, .int x2, .int x3] w (fX7_run t x1 x2 x3 w) := by
  refine mtI [.inr (.inl (some t)), .inl x1, .inl x2, .inl x3] rfl (Nat.le_of_ble_eq_true rfl) (fun X hΓ hnL hn0 h _ hr hF => ?_)
  subst hΓ
  have ht : InN X t 7 := ⟨by rw [hn0]; exact ht.1, ht.2⟩
  have h : Ok X cX7_run RX7 48 0 0 := h
  have hj : ∀ j, j < 4 → j < nLX X := fun j q => by rw [hnL]; exact q
  show G X 0 0 0 [(0, .inr (.inl (some t))), (1, .inl x1), (2, .inl x2), (3, .inl x3)] [] w
  unfold fX7_run at hF
  refine g_aload_n (pc := 0) h 0 rfl dX7_run_0 ?_
  refine g_iload_n (pc := 1) h 1 rfl dX7_run_1 ?_
  refine g_cvI (pc := 2) (st := []) h mX7_isOne cvX7_73 (inw ht) (by decide) ⟨by decide, by decide⟩ (Nat.le_of_ble_eq_true rfl) rfl rfl dX7_run_2 hF (fun x_1 w_2 hF => ?_)
  refine g_if_eq (pc := 5) (tgt := 32) h dX7_run_5 (by decide) hF (fun hF => ?_) (fun hF => ?_)
  · refine g_bipush (pc := 32) (v := (-2 : Int32)) h dX7_run_32 (by decide) ?_
    exact g_iret (pc := 34) h hr ⟨Nat.le_refl _, Nat.le_refl _⟩ hF dX7_run_34
  · refine g_iload_n (pc := 8) h 2 rfl dX7_run_8 ?_
    refine g_i2l (pc := 9) h dX7_run_9 ?_
    refine g_lconst (pc := 10) (v := (0 : Int64)) h dX7_run_10 (by decide) ?_
    refine g_ldc2 (pc := 11) h wcL_X7_365 dX7_run_11 ?_
    refine g_csI (pc := 14) (st := []) h mX7_in csX7_67 (by decide) ⟨by decide, by decide⟩ (Nat.le_of_ble_eq_true rfl) rfl rfl dX7_run_14 hF (fun x_3 w_4 hF => ?_)
    refine g_if_eq (pc := 17) (tgt := 32) h dX7_run_17 (by decide) hF (fun hF => ?_) (fun hF => ?_)
    · refine g_bipush (pc := 32) (v := (-2 : Int32)) h dX7_run_32 (by decide) ?_
      exact g_iret (pc := 34) h hr ⟨Nat.le_refl _, Nat.le_refl _⟩ hF dX7_run_34
    · refine g_iload_n (pc := 20) h 3 rfl dX7_run_20 ?_
      refine g_i2l (pc := 21) h dX7_run_21 ?_
      refine g_lconst (pc := 22) (v := (0 : Int64)) h dX7_run_22 (by decide) ?_
      refine g_ldc2 (pc := 23) h wcL_X7_367 dX7_run_23 ?_
      refine g_csI (pc := 26) (st := []) h mX7_in csX7_67 (by decide) ⟨by decide, by decide⟩ (Nat.le_of_ble_eq_true rfl) rfl rfl dX7_run_26 hF (fun x_5 w_6 hF => ?_)
      refine g_if_ne (pc := 29) (tgt := 35) h dX7_run_29 (by decide) hF (fun hF => ?_) (fun hF => ?_)
      · refine g_aload_n (pc := 35) h 0 rfl dX7_run_35 ?_
        refine g_iload_n (pc := 36) h 1 rfl dX7_run_36 ?_
        refine g_iload_n (pc := 37) h 2 rfl dX7_run_37 ?_
        refine g_cvV (pc := 38) (st := []) h mX7_lives cvX7_369 (inw ht) (by decide) ⟨by decide, by decide⟩ (Nat.le_of_ble_eq_true rfl) rfl rfl dX7_run_38 hF (fun u_7 w_8 hF => ?_)
        refine g_iload_n (pc := 41) h 3 rfl dX7_run_41 ?_
        refine g_if_ne (pc := 42) (tgt := 52) h dX7_run_42 (by decide) hF (fun hF => ?_) (fun hF => ?_)
        · refine g_iload_n (pc := 52) h 3 rfl dX7_run_52 ?_
          refine g_iconst (pc := 53) (v := (1 : Int32)) h dX7_run_53 (by decide) ?_
          refine g_icmp_ne (pc := 54) (tgt := 64) h dX7_run_54 (by decide) hF (fun hF => ?_) (fun hF => ?_)
          · refine g_iload_n (pc := 64) h 3 rfl dX7_run_64 ?_
            refine g_iconst (pc := 65) (v := (2 : Int32)) h dX7_run_65 (by decide) ?_
            refine g_icmp_ne (pc := 66) (tgt := 76) h dX7_run_66 (by decide) hF (fun hF => ?_) (fun hF => ?_)
            · refine g_aload_n (pc := 76) h 0 rfl dX7_run_76 ?_
              refine g_getI (pc := 77) h fdX7_128 (inw ht) (by decide) dX7_run_77 ?_
              exact g_iret (pc := 80) h hr ⟨Nat.le_refl _, Nat.le_refl _⟩ hF dX7_run_80
            · refine g_aload_n (pc := 69) h 0 rfl dX7_run_69 ?_
              refine g_getI (pc := 70) h fdX7_356 (inw ht) (by decide) dX7_run_70 ?_
              refine g_goto (pc := 73) (tgt := 80) h dX7_run_73 (by decide) ?_
              exact g_iret (pc := 80) h hr ⟨Nat.le_refl _, Nat.le_refl _⟩ hF dX7_run_80
          · refine g_aload_n (pc := 57) h 0 rfl dX7_run_57 ?_
            refine g_getI (pc := 58) h fdX7_353 (inw ht) (by decide) dX7_run_58 ?_
            refine g_goto (pc := 61) (tgt := 80) h dX7_run_61 (by decide) ?_
            exact g_iret (pc := 80) h hr ⟨Nat.le_refl _, Nat.le_refl _⟩ hF dX7_run_80
        · refine g_aload_n (pc := 45) h 0 rfl dX7_run_45 ?_
          refine g_getI (pc := 46) h fdX7_340 (inw ht) (by decide) dX7_run_46 ?_
          refine g_goto (pc := 49) (tgt := 80) h dX7_run_49 (by decide) ?_
          exact g_iret (pc := 80) h hr ⟨Nat.le_refl _, Nat.le_refl _⟩ hF dX7_run_80
      · refine g_bipush (pc := 32) (v := (-2 : Int32)) h dX7_run_32 (by decide) ?_
        exact g_iret (pc := 34) h hr ⟨Nat.le_refl _, Nat.le_refl _⟩ hF dX7_run_34
def fX7_mend (t : Nat) (x1 : Int32) (w : Wd) : Option (Int32 × Wd) :=
  bnd (fX7_isOne t x1 w) (fun x_1 w_2 => if x_1 = 0 then
    (some ((-2 : Int32), w_2))
  else
    (dr (gR w_2 t 10) 8 w_2 (fun a_3 => grd (vin (((5 : Int32) * x1) + (4 : Int32)) (ln a_3)) (lt (gI w_2 a_3 (((5 : Int32) * x1) + (4 : Int32)).toNatClampNeg) (fun x2_4 => dr (gR w_2 t 10) 8 w_2 (fun a_5 => grd (vin (((5 : Int32) * x1) + (4 : Int32)) (ln a_5)) (lw (sI w_2 a_5 (((5 : Int32) * x1) + (4 : Int32)).toNatClampNeg (0 : Int32)) (fun w_6 => some (x2_4, w_6)))))))))
set_option maxHeartbeats 4000000 in
theorem mX7_mend {Γ : En} {t : Nat} {x1 : Int32} {w : Wd} (ht : t < wn w ∧ kd t = 7) : MtI Γ yX7_mend cX7_mend 3 (some .int) 4 0 0 [rv Γ (some t), .int x1] w (fX7_mend t x1 w) := by
  refine mtI [.inr (.inl (some t)), .inl x1] rfl (Nat.le_of_ble_eq_true rfl) (fun X hΓ hnL hn0 h _ hr hF => ?_)
  subst hΓ
  have ht : InN X t 7 := ⟨by rw [hn0]; exact ht.1, ht.2⟩
  have h : Ok X cX7_mend RX7 4 0 0 := h
  have hj : ∀ j, j < 3 → j < nLX X := fun j q => by rw [hnL]; exact q
  show G X 0 0 0 [(0, .inr (.inl (some t))), (1, .inl x1)] [] w
  unfold fX7_mend at hF
  refine g_aload_n (pc := 0) h 0 rfl dX7_mend_0 ?_
  refine g_iload_n (pc := 1) h 1 rfl dX7_mend_1 ?_
  refine g_cvI (pc := 2) (st := []) h mX7_isOne cvX7_73 (inw ht) (by decide) ⟨by decide, by decide⟩ (Nat.le_of_ble_eq_true rfl) rfl rfl dX7_mend_2 hF (fun x_1 w_2 hF => ?_)
  refine g_if_ne (pc := 5) (tgt := 11) h dX7_mend_5 (by decide) hF (fun hF => ?_) (fun hF => ?_)
  · refine g_aload_n (pc := 11) h 0 rfl dX7_mend_11 ?_
    refine g_getR (pc := 12) h fdX7_29 (inw ht) rfl dX7_mend_12 ?_
    refine g_iconst (pc := 15) (v := (5 : Int32)) h dX7_mend_15 (by decide) ?_
    refine g_iload_n (pc := 16) h 1 rfl dX7_mend_16 ?_
    refine g_imul (pc := 17) h dX7_mend_17 ?_
    refine g_iconst (pc := 18) (v := (4 : Int32)) h dX7_mend_18 (by decide) ?_
    refine g_iadd (pc := 19) h dX7_mend_19 ?_
    refine g_dr hF (fun a_3 e_a_3 h_a_3 hF => ?_)
    rw [e_a_3]
    obtain ⟨g_1, hF⟩ := grd_ok hF
    refine g_iald (pc := 20) h h_a_3 g_1 dX7_mend_20 ?_
    refine g_t hF (fun x2_4 hF => ?_)
    refine g_istore_n (pc := 21) (lv' := [(2, .inl x2_4), (0, .inr (.inl (some t))), (1, .inl x1)]) h dX7_mend_21 (hj 2 (by decide)) rfl ?_
    refine g_aload_n (pc := 22) h 1 rfl dX7_mend_22 ?_
    refine g_getR (pc := 23) h fdX7_29 (inw ht) rfl dX7_mend_23 ?_
    refine g_iconst (pc := 26) (v := (5 : Int32)) h dX7_mend_26 (by decide) ?_
    refine g_iload_n (pc := 27) h 2 rfl dX7_mend_27 ?_
    refine g_imul (pc := 28) h dX7_mend_28 ?_
    refine g_iconst (pc := 29) (v := (4 : Int32)) h dX7_mend_29 (by decide) ?_
    refine g_iadd (pc := 30) h dX7_mend_30 ?_
    refine g_iconst (pc := 31) (v := (0 : Int32)) h dX7_mend_31 (by decide) ?_
    refine g_dr hF (fun a_5 e_a_5 h_a_5 hF => ?_)
    rw [e_a_5]
    obtain ⟨g_2, hF⟩ := grd_ok hF
    refine g_iast (pc := 32) h h_a_5 g_2 dX7_mend_32 ?_
    refine g_w hF (fun w_6 hF => ?_)
    refine g_iload_n (pc := 33) h 0 rfl dX7_mend_33 ?_
    exact g_iret (pc := 34) h hr ⟨Nat.le_refl _, Nat.le_refl _⟩ hF dX7_mend_34
  · refine g_bipush (pc := 8) (v := (-2 : Int32)) h dX7_mend_8 (by decide) ?_
    exact g_iret (pc := 10) h hr ⟨Nat.le_refl _, Nat.le_refl _⟩ hF dX7_mend_10
def fX7_stepBehind_7 (t : Nat) : Nat → Int32 → Int32 → Int32 → Wd → Option (Int32 × Wd)
  | 0 => fun _ _ _ _ => none
  | n + 1 => fun x1 x2 x3 w =>
    if x2 ≤ x3 then
      (some (gI w t 29, w))
    else
      (bnd (fX7_goes t x1 w) (fun x_3 w_4 => fX7_stepBehind_7 t n x1 x2 (x3 + (1 : Int32)) w_4))
set_option maxHeartbeats 4000000 in
theorem kX7_stepBehind_7 {X : Cx} (h : Ok X cX7_stepBehind RX7 47 0 0) (hr : RetI X .int 0 0) (hnL : nLX X = 4) {t : Nat} (ht : InN X t 7) : ∀ (fu : Nat) (x1 : Int32) (x2 : Int32) (x3 : Int32) (w : Wd), OkR X Value.int (fX7_stepBehind_7 t fu x1 x2 x3 w) → G X 0 0 7 [(0, .inr (.inl (some t))), (1, .inl x1), (2, .inl x2), (3, .inl x3)] [] w := by
  have hj : ∀ j, j < 4 → j < nLX X := fun j q => by rw [hnL]; exact q
  intro fu
  induction fu with
  | zero => intro x1 x2 x3 w hF; exact okN hF
  | succ fu ih =>
    intro x1 x2 x3 w hF
    rw [fX7_stepBehind_7] at hF
    refine g_iload_n (pc := 7) h 3 rfl dX7_stepBehind_7 ?_
    refine g_iload_n (pc := 8) h 2 rfl dX7_stepBehind_8 ?_
    refine g_icmp_ge (pc := 9) (tgt := 24) h dX7_stepBehind_9 (by decide) hF (fun hF => ?_) (fun hF => ?_)
    · refine g_aload_n (pc := 24) h 0 rfl dX7_stepBehind_24 ?_
      refine g_getI (pc := 25) h fdX7_340 (inw ht) (by decide) dX7_stepBehind_25 ?_
      exact g_iret (pc := 28) h hr ⟨Nat.le_refl _, Nat.le_refl _⟩ hF dX7_stepBehind_28
    · refine g_aload_n (pc := 12) h 0 rfl dX7_stepBehind_12 ?_
      refine g_iload_n (pc := 13) h 1 rfl dX7_stepBehind_13 ?_
      refine g_cvI (pc := 14) (st := []) h mX7_goes cvX7_359 (inw ht) (by decide) ⟨by decide, by decide⟩ (Nat.le_of_ble_eq_true rfl) rfl rfl dX7_stepBehind_14 hF (fun x_3 w_4 hF => ?_)
      refine g_pop (pc := 17) h dX7_stepBehind_17 rfl ?_
      refine g_iinc (pc := 18) (lv' := [(3, .inl (x3 + (1 : Int32))), (0, .inr (.inl (some t))), (1, .inl x1), (2, .inl x2)]) h 3 rfl dX7_stepBehind_18 (dv := (1 : Int32)) (by decide) (hj 3 (by decide)) rfl ?_
      refine g_goto (pc := 21) (tgt := 7) h dX7_stepBehind_21 (by decide) ?_
      refine g_lv (lv' := [(0, .inr (.inl (some t))), (1, .inl x1), (2, .inl x2), (3, .inl (x3 + (1 : Int32)))]) [1, 2, 3, 0] rfl ?_
      exact ih _ _ _ _ hF
def fX7_stepBehind (t : Nat) (x1 : Int32) (x2 : Int32) (w : Wd) : Option (Int32 × Wd) :=
  bnd (fX7_begins t x1 w) (fun u_1 w_2 => fX7_stepBehind_7 t FU x1 x2 (0 : Int32) w_2)
set_option maxHeartbeats 4000000 in
theorem mX7_stepBehind {Γ : En} {t : Nat} {x1 : Int32} {x2 : Int32} {w : Wd} (ht : t < wn w ∧ kd t = 7) : MtI Γ yX7_stepBehind cX7_stepBehind 4 (some .int) 47 0 0 [rv Γ (some t), .int x1, .int x2] w (fX7_stepBehind t x1 x2 w) := by
  refine mtI [.inr (.inl (some t)), .inl x1, .inl x2] rfl (Nat.le_of_ble_eq_true rfl) (fun X hΓ hnL hn0 h _ hr hF => ?_)
  subst hΓ
  have ht : InN X t 7 := ⟨by rw [hn0]; exact ht.1, ht.2⟩
  have h : Ok X cX7_stepBehind RX7 47 0 0 := h
  have hj : ∀ j, j < 4 → j < nLX X := fun j q => by rw [hnL]; exact q
  show G X 0 0 0 [(0, .inr (.inl (some t))), (1, .inl x1), (2, .inl x2)] [] w
  unfold fX7_stepBehind at hF
  refine g_aload_n (pc := 0) h 0 rfl dX7_stepBehind_0 ?_
  refine g_iload_n (pc := 1) h 1 rfl dX7_stepBehind_1 ?_
  refine g_cvV (pc := 2) (st := []) h mX7_begins cvX7_109 (inw ht) (by decide) ⟨by decide, by decide⟩ (Nat.le_of_ble_eq_true rfl) rfl rfl dX7_stepBehind_2 hF (fun u_1 w_2 hF => ?_)
  refine g_iconst (pc := 5) (v := (0 : Int32)) h dX7_stepBehind_5 (by decide) ?_
  refine g_istore_n (pc := 6) (lv' := [(3, .inl (0 : Int32)), (0, .inr (.inl (some t))), (1, .inl x1), (2, .inl x2)]) h dX7_stepBehind_6 (hj 3 (by decide)) rfl ?_
  refine g_lv (lv' := [(0, .inr (.inl (some t))), (1, .inl x1), (2, .inl x2), (3, .inl (0 : Int32))]) [1, 2, 3, 0] rfl ?_
  exact kX7_stepBehind_7 h hr hnL ht _ _ _ _ _ hF
def fX7_allBehind_4 (t : Nat) : Nat → Int32 → Int32 → Int32 → Wd → Option (Int32 × Wd)
  | 0 => fun _ _ _ _ => none
  | n + 1 => fun x1 x2 x3 w =>
    if (gI w t 11) ≤ x3 then
      (some (x2, w))
    else
      (bnd (fX7_stepBehind t x3 x1 w) (fun x_1 w_2 => lt (x2 + x_1) (fun x2_3 => fX7_allBehind_4 t n x1 x2_3 (x3 + (1 : Int32)) w_2)))
set_option maxHeartbeats 4000000 in
theorem kX7_allBehind_4 {X : Cx} (h : Ok X cX7_allBehind RX7 48 0 0) (hr : RetI X .int 0 0) (hnL : nLX X = 4) {t : Nat} (ht : InN X t 7) : ∀ (fu : Nat) (x1 : Int32) (x2 : Int32) (x3 : Int32) (w : Wd), OkR X Value.int (fX7_allBehind_4 t fu x1 x2 x3 w) → G X 0 0 4 [(0, .inr (.inl (some t))), (1, .inl x1), (2, .inl x2), (3, .inl x3)] [] w := by
  have hj : ∀ j, j < 4 → j < nLX X := fun j q => by rw [hnL]; exact q
  intro fu
  induction fu with
  | zero => intro x1 x2 x3 w hF; exact okN hF
  | succ fu ih =>
    intro x1 x2 x3 w hF
    rw [fX7_allBehind_4] at hF
    refine g_iload_n (pc := 4) h 3 rfl dX7_allBehind_4 ?_
    refine g_aload_n (pc := 5) h 0 rfl dX7_allBehind_5 ?_
    refine g_getI (pc := 6) h fdX7_64 (inw ht) (by decide) dX7_allBehind_6 ?_
    refine g_icmp_ge (pc := 9) (tgt := 27) h dX7_allBehind_9 (by decide) hF (fun hF => ?_) (fun hF => ?_)
    · refine g_iload_n (pc := 27) h 2 rfl dX7_allBehind_27 ?_
      exact g_iret (pc := 28) h hr ⟨Nat.le_refl _, Nat.le_refl _⟩ hF dX7_allBehind_28
    · refine g_iload_n (pc := 12) h 2 rfl dX7_allBehind_12 ?_
      refine g_aload_n (pc := 13) h 0 rfl dX7_allBehind_13 ?_
      refine g_iload_n (pc := 14) h 3 rfl dX7_allBehind_14 ?_
      refine g_iload_n (pc := 15) h 1 rfl dX7_allBehind_15 ?_
      refine g_cvI (pc := 16) (st := [.int x2]) h mX7_stepBehind cvX7_373 (inw ht) (by decide) ⟨by decide, by decide⟩ (Nat.le_of_ble_eq_true rfl) rfl rfl dX7_allBehind_16 hF (fun x_1 w_2 hF => ?_)
      refine g_iadd (pc := 19) h dX7_allBehind_19 ?_
      refine g_t hF (fun x2_3 hF => ?_)
      refine g_istore_n (pc := 20) (lv' := [(2, .inl x2_3), (0, .inr (.inl (some t))), (1, .inl x1), (3, .inl x3)]) h dX7_allBehind_20 (hj 2 (by decide)) rfl ?_
      refine g_iinc (pc := 21) (lv' := [(3, .inl (x3 + (1 : Int32))), (2, .inl x2_3), (0, .inr (.inl (some t))), (1, .inl x1)]) h 3 rfl dX7_allBehind_21 (dv := (1 : Int32)) (by decide) (hj 3 (by decide)) rfl ?_
      refine g_goto (pc := 24) (tgt := 4) h dX7_allBehind_24 (by decide) ?_
      refine g_lv (lv' := [(0, .inr (.inl (some t))), (1, .inl x1), (2, .inl x2_3), (3, .inl (x3 + (1 : Int32)))]) [2, 3, 1, 0] rfl ?_
      exact ih _ _ _ _ hF
def fX7_allBehind (t : Nat) (x1 : Int32) (w : Wd) : Option (Int32 × Wd) :=
  fX7_allBehind_4 t FU x1 (0 : Int32) (0 : Int32) w
set_option maxHeartbeats 4000000 in
theorem mX7_allBehind {Γ : En} {t : Nat} {x1 : Int32} {w : Wd} (ht : t < wn w ∧ kd t = 7) : MtI Γ yX7_allBehind cX7_allBehind 4 (some .int) 48 0 0 [rv Γ (some t), .int x1] w (fX7_allBehind t x1 w) := by
  refine mtI [.inr (.inl (some t)), .inl x1] rfl (Nat.le_of_ble_eq_true rfl) (fun X hΓ hnL hn0 h _ hr hF => ?_)
  subst hΓ
  have ht : InN X t 7 := ⟨by rw [hn0]; exact ht.1, ht.2⟩
  have h : Ok X cX7_allBehind RX7 48 0 0 := h
  have hj : ∀ j, j < 4 → j < nLX X := fun j q => by rw [hnL]; exact q
  show G X 0 0 0 [(0, .inr (.inl (some t))), (1, .inl x1)] [] w
  unfold fX7_allBehind at hF
  refine g_iconst (pc := 0) (v := (0 : Int32)) h dX7_allBehind_0 (by decide) ?_
  refine g_istore_n (pc := 1) (lv' := [(2, .inl (0 : Int32)), (0, .inr (.inl (some t))), (1, .inl x1)]) h dX7_allBehind_1 (hj 2 (by decide)) rfl ?_
  refine g_iconst (pc := 2) (v := (0 : Int32)) h dX7_allBehind_2 (by decide) ?_
  refine g_istore_n (pc := 3) (lv' := [(3, .inl (0 : Int32)), (2, .inl (0 : Int32)), (0, .inr (.inl (some t))), (1, .inl x1)]) h dX7_allBehind_3 (hj 3 (by decide)) rfl ?_
  refine g_lv (lv' := [(0, .inr (.inl (some t))), (1, .inl x1), (2, .inl (0 : Int32)), (3, .inl (0 : Int32))]) [2, 3, 1, 0] rfl ?_
  exact kX7_allBehind_4 h hr hnL ht _ _ _ _ _ hF
def fX7_isLighter (t : Nat) (x1 : Int32) (w : Wd) : Option (Int32 × Wd) :=
  bnd (fX7_weightOf t x1 w) (fun x_1 w_2 => bnd (fX7_weightOf t (gI w_2 t 34) w_2) (fun x_3 w_4 => if x_3 ≤ x_1 then
    (some ((0 : Int32), w_4))
  else
    (some ((1 : Int32), w_4))))
set_option maxHeartbeats 4000000 in
theorem mX7_isLighter {Γ : En} {t : Nat} {x1 : Int32} {w : Wd} (ht : t < wn w ∧ kd t = 7) : MtI Γ yX7_isLighter cX7_isLighter 2 (some .boolean) 3 0 0 [rv Γ (some t), .int x1] w (fX7_isLighter t x1 w) := by
  refine mtI [.inr (.inl (some t)), .inl x1] rfl (Nat.le_of_ble_eq_true rfl) (fun X hΓ hnL hn0 h _ hr hF => ?_)
  subst hΓ
  have ht : InN X t 7 := ⟨by rw [hn0]; exact ht.1, ht.2⟩
  have h : Ok X cX7_isLighter RX7 3 0 0 := h
  have hj : ∀ j, j < 2 → j < nLX X := fun j q => by rw [hnL]; exact q
  show G X 0 0 0 [(0, .inr (.inl (some t))), (1, .inl x1)] [] w
  unfold fX7_isLighter at hF
  refine g_aload_n (pc := 0) h 0 rfl dX7_isLighter_0 ?_
  refine g_iload_n (pc := 1) h 1 rfl dX7_isLighter_1 ?_
  refine g_cvI (pc := 2) (st := []) h mX7_weightOf cvX7_337 (inw ht) (by decide) ⟨by decide, by decide⟩ (Nat.le_of_ble_eq_true rfl) rfl rfl dX7_isLighter_2 hF (fun x_1 w_2 hF => ?_)
  refine g_aload_n (pc := 5) h 0 rfl dX7_isLighter_5 ?_
  refine g_aload_n (pc := 6) h 0 rfl dX7_isLighter_6 ?_
  refine g_getI (pc := 7) h fdX7_376 (inw ht) (by decide) dX7_isLighter_7 ?_
  refine g_cvI (pc := 10) (st := [.int x_1]) h mX7_weightOf cvX7_337 (inw ht) (by decide) ⟨by decide, by decide⟩ (Nat.le_of_ble_eq_true rfl) rfl rfl dX7_isLighter_10 hF (fun x_3 w_4 hF => ?_)
  refine g_icmp_ge (pc := 13) (tgt := 20) h dX7_isLighter_13 (by decide) hF (fun hF => ?_) (fun hF => ?_)
  · refine g_iconst (pc := 20) (v := (0 : Int32)) h dX7_isLighter_20 (by decide) ?_
    exact g_zret (pc := 21) h hr ⟨Nat.le_refl _, Nat.le_refl _⟩ (by decide) hF dX7_isLighter_21
  · refine g_iconst (pc := 16) (v := (1 : Int32)) h dX7_isLighter_16 (by decide) ?_
    refine g_goto (pc := 17) (tgt := 21) h dX7_isLighter_17 (by decide) ?_
    exact g_zret (pc := 21) h hr ⟨Nat.le_refl _, Nat.le_refl _⟩ (by decide) hF dX7_isLighter_21
def fX7_far_155 (k70 : Int32 → Int32 → Int32 → Int32 → Int32 → Int32 → Wd → Option (Int32 × Wd)) (t : Nat) (x1 : Int32) (x2 : Int32) (x3 : Int32) (x4 : Int32) (x5 : Int32) (x6 : Int32) (w : Wd) : Option (Int32 × Wd) :=
  k70 x1 x2 x3 x4 x5 (x6 + (1 : Int32)) w
set_option maxHeartbeats 4000000 in
theorem kX7_far_155 {X : Cx} (h : Ok X cX7_far RX7 48 0 0) (hr : RetI X .int 0 0) (hnL : nLX X = 8) {t : Nat} (ht : InN X t 7) {k70 : Int32 → Int32 → Int32 → Int32 → Int32 → Int32 → Wd → Option (Int32 × Wd)} (hk70 : ∀ (x1 : Int32) (x2 : Int32) (x3 : Int32) (x4 : Int32) (x5 : Int32) (x6 : Int32) (w : Wd), OkR X Value.int (k70 x1 x2 x3 x4 x5 x6 w) → G X 0 0 70 [(0, .inr (.inl (some t))), (1, .inl x1), (2, .inl x2), (3, .inl x3), (4, .inl x4), (5, .inl x5), (6, .inl x6)] [] w) : ∀ (x1 : Int32) (x2 : Int32) (x3 : Int32) (x4 : Int32) (x5 : Int32) (x6 : Int32) (w : Wd), OkR X Value.int (fX7_far_155 k70 t x1 x2 x3 x4 x5 x6 w) → G X 0 0 155 [(0, .inr (.inl (some t))), (1, .inl x1), (2, .inl x2), (3, .inl x3), (4, .inl x4), (5, .inl x5), (6, .inl x6)] [] w := by
  have hj : ∀ j, j < 8 → j < nLX X := fun j q => by rw [hnL]; exact q
  intro x1 x2 x3 x4 x5 x6 w hF
  unfold fX7_far_155 at hF
  refine g_iinc (pc := 155) (lv' := [(6, .inl (x6 + (1 : Int32))), (0, .inr (.inl (some t))), (1, .inl x1), (2, .inl x2), (3, .inl x3), (4, .inl x4), (5, .inl x5)]) h 6 rfl dX7_far_155 (dv := (1 : Int32)) (by decide) (hj 6 (by decide)) rfl ?_
  refine g_goto (pc := 158) (tgt := 70) h dX7_far_158 (by decide) ?_
  refine g_lv (lv' := [(0, .inr (.inl (some t))), (1, .inl x1), (2, .inl x2), (3, .inl x3), (4, .inl x4), (5, .inl x5), (6, .inl (x6 + (1 : Int32)))]) [1, 2, 3, 4, 5, 6, 0] rfl ?_
  exact hk70 _ _ _ _ _ _ _ hF
def fX7_far_143 (k70 : Int32 → Int32 → Int32 → Int32 → Int32 → Int32 → Wd → Option (Int32 × Wd)) (t : Nat) (x1 : Int32) (x2 : Int32) (x3 : Int32) (x4 : Int32) (x5 : Int32) (x6 : Int32) (x7 : Int32) (w : Wd) : Option (Int32 × Wd) :=
  lw (sI w t 34 x6) (fun w_21 => lw (sI w_21 t 35 x7) (fun w_22 => fX7_far_155 k70 t x1 x2 x3 x4 x5 x6 w_22))
set_option maxHeartbeats 4000000 in
theorem kX7_far_143 {X : Cx} (h : Ok X cX7_far RX7 48 0 0) (hr : RetI X .int 0 0) (hnL : nLX X = 8) {t : Nat} (ht : InN X t 7) {k70 : Int32 → Int32 → Int32 → Int32 → Int32 → Int32 → Wd → Option (Int32 × Wd)} (hk70 : ∀ (x1 : Int32) (x2 : Int32) (x3 : Int32) (x4 : Int32) (x5 : Int32) (x6 : Int32) (w : Wd), OkR X Value.int (k70 x1 x2 x3 x4 x5 x6 w) → G X 0 0 70 [(0, .inr (.inl (some t))), (1, .inl x1), (2, .inl x2), (3, .inl x3), (4, .inl x4), (5, .inl x5), (6, .inl x6)] [] w) : ∀ (x1 : Int32) (x2 : Int32) (x3 : Int32) (x4 : Int32) (x5 : Int32) (x6 : Int32) (x7 : Int32) (w : Wd), OkR X Value.int (fX7_far_143 k70 t x1 x2 x3 x4 x5 x6 x7 w) → G X 0 0 143 [(0, .inr (.inl (some t))), (1, .inl x1), (2, .inl x2), (3, .inl x3), (4, .inl x4), (5, .inl x5), (6, .inl x6), (7, .inl x7)] [] w := by
  have hj : ∀ j, j < 8 → j < nLX X := fun j q => by rw [hnL]; exact q
  intro x1 x2 x3 x4 x5 x6 x7 w hF
  unfold fX7_far_143 at hF
  refine g_aload_n (pc := 143) h 0 rfl dX7_far_143 ?_
  refine g_iload (pc := 144) h 6 rfl dX7_far_144 ?_
  refine g_putI (pc := 146) h fdX7_376 (inw ht) (by decide) ⟨rfl, rfl⟩ dX7_far_146 ?_
  refine g_w hF (fun w_21 hF => ?_)
  refine g_aload_n (pc := 149) h 0 rfl dX7_far_149 ?_
  refine g_iload (pc := 150) h 7 rfl dX7_far_150 ?_
  refine g_putI (pc := 152) h fdX7_379 (inw ht) (by decide) ⟨rfl, rfl⟩ dX7_far_152 ?_
  refine g_w hF (fun w_22 hF => ?_)
  refine g_lv (lv' := [(0, .inr (.inl (some t))), (1, .inl x1), (2, .inl x2), (3, .inl x3), (4, .inl x4), (5, .inl x5), (6, .inl x6)]) [0, 1, 2, 3, 4, 5, 6] rfl ?_
  exact kX7_far_155 h hr hnL ht hk70 _ _ _ _ _ _ _ hF
def fX7_far_70 (t : Nat) : Nat → Int32 → Int32 → Int32 → Int32 → Int32 → Int32 → Wd → Option (Int32 × Wd)
  | 0 => fun _ _ _ _ _ _ _ => none
  | n + 1 => fun x1 x2 x3 x4 x5 x6 w =>
    if (256 : Int32) ≤ x6 then
      (dr (gR w t 10) 8 w (fun a_13 => grd (vin (((5 : Int32) * x1) + (2 : Int32)) (ln a_13)) (lw (sI w a_13 (((5 : Int32) * x1) + (2 : Int32)).toNatClampNeg x4) (fun w_14 => if x3 = 0 then
        (some (gI w_14 t 34, w_14))
      else
        (some (gI w_14 t 35, w_14))))))
    else
      (if (x6 &&& (x5 ^^^ (-1 : Int32))) = 0 then
        (dr (gR w t 10) 8 w (fun a_15 => grd (vin (((5 : Int32) * x1) + (2 : Int32)) (ln a_15)) (lw (sI w a_15 (((5 : Int32) * x1) + (2 : Int32)).toNatClampNeg x6) (fun w_16 => bnd (fX7_stepBehind t x1 x2 w_16) (fun x_17 w_18 => if (gI w_18 t 34) = (-1 : Int32) then
          (fX7_far_143 (fX7_far_70 t n) t x1 x2 x3 x4 x5 x6 x_17 w_18)
        else
          (if (gI w_18 t 35) < x_17 then
            (fX7_far_143 (fX7_far_70 t n) t x1 x2 x3 x4 x5 x6 x_17 w_18)
          else
            (if x_17 = (gI w_18 t 35) then
              (bnd (fX7_isLighter t x6 w_18) (fun x_19 w_20 => if x_19 = 0 then
                (fX7_far_155 (fX7_far_70 t n) t x1 x2 x3 x4 x5 x6 w_20)
              else
                (fX7_far_143 (fX7_far_70 t n) t x1 x2 x3 x4 x5 x6 x_17 w_20)))
            else
              (fX7_far_155 (fX7_far_70 t n) t x1 x2 x3 x4 x5 x6 w_18))))))))
      else
        (fX7_far_155 (fX7_far_70 t n) t x1 x2 x3 x4 x5 x6 w))
set_option maxHeartbeats 4000000 in
theorem kX7_far_70 {X : Cx} (h : Ok X cX7_far RX7 48 0 0) (hr : RetI X .int 0 0) (hnL : nLX X = 8) {t : Nat} (ht : InN X t 7) : ∀ (fu : Nat) (x1 : Int32) (x2 : Int32) (x3 : Int32) (x4 : Int32) (x5 : Int32) (x6 : Int32) (w : Wd), OkR X Value.int (fX7_far_70 t fu x1 x2 x3 x4 x5 x6 w) → G X 0 0 70 [(0, .inr (.inl (some t))), (1, .inl x1), (2, .inl x2), (3, .inl x3), (4, .inl x4), (5, .inl x5), (6, .inl x6)] [] w := by
  have hj : ∀ j, j < 8 → j < nLX X := fun j q => by rw [hnL]; exact q
  intro fu
  induction fu with
  | zero => intro x1 x2 x3 x4 x5 x6 w hF; exact okN hF
  | succ fu ih =>
    intro x1 x2 x3 x4 x5 x6 w hF
    rw [fX7_far_70] at hF
    refine g_iload (pc := 70) h 6 rfl dX7_far_70 ?_
    refine g_sipush (pc := 72) (v := (256 : Int32)) h dX7_far_72 (by decide) ?_
    refine g_icmp_ge (pc := 75) (tgt := 161) h dX7_far_75 (by decide) hF (fun hF => ?_) (fun hF => ?_)
    · refine g_aload_n (pc := 161) h 0 rfl dX7_far_161 ?_
      refine g_getR (pc := 162) h fdX7_29 (inw ht) rfl dX7_far_162 ?_
      refine g_iconst (pc := 165) (v := (5 : Int32)) h dX7_far_165 (by decide) ?_
      refine g_iload_n (pc := 166) h 1 rfl dX7_far_166 ?_
      refine g_imul (pc := 167) h dX7_far_167 ?_
      refine g_iconst (pc := 168) (v := (2 : Int32)) h dX7_far_168 (by decide) ?_
      refine g_iadd (pc := 169) h dX7_far_169 ?_
      refine g_iload (pc := 170) h 4 rfl dX7_far_170 ?_
      refine g_dr hF (fun a_13 e_a_13 h_a_13 hF => ?_)
      rw [e_a_13]
      obtain ⟨g_3, hF⟩ := grd_ok hF
      refine g_iast (pc := 172) h h_a_13 g_3 dX7_far_172 ?_
      refine g_w hF (fun w_14 hF => ?_)
      refine g_iload_n (pc := 173) h 3 rfl dX7_far_173 ?_
      refine g_if_ne (pc := 174) (tgt := 184) h dX7_far_174 (by decide) hF (fun hF => ?_) (fun hF => ?_)
      · refine g_aload_n (pc := 184) h 0 rfl dX7_far_184 ?_
        refine g_getI (pc := 185) h fdX7_379 (inw ht) (by decide) dX7_far_185 ?_
        exact g_iret (pc := 188) h hr ⟨Nat.le_refl _, Nat.le_refl _⟩ hF dX7_far_188
      · refine g_aload_n (pc := 177) h 0 rfl dX7_far_177 ?_
        refine g_getI (pc := 178) h fdX7_376 (inw ht) (by decide) dX7_far_178 ?_
        refine g_goto (pc := 181) (tgt := 188) h dX7_far_181 (by decide) ?_
        exact g_iret (pc := 188) h hr ⟨Nat.le_refl _, Nat.le_refl _⟩ hF dX7_far_188
    · refine g_iload (pc := 78) h 6 rfl dX7_far_78 ?_
      refine g_iload (pc := 80) h 5 rfl dX7_far_80 ?_
      refine g_iconst (pc := 82) (v := (-1 : Int32)) h dX7_far_82 (by decide) ?_
      refine g_ixor (pc := 83) h dX7_far_83 ?_
      refine g_iand (pc := 84) h dX7_far_84 ?_
      refine g_if_ne (pc := 85) (tgt := 155) h dX7_far_85 (by decide) hF (fun hF => ?_) (fun hF => ?_)
      · exact kX7_far_155 h hr hnL ht (fun z0 z1 z2 z3 z4 z5 z6 hF => ih z0 z1 z2 z3 z4 z5 z6 hF) _ _ _ _ _ _ _ hF
      · refine g_aload_n (pc := 88) h 0 rfl dX7_far_88 ?_
        refine g_getR (pc := 89) h fdX7_29 (inw ht) rfl dX7_far_89 ?_
        refine g_iconst (pc := 92) (v := (5 : Int32)) h dX7_far_92 (by decide) ?_
        refine g_iload_n (pc := 93) h 1 rfl dX7_far_93 ?_
        refine g_imul (pc := 94) h dX7_far_94 ?_
        refine g_iconst (pc := 95) (v := (2 : Int32)) h dX7_far_95 (by decide) ?_
        refine g_iadd (pc := 96) h dX7_far_96 ?_
        refine g_iload (pc := 97) h 6 rfl dX7_far_97 ?_
        refine g_dr hF (fun a_15 e_a_15 h_a_15 hF => ?_)
        rw [e_a_15]
        obtain ⟨g_4, hF⟩ := grd_ok hF
        refine g_iast (pc := 99) h h_a_15 g_4 dX7_far_99 ?_
        refine g_w hF (fun w_16 hF => ?_)
        refine g_aload_n (pc := 100) h 0 rfl dX7_far_100 ?_
        refine g_iload_n (pc := 101) h 1 rfl dX7_far_101 ?_
        refine g_iload_n (pc := 102) h 2 rfl dX7_far_102 ?_
        refine g_cvI (pc := 103) (st := []) h mX7_stepBehind cvX7_373 (inw ht) (by decide) ⟨by decide, by decide⟩ (Nat.le_of_ble_eq_true rfl) rfl rfl dX7_far_103 hF (fun x_17 w_18 hF => ?_)
        refine g_istore (pc := 106) (lv' := [(7, .inl x_17), (0, .inr (.inl (some t))), (1, .inl x1), (2, .inl x2), (3, .inl x3), (4, .inl x4), (5, .inl x5), (6, .inl x6)]) h dX7_far_106 (hj 7 (by decide)) rfl ?_
        refine g_aload_n (pc := 108) h 1 rfl dX7_far_108 ?_
        refine g_getI (pc := 109) h fdX7_376 (inw ht) (by decide) dX7_far_109 ?_
        refine g_iconst (pc := 112) (v := (-1 : Int32)) h dX7_far_112 (by decide) ?_
        refine g_icmp_eq (pc := 113) (tgt := 143) h dX7_far_113 (by decide) hF (fun hF => ?_) (fun hF => ?_)
        · refine g_lv (lv' := [(0, .inr (.inl (some t))), (1, .inl x1), (2, .inl x2), (3, .inl x3), (4, .inl x4), (5, .inl x5), (6, .inl x6), (7, .inl x_17)]) [1, 2, 3, 4, 5, 6, 7, 0] rfl ?_
          exact kX7_far_143 h hr hnL ht (fun z0 z1 z2 z3 z4 z5 z6 hF => ih z0 z1 z2 z3 z4 z5 z6 hF) _ _ _ _ _ _ _ _ hF
        · refine g_iload (pc := 116) h 0 rfl dX7_far_116 ?_
          refine g_aload_n (pc := 118) h 1 rfl dX7_far_118 ?_
          refine g_getI (pc := 119) h fdX7_379 (inw ht) (by decide) dX7_far_119 ?_
          refine g_icmp_gt (pc := 122) (tgt := 143) h dX7_far_122 (by decide) hF (fun hF => ?_) (fun hF => ?_)
          · refine g_lv (lv' := [(0, .inr (.inl (some t))), (1, .inl x1), (2, .inl x2), (3, .inl x3), (4, .inl x4), (5, .inl x5), (6, .inl x6), (7, .inl x_17)]) [1, 2, 3, 4, 5, 6, 7, 0] rfl ?_
            exact kX7_far_143 h hr hnL ht (fun z0 z1 z2 z3 z4 z5 z6 hF => ih z0 z1 z2 z3 z4 z5 z6 hF) _ _ _ _ _ _ _ _ hF
          · refine g_iload (pc := 125) h 0 rfl dX7_far_125 ?_
            refine g_aload_n (pc := 127) h 1 rfl dX7_far_127 ?_
            refine g_getI (pc := 128) h fdX7_379 (inw ht) (by decide) dX7_far_128 ?_
            refine g_icmp_ne (pc := 131) (tgt := 155) h dX7_far_131 (by decide) hF (fun hF => ?_) (fun hF => ?_)
            · refine g_lv (lv' := [(0, .inr (.inl (some t))), (1, .inl x1), (2, .inl x2), (3, .inl x3), (4, .inl x4), (5, .inl x5), (6, .inl x6)]) [1, 2, 3, 4, 5, 6, 7] rfl ?_
              exact kX7_far_155 h hr hnL ht (fun z0 z1 z2 z3 z4 z5 z6 hF => ih z0 z1 z2 z3 z4 z5 z6 hF) _ _ _ _ _ _ _ hF
            · refine g_aload_n (pc := 134) h 1 rfl dX7_far_134 ?_
              refine g_iload (pc := 135) h 7 rfl dX7_far_135 ?_
              refine g_cvI (pc := 137) (st := []) h mX7_isLighter cvX7_382 (inw ht) (by decide) ⟨by decide, by decide⟩ (Nat.le_of_ble_eq_true rfl) rfl rfl dX7_far_137 hF (fun x_19 w_20 hF => ?_)
              refine g_if_eq (pc := 140) (tgt := 155) h dX7_far_140 (by decide) hF (fun hF => ?_) (fun hF => ?_)
              · refine g_lv (lv' := [(0, .inr (.inl (some t))), (1, .inl x1), (2, .inl x2), (3, .inl x3), (4, .inl x4), (5, .inl x5), (6, .inl x6)]) [1, 2, 3, 4, 5, 6, 7] rfl ?_
                exact kX7_far_155 h hr hnL ht (fun z0 z1 z2 z3 z4 z5 z6 hF => ih z0 z1 z2 z3 z4 z5 z6 hF) _ _ _ _ _ _ _ hF
              · refine g_lv (lv' := [(0, .inr (.inl (some t))), (1, .inl x1), (2, .inl x2), (3, .inl x3), (4, .inl x4), (5, .inl x5), (6, .inl x6), (7, .inl x_17)]) [1, 2, 3, 4, 5, 6, 7, 0] rfl ?_
                exact kX7_far_143 h hr hnL ht (fun z0 z1 z2 z3 z4 z5 z6 hF => ih z0 z1 z2 z3 z4 z5 z6 hF) _ _ _ _ _ _ _ _ hF
def fX7_far (t : Nat) (x1 : Int32) (x2 : Int32) (x3 : Int32) (w : Wd) : Option (Int32 × Wd) :=
  bnd (fX7_isOne t x1 w) (fun x_1 w_2 => if x_1 = 0 then
    (some ((-2 : Int32), w_2))
  else
    (bnd (fX7_in (x2.toInt64) (0 : Int64) (40 : Int64) w_2) (fun x_3 w_4 => if x_3 = 0 then
      (some ((-2 : Int32), w_4))
    else
      (bnd (fX7_in (x3.toInt64) (0 : Int64) (1 : Int64) w_4) (fun x_5 w_6 => if x_5 = 0 then
        (some ((-2 : Int32), w_6))
      else
        (dr (gR w_6 t 10) 8 w_6 (fun a_7 => grd (vin (((5 : Int32) * x1) + (2 : Int32)) (ln a_7)) (lt (gI w_6 a_7 (((5 : Int32) * x1) + (2 : Int32)).toNatClampNeg) (fun x4_8 => dr (gR w_6 t 10) 8 w_6 (fun a_9 => grd (vin (((5 : Int32) * x1) + (1 : Int32)) (ln a_9)) (lt (gI w_6 a_9 (((5 : Int32) * x1) + (1 : Int32)).toNatClampNeg) (fun x5_10 => lw (sI w_6 t 34 (-1 : Int32)) (fun w_11 => lw (sI w_11 t 35 (-1 : Int32)) (fun w_12 => fX7_far_70 t FU x1 x2 x3 x4_8 x5_10 (0 : Int32) w_12))))))))))))))
set_option maxHeartbeats 4000000 in
theorem mX7_far {Γ : En} {t : Nat} {x1 : Int32} {x2 : Int32} {x3 : Int32} {w : Wd} (ht : t < wn w ∧ kd t = 7) : MtI Γ yX7_far cX7_far 8 (some .int) 48 0 0 [rv Γ (some t), .int x1, .int x2, .int x3] w (fX7_far t x1 x2 x3 w) := by
  refine mtI [.inr (.inl (some t)), .inl x1, .inl x2, .inl x3] rfl (Nat.le_of_ble_eq_true rfl) (fun X hΓ hnL hn0 h _ hr hF => ?_)
  subst hΓ
  have ht : InN X t 7 := ⟨by rw [hn0]; exact ht.1, ht.2⟩
  have h : Ok X cX7_far RX7 48 0 0 := h
  have hj : ∀ j, j < 8 → j < nLX X := fun j q => by rw [hnL]; exact q
  show G X 0 0 0 [(0, .inr (.inl (some t))), (1, .inl x1), (2, .inl x2), (3, .inl x3)] [] w
  unfold fX7_far at hF
  refine g_aload_n (pc := 0) h 0 rfl dX7_far_0 ?_
  refine g_iload_n (pc := 1) h 1 rfl dX7_far_1 ?_
  refine g_cvI (pc := 2) (st := []) h mX7_isOne cvX7_73 (inw ht) (by decide) ⟨by decide, by decide⟩ (Nat.le_of_ble_eq_true rfl) rfl rfl dX7_far_2 hF (fun x_1 w_2 hF => ?_)
  refine g_if_eq (pc := 5) (tgt := 30) h dX7_far_5 (by decide) hF (fun hF => ?_) (fun hF => ?_)
  · refine g_bipush (pc := 30) (v := (-2 : Int32)) h dX7_far_30 (by decide) ?_
    exact g_iret (pc := 32) h hr ⟨Nat.le_refl _, Nat.le_refl _⟩ hF dX7_far_32
  · refine g_iload_n (pc := 8) h 2 rfl dX7_far_8 ?_
    refine g_i2l (pc := 9) h dX7_far_9 ?_
    refine g_lconst (pc := 10) (v := (0 : Int64)) h dX7_far_10 (by decide) ?_
    refine g_ldc2 (pc := 11) h wcL_X7_365 dX7_far_11 ?_
    refine g_csI (pc := 14) (st := []) h mX7_in csX7_67 (by decide) ⟨by decide, by decide⟩ (Nat.le_of_ble_eq_true rfl) rfl rfl dX7_far_14 hF (fun x_3 w_4 hF => ?_)
    refine g_if_eq (pc := 17) (tgt := 30) h dX7_far_17 (by decide) hF (fun hF => ?_) (fun hF => ?_)
    · refine g_bipush (pc := 30) (v := (-2 : Int32)) h dX7_far_30 (by decide) ?_
      exact g_iret (pc := 32) h hr ⟨Nat.le_refl _, Nat.le_refl _⟩ hF dX7_far_32
    · refine g_iload_n (pc := 20) h 3 rfl dX7_far_20 ?_
      refine g_i2l (pc := 21) h dX7_far_21 ?_
      refine g_lconst (pc := 22) (v := (0 : Int64)) h dX7_far_22 (by decide) ?_
      refine g_lconst (pc := 23) (v := (1 : Int64)) h dX7_far_23 (by decide) ?_
      refine g_csI (pc := 24) (st := []) h mX7_in csX7_67 (by decide) ⟨by decide, by decide⟩ (Nat.le_of_ble_eq_true rfl) rfl rfl dX7_far_24 hF (fun x_5 w_6 hF => ?_)
      refine g_if_ne (pc := 27) (tgt := 33) h dX7_far_27 (by decide) hF (fun hF => ?_) (fun hF => ?_)
      · refine g_aload_n (pc := 33) h 0 rfl dX7_far_33 ?_
        refine g_getR (pc := 34) h fdX7_29 (inw ht) rfl dX7_far_34 ?_
        refine g_iconst (pc := 37) (v := (5 : Int32)) h dX7_far_37 (by decide) ?_
        refine g_iload_n (pc := 38) h 1 rfl dX7_far_38 ?_
        refine g_imul (pc := 39) h dX7_far_39 ?_
        refine g_iconst (pc := 40) (v := (2 : Int32)) h dX7_far_40 (by decide) ?_
        refine g_iadd (pc := 41) h dX7_far_41 ?_
        refine g_dr hF (fun a_7 e_a_7 h_a_7 hF => ?_)
        rw [e_a_7]
        obtain ⟨g_1, hF⟩ := grd_ok hF
        refine g_iald (pc := 42) h h_a_7 g_1 dX7_far_42 ?_
        refine g_t hF (fun x4_8 hF => ?_)
        refine g_istore (pc := 43) (lv' := [(4, .inl x4_8), (0, .inr (.inl (some t))), (1, .inl x1), (2, .inl x2), (3, .inl x3)]) h dX7_far_43 (hj 4 (by decide)) rfl ?_
        refine g_aload_n (pc := 45) h 1 rfl dX7_far_45 ?_
        refine g_getR (pc := 46) h fdX7_29 (inw ht) rfl dX7_far_46 ?_
        refine g_iconst (pc := 49) (v := (5 : Int32)) h dX7_far_49 (by decide) ?_
        refine g_iload_n (pc := 50) h 2 rfl dX7_far_50 ?_
        refine g_imul (pc := 51) h dX7_far_51 ?_
        refine g_iconst (pc := 52) (v := (1 : Int32)) h dX7_far_52 (by decide) ?_
        refine g_iadd (pc := 53) h dX7_far_53 ?_
        refine g_dr hF (fun a_9 e_a_9 h_a_9 hF => ?_)
        rw [e_a_9]
        obtain ⟨g_2, hF⟩ := grd_ok hF
        refine g_iald (pc := 54) h h_a_9 g_2 dX7_far_54 ?_
        refine g_t hF (fun x5_10 hF => ?_)
        refine g_istore (pc := 55) (lv' := [(5, .inl x5_10), (4, .inl x4_8), (0, .inr (.inl (some t))), (1, .inl x1), (2, .inl x2), (3, .inl x3)]) h dX7_far_55 (hj 5 (by decide)) rfl ?_
        refine g_aload_n (pc := 57) h 2 rfl dX7_far_57 ?_
        refine g_iconst (pc := 58) (v := (-1 : Int32)) h dX7_far_58 (by decide) ?_
        refine g_putI (pc := 59) h fdX7_376 (inw ht) (by decide) ⟨rfl, rfl⟩ dX7_far_59 ?_
        refine g_w hF (fun w_11 hF => ?_)
        refine g_aload_n (pc := 62) h 2 rfl dX7_far_62 ?_
        refine g_iconst (pc := 63) (v := (-1 : Int32)) h dX7_far_63 (by decide) ?_
        refine g_putI (pc := 64) h fdX7_379 (inw ht) (by decide) ⟨rfl, rfl⟩ dX7_far_64 ?_
        refine g_w hF (fun w_12 hF => ?_)
        refine g_iconst (pc := 67) (v := (0 : Int32)) h dX7_far_67 (by decide) ?_
        refine g_istore (pc := 68) (lv' := [(6, .inl (0 : Int32)), (5, .inl x5_10), (4, .inl x4_8), (0, .inr (.inl (some t))), (1, .inl x1), (2, .inl x2), (3, .inl x3)]) h dX7_far_68 (hj 6 (by decide)) rfl ?_
        refine g_lv (lv' := [(0, .inr (.inl (some t))), (1, .inl x1), (2, .inl x2), (3, .inl x3), (4, .inl x4_8), (5, .inl x5_10), (6, .inl (0 : Int32))]) [3, 4, 5, 6, 2, 1, 0] rfl ?_
        exact kX7_far_70 h hr hnL ht _ _ _ _ _ _ _ _ hF
      · refine g_bipush (pc := 30) (v := (-2 : Int32)) h dX7_far_30 (by decide) ?_
        exact g_iret (pc := 32) h hr ⟨Nat.le_refl _, Nat.le_refl _⟩ hF dX7_far_32
def fX7_least_136 (k65 : Int32 → Int32 → Int32 → Int32 → Int32 → Int32 → Wd → Option (Int32 × Wd)) (t : Nat) (x1 : Int32) (x2 : Int32) (x3 : Int32) (x4 : Int32) (x5 : Int32) (x6 : Int32) (w : Wd) : Option (Int32 × Wd) :=
  k65 x1 x2 x3 x4 x5 (x6 + (1 : Int32)) w
set_option maxHeartbeats 4000000 in
theorem kX7_least_136 {X : Cx} (h : Ok X cX7_least RX7 48 0 0) (hr : RetI X .int 0 0) (hnL : nLX X = 7) {t : Nat} (ht : InN X t 7) {k65 : Int32 → Int32 → Int32 → Int32 → Int32 → Int32 → Wd → Option (Int32 × Wd)} (hk65 : ∀ (x1 : Int32) (x2 : Int32) (x3 : Int32) (x4 : Int32) (x5 : Int32) (x6 : Int32) (w : Wd), OkR X Value.int (k65 x1 x2 x3 x4 x5 x6 w) → G X 0 0 65 [(0, .inr (.inl (some t))), (1, .inl x1), (2, .inl x2), (3, .inl x3), (4, .inl x4), (5, .inl x5), (6, .inl x6)] [] w) : ∀ (x1 : Int32) (x2 : Int32) (x3 : Int32) (x4 : Int32) (x5 : Int32) (x6 : Int32) (w : Wd), OkR X Value.int (fX7_least_136 k65 t x1 x2 x3 x4 x5 x6 w) → G X 0 0 136 [(0, .inr (.inl (some t))), (1, .inl x1), (2, .inl x2), (3, .inl x3), (4, .inl x4), (5, .inl x5), (6, .inl x6)] [] w := by
  have hj : ∀ j, j < 7 → j < nLX X := fun j q => by rw [hnL]; exact q
  intro x1 x2 x3 x4 x5 x6 w hF
  unfold fX7_least_136 at hF
  refine g_iinc (pc := 136) (lv' := [(6, .inl (x6 + (1 : Int32))), (0, .inr (.inl (some t))), (1, .inl x1), (2, .inl x2), (3, .inl x3), (4, .inl x4), (5, .inl x5)]) h 6 rfl dX7_least_136 (dv := (1 : Int32)) (by decide) (hj 6 (by decide)) rfl ?_
  refine g_goto (pc := 139) (tgt := 65) h dX7_least_139 (by decide) ?_
  refine g_lv (lv' := [(0, .inr (.inl (some t))), (1, .inl x1), (2, .inl x2), (3, .inl x3), (4, .inl x4), (5, .inl x5), (6, .inl (x6 + (1 : Int32)))]) [1, 2, 3, 4, 5, 6, 0] rfl ?_
  exact hk65 _ _ _ _ _ _ _ hF
def fX7_least_133 (k65 : Int32 → Int32 → Int32 → Int32 → Int32 → Int32 → Wd → Option (Int32 × Wd)) (t : Nat) (x1 : Int32) (x2 : Int32) (x3 : Int32) (x4 : Int32) (x5 : Int32) (x6 : Int32) (y0 : Int32) (w : Wd) : Option (Int32 × Wd) :=
  lw (sI w t 34 y0) (fun w_22 => fX7_least_136 k65 t x1 x2 x3 x4 x5 x6 w_22)
set_option maxHeartbeats 4000000 in
theorem kX7_least_133 {X : Cx} (h : Ok X cX7_least RX7 48 0 0) (hr : RetI X .int 0 0) (hnL : nLX X = 7) {t : Nat} (ht : InN X t 7) {k65 : Int32 → Int32 → Int32 → Int32 → Int32 → Int32 → Wd → Option (Int32 × Wd)} (hk65 : ∀ (x1 : Int32) (x2 : Int32) (x3 : Int32) (x4 : Int32) (x5 : Int32) (x6 : Int32) (w : Wd), OkR X Value.int (k65 x1 x2 x3 x4 x5 x6 w) → G X 0 0 65 [(0, .inr (.inl (some t))), (1, .inl x1), (2, .inl x2), (3, .inl x3), (4, .inl x4), (5, .inl x5), (6, .inl x6)] [] w) : ∀ (x1 : Int32) (x2 : Int32) (x3 : Int32) (x4 : Int32) (x5 : Int32) (x6 : Int32) (y0 : Int32) (w : Wd), OkR X Value.int (fX7_least_133 k65 t x1 x2 x3 x4 x5 x6 y0 w) → G X 0 0 133 [(0, .inr (.inl (some t))), (1, .inl x1), (2, .inl x2), (3, .inl x3), (4, .inl x4), (5, .inl x5), (6, .inl x6)] [.int y0, rv X.1 (some t)] w := by
  have hj : ∀ j, j < 7 → j < nLX X := fun j q => by rw [hnL]; exact q
  intro x1 x2 x3 x4 x5 x6 y0 w hF
  unfold fX7_least_133 at hF
  refine g_putI (pc := 133) h fdX7_376 (inw ht) (by decide) ⟨rfl, rfl⟩ dX7_least_133 ?_
  refine g_w hF (fun w_22 hF => ?_)
  exact kX7_least_136 h hr hnL ht hk65 _ _ _ _ _ _ _ hF
def fX7_least_100 (k65 : Int32 → Int32 → Int32 → Int32 → Int32 → Int32 → Wd → Option (Int32 × Wd)) (t : Nat) (x1 : Int32) (x2 : Int32) (x3 : Int32) (x4 : Int32) (x5 : Int32) (x6 : Int32) (w : Wd) : Option (Int32 × Wd) :=
  dr (gR w t 10) 8 w (fun a_18 => grd (vin (((5 : Int32) * x1) + (2 : Int32)) (ln a_18)) (lw (sI w a_18 (((5 : Int32) * x1) + (2 : Int32)).toNatClampNeg x6) (fun w_19 => bnd (fX7_stepBehind t x1 (40 : Int32) w_19) (fun x_20 w_21 => if x_20 < x2 then
    (fX7_least_133 k65 t x1 x2 x3 x4 x5 x6 (gI w_21 t 34) w_21)
  else
    (fX7_least_133 k65 t x1 x2 x3 x4 x5 x6 x6 w_21)))))
set_option maxHeartbeats 4000000 in
theorem kX7_least_100 {X : Cx} (h : Ok X cX7_least RX7 48 0 0) (hr : RetI X .int 0 0) (hnL : nLX X = 7) {t : Nat} (ht : InN X t 7) {k65 : Int32 → Int32 → Int32 → Int32 → Int32 → Int32 → Wd → Option (Int32 × Wd)} (hk65 : ∀ (x1 : Int32) (x2 : Int32) (x3 : Int32) (x4 : Int32) (x5 : Int32) (x6 : Int32) (w : Wd), OkR X Value.int (k65 x1 x2 x3 x4 x5 x6 w) → G X 0 0 65 [(0, .inr (.inl (some t))), (1, .inl x1), (2, .inl x2), (3, .inl x3), (4, .inl x4), (5, .inl x5), (6, .inl x6)] [] w) : ∀ (x1 : Int32) (x2 : Int32) (x3 : Int32) (x4 : Int32) (x5 : Int32) (x6 : Int32) (w : Wd), OkR X Value.int (fX7_least_100 k65 t x1 x2 x3 x4 x5 x6 w) → G X 0 0 100 [(0, .inr (.inl (some t))), (1, .inl x1), (2, .inl x2), (3, .inl x3), (4, .inl x4), (5, .inl x5), (6, .inl x6)] [] w := by
  have hj : ∀ j, j < 7 → j < nLX X := fun j q => by rw [hnL]; exact q
  intro x1 x2 x3 x4 x5 x6 w hF
  unfold fX7_least_100 at hF
  refine g_aload_n (pc := 100) h 0 rfl dX7_least_100 ?_
  refine g_getR (pc := 101) h fdX7_29 (inw ht) rfl dX7_least_101 ?_
  refine g_iconst (pc := 104) (v := (5 : Int32)) h dX7_least_104 (by decide) ?_
  refine g_iload_n (pc := 105) h 1 rfl dX7_least_105 ?_
  refine g_imul (pc := 106) h dX7_least_106 ?_
  refine g_iconst (pc := 107) (v := (2 : Int32)) h dX7_least_107 (by decide) ?_
  refine g_iadd (pc := 108) h dX7_least_108 ?_
  refine g_iload (pc := 109) h 6 rfl dX7_least_109 ?_
  refine g_dr hF (fun a_18 e_a_18 h_a_18 hF => ?_)
  rw [e_a_18]
  obtain ⟨g_4, hF⟩ := grd_ok hF
  refine g_iast (pc := 111) h h_a_18 g_4 dX7_least_111 ?_
  refine g_w hF (fun w_19 hF => ?_)
  refine g_aload_n (pc := 112) h 0 rfl dX7_least_112 ?_
  refine g_aload_n (pc := 113) h 0 rfl dX7_least_113 ?_
  refine g_iload_n (pc := 114) h 1 rfl dX7_least_114 ?_
  refine g_bipush (pc := 115) (v := (40 : Int32)) h dX7_least_115 (by decide) ?_
  refine g_cvI (pc := 117) (st := [rv X.1 (some t)]) h mX7_stepBehind cvX7_373 (inw ht) (by decide) ⟨by decide, by decide⟩ (Nat.le_of_ble_eq_true rfl) rfl rfl dX7_least_117 hF (fun x_20 w_21 hF => ?_)
  refine g_iload_n (pc := 120) h 2 rfl dX7_least_120 ?_
  refine g_icmp_lt (pc := 121) (tgt := 129) h dX7_least_121 (by decide) hF (fun hF => ?_) (fun hF => ?_)
  · refine g_aload_n (pc := 129) h 0 rfl dX7_least_129 ?_
    refine g_getI (pc := 130) h fdX7_376 (inw ht) (by decide) dX7_least_130 ?_
    exact kX7_least_133 h hr hnL ht hk65 _ _ _ _ _ _ _ _ hF
  · refine g_iload (pc := 124) h 6 rfl dX7_least_124 ?_
    refine g_goto (pc := 126) (tgt := 133) h dX7_least_126 (by decide) ?_
    exact kX7_least_133 h hr hnL ht hk65 _ _ _ _ _ _ _ _ hF
def fX7_least_166 (t : Nat) (w : Wd) : Option (Int32 × Wd) :=
  some (gI w t 34, w)
set_option maxHeartbeats 4000000 in
theorem kX7_least_166 {X : Cx} (h : Ok X cX7_least RX7 48 0 0) (hr : RetI X .int 0 0) (hnL : nLX X = 7) {t : Nat} (ht : InN X t 7) : ∀ (w : Wd), OkR X Value.int (fX7_least_166 t  w) → G X 0 0 166 [(0, .inr (.inl (some t)))] [] w := by
  have hj : ∀ j, j < 7 → j < nLX X := fun j q => by rw [hnL]; exact q
  intro w hF
  unfold fX7_least_166 at hF
  refine g_aload_n (pc := 166) h 0 rfl dX7_least_166 ?_
  refine g_getI (pc := 167) h fdX7_376 (inw ht) (by decide) dX7_least_167 ?_
  refine g_goto (pc := 170) (tgt := 181) h dX7_least_170 (by decide) ?_
  exact g_iret (pc := 181) h hr ⟨Nat.le_refl _, Nat.le_refl _⟩ hF dX7_least_181
def fX7_least_65 (t : Nat) : Nat → Int32 → Int32 → Int32 → Int32 → Int32 → Int32 → Wd → Option (Int32 × Wd)
  | 0 => fun _ _ _ _ _ _ _ => none
  | n + 1 => fun x1 x2 x3 x4 x5 x6 w =>
    if (256 : Int32) ≤ x6 then
      (dr (gR w t 10) 8 w (fun a_12 => grd (vin (((5 : Int32) * x1) + (2 : Int32)) (ln a_12)) (lw (sI w a_12 (((5 : Int32) * x1) + (2 : Int32)).toNatClampNeg x4) (fun w_13 => if (gI w_13 t 34) = (-1 : Int32) then
        (fX7_least_166 t w_13)
      else
        (if x3 = 0 then
          (fX7_least_166 t w_13)
        else
          (bnd (fX7_weightOf t (gI w_13 t 34) w_13) (fun x_14 w_15 => some (x_14, w_15))))))))
    else
      (if (x6 &&& (x5 ^^^ (-1 : Int32))) = 0 then
        (if (gI w t 34) = (-1 : Int32) then
          (fX7_least_100 (fX7_least_65 t n) t x1 x2 x3 x4 x5 x6 w)
        else
          (bnd (fX7_isLighter t x6 w) (fun x_16 w_17 => if x_16 = 0 then
            (fX7_least_136 (fX7_least_65 t n) t x1 x2 x3 x4 x5 x6 w_17)
          else
            (fX7_least_100 (fX7_least_65 t n) t x1 x2 x3 x4 x5 x6 w_17))))
      else
        (fX7_least_136 (fX7_least_65 t n) t x1 x2 x3 x4 x5 x6 w))
set_option maxHeartbeats 4000000 in
theorem kX7_least_65 {X : Cx} (h : Ok X cX7_least RX7 48 0 0) (hr : RetI X .int 0 0) (hnL : nLX X = 7) {t : Nat} (ht : InN X t 7) : ∀ (fu : Nat) (x1 : Int32) (x2 : Int32) (x3 : Int32) (x4 : Int32) (x5 : Int32) (x6 : Int32) (w : Wd), OkR X Value.int (fX7_least_65 t fu x1 x2 x3 x4 x5 x6 w) → G X 0 0 65 [(0, .inr (.inl (some t))), (1, .inl x1), (2, .inl x2), (3, .inl x3), (4, .inl x4), (5, .inl x5), (6, .inl x6)] [] w := by
  have hj : ∀ j, j < 7 → j < nLX X := fun j q => by rw [hnL]; exact q
  intro fu
  induction fu with
  | zero => intro x1 x2 x3 x4 x5 x6 w hF; exact okN hF
  | succ fu ih =>
    intro x1 x2 x3 x4 x5 x6 w hF
    rw [fX7_least_65] at hF
    refine g_iload (pc := 65) h 6 rfl dX7_least_65 ?_
    refine g_sipush (pc := 67) (v := (256 : Int32)) h dX7_least_67 (by decide) ?_
    refine g_icmp_ge (pc := 70) (tgt := 142) h dX7_least_70 (by decide) hF (fun hF => ?_) (fun hF => ?_)
    · refine g_aload_n (pc := 142) h 0 rfl dX7_least_142 ?_
      refine g_getR (pc := 143) h fdX7_29 (inw ht) rfl dX7_least_143 ?_
      refine g_iconst (pc := 146) (v := (5 : Int32)) h dX7_least_146 (by decide) ?_
      refine g_iload_n (pc := 147) h 1 rfl dX7_least_147 ?_
      refine g_imul (pc := 148) h dX7_least_148 ?_
      refine g_iconst (pc := 149) (v := (2 : Int32)) h dX7_least_149 (by decide) ?_
      refine g_iadd (pc := 150) h dX7_least_150 ?_
      refine g_iload (pc := 151) h 4 rfl dX7_least_151 ?_
      refine g_dr hF (fun a_12 e_a_12 h_a_12 hF => ?_)
      rw [e_a_12]
      obtain ⟨g_3, hF⟩ := grd_ok hF
      refine g_iast (pc := 153) h h_a_12 g_3 dX7_least_153 ?_
      refine g_w hF (fun w_13 hF => ?_)
      refine g_aload_n (pc := 154) h 0 rfl dX7_least_154 ?_
      refine g_getI (pc := 155) h fdX7_376 (inw ht) (by decide) dX7_least_155 ?_
      refine g_iconst (pc := 158) (v := (-1 : Int32)) h dX7_least_158 (by decide) ?_
      refine g_icmp_eq (pc := 159) (tgt := 166) h dX7_least_159 (by decide) hF (fun hF => ?_) (fun hF => ?_)
      · refine g_lv (lv' := [(0, .inr (.inl (some t)))]) [0] rfl ?_
        exact kX7_least_166 h hr hnL ht _ hF
      · refine g_iload_n (pc := 162) h 3 rfl dX7_least_162 ?_
        refine g_if_ne (pc := 163) (tgt := 173) h dX7_least_163 (by decide) hF (fun hF => ?_) (fun hF => ?_)
        · refine g_aload_n (pc := 173) h 0 rfl dX7_least_173 ?_
          refine g_aload_n (pc := 174) h 0 rfl dX7_least_174 ?_
          refine g_getI (pc := 175) h fdX7_376 (inw ht) (by decide) dX7_least_175 ?_
          refine g_cvI (pc := 178) (st := []) h mX7_weightOf cvX7_337 (inw ht) (by decide) ⟨by decide, by decide⟩ (Nat.le_of_ble_eq_true rfl) rfl rfl dX7_least_178 hF (fun x_14 w_15 hF => ?_)
          exact g_iret (pc := 181) h hr ⟨Nat.le_refl _, Nat.le_refl _⟩ hF dX7_least_181
        · refine g_lv (lv' := [(0, .inr (.inl (some t)))]) [0] rfl ?_
          exact kX7_least_166 h hr hnL ht _ hF
    · refine g_iload (pc := 73) h 6 rfl dX7_least_73 ?_
      refine g_iload (pc := 75) h 5 rfl dX7_least_75 ?_
      refine g_iconst (pc := 77) (v := (-1 : Int32)) h dX7_least_77 (by decide) ?_
      refine g_ixor (pc := 78) h dX7_least_78 ?_
      refine g_iand (pc := 79) h dX7_least_79 ?_
      refine g_if_ne (pc := 80) (tgt := 136) h dX7_least_80 (by decide) hF (fun hF => ?_) (fun hF => ?_)
      · exact kX7_least_136 h hr hnL ht (fun z0 z1 z2 z3 z4 z5 z6 hF => ih z0 z1 z2 z3 z4 z5 z6 hF) _ _ _ _ _ _ _ hF
      · refine g_aload_n (pc := 83) h 0 rfl dX7_least_83 ?_
        refine g_getI (pc := 84) h fdX7_376 (inw ht) (by decide) dX7_least_84 ?_
        refine g_iconst (pc := 87) (v := (-1 : Int32)) h dX7_least_87 (by decide) ?_
        refine g_icmp_eq (pc := 88) (tgt := 100) h dX7_least_88 (by decide) hF (fun hF => ?_) (fun hF => ?_)
        · exact kX7_least_100 h hr hnL ht (fun z0 z1 z2 z3 z4 z5 z6 hF => ih z0 z1 z2 z3 z4 z5 z6 hF) _ _ _ _ _ _ _ hF
        · refine g_aload_n (pc := 91) h 0 rfl dX7_least_91 ?_
          refine g_iload (pc := 92) h 6 rfl dX7_least_92 ?_
          refine g_cvI (pc := 94) (st := []) h mX7_isLighter cvX7_382 (inw ht) (by decide) ⟨by decide, by decide⟩ (Nat.le_of_ble_eq_true rfl) rfl rfl dX7_least_94 hF (fun x_16 w_17 hF => ?_)
          refine g_if_eq (pc := 97) (tgt := 136) h dX7_least_97 (by decide) hF (fun hF => ?_) (fun hF => ?_)
          · exact kX7_least_136 h hr hnL ht (fun z0 z1 z2 z3 z4 z5 z6 hF => ih z0 z1 z2 z3 z4 z5 z6 hF) _ _ _ _ _ _ _ hF
          · exact kX7_least_100 h hr hnL ht (fun z0 z1 z2 z3 z4 z5 z6 hF => ih z0 z1 z2 z3 z4 z5 z6 hF) _ _ _ _ _ _ _ hF
def fX7_least (t : Nat) (x1 : Int32) (x2 : Int32) (x3 : Int32) (w : Wd) : Option (Int32 × Wd) :=
  bnd (fX7_isOne t x1 w) (fun x_1 w_2 => if x_1 = 0 then
    (some ((-2 : Int32), w_2))
  else
    (bnd (fX7_in (x2.toInt64) (0 : Int64) (999 : Int64) w_2) (fun x_3 w_4 => if x_3 = 0 then
      (some ((-2 : Int32), w_4))
    else
      (bnd (fX7_in (x3.toInt64) (0 : Int64) (1 : Int64) w_4) (fun x_5 w_6 => if x_5 = 0 then
        (some ((-2 : Int32), w_6))
      else
        (dr (gR w_6 t 10) 8 w_6 (fun a_7 => grd (vin (((5 : Int32) * x1) + (2 : Int32)) (ln a_7)) (lt (gI w_6 a_7 (((5 : Int32) * x1) + (2 : Int32)).toNatClampNeg) (fun x4_8 => dr (gR w_6 t 10) 8 w_6 (fun a_9 => grd (vin (((5 : Int32) * x1) + (1 : Int32)) (ln a_9)) (lt (gI w_6 a_9 (((5 : Int32) * x1) + (1 : Int32)).toNatClampNeg) (fun x5_10 => lw (sI w_6 t 34 (-1 : Int32)) (fun w_11 => fX7_least_65 t FU x1 x2 x3 x4_8 x5_10 (0 : Int32) w_11)))))))))))))
set_option maxHeartbeats 4000000 in
theorem mX7_least {Γ : En} {t : Nat} {x1 : Int32} {x2 : Int32} {x3 : Int32} {w : Wd} (ht : t < wn w ∧ kd t = 7) : MtI Γ yX7_least cX7_least 7 (some .int) 48 0 0 [rv Γ (some t), .int x1, .int x2, .int x3] w (fX7_least t x1 x2 x3 w) := by
  refine mtI [.inr (.inl (some t)), .inl x1, .inl x2, .inl x3] rfl (Nat.le_of_ble_eq_true rfl) (fun X hΓ hnL hn0 h _ hr hF => ?_)
  subst hΓ
  have ht : InN X t 7 := ⟨by rw [hn0]; exact ht.1, ht.2⟩
  have h : Ok X cX7_least RX7 48 0 0 := h
  have hj : ∀ j, j < 7 → j < nLX X := fun j q => by rw [hnL]; exact q
  show G X 0 0 0 [(0, .inr (.inl (some t))), (1, .inl x1), (2, .inl x2), (3, .inl x3)] [] w
  unfold fX7_least at hF
  refine g_aload_n (pc := 0) h 0 rfl dX7_least_0 ?_
  refine g_iload_n (pc := 1) h 1 rfl dX7_least_1 ?_
  refine g_cvI (pc := 2) (st := []) h mX7_isOne cvX7_73 (inw ht) (by decide) ⟨by decide, by decide⟩ (Nat.le_of_ble_eq_true rfl) rfl rfl dX7_least_2 hF (fun x_1 w_2 hF => ?_)
  refine g_if_eq (pc := 5) (tgt := 30) h dX7_least_5 (by decide) hF (fun hF => ?_) (fun hF => ?_)
  · refine g_bipush (pc := 30) (v := (-2 : Int32)) h dX7_least_30 (by decide) ?_
    exact g_iret (pc := 32) h hr ⟨Nat.le_refl _, Nat.le_refl _⟩ hF dX7_least_32
  · refine g_iload_n (pc := 8) h 2 rfl dX7_least_8 ?_
    refine g_i2l (pc := 9) h dX7_least_9 ?_
    refine g_lconst (pc := 10) (v := (0 : Int64)) h dX7_least_10 (by decide) ?_
    refine g_ldc2 (pc := 11) h wcL_X7_385 dX7_least_11 ?_
    refine g_csI (pc := 14) (st := []) h mX7_in csX7_67 (by decide) ⟨by decide, by decide⟩ (Nat.le_of_ble_eq_true rfl) rfl rfl dX7_least_14 hF (fun x_3 w_4 hF => ?_)
    refine g_if_eq (pc := 17) (tgt := 30) h dX7_least_17 (by decide) hF (fun hF => ?_) (fun hF => ?_)
    · refine g_bipush (pc := 30) (v := (-2 : Int32)) h dX7_least_30 (by decide) ?_
      exact g_iret (pc := 32) h hr ⟨Nat.le_refl _, Nat.le_refl _⟩ hF dX7_least_32
    · refine g_iload_n (pc := 20) h 3 rfl dX7_least_20 ?_
      refine g_i2l (pc := 21) h dX7_least_21 ?_
      refine g_lconst (pc := 22) (v := (0 : Int64)) h dX7_least_22 (by decide) ?_
      refine g_lconst (pc := 23) (v := (1 : Int64)) h dX7_least_23 (by decide) ?_
      refine g_csI (pc := 24) (st := []) h mX7_in csX7_67 (by decide) ⟨by decide, by decide⟩ (Nat.le_of_ble_eq_true rfl) rfl rfl dX7_least_24 hF (fun x_5 w_6 hF => ?_)
      refine g_if_ne (pc := 27) (tgt := 33) h dX7_least_27 (by decide) hF (fun hF => ?_) (fun hF => ?_)
      · refine g_aload_n (pc := 33) h 0 rfl dX7_least_33 ?_
        refine g_getR (pc := 34) h fdX7_29 (inw ht) rfl dX7_least_34 ?_
        refine g_iconst (pc := 37) (v := (5 : Int32)) h dX7_least_37 (by decide) ?_
        refine g_iload_n (pc := 38) h 1 rfl dX7_least_38 ?_
        refine g_imul (pc := 39) h dX7_least_39 ?_
        refine g_iconst (pc := 40) (v := (2 : Int32)) h dX7_least_40 (by decide) ?_
        refine g_iadd (pc := 41) h dX7_least_41 ?_
        refine g_dr hF (fun a_7 e_a_7 h_a_7 hF => ?_)
        rw [e_a_7]
        obtain ⟨g_1, hF⟩ := grd_ok hF
        refine g_iald (pc := 42) h h_a_7 g_1 dX7_least_42 ?_
        refine g_t hF (fun x4_8 hF => ?_)
        refine g_istore (pc := 43) (lv' := [(4, .inl x4_8), (0, .inr (.inl (some t))), (1, .inl x1), (2, .inl x2), (3, .inl x3)]) h dX7_least_43 (hj 4 (by decide)) rfl ?_
        refine g_aload_n (pc := 45) h 1 rfl dX7_least_45 ?_
        refine g_getR (pc := 46) h fdX7_29 (inw ht) rfl dX7_least_46 ?_
        refine g_iconst (pc := 49) (v := (5 : Int32)) h dX7_least_49 (by decide) ?_
        refine g_iload_n (pc := 50) h 2 rfl dX7_least_50 ?_
        refine g_imul (pc := 51) h dX7_least_51 ?_
        refine g_iconst (pc := 52) (v := (1 : Int32)) h dX7_least_52 (by decide) ?_
        refine g_iadd (pc := 53) h dX7_least_53 ?_
        refine g_dr hF (fun a_9 e_a_9 h_a_9 hF => ?_)
        rw [e_a_9]
        obtain ⟨g_2, hF⟩ := grd_ok hF
        refine g_iald (pc := 54) h h_a_9 g_2 dX7_least_54 ?_
        refine g_t hF (fun x5_10 hF => ?_)
        refine g_istore (pc := 55) (lv' := [(5, .inl x5_10), (4, .inl x4_8), (0, .inr (.inl (some t))), (1, .inl x1), (2, .inl x2), (3, .inl x3)]) h dX7_least_55 (hj 5 (by decide)) rfl ?_
        refine g_aload_n (pc := 57) h 2 rfl dX7_least_57 ?_
        refine g_iconst (pc := 58) (v := (-1 : Int32)) h dX7_least_58 (by decide) ?_
        refine g_putI (pc := 59) h fdX7_376 (inw ht) (by decide) ⟨rfl, rfl⟩ dX7_least_59 ?_
        refine g_w hF (fun w_11 hF => ?_)
        refine g_iconst (pc := 62) (v := (0 : Int32)) h dX7_least_62 (by decide) ?_
        refine g_istore (pc := 63) (lv' := [(6, .inl (0 : Int32)), (5, .inl x5_10), (4, .inl x4_8), (0, .inr (.inl (some t))), (1, .inl x1), (2, .inl x2), (3, .inl x3)]) h dX7_least_63 (hj 6 (by decide)) rfl ?_
        refine g_lv (lv' := [(0, .inr (.inl (some t))), (1, .inl x1), (2, .inl x2), (3, .inl x3), (4, .inl x4_8), (5, .inl x5_10), (6, .inl (0 : Int32))]) [3, 4, 5, 6, 2, 1, 0] rfl ?_
        exact kX7_least_65 h hr hnL ht _ _ _ _ _ _ _ _ hF
      · refine g_bipush (pc := 30) (v := (-2 : Int32)) h dX7_least_30 (by decide) ?_
        exact g_iret (pc := 32) h hr ⟨Nat.le_refl _, Nat.le_refl _⟩ hF dX7_least_32
def fX7_heaviest_86 (k50 : Int32 → Int32 → Int32 → Int32 → Int32 → Int32 → Wd → Option (Int32 × Wd)) (t : Nat) (x1 : Int32) (x2 : Int32) (x3 : Int32) (x4 : Int32) (x6 : Int32) (y0 : Int32) (w : Wd) : Option (Int32 × Wd) :=
  k50 x1 x2 x3 x4 y0 (x6 + (-1 : Int32)) w
set_option maxHeartbeats 4000000 in
theorem kX7_heaviest_86 {X : Cx} (h : Ok X cX7_heaviest RX7 48 0 0) (hr : RetI X .int 0 0) (hnL : nLX X = 7) {t : Nat} (ht : InN X t 7) {k50 : Int32 → Int32 → Int32 → Int32 → Int32 → Int32 → Wd → Option (Int32 × Wd)} (hk50 : ∀ (x1 : Int32) (x2 : Int32) (x3 : Int32) (x4 : Int32) (x5 : Int32) (x6 : Int32) (w : Wd), OkR X Value.int (k50 x1 x2 x3 x4 x5 x6 w) → G X 0 0 50 [(0, .inr (.inl (some t))), (1, .inl x1), (2, .inl x2), (3, .inl x3), (4, .inl x4), (5, .inl x5), (6, .inl x6)] [] w) : ∀ (x1 : Int32) (x2 : Int32) (x3 : Int32) (x4 : Int32) (x6 : Int32) (y0 : Int32) (w : Wd), OkR X Value.int (fX7_heaviest_86 k50 t x1 x2 x3 x4 x6 y0 w) → G X 0 0 86 [(0, .inr (.inl (some t))), (1, .inl x1), (2, .inl x2), (3, .inl x3), (4, .inl x4), (6, .inl x6)] [.int y0] w := by
  have hj : ∀ j, j < 7 → j < nLX X := fun j q => by rw [hnL]; exact q
  intro x1 x2 x3 x4 x6 y0 w hF
  unfold fX7_heaviest_86 at hF
  refine g_istore (pc := 86) (lv' := [(5, .inl y0), (0, .inr (.inl (some t))), (1, .inl x1), (2, .inl x2), (3, .inl x3), (4, .inl x4), (6, .inl x6)]) h dX7_heaviest_86 (hj 5 (by decide)) rfl ?_
  refine g_iinc (pc := 88) (lv' := [(6, .inl (x6 + (-1 : Int32))), (5, .inl y0), (0, .inr (.inl (some t))), (1, .inl x1), (2, .inl x2), (3, .inl x3), (4, .inl x4)]) h 6 rfl dX7_heaviest_88 (dv := (-1 : Int32)) (by decide) (hj 6 (by decide)) rfl ?_
  refine g_goto (pc := 91) (tgt := 50) h dX7_heaviest_91 (by decide) ?_
  refine g_lv (lv' := [(0, .inr (.inl (some t))), (1, .inl x1), (2, .inl x2), (3, .inl x3), (4, .inl x4), (5, .inl y0), (6, .inl (x6 + (-1 : Int32)))]) [2, 3, 4, 5, 6, 1, 0] rfl ?_
  exact hk50 _ _ _ _ _ _ _ hF
def fX7_heaviest_94 (t : Nat) (x1 : Int32) (x4 : Int32) (x5 : Int32) (w : Wd) : Option (Int32 × Wd) :=
  dr (gR w t 8) 8 w (fun a_13 => grd (vin x1 (ln a_13)) (lw (sI w a_13 x1.toNatClampNeg x4) (fun w_14 => some (x5, w_14))))
set_option maxHeartbeats 4000000 in
theorem kX7_heaviest_94 {X : Cx} (h : Ok X cX7_heaviest RX7 48 0 0) (hr : RetI X .int 0 0) (hnL : nLX X = 7) {t : Nat} (ht : InN X t 7) : ∀ (x1 : Int32) (x4 : Int32) (x5 : Int32) (w : Wd), OkR X Value.int (fX7_heaviest_94 t x1 x4 x5 w) → G X 0 0 94 [(0, .inr (.inl (some t))), (1, .inl x1), (4, .inl x4), (5, .inl x5)] [] w := by
  have hj : ∀ j, j < 7 → j < nLX X := fun j q => by rw [hnL]; exact q
  intro x1 x4 x5 w hF
  unfold fX7_heaviest_94 at hF
  refine g_aload_n (pc := 94) h 0 rfl dX7_heaviest_94 ?_
  refine g_getR (pc := 95) h fdX7_23 (inw ht) rfl dX7_heaviest_95 ?_
  refine g_iload_n (pc := 98) h 1 rfl dX7_heaviest_98 ?_
  refine g_iload (pc := 99) h 2 rfl dX7_heaviest_99 ?_
  refine g_dr hF (fun a_13 e_a_13 h_a_13 hF => ?_)
  rw [e_a_13]
  obtain ⟨g_3, hF⟩ := grd_ok hF
  refine g_iast (pc := 101) h h_a_13 g_3 dX7_heaviest_101 ?_
  refine g_w hF (fun w_14 hF => ?_)
  refine g_iload (pc := 102) h 3 rfl dX7_heaviest_102 ?_
  exact g_iret (pc := 104) h hr ⟨Nat.le_refl _, Nat.le_refl _⟩ hF dX7_heaviest_104
def fX7_heaviest_50 (t : Nat) : Nat → Int32 → Int32 → Int32 → Int32 → Int32 → Int32 → Wd → Option (Int32 × Wd)
  | 0 => fun _ _ _ _ _ _ _ => none
  | n + 1 => fun x1 x2 x3 x4 x5 x6 w =>
    if x6 < 0 then
      (fX7_heaviest_94 t x1 x4 x5 w)
    else
      (if x5 = (-1 : Int32) then
        (dr (gR w t 8) 8 w (fun a_9 => grd (vin x1 (ln a_9)) (lw (sI w a_9 x1.toNatClampNeg x6) (fun w_10 => bnd (fX7_stepBehind t x2 (40 : Int32) w_10) (fun x_11 w_12 => if x_11 < x3 then
          (fX7_heaviest_86 (fX7_heaviest_50 t n) t x1 x2 x3 x4 x6 (-1 : Int32) w_12)
        else
          (fX7_heaviest_86 (fX7_heaviest_50 t n) t x1 x2 x3 x4 x6 x6 w_12))))))
      else
        (fX7_heaviest_94 t x1 x4 x5 w))
set_option maxHeartbeats 4000000 in
theorem kX7_heaviest_50 {X : Cx} (h : Ok X cX7_heaviest RX7 48 0 0) (hr : RetI X .int 0 0) (hnL : nLX X = 7) {t : Nat} (ht : InN X t 7) : ∀ (fu : Nat) (x1 : Int32) (x2 : Int32) (x3 : Int32) (x4 : Int32) (x5 : Int32) (x6 : Int32) (w : Wd), OkR X Value.int (fX7_heaviest_50 t fu x1 x2 x3 x4 x5 x6 w) → G X 0 0 50 [(0, .inr (.inl (some t))), (1, .inl x1), (2, .inl x2), (3, .inl x3), (4, .inl x4), (5, .inl x5), (6, .inl x6)] [] w := by
  have hj : ∀ j, j < 7 → j < nLX X := fun j q => by rw [hnL]; exact q
  intro fu
  induction fu with
  | zero => intro x1 x2 x3 x4 x5 x6 w hF; exact okN hF
  | succ fu ih =>
    intro x1 x2 x3 x4 x5 x6 w hF
    rw [fX7_heaviest_50] at hF
    refine g_iload (pc := 50) h 6 rfl dX7_heaviest_50 ?_
    refine g_if_lt (pc := 52) (tgt := 94) h dX7_heaviest_52 (by decide) hF (fun hF => ?_) (fun hF => ?_)
    · refine g_lv (lv' := [(0, .inr (.inl (some t))), (1, .inl x1), (4, .inl x4), (5, .inl x5)]) [0, 1, 4, 5] rfl ?_
      exact kX7_heaviest_94 h hr hnL ht _ _ _ _ hF
    · refine g_iload (pc := 55) h 5 rfl dX7_heaviest_55 ?_
      refine g_iconst (pc := 57) (v := (-1 : Int32)) h dX7_heaviest_57 (by decide) ?_
      refine g_icmp_ne (pc := 58) (tgt := 94) h dX7_heaviest_58 (by decide) hF (fun hF => ?_) (fun hF => ?_)
      · refine g_lv (lv' := [(0, .inr (.inl (some t))), (1, .inl x1), (4, .inl x4), (5, .inl x5)]) [0, 1, 4, 5] rfl ?_
        exact kX7_heaviest_94 h hr hnL ht _ _ _ _ hF
      · refine g_aload_n (pc := 61) h 0 rfl dX7_heaviest_61 ?_
        refine g_getR (pc := 62) h fdX7_23 (inw ht) rfl dX7_heaviest_62 ?_
        refine g_iload_n (pc := 65) h 1 rfl dX7_heaviest_65 ?_
        refine g_iload (pc := 66) h 6 rfl dX7_heaviest_66 ?_
        refine g_dr hF (fun a_9 e_a_9 h_a_9 hF => ?_)
        rw [e_a_9]
        obtain ⟨g_2, hF⟩ := grd_ok hF
        refine g_iast (pc := 68) h h_a_9 g_2 dX7_heaviest_68 ?_
        refine g_w hF (fun w_10 hF => ?_)
        refine g_aload_n (pc := 69) h 0 rfl dX7_heaviest_69 ?_
        refine g_iload_n (pc := 70) h 2 rfl dX7_heaviest_70 ?_
        refine g_bipush (pc := 71) (v := (40 : Int32)) h dX7_heaviest_71 (by decide) ?_
        refine g_cvI (pc := 73) (st := []) h mX7_stepBehind cvX7_373 (inw ht) (by decide) ⟨by decide, by decide⟩ (Nat.le_of_ble_eq_true rfl) rfl rfl dX7_heaviest_73 hF (fun x_11 w_12 hF => ?_)
        refine g_iload_n (pc := 76) h 3 rfl dX7_heaviest_76 ?_
        refine g_icmp_lt (pc := 77) (tgt := 85) h dX7_heaviest_77 (by decide) hF (fun hF => ?_) (fun hF => ?_)
        · refine g_iconst (pc := 85) (v := (-1 : Int32)) h dX7_heaviest_85 (by decide) ?_
          refine g_lv (lv' := [(0, .inr (.inl (some t))), (1, .inl x1), (2, .inl x2), (3, .inl x3), (4, .inl x4), (6, .inl x6)]) [0, 1, 2, 3, 4, 6] rfl ?_
          exact kX7_heaviest_86 h hr hnL ht (fun z0 z1 z2 z3 z4 z5 z6 hF => ih z0 z1 z2 z3 z4 z5 z6 hF) _ _ _ _ _ _ _ hF
        · refine g_iload (pc := 80) h 6 rfl dX7_heaviest_80 ?_
          refine g_goto (pc := 82) (tgt := 86) h dX7_heaviest_82 (by decide) ?_
          refine g_lv (lv' := [(0, .inr (.inl (some t))), (1, .inl x1), (2, .inl x2), (3, .inl x3), (4, .inl x4), (6, .inl x6)]) [0, 1, 2, 3, 4, 6] rfl ?_
          exact kX7_heaviest_86 h hr hnL ht (fun z0 z1 z2 z3 z4 z5 z6 hF => ih z0 z1 z2 z3 z4 z5 z6 hF) _ _ _ _ _ _ _ hF
def fX7_heaviest (t : Nat) (x1 : Int32) (x2 : Int32) (x3 : Int32) (w : Wd) : Option (Int32 × Wd) :=
  bnd (fX7_in (x1.toInt64) (0 : Int64) (7 : Int64) w) (fun x_1 w_2 => if x_1 = 0 then
    (some ((-2 : Int32), w_2))
  else
    (bnd (fX7_isOne t x2 w_2) (fun x_3 w_4 => if x_3 = 0 then
      (some ((-2 : Int32), w_4))
    else
      (bnd (fX7_in (x3.toInt64) (0 : Int64) (999 : Int64) w_4) (fun x_5 w_6 => if x_5 = 0 then
        (some ((-2 : Int32), w_6))
      else
        (dr (gR w_6 t 8) 8 w_6 (fun a_7 => grd (vin x1 (ln a_7)) (lt (gI w_6 a_7 x1.toNatClampNeg) (fun x4_8 => fX7_heaviest_50 t FU x1 x2 x3 x4_8 (-1 : Int32) (99 : Int32) w_6)))))))))
set_option maxHeartbeats 4000000 in
theorem mX7_heaviest {Γ : En} {t : Nat} {x1 : Int32} {x2 : Int32} {x3 : Int32} {w : Wd} (ht : t < wn w ∧ kd t = 7) : MtI Γ yX7_heaviest cX7_heaviest 7 (some .int) 48 0 0 [rv Γ (some t), .int x1, .int x2, .int x3] w (fX7_heaviest t x1 x2 x3 w) := by
  refine mtI [.inr (.inl (some t)), .inl x1, .inl x2, .inl x3] rfl (Nat.le_of_ble_eq_true rfl) (fun X hΓ hnL hn0 h _ hr hF => ?_)
  subst hΓ
  have ht : InN X t 7 := ⟨by rw [hn0]; exact ht.1, ht.2⟩
  have h : Ok X cX7_heaviest RX7 48 0 0 := h
  have hj : ∀ j, j < 7 → j < nLX X := fun j q => by rw [hnL]; exact q
  show G X 0 0 0 [(0, .inr (.inl (some t))), (1, .inl x1), (2, .inl x2), (3, .inl x3)] [] w
  unfold fX7_heaviest at hF
  refine g_iload_n (pc := 0) h 1 rfl dX7_heaviest_0 ?_
  refine g_i2l (pc := 1) h dX7_heaviest_1 ?_
  refine g_lconst (pc := 2) (v := (0 : Int64)) h dX7_heaviest_2 (by decide) ?_
  refine g_ldc2 (pc := 3) h wcL_X7_71 dX7_heaviest_3 ?_
  refine g_csI (pc := 6) (st := []) h mX7_in csX7_67 (by decide) ⟨by decide, by decide⟩ (Nat.le_of_ble_eq_true rfl) rfl rfl dX7_heaviest_6 hF (fun x_1 w_2 hF => ?_)
  refine g_if_eq (pc := 9) (tgt := 32) h dX7_heaviest_9 (by decide) hF (fun hF => ?_) (fun hF => ?_)
  · refine g_bipush (pc := 32) (v := (-2 : Int32)) h dX7_heaviest_32 (by decide) ?_
    exact g_iret (pc := 34) h hr ⟨Nat.le_refl _, Nat.le_refl _⟩ hF dX7_heaviest_34
  · refine g_aload_n (pc := 12) h 0 rfl dX7_heaviest_12 ?_
    refine g_iload_n (pc := 13) h 2 rfl dX7_heaviest_13 ?_
    refine g_cvI (pc := 14) (st := []) h mX7_isOne cvX7_73 (inw ht) (by decide) ⟨by decide, by decide⟩ (Nat.le_of_ble_eq_true rfl) rfl rfl dX7_heaviest_14 hF (fun x_3 w_4 hF => ?_)
    refine g_if_eq (pc := 17) (tgt := 32) h dX7_heaviest_17 (by decide) hF (fun hF => ?_) (fun hF => ?_)
    · refine g_bipush (pc := 32) (v := (-2 : Int32)) h dX7_heaviest_32 (by decide) ?_
      exact g_iret (pc := 34) h hr ⟨Nat.le_refl _, Nat.le_refl _⟩ hF dX7_heaviest_34
    · refine g_iload_n (pc := 20) h 3 rfl dX7_heaviest_20 ?_
      refine g_i2l (pc := 21) h dX7_heaviest_21 ?_
      refine g_lconst (pc := 22) (v := (0 : Int64)) h dX7_heaviest_22 (by decide) ?_
      refine g_ldc2 (pc := 23) h wcL_X7_385 dX7_heaviest_23 ?_
      refine g_csI (pc := 26) (st := []) h mX7_in csX7_67 (by decide) ⟨by decide, by decide⟩ (Nat.le_of_ble_eq_true rfl) rfl rfl dX7_heaviest_26 hF (fun x_5 w_6 hF => ?_)
      refine g_if_ne (pc := 29) (tgt := 35) h dX7_heaviest_29 (by decide) hF (fun hF => ?_) (fun hF => ?_)
      · refine g_aload_n (pc := 35) h 0 rfl dX7_heaviest_35 ?_
        refine g_getR (pc := 36) h fdX7_23 (inw ht) rfl dX7_heaviest_36 ?_
        refine g_iload_n (pc := 39) h 1 rfl dX7_heaviest_39 ?_
        refine g_dr hF (fun a_7 e_a_7 h_a_7 hF => ?_)
        rw [e_a_7]
        obtain ⟨g_1, hF⟩ := grd_ok hF
        refine g_iald (pc := 40) h h_a_7 g_1 dX7_heaviest_40 ?_
        refine g_t hF (fun x4_8 hF => ?_)
        refine g_istore (pc := 41) (lv' := [(4, .inl x4_8), (0, .inr (.inl (some t))), (1, .inl x1), (2, .inl x2), (3, .inl x3)]) h dX7_heaviest_41 (hj 4 (by decide)) rfl ?_
        refine g_iconst (pc := 43) (v := (-1 : Int32)) h dX7_heaviest_43 (by decide) ?_
        refine g_istore (pc := 44) (lv' := [(5, .inl (-1 : Int32)), (4, .inl x4_8), (0, .inr (.inl (some t))), (1, .inl x1), (2, .inl x2), (3, .inl x3)]) h dX7_heaviest_44 (hj 5 (by decide)) rfl ?_
        refine g_bipush (pc := 46) (v := (99 : Int32)) h dX7_heaviest_46 (by decide) ?_
        refine g_istore (pc := 48) (lv' := [(6, .inl (99 : Int32)), (5, .inl (-1 : Int32)), (4, .inl x4_8), (0, .inr (.inl (some t))), (1, .inl x1), (2, .inl x2), (3, .inl x3)]) h dX7_heaviest_48 (hj 6 (by decide)) rfl ?_
        refine g_lv (lv' := [(0, .inr (.inl (some t))), (1, .inl x1), (2, .inl x2), (3, .inl x3), (4, .inl x4_8), (5, .inl (-1 : Int32)), (6, .inl (99 : Int32))]) [3, 4, 5, 6, 2, 1, 0] rfl ?_
        exact kX7_heaviest_50 h hr hnL ht _ _ _ _ _ _ _ _ hF
      · refine g_bipush (pc := 32) (v := (-2 : Int32)) h dX7_heaviest_32 (by decide) ?_
        exact g_iret (pc := 34) h hr ⟨Nat.le_refl _, Nat.le_refl _⟩ hF dX7_heaviest_34
def fX7_daysTill_33 (t : Nat) (x3 : Int32) (w : Wd) : Option (Int32 × Wd) :=
  if x3 ≤ (40 : Int32) then
    (some (x3, w))
  else
    (some ((-1 : Int32), w))
set_option maxHeartbeats 4000000 in
theorem kX7_daysTill_33 {X : Cx} (h : Ok X cX7_daysTill RX7 47 0 0) (hr : RetI X .int 0 0) (hnL : nLX X = 4) {t : Nat} (ht : InN X t 7) : ∀ (x3 : Int32) (w : Wd), OkR X Value.int (fX7_daysTill_33 t x3 w) → G X 0 0 33 [(3, .inl x3)] [] w := by
  have hj : ∀ j, j < 4 → j < nLX X := fun j q => by rw [hnL]; exact q
  intro x3 w hF
  unfold fX7_daysTill_33 at hF
  refine g_iload_n (pc := 33) h 0 rfl dX7_daysTill_33 ?_
  refine g_bipush (pc := 34) (v := (40 : Int32)) h dX7_daysTill_34 (by decide) ?_
  refine g_icmp_le (pc := 36) (tgt := 43) h dX7_daysTill_36 (by decide) hF (fun hF => ?_) (fun hF => ?_)
  · refine g_iload_n (pc := 43) h 0 rfl dX7_daysTill_43 ?_
    exact g_iret (pc := 44) h hr ⟨Nat.le_refl _, Nat.le_refl _⟩ hF dX7_daysTill_44
  · refine g_iconst (pc := 39) (v := (-1 : Int32)) h dX7_daysTill_39 (by decide) ?_
    refine g_goto (pc := 40) (tgt := 44) h dX7_daysTill_40 (by decide) ?_
    exact g_iret (pc := 44) h hr ⟨Nat.le_refl _, Nat.le_refl _⟩ hF dX7_daysTill_44
def fX7_daysTill_7 (t : Nat) : Nat → Int32 → Int32 → Int32 → Wd → Option (Int32 × Wd)
  | 0 => fun _ _ _ _ => none
  | n + 1 => fun x1 x2 x3 w =>
    if (40 : Int32) < x3 then
      (fX7_daysTill_33 t x3 w)
    else
      (if x2 ≤ (gI w t 29) then
        (fX7_daysTill_33 t x3 w)
      else
        (bnd (fX7_goes t x1 w) (fun x_3 w_4 => fX7_daysTill_7 t n x1 x2 (x3 + (1 : Int32)) w_4)))
set_option maxHeartbeats 4000000 in
theorem kX7_daysTill_7 {X : Cx} (h : Ok X cX7_daysTill RX7 47 0 0) (hr : RetI X .int 0 0) (hnL : nLX X = 4) {t : Nat} (ht : InN X t 7) : ∀ (fu : Nat) (x1 : Int32) (x2 : Int32) (x3 : Int32) (w : Wd), OkR X Value.int (fX7_daysTill_7 t fu x1 x2 x3 w) → G X 0 0 7 [(0, .inr (.inl (some t))), (1, .inl x1), (2, .inl x2), (3, .inl x3)] [] w := by
  have hj : ∀ j, j < 4 → j < nLX X := fun j q => by rw [hnL]; exact q
  intro fu
  induction fu with
  | zero => intro x1 x2 x3 w hF; exact okN hF
  | succ fu ih =>
    intro x1 x2 x3 w hF
    rw [fX7_daysTill_7] at hF
    refine g_iload_n (pc := 7) h 3 rfl dX7_daysTill_7 ?_
    refine g_bipush (pc := 8) (v := (40 : Int32)) h dX7_daysTill_8 (by decide) ?_
    refine g_icmp_gt (pc := 10) (tgt := 33) h dX7_daysTill_10 (by decide) hF (fun hF => ?_) (fun hF => ?_)
    · refine g_lv (lv' := [(3, .inl x3)]) [3] rfl ?_
      exact kX7_daysTill_33 h hr hnL ht _ _ hF
    · refine g_aload_n (pc := 13) h 0 rfl dX7_daysTill_13 ?_
      refine g_getI (pc := 14) h fdX7_340 (inw ht) (by decide) dX7_daysTill_14 ?_
      refine g_iload_n (pc := 17) h 2 rfl dX7_daysTill_17 ?_
      refine g_icmp_ge (pc := 18) (tgt := 33) h dX7_daysTill_18 (by decide) hF (fun hF => ?_) (fun hF => ?_)
      · refine g_lv (lv' := [(3, .inl x3)]) [3] rfl ?_
        exact kX7_daysTill_33 h hr hnL ht _ _ hF
      · refine g_aload_n (pc := 21) h 0 rfl dX7_daysTill_21 ?_
        refine g_iload_n (pc := 22) h 1 rfl dX7_daysTill_22 ?_
        refine g_cvI (pc := 23) (st := []) h mX7_goes cvX7_359 (inw ht) (by decide) ⟨by decide, by decide⟩ (Nat.le_of_ble_eq_true rfl) rfl rfl dX7_daysTill_23 hF (fun x_3 w_4 hF => ?_)
        refine g_pop (pc := 26) h dX7_daysTill_26 rfl ?_
        refine g_iinc (pc := 27) (lv' := [(3, .inl (x3 + (1 : Int32))), (0, .inr (.inl (some t))), (1, .inl x1), (2, .inl x2)]) h 3 rfl dX7_daysTill_27 (dv := (1 : Int32)) (by decide) (hj 3 (by decide)) rfl ?_
        refine g_goto (pc := 30) (tgt := 7) h dX7_daysTill_30 (by decide) ?_
        refine g_lv (lv' := [(0, .inr (.inl (some t))), (1, .inl x1), (2, .inl x2), (3, .inl (x3 + (1 : Int32)))]) [1, 2, 3, 0] rfl ?_
        exact ih _ _ _ _ hF
def fX7_daysTill (t : Nat) (x1 : Int32) (x2 : Int32) (w : Wd) : Option (Int32 × Wd) :=
  bnd (fX7_begins t x1 w) (fun u_1 w_2 => fX7_daysTill_7 t FU x1 x2 (0 : Int32) w_2)
set_option maxHeartbeats 4000000 in
theorem mX7_daysTill {Γ : En} {t : Nat} {x1 : Int32} {x2 : Int32} {w : Wd} (ht : t < wn w ∧ kd t = 7) : MtI Γ yX7_daysTill cX7_daysTill 4 (some .int) 47 0 0 [rv Γ (some t), .int x1, .int x2] w (fX7_daysTill t x1 x2 w) := by
  refine mtI [.inr (.inl (some t)), .inl x1, .inl x2] rfl (Nat.le_of_ble_eq_true rfl) (fun X hΓ hnL hn0 h _ hr hF => ?_)
  subst hΓ
  have ht : InN X t 7 := ⟨by rw [hn0]; exact ht.1, ht.2⟩
  have h : Ok X cX7_daysTill RX7 47 0 0 := h
  have hj : ∀ j, j < 4 → j < nLX X := fun j q => by rw [hnL]; exact q
  show G X 0 0 0 [(0, .inr (.inl (some t))), (1, .inl x1), (2, .inl x2)] [] w
  unfold fX7_daysTill at hF
  refine g_aload_n (pc := 0) h 0 rfl dX7_daysTill_0 ?_
  refine g_iload_n (pc := 1) h 1 rfl dX7_daysTill_1 ?_
  refine g_cvV (pc := 2) (st := []) h mX7_begins cvX7_109 (inw ht) (by decide) ⟨by decide, by decide⟩ (Nat.le_of_ble_eq_true rfl) rfl rfl dX7_daysTill_2 hF (fun u_1 w_2 hF => ?_)
  refine g_iconst (pc := 5) (v := (0 : Int32)) h dX7_daysTill_5 (by decide) ?_
  refine g_istore_n (pc := 6) (lv' := [(3, .inl (0 : Int32)), (0, .inr (.inl (some t))), (1, .inl x1), (2, .inl x2)]) h dX7_daysTill_6 (hj 3 (by decide)) rfl ?_
  refine g_lv (lv' := [(0, .inr (.inl (some t))), (1, .inl x1), (2, .inl x2), (3, .inl (0 : Int32))]) [1, 2, 3, 0] rfl ?_
  exact kX7_daysTill_7 h hr hnL ht _ _ _ _ _ hF
def fX7_away_87 (k37 : Int32 → Int32 → Int32 → Wd → Option (Int32 × Wd)) (t : Nat) (x1 : Int32) (x2 : Int32) (x3 : Int32) (w : Wd) : Option (Int32 × Wd) :=
  k37 x1 x2 (x3 + (1 : Int32)) w
set_option maxHeartbeats 4000000 in
theorem kX7_away_87 {X : Cx} (h : Ok X cX7_away RX7 48 0 0) (hr : RetI X .int 0 0) (hnL : nLX X = 5) {t : Nat} (ht : InN X t 7) {k37 : Int32 → Int32 → Int32 → Wd → Option (Int32 × Wd)} (hk37 : ∀ (x1 : Int32) (x2 : Int32) (x3 : Int32) (w : Wd), OkR X Value.int (k37 x1 x2 x3 w) → G X 0 0 37 [(0, .inr (.inl (some t))), (1, .inl x1), (2, .inl x2), (3, .inl x3)] [] w) : ∀ (x1 : Int32) (x2 : Int32) (x3 : Int32) (w : Wd), OkR X Value.int (fX7_away_87 k37 t x1 x2 x3 w) → G X 0 0 87 [(0, .inr (.inl (some t))), (1, .inl x1), (2, .inl x2), (3, .inl x3)] [] w := by
  have hj : ∀ j, j < 5 → j < nLX X := fun j q => by rw [hnL]; exact q
  intro x1 x2 x3 w hF
  unfold fX7_away_87 at hF
  refine g_iinc (pc := 87) (lv' := [(3, .inl (x3 + (1 : Int32))), (0, .inr (.inl (some t))), (1, .inl x1), (2, .inl x2)]) h 3 rfl dX7_away_87 (dv := (1 : Int32)) (by decide) (hj 3 (by decide)) rfl ?_
  refine g_goto (pc := 90) (tgt := 37) h dX7_away_90 (by decide) ?_
  refine g_lv (lv' := [(0, .inr (.inl (some t))), (1, .inl x1), (2, .inl x2), (3, .inl (x3 + (1 : Int32)))]) [1, 2, 3, 0] rfl ?_
  exact hk37 _ _ _ _ hF
def fX7_away_76 (k37 : Int32 → Int32 → Int32 → Wd → Option (Int32 × Wd)) (t : Nat) (x1 : Int32) (x2 : Int32) (x3 : Int32) (x4 : Int32) (w : Wd) : Option (Int32 × Wd) :=
  lw (sI w t 34 x3) (fun w_9 => lw (sI w_9 t 35 x4) (fun w_10 => fX7_away_87 k37 t x1 x2 x3 w_10))
set_option maxHeartbeats 4000000 in
theorem kX7_away_76 {X : Cx} (h : Ok X cX7_away RX7 48 0 0) (hr : RetI X .int 0 0) (hnL : nLX X = 5) {t : Nat} (ht : InN X t 7) {k37 : Int32 → Int32 → Int32 → Wd → Option (Int32 × Wd)} (hk37 : ∀ (x1 : Int32) (x2 : Int32) (x3 : Int32) (w : Wd), OkR X Value.int (k37 x1 x2 x3 w) → G X 0 0 37 [(0, .inr (.inl (some t))), (1, .inl x1), (2, .inl x2), (3, .inl x3)] [] w) : ∀ (x1 : Int32) (x2 : Int32) (x3 : Int32) (x4 : Int32) (w : Wd), OkR X Value.int (fX7_away_76 k37 t x1 x2 x3 x4 w) → G X 0 0 76 [(0, .inr (.inl (some t))), (1, .inl x1), (2, .inl x2), (3, .inl x3), (4, .inl x4)] [] w := by
  have hj : ∀ j, j < 5 → j < nLX X := fun j q => by rw [hnL]; exact q
  intro x1 x2 x3 x4 w hF
  unfold fX7_away_76 at hF
  refine g_aload_n (pc := 76) h 0 rfl dX7_away_76 ?_
  refine g_iload_n (pc := 77) h 3 rfl dX7_away_77 ?_
  refine g_putI (pc := 78) h fdX7_376 (inw ht) (by decide) ⟨rfl, rfl⟩ dX7_away_78 ?_
  refine g_w hF (fun w_9 hF => ?_)
  refine g_aload_n (pc := 81) h 0 rfl dX7_away_81 ?_
  refine g_iload (pc := 82) h 4 rfl dX7_away_82 ?_
  refine g_putI (pc := 84) h fdX7_379 (inw ht) (by decide) ⟨rfl, rfl⟩ dX7_away_84 ?_
  refine g_w hF (fun w_10 hF => ?_)
  refine g_lv (lv' := [(0, .inr (.inl (some t))), (1, .inl x1), (2, .inl x2), (3, .inl x3)]) [0, 1, 2, 3] rfl ?_
  exact kX7_away_87 h hr hnL ht hk37 _ _ _ _ hF
def fX7_away_37 (t : Nat) : Nat → Int32 → Int32 → Int32 → Wd → Option (Int32 × Wd)
  | 0 => fun _ _ _ _ => none
  | n + 1 => fun x1 x2 x3 w =>
    if (gI w t 11) ≤ x3 then
      (if x2 = 0 then
        (some (gI w t 34, w))
      else
        (some (gI w t 35, w)))
    else
      (bnd (fX7_daysTill t x3 x1 w) (fun x_7 w_8 => if x_7 = (-1 : Int32) then
        (fX7_away_87 (fX7_away_37 t n) t x1 x2 x3 w_8)
      else
        (if (gI w_8 t 34) = (-1 : Int32) then
          (fX7_away_76 (fX7_away_37 t n) t x1 x2 x3 x_7 w_8)
        else
          (if (gI w_8 t 35) ≤ x_7 then
            (fX7_away_87 (fX7_away_37 t n) t x1 x2 x3 w_8)
          else
            (fX7_away_76 (fX7_away_37 t n) t x1 x2 x3 x_7 w_8)))))
set_option maxHeartbeats 4000000 in
theorem kX7_away_37 {X : Cx} (h : Ok X cX7_away RX7 48 0 0) (hr : RetI X .int 0 0) (hnL : nLX X = 5) {t : Nat} (ht : InN X t 7) : ∀ (fu : Nat) (x1 : Int32) (x2 : Int32) (x3 : Int32) (w : Wd), OkR X Value.int (fX7_away_37 t fu x1 x2 x3 w) → G X 0 0 37 [(0, .inr (.inl (some t))), (1, .inl x1), (2, .inl x2), (3, .inl x3)] [] w := by
  have hj : ∀ j, j < 5 → j < nLX X := fun j q => by rw [hnL]; exact q
  intro fu
  induction fu with
  | zero => intro x1 x2 x3 w hF; exact okN hF
  | succ fu ih =>
    intro x1 x2 x3 w hF
    rw [fX7_away_37] at hF
    refine g_iload_n (pc := 37) h 3 rfl dX7_away_37 ?_
    refine g_aload_n (pc := 38) h 0 rfl dX7_away_38 ?_
    refine g_getI (pc := 39) h fdX7_64 (inw ht) (by decide) dX7_away_39 ?_
    refine g_icmp_ge (pc := 42) (tgt := 93) h dX7_away_42 (by decide) hF (fun hF => ?_) (fun hF => ?_)
    · refine g_iload_n (pc := 93) h 2 rfl dX7_away_93 ?_
      refine g_if_ne (pc := 94) (tgt := 104) h dX7_away_94 (by decide) hF (fun hF => ?_) (fun hF => ?_)
      · refine g_aload_n (pc := 104) h 0 rfl dX7_away_104 ?_
        refine g_getI (pc := 105) h fdX7_379 (inw ht) (by decide) dX7_away_105 ?_
        exact g_iret (pc := 108) h hr ⟨Nat.le_refl _, Nat.le_refl _⟩ hF dX7_away_108
      · refine g_aload_n (pc := 97) h 0 rfl dX7_away_97 ?_
        refine g_getI (pc := 98) h fdX7_376 (inw ht) (by decide) dX7_away_98 ?_
        refine g_goto (pc := 101) (tgt := 108) h dX7_away_101 (by decide) ?_
        exact g_iret (pc := 108) h hr ⟨Nat.le_refl _, Nat.le_refl _⟩ hF dX7_away_108
    · refine g_aload_n (pc := 45) h 0 rfl dX7_away_45 ?_
      refine g_iload_n (pc := 46) h 3 rfl dX7_away_46 ?_
      refine g_iload_n (pc := 47) h 1 rfl dX7_away_47 ?_
      refine g_cvI (pc := 48) (st := []) h mX7_daysTill cvX7_387 (inw ht) (by decide) ⟨by decide, by decide⟩ (Nat.le_of_ble_eq_true rfl) rfl rfl dX7_away_48 hF (fun x_7 w_8 hF => ?_)
      refine g_istore (pc := 51) (lv' := [(4, .inl x_7), (0, .inr (.inl (some t))), (1, .inl x1), (2, .inl x2), (3, .inl x3)]) h dX7_away_51 (hj 4 (by decide)) rfl ?_
      refine g_iload (pc := 53) h 0 rfl dX7_away_53 ?_
      refine g_iconst (pc := 55) (v := (-1 : Int32)) h dX7_away_55 (by decide) ?_
      refine g_icmp_eq (pc := 56) (tgt := 87) h dX7_away_56 (by decide) hF (fun hF => ?_) (fun hF => ?_)
      · refine g_lv (lv' := [(0, .inr (.inl (some t))), (1, .inl x1), (2, .inl x2), (3, .inl x3)]) [1, 2, 3, 4] rfl ?_
        exact kX7_away_87 h hr hnL ht (fun z0 z1 z2 z3 hF => ih z0 z1 z2 z3 hF) _ _ _ _ hF
      · refine g_aload_n (pc := 59) h 1 rfl dX7_away_59 ?_
        refine g_getI (pc := 60) h fdX7_376 (inw ht) (by decide) dX7_away_60 ?_
        refine g_iconst (pc := 63) (v := (-1 : Int32)) h dX7_away_63 (by decide) ?_
        refine g_icmp_eq (pc := 64) (tgt := 76) h dX7_away_64 (by decide) hF (fun hF => ?_) (fun hF => ?_)
        · refine g_lv (lv' := [(0, .inr (.inl (some t))), (1, .inl x1), (2, .inl x2), (3, .inl x3), (4, .inl x_7)]) [1, 2, 3, 4, 0] rfl ?_
          exact kX7_away_76 h hr hnL ht (fun z0 z1 z2 z3 hF => ih z0 z1 z2 z3 hF) _ _ _ _ _ hF
        · refine g_iload (pc := 67) h 0 rfl dX7_away_67 ?_
          refine g_aload_n (pc := 69) h 1 rfl dX7_away_69 ?_
          refine g_getI (pc := 70) h fdX7_379 (inw ht) (by decide) dX7_away_70 ?_
          refine g_icmp_ge (pc := 73) (tgt := 87) h dX7_away_73 (by decide) hF (fun hF => ?_) (fun hF => ?_)
          · refine g_lv (lv' := [(0, .inr (.inl (some t))), (1, .inl x1), (2, .inl x2), (3, .inl x3)]) [1, 2, 3, 4] rfl ?_
            exact kX7_away_87 h hr hnL ht (fun z0 z1 z2 z3 hF => ih z0 z1 z2 z3 hF) _ _ _ _ hF
          · refine g_lv (lv' := [(0, .inr (.inl (some t))), (1, .inl x1), (2, .inl x2), (3, .inl x3), (4, .inl x_7)]) [1, 2, 3, 4, 0] rfl ?_
            exact kX7_away_76 h hr hnL ht (fun z0 z1 z2 z3 hF => ih z0 z1 z2 z3 hF) _ _ _ _ _ hF
def fX7_away (t : Nat) (x1 : Int32) (x2 : Int32) (w : Wd) : Option (Int32 × Wd) :=
  bnd (fX7_in (x1.toInt64) (0 : Int64) (999 : Int64) w) (fun x_1 w_2 => if x_1 = 0 then
    (some ((-2 : Int32), w_2))
  else
    (bnd (fX7_in (x2.toInt64) (0 : Int64) (1 : Int64) w_2) (fun x_3 w_4 => if x_3 = 0 then
      (some ((-2 : Int32), w_4))
    else
      (lw (sI w_4 t 34 (-1 : Int32)) (fun w_5 => lw (sI w_5 t 35 (-1 : Int32)) (fun w_6 => fX7_away_37 t FU x1 x2 (0 : Int32) w_6))))))
set_option maxHeartbeats 4000000 in
theorem mX7_away {Γ : En} {t : Nat} {x1 : Int32} {x2 : Int32} {w : Wd} (ht : t < wn w ∧ kd t = 7) : MtI Γ yX7_away cX7_away 5 (some .int) 48 0 0 [rv Γ (some t), .int x1, .int x2] w (fX7_away t x1 x2 w) := by
  refine mtI [.inr (.inl (some t)), .inl x1, .inl x2] rfl (Nat.le_of_ble_eq_true rfl) (fun X hΓ hnL hn0 h _ hr hF => ?_)
  subst hΓ
  have ht : InN X t 7 := ⟨by rw [hn0]; exact ht.1, ht.2⟩
  have h : Ok X cX7_away RX7 48 0 0 := h
  have hj : ∀ j, j < 5 → j < nLX X := fun j q => by rw [hnL]; exact q
  show G X 0 0 0 [(0, .inr (.inl (some t))), (1, .inl x1), (2, .inl x2)] [] w
  unfold fX7_away at hF
  refine g_iload_n (pc := 0) h 1 rfl dX7_away_0 ?_
  refine g_i2l (pc := 1) h dX7_away_1 ?_
  refine g_lconst (pc := 2) (v := (0 : Int64)) h dX7_away_2 (by decide) ?_
  refine g_ldc2 (pc := 3) h wcL_X7_385 dX7_away_3 ?_
  refine g_csI (pc := 6) (st := []) h mX7_in csX7_67 (by decide) ⟨by decide, by decide⟩ (Nat.le_of_ble_eq_true rfl) rfl rfl dX7_away_6 hF (fun x_1 w_2 hF => ?_)
  refine g_if_eq (pc := 9) (tgt := 22) h dX7_away_9 (by decide) hF (fun hF => ?_) (fun hF => ?_)
  · refine g_bipush (pc := 22) (v := (-2 : Int32)) h dX7_away_22 (by decide) ?_
    exact g_iret (pc := 24) h hr ⟨Nat.le_refl _, Nat.le_refl _⟩ hF dX7_away_24
  · refine g_iload_n (pc := 12) h 2 rfl dX7_away_12 ?_
    refine g_i2l (pc := 13) h dX7_away_13 ?_
    refine g_lconst (pc := 14) (v := (0 : Int64)) h dX7_away_14 (by decide) ?_
    refine g_lconst (pc := 15) (v := (1 : Int64)) h dX7_away_15 (by decide) ?_
    refine g_csI (pc := 16) (st := []) h mX7_in csX7_67 (by decide) ⟨by decide, by decide⟩ (Nat.le_of_ble_eq_true rfl) rfl rfl dX7_away_16 hF (fun x_3 w_4 hF => ?_)
    refine g_if_ne (pc := 19) (tgt := 25) h dX7_away_19 (by decide) hF (fun hF => ?_) (fun hF => ?_)
    · refine g_aload_n (pc := 25) h 0 rfl dX7_away_25 ?_
      refine g_iconst (pc := 26) (v := (-1 : Int32)) h dX7_away_26 (by decide) ?_
      refine g_putI (pc := 27) h fdX7_376 (inw ht) (by decide) ⟨rfl, rfl⟩ dX7_away_27 ?_
      refine g_w hF (fun w_5 hF => ?_)
      refine g_aload_n (pc := 30) h 0 rfl dX7_away_30 ?_
      refine g_iconst (pc := 31) (v := (-1 : Int32)) h dX7_away_31 (by decide) ?_
      refine g_putI (pc := 32) h fdX7_379 (inw ht) (by decide) ⟨rfl, rfl⟩ dX7_away_32 ?_
      refine g_w hF (fun w_6 hF => ?_)
      refine g_iconst (pc := 35) (v := (0 : Int32)) h dX7_away_35 (by decide) ?_
      refine g_istore_n (pc := 36) (lv' := [(3, .inl (0 : Int32)), (0, .inr (.inl (some t))), (1, .inl x1), (2, .inl x2)]) h dX7_away_36 (hj 3 (by decide)) rfl ?_
      refine g_lv (lv' := [(0, .inr (.inl (some t))), (1, .inl x1), (2, .inl x2), (3, .inl (0 : Int32))]) [1, 2, 3, 0] rfl ?_
      exact kX7_away_37 h hr hnL ht _ _ _ _ _ hF
    · refine g_bipush (pc := 22) (v := (-2 : Int32)) h dX7_away_22 (by decide) ?_
      exact g_iret (pc := 24) h hr ⟨Nat.le_refl _, Nat.le_refl _⟩ hF dX7_away_24
def fX7_keeper_97 (k41 : Int32 → Int32 → Int32 → Wd → Option (Int32 × Wd)) (t : Nat) (x1 : Int32) (x2 : Int32) (x3 : Int32) (w : Wd) : Option (Int32 × Wd) :=
  k41 x1 x2 (x3 + (1 : Int32)) w
set_option maxHeartbeats 4000000 in
theorem kX7_keeper_97 {X : Cx} (h : Ok X cX7_keeper RX7 49 0 0) (hr : RetI X .int 0 0) (hnL : nLX X = 6) {t : Nat} (ht : InN X t 7) {k41 : Int32 → Int32 → Int32 → Wd → Option (Int32 × Wd)} (hk41 : ∀ (x1 : Int32) (x2 : Int32) (x3 : Int32) (w : Wd), OkR X Value.int (k41 x1 x2 x3 w) → G X 0 0 41 [(0, .inr (.inl (some t))), (1, .inl x1), (2, .inl x2), (3, .inl x3)] [] w) : ∀ (x1 : Int32) (x2 : Int32) (x3 : Int32) (w : Wd), OkR X Value.int (fX7_keeper_97 k41 t x1 x2 x3 w) → G X 0 0 97 [(0, .inr (.inl (some t))), (1, .inl x1), (2, .inl x2), (3, .inl x3)] [] w := by
  have hj : ∀ j, j < 6 → j < nLX X := fun j q => by rw [hnL]; exact q
  intro x1 x2 x3 w hF
  unfold fX7_keeper_97 at hF
  refine g_iinc (pc := 97) (lv' := [(3, .inl (x3 + (1 : Int32))), (0, .inr (.inl (some t))), (1, .inl x1), (2, .inl x2)]) h 3 rfl dX7_keeper_97 (dv := (1 : Int32)) (by decide) (hj 3 (by decide)) rfl ?_
  refine g_goto (pc := 100) (tgt := 41) h dX7_keeper_100 (by decide) ?_
  refine g_lv (lv' := [(0, .inr (.inl (some t))), (1, .inl x1), (2, .inl x2), (3, .inl (x3 + (1 : Int32)))]) [1, 2, 3, 0] rfl ?_
  exact hk41 _ _ _ _ hF
def fX7_keeper_41 (t : Nat) : Nat → Int32 → Int32 → Int32 → Wd → Option (Int32 × Wd)
  | 0 => fun _ _ _ _ => none
  | n + 1 => fun x1 x2 x3 w =>
    if (8 : Int32) ≤ x3 then
      (if x2 = 0 then
        (some (gI w t 34, w))
      else
        (some (gI w t 35, w)))
    else
      (dr (gR w t 8) 8 w (fun a_9 => grd (vin x3 (ln a_9)) (lt (gI w a_9 x3.toNatClampNeg) (fun x4_10 => dr (gR w t 8) 8 w (fun a_11 => grd (vin x3 (ln a_11)) (lw (sI w a_11 x3.toNatClampNeg (0 : Int32)) (fun w_12 => bnd (fX7_allBehind t x1 w_12) (fun x_13 w_14 => dr (gR w_14 t 8) 8 w_14 (fun a_15 => grd (vin x3 (ln a_15)) (lw (sI w_14 a_15 x3.toNatClampNeg x4_10) (fun w_16 => if x_13 ≤ (gI w_16 t 35) then
        (fX7_keeper_97 (fX7_keeper_41 t n) t x1 x2 x3 w_16)
      else
        (lw (sI w_16 t 34 x3) (fun w_17 => lw (sI w_17 t 35 x_13) (fun w_18 => fX7_keeper_97 (fX7_keeper_41 t n) t x1 x2 x3 w_18))))))))))))))
set_option maxHeartbeats 4000000 in
theorem kX7_keeper_41 {X : Cx} (h : Ok X cX7_keeper RX7 49 0 0) (hr : RetI X .int 0 0) (hnL : nLX X = 6) {t : Nat} (ht : InN X t 7) : ∀ (fu : Nat) (x1 : Int32) (x2 : Int32) (x3 : Int32) (w : Wd), OkR X Value.int (fX7_keeper_41 t fu x1 x2 x3 w) → G X 0 0 41 [(0, .inr (.inl (some t))), (1, .inl x1), (2, .inl x2), (3, .inl x3)] [] w := by
  have hj : ∀ j, j < 6 → j < nLX X := fun j q => by rw [hnL]; exact q
  intro fu
  induction fu with
  | zero => intro x1 x2 x3 w hF; exact okN hF
  | succ fu ih =>
    intro x1 x2 x3 w hF
    rw [fX7_keeper_41] at hF
    refine g_iload_n (pc := 41) h 3 rfl dX7_keeper_41 ?_
    refine g_bipush (pc := 42) (v := (8 : Int32)) h dX7_keeper_42 (by decide) ?_
    refine g_icmp_ge (pc := 44) (tgt := 103) h dX7_keeper_44 (by decide) hF (fun hF => ?_) (fun hF => ?_)
    · refine g_iload_n (pc := 103) h 2 rfl dX7_keeper_103 ?_
      refine g_if_ne (pc := 104) (tgt := 114) h dX7_keeper_104 (by decide) hF (fun hF => ?_) (fun hF => ?_)
      · refine g_aload_n (pc := 114) h 0 rfl dX7_keeper_114 ?_
        refine g_getI (pc := 115) h fdX7_379 (inw ht) (by decide) dX7_keeper_115 ?_
        exact g_iret (pc := 118) h hr ⟨Nat.le_refl _, Nat.le_refl _⟩ hF dX7_keeper_118
      · refine g_aload_n (pc := 107) h 0 rfl dX7_keeper_107 ?_
        refine g_getI (pc := 108) h fdX7_376 (inw ht) (by decide) dX7_keeper_108 ?_
        refine g_goto (pc := 111) (tgt := 118) h dX7_keeper_111 (by decide) ?_
        exact g_iret (pc := 118) h hr ⟨Nat.le_refl _, Nat.le_refl _⟩ hF dX7_keeper_118
    · refine g_aload_n (pc := 47) h 0 rfl dX7_keeper_47 ?_
      refine g_getR (pc := 48) h fdX7_23 (inw ht) rfl dX7_keeper_48 ?_
      refine g_iload_n (pc := 51) h 3 rfl dX7_keeper_51 ?_
      refine g_dr hF (fun a_9 e_a_9 h_a_9 hF => ?_)
      rw [e_a_9]
      obtain ⟨g_1, hF⟩ := grd_ok hF
      refine g_iald (pc := 52) h h_a_9 g_1 dX7_keeper_52 ?_
      refine g_t hF (fun x4_10 hF => ?_)
      refine g_istore (pc := 53) (lv' := [(4, .inl x4_10), (0, .inr (.inl (some t))), (1, .inl x1), (2, .inl x2), (3, .inl x3)]) h dX7_keeper_53 (hj 4 (by decide)) rfl ?_
      refine g_aload_n (pc := 55) h 1 rfl dX7_keeper_55 ?_
      refine g_getR (pc := 56) h fdX7_23 (inw ht) rfl dX7_keeper_56 ?_
      refine g_iload_n (pc := 59) h 4 rfl dX7_keeper_59 ?_
      refine g_iconst (pc := 60) (v := (0 : Int32)) h dX7_keeper_60 (by decide) ?_
      refine g_dr hF (fun a_11 e_a_11 h_a_11 hF => ?_)
      rw [e_a_11]
      obtain ⟨g_2, hF⟩ := grd_ok hF
      refine g_iast (pc := 61) h h_a_11 g_2 dX7_keeper_61 ?_
      refine g_w hF (fun w_12 hF => ?_)
      refine g_aload_n (pc := 62) h 1 rfl dX7_keeper_62 ?_
      refine g_iload_n (pc := 63) h 2 rfl dX7_keeper_63 ?_
      refine g_cvI (pc := 64) (st := []) h mX7_allBehind cvX7_390 (inw ht) (by decide) ⟨by decide, by decide⟩ (Nat.le_of_ble_eq_true rfl) rfl rfl dX7_keeper_64 hF (fun x_13 w_14 hF => ?_)
      refine g_istore (pc := 67) (lv' := [(5, .inl x_13), (4, .inl x4_10), (0, .inr (.inl (some t))), (1, .inl x1), (2, .inl x2), (3, .inl x3)]) h dX7_keeper_67 (hj 5 (by decide)) rfl ?_
      refine g_aload_n (pc := 69) h 2 rfl dX7_keeper_69 ?_
      refine g_getR (pc := 70) h fdX7_23 (inw ht) rfl dX7_keeper_70 ?_
      refine g_iload_n (pc := 73) h 5 rfl dX7_keeper_73 ?_
      refine g_iload (pc := 74) h 1 rfl dX7_keeper_74 ?_
      refine g_dr hF (fun a_15 e_a_15 h_a_15 hF => ?_)
      rw [e_a_15]
      obtain ⟨g_3, hF⟩ := grd_ok hF
      refine g_iast (pc := 76) h h_a_15 g_3 dX7_keeper_76 ?_
      refine g_w hF (fun w_16 hF => ?_)
      refine g_iload (pc := 77) h 0 rfl dX7_keeper_77 ?_
      refine g_aload_n (pc := 79) h 2 rfl dX7_keeper_79 ?_
      refine g_getI (pc := 80) h fdX7_379 (inw ht) (by decide) dX7_keeper_80 ?_
      refine g_icmp_le (pc := 83) (tgt := 97) h dX7_keeper_83 (by decide) hF (fun hF => ?_) (fun hF => ?_)
      · refine g_lv (lv' := [(0, .inr (.inl (some t))), (1, .inl x1), (2, .inl x2), (3, .inl x3)]) [2, 3, 4, 5] rfl ?_
        exact kX7_keeper_97 h hr hnL ht (fun z0 z1 z2 z3 hF => ih z0 z1 z2 z3 hF) _ _ _ _ hF
      · refine g_aload_n (pc := 86) h 2 rfl dX7_keeper_86 ?_
        refine g_iload_n (pc := 87) h 5 rfl dX7_keeper_87 ?_
        refine g_putI (pc := 88) h fdX7_376 (inw ht) (by decide) ⟨rfl, rfl⟩ dX7_keeper_88 ?_
        refine g_w hF (fun w_17 hF => ?_)
        refine g_aload_n (pc := 91) h 2 rfl dX7_keeper_91 ?_
        refine g_iload (pc := 92) h 0 rfl dX7_keeper_92 ?_
        refine g_putI (pc := 94) h fdX7_379 (inw ht) (by decide) ⟨rfl, rfl⟩ dX7_keeper_94 ?_
        refine g_w hF (fun w_18 hF => ?_)
        refine g_lv (lv' := [(0, .inr (.inl (some t))), (1, .inl x1), (2, .inl x2), (3, .inl x3)]) [2, 3, 4, 5] rfl ?_
        exact kX7_keeper_97 h hr hnL ht (fun z0 z1 z2 z3 hF => ih z0 z1 z2 z3 hF) _ _ _ _ hF
def fX7_keeper (t : Nat) (x1 : Int32) (x2 : Int32) (w : Wd) : Option (Int32 × Wd) :=
  bnd (fX7_in (x1.toInt64) (0 : Int64) (40 : Int64) w) (fun x_1 w_2 => if x_1 = 0 then
    (some ((-2 : Int32), w_2))
  else
    (bnd (fX7_in (x2.toInt64) (0 : Int64) (1 : Int64) w_2) (fun x_3 w_4 => if x_3 = 0 then
      (some ((-2 : Int32), w_4))
    else
      (lw (sI w_4 t 34 (-1 : Int32)) (fun w_5 => bnd (fX7_allBehind t x1 w_5) (fun x_6 w_7 => lw (sI w_7 t 35 x_6) (fun w_8 => fX7_keeper_41 t FU x1 x2 (0 : Int32) w_8)))))))
set_option maxHeartbeats 4000000 in
theorem mX7_keeper {Γ : En} {t : Nat} {x1 : Int32} {x2 : Int32} {w : Wd} (ht : t < wn w ∧ kd t = 7) : MtI Γ yX7_keeper cX7_keeper 6 (some .int) 49 0 0 [rv Γ (some t), .int x1, .int x2] w (fX7_keeper t x1 x2 w) := by
  refine mtI [.inr (.inl (some t)), .inl x1, .inl x2] rfl (Nat.le_of_ble_eq_true rfl) (fun X hΓ hnL hn0 h _ hr hF => ?_)
  subst hΓ
  have ht : InN X t 7 := ⟨by rw [hn0]; exact ht.1, ht.2⟩
  have h : Ok X cX7_keeper RX7 49 0 0 := h
  have hj : ∀ j, j < 6 → j < nLX X := fun j q => by rw [hnL]; exact q
  show G X 0 0 0 [(0, .inr (.inl (some t))), (1, .inl x1), (2, .inl x2)] [] w
  unfold fX7_keeper at hF
  refine g_iload_n (pc := 0) h 1 rfl dX7_keeper_0 ?_
  refine g_i2l (pc := 1) h dX7_keeper_1 ?_
  refine g_lconst (pc := 2) (v := (0 : Int64)) h dX7_keeper_2 (by decide) ?_
  refine g_ldc2 (pc := 3) h wcL_X7_365 dX7_keeper_3 ?_
  refine g_csI (pc := 6) (st := []) h mX7_in csX7_67 (by decide) ⟨by decide, by decide⟩ (Nat.le_of_ble_eq_true rfl) rfl rfl dX7_keeper_6 hF (fun x_1 w_2 hF => ?_)
  refine g_if_eq (pc := 9) (tgt := 22) h dX7_keeper_9 (by decide) hF (fun hF => ?_) (fun hF => ?_)
  · refine g_bipush (pc := 22) (v := (-2 : Int32)) h dX7_keeper_22 (by decide) ?_
    exact g_iret (pc := 24) h hr ⟨Nat.le_refl _, Nat.le_refl _⟩ hF dX7_keeper_24
  · refine g_iload_n (pc := 12) h 2 rfl dX7_keeper_12 ?_
    refine g_i2l (pc := 13) h dX7_keeper_13 ?_
    refine g_lconst (pc := 14) (v := (0 : Int64)) h dX7_keeper_14 (by decide) ?_
    refine g_lconst (pc := 15) (v := (1 : Int64)) h dX7_keeper_15 (by decide) ?_
    refine g_csI (pc := 16) (st := []) h mX7_in csX7_67 (by decide) ⟨by decide, by decide⟩ (Nat.le_of_ble_eq_true rfl) rfl rfl dX7_keeper_16 hF (fun x_3 w_4 hF => ?_)
    refine g_if_ne (pc := 19) (tgt := 25) h dX7_keeper_19 (by decide) hF (fun hF => ?_) (fun hF => ?_)
    · refine g_aload_n (pc := 25) h 0 rfl dX7_keeper_25 ?_
      refine g_iconst (pc := 26) (v := (-1 : Int32)) h dX7_keeper_26 (by decide) ?_
      refine g_putI (pc := 27) h fdX7_376 (inw ht) (by decide) ⟨rfl, rfl⟩ dX7_keeper_27 ?_
      refine g_w hF (fun w_5 hF => ?_)
      refine g_aload_n (pc := 30) h 0 rfl dX7_keeper_30 ?_
      refine g_aload_n (pc := 31) h 0 rfl dX7_keeper_31 ?_
      refine g_iload_n (pc := 32) h 1 rfl dX7_keeper_32 ?_
      refine g_cvI (pc := 33) (st := [rv X.1 (some t)]) h mX7_allBehind cvX7_390 (inw ht) (by decide) ⟨by decide, by decide⟩ (Nat.le_of_ble_eq_true rfl) rfl rfl dX7_keeper_33 hF (fun x_6 w_7 hF => ?_)
      refine g_putI (pc := 36) h fdX7_379 (inw ht) (by decide) ⟨rfl, rfl⟩ dX7_keeper_36 ?_
      refine g_w hF (fun w_8 hF => ?_)
      refine g_iconst (pc := 39) (v := (0 : Int32)) h dX7_keeper_39 (by decide) ?_
      refine g_istore_n (pc := 40) (lv' := [(3, .inl (0 : Int32)), (0, .inr (.inl (some t))), (1, .inl x1), (2, .inl x2)]) h dX7_keeper_40 (hj 3 (by decide)) rfl ?_
      refine g_lv (lv' := [(0, .inr (.inl (some t))), (1, .inl x1), (2, .inl x2), (3, .inl (0 : Int32))]) [1, 2, 3, 0] rfl ?_
      exact kX7_keeper_41 h hr hnL ht _ _ _ _ _ hF
    · refine g_bipush (pc := 22) (v := (-2 : Int32)) h dX7_keeper_22 (by decide) ?_
      exact g_iret (pc := 24) h hr ⟨Nat.le_refl _, Nat.le_refl _⟩ hF dX7_keeper_24
def fX7_spare_117 (k48 : Int32 → Int32 → Int32 → Int32 → Int32 → Int32 → Wd → Option (Int32 × Wd)) (t : Nat) (x1 : Int32) (x2 : Int32) (x3 : Int32) (x4 : Int32) (x5 : Int32) (x6 : Int32) (w : Wd) : Option (Int32 × Wd) :=
  k48 x1 x2 x3 x4 x5 (x6 + (1 : Int32)) w
set_option maxHeartbeats 4000000 in
theorem kX7_spare_117 {X : Cx} (h : Ok X cX7_spare RX7 48 0 0) (hr : RetI X .int 0 0) (hnL : nLX X = 7) {t : Nat} (ht : InN X t 7) {k48 : Int32 → Int32 → Int32 → Int32 → Int32 → Int32 → Wd → Option (Int32 × Wd)} (hk48 : ∀ (x1 : Int32) (x2 : Int32) (x3 : Int32) (x4 : Int32) (x5 : Int32) (x6 : Int32) (w : Wd), OkR X Value.int (k48 x1 x2 x3 x4 x5 x6 w) → G X 0 0 48 [(0, .inr (.inl (some t))), (1, .inl x1), (2, .inl x2), (3, .inl x3), (4, .inl x4), (5, .inl x5), (6, .inl x6)] [] w) : ∀ (x1 : Int32) (x2 : Int32) (x3 : Int32) (x4 : Int32) (x5 : Int32) (x6 : Int32) (w : Wd), OkR X Value.int (fX7_spare_117 k48 t x1 x2 x3 x4 x5 x6 w) → G X 0 0 117 [(0, .inr (.inl (some t))), (1, .inl x1), (2, .inl x2), (3, .inl x3), (4, .inl x4), (5, .inl x5), (6, .inl x6)] [] w := by
  have hj : ∀ j, j < 7 → j < nLX X := fun j q => by rw [hnL]; exact q
  intro x1 x2 x3 x4 x5 x6 w hF
  unfold fX7_spare_117 at hF
  refine g_iinc (pc := 117) (lv' := [(6, .inl (x6 + (1 : Int32))), (0, .inr (.inl (some t))), (1, .inl x1), (2, .inl x2), (3, .inl x3), (4, .inl x4), (5, .inl x5)]) h 6 rfl dX7_spare_117 (dv := (1 : Int32)) (by decide) (hj 6 (by decide)) rfl ?_
  refine g_goto (pc := 120) (tgt := 48) h dX7_spare_120 (by decide) ?_
  refine g_lv (lv' := [(0, .inr (.inl (some t))), (1, .inl x1), (2, .inl x2), (3, .inl x3), (4, .inl x4), (5, .inl x5), (6, .inl (x6 + (1 : Int32)))]) [1, 2, 3, 4, 5, 6, 0] rfl ?_
  exact hk48 _ _ _ _ _ _ _ hF
def fX7_spare_114 (k48 : Int32 → Int32 → Int32 → Int32 → Int32 → Int32 → Wd → Option (Int32 × Wd)) (t : Nat) (x1 : Int32) (x2 : Int32) (x3 : Int32) (x4 : Int32) (x6 : Int32) (y0 : Int32) (y1 : Int32) (w : Wd) : Option (Int32 × Wd) :=
  lt (y1 ||| y0) (fun x5_16 => fX7_spare_117 k48 t x1 x2 x3 x4 x5_16 x6 w)
set_option maxHeartbeats 4000000 in
theorem kX7_spare_114 {X : Cx} (h : Ok X cX7_spare RX7 48 0 0) (hr : RetI X .int 0 0) (hnL : nLX X = 7) {t : Nat} (ht : InN X t 7) {k48 : Int32 → Int32 → Int32 → Int32 → Int32 → Int32 → Wd → Option (Int32 × Wd)} (hk48 : ∀ (x1 : Int32) (x2 : Int32) (x3 : Int32) (x4 : Int32) (x5 : Int32) (x6 : Int32) (w : Wd), OkR X Value.int (k48 x1 x2 x3 x4 x5 x6 w) → G X 0 0 48 [(0, .inr (.inl (some t))), (1, .inl x1), (2, .inl x2), (3, .inl x3), (4, .inl x4), (5, .inl x5), (6, .inl x6)] [] w) : ∀ (x1 : Int32) (x2 : Int32) (x3 : Int32) (x4 : Int32) (x6 : Int32) (y0 : Int32) (y1 : Int32) (w : Wd), OkR X Value.int (fX7_spare_114 k48 t x1 x2 x3 x4 x6 y0 y1 w) → G X 0 0 114 [(0, .inr (.inl (some t))), (1, .inl x1), (2, .inl x2), (3, .inl x3), (4, .inl x4), (6, .inl x6)] [.int y0, .int y1] w := by
  have hj : ∀ j, j < 7 → j < nLX X := fun j q => by rw [hnL]; exact q
  intro x1 x2 x3 x4 x6 y0 y1 w hF
  unfold fX7_spare_114 at hF
  refine g_ior (pc := 114) h dX7_spare_114 ?_
  refine g_t hF (fun x5_16 hF => ?_)
  refine g_istore (pc := 115) (lv' := [(5, .inl x5_16), (0, .inr (.inl (some t))), (1, .inl x1), (2, .inl x2), (3, .inl x3), (4, .inl x4), (6, .inl x6)]) h dX7_spare_115 (hj 5 (by decide)) rfl ?_
  refine g_lv (lv' := [(0, .inr (.inl (some t))), (1, .inl x1), (2, .inl x2), (3, .inl x3), (4, .inl x4), (5, .inl x5_16), (6, .inl x6)]) [1, 2, 3, 4, 5, 0, 6] rfl ?_
  exact kX7_spare_117 h hr hnL ht hk48 _ _ _ _ _ _ _ hF
def fX7_spare_48 (t : Nat) : Nat → Int32 → Int32 → Int32 → Int32 → Int32 → Int32 → Wd → Option (Int32 × Wd)
  | 0 => fun _ _ _ _ _ _ _ => none
  | n + 1 => fun x1 x2 x3 x4 x5 x6 w =>
    if (8 : Int32) ≤ x6 then
      (dr (gR w t 10) 8 w (fun a_9 => grd (vin (((5 : Int32) * x1) + (2 : Int32)) (ln a_9)) (lw (sI w a_9 (((5 : Int32) * x1) + (2 : Int32)).toNatClampNeg x3) (fun w_10 => some (x5, w_10)))))
    else
      (dr (gR w t 10) 8 w (fun a_11 => grd (vin (((5 : Int32) * x1) + (1 : Int32)) (ln a_11)) (if ((x3 &&& (gI w a_11 (((5 : Int32) * x1) + (1 : Int32)).toNatClampNeg)) &&& ((1 : Int32) <<< (x6 &&& 31))) = 0 then
        (fX7_spare_117 (fX7_spare_48 t n) t x1 x2 x3 x4 x5 x6 w)
      else
        (dr (gR w t 10) 8 w (fun a_12 => grd (vin (((5 : Int32) * x1) + (2 : Int32)) (ln a_12)) (lw (sI w a_12 (((5 : Int32) * x1) + (2 : Int32)).toNatClampNeg (x3 &&& (((1 : Int32) <<< (x6 &&& 31)) ^^^ (-1 : Int32)))) (fun w_13 => bnd (fX7_stepBehind t x1 x2 w_13) (fun x_14 w_15 => if x_14 < x4 then
          (fX7_spare_114 (fX7_spare_48 t n) t x1 x2 x3 x4 x6 (0 : Int32) x5 w_15)
        else
          (fX7_spare_114 (fX7_spare_48 t n) t x1 x2 x3 x4 x6 ((1 : Int32) <<< (x6 &&& 31)) x5 w_15)))))))))
set_option maxHeartbeats 4000000 in
theorem kX7_spare_48 {X : Cx} (h : Ok X cX7_spare RX7 48 0 0) (hr : RetI X .int 0 0) (hnL : nLX X = 7) {t : Nat} (ht : InN X t 7) : ∀ (fu : Nat) (x1 : Int32) (x2 : Int32) (x3 : Int32) (x4 : Int32) (x5 : Int32) (x6 : Int32) (w : Wd), OkR X Value.int (fX7_spare_48 t fu x1 x2 x3 x4 x5 x6 w) → G X 0 0 48 [(0, .inr (.inl (some t))), (1, .inl x1), (2, .inl x2), (3, .inl x3), (4, .inl x4), (5, .inl x5), (6, .inl x6)] [] w := by
  have hj : ∀ j, j < 7 → j < nLX X := fun j q => by rw [hnL]; exact q
  intro fu
  induction fu with
  | zero => intro x1 x2 x3 x4 x5 x6 w hF; exact okN hF
  | succ fu ih =>
    intro x1 x2 x3 x4 x5 x6 w hF
    rw [fX7_spare_48] at hF
    refine g_iload (pc := 48) h 6 rfl dX7_spare_48 ?_
    refine g_bipush (pc := 50) (v := (8 : Int32)) h dX7_spare_50 (by decide) ?_
    refine g_icmp_ge (pc := 52) (tgt := 123) h dX7_spare_52 (by decide) hF (fun hF => ?_) (fun hF => ?_)
    · refine g_aload_n (pc := 123) h 0 rfl dX7_spare_123 ?_
      refine g_getR (pc := 124) h fdX7_29 (inw ht) rfl dX7_spare_124 ?_
      refine g_iconst (pc := 127) (v := (5 : Int32)) h dX7_spare_127 (by decide) ?_
      refine g_iload_n (pc := 128) h 1 rfl dX7_spare_128 ?_
      refine g_imul (pc := 129) h dX7_spare_129 ?_
      refine g_iconst (pc := 130) (v := (2 : Int32)) h dX7_spare_130 (by decide) ?_
      refine g_iadd (pc := 131) h dX7_spare_131 ?_
      refine g_iload_n (pc := 132) h 3 rfl dX7_spare_132 ?_
      refine g_dr hF (fun a_9 e_a_9 h_a_9 hF => ?_)
      rw [e_a_9]
      obtain ⟨g_2, hF⟩ := grd_ok hF
      refine g_iast (pc := 133) h h_a_9 g_2 dX7_spare_133 ?_
      refine g_w hF (fun w_10 hF => ?_)
      refine g_iload (pc := 134) h 5 rfl dX7_spare_134 ?_
      exact g_iret (pc := 136) h hr ⟨Nat.le_refl _, Nat.le_refl _⟩ hF dX7_spare_136
    · refine g_iload_n (pc := 55) h 3 rfl dX7_spare_55 ?_
      refine g_aload_n (pc := 56) h 0 rfl dX7_spare_56 ?_
      refine g_getR (pc := 57) h fdX7_29 (inw ht) rfl dX7_spare_57 ?_
      refine g_iconst (pc := 60) (v := (5 : Int32)) h dX7_spare_60 (by decide) ?_
      refine g_iload_n (pc := 61) h 1 rfl dX7_spare_61 ?_
      refine g_imul (pc := 62) h dX7_spare_62 ?_
      refine g_iconst (pc := 63) (v := (1 : Int32)) h dX7_spare_63 (by decide) ?_
      refine g_iadd (pc := 64) h dX7_spare_64 ?_
      refine g_dr hF (fun a_11 e_a_11 h_a_11 hF => ?_)
      rw [e_a_11]
      obtain ⟨g_3, hF⟩ := grd_ok hF
      refine g_iald (pc := 65) h h_a_11 g_3 dX7_spare_65 ?_
      refine g_iand (pc := 66) h dX7_spare_66 ?_
      refine g_iconst (pc := 67) (v := (1 : Int32)) h dX7_spare_67 (by decide) ?_
      refine g_iload (pc := 68) h 6 rfl dX7_spare_68 ?_
      refine g_ishl (pc := 70) h dX7_spare_70 ?_
      refine g_iand (pc := 71) h dX7_spare_71 ?_
      refine g_if_eq (pc := 72) (tgt := 117) h dX7_spare_72 (by decide) hF (fun hF => ?_) (fun hF => ?_)
      · exact kX7_spare_117 h hr hnL ht (fun z0 z1 z2 z3 z4 z5 z6 hF => ih z0 z1 z2 z3 z4 z5 z6 hF) _ _ _ _ _ _ _ hF
      · refine g_aload_n (pc := 75) h 0 rfl dX7_spare_75 ?_
        refine g_getR (pc := 76) h fdX7_29 (inw ht) rfl dX7_spare_76 ?_
        refine g_iconst (pc := 79) (v := (5 : Int32)) h dX7_spare_79 (by decide) ?_
        refine g_iload_n (pc := 80) h 1 rfl dX7_spare_80 ?_
        refine g_imul (pc := 81) h dX7_spare_81 ?_
        refine g_iconst (pc := 82) (v := (2 : Int32)) h dX7_spare_82 (by decide) ?_
        refine g_iadd (pc := 83) h dX7_spare_83 ?_
        refine g_iload_n (pc := 84) h 3 rfl dX7_spare_84 ?_
        refine g_iconst (pc := 85) (v := (1 : Int32)) h dX7_spare_85 (by decide) ?_
        refine g_iload (pc := 86) h 6 rfl dX7_spare_86 ?_
        refine g_ishl (pc := 88) h dX7_spare_88 ?_
        refine g_iconst (pc := 89) (v := (-1 : Int32)) h dX7_spare_89 (by decide) ?_
        refine g_ixor (pc := 90) h dX7_spare_90 ?_
        refine g_iand (pc := 91) h dX7_spare_91 ?_
        refine g_dr hF (fun a_12 e_a_12 h_a_12 hF => ?_)
        rw [e_a_12]
        obtain ⟨g_4, hF⟩ := grd_ok hF
        refine g_iast (pc := 92) h h_a_12 g_4 dX7_spare_92 ?_
        refine g_w hF (fun w_13 hF => ?_)
        refine g_iload (pc := 93) h 5 rfl dX7_spare_93 ?_
        refine g_aload_n (pc := 95) h 0 rfl dX7_spare_95 ?_
        refine g_iload_n (pc := 96) h 1 rfl dX7_spare_96 ?_
        refine g_iload_n (pc := 97) h 2 rfl dX7_spare_97 ?_
        refine g_cvI (pc := 98) (st := [.int x5]) h mX7_stepBehind cvX7_373 (inw ht) (by decide) ⟨by decide, by decide⟩ (Nat.le_of_ble_eq_true rfl) rfl rfl dX7_spare_98 hF (fun x_14 w_15 hF => ?_)
        refine g_iload (pc := 101) h 4 rfl dX7_spare_101 ?_
        refine g_icmp_lt (pc := 103) (tgt := 113) h dX7_spare_103 (by decide) hF (fun hF => ?_) (fun hF => ?_)
        · refine g_iconst (pc := 113) (v := (0 : Int32)) h dX7_spare_113 (by decide) ?_
          refine g_lv (lv' := [(0, .inr (.inl (some t))), (1, .inl x1), (2, .inl x2), (3, .inl x3), (4, .inl x4), (6, .inl x6)]) [0, 1, 2, 3, 4, 6] rfl ?_
          exact kX7_spare_114 h hr hnL ht (fun z0 z1 z2 z3 z4 z5 z6 hF => ih z0 z1 z2 z3 z4 z5 z6 hF) _ _ _ _ _ _ _ _ hF
        · refine g_iconst (pc := 106) (v := (1 : Int32)) h dX7_spare_106 (by decide) ?_
          refine g_iload (pc := 107) h 6 rfl dX7_spare_107 ?_
          refine g_ishl (pc := 109) h dX7_spare_109 ?_
          refine g_goto (pc := 110) (tgt := 114) h dX7_spare_110 (by decide) ?_
          refine g_lv (lv' := [(0, .inr (.inl (some t))), (1, .inl x1), (2, .inl x2), (3, .inl x3), (4, .inl x4), (6, .inl x6)]) [0, 1, 2, 3, 4, 6] rfl ?_
          exact kX7_spare_114 h hr hnL ht (fun z0 z1 z2 z3 z4 z5 z6 hF => ih z0 z1 z2 z3 z4 z5 z6 hF) _ _ _ _ _ _ _ _ hF
def fX7_spare (t : Nat) (x1 : Int32) (x2 : Int32) (w : Wd) : Option (Int32 × Wd) :=
  bnd (fX7_isOne t x1 w) (fun x_1 w_2 => if x_1 = 0 then
    (some ((-2 : Int32), w_2))
  else
    (bnd (fX7_in (x2.toInt64) (0 : Int64) (40 : Int64) w_2) (fun x_3 w_4 => if x_3 = 0 then
      (some ((-2 : Int32), w_4))
    else
      (dr (gR w_4 t 10) 8 w_4 (fun a_5 => grd (vin (((5 : Int32) * x1) + (2 : Int32)) (ln a_5)) (lt (gI w_4 a_5 (((5 : Int32) * x1) + (2 : Int32)).toNatClampNeg) (fun x3_6 => bnd (fX7_stepBehind t x1 x2 w_4) (fun x_7 w_8 => fX7_spare_48 t FU x1 x2 x3_6 x_7 (0 : Int32) (0 : Int32) w_8))))))))
set_option maxHeartbeats 4000000 in
theorem mX7_spare {Γ : En} {t : Nat} {x1 : Int32} {x2 : Int32} {w : Wd} (ht : t < wn w ∧ kd t = 7) : MtI Γ yX7_spare cX7_spare 7 (some .int) 48 0 0 [rv Γ (some t), .int x1, .int x2] w (fX7_spare t x1 x2 w) := by
  refine mtI [.inr (.inl (some t)), .inl x1, .inl x2] rfl (Nat.le_of_ble_eq_true rfl) (fun X hΓ hnL hn0 h _ hr hF => ?_)
  subst hΓ
  have ht : InN X t 7 := ⟨by rw [hn0]; exact ht.1, ht.2⟩
  have h : Ok X cX7_spare RX7 48 0 0 := h
  have hj : ∀ j, j < 7 → j < nLX X := fun j q => by rw [hnL]; exact q
  show G X 0 0 0 [(0, .inr (.inl (some t))), (1, .inl x1), (2, .inl x2)] [] w
  unfold fX7_spare at hF
  refine g_aload_n (pc := 0) h 0 rfl dX7_spare_0 ?_
  refine g_iload_n (pc := 1) h 1 rfl dX7_spare_1 ?_
  refine g_cvI (pc := 2) (st := []) h mX7_isOne cvX7_73 (inw ht) (by decide) ⟨by decide, by decide⟩ (Nat.le_of_ble_eq_true rfl) rfl rfl dX7_spare_2 hF (fun x_1 w_2 hF => ?_)
  refine g_if_eq (pc := 5) (tgt := 20) h dX7_spare_5 (by decide) hF (fun hF => ?_) (fun hF => ?_)
  · refine g_bipush (pc := 20) (v := (-2 : Int32)) h dX7_spare_20 (by decide) ?_
    exact g_iret (pc := 22) h hr ⟨Nat.le_refl _, Nat.le_refl _⟩ hF dX7_spare_22
  · refine g_iload_n (pc := 8) h 2 rfl dX7_spare_8 ?_
    refine g_i2l (pc := 9) h dX7_spare_9 ?_
    refine g_lconst (pc := 10) (v := (0 : Int64)) h dX7_spare_10 (by decide) ?_
    refine g_ldc2 (pc := 11) h wcL_X7_365 dX7_spare_11 ?_
    refine g_csI (pc := 14) (st := []) h mX7_in csX7_67 (by decide) ⟨by decide, by decide⟩ (Nat.le_of_ble_eq_true rfl) rfl rfl dX7_spare_14 hF (fun x_3 w_4 hF => ?_)
    refine g_if_ne (pc := 17) (tgt := 23) h dX7_spare_17 (by decide) hF (fun hF => ?_) (fun hF => ?_)
    · refine g_aload_n (pc := 23) h 0 rfl dX7_spare_23 ?_
      refine g_getR (pc := 24) h fdX7_29 (inw ht) rfl dX7_spare_24 ?_
      refine g_iconst (pc := 27) (v := (5 : Int32)) h dX7_spare_27 (by decide) ?_
      refine g_iload_n (pc := 28) h 1 rfl dX7_spare_28 ?_
      refine g_imul (pc := 29) h dX7_spare_29 ?_
      refine g_iconst (pc := 30) (v := (2 : Int32)) h dX7_spare_30 (by decide) ?_
      refine g_iadd (pc := 31) h dX7_spare_31 ?_
      refine g_dr hF (fun a_5 e_a_5 h_a_5 hF => ?_)
      rw [e_a_5]
      obtain ⟨g_1, hF⟩ := grd_ok hF
      refine g_iald (pc := 32) h h_a_5 g_1 dX7_spare_32 ?_
      refine g_t hF (fun x3_6 hF => ?_)
      refine g_istore_n (pc := 33) (lv' := [(3, .inl x3_6), (0, .inr (.inl (some t))), (1, .inl x1), (2, .inl x2)]) h dX7_spare_33 (hj 3 (by decide)) rfl ?_
      refine g_aload_n (pc := 34) h 1 rfl dX7_spare_34 ?_
      refine g_iload_n (pc := 35) h 2 rfl dX7_spare_35 ?_
      refine g_iload_n (pc := 36) h 3 rfl dX7_spare_36 ?_
      refine g_cvI (pc := 37) (st := []) h mX7_stepBehind cvX7_373 (inw ht) (by decide) ⟨by decide, by decide⟩ (Nat.le_of_ble_eq_true rfl) rfl rfl dX7_spare_37 hF (fun x_7 w_8 hF => ?_)
      refine g_istore (pc := 40) (lv' := [(4, .inl x_7), (3, .inl x3_6), (0, .inr (.inl (some t))), (1, .inl x1), (2, .inl x2)]) h dX7_spare_40 (hj 4 (by decide)) rfl ?_
      refine g_iconst (pc := 42) (v := (0 : Int32)) h dX7_spare_42 (by decide) ?_
      refine g_istore (pc := 43) (lv' := [(5, .inl (0 : Int32)), (4, .inl x_7), (3, .inl x3_6), (0, .inr (.inl (some t))), (1, .inl x1), (2, .inl x2)]) h dX7_spare_43 (hj 5 (by decide)) rfl ?_
      refine g_iconst (pc := 45) (v := (0 : Int32)) h dX7_spare_45 (by decide) ?_
      refine g_istore (pc := 46) (lv' := [(6, .inl (0 : Int32)), (5, .inl (0 : Int32)), (4, .inl x_7), (3, .inl x3_6), (0, .inr (.inl (some t))), (1, .inl x1), (2, .inl x2)]) h dX7_spare_46 (hj 6 (by decide)) rfl ?_
      refine g_lv (lv' := [(0, .inr (.inl (some t))), (1, .inl x1), (2, .inl x2), (3, .inl x3_6), (4, .inl x_7), (5, .inl (0 : Int32)), (6, .inl (0 : Int32))]) [4, 5, 6, 3, 2, 1, 0] rfl ?_
      exact kX7_spare_48 h hr hnL ht _ _ _ _ _ _ _ _ hF
    · refine g_bipush (pc := 20) (v := (-2 : Int32)) h dX7_spare_20 (by decide) ?_
      exact g_iret (pc := 22) h hr ⟨Nat.le_refl _, Nat.le_refl _⟩ hF dX7_spare_22
def fX7_firstOther_7 (t : Nat) : Nat → Int32 → Int32 → Int32 → Wd → Option (Int32 × Wd)
  | 0 => fun _ _ _ _ => none
  | n + 1 => fun x1 x2 x3 w =>
    dr (gR w t 44) 8 w (fun a_3 => grd (vin x1 (ln a_3)) (if (gI w a_3 x1.toNatClampNeg) ≤ x3 then
      (some ((-1 : Int32), w))
    else
      (bnd (fX7_goes t x2 w) (fun x_4 w_5 => dr (gR w_5 t 45) 8 w_5 (fun a_6 => grd (vin (((40 : Int32) * x1) + x3) (ln a_6)) (if (gI w_5 t 29) = (gI w_5 a_6 (((40 : Int32) * x1) + x3).toNatClampNeg) then
        (fX7_firstOther_7 t n x1 x2 (x3 + (1 : Int32)) w_5)
      else
        (some (x3, w_5))))))))
set_option maxHeartbeats 4000000 in
theorem kX7_firstOther_7 {X : Cx} (h : Ok X cX7_firstOther RX7 47 0 0) (hr : RetI X .int 0 0) (hnL : nLX X = 4) {t : Nat} (ht : InN X t 7) : ∀ (fu : Nat) (x1 : Int32) (x2 : Int32) (x3 : Int32) (w : Wd), OkR X Value.int (fX7_firstOther_7 t fu x1 x2 x3 w) → G X 0 0 7 [(0, .inr (.inl (some t))), (1, .inl x1), (2, .inl x2), (3, .inl x3)] [] w := by
  have hj : ∀ j, j < 4 → j < nLX X := fun j q => by rw [hnL]; exact q
  intro fu
  induction fu with
  | zero => intro x1 x2 x3 w hF; exact okN hF
  | succ fu ih =>
    intro x1 x2 x3 w hF
    rw [fX7_firstOther_7] at hF
    refine g_iload_n (pc := 7) h 3 rfl dX7_firstOther_7 ?_
    refine g_aload_n (pc := 8) h 0 rfl dX7_firstOther_8 ?_
    refine g_getR (pc := 9) h fdX7_51 (inw ht) rfl dX7_firstOther_9 ?_
    refine g_iload_n (pc := 12) h 1 rfl dX7_firstOther_12 ?_
    refine g_dr hF (fun a_3 e_a_3 h_a_3 hF => ?_)
    rw [e_a_3]
    obtain ⟨g_1, hF⟩ := grd_ok hF
    refine g_iald (pc := 13) h h_a_3 g_1 dX7_firstOther_13 ?_
    refine g_icmp_ge (pc := 14) (tgt := 49) h dX7_firstOther_14 (by decide) hF (fun hF => ?_) (fun hF => ?_)
    · refine g_iconst (pc := 49) (v := (-1 : Int32)) h dX7_firstOther_49 (by decide) ?_
      exact g_iret (pc := 50) h hr ⟨Nat.le_refl _, Nat.le_refl _⟩ hF dX7_firstOther_50
    · refine g_aload_n (pc := 17) h 0 rfl dX7_firstOther_17 ?_
      refine g_iload_n (pc := 18) h 2 rfl dX7_firstOther_18 ?_
      refine g_cvI (pc := 19) (st := []) h mX7_goes cvX7_359 (inw ht) (by decide) ⟨by decide, by decide⟩ (Nat.le_of_ble_eq_true rfl) rfl rfl dX7_firstOther_19 hF (fun x_4 w_5 hF => ?_)
      refine g_pop (pc := 22) h dX7_firstOther_22 rfl ?_
      refine g_aload_n (pc := 23) h 0 rfl dX7_firstOther_23 ?_
      refine g_getI (pc := 24) h fdX7_340 (inw ht) (by decide) dX7_firstOther_24 ?_
      refine g_aload_n (pc := 27) h 0 rfl dX7_firstOther_27 ?_
      refine g_getR (pc := 28) h fdX7_54 (inw ht) rfl dX7_firstOther_28 ?_
      refine g_bipush (pc := 31) (v := (40 : Int32)) h dX7_firstOther_31 (by decide) ?_
      refine g_iload_n (pc := 33) h 1 rfl dX7_firstOther_33 ?_
      refine g_imul (pc := 34) h dX7_firstOther_34 ?_
      refine g_iload_n (pc := 35) h 3 rfl dX7_firstOther_35 ?_
      refine g_iadd (pc := 36) h dX7_firstOther_36 ?_
      refine g_dr hF (fun a_6 e_a_6 h_a_6 hF => ?_)
      rw [e_a_6]
      obtain ⟨g_2, hF⟩ := grd_ok hF
      refine g_iald (pc := 37) h h_a_6 g_2 dX7_firstOther_37 ?_
      refine g_icmp_eq (pc := 38) (tgt := 43) h dX7_firstOther_38 (by decide) hF (fun hF => ?_) (fun hF => ?_)
      · refine g_iinc (pc := 43) (lv' := [(3, .inl (x3 + (1 : Int32))), (0, .inr (.inl (some t))), (1, .inl x1), (2, .inl x2)]) h 3 rfl dX7_firstOther_43 (dv := (1 : Int32)) (by decide) (hj 3 (by decide)) rfl ?_
        refine g_goto (pc := 46) (tgt := 7) h dX7_firstOther_46 (by decide) ?_
        refine g_lv (lv' := [(0, .inr (.inl (some t))), (1, .inl x1), (2, .inl x2), (3, .inl (x3 + (1 : Int32)))]) [1, 2, 3, 0] rfl ?_
        exact ih _ _ _ _ hF
      · refine g_iload_n (pc := 41) h 3 rfl dX7_firstOther_41 ?_
        exact g_iret (pc := 42) h hr ⟨Nat.le_refl _, Nat.le_refl _⟩ hF dX7_firstOther_42
def fX7_firstOther (t : Nat) (x1 : Int32) (x2 : Int32) (w : Wd) : Option (Int32 × Wd) :=
  bnd (fX7_begins t x2 w) (fun u_1 w_2 => fX7_firstOther_7 t FU x1 x2 (0 : Int32) w_2)
set_option maxHeartbeats 4000000 in
theorem mX7_firstOther {Γ : En} {t : Nat} {x1 : Int32} {x2 : Int32} {w : Wd} (ht : t < wn w ∧ kd t = 7) : MtI Γ yX7_firstOther cX7_firstOther 4 (some .int) 47 0 0 [rv Γ (some t), .int x1, .int x2] w (fX7_firstOther t x1 x2 w) := by
  refine mtI [.inr (.inl (some t)), .inl x1, .inl x2] rfl (Nat.le_of_ble_eq_true rfl) (fun X hΓ hnL hn0 h _ hr hF => ?_)
  subst hΓ
  have ht : InN X t 7 := ⟨by rw [hn0]; exact ht.1, ht.2⟩
  have h : Ok X cX7_firstOther RX7 47 0 0 := h
  have hj : ∀ j, j < 4 → j < nLX X := fun j q => by rw [hnL]; exact q
  show G X 0 0 0 [(0, .inr (.inl (some t))), (1, .inl x1), (2, .inl x2)] [] w
  unfold fX7_firstOther at hF
  refine g_aload_n (pc := 0) h 0 rfl dX7_firstOther_0 ?_
  refine g_iload_n (pc := 1) h 2 rfl dX7_firstOther_1 ?_
  refine g_cvV (pc := 2) (st := []) h mX7_begins cvX7_109 (inw ht) (by decide) ⟨by decide, by decide⟩ (Nat.le_of_ble_eq_true rfl) rfl rfl dX7_firstOther_2 hF (fun u_1 w_2 hF => ?_)
  refine g_iconst (pc := 5) (v := (0 : Int32)) h dX7_firstOther_5 (by decide) ?_
  refine g_istore_n (pc := 6) (lv' := [(3, .inl (0 : Int32)), (0, .inr (.inl (some t))), (1, .inl x1), (2, .inl x2)]) h dX7_firstOther_6 (hj 3 (by decide)) rfl ?_
  refine g_lv (lv' := [(0, .inr (.inl (some t))), (1, .inl x1), (2, .inl x2), (3, .inl (0 : Int32))]) [1, 2, 3, 0] rfl ?_
  exact kX7_firstOther_7 h hr hnL ht _ _ _ _ _ hF
def fX7_isSheet (x0 : Int32) (w : Wd) : Option (Int32 × Wd) :=
  bnd (fX7_in (x0.toInt64) (0 : Int64) (3 : Int64) w) (fun x_1 w_2 => grd (x_1 = 0 ∨ x_1 = 1) (some (x_1, w_2)))
set_option maxHeartbeats 4000000 in
theorem mX7_isSheet {Γ : En} {x0 : Int32} {w : Wd} : MtI Γ yX7_isSheet cX7_isSheet 1 (some .boolean) 3 0 0 [.int x0] w (fX7_isSheet x0 w) := by
  refine mtI [.inl x0] rfl (Nat.le_of_ble_eq_true rfl) (fun X hΓ hnL hn0 h _ hr hF => ?_)
  subst hΓ
  have h : Ok X cX7_isSheet RX7 3 0 0 := h
  have hj : ∀ j, j < 1 → j < nLX X := fun j q => by rw [hnL]; exact q
  show G X 0 0 0 [(0, .inl x0)] [] w
  unfold fX7_isSheet at hF
  refine g_iload_n (pc := 0) h 0 rfl dX7_isSheet_0 ?_
  refine g_i2l (pc := 1) h dX7_isSheet_1 ?_
  refine g_lconst (pc := 2) (v := (0 : Int64)) h dX7_isSheet_2 (by decide) ?_
  refine g_ldc2 (pc := 3) h wcL_X7_367 dX7_isSheet_3 ?_
  refine g_csI (pc := 6) (st := []) h mX7_in csX7_67 (by decide) ⟨by decide, by decide⟩ (Nat.le_of_ble_eq_true rfl) rfl rfl dX7_isSheet_6 hF (fun x_1 w_2 hF => ?_)
  obtain ⟨g_1, hF⟩ := grd_ok hF
  exact g_zret (pc := 9) h hr ⟨Nat.le_refl _, Nat.le_refl _⟩ (bz_ok g_1).1 hF dX7_isSheet_9
def fX7_tells_251 (k164 : Int32 → Int32 → Int32 → Int32 → Int32 → Int32 → Int32 → Int32 → Int32 → Wd → Option (Int32 × Wd)) (t : Nat) (x1 : Int32) (x2 : Int32) (x3 : Int32) (x4 : Int32) (x5 : Int32) (x7 : Int32) (x8 : Int32) (x9 : Int32) (x10 : Int32) (w : Wd) : Option (Int32 × Wd) :=
  k164 x1 x2 x3 x4 x5 x7 x8 x9 (x10 + (-1 : Int32)) w
set_option maxHeartbeats 4000000 in
theorem kX7_tells_251 {X : Cx} (h : Ok X cX7_tells RX7 48 0 0) (hr : RetI X .int 0 0) (hnL : nLX X = 12) {t : Nat} (ht : InN X t 7) {k164 : Int32 → Int32 → Int32 → Int32 → Int32 → Int32 → Int32 → Int32 → Int32 → Wd → Option (Int32 × Wd)} (hk164 : ∀ (x1 : Int32) (x2 : Int32) (x3 : Int32) (x4 : Int32) (x5 : Int32) (x7 : Int32) (x8 : Int32) (x9 : Int32) (x10 : Int32) (w : Wd), OkR X Value.int (k164 x1 x2 x3 x4 x5 x7 x8 x9 x10 w) → G X 0 0 164 [(0, .inr (.inl (some t))), (1, .inl x1), (2, .inl x2), (3, .inl x3), (4, .inl x4), (5, .inl x5), (7, .inl x7), (8, .inl x8), (9, .inl x9), (10, .inl x10)] [] w) : ∀ (x1 : Int32) (x2 : Int32) (x3 : Int32) (x4 : Int32) (x5 : Int32) (x7 : Int32) (x8 : Int32) (x9 : Int32) (x10 : Int32) (w : Wd), OkR X Value.int (fX7_tells_251 k164 t x1 x2 x3 x4 x5 x7 x8 x9 x10 w) → G X 0 0 251 [(0, .inr (.inl (some t))), (1, .inl x1), (2, .inl x2), (3, .inl x3), (4, .inl x4), (5, .inl x5), (7, .inl x7), (8, .inl x8), (9, .inl x9), (10, .inl x10)] [] w := by
  have hj : ∀ j, j < 12 → j < nLX X := fun j q => by rw [hnL]; exact q
  intro x1 x2 x3 x4 x5 x7 x8 x9 x10 w hF
  unfold fX7_tells_251 at hF
  refine g_iinc (pc := 251) (lv' := [(10, .inl (x10 + (-1 : Int32))), (0, .inr (.inl (some t))), (1, .inl x1), (2, .inl x2), (3, .inl x3), (4, .inl x4), (5, .inl x5), (7, .inl x7), (8, .inl x8), (9, .inl x9)]) h 9 rfl dX7_tells_251 (dv := (-1 : Int32)) (by decide) (hj 10 (by decide)) rfl ?_
  refine g_goto (pc := 254) (tgt := 164) h dX7_tells_254 (by decide) ?_
  refine g_lv (lv' := [(0, .inr (.inl (some t))), (1, .inl x1), (2, .inl x2), (3, .inl x3), (4, .inl x4), (5, .inl x5), (7, .inl x7), (8, .inl x8), (9, .inl x9), (10, .inl (x10 + (-1 : Int32)))]) [1, 2, 3, 4, 5, 6, 7, 8, 9, 0] rfl ?_
  exact hk164 _ _ _ _ _ _ _ _ _ _ hF
def fX7_tells_241 (k164 : Int32 → Int32 → Int32 → Int32 → Int32 → Int32 → Int32 → Int32 → Int32 → Wd → Option (Int32 × Wd)) (t : Nat) (x1 : Int32) (x2 : Int32) (x3 : Int32) (x4 : Int32) (x5 : Int32) (x8 : Int32) (x10 : Int32) (y0 : Int32) (y1 : Int32) (w : Wd) : Option (Int32 × Wd) :=
  lt (y1 ||| y0) (fun x7_21 => fX7_tells_251 k164 t x1 x2 x3 x4 x5 x7_21 (x8 + (1 : Int32)) x10 x10 w)
set_option maxHeartbeats 4000000 in
theorem kX7_tells_241 {X : Cx} (h : Ok X cX7_tells RX7 48 0 0) (hr : RetI X .int 0 0) (hnL : nLX X = 12) {t : Nat} (ht : InN X t 7) {k164 : Int32 → Int32 → Int32 → Int32 → Int32 → Int32 → Int32 → Int32 → Int32 → Wd → Option (Int32 × Wd)} (hk164 : ∀ (x1 : Int32) (x2 : Int32) (x3 : Int32) (x4 : Int32) (x5 : Int32) (x7 : Int32) (x8 : Int32) (x9 : Int32) (x10 : Int32) (w : Wd), OkR X Value.int (k164 x1 x2 x3 x4 x5 x7 x8 x9 x10 w) → G X 0 0 164 [(0, .inr (.inl (some t))), (1, .inl x1), (2, .inl x2), (3, .inl x3), (4, .inl x4), (5, .inl x5), (7, .inl x7), (8, .inl x8), (9, .inl x9), (10, .inl x10)] [] w) : ∀ (x1 : Int32) (x2 : Int32) (x3 : Int32) (x4 : Int32) (x5 : Int32) (x8 : Int32) (x10 : Int32) (y0 : Int32) (y1 : Int32) (w : Wd), OkR X Value.int (fX7_tells_241 k164 t x1 x2 x3 x4 x5 x8 x10 y0 y1 w) → G X 0 0 241 [(0, .inr (.inl (some t))), (1, .inl x1), (2, .inl x2), (3, .inl x3), (4, .inl x4), (5, .inl x5), (8, .inl x8), (10, .inl x10)] [.int y0, .int y1] w := by
  have hj : ∀ j, j < 12 → j < nLX X := fun j q => by rw [hnL]; exact q
  intro x1 x2 x3 x4 x5 x8 x10 y0 y1 w hF
  unfold fX7_tells_241 at hF
  refine g_ior (pc := 241) h dX7_tells_241 ?_
  refine g_t hF (fun x7_21 hF => ?_)
  refine g_istore (pc := 242) (lv' := [(7, .inl x7_21), (0, .inr (.inl (some t))), (1, .inl x1), (2, .inl x2), (3, .inl x3), (4, .inl x4), (5, .inl x5), (8, .inl x8), (10, .inl x10)]) h dX7_tells_242 (hj 7 (by decide)) rfl ?_
  refine g_iinc (pc := 244) (lv' := [(8, .inl (x8 + (1 : Int32))), (7, .inl x7_21), (0, .inr (.inl (some t))), (1, .inl x1), (2, .inl x2), (3, .inl x3), (4, .inl x4), (5, .inl x5), (10, .inl x10)]) h 7 rfl dX7_tells_244 (dv := (1 : Int32)) (by decide) (hj 8 (by decide)) rfl ?_
  refine g_iload (pc := 247) h 8 rfl dX7_tells_247 ?_
  refine g_istore (pc := 249) (lv' := [(9, .inl x10), (8, .inl (x8 + (1 : Int32))), (7, .inl x7_21), (0, .inr (.inl (some t))), (1, .inl x1), (2, .inl x2), (3, .inl x3), (4, .inl x4), (5, .inl x5), (10, .inl x10)]) h dX7_tells_249 (hj 9 (by decide)) rfl ?_
  refine g_lv (lv' := [(0, .inr (.inl (some t))), (1, .inl x1), (2, .inl x2), (3, .inl x3), (4, .inl x4), (5, .inl x5), (7, .inl x7_21), (8, .inl (x8 + (1 : Int32))), (9, .inl x10), (10, .inl x10)]) [3, 4, 5, 6, 7, 8, 2, 1, 0, 9] rfl ?_
  exact kX7_tells_251 h hr hnL ht hk164 _ _ _ _ _ _ _ _ _ _ hF
def fX7_tells_198 (k164 : Int32 → Int32 → Int32 → Int32 → Int32 → Int32 → Int32 → Int32 → Int32 → Wd → Option (Int32 × Wd)) (t : Nat) (x1 : Int32) (x2 : Int32) (x3 : Int32) (x4 : Int32) (x5 : Int32) (x7 : Int32) (x8 : Int32) (x9 : Int32) (x10 : Int32) (y0 : Int32) (w : Wd) : Option (Int32 × Wd) :=
  bnd (fX7_lays t x4 x2 x10 w) (fun u_17 w_18 => if y0 = 0 then
    (fX7_tells_251 k164 t x1 x2 x3 x4 x5 x7 x8 x9 x10 w_18)
  else
    (bnd (fX7_firstOther t x1 x2 w_18) (fun x_19 w_20 => if x_19 = (-1 : Int32) then
      (if (10 : Int32) ≤ x10 then
        (fX7_tells_241 k164 t x1 x2 x3 x4 x5 x8 x10 (0 : Int32) x7 w_20)
      else
        (fX7_tells_241 k164 t x1 x2 x3 x4 x5 x8 x10 ((1 : Int32) <<< (x10 &&& 31)) x7 w_20))
    else
      (fX7_tells_251 k164 t x1 x2 x3 x4 x5 x7 x8 x9 x10 w_20))))
set_option maxHeartbeats 4000000 in
theorem kX7_tells_198 {X : Cx} (h : Ok X cX7_tells RX7 48 0 0) (hr : RetI X .int 0 0) (hnL : nLX X = 12) {t : Nat} (ht : InN X t 7) {k164 : Int32 → Int32 → Int32 → Int32 → Int32 → Int32 → Int32 → Int32 → Int32 → Wd → Option (Int32 × Wd)} (hk164 : ∀ (x1 : Int32) (x2 : Int32) (x3 : Int32) (x4 : Int32) (x5 : Int32) (x7 : Int32) (x8 : Int32) (x9 : Int32) (x10 : Int32) (w : Wd), OkR X Value.int (k164 x1 x2 x3 x4 x5 x7 x8 x9 x10 w) → G X 0 0 164 [(0, .inr (.inl (some t))), (1, .inl x1), (2, .inl x2), (3, .inl x3), (4, .inl x4), (5, .inl x5), (7, .inl x7), (8, .inl x8), (9, .inl x9), (10, .inl x10)] [] w) : ∀ (x1 : Int32) (x2 : Int32) (x3 : Int32) (x4 : Int32) (x5 : Int32) (x7 : Int32) (x8 : Int32) (x9 : Int32) (x10 : Int32) (y0 : Int32) (w : Wd), OkR X Value.int (fX7_tells_198 k164 t x1 x2 x3 x4 x5 x7 x8 x9 x10 y0 w) → G X 0 0 198 [(0, .inr (.inl (some t))), (1, .inl x1), (2, .inl x2), (3, .inl x3), (4, .inl x4), (5, .inl x5), (7, .inl x7), (8, .inl x8), (9, .inl x9), (10, .inl x10)] [.int y0] w := by
  have hj : ∀ j, j < 12 → j < nLX X := fun j q => by rw [hnL]; exact q
  intro x1 x2 x3 x4 x5 x7 x8 x9 x10 y0 w hF
  unfold fX7_tells_198 at hF
  refine g_istore (pc := 198) (lv' := [(11, .inl y0), (0, .inr (.inl (some t))), (1, .inl x1), (2, .inl x2), (3, .inl x3), (4, .inl x4), (5, .inl x5), (7, .inl x7), (8, .inl x8), (9, .inl x9), (10, .inl x10)]) h dX7_tells_198 (hj 11 (by decide)) rfl ?_
  refine g_aload_n (pc := 200) h 1 rfl dX7_tells_200 ?_
  refine g_iload (pc := 201) h 5 rfl dX7_tells_201 ?_
  refine g_iload_n (pc := 203) h 3 rfl dX7_tells_203 ?_
  refine g_iload (pc := 204) h 10 rfl dX7_tells_204 ?_
  refine g_cvV (pc := 206) (st := []) h mX7_lays cvX7_91 (inw ht) (by decide) ⟨by decide, by decide⟩ (Nat.le_of_ble_eq_true rfl) rfl rfl dX7_tells_206 hF (fun u_17 w_18 hF => ?_)
  refine g_iload (pc := 209) h 0 rfl dX7_tells_209 ?_
  refine g_if_eq (pc := 211) (tgt := 251) h dX7_tells_211 (by decide) hF (fun hF => ?_) (fun hF => ?_)
  · refine g_lv (lv' := [(0, .inr (.inl (some t))), (1, .inl x1), (2, .inl x2), (3, .inl x3), (4, .inl x4), (5, .inl x5), (7, .inl x7), (8, .inl x8), (9, .inl x9), (10, .inl x10)]) [1, 2, 3, 4, 5, 6, 7, 8, 9, 10] rfl ?_
    exact kX7_tells_251 h hr hnL ht hk164 _ _ _ _ _ _ _ _ _ _ hF
  · refine g_aload_n (pc := 214) h 1 rfl dX7_tells_214 ?_
    refine g_iload_n (pc := 215) h 2 rfl dX7_tells_215 ?_
    refine g_iload_n (pc := 216) h 3 rfl dX7_tells_216 ?_
    refine g_cvI (pc := 217) (st := []) h mX7_firstOther cvX7_396 (inw ht) (by decide) ⟨by decide, by decide⟩ (Nat.le_of_ble_eq_true rfl) rfl rfl dX7_tells_217 hF (fun x_19 w_20 hF => ?_)
    refine g_iconst (pc := 220) (v := (-1 : Int32)) h dX7_tells_220 (by decide) ?_
    refine g_icmp_ne (pc := 221) (tgt := 251) h dX7_tells_221 (by decide) hF (fun hF => ?_) (fun hF => ?_)
    · refine g_lv (lv' := [(0, .inr (.inl (some t))), (1, .inl x1), (2, .inl x2), (3, .inl x3), (4, .inl x4), (5, .inl x5), (7, .inl x7), (8, .inl x8), (9, .inl x9), (10, .inl x10)]) [1, 2, 3, 4, 5, 6, 7, 8, 9, 10] rfl ?_
      exact kX7_tells_251 h hr hnL ht hk164 _ _ _ _ _ _ _ _ _ _ hF
    · refine g_iload (pc := 224) h 7 rfl dX7_tells_224 ?_
      refine g_iload (pc := 226) h 10 rfl dX7_tells_226 ?_
      refine g_bipush (pc := 228) (v := (10 : Int32)) h dX7_tells_228 (by decide) ?_
      refine g_icmp_ge (pc := 230) (tgt := 240) h dX7_tells_230 (by decide) hF (fun hF => ?_) (fun hF => ?_)
      · refine g_iconst (pc := 240) (v := (0 : Int32)) h dX7_tells_240 (by decide) ?_
        refine g_lv (lv' := [(0, .inr (.inl (some t))), (1, .inl x1), (2, .inl x2), (3, .inl x3), (4, .inl x4), (5, .inl x5), (8, .inl x8), (10, .inl x10)]) [1, 2, 3, 4, 5, 6, 8, 10] rfl ?_
        exact kX7_tells_241 h hr hnL ht hk164 _ _ _ _ _ _ _ _ _ _ hF
      · refine g_iconst (pc := 233) (v := (1 : Int32)) h dX7_tells_233 (by decide) ?_
        refine g_iload (pc := 234) h 10 rfl dX7_tells_234 ?_
        refine g_ishl (pc := 236) h dX7_tells_236 ?_
        refine g_goto (pc := 237) (tgt := 241) h dX7_tells_237 (by decide) ?_
        refine g_lv (lv' := [(0, .inr (.inl (some t))), (1, .inl x1), (2, .inl x2), (3, .inl x3), (4, .inl x4), (5, .inl x5), (8, .inl x8), (10, .inl x10)]) [1, 2, 3, 4, 5, 6, 8, 10] rfl ?_
        exact kX7_tells_241 h hr hnL ht hk164 _ _ _ _ _ _ _ _ _ _ hF
def fX7_tells_193 (k164 : Int32 → Int32 → Int32 → Int32 → Int32 → Int32 → Int32 → Int32 → Int32 → Wd → Option (Int32 × Wd)) (t : Nat) (x1 : Int32) (x2 : Int32) (x3 : Int32) (x4 : Int32) (x5 : Int32) (x7 : Int32) (x8 : Int32) (x9 : Int32) (x10 : Int32) (w : Wd) : Option (Int32 × Wd) :=
  fX7_tells_198 k164 t x1 x2 x3 x4 x5 x7 x8 x9 x10 (1 : Int32) w
set_option maxHeartbeats 4000000 in
theorem kX7_tells_193 {X : Cx} (h : Ok X cX7_tells RX7 48 0 0) (hr : RetI X .int 0 0) (hnL : nLX X = 12) {t : Nat} (ht : InN X t 7) {k164 : Int32 → Int32 → Int32 → Int32 → Int32 → Int32 → Int32 → Int32 → Int32 → Wd → Option (Int32 × Wd)} (hk164 : ∀ (x1 : Int32) (x2 : Int32) (x3 : Int32) (x4 : Int32) (x5 : Int32) (x7 : Int32) (x8 : Int32) (x9 : Int32) (x10 : Int32) (w : Wd), OkR X Value.int (k164 x1 x2 x3 x4 x5 x7 x8 x9 x10 w) → G X 0 0 164 [(0, .inr (.inl (some t))), (1, .inl x1), (2, .inl x2), (3, .inl x3), (4, .inl x4), (5, .inl x5), (7, .inl x7), (8, .inl x8), (9, .inl x9), (10, .inl x10)] [] w) : ∀ (x1 : Int32) (x2 : Int32) (x3 : Int32) (x4 : Int32) (x5 : Int32) (x7 : Int32) (x8 : Int32) (x9 : Int32) (x10 : Int32) (w : Wd), OkR X Value.int (fX7_tells_193 k164 t x1 x2 x3 x4 x5 x7 x8 x9 x10 w) → G X 0 0 193 [(0, .inr (.inl (some t))), (1, .inl x1), (2, .inl x2), (3, .inl x3), (4, .inl x4), (5, .inl x5), (7, .inl x7), (8, .inl x8), (9, .inl x9), (10, .inl x10)] [] w := by
  have hj : ∀ j, j < 12 → j < nLX X := fun j q => by rw [hnL]; exact q
  intro x1 x2 x3 x4 x5 x7 x8 x9 x10 w hF
  unfold fX7_tells_193 at hF
  refine g_iconst (pc := 193) (v := (1 : Int32)) h dX7_tells_193 (by decide) ?_
  refine g_goto (pc := 194) (tgt := 198) h dX7_tells_194 (by decide) ?_
  exact kX7_tells_198 h hr hnL ht hk164 _ _ _ _ _ _ _ _ _ _ _ hF
def fX7_tells_277 (t : Nat) (x8 : Int32) (w : Wd) : Option (Int32 × Wd) :=
  some (x8, w)
set_option maxHeartbeats 4000000 in
theorem kX7_tells_277 {X : Cx} (h : Ok X cX7_tells RX7 48 0 0) (hr : RetI X .int 0 0) (hnL : nLX X = 12) {t : Nat} (ht : InN X t 7) : ∀ (x8 : Int32) (w : Wd), OkR X Value.int (fX7_tells_277 t x8 w) → G X 0 0 277 [(8, .inl x8)] [] w := by
  have hj : ∀ j, j < 12 → j < nLX X := fun j q => by rw [hnL]; exact q
  intro x8 w hF
  unfold fX7_tells_277 at hF
  refine g_iload (pc := 277) h 0 rfl dX7_tells_277 ?_
  refine g_goto (pc := 279) (tgt := 300) h dX7_tells_279 (by decide) ?_
  exact g_iret (pc := 300) h hr ⟨Nat.le_refl _, Nat.le_refl _⟩ hF dX7_tells_300
def fX7_tells_293 (t : Nat) (x9 : Int32) (w : Wd) : Option (Int32 × Wd) :=
  some (x9, w)
set_option maxHeartbeats 4000000 in
theorem kX7_tells_293 {X : Cx} (h : Ok X cX7_tells RX7 48 0 0) (hr : RetI X .int 0 0) (hnL : nLX X = 12) {t : Nat} (ht : InN X t 7) : ∀ (x9 : Int32) (w : Wd), OkR X Value.int (fX7_tells_293 t x9 w) → G X 0 0 293 [(9, .inl x9)] [] w := by
  have hj : ∀ j, j < 12 → j < nLX X := fun j q => by rw [hnL]; exact q
  intro x9 w hF
  unfold fX7_tells_293 at hF
  refine g_iload (pc := 293) h 0 rfl dX7_tells_293 ?_
  refine g_goto (pc := 295) (tgt := 300) h dX7_tells_295 (by decide) ?_
  exact g_iret (pc := 300) h hr ⟨Nat.le_refl _, Nat.le_refl _⟩ hF dX7_tells_300
def fX7_tells_164 (t : Nat) : Nat → Int32 → Int32 → Int32 → Int32 → Int32 → Int32 → Int32 → Int32 → Int32 → Wd → Option (Int32 × Wd)
  | 0 => fun _ _ _ _ _ _ _ _ _ _ => none
  | n + 1 => fun x1 x2 x3 x4 x5 x7 x8 x9 x10 w =>
    if x10 < 0 then
      (bnd (fX7_lays t x4 x2 x5 w) (fun u_14 w_15 => if x3 = (3 : Int32) then
        (fX7_tells_277 t x8 w_15)
      else
        (if x3 = (6 : Int32) then
          (fX7_tells_277 t x8 w_15)
        else
          (if x3 = (4 : Int32) then
            (fX7_tells_293 t x9 w_15)
          else
            (if x3 = (7 : Int32) then
              (fX7_tells_293 t x9 w_15)
            else
              (some (x7, w_15)))))))
    else
      (if x4 = (4 : Int32) then
        (dr (gR w t 10) 8 w (fun a_16 => grd (vin (((5 : Int32) * x2) + (1 : Int32)) (ln a_16)) (if (x10 &&& ((gI w a_16 (((5 : Int32) * x2) + (1 : Int32)).toNatClampNeg) ^^^ (-1 : Int32))) = 0 then
          (fX7_tells_193 (fX7_tells_164 t n) t x1 x2 x3 x4 x5 x7 x8 x9 x10 w)
        else
          (fX7_tells_198 (fX7_tells_164 t n) t x1 x2 x3 x4 x5 x7 x8 x9 x10 (0 : Int32) w))))
      else
        (fX7_tells_193 (fX7_tells_164 t n) t x1 x2 x3 x4 x5 x7 x8 x9 x10 w))
set_option maxHeartbeats 4000000 in
theorem kX7_tells_164 {X : Cx} (h : Ok X cX7_tells RX7 48 0 0) (hr : RetI X .int 0 0) (hnL : nLX X = 12) {t : Nat} (ht : InN X t 7) : ∀ (fu : Nat) (x1 : Int32) (x2 : Int32) (x3 : Int32) (x4 : Int32) (x5 : Int32) (x7 : Int32) (x8 : Int32) (x9 : Int32) (x10 : Int32) (w : Wd), OkR X Value.int (fX7_tells_164 t fu x1 x2 x3 x4 x5 x7 x8 x9 x10 w) → G X 0 0 164 [(0, .inr (.inl (some t))), (1, .inl x1), (2, .inl x2), (3, .inl x3), (4, .inl x4), (5, .inl x5), (7, .inl x7), (8, .inl x8), (9, .inl x9), (10, .inl x10)] [] w := by
  have hj : ∀ j, j < 12 → j < nLX X := fun j q => by rw [hnL]; exact q
  intro fu
  induction fu with
  | zero => intro x1 x2 x3 x4 x5 x7 x8 x9 x10 w hF; exact okN hF
  | succ fu ih =>
    intro x1 x2 x3 x4 x5 x7 x8 x9 x10 w hF
    rw [fX7_tells_164] at hF
    refine g_iload (pc := 164) h 9 rfl dX7_tells_164 ?_
    refine g_if_lt (pc := 166) (tgt := 257) h dX7_tells_166 (by decide) hF (fun hF => ?_) (fun hF => ?_)
    · refine g_aload_n (pc := 257) h 0 rfl dX7_tells_257 ?_
      refine g_iload (pc := 258) h 4 rfl dX7_tells_258 ?_
      refine g_iload_n (pc := 260) h 2 rfl dX7_tells_260 ?_
      refine g_iload (pc := 261) h 5 rfl dX7_tells_261 ?_
      refine g_cvV (pc := 263) (st := []) h mX7_lays cvX7_91 (inw ht) (by decide) ⟨by decide, by decide⟩ (Nat.le_of_ble_eq_true rfl) rfl rfl dX7_tells_263 hF (fun u_14 w_15 hF => ?_)
      refine g_iload_n (pc := 266) h 3 rfl dX7_tells_266 ?_
      refine g_iconst (pc := 267) (v := (3 : Int32)) h dX7_tells_267 (by decide) ?_
      refine g_icmp_eq (pc := 268) (tgt := 277) h dX7_tells_268 (by decide) hF (fun hF => ?_) (fun hF => ?_)
      · refine g_lv (lv' := [(8, .inl x8)]) [7] rfl ?_
        exact kX7_tells_277 h hr hnL ht _ _ hF
      · refine g_iload_n (pc := 271) h 3 rfl dX7_tells_271 ?_
        refine g_bipush (pc := 272) (v := (6 : Int32)) h dX7_tells_272 (by decide) ?_
        refine g_icmp_ne (pc := 274) (tgt := 282) h dX7_tells_274 (by decide) hF (fun hF => ?_) (fun hF => ?_)
        · refine g_iload_n (pc := 282) h 3 rfl dX7_tells_282 ?_
          refine g_iconst (pc := 283) (v := (4 : Int32)) h dX7_tells_283 (by decide) ?_
          refine g_icmp_eq (pc := 284) (tgt := 293) h dX7_tells_284 (by decide) hF (fun hF => ?_) (fun hF => ?_)
          · refine g_lv (lv' := [(9, .inl x9)]) [8] rfl ?_
            exact kX7_tells_293 h hr hnL ht _ _ hF
          · refine g_iload_n (pc := 287) h 3 rfl dX7_tells_287 ?_
            refine g_bipush (pc := 288) (v := (7 : Int32)) h dX7_tells_288 (by decide) ?_
            refine g_icmp_ne (pc := 290) (tgt := 298) h dX7_tells_290 (by decide) hF (fun hF => ?_) (fun hF => ?_)
            · refine g_iload (pc := 298) h 6 rfl dX7_tells_298 ?_
              exact g_iret (pc := 300) h hr ⟨Nat.le_refl _, Nat.le_refl _⟩ hF dX7_tells_300
            · refine g_lv (lv' := [(9, .inl x9)]) [8] rfl ?_
              exact kX7_tells_293 h hr hnL ht _ _ hF
        · refine g_lv (lv' := [(8, .inl x8)]) [7] rfl ?_
          exact kX7_tells_277 h hr hnL ht _ _ hF
    · refine g_iload (pc := 169) h 4 rfl dX7_tells_169 ?_
      refine g_iconst (pc := 171) (v := (4 : Int32)) h dX7_tells_171 (by decide) ?_
      refine g_icmp_ne (pc := 172) (tgt := 193) h dX7_tells_172 (by decide) hF (fun hF => ?_) (fun hF => ?_)
      · exact kX7_tells_193 h hr hnL ht (fun z0 z1 z2 z3 z4 z5 z6 z7 z8 z9 hF => ih z0 z1 z2 z3 z4 z5 z6 z7 z8 z9 hF) _ _ _ _ _ _ _ _ _ _ hF
      · refine g_iload (pc := 175) h 9 rfl dX7_tells_175 ?_
        refine g_aload_n (pc := 177) h 0 rfl dX7_tells_177 ?_
        refine g_getR (pc := 178) h fdX7_29 (inw ht) rfl dX7_tells_178 ?_
        refine g_iconst (pc := 181) (v := (5 : Int32)) h dX7_tells_181 (by decide) ?_
        refine g_iload_n (pc := 182) h 2 rfl dX7_tells_182 ?_
        refine g_imul (pc := 183) h dX7_tells_183 ?_
        refine g_iconst (pc := 184) (v := (1 : Int32)) h dX7_tells_184 (by decide) ?_
        refine g_iadd (pc := 185) h dX7_tells_185 ?_
        refine g_dr hF (fun a_16 e_a_16 h_a_16 hF => ?_)
        rw [e_a_16]
        obtain ⟨g_2, hF⟩ := grd_ok hF
        refine g_iald (pc := 186) h h_a_16 g_2 dX7_tells_186 ?_
        refine g_iconst (pc := 187) (v := (-1 : Int32)) h dX7_tells_187 (by decide) ?_
        refine g_ixor (pc := 188) h dX7_tells_188 ?_
        refine g_iand (pc := 189) h dX7_tells_189 ?_
        refine g_if_ne (pc := 190) (tgt := 197) h dX7_tells_190 (by decide) hF (fun hF => ?_) (fun hF => ?_)
        · refine g_iconst (pc := 197) (v := (0 : Int32)) h dX7_tells_197 (by decide) ?_
          exact kX7_tells_198 h hr hnL ht (fun z0 z1 z2 z3 z4 z5 z6 z7 z8 z9 hF => ih z0 z1 z2 z3 z4 z5 z6 z7 z8 z9 hF) _ _ _ _ _ _ _ _ _ _ _ hF
        · exact kX7_tells_193 h hr hnL ht (fun z0 z1 z2 z3 z4 z5 z6 z7 z8 z9 hF => ih z0 z1 z2 z3 z4 z5 z6 z7 z8 z9 hF) _ _ _ _ _ _ _ _ _ _ hF
def fX7_tells_149 (t : Nat) (x1 : Int32) (x2 : Int32) (x3 : Int32) (x4 : Int32) (x5 : Int32) (y0 : Int32) (w : Wd) : Option (Int32 × Wd) :=
  fX7_tells_164 t FU x1 x2 x3 x4 x5 (0 : Int32) (0 : Int32) (-1 : Int32) y0 w
set_option maxHeartbeats 4000000 in
theorem kX7_tells_149 {X : Cx} (h : Ok X cX7_tells RX7 48 0 0) (hr : RetI X .int 0 0) (hnL : nLX X = 12) {t : Nat} (ht : InN X t 7) : ∀ (x1 : Int32) (x2 : Int32) (x3 : Int32) (x4 : Int32) (x5 : Int32) (y0 : Int32) (w : Wd), OkR X Value.int (fX7_tells_149 t x1 x2 x3 x4 x5 y0 w) → G X 0 0 149 [(0, .inr (.inl (some t))), (1, .inl x1), (2, .inl x2), (3, .inl x3), (4, .inl x4), (5, .inl x5)] [.int y0] w := by
  have hj : ∀ j, j < 12 → j < nLX X := fun j q => by rw [hnL]; exact q
  intro x1 x2 x3 x4 x5 y0 w hF
  unfold fX7_tells_149 at hF
  refine g_istore (pc := 149) (lv' := [(6, .inl y0), (0, .inr (.inl (some t))), (1, .inl x1), (2, .inl x2), (3, .inl x3), (4, .inl x4), (5, .inl x5)]) h dX7_tells_149 (hj 6 (by decide)) rfl ?_
  refine g_iconst (pc := 151) (v := (0 : Int32)) h dX7_tells_151 (by decide) ?_
  refine g_istore (pc := 152) (lv' := [(7, .inl (0 : Int32)), (6, .inl y0), (0, .inr (.inl (some t))), (1, .inl x1), (2, .inl x2), (3, .inl x3), (4, .inl x4), (5, .inl x5)]) h dX7_tells_152 (hj 7 (by decide)) rfl ?_
  refine g_iconst (pc := 154) (v := (0 : Int32)) h dX7_tells_154 (by decide) ?_
  refine g_istore (pc := 155) (lv' := [(8, .inl (0 : Int32)), (7, .inl (0 : Int32)), (6, .inl y0), (0, .inr (.inl (some t))), (1, .inl x1), (2, .inl x2), (3, .inl x3), (4, .inl x4), (5, .inl x5)]) h dX7_tells_155 (hj 8 (by decide)) rfl ?_
  refine g_iconst (pc := 157) (v := (-1 : Int32)) h dX7_tells_157 (by decide) ?_
  refine g_istore (pc := 158) (lv' := [(9, .inl (-1 : Int32)), (8, .inl (0 : Int32)), (7, .inl (0 : Int32)), (6, .inl y0), (0, .inr (.inl (some t))), (1, .inl x1), (2, .inl x2), (3, .inl x3), (4, .inl x4), (5, .inl x5)]) h dX7_tells_158 (hj 9 (by decide)) rfl ?_
  refine g_iload (pc := 160) h 3 rfl dX7_tells_160 ?_
  refine g_istore (pc := 162) (lv' := [(10, .inl y0), (9, .inl (-1 : Int32)), (8, .inl (0 : Int32)), (7, .inl (0 : Int32)), (6, .inl y0), (0, .inr (.inl (some t))), (1, .inl x1), (2, .inl x2), (3, .inl x3), (4, .inl x4), (5, .inl x5)]) h dX7_tells_162 (hj 10 (by decide)) rfl ?_
  refine g_lv (lv' := [(0, .inr (.inl (some t))), (1, .inl x1), (2, .inl x2), (3, .inl x3), (4, .inl x4), (5, .inl x5), (7, .inl (0 : Int32)), (8, .inl (0 : Int32)), (9, .inl (-1 : Int32)), (10, .inl y0)]) [5, 6, 7, 8, 9, 10, 3, 2, 1, 0] rfl ?_
  exact kX7_tells_164 h hr hnL ht _ _ _ _ _ _ _ _ _ _ _ hF
def fX7_tells_115 (t : Nat) (x1 : Int32) (x2 : Int32) (x3 : Int32) (x4 : Int32) (y0 : Int32) (w : Wd) : Option (Int32 × Wd) :=
  if x4 = (8 : Int32) then
    (fX7_tells_149 t x1 x2 x3 x4 y0 ((gI w t 3) - (1 : Int32)) w)
  else
    (if x4 = (7 : Int32) then
      (fX7_tells_149 t x1 x2 x3 x4 y0 (5 : Int32) w)
    else
      (bnd (fX7_mostOf x4 w) (fun x_12 w_13 => fX7_tells_149 t x1 x2 x3 x4 y0 x_12 w_13)))
set_option maxHeartbeats 4000000 in
theorem kX7_tells_115 {X : Cx} (h : Ok X cX7_tells RX7 48 0 0) (hr : RetI X .int 0 0) (hnL : nLX X = 12) {t : Nat} (ht : InN X t 7) : ∀ (x1 : Int32) (x2 : Int32) (x3 : Int32) (x4 : Int32) (y0 : Int32) (w : Wd), OkR X Value.int (fX7_tells_115 t x1 x2 x3 x4 y0 w) → G X 0 0 115 [(0, .inr (.inl (some t))), (1, .inl x1), (2, .inl x2), (3, .inl x3), (4, .inl x4)] [.int y0] w := by
  have hj : ∀ j, j < 12 → j < nLX X := fun j q => by rw [hnL]; exact q
  intro x1 x2 x3 x4 y0 w hF
  unfold fX7_tells_115 at hF
  refine g_istore (pc := 115) (lv' := [(5, .inl y0), (0, .inr (.inl (some t))), (1, .inl x1), (2, .inl x2), (3, .inl x3), (4, .inl x4)]) h dX7_tells_115 (hj 5 (by decide)) rfl ?_
  refine g_iload (pc := 117) h 5 rfl dX7_tells_117 ?_
  refine g_bipush (pc := 119) (v := (8 : Int32)) h dX7_tells_119 (by decide) ?_
  refine g_icmp_ne (pc := 121) (tgt := 133) h dX7_tells_121 (by decide) hF (fun hF => ?_) (fun hF => ?_)
  · refine g_iload (pc := 133) h 5 rfl dX7_tells_133 ?_
    refine g_bipush (pc := 135) (v := (7 : Int32)) h dX7_tells_135 (by decide) ?_
    refine g_icmp_ne (pc := 137) (tgt := 144) h dX7_tells_137 (by decide) hF (fun hF => ?_) (fun hF => ?_)
    · refine g_iload (pc := 144) h 5 rfl dX7_tells_144 ?_
      refine g_csI (pc := 146) (st := []) h mX7_mostOf csX7_83 (by decide) ⟨by decide, by decide⟩ (Nat.le_of_ble_eq_true rfl) rfl rfl dX7_tells_146 hF (fun x_12 w_13 hF => ?_)
      refine g_lv (lv' := [(0, .inr (.inl (some t))), (1, .inl x1), (2, .inl x2), (3, .inl x3), (4, .inl x4), (5, .inl y0)]) [1, 2, 3, 4, 5, 0] rfl ?_
      exact kX7_tells_149 h hr hnL ht _ _ _ _ _ _ _ hF
    · refine g_iconst (pc := 140) (v := (5 : Int32)) h dX7_tells_140 (by decide) ?_
      refine g_goto (pc := 141) (tgt := 149) h dX7_tells_141 (by decide) ?_
      refine g_lv (lv' := [(0, .inr (.inl (some t))), (1, .inl x1), (2, .inl x2), (3, .inl x3), (4, .inl x4), (5, .inl y0)]) [1, 2, 3, 4, 5, 0] rfl ?_
      exact kX7_tells_149 h hr hnL ht _ _ _ _ _ _ _ hF
  · refine g_aload_n (pc := 124) h 1 rfl dX7_tells_124 ?_
    refine g_getI (pc := 125) h fdX7_61 (inw ht) (by decide) dX7_tells_125 ?_
    refine g_iconst (pc := 128) (v := (1 : Int32)) h dX7_tells_128 (by decide) ?_
    refine g_isub (pc := 129) h dX7_tells_129 ?_
    refine g_goto (pc := 130) (tgt := 149) h dX7_tells_130 (by decide) ?_
    refine g_lv (lv' := [(0, .inr (.inl (some t))), (1, .inl x1), (2, .inl x2), (3, .inl x3), (4, .inl x4), (5, .inl y0)]) [1, 2, 3, 4, 5, 0] rfl ?_
    exact kX7_tells_149 h hr hnL ht _ _ _ _ _ _ _ hF
def fX7_tells_92 (t : Nat) (x1 : Int32) (x2 : Int32) (x3 : Int32) (y0 : Int32) (w : Wd) : Option (Int32 × Wd) :=
  if y0 = (8 : Int32) then
    (fX7_tells_115 t x1 x2 x3 y0 (gI w t 4) w)
  else
    (bnd (fX7_told t x2 y0 w) (fun x_10 w_11 => fX7_tells_115 t x1 x2 x3 y0 x_10 w_11))
set_option maxHeartbeats 4000000 in
theorem kX7_tells_92 {X : Cx} (h : Ok X cX7_tells RX7 48 0 0) (hr : RetI X .int 0 0) (hnL : nLX X = 12) {t : Nat} (ht : InN X t 7) : ∀ (x1 : Int32) (x2 : Int32) (x3 : Int32) (y0 : Int32) (w : Wd), OkR X Value.int (fX7_tells_92 t x1 x2 x3 y0 w) → G X 0 0 92 [(0, .inr (.inl (some t))), (1, .inl x1), (2, .inl x2), (3, .inl x3)] [.int y0] w := by
  have hj : ∀ j, j < 12 → j < nLX X := fun j q => by rw [hnL]; exact q
  intro x1 x2 x3 y0 w hF
  unfold fX7_tells_92 at hF
  refine g_istore (pc := 92) (lv' := [(4, .inl y0), (0, .inr (.inl (some t))), (1, .inl x1), (2, .inl x2), (3, .inl x3)]) h dX7_tells_92 (hj 4 (by decide)) rfl ?_
  refine g_iload (pc := 94) h 0 rfl dX7_tells_94 ?_
  refine g_bipush (pc := 96) (v := (8 : Int32)) h dX7_tells_96 (by decide) ?_
  refine g_icmp_ne (pc := 98) (tgt := 108) h dX7_tells_98 (by decide) hF (fun hF => ?_) (fun hF => ?_)
  · refine g_aload_n (pc := 108) h 1 rfl dX7_tells_108 ?_
    refine g_iload_n (pc := 109) h 3 rfl dX7_tells_109 ?_
    refine g_iload (pc := 110) h 0 rfl dX7_tells_110 ?_
    refine g_cvI (pc := 112) (st := []) h mX7_told cvX7_87 (inw ht) (by decide) ⟨by decide, by decide⟩ (Nat.le_of_ble_eq_true rfl) rfl rfl dX7_tells_112 hF (fun x_10 w_11 hF => ?_)
    refine g_lv (lv' := [(0, .inr (.inl (some t))), (1, .inl x1), (2, .inl x2), (3, .inl x3), (4, .inl y0)]) [1, 2, 3, 4, 0] rfl ?_
    exact kX7_tells_115 h hr hnL ht _ _ _ _ _ _ hF
  · refine g_aload_n (pc := 101) h 1 rfl dX7_tells_101 ?_
    refine g_getI (pc := 102) h fdX7_98 (inw ht) (by decide) dX7_tells_102 ?_
    refine g_goto (pc := 105) (tgt := 115) h dX7_tells_105 (by decide) ?_
    refine g_lv (lv' := [(0, .inr (.inl (some t))), (1, .inl x1), (2, .inl x2), (3, .inl x3), (4, .inl y0)]) [1, 2, 3, 4, 0] rfl ?_
    exact kX7_tells_115 h hr hnL ht _ _ _ _ _ _ hF
def fX7_tells (t : Nat) (x1 : Int32) (x2 : Int32) (x3 : Int32) (w : Wd) : Option (Int32 × Wd) :=
  bnd (fX7_isSheet x1 w) (fun x_1 w_2 => if x_1 = 0 then
    (some ((-2 : Int32), w_2))
  else
    (bnd (fX7_isOne t x2 w_2) (fun x_3 w_4 => if x_3 = 0 then
      (some ((-2 : Int32), w_4))
    else
      (bnd (fX7_in (x3.toInt64) (0 : Int64) (7 : Int64) w_4) (fun x_5 w_6 => if x_5 = 0 then
        (some ((-2 : Int32), w_6))
      else
        (dr (gR w_6 t 42) 9 w_6 (fun a_7 => grd (vin x1 (ln a_7)) (if (gI w_6 a_7 x1.toNatClampNeg) = 0 then
          (some ((-11 : Int32), w_6))
        else
          (if x3 = 0 then
            (bnd (fX7_firstOther t x1 x2 w_6) (fun x_8 w_9 => some (x_8, w_9)))
          else
            (if x3 = (1 : Int32) then
              (fX7_tells_92 t x1 x2 x3 (7 : Int32) w_6)
            else
              (if x3 = (2 : Int32) then
                (fX7_tells_92 t x1 x2 x3 (2 : Int32) w_6)
              else
                (if (5 : Int32) ≤ x3 then
                  (if x3 = (5 : Int32) then
                    (fX7_tells_92 t x1 x2 x3 (8 : Int32) w_6)
                  else
                    (fX7_tells_92 t x1 x2 x3 (5 : Int32) w_6))
                else
                  (fX7_tells_92 t x1 x2 x3 (4 : Int32) w_6)))))))))))))
set_option maxHeartbeats 4000000 in
theorem mX7_tells {Γ : En} {t : Nat} {x1 : Int32} {x2 : Int32} {x3 : Int32} {w : Wd} (ht : t < wn w ∧ kd t = 7) : MtI Γ yX7_tells cX7_tells 12 (some .int) 48 0 0 [rv Γ (some t), .int x1, .int x2, .int x3] w (fX7_tells t x1 x2 x3 w) := by
  refine mtI [.inr (.inl (some t)), .inl x1, .inl x2, .inl x3] rfl (Nat.le_of_ble_eq_true rfl) (fun X hΓ hnL hn0 h _ hr hF => ?_)
  subst hΓ
  have ht : InN X t 7 := ⟨by rw [hn0]; exact ht.1, ht.2⟩
  have h : Ok X cX7_tells RX7 48 0 0 := h
  have hj : ∀ j, j < 12 → j < nLX X := fun j q => by rw [hnL]; exact q
  show G X 0 0 0 [(0, .inr (.inl (some t))), (1, .inl x1), (2, .inl x2), (3, .inl x3)] [] w
  unfold fX7_tells at hF
  refine g_iload_n (pc := 0) h 1 rfl dX7_tells_0 ?_
  refine g_csI (pc := 1) (st := []) h mX7_isSheet csX7_393 (by decide) ⟨by decide, by decide⟩ (Nat.le_of_ble_eq_true rfl) rfl rfl dX7_tells_1 hF (fun x_1 w_2 hF => ?_)
  refine g_if_eq (pc := 4) (tgt := 27) h dX7_tells_4 (by decide) hF (fun hF => ?_) (fun hF => ?_)
  · refine g_bipush (pc := 27) (v := (-2 : Int32)) h dX7_tells_27 (by decide) ?_
    exact g_iret (pc := 29) h hr ⟨Nat.le_refl _, Nat.le_refl _⟩ hF dX7_tells_29
  · refine g_aload_n (pc := 7) h 0 rfl dX7_tells_7 ?_
    refine g_iload_n (pc := 8) h 2 rfl dX7_tells_8 ?_
    refine g_cvI (pc := 9) (st := []) h mX7_isOne cvX7_73 (inw ht) (by decide) ⟨by decide, by decide⟩ (Nat.le_of_ble_eq_true rfl) rfl rfl dX7_tells_9 hF (fun x_3 w_4 hF => ?_)
    refine g_if_eq (pc := 12) (tgt := 27) h dX7_tells_12 (by decide) hF (fun hF => ?_) (fun hF => ?_)
    · refine g_bipush (pc := 27) (v := (-2 : Int32)) h dX7_tells_27 (by decide) ?_
      exact g_iret (pc := 29) h hr ⟨Nat.le_refl _, Nat.le_refl _⟩ hF dX7_tells_29
    · refine g_iload_n (pc := 15) h 3 rfl dX7_tells_15 ?_
      refine g_i2l (pc := 16) h dX7_tells_16 ?_
      refine g_lconst (pc := 17) (v := (0 : Int64)) h dX7_tells_17 (by decide) ?_
      refine g_ldc2 (pc := 18) h wcL_X7_71 dX7_tells_18 ?_
      refine g_csI (pc := 21) (st := []) h mX7_in csX7_67 (by decide) ⟨by decide, by decide⟩ (Nat.le_of_ble_eq_true rfl) rfl rfl dX7_tells_21 hF (fun x_5 w_6 hF => ?_)
      refine g_if_ne (pc := 24) (tgt := 30) h dX7_tells_24 (by decide) hF (fun hF => ?_) (fun hF => ?_)
      · refine g_aload_n (pc := 30) h 0 rfl dX7_tells_30 ?_
        refine g_getR (pc := 31) h fdX7_44 (inw ht) rfl dX7_tells_31 ?_
        refine g_iload_n (pc := 34) h 1 rfl dX7_tells_34 ?_
        refine g_dr hF (fun a_7 e_a_7 h_a_7 hF => ?_)
        rw [e_a_7]
        obtain ⟨g_1, hF⟩ := grd_ok hF
        refine g_zald (pc := 35) h h_a_7 g_1 dX7_tells_35 ?_
        refine g_if_ne (pc := 36) (tgt := 42) h dX7_tells_36 (by decide) hF (fun hF => ?_) (fun hF => ?_)
        · refine g_iload_n (pc := 42) h 3 rfl dX7_tells_42 ?_
          refine g_if_ne (pc := 43) (tgt := 53) h dX7_tells_43 (by decide) hF (fun hF => ?_) (fun hF => ?_)
          · refine g_iload_n (pc := 53) h 3 rfl dX7_tells_53 ?_
            refine g_iconst (pc := 54) (v := (1 : Int32)) h dX7_tells_54 (by decide) ?_
            refine g_icmp_ne (pc := 55) (tgt := 63) h dX7_tells_55 (by decide) hF (fun hF => ?_) (fun hF => ?_)
            · refine g_iload_n (pc := 63) h 3 rfl dX7_tells_63 ?_
              refine g_iconst (pc := 64) (v := (2 : Int32)) h dX7_tells_64 (by decide) ?_
              refine g_icmp_ne (pc := 65) (tgt := 72) h dX7_tells_65 (by decide) hF (fun hF => ?_) (fun hF => ?_)
              · refine g_iload_n (pc := 72) h 3 rfl dX7_tells_72 ?_
                refine g_iconst (pc := 73) (v := (5 : Int32)) h dX7_tells_73 (by decide) ?_
                refine g_icmp_ge (pc := 74) (tgt := 81) h dX7_tells_74 (by decide) hF (fun hF => ?_) (fun hF => ?_)
                · refine g_iload_n (pc := 81) h 3 rfl dX7_tells_81 ?_
                  refine g_iconst (pc := 82) (v := (5 : Int32)) h dX7_tells_82 (by decide) ?_
                  refine g_icmp_ne (pc := 83) (tgt := 91) h dX7_tells_83 (by decide) hF (fun hF => ?_) (fun hF => ?_)
                  · refine g_iconst (pc := 91) (v := (5 : Int32)) h dX7_tells_91 (by decide) ?_
                    exact kX7_tells_92 h hr hnL ht _ _ _ _ _ hF
                  · refine g_bipush (pc := 86) (v := (8 : Int32)) h dX7_tells_86 (by decide) ?_
                    refine g_goto (pc := 88) (tgt := 92) h dX7_tells_88 (by decide) ?_
                    exact kX7_tells_92 h hr hnL ht _ _ _ _ _ hF
                · refine g_iconst (pc := 77) (v := (4 : Int32)) h dX7_tells_77 (by decide) ?_
                  refine g_goto (pc := 78) (tgt := 92) h dX7_tells_78 (by decide) ?_
                  exact kX7_tells_92 h hr hnL ht _ _ _ _ _ hF
              · refine g_iconst (pc := 68) (v := (2 : Int32)) h dX7_tells_68 (by decide) ?_
                refine g_goto (pc := 69) (tgt := 92) h dX7_tells_69 (by decide) ?_
                exact kX7_tells_92 h hr hnL ht _ _ _ _ _ hF
            · refine g_bipush (pc := 58) (v := (7 : Int32)) h dX7_tells_58 (by decide) ?_
              refine g_goto (pc := 60) (tgt := 92) h dX7_tells_60 (by decide) ?_
              exact kX7_tells_92 h hr hnL ht _ _ _ _ _ hF
          · refine g_aload_n (pc := 46) h 0 rfl dX7_tells_46 ?_
            refine g_iload_n (pc := 47) h 1 rfl dX7_tells_47 ?_
            refine g_iload_n (pc := 48) h 2 rfl dX7_tells_48 ?_
            refine g_cvI (pc := 49) (st := []) h mX7_firstOther cvX7_396 (inw ht) (by decide) ⟨by decide, by decide⟩ (Nat.le_of_ble_eq_true rfl) rfl rfl dX7_tells_49 hF (fun x_8 w_9 hF => ?_)
            exact g_iret (pc := 52) h hr ⟨Nat.le_refl _, Nat.le_refl _⟩ hF dX7_tells_52
        · refine g_bipush (pc := 39) (v := (-11 : Int32)) h dX7_tells_39 (by decide) ?_
          exact g_iret (pc := 41) h hr ⟨Nat.le_refl _, Nat.le_refl _⟩ hF dX7_tells_41
      · refine g_bipush (pc := 27) (v := (-2 : Int32)) h dX7_tells_27 (by decide) ?_
        exact g_iret (pc := 29) h hr ⟨Nat.le_refl _, Nat.le_refl _⟩ hF dX7_tells_29
def fX7_sheet_77 (t : Nat) : Nat → Int32 → Int32 → Int32 → Int32 → Wd → Option (Int32 × Wd)
  | 0 => fun _ _ _ _ _ => none
  | n + 1 => fun x1 x2 x3 x4 w =>
    if x3 ≤ x4 then
      (some ((1 : Int32), w))
    else
      (if x2 < 0 then
        (some ((1 : Int32), w))
      else
        (dr (gR w t 45) 8 w (fun a_11 => grd (vin (((40 : Int32) * x1) + x4) (ln a_11)) (lw (sI w a_11 (((40 : Int32) * x1) + x4).toNatClampNeg (0 : Int32)) (fun w_12 => fX7_sheet_77 t n x1 x2 x3 (x4 + (1 : Int32)) w_12)))))
set_option maxHeartbeats 4000000 in
theorem kX7_sheet_77 {X : Cx} (h : Ok X cX7_sheet RX7 4 0 0) (hr : RetI X .int 0 0) (hnL : nLX X = 5) {t : Nat} (ht : InN X t 7) : ∀ (fu : Nat) (x1 : Int32) (x2 : Int32) (x3 : Int32) (x4 : Int32) (w : Wd), OkR X Value.int (fX7_sheet_77 t fu x1 x2 x3 x4 w) → G X 0 0 77 [(0, .inr (.inl (some t))), (1, .inl x1), (2, .inl x2), (3, .inl x3), (4, .inl x4)] [] w := by
  have hj : ∀ j, j < 5 → j < nLX X := fun j q => by rw [hnL]; exact q
  intro fu
  induction fu with
  | zero => intro x1 x2 x3 x4 w hF; exact okN hF
  | succ fu ih =>
    intro x1 x2 x3 x4 w hF
    rw [fX7_sheet_77] at hF
    refine g_iload (pc := 77) h 4 rfl dX7_sheet_77 ?_
    refine g_iload_n (pc := 79) h 3 rfl dX7_sheet_79 ?_
    refine g_icmp_ge (pc := 80) (tgt := 106) h dX7_sheet_80 (by decide) hF (fun hF => ?_) (fun hF => ?_)
    · refine g_iconst (pc := 106) (v := (1 : Int32)) h dX7_sheet_106 (by decide) ?_
      exact g_iret (pc := 107) h hr ⟨Nat.le_refl _, Nat.le_refl _⟩ hF dX7_sheet_107
    · refine g_iload_n (pc := 83) h 2 rfl dX7_sheet_83 ?_
      refine g_if_lt (pc := 84) (tgt := 106) h dX7_sheet_84 (by decide) hF (fun hF => ?_) (fun hF => ?_)
      · refine g_iconst (pc := 106) (v := (1 : Int32)) h dX7_sheet_106 (by decide) ?_
        exact g_iret (pc := 107) h hr ⟨Nat.le_refl _, Nat.le_refl _⟩ hF dX7_sheet_107
      · refine g_aload_n (pc := 87) h 0 rfl dX7_sheet_87 ?_
        refine g_getR (pc := 88) h fdX7_54 (inw ht) rfl dX7_sheet_88 ?_
        refine g_bipush (pc := 91) (v := (40 : Int32)) h dX7_sheet_91 (by decide) ?_
        refine g_iload_n (pc := 93) h 1 rfl dX7_sheet_93 ?_
        refine g_imul (pc := 94) h dX7_sheet_94 ?_
        refine g_iload (pc := 95) h 4 rfl dX7_sheet_95 ?_
        refine g_iadd (pc := 97) h dX7_sheet_97 ?_
        refine g_iconst (pc := 98) (v := (0 : Int32)) h dX7_sheet_98 (by decide) ?_
        refine g_dr hF (fun a_11 e_a_11 h_a_11 hF => ?_)
        rw [e_a_11]
        obtain ⟨g_5, hF⟩ := grd_ok hF
        refine g_iast (pc := 99) h h_a_11 g_5 dX7_sheet_99 ?_
        refine g_w hF (fun w_12 hF => ?_)
        refine g_iinc (pc := 100) (lv' := [(4, .inl (x4 + (1 : Int32))), (0, .inr (.inl (some t))), (1, .inl x1), (2, .inl x2), (3, .inl x3)]) h 4 rfl dX7_sheet_100 (dv := (1 : Int32)) (by decide) (hj 4 (by decide)) rfl ?_
        refine g_goto (pc := 103) (tgt := 77) h dX7_sheet_103 (by decide) ?_
        refine g_lv (lv' := [(0, .inr (.inl (some t))), (1, .inl x1), (2, .inl x2), (3, .inl x3), (4, .inl (x4 + (1 : Int32)))]) [1, 2, 3, 4, 0] rfl ?_
        exact ih _ _ _ _ _ hF
def fX7_sheet_59 (t : Nat) (x1 : Int32) (x2 : Int32) (x3 : Int32) (y0 : Int32) (y1 : Int32) (y2 : Option Nat) (w : Wd) : Option (Int32 × Wd) :=
  dr y2 9 w (fun a_5 => grd (vin y1 (ln a_5)) (grd (y0 = 0 ∨ y0 = 1) (lw (sI w a_5 y1.toNatClampNeg y0) (fun w_6 => dr (gR w_6 t 43) 8 w_6 (fun a_7 => grd (vin x1 (ln a_7)) (lw (sI w_6 a_7 x1.toNatClampNeg x2) (fun w_8 => dr (gR w_8 t 44) 8 w_8 (fun a_9 => grd (vin x1 (ln a_9)) (lw (sI w_8 a_9 x1.toNatClampNeg x3) (fun w_10 => fX7_sheet_77 t FU x1 x2 x3 (0 : Int32) w_10))))))))))
set_option maxHeartbeats 4000000 in
theorem kX7_sheet_59 {X : Cx} (h : Ok X cX7_sheet RX7 4 0 0) (hr : RetI X .int 0 0) (hnL : nLX X = 5) {t : Nat} (ht : InN X t 7) : ∀ (x1 : Int32) (x2 : Int32) (x3 : Int32) (y0 : Int32) (y1 : Int32) (y2 : Option Nat) (w : Wd), OkR X Value.int (fX7_sheet_59 t x1 x2 x3 y0 y1 y2 w) → G X 0 0 59 [(0, .inr (.inl (some t))), (1, .inl x1), (2, .inl x2), (3, .inl x3)] [.int y0, .int y1, rv X.1 y2] w := by
  have hj : ∀ j, j < 5 → j < nLX X := fun j q => by rw [hnL]; exact q
  intro x1 x2 x3 y0 y1 y2 w hF
  unfold fX7_sheet_59 at hF
  refine g_dr hF (fun a_5 e_a_5 h_a_5 hF => ?_)
  rw [e_a_5]
  obtain ⟨g_1, hF⟩ := grd_ok hF
  obtain ⟨g_2, hF⟩ := grd_ok hF
  refine g_zast (pc := 59) h h_a_5 g_1 (bz_nar g_2) dX7_sheet_59 ?_
  refine g_w hF (fun w_6 hF => ?_)
  refine g_aload_n (pc := 60) h 0 rfl dX7_sheet_60 ?_
  refine g_getR (pc := 61) h fdX7_48 (inw ht) rfl dX7_sheet_61 ?_
  refine g_iload_n (pc := 64) h 1 rfl dX7_sheet_64 ?_
  refine g_iload_n (pc := 65) h 2 rfl dX7_sheet_65 ?_
  refine g_dr hF (fun a_7 e_a_7 h_a_7 hF => ?_)
  rw [e_a_7]
  obtain ⟨g_3, hF⟩ := grd_ok hF
  refine g_iast (pc := 66) h h_a_7 g_3 dX7_sheet_66 ?_
  refine g_w hF (fun w_8 hF => ?_)
  refine g_aload_n (pc := 67) h 0 rfl dX7_sheet_67 ?_
  refine g_getR (pc := 68) h fdX7_51 (inw ht) rfl dX7_sheet_68 ?_
  refine g_iload_n (pc := 71) h 1 rfl dX7_sheet_71 ?_
  refine g_iload_n (pc := 72) h 3 rfl dX7_sheet_72 ?_
  refine g_dr hF (fun a_9 e_a_9 h_a_9 hF => ?_)
  rw [e_a_9]
  obtain ⟨g_4, hF⟩ := grd_ok hF
  refine g_iast (pc := 73) h h_a_9 g_4 dX7_sheet_73 ?_
  refine g_w hF (fun w_10 hF => ?_)
  refine g_iconst (pc := 74) (v := (0 : Int32)) h dX7_sheet_74 (by decide) ?_
  refine g_istore (pc := 75) (lv' := [(4, .inl (0 : Int32)), (0, .inr (.inl (some t))), (1, .inl x1), (2, .inl x2), (3, .inl x3)]) h dX7_sheet_75 (hj 4 (by decide)) rfl ?_
  refine g_lv (lv' := [(0, .inr (.inl (some t))), (1, .inl x1), (2, .inl x2), (3, .inl x3), (4, .inl (0 : Int32))]) [1, 2, 3, 4, 0] rfl ?_
  exact kX7_sheet_77 h hr hnL ht _ _ _ _ _ _ hF
def fX7_sheet_45 (t : Nat) (x1 : Int32) (x2 : Int32) (x3 : Int32) (w : Wd) : Option (Int32 × Wd) :=
  if x2 < 0 then
    (fX7_sheet_59 t x1 x2 x3 (0 : Int32) x1 (gR w t 42) w)
  else
    (fX7_sheet_59 t x1 x2 x3 (1 : Int32) x1 (gR w t 42) w)
set_option maxHeartbeats 4000000 in
theorem kX7_sheet_45 {X : Cx} (h : Ok X cX7_sheet RX7 4 0 0) (hr : RetI X .int 0 0) (hnL : nLX X = 5) {t : Nat} (ht : InN X t 7) : ∀ (x1 : Int32) (x2 : Int32) (x3 : Int32) (w : Wd), OkR X Value.int (fX7_sheet_45 t x1 x2 x3 w) → G X 0 0 45 [(0, .inr (.inl (some t))), (1, .inl x1), (2, .inl x2), (3, .inl x3)] [] w := by
  have hj : ∀ j, j < 5 → j < nLX X := fun j q => by rw [hnL]; exact q
  intro x1 x2 x3 w hF
  unfold fX7_sheet_45 at hF
  refine g_aload_n (pc := 45) h 0 rfl dX7_sheet_45 ?_
  refine g_getR (pc := 46) h fdX7_44 (inw ht) rfl dX7_sheet_46 ?_
  refine g_iload_n (pc := 49) h 1 rfl dX7_sheet_49 ?_
  refine g_iload_n (pc := 50) h 2 rfl dX7_sheet_50 ?_
  refine g_if_lt (pc := 51) (tgt := 58) h dX7_sheet_51 (by decide) hF (fun hF => ?_) (fun hF => ?_)
  · refine g_iconst (pc := 58) (v := (0 : Int32)) h dX7_sheet_58 (by decide) ?_
    exact kX7_sheet_59 h hr hnL ht _ _ _ _ _ _ _ hF
  · refine g_iconst (pc := 54) (v := (1 : Int32)) h dX7_sheet_54 (by decide) ?_
    refine g_goto (pc := 55) (tgt := 59) h dX7_sheet_55 (by decide) ?_
    exact kX7_sheet_59 h hr hnL ht _ _ _ _ _ _ _ hF
def fX7_sheet_34 (t : Nat) (x1 : Int32) (x2 : Int32) (x3 : Int32) (w : Wd) : Option (Int32 × Wd) :=
  if x2 < 0 then
    (fX7_sheet_45 t x1 x2 x3 w)
  else
    (if 0 ≤ x3 then
      (fX7_sheet_45 t x1 x2 x3 w)
    else
      (some ((-14 : Int32), w)))
set_option maxHeartbeats 4000000 in
theorem kX7_sheet_34 {X : Cx} (h : Ok X cX7_sheet RX7 4 0 0) (hr : RetI X .int 0 0) (hnL : nLX X = 5) {t : Nat} (ht : InN X t 7) : ∀ (x1 : Int32) (x2 : Int32) (x3 : Int32) (w : Wd), OkR X Value.int (fX7_sheet_34 t x1 x2 x3 w) → G X 0 0 34 [(0, .inr (.inl (some t))), (1, .inl x1), (2, .inl x2), (3, .inl x3)] [] w := by
  have hj : ∀ j, j < 5 → j < nLX X := fun j q => by rw [hnL]; exact q
  intro x1 x2 x3 w hF
  unfold fX7_sheet_34 at hF
  refine g_iload_n (pc := 34) h 2 rfl dX7_sheet_34 ?_
  refine g_if_lt (pc := 35) (tgt := 45) h dX7_sheet_35 (by decide) hF (fun hF => ?_) (fun hF => ?_)
  · exact kX7_sheet_45 h hr hnL ht _ _ _ _ hF
  · refine g_iload_n (pc := 38) h 3 rfl dX7_sheet_38 ?_
    refine g_if_ge (pc := 39) (tgt := 45) h dX7_sheet_39 (by decide) hF (fun hF => ?_) (fun hF => ?_)
    · exact kX7_sheet_45 h hr hnL ht _ _ _ _ hF
    · refine g_bipush (pc := 42) (v := (-14 : Int32)) h dX7_sheet_42 (by decide) ?_
      exact g_iret (pc := 44) h hr ⟨Nat.le_refl _, Nat.le_refl _⟩ hF dX7_sheet_44
def fX7_sheet (t : Nat) (x1 : Int32) (x2 : Int32) (x3 : Int32) (w : Wd) : Option (Int32 × Wd) :=
  bnd (fX7_isSheet x1 w) (fun x_1 w_2 => if x_1 = 0 then
    (some ((-2 : Int32), w_2))
  else
    (bnd (fX7_in (x2.toInt64) (-1 : Int64) (2 : Int64) w_2) (fun x_3 w_4 => if x_3 = 0 then
      (some ((-2 : Int32), w_4))
    else
      (if x2 < 0 then
        (fX7_sheet_34 t x1 x2 x3 w_4)
      else
        (if x3 ≤ (40 : Int32) then
          (fX7_sheet_34 t x1 x2 x3 w_4)
        else
          (some ((-2 : Int32), w_4)))))))
set_option maxHeartbeats 4000000 in
theorem mX7_sheet {Γ : En} {t : Nat} {x1 : Int32} {x2 : Int32} {x3 : Int32} {w : Wd} (ht : t < wn w ∧ kd t = 7) : MtI Γ yX7_sheet cX7_sheet 5 (some .int) 4 0 0 [rv Γ (some t), .int x1, .int x2, .int x3] w (fX7_sheet t x1 x2 x3 w) := by
  refine mtI [.inr (.inl (some t)), .inl x1, .inl x2, .inl x3] rfl (Nat.le_of_ble_eq_true rfl) (fun X hΓ hnL hn0 h _ hr hF => ?_)
  subst hΓ
  have ht : InN X t 7 := ⟨by rw [hn0]; exact ht.1, ht.2⟩
  have h : Ok X cX7_sheet RX7 4 0 0 := h
  have hj : ∀ j, j < 5 → j < nLX X := fun j q => by rw [hnL]; exact q
  show G X 0 0 0 [(0, .inr (.inl (some t))), (1, .inl x1), (2, .inl x2), (3, .inl x3)] [] w
  unfold fX7_sheet at hF
  refine g_iload_n (pc := 0) h 1 rfl dX7_sheet_0 ?_
  refine g_csI (pc := 1) (st := []) h mX7_isSheet csX7_393 (by decide) ⟨by decide, by decide⟩ (Nat.le_of_ble_eq_true rfl) rfl rfl dX7_sheet_1 hF (fun x_1 w_2 hF => ?_)
  refine g_if_eq (pc := 4) (tgt := 31) h dX7_sheet_4 (by decide) hF (fun hF => ?_) (fun hF => ?_)
  · refine g_bipush (pc := 31) (v := (-2 : Int32)) h dX7_sheet_31 (by decide) ?_
    exact g_iret (pc := 33) h hr ⟨Nat.le_refl _, Nat.le_refl _⟩ hF dX7_sheet_33
  · refine g_iload_n (pc := 7) h 2 rfl dX7_sheet_7 ?_
    refine g_i2l (pc := 8) h dX7_sheet_8 ?_
    refine g_ldc2 (pc := 9) h wcL_X7_419 dX7_sheet_9 ?_
    refine g_ldc2 (pc := 12) h wcL_X7_421 dX7_sheet_12 ?_
    refine g_csI (pc := 15) (st := []) h mX7_in csX7_67 (by decide) ⟨by decide, by decide⟩ (Nat.le_of_ble_eq_true rfl) rfl rfl dX7_sheet_15 hF (fun x_3 w_4 hF => ?_)
    refine g_if_eq (pc := 18) (tgt := 31) h dX7_sheet_18 (by decide) hF (fun hF => ?_) (fun hF => ?_)
    · refine g_bipush (pc := 31) (v := (-2 : Int32)) h dX7_sheet_31 (by decide) ?_
      exact g_iret (pc := 33) h hr ⟨Nat.le_refl _, Nat.le_refl _⟩ hF dX7_sheet_33
    · refine g_iload_n (pc := 21) h 2 rfl dX7_sheet_21 ?_
      refine g_if_lt (pc := 22) (tgt := 34) h dX7_sheet_22 (by decide) hF (fun hF => ?_) (fun hF => ?_)
      · exact kX7_sheet_34 h hr hnL ht _ _ _ _ hF
      · refine g_iload_n (pc := 25) h 3 rfl dX7_sheet_25 ?_
        refine g_bipush (pc := 26) (v := (40 : Int32)) h dX7_sheet_26 (by decide) ?_
        refine g_icmp_le (pc := 28) (tgt := 34) h dX7_sheet_28 (by decide) hF (fun hF => ?_) (fun hF => ?_)
        · exact kX7_sheet_34 h hr hnL ht _ _ _ _ hF
        · refine g_bipush (pc := 31) (v := (-2 : Int32)) h dX7_sheet_31 (by decide) ?_
          exact g_iret (pc := 33) h hr ⟨Nat.le_refl _, Nat.le_refl _⟩ hF dX7_sheet_33
def fX7_film_46 (t : Nat) : Nat → Int32 → Int32 → Int32 → Int32 → Wd → Option (Int32 × Wd)
  | 0 => fun _ _ _ _ _ => none
  | n + 1 => fun x1 x2 x3 x4 w =>
    if x3 ≤ x4 then
      (some (x3, w))
    else
      (bnd (fX7_goes t x2 w) (fun x_11 w_12 => dr (gR w_12 t 45) 8 w_12 (fun a_13 => grd (vin (((40 : Int32) * x1) + x4) (ln a_13)) (lw (sI w_12 a_13 (((40 : Int32) * x1) + x4).toNatClampNeg (gI w_12 t 29)) (fun w_14 => fX7_film_46 t n x1 x2 x3 (x4 + (1 : Int32)) w_14)))))
set_option maxHeartbeats 4000000 in
theorem kX7_film_46 {X : Cx} (h : Ok X cX7_film RX7 47 0 0) (hr : RetI X .int 0 0) (hnL : nLX X = 5) {t : Nat} (ht : InN X t 7) : ∀ (fu : Nat) (x1 : Int32) (x2 : Int32) (x3 : Int32) (x4 : Int32) (w : Wd), OkR X Value.int (fX7_film_46 t fu x1 x2 x3 x4 w) → G X 0 0 46 [(0, .inr (.inl (some t))), (1, .inl x1), (2, .inl x2), (3, .inl x3), (4, .inl x4)] [] w := by
  have hj : ∀ j, j < 5 → j < nLX X := fun j q => by rw [hnL]; exact q
  intro fu
  induction fu with
  | zero => intro x1 x2 x3 x4 w hF; exact okN hF
  | succ fu ih =>
    intro x1 x2 x3 x4 w hF
    rw [fX7_film_46] at hF
    refine g_iload (pc := 46) h 4 rfl dX7_film_46 ?_
    refine g_iload_n (pc := 48) h 3 rfl dX7_film_48 ?_
    refine g_icmp_ge (pc := 49) (tgt := 80) h dX7_film_49 (by decide) hF (fun hF => ?_) (fun hF => ?_)
    · refine g_iload_n (pc := 80) h 3 rfl dX7_film_80 ?_
      exact g_iret (pc := 81) h hr ⟨Nat.le_refl _, Nat.le_refl _⟩ hF dX7_film_81
    · refine g_aload_n (pc := 52) h 0 rfl dX7_film_52 ?_
      refine g_iload_n (pc := 53) h 2 rfl dX7_film_53 ?_
      refine g_cvI (pc := 54) (st := []) h mX7_goes cvX7_359 (inw ht) (by decide) ⟨by decide, by decide⟩ (Nat.le_of_ble_eq_true rfl) rfl rfl dX7_film_54 hF (fun x_11 w_12 hF => ?_)
      refine g_pop (pc := 57) h dX7_film_57 rfl ?_
      refine g_aload_n (pc := 58) h 0 rfl dX7_film_58 ?_
      refine g_getR (pc := 59) h fdX7_54 (inw ht) rfl dX7_film_59 ?_
      refine g_bipush (pc := 62) (v := (40 : Int32)) h dX7_film_62 (by decide) ?_
      refine g_iload_n (pc := 64) h 1 rfl dX7_film_64 ?_
      refine g_imul (pc := 65) h dX7_film_65 ?_
      refine g_iload (pc := 66) h 4 rfl dX7_film_66 ?_
      refine g_iadd (pc := 68) h dX7_film_68 ?_
      refine g_aload_n (pc := 69) h 0 rfl dX7_film_69 ?_
      refine g_getI (pc := 70) h fdX7_340 (inw ht) (by decide) dX7_film_70 ?_
      refine g_dr hF (fun a_13 e_a_13 h_a_13 hF => ?_)
      rw [e_a_13]
      obtain ⟨g_1, hF⟩ := grd_ok hF
      refine g_iast (pc := 73) h h_a_13 g_1 dX7_film_73 ?_
      refine g_w hF (fun w_14 hF => ?_)
      refine g_iinc (pc := 74) (lv' := [(4, .inl (x4 + (1 : Int32))), (0, .inr (.inl (some t))), (1, .inl x1), (2, .inl x2), (3, .inl x3)]) h 4 rfl dX7_film_74 (dv := (1 : Int32)) (by decide) (hj 4 (by decide)) rfl ?_
      refine g_goto (pc := 77) (tgt := 46) h dX7_film_77 (by decide) ?_
      refine g_lv (lv' := [(0, .inr (.inl (some t))), (1, .inl x1), (2, .inl x2), (3, .inl x3), (4, .inl (x4 + (1 : Int32)))]) [1, 2, 3, 4, 0] rfl ?_
      exact ih _ _ _ _ _ hF
def fX7_film (t : Nat) (x1 : Int32) (x2 : Int32) (x3 : Int32) (w : Wd) : Option (Int32 × Wd) :=
  bnd (fX7_isSheet x1 w) (fun x_1 w_2 => if x_1 = 0 then
    (some ((-2 : Int32), w_2))
  else
    (bnd (fX7_isOne t x2 w_2) (fun x_3 w_4 => if x_3 = 0 then
      (some ((-2 : Int32), w_4))
    else
      (bnd (fX7_in (x3.toInt64) (0 : Int64) (40 : Int64) w_4) (fun x_5 w_6 => if x_5 = 0 then
        (some ((-2 : Int32), w_6))
      else
        (bnd (fX7_sheet t x1 (1 : Int32) x3 w_6) (fun x_7 w_8 => bnd (fX7_begins t x2 w_8) (fun u_9 w_10 => fX7_film_46 t FU x1 x2 x3 (0 : Int32) w_10))))))))
set_option maxHeartbeats 4000000 in
theorem mX7_film {Γ : En} {t : Nat} {x1 : Int32} {x2 : Int32} {x3 : Int32} {w : Wd} (ht : t < wn w ∧ kd t = 7) : MtI Γ yX7_film cX7_film 5 (some .int) 47 0 0 [rv Γ (some t), .int x1, .int x2, .int x3] w (fX7_film t x1 x2 x3 w) := by
  refine mtI [.inr (.inl (some t)), .inl x1, .inl x2, .inl x3] rfl (Nat.le_of_ble_eq_true rfl) (fun X hΓ hnL hn0 h _ hr hF => ?_)
  subst hΓ
  have ht : InN X t 7 := ⟨by rw [hn0]; exact ht.1, ht.2⟩
  have h : Ok X cX7_film RX7 47 0 0 := h
  have hj : ∀ j, j < 5 → j < nLX X := fun j q => by rw [hnL]; exact q
  show G X 0 0 0 [(0, .inr (.inl (some t))), (1, .inl x1), (2, .inl x2), (3, .inl x3)] [] w
  unfold fX7_film at hF
  refine g_iload_n (pc := 0) h 1 rfl dX7_film_0 ?_
  refine g_csI (pc := 1) (st := []) h mX7_isSheet csX7_393 (by decide) ⟨by decide, by decide⟩ (Nat.le_of_ble_eq_true rfl) rfl rfl dX7_film_1 hF (fun x_1 w_2 hF => ?_)
  refine g_if_eq (pc := 4) (tgt := 27) h dX7_film_4 (by decide) hF (fun hF => ?_) (fun hF => ?_)
  · refine g_bipush (pc := 27) (v := (-2 : Int32)) h dX7_film_27 (by decide) ?_
    exact g_iret (pc := 29) h hr ⟨Nat.le_refl _, Nat.le_refl _⟩ hF dX7_film_29
  · refine g_aload_n (pc := 7) h 0 rfl dX7_film_7 ?_
    refine g_iload_n (pc := 8) h 2 rfl dX7_film_8 ?_
    refine g_cvI (pc := 9) (st := []) h mX7_isOne cvX7_73 (inw ht) (by decide) ⟨by decide, by decide⟩ (Nat.le_of_ble_eq_true rfl) rfl rfl dX7_film_9 hF (fun x_3 w_4 hF => ?_)
    refine g_if_eq (pc := 12) (tgt := 27) h dX7_film_12 (by decide) hF (fun hF => ?_) (fun hF => ?_)
    · refine g_bipush (pc := 27) (v := (-2 : Int32)) h dX7_film_27 (by decide) ?_
      exact g_iret (pc := 29) h hr ⟨Nat.le_refl _, Nat.le_refl _⟩ hF dX7_film_29
    · refine g_iload_n (pc := 15) h 3 rfl dX7_film_15 ?_
      refine g_i2l (pc := 16) h dX7_film_16 ?_
      refine g_lconst (pc := 17) (v := (0 : Int64)) h dX7_film_17 (by decide) ?_
      refine g_ldc2 (pc := 18) h wcL_X7_365 dX7_film_18 ?_
      refine g_csI (pc := 21) (st := []) h mX7_in csX7_67 (by decide) ⟨by decide, by decide⟩ (Nat.le_of_ble_eq_true rfl) rfl rfl dX7_film_21 hF (fun x_5 w_6 hF => ?_)
      refine g_if_ne (pc := 24) (tgt := 30) h dX7_film_24 (by decide) hF (fun hF => ?_) (fun hF => ?_)
      · refine g_aload_n (pc := 30) h 0 rfl dX7_film_30 ?_
        refine g_iload_n (pc := 31) h 1 rfl dX7_film_31 ?_
        refine g_iconst (pc := 32) (v := (1 : Int32)) h dX7_film_32 (by decide) ?_
        refine g_iload_n (pc := 33) h 3 rfl dX7_film_33 ?_
        refine g_cvI (pc := 34) (st := []) h mX7_sheet cvX7_399 (inw ht) (by decide) ⟨by decide, by decide⟩ (Nat.le_of_ble_eq_true rfl) rfl rfl dX7_film_34 hF (fun x_7 w_8 hF => ?_)
        refine g_pop (pc := 37) h dX7_film_37 rfl ?_
        refine g_aload_n (pc := 38) h 0 rfl dX7_film_38 ?_
        refine g_iload_n (pc := 39) h 2 rfl dX7_film_39 ?_
        refine g_cvV (pc := 40) (st := []) h mX7_begins cvX7_109 (inw ht) (by decide) ⟨by decide, by decide⟩ (Nat.le_of_ble_eq_true rfl) rfl rfl dX7_film_40 hF (fun u_9 w_10 hF => ?_)
        refine g_iconst (pc := 43) (v := (0 : Int32)) h dX7_film_43 (by decide) ?_
        refine g_istore (pc := 44) (lv' := [(4, .inl (0 : Int32)), (0, .inr (.inl (some t))), (1, .inl x1), (2, .inl x2), (3, .inl x3)]) h dX7_film_44 (hj 4 (by decide)) rfl ?_
        refine g_lv (lv' := [(0, .inr (.inl (some t))), (1, .inl x1), (2, .inl x2), (3, .inl x3), (4, .inl (0 : Int32))]) [1, 2, 3, 4, 0] rfl ?_
        exact kX7_film_46 h hr hnL ht _ _ _ _ _ _ hF
      · refine g_bipush (pc := 27) (v := (-2 : Int32)) h dX7_film_27 (by decide) ?_
        exact g_iret (pc := 29) h hr ⟨Nat.le_refl _, Nat.le_refl _⟩ hF dX7_film_29
def fX7_draws_4 (t : Nat) : Nat → Int32 → Int32 → Wd → Option (Unit × Wd)
  | 0 => fun _ _ _ => none
  | n + 1 => fun x2 x3 w =>
    if (8 : Int32) ≤ x3 then
      (some ((), w))
    else
      (dr (gR w t 8) 8 w (fun a_1 => grd (vin x3 (ln a_1)) (dr (gR w t 36) 8 w (fun a_2 => grd (vin x3 (ln a_2)) (lw (sI w a_2 x3.toNatClampNeg (gI w a_1 x3.toNatClampNeg)) (fun w_3 => lt ((x2 * (1103515245 : Int32)) + (12345 : Int32)) (fun x2_4 => dr (gR w_3 t 8) 8 w_3 (fun a_5 => grd (vin x3 (ln a_5)) (lw (sI w_3 a_5 x3.toNatClampNeg (((x2_4.toUInt32 >>> ((9 : Int32).toUInt32 &&& Int32.toUInt32 31)).toInt32) - ((x2_4.toUInt32 >>> ((9 : Int32).toUInt32 &&& Int32.toUInt32 31)).toInt32) / (30 : Int32) * (30 : Int32))) (fun w_6 => fX7_draws_4 t n x2_4 (x3 + (1 : Int32)) w_6))))))))))
set_option maxHeartbeats 4000000 in
theorem kX7_draws_4 {X : Cx} (h : Ok X cX7_draws RX7 2 0 0) (hr : RetV X 0 0) (hnL : nLX X = 4) {t : Nat} (ht : InN X t 7) : ∀ (fu : Nat) (x2 : Int32) (x3 : Int32) (w : Wd), OkR X (fun _ : Unit => Value.null) (fX7_draws_4 t fu x2 x3 w) → G X 0 0 4 [(0, .inr (.inl (some t))), (2, .inl x2), (3, .inl x3)] [] w := by
  have hj : ∀ j, j < 4 → j < nLX X := fun j q => by rw [hnL]; exact q
  intro fu
  induction fu with
  | zero => intro x2 x3 w hF; exact okN hF
  | succ fu ih =>
    intro x2 x3 w hF
    rw [fX7_draws_4] at hF
    refine g_iload_n (pc := 4) h 2 rfl dX7_draws_4 ?_
    refine g_bipush (pc := 5) (v := (8 : Int32)) h dX7_draws_5 (by decide) ?_
    refine g_icmp_ge (pc := 7) (tgt := 51) h dX7_draws_7 (by decide) hF (fun hF => ?_) (fun hF => ?_)
    · exact g_vret (pc := 51) h hr ⟨Nat.le_refl _, Nat.le_refl _⟩ hF dX7_draws_51
    · refine g_aload_n (pc := 10) h 0 rfl dX7_draws_10 ?_
      refine g_getR (pc := 11) h fdX7_32 (inw ht) rfl dX7_draws_11 ?_
      refine g_iload_n (pc := 14) h 2 rfl dX7_draws_14 ?_
      refine g_aload_n (pc := 15) h 0 rfl dX7_draws_15 ?_
      refine g_getR (pc := 16) h fdX7_23 (inw ht) rfl dX7_draws_16 ?_
      refine g_iload_n (pc := 19) h 2 rfl dX7_draws_19 ?_
      refine g_dr hF (fun a_1 e_a_1 h_a_1 hF => ?_)
      rw [e_a_1]
      obtain ⟨g_1, hF⟩ := grd_ok hF
      refine g_iald (pc := 20) h h_a_1 g_1 dX7_draws_20 ?_
      refine g_dr hF (fun a_2 e_a_2 h_a_2 hF => ?_)
      rw [e_a_2]
      obtain ⟨g_2, hF⟩ := grd_ok hF
      refine g_iast (pc := 21) h h_a_2 g_2 dX7_draws_21 ?_
      refine g_w hF (fun w_3 hF => ?_)
      refine g_iload_n (pc := 22) h 1 rfl dX7_draws_22 ?_
      refine g_ldcw (pc := 23) h wci_X7_402 dX7_draws_23 ?_
      refine g_imul (pc := 26) h dX7_draws_26 ?_
      refine g_sipush (pc := 27) (v := (12345 : Int32)) h dX7_draws_27 (by decide) ?_
      refine g_iadd (pc := 30) h dX7_draws_30 ?_
      refine g_t hF (fun x2_4 hF => ?_)
      refine g_istore_n (pc := 31) (lv' := [(2, .inl x2_4), (0, .inr (.inl (some t))), (3, .inl x3)]) h dX7_draws_31 (hj 2 (by decide)) rfl ?_
      refine g_aload_n (pc := 32) h 1 rfl dX7_draws_32 ?_
      refine g_getR (pc := 33) h fdX7_23 (inw ht) rfl dX7_draws_33 ?_
      refine g_iload_n (pc := 36) h 2 rfl dX7_draws_36 ?_
      refine g_iload_n (pc := 37) h 0 rfl dX7_draws_37 ?_
      refine g_bipush (pc := 38) (v := (9 : Int32)) h dX7_draws_38 (by decide) ?_
      refine g_iushr (pc := 40) h dX7_draws_40 ?_
      refine g_bipush (pc := 41) (v := (30 : Int32)) h dX7_draws_41 (by decide) ?_
      refine g_irem (pc := 43) h dX7_draws_43 (by decide) ?_
      refine g_dr hF (fun a_5 e_a_5 h_a_5 hF => ?_)
      rw [e_a_5]
      obtain ⟨g_3, hF⟩ := grd_ok hF
      refine g_iast (pc := 44) h h_a_5 g_3 dX7_draws_44 ?_
      refine g_w hF (fun w_6 hF => ?_)
      refine g_iinc (pc := 45) (lv' := [(3, .inl (x3 + (1 : Int32))), (2, .inl x2_4), (0, .inr (.inl (some t)))]) h 2 rfl dX7_draws_45 (dv := (1 : Int32)) (by decide) (hj 3 (by decide)) rfl ?_
      refine g_goto (pc := 48) (tgt := 4) h dX7_draws_48 (by decide) ?_
      refine g_lv (lv' := [(0, .inr (.inl (some t))), (2, .inl x2_4), (3, .inl (x3 + (1 : Int32)))]) [2, 1, 0] rfl ?_
      exact ih _ _ _ hF
def fX7_draws (t : Nat) (x1 : Int32) (w : Wd) : Option (Unit × Wd) :=
  fX7_draws_4 t FU x1 (0 : Int32) w
set_option maxHeartbeats 4000000 in
theorem mX7_draws {Γ : En} {t : Nat} {x1 : Int32} {w : Wd} (ht : t < wn w ∧ kd t = 7) : MtV Γ yX7_draws cX7_draws 4 none 2 0 0 [rv Γ (some t), .int x1] w (fX7_draws t x1 w) := by
  refine mtV [.inr (.inl (some t)), .inl x1] rfl (Nat.le_of_ble_eq_true rfl) (fun X hΓ hnL hn0 h _ hr hF => ?_)
  subst hΓ
  have ht : InN X t 7 := ⟨by rw [hn0]; exact ht.1, ht.2⟩
  have h : Ok X cX7_draws RX7 2 0 0 := h
  have hj : ∀ j, j < 4 → j < nLX X := fun j q => by rw [hnL]; exact q
  show G X 0 0 0 [(0, .inr (.inl (some t))), (1, .inl x1)] [] w
  unfold fX7_draws at hF
  refine g_iload_n (pc := 0) h 1 rfl dX7_draws_0 ?_
  refine g_istore_n (pc := 1) (lv' := [(2, .inl x1), (0, .inr (.inl (some t))), (1, .inl x1)]) h dX7_draws_1 (hj 2 (by decide)) rfl ?_
  refine g_iconst (pc := 2) (v := (0 : Int32)) h dX7_draws_2 (by decide) ?_
  refine g_istore_n (pc := 3) (lv' := [(3, .inl (0 : Int32)), (2, .inl x1), (0, .inr (.inl (some t))), (1, .inl x1)]) h dX7_draws_3 (hj 3 (by decide)) rfl ?_
  refine g_lv (lv' := [(0, .inr (.inl (some t))), (2, .inl x1), (3, .inl (0 : Int32))]) [2, 1, 0] rfl ?_
  exact kX7_draws_4 h hr hnL ht _ _ _ _ hF
def fX7_laysBack_2 (t : Nat) : Nat → Int32 → Wd → Option (Unit × Wd)
  | 0 => fun _ _ => none
  | n + 1 => fun x1 w =>
    if (8 : Int32) ≤ x1 then
      (some ((), w))
    else
      (dr (gR w t 36) 8 w (fun a_1 => grd (vin x1 (ln a_1)) (dr (gR w t 8) 8 w (fun a_2 => grd (vin x1 (ln a_2)) (lw (sI w a_2 x1.toNatClampNeg (gI w a_1 x1.toNatClampNeg)) (fun w_3 => fX7_laysBack_2 t n (x1 + (1 : Int32)) w_3))))))
set_option maxHeartbeats 4000000 in
theorem kX7_laysBack_2 {X : Cx} (h : Ok X cX7_laysBack RX7 2 0 0) (hr : RetV X 0 0) (hnL : nLX X = 2) {t : Nat} (ht : InN X t 7) : ∀ (fu : Nat) (x1 : Int32) (w : Wd), OkR X (fun _ : Unit => Value.null) (fX7_laysBack_2 t fu x1 w) → G X 0 0 2 [(0, .inr (.inl (some t))), (1, .inl x1)] [] w := by
  have hj : ∀ j, j < 2 → j < nLX X := fun j q => by rw [hnL]; exact q
  intro fu
  induction fu with
  | zero => intro x1 w hF; exact okN hF
  | succ fu ih =>
    intro x1 w hF
    rw [fX7_laysBack_2] at hF
    refine g_iload_n (pc := 2) h 1 rfl dX7_laysBack_2 ?_
    refine g_bipush (pc := 3) (v := (8 : Int32)) h dX7_laysBack_3 (by decide) ?_
    refine g_icmp_ge (pc := 5) (tgt := 26) h dX7_laysBack_5 (by decide) hF (fun hF => ?_) (fun hF => ?_)
    · exact g_vret (pc := 26) h hr ⟨Nat.le_refl _, Nat.le_refl _⟩ hF dX7_laysBack_26
    · refine g_aload_n (pc := 8) h 0 rfl dX7_laysBack_8 ?_
      refine g_getR (pc := 9) h fdX7_23 (inw ht) rfl dX7_laysBack_9 ?_
      refine g_iload_n (pc := 12) h 1 rfl dX7_laysBack_12 ?_
      refine g_aload_n (pc := 13) h 0 rfl dX7_laysBack_13 ?_
      refine g_getR (pc := 14) h fdX7_32 (inw ht) rfl dX7_laysBack_14 ?_
      refine g_iload_n (pc := 17) h 1 rfl dX7_laysBack_17 ?_
      refine g_dr hF (fun a_1 e_a_1 h_a_1 hF => ?_)
      rw [e_a_1]
      obtain ⟨g_1, hF⟩ := grd_ok hF
      refine g_iald (pc := 18) h h_a_1 g_1 dX7_laysBack_18 ?_
      refine g_dr hF (fun a_2 e_a_2 h_a_2 hF => ?_)
      rw [e_a_2]
      obtain ⟨g_2, hF⟩ := grd_ok hF
      refine g_iast (pc := 19) h h_a_2 g_2 dX7_laysBack_19 ?_
      refine g_w hF (fun w_3 hF => ?_)
      refine g_iinc (pc := 20) (lv' := [(1, .inl (x1 + (1 : Int32))), (0, .inr (.inl (some t)))]) h 1 rfl dX7_laysBack_20 (dv := (1 : Int32)) (by decide) (hj 1 (by decide)) rfl ?_
      refine g_goto (pc := 23) (tgt := 2) h dX7_laysBack_23 (by decide) ?_
      refine g_lv (lv' := [(0, .inr (.inl (some t))), (1, .inl (x1 + (1 : Int32)))]) [1, 0] rfl ?_
      exact ih _ _ hF
def fX7_laysBack (t : Nat) (w : Wd) : Option (Unit × Wd) :=
  fX7_laysBack_2 t FU (0 : Int32) w
set_option maxHeartbeats 4000000 in
theorem mX7_laysBack {Γ : En} {t : Nat} {w : Wd} (ht : t < wn w ∧ kd t = 7) : MtV Γ yX7_laysBack cX7_laysBack 2 none 2 0 0 [rv Γ (some t)] w (fX7_laysBack t w) := by
  refine mtV [.inr (.inl (some t))] rfl (Nat.le_of_ble_eq_true rfl) (fun X hΓ hnL hn0 h _ hr hF => ?_)
  subst hΓ
  have ht : InN X t 7 := ⟨by rw [hn0]; exact ht.1, ht.2⟩
  have h : Ok X cX7_laysBack RX7 2 0 0 := h
  have hj : ∀ j, j < 2 → j < nLX X := fun j q => by rw [hnL]; exact q
  show G X 0 0 0 [(0, .inr (.inl (some t)))] [] w
  unfold fX7_laysBack at hF
  refine g_iconst (pc := 0) (v := (0 : Int32)) h dX7_laysBack_0 (by decide) ?_
  refine g_istore_n (pc := 1) (lv' := [(1, .inl (0 : Int32)), (0, .inr (.inl (some t)))]) h dX7_laysBack_1 (hj 1 (by decide)) rfl ?_
  refine g_lv (lv' := [(0, .inr (.inl (some t))), (1, .inl (0 : Int32))]) [1, 0] rfl ?_
  exact kX7_laysBack_2 h hr hnL ht _ _ _ hF
def fX7_drawn (t : Nat) (x1 : Int32) (x2 : Int32) (w : Wd) : Option (Int32 × Wd) :=
  bnd (fX7_in (x2.toInt64) (0 : Int64) (40 : Int64) w) (fun x_1 w_2 => if x_1 = 0 then
    (some ((-2 : Int32), w_2))
  else
    (bnd (fX7_draws t x1 w_2) (fun u_3 w_4 => bnd (fX7_allBehind t x2 w_4) (fun x_5 w_6 => bnd (fX7_laysBack t w_6) (fun u_7 w_8 => some (x_5, w_8))))))
set_option maxHeartbeats 4000000 in
theorem mX7_drawn {Γ : En} {t : Nat} {x1 : Int32} {x2 : Int32} {w : Wd} (ht : t < wn w ∧ kd t = 7) : MtI Γ yX7_drawn cX7_drawn 4 (some .int) 49 0 0 [rv Γ (some t), .int x1, .int x2] w (fX7_drawn t x1 x2 w) := by
  refine mtI [.inr (.inl (some t)), .inl x1, .inl x2] rfl (Nat.le_of_ble_eq_true rfl) (fun X hΓ hnL hn0 h _ hr hF => ?_)
  subst hΓ
  have ht : InN X t 7 := ⟨by rw [hn0]; exact ht.1, ht.2⟩
  have h : Ok X cX7_drawn RX7 49 0 0 := h
  have hj : ∀ j, j < 4 → j < nLX X := fun j q => by rw [hnL]; exact q
  show G X 0 0 0 [(0, .inr (.inl (some t))), (1, .inl x1), (2, .inl x2)] [] w
  unfold fX7_drawn at hF
  refine g_iload_n (pc := 0) h 2 rfl dX7_drawn_0 ?_
  refine g_i2l (pc := 1) h dX7_drawn_1 ?_
  refine g_lconst (pc := 2) (v := (0 : Int64)) h dX7_drawn_2 (by decide) ?_
  refine g_ldc2 (pc := 3) h wcL_X7_365 dX7_drawn_3 ?_
  refine g_csI (pc := 6) (st := []) h mX7_in csX7_67 (by decide) ⟨by decide, by decide⟩ (Nat.le_of_ble_eq_true rfl) rfl rfl dX7_drawn_6 hF (fun x_1 w_2 hF => ?_)
  refine g_if_ne (pc := 9) (tgt := 15) h dX7_drawn_9 (by decide) hF (fun hF => ?_) (fun hF => ?_)
  · refine g_aload_n (pc := 15) h 0 rfl dX7_drawn_15 ?_
    refine g_iload_n (pc := 16) h 1 rfl dX7_drawn_16 ?_
    refine g_cvV (pc := 17) (st := []) h mX7_draws cvX7_403 (inw ht) (by decide) ⟨by decide, by decide⟩ (Nat.le_of_ble_eq_true rfl) rfl rfl dX7_drawn_17 hF (fun u_3 w_4 hF => ?_)
    refine g_aload_n (pc := 20) h 0 rfl dX7_drawn_20 ?_
    refine g_iload_n (pc := 21) h 2 rfl dX7_drawn_21 ?_
    refine g_cvI (pc := 22) (st := []) h mX7_allBehind cvX7_390 (inw ht) (by decide) ⟨by decide, by decide⟩ (Nat.le_of_ble_eq_true rfl) rfl rfl dX7_drawn_22 hF (fun x_5 w_6 hF => ?_)
    refine g_istore_n (pc := 25) (lv' := [(3, .inl x_5), (0, .inr (.inl (some t))), (1, .inl x1), (2, .inl x2)]) h dX7_drawn_25 (hj 3 (by decide)) rfl ?_
    refine g_aload_n (pc := 26) h 1 rfl dX7_drawn_26 ?_
    refine g_cvV (pc := 27) (st := []) h mX7_laysBack cvX7_406 (inw ht) (by decide) ⟨by decide, by decide⟩ (Nat.le_of_ble_eq_true rfl) rfl rfl dX7_drawn_27 hF (fun u_7 w_8 hF => ?_)
    refine g_iload_n (pc := 30) h 0 rfl dX7_drawn_30 ?_
    exact g_iret (pc := 31) h hr ⟨Nat.le_refl _, Nat.le_refl _⟩ hF dX7_drawn_31
  · refine g_bipush (pc := 12) (v := (-2 : Int32)) h dX7_drawn_12 (by decide) ?_
    exact g_iret (pc := 14) h hr ⟨Nat.le_refl _, Nat.le_refl _⟩ hF dX7_drawn_14
def fX7_chance_22 (t : Nat) (w : Wd) : Option (Int64 × Wd) :=
  some ((-4611686018427387904 : Int64), w)
set_option maxHeartbeats 4000000 in
theorem kX7_chance_22 {X : Cx} (h : Ok X cX7_chance RX7 48 0 0) (hr : RetL X 0 0) (hnL : nLX X = 12) {t : Nat} (ht : InN X t 7) : ∀ (w : Wd), OkR X Value.long (fX7_chance_22 t  w) → G X 0 0 22 [] [] w := by
  have hj : ∀ j, j < 12 → j < nLX X := fun j q => by rw [hnL]; exact q
  intro w hF
  unfold fX7_chance_22 at hF
  refine g_ldc2 (pc := 22) h wcL_X7_411 dX7_chance_22 ?_
  exact g_lret (pc := 25) h hr ⟨Nat.le_refl _, Nat.le_refl _⟩ hF dX7_chance_25
def fX7_chance_95 (k32 : Int32 → Int32 → Int32 → Int64 → Int32 → Wd → Option (Int64 × Wd)) (k52 : Int32 → Int32 → Int32 → Int64 → Int32 → Int32 → Int32 → Wd → Option (Int64 × Wd)) (t : Nat) (x1 : Int32) (x2 : Int32) (x3 : Int32) (l4 : Int64) (x6 : Int32) (x8 : Int32) (y0 : Int32) (w : Wd) : Option (Int64 × Wd) :=
  k52 x1 x2 x3 l4 x6 y0 (x8 + (1 : Int32)) w
set_option maxHeartbeats 4000000 in
theorem kX7_chance_95 {X : Cx} (h : Ok X cX7_chance RX7 48 0 0) (hr : RetL X 0 0) (hnL : nLX X = 12) {t : Nat} (ht : InN X t 7) {k32 : Int32 → Int32 → Int32 → Int64 → Int32 → Wd → Option (Int64 × Wd)} {k52 : Int32 → Int32 → Int32 → Int64 → Int32 → Int32 → Int32 → Wd → Option (Int64 × Wd)} (hk32 : ∀ (x1 : Int32) (x2 : Int32) (x3 : Int32) (l4 : Int64) (x6 : Int32) (w : Wd), OkR X Value.long (k32 x1 x2 x3 l4 x6 w) → G X 0 0 32 [(0, .inr (.inl (some t))), (1, .inl x1), (2, .inl x2), (3, .inl x3), (4, .inr (.inr (.inl l4))), (6, .inl x6)] [] w) (hk52 : ∀ (x1 : Int32) (x2 : Int32) (x3 : Int32) (l4 : Int64) (x6 : Int32) (x7 : Int32) (x8 : Int32) (w : Wd), OkR X Value.long (k52 x1 x2 x3 l4 x6 x7 x8 w) → G X 0 0 52 [(0, .inr (.inl (some t))), (1, .inl x1), (2, .inl x2), (3, .inl x3), (4, .inr (.inr (.inl l4))), (6, .inl x6), (7, .inl x7), (8, .inl x8)] [] w) : ∀ (x1 : Int32) (x2 : Int32) (x3 : Int32) (l4 : Int64) (x6 : Int32) (x8 : Int32) (y0 : Int32) (w : Wd), OkR X Value.long (fX7_chance_95 k32 k52 t x1 x2 x3 l4 x6 x8 y0 w) → G X 0 0 95 [(0, .inr (.inl (some t))), (1, .inl x1), (2, .inl x2), (3, .inl x3), (4, .inr (.inr (.inl l4))), (6, .inl x6), (8, .inl x8)] [.int y0] w := by
  have hj : ∀ j, j < 12 → j < nLX X := fun j q => by rw [hnL]; exact q
  intro x1 x2 x3 l4 x6 x8 y0 w hF
  unfold fX7_chance_95 at hF
  refine g_istore (pc := 95) (lv' := [(7, .inl y0), (0, .inr (.inl (some t))), (1, .inl x1), (2, .inl x2), (3, .inl x3), (4, .inr (.inr (.inl l4))), (6, .inl x6), (8, .inl x8)]) h dX7_chance_95 (hj 7 (by decide)) rfl ?_
  refine g_iinc (pc := 97) (lv' := [(8, .inl (x8 + (1 : Int32))), (7, .inl y0), (0, .inr (.inl (some t))), (1, .inl x1), (2, .inl x2), (3, .inl x3), (4, .inr (.inr (.inl l4))), (6, .inl x6)]) h 7 rfl dX7_chance_97 (dv := (1 : Int32)) (by decide) (hj 8 (by decide)) rfl ?_
  refine g_goto (pc := 100) (tgt := 52) h dX7_chance_100 (by decide) ?_
  refine g_lv (lv' := [(0, .inr (.inl (some t))), (1, .inl x1), (2, .inl x2), (3, .inl x3), (4, .inr (.inr (.inl l4))), (6, .inl x6), (7, .inl y0), (8, .inl (x8 + (1 : Int32)))]) [2, 3, 4, 5, 6, 7, 1, 0] rfl ?_
  exact hk52 _ _ _ _ _ _ _ _ hF
def fX7_chance_90 (k32 : Int32 → Int32 → Int32 → Int64 → Int32 → Wd → Option (Int64 × Wd)) (k52 : Int32 → Int32 → Int32 → Int64 → Int32 → Int32 → Int32 → Wd → Option (Int64 × Wd)) (t : Nat) (x1 : Int32) (x2 : Int32) (x3 : Int32) (l4 : Int64) (x6 : Int32) (x8 : Int32) (w : Wd) : Option (Int64 × Wd) :=
  fX7_chance_95 k32 k52 t x1 x2 x3 l4 x6 x8 (1 : Int32) w
set_option maxHeartbeats 4000000 in
theorem kX7_chance_90 {X : Cx} (h : Ok X cX7_chance RX7 48 0 0) (hr : RetL X 0 0) (hnL : nLX X = 12) {t : Nat} (ht : InN X t 7) {k32 : Int32 → Int32 → Int32 → Int64 → Int32 → Wd → Option (Int64 × Wd)} {k52 : Int32 → Int32 → Int32 → Int64 → Int32 → Int32 → Int32 → Wd → Option (Int64 × Wd)} (hk32 : ∀ (x1 : Int32) (x2 : Int32) (x3 : Int32) (l4 : Int64) (x6 : Int32) (w : Wd), OkR X Value.long (k32 x1 x2 x3 l4 x6 w) → G X 0 0 32 [(0, .inr (.inl (some t))), (1, .inl x1), (2, .inl x2), (3, .inl x3), (4, .inr (.inr (.inl l4))), (6, .inl x6)] [] w) (hk52 : ∀ (x1 : Int32) (x2 : Int32) (x3 : Int32) (l4 : Int64) (x6 : Int32) (x7 : Int32) (x8 : Int32) (w : Wd), OkR X Value.long (k52 x1 x2 x3 l4 x6 x7 x8 w) → G X 0 0 52 [(0, .inr (.inl (some t))), (1, .inl x1), (2, .inl x2), (3, .inl x3), (4, .inr (.inr (.inl l4))), (6, .inl x6), (7, .inl x7), (8, .inl x8)] [] w) : ∀ (x1 : Int32) (x2 : Int32) (x3 : Int32) (l4 : Int64) (x6 : Int32) (x8 : Int32) (w : Wd), OkR X Value.long (fX7_chance_90 k32 k52 t x1 x2 x3 l4 x6 x8 w) → G X 0 0 90 [(0, .inr (.inl (some t))), (1, .inl x1), (2, .inl x2), (3, .inl x3), (4, .inr (.inr (.inl l4))), (6, .inl x6), (8, .inl x8)] [] w := by
  have hj : ∀ j, j < 12 → j < nLX X := fun j q => by rw [hnL]; exact q
  intro x1 x2 x3 l4 x6 x8 w hF
  unfold fX7_chance_90 at hF
  refine g_iconst (pc := 90) (v := (1 : Int32)) h dX7_chance_90 (by decide) ?_
  refine g_goto (pc := 91) (tgt := 95) h dX7_chance_91 (by decide) ?_
  exact kX7_chance_95 h hr hnL ht hk32 hk52 _ _ _ _ _ _ _ _ hF
def fX7_chance_115 (k32 : Int32 → Int32 → Int32 → Int64 → Int32 → Wd → Option (Int64 × Wd)) (t : Nat) (x1 : Int32) (x2 : Int32) (x3 : Int32) (x6 : Int32) (y0 : Int64) (y1 : Int64) (w : Wd) : Option (Int64 × Wd) :=
  bnd (fX7_laysBack t w) (fun u_9 w_10 => k32 x1 x2 x3 (y1 + y0) (x6 + (1 : Int32)) w_10)
set_option maxHeartbeats 4000000 in
theorem kX7_chance_115 {X : Cx} (h : Ok X cX7_chance RX7 48 0 0) (hr : RetL X 0 0) (hnL : nLX X = 12) {t : Nat} (ht : InN X t 7) {k32 : Int32 → Int32 → Int32 → Int64 → Int32 → Wd → Option (Int64 × Wd)} (hk32 : ∀ (x1 : Int32) (x2 : Int32) (x3 : Int32) (l4 : Int64) (x6 : Int32) (w : Wd), OkR X Value.long (k32 x1 x2 x3 l4 x6 w) → G X 0 0 32 [(0, .inr (.inl (some t))), (1, .inl x1), (2, .inl x2), (3, .inl x3), (4, .inr (.inr (.inl l4))), (6, .inl x6)] [] w) : ∀ (x1 : Int32) (x2 : Int32) (x3 : Int32) (x6 : Int32) (y0 : Int64) (y1 : Int64) (w : Wd), OkR X Value.long (fX7_chance_115 k32 t x1 x2 x3 x6 y0 y1 w) → G X 0 0 115 [(0, .inr (.inl (some t))), (1, .inl x1), (2, .inl x2), (3, .inl x3), (6, .inl x6)] [.long y0, .long y1] w := by
  have hj : ∀ j, j < 12 → j < nLX X := fun j q => by rw [hnL]; exact q
  intro x1 x2 x3 x6 y0 y1 w hF
  unfold fX7_chance_115 at hF
  refine g_ladd (pc := 115) h dX7_chance_115 ?_
  refine g_lstore (pc := 116) (lv' := [(4, .inr (.inr (.inl (y1 + y0)))), (0, .inr (.inl (some t))), (1, .inl x1), (2, .inl x2), (3, .inl x3), (6, .inl x6)]) h dX7_chance_116 (hj 5 (by decide)) rfl ?_
  refine g_aload_n (pc := 118) h 1 rfl dX7_chance_118 ?_
  refine g_cvV (pc := 119) (st := []) h mX7_laysBack cvX7_406 (inw ht) (by decide) ⟨by decide, by decide⟩ (Nat.le_of_ble_eq_true rfl) rfl rfl dX7_chance_119 hF (fun u_9 w_10 hF => ?_)
  refine g_iinc (pc := 122) (lv' := [(6, .inl (x6 + (1 : Int32))), (4, .inr (.inr (.inl (y1 + y0)))), (0, .inr (.inl (some t))), (1, .inl x1), (2, .inl x2), (3, .inl x3)]) h 5 rfl dX7_chance_122 (dv := (1 : Int32)) (by decide) (hj 6 (by decide)) rfl ?_
  refine g_goto (pc := 125) (tgt := 32) h dX7_chance_125 (by decide) ?_
  refine g_lv (lv' := [(0, .inr (.inl (some t))), (1, .inl x1), (2, .inl x2), (3, .inl x3), (4, .inr (.inr (.inl (y1 + y0)))), (6, .inl (x6 + (1 : Int32)))]) [2, 3, 4, 5, 1, 0] rfl ?_
  exact hk32 _ _ _ _ _ _ hF
def fX7_chance_103 (k32 : Int32 → Int32 → Int32 → Int64 → Int32 → Wd → Option (Int64 × Wd)) (t : Nat) (x1 : Int32) (x2 : Int32) (x3 : Int32) (l4 : Int64) (x6 : Int32) (x7 : Int32) (w : Wd) : Option (Int64 × Wd) :=
  if x7 = 0 then
    (fX7_chance_115 k32 t x1 x2 x3 x6 (0 : Int64) l4 w)
  else
    (fX7_chance_115 k32 t x1 x2 x3 x6 (1 : Int64) l4 w)
set_option maxHeartbeats 4000000 in
theorem kX7_chance_103 {X : Cx} (h : Ok X cX7_chance RX7 48 0 0) (hr : RetL X 0 0) (hnL : nLX X = 12) {t : Nat} (ht : InN X t 7) {k32 : Int32 → Int32 → Int32 → Int64 → Int32 → Wd → Option (Int64 × Wd)} (hk32 : ∀ (x1 : Int32) (x2 : Int32) (x3 : Int32) (l4 : Int64) (x6 : Int32) (w : Wd), OkR X Value.long (k32 x1 x2 x3 l4 x6 w) → G X 0 0 32 [(0, .inr (.inl (some t))), (1, .inl x1), (2, .inl x2), (3, .inl x3), (4, .inr (.inr (.inl l4))), (6, .inl x6)] [] w) : ∀ (x1 : Int32) (x2 : Int32) (x3 : Int32) (l4 : Int64) (x6 : Int32) (x7 : Int32) (w : Wd), OkR X Value.long (fX7_chance_103 k32 t x1 x2 x3 l4 x6 x7 w) → G X 0 0 103 [(0, .inr (.inl (some t))), (1, .inl x1), (2, .inl x2), (3, .inl x3), (4, .inr (.inr (.inl l4))), (6, .inl x6), (7, .inl x7)] [] w := by
  have hj : ∀ j, j < 12 → j < nLX X := fun j q => by rw [hnL]; exact q
  intro x1 x2 x3 l4 x6 x7 w hF
  unfold fX7_chance_103 at hF
  refine g_lload (pc := 103) h 4 rfl dX7_chance_103 ?_
  refine g_iload (pc := 105) h 6 rfl dX7_chance_105 ?_
  refine g_if_eq (pc := 107) (tgt := 114) h dX7_chance_107 (by decide) hF (fun hF => ?_) (fun hF => ?_)
  · refine g_lconst (pc := 114) (v := (0 : Int64)) h dX7_chance_114 (by decide) ?_
    refine g_lv (lv' := [(0, .inr (.inl (some t))), (1, .inl x1), (2, .inl x2), (3, .inl x3), (6, .inl x6)]) [0, 1, 2, 3, 5] rfl ?_
    exact kX7_chance_115 h hr hnL ht hk32 _ _ _ _ _ _ _ hF
  · refine g_lconst (pc := 110) (v := (1 : Int64)) h dX7_chance_110 (by decide) ?_
    refine g_goto (pc := 111) (tgt := 115) h dX7_chance_111 (by decide) ?_
    refine g_lv (lv' := [(0, .inr (.inl (some t))), (1, .inl x1), (2, .inl x2), (3, .inl x3), (6, .inl x6)]) [0, 1, 2, 3, 5] rfl ?_
    exact kX7_chance_115 h hr hnL ht hk32 _ _ _ _ _ _ _ hF
def fX7_chance_52 (k32 : Int32 → Int32 → Int32 → Int64 → Int32 → Wd → Option (Int64 × Wd)) (t : Nat) : Nat → Int32 → Int32 → Int32 → Int64 → Int32 → Int32 → Int32 → Wd → Option (Int64 × Wd)
  | 0 => fun _ _ _ _ _ _ _ _ => none
  | n + 1 => fun x1 x2 x3 l4 x6 x7 x8 w =>
    if (gI w t 11) ≤ x8 then
      (fX7_chance_103 k32 t x1 x2 x3 l4 x6 x7 w)
    else
      (if x7 = 0 then
        (fX7_chance_103 k32 t x1 x2 x3 l4 x6 x7 w)
      else
        (bnd (fX7_lives t x8 (10 : Int32) w) (fun u_7 w_8 => if (gI w_8 t 32) = (-1 : Int32) then
          (if (gI w_8 t 33) = (-1 : Int32) then
            (fX7_chance_95 k32 (fX7_chance_52 k32 t n) t x1 x2 x3 l4 x6 x8 (0 : Int32) w_8)
          else
            (fX7_chance_90 k32 (fX7_chance_52 k32 t n) t x1 x2 x3 l4 x6 x8 w_8))
        else
          (fX7_chance_90 k32 (fX7_chance_52 k32 t n) t x1 x2 x3 l4 x6 x8 w_8))))
set_option maxHeartbeats 4000000 in
theorem kX7_chance_52 {X : Cx} (h : Ok X cX7_chance RX7 48 0 0) (hr : RetL X 0 0) (hnL : nLX X = 12) {t : Nat} (ht : InN X t 7) {k32 : Int32 → Int32 → Int32 → Int64 → Int32 → Wd → Option (Int64 × Wd)} (hk32 : ∀ (x1 : Int32) (x2 : Int32) (x3 : Int32) (l4 : Int64) (x6 : Int32) (w : Wd), OkR X Value.long (k32 x1 x2 x3 l4 x6 w) → G X 0 0 32 [(0, .inr (.inl (some t))), (1, .inl x1), (2, .inl x2), (3, .inl x3), (4, .inr (.inr (.inl l4))), (6, .inl x6)] [] w) : ∀ (fu : Nat) (x1 : Int32) (x2 : Int32) (x3 : Int32) (l4 : Int64) (x6 : Int32) (x7 : Int32) (x8 : Int32) (w : Wd), OkR X Value.long (fX7_chance_52 k32 t fu x1 x2 x3 l4 x6 x7 x8 w) → G X 0 0 52 [(0, .inr (.inl (some t))), (1, .inl x1), (2, .inl x2), (3, .inl x3), (4, .inr (.inr (.inl l4))), (6, .inl x6), (7, .inl x7), (8, .inl x8)] [] w := by
  have hj : ∀ j, j < 12 → j < nLX X := fun j q => by rw [hnL]; exact q
  intro fu
  induction fu with
  | zero => intro x1 x2 x3 l4 x6 x7 x8 w hF; exact okN hF
  | succ fu ih =>
    intro x1 x2 x3 l4 x6 x7 x8 w hF
    rw [fX7_chance_52] at hF
    refine g_iload (pc := 52) h 7 rfl dX7_chance_52 ?_
    refine g_aload_n (pc := 54) h 0 rfl dX7_chance_54 ?_
    refine g_getI (pc := 55) h fdX7_64 (inw ht) (by decide) dX7_chance_55 ?_
    refine g_icmp_ge (pc := 58) (tgt := 103) h dX7_chance_58 (by decide) hF (fun hF => ?_) (fun hF => ?_)
    · refine g_lv (lv' := [(0, .inr (.inl (some t))), (1, .inl x1), (2, .inl x2), (3, .inl x3), (4, .inr (.inr (.inl l4))), (6, .inl x6), (7, .inl x7)]) [0, 1, 2, 3, 4, 5, 6] rfl ?_
      exact kX7_chance_103 h hr hnL ht hk32 _ _ _ _ _ _ _ hF
    · refine g_iload (pc := 61) h 6 rfl dX7_chance_61 ?_
      refine g_if_eq (pc := 63) (tgt := 103) h dX7_chance_63 (by decide) hF (fun hF => ?_) (fun hF => ?_)
      · refine g_lv (lv' := [(0, .inr (.inl (some t))), (1, .inl x1), (2, .inl x2), (3, .inl x3), (4, .inr (.inr (.inl l4))), (6, .inl x6), (7, .inl x7)]) [0, 1, 2, 3, 4, 5, 6] rfl ?_
        exact kX7_chance_103 h hr hnL ht hk32 _ _ _ _ _ _ _ hF
      · refine g_aload_n (pc := 66) h 0 rfl dX7_chance_66 ?_
        refine g_iload (pc := 67) h 7 rfl dX7_chance_67 ?_
        refine g_bipush (pc := 69) (v := (10 : Int32)) h dX7_chance_69 (by decide) ?_
        refine g_cvV (pc := 71) (st := []) h mX7_lives cvX7_369 (inw ht) (by decide) ⟨by decide, by decide⟩ (Nat.le_of_ble_eq_true rfl) rfl rfl dX7_chance_71 hF (fun u_7 w_8 hF => ?_)
        refine g_aload_n (pc := 74) h 0 rfl dX7_chance_74 ?_
        refine g_getI (pc := 75) h fdX7_353 (inw ht) (by decide) dX7_chance_75 ?_
        refine g_iconst (pc := 78) (v := (-1 : Int32)) h dX7_chance_78 (by decide) ?_
        refine g_icmp_ne (pc := 79) (tgt := 90) h dX7_chance_79 (by decide) hF (fun hF => ?_) (fun hF => ?_)
        · refine g_lv (lv' := [(0, .inr (.inl (some t))), (1, .inl x1), (2, .inl x2), (3, .inl x3), (4, .inr (.inr (.inl l4))), (6, .inl x6), (8, .inl x8)]) [0, 1, 2, 3, 4, 5, 7] rfl ?_
          exact kX7_chance_90 h hr hnL ht hk32 (fun z0 z1 z2 z3 z4 z5 z6 z7 hF => ih z0 z1 z2 z3 z4 z5 z6 z7 hF) _ _ _ _ _ _ _ hF
        · refine g_aload_n (pc := 82) h 0 rfl dX7_chance_82 ?_
          refine g_getI (pc := 83) h fdX7_356 (inw ht) (by decide) dX7_chance_83 ?_
          refine g_iconst (pc := 86) (v := (-1 : Int32)) h dX7_chance_86 (by decide) ?_
          refine g_icmp_eq (pc := 87) (tgt := 94) h dX7_chance_87 (by decide) hF (fun hF => ?_) (fun hF => ?_)
          · refine g_iconst (pc := 94) (v := (0 : Int32)) h dX7_chance_94 (by decide) ?_
            refine g_lv (lv' := [(0, .inr (.inl (some t))), (1, .inl x1), (2, .inl x2), (3, .inl x3), (4, .inr (.inr (.inl l4))), (6, .inl x6), (8, .inl x8)]) [0, 1, 2, 3, 4, 5, 7] rfl ?_
            exact kX7_chance_95 h hr hnL ht hk32 (fun z0 z1 z2 z3 z4 z5 z6 z7 hF => ih z0 z1 z2 z3 z4 z5 z6 z7 hF) _ _ _ _ _ _ _ _ hF
          · refine g_lv (lv' := [(0, .inr (.inl (some t))), (1, .inl x1), (2, .inl x2), (3, .inl x3), (4, .inr (.inr (.inl l4))), (6, .inl x6), (8, .inl x8)]) [0, 1, 2, 3, 4, 5, 7] rfl ?_
            exact kX7_chance_90 h hr hnL ht hk32 (fun z0 z1 z2 z3 z4 z5 z6 z7 hF => ih z0 z1 z2 z3 z4 z5 z6 z7 hF) _ _ _ _ _ _ _ hF
def fX7_chance_136 (t : Nat) : Nat → Int32 → Int32 → Int64 → Int64 → Int64 → Wd → Option (Int64 × Wd)
  | 0 => fun _ _ _ _ _ _ => none
  | n + 1 => fun x2 x3 l4 l6 l8 w =>
    if (lg_cmp l8 (0 : Int64)) = 0 then
      (if x3 = 0 then
        (grd (¬ l6 = 0) (some (l4 / l6, w)))
      else
        (grd (¬ l6 = 0) (some ((x2.toInt64) / l6, w))))
    else
      (grd (¬ l8 = 0) (fX7_chance_136 t n x2 x3 l4 l8 (l6 - l6 / l8 * l8) w))
set_option maxHeartbeats 4000000 in
theorem kX7_chance_136 {X : Cx} (h : Ok X cX7_chance RX7 48 0 0) (hr : RetL X 0 0) (hnL : nLX X = 12) {t : Nat} (ht : InN X t 7) : ∀ (fu : Nat) (x2 : Int32) (x3 : Int32) (l4 : Int64) (l6 : Int64) (l8 : Int64) (w : Wd), OkR X Value.long (fX7_chance_136 t fu x2 x3 l4 l6 l8 w) → G X 0 0 136 [(2, .inl x2), (3, .inl x3), (4, .inr (.inr (.inl l4))), (6, .inr (.inr (.inl l6))), (8, .inr (.inr (.inl l8)))] [] w := by
  have hj : ∀ j, j < 12 → j < nLX X := fun j q => by rw [hnL]; exact q
  intro fu
  induction fu with
  | zero => intro x2 x3 l4 l6 l8 w hF; exact okN hF
  | succ fu ih =>
    intro x2 x3 l4 l6 l8 w hF
    rw [fX7_chance_136] at hF
    refine g_lload (pc := 136) h 4 rfl dX7_chance_136 ?_
    refine g_lconst (pc := 138) (v := (0 : Int64)) h dX7_chance_138 (by decide) ?_
    refine g_lcmp (pc := 139) h dX7_chance_139 ?_
    refine g_if_eq (pc := 140) (tgt := 161) h dX7_chance_140 (by decide) hF (fun hF => ?_) (fun hF => ?_)
    · refine g_iload_n (pc := 161) h 1 rfl dX7_chance_161 ?_
      refine g_if_ne (pc := 162) (tgt := 173) h dX7_chance_162 (by decide) hF (fun hF => ?_) (fun hF => ?_)
      · refine g_iload_n (pc := 173) h 0 rfl dX7_chance_173 ?_
        refine g_i2l (pc := 174) h dX7_chance_174 ?_
        refine g_lload (pc := 175) h 3 rfl dX7_chance_175 ?_
        obtain ⟨g_1, hF⟩ := grd_ok hF
        refine g_ldiv (pc := 177) h dX7_chance_177 g_1 ?_
        exact g_lret (pc := 178) h hr ⟨Nat.le_refl _, Nat.le_refl _⟩ hF dX7_chance_178
      · refine g_lload (pc := 165) h 2 rfl dX7_chance_165 ?_
        refine g_lload (pc := 167) h 3 rfl dX7_chance_167 ?_
        obtain ⟨g_2, hF⟩ := grd_ok hF
        refine g_ldiv (pc := 169) h dX7_chance_169 g_2 ?_
        refine g_goto (pc := 170) (tgt := 178) h dX7_chance_170 (by decide) ?_
        exact g_lret (pc := 178) h hr ⟨Nat.le_refl _, Nat.le_refl _⟩ hF dX7_chance_178
    · refine g_lload (pc := 143) h 3 rfl dX7_chance_143 ?_
      refine g_lload (pc := 145) h 4 rfl dX7_chance_145 ?_
      obtain ⟨g_3, hF⟩ := grd_ok hF
      refine g_lrem (pc := 147) h dX7_chance_147 g_3 ?_
      refine g_lstore (pc := 148) (lv' := [(10, .inr (.inr (.inl (l6 - l6 / l8 * l8)))), (2, .inl x2), (3, .inl x3), (4, .inr (.inr (.inl l4))), (6, .inr (.inr (.inl l6))), (8, .inr (.inr (.inl l8)))]) h dX7_chance_148 (hj 11 (by decide)) rfl ?_
      refine g_lload (pc := 150) h 5 rfl dX7_chance_150 ?_
      refine g_lstore (pc := 152) (lv' := [(6, .inr (.inr (.inl l8))), (10, .inr (.inr (.inl (l6 - l6 / l8 * l8)))), (2, .inl x2), (3, .inl x3), (4, .inr (.inr (.inl l4))), (8, .inr (.inr (.inl l8)))]) h dX7_chance_152 (hj 7 (by decide)) rfl ?_
      refine g_lload (pc := 154) h 1 rfl dX7_chance_154 ?_
      refine g_lstore (pc := 156) (lv' := [(8, .inr (.inr (.inl (l6 - l6 / l8 * l8)))), (6, .inr (.inr (.inl l8))), (10, .inr (.inr (.inl (l6 - l6 / l8 * l8)))), (2, .inl x2), (3, .inl x3), (4, .inr (.inr (.inl l4)))]) h dX7_chance_156 (hj 9 (by decide)) rfl ?_
      refine g_goto (pc := 158) (tgt := 136) h dX7_chance_158 (by decide) ?_
      refine g_lv (lv' := [(2, .inl x2), (3, .inl x3), (4, .inr (.inr (.inl l4))), (6, .inr (.inr (.inl l8))), (8, .inr (.inr (.inl (l6 - l6 / l8 * l8))))]) [3, 4, 5, 1, 0] rfl ?_
      exact ih _ _ _ _ _ _ hF
def fX7_chance_32 (t : Nat) : Nat → Int32 → Int32 → Int32 → Int64 → Int32 → Wd → Option (Int64 × Wd)
  | 0 => fun _ _ _ _ _ _ => none
  | n + 1 => fun x1 x2 x3 l4 x6 w =>
    if x2 ≤ x6 then
      (fX7_chance_136 t FU x2 x3 l4 l4 (x2.toInt64) w)
    else
      (bnd (fX7_draws t (x1 + x6) w) (fun u_5 w_6 => fX7_chance_52 (fX7_chance_32 t n) t FU x1 x2 x3 l4 x6 (1 : Int32) (0 : Int32) w_6))
set_option maxHeartbeats 4000000 in
theorem kX7_chance_32 {X : Cx} (h : Ok X cX7_chance RX7 48 0 0) (hr : RetL X 0 0) (hnL : nLX X = 12) {t : Nat} (ht : InN X t 7) : ∀ (fu : Nat) (x1 : Int32) (x2 : Int32) (x3 : Int32) (l4 : Int64) (x6 : Int32) (w : Wd), OkR X Value.long (fX7_chance_32 t fu x1 x2 x3 l4 x6 w) → G X 0 0 32 [(0, .inr (.inl (some t))), (1, .inl x1), (2, .inl x2), (3, .inl x3), (4, .inr (.inr (.inl l4))), (6, .inl x6)] [] w := by
  have hj : ∀ j, j < 12 → j < nLX X := fun j q => by rw [hnL]; exact q
  intro fu
  induction fu with
  | zero => intro x1 x2 x3 l4 x6 w hF; exact okN hF
  | succ fu ih =>
    intro x1 x2 x3 l4 x6 w hF
    rw [fX7_chance_32] at hF
    refine g_iload (pc := 32) h 5 rfl dX7_chance_32 ?_
    refine g_iload_n (pc := 34) h 2 rfl dX7_chance_34 ?_
    refine g_icmp_ge (pc := 35) (tgt := 128) h dX7_chance_35 (by decide) hF (fun hF => ?_) (fun hF => ?_)
    · refine g_lload (pc := 128) h 4 rfl dX7_chance_128 ?_
      refine g_lstore (pc := 130) (lv' := [(6, .inr (.inr (.inl l4))), (0, .inr (.inl (some t))), (1, .inl x1), (2, .inl x2), (3, .inl x3), (4, .inr (.inr (.inl l4)))]) h dX7_chance_130 (hj 7 (by decide)) rfl ?_
      refine g_iload_n (pc := 132) h 3 rfl dX7_chance_132 ?_
      refine g_i2l (pc := 133) h dX7_chance_133 ?_
      refine g_lstore (pc := 134) (lv' := [(8, .inr (.inr (.inl (x2.toInt64)))), (6, .inr (.inr (.inl l4))), (0, .inr (.inl (some t))), (1, .inl x1), (2, .inl x2), (3, .inl x3), (4, .inr (.inr (.inl l4)))]) h dX7_chance_134 (hj 9 (by decide)) rfl ?_
      refine g_lv (lv' := [(2, .inl x2), (3, .inl x3), (4, .inr (.inr (.inl l4))), (6, .inr (.inr (.inl l4))), (8, .inr (.inr (.inl (x2.toInt64))))]) [4, 5, 6, 1, 0] rfl ?_
      exact kX7_chance_136 h hr hnL ht _ _ _ _ _ _ _ hF
    · refine g_aload_n (pc := 38) h 0 rfl dX7_chance_38 ?_
      refine g_iload_n (pc := 39) h 1 rfl dX7_chance_39 ?_
      refine g_iload (pc := 40) h 5 rfl dX7_chance_40 ?_
      refine g_iadd (pc := 42) h dX7_chance_42 ?_
      refine g_cvV (pc := 43) (st := []) h mX7_draws cvX7_403 (inw ht) (by decide) ⟨by decide, by decide⟩ (Nat.le_of_ble_eq_true rfl) rfl rfl dX7_chance_43 hF (fun u_5 w_6 hF => ?_)
      refine g_iconst (pc := 46) (v := (1 : Int32)) h dX7_chance_46 (by decide) ?_
      refine g_istore (pc := 47) (lv' := [(7, .inl (1 : Int32)), (0, .inr (.inl (some t))), (1, .inl x1), (2, .inl x2), (3, .inl x3), (4, .inr (.inr (.inl l4))), (6, .inl x6)]) h dX7_chance_47 (hj 7 (by decide)) rfl ?_
      refine g_iconst (pc := 49) (v := (0 : Int32)) h dX7_chance_49 (by decide) ?_
      refine g_istore (pc := 50) (lv' := [(8, .inl (0 : Int32)), (7, .inl (1 : Int32)), (0, .inr (.inl (some t))), (1, .inl x1), (2, .inl x2), (3, .inl x3), (4, .inr (.inr (.inl l4))), (6, .inl x6)]) h dX7_chance_50 (hj 8 (by decide)) rfl ?_
      refine g_lv (lv' := [(0, .inr (.inl (some t))), (1, .inl x1), (2, .inl x2), (3, .inl x3), (4, .inr (.inr (.inl l4))), (6, .inl x6), (7, .inl (1 : Int32)), (8, .inl (0 : Int32))]) [2, 3, 4, 5, 6, 7, 1, 0] rfl ?_
      exact kX7_chance_52 h hr hnL ht (fun z0 z1 z2 z3 z4 z5 hF => ih z0 z1 z2 z3 z4 z5 hF) _ _ _ _ _ _ _ _ _ hF
def fX7_chance (t : Nat) (x1 : Int32) (x2 : Int32) (x3 : Int32) (w : Wd) : Option (Int64 × Wd) :=
  bnd (fX7_in (x2.toInt64) (1 : Int64) (20 : Int64) w) (fun x_1 w_2 => if x_1 = 0 then
    (fX7_chance_22 t w_2)
  else
    (bnd (fX7_in (x3.toInt64) (0 : Int64) (1 : Int64) w_2) (fun x_3 w_4 => if x_3 = 0 then
      (fX7_chance_22 t w_4)
    else
      (fX7_chance_32 t FU x1 x2 x3 (0 : Int64) (0 : Int32) w_4))))
set_option maxHeartbeats 4000000 in
theorem mX7_chance {Γ : En} {t : Nat} {x1 : Int32} {x2 : Int32} {x3 : Int32} {w : Wd} (ht : t < wn w ∧ kd t = 7) : MtL Γ yX7_chance cX7_chance 12 (some .long) 48 0 0 [rv Γ (some t), .int x1, .int x2, .int x3] w (fX7_chance t x1 x2 x3 w) := by
  refine mtL [.inr (.inl (some t)), .inl x1, .inl x2, .inl x3] rfl (Nat.le_of_ble_eq_true rfl) (fun X hΓ hnL hn0 h _ hr hF => ?_)
  subst hΓ
  have ht : InN X t 7 := ⟨by rw [hn0]; exact ht.1, ht.2⟩
  have h : Ok X cX7_chance RX7 48 0 0 := h
  have hj : ∀ j, j < 12 → j < nLX X := fun j q => by rw [hnL]; exact q
  show G X 0 0 0 [(0, .inr (.inl (some t))), (1, .inl x1), (2, .inl x2), (3, .inl x3)] [] w
  unfold fX7_chance at hF
  refine g_iload_n (pc := 0) h 2 rfl dX7_chance_0 ?_
  refine g_i2l (pc := 1) h dX7_chance_1 ?_
  refine g_lconst (pc := 2) (v := (1 : Int64)) h dX7_chance_2 (by decide) ?_
  refine g_ldc2 (pc := 3) h wcL_X7_409 dX7_chance_3 ?_
  refine g_csI (pc := 6) (st := []) h mX7_in csX7_67 (by decide) ⟨by decide, by decide⟩ (Nat.le_of_ble_eq_true rfl) rfl rfl dX7_chance_6 hF (fun x_1 w_2 hF => ?_)
  refine g_if_eq (pc := 9) (tgt := 22) h dX7_chance_9 (by decide) hF (fun hF => ?_) (fun hF => ?_)
  · refine g_lv (lv' := []) [] rfl ?_
    exact kX7_chance_22 h hr hnL ht _ hF
  · refine g_iload_n (pc := 12) h 3 rfl dX7_chance_12 ?_
    refine g_i2l (pc := 13) h dX7_chance_13 ?_
    refine g_lconst (pc := 14) (v := (0 : Int64)) h dX7_chance_14 (by decide) ?_
    refine g_lconst (pc := 15) (v := (1 : Int64)) h dX7_chance_15 (by decide) ?_
    refine g_csI (pc := 16) (st := []) h mX7_in csX7_67 (by decide) ⟨by decide, by decide⟩ (Nat.le_of_ble_eq_true rfl) rfl rfl dX7_chance_16 hF (fun x_3 w_4 hF => ?_)
    refine g_if_ne (pc := 19) (tgt := 26) h dX7_chance_19 (by decide) hF (fun hF => ?_) (fun hF => ?_)
    · refine g_lconst (pc := 26) (v := (0 : Int64)) h dX7_chance_26 (by decide) ?_
      refine g_lstore (pc := 27) (lv' := [(4, .inr (.inr (.inl (0 : Int64)))), (0, .inr (.inl (some t))), (1, .inl x1), (2, .inl x2), (3, .inl x3)]) h dX7_chance_27 (hj 5 (by decide)) rfl ?_
      refine g_iconst (pc := 29) (v := (0 : Int32)) h dX7_chance_29 (by decide) ?_
      refine g_istore (pc := 30) (lv' := [(6, .inl (0 : Int32)), (4, .inr (.inr (.inl (0 : Int64)))), (0, .inr (.inl (some t))), (1, .inl x1), (2, .inl x2), (3, .inl x3)]) h dX7_chance_30 (hj 6 (by decide)) rfl ?_
      refine g_lv (lv' := [(0, .inr (.inl (some t))), (1, .inl x1), (2, .inl x2), (3, .inl x3), (4, .inr (.inr (.inl (0 : Int64)))), (6, .inl (0 : Int32))]) [2, 3, 4, 5, 1, 0] rfl ?_
      exact kX7_chance_32 h hr hnL ht _ _ _ _ _ _ _ hF
    · refine g_lv (lv' := []) [] rfl ?_
      exact kX7_chance_22 h hr hnL ht _ hF
def fX7_image_28 (t : Nat) : Nat → Int32 → Wd → Option (Int32 × Wd)
  | 0 => fun _ _ => none
  | n + 1 => fun x1 w =>
    if (30 : Int32) ≤ x1 then
      (lw (sI w t 39 (gI w t 11)) (fun w_4 => lw (sI w_4 t 40 (gI w_4 t 7)) (fun w_5 => lw (sI w_5 t 41 (gI w_5 t 4)) (fun w_6 => some (gI w_6 t 11, w_6)))))
    else
      (dr (gR w t 10) 8 w (fun a_7 => grd (vin x1 (ln a_7)) (dr (gR w t 38) 8 w (fun a_8 => grd (vin x1 (ln a_8)) (lw (sI w a_8 x1.toNatClampNeg (gI w a_7 x1.toNatClampNeg)) (fun w_9 => fX7_image_28 t n (x1 + (1 : Int32)) w_9))))))
set_option maxHeartbeats 4000000 in
theorem kX7_image_28 {X : Cx} (h : Ok X cX7_image RX7 2 0 0) (hr : RetI X .int 0 0) (hnL : nLX X = 2) {t : Nat} (ht : InN X t 7) : ∀ (fu : Nat) (x1 : Int32) (w : Wd), OkR X Value.int (fX7_image_28 t fu x1 w) → G X 0 0 28 [(0, .inr (.inl (some t))), (1, .inl x1)] [] w := by
  have hj : ∀ j, j < 2 → j < nLX X := fun j q => by rw [hnL]; exact q
  intro fu
  induction fu with
  | zero => intro x1 w hF; exact okN hF
  | succ fu ih =>
    intro x1 w hF
    rw [fX7_image_28] at hF
    refine g_iload_n (pc := 28) h 1 rfl dX7_image_28 ?_
    refine g_bipush (pc := 29) (v := (30 : Int32)) h dX7_image_29 (by decide) ?_
    refine g_icmp_ge (pc := 31) (tgt := 52) h dX7_image_31 (by decide) hF (fun hF => ?_) (fun hF => ?_)
    · refine g_aload_n (pc := 52) h 0 rfl dX7_image_52 ?_
      refine g_aload_n (pc := 53) h 0 rfl dX7_image_53 ?_
      refine g_getI (pc := 54) h fdX7_64 (inw ht) (by decide) dX7_image_54 ?_
      refine g_putI (pc := 57) h fdX7_41 (inw ht) (by decide) ⟨rfl, rfl⟩ dX7_image_57 ?_
      refine g_w hF (fun w_4 hF => ?_)
      refine g_aload_n (pc := 60) h 0 rfl dX7_image_60 ?_
      refine g_aload_n (pc := 61) h 0 rfl dX7_image_61 ?_
      refine g_getI (pc := 62) h fdX7_95 (inw ht) (by decide) dX7_image_62 ?_
      refine g_putI (pc := 65) h fdX7_413 (inw ht) (by decide) ⟨rfl, rfl⟩ dX7_image_65 ?_
      refine g_w hF (fun w_5 hF => ?_)
      refine g_aload_n (pc := 68) h 0 rfl dX7_image_68 ?_
      refine g_aload_n (pc := 69) h 0 rfl dX7_image_69 ?_
      refine g_getI (pc := 70) h fdX7_98 (inw ht) (by decide) dX7_image_70 ?_
      refine g_putI (pc := 73) h fdX7_416 (inw ht) (by decide) ⟨rfl, rfl⟩ dX7_image_73 ?_
      refine g_w hF (fun w_6 hF => ?_)
      refine g_aload_n (pc := 76) h 0 rfl dX7_image_76 ?_
      refine g_getI (pc := 77) h fdX7_64 (inw ht) (by decide) dX7_image_77 ?_
      exact g_iret (pc := 80) h hr ⟨Nat.le_refl _, Nat.le_refl _⟩ hF dX7_image_80
    · refine g_aload_n (pc := 34) h 0 rfl dX7_image_34 ?_
      refine g_getR (pc := 35) h fdX7_38 (inw ht) rfl dX7_image_35 ?_
      refine g_iload_n (pc := 38) h 1 rfl dX7_image_38 ?_
      refine g_aload_n (pc := 39) h 0 rfl dX7_image_39 ?_
      refine g_getR (pc := 40) h fdX7_29 (inw ht) rfl dX7_image_40 ?_
      refine g_iload_n (pc := 43) h 1 rfl dX7_image_43 ?_
      refine g_dr hF (fun a_7 e_a_7 h_a_7 hF => ?_)
      rw [e_a_7]
      obtain ⟨g_3, hF⟩ := grd_ok hF
      refine g_iald (pc := 44) h h_a_7 g_3 dX7_image_44 ?_
      refine g_dr hF (fun a_8 e_a_8 h_a_8 hF => ?_)
      rw [e_a_8]
      obtain ⟨g_4, hF⟩ := grd_ok hF
      refine g_iast (pc := 45) h h_a_8 g_4 dX7_image_45 ?_
      refine g_w hF (fun w_9 hF => ?_)
      refine g_iinc (pc := 46) (lv' := [(1, .inl (x1 + (1 : Int32))), (0, .inr (.inl (some t)))]) h 1 rfl dX7_image_46 (dv := (1 : Int32)) (by decide) (hj 1 (by decide)) rfl ?_
      refine g_goto (pc := 49) (tgt := 28) h dX7_image_49 (by decide) ?_
      refine g_lv (lv' := [(0, .inr (.inl (some t))), (1, .inl (x1 + (1 : Int32)))]) [1, 0] rfl ?_
      exact ih _ _ hF
def fX7_image_2 (t : Nat) : Nat → Int32 → Wd → Option (Int32 × Wd)
  | 0 => fun _ _ => none
  | n + 1 => fun x1 w =>
    if (8 : Int32) ≤ x1 then
      (fX7_image_28 t FU (0 : Int32) w)
    else
      (dr (gR w t 8) 8 w (fun a_1 => grd (vin x1 (ln a_1)) (dr (gR w t 37) 8 w (fun a_2 => grd (vin x1 (ln a_2)) (lw (sI w a_2 x1.toNatClampNeg (gI w a_1 x1.toNatClampNeg)) (fun w_3 => fX7_image_2 t n (x1 + (1 : Int32)) w_3))))))
set_option maxHeartbeats 4000000 in
theorem kX7_image_2 {X : Cx} (h : Ok X cX7_image RX7 2 0 0) (hr : RetI X .int 0 0) (hnL : nLX X = 2) {t : Nat} (ht : InN X t 7) : ∀ (fu : Nat) (x1 : Int32) (w : Wd), OkR X Value.int (fX7_image_2 t fu x1 w) → G X 0 0 2 [(0, .inr (.inl (some t))), (1, .inl x1)] [] w := by
  have hj : ∀ j, j < 2 → j < nLX X := fun j q => by rw [hnL]; exact q
  intro fu
  induction fu with
  | zero => intro x1 w hF; exact okN hF
  | succ fu ih =>
    intro x1 w hF
    rw [fX7_image_2] at hF
    refine g_iload_n (pc := 2) h 1 rfl dX7_image_2 ?_
    refine g_bipush (pc := 3) (v := (8 : Int32)) h dX7_image_3 (by decide) ?_
    refine g_icmp_ge (pc := 5) (tgt := 26) h dX7_image_5 (by decide) hF (fun hF => ?_) (fun hF => ?_)
    · refine g_iconst (pc := 26) (v := (0 : Int32)) h dX7_image_26 (by decide) ?_
      refine g_istore_n (pc := 27) (lv' := [(1, .inl (0 : Int32)), (0, .inr (.inl (some t)))]) h dX7_image_27 (hj 1 (by decide)) rfl ?_
      refine g_lv (lv' := [(0, .inr (.inl (some t))), (1, .inl (0 : Int32))]) [1, 0] rfl ?_
      exact kX7_image_28 h hr hnL ht _ _ _ hF
    · refine g_aload_n (pc := 8) h 0 rfl dX7_image_8 ?_
      refine g_getR (pc := 9) h fdX7_35 (inw ht) rfl dX7_image_9 ?_
      refine g_iload_n (pc := 12) h 1 rfl dX7_image_12 ?_
      refine g_aload_n (pc := 13) h 0 rfl dX7_image_13 ?_
      refine g_getR (pc := 14) h fdX7_23 (inw ht) rfl dX7_image_14 ?_
      refine g_iload_n (pc := 17) h 1 rfl dX7_image_17 ?_
      refine g_dr hF (fun a_1 e_a_1 h_a_1 hF => ?_)
      rw [e_a_1]
      obtain ⟨g_1, hF⟩ := grd_ok hF
      refine g_iald (pc := 18) h h_a_1 g_1 dX7_image_18 ?_
      refine g_dr hF (fun a_2 e_a_2 h_a_2 hF => ?_)
      rw [e_a_2]
      obtain ⟨g_2, hF⟩ := grd_ok hF
      refine g_iast (pc := 19) h h_a_2 g_2 dX7_image_19 ?_
      refine g_w hF (fun w_3 hF => ?_)
      refine g_iinc (pc := 20) (lv' := [(1, .inl (x1 + (1 : Int32))), (0, .inr (.inl (some t)))]) h 1 rfl dX7_image_20 (dv := (1 : Int32)) (by decide) (hj 1 (by decide)) rfl ?_
      refine g_goto (pc := 23) (tgt := 2) h dX7_image_23 (by decide) ?_
      refine g_lv (lv' := [(0, .inr (.inl (some t))), (1, .inl (x1 + (1 : Int32)))]) [1, 0] rfl ?_
      exact ih _ _ hF
def fX7_image (t : Nat) (w : Wd) : Option (Int32 × Wd) :=
  fX7_image_2 t FU (0 : Int32) w
set_option maxHeartbeats 4000000 in
theorem mX7_image {Γ : En} {t : Nat} {w : Wd} (ht : t < wn w ∧ kd t = 7) : MtI Γ yX7_image cX7_image 2 (some .int) 2 0 0 [rv Γ (some t)] w (fX7_image t w) := by
  refine mtI [.inr (.inl (some t))] rfl (Nat.le_of_ble_eq_true rfl) (fun X hΓ hnL hn0 h _ hr hF => ?_)
  subst hΓ
  have ht : InN X t 7 := ⟨by rw [hn0]; exact ht.1, ht.2⟩
  have h : Ok X cX7_image RX7 2 0 0 := h
  have hj : ∀ j, j < 2 → j < nLX X := fun j q => by rw [hnL]; exact q
  show G X 0 0 0 [(0, .inr (.inl (some t)))] [] w
  unfold fX7_image at hF
  refine g_iconst (pc := 0) (v := (0 : Int32)) h dX7_image_0 (by decide) ?_
  refine g_istore_n (pc := 1) (lv' := [(1, .inl (0 : Int32)), (0, .inr (.inl (some t)))]) h dX7_image_1 (hj 1 (by decide)) rfl ?_
  refine g_lv (lv' := [(0, .inr (.inl (some t))), (1, .inl (0 : Int32))]) [1, 0] rfl ?_
  exact kX7_image_2 h hr hnL ht _ _ _ hF
def fX7_back_39 (t : Nat) : Nat → Int32 → Wd → Option (Int32 × Wd)
  | 0 => fun _ _ => none
  | n + 1 => fun x1 w =>
    if (30 : Int32) ≤ x1 then
      (lw (sI w t 11 (gI w t 39)) (fun w_4 => lw (sI w_4 t 7 (gI w_4 t 40)) (fun w_5 => lw (sI w_5 t 4 (gI w_5 t 41)) (fun w_6 => some (gI w_6 t 11, w_6)))))
    else
      (dr (gR w t 38) 8 w (fun a_7 => grd (vin x1 (ln a_7)) (dr (gR w t 10) 8 w (fun a_8 => grd (vin x1 (ln a_8)) (lw (sI w a_8 x1.toNatClampNeg (gI w a_7 x1.toNatClampNeg)) (fun w_9 => fX7_back_39 t n (x1 + (1 : Int32)) w_9))))))
set_option maxHeartbeats 4000000 in
theorem kX7_back_39 {X : Cx} (h : Ok X cX7_back RX7 2 0 0) (hr : RetI X .int 0 0) (hnL : nLX X = 2) {t : Nat} (ht : InN X t 7) : ∀ (fu : Nat) (x1 : Int32) (w : Wd), OkR X Value.int (fX7_back_39 t fu x1 w) → G X 0 0 39 [(0, .inr (.inl (some t))), (1, .inl x1)] [] w := by
  have hj : ∀ j, j < 2 → j < nLX X := fun j q => by rw [hnL]; exact q
  intro fu
  induction fu with
  | zero => intro x1 w hF; exact okN hF
  | succ fu ih =>
    intro x1 w hF
    rw [fX7_back_39] at hF
    refine g_iload_n (pc := 39) h 1 rfl dX7_back_39 ?_
    refine g_bipush (pc := 40) (v := (30 : Int32)) h dX7_back_40 (by decide) ?_
    refine g_icmp_ge (pc := 42) (tgt := 63) h dX7_back_42 (by decide) hF (fun hF => ?_) (fun hF => ?_)
    · refine g_aload_n (pc := 63) h 0 rfl dX7_back_63 ?_
      refine g_aload_n (pc := 64) h 0 rfl dX7_back_64 ?_
      refine g_getI (pc := 65) h fdX7_41 (inw ht) (by decide) dX7_back_65 ?_
      refine g_putI (pc := 68) h fdX7_64 (inw ht) (by decide) ⟨rfl, rfl⟩ dX7_back_68 ?_
      refine g_w hF (fun w_4 hF => ?_)
      refine g_aload_n (pc := 71) h 0 rfl dX7_back_71 ?_
      refine g_aload_n (pc := 72) h 0 rfl dX7_back_72 ?_
      refine g_getI (pc := 73) h fdX7_413 (inw ht) (by decide) dX7_back_73 ?_
      refine g_putI (pc := 76) h fdX7_95 (inw ht) (by decide) ⟨rfl, rfl⟩ dX7_back_76 ?_
      refine g_w hF (fun w_5 hF => ?_)
      refine g_aload_n (pc := 79) h 0 rfl dX7_back_79 ?_
      refine g_aload_n (pc := 80) h 0 rfl dX7_back_80 ?_
      refine g_getI (pc := 81) h fdX7_416 (inw ht) (by decide) dX7_back_81 ?_
      refine g_putI (pc := 84) h fdX7_98 (inw ht) (by decide) ⟨rfl, rfl⟩ dX7_back_84 ?_
      refine g_w hF (fun w_6 hF => ?_)
      refine g_aload_n (pc := 87) h 0 rfl dX7_back_87 ?_
      refine g_getI (pc := 88) h fdX7_64 (inw ht) (by decide) dX7_back_88 ?_
      exact g_iret (pc := 91) h hr ⟨Nat.le_refl _, Nat.le_refl _⟩ hF dX7_back_91
    · refine g_aload_n (pc := 45) h 0 rfl dX7_back_45 ?_
      refine g_getR (pc := 46) h fdX7_29 (inw ht) rfl dX7_back_46 ?_
      refine g_iload_n (pc := 49) h 1 rfl dX7_back_49 ?_
      refine g_aload_n (pc := 50) h 0 rfl dX7_back_50 ?_
      refine g_getR (pc := 51) h fdX7_38 (inw ht) rfl dX7_back_51 ?_
      refine g_iload_n (pc := 54) h 1 rfl dX7_back_54 ?_
      refine g_dr hF (fun a_7 e_a_7 h_a_7 hF => ?_)
      rw [e_a_7]
      obtain ⟨g_3, hF⟩ := grd_ok hF
      refine g_iald (pc := 55) h h_a_7 g_3 dX7_back_55 ?_
      refine g_dr hF (fun a_8 e_a_8 h_a_8 hF => ?_)
      rw [e_a_8]
      obtain ⟨g_4, hF⟩ := grd_ok hF
      refine g_iast (pc := 56) h h_a_8 g_4 dX7_back_56 ?_
      refine g_w hF (fun w_9 hF => ?_)
      refine g_iinc (pc := 57) (lv' := [(1, .inl (x1 + (1 : Int32))), (0, .inr (.inl (some t)))]) h 1 rfl dX7_back_57 (dv := (1 : Int32)) (by decide) (hj 1 (by decide)) rfl ?_
      refine g_goto (pc := 60) (tgt := 39) h dX7_back_60 (by decide) ?_
      refine g_lv (lv' := [(0, .inr (.inl (some t))), (1, .inl (x1 + (1 : Int32)))]) [1, 0] rfl ?_
      exact ih _ _ hF
def fX7_back_13 (t : Nat) : Nat → Int32 → Wd → Option (Int32 × Wd)
  | 0 => fun _ _ => none
  | n + 1 => fun x1 w =>
    if (8 : Int32) ≤ x1 then
      (fX7_back_39 t FU (0 : Int32) w)
    else
      (dr (gR w t 37) 8 w (fun a_1 => grd (vin x1 (ln a_1)) (dr (gR w t 8) 8 w (fun a_2 => grd (vin x1 (ln a_2)) (lw (sI w a_2 x1.toNatClampNeg (gI w a_1 x1.toNatClampNeg)) (fun w_3 => fX7_back_13 t n (x1 + (1 : Int32)) w_3))))))
set_option maxHeartbeats 4000000 in
theorem kX7_back_13 {X : Cx} (h : Ok X cX7_back RX7 2 0 0) (hr : RetI X .int 0 0) (hnL : nLX X = 2) {t : Nat} (ht : InN X t 7) : ∀ (fu : Nat) (x1 : Int32) (w : Wd), OkR X Value.int (fX7_back_13 t fu x1 w) → G X 0 0 13 [(0, .inr (.inl (some t))), (1, .inl x1)] [] w := by
  have hj : ∀ j, j < 2 → j < nLX X := fun j q => by rw [hnL]; exact q
  intro fu
  induction fu with
  | zero => intro x1 w hF; exact okN hF
  | succ fu ih =>
    intro x1 w hF
    rw [fX7_back_13] at hF
    refine g_iload_n (pc := 13) h 1 rfl dX7_back_13 ?_
    refine g_bipush (pc := 14) (v := (8 : Int32)) h dX7_back_14 (by decide) ?_
    refine g_icmp_ge (pc := 16) (tgt := 37) h dX7_back_16 (by decide) hF (fun hF => ?_) (fun hF => ?_)
    · refine g_iconst (pc := 37) (v := (0 : Int32)) h dX7_back_37 (by decide) ?_
      refine g_istore_n (pc := 38) (lv' := [(1, .inl (0 : Int32)), (0, .inr (.inl (some t)))]) h dX7_back_38 (hj 1 (by decide)) rfl ?_
      refine g_lv (lv' := [(0, .inr (.inl (some t))), (1, .inl (0 : Int32))]) [1, 0] rfl ?_
      exact kX7_back_39 h hr hnL ht _ _ _ hF
    · refine g_aload_n (pc := 19) h 0 rfl dX7_back_19 ?_
      refine g_getR (pc := 20) h fdX7_23 (inw ht) rfl dX7_back_20 ?_
      refine g_iload_n (pc := 23) h 1 rfl dX7_back_23 ?_
      refine g_aload_n (pc := 24) h 0 rfl dX7_back_24 ?_
      refine g_getR (pc := 25) h fdX7_35 (inw ht) rfl dX7_back_25 ?_
      refine g_iload_n (pc := 28) h 1 rfl dX7_back_28 ?_
      refine g_dr hF (fun a_1 e_a_1 h_a_1 hF => ?_)
      rw [e_a_1]
      obtain ⟨g_1, hF⟩ := grd_ok hF
      refine g_iald (pc := 29) h h_a_1 g_1 dX7_back_29 ?_
      refine g_dr hF (fun a_2 e_a_2 h_a_2 hF => ?_)
      rw [e_a_2]
      obtain ⟨g_2, hF⟩ := grd_ok hF
      refine g_iast (pc := 30) h h_a_2 g_2 dX7_back_30 ?_
      refine g_w hF (fun w_3 hF => ?_)
      refine g_iinc (pc := 31) (lv' := [(1, .inl (x1 + (1 : Int32))), (0, .inr (.inl (some t)))]) h 1 rfl dX7_back_31 (dv := (1 : Int32)) (by decide) (hj 1 (by decide)) rfl ?_
      refine g_goto (pc := 34) (tgt := 13) h dX7_back_34 (by decide) ?_
      refine g_lv (lv' := [(0, .inr (.inl (some t))), (1, .inl (x1 + (1 : Int32)))]) [1, 0] rfl ?_
      exact ih _ _ hF
def fX7_back (t : Nat) (w : Wd) : Option (Int32 × Wd) :=
  if (gI w t 39) = (-1 : Int32) then
    (some ((-3 : Int32), w))
  else
    (fX7_back_13 t FU (0 : Int32) w)
set_option maxHeartbeats 4000000 in
theorem mX7_back {Γ : En} {t : Nat} {w : Wd} (ht : t < wn w ∧ kd t = 7) : MtI Γ yX7_back cX7_back 2 (some .int) 2 0 0 [rv Γ (some t)] w (fX7_back t w) := by
  refine mtI [.inr (.inl (some t))] rfl (Nat.le_of_ble_eq_true rfl) (fun X hΓ hnL hn0 h _ hr hF => ?_)
  subst hΓ
  have ht : InN X t 7 := ⟨by rw [hn0]; exact ht.1, ht.2⟩
  have h : Ok X cX7_back RX7 2 0 0 := h
  have hj : ∀ j, j < 2 → j < nLX X := fun j q => by rw [hnL]; exact q
  show G X 0 0 0 [(0, .inr (.inl (some t)))] [] w
  unfold fX7_back at hF
  refine g_aload_n (pc := 0) h 0 rfl dX7_back_0 ?_
  refine g_getI (pc := 1) h fdX7_41 (inw ht) (by decide) dX7_back_1 ?_
  refine g_iconst (pc := 4) (v := (-1 : Int32)) h dX7_back_4 (by decide) ?_
  refine g_icmp_ne (pc := 5) (tgt := 11) h dX7_back_5 (by decide) hF (fun hF => ?_) (fun hF => ?_)
  · refine g_iconst (pc := 11) (v := (0 : Int32)) h dX7_back_11 (by decide) ?_
    refine g_istore_n (pc := 12) (lv' := [(1, .inl (0 : Int32)), (0, .inr (.inl (some t)))]) h dX7_back_12 (hj 1 (by decide)) rfl ?_
    refine g_lv (lv' := [(0, .inr (.inl (some t))), (1, .inl (0 : Int32))]) [1, 0] rfl ?_
    exact kX7_back_13 h hr hnL ht _ _ _ hF
  · refine g_bipush (pc := 8) (v := (-3 : Int32)) h dX7_back_8 (by decide) ?_
    exact g_iret (pc := 10) h hr ⟨Nat.le_refl _, Nat.le_refl _⟩ hF dX7_back_10
def fX7_count_25 (t : Nat) (x1 : Int32) (w : Wd) : Option (Int32 × Wd) :=
  if x1 = 0 then
    (some (gI w t 11, w))
  else
    (if x1 = (1 : Int32) then
      (some (gI w t 7, w))
    else
      (if x1 = (4 : Int32) then
        (some (gI w t 3, w))
      else
        (if x1 = (5 : Int32) then
          (some (gI w t 6, w))
        else
          (some (gI w t 4, w)))))
set_option maxHeartbeats 4000000 in
theorem kX7_count_25 {X : Cx} (h : Ok X cX7_count RX7 47 0 0) (hr : RetI X .int 0 0) (hnL : nLX X = 4) {t : Nat} (ht : InN X t 7) : ∀ (x1 : Int32) (w : Wd), OkR X Value.int (fX7_count_25 t x1 w) → G X 0 0 25 [(0, .inr (.inl (some t))), (1, .inl x1)] [] w := by
  have hj : ∀ j, j < 4 → j < nLX X := fun j q => by rw [hnL]; exact q
  intro x1 w hF
  unfold fX7_count_25 at hF
  refine g_iload_n (pc := 25) h 1 rfl dX7_count_25 ?_
  refine g_if_ne (pc := 26) (tgt := 36) h dX7_count_26 (by decide) hF (fun hF => ?_) (fun hF => ?_)
  · refine g_iload_n (pc := 36) h 1 rfl dX7_count_36 ?_
    refine g_iconst (pc := 37) (v := (1 : Int32)) h dX7_count_37 (by decide) ?_
    refine g_icmp_ne (pc := 38) (tgt := 48) h dX7_count_38 (by decide) hF (fun hF => ?_) (fun hF => ?_)
    · refine g_iload_n (pc := 48) h 1 rfl dX7_count_48 ?_
      refine g_iconst (pc := 49) (v := (4 : Int32)) h dX7_count_49 (by decide) ?_
      refine g_icmp_ne (pc := 50) (tgt := 60) h dX7_count_50 (by decide) hF (fun hF => ?_) (fun hF => ?_)
      · refine g_iload_n (pc := 60) h 1 rfl dX7_count_60 ?_
        refine g_iconst (pc := 61) (v := (5 : Int32)) h dX7_count_61 (by decide) ?_
        refine g_icmp_ne (pc := 62) (tgt := 72) h dX7_count_62 (by decide) hF (fun hF => ?_) (fun hF => ?_)
        · refine g_aload_n (pc := 72) h 0 rfl dX7_count_72 ?_
          refine g_getI (pc := 73) h fdX7_98 (inw ht) (by decide) dX7_count_73 ?_
          exact g_iret (pc := 76) h hr ⟨Nat.le_refl _, Nat.le_refl _⟩ hF dX7_count_76
        · refine g_aload_n (pc := 65) h 0 rfl dX7_count_65 ?_
          refine g_getI (pc := 66) h fdX7_131 (inw ht) (by decide) dX7_count_66 ?_
          refine g_goto (pc := 69) (tgt := 76) h dX7_count_69 (by decide) ?_
          exact g_iret (pc := 76) h hr ⟨Nat.le_refl _, Nat.le_refl _⟩ hF dX7_count_76
      · refine g_aload_n (pc := 53) h 0 rfl dX7_count_53 ?_
        refine g_getI (pc := 54) h fdX7_61 (inw ht) (by decide) dX7_count_54 ?_
        refine g_goto (pc := 57) (tgt := 76) h dX7_count_57 (by decide) ?_
        exact g_iret (pc := 76) h hr ⟨Nat.le_refl _, Nat.le_refl _⟩ hF dX7_count_76
    · refine g_aload_n (pc := 41) h 0 rfl dX7_count_41 ?_
      refine g_getI (pc := 42) h fdX7_95 (inw ht) (by decide) dX7_count_42 ?_
      refine g_goto (pc := 45) (tgt := 76) h dX7_count_45 (by decide) ?_
      exact g_iret (pc := 76) h hr ⟨Nat.le_refl _, Nat.le_refl _⟩ hF dX7_count_76
  · refine g_aload_n (pc := 29) h 0 rfl dX7_count_29 ?_
    refine g_getI (pc := 30) h fdX7_64 (inw ht) (by decide) dX7_count_30 ?_
    refine g_goto (pc := 33) (tgt := 76) h dX7_count_33 (by decide) ?_
    exact g_iret (pc := 76) h hr ⟨Nat.le_refl _, Nat.le_refl _⟩ hF dX7_count_76
def fX7_count_124 (k81 : Int32 → Int32 → Int32 → Wd → Option (Int32 × Wd)) (t : Nat) (x1 : Int32) (x3 : Int32) (y0 : Int32) (y1 : Int32) (w : Wd) : Option (Int32 × Wd) :=
  lt (y1 + y0) (fun x2_9 => k81 x1 x2_9 (x3 + (1 : Int32)) w)
set_option maxHeartbeats 4000000 in
theorem kX7_count_124 {X : Cx} (h : Ok X cX7_count RX7 47 0 0) (hr : RetI X .int 0 0) (hnL : nLX X = 4) {t : Nat} (ht : InN X t 7) {k81 : Int32 → Int32 → Int32 → Wd → Option (Int32 × Wd)} (hk81 : ∀ (x1 : Int32) (x2 : Int32) (x3 : Int32) (w : Wd), OkR X Value.int (k81 x1 x2 x3 w) → G X 0 0 81 [(0, .inr (.inl (some t))), (1, .inl x1), (2, .inl x2), (3, .inl x3)] [] w) : ∀ (x1 : Int32) (x3 : Int32) (y0 : Int32) (y1 : Int32) (w : Wd), OkR X Value.int (fX7_count_124 k81 t x1 x3 y0 y1 w) → G X 0 0 124 [(0, .inr (.inl (some t))), (1, .inl x1), (3, .inl x3)] [.int y0, .int y1] w := by
  have hj : ∀ j, j < 4 → j < nLX X := fun j q => by rw [hnL]; exact q
  intro x1 x3 y0 y1 w hF
  unfold fX7_count_124 at hF
  refine g_iadd (pc := 124) h dX7_count_124 ?_
  refine g_t hF (fun x2_9 hF => ?_)
  refine g_istore_n (pc := 125) (lv' := [(2, .inl x2_9), (0, .inr (.inl (some t))), (1, .inl x1), (3, .inl x3)]) h dX7_count_125 (hj 2 (by decide)) rfl ?_
  refine g_iinc (pc := 126) (lv' := [(3, .inl (x3 + (1 : Int32))), (2, .inl x2_9), (0, .inr (.inl (some t))), (1, .inl x1)]) h 3 rfl dX7_count_126 (dv := (1 : Int32)) (by decide) (hj 3 (by decide)) rfl ?_
  refine g_goto (pc := 129) (tgt := 81) h dX7_count_129 (by decide) ?_
  refine g_lv (lv' := [(0, .inr (.inl (some t))), (1, .inl x1), (2, .inl x2_9), (3, .inl (x3 + (1 : Int32)))]) [2, 3, 1, 0] rfl ?_
  exact hk81 _ _ _ _ hF
def fX7_count_119 (k81 : Int32 → Int32 → Int32 → Wd → Option (Int32 × Wd)) (t : Nat) (x1 : Int32) (x3 : Int32) (y0 : Int32) (w : Wd) : Option (Int32 × Wd) :=
  fX7_count_124 k81 t x1 x3 (1 : Int32) y0 w
set_option maxHeartbeats 4000000 in
theorem kX7_count_119 {X : Cx} (h : Ok X cX7_count RX7 47 0 0) (hr : RetI X .int 0 0) (hnL : nLX X = 4) {t : Nat} (ht : InN X t 7) {k81 : Int32 → Int32 → Int32 → Wd → Option (Int32 × Wd)} (hk81 : ∀ (x1 : Int32) (x2 : Int32) (x3 : Int32) (w : Wd), OkR X Value.int (k81 x1 x2 x3 w) → G X 0 0 81 [(0, .inr (.inl (some t))), (1, .inl x1), (2, .inl x2), (3, .inl x3)] [] w) : ∀ (x1 : Int32) (x3 : Int32) (y0 : Int32) (w : Wd), OkR X Value.int (fX7_count_119 k81 t x1 x3 y0 w) → G X 0 0 119 [(0, .inr (.inl (some t))), (1, .inl x1), (3, .inl x3)] [.int y0] w := by
  have hj : ∀ j, j < 4 → j < nLX X := fun j q => by rw [hnL]; exact q
  intro x1 x3 y0 w hF
  unfold fX7_count_119 at hF
  refine g_iconst (pc := 119) (v := (1 : Int32)) h dX7_count_119 (by decide) ?_
  refine g_goto (pc := 120) (tgt := 124) h dX7_count_120 (by decide) ?_
  exact kX7_count_124 h hr hnL ht hk81 _ _ _ _ _ hF
def fX7_count_123 (k81 : Int32 → Int32 → Int32 → Wd → Option (Int32 × Wd)) (t : Nat) (x1 : Int32) (x3 : Int32) (y0 : Int32) (w : Wd) : Option (Int32 × Wd) :=
  fX7_count_124 k81 t x1 x3 (0 : Int32) y0 w
set_option maxHeartbeats 4000000 in
theorem kX7_count_123 {X : Cx} (h : Ok X cX7_count RX7 47 0 0) (hr : RetI X .int 0 0) (hnL : nLX X = 4) {t : Nat} (ht : InN X t 7) {k81 : Int32 → Int32 → Int32 → Wd → Option (Int32 × Wd)} (hk81 : ∀ (x1 : Int32) (x2 : Int32) (x3 : Int32) (w : Wd), OkR X Value.int (k81 x1 x2 x3 w) → G X 0 0 81 [(0, .inr (.inl (some t))), (1, .inl x1), (2, .inl x2), (3, .inl x3)] [] w) : ∀ (x1 : Int32) (x3 : Int32) (y0 : Int32) (w : Wd), OkR X Value.int (fX7_count_123 k81 t x1 x3 y0 w) → G X 0 0 123 [(0, .inr (.inl (some t))), (1, .inl x1), (3, .inl x3)] [.int y0] w := by
  have hj : ∀ j, j < 4 → j < nLX X := fun j q => by rw [hnL]; exact q
  intro x1 x3 y0 w hF
  unfold fX7_count_123 at hF
  refine g_iconst (pc := 123) (v := (0 : Int32)) h dX7_count_123 (by decide) ?_
  exact kX7_count_124 h hr hnL ht hk81 _ _ _ _ _ hF
def fX7_count_81 (t : Nat) : Nat → Int32 → Int32 → Int32 → Wd → Option (Int32 × Wd)
  | 0 => fun _ _ _ _ => none
  | n + 1 => fun x1 x2 x3 w =>
    if (gI w t 11) ≤ x3 then
      (some (x2, w))
    else
      (bnd (fX7_begins t x3 w) (fun u_3 w_4 => if x1 = (2 : Int32) then
        (bnd (fX7_isInSocks t x3 w_4) (fun x_7 w_8 => if x_7 = 0 then
          (fX7_count_123 (fX7_count_81 t n) t x1 x3 x2 w_8)
        else
          (fX7_count_119 (fX7_count_81 t n) t x1 x3 x2 w_8)))
      else
        (bnd (fX7_isStopped t x3 w_4) (fun x_5 w_6 => if x_5 = 0 then
          (fX7_count_123 (fX7_count_81 t n) t x1 x3 x2 w_6)
        else
          (fX7_count_119 (fX7_count_81 t n) t x1 x3 x2 w_6)))))
set_option maxHeartbeats 4000000 in
theorem kX7_count_81 {X : Cx} (h : Ok X cX7_count RX7 47 0 0) (hr : RetI X .int 0 0) (hnL : nLX X = 4) {t : Nat} (ht : InN X t 7) : ∀ (fu : Nat) (x1 : Int32) (x2 : Int32) (x3 : Int32) (w : Wd), OkR X Value.int (fX7_count_81 t fu x1 x2 x3 w) → G X 0 0 81 [(0, .inr (.inl (some t))), (1, .inl x1), (2, .inl x2), (3, .inl x3)] [] w := by
  have hj : ∀ j, j < 4 → j < nLX X := fun j q => by rw [hnL]; exact q
  intro fu
  induction fu with
  | zero => intro x1 x2 x3 w hF; exact okN hF
  | succ fu ih =>
    intro x1 x2 x3 w hF
    rw [fX7_count_81] at hF
    refine g_iload_n (pc := 81) h 3 rfl dX7_count_81 ?_
    refine g_aload_n (pc := 82) h 0 rfl dX7_count_82 ?_
    refine g_getI (pc := 83) h fdX7_64 (inw ht) (by decide) dX7_count_83 ?_
    refine g_icmp_ge (pc := 86) (tgt := 132) h dX7_count_86 (by decide) hF (fun hF => ?_) (fun hF => ?_)
    · refine g_iload_n (pc := 132) h 2 rfl dX7_count_132 ?_
      exact g_iret (pc := 133) h hr ⟨Nat.le_refl _, Nat.le_refl _⟩ hF dX7_count_133
    · refine g_aload_n (pc := 89) h 0 rfl dX7_count_89 ?_
      refine g_iload_n (pc := 90) h 3 rfl dX7_count_90 ?_
      refine g_cvV (pc := 91) (st := []) h mX7_begins cvX7_109 (inw ht) (by decide) ⟨by decide, by decide⟩ (Nat.le_of_ble_eq_true rfl) rfl rfl dX7_count_91 hF (fun u_3 w_4 hF => ?_)
      refine g_iload_n (pc := 94) h 2 rfl dX7_count_94 ?_
      refine g_iload_n (pc := 95) h 1 rfl dX7_count_95 ?_
      refine g_iconst (pc := 96) (v := (2 : Int32)) h dX7_count_96 (by decide) ?_
      refine g_icmp_ne (pc := 97) (tgt := 111) h dX7_count_97 (by decide) hF (fun hF => ?_) (fun hF => ?_)
      · refine g_aload_n (pc := 111) h 0 rfl dX7_count_111 ?_
        refine g_iload_n (pc := 112) h 3 rfl dX7_count_112 ?_
        refine g_cvI (pc := 113) (st := [.int x2]) h mX7_isStopped cvX7_125 (inw ht) (by decide) ⟨by decide, by decide⟩ (Nat.le_of_ble_eq_true rfl) rfl rfl dX7_count_113 hF (fun x_5 w_6 hF => ?_)
        refine g_if_eq (pc := 116) (tgt := 123) h dX7_count_116 (by decide) hF (fun hF => ?_) (fun hF => ?_)
        · refine g_lv (lv' := [(0, .inr (.inl (some t))), (1, .inl x1), (3, .inl x3)]) [0, 1, 3] rfl ?_
          exact kX7_count_123 h hr hnL ht (fun z0 z1 z2 z3 hF => ih z0 z1 z2 z3 hF) _ _ _ _ hF
        · refine g_lv (lv' := [(0, .inr (.inl (some t))), (1, .inl x1), (3, .inl x3)]) [0, 1, 3] rfl ?_
          exact kX7_count_119 h hr hnL ht (fun z0 z1 z2 z3 hF => ih z0 z1 z2 z3 hF) _ _ _ _ hF
      · refine g_aload_n (pc := 100) h 0 rfl dX7_count_100 ?_
        refine g_iload_n (pc := 101) h 3 rfl dX7_count_101 ?_
        refine g_cvI (pc := 102) (st := [.int x2]) h mX7_isInSocks cvX7_362 (inw ht) (by decide) ⟨by decide, by decide⟩ (Nat.le_of_ble_eq_true rfl) rfl rfl dX7_count_102 hF (fun x_7 w_8 hF => ?_)
        refine g_if_eq (pc := 105) (tgt := 123) h dX7_count_105 (by decide) hF (fun hF => ?_) (fun hF => ?_)
        · refine g_lv (lv' := [(0, .inr (.inl (some t))), (1, .inl x1), (3, .inl x3)]) [0, 1, 3] rfl ?_
          exact kX7_count_123 h hr hnL ht (fun z0 z1 z2 z3 hF => ih z0 z1 z2 z3 hF) _ _ _ _ hF
        · refine g_goto (pc := 108) (tgt := 119) h dX7_count_108 (by decide) ?_
          refine g_lv (lv' := [(0, .inr (.inl (some t))), (1, .inl x1), (3, .inl x3)]) [0, 1, 3] rfl ?_
          exact kX7_count_119 h hr hnL ht (fun z0 z1 z2 z3 hF => ih z0 z1 z2 z3 hF) _ _ _ _ hF
def fX7_count (t : Nat) (x1 : Int32) (w : Wd) : Option (Int32 × Wd) :=
  bnd (fX7_in (x1.toInt64) (0 : Int64) (6 : Int64) w) (fun x_1 w_2 => if x_1 = 0 then
    (some ((-2 : Int32), w_2))
  else
    (if x1 < (2 : Int32) then
      (fX7_count_25 t x1 w_2)
    else
      (if x1 ≤ (3 : Int32) then
        (fX7_count_81 t FU x1 (0 : Int32) (0 : Int32) w_2)
      else
        (fX7_count_25 t x1 w_2))))
set_option maxHeartbeats 4000000 in
theorem mX7_count {Γ : En} {t : Nat} {x1 : Int32} {w : Wd} (ht : t < wn w ∧ kd t = 7) : MtI Γ yX7_count cX7_count 4 (some .int) 47 0 0 [rv Γ (some t), .int x1] w (fX7_count t x1 w) := by
  refine mtI [.inr (.inl (some t)), .inl x1] rfl (Nat.le_of_ble_eq_true rfl) (fun X hΓ hnL hn0 h _ hr hF => ?_)
  subst hΓ
  have ht : InN X t 7 := ⟨by rw [hn0]; exact ht.1, ht.2⟩
  have h : Ok X cX7_count RX7 47 0 0 := h
  have hj : ∀ j, j < 4 → j < nLX X := fun j q => by rw [hnL]; exact q
  show G X 0 0 0 [(0, .inr (.inl (some t))), (1, .inl x1)] [] w
  unfold fX7_count at hF
  refine g_iload_n (pc := 0) h 1 rfl dX7_count_0 ?_
  refine g_i2l (pc := 1) h dX7_count_1 ?_
  refine g_lconst (pc := 2) (v := (0 : Int64)) h dX7_count_2 (by decide) ?_
  refine g_ldc2 (pc := 3) h wcL_X7_77 dX7_count_3 ?_
  refine g_csI (pc := 6) (st := []) h mX7_in csX7_67 (by decide) ⟨by decide, by decide⟩ (Nat.le_of_ble_eq_true rfl) rfl rfl dX7_count_6 hF (fun x_1 w_2 hF => ?_)
  refine g_if_ne (pc := 9) (tgt := 15) h dX7_count_9 (by decide) hF (fun hF => ?_) (fun hF => ?_)
  · refine g_iload_n (pc := 15) h 1 rfl dX7_count_15 ?_
    refine g_iconst (pc := 16) (v := (2 : Int32)) h dX7_count_16 (by decide) ?_
    refine g_icmp_lt (pc := 17) (tgt := 25) h dX7_count_17 (by decide) hF (fun hF => ?_) (fun hF => ?_)
    · exact kX7_count_25 h hr hnL ht _ _ hF
    · refine g_iload_n (pc := 20) h 1 rfl dX7_count_20 ?_
      refine g_iconst (pc := 21) (v := (3 : Int32)) h dX7_count_21 (by decide) ?_
      refine g_icmp_le (pc := 22) (tgt := 77) h dX7_count_22 (by decide) hF (fun hF => ?_) (fun hF => ?_)
      · refine g_iconst (pc := 77) (v := (0 : Int32)) h dX7_count_77 (by decide) ?_
        refine g_istore_n (pc := 78) (lv' := [(2, .inl (0 : Int32)), (0, .inr (.inl (some t))), (1, .inl x1)]) h dX7_count_78 (hj 2 (by decide)) rfl ?_
        refine g_iconst (pc := 79) (v := (0 : Int32)) h dX7_count_79 (by decide) ?_
        refine g_istore_n (pc := 80) (lv' := [(3, .inl (0 : Int32)), (2, .inl (0 : Int32)), (0, .inr (.inl (some t))), (1, .inl x1)]) h dX7_count_80 (hj 3 (by decide)) rfl ?_
        refine g_lv (lv' := [(0, .inr (.inl (some t))), (1, .inl x1), (2, .inl (0 : Int32)), (3, .inl (0 : Int32))]) [2, 3, 1, 0] rfl ?_
        exact kX7_count_81 h hr hnL ht _ _ _ _ _ hF
      · exact kX7_count_25 h hr hnL ht _ _ hF
  · refine g_bipush (pc := 12) (v := (-2 : Int32)) h dX7_count_12 (by decide) ?_
    exact g_iret (pc := 14) h hr ⟨Nat.le_refl _, Nat.le_refl _⟩ hF dX7_count_14
def fX7_cell_83 (t : Nat) (y0 : Int32) (y1 : Int32) (y2 : Option Nat) (w : Wd) : Option (Int32 × Wd) :=
  dr y2 8 w (fun a_9 => grd (vin y1 (ln a_9)) (lw (sI w a_9 y1.toNatClampNeg y0) (fun w_10 => some ((1 : Int32), w_10))))
set_option maxHeartbeats 4000000 in
theorem kX7_cell_83 {X : Cx} (h : Ok X cX7_cell RX7 4 0 0) (hr : RetI X .int 0 0) (hnL : nLX X = 4) {t : Nat} (ht : InN X t 7) : ∀ (y0 : Int32) (y1 : Int32) (y2 : Option Nat) (w : Wd), OkR X Value.int (fX7_cell_83 t y0 y1 y2 w) → G X 0 0 83 [] [.int y0, .int y1, rv X.1 y2] w := by
  have hj : ∀ j, j < 4 → j < nLX X := fun j q => by rw [hnL]; exact q
  intro y0 y1 y2 w hF
  unfold fX7_cell_83 at hF
  refine g_dr hF (fun a_9 e_a_9 h_a_9 hF => ?_)
  rw [e_a_9]
  obtain ⟨g_5, hF⟩ := grd_ok hF
  refine g_iast (pc := 83) h h_a_9 g_5 dX7_cell_83 ?_
  refine g_w hF (fun w_10 hF => ?_)
  refine g_iconst (pc := 84) (v := (1 : Int32)) h dX7_cell_84 (by decide) ?_
  exact g_iret (pc := 85) h hr ⟨Nat.le_refl _, Nat.le_refl _⟩ hF dX7_cell_85
def fX7_cell (t : Nat) (x1 : Int32) (x2 : Int32) (x3 : Int32) (w : Wd) : Option (Int32 × Wd) :=
  bnd (fX7_isSheet x1 w) (fun x_1 w_2 => if x_1 = 0 then
    (some ((-2 : Int32), w_2))
  else
    (dr (gR w_2 t 42) 9 w_2 (fun a_3 => grd (vin x1 (ln a_3)) (if (gI w_2 a_3 x1.toNatClampNeg) = 0 then
      (some ((-11 : Int32), w_2))
    else
      (dr (gR w_2 t 44) 8 w_2 (fun a_4 => grd (vin x1 (ln a_4)) (bnd (fX7_in (x2.toInt64) (0 : Int64) (((gI w_2 a_4 x1.toNatClampNeg) - (1 : Int32)).toInt64) w_2) (fun x_5 w_6 => if x_5 = 0 then
        (some ((-12 : Int32), w_6))
      else
        (dr (gR w_6 t 43) 8 w_6 (fun a_7 => grd (vin x1 (ln a_7)) (if (gI w_6 a_7 x1.toNatClampNeg) = 0 then
          (fX7_cell_83 t (x3.toInt8.toInt32) (((40 : Int32) * x1) + x2) (gR w_6 t 45) w_6)
        else
          (dr (gR w_6 t 43) 8 w_6 (fun a_8 => grd (vin x1 (ln a_8)) (if (gI w_6 a_8 x1.toNatClampNeg) = (1 : Int32) then
            (fX7_cell_83 t (x3.toInt16.toInt32) (((40 : Int32) * x1) + x2) (gR w_6 t 45) w_6)
          else
            (fX7_cell_83 t x3 (((40 : Int32) * x1) + x2) (gR w_6 t 45) w_6)))))))))))))))
set_option maxHeartbeats 4000000 in
theorem mX7_cell {Γ : En} {t : Nat} {x1 : Int32} {x2 : Int32} {x3 : Int32} {w : Wd} (ht : t < wn w ∧ kd t = 7) : MtI Γ yX7_cell cX7_cell 4 (some .int) 4 0 0 [rv Γ (some t), .int x1, .int x2, .int x3] w (fX7_cell t x1 x2 x3 w) := by
  refine mtI [.inr (.inl (some t)), .inl x1, .inl x2, .inl x3] rfl (Nat.le_of_ble_eq_true rfl) (fun X hΓ hnL hn0 h _ hr hF => ?_)
  subst hΓ
  have ht : InN X t 7 := ⟨by rw [hn0]; exact ht.1, ht.2⟩
  have h : Ok X cX7_cell RX7 4 0 0 := h
  have hj : ∀ j, j < 4 → j < nLX X := fun j q => by rw [hnL]; exact q
  show G X 0 0 0 [(0, .inr (.inl (some t))), (1, .inl x1), (2, .inl x2), (3, .inl x3)] [] w
  unfold fX7_cell at hF
  refine g_iload_n (pc := 0) h 1 rfl dX7_cell_0 ?_
  refine g_csI (pc := 1) (st := []) h mX7_isSheet csX7_393 (by decide) ⟨by decide, by decide⟩ (Nat.le_of_ble_eq_true rfl) rfl rfl dX7_cell_1 hF (fun x_1 w_2 hF => ?_)
  refine g_if_ne (pc := 4) (tgt := 10) h dX7_cell_4 (by decide) hF (fun hF => ?_) (fun hF => ?_)
  · refine g_aload_n (pc := 10) h 0 rfl dX7_cell_10 ?_
    refine g_getR (pc := 11) h fdX7_44 (inw ht) rfl dX7_cell_11 ?_
    refine g_iload_n (pc := 14) h 1 rfl dX7_cell_14 ?_
    refine g_dr hF (fun a_3 e_a_3 h_a_3 hF => ?_)
    rw [e_a_3]
    obtain ⟨g_1, hF⟩ := grd_ok hF
    refine g_zald (pc := 15) h h_a_3 g_1 dX7_cell_15 ?_
    refine g_if_ne (pc := 16) (tgt := 22) h dX7_cell_16 (by decide) hF (fun hF => ?_) (fun hF => ?_)
    · refine g_iload_n (pc := 22) h 2 rfl dX7_cell_22 ?_
      refine g_i2l (pc := 23) h dX7_cell_23 ?_
      refine g_lconst (pc := 24) (v := (0 : Int64)) h dX7_cell_24 (by decide) ?_
      refine g_aload_n (pc := 25) h 0 rfl dX7_cell_25 ?_
      refine g_getR (pc := 26) h fdX7_51 (inw ht) rfl dX7_cell_26 ?_
      refine g_iload_n (pc := 29) h 1 rfl dX7_cell_29 ?_
      refine g_dr hF (fun a_4 e_a_4 h_a_4 hF => ?_)
      rw [e_a_4]
      obtain ⟨g_2, hF⟩ := grd_ok hF
      refine g_iald (pc := 30) h h_a_4 g_2 dX7_cell_30 ?_
      refine g_iconst (pc := 31) (v := (1 : Int32)) h dX7_cell_31 (by decide) ?_
      refine g_isub (pc := 32) h dX7_cell_32 ?_
      refine g_i2l (pc := 33) h dX7_cell_33 ?_
      refine g_csI (pc := 34) (st := []) h mX7_in csX7_67 (by decide) ⟨by decide, by decide⟩ (Nat.le_of_ble_eq_true rfl) rfl rfl dX7_cell_34 hF (fun x_5 w_6 hF => ?_)
      refine g_if_ne (pc := 37) (tgt := 43) h dX7_cell_37 (by decide) hF (fun hF => ?_) (fun hF => ?_)
      · refine g_aload_n (pc := 43) h 0 rfl dX7_cell_43 ?_
        refine g_getR (pc := 44) h fdX7_54 (inw ht) rfl dX7_cell_44 ?_
        refine g_bipush (pc := 47) (v := (40 : Int32)) h dX7_cell_47 (by decide) ?_
        refine g_iload_n (pc := 49) h 1 rfl dX7_cell_49 ?_
        refine g_imul (pc := 50) h dX7_cell_50 ?_
        refine g_iload_n (pc := 51) h 2 rfl dX7_cell_51 ?_
        refine g_iadd (pc := 52) h dX7_cell_52 ?_
        refine g_aload_n (pc := 53) h 0 rfl dX7_cell_53 ?_
        refine g_getR (pc := 54) h fdX7_48 (inw ht) rfl dX7_cell_54 ?_
        refine g_iload_n (pc := 57) h 1 rfl dX7_cell_57 ?_
        refine g_dr hF (fun a_7 e_a_7 h_a_7 hF => ?_)
        rw [e_a_7]
        obtain ⟨g_3, hF⟩ := grd_ok hF
        refine g_iald (pc := 58) h h_a_7 g_3 dX7_cell_58 ?_
        refine g_if_ne (pc := 59) (tgt := 67) h dX7_cell_59 (by decide) hF (fun hF => ?_) (fun hF => ?_)
        · refine g_aload_n (pc := 67) h 0 rfl dX7_cell_67 ?_
          refine g_getR (pc := 68) h fdX7_48 (inw ht) rfl dX7_cell_68 ?_
          refine g_iload_n (pc := 71) h 1 rfl dX7_cell_71 ?_
          refine g_dr hF (fun a_8 e_a_8 h_a_8 hF => ?_)
          rw [e_a_8]
          obtain ⟨g_4, hF⟩ := grd_ok hF
          refine g_iald (pc := 72) h h_a_8 g_4 dX7_cell_72 ?_
          refine g_iconst (pc := 73) (v := (1 : Int32)) h dX7_cell_73 (by decide) ?_
          refine g_icmp_ne (pc := 74) (tgt := 82) h dX7_cell_74 (by decide) hF (fun hF => ?_) (fun hF => ?_)
          · refine g_iload_n (pc := 82) h 3 rfl dX7_cell_82 ?_
            refine g_lv (lv' := []) [] rfl ?_
            exact kX7_cell_83 h hr hnL ht _ _ _ _ hF
          · refine g_iload_n (pc := 77) h 3 rfl dX7_cell_77 ?_
            refine g_i2s (pc := 78) h dX7_cell_78 ?_
            refine g_goto (pc := 79) (tgt := 83) h dX7_cell_79 (by decide) ?_
            refine g_lv (lv' := []) [] rfl ?_
            exact kX7_cell_83 h hr hnL ht _ _ _ _ hF
        · refine g_iload_n (pc := 62) h 3 rfl dX7_cell_62 ?_
          refine g_i2b (pc := 63) h dX7_cell_63 ?_
          refine g_goto (pc := 64) (tgt := 83) h dX7_cell_64 (by decide) ?_
          refine g_lv (lv' := []) [] rfl ?_
          exact kX7_cell_83 h hr hnL ht _ _ _ _ hF
      · refine g_bipush (pc := 40) (v := (-12 : Int32)) h dX7_cell_40 (by decide) ?_
        exact g_iret (pc := 42) h hr ⟨Nat.le_refl _, Nat.le_refl _⟩ hF dX7_cell_42
    · refine g_bipush (pc := 19) (v := (-11 : Int32)) h dX7_cell_19 (by decide) ?_
      exact g_iret (pc := 21) h hr ⟨Nat.le_refl _, Nat.le_refl _⟩ hF dX7_cell_21
  · refine g_bipush (pc := 7) (v := (-2 : Int32)) h dX7_cell_7 (by decide) ?_
    exact g_iret (pc := 9) h hr ⟨Nat.le_refl _, Nat.le_refl _⟩ hF dX7_cell_9
def fX7_copy_145 (k121 : Int32 → Int32 → Int32 → Int32 → Int32 → Int32 → Int32 → Wd → Option (Int32 × Wd)) (t : Nat) (x1 : Int32) (x2 : Int32) (x3 : Int32) (x4 : Int32) (x5 : Int32) (x6 : Int32) (x7 : Int32) (y0 : Int32) (w : Wd) : Option (Int32 × Wd) :=
  dr (gR w t 45) 8 w (fun a_11 => grd (vin ((((40 : Int32) * x1) + x2) + y0) (ln a_11)) (grd (vin ((((40 : Int32) * x3) + x4) + y0) (ln a_11)) (lw (sI w a_11 ((((40 : Int32) * x3) + x4) + y0).toNatClampNeg (gI w a_11 ((((40 : Int32) * x1) + x2) + y0).toNatClampNeg)) (fun w_12 => k121 x1 x2 x3 x4 x5 x6 (x7 + (1 : Int32)) w_12))))
set_option maxHeartbeats 4000000 in
theorem kX7_copy_145 {X : Cx} (h : Ok X cX7_copy RX7 4 0 0) (hr : RetI X .int 0 0) (hnL : nLX X = 9) {t : Nat} (ht : InN X t 7) {k121 : Int32 → Int32 → Int32 → Int32 → Int32 → Int32 → Int32 → Wd → Option (Int32 × Wd)} (hk121 : ∀ (x1 : Int32) (x2 : Int32) (x3 : Int32) (x4 : Int32) (x5 : Int32) (x6 : Int32) (x7 : Int32) (w : Wd), OkR X Value.int (k121 x1 x2 x3 x4 x5 x6 x7 w) → G X 0 0 121 [(0, .inr (.inl (some t))), (1, .inl x1), (2, .inl x2), (3, .inl x3), (4, .inl x4), (5, .inl x5), (6, .inl x6), (7, .inl x7)] [] w) : ∀ (x1 : Int32) (x2 : Int32) (x3 : Int32) (x4 : Int32) (x5 : Int32) (x6 : Int32) (x7 : Int32) (y0 : Int32) (w : Wd), OkR X Value.int (fX7_copy_145 k121 t x1 x2 x3 x4 x5 x6 x7 y0 w) → G X 0 0 145 [(0, .inr (.inl (some t))), (1, .inl x1), (2, .inl x2), (3, .inl x3), (4, .inl x4), (5, .inl x5), (6, .inl x6), (7, .inl x7)] [.int y0] w := by
  have hj : ∀ j, j < 9 → j < nLX X := fun j q => by rw [hnL]; exact q
  intro x1 x2 x3 x4 x5 x6 x7 y0 w hF
  unfold fX7_copy_145 at hF
  refine g_istore (pc := 145) (lv' := [(8, .inl y0), (0, .inr (.inl (some t))), (1, .inl x1), (2, .inl x2), (3, .inl x3), (4, .inl x4), (5, .inl x5), (6, .inl x6), (7, .inl x7)]) h dX7_copy_145 (hj 8 (by decide)) rfl ?_
  refine g_aload_n (pc := 147) h 1 rfl dX7_copy_147 ?_
  refine g_getR (pc := 148) h fdX7_54 (inw ht) rfl dX7_copy_148 ?_
  refine g_bipush (pc := 151) (v := (40 : Int32)) h dX7_copy_151 (by decide) ?_
  refine g_iload_n (pc := 153) h 4 rfl dX7_copy_153 ?_
  refine g_imul (pc := 154) h dX7_copy_154 ?_
  refine g_iload (pc := 155) h 5 rfl dX7_copy_155 ?_
  refine g_iadd (pc := 157) h dX7_copy_157 ?_
  refine g_iload (pc := 158) h 0 rfl dX7_copy_158 ?_
  refine g_iadd (pc := 160) h dX7_copy_160 ?_
  refine g_aload_n (pc := 161) h 1 rfl dX7_copy_161 ?_
  refine g_getR (pc := 162) h fdX7_54 (inw ht) rfl dX7_copy_162 ?_
  refine g_bipush (pc := 165) (v := (40 : Int32)) h dX7_copy_165 (by decide) ?_
  refine g_iload_n (pc := 167) h 2 rfl dX7_copy_167 ?_
  refine g_imul (pc := 168) h dX7_copy_168 ?_
  refine g_iload_n (pc := 169) h 3 rfl dX7_copy_169 ?_
  refine g_iadd (pc := 170) h dX7_copy_170 ?_
  refine g_iload (pc := 171) h 0 rfl dX7_copy_171 ?_
  refine g_iadd (pc := 173) h dX7_copy_173 ?_
  refine g_dr hF (fun a_11 e_a_11 h_a_11 hF => ?_)
  rw [e_a_11]
  obtain ⟨g_7, hF⟩ := grd_ok hF
  refine g_iald (pc := 174) h h_a_11 g_7 dX7_copy_174 ?_
  obtain ⟨g_8, hF⟩ := grd_ok hF
  refine g_iast (pc := 175) h h_a_11 g_8 dX7_copy_175 ?_
  refine g_w hF (fun w_12 hF => ?_)
  refine g_iinc (pc := 176) (lv' := [(7, .inl (x7 + (1 : Int32))), (8, .inl y0), (0, .inr (.inl (some t))), (1, .inl x1), (2, .inl x2), (3, .inl x3), (4, .inl x4), (5, .inl x5), (6, .inl x6)]) h 8 rfl dX7_copy_176 (dv := (1 : Int32)) (by decide) (hj 7 (by decide)) rfl ?_
  refine g_goto (pc := 179) (tgt := 121) h dX7_copy_179 (by decide) ?_
  refine g_lv (lv' := [(0, .inr (.inl (some t))), (1, .inl x1), (2, .inl x2), (3, .inl x3), (4, .inl x4), (5, .inl x5), (6, .inl x6), (7, .inl (x7 + (1 : Int32)))]) [2, 3, 4, 5, 6, 7, 8, 0] rfl ?_
  exact hk121 _ _ _ _ _ _ _ _ hF
def fX7_copy_121 (t : Nat) : Nat → Int32 → Int32 → Int32 → Int32 → Int32 → Int32 → Int32 → Wd → Option (Int32 × Wd)
  | 0 => fun _ _ _ _ _ _ _ _ => none
  | n + 1 => fun x1 x2 x3 x4 x5 x6 x7 w =>
    if x5 ≤ x7 then
      (some (x5, w))
    else
      (if x6 = 0 then
        (fX7_copy_145 (fX7_copy_121 t n) t x1 x2 x3 x4 x5 x6 x7 x7 w)
      else
        (fX7_copy_145 (fX7_copy_121 t n) t x1 x2 x3 x4 x5 x6 x7 ((x5 - (1 : Int32)) - x7) w))
set_option maxHeartbeats 4000000 in
theorem kX7_copy_121 {X : Cx} (h : Ok X cX7_copy RX7 4 0 0) (hr : RetI X .int 0 0) (hnL : nLX X = 9) {t : Nat} (ht : InN X t 7) : ∀ (fu : Nat) (x1 : Int32) (x2 : Int32) (x3 : Int32) (x4 : Int32) (x5 : Int32) (x6 : Int32) (x7 : Int32) (w : Wd), OkR X Value.int (fX7_copy_121 t fu x1 x2 x3 x4 x5 x6 x7 w) → G X 0 0 121 [(0, .inr (.inl (some t))), (1, .inl x1), (2, .inl x2), (3, .inl x3), (4, .inl x4), (5, .inl x5), (6, .inl x6), (7, .inl x7)] [] w := by
  have hj : ∀ j, j < 9 → j < nLX X := fun j q => by rw [hnL]; exact q
  intro fu
  induction fu with
  | zero => intro x1 x2 x3 x4 x5 x6 x7 w hF; exact okN hF
  | succ fu ih =>
    intro x1 x2 x3 x4 x5 x6 x7 w hF
    rw [fX7_copy_121] at hF
    refine g_iload (pc := 121) h 7 rfl dX7_copy_121 ?_
    refine g_iload (pc := 123) h 5 rfl dX7_copy_123 ?_
    refine g_icmp_ge (pc := 125) (tgt := 182) h dX7_copy_125 (by decide) hF (fun hF => ?_) (fun hF => ?_)
    · refine g_iload (pc := 182) h 5 rfl dX7_copy_182 ?_
      exact g_iret (pc := 184) h hr ⟨Nat.le_refl _, Nat.le_refl _⟩ hF dX7_copy_184
    · refine g_iload (pc := 128) h 6 rfl dX7_copy_128 ?_
      refine g_if_eq (pc := 130) (tgt := 143) h dX7_copy_130 (by decide) hF (fun hF => ?_) (fun hF => ?_)
      · refine g_iload (pc := 143) h 7 rfl dX7_copy_143 ?_
        exact kX7_copy_145 h hr hnL ht (fun z0 z1 z2 z3 z4 z5 z6 z7 hF => ih z0 z1 z2 z3 z4 z5 z6 z7 hF) _ _ _ _ _ _ _ _ _ hF
      · refine g_iload (pc := 133) h 5 rfl dX7_copy_133 ?_
        refine g_iconst (pc := 135) (v := (1 : Int32)) h dX7_copy_135 (by decide) ?_
        refine g_isub (pc := 136) h dX7_copy_136 ?_
        refine g_iload (pc := 137) h 7 rfl dX7_copy_137 ?_
        refine g_isub (pc := 139) h dX7_copy_139 ?_
        refine g_goto (pc := 140) (tgt := 145) h dX7_copy_140 (by decide) ?_
        exact kX7_copy_145 h hr hnL ht (fun z0 z1 z2 z3 z4 z5 z6 z7 hF => ih z0 z1 z2 z3 z4 z5 z6 z7 hF) _ _ _ _ _ _ _ _ _ hF
def fX7_copy_116 (t : Nat) (x1 : Int32) (x2 : Int32) (x3 : Int32) (x4 : Int32) (x5 : Int32) (y0 : Int32) (w : Wd) : Option (Int32 × Wd) :=
  fX7_copy_121 t FU x1 x2 x3 x4 x5 y0 (0 : Int32) w
set_option maxHeartbeats 4000000 in
theorem kX7_copy_116 {X : Cx} (h : Ok X cX7_copy RX7 4 0 0) (hr : RetI X .int 0 0) (hnL : nLX X = 9) {t : Nat} (ht : InN X t 7) : ∀ (x1 : Int32) (x2 : Int32) (x3 : Int32) (x4 : Int32) (x5 : Int32) (y0 : Int32) (w : Wd), OkR X Value.int (fX7_copy_116 t x1 x2 x3 x4 x5 y0 w) → G X 0 0 116 [(0, .inr (.inl (some t))), (1, .inl x1), (2, .inl x2), (3, .inl x3), (4, .inl x4), (5, .inl x5)] [.int y0] w := by
  have hj : ∀ j, j < 9 → j < nLX X := fun j q => by rw [hnL]; exact q
  intro x1 x2 x3 x4 x5 y0 w hF
  unfold fX7_copy_116 at hF
  refine g_istore (pc := 116) (lv' := [(6, .inl y0), (0, .inr (.inl (some t))), (1, .inl x1), (2, .inl x2), (3, .inl x3), (4, .inl x4), (5, .inl x5)]) h dX7_copy_116 (hj 6 (by decide)) rfl ?_
  refine g_iconst (pc := 118) (v := (0 : Int32)) h dX7_copy_118 (by decide) ?_
  refine g_istore (pc := 119) (lv' := [(7, .inl (0 : Int32)), (6, .inl y0), (0, .inr (.inl (some t))), (1, .inl x1), (2, .inl x2), (3, .inl x3), (4, .inl x4), (5, .inl x5)]) h dX7_copy_119 (hj 7 (by decide)) rfl ?_
  refine g_lv (lv' := [(0, .inr (.inl (some t))), (1, .inl x1), (2, .inl x2), (3, .inl x3), (4, .inl x4), (5, .inl x5), (6, .inl y0), (7, .inl (0 : Int32))]) [2, 3, 4, 5, 6, 7, 1, 0] rfl ?_
  exact kX7_copy_121 h hr hnL ht _ _ _ _ _ _ _ _ _ hF
def fX7_copy_115 (t : Nat) (x1 : Int32) (x2 : Int32) (x3 : Int32) (x4 : Int32) (x5 : Int32) (w : Wd) : Option (Int32 × Wd) :=
  fX7_copy_116 t x1 x2 x3 x4 x5 (0 : Int32) w
set_option maxHeartbeats 4000000 in
theorem kX7_copy_115 {X : Cx} (h : Ok X cX7_copy RX7 4 0 0) (hr : RetI X .int 0 0) (hnL : nLX X = 9) {t : Nat} (ht : InN X t 7) : ∀ (x1 : Int32) (x2 : Int32) (x3 : Int32) (x4 : Int32) (x5 : Int32) (w : Wd), OkR X Value.int (fX7_copy_115 t x1 x2 x3 x4 x5 w) → G X 0 0 115 [(0, .inr (.inl (some t))), (1, .inl x1), (2, .inl x2), (3, .inl x3), (4, .inl x4), (5, .inl x5)] [] w := by
  have hj : ∀ j, j < 9 → j < nLX X := fun j q => by rw [hnL]; exact q
  intro x1 x2 x3 x4 x5 w hF
  unfold fX7_copy_115 at hF
  refine g_iconst (pc := 115) (v := (0 : Int32)) h dX7_copy_115 (by decide) ?_
  exact kX7_copy_116 h hr hnL ht _ _ _ _ _ _ _ hF
def fX7_copy (t : Nat) (x1 : Int32) (x2 : Int32) (x3 : Int32) (x4 : Int32) (x5 : Int32) (w : Wd) : Option (Int32 × Wd) :=
  bnd (fX7_isSheet x1 w) (fun x_1 w_2 => if x_1 = 0 then
    (some ((-2 : Int32), w_2))
  else
    (bnd (fX7_isSheet x3 w_2) (fun x_3 w_4 => if x_3 = 0 then
      (some ((-2 : Int32), w_4))
    else
      (dr (gR w_4 t 42) 9 w_4 (fun a_5 => grd (vin x1 (ln a_5)) (if (gI w_4 a_5 x1.toNatClampNeg) = 0 then
        (some ((-11 : Int32), w_4))
      else
        (dr (gR w_4 t 42) 9 w_4 (fun a_6 => grd (vin x3 (ln a_6)) (if (gI w_4 a_6 x3.toNatClampNeg) = 0 then
          (some ((-11 : Int32), w_4))
        else
          (dr (gR w_4 t 43) 8 w_4 (fun a_7 => grd (vin x1 (ln a_7)) (dr (gR w_4 t 43) 8 w_4 (fun a_8 => grd (vin x3 (ln a_8)) (if (gI w_4 a_7 x1.toNatClampNeg) = (gI w_4 a_8 x3.toNatClampNeg) then
            (if x5 < 0 then
              (some ((-12 : Int32), w_4))
            else
              (if x2 < 0 then
                (some ((-12 : Int32), w_4))
              else
                (if x4 < 0 then
                  (some ((-12 : Int32), w_4))
                else
                  (dr (gR w_4 t 44) 8 w_4 (fun a_9 => grd (vin x1 (ln a_9)) (if ((gI w_4 a_9 x1.toNatClampNeg) - x5) < x2 then
                    (some ((-12 : Int32), w_4))
                  else
                    (dr (gR w_4 t 44) 8 w_4 (fun a_10 => grd (vin x3 (ln a_10)) (if x4 ≤ ((gI w_4 a_10 x3.toNatClampNeg) - x5) then
                      (if x1 = x3 then
                        (if x4 ≤ x2 then
                          (fX7_copy_115 t x1 x2 x3 x4 x5 w_4)
                        else
                          (fX7_copy_116 t x1 x2 x3 x4 x5 (1 : Int32) w_4))
                      else
                        (fX7_copy_115 t x1 x2 x3 x4 x5 w_4))
                    else
                      (some ((-12 : Int32), w_4)))))))))))
          else
            (some ((-13 : Int32), w_4))))))))))))))))
set_option maxHeartbeats 4000000 in
theorem mX7_copy {Γ : En} {t : Nat} {x1 : Int32} {x2 : Int32} {x3 : Int32} {x4 : Int32} {x5 : Int32} {w : Wd} (ht : t < wn w ∧ kd t = 7) : MtI Γ yX7_copy cX7_copy 9 (some .int) 4 0 0 [rv Γ (some t), .int x1, .int x2, .int x3, .int x4, .int x5] w (fX7_copy t x1 x2 x3 x4 x5 w) := by
  refine mtI [.inr (.inl (some t)), .inl x1, .inl x2, .inl x3, .inl x4, .inl x5] rfl (Nat.le_of_ble_eq_true rfl) (fun X hΓ hnL hn0 h _ hr hF => ?_)
  subst hΓ
  have ht : InN X t 7 := ⟨by rw [hn0]; exact ht.1, ht.2⟩
  have h : Ok X cX7_copy RX7 4 0 0 := h
  have hj : ∀ j, j < 9 → j < nLX X := fun j q => by rw [hnL]; exact q
  show G X 0 0 0 [(0, .inr (.inl (some t))), (1, .inl x1), (2, .inl x2), (3, .inl x3), (4, .inl x4), (5, .inl x5)] [] w
  unfold fX7_copy at hF
  refine g_iload_n (pc := 0) h 1 rfl dX7_copy_0 ?_
  refine g_csI (pc := 1) (st := []) h mX7_isSheet csX7_393 (by decide) ⟨by decide, by decide⟩ (Nat.le_of_ble_eq_true rfl) rfl rfl dX7_copy_1 hF (fun x_1 w_2 hF => ?_)
  refine g_if_eq (pc := 4) (tgt := 14) h dX7_copy_4 (by decide) hF (fun hF => ?_) (fun hF => ?_)
  · refine g_bipush (pc := 14) (v := (-2 : Int32)) h dX7_copy_14 (by decide) ?_
    exact g_iret (pc := 16) h hr ⟨Nat.le_refl _, Nat.le_refl _⟩ hF dX7_copy_16
  · refine g_iload_n (pc := 7) h 3 rfl dX7_copy_7 ?_
    refine g_csI (pc := 8) (st := []) h mX7_isSheet csX7_393 (by decide) ⟨by decide, by decide⟩ (Nat.le_of_ble_eq_true rfl) rfl rfl dX7_copy_8 hF (fun x_3 w_4 hF => ?_)
    refine g_if_ne (pc := 11) (tgt := 17) h dX7_copy_11 (by decide) hF (fun hF => ?_) (fun hF => ?_)
    · refine g_aload_n (pc := 17) h 0 rfl dX7_copy_17 ?_
      refine g_getR (pc := 18) h fdX7_44 (inw ht) rfl dX7_copy_18 ?_
      refine g_iload_n (pc := 21) h 1 rfl dX7_copy_21 ?_
      refine g_dr hF (fun a_5 e_a_5 h_a_5 hF => ?_)
      rw [e_a_5]
      obtain ⟨g_1, hF⟩ := grd_ok hF
      refine g_zald (pc := 22) h h_a_5 g_1 dX7_copy_22 ?_
      refine g_if_eq (pc := 23) (tgt := 35) h dX7_copy_23 (by decide) hF (fun hF => ?_) (fun hF => ?_)
      · refine g_bipush (pc := 35) (v := (-11 : Int32)) h dX7_copy_35 (by decide) ?_
        exact g_iret (pc := 37) h hr ⟨Nat.le_refl _, Nat.le_refl _⟩ hF dX7_copy_37
      · refine g_aload_n (pc := 26) h 0 rfl dX7_copy_26 ?_
        refine g_getR (pc := 27) h fdX7_44 (inw ht) rfl dX7_copy_27 ?_
        refine g_iload_n (pc := 30) h 3 rfl dX7_copy_30 ?_
        refine g_dr hF (fun a_6 e_a_6 h_a_6 hF => ?_)
        rw [e_a_6]
        obtain ⟨g_2, hF⟩ := grd_ok hF
        refine g_zald (pc := 31) h h_a_6 g_2 dX7_copy_31 ?_
        refine g_if_ne (pc := 32) (tgt := 38) h dX7_copy_32 (by decide) hF (fun hF => ?_) (fun hF => ?_)
        · refine g_aload_n (pc := 38) h 0 rfl dX7_copy_38 ?_
          refine g_getR (pc := 39) h fdX7_48 (inw ht) rfl dX7_copy_39 ?_
          refine g_iload_n (pc := 42) h 1 rfl dX7_copy_42 ?_
          refine g_dr hF (fun a_7 e_a_7 h_a_7 hF => ?_)
          rw [e_a_7]
          obtain ⟨g_3, hF⟩ := grd_ok hF
          refine g_iald (pc := 43) h h_a_7 g_3 dX7_copy_43 ?_
          refine g_aload_n (pc := 44) h 0 rfl dX7_copy_44 ?_
          refine g_getR (pc := 45) h fdX7_48 (inw ht) rfl dX7_copy_45 ?_
          refine g_iload_n (pc := 48) h 3 rfl dX7_copy_48 ?_
          refine g_dr hF (fun a_8 e_a_8 h_a_8 hF => ?_)
          rw [e_a_8]
          obtain ⟨g_4, hF⟩ := grd_ok hF
          refine g_iald (pc := 49) h h_a_8 g_4 dX7_copy_49 ?_
          refine g_icmp_eq (pc := 50) (tgt := 56) h dX7_copy_50 (by decide) hF (fun hF => ?_) (fun hF => ?_)
          · refine g_iload (pc := 56) h 5 rfl dX7_copy_56 ?_
            refine g_if_lt (pc := 58) (tgt := 97) h dX7_copy_58 (by decide) hF (fun hF => ?_) (fun hF => ?_)
            · refine g_bipush (pc := 97) (v := (-12 : Int32)) h dX7_copy_97 (by decide) ?_
              exact g_iret (pc := 99) h hr ⟨Nat.le_refl _, Nat.le_refl _⟩ hF dX7_copy_99
            · refine g_iload_n (pc := 61) h 2 rfl dX7_copy_61 ?_
              refine g_if_lt (pc := 62) (tgt := 97) h dX7_copy_62 (by decide) hF (fun hF => ?_) (fun hF => ?_)
              · refine g_bipush (pc := 97) (v := (-12 : Int32)) h dX7_copy_97 (by decide) ?_
                exact g_iret (pc := 99) h hr ⟨Nat.le_refl _, Nat.le_refl _⟩ hF dX7_copy_99
              · refine g_iload (pc := 65) h 4 rfl dX7_copy_65 ?_
                refine g_if_lt (pc := 67) (tgt := 97) h dX7_copy_67 (by decide) hF (fun hF => ?_) (fun hF => ?_)
                · refine g_bipush (pc := 97) (v := (-12 : Int32)) h dX7_copy_97 (by decide) ?_
                  exact g_iret (pc := 99) h hr ⟨Nat.le_refl _, Nat.le_refl _⟩ hF dX7_copy_99
                · refine g_iload_n (pc := 70) h 2 rfl dX7_copy_70 ?_
                  refine g_aload_n (pc := 71) h 0 rfl dX7_copy_71 ?_
                  refine g_getR (pc := 72) h fdX7_51 (inw ht) rfl dX7_copy_72 ?_
                  refine g_iload_n (pc := 75) h 1 rfl dX7_copy_75 ?_
                  refine g_dr hF (fun a_9 e_a_9 h_a_9 hF => ?_)
                  rw [e_a_9]
                  obtain ⟨g_5, hF⟩ := grd_ok hF
                  refine g_iald (pc := 76) h h_a_9 g_5 dX7_copy_76 ?_
                  refine g_iload (pc := 77) h 5 rfl dX7_copy_77 ?_
                  refine g_isub (pc := 79) h dX7_copy_79 ?_
                  refine g_icmp_gt (pc := 80) (tgt := 97) h dX7_copy_80 (by decide) hF (fun hF => ?_) (fun hF => ?_)
                  · refine g_bipush (pc := 97) (v := (-12 : Int32)) h dX7_copy_97 (by decide) ?_
                    exact g_iret (pc := 99) h hr ⟨Nat.le_refl _, Nat.le_refl _⟩ hF dX7_copy_99
                  · refine g_iload (pc := 83) h 4 rfl dX7_copy_83 ?_
                    refine g_aload_n (pc := 85) h 0 rfl dX7_copy_85 ?_
                    refine g_getR (pc := 86) h fdX7_51 (inw ht) rfl dX7_copy_86 ?_
                    refine g_iload_n (pc := 89) h 3 rfl dX7_copy_89 ?_
                    refine g_dr hF (fun a_10 e_a_10 h_a_10 hF => ?_)
                    rw [e_a_10]
                    obtain ⟨g_6, hF⟩ := grd_ok hF
                    refine g_iald (pc := 90) h h_a_10 g_6 dX7_copy_90 ?_
                    refine g_iload (pc := 91) h 5 rfl dX7_copy_91 ?_
                    refine g_isub (pc := 93) h dX7_copy_93 ?_
                    refine g_icmp_le (pc := 94) (tgt := 100) h dX7_copy_94 (by decide) hF (fun hF => ?_) (fun hF => ?_)
                    · refine g_iload_n (pc := 100) h 1 rfl dX7_copy_100 ?_
                      refine g_iload_n (pc := 101) h 3 rfl dX7_copy_101 ?_
                      refine g_icmp_ne (pc := 102) (tgt := 115) h dX7_copy_102 (by decide) hF (fun hF => ?_) (fun hF => ?_)
                      · exact kX7_copy_115 h hr hnL ht _ _ _ _ _ _ hF
                      · refine g_iload_n (pc := 105) h 2 rfl dX7_copy_105 ?_
                        refine g_iload (pc := 106) h 4 rfl dX7_copy_106 ?_
                        refine g_icmp_ge (pc := 108) (tgt := 115) h dX7_copy_108 (by decide) hF (fun hF => ?_) (fun hF => ?_)
                        · exact kX7_copy_115 h hr hnL ht _ _ _ _ _ _ hF
                        · refine g_iconst (pc := 111) (v := (1 : Int32)) h dX7_copy_111 (by decide) ?_
                          refine g_goto (pc := 112) (tgt := 116) h dX7_copy_112 (by decide) ?_
                          exact kX7_copy_116 h hr hnL ht _ _ _ _ _ _ _ hF
                    · refine g_bipush (pc := 97) (v := (-12 : Int32)) h dX7_copy_97 (by decide) ?_
                      exact g_iret (pc := 99) h hr ⟨Nat.le_refl _, Nat.le_refl _⟩ hF dX7_copy_99
          · refine g_bipush (pc := 53) (v := (-13 : Int32)) h dX7_copy_53 (by decide) ?_
            exact g_iret (pc := 55) h hr ⟨Nat.le_refl _, Nat.le_refl _⟩ hF dX7_copy_55
        · refine g_bipush (pc := 35) (v := (-11 : Int32)) h dX7_copy_35 (by decide) ?_
          exact g_iret (pc := 37) h hr ⟨Nat.le_refl _, Nat.le_refl _⟩ hF dX7_copy_37
    · refine g_bipush (pc := 14) (v := (-2 : Int32)) h dX7_copy_14 (by decide) ?_
      exact g_iret (pc := 16) h hr ⟨Nat.le_refl _, Nat.le_refl _⟩ hF dX7_copy_16
def fX7_walkers_158 (k75 : Int32 → Int32 → Int32 → Int32 → Int32 → Wd → Option (Int32 × Wd)) (t : Nat) (x1 : Int32) (x3 : Int32) (x4 : Int32) (x6 : Int32) (y0 : Int32) (y1 : Int32) (w : Wd) : Option (Int32 × Wd) :=
  lt (y1 + y0) (fun x5_17 => k75 x1 x3 x4 x5_17 (x6 + (1 : Int32)) w)
set_option maxHeartbeats 4000000 in
theorem kX7_walkers_158 {X : Cx} (h : Ok X cX7_walkers RX7 4 0 0) (hr : RetI X .int 0 0) (hnL : nLX X = 8) {t : Nat} (ht : InN X t 7) {k75 : Int32 → Int32 → Int32 → Int32 → Int32 → Wd → Option (Int32 × Wd)} (hk75 : ∀ (x1 : Int32) (x3 : Int32) (x4 : Int32) (x5 : Int32) (x6 : Int32) (w : Wd), OkR X Value.int (k75 x1 x3 x4 x5 x6 w) → G X 0 0 75 [(0, .inr (.inl (some t))), (1, .inl x1), (3, .inl x3), (4, .inl x4), (5, .inl x5), (6, .inl x6)] [] w) : ∀ (x1 : Int32) (x3 : Int32) (x4 : Int32) (x6 : Int32) (y0 : Int32) (y1 : Int32) (w : Wd), OkR X Value.int (fX7_walkers_158 k75 t x1 x3 x4 x6 y0 y1 w) → G X 0 0 158 [(0, .inr (.inl (some t))), (1, .inl x1), (3, .inl x3), (4, .inl x4), (6, .inl x6)] [.int y0, .int y1] w := by
  have hj : ∀ j, j < 8 → j < nLX X := fun j q => by rw [hnL]; exact q
  intro x1 x3 x4 x6 y0 y1 w hF
  unfold fX7_walkers_158 at hF
  refine g_iadd (pc := 158) h dX7_walkers_158 ?_
  refine g_t hF (fun x5_17 hF => ?_)
  refine g_istore (pc := 159) (lv' := [(5, .inl x5_17), (0, .inr (.inl (some t))), (1, .inl x1), (3, .inl x3), (4, .inl x4), (6, .inl x6)]) h dX7_walkers_159 (hj 5 (by decide)) rfl ?_
  refine g_iinc (pc := 161) (lv' := [(6, .inl (x6 + (1 : Int32))), (5, .inl x5_17), (0, .inr (.inl (some t))), (1, .inl x1), (3, .inl x3), (4, .inl x4)]) h 5 rfl dX7_walkers_161 (dv := (1 : Int32)) (by decide) (hj 6 (by decide)) rfl ?_
  refine g_goto (pc := 164) (tgt := 75) h dX7_walkers_164 (by decide) ?_
  refine g_lv (lv' := [(0, .inr (.inl (some t))), (1, .inl x1), (3, .inl x3), (4, .inl x4), (5, .inl x5_17), (6, .inl (x6 + (1 : Int32)))]) [2, 3, 4, 5, 1, 0] rfl ?_
  exact hk75 _ _ _ _ _ _ hF
def fX7_walkers_75 (t : Nat) : Nat → Int32 → Int32 → Int32 → Int32 → Int32 → Wd → Option (Int32 × Wd)
  | 0 => fun _ _ _ _ _ _ => none
  | n + 1 => fun x1 x3 x4 x5 x6 w =>
    if x4 ≤ x6 then
      (some (x5, w))
    else
      (if x3 < 0 then
        (some ((-12 : Int32), w))
      else
        (dr (gR w t 44) 8 w (fun a_10 => grd (vin x1 (ln a_10)) (if x3 ≤ (((gI w a_10 x1.toNatClampNeg) - ((3 : Int32) * x6)) - (3 : Int32)) then
          (lt ((((40 : Int32) * x1) + x3) + ((3 : Int32) * x6)) (fun x7_11 => dr (gR w t 45) 8 w (fun a_12 => grd (vin x7_11 (ln a_12)) (dr (gR w t 45) 8 w (fun a_13 => grd (vin (x7_11 + (1 : Int32)) (ln a_13)) (dr (gR w t 45) 8 w (fun a_14 => grd (vin (x7_11 + (2 : Int32)) (ln a_14)) (bnd (fX7_walker t (gI w a_12 x7_11.toNatClampNeg) (gI w a_13 (x7_11 + (1 : Int32)).toNatClampNeg) (gI w a_14 (x7_11 + (2 : Int32)).toNatClampNeg) w) (fun x_15 w_16 => if x_15 < 0 then
            (fX7_walkers_158 (fX7_walkers_75 t n) t x1 x3 x4 x6 (0 : Int32) x5 w_16)
          else
            (fX7_walkers_158 (fX7_walkers_75 t n) t x1 x3 x4 x6 (1 : Int32) x5 w_16))))))))))
        else
          (some ((-12 : Int32), w))))))
set_option maxHeartbeats 4000000 in
theorem kX7_walkers_75 {X : Cx} (h : Ok X cX7_walkers RX7 4 0 0) (hr : RetI X .int 0 0) (hnL : nLX X = 8) {t : Nat} (ht : InN X t 7) : ∀ (fu : Nat) (x1 : Int32) (x3 : Int32) (x4 : Int32) (x5 : Int32) (x6 : Int32) (w : Wd), OkR X Value.int (fX7_walkers_75 t fu x1 x3 x4 x5 x6 w) → G X 0 0 75 [(0, .inr (.inl (some t))), (1, .inl x1), (3, .inl x3), (4, .inl x4), (5, .inl x5), (6, .inl x6)] [] w := by
  have hj : ∀ j, j < 8 → j < nLX X := fun j q => by rw [hnL]; exact q
  intro fu
  induction fu with
  | zero => intro x1 x3 x4 x5 x6 w hF; exact okN hF
  | succ fu ih =>
    intro x1 x3 x4 x5 x6 w hF
    rw [fX7_walkers_75] at hF
    refine g_iload (pc := 75) h 5 rfl dX7_walkers_75 ?_
    refine g_iload (pc := 77) h 3 rfl dX7_walkers_77 ?_
    refine g_icmp_ge (pc := 79) (tgt := 167) h dX7_walkers_79 (by decide) hF (fun hF => ?_) (fun hF => ?_)
    · refine g_iload (pc := 167) h 4 rfl dX7_walkers_167 ?_
      exact g_iret (pc := 169) h hr ⟨Nat.le_refl _, Nat.le_refl _⟩ hF dX7_walkers_169
    · refine g_iload_n (pc := 82) h 2 rfl dX7_walkers_82 ?_
      refine g_if_lt (pc := 83) (tgt := 103) h dX7_walkers_83 (by decide) hF (fun hF => ?_) (fun hF => ?_)
      · refine g_bipush (pc := 103) (v := (-12 : Int32)) h dX7_walkers_103 (by decide) ?_
        exact g_iret (pc := 105) h hr ⟨Nat.le_refl _, Nat.le_refl _⟩ hF dX7_walkers_105
      · refine g_iload_n (pc := 86) h 2 rfl dX7_walkers_86 ?_
        refine g_aload_n (pc := 87) h 0 rfl dX7_walkers_87 ?_
        refine g_getR (pc := 88) h fdX7_51 (inw ht) rfl dX7_walkers_88 ?_
        refine g_iload_n (pc := 91) h 1 rfl dX7_walkers_91 ?_
        refine g_dr hF (fun a_10 e_a_10 h_a_10 hF => ?_)
        rw [e_a_10]
        obtain ⟨g_4, hF⟩ := grd_ok hF
        refine g_iald (pc := 92) h h_a_10 g_4 dX7_walkers_92 ?_
        refine g_iconst (pc := 93) (v := (3 : Int32)) h dX7_walkers_93 (by decide) ?_
        refine g_iload (pc := 94) h 5 rfl dX7_walkers_94 ?_
        refine g_imul (pc := 96) h dX7_walkers_96 ?_
        refine g_isub (pc := 97) h dX7_walkers_97 ?_
        refine g_iconst (pc := 98) (v := (3 : Int32)) h dX7_walkers_98 (by decide) ?_
        refine g_isub (pc := 99) h dX7_walkers_99 ?_
        refine g_icmp_le (pc := 100) (tgt := 106) h dX7_walkers_100 (by decide) hF (fun hF => ?_) (fun hF => ?_)
        · refine g_bipush (pc := 106) (v := (40 : Int32)) h dX7_walkers_106 (by decide) ?_
          refine g_iload_n (pc := 108) h 1 rfl dX7_walkers_108 ?_
          refine g_imul (pc := 109) h dX7_walkers_109 ?_
          refine g_iload_n (pc := 110) h 2 rfl dX7_walkers_110 ?_
          refine g_iadd (pc := 111) h dX7_walkers_111 ?_
          refine g_iconst (pc := 112) (v := (3 : Int32)) h dX7_walkers_112 (by decide) ?_
          refine g_iload (pc := 113) h 5 rfl dX7_walkers_113 ?_
          refine g_imul (pc := 115) h dX7_walkers_115 ?_
          refine g_iadd (pc := 116) h dX7_walkers_116 ?_
          refine g_t hF (fun x7_11 hF => ?_)
          refine g_istore (pc := 117) (lv' := [(7, .inl x7_11), (0, .inr (.inl (some t))), (1, .inl x1), (3, .inl x3), (4, .inl x4), (5, .inl x5), (6, .inl x6)]) h dX7_walkers_117 (hj 7 (by decide)) rfl ?_
          refine g_iload (pc := 119) h 5 rfl dX7_walkers_119 ?_
          refine g_aload_n (pc := 121) h 1 rfl dX7_walkers_121 ?_
          refine g_aload_n (pc := 122) h 1 rfl dX7_walkers_122 ?_
          refine g_getR (pc := 123) h fdX7_54 (inw ht) rfl dX7_walkers_123 ?_
          refine g_iload (pc := 126) h 0 rfl dX7_walkers_126 ?_
          refine g_dr hF (fun a_12 e_a_12 h_a_12 hF => ?_)
          rw [e_a_12]
          obtain ⟨g_5, hF⟩ := grd_ok hF
          refine g_iald (pc := 128) h h_a_12 g_5 dX7_walkers_128 ?_
          refine g_aload_n (pc := 129) h 1 rfl dX7_walkers_129 ?_
          refine g_getR (pc := 130) h fdX7_54 (inw ht) rfl dX7_walkers_130 ?_
          refine g_iload (pc := 133) h 0 rfl dX7_walkers_133 ?_
          refine g_iconst (pc := 135) (v := (1 : Int32)) h dX7_walkers_135 (by decide) ?_
          refine g_iadd (pc := 136) h dX7_walkers_136 ?_
          refine g_dr hF (fun a_13 e_a_13 h_a_13 hF => ?_)
          rw [e_a_13]
          obtain ⟨g_6, hF⟩ := grd_ok hF
          refine g_iald (pc := 137) h h_a_13 g_6 dX7_walkers_137 ?_
          refine g_aload_n (pc := 138) h 1 rfl dX7_walkers_138 ?_
          refine g_getR (pc := 139) h fdX7_54 (inw ht) rfl dX7_walkers_139 ?_
          refine g_iload (pc := 142) h 0 rfl dX7_walkers_142 ?_
          refine g_iconst (pc := 144) (v := (2 : Int32)) h dX7_walkers_144 (by decide) ?_
          refine g_iadd (pc := 145) h dX7_walkers_145 ?_
          refine g_dr hF (fun a_14 e_a_14 h_a_14 hF => ?_)
          rw [e_a_14]
          obtain ⟨g_7, hF⟩ := grd_ok hF
          refine g_iald (pc := 146) h h_a_14 g_7 dX7_walkers_146 ?_
          refine g_cvI (pc := 147) (st := [.int x5]) h mX7_walker cvX7_423 (inw ht) (by decide) ⟨by decide, by decide⟩ (Nat.le_of_ble_eq_true rfl) rfl rfl dX7_walkers_147 hF (fun x_15 w_16 hF => ?_)
          refine g_if_lt (pc := 150) (tgt := 157) h dX7_walkers_150 (by decide) hF (fun hF => ?_) (fun hF => ?_)
          · refine g_iconst (pc := 157) (v := (0 : Int32)) h dX7_walkers_157 (by decide) ?_
            refine g_lv (lv' := [(0, .inr (.inl (some t))), (1, .inl x1), (3, .inl x3), (4, .inl x4), (6, .inl x6)]) [1, 2, 3, 4, 6] rfl ?_
            exact kX7_walkers_158 h hr hnL ht (fun z0 z1 z2 z3 z4 z5 hF => ih z0 z1 z2 z3 z4 z5 hF) _ _ _ _ _ _ _ hF
          · refine g_iconst (pc := 153) (v := (1 : Int32)) h dX7_walkers_153 (by decide) ?_
            refine g_goto (pc := 154) (tgt := 158) h dX7_walkers_154 (by decide) ?_
            refine g_lv (lv' := [(0, .inr (.inl (some t))), (1, .inl x1), (3, .inl x3), (4, .inl x4), (6, .inl x6)]) [1, 2, 3, 4, 6] rfl ?_
            exact kX7_walkers_158 h hr hnL ht (fun z0 z1 z2 z3 z4 z5 hF => ih z0 z1 z2 z3 z4 z5 hF) _ _ _ _ _ _ _ hF
        · refine g_bipush (pc := 103) (v := (-12 : Int32)) h dX7_walkers_103 (by decide) ?_
          exact g_iret (pc := 105) h hr ⟨Nat.le_refl _, Nat.le_refl _⟩ hF dX7_walkers_105
def fX7_walkers_57 (t : Nat) (x1 : Int32) (x3 : Int32) (x4 : Int32) (w : Wd) : Option (Int32 × Wd) :=
  dr (gR w t 42) 9 w (fun a_9 => grd (vin x1 (ln a_9)) (if (gI w a_9 x1.toNatClampNeg) = 0 then
    (some ((-11 : Int32), w))
  else
    (fX7_walkers_75 t FU x1 x3 x4 (0 : Int32) (0 : Int32) w)))
set_option maxHeartbeats 4000000 in
theorem kX7_walkers_57 {X : Cx} (h : Ok X cX7_walkers RX7 4 0 0) (hr : RetI X .int 0 0) (hnL : nLX X = 8) {t : Nat} (ht : InN X t 7) : ∀ (x1 : Int32) (x3 : Int32) (x4 : Int32) (w : Wd), OkR X Value.int (fX7_walkers_57 t x1 x3 x4 w) → G X 0 0 57 [(0, .inr (.inl (some t))), (1, .inl x1), (3, .inl x3), (4, .inl x4)] [] w := by
  have hj : ∀ j, j < 8 → j < nLX X := fun j q => by rw [hnL]; exact q
  intro x1 x3 x4 w hF
  unfold fX7_walkers_57 at hF
  refine g_aload_n (pc := 57) h 0 rfl dX7_walkers_57 ?_
  refine g_getR (pc := 58) h fdX7_44 (inw ht) rfl dX7_walkers_58 ?_
  refine g_iload_n (pc := 61) h 1 rfl dX7_walkers_61 ?_
  refine g_dr hF (fun a_9 e_a_9 h_a_9 hF => ?_)
  rw [e_a_9]
  obtain ⟨g_3, hF⟩ := grd_ok hF
  refine g_zald (pc := 62) h h_a_9 g_3 dX7_walkers_62 ?_
  refine g_if_ne (pc := 63) (tgt := 69) h dX7_walkers_63 (by decide) hF (fun hF => ?_) (fun hF => ?_)
  · refine g_iconst (pc := 69) (v := (0 : Int32)) h dX7_walkers_69 (by decide) ?_
    refine g_istore (pc := 70) (lv' := [(5, .inl (0 : Int32)), (0, .inr (.inl (some t))), (1, .inl x1), (3, .inl x3), (4, .inl x4)]) h dX7_walkers_70 (hj 5 (by decide)) rfl ?_
    refine g_iconst (pc := 72) (v := (0 : Int32)) h dX7_walkers_72 (by decide) ?_
    refine g_istore (pc := 73) (lv' := [(6, .inl (0 : Int32)), (5, .inl (0 : Int32)), (0, .inr (.inl (some t))), (1, .inl x1), (3, .inl x3), (4, .inl x4)]) h dX7_walkers_73 (hj 6 (by decide)) rfl ?_
    refine g_lv (lv' := [(0, .inr (.inl (some t))), (1, .inl x1), (3, .inl x3), (4, .inl x4), (5, .inl (0 : Int32)), (6, .inl (0 : Int32))]) [2, 3, 4, 5, 1, 0] rfl ?_
    exact kX7_walkers_75 h hr hnL ht _ _ _ _ _ _ _ hF
  · refine g_bipush (pc := 66) (v := (-11 : Int32)) h dX7_walkers_66 (by decide) ?_
    exact g_iret (pc := 68) h hr ⟨Nat.le_refl _, Nat.le_refl _⟩ hF dX7_walkers_68
def fX7_walkers (t : Nat) (x1 : Int32) (x2 : Int32) (x3 : Int32) (x4 : Int32) (w : Wd) : Option (Int32 × Wd) :=
  bnd (fX7_isSheet x1 w) (fun x_1 w_2 => if x_1 = 0 then
    (some ((-2 : Int32), w_2))
  else
    (bnd (fX7_in (x2.toInt64) (0 : Int64) (2 : Int64) w_2) (fun x_3 w_4 => if x_3 = 0 then
      (some ((-2 : Int32), w_4))
    else
      (bnd (fX7_in (x4.toInt64) (0 : Int64) (6 : Int64) w_4) (fun x_5 w_6 => if x_5 = 0 then
        (some ((-2 : Int32), w_6))
      else
        (dr (gR w_6 t 42) 9 w_6 (fun a_7 => grd (vin x1 (ln a_7)) (if (gI w_6 a_7 x1.toNatClampNeg) = 0 then
          (fX7_walkers_57 t x1 x3 x4 w_6)
        else
          (dr (gR w_6 t 43) 8 w_6 (fun a_8 => grd (vin x1 (ln a_8)) (if (gI w_6 a_8 x1.toNatClampNeg) = x2 then
            (fX7_walkers_57 t x1 x3 x4 w_6)
          else
            (some ((-13 : Int32), w_6)))))))))))))
set_option maxHeartbeats 4000000 in
theorem mX7_walkers {Γ : En} {t : Nat} {x1 : Int32} {x2 : Int32} {x3 : Int32} {x4 : Int32} {w : Wd} (ht : t < wn w ∧ kd t = 7) : MtI Γ yX7_walkers cX7_walkers 8 (some .int) 4 0 0 [rv Γ (some t), .int x1, .int x2, .int x3, .int x4] w (fX7_walkers t x1 x2 x3 x4 w) := by
  refine mtI [.inr (.inl (some t)), .inl x1, .inl x2, .inl x3, .inl x4] rfl (Nat.le_of_ble_eq_true rfl) (fun X hΓ hnL hn0 h _ hr hF => ?_)
  subst hΓ
  have ht : InN X t 7 := ⟨by rw [hn0]; exact ht.1, ht.2⟩
  have h : Ok X cX7_walkers RX7 4 0 0 := h
  have hj : ∀ j, j < 8 → j < nLX X := fun j q => by rw [hnL]; exact q
  show G X 0 0 0 [(0, .inr (.inl (some t))), (1, .inl x1), (2, .inl x2), (3, .inl x3), (4, .inl x4)] [] w
  unfold fX7_walkers at hF
  refine g_iload_n (pc := 0) h 1 rfl dX7_walkers_0 ?_
  refine g_csI (pc := 1) (st := []) h mX7_isSheet csX7_393 (by decide) ⟨by decide, by decide⟩ (Nat.le_of_ble_eq_true rfl) rfl rfl dX7_walkers_1 hF (fun x_1 w_2 hF => ?_)
  refine g_if_eq (pc := 4) (tgt := 32) h dX7_walkers_4 (by decide) hF (fun hF => ?_) (fun hF => ?_)
  · refine g_bipush (pc := 32) (v := (-2 : Int32)) h dX7_walkers_32 (by decide) ?_
    exact g_iret (pc := 34) h hr ⟨Nat.le_refl _, Nat.le_refl _⟩ hF dX7_walkers_34
  · refine g_iload_n (pc := 7) h 2 rfl dX7_walkers_7 ?_
    refine g_i2l (pc := 8) h dX7_walkers_8 ?_
    refine g_lconst (pc := 9) (v := (0 : Int64)) h dX7_walkers_9 (by decide) ?_
    refine g_ldc2 (pc := 10) h wcL_X7_421 dX7_walkers_10 ?_
    refine g_csI (pc := 13) (st := []) h mX7_in csX7_67 (by decide) ⟨by decide, by decide⟩ (Nat.le_of_ble_eq_true rfl) rfl rfl dX7_walkers_13 hF (fun x_3 w_4 hF => ?_)
    refine g_if_eq (pc := 16) (tgt := 32) h dX7_walkers_16 (by decide) hF (fun hF => ?_) (fun hF => ?_)
    · refine g_bipush (pc := 32) (v := (-2 : Int32)) h dX7_walkers_32 (by decide) ?_
      exact g_iret (pc := 34) h hr ⟨Nat.le_refl _, Nat.le_refl _⟩ hF dX7_walkers_34
    · refine g_iload (pc := 19) h 4 rfl dX7_walkers_19 ?_
      refine g_i2l (pc := 21) h dX7_walkers_21 ?_
      refine g_lconst (pc := 22) (v := (0 : Int64)) h dX7_walkers_22 (by decide) ?_
      refine g_ldc2 (pc := 23) h wcL_X7_77 dX7_walkers_23 ?_
      refine g_csI (pc := 26) (st := []) h mX7_in csX7_67 (by decide) ⟨by decide, by decide⟩ (Nat.le_of_ble_eq_true rfl) rfl rfl dX7_walkers_26 hF (fun x_5 w_6 hF => ?_)
      refine g_if_ne (pc := 29) (tgt := 35) h dX7_walkers_29 (by decide) hF (fun hF => ?_) (fun hF => ?_)
      · refine g_aload_n (pc := 35) h 0 rfl dX7_walkers_35 ?_
        refine g_getR (pc := 36) h fdX7_44 (inw ht) rfl dX7_walkers_36 ?_
        refine g_iload_n (pc := 39) h 1 rfl dX7_walkers_39 ?_
        refine g_dr hF (fun a_7 e_a_7 h_a_7 hF => ?_)
        rw [e_a_7]
        obtain ⟨g_1, hF⟩ := grd_ok hF
        refine g_zald (pc := 40) h h_a_7 g_1 dX7_walkers_40 ?_
        refine g_if_eq (pc := 41) (tgt := 57) h dX7_walkers_41 (by decide) hF (fun hF => ?_) (fun hF => ?_)
        · refine g_lv (lv' := [(0, .inr (.inl (some t))), (1, .inl x1), (3, .inl x3), (4, .inl x4)]) [0, 1, 3, 4] rfl ?_
          exact kX7_walkers_57 h hr hnL ht _ _ _ _ hF
        · refine g_aload_n (pc := 44) h 0 rfl dX7_walkers_44 ?_
          refine g_getR (pc := 45) h fdX7_48 (inw ht) rfl dX7_walkers_45 ?_
          refine g_iload_n (pc := 48) h 1 rfl dX7_walkers_48 ?_
          refine g_dr hF (fun a_8 e_a_8 h_a_8 hF => ?_)
          rw [e_a_8]
          obtain ⟨g_2, hF⟩ := grd_ok hF
          refine g_iald (pc := 49) h h_a_8 g_2 dX7_walkers_49 ?_
          refine g_iload_n (pc := 50) h 2 rfl dX7_walkers_50 ?_
          refine g_icmp_eq (pc := 51) (tgt := 57) h dX7_walkers_51 (by decide) hF (fun hF => ?_) (fun hF => ?_)
          · refine g_lv (lv' := [(0, .inr (.inl (some t))), (1, .inl x1), (3, .inl x3), (4, .inl x4)]) [0, 1, 3, 4] rfl ?_
            exact kX7_walkers_57 h hr hnL ht _ _ _ _ hF
          · refine g_bipush (pc := 54) (v := (-13 : Int32)) h dX7_walkers_54 (by decide) ?_
            exact g_iret (pc := 56) h hr ⟨Nat.le_refl _, Nat.le_refl _⟩ hF dX7_walkers_56
      · refine g_bipush (pc := 32) (v := (-2 : Int32)) h dX7_walkers_32 (by decide) ?_
        exact g_iret (pc := 34) h hr ⟨Nat.le_refl _, Nat.le_refl _⟩ hF dX7_walkers_34
def fX7_over (x0 : Int32) (w : Wd) : Option (Int32 × Wd) :=
  if x0 = 0 then
    (some ((-1 : Int32), w))
  else
    (if x0 = (3 : Int32) then
      (some ((1 : Int32), w))
    else
      (if x0 = (4 : Int32) then
        (some ((2 : Int32), w))
      else
        (some ((0 : Int32), w))))
set_option maxHeartbeats 4000000 in
theorem mX7_over {Γ : En} {x0 : Int32} {w : Wd} : MtI Γ yX7_over cX7_over 1 (some .int) 2 0 0 [.int x0] w (fX7_over x0 w) := by
  refine mtI [.inl x0] rfl (Nat.le_of_ble_eq_true rfl) (fun X hΓ hnL hn0 h _ hr hF => ?_)
  subst hΓ
  have h : Ok X cX7_over RX7 2 0 0 := h
  have hj : ∀ j, j < 1 → j < nLX X := fun j q => by rw [hnL]; exact q
  show G X 0 0 0 [(0, .inl x0)] [] w
  unfold fX7_over at hF
  refine g_iload_n (pc := 0) h 0 rfl dX7_over_0 ?_
  refine g_if_ne (pc := 1) (tgt := 8) h dX7_over_1 (by decide) hF (fun hF => ?_) (fun hF => ?_)
  · refine g_iload_n (pc := 8) h 0 rfl dX7_over_8 ?_
    refine g_iconst (pc := 9) (v := (3 : Int32)) h dX7_over_9 (by decide) ?_
    refine g_icmp_ne (pc := 10) (tgt := 17) h dX7_over_10 (by decide) hF (fun hF => ?_) (fun hF => ?_)
    · refine g_iload_n (pc := 17) h 0 rfl dX7_over_17 ?_
      refine g_iconst (pc := 18) (v := (4 : Int32)) h dX7_over_18 (by decide) ?_
      refine g_icmp_ne (pc := 19) (tgt := 26) h dX7_over_19 (by decide) hF (fun hF => ?_) (fun hF => ?_)
      · refine g_iconst (pc := 26) (v := (0 : Int32)) h dX7_over_26 (by decide) ?_
        exact g_iret (pc := 27) h hr ⟨Nat.le_refl _, Nat.le_refl _⟩ hF dX7_over_27
      · refine g_iconst (pc := 22) (v := (2 : Int32)) h dX7_over_22 (by decide) ?_
        refine g_goto (pc := 23) (tgt := 27) h dX7_over_23 (by decide) ?_
        exact g_iret (pc := 27) h hr ⟨Nat.le_refl _, Nat.le_refl _⟩ hF dX7_over_27
    · refine g_iconst (pc := 13) (v := (1 : Int32)) h dX7_over_13 (by decide) ?_
      refine g_goto (pc := 14) (tgt := 27) h dX7_over_14 (by decide) ?_
      exact g_iret (pc := 27) h hr ⟨Nat.le_refl _, Nat.le_refl _⟩ hF dX7_over_27
  · refine g_iconst (pc := 4) (v := (-1 : Int32)) h dX7_over_4 (by decide) ?_
    refine g_goto (pc := 5) (tgt := 27) h dX7_over_5 (by decide) ?_
    exact g_iret (pc := 27) h hr ⟨Nat.le_refl _, Nat.le_refl _⟩ hF dX7_over_27
def fX7_taken_51 (t : Nat) (x1 : Int32) (x2 : Int32) (x3 : Int32) (w : Wd) : Option (Int32 × Wd) :=
  if x3 = x2 then
    (dr (gR w t 10) 8 w (fun a_9 => grd (vin ((5 : Int32) * x1) (ln a_9)) (some (gI w a_9 ((5 : Int32) * x1).toNatClampNeg, w))))
  else
    (some ((-13 : Int32), w))
set_option maxHeartbeats 4000000 in
theorem kX7_taken_51 {X : Cx} (h : Ok X cX7_taken RX7 4 0 0) (hr : RetI X .int 0 0) (hnL : nLX X = 4) {t : Nat} (ht : InN X t 7) : ∀ (x1 : Int32) (x2 : Int32) (x3 : Int32) (w : Wd), OkR X Value.int (fX7_taken_51 t x1 x2 x3 w) → G X 0 0 51 [(0, .inr (.inl (some t))), (1, .inl x1), (2, .inl x2), (3, .inl x3)] [] w := by
  have hj : ∀ j, j < 4 → j < nLX X := fun j q => by rw [hnL]; exact q
  intro x1 x2 x3 w hF
  unfold fX7_taken_51 at hF
  refine g_iload_n (pc := 51) h 3 rfl dX7_taken_51 ?_
  refine g_iload_n (pc := 52) h 2 rfl dX7_taken_52 ?_
  refine g_icmp_ne (pc := 53) (tgt := 67) h dX7_taken_53 (by decide) hF (fun hF => ?_) (fun hF => ?_)
  · refine g_bipush (pc := 67) (v := (-13 : Int32)) h dX7_taken_67 (by decide) ?_
    exact g_iret (pc := 69) h hr ⟨Nat.le_refl _, Nat.le_refl _⟩ hF dX7_taken_69
  · refine g_aload_n (pc := 56) h 0 rfl dX7_taken_56 ?_
    refine g_getR (pc := 57) h fdX7_29 (inw ht) rfl dX7_taken_57 ?_
    refine g_iconst (pc := 60) (v := (5 : Int32)) h dX7_taken_60 (by decide) ?_
    refine g_iload_n (pc := 61) h 1 rfl dX7_taken_61 ?_
    refine g_imul (pc := 62) h dX7_taken_62 ?_
    refine g_dr hF (fun a_9 e_a_9 h_a_9 hF => ?_)
    rw [e_a_9]
    obtain ⟨g_2, hF⟩ := grd_ok hF
    refine g_iald (pc := 63) h h_a_9 g_2 dX7_taken_63 ?_
    refine g_goto (pc := 64) (tgt := 69) h dX7_taken_64 (by decide) ?_
    exact g_iret (pc := 69) h hr ⟨Nat.le_refl _, Nat.le_refl _⟩ hF dX7_taken_69
def fX7_taken_33 (t : Nat) : Nat → Int32 → Int32 → Int32 → Wd → Option (Int32 × Wd)
  | 0 => fun _ _ _ _ => none
  | n + 1 => fun x1 x2 x3 w =>
    if x3 = (-1 : Int32) then
      (fX7_taken_51 t x1 x2 x3 w)
    else
      (if x3 = x2 then
        (fX7_taken_51 t x1 x2 x3 w)
      else
        (bnd (fX7_over x3 w) (fun x_7 w_8 => fX7_taken_33 t n x1 x2 x_7 w_8)))
set_option maxHeartbeats 4000000 in
theorem kX7_taken_33 {X : Cx} (h : Ok X cX7_taken RX7 4 0 0) (hr : RetI X .int 0 0) (hnL : nLX X = 4) {t : Nat} (ht : InN X t 7) : ∀ (fu : Nat) (x1 : Int32) (x2 : Int32) (x3 : Int32) (w : Wd), OkR X Value.int (fX7_taken_33 t fu x1 x2 x3 w) → G X 0 0 33 [(0, .inr (.inl (some t))), (1, .inl x1), (2, .inl x2), (3, .inl x3)] [] w := by
  have hj : ∀ j, j < 4 → j < nLX X := fun j q => by rw [hnL]; exact q
  intro fu
  induction fu with
  | zero => intro x1 x2 x3 w hF; exact okN hF
  | succ fu ih =>
    intro x1 x2 x3 w hF
    rw [fX7_taken_33] at hF
    refine g_iload_n (pc := 33) h 3 rfl dX7_taken_33 ?_
    refine g_iconst (pc := 34) (v := (-1 : Int32)) h dX7_taken_34 (by decide) ?_
    refine g_icmp_eq (pc := 35) (tgt := 51) h dX7_taken_35 (by decide) hF (fun hF => ?_) (fun hF => ?_)
    · exact kX7_taken_51 h hr hnL ht _ _ _ _ hF
    · refine g_iload_n (pc := 38) h 3 rfl dX7_taken_38 ?_
      refine g_iload_n (pc := 39) h 2 rfl dX7_taken_39 ?_
      refine g_icmp_eq (pc := 40) (tgt := 51) h dX7_taken_40 (by decide) hF (fun hF => ?_) (fun hF => ?_)
      · exact kX7_taken_51 h hr hnL ht _ _ _ _ hF
      · refine g_iload_n (pc := 43) h 3 rfl dX7_taken_43 ?_
        refine g_csI (pc := 44) (st := []) h mX7_over csX7_426 (by decide) ⟨by decide, by decide⟩ (Nat.le_of_ble_eq_true rfl) rfl rfl dX7_taken_44 hF (fun x_7 w_8 hF => ?_)
        refine g_istore_n (pc := 47) (lv' := [(3, .inl x_7), (0, .inr (.inl (some t))), (1, .inl x1), (2, .inl x2)]) h dX7_taken_47 (hj 3 (by decide)) rfl ?_
        refine g_goto (pc := 48) (tgt := 33) h dX7_taken_48 (by decide) ?_
        refine g_lv (lv' := [(0, .inr (.inl (some t))), (1, .inl x1), (2, .inl x2), (3, .inl x_7)]) [1, 2, 3, 0] rfl ?_
        exact ih _ _ _ _ hF
def fX7_taken (t : Nat) (x1 : Int32) (x2 : Int32) (w : Wd) : Option (Int32 × Wd) :=
  bnd (fX7_in (x2.toInt64) (0 : Int64) (5 : Int64) w) (fun x_1 w_2 => if x_1 = 0 then
    (some ((-2 : Int32), w_2))
  else
    (bnd (fX7_isOne t x1 w_2) (fun x_3 w_4 => if x_3 = 0 then
      (some ((-11 : Int32), w_4))
    else
      (dr (gR w_4 t 9) 8 w_4 (fun a_5 => grd (vin x1 (ln a_5)) (lt (gI w_4 a_5 x1.toNatClampNeg) (fun x3_6 => fX7_taken_33 t FU x1 x2 x3_6 w_4)))))))
set_option maxHeartbeats 4000000 in
theorem mX7_taken {Γ : En} {t : Nat} {x1 : Int32} {x2 : Int32} {w : Wd} (ht : t < wn w ∧ kd t = 7) : MtI Γ yX7_taken cX7_taken 4 (some .int) 4 0 0 [rv Γ (some t), .int x1, .int x2] w (fX7_taken t x1 x2 w) := by
  refine mtI [.inr (.inl (some t)), .inl x1, .inl x2] rfl (Nat.le_of_ble_eq_true rfl) (fun X hΓ hnL hn0 h _ hr hF => ?_)
  subst hΓ
  have ht : InN X t 7 := ⟨by rw [hn0]; exact ht.1, ht.2⟩
  have h : Ok X cX7_taken RX7 4 0 0 := h
  have hj : ∀ j, j < 4 → j < nLX X := fun j q => by rw [hnL]; exact q
  show G X 0 0 0 [(0, .inr (.inl (some t))), (1, .inl x1), (2, .inl x2)] [] w
  unfold fX7_taken at hF
  refine g_iload_n (pc := 0) h 2 rfl dX7_taken_0 ?_
  refine g_i2l (pc := 1) h dX7_taken_1 ?_
  refine g_lconst (pc := 2) (v := (0 : Int64)) h dX7_taken_2 (by decide) ?_
  refine g_ldc2 (pc := 3) h wcL_X7_101 dX7_taken_3 ?_
  refine g_csI (pc := 6) (st := []) h mX7_in csX7_67 (by decide) ⟨by decide, by decide⟩ (Nat.le_of_ble_eq_true rfl) rfl rfl dX7_taken_6 hF (fun x_1 w_2 hF => ?_)
  refine g_if_ne (pc := 9) (tgt := 15) h dX7_taken_9 (by decide) hF (fun hF => ?_) (fun hF => ?_)
  · refine g_aload_n (pc := 15) h 0 rfl dX7_taken_15 ?_
    refine g_iload_n (pc := 16) h 1 rfl dX7_taken_16 ?_
    refine g_cvI (pc := 17) (st := []) h mX7_isOne cvX7_73 (inw ht) (by decide) ⟨by decide, by decide⟩ (Nat.le_of_ble_eq_true rfl) rfl rfl dX7_taken_17 hF (fun x_3 w_4 hF => ?_)
    refine g_if_ne (pc := 20) (tgt := 26) h dX7_taken_20 (by decide) hF (fun hF => ?_) (fun hF => ?_)
    · refine g_aload_n (pc := 26) h 0 rfl dX7_taken_26 ?_
      refine g_getR (pc := 27) h fdX7_26 (inw ht) rfl dX7_taken_27 ?_
      refine g_iload_n (pc := 30) h 1 rfl dX7_taken_30 ?_
      refine g_dr hF (fun a_5 e_a_5 h_a_5 hF => ?_)
      rw [e_a_5]
      obtain ⟨g_1, hF⟩ := grd_ok hF
      refine g_iald (pc := 31) h h_a_5 g_1 dX7_taken_31 ?_
      refine g_t hF (fun x3_6 hF => ?_)
      refine g_istore_n (pc := 32) (lv' := [(3, .inl x3_6), (0, .inr (.inl (some t))), (1, .inl x1), (2, .inl x2)]) h dX7_taken_32 (hj 3 (by decide)) rfl ?_
      refine g_lv (lv' := [(0, .inr (.inl (some t))), (1, .inl x1), (2, .inl x2), (3, .inl x3_6)]) [1, 2, 3, 0] rfl ?_
      exact kX7_taken_33 h hr hnL ht _ _ _ _ _ hF
    · refine g_bipush (pc := 23) (v := (-11 : Int32)) h dX7_taken_23 (by decide) ?_
      exact g_iret (pc := 25) h hr ⟨Nat.le_refl _, Nat.le_refl _⟩ hF dX7_taken_25
  · refine g_bipush (pc := 12) (v := (-2 : Int32)) h dX7_taken_12 (by decide) ?_
    exact g_iret (pc := 14) h hr ⟨Nat.le_refl _, Nat.le_refl _⟩ hF dX7_taken_14
