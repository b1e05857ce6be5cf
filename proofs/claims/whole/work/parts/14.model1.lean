theorem fdX7_13 : FdOk RX7 13 7 1 (.array .int) true := ⟨RX7, TX7, 46, tyX7, rfl, inX7, by decide, rfl, by decide, rfl, wfl_X7_13, tyX7_ok, nmX7, rfl, rfl⟩
theorem fdX7_17 : FdOk RX7 17 7 2 (.array .int) true := ⟨RX7, TX7, 46, tyX7, rfl, inX7, by decide, rfl, by decide, rfl, wfl_X7_17, tyX7_ok, nmX7, rfl, rfl⟩
theorem fdX7_134 : FdOk RX7 134 7 19 .int false := ⟨RX7, TX7, 46, tyX7, rfl, inX7, by decide, rfl, by decide, rfl, wfl_X7_134, tyX7_ok, nmX7, rfl, rfl⟩
theorem fdX7_137 : FdOk RX7 137 7 18 .int false := ⟨RX7, TX7, 46, tyX7, rfl, inX7, by decide, rfl, by decide, rfl, wfl_X7_137, tyX7_ok, nmX7, rfl, rfl⟩
theorem fdX7_140 : FdOk RX7 140 7 20 .int false := ⟨RX7, TX7, 46, tyX7, rfl, inX7, by decide, rfl, by decide, rfl, wfl_X7_140, tyX7_ok, nmX7, rfl, rfl⟩
theorem fdX7_146 : FdOk RX7 146 7 22 .int false := ⟨RX7, TX7, 46, tyX7, rfl, inX7, by decide, rfl, by decide, rfl, wfl_X7_146, tyX7_ok, nmX7, rfl, rfl⟩
theorem fdX7_149 : FdOk RX7 149 7 21 .int false := ⟨RX7, TX7, 46, tyX7, rfl, inX7, by decide, rfl, by decide, rfl, wfl_X7_149, tyX7_ok, nmX7, rfl, rfl⟩
theorem fdX7_160 : FdOk RX7 160 7 23 .long false := ⟨RX7, TX7, 46, tyX7, rfl, inX7, by decide, rfl, by decide, rfl, wfl_X7_160, tyX7_ok, nmX7, rfl, rfl⟩
theorem fdX7_166 : FdOk RX7 166 7 25 .boolean false := ⟨RX7, TX7, 46, tyX7, rfl, inX7, by decide, rfl, by decide, rfl, wfl_X7_166, tyX7_ok, nmX7, rfl, rfl⟩
theorem fdX7_170 : FdOk RX7 170 7 26 .int false := ⟨RX7, TX7, 46, tyX7, rfl, inX7, by decide, rfl, by decide, rfl, wfl_X7_170, tyX7_ok, nmX7, rfl, rfl⟩
theorem fdX7_176 : FdOk RX7 176 7 24 .int false := ⟨RX7, TX7, 46, tyX7, rfl, inX7, by decide, rfl, by decide, rfl, wfl_X7_176, tyX7_ok, nmX7, rfl, rfl⟩
theorem fdX7_189 : FdOk RX7 189 7 12 .int false := ⟨RX7, TX7, 46, tyX7, rfl, inX7, by decide, rfl, by decide, rfl, wfl_X7_189, tyX7_ok, nmX7, rfl, rfl⟩
theorem fdX7_192 : FdOk RX7 192 7 13 .int false := ⟨RX7, TX7, 46, tyX7, rfl, inX7, by decide, rfl, by decide, rfl, wfl_X7_192, tyX7_ok, nmX7, rfl, rfl⟩
theorem fdX7_195 : FdOk RX7 195 7 14 .int false := ⟨RX7, TX7, 46, tyX7, rfl, inX7, by decide, rfl, by decide, rfl, wfl_X7_195, tyX7_ok, nmX7, rfl, rfl⟩
theorem fdX7_198 : FdOk RX7 198 7 15 .int false := ⟨RX7, TX7, 46, tyX7, rfl, inX7, by decide, rfl, by decide, rfl, wfl_X7_198, tyX7_ok, nmX7, rfl, rfl⟩
theorem fdX7_201 : FdOk RX7 201 7 16 .int false := ⟨RX7, TX7, 46, tyX7, rfl, inX7, by decide, rfl, by decide, rfl, wfl_X7_201, tyX7_ok, nmX7, rfl, rfl⟩
theorem fdX7_204 : FdOk RX7 204 7 17 .int false := ⟨RX7, TX7, 46, tyX7, rfl, inX7, by decide, rfl, by decide, rfl, wfl_X7_204, tyX7_ok, nmX7, rfl, rfl⟩
theorem cvX7_143 : CvOk RX7 143 7 yX7_byteAt cX7_byteAt 2 (some .int) 1 := ⟨⟨⟨by decide, by decide, rfl⟩, by decide, wco_X7_byteAt, win_X7⟩, by decide, ⟨_, _, rfl⟩, wml_X7_143, wim_X7_byteAt, wse_X7_byteAt⟩
theorem cvX7_173 : CvOk RX7 173 7 yX7_isLetter cX7_isLetter 3 (some .boolean) 2 := ⟨⟨⟨by decide, by decide, rfl⟩, by decide, wco_X7_isLetter, win_X7⟩, by decide, ⟨_, _, rfl⟩, wml_X7_173, wim_X7_isLetter, wse_X7_isLetter⟩
theorem cvX7_179 : CvOk RX7 179 7 yX7_fail cX7_fail 1 none 0 := ⟨⟨⟨by decide, by decide, rfl⟩, by decide, wco_X7_fail, win_X7⟩, by decide, ⟨_, _, rfl⟩, wml_X7_179, wim_X7_fail, wse_X7_fail⟩
theorem cvX7_182 : CvOk RX7 182 7 yX7_next cX7_next 3 none 0 := ⟨⟨⟨by decide, by decide, rfl⟩, by decide, wco_X7_next, win_X7⟩, by decide, ⟨_, _, rfl⟩, wml_X7_182, wim_X7_next, wse_X7_next⟩
theorem cvX7_185 : CvOk RX7 185 7 yX7_isWord cX7_isWord 9 (some .boolean) 8 := ⟨⟨⟨by decide, by decide, rfl⟩, by decide, wco_X7_isWord, win_X7⟩, by decide, ⟨_, _, rfl⟩, wml_X7_185, wim_X7_isWord, wse_X7_isWord⟩
theorem cvX7_207 : CvOk RX7 207 7 yX7_isSign cX7_isSign 2 (some .boolean) 1 := ⟨⟨⟨by decide, by decide, rfl⟩, by decide, wco_X7_isSign, win_X7⟩, by decide, ⟨_, _, rfl⟩, wml_X7_207, wim_X7_isSign, wse_X7_isSign⟩
theorem cvX7_210 : CvOk RX7 210 7 yX7_opens cX7_opens 1 (some .boolean) 0 := ⟨⟨⟨by decide, by decide, rfl⟩, by decide, wco_X7_opens, win_X7⟩, by decide, ⟨_, _, rfl⟩, wml_X7_210, wim_X7_opens, wse_X7_opens⟩
theorem cvX7_214 : CvOk RX7 214 7 yX7_name cX7_name 1 (some .int) 0 := ⟨⟨⟨by decide, by decide, rfl⟩, by decide, wco_X7_name, win_X7⟩, by decide, ⟨_, _, rfl⟩, wml_X7_214, wim_X7_name, wse_X7_name⟩
theorem cvX7_218 : CvOk RX7 218 7 yX7_atom5 cX7_atom5 2 (some .int) 0 := ⟨⟨⟨by decide, by decide, rfl⟩, by decide, wco_X7_atom5, win_X7⟩, by decide, ⟨_, _, rfl⟩, wml_X7_218, wim_X7_atom5, wse_X7_atom5⟩
theorem cvX7_221 : CvOk RX7 221 7 yX7_term5 cX7_term5 2 (some .int) 0 := ⟨⟨⟨by decide, by decide, rfl⟩, by decide, wco_X7_term5, win_X7⟩, by decide, ⟨_, _, rfl⟩, wml_X7_221, wim_X7_term5, wse_X7_term5⟩
theorem cvX7_226 : CvOk RX7 226 7 yX7_added5 cX7_added5 4 (some .int) 0 := ⟨⟨⟨by decide, by decide, rfl⟩, by decide, wco_X7_added5, win_X7⟩, by decide, ⟨_, _, rfl⟩, wml_X7_226, wim_X7_added5, wse_X7_added5⟩
theorem cvX7_231 : CvOk RX7 231 7 yX7_not5 cX7_not5 4 (some .int) 0 := ⟨⟨⟨by decide, by decide, rfl⟩, by decide, wco_X7_not5, win_X7⟩, by decide, ⟨_, _, rfl⟩, wml_X7_231, wim_X7_not5, wse_X7_not5⟩
theorem cvX7_234 : CvOk RX7 234 7 yX7_both5 cX7_both5 3 (some .int) 0 := ⟨⟨⟨by decide, by decide, rfl⟩, by decide, wco_X7_both5, win_X7⟩, by decide, ⟨_, _, rfl⟩, wml_X7_234, wim_X7_both5, wse_X7_both5⟩
theorem cvX7_237 : CvOk RX7 237 7 yX7_either5 cX7_either5 3 (some .int) 0 := ⟨⟨⟨by decide, by decide, rfl⟩, by decide, wco_X7_either5, win_X7⟩, by decide, ⟨_, _, rfl⟩, wml_X7_237, wim_X7_either5, wse_X7_either5⟩
theorem cvX7_240 : CvOk RX7 240 7 yX7_atom4 cX7_atom4 2 (some .int) 0 := ⟨⟨⟨by decide, by decide, rfl⟩, by decide, wco_X7_atom4, win_X7⟩, by decide, ⟨_, _, rfl⟩, wml_X7_240, wim_X7_atom4, wse_X7_atom4⟩
theorem cvX7_243 : CvOk RX7 243 7 yX7_term4 cX7_term4 2 (some .int) 0 := ⟨⟨⟨by decide, by decide, rfl⟩, by decide, wco_X7_term4, win_X7⟩, by decide, ⟨_, _, rfl⟩, wml_X7_243, wim_X7_term4, wse_X7_term4⟩
theorem cvX7_246 : CvOk RX7 246 7 yX7_added4 cX7_added4 4 (some .int) 0 := ⟨⟨⟨by decide, by decide, rfl⟩, by decide, wco_X7_added4, win_X7⟩, by decide, ⟨_, _, rfl⟩, wml_X7_246, wim_X7_added4, wse_X7_added4⟩
theorem cvX7_249 : CvOk RX7 249 7 yX7_not4 cX7_not4 4 (some .int) 0 := ⟨⟨⟨by decide, by decide, rfl⟩, by decide, wco_X7_not4, win_X7⟩, by decide, ⟨_, _, rfl⟩, wml_X7_249, wim_X7_not4, wse_X7_not4⟩
theorem cvX7_252 : CvOk RX7 252 7 yX7_both4 cX7_both4 3 (some .int) 0 := ⟨⟨⟨by decide, by decide, rfl⟩, by decide, wco_X7_both4, win_X7⟩, by decide, ⟨_, _, rfl⟩, wml_X7_252, wim_X7_both4, wse_X7_both4⟩
theorem cvX7_255 : CvOk RX7 255 7 yX7_either4 cX7_either4 3 (some .int) 0 := ⟨⟨⟨by decide, by decide, rfl⟩, by decide, wco_X7_either4, win_X7⟩, by decide, ⟨_, _, rfl⟩, wml_X7_255, wim_X7_either4, wse_X7_either4⟩
theorem cvX7_258 : CvOk RX7 258 7 yX7_atom3 cX7_atom3 2 (some .int) 0 := ⟨⟨⟨by decide, by decide, rfl⟩, by decide, wco_X7_atom3, win_X7⟩, by decide, ⟨_, _, rfl⟩, wml_X7_258, wim_X7_atom3, wse_X7_atom3⟩
theorem cvX7_261 : CvOk RX7 261 7 yX7_term3 cX7_term3 2 (some .int) 0 := ⟨⟨⟨by decide, by decide, rfl⟩, by decide, wco_X7_term3, win_X7⟩, by decide, ⟨_, _, rfl⟩, wml_X7_261, wim_X7_term3, wse_X7_term3⟩
theorem cvX7_264 : CvOk RX7 264 7 yX7_added3 cX7_added3 4 (some .int) 0 := ⟨⟨⟨by decide, by decide, rfl⟩, by decide, wco_X7_added3, win_X7⟩, by decide, ⟨_, _, rfl⟩, wml_X7_264, wim_X7_added3, wse_X7_added3⟩
theorem cvX7_267 : CvOk RX7 267 7 yX7_not3 cX7_not3 4 (some .int) 0 := ⟨⟨⟨by decide, by decide, rfl⟩, by decide, wco_X7_not3, win_X7⟩, by decide, ⟨_, _, rfl⟩, wml_X7_267, wim_X7_not3, wse_X7_not3⟩
theorem cvX7_270 : CvOk RX7 270 7 yX7_both3 cX7_both3 3 (some .int) 0 := ⟨⟨⟨by decide, by decide, rfl⟩, by decide, wco_X7_both3, win_X7⟩, by decide, ⟨_, _, rfl⟩, wml_X7_270, wim_X7_both3, wse_X7_both3⟩
theorem cvX7_273 : CvOk RX7 273 7 yX7_either3 cX7_either3 3 (some .int) 0 := ⟨⟨⟨by decide, by decide, rfl⟩, by decide, wco_X7_either3, win_X7⟩, by decide, ⟨_, _, rfl⟩, wml_X7_273, wim_X7_either3, wse_X7_either3⟩
theorem cvX7_276 : CvOk RX7 276 7 yX7_atom2 cX7_atom2 2 (some .int) 0 := ⟨⟨⟨by decide, by decide, rfl⟩, by decide, wco_X7_atom2, win_X7⟩, by decide, ⟨_, _, rfl⟩, wml_X7_276, wim_X7_atom2, wse_X7_atom2⟩
theorem cvX7_279 : CvOk RX7 279 7 yX7_term2 cX7_term2 2 (some .int) 0 := ⟨⟨⟨by decide, by decide, rfl⟩, by decide, wco_X7_term2, win_X7⟩, by decide, ⟨_, _, rfl⟩, wml_X7_279, wim_X7_term2, wse_X7_term2⟩
theorem cvX7_282 : CvOk RX7 282 7 yX7_added2 cX7_added2 4 (some .int) 0 := ⟨⟨⟨by decide, by decide, rfl⟩, by decide, wco_X7_added2, win_X7⟩, by decide, ⟨_, _, rfl⟩, wml_X7_282, wim_X7_added2, wse_X7_added2⟩
theorem cvX7_285 : CvOk RX7 285 7 yX7_not2 cX7_not2 4 (some .int) 0 := ⟨⟨⟨by decide, by decide, rfl⟩, by decide, wco_X7_not2, win_X7⟩, by decide, ⟨_, _, rfl⟩, wml_X7_285, wim_X7_not2, wse_X7_not2⟩
theorem cvX7_288 : CvOk RX7 288 7 yX7_both2 cX7_both2 3 (some .int) 0 := ⟨⟨⟨by decide, by decide, rfl⟩, by decide, wco_X7_both2, win_X7⟩, by decide, ⟨_, _, rfl⟩, wml_X7_288, wim_X7_both2, wse_X7_both2⟩
theorem cvX7_291 : CvOk RX7 291 7 yX7_either2 cX7_either2 3 (some .int) 0 := ⟨⟨⟨by decide, by decide, rfl⟩, by decide, wco_X7_either2, win_X7⟩, by decide, ⟨_, _, rfl⟩, wml_X7_291, wim_X7_either2, wse_X7_either2⟩
theorem cvX7_294 : CvOk RX7 294 7 yX7_atom1 cX7_atom1 2 (some .int) 0 := ⟨⟨⟨by decide, by decide, rfl⟩, by decide, wco_X7_atom1, win_X7⟩, by decide, ⟨_, _, rfl⟩, wml_X7_294, wim_X7_atom1, wse_X7_atom1⟩
theorem cvX7_297 : CvOk RX7 297 7 yX7_term1 cX7_term1 2 (some .int) 0 := ⟨⟨⟨by decide, by decide, rfl⟩, by decide, wco_X7_term1, win_X7⟩, by decide, ⟨_, _, rfl⟩, wml_X7_297, wim_X7_term1, wse_X7_term1⟩
theorem cvX7_300 : CvOk RX7 300 7 yX7_added1 cX7_added1 4 (some .int) 0 := ⟨⟨⟨by decide, by decide, rfl⟩, by decide, wco_X7_added1, win_X7⟩, by decide, ⟨_, _, rfl⟩, wml_X7_300, wim_X7_added1, wse_X7_added1⟩
theorem cvX7_303 : CvOk RX7 303 7 yX7_not1 cX7_not1 4 (some .int) 0 := ⟨⟨⟨by decide, by decide, rfl⟩, by decide, wco_X7_not1, win_X7⟩, by decide, ⟨_, _, rfl⟩, wml_X7_303, wim_X7_not1, wse_X7_not1⟩
theorem cvX7_306 : CvOk RX7 306 7 yX7_both1 cX7_both1 3 (some .int) 0 := ⟨⟨⟨by decide, by decide, rfl⟩, by decide, wco_X7_both1, win_X7⟩, by decide, ⟨_, _, rfl⟩, wml_X7_306, wim_X7_both1, wse_X7_both1⟩
theorem cvX7_309 : CvOk RX7 309 7 yX7_either1 cX7_either1 3 (some .int) 0 := ⟨⟨⟨by decide, by decide, rfl⟩, by decide, wco_X7_either1, win_X7⟩, by decide, ⟨_, _, rfl⟩, wml_X7_309, wim_X7_either1, wse_X7_either1⟩
theorem cvX7_312 : CvOk RX7 312 7 yX7_atom0 cX7_atom0 2 (some .int) 0 := ⟨⟨⟨by decide, by decide, rfl⟩, by decide, wco_X7_atom0, win_X7⟩, by decide, ⟨_, _, rfl⟩, wml_X7_312, wim_X7_atom0, wse_X7_atom0⟩
theorem cvX7_315 : CvOk RX7 315 7 yX7_term0 cX7_term0 2 (some .int) 0 := ⟨⟨⟨by decide, by decide, rfl⟩, by decide, wco_X7_term0, win_X7⟩, by decide, ⟨_, _, rfl⟩, wml_X7_315, wim_X7_term0, wse_X7_term0⟩
theorem cvX7_318 : CvOk RX7 318 7 yX7_added0 cX7_added0 4 (some .int) 0 := ⟨⟨⟨by decide, by decide, rfl⟩, by decide, wco_X7_added0, win_X7⟩, by decide, ⟨_, _, rfl⟩, wml_X7_318, wim_X7_added0, wse_X7_added0⟩
theorem cvX7_321 : CvOk RX7 321 7 yX7_not0 cX7_not0 4 (some .int) 0 := ⟨⟨⟨by decide, by decide, rfl⟩, by decide, wco_X7_not0, win_X7⟩, by decide, ⟨_, _, rfl⟩, wml_X7_321, wim_X7_not0, wse_X7_not0⟩
theorem cvX7_324 : CvOk RX7 324 7 yX7_both0 cX7_both0 3 (some .int) 0 := ⟨⟨⟨by decide, by decide, rfl⟩, by decide, wco_X7_both0, win_X7⟩, by decide, ⟨_, _, rfl⟩, wml_X7_324, wim_X7_both0, wse_X7_both0⟩
theorem cvX7_327 : CvOk RX7 327 7 yX7_either0 cX7_either0 3 (some .int) 0 := ⟨⟨⟨by decide, by decide, rfl⟩, by decide, wco_X7_either0, win_X7⟩, by decide, ⟨_, _, rfl⟩, wml_X7_327, wim_X7_either0, wse_X7_either0⟩
theorem cvX7_330 : CvOk RX7 330 7 yX7_part cX7_part 3 (some .int) 1 := ⟨⟨⟨by decide, by decide, rfl⟩, by decide, wco_X7_part, win_X7⟩, by decide, ⟨_, _, rfl⟩, wml_X7_330, wim_X7_part, wse_X7_part⟩
theorem csX7_67 : CsOk RX7 67 yX7_in cX7_in 6 (some .boolean) 3 := ⟨⟨⟨by decide, by decide, rfl⟩, by decide, wco_X7_in, win_X7⟩, wml_X7_67, wst_X7_in⟩
def fX7_in (l0 : Int64) (l2 : Int64) (l4 : Int64) (w : Wd) : Option (Int32 × Wd) :=
  if (lg_cmp l0 l2) < 0 then
    (some ((0 : Int32), w))
  else
    (if 0 < (lg_cmp l0 l4) then
      (some ((0 : Int32), w))
    else
      (some ((1 : Int32), w)))
set_option maxHeartbeats 4000000 in
theorem mX7_in {Γ : En} {l0 : Int64} {l2 : Int64} {l4 : Int64} {w : Wd} : MtI Γ yX7_in cX7_in 6 (some .boolean) 2 0 0 [.long l0, .long l2, .long l4] w (fX7_in l0 l2 l4 w) := by
  refine mtI [.inr (.inr (.inl l0)), .inr (.inr (.inl l2)), .inr (.inr (.inl l4))] rfl (Nat.le_of_ble_eq_true rfl) (fun X hΓ hnL hn0 h _ hr hF => ?_)
  subst hΓ
  have h : Ok X cX7_in RX7 2 0 0 := h
  have hj : ∀ j, j < 6 → j < nLX X := fun j q => by rw [hnL]; exact q
  show G X 0 0 0 [(0, .inr (.inr (.inl l0))), (2, .inr (.inr (.inl l2))), (4, .inr (.inr (.inl l4)))] [] w
  unfold fX7_in at hF
  refine g_lload_n (pc := 0) h 0 rfl dX7_in_0 ?_
  refine g_lload_n (pc := 1) h 1 rfl dX7_in_1 ?_
  refine g_lcmp (pc := 2) h dX7_in_2 ?_
  refine g_if_lt (pc := 3) (tgt := 17) h dX7_in_3 (by decide) hF (fun hF => ?_) (fun hF => ?_)
  · refine g_iconst (pc := 17) (v := (0 : Int32)) h dX7_in_17 (by decide) ?_
    exact g_zret (pc := 18) h hr ⟨Nat.le_refl _, Nat.le_refl _⟩ (by decide) hF dX7_in_18
  · refine g_lload_n (pc := 6) h 0 rfl dX7_in_6 ?_
    refine g_lload (pc := 7) h 2 rfl dX7_in_7 ?_
    refine g_lcmp (pc := 9) h dX7_in_9 ?_
    refine g_if_gt (pc := 10) (tgt := 17) h dX7_in_10 (by decide) hF (fun hF => ?_) (fun hF => ?_)
    · refine g_iconst (pc := 17) (v := (0 : Int32)) h dX7_in_17 (by decide) ?_
      exact g_zret (pc := 18) h hr ⟨Nat.le_refl _, Nat.le_refl _⟩ (by decide) hF dX7_in_18
    · refine g_iconst (pc := 13) (v := (1 : Int32)) h dX7_in_13 (by decide) ?_
      refine g_goto (pc := 14) (tgt := 18) h dX7_in_14 (by decide) ?_
      exact g_zret (pc := 18) h hr ⟨Nat.le_refl _, Nat.le_refl _⟩ (by decide) hF dX7_in_18
def fX7_within (x0 : Int32) (x1 : Int32) (x2 : Int32) (w : Wd) : Option (Int32 × Wd) :=
  if x1 ≤ x0 then
    (if x0 ≤ x2 then
      (some (x0, w))
    else
      (some (x2, w)))
  else
    (some (x1, w))
set_option maxHeartbeats 4000000 in
theorem mX7_within {Γ : En} {x0 : Int32} {x1 : Int32} {x2 : Int32} {w : Wd} : MtI Γ yX7_within cX7_within 3 (some .int) 2 0 0 [.int x0, .int x1, .int x2] w (fX7_within x0 x1 x2 w) := by
  refine mtI [.inl x0, .inl x1, .inl x2] rfl (Nat.le_of_ble_eq_true rfl) (fun X hΓ hnL hn0 h _ hr hF => ?_)
  subst hΓ
  have h : Ok X cX7_within RX7 2 0 0 := h
  have hj : ∀ j, j < 3 → j < nLX X := fun j q => by rw [hnL]; exact q
  show G X 0 0 0 [(0, .inl x0), (1, .inl x1), (2, .inl x2)] [] w
  unfold fX7_within at hF
  refine g_iload_n (pc := 0) h 0 rfl dX7_within_0 ?_
  refine g_iload_n (pc := 1) h 1 rfl dX7_within_1 ?_
  refine g_icmp_ge (pc := 2) (tgt := 9) h dX7_within_2 (by decide) hF (fun hF => ?_) (fun hF => ?_)
  · refine g_iload_n (pc := 9) h 0 rfl dX7_within_9 ?_
    refine g_iload_n (pc := 10) h 2 rfl dX7_within_10 ?_
    refine g_icmp_le (pc := 11) (tgt := 18) h dX7_within_11 (by decide) hF (fun hF => ?_) (fun hF => ?_)
    · refine g_iload_n (pc := 18) h 0 rfl dX7_within_18 ?_
      exact g_iret (pc := 19) h hr ⟨Nat.le_refl _, Nat.le_refl _⟩ hF dX7_within_19
    · refine g_iload_n (pc := 14) h 2 rfl dX7_within_14 ?_
      refine g_goto (pc := 15) (tgt := 19) h dX7_within_15 (by decide) ?_
      exact g_iret (pc := 19) h hr ⟨Nat.le_refl _, Nat.le_refl _⟩ hF dX7_within_19
  · refine g_iload_n (pc := 5) h 1 rfl dX7_within_5 ?_
    refine g_goto (pc := 6) (tgt := 19) h dX7_within_6 (by decide) ?_
    exact g_iret (pc := 19) h hr ⟨Nat.le_refl _, Nat.le_refl _⟩ hF dX7_within_19
def fX7_fail (t : Nat) (w : Wd) : Option (Unit × Wd) :=
  if (gI w t 25) = 0 then
    (lw (sI w t 25 (1 : Int32)) (fun w_1 => lw (sI w_1 t 26 (gI w_1 t 22)) (fun w_2 => some ((), w_2))))
  else
    (some ((), w))
set_option maxHeartbeats 4000000 in
theorem mX7_fail {Γ : En} {t : Nat} {w : Wd} (ht : t < wn w ∧ kd t = 7) : MtV Γ yX7_fail cX7_fail 1 none 2 0 0 [rv Γ (some t)] w (fX7_fail t w) := by
  refine mtV [.inr (.inl (some t))] rfl (Nat.le_of_ble_eq_true rfl) (fun X hΓ hnL hn0 h _ hr hF => ?_)
  subst hΓ
  have ht : InN X t 7 := ⟨by rw [hn0]; exact ht.1, ht.2⟩
  have h : Ok X cX7_fail RX7 2 0 0 := h
  have hj : ∀ j, j < 1 → j < nLX X := fun j q => by rw [hnL]; exact q
  show G X 0 0 0 [(0, .inr (.inl (some t)))] [] w
  unfold fX7_fail at hF
  refine g_aload_n (pc := 0) h 0 rfl dX7_fail_0 ?_
  refine g_getI (pc := 1) h fdX7_166 (inw ht) (by decide) dX7_fail_1 ?_
  refine g_if_ne (pc := 4) (tgt := 20) h dX7_fail_4 (by decide) hF (fun hF => ?_) (fun hF => ?_)
  · exact g_vret (pc := 20) h hr ⟨Nat.le_refl _, Nat.le_refl _⟩ hF dX7_fail_20
  · refine g_aload_n (pc := 7) h 0 rfl dX7_fail_7 ?_
    refine g_iconst (pc := 8) (v := (1 : Int32)) h dX7_fail_8 (by decide) ?_
    refine g_putI (pc := 9) h fdX7_166 (inw ht) (by decide) ⟨by decide, by decide⟩ dX7_fail_9 ?_
    refine g_w hF (fun w_1 hF => ?_)
    refine g_aload_n (pc := 12) h 0 rfl dX7_fail_12 ?_
    refine g_aload_n (pc := 13) h 0 rfl dX7_fail_13 ?_
    refine g_getI (pc := 14) h fdX7_146 (inw ht) (by decide) dX7_fail_14 ?_
    refine g_putI (pc := 17) h fdX7_170 (inw ht) (by decide) ⟨rfl, rfl⟩ dX7_fail_17 ?_
    refine g_w hF (fun w_2 hF => ?_)
    exact g_vret (pc := 20) h hr ⟨Nat.le_refl _, Nat.le_refl _⟩ hF dX7_fail_20
def fX7_byteAt (t : Nat) (x1 : Int32) (w : Wd) : Option (Int32 × Wd) :=
  if (gI w t 19) ≤ x1 then
    (some ((-1 : Int32), w))
  else
    (dr (gR w t 1) 8 w (fun a_1 => grd (vin ((gI w t 18) + x1) (ln a_1)) (some (gI w a_1 ((gI w t 18) + x1).toNatClampNeg, w))))
set_option maxHeartbeats 4000000 in
theorem mX7_byteAt {Γ : En} {t : Nat} {x1 : Int32} {w : Wd} (ht : t < wn w ∧ kd t = 7) : MtI Γ yX7_byteAt cX7_byteAt 2 (some .int) 2 0 0 [rv Γ (some t), .int x1] w (fX7_byteAt t x1 w) := by
  refine mtI [.inr (.inl (some t)), .inl x1] rfl (Nat.le_of_ble_eq_true rfl) (fun X hΓ hnL hn0 h _ hr hF => ?_)
  subst hΓ
  have ht : InN X t 7 := ⟨by rw [hn0]; exact ht.1, ht.2⟩
  have h : Ok X cX7_byteAt RX7 2 0 0 := h
  have hj : ∀ j, j < 2 → j < nLX X := fun j q => by rw [hnL]; exact q
  show G X 0 0 0 [(0, .inr (.inl (some t))), (1, .inl x1)] [] w
  unfold fX7_byteAt at hF
  refine g_iload_n (pc := 0) h 1 rfl dX7_byteAt_0 ?_
  refine g_aload_n (pc := 1) h 0 rfl dX7_byteAt_1 ?_
  refine g_getI (pc := 2) h fdX7_134 (inw ht) (by decide) dX7_byteAt_2 ?_
  refine g_icmp_ge (pc := 5) (tgt := 22) h dX7_byteAt_5 (by decide) hF (fun hF => ?_) (fun hF => ?_)
  · refine g_iconst (pc := 22) (v := (-1 : Int32)) h dX7_byteAt_22 (by decide) ?_
    exact g_iret (pc := 23) h hr ⟨Nat.le_refl _, Nat.le_refl _⟩ hF dX7_byteAt_23
  · refine g_aload_n (pc := 8) h 0 rfl dX7_byteAt_8 ?_
    refine g_getR (pc := 9) h fdX7_13 (inw ht) rfl dX7_byteAt_9 ?_
    refine g_aload_n (pc := 12) h 0 rfl dX7_byteAt_12 ?_
    refine g_getI (pc := 13) h fdX7_137 (inw ht) (by decide) dX7_byteAt_13 ?_
    refine g_iload_n (pc := 16) h 1 rfl dX7_byteAt_16 ?_
    refine g_iadd (pc := 17) h dX7_byteAt_17 ?_
    refine g_dr hF (fun a_1 e_a_1 h_a_1 hF => ?_)
    rw [e_a_1]
    obtain ⟨g_1, hF⟩ := grd_ok hF
    refine g_iald (pc := 18) h h_a_1 g_1 dX7_byteAt_18 ?_
    refine g_goto (pc := 19) (tgt := 23) h dX7_byteAt_19 (by decide) ?_
    exact g_iret (pc := 23) h hr ⟨Nat.le_refl _, Nat.le_refl _⟩ hF dX7_byteAt_23
def fX7_isLetter (t : Nat) (x1 : Int32) (x2 : Int32) (w : Wd) : Option (Int32 × Wd) :=
  if (gI w t 20) ≤ ((gI w t 22) + x1) then
    (if x2 = 0 then
      (some ((1 : Int32), w))
    else
      (some ((0 : Int32), w)))
  else
    (bnd (fX7_byteAt t ((gI w t 22) + x1) w) (fun x_1 w_2 => if x_1 = x2 then
      (some ((1 : Int32), w_2))
    else
      (some ((0 : Int32), w_2))))
set_option maxHeartbeats 4000000 in
theorem mX7_isLetter {Γ : En} {t : Nat} {x1 : Int32} {x2 : Int32} {w : Wd} (ht : t < wn w ∧ kd t = 7) : MtI Γ yX7_isLetter cX7_isLetter 3 (some .boolean) 3 0 0 [rv Γ (some t), .int x1, .int x2] w (fX7_isLetter t x1 x2 w) := by
  refine mtI [.inr (.inl (some t)), .inl x1, .inl x2] rfl (Nat.le_of_ble_eq_true rfl) (fun X hΓ hnL hn0 h _ hr hF => ?_)
  subst hΓ
  have ht : InN X t 7 := ⟨by rw [hn0]; exact ht.1, ht.2⟩
  have h : Ok X cX7_isLetter RX7 3 0 0 := h
  have hj : ∀ j, j < 3 → j < nLX X := fun j q => by rw [hnL]; exact q
  show G X 0 0 0 [(0, .inr (.inl (some t))), (1, .inl x1), (2, .inl x2)] [] w
  unfold fX7_isLetter at hF
  refine g_aload_n (pc := 0) h 0 rfl dX7_isLetter_0 ?_
  refine g_getI (pc := 1) h fdX7_146 (inw ht) (by decide) dX7_isLetter_1 ?_
  refine g_iload_n (pc := 4) h 1 rfl dX7_isLetter_4 ?_
  refine g_iadd (pc := 5) h dX7_isLetter_5 ?_
  refine g_aload_n (pc := 6) h 0 rfl dX7_isLetter_6 ?_
  refine g_getI (pc := 7) h fdX7_140 (inw ht) (by decide) dX7_isLetter_7 ?_
  refine g_icmp_ge (pc := 10) (tgt := 35) h dX7_isLetter_10 (by decide) hF (fun hF => ?_) (fun hF => ?_)
  · refine g_iload_n (pc := 35) h 2 rfl dX7_isLetter_35 ?_
    refine g_if_ne (pc := 36) (tgt := 43) h dX7_isLetter_36 (by decide) hF (fun hF => ?_) (fun hF => ?_)
    · refine g_iconst (pc := 43) (v := (0 : Int32)) h dX7_isLetter_43 (by decide) ?_
      exact g_zret (pc := 44) h hr ⟨Nat.le_refl _, Nat.le_refl _⟩ (by decide) hF dX7_isLetter_44
    · refine g_iconst (pc := 39) (v := (1 : Int32)) h dX7_isLetter_39 (by decide) ?_
      refine g_goto (pc := 40) (tgt := 44) h dX7_isLetter_40 (by decide) ?_
      exact g_zret (pc := 44) h hr ⟨Nat.le_refl _, Nat.le_refl _⟩ (by decide) hF dX7_isLetter_44
  · refine g_aload_n (pc := 13) h 0 rfl dX7_isLetter_13 ?_
    refine g_aload_n (pc := 14) h 0 rfl dX7_isLetter_14 ?_
    refine g_getI (pc := 15) h fdX7_146 (inw ht) (by decide) dX7_isLetter_15 ?_
    refine g_iload_n (pc := 18) h 1 rfl dX7_isLetter_18 ?_
    refine g_iadd (pc := 19) h dX7_isLetter_19 ?_
    refine g_cvI (pc := 20) (st := []) h mX7_byteAt cvX7_143 (inw ht) (by decide) ⟨by decide, by decide⟩ (Nat.le_of_ble_eq_true rfl) rfl rfl dX7_isLetter_20 hF (fun x_1 w_2 hF => ?_)
    refine g_iload_n (pc := 23) h 2 rfl dX7_isLetter_23 ?_
    refine g_icmp_ne (pc := 24) (tgt := 31) h dX7_isLetter_24 (by decide) hF (fun hF => ?_) (fun hF => ?_)
    · refine g_iconst (pc := 31) (v := (0 : Int32)) h dX7_isLetter_31 (by decide) ?_
      refine g_goto (pc := 32) (tgt := 44) h dX7_isLetter_32 (by decide) ?_
      exact g_zret (pc := 44) h hr ⟨Nat.le_refl _, Nat.le_refl _⟩ (by decide) hF dX7_isLetter_44
    · refine g_iconst (pc := 27) (v := (1 : Int32)) h dX7_isLetter_27 (by decide) ?_
      refine g_goto (pc := 28) (tgt := 44) h dX7_isLetter_28 (by decide) ?_
      exact g_zret (pc := 44) h hr ⟨Nat.le_refl _, Nat.le_refl _⟩ (by decide) hF dX7_isLetter_44
def fX7_isWord (t : Nat) (x1 : Int32) (x2 : Int32) (x3 : Int32) (x4 : Int32) (x5 : Int32) (x6 : Int32) (x7 : Int32) (x8 : Int32) (w : Wd) : Option (Int32 × Wd) :=
  if (gI w t 25) = 0 then
    (if (gI w t 21) = (1 : Int32) then
      (if ((gI w t 22) + (8 : Int32)) < (gI w t 20) then
        (some ((0 : Int32), w))
      else
        (bnd (fX7_isLetter t (0 : Int32) x1 w) (fun x_1 w_2 => if x_1 = 0 then
          (some ((0 : Int32), w_2))
        else
          (bnd (fX7_isLetter t (1 : Int32) x2 w_2) (fun x_3 w_4 => if x_3 = 0 then
            (some ((0 : Int32), w_4))
          else
            (bnd (fX7_isLetter t (2 : Int32) x3 w_4) (fun x_5 w_6 => if x_5 = 0 then
              (some ((0 : Int32), w_6))
            else
              (bnd (fX7_isLetter t (3 : Int32) x4 w_6) (fun x_7 w_8 => if x_7 = 0 then
                (some ((0 : Int32), w_8))
              else
                (bnd (fX7_isLetter t (4 : Int32) x5 w_8) (fun x_9 w_10 => if x_9 = 0 then
                  (some ((0 : Int32), w_10))
                else
                  (bnd (fX7_isLetter t (5 : Int32) x6 w_10) (fun x_11 w_12 => if x_11 = 0 then
                    (some ((0 : Int32), w_12))
                  else
                    (bnd (fX7_isLetter t (6 : Int32) x7 w_12) (fun x_13 w_14 => if x_13 = 0 then
                      (some ((0 : Int32), w_14))
                    else
                      (bnd (fX7_isLetter t (7 : Int32) x8 w_14) (fun x_15 w_16 => if x_15 = 0 then
                        (some ((0 : Int32), w_16))
                      else
                        (some ((1 : Int32), w_16)))))))))))))))))))
    else
      (some ((0 : Int32), w)))
  else
    (some ((0 : Int32), w))
set_option maxHeartbeats 4000000 in
theorem mX7_isWord {Γ : En} {t : Nat} {x1 : Int32} {x2 : Int32} {x3 : Int32} {x4 : Int32} {x5 : Int32} {x6 : Int32} {x7 : Int32} {x8 : Int32} {w : Wd} (ht : t < wn w ∧ kd t = 7) : MtI Γ yX7_isWord cX7_isWord 9 (some .boolean) 4 0 0 [rv Γ (some t), .int x1, .int x2, .int x3, .int x4, .int x5, .int x6, .int x7, .int x8] w (fX7_isWord t x1 x2 x3 x4 x5 x6 x7 x8 w) := by
  refine mtI [.inr (.inl (some t)), .inl x1, .inl x2, .inl x3, .inl x4, .inl x5, .inl x6, .inl x7, .inl x8] rfl (Nat.le_of_ble_eq_true rfl) (fun X hΓ hnL hn0 h _ hr hF => ?_)
  subst hΓ
  have ht : InN X t 7 := ⟨by rw [hn0]; exact ht.1, ht.2⟩
  have h : Ok X cX7_isWord RX7 4 0 0 := h
  have hj : ∀ j, j < 9 → j < nLX X := fun j q => by rw [hnL]; exact q
  show G X 0 0 0 [(0, .inr (.inl (some t))), (1, .inl x1), (2, .inl x2), (3, .inl x3), (4, .inl x4), (5, .inl x5), (6, .inl x6), (7, .inl x7), (8, .inl x8)] [] w
  unfold fX7_isWord at hF
  refine g_aload_n (pc := 0) h 0 rfl dX7_isWord_0 ?_
  refine g_getI (pc := 1) h fdX7_166 (inw ht) (by decide) dX7_isWord_1 ?_
  refine g_if_ne (pc := 4) (tgt := 112) h dX7_isWord_4 (by decide) hF (fun hF => ?_) (fun hF => ?_)
  · refine g_iconst (pc := 112) (v := (0 : Int32)) h dX7_isWord_112 (by decide) ?_
    exact g_zret (pc := 113) h hr ⟨Nat.le_refl _, Nat.le_refl _⟩ (by decide) hF dX7_isWord_113
  · refine g_aload_n (pc := 7) h 0 rfl dX7_isWord_7 ?_
    refine g_getI (pc := 8) h fdX7_149 (inw ht) (by decide) dX7_isWord_8 ?_
    refine g_iconst (pc := 11) (v := (1 : Int32)) h dX7_isWord_11 (by decide) ?_
    refine g_icmp_ne (pc := 12) (tgt := 112) h dX7_isWord_12 (by decide) hF (fun hF => ?_) (fun hF => ?_)
    · refine g_iconst (pc := 112) (v := (0 : Int32)) h dX7_isWord_112 (by decide) ?_
      exact g_zret (pc := 113) h hr ⟨Nat.le_refl _, Nat.le_refl _⟩ (by decide) hF dX7_isWord_113
    · refine g_aload_n (pc := 15) h 0 rfl dX7_isWord_15 ?_
      refine g_getI (pc := 16) h fdX7_140 (inw ht) (by decide) dX7_isWord_16 ?_
      refine g_aload_n (pc := 19) h 0 rfl dX7_isWord_19 ?_
      refine g_getI (pc := 20) h fdX7_146 (inw ht) (by decide) dX7_isWord_20 ?_
      refine g_bipush (pc := 23) (v := (8 : Int32)) h dX7_isWord_23 (by decide) ?_
      refine g_iadd (pc := 25) h dX7_isWord_25 ?_
      refine g_icmp_gt (pc := 26) (tgt := 112) h dX7_isWord_26 (by decide) hF (fun hF => ?_) (fun hF => ?_)
      · refine g_iconst (pc := 112) (v := (0 : Int32)) h dX7_isWord_112 (by decide) ?_
        exact g_zret (pc := 113) h hr ⟨Nat.le_refl _, Nat.le_refl _⟩ (by decide) hF dX7_isWord_113
      · refine g_aload_n (pc := 29) h 0 rfl dX7_isWord_29 ?_
        refine g_iconst (pc := 30) (v := (0 : Int32)) h dX7_isWord_30 (by decide) ?_
        refine g_iload_n (pc := 31) h 1 rfl dX7_isWord_31 ?_
        refine g_cvI (pc := 32) (st := []) h mX7_isLetter cvX7_173 (inw ht) (by decide) ⟨by decide, by decide⟩ (Nat.le_of_ble_eq_true rfl) rfl rfl dX7_isWord_32 hF (fun x_1 w_2 hF => ?_)
        refine g_if_eq (pc := 35) (tgt := 112) h dX7_isWord_35 (by decide) hF (fun hF => ?_) (fun hF => ?_)
        · refine g_iconst (pc := 112) (v := (0 : Int32)) h dX7_isWord_112 (by decide) ?_
          exact g_zret (pc := 113) h hr ⟨Nat.le_refl _, Nat.le_refl _⟩ (by decide) hF dX7_isWord_113
        · refine g_aload_n (pc := 38) h 0 rfl dX7_isWord_38 ?_
          refine g_iconst (pc := 39) (v := (1 : Int32)) h dX7_isWord_39 (by decide) ?_
          refine g_iload_n (pc := 40) h 2 rfl dX7_isWord_40 ?_
          refine g_cvI (pc := 41) (st := []) h mX7_isLetter cvX7_173 (inw ht) (by decide) ⟨by decide, by decide⟩ (Nat.le_of_ble_eq_true rfl) rfl rfl dX7_isWord_41 hF (fun x_3 w_4 hF => ?_)
          refine g_if_eq (pc := 44) (tgt := 112) h dX7_isWord_44 (by decide) hF (fun hF => ?_) (fun hF => ?_)
          · refine g_iconst (pc := 112) (v := (0 : Int32)) h dX7_isWord_112 (by decide) ?_
            exact g_zret (pc := 113) h hr ⟨Nat.le_refl _, Nat.le_refl _⟩ (by decide) hF dX7_isWord_113
          · refine g_aload_n (pc := 47) h 0 rfl dX7_isWord_47 ?_
            refine g_iconst (pc := 48) (v := (2 : Int32)) h dX7_isWord_48 (by decide) ?_
            refine g_iload_n (pc := 49) h 3 rfl dX7_isWord_49 ?_
            refine g_cvI (pc := 50) (st := []) h mX7_isLetter cvX7_173 (inw ht) (by decide) ⟨by decide, by decide⟩ (Nat.le_of_ble_eq_true rfl) rfl rfl dX7_isWord_50 hF (fun x_5 w_6 hF => ?_)
            refine g_if_eq (pc := 53) (tgt := 112) h dX7_isWord_53 (by decide) hF (fun hF => ?_) (fun hF => ?_)
            · refine g_iconst (pc := 112) (v := (0 : Int32)) h dX7_isWord_112 (by decide) ?_
              exact g_zret (pc := 113) h hr ⟨Nat.le_refl _, Nat.le_refl _⟩ (by decide) hF dX7_isWord_113
            · refine g_aload_n (pc := 56) h 0 rfl dX7_isWord_56 ?_
              refine g_iconst (pc := 57) (v := (3 : Int32)) h dX7_isWord_57 (by decide) ?_
              refine g_iload (pc := 58) h 4 rfl dX7_isWord_58 ?_
              refine g_cvI (pc := 60) (st := []) h mX7_isLetter cvX7_173 (inw ht) (by decide) ⟨by decide, by decide⟩ (Nat.le_of_ble_eq_true rfl) rfl rfl dX7_isWord_60 hF (fun x_7 w_8 hF => ?_)
              refine g_if_eq (pc := 63) (tgt := 112) h dX7_isWord_63 (by decide) hF (fun hF => ?_) (fun hF => ?_)
              · refine g_iconst (pc := 112) (v := (0 : Int32)) h dX7_isWord_112 (by decide) ?_
                exact g_zret (pc := 113) h hr ⟨Nat.le_refl _, Nat.le_refl _⟩ (by decide) hF dX7_isWord_113
              · refine g_aload_n (pc := 66) h 0 rfl dX7_isWord_66 ?_
                refine g_iconst (pc := 67) (v := (4 : Int32)) h dX7_isWord_67 (by decide) ?_
                refine g_iload (pc := 68) h 5 rfl dX7_isWord_68 ?_
                refine g_cvI (pc := 70) (st := []) h mX7_isLetter cvX7_173 (inw ht) (by decide) ⟨by decide, by decide⟩ (Nat.le_of_ble_eq_true rfl) rfl rfl dX7_isWord_70 hF (fun x_9 w_10 hF => ?_)
                refine g_if_eq (pc := 73) (tgt := 112) h dX7_isWord_73 (by decide) hF (fun hF => ?_) (fun hF => ?_)
                · refine g_iconst (pc := 112) (v := (0 : Int32)) h dX7_isWord_112 (by decide) ?_
                  exact g_zret (pc := 113) h hr ⟨Nat.le_refl _, Nat.le_refl _⟩ (by decide) hF dX7_isWord_113
                · refine g_aload_n (pc := 76) h 0 rfl dX7_isWord_76 ?_
                  refine g_iconst (pc := 77) (v := (5 : Int32)) h dX7_isWord_77 (by decide) ?_
                  refine g_iload (pc := 78) h 6 rfl dX7_isWord_78 ?_
                  refine g_cvI (pc := 80) (st := []) h mX7_isLetter cvX7_173 (inw ht) (by decide) ⟨by decide, by decide⟩ (Nat.le_of_ble_eq_true rfl) rfl rfl dX7_isWord_80 hF (fun x_11 w_12 hF => ?_)
                  refine g_if_eq (pc := 83) (tgt := 112) h dX7_isWord_83 (by decide) hF (fun hF => ?_) (fun hF => ?_)
                  · refine g_iconst (pc := 112) (v := (0 : Int32)) h dX7_isWord_112 (by decide) ?_
                    exact g_zret (pc := 113) h hr ⟨Nat.le_refl _, Nat.le_refl _⟩ (by decide) hF dX7_isWord_113
                  · refine g_aload_n (pc := 86) h 0 rfl dX7_isWord_86 ?_
                    refine g_bipush (pc := 87) (v := (6 : Int32)) h dX7_isWord_87 (by decide) ?_
                    refine g_iload (pc := 89) h 7 rfl dX7_isWord_89 ?_
                    refine g_cvI (pc := 91) (st := []) h mX7_isLetter cvX7_173 (inw ht) (by decide) ⟨by decide, by decide⟩ (Nat.le_of_ble_eq_true rfl) rfl rfl dX7_isWord_91 hF (fun x_13 w_14 hF => ?_)
                    refine g_if_eq (pc := 94) (tgt := 112) h dX7_isWord_94 (by decide) hF (fun hF => ?_) (fun hF => ?_)
                    · refine g_iconst (pc := 112) (v := (0 : Int32)) h dX7_isWord_112 (by decide) ?_
                      exact g_zret (pc := 113) h hr ⟨Nat.le_refl _, Nat.le_refl _⟩ (by decide) hF dX7_isWord_113
                    · refine g_aload_n (pc := 97) h 0 rfl dX7_isWord_97 ?_
                      refine g_bipush (pc := 98) (v := (7 : Int32)) h dX7_isWord_98 (by decide) ?_
                      refine g_iload (pc := 100) h 8 rfl dX7_isWord_100 ?_
                      refine g_cvI (pc := 102) (st := []) h mX7_isLetter cvX7_173 (inw ht) (by decide) ⟨by decide, by decide⟩ (Nat.le_of_ble_eq_true rfl) rfl rfl dX7_isWord_102 hF (fun x_15 w_16 hF => ?_)
                      refine g_if_eq (pc := 105) (tgt := 112) h dX7_isWord_105 (by decide) hF (fun hF => ?_) (fun hF => ?_)
                      · refine g_iconst (pc := 112) (v := (0 : Int32)) h dX7_isWord_112 (by decide) ?_
                        exact g_zret (pc := 113) h hr ⟨Nat.le_refl _, Nat.le_refl _⟩ (by decide) hF dX7_isWord_113
                      · refine g_iconst (pc := 108) (v := (1 : Int32)) h dX7_isWord_108 (by decide) ?_
                        refine g_goto (pc := 109) (tgt := 113) h dX7_isWord_109 (by decide) ?_
                        exact g_zret (pc := 113) h hr ⟨Nat.le_refl _, Nat.le_refl _⟩ (by decide) hF dX7_isWord_113
def fX7_next_26 (k0 : Wd → Option (Unit × Wd)) (t : Nat) (w : Wd) : Option (Unit × Wd) :=
  lw (sI w t 20 ((gI w t 20) + (1 : Int32))) (fun w_18 => k0 w_18)
set_option maxHeartbeats 4000000 in
theorem kX7_next_26 {X : Cx} (h : Ok X cX7_next RX7 3 0 0) (hr : RetV X 0 0) (hnL : nLX X = 3) {t : Nat} (ht : InN X t 7) {k0 : Wd → Option (Unit × Wd)} (hk0 : ∀ (w : Wd), OkR X (fun _ : Unit => Value.null) (k0  w) → G X 0 0 0 [(0, .inr (.inl (some t)))] [] w) : ∀ (w : Wd), OkR X (fun _ : Unit => Value.null) (fX7_next_26 k0 t  w) → G X 0 0 26 [(0, .inr (.inl (some t)))] [] w := by
  have hj : ∀ j, j < 3 → j < nLX X := fun j q => by rw [hnL]; exact q
  intro w hF
  unfold fX7_next_26 at hF
  refine g_aload_n (pc := 26) h 0 rfl dX7_next_26 ?_
  refine g_dup (pc := 27) h dX7_next_27 rv_cat ?_
  refine g_getI (pc := 28) h fdX7_140 (inw ht) (by decide) dX7_next_28 ?_
  refine g_iconst (pc := 31) (v := (1 : Int32)) h dX7_next_31 (by decide) ?_
  refine g_iadd (pc := 32) h dX7_next_32 ?_
  refine g_putI (pc := 33) h fdX7_140 (inw ht) (by decide) ⟨rfl, rfl⟩ dX7_next_33 ?_
  refine g_w hF (fun w_18 hF => ?_)
  refine g_goto (pc := 36) (tgt := 0) h dX7_next_36 (by decide) ?_
  exact hk0 _ hF
def fX7_next_100 (t : Nat) : Nat → Wd → Option (Unit × Wd)
  | 0 => fun _ => none
  | n + 1 => fun w =>
    bnd (fX7_byteAt t (gI w t 20) w) (fun x_28 w_29 => bnd (fX7_in (x_28.toInt64) (97 : Int64) (122 : Int64) w_29) (fun x_30 w_31 => if x_30 = 0 then
      (some ((), w_31))
    else
      (lw (sI w_31 t 20 ((gI w_31 t 20) + (1 : Int32))) (fun w_32 => fX7_next_100 t n w_32))))
set_option maxHeartbeats 4000000 in
theorem kX7_next_100 {X : Cx} (h : Ok X cX7_next RX7 3 0 0) (hr : RetV X 0 0) (hnL : nLX X = 3) {t : Nat} (ht : InN X t 7) : ∀ (fu : Nat) (w : Wd), OkR X (fun _ : Unit => Value.null) (fX7_next_100 t fu  w) → G X 0 0 100 [(0, .inr (.inl (some t)))] [] w := by
  have hj : ∀ j, j < 3 → j < nLX X := fun j q => by rw [hnL]; exact q
  intro fu
  induction fu with
  | zero => intro w hF; exact okN hF
  | succ fu ih =>
    intro w hF
    rw [fX7_next_100] at hF
    refine g_aload_n (pc := 100) h 0 rfl dX7_next_100 ?_
    refine g_aload_n (pc := 101) h 0 rfl dX7_next_101 ?_
    refine g_getI (pc := 102) h fdX7_140 (inw ht) (by decide) dX7_next_102 ?_
    refine g_cvI (pc := 105) (st := []) h mX7_byteAt cvX7_143 (inw ht) (by decide) ⟨by decide, by decide⟩ (Nat.le_of_ble_eq_true rfl) rfl rfl dX7_next_105 hF (fun x_28 w_29 hF => ?_)
    refine g_i2l (pc := 108) h dX7_next_108 ?_
    refine g_ldc2 (pc := 109) h wcL_X7_152 dX7_next_109 ?_
    refine g_ldc2 (pc := 112) h wcL_X7_154 dX7_next_112 ?_
    refine g_csI (pc := 115) (st := []) h mX7_in csX7_67 (by decide) ⟨by decide, by decide⟩ (Nat.le_of_ble_eq_true rfl) rfl rfl dX7_next_115 hF (fun x_30 w_31 hF => ?_)
    refine g_if_eq (pc := 118) (tgt := 321) h dX7_next_118 (by decide) hF (fun hF => ?_) (fun hF => ?_)
    · exact g_vret (pc := 321) h hr ⟨Nat.le_refl _, Nat.le_refl _⟩ hF dX7_next_321
    · refine g_aload_n (pc := 121) h 0 rfl dX7_next_121 ?_
      refine g_dup (pc := 122) h dX7_next_122 rv_cat ?_
      refine g_getI (pc := 123) h fdX7_140 (inw ht) (by decide) dX7_next_123 ?_
      refine g_iconst (pc := 126) (v := (1 : Int32)) h dX7_next_126 (by decide) ?_
      refine g_iadd (pc := 127) h dX7_next_127 ?_
      refine g_putI (pc := 128) h fdX7_140 (inw ht) (by decide) ⟨rfl, rfl⟩ dX7_next_128 ?_
      refine g_w hF (fun w_32 hF => ?_)
      refine g_goto (pc := 131) (tgt := 100) h dX7_next_131 (by decide) ?_
      exact ih _ hF
def fX7_next_216 (k160 : Int32 → Wd → Option (Unit × Wd)) (t : Nat) (x2 : Int32) (y0 : Int64) (w : Wd) : Option (Unit × Wd) :=
  lw (sL w t 23 y0) (fun w_34 => lw (sI w_34 t 20 ((gI w_34 t 20) + (1 : Int32))) (fun w_35 => k160 (x2 + (1 : Int32)) w_35))
set_option maxHeartbeats 4000000 in
theorem kX7_next_216 {X : Cx} (h : Ok X cX7_next RX7 3 0 0) (hr : RetV X 0 0) (hnL : nLX X = 3) {t : Nat} (ht : InN X t 7) {k160 : Int32 → Wd → Option (Unit × Wd)} (hk160 : ∀ (x2 : Int32) (w : Wd), OkR X (fun _ : Unit => Value.null) (k160 x2 w) → G X 0 0 160 [(0, .inr (.inl (some t))), (2, .inl x2)] [] w) : ∀ (x2 : Int32) (y0 : Int64) (w : Wd), OkR X (fun _ : Unit => Value.null) (fX7_next_216 k160 t x2 y0 w) → G X 0 0 216 [(0, .inr (.inl (some t))), (2, .inl x2)] [.long y0, rv X.1 (some t)] w := by
  have hj : ∀ j, j < 3 → j < nLX X := fun j q => by rw [hnL]; exact q
  intro x2 y0 w hF
  unfold fX7_next_216 at hF
  refine g_putL (pc := 216) h fdX7_160 (inw ht) rfl rfl dX7_next_216 ?_
  refine g_w hF (fun w_34 hF => ?_)
  refine g_iinc (pc := 219) (lv' := [(2, .inl (x2 + (1 : Int32))), (0, .inr (.inl (some t)))]) h 1 rfl dX7_next_219 (dv := (1 : Int32)) (by decide) (hj 2 (by decide)) rfl ?_
  refine g_aload_n (pc := 222) h 1 rfl dX7_next_222 ?_
  refine g_dup (pc := 223) h dX7_next_223 rv_cat ?_
  refine g_getI (pc := 224) h fdX7_140 (inw ht) (by decide) dX7_next_224 ?_
  refine g_iconst (pc := 227) (v := (1 : Int32)) h dX7_next_227 (by decide) ?_
  refine g_iadd (pc := 228) h dX7_next_228 ?_
  refine g_putI (pc := 229) h fdX7_140 (inw ht) (by decide) ⟨rfl, rfl⟩ dX7_next_229 ?_
  refine g_w hF (fun w_35 hF => ?_)
  refine g_goto (pc := 232) (tgt := 160) h dX7_next_232 (by decide) ?_
  refine g_lv (lv' := [(0, .inr (.inl (some t))), (2, .inl (x2 + (1 : Int32)))]) [1, 0] rfl ?_
  exact hk160 _ _ hF
def fX7_next_246 (t : Nat) (y0 : Int32) (w : Wd) : Option (Unit × Wd) :=
  lw (sI w t 21 y0) (fun w_33 => some ((), w_33))
set_option maxHeartbeats 4000000 in
theorem kX7_next_246 {X : Cx} (h : Ok X cX7_next RX7 3 0 0) (hr : RetV X 0 0) (hnL : nLX X = 3) {t : Nat} (ht : InN X t 7) : ∀ (y0 : Int32) (w : Wd), OkR X (fun _ : Unit => Value.null) (fX7_next_246 t y0 w) → G X 0 0 246 [] [.int y0, rv X.1 (some t)] w := by
  have hj : ∀ j, j < 3 → j < nLX X := fun j q => by rw [hnL]; exact q
  intro y0 w hF
  unfold fX7_next_246 at hF
  refine g_putI (pc := 246) h fdX7_149 (inw ht) (by decide) ⟨rfl, rfl⟩ dX7_next_246 ?_
  refine g_w hF (fun w_33 hF => ?_)
  refine g_goto (pc := 249) (tgt := 321) h dX7_next_249 (by decide) ?_
  exact g_vret (pc := 321) h hr ⟨Nat.le_refl _, Nat.le_refl _⟩ hF dX7_next_321
def fX7_next_160 (t : Nat) : Nat → Int32 → Wd → Option (Unit × Wd)
  | 0 => fun _ _ => none
  | n + 1 => fun x2 w =>
    bnd (fX7_byteAt t (gI w t 20) w) (fun x_22 w_23 => bnd (fX7_in (x_22.toInt64) (48 : Int64) (57 : Int64) w_23) (fun x_24 w_25 => if x_24 = 0 then
      (if x2 ≤ (4 : Int32) then
        (fX7_next_246 t (2 : Int32) w_25)
      else
        (fX7_next_246 t (4 : Int32) w_25))
    else
      (if (4 : Int32) ≤ x2 then
        (fX7_next_216 (fX7_next_160 t n) t x2 (gL w_25 t 23) w_25)
      else
        (bnd (fX7_byteAt t (gI w_25 t 20) w_25) (fun x_26 w_27 => fX7_next_216 (fX7_next_160 t n) t x2 ((((10 : Int64) * (gL w_25 t 23)) + (x_26.toInt64)) - (48 : Int64)) w_27)))))
set_option maxHeartbeats 4000000 in
theorem kX7_next_160 {X : Cx} (h : Ok X cX7_next RX7 3 0 0) (hr : RetV X 0 0) (hnL : nLX X = 3) {t : Nat} (ht : InN X t 7) : ∀ (fu : Nat) (x2 : Int32) (w : Wd), OkR X (fun _ : Unit => Value.null) (fX7_next_160 t fu x2 w) → G X 0 0 160 [(0, .inr (.inl (some t))), (2, .inl x2)] [] w := by
  have hj : ∀ j, j < 3 → j < nLX X := fun j q => by rw [hnL]; exact q
  intro fu
  induction fu with
  | zero => intro x2 w hF; exact okN hF
  | succ fu ih =>
    intro x2 w hF
    rw [fX7_next_160] at hF
    refine g_aload_n (pc := 160) h 0 rfl dX7_next_160 ?_
    refine g_aload_n (pc := 161) h 0 rfl dX7_next_161 ?_
    refine g_getI (pc := 162) h fdX7_140 (inw ht) (by decide) dX7_next_162 ?_
    refine g_cvI (pc := 165) (st := []) h mX7_byteAt cvX7_143 (inw ht) (by decide) ⟨by decide, by decide⟩ (Nat.le_of_ble_eq_true rfl) rfl rfl dX7_next_165 hF (fun x_22 w_23 hF => ?_)
    refine g_i2l (pc := 168) h dX7_next_168 ?_
    refine g_ldc2 (pc := 169) h wcL_X7_156 dX7_next_169 ?_
    refine g_ldc2 (pc := 172) h wcL_X7_158 dX7_next_172 ?_
    refine g_csI (pc := 175) (st := []) h mX7_in csX7_67 (by decide) ⟨by decide, by decide⟩ (Nat.le_of_ble_eq_true rfl) rfl rfl dX7_next_175 hF (fun x_24 w_25 hF => ?_)
    refine g_if_eq (pc := 178) (tgt := 235) h dX7_next_178 (by decide) hF (fun hF => ?_) (fun hF => ?_)
    · refine g_aload_n (pc := 235) h 0 rfl dX7_next_235 ?_
      refine g_iload_n (pc := 236) h 1 rfl dX7_next_236 ?_
      refine g_iconst (pc := 237) (v := (4 : Int32)) h dX7_next_237 (by decide) ?_
      refine g_icmp_le (pc := 238) (tgt := 245) h dX7_next_238 (by decide) hF (fun hF => ?_) (fun hF => ?_)
      · refine g_iconst (pc := 245) (v := (2 : Int32)) h dX7_next_245 (by decide) ?_
        refine g_lv (lv' := []) [] rfl ?_
        exact kX7_next_246 h hr hnL ht _ _ hF
      · refine g_iconst (pc := 241) (v := (4 : Int32)) h dX7_next_241 (by decide) ?_
        refine g_goto (pc := 242) (tgt := 246) h dX7_next_242 (by decide) ?_
        refine g_lv (lv' := []) [] rfl ?_
        exact kX7_next_246 h hr hnL ht _ _ hF
    · refine g_aload_n (pc := 181) h 0 rfl dX7_next_181 ?_
      refine g_iload_n (pc := 182) h 1 rfl dX7_next_182 ?_
      refine g_iconst (pc := 183) (v := (4 : Int32)) h dX7_next_183 (by decide) ?_
      refine g_icmp_ge (pc := 184) (tgt := 212) h dX7_next_184 (by decide) hF (fun hF => ?_) (fun hF => ?_)
      · refine g_aload_n (pc := 212) h 0 rfl dX7_next_212 ?_
        refine g_getL (pc := 213) h fdX7_160 (inw ht) rfl dX7_next_213 ?_
        exact kX7_next_216 h hr hnL ht (fun z0 z1 hF => ih z0 z1 hF) _ _ _ hF
      · refine g_ldc2 (pc := 187) h wcL_X7_164 dX7_next_187 ?_
        refine g_aload_n (pc := 190) h 0 rfl dX7_next_190 ?_
        refine g_getL (pc := 191) h fdX7_160 (inw ht) rfl dX7_next_191 ?_
        refine g_lmul (pc := 194) h dX7_next_194 ?_
        refine g_aload_n (pc := 195) h 0 rfl dX7_next_195 ?_
        refine g_aload_n (pc := 196) h 0 rfl dX7_next_196 ?_
        refine g_getI (pc := 197) h fdX7_140 (inw ht) (by decide) dX7_next_197 ?_
        refine g_cvI (pc := 200) (st := [.long ((10 : Int64) * (gL w_25 t 23)), rv X.1 (some t)]) h mX7_byteAt cvX7_143 (inw ht) (by decide) ⟨by decide, by decide⟩ (Nat.le_of_ble_eq_true rfl) rfl rfl dX7_next_200 hF (fun x_26 w_27 hF => ?_)
        refine g_i2l (pc := 203) h dX7_next_203 ?_
        refine g_ladd (pc := 204) h dX7_next_204 ?_
        refine g_ldc2 (pc := 205) h wcL_X7_156 dX7_next_205 ?_
        refine g_lsub (pc := 208) h dX7_next_208 ?_
        refine g_goto (pc := 209) (tgt := 216) h dX7_next_209 (by decide) ?_
        exact kX7_next_216 h hr hnL ht (fun z0 z1 hF => ih z0 z1 hF) _ _ _ hF
def fX7_next_300 (t : Nat) (x1 : Int32) (w : Wd) : Option (Unit × Wd) :=
  lw (sI w t 21 (3 : Int32)) (fun w_19 => lw (sL w_19 t 23 (x1.toInt64)) (fun w_20 => lw (sI w_20 t 20 ((gI w_20 t 20) + (1 : Int32))) (fun w_21 => some ((), w_21))))
set_option maxHeartbeats 4000000 in
theorem kX7_next_300 {X : Cx} (h : Ok X cX7_next RX7 3 0 0) (hr : RetV X 0 0) (hnL : nLX X = 3) {t : Nat} (ht : InN X t 7) : ∀ (x1 : Int32) (w : Wd), OkR X (fun _ : Unit => Value.null) (fX7_next_300 t x1 w) → G X 0 0 300 [(0, .inr (.inl (some t))), (1, .inl x1)] [] w := by
  have hj : ∀ j, j < 3 → j < nLX X := fun j q => by rw [hnL]; exact q
  intro x1 w hF
  unfold fX7_next_300 at hF
  refine g_aload_n (pc := 300) h 0 rfl dX7_next_300 ?_
  refine g_iconst (pc := 301) (v := (3 : Int32)) h dX7_next_301 (by decide) ?_
  refine g_putI (pc := 302) h fdX7_149 (inw ht) (by decide) ⟨rfl, rfl⟩ dX7_next_302 ?_
  refine g_w hF (fun w_19 hF => ?_)
  refine g_aload_n (pc := 305) h 0 rfl dX7_next_305 ?_
  refine g_iload_n (pc := 306) h 1 rfl dX7_next_306 ?_
  refine g_i2l (pc := 307) h dX7_next_307 ?_
  refine g_putL (pc := 308) h fdX7_160 (inw ht) rfl rfl dX7_next_308 ?_
  refine g_w hF (fun w_20 hF => ?_)
  refine g_aload_n (pc := 311) h 0 rfl dX7_next_311 ?_
  refine g_dup (pc := 312) h dX7_next_312 rv_cat ?_
  refine g_getI (pc := 313) h fdX7_140 (inw ht) (by decide) dX7_next_313 ?_
  refine g_iconst (pc := 316) (v := (1 : Int32)) h dX7_next_316 (by decide) ?_
  refine g_iadd (pc := 317) h dX7_next_317 ?_
  refine g_putI (pc := 318) h fdX7_140 (inw ht) (by decide) ⟨rfl, rfl⟩ dX7_next_318 ?_
  refine g_w hF (fun w_21 hF => ?_)
  exact g_vret (pc := 321) h hr ⟨Nat.le_refl _, Nat.le_refl _⟩ hF dX7_next_321
def fX7_next_0 (t : Nat) : Nat → Wd → Option (Unit × Wd)
  | 0 => fun _ => none
  | n + 1 => fun w =>
    bnd (fX7_byteAt t (gI w t 20) w) (fun x_1 w_2 => if x_1 = (32 : Int32) then
      (fX7_next_26 (fX7_next_0 t n) t w_2)
    else
      (bnd (fX7_byteAt t (gI w_2 t 20) w_2) (fun x_3 w_4 => if x_3 = (10 : Int32) then
        (fX7_next_26 (fX7_next_0 t n) t w_4)
      else
        (lw (sI w_4 t 22 (gI w_4 t 20)) (fun w_5 => bnd (fX7_byteAt t (gI w_5 t 20) w_5) (fun x_6 w_7 => lw (sI w_7 t 21 (4 : Int32)) (fun w_8 => if 0 ≤ x_6 then
          (bnd (fX7_in (x_6.toInt64) (97 : Int64) (122 : Int64) w_8) (fun x_9 w_10 => if x_9 = 0 then
            (bnd (fX7_in (x_6.toInt64) (48 : Int64) (57 : Int64) w_10) (fun x_11 w_12 => if x_11 = 0 then
              (if x_6 = (40 : Int32) then
                (fX7_next_300 t x_6 w_12)
              else
                (if x_6 = (41 : Int32) then
                  (fX7_next_300 t x_6 w_12)
                else
                  (if x_6 = (59 : Int32) then
                    (fX7_next_300 t x_6 w_12)
                  else
                    (if x_6 = (43 : Int32) then
                      (fX7_next_300 t x_6 w_12)
                    else
                      (if x_6 = (45 : Int32) then
                        (fX7_next_300 t x_6 w_12)
                      else
                        (if x_6 = (42 : Int32) then
                          (fX7_next_300 t x_6 w_12)
                        else
                          (if x_6 = (60 : Int32) then
                            (fX7_next_300 t x_6 w_12)
                          else
                            (if x_6 = (61 : Int32) then
                              (fX7_next_300 t x_6 w_12)
                            else
                              (some ((), w_12))))))))))
            else
              (lw (sI w_12 t 21 (2 : Int32)) (fun w_13 => lw (sL w_13 t 23 (0 : Int64)) (fun w_14 => fX7_next_160 t FU (0 : Int32) w_14)))))
          else
            (lw (sI w_10 t 21 (1 : Int32)) (fun w_15 => fX7_next_100 t FU w_15))))
        else
          (lw (sI w_8 t 21 (0 : Int32)) (fun w_16 => lw (sI w_16 t 22 (gI w_16 t 19)) (fun w_17 => some ((), w_17)))))))))))
set_option maxHeartbeats 4000000 in
theorem kX7_next_0 {X : Cx} (h : Ok X cX7_next RX7 3 0 0) (hr : RetV X 0 0) (hnL : nLX X = 3) {t : Nat} (ht : InN X t 7) : ∀ (fu : Nat) (w : Wd), OkR X (fun _ : Unit => Value.null) (fX7_next_0 t fu  w) → G X 0 0 0 [(0, .inr (.inl (some t)))] [] w := by
  have hj : ∀ j, j < 3 → j < nLX X := fun j q => by rw [hnL]; exact q
  intro fu
  induction fu with
  | zero => intro w hF; exact okN hF
  | succ fu ih =>
    intro w hF
    rw [fX7_next_0] at hF
    refine g_aload_n (pc := 0) h 0 rfl dX7_next_0 ?_
    refine g_aload_n (pc := 1) h 0 rfl dX7_next_1 ?_
    refine g_getI (pc := 2) h fdX7_140 (inw ht) (by decide) dX7_next_2 ?_
    refine g_cvI (pc := 5) (st := []) h mX7_byteAt cvX7_143 (inw ht) (by decide) ⟨by decide, by decide⟩ (Nat.le_of_ble_eq_true rfl) rfl rfl dX7_next_5 hF (fun x_1 w_2 hF => ?_)
    refine g_bipush (pc := 8) (v := (32 : Int32)) h dX7_next_8 (by decide) ?_
    refine g_icmp_eq (pc := 10) (tgt := 26) h dX7_next_10 (by decide) hF (fun hF => ?_) (fun hF => ?_)
    · exact kX7_next_26 h hr hnL ht (fun z0 hF => ih z0 hF) _ hF
    · refine g_aload_n (pc := 13) h 0 rfl dX7_next_13 ?_
      refine g_aload_n (pc := 14) h 0 rfl dX7_next_14 ?_
      refine g_getI (pc := 15) h fdX7_140 (inw ht) (by decide) dX7_next_15 ?_
      refine g_cvI (pc := 18) (st := []) h mX7_byteAt cvX7_143 (inw ht) (by decide) ⟨by decide, by decide⟩ (Nat.le_of_ble_eq_true rfl) rfl rfl dX7_next_18 hF (fun x_3 w_4 hF => ?_)
      refine g_bipush (pc := 21) (v := (10 : Int32)) h dX7_next_21 (by decide) ?_
      refine g_icmp_ne (pc := 23) (tgt := 39) h dX7_next_23 (by decide) hF (fun hF => ?_) (fun hF => ?_)
      · refine g_aload_n (pc := 39) h 0 rfl dX7_next_39 ?_
        refine g_aload_n (pc := 40) h 0 rfl dX7_next_40 ?_
        refine g_getI (pc := 41) h fdX7_140 (inw ht) (by decide) dX7_next_41 ?_
        refine g_putI (pc := 44) h fdX7_146 (inw ht) (by decide) ⟨rfl, rfl⟩ dX7_next_44 ?_
        refine g_w hF (fun w_5 hF => ?_)
        refine g_aload_n (pc := 47) h 0 rfl dX7_next_47 ?_
        refine g_aload_n (pc := 48) h 0 rfl dX7_next_48 ?_
        refine g_getI (pc := 49) h fdX7_140 (inw ht) (by decide) dX7_next_49 ?_
        refine g_cvI (pc := 52) (st := []) h mX7_byteAt cvX7_143 (inw ht) (by decide) ⟨by decide, by decide⟩ (Nat.le_of_ble_eq_true rfl) rfl rfl dX7_next_52 hF (fun x_6 w_7 hF => ?_)
        refine g_istore_n (pc := 55) (lv' := [(1, .inl x_6), (0, .inr (.inl (some t)))]) h dX7_next_55 (hj 1 (by decide)) rfl ?_
        refine g_aload_n (pc := 56) h 1 rfl dX7_next_56 ?_
        refine g_iconst (pc := 57) (v := (4 : Int32)) h dX7_next_57 (by decide) ?_
        refine g_putI (pc := 58) h fdX7_149 (inw ht) (by decide) ⟨rfl, rfl⟩ dX7_next_58 ?_
        refine g_w hF (fun w_8 hF => ?_)
        refine g_iload_n (pc := 61) h 0 rfl dX7_next_61 ?_
        refine g_if_ge (pc := 62) (tgt := 81) h dX7_next_62 (by decide) hF (fun hF => ?_) (fun hF => ?_)
        · refine g_iload_n (pc := 81) h 0 rfl dX7_next_81 ?_
          refine g_i2l (pc := 82) h dX7_next_82 ?_
          refine g_ldc2 (pc := 83) h wcL_X7_152 dX7_next_83 ?_
          refine g_ldc2 (pc := 86) h wcL_X7_154 dX7_next_86 ?_
          refine g_csI (pc := 89) (st := []) h mX7_in csX7_67 (by decide) ⟨by decide, by decide⟩ (Nat.le_of_ble_eq_true rfl) rfl rfl dX7_next_89 hF (fun x_9 w_10 hF => ?_)
          refine g_if_eq (pc := 92) (tgt := 134) h dX7_next_92 (by decide) hF (fun hF => ?_) (fun hF => ?_)
          · refine g_iload_n (pc := 134) h 0 rfl dX7_next_134 ?_
            refine g_i2l (pc := 135) h dX7_next_135 ?_
            refine g_ldc2 (pc := 136) h wcL_X7_156 dX7_next_136 ?_
            refine g_ldc2 (pc := 139) h wcL_X7_158 dX7_next_139 ?_
            refine g_csI (pc := 142) (st := []) h mX7_in csX7_67 (by decide) ⟨by decide, by decide⟩ (Nat.le_of_ble_eq_true rfl) rfl rfl dX7_next_142 hF (fun x_11 w_12 hF => ?_)
            refine g_if_eq (pc := 145) (tgt := 252) h dX7_next_145 (by decide) hF (fun hF => ?_) (fun hF => ?_)
            · refine g_iload_n (pc := 252) h 0 rfl dX7_next_252 ?_
              refine g_bipush (pc := 253) (v := (40 : Int32)) h dX7_next_253 (by decide) ?_
              refine g_icmp_eq (pc := 255) (tgt := 300) h dX7_next_255 (by decide) hF (fun hF => ?_) (fun hF => ?_)
              · refine g_lv (lv' := [(0, .inr (.inl (some t))), (1, .inl x_6)]) [1, 0] rfl ?_
                exact kX7_next_300 h hr hnL ht _ _ hF
              · refine g_iload_n (pc := 258) h 0 rfl dX7_next_258 ?_
                refine g_bipush (pc := 259) (v := (41 : Int32)) h dX7_next_259 (by decide) ?_
                refine g_icmp_eq (pc := 261) (tgt := 300) h dX7_next_261 (by decide) hF (fun hF => ?_) (fun hF => ?_)
                · refine g_lv (lv' := [(0, .inr (.inl (some t))), (1, .inl x_6)]) [1, 0] rfl ?_
                  exact kX7_next_300 h hr hnL ht _ _ hF
                · refine g_iload_n (pc := 264) h 0 rfl dX7_next_264 ?_
                  refine g_bipush (pc := 265) (v := (59 : Int32)) h dX7_next_265 (by decide) ?_
                  refine g_icmp_eq (pc := 267) (tgt := 300) h dX7_next_267 (by decide) hF (fun hF => ?_) (fun hF => ?_)
                  · refine g_lv (lv' := [(0, .inr (.inl (some t))), (1, .inl x_6)]) [1, 0] rfl ?_
                    exact kX7_next_300 h hr hnL ht _ _ hF
                  · refine g_iload_n (pc := 270) h 0 rfl dX7_next_270 ?_
                    refine g_bipush (pc := 271) (v := (43 : Int32)) h dX7_next_271 (by decide) ?_
                    refine g_icmp_eq (pc := 273) (tgt := 300) h dX7_next_273 (by decide) hF (fun hF => ?_) (fun hF => ?_)
                    · refine g_lv (lv' := [(0, .inr (.inl (some t))), (1, .inl x_6)]) [1, 0] rfl ?_
                      exact kX7_next_300 h hr hnL ht _ _ hF
                    · refine g_iload_n (pc := 276) h 0 rfl dX7_next_276 ?_
                      refine g_bipush (pc := 277) (v := (45 : Int32)) h dX7_next_277 (by decide) ?_
                      refine g_icmp_eq (pc := 279) (tgt := 300) h dX7_next_279 (by decide) hF (fun hF => ?_) (fun hF => ?_)
                      · refine g_lv (lv' := [(0, .inr (.inl (some t))), (1, .inl x_6)]) [1, 0] rfl ?_
                        exact kX7_next_300 h hr hnL ht _ _ hF
                      · refine g_iload_n (pc := 282) h 0 rfl dX7_next_282 ?_
                        refine g_bipush (pc := 283) (v := (42 : Int32)) h dX7_next_283 (by decide) ?_
                        refine g_icmp_eq (pc := 285) (tgt := 300) h dX7_next_285 (by decide) hF (fun hF => ?_) (fun hF => ?_)
                        · refine g_lv (lv' := [(0, .inr (.inl (some t))), (1, .inl x_6)]) [1, 0] rfl ?_
                          exact kX7_next_300 h hr hnL ht _ _ hF
                        · refine g_iload_n (pc := 288) h 0 rfl dX7_next_288 ?_
                          refine g_bipush (pc := 289) (v := (60 : Int32)) h dX7_next_289 (by decide) ?_
                          refine g_icmp_eq (pc := 291) (tgt := 300) h dX7_next_291 (by decide) hF (fun hF => ?_) (fun hF => ?_)
                          · refine g_lv (lv' := [(0, .inr (.inl (some t))), (1, .inl x_6)]) [1, 0] rfl ?_
                            exact kX7_next_300 h hr hnL ht _ _ hF
                          · refine g_iload_n (pc := 294) h 0 rfl dX7_next_294 ?_
                            refine g_bipush (pc := 295) (v := (61 : Int32)) h dX7_next_295 (by decide) ?_
                            refine g_icmp_ne (pc := 297) (tgt := 321) h dX7_next_297 (by decide) hF (fun hF => ?_) (fun hF => ?_)
                            · exact g_vret (pc := 321) h hr ⟨Nat.le_refl _, Nat.le_refl _⟩ hF dX7_next_321
                            · refine g_lv (lv' := [(0, .inr (.inl (some t))), (1, .inl x_6)]) [1, 0] rfl ?_
                              exact kX7_next_300 h hr hnL ht _ _ hF
            · refine g_aload_n (pc := 148) h 1 rfl dX7_next_148 ?_
              refine g_iconst (pc := 149) (v := (2 : Int32)) h dX7_next_149 (by decide) ?_
              refine g_putI (pc := 150) h fdX7_149 (inw ht) (by decide) ⟨rfl, rfl⟩ dX7_next_150 ?_
              refine g_w hF (fun w_13 hF => ?_)
              refine g_aload_n (pc := 153) h 1 rfl dX7_next_153 ?_
              refine g_lconst (pc := 154) (v := (0 : Int64)) h dX7_next_154 (by decide) ?_
              refine g_putL (pc := 155) h fdX7_160 (inw ht) rfl rfl dX7_next_155 ?_
              refine g_w hF (fun w_14 hF => ?_)
              refine g_iconst (pc := 158) (v := (0 : Int32)) h dX7_next_158 (by decide) ?_
              refine g_istore_n (pc := 159) (lv' := [(2, .inl (0 : Int32)), (1, .inl x_6), (0, .inr (.inl (some t)))]) h dX7_next_159 (hj 2 (by decide)) rfl ?_
              refine g_lv (lv' := [(0, .inr (.inl (some t))), (2, .inl (0 : Int32))]) [2, 0] rfl ?_
              exact kX7_next_160 h hr hnL ht _ _ _ hF
          · refine g_aload_n (pc := 95) h 1 rfl dX7_next_95 ?_
            refine g_iconst (pc := 96) (v := (1 : Int32)) h dX7_next_96 (by decide) ?_
            refine g_putI (pc := 97) h fdX7_149 (inw ht) (by decide) ⟨rfl, rfl⟩ dX7_next_97 ?_
            refine g_w hF (fun w_15 hF => ?_)
            refine g_lv (lv' := [(0, .inr (.inl (some t)))]) [1] rfl ?_
            exact kX7_next_100 h hr hnL ht _ _ hF
        · refine g_aload_n (pc := 65) h 1 rfl dX7_next_65 ?_
          refine g_iconst (pc := 66) (v := (0 : Int32)) h dX7_next_66 (by decide) ?_
          refine g_putI (pc := 67) h fdX7_149 (inw ht) (by decide) ⟨rfl, rfl⟩ dX7_next_67 ?_
          refine g_w hF (fun w_16 hF => ?_)
          refine g_aload_n (pc := 70) h 1 rfl dX7_next_70 ?_
          refine g_aload_n (pc := 71) h 1 rfl dX7_next_71 ?_
          refine g_getI (pc := 72) h fdX7_134 (inw ht) (by decide) dX7_next_72 ?_
          refine g_putI (pc := 75) h fdX7_146 (inw ht) (by decide) ⟨rfl, rfl⟩ dX7_next_75 ?_
          refine g_w hF (fun w_17 hF => ?_)
          refine g_goto (pc := 78) (tgt := 321) h dX7_next_78 (by decide) ?_
          exact g_vret (pc := 321) h hr ⟨Nat.le_refl _, Nat.le_refl _⟩ hF dX7_next_321
      · exact kX7_next_26 h hr hnL ht (fun z0 hF => ih z0 hF) _ hF
def fX7_next (t : Nat) (w : Wd) : Option (Unit × Wd) :=
  fX7_next_0 t FU w
set_option maxHeartbeats 4000000 in
theorem mX7_next {Γ : En} {t : Nat} {w : Wd} (ht : t < wn w ∧ kd t = 7) : MtV Γ yX7_next cX7_next 3 none 3 0 0 [rv Γ (some t)] w (fX7_next t w) := by
  refine mtV [.inr (.inl (some t))] rfl (Nat.le_of_ble_eq_true rfl) (fun X hΓ hnL hn0 h _ hr hF => ?_)
  subst hΓ
  have ht : InN X t 7 := ⟨by rw [hn0]; exact ht.1, ht.2⟩
  have h : Ok X cX7_next RX7 3 0 0 := h
  have hj : ∀ j, j < 3 → j < nLX X := fun j q => by rw [hnL]; exact q
  show G X 0 0 0 [(0, .inr (.inl (some t)))] [] w
  unfold fX7_next at hF
  exact kX7_next_0 h hr hnL ht _ _ hF
def fX7_isSign (t : Nat) (x1 : Int32) (w : Wd) : Option (Int32 × Wd) :=
  if (gI w t 25) = 0 then
    (if (gI w t 21) = (3 : Int32) then
      (if (lg_cmp (gL w t 23) (x1.toInt64)) = 0 then
        (some ((1 : Int32), w))
      else
        (some ((0 : Int32), w)))
    else
      (some ((0 : Int32), w)))
  else
    (some ((0 : Int32), w))
set_option maxHeartbeats 4000000 in
theorem mX7_isSign {Γ : En} {t : Nat} {x1 : Int32} {w : Wd} (ht : t < wn w ∧ kd t = 7) : MtI Γ yX7_isSign cX7_isSign 2 (some .boolean) 2 0 0 [rv Γ (some t), .int x1] w (fX7_isSign t x1 w) := by
  refine mtI [.inr (.inl (some t)), .inl x1] rfl (Nat.le_of_ble_eq_true rfl) (fun X hΓ hnL hn0 h _ hr hF => ?_)
  subst hΓ
  have ht : InN X t 7 := ⟨by rw [hn0]; exact ht.1, ht.2⟩
  have h : Ok X cX7_isSign RX7 2 0 0 := h
  have hj : ∀ j, j < 2 → j < nLX X := fun j q => by rw [hnL]; exact q
  show G X 0 0 0 [(0, .inr (.inl (some t))), (1, .inl x1)] [] w
  unfold fX7_isSign at hF
  refine g_aload_n (pc := 0) h 0 rfl dX7_isSign_0 ?_
  refine g_getI (pc := 1) h fdX7_166 (inw ht) (by decide) dX7_isSign_1 ?_
  refine g_if_ne (pc := 4) (tgt := 29) h dX7_isSign_4 (by decide) hF (fun hF => ?_) (fun hF => ?_)
  · refine g_iconst (pc := 29) (v := (0 : Int32)) h dX7_isSign_29 (by decide) ?_
    exact g_zret (pc := 30) h hr ⟨Nat.le_refl _, Nat.le_refl _⟩ (by decide) hF dX7_isSign_30
  · refine g_aload_n (pc := 7) h 0 rfl dX7_isSign_7 ?_
    refine g_getI (pc := 8) h fdX7_149 (inw ht) (by decide) dX7_isSign_8 ?_
    refine g_iconst (pc := 11) (v := (3 : Int32)) h dX7_isSign_11 (by decide) ?_
    refine g_icmp_ne (pc := 12) (tgt := 29) h dX7_isSign_12 (by decide) hF (fun hF => ?_) (fun hF => ?_)
    · refine g_iconst (pc := 29) (v := (0 : Int32)) h dX7_isSign_29 (by decide) ?_
      exact g_zret (pc := 30) h hr ⟨Nat.le_refl _, Nat.le_refl _⟩ (by decide) hF dX7_isSign_30
    · refine g_aload_n (pc := 15) h 0 rfl dX7_isSign_15 ?_
      refine g_getL (pc := 16) h fdX7_160 (inw ht) rfl dX7_isSign_16 ?_
      refine g_iload_n (pc := 19) h 1 rfl dX7_isSign_19 ?_
      refine g_i2l (pc := 20) h dX7_isSign_20 ?_
      refine g_lcmp (pc := 21) h dX7_isSign_21 ?_
      refine g_if_ne (pc := 22) (tgt := 29) h dX7_isSign_22 (by decide) hF (fun hF => ?_) (fun hF => ?_)
      · refine g_iconst (pc := 29) (v := (0 : Int32)) h dX7_isSign_29 (by decide) ?_
        exact g_zret (pc := 30) h hr ⟨Nat.le_refl _, Nat.le_refl _⟩ (by decide) hF dX7_isSign_30
      · refine g_iconst (pc := 25) (v := (1 : Int32)) h dX7_isSign_25 (by decide) ?_
        refine g_goto (pc := 26) (tgt := 30) h dX7_isSign_26 (by decide) ?_
        exact g_zret (pc := 30) h hr ⟨Nat.le_refl _, Nat.le_refl _⟩ (by decide) hF dX7_isSign_30
def fX7_name (t : Nat) (w : Wd) : Option (Int32 × Wd) :=
  bnd (fX7_isWord t (116 : Int32) (111 : Int32) (108 : Int32) (100 : Int32) (0 : Int32) (0 : Int32) (0 : Int32) (0 : Int32) w) (fun x_1 w_2 => if x_1 = 0 then
    (bnd (fX7_isWord t (117 : Int32) (110 : Int32) (116 : Int32) (111 : Int32) (108 : Int32) (100 : Int32) (0 : Int32) (0 : Int32) w_2) (fun x_3 w_4 => if x_3 = 0 then
      (bnd (fX7_isWord t (115 : Int32) (116 : Int32) (101 : Int32) (112 : Int32) (0 : Int32) (0 : Int32) (0 : Int32) (0 : Int32) w_4) (fun x_5 w_6 => if x_5 = 0 then
        (bnd (fX7_isWord t (110 : Int32) (117 : Int32) (109 : Int32) (98 : Int32) (101 : Int32) (114 : Int32) (0 : Int32) (0 : Int32) w_6) (fun x_7 w_8 => if x_7 = 0 then
          (bnd (fX7_isWord t (100 : Int32) (97 : Int32) (121 : Int32) (0 : Int32) (0 : Int32) (0 : Int32) (0 : Int32) (0 : Int32) w_8) (fun x_9 w_10 => if x_9 = 0 then
            (bnd (fX7_isWord t (119 : Int32) (111 : Int32) (114 : Int32) (110 : Int32) (0 : Int32) (0 : Int32) (0 : Int32) (0 : Int32) w_10) (fun x_11 w_12 => if x_11 = 0 then
              (bnd (fX7_fail t w_12) (fun u_13 w_14 => some ((0 : Int32), w_14)))
            else
              (some (gI w_12 t 17, w_12))))
          else
            (some (gI w_10 t 16, w_10))))
        else
          (some (gI w_8 t 15, w_8))))
      else
        (some (gI w_6 t 14, w_6))))
    else
      (some (gI w_4 t 13, w_4))))
  else
    (some (gI w_2 t 12, w_2)))
set_option maxHeartbeats 4000000 in
theorem mX7_name {Γ : En} {t : Nat} {w : Wd} (ht : t < wn w ∧ kd t = 7) : MtI Γ yX7_name cX7_name 1 (some .int) 5 0 0 [rv Γ (some t)] w (fX7_name t w) := by
  refine mtI [.inr (.inl (some t))] rfl (Nat.le_of_ble_eq_true rfl) (fun X hΓ hnL hn0 h _ hr hF => ?_)
  subst hΓ
  have ht : InN X t 7 := ⟨by rw [hn0]; exact ht.1, ht.2⟩
  have h : Ok X cX7_name RX7 5 0 0 := h
  have hj : ∀ j, j < 1 → j < nLX X := fun j q => by rw [hnL]; exact q
  show G X 0 0 0 [(0, .inr (.inl (some t)))] [] w
  unfold fX7_name at hF
  refine g_aload_n (pc := 0) h 0 rfl dX7_name_0 ?_
  refine g_bipush (pc := 1) (v := (116 : Int32)) h dX7_name_1 (by decide) ?_
  refine g_bipush (pc := 3) (v := (111 : Int32)) h dX7_name_3 (by decide) ?_
  refine g_bipush (pc := 5) (v := (108 : Int32)) h dX7_name_5 (by decide) ?_
  refine g_bipush (pc := 7) (v := (100 : Int32)) h dX7_name_7 (by decide) ?_
  refine g_iconst (pc := 9) (v := (0 : Int32)) h dX7_name_9 (by decide) ?_
  refine g_iconst (pc := 10) (v := (0 : Int32)) h dX7_name_10 (by decide) ?_
  refine g_iconst (pc := 11) (v := (0 : Int32)) h dX7_name_11 (by decide) ?_
  refine g_iconst (pc := 12) (v := (0 : Int32)) h dX7_name_12 (by decide) ?_
  refine g_cvI (pc := 13) (st := []) h mX7_isWord cvX7_185 (inw ht) (by decide) ⟨by decide, by decide⟩ (Nat.le_of_ble_eq_true rfl) rfl rfl dX7_name_13 hF (fun x_1 w_2 hF => ?_)
  refine g_if_eq (pc := 16) (tgt := 24) h dX7_name_16 (by decide) hF (fun hF => ?_) (fun hF => ?_)
  · refine g_aload_n (pc := 24) h 0 rfl dX7_name_24 ?_
    refine g_bipush (pc := 25) (v := (117 : Int32)) h dX7_name_25 (by decide) ?_
    refine g_bipush (pc := 27) (v := (110 : Int32)) h dX7_name_27 (by decide) ?_
    refine g_bipush (pc := 29) (v := (116 : Int32)) h dX7_name_29 (by decide) ?_
    refine g_bipush (pc := 31) (v := (111 : Int32)) h dX7_name_31 (by decide) ?_
    refine g_bipush (pc := 33) (v := (108 : Int32)) h dX7_name_33 (by decide) ?_
    refine g_bipush (pc := 35) (v := (100 : Int32)) h dX7_name_35 (by decide) ?_
    refine g_iconst (pc := 37) (v := (0 : Int32)) h dX7_name_37 (by decide) ?_
    refine g_iconst (pc := 38) (v := (0 : Int32)) h dX7_name_38 (by decide) ?_
    refine g_cvI (pc := 39) (st := []) h mX7_isWord cvX7_185 (inw ht) (by decide) ⟨by decide, by decide⟩ (Nat.le_of_ble_eq_true rfl) rfl rfl dX7_name_39 hF (fun x_3 w_4 hF => ?_)
    refine g_if_eq (pc := 42) (tgt := 50) h dX7_name_42 (by decide) hF (fun hF => ?_) (fun hF => ?_)
    · refine g_aload_n (pc := 50) h 0 rfl dX7_name_50 ?_
      refine g_bipush (pc := 51) (v := (115 : Int32)) h dX7_name_51 (by decide) ?_
      refine g_bipush (pc := 53) (v := (116 : Int32)) h dX7_name_53 (by decide) ?_
      refine g_bipush (pc := 55) (v := (101 : Int32)) h dX7_name_55 (by decide) ?_
      refine g_bipush (pc := 57) (v := (112 : Int32)) h dX7_name_57 (by decide) ?_
      refine g_iconst (pc := 59) (v := (0 : Int32)) h dX7_name_59 (by decide) ?_
      refine g_iconst (pc := 60) (v := (0 : Int32)) h dX7_name_60 (by decide) ?_
      refine g_iconst (pc := 61) (v := (0 : Int32)) h dX7_name_61 (by decide) ?_
      refine g_iconst (pc := 62) (v := (0 : Int32)) h dX7_name_62 (by decide) ?_
      refine g_cvI (pc := 63) (st := []) h mX7_isWord cvX7_185 (inw ht) (by decide) ⟨by decide, by decide⟩ (Nat.le_of_ble_eq_true rfl) rfl rfl dX7_name_63 hF (fun x_5 w_6 hF => ?_)
      refine g_if_eq (pc := 66) (tgt := 74) h dX7_name_66 (by decide) hF (fun hF => ?_) (fun hF => ?_)
      · refine g_aload_n (pc := 74) h 0 rfl dX7_name_74 ?_
        refine g_bipush (pc := 75) (v := (110 : Int32)) h dX7_name_75 (by decide) ?_
        refine g_bipush (pc := 77) (v := (117 : Int32)) h dX7_name_77 (by decide) ?_
        refine g_bipush (pc := 79) (v := (109 : Int32)) h dX7_name_79 (by decide) ?_
        refine g_bipush (pc := 81) (v := (98 : Int32)) h dX7_name_81 (by decide) ?_
        refine g_bipush (pc := 83) (v := (101 : Int32)) h dX7_name_83 (by decide) ?_
        refine g_bipush (pc := 85) (v := (114 : Int32)) h dX7_name_85 (by decide) ?_
        refine g_iconst (pc := 87) (v := (0 : Int32)) h dX7_name_87 (by decide) ?_
        refine g_iconst (pc := 88) (v := (0 : Int32)) h dX7_name_88 (by decide) ?_
        refine g_cvI (pc := 89) (st := []) h mX7_isWord cvX7_185 (inw ht) (by decide) ⟨by decide, by decide⟩ (Nat.le_of_ble_eq_true rfl) rfl rfl dX7_name_89 hF (fun x_7 w_8 hF => ?_)
        refine g_if_eq (pc := 92) (tgt := 100) h dX7_name_92 (by decide) hF (fun hF => ?_) (fun hF => ?_)
        · refine g_aload_n (pc := 100) h 0 rfl dX7_name_100 ?_
          refine g_bipush (pc := 101) (v := (100 : Int32)) h dX7_name_101 (by decide) ?_
          refine g_bipush (pc := 103) (v := (97 : Int32)) h dX7_name_103 (by decide) ?_
          refine g_bipush (pc := 105) (v := (121 : Int32)) h dX7_name_105 (by decide) ?_
          refine g_iconst (pc := 107) (v := (0 : Int32)) h dX7_name_107 (by decide) ?_
          refine g_iconst (pc := 108) (v := (0 : Int32)) h dX7_name_108 (by decide) ?_
          refine g_iconst (pc := 109) (v := (0 : Int32)) h dX7_name_109 (by decide) ?_
          refine g_iconst (pc := 110) (v := (0 : Int32)) h dX7_name_110 (by decide) ?_
          refine g_iconst (pc := 111) (v := (0 : Int32)) h dX7_name_111 (by decide) ?_
          refine g_cvI (pc := 112) (st := []) h mX7_isWord cvX7_185 (inw ht) (by decide) ⟨by decide, by decide⟩ (Nat.le_of_ble_eq_true rfl) rfl rfl dX7_name_112 hF (fun x_9 w_10 hF => ?_)
          refine g_if_eq (pc := 115) (tgt := 123) h dX7_name_115 (by decide) hF (fun hF => ?_) (fun hF => ?_)
          · refine g_aload_n (pc := 123) h 0 rfl dX7_name_123 ?_
            refine g_bipush (pc := 124) (v := (119 : Int32)) h dX7_name_124 (by decide) ?_
            refine g_bipush (pc := 126) (v := (111 : Int32)) h dX7_name_126 (by decide) ?_
            refine g_bipush (pc := 128) (v := (114 : Int32)) h dX7_name_128 (by decide) ?_
            refine g_bipush (pc := 130) (v := (110 : Int32)) h dX7_name_130 (by decide) ?_
            refine g_iconst (pc := 132) (v := (0 : Int32)) h dX7_name_132 (by decide) ?_
            refine g_iconst (pc := 133) (v := (0 : Int32)) h dX7_name_133 (by decide) ?_
            refine g_iconst (pc := 134) (v := (0 : Int32)) h dX7_name_134 (by decide) ?_
            refine g_iconst (pc := 135) (v := (0 : Int32)) h dX7_name_135 (by decide) ?_
            refine g_cvI (pc := 136) (st := []) h mX7_isWord cvX7_185 (inw ht) (by decide) ⟨by decide, by decide⟩ (Nat.le_of_ble_eq_true rfl) rfl rfl dX7_name_136 hF (fun x_11 w_12 hF => ?_)
            refine g_if_eq (pc := 139) (tgt := 147) h dX7_name_139 (by decide) hF (fun hF => ?_) (fun hF => ?_)
            · refine g_aload_n (pc := 147) h 0 rfl dX7_name_147 ?_
              refine g_cvV (pc := 148) (st := []) h mX7_fail cvX7_179 (inw ht) (by decide) ⟨by decide, by decide⟩ (Nat.le_of_ble_eq_true rfl) rfl rfl dX7_name_148 hF (fun u_13 w_14 hF => ?_)
              refine g_iconst (pc := 151) (v := (0 : Int32)) h dX7_name_151 (by decide) ?_
              exact g_iret (pc := 152) h hr ⟨Nat.le_refl _, Nat.le_refl _⟩ hF dX7_name_152
            · refine g_aload_n (pc := 142) h 0 rfl dX7_name_142 ?_
              refine g_getI (pc := 143) h fdX7_204 (inw ht) (by decide) dX7_name_143 ?_
              exact g_iret (pc := 146) h hr ⟨Nat.le_refl _, Nat.le_refl _⟩ hF dX7_name_146
          · refine g_aload_n (pc := 118) h 0 rfl dX7_name_118 ?_
            refine g_getI (pc := 119) h fdX7_201 (inw ht) (by decide) dX7_name_119 ?_
            exact g_iret (pc := 122) h hr ⟨Nat.le_refl _, Nat.le_refl _⟩ hF dX7_name_122
        · refine g_aload_n (pc := 95) h 0 rfl dX7_name_95 ?_
          refine g_getI (pc := 96) h fdX7_198 (inw ht) (by decide) dX7_name_96 ?_
          exact g_iret (pc := 99) h hr ⟨Nat.le_refl _, Nat.le_refl _⟩ hF dX7_name_99
      · refine g_aload_n (pc := 69) h 0 rfl dX7_name_69 ?_
        refine g_getI (pc := 70) h fdX7_195 (inw ht) (by decide) dX7_name_70 ?_
        exact g_iret (pc := 73) h hr ⟨Nat.le_refl _, Nat.le_refl _⟩ hF dX7_name_73
    · refine g_aload_n (pc := 45) h 0 rfl dX7_name_45 ?_
      refine g_getI (pc := 46) h fdX7_192 (inw ht) (by decide) dX7_name_46 ?_
      exact g_iret (pc := 49) h hr ⟨Nat.le_refl _, Nat.le_refl _⟩ hF dX7_name_49
  · refine g_aload_n (pc := 19) h 0 rfl dX7_name_19 ?_
    refine g_getI (pc := 20) h fdX7_189 (inw ht) (by decide) dX7_name_20 ?_
    exact g_iret (pc := 23) h hr ⟨Nat.le_refl _, Nat.le_refl _⟩ hF dX7_name_23
def fX7_opens (t : Nat) (w : Wd) : Option (Int32 × Wd) :=
  if (gI w t 24) = (5 : Int32) then
    (bnd (fX7_fail t w) (fun u_4 w_5 => some ((0 : Int32), w_5)))
  else
    (lw (sI w t 24 ((gI w t 24) + (1 : Int32))) (fun w_1 => bnd (fX7_next t w_1) (fun u_2 w_3 => some ((1 : Int32), w_3))))
set_option maxHeartbeats 4000000 in
theorem mX7_opens {Γ : En} {t : Nat} {w : Wd} (ht : t < wn w ∧ kd t = 7) : MtI Γ yX7_opens cX7_opens 1 (some .boolean) 4 0 0 [rv Γ (some t)] w (fX7_opens t w) := by
  refine mtI [.inr (.inl (some t))] rfl (Nat.le_of_ble_eq_true rfl) (fun X hΓ hnL hn0 h _ hr hF => ?_)
  subst hΓ
  have ht : InN X t 7 := ⟨by rw [hn0]; exact ht.1, ht.2⟩
  have h : Ok X cX7_opens RX7 4 0 0 := h
  have hj : ∀ j, j < 1 → j < nLX X := fun j q => by rw [hnL]; exact q
  show G X 0 0 0 [(0, .inr (.inl (some t)))] [] w
  unfold fX7_opens at hF
  refine g_aload_n (pc := 0) h 0 rfl dX7_opens_0 ?_
  refine g_getI (pc := 1) h fdX7_176 (inw ht) (by decide) dX7_opens_1 ?_
  refine g_iconst (pc := 4) (v := (5 : Int32)) h dX7_opens_4 (by decide) ?_
  refine g_icmp_ne (pc := 5) (tgt := 14) h dX7_opens_5 (by decide) hF (fun hF => ?_) (fun hF => ?_)
  · refine g_aload_n (pc := 14) h 0 rfl dX7_opens_14 ?_
    refine g_dup (pc := 15) h dX7_opens_15 rv_cat ?_
    refine g_getI (pc := 16) h fdX7_176 (inw ht) (by decide) dX7_opens_16 ?_
    refine g_iconst (pc := 19) (v := (1 : Int32)) h dX7_opens_19 (by decide) ?_
    refine g_iadd (pc := 20) h dX7_opens_20 ?_
    refine g_putI (pc := 21) h fdX7_176 (inw ht) (by decide) ⟨rfl, rfl⟩ dX7_opens_21 ?_
    refine g_w hF (fun w_1 hF => ?_)
    refine g_aload_n (pc := 24) h 0 rfl dX7_opens_24 ?_
    refine g_cvV (pc := 25) (st := []) h mX7_next cvX7_182 (inw ht) (by decide) ⟨by decide, by decide⟩ (Nat.le_of_ble_eq_true rfl) rfl rfl dX7_opens_25 hF (fun u_2 w_3 hF => ?_)
    refine g_iconst (pc := 28) (v := (1 : Int32)) h dX7_opens_28 (by decide) ?_
    exact g_zret (pc := 29) h hr ⟨Nat.le_refl _, Nat.le_refl _⟩ (by decide) hF dX7_opens_29
  · refine g_aload_n (pc := 8) h 0 rfl dX7_opens_8 ?_
    refine g_cvV (pc := 9) (st := []) h mX7_fail cvX7_179 (inw ht) (by decide) ⟨by decide, by decide⟩ (Nat.le_of_ble_eq_true rfl) rfl rfl dX7_opens_9 hF (fun u_4 w_5 hF => ?_)
    refine g_iconst (pc := 12) (v := (0 : Int32)) h dX7_opens_12 (by decide) ?_
    exact g_zret (pc := 13) h hr ⟨Nat.le_refl _, Nat.le_refl _⟩ (by decide) hF dX7_opens_13
def fX7_atom5_102 (t : Nat) (x1 : Int32) (w : Wd) : Option (Int32 × Wd) :=
  some (x1, w)
set_option maxHeartbeats 4000000 in
theorem kX7_atom5_102 {X : Cx} (h : Ok X cX7_atom5 RX7 6 0 0) (hr : RetI X .int 0 0) (hnL : nLX X = 2) {t : Nat} (ht : InN X t 7) : ∀ (x1 : Int32) (w : Wd), OkR X Value.int (fX7_atom5_102 t x1 w) → G X 0 0 102 [(1, .inl x1)] [] w := by
  have hj : ∀ j, j < 2 → j < nLX X := fun j q => by rw [hnL]; exact q
  intro x1 w hF
  unfold fX7_atom5_102 at hF
  refine g_iload_n (pc := 102) h 0 rfl dX7_atom5_102 ?_
  exact g_iret (pc := 103) h hr ⟨Nat.le_refl _, Nat.le_refl _⟩ hF dX7_atom5_103
def fX7_atom5_98 (t : Nat) (x1 : Int32) (w : Wd) : Option (Int32 × Wd) :=
  bnd (fX7_fail t w) (fun u_16 w_17 => fX7_atom5_102 t x1 w_17)
set_option maxHeartbeats 4000000 in
theorem kX7_atom5_98 {X : Cx} (h : Ok X cX7_atom5 RX7 6 0 0) (hr : RetI X .int 0 0) (hnL : nLX X = 2) {t : Nat} (ht : InN X t 7) : ∀ (x1 : Int32) (w : Wd), OkR X Value.int (fX7_atom5_98 t x1 w) → G X 0 0 98 [(0, .inr (.inl (some t))), (1, .inl x1)] [] w := by
  have hj : ∀ j, j < 2 → j < nLX X := fun j q => by rw [hnL]; exact q
  intro x1 w hF
  unfold fX7_atom5_98 at hF
  refine g_aload_n (pc := 98) h 0 rfl dX7_atom5_98 ?_
  refine g_cvV (pc := 99) (st := []) h mX7_fail cvX7_179 (inw ht) (by decide) ⟨by decide, by decide⟩ (Nat.le_of_ble_eq_true rfl) rfl rfl dX7_atom5_99 hF (fun u_16 w_17 hF => ?_)
  refine g_lv (lv' := [(1, .inl x1)]) [1] rfl ?_
  exact kX7_atom5_102 h hr hnL ht _ _ hF
def fX7_atom5_64 (t : Nat) (x1 : Int32) (w : Wd) : Option (Int32 × Wd) :=
  if (gI w t 25) = 0 then
    (if (gI w t 21) = (1 : Int32) then
      (bnd (fX7_name t w) (fun x_12 w_13 => if (gI w_13 t 25) = 0 then
        (bnd (fX7_next t w_13) (fun u_14 w_15 => fX7_atom5_102 t x_12 w_15))
      else
        (fX7_atom5_102 t x_12 w_13)))
    else
      (fX7_atom5_98 t x1 w))
  else
    (fX7_atom5_98 t x1 w)
set_option maxHeartbeats 4000000 in
theorem kX7_atom5_64 {X : Cx} (h : Ok X cX7_atom5 RX7 6 0 0) (hr : RetI X .int 0 0) (hnL : nLX X = 2) {t : Nat} (ht : InN X t 7) : ∀ (x1 : Int32) (w : Wd), OkR X Value.int (fX7_atom5_64 t x1 w) → G X 0 0 64 [(0, .inr (.inl (some t))), (1, .inl x1)] [] w := by
  have hj : ∀ j, j < 2 → j < nLX X := fun j q => by rw [hnL]; exact q
  intro x1 w hF
  unfold fX7_atom5_64 at hF
  refine g_aload_n (pc := 64) h 0 rfl dX7_atom5_64 ?_
  refine g_getI (pc := 65) h fdX7_166 (inw ht) (by decide) dX7_atom5_65 ?_
  refine g_if_ne (pc := 68) (tgt := 98) h dX7_atom5_68 (by decide) hF (fun hF => ?_) (fun hF => ?_)
  · exact kX7_atom5_98 h hr hnL ht _ _ hF
  · refine g_aload_n (pc := 71) h 0 rfl dX7_atom5_71 ?_
    refine g_getI (pc := 72) h fdX7_149 (inw ht) (by decide) dX7_atom5_72 ?_
    refine g_iconst (pc := 75) (v := (1 : Int32)) h dX7_atom5_75 (by decide) ?_
    refine g_icmp_ne (pc := 76) (tgt := 98) h dX7_atom5_76 (by decide) hF (fun hF => ?_) (fun hF => ?_)
    · exact kX7_atom5_98 h hr hnL ht _ _ hF
    · refine g_aload_n (pc := 79) h 0 rfl dX7_atom5_79 ?_
      refine g_cvI (pc := 80) (st := []) h mX7_name cvX7_214 (inw ht) (by decide) ⟨by decide, by decide⟩ (Nat.le_of_ble_eq_true rfl) rfl rfl dX7_atom5_80 hF (fun x_12 w_13 hF => ?_)
      refine g_istore_n (pc := 83) (lv' := [(1, .inl x_12), (0, .inr (.inl (some t)))]) h dX7_atom5_83 (hj 1 (by decide)) rfl ?_
      refine g_aload_n (pc := 84) h 1 rfl dX7_atom5_84 ?_
      refine g_getI (pc := 85) h fdX7_166 (inw ht) (by decide) dX7_atom5_85 ?_
      refine g_if_ne (pc := 88) (tgt := 102) h dX7_atom5_88 (by decide) hF (fun hF => ?_) (fun hF => ?_)
      · refine g_lv (lv' := [(1, .inl x_12)]) [0] rfl ?_
        exact kX7_atom5_102 h hr hnL ht _ _ hF
      · refine g_aload_n (pc := 91) h 1 rfl dX7_atom5_91 ?_
        refine g_cvV (pc := 92) (st := []) h mX7_next cvX7_182 (inw ht) (by decide) ⟨by decide, by decide⟩ (Nat.le_of_ble_eq_true rfl) rfl rfl dX7_atom5_92 hF (fun u_14 w_15 hF => ?_)
        refine g_goto (pc := 95) (tgt := 102) h dX7_atom5_95 (by decide) ?_
        refine g_lv (lv' := [(1, .inl x_12)]) [0] rfl ?_
        exact kX7_atom5_102 h hr hnL ht _ _ hF
def fX7_atom5 (t : Nat) (w : Wd) : Option (Int32 × Wd) :=
  bnd (fX7_isSign t (45 : Int32) w) (fun x_1 w_2 => if x_1 = 0 then
    (bnd (fX7_isSign t (40 : Int32) w_2) (fun x_3 w_4 => if x_3 = 0 then
      (if (gI w_4 t 25) = 0 then
        (if (gI w_4 t 21) = (2 : Int32) then
          (lt ((gL w_4 t 23).toInt32) (fun x1_5 => bnd (fX7_next t w_4) (fun u_6 w_7 => fX7_atom5_102 t x1_5 w_7)))
        else
          (fX7_atom5_64 t (0 : Int32) w_4))
      else
        (fX7_atom5_64 t (0 : Int32) w_4))
    else
      (bnd (fX7_opens t w_4) (fun x_8 w_9 => fX7_atom5_102 t (0 : Int32) w_9))))
  else
    (bnd (fX7_opens t w_2) (fun x_10 w_11 => fX7_atom5_102 t (0 : Int32) w_11)))
set_option maxHeartbeats 4000000 in
theorem mX7_atom5 {Γ : En} {t : Nat} {w : Wd} (ht : t < wn w ∧ kd t = 7) : MtI Γ yX7_atom5 cX7_atom5 2 (some .int) 6 0 0 [rv Γ (some t)] w (fX7_atom5 t w) := by
  refine mtI [.inr (.inl (some t))] rfl (Nat.le_of_ble_eq_true rfl) (fun X hΓ hnL hn0 h _ hr hF => ?_)
  subst hΓ
  have ht : InN X t 7 := ⟨by rw [hn0]; exact ht.1, ht.2⟩
  have h : Ok X cX7_atom5 RX7 6 0 0 := h
  have hj : ∀ j, j < 2 → j < nLX X := fun j q => by rw [hnL]; exact q
  show G X 0 0 0 [(0, .inr (.inl (some t)))] [] w
  unfold fX7_atom5 at hF
  refine g_iconst (pc := 0) (v := (0 : Int32)) h dX7_atom5_0 (by decide) ?_
  refine g_istore_n (pc := 1) (lv' := [(1, .inl (0 : Int32)), (0, .inr (.inl (some t)))]) h dX7_atom5_1 (hj 1 (by decide)) rfl ?_
  refine g_aload_n (pc := 2) h 1 rfl dX7_atom5_2 ?_
  refine g_bipush (pc := 3) (v := (45 : Int32)) h dX7_atom5_3 (by decide) ?_
  refine g_cvI (pc := 5) (st := []) h mX7_isSign cvX7_207 (inw ht) (by decide) ⟨by decide, by decide⟩ (Nat.le_of_ble_eq_true rfl) rfl rfl dX7_atom5_5 hF (fun x_1 w_2 hF => ?_)
  refine g_if_eq (pc := 8) (tgt := 19) h dX7_atom5_8 (by decide) hF (fun hF => ?_) (fun hF => ?_)
  · refine g_aload_n (pc := 19) h 1 rfl dX7_atom5_19 ?_
    refine g_bipush (pc := 20) (v := (40 : Int32)) h dX7_atom5_20 (by decide) ?_
    refine g_cvI (pc := 22) (st := []) h mX7_isSign cvX7_207 (inw ht) (by decide) ⟨by decide, by decide⟩ (Nat.le_of_ble_eq_true rfl) rfl rfl dX7_atom5_22 hF (fun x_3 w_4 hF => ?_)
    refine g_if_eq (pc := 25) (tgt := 36) h dX7_atom5_25 (by decide) hF (fun hF => ?_) (fun hF => ?_)
    · refine g_aload_n (pc := 36) h 1 rfl dX7_atom5_36 ?_
      refine g_getI (pc := 37) h fdX7_166 (inw ht) (by decide) dX7_atom5_37 ?_
      refine g_if_ne (pc := 40) (tgt := 64) h dX7_atom5_40 (by decide) hF (fun hF => ?_) (fun hF => ?_)
      · refine g_lv (lv' := [(0, .inr (.inl (some t))), (1, .inl (0 : Int32))]) [1, 0] rfl ?_
        exact kX7_atom5_64 h hr hnL ht _ _ hF
      · refine g_aload_n (pc := 43) h 1 rfl dX7_atom5_43 ?_
        refine g_getI (pc := 44) h fdX7_149 (inw ht) (by decide) dX7_atom5_44 ?_
        refine g_iconst (pc := 47) (v := (2 : Int32)) h dX7_atom5_47 (by decide) ?_
        refine g_icmp_ne (pc := 48) (tgt := 64) h dX7_atom5_48 (by decide) hF (fun hF => ?_) (fun hF => ?_)
        · refine g_lv (lv' := [(0, .inr (.inl (some t))), (1, .inl (0 : Int32))]) [1, 0] rfl ?_
          exact kX7_atom5_64 h hr hnL ht _ _ hF
        · refine g_aload_n (pc := 51) h 1 rfl dX7_atom5_51 ?_
          refine g_getL (pc := 52) h fdX7_160 (inw ht) rfl dX7_atom5_52 ?_
          refine g_l2i (pc := 55) h dX7_atom5_55 ?_
          refine g_t hF (fun x1_5 hF => ?_)
          refine g_istore_n (pc := 56) (lv' := [(1, .inl x1_5), (0, .inr (.inl (some t)))]) h dX7_atom5_56 (hj 1 (by decide)) rfl ?_
          refine g_aload_n (pc := 57) h 1 rfl dX7_atom5_57 ?_
          refine g_cvV (pc := 58) (st := []) h mX7_next cvX7_182 (inw ht) (by decide) ⟨by decide, by decide⟩ (Nat.le_of_ble_eq_true rfl) rfl rfl dX7_atom5_58 hF (fun u_6 w_7 hF => ?_)
          refine g_goto (pc := 61) (tgt := 102) h dX7_atom5_61 (by decide) ?_
          refine g_lv (lv' := [(1, .inl x1_5)]) [0] rfl ?_
          exact kX7_atom5_102 h hr hnL ht _ _ hF
    · refine g_aload_n (pc := 28) h 1 rfl dX7_atom5_28 ?_
      refine g_cvI (pc := 29) (st := []) h mX7_opens cvX7_210 (inw ht) (by decide) ⟨by decide, by decide⟩ (Nat.le_of_ble_eq_true rfl) rfl rfl dX7_atom5_29 hF (fun x_8 w_9 hF => ?_)
      refine g_pop (pc := 32) h dX7_atom5_32 rfl ?_
      refine g_goto (pc := 33) (tgt := 102) h dX7_atom5_33 (by decide) ?_
      refine g_lv (lv' := [(1, .inl (0 : Int32))]) [0] rfl ?_
      exact kX7_atom5_102 h hr hnL ht _ _ hF
  · refine g_aload_n (pc := 11) h 1 rfl dX7_atom5_11 ?_
    refine g_cvI (pc := 12) (st := []) h mX7_opens cvX7_210 (inw ht) (by decide) ⟨by decide, by decide⟩ (Nat.le_of_ble_eq_true rfl) rfl rfl dX7_atom5_12 hF (fun x_10 w_11 hF => ?_)
    refine g_pop (pc := 15) h dX7_atom5_15 rfl ?_
    refine g_goto (pc := 16) (tgt := 102) h dX7_atom5_16 (by decide) ?_
    refine g_lv (lv' := [(1, .inl (0 : Int32))]) [0] rfl ?_
    exact kX7_atom5_102 h hr hnL ht _ _ hF
def fX7_term5_5 (t : Nat) : Nat → Int32 → Wd → Option (Int32 × Wd)
  | 0 => fun _ _ => none
  | n + 1 => fun x1 w =>
    bnd (fX7_isSign t (42 : Int32) w) (fun x_3 w_4 => if x_3 = 0 then
      (some (x1, w_4))
    else
      (bnd (fX7_next t w_4) (fun u_5 w_6 => bnd (fX7_atom5 t w_6) (fun x_7 w_8 => lt (x1 * x_7) (fun x1_9 => fX7_term5_5 t n x1_9 w_8)))))
set_option maxHeartbeats 4000000 in
theorem kX7_term5_5 {X : Cx} (h : Ok X cX7_term5 RX7 7 0 0) (hr : RetI X .int 0 0) (hnL : nLX X = 2) {t : Nat} (ht : InN X t 7) : ∀ (fu : Nat) (x1 : Int32) (w : Wd), OkR X Value.int (fX7_term5_5 t fu x1 w) → G X 0 0 5 [(0, .inr (.inl (some t))), (1, .inl x1)] [] w := by
  have hj : ∀ j, j < 2 → j < nLX X := fun j q => by rw [hnL]; exact q
  intro fu
  induction fu with
  | zero => intro x1 w hF; exact okN hF
  | succ fu ih =>
    intro x1 w hF
    rw [fX7_term5_5] at hF
    refine g_aload_n (pc := 5) h 0 rfl dX7_term5_5 ?_
    refine g_bipush (pc := 6) (v := (42 : Int32)) h dX7_term5_6 (by decide) ?_
    refine g_cvI (pc := 8) (st := []) h mX7_isSign cvX7_207 (inw ht) (by decide) ⟨by decide, by decide⟩ (Nat.le_of_ble_eq_true rfl) rfl rfl dX7_term5_8 hF (fun x_3 w_4 hF => ?_)
    refine g_if_eq (pc := 11) (tgt := 28) h dX7_term5_11 (by decide) hF (fun hF => ?_) (fun hF => ?_)
    · refine g_iload_n (pc := 28) h 1 rfl dX7_term5_28 ?_
      exact g_iret (pc := 29) h hr ⟨Nat.le_refl _, Nat.le_refl _⟩ hF dX7_term5_29
    · refine g_aload_n (pc := 14) h 0 rfl dX7_term5_14 ?_
      refine g_cvV (pc := 15) (st := []) h mX7_next cvX7_182 (inw ht) (by decide) ⟨by decide, by decide⟩ (Nat.le_of_ble_eq_true rfl) rfl rfl dX7_term5_15 hF (fun u_5 w_6 hF => ?_)
      refine g_iload_n (pc := 18) h 1 rfl dX7_term5_18 ?_
      refine g_aload_n (pc := 19) h 0 rfl dX7_term5_19 ?_
      refine g_cvI (pc := 20) (st := [.int x1]) h mX7_atom5 cvX7_218 (inw ht) (by decide) ⟨by decide, by decide⟩ (Nat.le_of_ble_eq_true rfl) rfl rfl dX7_term5_20 hF (fun x_7 w_8 hF => ?_)
      refine g_imul (pc := 23) h dX7_term5_23 ?_
      refine g_t hF (fun x1_9 hF => ?_)
      refine g_istore_n (pc := 24) (lv' := [(1, .inl x1_9), (0, .inr (.inl (some t)))]) h dX7_term5_24 (hj 1 (by decide)) rfl ?_
      refine g_goto (pc := 25) (tgt := 5) h dX7_term5_25 (by decide) ?_
      refine g_lv (lv' := [(0, .inr (.inl (some t))), (1, .inl x1_9)]) [1, 0] rfl ?_
      exact ih _ _ hF
def fX7_term5 (t : Nat) (w : Wd) : Option (Int32 × Wd) :=
  bnd (fX7_atom5 t w) (fun x_1 w_2 => fX7_term5_5 t FU x_1 w_2)
set_option maxHeartbeats 4000000 in
theorem mX7_term5 {Γ : En} {t : Nat} {w : Wd} (ht : t < wn w ∧ kd t = 7) : MtI Γ yX7_term5 cX7_term5 2 (some .int) 7 0 0 [rv Γ (some t)] w (fX7_term5 t w) := by
  refine mtI [.inr (.inl (some t))] rfl (Nat.le_of_ble_eq_true rfl) (fun X hΓ hnL hn0 h _ hr hF => ?_)
  subst hΓ
  have ht : InN X t 7 := ⟨by rw [hn0]; exact ht.1, ht.2⟩
  have h : Ok X cX7_term5 RX7 7 0 0 := h
  have hj : ∀ j, j < 2 → j < nLX X := fun j q => by rw [hnL]; exact q
  show G X 0 0 0 [(0, .inr (.inl (some t)))] [] w
  unfold fX7_term5 at hF
  refine g_aload_n (pc := 0) h 0 rfl dX7_term5_0 ?_
  refine g_cvI (pc := 1) (st := []) h mX7_atom5 cvX7_218 (inw ht) (by decide) ⟨by decide, by decide⟩ (Nat.le_of_ble_eq_true rfl) rfl rfl dX7_term5_1 hF (fun x_1 w_2 hF => ?_)
  refine g_istore_n (pc := 4) (lv' := [(1, .inl x_1), (0, .inr (.inl (some t)))]) h dX7_term5_4 (hj 1 (by decide)) rfl ?_
  refine g_lv (lv' := [(0, .inr (.inl (some t))), (1, .inl x_1)]) [1, 0] rfl ?_
  exact kX7_term5_5 h hr hnL ht _ _ _ hF
def fX7_added5_62 (k5 : Int32 → Wd → Option (Int32 × Wd)) (t : Nat) (y0 : Int32) (w : Wd) : Option (Int32 × Wd) :=
  k5 y0 w
set_option maxHeartbeats 4000000 in
theorem kX7_added5_62 {X : Cx} (h : Ok X cX7_added5 RX7 8 0 0) (hr : RetI X .int 0 0) (hnL : nLX X = 4) {t : Nat} (ht : InN X t 7) {k5 : Int32 → Wd → Option (Int32 × Wd)} (hk5 : ∀ (x1 : Int32) (w : Wd), OkR X Value.int (k5 x1 w) → G X 0 0 5 [(0, .inr (.inl (some t))), (1, .inl x1)] [] w) : ∀ (y0 : Int32) (w : Wd), OkR X Value.int (fX7_added5_62 k5 t y0 w) → G X 0 0 62 [(0, .inr (.inl (some t)))] [.int y0] w := by
  have hj : ∀ j, j < 4 → j < nLX X := fun j q => by rw [hnL]; exact q
  intro y0 w hF
  unfold fX7_added5_62 at hF
  refine g_istore_n (pc := 62) (lv' := [(1, .inl y0), (0, .inr (.inl (some t)))]) h dX7_added5_62 (hj 1 (by decide)) rfl ?_
  refine g_goto (pc := 63) (tgt := 5) h dX7_added5_63 (by decide) ?_
  refine g_lv (lv' := [(0, .inr (.inl (some t))), (1, .inl y0)]) [1, 0] rfl ?_
  exact hk5 _ _ hF
def fX7_added5_39 (k5 : Int32 → Wd → Option (Int32 × Wd)) (t : Nat) (x1 : Int32) (y0 : Int32) (w : Wd) : Option (Int32 × Wd) :=
  bnd (fX7_next t w) (fun u_7 w_8 => bnd (fX7_term5 t w_8) (fun x_9 w_10 => if y0 = 0 then
    (fX7_added5_62 k5 t (x1 - x_9) w_10)
  else
    (fX7_added5_62 k5 t (x1 + x_9) w_10)))
set_option maxHeartbeats 4000000 in
theorem kX7_added5_39 {X : Cx} (h : Ok X cX7_added5 RX7 8 0 0) (hr : RetI X .int 0 0) (hnL : nLX X = 4) {t : Nat} (ht : InN X t 7) {k5 : Int32 → Wd → Option (Int32 × Wd)} (hk5 : ∀ (x1 : Int32) (w : Wd), OkR X Value.int (k5 x1 w) → G X 0 0 5 [(0, .inr (.inl (some t))), (1, .inl x1)] [] w) : ∀ (x1 : Int32) (y0 : Int32) (w : Wd), OkR X Value.int (fX7_added5_39 k5 t x1 y0 w) → G X 0 0 39 [(0, .inr (.inl (some t))), (1, .inl x1)] [.int y0] w := by
  have hj : ∀ j, j < 4 → j < nLX X := fun j q => by rw [hnL]; exact q
  intro x1 y0 w hF
  unfold fX7_added5_39 at hF
  refine g_istore_n (pc := 39) (lv' := [(2, .inl y0), (0, .inr (.inl (some t))), (1, .inl x1)]) h dX7_added5_39 (hj 2 (by decide)) rfl ?_
  refine g_aload_n (pc := 40) h 1 rfl dX7_added5_40 ?_
  refine g_cvV (pc := 41) (st := []) h mX7_next cvX7_182 (inw ht) (by decide) ⟨by decide, by decide⟩ (Nat.le_of_ble_eq_true rfl) rfl rfl dX7_added5_41 hF (fun u_7 w_8 hF => ?_)
  refine g_aload_n (pc := 44) h 1 rfl dX7_added5_44 ?_
  refine g_cvI (pc := 45) (st := []) h mX7_term5 cvX7_221 (inw ht) (by decide) ⟨by decide, by decide⟩ (Nat.le_of_ble_eq_true rfl) rfl rfl dX7_added5_45 hF (fun x_9 w_10 hF => ?_)
  refine g_istore_n (pc := 48) (lv' := [(3, .inl x_9), (2, .inl y0), (0, .inr (.inl (some t))), (1, .inl x1)]) h dX7_added5_48 (hj 3 (by decide)) rfl ?_
  refine g_iload_n (pc := 49) h 1 rfl dX7_added5_49 ?_
  refine g_if_eq (pc := 50) (tgt := 59) h dX7_added5_50 (by decide) hF (fun hF => ?_) (fun hF => ?_)
  · refine g_iload_n (pc := 59) h 3 rfl dX7_added5_59 ?_
    refine g_iload_n (pc := 60) h 0 rfl dX7_added5_60 ?_
    refine g_isub (pc := 61) h dX7_added5_61 ?_
    refine g_lv (lv' := [(0, .inr (.inl (some t)))]) [2] rfl ?_
    exact kX7_added5_62 h hr hnL ht hk5 _ _ hF
  · refine g_iload_n (pc := 53) h 3 rfl dX7_added5_53 ?_
    refine g_iload_n (pc := 54) h 0 rfl dX7_added5_54 ?_
    refine g_iadd (pc := 55) h dX7_added5_55 ?_
    refine g_goto (pc := 56) (tgt := 62) h dX7_added5_56 (by decide) ?_
    refine g_lv (lv' := [(0, .inr (.inl (some t)))]) [2] rfl ?_
    exact kX7_added5_62 h hr hnL ht hk5 _ _ hF
def fX7_added5_23 (k5 : Int32 → Wd → Option (Int32 × Wd)) (t : Nat) (x1 : Int32) (w : Wd) : Option (Int32 × Wd) :=
  if (lg_cmp (gL w t 23) (43 : Int64)) = 0 then
    (fX7_added5_39 k5 t x1 (1 : Int32) w)
  else
    (fX7_added5_39 k5 t x1 (0 : Int32) w)
set_option maxHeartbeats 4000000 in
theorem kX7_added5_23 {X : Cx} (h : Ok X cX7_added5 RX7 8 0 0) (hr : RetI X .int 0 0) (hnL : nLX X = 4) {t : Nat} (ht : InN X t 7) {k5 : Int32 → Wd → Option (Int32 × Wd)} (hk5 : ∀ (x1 : Int32) (w : Wd), OkR X Value.int (k5 x1 w) → G X 0 0 5 [(0, .inr (.inl (some t))), (1, .inl x1)] [] w) : ∀ (x1 : Int32) (w : Wd), OkR X Value.int (fX7_added5_23 k5 t x1 w) → G X 0 0 23 [(0, .inr (.inl (some t))), (1, .inl x1)] [] w := by
  have hj : ∀ j, j < 4 → j < nLX X := fun j q => by rw [hnL]; exact q
  intro x1 w hF
  unfold fX7_added5_23 at hF
  refine g_aload_n (pc := 23) h 0 rfl dX7_added5_23 ?_
  refine g_getL (pc := 24) h fdX7_160 (inw ht) rfl dX7_added5_24 ?_
  refine g_ldc2 (pc := 27) h wcL_X7_224 dX7_added5_27 ?_
  refine g_lcmp (pc := 30) h dX7_added5_30 ?_
  refine g_if_ne (pc := 31) (tgt := 38) h dX7_added5_31 (by decide) hF (fun hF => ?_) (fun hF => ?_)
  · refine g_iconst (pc := 38) (v := (0 : Int32)) h dX7_added5_38 (by decide) ?_
    exact kX7_added5_39 h hr hnL ht hk5 _ _ _ hF
  · refine g_iconst (pc := 34) (v := (1 : Int32)) h dX7_added5_34 (by decide) ?_
    refine g_goto (pc := 35) (tgt := 39) h dX7_added5_35 (by decide) ?_
    exact kX7_added5_39 h hr hnL ht hk5 _ _ _ hF
def fX7_added5_5 (t : Nat) : Nat → Int32 → Wd → Option (Int32 × Wd)
  | 0 => fun _ _ => none
  | n + 1 => fun x1 w =>
    bnd (fX7_isSign t (43 : Int32) w) (fun x_3 w_4 => if x_3 = 0 then
      (bnd (fX7_isSign t (45 : Int32) w_4) (fun x_5 w_6 => if x_5 = 0 then
        (some (x1, w_6))
      else
        (fX7_added5_23 (fX7_added5_5 t n) t x1 w_6)))
    else
      (fX7_added5_23 (fX7_added5_5 t n) t x1 w_4))
set_option maxHeartbeats 4000000 in
theorem kX7_added5_5 {X : Cx} (h : Ok X cX7_added5 RX7 8 0 0) (hr : RetI X .int 0 0) (hnL : nLX X = 4) {t : Nat} (ht : InN X t 7) : ∀ (fu : Nat) (x1 : Int32) (w : Wd), OkR X Value.int (fX7_added5_5 t fu x1 w) → G X 0 0 5 [(0, .inr (.inl (some t))), (1, .inl x1)] [] w := by
  have hj : ∀ j, j < 4 → j < nLX X := fun j q => by rw [hnL]; exact q
  intro fu
  induction fu with
  | zero => intro x1 w hF; exact okN hF
  | succ fu ih =>
    intro x1 w hF
    rw [fX7_added5_5] at hF
    refine g_aload_n (pc := 5) h 0 rfl dX7_added5_5 ?_
    refine g_bipush (pc := 6) (v := (43 : Int32)) h dX7_added5_6 (by decide) ?_
    refine g_cvI (pc := 8) (st := []) h mX7_isSign cvX7_207 (inw ht) (by decide) ⟨by decide, by decide⟩ (Nat.le_of_ble_eq_true rfl) rfl rfl dX7_added5_8 hF (fun x_3 w_4 hF => ?_)
    refine g_if_ne (pc := 11) (tgt := 23) h dX7_added5_11 (by decide) hF (fun hF => ?_) (fun hF => ?_)
    · exact kX7_added5_23 h hr hnL ht (fun z0 z1 hF => ih z0 z1 hF) _ _ hF
    · refine g_aload_n (pc := 14) h 0 rfl dX7_added5_14 ?_
      refine g_bipush (pc := 15) (v := (45 : Int32)) h dX7_added5_15 (by decide) ?_
      refine g_cvI (pc := 17) (st := []) h mX7_isSign cvX7_207 (inw ht) (by decide) ⟨by decide, by decide⟩ (Nat.le_of_ble_eq_true rfl) rfl rfl dX7_added5_17 hF (fun x_5 w_6 hF => ?_)
      refine g_if_eq (pc := 20) (tgt := 66) h dX7_added5_20 (by decide) hF (fun hF => ?_) (fun hF => ?_)
      · refine g_iload_n (pc := 66) h 1 rfl dX7_added5_66 ?_
        exact g_iret (pc := 67) h hr ⟨Nat.le_refl _, Nat.le_refl _⟩ hF dX7_added5_67
      · exact kX7_added5_23 h hr hnL ht (fun z0 z1 hF => ih z0 z1 hF) _ _ hF
def fX7_added5 (t : Nat) (w : Wd) : Option (Int32 × Wd) :=
  bnd (fX7_term5 t w) (fun x_1 w_2 => fX7_added5_5 t FU x_1 w_2)
set_option maxHeartbeats 4000000 in
theorem mX7_added5 {Γ : En} {t : Nat} {w : Wd} (ht : t < wn w ∧ kd t = 7) : MtI Γ yX7_added5 cX7_added5 4 (some .int) 8 0 0 [rv Γ (some t)] w (fX7_added5 t w) := by
  refine mtI [.inr (.inl (some t))] rfl (Nat.le_of_ble_eq_true rfl) (fun X hΓ hnL hn0 h _ hr hF => ?_)
  subst hΓ
  have ht : InN X t 7 := ⟨by rw [hn0]; exact ht.1, ht.2⟩
  have h : Ok X cX7_added5 RX7 8 0 0 := h
  have hj : ∀ j, j < 4 → j < nLX X := fun j q => by rw [hnL]; exact q
  show G X 0 0 0 [(0, .inr (.inl (some t)))] [] w
  unfold fX7_added5 at hF
  refine g_aload_n (pc := 0) h 0 rfl dX7_added5_0 ?_
  refine g_cvI (pc := 1) (st := []) h mX7_term5 cvX7_221 (inw ht) (by decide) ⟨by decide, by decide⟩ (Nat.le_of_ble_eq_true rfl) rfl rfl dX7_added5_1 hF (fun x_1 w_2 hF => ?_)
  refine g_istore_n (pc := 4) (lv' := [(1, .inl x_1), (0, .inr (.inl (some t)))]) h dX7_added5_4 (hj 1 (by decide)) rfl ?_
  refine g_lv (lv' := [(0, .inr (.inl (some t))), (1, .inl x_1)]) [1, 0] rfl ?_
  exact kX7_added5_5 h hr hnL ht _ _ _ hF
def fX7_not5_93 (t : Nat) (w : Wd) : Option (Int32 × Wd) :=
  some ((1 : Int32), w)
set_option maxHeartbeats 4000000 in
theorem kX7_not5_93 {X : Cx} (h : Ok X cX7_not5 RX7 9 0 0) (hr : RetI X .int 0 0) (hnL : nLX X = 4) {t : Nat} (ht : InN X t 7) : ∀ (w : Wd), OkR X Value.int (fX7_not5_93 t  w) → G X 0 0 93 [] [] w := by
  have hj : ∀ j, j < 4 → j < nLX X := fun j q => by rw [hnL]; exact q
  intro w hF
  unfold fX7_not5_93 at hF
  refine g_iconst (pc := 93) (v := (1 : Int32)) h dX7_not5_93 (by decide) ?_
  refine g_goto (pc := 94) (tgt := 98) h dX7_not5_94 (by decide) ?_
  exact g_iret (pc := 98) h hr ⟨Nat.le_refl _, Nat.le_refl _⟩ hF dX7_not5_98
def fX7_not5_66 (t : Nat) (x1 : Int32) (y0 : Int32) (w : Wd) : Option (Int32 × Wd) :=
  bnd (fX7_next t w) (fun u_11 w_12 => bnd (fX7_added5 t w_12) (fun x_13 w_14 => if y0 = 0 then
    (if x1 = x_13 then
      (fX7_not5_93 t w_14)
    else
      (some ((0 : Int32), w_14)))
  else
    (if x_13 ≤ x1 then
      (some ((0 : Int32), w_14))
    else
      (fX7_not5_93 t w_14))))
set_option maxHeartbeats 4000000 in
theorem kX7_not5_66 {X : Cx} (h : Ok X cX7_not5 RX7 9 0 0) (hr : RetI X .int 0 0) (hnL : nLX X = 4) {t : Nat} (ht : InN X t 7) : ∀ (x1 : Int32) (y0 : Int32) (w : Wd), OkR X Value.int (fX7_not5_66 t x1 y0 w) → G X 0 0 66 [(0, .inr (.inl (some t))), (1, .inl x1)] [.int y0] w := by
  have hj : ∀ j, j < 4 → j < nLX X := fun j q => by rw [hnL]; exact q
  intro x1 y0 w hF
  unfold fX7_not5_66 at hF
  refine g_istore_n (pc := 66) (lv' := [(2, .inl y0), (0, .inr (.inl (some t))), (1, .inl x1)]) h dX7_not5_66 (hj 2 (by decide)) rfl ?_
  refine g_aload_n (pc := 67) h 1 rfl dX7_not5_67 ?_
  refine g_cvV (pc := 68) (st := []) h mX7_next cvX7_182 (inw ht) (by decide) ⟨by decide, by decide⟩ (Nat.le_of_ble_eq_true rfl) rfl rfl dX7_not5_68 hF (fun u_11 w_12 hF => ?_)
  refine g_aload_n (pc := 71) h 1 rfl dX7_not5_71 ?_
  refine g_cvI (pc := 72) (st := []) h mX7_added5 cvX7_226 (inw ht) (by decide) ⟨by decide, by decide⟩ (Nat.le_of_ble_eq_true rfl) rfl rfl dX7_not5_72 hF (fun x_13 w_14 hF => ?_)
  refine g_istore_n (pc := 75) (lv' := [(3, .inl x_13), (2, .inl y0), (0, .inr (.inl (some t))), (1, .inl x1)]) h dX7_not5_75 (hj 3 (by decide)) rfl ?_
  refine g_iload_n (pc := 76) h 1 rfl dX7_not5_76 ?_
  refine g_if_eq (pc := 77) (tgt := 88) h dX7_not5_77 (by decide) hF (fun hF => ?_) (fun hF => ?_)
  · refine g_iload_n (pc := 88) h 3 rfl dX7_not5_88 ?_
    refine g_iload_n (pc := 89) h 0 rfl dX7_not5_89 ?_
    refine g_icmp_ne (pc := 90) (tgt := 97) h dX7_not5_90 (by decide) hF (fun hF => ?_) (fun hF => ?_)
    · refine g_iconst (pc := 97) (v := (0 : Int32)) h dX7_not5_97 (by decide) ?_
      exact g_iret (pc := 98) h hr ⟨Nat.le_refl _, Nat.le_refl _⟩ hF dX7_not5_98
    · refine g_lv (lv' := []) [] rfl ?_
      exact kX7_not5_93 h hr hnL ht _ hF
  · refine g_iload_n (pc := 80) h 3 rfl dX7_not5_80 ?_
    refine g_iload_n (pc := 81) h 0 rfl dX7_not5_81 ?_
    refine g_icmp_ge (pc := 82) (tgt := 97) h dX7_not5_82 (by decide) hF (fun hF => ?_) (fun hF => ?_)
    · refine g_iconst (pc := 97) (v := (0 : Int32)) h dX7_not5_97 (by decide) ?_
      exact g_iret (pc := 98) h hr ⟨Nat.le_refl _, Nat.le_refl _⟩ hF dX7_not5_98
    · refine g_goto (pc := 85) (tgt := 93) h dX7_not5_85 (by decide) ?_
      refine g_lv (lv' := []) [] rfl ?_
      exact kX7_not5_93 h hr hnL ht _ hF
def fX7_not5_50 (t : Nat) (x1 : Int32) (w : Wd) : Option (Int32 × Wd) :=
  if (lg_cmp (gL w t 23) (60 : Int64)) = 0 then
    (fX7_not5_66 t x1 (1 : Int32) w)
  else
    (fX7_not5_66 t x1 (0 : Int32) w)
set_option maxHeartbeats 4000000 in
theorem kX7_not5_50 {X : Cx} (h : Ok X cX7_not5 RX7 9 0 0) (hr : RetI X .int 0 0) (hnL : nLX X = 4) {t : Nat} (ht : InN X t 7) : ∀ (x1 : Int32) (w : Wd), OkR X Value.int (fX7_not5_50 t x1 w) → G X 0 0 50 [(0, .inr (.inl (some t))), (1, .inl x1)] [] w := by
  have hj : ∀ j, j < 4 → j < nLX X := fun j q => by rw [hnL]; exact q
  intro x1 w hF
  unfold fX7_not5_50 at hF
  refine g_aload_n (pc := 50) h 0 rfl dX7_not5_50 ?_
  refine g_getL (pc := 51) h fdX7_160 (inw ht) rfl dX7_not5_51 ?_
  refine g_ldc2 (pc := 54) h wcL_X7_229 dX7_not5_54 ?_
  refine g_lcmp (pc := 57) h dX7_not5_57 ?_
  refine g_if_ne (pc := 58) (tgt := 65) h dX7_not5_58 (by decide) hF (fun hF => ?_) (fun hF => ?_)
  · refine g_iconst (pc := 65) (v := (0 : Int32)) h dX7_not5_65 (by decide) ?_
    exact kX7_not5_66 h hr hnL ht _ _ _ hF
  · refine g_iconst (pc := 61) (v := (1 : Int32)) h dX7_not5_61 (by decide) ?_
    refine g_goto (pc := 62) (tgt := 66) h dX7_not5_62 (by decide) ?_
    exact kX7_not5_66 h hr hnL ht _ _ _ hF
def fX7_not5 (t : Nat) (w : Wd) : Option (Int32 × Wd) :=
  bnd (fX7_isWord t (110 : Int32) (111 : Int32) (116 : Int32) (0 : Int32) (0 : Int32) (0 : Int32) (0 : Int32) (0 : Int32) w) (fun x_1 w_2 => if x_1 = 0 then
    (bnd (fX7_added5 t w_2) (fun x_3 w_4 => bnd (fX7_isSign t (60 : Int32) w_4) (fun x_5 w_6 => if x_5 = 0 then
      (bnd (fX7_isSign t (61 : Int32) w_6) (fun x_7 w_8 => if x_7 = 0 then
        (some (x_3, w_8))
      else
        (fX7_not5_50 t x_3 w_8)))
    else
      (fX7_not5_50 t x_3 w_6))))
  else
    (bnd (fX7_opens t w_2) (fun x_9 w_10 => some ((0 : Int32), w_10))))
set_option maxHeartbeats 4000000 in
theorem mX7_not5 {Γ : En} {t : Nat} {w : Wd} (ht : t < wn w ∧ kd t = 7) : MtI Γ yX7_not5 cX7_not5 4 (some .int) 9 0 0 [rv Γ (some t)] w (fX7_not5 t w) := by
  refine mtI [.inr (.inl (some t))] rfl (Nat.le_of_ble_eq_true rfl) (fun X hΓ hnL hn0 h _ hr hF => ?_)
  subst hΓ
  have ht : InN X t 7 := ⟨by rw [hn0]; exact ht.1, ht.2⟩
  have h : Ok X cX7_not5 RX7 9 0 0 := h
  have hj : ∀ j, j < 4 → j < nLX X := fun j q => by rw [hnL]; exact q
  show G X 0 0 0 [(0, .inr (.inl (some t)))] [] w
  unfold fX7_not5 at hF
  refine g_aload_n (pc := 0) h 0 rfl dX7_not5_0 ?_
  refine g_bipush (pc := 1) (v := (110 : Int32)) h dX7_not5_1 (by decide) ?_
  refine g_bipush (pc := 3) (v := (111 : Int32)) h dX7_not5_3 (by decide) ?_
  refine g_bipush (pc := 5) (v := (116 : Int32)) h dX7_not5_5 (by decide) ?_
  refine g_iconst (pc := 7) (v := (0 : Int32)) h dX7_not5_7 (by decide) ?_
  refine g_iconst (pc := 8) (v := (0 : Int32)) h dX7_not5_8 (by decide) ?_
  refine g_iconst (pc := 9) (v := (0 : Int32)) h dX7_not5_9 (by decide) ?_
  refine g_iconst (pc := 10) (v := (0 : Int32)) h dX7_not5_10 (by decide) ?_
  refine g_iconst (pc := 11) (v := (0 : Int32)) h dX7_not5_11 (by decide) ?_
  refine g_cvI (pc := 12) (st := []) h mX7_isWord cvX7_185 (inw ht) (by decide) ⟨by decide, by decide⟩ (Nat.le_of_ble_eq_true rfl) rfl rfl dX7_not5_12 hF (fun x_1 w_2 hF => ?_)
  refine g_if_eq (pc := 15) (tgt := 25) h dX7_not5_15 (by decide) hF (fun hF => ?_) (fun hF => ?_)
  · refine g_aload_n (pc := 25) h 0 rfl dX7_not5_25 ?_
    refine g_cvI (pc := 26) (st := []) h mX7_added5 cvX7_226 (inw ht) (by decide) ⟨by decide, by decide⟩ (Nat.le_of_ble_eq_true rfl) rfl rfl dX7_not5_26 hF (fun x_3 w_4 hF => ?_)
    refine g_istore_n (pc := 29) (lv' := [(1, .inl x_3), (0, .inr (.inl (some t)))]) h dX7_not5_29 (hj 1 (by decide)) rfl ?_
    refine g_aload_n (pc := 30) h 1 rfl dX7_not5_30 ?_
    refine g_bipush (pc := 31) (v := (60 : Int32)) h dX7_not5_31 (by decide) ?_
    refine g_cvI (pc := 33) (st := []) h mX7_isSign cvX7_207 (inw ht) (by decide) ⟨by decide, by decide⟩ (Nat.le_of_ble_eq_true rfl) rfl rfl dX7_not5_33 hF (fun x_5 w_6 hF => ?_)
    refine g_if_ne (pc := 36) (tgt := 50) h dX7_not5_36 (by decide) hF (fun hF => ?_) (fun hF => ?_)
    · refine g_lv (lv' := [(0, .inr (.inl (some t))), (1, .inl x_3)]) [1, 0] rfl ?_
      exact kX7_not5_50 h hr hnL ht _ _ hF
    · refine g_aload_n (pc := 39) h 1 rfl dX7_not5_39 ?_
      refine g_bipush (pc := 40) (v := (61 : Int32)) h dX7_not5_40 (by decide) ?_
      refine g_cvI (pc := 42) (st := []) h mX7_isSign cvX7_207 (inw ht) (by decide) ⟨by decide, by decide⟩ (Nat.le_of_ble_eq_true rfl) rfl rfl dX7_not5_42 hF (fun x_7 w_8 hF => ?_)
      refine g_if_ne (pc := 45) (tgt := 50) h dX7_not5_45 (by decide) hF (fun hF => ?_) (fun hF => ?_)
      · refine g_lv (lv' := [(0, .inr (.inl (some t))), (1, .inl x_3)]) [1, 0] rfl ?_
        exact kX7_not5_50 h hr hnL ht _ _ hF
      · refine g_iload_n (pc := 48) h 0 rfl dX7_not5_48 ?_
        exact g_iret (pc := 49) h hr ⟨Nat.le_refl _, Nat.le_refl _⟩ hF dX7_not5_49
  · refine g_aload_n (pc := 18) h 0 rfl dX7_not5_18 ?_
    refine g_cvI (pc := 19) (st := []) h mX7_opens cvX7_210 (inw ht) (by decide) ⟨by decide, by decide⟩ (Nat.le_of_ble_eq_true rfl) rfl rfl dX7_not5_19 hF (fun x_9 w_10 hF => ?_)
    refine g_pop (pc := 22) h dX7_not5_22 rfl ?_
    refine g_iconst (pc := 23) (v := (0 : Int32)) h dX7_not5_23 (by decide) ?_
    exact g_iret (pc := 24) h hr ⟨Nat.le_refl _, Nat.le_refl _⟩ hF dX7_not5_24
def fX7_both5_45 (k5 : Int32 → Wd → Option (Int32 × Wd)) (t : Nat) (y0 : Int32) (w : Wd) : Option (Int32 × Wd) :=
  k5 y0 w
set_option maxHeartbeats 4000000 in
theorem kX7_both5_45 {X : Cx} (h : Ok X cX7_both5 RX7 10 0 0) (hr : RetI X .int 0 0) (hnL : nLX X = 3) {t : Nat} (ht : InN X t 7) {k5 : Int32 → Wd → Option (Int32 × Wd)} (hk5 : ∀ (x1 : Int32) (w : Wd), OkR X Value.int (k5 x1 w) → G X 0 0 5 [(0, .inr (.inl (some t))), (1, .inl x1)] [] w) : ∀ (y0 : Int32) (w : Wd), OkR X Value.int (fX7_both5_45 k5 t y0 w) → G X 0 0 45 [(0, .inr (.inl (some t)))] [.int y0] w := by
  have hj : ∀ j, j < 3 → j < nLX X := fun j q => by rw [hnL]; exact q
  intro y0 w hF
  unfold fX7_both5_45 at hF
  refine g_istore_n (pc := 45) (lv' := [(1, .inl y0), (0, .inr (.inl (some t)))]) h dX7_both5_45 (hj 1 (by decide)) rfl ?_
  refine g_goto (pc := 46) (tgt := 5) h dX7_both5_46 (by decide) ?_
  refine g_lv (lv' := [(0, .inr (.inl (some t))), (1, .inl y0)]) [1, 0] rfl ?_
  exact hk5 _ _ hF
def fX7_both5_44 (k5 : Int32 → Wd → Option (Int32 × Wd)) (t : Nat) (w : Wd) : Option (Int32 × Wd) :=
  fX7_both5_45 k5 t (0 : Int32) w
set_option maxHeartbeats 4000000 in
theorem kX7_both5_44 {X : Cx} (h : Ok X cX7_both5 RX7 10 0 0) (hr : RetI X .int 0 0) (hnL : nLX X = 3) {t : Nat} (ht : InN X t 7) {k5 : Int32 → Wd → Option (Int32 × Wd)} (hk5 : ∀ (x1 : Int32) (w : Wd), OkR X Value.int (k5 x1 w) → G X 0 0 5 [(0, .inr (.inl (some t))), (1, .inl x1)] [] w) : ∀ (w : Wd), OkR X Value.int (fX7_both5_44 k5 t  w) → G X 0 0 44 [(0, .inr (.inl (some t)))] [] w := by
  have hj : ∀ j, j < 3 → j < nLX X := fun j q => by rw [hnL]; exact q
  intro w hF
  unfold fX7_both5_44 at hF
  refine g_iconst (pc := 44) (v := (0 : Int32)) h dX7_both5_44 (by decide) ?_
  exact kX7_both5_45 h hr hnL ht hk5 _ _ hF
def fX7_both5_5 (t : Nat) : Nat → Int32 → Wd → Option (Int32 × Wd)
  | 0 => fun _ _ => none
  | n + 1 => fun x1 w =>
    bnd (fX7_isWord t (97 : Int32) (110 : Int32) (100 : Int32) (0 : Int32) (0 : Int32) (0 : Int32) (0 : Int32) (0 : Int32) w) (fun x_3 w_4 => if x_3 = 0 then
      (some (x1, w_4))
    else
      (bnd (fX7_next t w_4) (fun u_5 w_6 => bnd (fX7_not5 t w_6) (fun x_7 w_8 => if x1 = 0 then
        (fX7_both5_44 (fX7_both5_5 t n) t w_8)
      else
        (if x_7 = 0 then
          (fX7_both5_44 (fX7_both5_5 t n) t w_8)
        else
          (fX7_both5_45 (fX7_both5_5 t n) t (1 : Int32) w_8))))))
set_option maxHeartbeats 4000000 in
theorem kX7_both5_5 {X : Cx} (h : Ok X cX7_both5 RX7 10 0 0) (hr : RetI X .int 0 0) (hnL : nLX X = 3) {t : Nat} (ht : InN X t 7) : ∀ (fu : Nat) (x1 : Int32) (w : Wd), OkR X Value.int (fX7_both5_5 t fu x1 w) → G X 0 0 5 [(0, .inr (.inl (some t))), (1, .inl x1)] [] w := by
  have hj : ∀ j, j < 3 → j < nLX X := fun j q => by rw [hnL]; exact q
  intro fu
  induction fu with
  | zero => intro x1 w hF; exact okN hF
  | succ fu ih =>
    intro x1 w hF
    rw [fX7_both5_5] at hF
    refine g_aload_n (pc := 5) h 0 rfl dX7_both5_5 ?_
    refine g_bipush (pc := 6) (v := (97 : Int32)) h dX7_both5_6 (by decide) ?_
    refine g_bipush (pc := 8) (v := (110 : Int32)) h dX7_both5_8 (by decide) ?_
    refine g_bipush (pc := 10) (v := (100 : Int32)) h dX7_both5_10 (by decide) ?_
    refine g_iconst (pc := 12) (v := (0 : Int32)) h dX7_both5_12 (by decide) ?_
    refine g_iconst (pc := 13) (v := (0 : Int32)) h dX7_both5_13 (by decide) ?_
    refine g_iconst (pc := 14) (v := (0 : Int32)) h dX7_both5_14 (by decide) ?_
    refine g_iconst (pc := 15) (v := (0 : Int32)) h dX7_both5_15 (by decide) ?_
    refine g_iconst (pc := 16) (v := (0 : Int32)) h dX7_both5_16 (by decide) ?_
    refine g_cvI (pc := 17) (st := []) h mX7_isWord cvX7_185 (inw ht) (by decide) ⟨by decide, by decide⟩ (Nat.le_of_ble_eq_true rfl) rfl rfl dX7_both5_17 hF (fun x_3 w_4 hF => ?_)
    refine g_if_eq (pc := 20) (tgt := 49) h dX7_both5_20 (by decide) hF (fun hF => ?_) (fun hF => ?_)
    · refine g_iload_n (pc := 49) h 1 rfl dX7_both5_49 ?_
      exact g_iret (pc := 50) h hr ⟨Nat.le_refl _, Nat.le_refl _⟩ hF dX7_both5_50
    · refine g_aload_n (pc := 23) h 0 rfl dX7_both5_23 ?_
      refine g_cvV (pc := 24) (st := []) h mX7_next cvX7_182 (inw ht) (by decide) ⟨by decide, by decide⟩ (Nat.le_of_ble_eq_true rfl) rfl rfl dX7_both5_24 hF (fun u_5 w_6 hF => ?_)
      refine g_aload_n (pc := 27) h 0 rfl dX7_both5_27 ?_
      refine g_cvI (pc := 28) (st := []) h mX7_not5 cvX7_231 (inw ht) (by decide) ⟨by decide, by decide⟩ (Nat.le_of_ble_eq_true rfl) rfl rfl dX7_both5_28 hF (fun x_7 w_8 hF => ?_)
      refine g_istore_n (pc := 31) (lv' := [(2, .inl x_7), (0, .inr (.inl (some t))), (1, .inl x1)]) h dX7_both5_31 (hj 2 (by decide)) rfl ?_
      refine g_iload_n (pc := 32) h 2 rfl dX7_both5_32 ?_
      refine g_if_eq (pc := 33) (tgt := 44) h dX7_both5_33 (by decide) hF (fun hF => ?_) (fun hF => ?_)
      · refine g_lv (lv' := [(0, .inr (.inl (some t)))]) [1] rfl ?_
        exact kX7_both5_44 h hr hnL ht (fun z0 z1 hF => ih z0 z1 hF) _ hF
      · refine g_iload_n (pc := 36) h 0 rfl dX7_both5_36 ?_
        refine g_if_eq (pc := 37) (tgt := 44) h dX7_both5_37 (by decide) hF (fun hF => ?_) (fun hF => ?_)
        · refine g_lv (lv' := [(0, .inr (.inl (some t)))]) [1] rfl ?_
          exact kX7_both5_44 h hr hnL ht (fun z0 z1 hF => ih z0 z1 hF) _ hF
        · refine g_iconst (pc := 40) (v := (1 : Int32)) h dX7_both5_40 (by decide) ?_
          refine g_goto (pc := 41) (tgt := 45) h dX7_both5_41 (by decide) ?_
          refine g_lv (lv' := [(0, .inr (.inl (some t)))]) [1] rfl ?_
          exact kX7_both5_45 h hr hnL ht (fun z0 z1 hF => ih z0 z1 hF) _ _ hF
def fX7_both5 (t : Nat) (w : Wd) : Option (Int32 × Wd) :=
  bnd (fX7_not5 t w) (fun x_1 w_2 => fX7_both5_5 t FU x_1 w_2)
set_option maxHeartbeats 4000000 in
theorem mX7_both5 {Γ : En} {t : Nat} {w : Wd} (ht : t < wn w ∧ kd t = 7) : MtI Γ yX7_both5 cX7_both5 3 (some .int) 10 0 0 [rv Γ (some t)] w (fX7_both5 t w) := by
  refine mtI [.inr (.inl (some t))] rfl (Nat.le_of_ble_eq_true rfl) (fun X hΓ hnL hn0 h _ hr hF => ?_)
  subst hΓ
  have ht : InN X t 7 := ⟨by rw [hn0]; exact ht.1, ht.2⟩
  have h : Ok X cX7_both5 RX7 10 0 0 := h
  have hj : ∀ j, j < 3 → j < nLX X := fun j q => by rw [hnL]; exact q
  show G X 0 0 0 [(0, .inr (.inl (some t)))] [] w
  unfold fX7_both5 at hF
  refine g_aload_n (pc := 0) h 0 rfl dX7_both5_0 ?_
  refine g_cvI (pc := 1) (st := []) h mX7_not5 cvX7_231 (inw ht) (by decide) ⟨by decide, by decide⟩ (Nat.le_of_ble_eq_true rfl) rfl rfl dX7_both5_1 hF (fun x_1 w_2 hF => ?_)
  refine g_istore_n (pc := 4) (lv' := [(1, .inl x_1), (0, .inr (.inl (some t)))]) h dX7_both5_4 (hj 1 (by decide)) rfl ?_
  refine g_lv (lv' := [(0, .inr (.inl (some t))), (1, .inl x_1)]) [1, 0] rfl ?_
  exact kX7_both5_5 h hr hnL ht _ _ _ hF
def fX7_either5_44 (k5 : Int32 → Wd → Option (Int32 × Wd)) (t : Nat) (y0 : Int32) (w : Wd) : Option (Int32 × Wd) :=
  k5 y0 w
set_option maxHeartbeats 4000000 in
theorem kX7_either5_44 {X : Cx} (h : Ok X cX7_either5 RX7 11 0 0) (hr : RetI X .int 0 0) (hnL : nLX X = 3) {t : Nat} (ht : InN X t 7) {k5 : Int32 → Wd → Option (Int32 × Wd)} (hk5 : ∀ (x1 : Int32) (w : Wd), OkR X Value.int (k5 x1 w) → G X 0 0 5 [(0, .inr (.inl (some t))), (1, .inl x1)] [] w) : ∀ (y0 : Int32) (w : Wd), OkR X Value.int (fX7_either5_44 k5 t y0 w) → G X 0 0 44 [(0, .inr (.inl (some t)))] [.int y0] w := by
  have hj : ∀ j, j < 3 → j < nLX X := fun j q => by rw [hnL]; exact q
  intro y0 w hF
  unfold fX7_either5_44 at hF
  refine g_istore_n (pc := 44) (lv' := [(1, .inl y0), (0, .inr (.inl (some t)))]) h dX7_either5_44 (hj 1 (by decide)) rfl ?_
  refine g_goto (pc := 45) (tgt := 5) h dX7_either5_45 (by decide) ?_
  refine g_lv (lv' := [(0, .inr (.inl (some t))), (1, .inl y0)]) [1, 0] rfl ?_
  exact hk5 _ _ hF
def fX7_either5_39 (k5 : Int32 → Wd → Option (Int32 × Wd)) (t : Nat) (w : Wd) : Option (Int32 × Wd) :=
  fX7_either5_44 k5 t (1 : Int32) w
set_option maxHeartbeats 4000000 in
theorem kX7_either5_39 {X : Cx} (h : Ok X cX7_either5 RX7 11 0 0) (hr : RetI X .int 0 0) (hnL : nLX X = 3) {t : Nat} (ht : InN X t 7) {k5 : Int32 → Wd → Option (Int32 × Wd)} (hk5 : ∀ (x1 : Int32) (w : Wd), OkR X Value.int (k5 x1 w) → G X 0 0 5 [(0, .inr (.inl (some t))), (1, .inl x1)] [] w) : ∀ (w : Wd), OkR X Value.int (fX7_either5_39 k5 t  w) → G X 0 0 39 [(0, .inr (.inl (some t)))] [] w := by
  have hj : ∀ j, j < 3 → j < nLX X := fun j q => by rw [hnL]; exact q
  intro w hF
  unfold fX7_either5_39 at hF
  refine g_iconst (pc := 39) (v := (1 : Int32)) h dX7_either5_39 (by decide) ?_
  refine g_goto (pc := 40) (tgt := 44) h dX7_either5_40 (by decide) ?_
  exact kX7_either5_44 h hr hnL ht hk5 _ _ hF
def fX7_either5_5 (t : Nat) : Nat → Int32 → Wd → Option (Int32 × Wd)
  | 0 => fun _ _ => none
  | n + 1 => fun x1 w =>
    bnd (fX7_isWord t (111 : Int32) (114 : Int32) (0 : Int32) (0 : Int32) (0 : Int32) (0 : Int32) (0 : Int32) (0 : Int32) w) (fun x_3 w_4 => if x_3 = 0 then
      (some (x1, w_4))
    else
      (bnd (fX7_next t w_4) (fun u_5 w_6 => bnd (fX7_both5 t w_6) (fun x_7 w_8 => if x1 = 0 then
        (if x_7 = 0 then
          (fX7_either5_44 (fX7_either5_5 t n) t (0 : Int32) w_8)
        else
          (fX7_either5_39 (fX7_either5_5 t n) t w_8))
      else
        (fX7_either5_39 (fX7_either5_5 t n) t w_8)))))
set_option maxHeartbeats 4000000 in
theorem kX7_either5_5 {X : Cx} (h : Ok X cX7_either5 RX7 11 0 0) (hr : RetI X .int 0 0) (hnL : nLX X = 3) {t : Nat} (ht : InN X t 7) : ∀ (fu : Nat) (x1 : Int32) (w : Wd), OkR X Value.int (fX7_either5_5 t fu x1 w) → G X 0 0 5 [(0, .inr (.inl (some t))), (1, .inl x1)] [] w := by
  have hj : ∀ j, j < 3 → j < nLX X := fun j q => by rw [hnL]; exact q
  intro fu
  induction fu with
  | zero => intro x1 w hF; exact okN hF
  | succ fu ih =>
    intro x1 w hF
    rw [fX7_either5_5] at hF
    refine g_aload_n (pc := 5) h 0 rfl dX7_either5_5 ?_
    refine g_bipush (pc := 6) (v := (111 : Int32)) h dX7_either5_6 (by decide) ?_
    refine g_bipush (pc := 8) (v := (114 : Int32)) h dX7_either5_8 (by decide) ?_
    refine g_iconst (pc := 10) (v := (0 : Int32)) h dX7_either5_10 (by decide) ?_
    refine g_iconst (pc := 11) (v := (0 : Int32)) h dX7_either5_11 (by decide) ?_
    refine g_iconst (pc := 12) (v := (0 : Int32)) h dX7_either5_12 (by decide) ?_
    refine g_iconst (pc := 13) (v := (0 : Int32)) h dX7_either5_13 (by decide) ?_
    refine g_iconst (pc := 14) (v := (0 : Int32)) h dX7_either5_14 (by decide) ?_
    refine g_iconst (pc := 15) (v := (0 : Int32)) h dX7_either5_15 (by decide) ?_
    refine g_cvI (pc := 16) (st := []) h mX7_isWord cvX7_185 (inw ht) (by decide) ⟨by decide, by decide⟩ (Nat.le_of_ble_eq_true rfl) rfl rfl dX7_either5_16 hF (fun x_3 w_4 hF => ?_)
    refine g_if_eq (pc := 19) (tgt := 48) h dX7_either5_19 (by decide) hF (fun hF => ?_) (fun hF => ?_)
    · refine g_iload_n (pc := 48) h 1 rfl dX7_either5_48 ?_
      exact g_iret (pc := 49) h hr ⟨Nat.le_refl _, Nat.le_refl _⟩ hF dX7_either5_49
    · refine g_aload_n (pc := 22) h 0 rfl dX7_either5_22 ?_
      refine g_cvV (pc := 23) (st := []) h mX7_next cvX7_182 (inw ht) (by decide) ⟨by decide, by decide⟩ (Nat.le_of_ble_eq_true rfl) rfl rfl dX7_either5_23 hF (fun u_5 w_6 hF => ?_)
      refine g_aload_n (pc := 26) h 0 rfl dX7_either5_26 ?_
      refine g_cvI (pc := 27) (st := []) h mX7_both5 cvX7_234 (inw ht) (by decide) ⟨by decide, by decide⟩ (Nat.le_of_ble_eq_true rfl) rfl rfl dX7_either5_27 hF (fun x_7 w_8 hF => ?_)
      refine g_istore_n (pc := 30) (lv' := [(2, .inl x_7), (0, .inr (.inl (some t))), (1, .inl x1)]) h dX7_either5_30 (hj 2 (by decide)) rfl ?_
      refine g_iload_n (pc := 31) h 2 rfl dX7_either5_31 ?_
      refine g_if_ne (pc := 32) (tgt := 39) h dX7_either5_32 (by decide) hF (fun hF => ?_) (fun hF => ?_)
      · refine g_lv (lv' := [(0, .inr (.inl (some t)))]) [1] rfl ?_
        exact kX7_either5_39 h hr hnL ht (fun z0 z1 hF => ih z0 z1 hF) _ hF
      · refine g_iload_n (pc := 35) h 0 rfl dX7_either5_35 ?_
        refine g_if_eq (pc := 36) (tgt := 43) h dX7_either5_36 (by decide) hF (fun hF => ?_) (fun hF => ?_)
        · refine g_iconst (pc := 43) (v := (0 : Int32)) h dX7_either5_43 (by decide) ?_
          refine g_lv (lv' := [(0, .inr (.inl (some t)))]) [1] rfl ?_
          exact kX7_either5_44 h hr hnL ht (fun z0 z1 hF => ih z0 z1 hF) _ _ hF
        · refine g_lv (lv' := [(0, .inr (.inl (some t)))]) [1] rfl ?_
          exact kX7_either5_39 h hr hnL ht (fun z0 z1 hF => ih z0 z1 hF) _ hF
def fX7_either5 (t : Nat) (w : Wd) : Option (Int32 × Wd) :=
  bnd (fX7_both5 t w) (fun x_1 w_2 => fX7_either5_5 t FU x_1 w_2)
set_option maxHeartbeats 4000000 in
theorem mX7_either5 {Γ : En} {t : Nat} {w : Wd} (ht : t < wn w ∧ kd t = 7) : MtI Γ yX7_either5 cX7_either5 3 (some .int) 11 0 0 [rv Γ (some t)] w (fX7_either5 t w) := by
  refine mtI [.inr (.inl (some t))] rfl (Nat.le_of_ble_eq_true rfl) (fun X hΓ hnL hn0 h _ hr hF => ?_)
  subst hΓ
  have ht : InN X t 7 := ⟨by rw [hn0]; exact ht.1, ht.2⟩
  have h : Ok X cX7_either5 RX7 11 0 0 := h
  have hj : ∀ j, j < 3 → j < nLX X := fun j q => by rw [hnL]; exact q
  show G X 0 0 0 [(0, .inr (.inl (some t)))] [] w
  unfold fX7_either5 at hF
  refine g_aload_n (pc := 0) h 0 rfl dX7_either5_0 ?_
  refine g_cvI (pc := 1) (st := []) h mX7_both5 cvX7_234 (inw ht) (by decide) ⟨by decide, by decide⟩ (Nat.le_of_ble_eq_true rfl) rfl rfl dX7_either5_1 hF (fun x_1 w_2 hF => ?_)
  refine g_istore_n (pc := 4) (lv' := [(1, .inl x_1), (0, .inr (.inl (some t)))]) h dX7_either5_4 (hj 1 (by decide)) rfl ?_
  refine g_lv (lv' := [(0, .inr (.inl (some t))), (1, .inl x_1)]) [1, 0] rfl ?_
  exact kX7_either5_5 h hr hnL ht _ _ _ hF
def fX7_atom4_161 (t : Nat) (x1 : Int32) (w : Wd) : Option (Int32 × Wd) :=
  some (x1, w)
set_option maxHeartbeats 4000000 in
theorem kX7_atom4_161 {X : Cx} (h : Ok X cX7_atom4 RX7 12 0 0) (hr : RetI X .int 0 0) (hnL : nLX X = 2) {t : Nat} (ht : InN X t 7) : ∀ (x1 : Int32) (w : Wd), OkR X Value.int (fX7_atom4_161 t x1 w) → G X 0 0 161 [(1, .inl x1)] [] w := by
  have hj : ∀ j, j < 2 → j < nLX X := fun j q => by rw [hnL]; exact q
  intro x1 w hF
  unfold fX7_atom4_161 at hF
  refine g_iload_n (pc := 161) h 0 rfl dX7_atom4_161 ?_
  exact g_iret (pc := 162) h hr ⟨Nat.le_refl _, Nat.le_refl _⟩ hF dX7_atom4_162
def fX7_atom4_71 (t : Nat) (x1 : Int32) (w : Wd) : Option (Int32 × Wd) :=
  lw (sI w t 24 ((gI w t 24) - (1 : Int32))) (fun w_26 => if (gI w_26 t 25) = 0 then
    (bnd (fX7_next t w_26) (fun u_27 w_28 => fX7_atom4_161 t x1 w_28))
  else
    (fX7_atom4_161 t x1 w_26))
set_option maxHeartbeats 4000000 in
theorem kX7_atom4_71 {X : Cx} (h : Ok X cX7_atom4 RX7 12 0 0) (hr : RetI X .int 0 0) (hnL : nLX X = 2) {t : Nat} (ht : InN X t 7) : ∀ (x1 : Int32) (w : Wd), OkR X Value.int (fX7_atom4_71 t x1 w) → G X 0 0 71 [(0, .inr (.inl (some t))), (1, .inl x1)] [] w := by
  have hj : ∀ j, j < 2 → j < nLX X := fun j q => by rw [hnL]; exact q
  intro x1 w hF
  unfold fX7_atom4_71 at hF
  refine g_aload_n (pc := 71) h 0 rfl dX7_atom4_71 ?_
  refine g_dup (pc := 72) h dX7_atom4_72 rv_cat ?_
  refine g_getI (pc := 73) h fdX7_176 (inw ht) (by decide) dX7_atom4_73 ?_
  refine g_iconst (pc := 76) (v := (1 : Int32)) h dX7_atom4_76 (by decide) ?_
  refine g_isub (pc := 77) h dX7_atom4_77 ?_
  refine g_putI (pc := 78) h fdX7_176 (inw ht) (by decide) ⟨rfl, rfl⟩ dX7_atom4_78 ?_
  refine g_w hF (fun w_26 hF => ?_)
  refine g_aload_n (pc := 81) h 0 rfl dX7_atom4_81 ?_
  refine g_getI (pc := 82) h fdX7_166 (inw ht) (by decide) dX7_atom4_82 ?_
  refine g_if_ne (pc := 85) (tgt := 161) h dX7_atom4_85 (by decide) hF (fun hF => ?_) (fun hF => ?_)
  · refine g_lv (lv' := [(1, .inl x1)]) [1] rfl ?_
    exact kX7_atom4_161 h hr hnL ht _ _ hF
  · refine g_aload_n (pc := 88) h 0 rfl dX7_atom4_88 ?_
    refine g_cvV (pc := 89) (st := []) h mX7_next cvX7_182 (inw ht) (by decide) ⟨by decide, by decide⟩ (Nat.le_of_ble_eq_true rfl) rfl rfl dX7_atom4_89 hF (fun u_27 w_28 hF => ?_)
    refine g_goto (pc := 92) (tgt := 161) h dX7_atom4_92 (by decide) ?_
    refine g_lv (lv' := [(1, .inl x1)]) [1] rfl ?_
    exact kX7_atom4_161 h hr hnL ht _ _ hF
def fX7_atom4_157 (t : Nat) (x1 : Int32) (w : Wd) : Option (Int32 × Wd) :=
  bnd (fX7_fail t w) (fun u_29 w_30 => fX7_atom4_161 t x1 w_30)
set_option maxHeartbeats 4000000 in
theorem kX7_atom4_157 {X : Cx} (h : Ok X cX7_atom4 RX7 12 0 0) (hr : RetI X .int 0 0) (hnL : nLX X = 2) {t : Nat} (ht : InN X t 7) : ∀ (x1 : Int32) (w : Wd), OkR X Value.int (fX7_atom4_157 t x1 w) → G X 0 0 157 [(0, .inr (.inl (some t))), (1, .inl x1)] [] w := by
  have hj : ∀ j, j < 2 → j < nLX X := fun j q => by rw [hnL]; exact q
  intro x1 w hF
  unfold fX7_atom4_157 at hF
  refine g_aload_n (pc := 157) h 0 rfl dX7_atom4_157 ?_
  refine g_cvV (pc := 158) (st := []) h mX7_fail cvX7_179 (inw ht) (by decide) ⟨by decide, by decide⟩ (Nat.le_of_ble_eq_true rfl) rfl rfl dX7_atom4_158 hF (fun u_29 w_30 hF => ?_)
  refine g_lv (lv' := [(1, .inl x1)]) [1] rfl ?_
  exact kX7_atom4_161 h hr hnL ht _ _ hF
def fX7_atom4_123 (t : Nat) (x1 : Int32) (w : Wd) : Option (Int32 × Wd) :=
  if (gI w t 25) = 0 then
    (if (gI w t 21) = (1 : Int32) then
      (bnd (fX7_name t w) (fun x_22 w_23 => if (gI w_23 t 25) = 0 then
        (bnd (fX7_next t w_23) (fun u_24 w_25 => fX7_atom4_161 t x_22 w_25))
      else
        (fX7_atom4_161 t x_22 w_23)))
    else
      (fX7_atom4_157 t x1 w))
  else
    (fX7_atom4_157 t x1 w)
set_option maxHeartbeats 4000000 in
theorem kX7_atom4_123 {X : Cx} (h : Ok X cX7_atom4 RX7 12 0 0) (hr : RetI X .int 0 0) (hnL : nLX X = 2) {t : Nat} (ht : InN X t 7) : ∀ (x1 : Int32) (w : Wd), OkR X Value.int (fX7_atom4_123 t x1 w) → G X 0 0 123 [(0, .inr (.inl (some t))), (1, .inl x1)] [] w := by
  have hj : ∀ j, j < 2 → j < nLX X := fun j q => by rw [hnL]; exact q
  intro x1 w hF
  unfold fX7_atom4_123 at hF
  refine g_aload_n (pc := 123) h 0 rfl dX7_atom4_123 ?_
  refine g_getI (pc := 124) h fdX7_166 (inw ht) (by decide) dX7_atom4_124 ?_
  refine g_if_ne (pc := 127) (tgt := 157) h dX7_atom4_127 (by decide) hF (fun hF => ?_) (fun hF => ?_)
  · exact kX7_atom4_157 h hr hnL ht _ _ hF
  · refine g_aload_n (pc := 130) h 0 rfl dX7_atom4_130 ?_
    refine g_getI (pc := 131) h fdX7_149 (inw ht) (by decide) dX7_atom4_131 ?_
    refine g_iconst (pc := 134) (v := (1 : Int32)) h dX7_atom4_134 (by decide) ?_
    refine g_icmp_ne (pc := 135) (tgt := 157) h dX7_atom4_135 (by decide) hF (fun hF => ?_) (fun hF => ?_)
    · exact kX7_atom4_157 h hr hnL ht _ _ hF
    · refine g_aload_n (pc := 138) h 0 rfl dX7_atom4_138 ?_
      refine g_cvI (pc := 139) (st := []) h mX7_name cvX7_214 (inw ht) (by decide) ⟨by decide, by decide⟩ (Nat.le_of_ble_eq_true rfl) rfl rfl dX7_atom4_139 hF (fun x_22 w_23 hF => ?_)
      refine g_istore_n (pc := 142) (lv' := [(1, .inl x_22), (0, .inr (.inl (some t)))]) h dX7_atom4_142 (hj 1 (by decide)) rfl ?_
      refine g_aload_n (pc := 143) h 1 rfl dX7_atom4_143 ?_
      refine g_getI (pc := 144) h fdX7_166 (inw ht) (by decide) dX7_atom4_144 ?_
      refine g_if_ne (pc := 147) (tgt := 161) h dX7_atom4_147 (by decide) hF (fun hF => ?_) (fun hF => ?_)
      · refine g_lv (lv' := [(1, .inl x_22)]) [0] rfl ?_
        exact kX7_atom4_161 h hr hnL ht _ _ hF
      · refine g_aload_n (pc := 150) h 1 rfl dX7_atom4_150 ?_
        refine g_cvV (pc := 151) (st := []) h mX7_next cvX7_182 (inw ht) (by decide) ⟨by decide, by decide⟩ (Nat.le_of_ble_eq_true rfl) rfl rfl dX7_atom4_151 hF (fun u_24 w_25 hF => ?_)
        refine g_goto (pc := 154) (tgt := 161) h dX7_atom4_154 (by decide) ?_
        refine g_lv (lv' := [(1, .inl x_22)]) [0] rfl ?_
        exact kX7_atom4_161 h hr hnL ht _ _ hF
def fX7_atom4 (t : Nat) (w : Wd) : Option (Int32 × Wd) :=
  bnd (fX7_isSign t (45 : Int32) w) (fun x_1 w_2 => if x_1 = 0 then
    (bnd (fX7_isSign t (40 : Int32) w_2) (fun x_3 w_4 => if x_3 = 0 then
      (if (gI w_4 t 25) = 0 then
        (if (gI w_4 t 21) = (2 : Int32) then
          (lt ((gL w_4 t 23).toInt32) (fun x1_5 => bnd (fX7_next t w_4) (fun u_6 w_7 => fX7_atom4_161 t x1_5 w_7)))
        else
          (fX7_atom4_123 t (0 : Int32) w_4))
      else
        (fX7_atom4_123 t (0 : Int32) w_4))
    else
      (bnd (fX7_opens t w_4) (fun x_8 w_9 => if x_8 = 0 then
        (fX7_atom4_161 t (0 : Int32) w_9)
      else
        (bnd (fX7_either5 t w_9) (fun x_10 w_11 => bnd (fX7_isSign t (41 : Int32) w_11) (fun x_12 w_13 => if x_12 = 0 then
          (bnd (fX7_fail t w_13) (fun u_14 w_15 => fX7_atom4_71 t x_10 w_15))
        else
          (fX7_atom4_71 t x_10 w_13))))))))
  else
    (bnd (fX7_opens t w_2) (fun x_16 w_17 => if x_16 = 0 then
      (fX7_atom4_161 t (0 : Int32) w_17)
    else
      (bnd (fX7_atom5 t w_17) (fun x_18 w_19 => lt (-x_18) (fun x1_20 => lw (sI w_19 t 24 ((gI w_19 t 24) - (1 : Int32))) (fun w_21 => fX7_atom4_161 t x1_20 w_21)))))))
set_option maxHeartbeats 4000000 in
theorem mX7_atom4 {Γ : En} {t : Nat} {w : Wd} (ht : t < wn w ∧ kd t = 7) : MtI Γ yX7_atom4 cX7_atom4 2 (some .int) 12 0 0 [rv Γ (some t)] w (fX7_atom4 t w) := by
  refine mtI [.inr (.inl (some t))] rfl (Nat.le_of_ble_eq_true rfl) (fun X hΓ hnL hn0 h _ hr hF => ?_)
  subst hΓ
  have ht : InN X t 7 := ⟨by rw [hn0]; exact ht.1, ht.2⟩
  have h : Ok X cX7_atom4 RX7 12 0 0 := h
  have hj : ∀ j, j < 2 → j < nLX X := fun j q => by rw [hnL]; exact q
  show G X 0 0 0 [(0, .inr (.inl (some t)))] [] w
  unfold fX7_atom4 at hF
  refine g_iconst (pc := 0) (v := (0 : Int32)) h dX7_atom4_0 (by decide) ?_
  refine g_istore_n (pc := 1) (lv' := [(1, .inl (0 : Int32)), (0, .inr (.inl (some t)))]) h dX7_atom4_1 (hj 1 (by decide)) rfl ?_
  refine g_aload_n (pc := 2) h 1 rfl dX7_atom4_2 ?_
  refine g_bipush (pc := 3) (v := (45 : Int32)) h dX7_atom4_3 (by decide) ?_
  refine g_cvI (pc := 5) (st := []) h mX7_isSign cvX7_207 (inw ht) (by decide) ⟨by decide, by decide⟩ (Nat.le_of_ble_eq_true rfl) rfl rfl dX7_atom4_5 hF (fun x_1 w_2 hF => ?_)
  refine g_if_eq (pc := 8) (tgt := 37) h dX7_atom4_8 (by decide) hF (fun hF => ?_) (fun hF => ?_)
  · refine g_aload_n (pc := 37) h 1 rfl dX7_atom4_37 ?_
    refine g_bipush (pc := 38) (v := (40 : Int32)) h dX7_atom4_38 (by decide) ?_
    refine g_cvI (pc := 40) (st := []) h mX7_isSign cvX7_207 (inw ht) (by decide) ⟨by decide, by decide⟩ (Nat.le_of_ble_eq_true rfl) rfl rfl dX7_atom4_40 hF (fun x_3 w_4 hF => ?_)
    refine g_if_eq (pc := 43) (tgt := 95) h dX7_atom4_43 (by decide) hF (fun hF => ?_) (fun hF => ?_)
    · refine g_aload_n (pc := 95) h 1 rfl dX7_atom4_95 ?_
      refine g_getI (pc := 96) h fdX7_166 (inw ht) (by decide) dX7_atom4_96 ?_
      refine g_if_ne (pc := 99) (tgt := 123) h dX7_atom4_99 (by decide) hF (fun hF => ?_) (fun hF => ?_)
      · refine g_lv (lv' := [(0, .inr (.inl (some t))), (1, .inl (0 : Int32))]) [1, 0] rfl ?_
        exact kX7_atom4_123 h hr hnL ht _ _ hF
      · refine g_aload_n (pc := 102) h 1 rfl dX7_atom4_102 ?_
        refine g_getI (pc := 103) h fdX7_149 (inw ht) (by decide) dX7_atom4_103 ?_
        refine g_iconst (pc := 106) (v := (2 : Int32)) h dX7_atom4_106 (by decide) ?_
        refine g_icmp_ne (pc := 107) (tgt := 123) h dX7_atom4_107 (by decide) hF (fun hF => ?_) (fun hF => ?_)
        · refine g_lv (lv' := [(0, .inr (.inl (some t))), (1, .inl (0 : Int32))]) [1, 0] rfl ?_
          exact kX7_atom4_123 h hr hnL ht _ _ hF
        · refine g_aload_n (pc := 110) h 1 rfl dX7_atom4_110 ?_
          refine g_getL (pc := 111) h fdX7_160 (inw ht) rfl dX7_atom4_111 ?_
          refine g_l2i (pc := 114) h dX7_atom4_114 ?_
          refine g_t hF (fun x1_5 hF => ?_)
          refine g_istore_n (pc := 115) (lv' := [(1, .inl x1_5), (0, .inr (.inl (some t)))]) h dX7_atom4_115 (hj 1 (by decide)) rfl ?_
          refine g_aload_n (pc := 116) h 1 rfl dX7_atom4_116 ?_
          refine g_cvV (pc := 117) (st := []) h mX7_next cvX7_182 (inw ht) (by decide) ⟨by decide, by decide⟩ (Nat.le_of_ble_eq_true rfl) rfl rfl dX7_atom4_117 hF (fun u_6 w_7 hF => ?_)
          refine g_goto (pc := 120) (tgt := 161) h dX7_atom4_120 (by decide) ?_
          refine g_lv (lv' := [(1, .inl x1_5)]) [0] rfl ?_
          exact kX7_atom4_161 h hr hnL ht _ _ hF
    · refine g_aload_n (pc := 46) h 1 rfl dX7_atom4_46 ?_
      refine g_cvI (pc := 47) (st := []) h mX7_opens cvX7_210 (inw ht) (by decide) ⟨by decide, by decide⟩ (Nat.le_of_ble_eq_true rfl) rfl rfl dX7_atom4_47 hF (fun x_8 w_9 hF => ?_)
      refine g_if_eq (pc := 50) (tgt := 161) h dX7_atom4_50 (by decide) hF (fun hF => ?_) (fun hF => ?_)
      · refine g_lv (lv' := [(1, .inl (0 : Int32))]) [0] rfl ?_
        exact kX7_atom4_161 h hr hnL ht _ _ hF
      · refine g_aload_n (pc := 53) h 1 rfl dX7_atom4_53 ?_
        refine g_cvI (pc := 54) (st := []) h mX7_either5 cvX7_237 (inw ht) (by decide) ⟨by decide, by decide⟩ (Nat.le_of_ble_eq_true rfl) rfl rfl dX7_atom4_54 hF (fun x_10 w_11 hF => ?_)
        refine g_istore_n (pc := 57) (lv' := [(1, .inl x_10), (0, .inr (.inl (some t)))]) h dX7_atom4_57 (hj 1 (by decide)) rfl ?_
        refine g_aload_n (pc := 58) h 1 rfl dX7_atom4_58 ?_
        refine g_bipush (pc := 59) (v := (41 : Int32)) h dX7_atom4_59 (by decide) ?_
        refine g_cvI (pc := 61) (st := []) h mX7_isSign cvX7_207 (inw ht) (by decide) ⟨by decide, by decide⟩ (Nat.le_of_ble_eq_true rfl) rfl rfl dX7_atom4_61 hF (fun x_12 w_13 hF => ?_)
        refine g_if_ne (pc := 64) (tgt := 71) h dX7_atom4_64 (by decide) hF (fun hF => ?_) (fun hF => ?_)
        · refine g_lv (lv' := [(0, .inr (.inl (some t))), (1, .inl x_10)]) [1, 0] rfl ?_
          exact kX7_atom4_71 h hr hnL ht _ _ hF
        · refine g_aload_n (pc := 67) h 1 rfl dX7_atom4_67 ?_
          refine g_cvV (pc := 68) (st := []) h mX7_fail cvX7_179 (inw ht) (by decide) ⟨by decide, by decide⟩ (Nat.le_of_ble_eq_true rfl) rfl rfl dX7_atom4_68 hF (fun u_14 w_15 hF => ?_)
          refine g_lv (lv' := [(0, .inr (.inl (some t))), (1, .inl x_10)]) [1, 0] rfl ?_
          exact kX7_atom4_71 h hr hnL ht _ _ hF
  · refine g_aload_n (pc := 11) h 1 rfl dX7_atom4_11 ?_
    refine g_cvI (pc := 12) (st := []) h mX7_opens cvX7_210 (inw ht) (by decide) ⟨by decide, by decide⟩ (Nat.le_of_ble_eq_true rfl) rfl rfl dX7_atom4_12 hF (fun x_16 w_17 hF => ?_)
    refine g_if_eq (pc := 15) (tgt := 161) h dX7_atom4_15 (by decide) hF (fun hF => ?_) (fun hF => ?_)
    · refine g_lv (lv' := [(1, .inl (0 : Int32))]) [0] rfl ?_
      exact kX7_atom4_161 h hr hnL ht _ _ hF
    · refine g_aload_n (pc := 18) h 1 rfl dX7_atom4_18 ?_
      refine g_cvI (pc := 19) (st := []) h mX7_atom5 cvX7_218 (inw ht) (by decide) ⟨by decide, by decide⟩ (Nat.le_of_ble_eq_true rfl) rfl rfl dX7_atom4_19 hF (fun x_18 w_19 hF => ?_)
      refine g_ineg (pc := 22) h dX7_atom4_22 ?_
      refine g_t hF (fun x1_20 hF => ?_)
      refine g_istore_n (pc := 23) (lv' := [(1, .inl x1_20), (0, .inr (.inl (some t)))]) h dX7_atom4_23 (hj 1 (by decide)) rfl ?_
      refine g_aload_n (pc := 24) h 1 rfl dX7_atom4_24 ?_
      refine g_dup (pc := 25) h dX7_atom4_25 rv_cat ?_
      refine g_getI (pc := 26) h fdX7_176 (inw ht) (by decide) dX7_atom4_26 ?_
      refine g_iconst (pc := 29) (v := (1 : Int32)) h dX7_atom4_29 (by decide) ?_
      refine g_isub (pc := 30) h dX7_atom4_30 ?_
      refine g_putI (pc := 31) h fdX7_176 (inw ht) (by decide) ⟨rfl, rfl⟩ dX7_atom4_31 ?_
      refine g_w hF (fun w_21 hF => ?_)
      refine g_goto (pc := 34) (tgt := 161) h dX7_atom4_34 (by decide) ?_
      refine g_lv (lv' := [(1, .inl x1_20)]) [0] rfl ?_
      exact kX7_atom4_161 h hr hnL ht _ _ hF
def fX7_term4_5 (t : Nat) : Nat → Int32 → Wd → Option (Int32 × Wd)
  | 0 => fun _ _ => none
  | n + 1 => fun x1 w =>
    bnd (fX7_isSign t (42 : Int32) w) (fun x_3 w_4 => if x_3 = 0 then
      (some (x1, w_4))
    else
      (bnd (fX7_next t w_4) (fun u_5 w_6 => bnd (fX7_atom4 t w_6) (fun x_7 w_8 => lt (x1 * x_7) (fun x1_9 => fX7_term4_5 t n x1_9 w_8)))))
set_option maxHeartbeats 4000000 in
theorem kX7_term4_5 {X : Cx} (h : Ok X cX7_term4 RX7 13 0 0) (hr : RetI X .int 0 0) (hnL : nLX X = 2) {t : Nat} (ht : InN X t 7) : ∀ (fu : Nat) (x1 : Int32) (w : Wd), OkR X Value.int (fX7_term4_5 t fu x1 w) → G X 0 0 5 [(0, .inr (.inl (some t))), (1, .inl x1)] [] w := by
  have hj : ∀ j, j < 2 → j < nLX X := fun j q => by rw [hnL]; exact q
  intro fu
  induction fu with
  | zero => intro x1 w hF; exact okN hF
  | succ fu ih =>
    intro x1 w hF
    rw [fX7_term4_5] at hF
    refine g_aload_n (pc := 5) h 0 rfl dX7_term4_5 ?_
    refine g_bipush (pc := 6) (v := (42 : Int32)) h dX7_term4_6 (by decide) ?_
    refine g_cvI (pc := 8) (st := []) h mX7_isSign cvX7_207 (inw ht) (by decide) ⟨by decide, by decide⟩ (Nat.le_of_ble_eq_true rfl) rfl rfl dX7_term4_8 hF (fun x_3 w_4 hF => ?_)
    refine g_if_eq (pc := 11) (tgt := 28) h dX7_term4_11 (by decide) hF (fun hF => ?_) (fun hF => ?_)
    · refine g_iload_n (pc := 28) h 1 rfl dX7_term4_28 ?_
      exact g_iret (pc := 29) h hr ⟨Nat.le_refl _, Nat.le_refl _⟩ hF dX7_term4_29
    · refine g_aload_n (pc := 14) h 0 rfl dX7_term4_14 ?_
      refine g_cvV (pc := 15) (st := []) h mX7_next cvX7_182 (inw ht) (by decide) ⟨by decide, by decide⟩ (Nat.le_of_ble_eq_true rfl) rfl rfl dX7_term4_15 hF (fun u_5 w_6 hF => ?_)
      refine g_iload_n (pc := 18) h 1 rfl dX7_term4_18 ?_
      refine g_aload_n (pc := 19) h 0 rfl dX7_term4_19 ?_
      refine g_cvI (pc := 20) (st := [.int x1]) h mX7_atom4 cvX7_240 (inw ht) (by decide) ⟨by decide, by decide⟩ (Nat.le_of_ble_eq_true rfl) rfl rfl dX7_term4_20 hF (fun x_7 w_8 hF => ?_)
      refine g_imul (pc := 23) h dX7_term4_23 ?_
      refine g_t hF (fun x1_9 hF => ?_)
      refine g_istore_n (pc := 24) (lv' := [(1, .inl x1_9), (0, .inr (.inl (some t)))]) h dX7_term4_24 (hj 1 (by decide)) rfl ?_
      refine g_goto (pc := 25) (tgt := 5) h dX7_term4_25 (by decide) ?_
      refine g_lv (lv' := [(0, .inr (.inl (some t))), (1, .inl x1_9)]) [1, 0] rfl ?_
      exact ih _ _ hF
def fX7_term4 (t : Nat) (w : Wd) : Option (Int32 × Wd) :=
  bnd (fX7_atom4 t w) (fun x_1 w_2 => fX7_term4_5 t FU x_1 w_2)
set_option maxHeartbeats 4000000 in
theorem mX7_term4 {Γ : En} {t : Nat} {w : Wd} (ht : t < wn w ∧ kd t = 7) : MtI Γ yX7_term4 cX7_term4 2 (some .int) 13 0 0 [rv Γ (some t)] w (fX7_term4 t w) := by
  refine mtI [.inr (.inl (some t))] rfl (Nat.le_of_ble_eq_true rfl) (fun X hΓ hnL hn0 h _ hr hF => ?_)
  subst hΓ
  have ht : InN X t 7 := ⟨by rw [hn0]; exact ht.1, ht.2⟩
  have h : Ok X cX7_term4 RX7 13 0 0 := h
  have hj : ∀ j, j < 2 → j < nLX X := fun j q => by rw [hnL]; exact q
  show G X 0 0 0 [(0, .inr (.inl (some t)))] [] w
  unfold fX7_term4 at hF
  refine g_aload_n (pc := 0) h 0 rfl dX7_term4_0 ?_
  refine g_cvI (pc := 1) (st := []) h mX7_atom4 cvX7_240 (inw ht) (by decide) ⟨by decide, by decide⟩ (Nat.le_of_ble_eq_true rfl) rfl rfl dX7_term4_1 hF (fun x_1 w_2 hF => ?_)
  refine g_istore_n (pc := 4) (lv' := [(1, .inl x_1), (0, .inr (.inl (some t)))]) h dX7_term4_4 (hj 1 (by decide)) rfl ?_
  refine g_lv (lv' := [(0, .inr (.inl (some t))), (1, .inl x_1)]) [1, 0] rfl ?_
  exact kX7_term4_5 h hr hnL ht _ _ _ hF
def fX7_added4_62 (k5 : Int32 → Wd → Option (Int32 × Wd)) (t : Nat) (y0 : Int32) (w : Wd) : Option (Int32 × Wd) :=
  k5 y0 w
set_option maxHeartbeats 4000000 in
theorem kX7_added4_62 {X : Cx} (h : Ok X cX7_added4 RX7 14 0 0) (hr : RetI X .int 0 0) (hnL : nLX X = 4) {t : Nat} (ht : InN X t 7) {k5 : Int32 → Wd → Option (Int32 × Wd)} (hk5 : ∀ (x1 : Int32) (w : Wd), OkR X Value.int (k5 x1 w) → G X 0 0 5 [(0, .inr (.inl (some t))), (1, .inl x1)] [] w) : ∀ (y0 : Int32) (w : Wd), OkR X Value.int (fX7_added4_62 k5 t y0 w) → G X 0 0 62 [(0, .inr (.inl (some t)))] [.int y0] w := by
  have hj : ∀ j, j < 4 → j < nLX X := fun j q => by rw [hnL]; exact q
  intro y0 w hF
  unfold fX7_added4_62 at hF
  refine g_istore_n (pc := 62) (lv' := [(1, .inl y0), (0, .inr (.inl (some t)))]) h dX7_added4_62 (hj 1 (by decide)) rfl ?_
  refine g_goto (pc := 63) (tgt := 5) h dX7_added4_63 (by decide) ?_
  refine g_lv (lv' := [(0, .inr (.inl (some t))), (1, .inl y0)]) [1, 0] rfl ?_
  exact hk5 _ _ hF
def fX7_added4_39 (k5 : Int32 → Wd → Option (Int32 × Wd)) (t : Nat) (x1 : Int32) (y0 : Int32) (w : Wd) : Option (Int32 × Wd) :=
  bnd (fX7_next t w) (fun u_7 w_8 => bnd (fX7_term4 t w_8) (fun x_9 w_10 => if y0 = 0 then
    (fX7_added4_62 k5 t (x1 - x_9) w_10)
  else
    (fX7_added4_62 k5 t (x1 + x_9) w_10)))
set_option maxHeartbeats 4000000 in
theorem kX7_added4_39 {X : Cx} (h : Ok X cX7_added4 RX7 14 0 0) (hr : RetI X .int 0 0) (hnL : nLX X = 4) {t : Nat} (ht : InN X t 7) {k5 : Int32 → Wd → Option (Int32 × Wd)} (hk5 : ∀ (x1 : Int32) (w : Wd), OkR X Value.int (k5 x1 w) → G X 0 0 5 [(0, .inr (.inl (some t))), (1, .inl x1)] [] w) : ∀ (x1 : Int32) (y0 : Int32) (w : Wd), OkR X Value.int (fX7_added4_39 k5 t x1 y0 w) → G X 0 0 39 [(0, .inr (.inl (some t))), (1, .inl x1)] [.int y0] w := by
  have hj : ∀ j, j < 4 → j < nLX X := fun j q => by rw [hnL]; exact q
  intro x1 y0 w hF
  unfold fX7_added4_39 at hF
  refine g_istore_n (pc := 39) (lv' := [(2, .inl y0), (0, .inr (.inl (some t))), (1, .inl x1)]) h dX7_added4_39 (hj 2 (by decide)) rfl ?_
  refine g_aload_n (pc := 40) h 1 rfl dX7_added4_40 ?_
  refine g_cvV (pc := 41) (st := []) h mX7_next cvX7_182 (inw ht) (by decide) ⟨by decide, by decide⟩ (Nat.le_of_ble_eq_true rfl) rfl rfl dX7_added4_41 hF (fun u_7 w_8 hF => ?_)
  refine g_aload_n (pc := 44) h 1 rfl dX7_added4_44 ?_
  refine g_cvI (pc := 45) (st := []) h mX7_term4 cvX7_243 (inw ht) (by decide) ⟨by decide, by decide⟩ (Nat.le_of_ble_eq_true rfl) rfl rfl dX7_added4_45 hF (fun x_9 w_10 hF => ?_)
  refine g_istore_n (pc := 48) (lv' := [(3, .inl x_9), (2, .inl y0), (0, .inr (.inl (some t))), (1, .inl x1)]) h dX7_added4_48 (hj 3 (by decide)) rfl ?_
  refine g_iload_n (pc := 49) h 1 rfl dX7_added4_49 ?_
  refine g_if_eq (pc := 50) (tgt := 59) h dX7_added4_50 (by decide) hF (fun hF => ?_) (fun hF => ?_)
  · refine g_iload_n (pc := 59) h 3 rfl dX7_added4_59 ?_
    refine g_iload_n (pc := 60) h 0 rfl dX7_added4_60 ?_
    refine g_isub (pc := 61) h dX7_added4_61 ?_
    refine g_lv (lv' := [(0, .inr (.inl (some t)))]) [2] rfl ?_
    exact kX7_added4_62 h hr hnL ht hk5 _ _ hF
  · refine g_iload_n (pc := 53) h 3 rfl dX7_added4_53 ?_
    refine g_iload_n (pc := 54) h 0 rfl dX7_added4_54 ?_
    refine g_iadd (pc := 55) h dX7_added4_55 ?_
    refine g_goto (pc := 56) (tgt := 62) h dX7_added4_56 (by decide) ?_
    refine g_lv (lv' := [(0, .inr (.inl (some t)))]) [2] rfl ?_
    exact kX7_added4_62 h hr hnL ht hk5 _ _ hF
def fX7_added4_23 (k5 : Int32 → Wd → Option (Int32 × Wd)) (t : Nat) (x1 : Int32) (w : Wd) : Option (Int32 × Wd) :=
  if (lg_cmp (gL w t 23) (43 : Int64)) = 0 then
    (fX7_added4_39 k5 t x1 (1 : Int32) w)
  else
    (fX7_added4_39 k5 t x1 (0 : Int32) w)
set_option maxHeartbeats 4000000 in
theorem kX7_added4_23 {X : Cx} (h : Ok X cX7_added4 RX7 14 0 0) (hr : RetI X .int 0 0) (hnL : nLX X = 4) {t : Nat} (ht : InN X t 7) {k5 : Int32 → Wd → Option (Int32 × Wd)} (hk5 : ∀ (x1 : Int32) (w : Wd), OkR X Value.int (k5 x1 w) → G X 0 0 5 [(0, .inr (.inl (some t))), (1, .inl x1)] [] w) : ∀ (x1 : Int32) (w : Wd), OkR X Value.int (fX7_added4_23 k5 t x1 w) → G X 0 0 23 [(0, .inr (.inl (some t))), (1, .inl x1)] [] w := by
  have hj : ∀ j, j < 4 → j < nLX X := fun j q => by rw [hnL]; exact q
  intro x1 w hF
  unfold fX7_added4_23 at hF
  refine g_aload_n (pc := 23) h 0 rfl dX7_added4_23 ?_
  refine g_getL (pc := 24) h fdX7_160 (inw ht) rfl dX7_added4_24 ?_
  refine g_ldc2 (pc := 27) h wcL_X7_224 dX7_added4_27 ?_
  refine g_lcmp (pc := 30) h dX7_added4_30 ?_
  refine g_if_ne (pc := 31) (tgt := 38) h dX7_added4_31 (by decide) hF (fun hF => ?_) (fun hF => ?_)
  · refine g_iconst (pc := 38) (v := (0 : Int32)) h dX7_added4_38 (by decide) ?_
    exact kX7_added4_39 h hr hnL ht hk5 _ _ _ hF
  · refine g_iconst (pc := 34) (v := (1 : Int32)) h dX7_added4_34 (by decide) ?_
    refine g_goto (pc := 35) (tgt := 39) h dX7_added4_35 (by decide) ?_
    exact kX7_added4_39 h hr hnL ht hk5 _ _ _ hF
def fX7_added4_5 (t : Nat) : Nat → Int32 → Wd → Option (Int32 × Wd)
  | 0 => fun _ _ => none
  | n + 1 => fun x1 w =>
    bnd (fX7_isSign t (43 : Int32) w) (fun x_3 w_4 => if x_3 = 0 then
      (bnd (fX7_isSign t (45 : Int32) w_4) (fun x_5 w_6 => if x_5 = 0 then
        (some (x1, w_6))
      else
        (fX7_added4_23 (fX7_added4_5 t n) t x1 w_6)))
    else
      (fX7_added4_23 (fX7_added4_5 t n) t x1 w_4))
set_option maxHeartbeats 4000000 in
theorem kX7_added4_5 {X : Cx} (h : Ok X cX7_added4 RX7 14 0 0) (hr : RetI X .int 0 0) (hnL : nLX X = 4) {t : Nat} (ht : InN X t 7) : ∀ (fu : Nat) (x1 : Int32) (w : Wd), OkR X Value.int (fX7_added4_5 t fu x1 w) → G X 0 0 5 [(0, .inr (.inl (some t))), (1, .inl x1)] [] w := by
  have hj : ∀ j, j < 4 → j < nLX X := fun j q => by rw [hnL]; exact q
  intro fu
  induction fu with
  | zero => intro x1 w hF; exact okN hF
  | succ fu ih =>
    intro x1 w hF
    rw [fX7_added4_5] at hF
    refine g_aload_n (pc := 5) h 0 rfl dX7_added4_5 ?_
    refine g_bipush (pc := 6) (v := (43 : Int32)) h dX7_added4_6 (by decide) ?_
    refine g_cvI (pc := 8) (st := []) h mX7_isSign cvX7_207 (inw ht) (by decide) ⟨by decide, by decide⟩ (Nat.le_of_ble_eq_true rfl) rfl rfl dX7_added4_8 hF (fun x_3 w_4 hF => ?_)
    refine g_if_ne (pc := 11) (tgt := 23) h dX7_added4_11 (by decide) hF (fun hF => ?_) (fun hF => ?_)
    · exact kX7_added4_23 h hr hnL ht (fun z0 z1 hF => ih z0 z1 hF) _ _ hF
    · refine g_aload_n (pc := 14) h 0 rfl dX7_added4_14 ?_
      refine g_bipush (pc := 15) (v := (45 : Int32)) h dX7_added4_15 (by decide) ?_
      refine g_cvI (pc := 17) (st := []) h mX7_isSign cvX7_207 (inw ht) (by decide) ⟨by decide, by decide⟩ (Nat.le_of_ble_eq_true rfl) rfl rfl dX7_added4_17 hF (fun x_5 w_6 hF => ?_)
      refine g_if_eq (pc := 20) (tgt := 66) h dX7_added4_20 (by decide) hF (fun hF => ?_) (fun hF => ?_)
      · refine g_iload_n (pc := 66) h 1 rfl dX7_added4_66 ?_
        exact g_iret (pc := 67) h hr ⟨Nat.le_refl _, Nat.le_refl _⟩ hF dX7_added4_67
      · exact kX7_added4_23 h hr hnL ht (fun z0 z1 hF => ih z0 z1 hF) _ _ hF
def fX7_added4 (t : Nat) (w : Wd) : Option (Int32 × Wd) :=
  bnd (fX7_term4 t w) (fun x_1 w_2 => fX7_added4_5 t FU x_1 w_2)
set_option maxHeartbeats 4000000 in
theorem mX7_added4 {Γ : En} {t : Nat} {w : Wd} (ht : t < wn w ∧ kd t = 7) : MtI Γ yX7_added4 cX7_added4 4 (some .int) 14 0 0 [rv Γ (some t)] w (fX7_added4 t w) := by
  refine mtI [.inr (.inl (some t))] rfl (Nat.le_of_ble_eq_true rfl) (fun X hΓ hnL hn0 h _ hr hF => ?_)
  subst hΓ
  have ht : InN X t 7 := ⟨by rw [hn0]; exact ht.1, ht.2⟩
  have h : Ok X cX7_added4 RX7 14 0 0 := h
  have hj : ∀ j, j < 4 → j < nLX X := fun j q => by rw [hnL]; exact q
  show G X 0 0 0 [(0, .inr (.inl (some t)))] [] w
  unfold fX7_added4 at hF
  refine g_aload_n (pc := 0) h 0 rfl dX7_added4_0 ?_
  refine g_cvI (pc := 1) (st := []) h mX7_term4 cvX7_243 (inw ht) (by decide) ⟨by decide, by decide⟩ (Nat.le_of_ble_eq_true rfl) rfl rfl dX7_added4_1 hF (fun x_1 w_2 hF => ?_)
  refine g_istore_n (pc := 4) (lv' := [(1, .inl x_1), (0, .inr (.inl (some t)))]) h dX7_added4_4 (hj 1 (by decide)) rfl ?_
  refine g_lv (lv' := [(0, .inr (.inl (some t))), (1, .inl x_1)]) [1, 0] rfl ?_
  exact kX7_added4_5 h hr hnL ht _ _ _ hF
def fX7_not4_120 (t : Nat) (w : Wd) : Option (Int32 × Wd) :=
  some ((1 : Int32), w)
set_option maxHeartbeats 4000000 in
theorem kX7_not4_120 {X : Cx} (h : Ok X cX7_not4 RX7 15 0 0) (hr : RetI X .int 0 0) (hnL : nLX X = 4) {t : Nat} (ht : InN X t 7) : ∀ (w : Wd), OkR X Value.int (fX7_not4_120 t  w) → G X 0 0 120 [] [] w := by
  have hj : ∀ j, j < 4 → j < nLX X := fun j q => by rw [hnL]; exact q
  intro w hF
  unfold fX7_not4_120 at hF
  refine g_iconst (pc := 120) (v := (1 : Int32)) h dX7_not4_120 (by decide) ?_
  refine g_goto (pc := 121) (tgt := 125) h dX7_not4_121 (by decide) ?_
  exact g_iret (pc := 125) h hr ⟨Nat.le_refl _, Nat.le_refl _⟩ hF dX7_not4_125
def fX7_not4_93 (t : Nat) (x1 : Int32) (y0 : Int32) (w : Wd) : Option (Int32 × Wd) :=
  bnd (fX7_next t w) (fun u_14 w_15 => bnd (fX7_added4 t w_15) (fun x_16 w_17 => if y0 = 0 then
    (if x1 = x_16 then
      (fX7_not4_120 t w_17)
    else
      (some ((0 : Int32), w_17)))
  else
    (if x_16 ≤ x1 then
      (some ((0 : Int32), w_17))
    else
      (fX7_not4_120 t w_17))))
set_option maxHeartbeats 4000000 in
theorem kX7_not4_93 {X : Cx} (h : Ok X cX7_not4 RX7 15 0 0) (hr : RetI X .int 0 0) (hnL : nLX X = 4) {t : Nat} (ht : InN X t 7) : ∀ (x1 : Int32) (y0 : Int32) (w : Wd), OkR X Value.int (fX7_not4_93 t x1 y0 w) → G X 0 0 93 [(0, .inr (.inl (some t))), (1, .inl x1)] [.int y0] w := by
  have hj : ∀ j, j < 4 → j < nLX X := fun j q => by rw [hnL]; exact q
  intro x1 y0 w hF
  unfold fX7_not4_93 at hF
  refine g_istore_n (pc := 93) (lv' := [(2, .inl y0), (0, .inr (.inl (some t))), (1, .inl x1)]) h dX7_not4_93 (hj 2 (by decide)) rfl ?_
  refine g_aload_n (pc := 94) h 1 rfl dX7_not4_94 ?_
  refine g_cvV (pc := 95) (st := []) h mX7_next cvX7_182 (inw ht) (by decide) ⟨by decide, by decide⟩ (Nat.le_of_ble_eq_true rfl) rfl rfl dX7_not4_95 hF (fun u_14 w_15 hF => ?_)
  refine g_aload_n (pc := 98) h 1 rfl dX7_not4_98 ?_
  refine g_cvI (pc := 99) (st := []) h mX7_added4 cvX7_246 (inw ht) (by decide) ⟨by decide, by decide⟩ (Nat.le_of_ble_eq_true rfl) rfl rfl dX7_not4_99 hF (fun x_16 w_17 hF => ?_)
  refine g_istore_n (pc := 102) (lv' := [(3, .inl x_16), (2, .inl y0), (0, .inr (.inl (some t))), (1, .inl x1)]) h dX7_not4_102 (hj 3 (by decide)) rfl ?_
  refine g_iload_n (pc := 103) h 1 rfl dX7_not4_103 ?_
  refine g_if_eq (pc := 104) (tgt := 115) h dX7_not4_104 (by decide) hF (fun hF => ?_) (fun hF => ?_)
  · refine g_iload_n (pc := 115) h 3 rfl dX7_not4_115 ?_
    refine g_iload_n (pc := 116) h 0 rfl dX7_not4_116 ?_
    refine g_icmp_ne (pc := 117) (tgt := 124) h dX7_not4_117 (by decide) hF (fun hF => ?_) (fun hF => ?_)
    · refine g_iconst (pc := 124) (v := (0 : Int32)) h dX7_not4_124 (by decide) ?_
      exact g_iret (pc := 125) h hr ⟨Nat.le_refl _, Nat.le_refl _⟩ hF dX7_not4_125
    · refine g_lv (lv' := []) [] rfl ?_
      exact kX7_not4_120 h hr hnL ht _ hF
  · refine g_iload_n (pc := 107) h 3 rfl dX7_not4_107 ?_
    refine g_iload_n (pc := 108) h 0 rfl dX7_not4_108 ?_
    refine g_icmp_ge (pc := 109) (tgt := 124) h dX7_not4_109 (by decide) hF (fun hF => ?_) (fun hF => ?_)
    · refine g_iconst (pc := 124) (v := (0 : Int32)) h dX7_not4_124 (by decide) ?_
      exact g_iret (pc := 125) h hr ⟨Nat.le_refl _, Nat.le_refl _⟩ hF dX7_not4_125
    · refine g_goto (pc := 112) (tgt := 120) h dX7_not4_112 (by decide) ?_
      refine g_lv (lv' := []) [] rfl ?_
      exact kX7_not4_120 h hr hnL ht _ hF
def fX7_not4_77 (t : Nat) (x1 : Int32) (w : Wd) : Option (Int32 × Wd) :=
  if (lg_cmp (gL w t 23) (60 : Int64)) = 0 then
    (fX7_not4_93 t x1 (1 : Int32) w)
  else
    (fX7_not4_93 t x1 (0 : Int32) w)
set_option maxHeartbeats 4000000 in
theorem kX7_not4_77 {X : Cx} (h : Ok X cX7_not4 RX7 15 0 0) (hr : RetI X .int 0 0) (hnL : nLX X = 4) {t : Nat} (ht : InN X t 7) : ∀ (x1 : Int32) (w : Wd), OkR X Value.int (fX7_not4_77 t x1 w) → G X 0 0 77 [(0, .inr (.inl (some t))), (1, .inl x1)] [] w := by
  have hj : ∀ j, j < 4 → j < nLX X := fun j q => by rw [hnL]; exact q
  intro x1 w hF
  unfold fX7_not4_77 at hF
  refine g_aload_n (pc := 77) h 0 rfl dX7_not4_77 ?_
  refine g_getL (pc := 78) h fdX7_160 (inw ht) rfl dX7_not4_78 ?_
  refine g_ldc2 (pc := 81) h wcL_X7_229 dX7_not4_81 ?_
  refine g_lcmp (pc := 84) h dX7_not4_84 ?_
  refine g_if_ne (pc := 85) (tgt := 92) h dX7_not4_85 (by decide) hF (fun hF => ?_) (fun hF => ?_)
  · refine g_iconst (pc := 92) (v := (0 : Int32)) h dX7_not4_92 (by decide) ?_
    exact kX7_not4_93 h hr hnL ht _ _ _ hF
  · refine g_iconst (pc := 88) (v := (1 : Int32)) h dX7_not4_88 (by decide) ?_
    refine g_goto (pc := 89) (tgt := 93) h dX7_not4_89 (by decide) ?_
    exact kX7_not4_93 h hr hnL ht _ _ _ hF
def fX7_not4 (t : Nat) (w : Wd) : Option (Int32 × Wd) :=
  bnd (fX7_isWord t (110 : Int32) (111 : Int32) (116 : Int32) (0 : Int32) (0 : Int32) (0 : Int32) (0 : Int32) (0 : Int32) w) (fun x_1 w_2 => if x_1 = 0 then
    (bnd (fX7_added4 t w_2) (fun x_3 w_4 => bnd (fX7_isSign t (60 : Int32) w_4) (fun x_5 w_6 => if x_5 = 0 then
      (bnd (fX7_isSign t (61 : Int32) w_6) (fun x_7 w_8 => if x_7 = 0 then
        (some (x_3, w_8))
      else
        (fX7_not4_77 t x_3 w_8)))
    else
      (fX7_not4_77 t x_3 w_6))))
  else
    (bnd (fX7_opens t w_2) (fun x_9 w_10 => if x_9 = 0 then
      (some ((0 : Int32), w_10))
    else
      (bnd (fX7_not5 t w_10) (fun x_11 w_12 => lw (sI w_12 t 24 ((gI w_12 t 24) - (1 : Int32))) (fun w_13 => if x_11 = 0 then
        (some ((1 : Int32), w_13))
      else
        (some ((0 : Int32), w_13))))))))
set_option maxHeartbeats 4000000 in
theorem mX7_not4 {Γ : En} {t : Nat} {w : Wd} (ht : t < wn w ∧ kd t = 7) : MtI Γ yX7_not4 cX7_not4 4 (some .int) 15 0 0 [rv Γ (some t)] w (fX7_not4 t w) := by
  refine mtI [.inr (.inl (some t))] rfl (Nat.le_of_ble_eq_true rfl) (fun X hΓ hnL hn0 h _ hr hF => ?_)
  subst hΓ
  have ht : InN X t 7 := ⟨by rw [hn0]; exact ht.1, ht.2⟩
  have h : Ok X cX7_not4 RX7 15 0 0 := h
  have hj : ∀ j, j < 4 → j < nLX X := fun j q => by rw [hnL]; exact q
  show G X 0 0 0 [(0, .inr (.inl (some t)))] [] w
  unfold fX7_not4 at hF
  refine g_aload_n (pc := 0) h 0 rfl dX7_not4_0 ?_
  refine g_bipush (pc := 1) (v := (110 : Int32)) h dX7_not4_1 (by decide) ?_
  refine g_bipush (pc := 3) (v := (111 : Int32)) h dX7_not4_3 (by decide) ?_
  refine g_bipush (pc := 5) (v := (116 : Int32)) h dX7_not4_5 (by decide) ?_
  refine g_iconst (pc := 7) (v := (0 : Int32)) h dX7_not4_7 (by decide) ?_
  refine g_iconst (pc := 8) (v := (0 : Int32)) h dX7_not4_8 (by decide) ?_
  refine g_iconst (pc := 9) (v := (0 : Int32)) h dX7_not4_9 (by decide) ?_
  refine g_iconst (pc := 10) (v := (0 : Int32)) h dX7_not4_10 (by decide) ?_
  refine g_iconst (pc := 11) (v := (0 : Int32)) h dX7_not4_11 (by decide) ?_
  refine g_cvI (pc := 12) (st := []) h mX7_isWord cvX7_185 (inw ht) (by decide) ⟨by decide, by decide⟩ (Nat.le_of_ble_eq_true rfl) rfl rfl dX7_not4_12 hF (fun x_1 w_2 hF => ?_)
  refine g_if_eq (pc := 15) (tgt := 52) h dX7_not4_15 (by decide) hF (fun hF => ?_) (fun hF => ?_)
  · refine g_aload_n (pc := 52) h 0 rfl dX7_not4_52 ?_
    refine g_cvI (pc := 53) (st := []) h mX7_added4 cvX7_246 (inw ht) (by decide) ⟨by decide, by decide⟩ (Nat.le_of_ble_eq_true rfl) rfl rfl dX7_not4_53 hF (fun x_3 w_4 hF => ?_)
    refine g_istore_n (pc := 56) (lv' := [(1, .inl x_3), (0, .inr (.inl (some t)))]) h dX7_not4_56 (hj 1 (by decide)) rfl ?_
    refine g_aload_n (pc := 57) h 1 rfl dX7_not4_57 ?_
    refine g_bipush (pc := 58) (v := (60 : Int32)) h dX7_not4_58 (by decide) ?_
    refine g_cvI (pc := 60) (st := []) h mX7_isSign cvX7_207 (inw ht) (by decide) ⟨by decide, by decide⟩ (Nat.le_of_ble_eq_true rfl) rfl rfl dX7_not4_60 hF (fun x_5 w_6 hF => ?_)
    refine g_if_ne (pc := 63) (tgt := 77) h dX7_not4_63 (by decide) hF (fun hF => ?_) (fun hF => ?_)
    · refine g_lv (lv' := [(0, .inr (.inl (some t))), (1, .inl x_3)]) [1, 0] rfl ?_
      exact kX7_not4_77 h hr hnL ht _ _ hF
    · refine g_aload_n (pc := 66) h 1 rfl dX7_not4_66 ?_
      refine g_bipush (pc := 67) (v := (61 : Int32)) h dX7_not4_67 (by decide) ?_
      refine g_cvI (pc := 69) (st := []) h mX7_isSign cvX7_207 (inw ht) (by decide) ⟨by decide, by decide⟩ (Nat.le_of_ble_eq_true rfl) rfl rfl dX7_not4_69 hF (fun x_7 w_8 hF => ?_)
      refine g_if_ne (pc := 72) (tgt := 77) h dX7_not4_72 (by decide) hF (fun hF => ?_) (fun hF => ?_)
      · refine g_lv (lv' := [(0, .inr (.inl (some t))), (1, .inl x_3)]) [1, 0] rfl ?_
        exact kX7_not4_77 h hr hnL ht _ _ hF
      · refine g_iload_n (pc := 75) h 0 rfl dX7_not4_75 ?_
        exact g_iret (pc := 76) h hr ⟨Nat.le_refl _, Nat.le_refl _⟩ hF dX7_not4_76
  · refine g_aload_n (pc := 18) h 0 rfl dX7_not4_18 ?_
    refine g_cvI (pc := 19) (st := []) h mX7_opens cvX7_210 (inw ht) (by decide) ⟨by decide, by decide⟩ (Nat.le_of_ble_eq_true rfl) rfl rfl dX7_not4_19 hF (fun x_9 w_10 hF => ?_)
    refine g_if_ne (pc := 22) (tgt := 27) h dX7_not4_22 (by decide) hF (fun hF => ?_) (fun hF => ?_)
    · refine g_aload_n (pc := 27) h 0 rfl dX7_not4_27 ?_
      refine g_cvI (pc := 28) (st := []) h mX7_not5 cvX7_231 (inw ht) (by decide) ⟨by decide, by decide⟩ (Nat.le_of_ble_eq_true rfl) rfl rfl dX7_not4_28 hF (fun x_11 w_12 hF => ?_)
      refine g_istore_n (pc := 31) (lv' := [(1, .inl x_11), (0, .inr (.inl (some t)))]) h dX7_not4_31 (hj 1 (by decide)) rfl ?_
      refine g_aload_n (pc := 32) h 1 rfl dX7_not4_32 ?_
      refine g_dup (pc := 33) h dX7_not4_33 rv_cat ?_
      refine g_getI (pc := 34) h fdX7_176 (inw ht) (by decide) dX7_not4_34 ?_
      refine g_iconst (pc := 37) (v := (1 : Int32)) h dX7_not4_37 (by decide) ?_
      refine g_isub (pc := 38) h dX7_not4_38 ?_
      refine g_putI (pc := 39) h fdX7_176 (inw ht) (by decide) ⟨rfl, rfl⟩ dX7_not4_39 ?_
      refine g_w hF (fun w_13 hF => ?_)
      refine g_iload_n (pc := 42) h 0 rfl dX7_not4_42 ?_
      refine g_if_ne (pc := 43) (tgt := 50) h dX7_not4_43 (by decide) hF (fun hF => ?_) (fun hF => ?_)
      · refine g_iconst (pc := 50) (v := (0 : Int32)) h dX7_not4_50 (by decide) ?_
        exact g_iret (pc := 51) h hr ⟨Nat.le_refl _, Nat.le_refl _⟩ hF dX7_not4_51
      · refine g_iconst (pc := 46) (v := (1 : Int32)) h dX7_not4_46 (by decide) ?_
        refine g_goto (pc := 47) (tgt := 51) h dX7_not4_47 (by decide) ?_
        exact g_iret (pc := 51) h hr ⟨Nat.le_refl _, Nat.le_refl _⟩ hF dX7_not4_51
    · refine g_iconst (pc := 25) (v := (0 : Int32)) h dX7_not4_25 (by decide) ?_
      exact g_iret (pc := 26) h hr ⟨Nat.le_refl _, Nat.le_refl _⟩ hF dX7_not4_26
def fX7_both4_45 (k5 : Int32 → Wd → Option (Int32 × Wd)) (t : Nat) (y0 : Int32) (w : Wd) : Option (Int32 × Wd) :=
  k5 y0 w
set_option maxHeartbeats 4000000 in
theorem kX7_both4_45 {X : Cx} (h : Ok X cX7_both4 RX7 16 0 0) (hr : RetI X .int 0 0) (hnL : nLX X = 3) {t : Nat} (ht : InN X t 7) {k5 : Int32 → Wd → Option (Int32 × Wd)} (hk5 : ∀ (x1 : Int32) (w : Wd), OkR X Value.int (k5 x1 w) → G X 0 0 5 [(0, .inr (.inl (some t))), (1, .inl x1)] [] w) : ∀ (y0 : Int32) (w : Wd), OkR X Value.int (fX7_both4_45 k5 t y0 w) → G X 0 0 45 [(0, .inr (.inl (some t)))] [.int y0] w := by
  have hj : ∀ j, j < 3 → j < nLX X := fun j q => by rw [hnL]; exact q
  intro y0 w hF
  unfold fX7_both4_45 at hF
  refine g_istore_n (pc := 45) (lv' := [(1, .inl y0), (0, .inr (.inl (some t)))]) h dX7_both4_45 (hj 1 (by decide)) rfl ?_
  refine g_goto (pc := 46) (tgt := 5) h dX7_both4_46 (by decide) ?_
  refine g_lv (lv' := [(0, .inr (.inl (some t))), (1, .inl y0)]) [1, 0] rfl ?_
  exact hk5 _ _ hF
def fX7_both4_44 (k5 : Int32 → Wd → Option (Int32 × Wd)) (t : Nat) (w : Wd) : Option (Int32 × Wd) :=
  fX7_both4_45 k5 t (0 : Int32) w
set_option maxHeartbeats 4000000 in
theorem kX7_both4_44 {X : Cx} (h : Ok X cX7_both4 RX7 16 0 0) (hr : RetI X .int 0 0) (hnL : nLX X = 3) {t : Nat} (ht : InN X t 7) {k5 : Int32 → Wd → Option (Int32 × Wd)} (hk5 : ∀ (x1 : Int32) (w : Wd), OkR X Value.int (k5 x1 w) → G X 0 0 5 [(0, .inr (.inl (some t))), (1, .inl x1)] [] w) : ∀ (w : Wd), OkR X Value.int (fX7_both4_44 k5 t  w) → G X 0 0 44 [(0, .inr (.inl (some t)))] [] w := by
  have hj : ∀ j, j < 3 → j < nLX X := fun j q => by rw [hnL]; exact q
  intro w hF
  unfold fX7_both4_44 at hF
  refine g_iconst (pc := 44) (v := (0 : Int32)) h dX7_both4_44 (by decide) ?_
  exact kX7_both4_45 h hr hnL ht hk5 _ _ hF
def fX7_both4_5 (t : Nat) : Nat → Int32 → Wd → Option (Int32 × Wd)
  | 0 => fun _ _ => none
  | n + 1 => fun x1 w =>
    bnd (fX7_isWord t (97 : Int32) (110 : Int32) (100 : Int32) (0 : Int32) (0 : Int32) (0 : Int32) (0 : Int32) (0 : Int32) w) (fun x_3 w_4 => if x_3 = 0 then
      (some (x1, w_4))
    else
      (bnd (fX7_next t w_4) (fun u_5 w_6 => bnd (fX7_not4 t w_6) (fun x_7 w_8 => if x1 = 0 then
        (fX7_both4_44 (fX7_both4_5 t n) t w_8)
      else
        (if x_7 = 0 then
          (fX7_both4_44 (fX7_both4_5 t n) t w_8)
        else
          (fX7_both4_45 (fX7_both4_5 t n) t (1 : Int32) w_8))))))
set_option maxHeartbeats 4000000 in
theorem kX7_both4_5 {X : Cx} (h : Ok X cX7_both4 RX7 16 0 0) (hr : RetI X .int 0 0) (hnL : nLX X = 3) {t : Nat} (ht : InN X t 7) : ∀ (fu : Nat) (x1 : Int32) (w : Wd), OkR X Value.int (fX7_both4_5 t fu x1 w) → G X 0 0 5 [(0, .inr (.inl (some t))), (1, .inl x1)] [] w := by
  have hj : ∀ j, j < 3 → j < nLX X := fun j q => by rw [hnL]; exact q
  intro fu
  induction fu with
  | zero => intro x1 w hF; exact okN hF
  | succ fu ih =>
    intro x1 w hF
    rw [fX7_both4_5] at hF
    refine g_aload_n (pc := 5) h 0 rfl dX7_both4_5 ?_
    refine g_bipush (pc := 6) (v := (97 : Int32)) h dX7_both4_6 (by decide) ?_
    refine g_bipush (pc := 8) (v := (110 : Int32)) h dX7_both4_8 (by decide) ?_
    refine g_bipush (pc := 10) (v := (100 : Int32)) h dX7_both4_10 (by decide) ?_
    refine g_iconst (pc := 12) (v := (0 : Int32)) h dX7_both4_12 (by decide) ?_
    refine g_iconst (pc := 13) (v := (0 : Int32)) h dX7_both4_13 (by decide) ?_
    refine g_iconst (pc := 14) (v := (0 : Int32)) h dX7_both4_14 (by decide) ?_
    refine g_iconst (pc := 15) (v := (0 : Int32)) h dX7_both4_15 (by decide) ?_
    refine g_iconst (pc := 16) (v := (0 : Int32)) h dX7_both4_16 (by decide) ?_
    refine g_cvI (pc := 17) (st := []) h mX7_isWord cvX7_185 (inw ht) (by decide) ⟨by decide, by decide⟩ (Nat.le_of_ble_eq_true rfl) rfl rfl dX7_both4_17 hF (fun x_3 w_4 hF => ?_)
    refine g_if_eq (pc := 20) (tgt := 49) h dX7_both4_20 (by decide) hF (fun hF => ?_) (fun hF => ?_)
    · refine g_iload_n (pc := 49) h 1 rfl dX7_both4_49 ?_
      exact g_iret (pc := 50) h hr ⟨Nat.le_refl _, Nat.le_refl _⟩ hF dX7_both4_50
    · refine g_aload_n (pc := 23) h 0 rfl dX7_both4_23 ?_
      refine g_cvV (pc := 24) (st := []) h mX7_next cvX7_182 (inw ht) (by decide) ⟨by decide, by decide⟩ (Nat.le_of_ble_eq_true rfl) rfl rfl dX7_both4_24 hF (fun u_5 w_6 hF => ?_)
      refine g_aload_n (pc := 27) h 0 rfl dX7_both4_27 ?_
      refine g_cvI (pc := 28) (st := []) h mX7_not4 cvX7_249 (inw ht) (by decide) ⟨by decide, by decide⟩ (Nat.le_of_ble_eq_true rfl) rfl rfl dX7_both4_28 hF (fun x_7 w_8 hF => ?_)
      refine g_istore_n (pc := 31) (lv' := [(2, .inl x_7), (0, .inr (.inl (some t))), (1, .inl x1)]) h dX7_both4_31 (hj 2 (by decide)) rfl ?_
      refine g_iload_n (pc := 32) h 2 rfl dX7_both4_32 ?_
      refine g_if_eq (pc := 33) (tgt := 44) h dX7_both4_33 (by decide) hF (fun hF => ?_) (fun hF => ?_)
      · refine g_lv (lv' := [(0, .inr (.inl (some t)))]) [1] rfl ?_
        exact kX7_both4_44 h hr hnL ht (fun z0 z1 hF => ih z0 z1 hF) _ hF
      · refine g_iload_n (pc := 36) h 0 rfl dX7_both4_36 ?_
        refine g_if_eq (pc := 37) (tgt := 44) h dX7_both4_37 (by decide) hF (fun hF => ?_) (fun hF => ?_)
        · refine g_lv (lv' := [(0, .inr (.inl (some t)))]) [1] rfl ?_
          exact kX7_both4_44 h hr hnL ht (fun z0 z1 hF => ih z0 z1 hF) _ hF
        · refine g_iconst (pc := 40) (v := (1 : Int32)) h dX7_both4_40 (by decide) ?_
          refine g_goto (pc := 41) (tgt := 45) h dX7_both4_41 (by decide) ?_
          refine g_lv (lv' := [(0, .inr (.inl (some t)))]) [1] rfl ?_
          exact kX7_both4_45 h hr hnL ht (fun z0 z1 hF => ih z0 z1 hF) _ _ hF
def fX7_both4 (t : Nat) (w : Wd) : Option (Int32 × Wd) :=
  bnd (fX7_not4 t w) (fun x_1 w_2 => fX7_both4_5 t FU x_1 w_2)
set_option maxHeartbeats 4000000 in
theorem mX7_both4 {Γ : En} {t : Nat} {w : Wd} (ht : t < wn w ∧ kd t = 7) : MtI Γ yX7_both4 cX7_both4 3 (some .int) 16 0 0 [rv Γ (some t)] w (fX7_both4 t w) := by
  refine mtI [.inr (.inl (some t))] rfl (Nat.le_of_ble_eq_true rfl) (fun X hΓ hnL hn0 h _ hr hF => ?_)
  subst hΓ
  have ht : InN X t 7 := ⟨by rw [hn0]; exact ht.1, ht.2⟩
  have h : Ok X cX7_both4 RX7 16 0 0 := h
  have hj : ∀ j, j < 3 → j < nLX X := fun j q => by rw [hnL]; exact q
  show G X 0 0 0 [(0, .inr (.inl (some t)))] [] w
  unfold fX7_both4 at hF
  refine g_aload_n (pc := 0) h 0 rfl dX7_both4_0 ?_
  refine g_cvI (pc := 1) (st := []) h mX7_not4 cvX7_249 (inw ht) (by decide) ⟨by decide, by decide⟩ (Nat.le_of_ble_eq_true rfl) rfl rfl dX7_both4_1 hF (fun x_1 w_2 hF => ?_)
  refine g_istore_n (pc := 4) (lv' := [(1, .inl x_1), (0, .inr (.inl (some t)))]) h dX7_both4_4 (hj 1 (by decide)) rfl ?_
  refine g_lv (lv' := [(0, .inr (.inl (some t))), (1, .inl x_1)]) [1, 0] rfl ?_
  exact kX7_both4_5 h hr hnL ht _ _ _ hF
def fX7_either4_44 (k5 : Int32 → Wd → Option (Int32 × Wd)) (t : Nat) (y0 : Int32) (w : Wd) : Option (Int32 × Wd) :=
  k5 y0 w
set_option maxHeartbeats 4000000 in
theorem kX7_either4_44 {X : Cx} (h : Ok X cX7_either4 RX7 17 0 0) (hr : RetI X .int 0 0) (hnL : nLX X = 3) {t : Nat} (ht : InN X t 7) {k5 : Int32 → Wd → Option (Int32 × Wd)} (hk5 : ∀ (x1 : Int32) (w : Wd), OkR X Value.int (k5 x1 w) → G X 0 0 5 [(0, .inr (.inl (some t))), (1, .inl x1)] [] w) : ∀ (y0 : Int32) (w : Wd), OkR X Value.int (fX7_either4_44 k5 t y0 w) → G X 0 0 44 [(0, .inr (.inl (some t)))] [.int y0] w := by
  have hj : ∀ j, j < 3 → j < nLX X := fun j q => by rw [hnL]; exact q
  intro y0 w hF
  unfold fX7_either4_44 at hF
  refine g_istore_n (pc := 44) (lv' := [(1, .inl y0), (0, .inr (.inl (some t)))]) h dX7_either4_44 (hj 1 (by decide)) rfl ?_
  refine g_goto (pc := 45) (tgt := 5) h dX7_either4_45 (by decide) ?_
  refine g_lv (lv' := [(0, .inr (.inl (some t))), (1, .inl y0)]) [1, 0] rfl ?_
  exact hk5 _ _ hF
def fX7_either4_39 (k5 : Int32 → Wd → Option (Int32 × Wd)) (t : Nat) (w : Wd) : Option (Int32 × Wd) :=
  fX7_either4_44 k5 t (1 : Int32) w
set_option maxHeartbeats 4000000 in
theorem kX7_either4_39 {X : Cx} (h : Ok X cX7_either4 RX7 17 0 0) (hr : RetI X .int 0 0) (hnL : nLX X = 3) {t : Nat} (ht : InN X t 7) {k5 : Int32 → Wd → Option (Int32 × Wd)} (hk5 : ∀ (x1 : Int32) (w : Wd), OkR X Value.int (k5 x1 w) → G X 0 0 5 [(0, .inr (.inl (some t))), (1, .inl x1)] [] w) : ∀ (w : Wd), OkR X Value.int (fX7_either4_39 k5 t  w) → G X 0 0 39 [(0, .inr (.inl (some t)))] [] w := by
  have hj : ∀ j, j < 3 → j < nLX X := fun j q => by rw [hnL]; exact q
  intro w hF
  unfold fX7_either4_39 at hF
  refine g_iconst (pc := 39) (v := (1 : Int32)) h dX7_either4_39 (by decide) ?_
  refine g_goto (pc := 40) (tgt := 44) h dX7_either4_40 (by decide) ?_
  exact kX7_either4_44 h hr hnL ht hk5 _ _ hF
def fX7_either4_5 (t : Nat) : Nat → Int32 → Wd → Option (Int32 × Wd)
  | 0 => fun _ _ => none
  | n + 1 => fun x1 w =>
    bnd (fX7_isWord t (111 : Int32) (114 : Int32) (0 : Int32) (0 : Int32) (0 : Int32) (0 : Int32) (0 : Int32) (0 : Int32) w) (fun x_3 w_4 => if x_3 = 0 then
      (some (x1, w_4))
    else
      (bnd (fX7_next t w_4) (fun u_5 w_6 => bnd (fX7_both4 t w_6) (fun x_7 w_8 => if x1 = 0 then
        (if x_7 = 0 then
          (fX7_either4_44 (fX7_either4_5 t n) t (0 : Int32) w_8)
        else
          (fX7_either4_39 (fX7_either4_5 t n) t w_8))
      else
        (fX7_either4_39 (fX7_either4_5 t n) t w_8)))))
set_option maxHeartbeats 4000000 in
theorem kX7_either4_5 {X : Cx} (h : Ok X cX7_either4 RX7 17 0 0) (hr : RetI X .int 0 0) (hnL : nLX X = 3) {t : Nat} (ht : InN X t 7) : ∀ (fu : Nat) (x1 : Int32) (w : Wd), OkR X Value.int (fX7_either4_5 t fu x1 w) → G X 0 0 5 [(0, .inr (.inl (some t))), (1, .inl x1)] [] w := by
  have hj : ∀ j, j < 3 → j < nLX X := fun j q => by rw [hnL]; exact q
  intro fu
  induction fu with
  | zero => intro x1 w hF; exact okN hF
  | succ fu ih =>
    intro x1 w hF
    rw [fX7_either4_5] at hF
    refine g_aload_n (pc := 5) h 0 rfl dX7_either4_5 ?_
    refine g_bipush (pc := 6) (v := (111 : Int32)) h dX7_either4_6 (by decide) ?_
    refine g_bipush (pc := 8) (v := (114 : Int32)) h dX7_either4_8 (by decide) ?_
    refine g_iconst (pc := 10) (v := (0 : Int32)) h dX7_either4_10 (by decide) ?_
    refine g_iconst (pc := 11) (v := (0 : Int32)) h dX7_either4_11 (by decide) ?_
    refine g_iconst (pc := 12) (v := (0 : Int32)) h dX7_either4_12 (by decide) ?_
    refine g_iconst (pc := 13) (v := (0 : Int32)) h dX7_either4_13 (by decide) ?_
    refine g_iconst (pc := 14) (v := (0 : Int32)) h dX7_either4_14 (by decide) ?_
    refine g_iconst (pc := 15) (v := (0 : Int32)) h dX7_either4_15 (by decide) ?_
    refine g_cvI (pc := 16) (st := []) h mX7_isWord cvX7_185 (inw ht) (by decide) ⟨by decide, by decide⟩ (Nat.le_of_ble_eq_true rfl) rfl rfl dX7_either4_16 hF (fun x_3 w_4 hF => ?_)
    refine g_if_eq (pc := 19) (tgt := 48) h dX7_either4_19 (by decide) hF (fun hF => ?_) (fun hF => ?_)
    · refine g_iload_n (pc := 48) h 1 rfl dX7_either4_48 ?_
      exact g_iret (pc := 49) h hr ⟨Nat.le_refl _, Nat.le_refl _⟩ hF dX7_either4_49
    · refine g_aload_n (pc := 22) h 0 rfl dX7_either4_22 ?_
      refine g_cvV (pc := 23) (st := []) h mX7_next cvX7_182 (inw ht) (by decide) ⟨by decide, by decide⟩ (Nat.le_of_ble_eq_true rfl) rfl rfl dX7_either4_23 hF (fun u_5 w_6 hF => ?_)
      refine g_aload_n (pc := 26) h 0 rfl dX7_either4_26 ?_
      refine g_cvI (pc := 27) (st := []) h mX7_both4 cvX7_252 (inw ht) (by decide) ⟨by decide, by decide⟩ (Nat.le_of_ble_eq_true rfl) rfl rfl dX7_either4_27 hF (fun x_7 w_8 hF => ?_)
      refine g_istore_n (pc := 30) (lv' := [(2, .inl x_7), (0, .inr (.inl (some t))), (1, .inl x1)]) h dX7_either4_30 (hj 2 (by decide)) rfl ?_
      refine g_iload_n (pc := 31) h 2 rfl dX7_either4_31 ?_
      refine g_if_ne (pc := 32) (tgt := 39) h dX7_either4_32 (by decide) hF (fun hF => ?_) (fun hF => ?_)
      · refine g_lv (lv' := [(0, .inr (.inl (some t)))]) [1] rfl ?_
        exact kX7_either4_39 h hr hnL ht (fun z0 z1 hF => ih z0 z1 hF) _ hF
      · refine g_iload_n (pc := 35) h 0 rfl dX7_either4_35 ?_
        refine g_if_eq (pc := 36) (tgt := 43) h dX7_either4_36 (by decide) hF (fun hF => ?_) (fun hF => ?_)
        · refine g_iconst (pc := 43) (v := (0 : Int32)) h dX7_either4_43 (by decide) ?_
          refine g_lv (lv' := [(0, .inr (.inl (some t)))]) [1] rfl ?_
          exact kX7_either4_44 h hr hnL ht (fun z0 z1 hF => ih z0 z1 hF) _ _ hF
        · refine g_lv (lv' := [(0, .inr (.inl (some t)))]) [1] rfl ?_
          exact kX7_either4_39 h hr hnL ht (fun z0 z1 hF => ih z0 z1 hF) _ hF
def fX7_either4 (t : Nat) (w : Wd) : Option (Int32 × Wd) :=
  bnd (fX7_both4 t w) (fun x_1 w_2 => fX7_either4_5 t FU x_1 w_2)
set_option maxHeartbeats 4000000 in
theorem mX7_either4 {Γ : En} {t : Nat} {w : Wd} (ht : t < wn w ∧ kd t = 7) : MtI Γ yX7_either4 cX7_either4 3 (some .int) 17 0 0 [rv Γ (some t)] w (fX7_either4 t w) := by
  refine mtI [.inr (.inl (some t))] rfl (Nat.le_of_ble_eq_true rfl) (fun X hΓ hnL hn0 h _ hr hF => ?_)
  subst hΓ
  have ht : InN X t 7 := ⟨by rw [hn0]; exact ht.1, ht.2⟩
  have h : Ok X cX7_either4 RX7 17 0 0 := h
  have hj : ∀ j, j < 3 → j < nLX X := fun j q => by rw [hnL]; exact q
  show G X 0 0 0 [(0, .inr (.inl (some t)))] [] w
  unfold fX7_either4 at hF
  refine g_aload_n (pc := 0) h 0 rfl dX7_either4_0 ?_
  refine g_cvI (pc := 1) (st := []) h mX7_both4 cvX7_252 (inw ht) (by decide) ⟨by decide, by decide⟩ (Nat.le_of_ble_eq_true rfl) rfl rfl dX7_either4_1 hF (fun x_1 w_2 hF => ?_)
  refine g_istore_n (pc := 4) (lv' := [(1, .inl x_1), (0, .inr (.inl (some t)))]) h dX7_either4_4 (hj 1 (by decide)) rfl ?_
  refine g_lv (lv' := [(0, .inr (.inl (some t))), (1, .inl x_1)]) [1, 0] rfl ?_
  exact kX7_either4_5 h hr hnL ht _ _ _ hF
def fX7_atom3_161 (t : Nat) (x1 : Int32) (w : Wd) : Option (Int32 × Wd) :=
  some (x1, w)
set_option maxHeartbeats 4000000 in
theorem kX7_atom3_161 {X : Cx} (h : Ok X cX7_atom3 RX7 18 0 0) (hr : RetI X .int 0 0) (hnL : nLX X = 2) {t : Nat} (ht : InN X t 7) : ∀ (x1 : Int32) (w : Wd), OkR X Value.int (fX7_atom3_161 t x1 w) → G X 0 0 161 [(1, .inl x1)] [] w := by
  have hj : ∀ j, j < 2 → j < nLX X := fun j q => by rw [hnL]; exact q
  intro x1 w hF
  unfold fX7_atom3_161 at hF
  refine g_iload_n (pc := 161) h 0 rfl dX7_atom3_161 ?_
  exact g_iret (pc := 162) h hr ⟨Nat.le_refl _, Nat.le_refl _⟩ hF dX7_atom3_162
def fX7_atom3_71 (t : Nat) (x1 : Int32) (w : Wd) : Option (Int32 × Wd) :=
  lw (sI w t 24 ((gI w t 24) - (1 : Int32))) (fun w_26 => if (gI w_26 t 25) = 0 then
    (bnd (fX7_next t w_26) (fun u_27 w_28 => fX7_atom3_161 t x1 w_28))
  else
    (fX7_atom3_161 t x1 w_26))
set_option maxHeartbeats 4000000 in
theorem kX7_atom3_71 {X : Cx} (h : Ok X cX7_atom3 RX7 18 0 0) (hr : RetI X .int 0 0) (hnL : nLX X = 2) {t : Nat} (ht : InN X t 7) : ∀ (x1 : Int32) (w : Wd), OkR X Value.int (fX7_atom3_71 t x1 w) → G X 0 0 71 [(0, .inr (.inl (some t))), (1, .inl x1)] [] w := by
  have hj : ∀ j, j < 2 → j < nLX X := fun j q => by rw [hnL]; exact q
  intro x1 w hF
  unfold fX7_atom3_71 at hF
  refine g_aload_n (pc := 71) h 0 rfl dX7_atom3_71 ?_
  refine g_dup (pc := 72) h dX7_atom3_72 rv_cat ?_
  refine g_getI (pc := 73) h fdX7_176 (inw ht) (by decide) dX7_atom3_73 ?_
  refine g_iconst (pc := 76) (v := (1 : Int32)) h dX7_atom3_76 (by decide) ?_
  refine g_isub (pc := 77) h dX7_atom3_77 ?_
  refine g_putI (pc := 78) h fdX7_176 (inw ht) (by decide) ⟨rfl, rfl⟩ dX7_atom3_78 ?_
  refine g_w hF (fun w_26 hF => ?_)
  refine g_aload_n (pc := 81) h 0 rfl dX7_atom3_81 ?_
  refine g_getI (pc := 82) h fdX7_166 (inw ht) (by decide) dX7_atom3_82 ?_
  refine g_if_ne (pc := 85) (tgt := 161) h dX7_atom3_85 (by decide) hF (fun hF => ?_) (fun hF => ?_)
  · refine g_lv (lv' := [(1, .inl x1)]) [1] rfl ?_
    exact kX7_atom3_161 h hr hnL ht _ _ hF
  · refine g_aload_n (pc := 88) h 0 rfl dX7_atom3_88 ?_
    refine g_cvV (pc := 89) (st := []) h mX7_next cvX7_182 (inw ht) (by decide) ⟨by decide, by decide⟩ (Nat.le_of_ble_eq_true rfl) rfl rfl dX7_atom3_89 hF (fun u_27 w_28 hF => ?_)
    refine g_goto (pc := 92) (tgt := 161) h dX7_atom3_92 (by decide) ?_
    refine g_lv (lv' := [(1, .inl x1)]) [1] rfl ?_
    exact kX7_atom3_161 h hr hnL ht _ _ hF
def fX7_atom3_157 (t : Nat) (x1 : Int32) (w : Wd) : Option (Int32 × Wd) :=
  bnd (fX7_fail t w) (fun u_29 w_30 => fX7_atom3_161 t x1 w_30)
set_option maxHeartbeats 4000000 in
theorem kX7_atom3_157 {X : Cx} (h : Ok X cX7_atom3 RX7 18 0 0) (hr : RetI X .int 0 0) (hnL : nLX X = 2) {t : Nat} (ht : InN X t 7) : ∀ (x1 : Int32) (w : Wd), OkR X Value.int (fX7_atom3_157 t x1 w) → G X 0 0 157 [(0, .inr (.inl (some t))), (1, .inl x1)] [] w := by
  have hj : ∀ j, j < 2 → j < nLX X := fun j q => by rw [hnL]; exact q
  intro x1 w hF
  unfold fX7_atom3_157 at hF
  refine g_aload_n (pc := 157) h 0 rfl dX7_atom3_157 ?_
  refine g_cvV (pc := 158) (st := []) h mX7_fail cvX7_179 (inw ht) (by decide) ⟨by decide, by decide⟩ (Nat.le_of_ble_eq_true rfl) rfl rfl dX7_atom3_158 hF (fun u_29 w_30 hF => ?_)
  refine g_lv (lv' := [(1, .inl x1)]) [1] rfl ?_
  exact kX7_atom3_161 h hr hnL ht _ _ hF
def fX7_atom3_123 (t : Nat) (x1 : Int32) (w : Wd) : Option (Int32 × Wd) :=
  if (gI w t 25) = 0 then
    (if (gI w t 21) = (1 : Int32) then
      (bnd (fX7_name t w) (fun x_22 w_23 => if (gI w_23 t 25) = 0 then
        (bnd (fX7_next t w_23) (fun u_24 w_25 => fX7_atom3_161 t x_22 w_25))
      else
        (fX7_atom3_161 t x_22 w_23)))
    else
      (fX7_atom3_157 t x1 w))
  else
    (fX7_atom3_157 t x1 w)
set_option maxHeartbeats 4000000 in
theorem kX7_atom3_123 {X : Cx} (h : Ok X cX7_atom3 RX7 18 0 0) (hr : RetI X .int 0 0) (hnL : nLX X = 2) {t : Nat} (ht : InN X t 7) : ∀ (x1 : Int32) (w : Wd), OkR X Value.int (fX7_atom3_123 t x1 w) → G X 0 0 123 [(0, .inr (.inl (some t))), (1, .inl x1)] [] w := by
  have hj : ∀ j, j < 2 → j < nLX X := fun j q => by rw [hnL]; exact q
  intro x1 w hF
  unfold fX7_atom3_123 at hF
  refine g_aload_n (pc := 123) h 0 rfl dX7_atom3_123 ?_
  refine g_getI (pc := 124) h fdX7_166 (inw ht) (by decide) dX7_atom3_124 ?_
  refine g_if_ne (pc := 127) (tgt := 157) h dX7_atom3_127 (by decide) hF (fun hF => ?_) (fun hF => ?_)
  · exact kX7_atom3_157 h hr hnL ht _ _ hF
  · refine g_aload_n (pc := 130) h 0 rfl dX7_atom3_130 ?_
    refine g_getI (pc := 131) h fdX7_149 (inw ht) (by decide) dX7_atom3_131 ?_
    refine g_iconst (pc := 134) (v := (1 : Int32)) h dX7_atom3_134 (by decide) ?_
    refine g_icmp_ne (pc := 135) (tgt := 157) h dX7_atom3_135 (by decide) hF (fun hF => ?_) (fun hF => ?_)
    · exact kX7_atom3_157 h hr hnL ht _ _ hF
    · refine g_aload_n (pc := 138) h 0 rfl dX7_atom3_138 ?_
      refine g_cvI (pc := 139) (st := []) h mX7_name cvX7_214 (inw ht) (by decide) ⟨by decide, by decide⟩ (Nat.le_of_ble_eq_true rfl) rfl rfl dX7_atom3_139 hF (fun x_22 w_23 hF => ?_)
      refine g_istore_n (pc := 142) (lv' := [(1, .inl x_22), (0, .inr (.inl (some t)))]) h dX7_atom3_142 (hj 1 (by decide)) rfl ?_
      refine g_aload_n (pc := 143) h 1 rfl dX7_atom3_143 ?_
      refine g_getI (pc := 144) h fdX7_166 (inw ht) (by decide) dX7_atom3_144 ?_
      refine g_if_ne (pc := 147) (tgt := 161) h dX7_atom3_147 (by decide) hF (fun hF => ?_) (fun hF => ?_)
      · refine g_lv (lv' := [(1, .inl x_22)]) [0] rfl ?_
        exact kX7_atom3_161 h hr hnL ht _ _ hF
      · refine g_aload_n (pc := 150) h 1 rfl dX7_atom3_150 ?_
        refine g_cvV (pc := 151) (st := []) h mX7_next cvX7_182 (inw ht) (by decide) ⟨by decide, by decide⟩ (Nat.le_of_ble_eq_true rfl) rfl rfl dX7_atom3_151 hF (fun u_24 w_25 hF => ?_)
        refine g_goto (pc := 154) (tgt := 161) h dX7_atom3_154 (by decide) ?_
        refine g_lv (lv' := [(1, .inl x_22)]) [0] rfl ?_
        exact kX7_atom3_161 h hr hnL ht _ _ hF
def fX7_atom3 (t : Nat) (w : Wd) : Option (Int32 × Wd) :=
  bnd (fX7_isSign t (45 : Int32) w) (fun x_1 w_2 => if x_1 = 0 then
    (bnd (fX7_isSign t (40 : Int32) w_2) (fun x_3 w_4 => if x_3 = 0 then
      (if (gI w_4 t 25) = 0 then
        (if (gI w_4 t 21) = (2 : Int32) then
          (lt ((gL w_4 t 23).toInt32) (fun x1_5 => bnd (fX7_next t w_4) (fun u_6 w_7 => fX7_atom3_161 t x1_5 w_7)))
        else
          (fX7_atom3_123 t (0 : Int32) w_4))
      else
        (fX7_atom3_123 t (0 : Int32) w_4))
    else
      (bnd (fX7_opens t w_4) (fun x_8 w_9 => if x_8 = 0 then
        (fX7_atom3_161 t (0 : Int32) w_9)
      else
        (bnd (fX7_either4 t w_9) (fun x_10 w_11 => bnd (fX7_isSign t (41 : Int32) w_11) (fun x_12 w_13 => if x_12 = 0 then
          (bnd (fX7_fail t w_13) (fun u_14 w_15 => fX7_atom3_71 t x_10 w_15))
        else
          (fX7_atom3_71 t x_10 w_13))))))))
  else
    (bnd (fX7_opens t w_2) (fun x_16 w_17 => if x_16 = 0 then
      (fX7_atom3_161 t (0 : Int32) w_17)
    else
      (bnd (fX7_atom4 t w_17) (fun x_18 w_19 => lt (-x_18) (fun x1_20 => lw (sI w_19 t 24 ((gI w_19 t 24) - (1 : Int32))) (fun w_21 => fX7_atom3_161 t x1_20 w_21)))))))
set_option maxHeartbeats 4000000 in
theorem mX7_atom3 {Γ : En} {t : Nat} {w : Wd} (ht : t < wn w ∧ kd t = 7) : MtI Γ yX7_atom3 cX7_atom3 2 (some .int) 18 0 0 [rv Γ (some t)] w (fX7_atom3 t w) := by
  refine mtI [.inr (.inl (some t))] rfl (Nat.le_of_ble_eq_true rfl) (fun X hΓ hnL hn0 h _ hr hF => ?_)
  subst hΓ
  have ht : InN X t 7 := ⟨by rw [hn0]; exact ht.1, ht.2⟩
  have h : Ok X cX7_atom3 RX7 18 0 0 := h
  have hj : ∀ j, j < 2 → j < nLX X := fun j q => by rw [hnL]; exact q
  show G X 0 0 0 [(0, .inr (.inl (some t)))] [] w
  unfold fX7_atom3 at hF
  refine g_iconst (pc := 0) (v := (0 : Int32)) h dX7_atom3_0 (by decide) ?_
  refine g_istore_n (pc := 1) (lv' := [(1, .inl (0 : Int32)), (0, .inr (.inl (some t)))]) h dX7_atom3_1 (hj 1 (by decide)) rfl ?_
  refine g_aload_n (pc := 2) h 1 rfl dX7_atom3_2 ?_
  refine g_bipush (pc := 3) (v := (45 : Int32)) h dX7_atom3_3 (by decide) ?_
  refine g_cvI (pc := 5) (st := []) h mX7_isSign cvX7_207 (inw ht) (by decide) ⟨by decide, by decide⟩ (Nat.le_of_ble_eq_true rfl) rfl rfl dX7_atom3_5 hF (fun x_1 w_2 hF => ?_)
  refine g_if_eq (pc := 8) (tgt := 37) h dX7_atom3_8 (by decide) hF (fun hF => ?_) (fun hF => ?_)
  · refine g_aload_n (pc := 37) h 1 rfl dX7_atom3_37 ?_
    refine g_bipush (pc := 38) (v := (40 : Int32)) h dX7_atom3_38 (by decide) ?_
    refine g_cvI (pc := 40) (st := []) h mX7_isSign cvX7_207 (inw ht) (by decide) ⟨by decide, by decide⟩ (Nat.le_of_ble_eq_true rfl) rfl rfl dX7_atom3_40 hF (fun x_3 w_4 hF => ?_)
    refine g_if_eq (pc := 43) (tgt := 95) h dX7_atom3_43 (by decide) hF (fun hF => ?_) (fun hF => ?_)
    · refine g_aload_n (pc := 95) h 1 rfl dX7_atom3_95 ?_
      refine g_getI (pc := 96) h fdX7_166 (inw ht) (by decide) dX7_atom3_96 ?_
      refine g_if_ne (pc := 99) (tgt := 123) h dX7_atom3_99 (by decide) hF (fun hF => ?_) (fun hF => ?_)
      · refine g_lv (lv' := [(0, .inr (.inl (some t))), (1, .inl (0 : Int32))]) [1, 0] rfl ?_
        exact kX7_atom3_123 h hr hnL ht _ _ hF
      · refine g_aload_n (pc := 102) h 1 rfl dX7_atom3_102 ?_
        refine g_getI (pc := 103) h fdX7_149 (inw ht) (by decide) dX7_atom3_103 ?_
        refine g_iconst (pc := 106) (v := (2 : Int32)) h dX7_atom3_106 (by decide) ?_
        refine g_icmp_ne (pc := 107) (tgt := 123) h dX7_atom3_107 (by decide) hF (fun hF => ?_) (fun hF => ?_)
        · refine g_lv (lv' := [(0, .inr (.inl (some t))), (1, .inl (0 : Int32))]) [1, 0] rfl ?_
          exact kX7_atom3_123 h hr hnL ht _ _ hF
        · refine g_aload_n (pc := 110) h 1 rfl dX7_atom3_110 ?_
          refine g_getL (pc := 111) h fdX7_160 (inw ht) rfl dX7_atom3_111 ?_
          refine g_l2i (pc := 114) h dX7_atom3_114 ?_
          refine g_t hF (fun x1_5 hF => ?_)
          refine g_istore_n (pc := 115) (lv' := [(1, .inl x1_5), (0, .inr (.inl (some t)))]) h dX7_atom3_115 (hj 1 (by decide)) rfl ?_
          refine g_aload_n (pc := 116) h 1 rfl dX7_atom3_116 ?_
          refine g_cvV (pc := 117) (st := []) h mX7_next cvX7_182 (inw ht) (by decide) ⟨by decide, by decide⟩ (Nat.le_of_ble_eq_true rfl) rfl rfl dX7_atom3_117 hF (fun u_6 w_7 hF => ?_)
          refine g_goto (pc := 120) (tgt := 161) h dX7_atom3_120 (by decide) ?_
          refine g_lv (lv' := [(1, .inl x1_5)]) [0] rfl ?_
          exact kX7_atom3_161 h hr hnL ht _ _ hF
    · refine g_aload_n (pc := 46) h 1 rfl dX7_atom3_46 ?_
      refine g_cvI (pc := 47) (st := []) h mX7_opens cvX7_210 (inw ht) (by decide) ⟨by decide, by decide⟩ (Nat.le_of_ble_eq_true rfl) rfl rfl dX7_atom3_47 hF (fun x_8 w_9 hF => ?_)
      refine g_if_eq (pc := 50) (tgt := 161) h dX7_atom3_50 (by decide) hF (fun hF => ?_) (fun hF => ?_)
      · refine g_lv (lv' := [(1, .inl (0 : Int32))]) [0] rfl ?_
        exact kX7_atom3_161 h hr hnL ht _ _ hF
      · refine g_aload_n (pc := 53) h 1 rfl dX7_atom3_53 ?_
        refine g_cvI (pc := 54) (st := []) h mX7_either4 cvX7_255 (inw ht) (by decide) ⟨by decide, by decide⟩ (Nat.le_of_ble_eq_true rfl) rfl rfl dX7_atom3_54 hF (fun x_10 w_11 hF => ?_)
        refine g_istore_n (pc := 57) (lv' := [(1, .inl x_10), (0, .inr (.inl (some t)))]) h dX7_atom3_57 (hj 1 (by decide)) rfl ?_
        refine g_aload_n (pc := 58) h 1 rfl dX7_atom3_58 ?_
        refine g_bipush (pc := 59) (v := (41 : Int32)) h dX7_atom3_59 (by decide) ?_
        refine g_cvI (pc := 61) (st := []) h mX7_isSign cvX7_207 (inw ht) (by decide) ⟨by decide, by decide⟩ (Nat.le_of_ble_eq_true rfl) rfl rfl dX7_atom3_61 hF (fun x_12 w_13 hF => ?_)
        refine g_if_ne (pc := 64) (tgt := 71) h dX7_atom3_64 (by decide) hF (fun hF => ?_) (fun hF => ?_)
        · refine g_lv (lv' := [(0, .inr (.inl (some t))), (1, .inl x_10)]) [1, 0] rfl ?_
          exact kX7_atom3_71 h hr hnL ht _ _ hF
        · refine g_aload_n (pc := 67) h 1 rfl dX7_atom3_67 ?_
          refine g_cvV (pc := 68) (st := []) h mX7_fail cvX7_179 (inw ht) (by decide) ⟨by decide, by decide⟩ (Nat.le_of_ble_eq_true rfl) rfl rfl dX7_atom3_68 hF (fun u_14 w_15 hF => ?_)
          refine g_lv (lv' := [(0, .inr (.inl (some t))), (1, .inl x_10)]) [1, 0] rfl ?_
          exact kX7_atom3_71 h hr hnL ht _ _ hF
  · refine g_aload_n (pc := 11) h 1 rfl dX7_atom3_11 ?_
    refine g_cvI (pc := 12) (st := []) h mX7_opens cvX7_210 (inw ht) (by decide) ⟨by decide, by decide⟩ (Nat.le_of_ble_eq_true rfl) rfl rfl dX7_atom3_12 hF (fun x_16 w_17 hF => ?_)
    refine g_if_eq (pc := 15) (tgt := 161) h dX7_atom3_15 (by decide) hF (fun hF => ?_) (fun hF => ?_)
    · refine g_lv (lv' := [(1, .inl (0 : Int32))]) [0] rfl ?_
      exact kX7_atom3_161 h hr hnL ht _ _ hF
    · refine g_aload_n (pc := 18) h 1 rfl dX7_atom3_18 ?_
      refine g_cvI (pc := 19) (st := []) h mX7_atom4 cvX7_240 (inw ht) (by decide) ⟨by decide, by decide⟩ (Nat.le_of_ble_eq_true rfl) rfl rfl dX7_atom3_19 hF (fun x_18 w_19 hF => ?_)
      refine g_ineg (pc := 22) h dX7_atom3_22 ?_
      refine g_t hF (fun x1_20 hF => ?_)
      refine g_istore_n (pc := 23) (lv' := [(1, .inl x1_20), (0, .inr (.inl (some t)))]) h dX7_atom3_23 (hj 1 (by decide)) rfl ?_
      refine g_aload_n (pc := 24) h 1 rfl dX7_atom3_24 ?_
      refine g_dup (pc := 25) h dX7_atom3_25 rv_cat ?_
      refine g_getI (pc := 26) h fdX7_176 (inw ht) (by decide) dX7_atom3_26 ?_
      refine g_iconst (pc := 29) (v := (1 : Int32)) h dX7_atom3_29 (by decide) ?_
      refine g_isub (pc := 30) h dX7_atom3_30 ?_
      refine g_putI (pc := 31) h fdX7_176 (inw ht) (by decide) ⟨rfl, rfl⟩ dX7_atom3_31 ?_
      refine g_w hF (fun w_21 hF => ?_)
      refine g_goto (pc := 34) (tgt := 161) h dX7_atom3_34 (by decide) ?_
      refine g_lv (lv' := [(1, .inl x1_20)]) [0] rfl ?_
      exact kX7_atom3_161 h hr hnL ht _ _ hF
def fX7_term3_5 (t : Nat) : Nat → Int32 → Wd → Option (Int32 × Wd)
  | 0 => fun _ _ => none
  | n + 1 => fun x1 w =>
    bnd (fX7_isSign t (42 : Int32) w) (fun x_3 w_4 => if x_3 = 0 then
      (some (x1, w_4))
    else
      (bnd (fX7_next t w_4) (fun u_5 w_6 => bnd (fX7_atom3 t w_6) (fun x_7 w_8 => lt (x1 * x_7) (fun x1_9 => fX7_term3_5 t n x1_9 w_8)))))
set_option maxHeartbeats 4000000 in
theorem kX7_term3_5 {X : Cx} (h : Ok X cX7_term3 RX7 19 0 0) (hr : RetI X .int 0 0) (hnL : nLX X = 2) {t : Nat} (ht : InN X t 7) : ∀ (fu : Nat) (x1 : Int32) (w : Wd), OkR X Value.int (fX7_term3_5 t fu x1 w) → G X 0 0 5 [(0, .inr (.inl (some t))), (1, .inl x1)] [] w := by
  have hj : ∀ j, j < 2 → j < nLX X := fun j q => by rw [hnL]; exact q
  intro fu
  induction fu with
  | zero => intro x1 w hF; exact okN hF
  | succ fu ih =>
    intro x1 w hF
    rw [fX7_term3_5] at hF
    refine g_aload_n (pc := 5) h 0 rfl dX7_term3_5 ?_
    refine g_bipush (pc := 6) (v := (42 : Int32)) h dX7_term3_6 (by decide) ?_
    refine g_cvI (pc := 8) (st := []) h mX7_isSign cvX7_207 (inw ht) (by decide) ⟨by decide, by decide⟩ (Nat.le_of_ble_eq_true rfl) rfl rfl dX7_term3_8 hF (fun x_3 w_4 hF => ?_)
    refine g_if_eq (pc := 11) (tgt := 28) h dX7_term3_11 (by decide) hF (fun hF => ?_) (fun hF => ?_)
    · refine g_iload_n (pc := 28) h 1 rfl dX7_term3_28 ?_
      exact g_iret (pc := 29) h hr ⟨Nat.le_refl _, Nat.le_refl _⟩ hF dX7_term3_29
    · refine g_aload_n (pc := 14) h 0 rfl dX7_term3_14 ?_
      refine g_cvV (pc := 15) (st := []) h mX7_next cvX7_182 (inw ht) (by decide) ⟨by decide, by decide⟩ (Nat.le_of_ble_eq_true rfl) rfl rfl dX7_term3_15 hF (fun u_5 w_6 hF => ?_)
      refine g_iload_n (pc := 18) h 1 rfl dX7_term3_18 ?_
      refine g_aload_n (pc := 19) h 0 rfl dX7_term3_19 ?_
      refine g_cvI (pc := 20) (st := [.int x1]) h mX7_atom3 cvX7_258 (inw ht) (by decide) ⟨by decide, by decide⟩ (Nat.le_of_ble_eq_true rfl) rfl rfl dX7_term3_20 hF (fun x_7 w_8 hF => ?_)
      refine g_imul (pc := 23) h dX7_term3_23 ?_
      refine g_t hF (fun x1_9 hF => ?_)
      refine g_istore_n (pc := 24) (lv' := [(1, .inl x1_9), (0, .inr (.inl (some t)))]) h dX7_term3_24 (hj 1 (by decide)) rfl ?_
      refine g_goto (pc := 25) (tgt := 5) h dX7_term3_25 (by decide) ?_
      refine g_lv (lv' := [(0, .inr (.inl (some t))), (1, .inl x1_9)]) [1, 0] rfl ?_
      exact ih _ _ hF
def fX7_term3 (t : Nat) (w : Wd) : Option (Int32 × Wd) :=
  bnd (fX7_atom3 t w) (fun x_1 w_2 => fX7_term3_5 t FU x_1 w_2)
set_option maxHeartbeats 4000000 in
theorem mX7_term3 {Γ : En} {t : Nat} {w : Wd} (ht : t < wn w ∧ kd t = 7) : MtI Γ yX7_term3 cX7_term3 2 (some .int) 19 0 0 [rv Γ (some t)] w (fX7_term3 t w) := by
  refine mtI [.inr (.inl (some t))] rfl (Nat.le_of_ble_eq_true rfl) (fun X hΓ hnL hn0 h _ hr hF => ?_)
  subst hΓ
  have ht : InN X t 7 := ⟨by rw [hn0]; exact ht.1, ht.2⟩
  have h : Ok X cX7_term3 RX7 19 0 0 := h
  have hj : ∀ j, j < 2 → j < nLX X := fun j q => by rw [hnL]; exact q
  show G X 0 0 0 [(0, .inr (.inl (some t)))] [] w
  unfold fX7_term3 at hF
  refine g_aload_n (pc := 0) h 0 rfl dX7_term3_0 ?_
  refine g_cvI (pc := 1) (st := []) h mX7_atom3 cvX7_258 (inw ht) (by decide) ⟨by decide, by decide⟩ (Nat.le_of_ble_eq_true rfl) rfl rfl dX7_term3_1 hF (fun x_1 w_2 hF => ?_)
  refine g_istore_n (pc := 4) (lv' := [(1, .inl x_1), (0, .inr (.inl (some t)))]) h dX7_term3_4 (hj 1 (by decide)) rfl ?_
  refine g_lv (lv' := [(0, .inr (.inl (some t))), (1, .inl x_1)]) [1, 0] rfl ?_
  exact kX7_term3_5 h hr hnL ht _ _ _ hF
def fX7_added3_62 (k5 : Int32 → Wd → Option (Int32 × Wd)) (t : Nat) (y0 : Int32) (w : Wd) : Option (Int32 × Wd) :=
  k5 y0 w
set_option maxHeartbeats 4000000 in
theorem kX7_added3_62 {X : Cx} (h : Ok X cX7_added3 RX7 20 0 0) (hr : RetI X .int 0 0) (hnL : nLX X = 4) {t : Nat} (ht : InN X t 7) {k5 : Int32 → Wd → Option (Int32 × Wd)} (hk5 : ∀ (x1 : Int32) (w : Wd), OkR X Value.int (k5 x1 w) → G X 0 0 5 [(0, .inr (.inl (some t))), (1, .inl x1)] [] w) : ∀ (y0 : Int32) (w : Wd), OkR X Value.int (fX7_added3_62 k5 t y0 w) → G X 0 0 62 [(0, .inr (.inl (some t)))] [.int y0] w := by
  have hj : ∀ j, j < 4 → j < nLX X := fun j q => by rw [hnL]; exact q
  intro y0 w hF
  unfold fX7_added3_62 at hF
  refine g_istore_n (pc := 62) (lv' := [(1, .inl y0), (0, .inr (.inl (some t)))]) h dX7_added3_62 (hj 1 (by decide)) rfl ?_
  refine g_goto (pc := 63) (tgt := 5) h dX7_added3_63 (by decide) ?_
  refine g_lv (lv' := [(0, .inr (.inl (some t))), (1, .inl y0)]) [1, 0] rfl ?_
  exact hk5 _ _ hF
def fX7_added3_39 (k5 : Int32 → Wd → Option (Int32 × Wd)) (t : Nat) (x1 : Int32) (y0 : Int32) (w : Wd) : Option (Int32 × Wd) :=
  bnd (fX7_next t w) (fun u_7 w_8 => bnd (fX7_term3 t w_8) (fun x_9 w_10 => if y0 = 0 then
    (fX7_added3_62 k5 t (x1 - x_9) w_10)
  else
    (fX7_added3_62 k5 t (x1 + x_9) w_10)))
set_option maxHeartbeats 4000000 in
theorem kX7_added3_39 {X : Cx} (h : Ok X cX7_added3 RX7 20 0 0) (hr : RetI X .int 0 0) (hnL : nLX X = 4) {t : Nat} (ht : InN X t 7) {k5 : Int32 → Wd → Option (Int32 × Wd)} (hk5 : ∀ (x1 : Int32) (w : Wd), OkR X Value.int (k5 x1 w) → G X 0 0 5 [(0, .inr (.inl (some t))), (1, .inl x1)] [] w) : ∀ (x1 : Int32) (y0 : Int32) (w : Wd), OkR X Value.int (fX7_added3_39 k5 t x1 y0 w) → G X 0 0 39 [(0, .inr (.inl (some t))), (1, .inl x1)] [.int y0] w := by
  have hj : ∀ j, j < 4 → j < nLX X := fun j q => by rw [hnL]; exact q
  intro x1 y0 w hF
  unfold fX7_added3_39 at hF
  refine g_istore_n (pc := 39) (lv' := [(2, .inl y0), (0, .inr (.inl (some t))), (1, .inl x1)]) h dX7_added3_39 (hj 2 (by decide)) rfl ?_
  refine g_aload_n (pc := 40) h 1 rfl dX7_added3_40 ?_
  refine g_cvV (pc := 41) (st := []) h mX7_next cvX7_182 (inw ht) (by decide) ⟨by decide, by decide⟩ (Nat.le_of_ble_eq_true rfl) rfl rfl dX7_added3_41 hF (fun u_7 w_8 hF => ?_)
  refine g_aload_n (pc := 44) h 1 rfl dX7_added3_44 ?_
  refine g_cvI (pc := 45) (st := []) h mX7_term3 cvX7_261 (inw ht) (by decide) ⟨by decide, by decide⟩ (Nat.le_of_ble_eq_true rfl) rfl rfl dX7_added3_45 hF (fun x_9 w_10 hF => ?_)
  refine g_istore_n (pc := 48) (lv' := [(3, .inl x_9), (2, .inl y0), (0, .inr (.inl (some t))), (1, .inl x1)]) h dX7_added3_48 (hj 3 (by decide)) rfl ?_
  refine g_iload_n (pc := 49) h 1 rfl dX7_added3_49 ?_
  refine g_if_eq (pc := 50) (tgt := 59) h dX7_added3_50 (by decide) hF (fun hF => ?_) (fun hF => ?_)
  · refine g_iload_n (pc := 59) h 3 rfl dX7_added3_59 ?_
    refine g_iload_n (pc := 60) h 0 rfl dX7_added3_60 ?_
    refine g_isub (pc := 61) h dX7_added3_61 ?_
    refine g_lv (lv' := [(0, .inr (.inl (some t)))]) [2] rfl ?_
    exact kX7_added3_62 h hr hnL ht hk5 _ _ hF
  · refine g_iload_n (pc := 53) h 3 rfl dX7_added3_53 ?_
    refine g_iload_n (pc := 54) h 0 rfl dX7_added3_54 ?_
    refine g_iadd (pc := 55) h dX7_added3_55 ?_
    refine g_goto (pc := 56) (tgt := 62) h dX7_added3_56 (by decide) ?_
    refine g_lv (lv' := [(0, .inr (.inl (some t)))]) [2] rfl ?_
    exact kX7_added3_62 h hr hnL ht hk5 _ _ hF
def fX7_added3_23 (k5 : Int32 → Wd → Option (Int32 × Wd)) (t : Nat) (x1 : Int32) (w : Wd) : Option (Int32 × Wd) :=
  if (lg_cmp (gL w t 23) (43 : Int64)) = 0 then
    (fX7_added3_39 k5 t x1 (1 : Int32) w)
  else
    (fX7_added3_39 k5 t x1 (0 : Int32) w)
set_option maxHeartbeats 4000000 in
theorem kX7_added3_23 {X : Cx} (h : Ok X cX7_added3 RX7 20 0 0) (hr : RetI X .int 0 0) (hnL : nLX X = 4) {t : Nat} (ht : InN X t 7) {k5 : Int32 → Wd → Option (Int32 × Wd)} (hk5 : ∀ (x1 : Int32) (w : Wd), OkR X Value.int (k5 x1 w) → G X 0 0 5 [(0, .inr (.inl (some t))), (1, .inl x1)] [] w) : ∀ (x1 : Int32) (w : Wd), OkR X Value.int (fX7_added3_23 k5 t x1 w) → G X 0 0 23 [(0, .inr (.inl (some t))), (1, .inl x1)] [] w := by
  have hj : ∀ j, j < 4 → j < nLX X := fun j q => by rw [hnL]; exact q
  intro x1 w hF
  unfold fX7_added3_23 at hF
  refine g_aload_n (pc := 23) h 0 rfl dX7_added3_23 ?_
  refine g_getL (pc := 24) h fdX7_160 (inw ht) rfl dX7_added3_24 ?_
  refine g_ldc2 (pc := 27) h wcL_X7_224 dX7_added3_27 ?_
  refine g_lcmp (pc := 30) h dX7_added3_30 ?_
  refine g_if_ne (pc := 31) (tgt := 38) h dX7_added3_31 (by decide) hF (fun hF => ?_) (fun hF => ?_)
  · refine g_iconst (pc := 38) (v := (0 : Int32)) h dX7_added3_38 (by decide) ?_
    exact kX7_added3_39 h hr hnL ht hk5 _ _ _ hF
  · refine g_iconst (pc := 34) (v := (1 : Int32)) h dX7_added3_34 (by decide) ?_
    refine g_goto (pc := 35) (tgt := 39) h dX7_added3_35 (by decide) ?_
    exact kX7_added3_39 h hr hnL ht hk5 _ _ _ hF
def fX7_added3_5 (t : Nat) : Nat → Int32 → Wd → Option (Int32 × Wd)
  | 0 => fun _ _ => none
  | n + 1 => fun x1 w =>
    bnd (fX7_isSign t (43 : Int32) w) (fun x_3 w_4 => if x_3 = 0 then
      (bnd (fX7_isSign t (45 : Int32) w_4) (fun x_5 w_6 => if x_5 = 0 then
        (some (x1, w_6))
      else
        (fX7_added3_23 (fX7_added3_5 t n) t x1 w_6)))
    else
      (fX7_added3_23 (fX7_added3_5 t n) t x1 w_4))
set_option maxHeartbeats 4000000 in
theorem kX7_added3_5 {X : Cx} (h : Ok X cX7_added3 RX7 20 0 0) (hr : RetI X .int 0 0) (hnL : nLX X = 4) {t : Nat} (ht : InN X t 7) : ∀ (fu : Nat) (x1 : Int32) (w : Wd), OkR X Value.int (fX7_added3_5 t fu x1 w) → G X 0 0 5 [(0, .inr (.inl (some t))), (1, .inl x1)] [] w := by
  have hj : ∀ j, j < 4 → j < nLX X := fun j q => by rw [hnL]; exact q
  intro fu
  induction fu with
  | zero => intro x1 w hF; exact okN hF
  | succ fu ih =>
    intro x1 w hF
    rw [fX7_added3_5] at hF
    refine g_aload_n (pc := 5) h 0 rfl dX7_added3_5 ?_
    refine g_bipush (pc := 6) (v := (43 : Int32)) h dX7_added3_6 (by decide) ?_
    refine g_cvI (pc := 8) (st := []) h mX7_isSign cvX7_207 (inw ht) (by decide) ⟨by decide, by decide⟩ (Nat.le_of_ble_eq_true rfl) rfl rfl dX7_added3_8 hF (fun x_3 w_4 hF => ?_)
    refine g_if_ne (pc := 11) (tgt := 23) h dX7_added3_11 (by decide) hF (fun hF => ?_) (fun hF => ?_)
    · exact kX7_added3_23 h hr hnL ht (fun z0 z1 hF => ih z0 z1 hF) _ _ hF
    · refine g_aload_n (pc := 14) h 0 rfl dX7_added3_14 ?_
      refine g_bipush (pc := 15) (v := (45 : Int32)) h dX7_added3_15 (by decide) ?_
      refine g_cvI (pc := 17) (st := []) h mX7_isSign cvX7_207 (inw ht) (by decide) ⟨by decide, by decide⟩ (Nat.le_of_ble_eq_true rfl) rfl rfl dX7_added3_17 hF (fun x_5 w_6 hF => ?_)
      refine g_if_eq (pc := 20) (tgt := 66) h dX7_added3_20 (by decide) hF (fun hF => ?_) (fun hF => ?_)
      · refine g_iload_n (pc := 66) h 1 rfl dX7_added3_66 ?_
        exact g_iret (pc := 67) h hr ⟨Nat.le_refl _, Nat.le_refl _⟩ hF dX7_added3_67
      · exact kX7_added3_23 h hr hnL ht (fun z0 z1 hF => ih z0 z1 hF) _ _ hF
def fX7_added3 (t : Nat) (w : Wd) : Option (Int32 × Wd) :=
  bnd (fX7_term3 t w) (fun x_1 w_2 => fX7_added3_5 t FU x_1 w_2)
set_option maxHeartbeats 4000000 in
theorem mX7_added3 {Γ : En} {t : Nat} {w : Wd} (ht : t < wn w ∧ kd t = 7) : MtI Γ yX7_added3 cX7_added3 4 (some .int) 20 0 0 [rv Γ (some t)] w (fX7_added3 t w) := by
  refine mtI [.inr (.inl (some t))] rfl (Nat.le_of_ble_eq_true rfl) (fun X hΓ hnL hn0 h _ hr hF => ?_)
  subst hΓ
  have ht : InN X t 7 := ⟨by rw [hn0]; exact ht.1, ht.2⟩
  have h : Ok X cX7_added3 RX7 20 0 0 := h
  have hj : ∀ j, j < 4 → j < nLX X := fun j q => by rw [hnL]; exact q
  show G X 0 0 0 [(0, .inr (.inl (some t)))] [] w
  unfold fX7_added3 at hF
  refine g_aload_n (pc := 0) h 0 rfl dX7_added3_0 ?_
  refine g_cvI (pc := 1) (st := []) h mX7_term3 cvX7_261 (inw ht) (by decide) ⟨by decide, by decide⟩ (Nat.le_of_ble_eq_true rfl) rfl rfl dX7_added3_1 hF (fun x_1 w_2 hF => ?_)
  refine g_istore_n (pc := 4) (lv' := [(1, .inl x_1), (0, .inr (.inl (some t)))]) h dX7_added3_4 (hj 1 (by decide)) rfl ?_
  refine g_lv (lv' := [(0, .inr (.inl (some t))), (1, .inl x_1)]) [1, 0] rfl ?_
  exact kX7_added3_5 h hr hnL ht _ _ _ hF
def fX7_not3_120 (t : Nat) (w : Wd) : Option (Int32 × Wd) :=
  some ((1 : Int32), w)
set_option maxHeartbeats 4000000 in
theorem kX7_not3_120 {X : Cx} (h : Ok X cX7_not3 RX7 21 0 0) (hr : RetI X .int 0 0) (hnL : nLX X = 4) {t : Nat} (ht : InN X t 7) : ∀ (w : Wd), OkR X Value.int (fX7_not3_120 t  w) → G X 0 0 120 [] [] w := by
  have hj : ∀ j, j < 4 → j < nLX X := fun j q => by rw [hnL]; exact q
  intro w hF
  unfold fX7_not3_120 at hF
  refine g_iconst (pc := 120) (v := (1 : Int32)) h dX7_not3_120 (by decide) ?_
  refine g_goto (pc := 121) (tgt := 125) h dX7_not3_121 (by decide) ?_
  exact g_iret (pc := 125) h hr ⟨Nat.le_refl _, Nat.le_refl _⟩ hF dX7_not3_125
def fX7_not3_93 (t : Nat) (x1 : Int32) (y0 : Int32) (w : Wd) : Option (Int32 × Wd) :=
  bnd (fX7_next t w) (fun u_14 w_15 => bnd (fX7_added3 t w_15) (fun x_16 w_17 => if y0 = 0 then
    (if x1 = x_16 then
      (fX7_not3_120 t w_17)
    else
      (some ((0 : Int32), w_17)))
  else
    (if x_16 ≤ x1 then
      (some ((0 : Int32), w_17))
    else
      (fX7_not3_120 t w_17))))
set_option maxHeartbeats 4000000 in
theorem kX7_not3_93 {X : Cx} (h : Ok X cX7_not3 RX7 21 0 0) (hr : RetI X .int 0 0) (hnL : nLX X = 4) {t : Nat} (ht : InN X t 7) : ∀ (x1 : Int32) (y0 : Int32) (w : Wd), OkR X Value.int (fX7_not3_93 t x1 y0 w) → G X 0 0 93 [(0, .inr (.inl (some t))), (1, .inl x1)] [.int y0] w := by
  have hj : ∀ j, j < 4 → j < nLX X := fun j q => by rw [hnL]; exact q
  intro x1 y0 w hF
  unfold fX7_not3_93 at hF
  refine g_istore_n (pc := 93) (lv' := [(2, .inl y0), (0, .inr (.inl (some t))), (1, .inl x1)]) h dX7_not3_93 (hj 2 (by decide)) rfl ?_
  refine g_aload_n (pc := 94) h 1 rfl dX7_not3_94 ?_
  refine g_cvV (pc := 95) (st := []) h mX7_next cvX7_182 (inw ht) (by decide) ⟨by decide, by decide⟩ (Nat.le_of_ble_eq_true rfl) rfl rfl dX7_not3_95 hF (fun u_14 w_15 hF => ?_)
  refine g_aload_n (pc := 98) h 1 rfl dX7_not3_98 ?_
  refine g_cvI (pc := 99) (st := []) h mX7_added3 cvX7_264 (inw ht) (by decide) ⟨by decide, by decide⟩ (Nat.le_of_ble_eq_true rfl) rfl rfl dX7_not3_99 hF (fun x_16 w_17 hF => ?_)
  refine g_istore_n (pc := 102) (lv' := [(3, .inl x_16), (2, .inl y0), (0, .inr (.inl (some t))), (1, .inl x1)]) h dX7_not3_102 (hj 3 (by decide)) rfl ?_
  refine g_iload_n (pc := 103) h 1 rfl dX7_not3_103 ?_
  refine g_if_eq (pc := 104) (tgt := 115) h dX7_not3_104 (by decide) hF (fun hF => ?_) (fun hF => ?_)
  · refine g_iload_n (pc := 115) h 3 rfl dX7_not3_115 ?_
    refine g_iload_n (pc := 116) h 0 rfl dX7_not3_116 ?_
    refine g_icmp_ne (pc := 117) (tgt := 124) h dX7_not3_117 (by decide) hF (fun hF => ?_) (fun hF => ?_)
    · refine g_iconst (pc := 124) (v := (0 : Int32)) h dX7_not3_124 (by decide) ?_
      exact g_iret (pc := 125) h hr ⟨Nat.le_refl _, Nat.le_refl _⟩ hF dX7_not3_125
    · refine g_lv (lv' := []) [] rfl ?_
      exact kX7_not3_120 h hr hnL ht _ hF
  · refine g_iload_n (pc := 107) h 3 rfl dX7_not3_107 ?_
    refine g_iload_n (pc := 108) h 0 rfl dX7_not3_108 ?_
    refine g_icmp_ge (pc := 109) (tgt := 124) h dX7_not3_109 (by decide) hF (fun hF => ?_) (fun hF => ?_)
    · refine g_iconst (pc := 124) (v := (0 : Int32)) h dX7_not3_124 (by decide) ?_
      exact g_iret (pc := 125) h hr ⟨Nat.le_refl _, Nat.le_refl _⟩ hF dX7_not3_125
    · refine g_goto (pc := 112) (tgt := 120) h dX7_not3_112 (by decide) ?_
      refine g_lv (lv' := []) [] rfl ?_
      exact kX7_not3_120 h hr hnL ht _ hF
def fX7_not3_77 (t : Nat) (x1 : Int32) (w : Wd) : Option (Int32 × Wd) :=
  if (lg_cmp (gL w t 23) (60 : Int64)) = 0 then
    (fX7_not3_93 t x1 (1 : Int32) w)
  else
    (fX7_not3_93 t x1 (0 : Int32) w)
set_option maxHeartbeats 4000000 in
theorem kX7_not3_77 {X : Cx} (h : Ok X cX7_not3 RX7 21 0 0) (hr : RetI X .int 0 0) (hnL : nLX X = 4) {t : Nat} (ht : InN X t 7) : ∀ (x1 : Int32) (w : Wd), OkR X Value.int (fX7_not3_77 t x1 w) → G X 0 0 77 [(0, .inr (.inl (some t))), (1, .inl x1)] [] w := by
  have hj : ∀ j, j < 4 → j < nLX X := fun j q => by rw [hnL]; exact q
  intro x1 w hF
  unfold fX7_not3_77 at hF
  refine g_aload_n (pc := 77) h 0 rfl dX7_not3_77 ?_
  refine g_getL (pc := 78) h fdX7_160 (inw ht) rfl dX7_not3_78 ?_
  refine g_ldc2 (pc := 81) h wcL_X7_229 dX7_not3_81 ?_
  refine g_lcmp (pc := 84) h dX7_not3_84 ?_
  refine g_if_ne (pc := 85) (tgt := 92) h dX7_not3_85 (by decide) hF (fun hF => ?_) (fun hF => ?_)
  · refine g_iconst (pc := 92) (v := (0 : Int32)) h dX7_not3_92 (by decide) ?_
    exact kX7_not3_93 h hr hnL ht _ _ _ hF
  · refine g_iconst (pc := 88) (v := (1 : Int32)) h dX7_not3_88 (by decide) ?_
    refine g_goto (pc := 89) (tgt := 93) h dX7_not3_89 (by decide) ?_
    exact kX7_not3_93 h hr hnL ht _ _ _ hF
def fX7_not3 (t : Nat) (w : Wd) : Option (Int32 × Wd) :=
  bnd (fX7_isWord t (110 : Int32) (111 : Int32) (116 : Int32) (0 : Int32) (0 : Int32) (0 : Int32) (0 : Int32) (0 : Int32) w) (fun x_1 w_2 => if x_1 = 0 then
    (bnd (fX7_added3 t w_2) (fun x_3 w_4 => bnd (fX7_isSign t (60 : Int32) w_4) (fun x_5 w_6 => if x_5 = 0 then
      (bnd (fX7_isSign t (61 : Int32) w_6) (fun x_7 w_8 => if x_7 = 0 then
        (some (x_3, w_8))
      else
        (fX7_not3_77 t x_3 w_8)))
    else
      (fX7_not3_77 t x_3 w_6))))
  else
    (bnd (fX7_opens t w_2) (fun x_9 w_10 => if x_9 = 0 then
      (some ((0 : Int32), w_10))
    else
      (bnd (fX7_not4 t w_10) (fun x_11 w_12 => lw (sI w_12 t 24 ((gI w_12 t 24) - (1 : Int32))) (fun w_13 => if x_11 = 0 then
        (some ((1 : Int32), w_13))
      else
        (some ((0 : Int32), w_13))))))))
set_option maxHeartbeats 4000000 in
theorem mX7_not3 {Γ : En} {t : Nat} {w : Wd} (ht : t < wn w ∧ kd t = 7) : MtI Γ yX7_not3 cX7_not3 4 (some .int) 21 0 0 [rv Γ (some t)] w (fX7_not3 t w) := by
  refine mtI [.inr (.inl (some t))] rfl (Nat.le_of_ble_eq_true rfl) (fun X hΓ hnL hn0 h _ hr hF => ?_)
  subst hΓ
  have ht : InN X t 7 := ⟨by rw [hn0]; exact ht.1, ht.2⟩
  have h : Ok X cX7_not3 RX7 21 0 0 := h
  have hj : ∀ j, j < 4 → j < nLX X := fun j q => by rw [hnL]; exact q
  show G X 0 0 0 [(0, .inr (.inl (some t)))] [] w
  unfold fX7_not3 at hF
  refine g_aload_n (pc := 0) h 0 rfl dX7_not3_0 ?_
  refine g_bipush (pc := 1) (v := (110 : Int32)) h dX7_not3_1 (by decide) ?_
  refine g_bipush (pc := 3) (v := (111 : Int32)) h dX7_not3_3 (by decide) ?_
  refine g_bipush (pc := 5) (v := (116 : Int32)) h dX7_not3_5 (by decide) ?_
  refine g_iconst (pc := 7) (v := (0 : Int32)) h dX7_not3_7 (by decide) ?_
  refine g_iconst (pc := 8) (v := (0 : Int32)) h dX7_not3_8 (by decide) ?_
  refine g_iconst (pc := 9) (v := (0 : Int32)) h dX7_not3_9 (by decide) ?_
  refine g_iconst (pc := 10) (v := (0 : Int32)) h dX7_not3_10 (by decide) ?_
  refine g_iconst (pc := 11) (v := (0 : Int32)) h dX7_not3_11 (by decide) ?_
  refine g_cvI (pc := 12) (st := []) h mX7_isWord cvX7_185 (inw ht) (by decide) ⟨by decide, by decide⟩ (Nat.le_of_ble_eq_true rfl) rfl rfl dX7_not3_12 hF (fun x_1 w_2 hF => ?_)
  refine g_if_eq (pc := 15) (tgt := 52) h dX7_not3_15 (by decide) hF (fun hF => ?_) (fun hF => ?_)
  · refine g_aload_n (pc := 52) h 0 rfl dX7_not3_52 ?_
    refine g_cvI (pc := 53) (st := []) h mX7_added3 cvX7_264 (inw ht) (by decide) ⟨by decide, by decide⟩ (Nat.le_of_ble_eq_true rfl) rfl rfl dX7_not3_53 hF (fun x_3 w_4 hF => ?_)
    refine g_istore_n (pc := 56) (lv' := [(1, .inl x_3), (0, .inr (.inl (some t)))]) h dX7_not3_56 (hj 1 (by decide)) rfl ?_
    refine g_aload_n (pc := 57) h 1 rfl dX7_not3_57 ?_
    refine g_bipush (pc := 58) (v := (60 : Int32)) h dX7_not3_58 (by decide) ?_
    refine g_cvI (pc := 60) (st := []) h mX7_isSign cvX7_207 (inw ht) (by decide) ⟨by decide, by decide⟩ (Nat.le_of_ble_eq_true rfl) rfl rfl dX7_not3_60 hF (fun x_5 w_6 hF => ?_)
    refine g_if_ne (pc := 63) (tgt := 77) h dX7_not3_63 (by decide) hF (fun hF => ?_) (fun hF => ?_)
    · refine g_lv (lv' := [(0, .inr (.inl (some t))), (1, .inl x_3)]) [1, 0] rfl ?_
      exact kX7_not3_77 h hr hnL ht _ _ hF
    · refine g_aload_n (pc := 66) h 1 rfl dX7_not3_66 ?_
      refine g_bipush (pc := 67) (v := (61 : Int32)) h dX7_not3_67 (by decide) ?_
      refine g_cvI (pc := 69) (st := []) h mX7_isSign cvX7_207 (inw ht) (by decide) ⟨by decide, by decide⟩ (Nat.le_of_ble_eq_true rfl) rfl rfl dX7_not3_69 hF (fun x_7 w_8 hF => ?_)
      refine g_if_ne (pc := 72) (tgt := 77) h dX7_not3_72 (by decide) hF (fun hF => ?_) (fun hF => ?_)
      · refine g_lv (lv' := [(0, .inr (.inl (some t))), (1, .inl x_3)]) [1, 0] rfl ?_
        exact kX7_not3_77 h hr hnL ht _ _ hF
      · refine g_iload_n (pc := 75) h 0 rfl dX7_not3_75 ?_
        exact g_iret (pc := 76) h hr ⟨Nat.le_refl _, Nat.le_refl _⟩ hF dX7_not3_76
  · refine g_aload_n (pc := 18) h 0 rfl dX7_not3_18 ?_
    refine g_cvI (pc := 19) (st := []) h mX7_opens cvX7_210 (inw ht) (by decide) ⟨by decide, by decide⟩ (Nat.le_of_ble_eq_true rfl) rfl rfl dX7_not3_19 hF (fun x_9 w_10 hF => ?_)
    refine g_if_ne (pc := 22) (tgt := 27) h dX7_not3_22 (by decide) hF (fun hF => ?_) (fun hF => ?_)
    · refine g_aload_n (pc := 27) h 0 rfl dX7_not3_27 ?_
      refine g_cvI (pc := 28) (st := []) h mX7_not4 cvX7_249 (inw ht) (by decide) ⟨by decide, by decide⟩ (Nat.le_of_ble_eq_true rfl) rfl rfl dX7_not3_28 hF (fun x_11 w_12 hF => ?_)
      refine g_istore_n (pc := 31) (lv' := [(1, .inl x_11), (0, .inr (.inl (some t)))]) h dX7_not3_31 (hj 1 (by decide)) rfl ?_
      refine g_aload_n (pc := 32) h 1 rfl dX7_not3_32 ?_
      refine g_dup (pc := 33) h dX7_not3_33 rv_cat ?_
      refine g_getI (pc := 34) h fdX7_176 (inw ht) (by decide) dX7_not3_34 ?_
      refine g_iconst (pc := 37) (v := (1 : Int32)) h dX7_not3_37 (by decide) ?_
      refine g_isub (pc := 38) h dX7_not3_38 ?_
      refine g_putI (pc := 39) h fdX7_176 (inw ht) (by decide) ⟨rfl, rfl⟩ dX7_not3_39 ?_
      refine g_w hF (fun w_13 hF => ?_)
      refine g_iload_n (pc := 42) h 0 rfl dX7_not3_42 ?_
      refine g_if_ne (pc := 43) (tgt := 50) h dX7_not3_43 (by decide) hF (fun hF => ?_) (fun hF => ?_)
      · refine g_iconst (pc := 50) (v := (0 : Int32)) h dX7_not3_50 (by decide) ?_
        exact g_iret (pc := 51) h hr ⟨Nat.le_refl _, Nat.le_refl _⟩ hF dX7_not3_51
      · refine g_iconst (pc := 46) (v := (1 : Int32)) h dX7_not3_46 (by decide) ?_
        refine g_goto (pc := 47) (tgt := 51) h dX7_not3_47 (by decide) ?_
        exact g_iret (pc := 51) h hr ⟨Nat.le_refl _, Nat.le_refl _⟩ hF dX7_not3_51
    · refine g_iconst (pc := 25) (v := (0 : Int32)) h dX7_not3_25 (by decide) ?_
      exact g_iret (pc := 26) h hr ⟨Nat.le_refl _, Nat.le_refl _⟩ hF dX7_not3_26
def fX7_both3_45 (k5 : Int32 → Wd → Option (Int32 × Wd)) (t : Nat) (y0 : Int32) (w : Wd) : Option (Int32 × Wd) :=
  k5 y0 w
set_option maxHeartbeats 4000000 in
theorem kX7_both3_45 {X : Cx} (h : Ok X cX7_both3 RX7 22 0 0) (hr : RetI X .int 0 0) (hnL : nLX X = 3) {t : Nat} (ht : InN X t 7) {k5 : Int32 → Wd → Option (Int32 × Wd)} (hk5 : ∀ (x1 : Int32) (w : Wd), OkR X Value.int (k5 x1 w) → G X 0 0 5 [(0, .inr (.inl (some t))), (1, .inl x1)] [] w) : ∀ (y0 : Int32) (w : Wd), OkR X Value.int (fX7_both3_45 k5 t y0 w) → G X 0 0 45 [(0, .inr (.inl (some t)))] [.int y0] w := by
  have hj : ∀ j, j < 3 → j < nLX X := fun j q => by rw [hnL]; exact q
  intro y0 w hF
  unfold fX7_both3_45 at hF
  refine g_istore_n (pc := 45) (lv' := [(1, .inl y0), (0, .inr (.inl (some t)))]) h dX7_both3_45 (hj 1 (by decide)) rfl ?_
  refine g_goto (pc := 46) (tgt := 5) h dX7_both3_46 (by decide) ?_
  refine g_lv (lv' := [(0, .inr (.inl (some t))), (1, .inl y0)]) [1, 0] rfl ?_
  exact hk5 _ _ hF
def fX7_both3_44 (k5 : Int32 → Wd → Option (Int32 × Wd)) (t : Nat) (w : Wd) : Option (Int32 × Wd) :=
  fX7_both3_45 k5 t (0 : Int32) w
set_option maxHeartbeats 4000000 in
theorem kX7_both3_44 {X : Cx} (h : Ok X cX7_both3 RX7 22 0 0) (hr : RetI X .int 0 0) (hnL : nLX X = 3) {t : Nat} (ht : InN X t 7) {k5 : Int32 → Wd → Option (Int32 × Wd)} (hk5 : ∀ (x1 : Int32) (w : Wd), OkR X Value.int (k5 x1 w) → G X 0 0 5 [(0, .inr (.inl (some t))), (1, .inl x1)] [] w) : ∀ (w : Wd), OkR X Value.int (fX7_both3_44 k5 t  w) → G X 0 0 44 [(0, .inr (.inl (some t)))] [] w := by
  have hj : ∀ j, j < 3 → j < nLX X := fun j q => by rw [hnL]; exact q
  intro w hF
  unfold fX7_both3_44 at hF
  refine g_iconst (pc := 44) (v := (0 : Int32)) h dX7_both3_44 (by decide) ?_
  exact kX7_both3_45 h hr hnL ht hk5 _ _ hF
def fX7_both3_5 (t : Nat) : Nat → Int32 → Wd → Option (Int32 × Wd)
  | 0 => fun _ _ => none
  | n + 1 => fun x1 w =>
    bnd (fX7_isWord t (97 : Int32) (110 : Int32) (100 : Int32) (0 : Int32) (0 : Int32) (0 : Int32) (0 : Int32) (0 : Int32) w) (fun x_3 w_4 => if x_3 = 0 then
      (some (x1, w_4))
    else
      (bnd (fX7_next t w_4) (fun u_5 w_6 => bnd (fX7_not3 t w_6) (fun x_7 w_8 => if x1 = 0 then
        (fX7_both3_44 (fX7_both3_5 t n) t w_8)
      else
        (if x_7 = 0 then
          (fX7_both3_44 (fX7_both3_5 t n) t w_8)
        else
          (fX7_both3_45 (fX7_both3_5 t n) t (1 : Int32) w_8))))))
set_option maxHeartbeats 4000000 in
theorem kX7_both3_5 {X : Cx} (h : Ok X cX7_both3 RX7 22 0 0) (hr : RetI X .int 0 0) (hnL : nLX X = 3) {t : Nat} (ht : InN X t 7) : ∀ (fu : Nat) (x1 : Int32) (w : Wd), OkR X Value.int (fX7_both3_5 t fu x1 w) → G X 0 0 5 [(0, .inr (.inl (some t))), (1, .inl x1)] [] w := by
  have hj : ∀ j, j < 3 → j < nLX X := fun j q => by rw [hnL]; exact q
  intro fu
  induction fu with
  | zero => intro x1 w hF; exact okN hF
  | succ fu ih =>
    intro x1 w hF
    rw [fX7_both3_5] at hF
    refine g_aload_n (pc := 5) h 0 rfl dX7_both3_5 ?_
    refine g_bipush (pc := 6) (v := (97 : Int32)) h dX7_both3_6 (by decide) ?_
    refine g_bipush (pc := 8) (v := (110 : Int32)) h dX7_both3_8 (by decide) ?_
    refine g_bipush (pc := 10) (v := (100 : Int32)) h dX7_both3_10 (by decide) ?_
    refine g_iconst (pc := 12) (v := (0 : Int32)) h dX7_both3_12 (by decide) ?_
    refine g_iconst (pc := 13) (v := (0 : Int32)) h dX7_both3_13 (by decide) ?_
    refine g_iconst (pc := 14) (v := (0 : Int32)) h dX7_both3_14 (by decide) ?_
    refine g_iconst (pc := 15) (v := (0 : Int32)) h dX7_both3_15 (by decide) ?_
    refine g_iconst (pc := 16) (v := (0 : Int32)) h dX7_both3_16 (by decide) ?_
    refine g_cvI (pc := 17) (st := []) h mX7_isWord cvX7_185 (inw ht) (by decide) ⟨by decide, by decide⟩ (Nat.le_of_ble_eq_true rfl) rfl rfl dX7_both3_17 hF (fun x_3 w_4 hF => ?_)
    refine g_if_eq (pc := 20) (tgt := 49) h dX7_both3_20 (by decide) hF (fun hF => ?_) (fun hF => ?_)
    · refine g_iload_n (pc := 49) h 1 rfl dX7_both3_49 ?_
      exact g_iret (pc := 50) h hr ⟨Nat.le_refl _, Nat.le_refl _⟩ hF dX7_both3_50
    · refine g_aload_n (pc := 23) h 0 rfl dX7_both3_23 ?_
      refine g_cvV (pc := 24) (st := []) h mX7_next cvX7_182 (inw ht) (by decide) ⟨by decide, by decide⟩ (Nat.le_of_ble_eq_true rfl) rfl rfl dX7_both3_24 hF (fun u_5 w_6 hF => ?_)
      refine g_aload_n (pc := 27) h 0 rfl dX7_both3_27 ?_
      refine g_cvI (pc := 28) (st := []) h mX7_not3 cvX7_267 (inw ht) (by decide) ⟨by decide, by decide⟩ (Nat.le_of_ble_eq_true rfl) rfl rfl dX7_both3_28 hF (fun x_7 w_8 hF => ?_)
      refine g_istore_n (pc := 31) (lv' := [(2, .inl x_7), (0, .inr (.inl (some t))), (1, .inl x1)]) h dX7_both3_31 (hj 2 (by decide)) rfl ?_
      refine g_iload_n (pc := 32) h 2 rfl dX7_both3_32 ?_
      refine g_if_eq (pc := 33) (tgt := 44) h dX7_both3_33 (by decide) hF (fun hF => ?_) (fun hF => ?_)
      · refine g_lv (lv' := [(0, .inr (.inl (some t)))]) [1] rfl ?_
        exact kX7_both3_44 h hr hnL ht (fun z0 z1 hF => ih z0 z1 hF) _ hF
      · refine g_iload_n (pc := 36) h 0 rfl dX7_both3_36 ?_
        refine g_if_eq (pc := 37) (tgt := 44) h dX7_both3_37 (by decide) hF (fun hF => ?_) (fun hF => ?_)
        · refine g_lv (lv' := [(0, .inr (.inl (some t)))]) [1] rfl ?_
          exact kX7_both3_44 h hr hnL ht (fun z0 z1 hF => ih z0 z1 hF) _ hF
        · refine g_iconst (pc := 40) (v := (1 : Int32)) h dX7_both3_40 (by decide) ?_
          refine g_goto (pc := 41) (tgt := 45) h dX7_both3_41 (by decide) ?_
          refine g_lv (lv' := [(0, .inr (.inl (some t)))]) [1] rfl ?_
          exact kX7_both3_45 h hr hnL ht (fun z0 z1 hF => ih z0 z1 hF) _ _ hF
def fX7_both3 (t : Nat) (w : Wd) : Option (Int32 × Wd) :=
  bnd (fX7_not3 t w) (fun x_1 w_2 => fX7_both3_5 t FU x_1 w_2)
set_option maxHeartbeats 4000000 in
theorem mX7_both3 {Γ : En} {t : Nat} {w : Wd} (ht : t < wn w ∧ kd t = 7) : MtI Γ yX7_both3 cX7_both3 3 (some .int) 22 0 0 [rv Γ (some t)] w (fX7_both3 t w) := by
  refine mtI [.inr (.inl (some t))] rfl (Nat.le_of_ble_eq_true rfl) (fun X hΓ hnL hn0 h _ hr hF => ?_)
  subst hΓ
  have ht : InN X t 7 := ⟨by rw [hn0]; exact ht.1, ht.2⟩
  have h : Ok X cX7_both3 RX7 22 0 0 := h
  have hj : ∀ j, j < 3 → j < nLX X := fun j q => by rw [hnL]; exact q
  show G X 0 0 0 [(0, .inr (.inl (some t)))] [] w
  unfold fX7_both3 at hF
  refine g_aload_n (pc := 0) h 0 rfl dX7_both3_0 ?_
  refine g_cvI (pc := 1) (st := []) h mX7_not3 cvX7_267 (inw ht) (by decide) ⟨by decide, by decide⟩ (Nat.le_of_ble_eq_true rfl) rfl rfl dX7_both3_1 hF (fun x_1 w_2 hF => ?_)
  refine g_istore_n (pc := 4) (lv' := [(1, .inl x_1), (0, .inr (.inl (some t)))]) h dX7_both3_4 (hj 1 (by decide)) rfl ?_
  refine g_lv (lv' := [(0, .inr (.inl (some t))), (1, .inl x_1)]) [1, 0] rfl ?_
  exact kX7_both3_5 h hr hnL ht _ _ _ hF
def fX7_either3_44 (k5 : Int32 → Wd → Option (Int32 × Wd)) (t : Nat) (y0 : Int32) (w : Wd) : Option (Int32 × Wd) :=
  k5 y0 w
set_option maxHeartbeats 4000000 in
theorem kX7_either3_44 {X : Cx} (h : Ok X cX7_either3 RX7 23 0 0) (hr : RetI X .int 0 0) (hnL : nLX X = 3) {t : Nat} (ht : InN X t 7) {k5 : Int32 → Wd → Option (Int32 × Wd)} (hk5 : ∀ (x1 : Int32) (w : Wd), OkR X Value.int (k5 x1 w) → G X 0 0 5 [(0, .inr (.inl (some t))), (1, .inl x1)] [] w) : ∀ (y0 : Int32) (w : Wd), OkR X Value.int (fX7_either3_44 k5 t y0 w) → G X 0 0 44 [(0, .inr (.inl (some t)))] [.int y0] w := by
  have hj : ∀ j, j < 3 → j < nLX X := fun j q => by rw [hnL]; exact q
  intro y0 w hF
  unfold fX7_either3_44 at hF
  refine g_istore_n (pc := 44) (lv' := [(1, .inl y0), (0, .inr (.inl (some t)))]) h dX7_either3_44 (hj 1 (by decide)) rfl ?_
  refine g_goto (pc := 45) (tgt := 5) h dX7_either3_45 (by decide) ?_
  refine g_lv (lv' := [(0, .inr (.inl (some t))), (1, .inl y0)]) [1, 0] rfl ?_
  exact hk5 _ _ hF
def fX7_either3_39 (k5 : Int32 → Wd → Option (Int32 × Wd)) (t : Nat) (w : Wd) : Option (Int32 × Wd) :=
  fX7_either3_44 k5 t (1 : Int32) w
set_option maxHeartbeats 4000000 in
theorem kX7_either3_39 {X : Cx} (h : Ok X cX7_either3 RX7 23 0 0) (hr : RetI X .int 0 0) (hnL : nLX X = 3) {t : Nat} (ht : InN X t 7) {k5 : Int32 → Wd → Option (Int32 × Wd)} (hk5 : ∀ (x1 : Int32) (w : Wd), OkR X Value.int (k5 x1 w) → G X 0 0 5 [(0, .inr (.inl (some t))), (1, .inl x1)] [] w) : ∀ (w : Wd), OkR X Value.int (fX7_either3_39 k5 t  w) → G X 0 0 39 [(0, .inr (.inl (some t)))] [] w := by
  have hj : ∀ j, j < 3 → j < nLX X := fun j q => by rw [hnL]; exact q
  intro w hF
  unfold fX7_either3_39 at hF
  refine g_iconst (pc := 39) (v := (1 : Int32)) h dX7_either3_39 (by decide) ?_
  refine g_goto (pc := 40) (tgt := 44) h dX7_either3_40 (by decide) ?_
  exact kX7_either3_44 h hr hnL ht hk5 _ _ hF
def fX7_either3_5 (t : Nat) : Nat → Int32 → Wd → Option (Int32 × Wd)
  | 0 => fun _ _ => none
  | n + 1 => fun x1 w =>
    bnd (fX7_isWord t (111 : Int32) (114 : Int32) (0 : Int32) (0 : Int32) (0 : Int32) (0 : Int32) (0 : Int32) (0 : Int32) w) (fun x_3 w_4 => if x_3 = 0 then
      (some (x1, w_4))
    else
      (bnd (fX7_next t w_4) (fun u_5 w_6 => bnd (fX7_both3 t w_6) (fun x_7 w_8 => if x1 = 0 then
        (if x_7 = 0 then
          (fX7_either3_44 (fX7_either3_5 t n) t (0 : Int32) w_8)
        else
          (fX7_either3_39 (fX7_either3_5 t n) t w_8))
      else
        (fX7_either3_39 (fX7_either3_5 t n) t w_8)))))
set_option maxHeartbeats 4000000 in
theorem kX7_either3_5 {X : Cx} (h : Ok X cX7_either3 RX7 23 0 0) (hr : RetI X .int 0 0) (hnL : nLX X = 3) {t : Nat} (ht : InN X t 7) : ∀ (fu : Nat) (x1 : Int32) (w : Wd), OkR X Value.int (fX7_either3_5 t fu x1 w) → G X 0 0 5 [(0, .inr (.inl (some t))), (1, .inl x1)] [] w := by
  have hj : ∀ j, j < 3 → j < nLX X := fun j q => by rw [hnL]; exact q
  intro fu
  induction fu with
  | zero => intro x1 w hF; exact okN hF
  | succ fu ih =>
    intro x1 w hF
    rw [fX7_either3_5] at hF
    refine g_aload_n (pc := 5) h 0 rfl dX7_either3_5 ?_
    refine g_bipush (pc := 6) (v := (111 : Int32)) h dX7_either3_6 (by decide) ?_
    refine g_bipush (pc := 8) (v := (114 : Int32)) h dX7_either3_8 (by decide) ?_
    refine g_iconst (pc := 10) (v := (0 : Int32)) h dX7_either3_10 (by decide) ?_
    refine g_iconst (pc := 11) (v := (0 : Int32)) h dX7_either3_11 (by decide) ?_
    refine g_iconst (pc := 12) (v := (0 : Int32)) h dX7_either3_12 (by decide) ?_
    refine g_iconst (pc := 13) (v := (0 : Int32)) h dX7_either3_13 (by decide) ?_
    refine g_iconst (pc := 14) (v := (0 : Int32)) h dX7_either3_14 (by decide) ?_
    refine g_iconst (pc := 15) (v := (0 : Int32)) h dX7_either3_15 (by decide) ?_
    refine g_cvI (pc := 16) (st := []) h mX7_isWord cvX7_185 (inw ht) (by decide) ⟨by decide, by decide⟩ (Nat.le_of_ble_eq_true rfl) rfl rfl dX7_either3_16 hF (fun x_3 w_4 hF => ?_)
    refine g_if_eq (pc := 19) (tgt := 48) h dX7_either3_19 (by decide) hF (fun hF => ?_) (fun hF => ?_)
    · refine g_iload_n (pc := 48) h 1 rfl dX7_either3_48 ?_
      exact g_iret (pc := 49) h hr ⟨Nat.le_refl _, Nat.le_refl _⟩ hF dX7_either3_49
    · refine g_aload_n (pc := 22) h 0 rfl dX7_either3_22 ?_
      refine g_cvV (pc := 23) (st := []) h mX7_next cvX7_182 (inw ht) (by decide) ⟨by decide, by decide⟩ (Nat.le_of_ble_eq_true rfl) rfl rfl dX7_either3_23 hF (fun u_5 w_6 hF => ?_)
      refine g_aload_n (pc := 26) h 0 rfl dX7_either3_26 ?_
      refine g_cvI (pc := 27) (st := []) h mX7_both3 cvX7_270 (inw ht) (by decide) ⟨by decide, by decide⟩ (Nat.le_of_ble_eq_true rfl) rfl rfl dX7_either3_27 hF (fun x_7 w_8 hF => ?_)
      refine g_istore_n (pc := 30) (lv' := [(2, .inl x_7), (0, .inr (.inl (some t))), (1, .inl x1)]) h dX7_either3_30 (hj 2 (by decide)) rfl ?_
      refine g_iload_n (pc := 31) h 2 rfl dX7_either3_31 ?_
      refine g_if_ne (pc := 32) (tgt := 39) h dX7_either3_32 (by decide) hF (fun hF => ?_) (fun hF => ?_)
      · refine g_lv (lv' := [(0, .inr (.inl (some t)))]) [1] rfl ?_
        exact kX7_either3_39 h hr hnL ht (fun z0 z1 hF => ih z0 z1 hF) _ hF
      · refine g_iload_n (pc := 35) h 0 rfl dX7_either3_35 ?_
        refine g_if_eq (pc := 36) (tgt := 43) h dX7_either3_36 (by decide) hF (fun hF => ?_) (fun hF => ?_)
        · refine g_iconst (pc := 43) (v := (0 : Int32)) h dX7_either3_43 (by decide) ?_
          refine g_lv (lv' := [(0, .inr (.inl (some t)))]) [1] rfl ?_
          exact kX7_either3_44 h hr hnL ht (fun z0 z1 hF => ih z0 z1 hF) _ _ hF
        · refine g_lv (lv' := [(0, .inr (.inl (some t)))]) [1] rfl ?_
          exact kX7_either3_39 h hr hnL ht (fun z0 z1 hF => ih z0 z1 hF) _ hF
def fX7_either3 (t : Nat) (w : Wd) : Option (Int32 × Wd) :=
  bnd (fX7_both3 t w) (fun x_1 w_2 => fX7_either3_5 t FU x_1 w_2)
set_option maxHeartbeats 4000000 in
theorem mX7_either3 {Γ : En} {t : Nat} {w : Wd} (ht : t < wn w ∧ kd t = 7) : MtI Γ yX7_either3 cX7_either3 3 (some .int) 23 0 0 [rv Γ (some t)] w (fX7_either3 t w) := by
  refine mtI [.inr (.inl (some t))] rfl (Nat.le_of_ble_eq_true rfl) (fun X hΓ hnL hn0 h _ hr hF => ?_)
  subst hΓ
  have ht : InN X t 7 := ⟨by rw [hn0]; exact ht.1, ht.2⟩
  have h : Ok X cX7_either3 RX7 23 0 0 := h
  have hj : ∀ j, j < 3 → j < nLX X := fun j q => by rw [hnL]; exact q
  show G X 0 0 0 [(0, .inr (.inl (some t)))] [] w
  unfold fX7_either3 at hF
  refine g_aload_n (pc := 0) h 0 rfl dX7_either3_0 ?_
  refine g_cvI (pc := 1) (st := []) h mX7_both3 cvX7_270 (inw ht) (by decide) ⟨by decide, by decide⟩ (Nat.le_of_ble_eq_true rfl) rfl rfl dX7_either3_1 hF (fun x_1 w_2 hF => ?_)
  refine g_istore_n (pc := 4) (lv' := [(1, .inl x_1), (0, .inr (.inl (some t)))]) h dX7_either3_4 (hj 1 (by decide)) rfl ?_
  refine g_lv (lv' := [(0, .inr (.inl (some t))), (1, .inl x_1)]) [1, 0] rfl ?_
  exact kX7_either3_5 h hr hnL ht _ _ _ hF
def fX7_atom2_161 (t : Nat) (x1 : Int32) (w : Wd) : Option (Int32 × Wd) :=
  some (x1, w)
set_option maxHeartbeats 4000000 in
theorem kX7_atom2_161 {X : Cx} (h : Ok X cX7_atom2 RX7 24 0 0) (hr : RetI X .int 0 0) (hnL : nLX X = 2) {t : Nat} (ht : InN X t 7) : ∀ (x1 : Int32) (w : Wd), OkR X Value.int (fX7_atom2_161 t x1 w) → G X 0 0 161 [(1, .inl x1)] [] w := by
  have hj : ∀ j, j < 2 → j < nLX X := fun j q => by rw [hnL]; exact q
  intro x1 w hF
  unfold fX7_atom2_161 at hF
  refine g_iload_n (pc := 161) h 0 rfl dX7_atom2_161 ?_
  exact g_iret (pc := 162) h hr ⟨Nat.le_refl _, Nat.le_refl _⟩ hF dX7_atom2_162
def fX7_atom2_71 (t : Nat) (x1 : Int32) (w : Wd) : Option (Int32 × Wd) :=
  lw (sI w t 24 ((gI w t 24) - (1 : Int32))) (fun w_26 => if (gI w_26 t 25) = 0 then
    (bnd (fX7_next t w_26) (fun u_27 w_28 => fX7_atom2_161 t x1 w_28))
  else
    (fX7_atom2_161 t x1 w_26))
set_option maxHeartbeats 4000000 in
theorem kX7_atom2_71 {X : Cx} (h : Ok X cX7_atom2 RX7 24 0 0) (hr : RetI X .int 0 0) (hnL : nLX X = 2) {t : Nat} (ht : InN X t 7) : ∀ (x1 : Int32) (w : Wd), OkR X Value.int (fX7_atom2_71 t x1 w) → G X 0 0 71 [(0, .inr (.inl (some t))), (1, .inl x1)] [] w := by
  have hj : ∀ j, j < 2 → j < nLX X := fun j q => by rw [hnL]; exact q
  intro x1 w hF
  unfold fX7_atom2_71 at hF
  refine g_aload_n (pc := 71) h 0 rfl dX7_atom2_71 ?_
  refine g_dup (pc := 72) h dX7_atom2_72 rv_cat ?_
  refine g_getI (pc := 73) h fdX7_176 (inw ht) (by decide) dX7_atom2_73 ?_
  refine g_iconst (pc := 76) (v := (1 : Int32)) h dX7_atom2_76 (by decide) ?_
  refine g_isub (pc := 77) h dX7_atom2_77 ?_
  refine g_putI (pc := 78) h fdX7_176 (inw ht) (by decide) ⟨rfl, rfl⟩ dX7_atom2_78 ?_
  refine g_w hF (fun w_26 hF => ?_)
  refine g_aload_n (pc := 81) h 0 rfl dX7_atom2_81 ?_
  refine g_getI (pc := 82) h fdX7_166 (inw ht) (by decide) dX7_atom2_82 ?_
  refine g_if_ne (pc := 85) (tgt := 161) h dX7_atom2_85 (by decide) hF (fun hF => ?_) (fun hF => ?_)
  · refine g_lv (lv' := [(1, .inl x1)]) [1] rfl ?_
    exact kX7_atom2_161 h hr hnL ht _ _ hF
  · refine g_aload_n (pc := 88) h 0 rfl dX7_atom2_88 ?_
    refine g_cvV (pc := 89) (st := []) h mX7_next cvX7_182 (inw ht) (by decide) ⟨by decide, by decide⟩ (Nat.le_of_ble_eq_true rfl) rfl rfl dX7_atom2_89 hF (fun u_27 w_28 hF => ?_)
    refine g_goto (pc := 92) (tgt := 161) h dX7_atom2_92 (by decide) ?_
    refine g_lv (lv' := [(1, .inl x1)]) [1] rfl ?_
    exact kX7_atom2_161 h hr hnL ht _ _ hF
def fX7_atom2_157 (t : Nat) (x1 : Int32) (w : Wd) : Option (Int32 × Wd) :=
  bnd (fX7_fail t w) (fun u_29 w_30 => fX7_atom2_161 t x1 w_30)
set_option maxHeartbeats 4000000 in
theorem kX7_atom2_157 {X : Cx} (h : Ok X cX7_atom2 RX7 24 0 0) (hr : RetI X .int 0 0) (hnL : nLX X = 2) {t : Nat} (ht : InN X t 7) : ∀ (x1 : Int32) (w : Wd), OkR X Value.int (fX7_atom2_157 t x1 w) → G X 0 0 157 [(0, .inr (.inl (some t))), (1, .inl x1)] [] w := by
  have hj : ∀ j, j < 2 → j < nLX X := fun j q => by rw [hnL]; exact q
  intro x1 w hF
  unfold fX7_atom2_157 at hF
  refine g_aload_n (pc := 157) h 0 rfl dX7_atom2_157 ?_
  refine g_cvV (pc := 158) (st := []) h mX7_fail cvX7_179 (inw ht) (by decide) ⟨by decide, by decide⟩ (Nat.le_of_ble_eq_true rfl) rfl rfl dX7_atom2_158 hF (fun u_29 w_30 hF => ?_)
  refine g_lv (lv' := [(1, .inl x1)]) [1] rfl ?_
  exact kX7_atom2_161 h hr hnL ht _ _ hF
def fX7_atom2_123 (t : Nat) (x1 : Int32) (w : Wd) : Option (Int32 × Wd) :=
  if (gI w t 25) = 0 then
    (if (gI w t 21) = (1 : Int32) then
      (bnd (fX7_name t w) (fun x_22 w_23 => if (gI w_23 t 25) = 0 then
        (bnd (fX7_next t w_23) (fun u_24 w_25 => fX7_atom2_161 t x_22 w_25))
      else
        (fX7_atom2_161 t x_22 w_23)))
    else
      (fX7_atom2_157 t x1 w))
  else
    (fX7_atom2_157 t x1 w)
set_option maxHeartbeats 4000000 in
theorem kX7_atom2_123 {X : Cx} (h : Ok X cX7_atom2 RX7 24 0 0) (hr : RetI X .int 0 0) (hnL : nLX X = 2) {t : Nat} (ht : InN X t 7) : ∀ (x1 : Int32) (w : Wd), OkR X Value.int (fX7_atom2_123 t x1 w) → G X 0 0 123 [(0, .inr (.inl (some t))), (1, .inl x1)] [] w := by
  have hj : ∀ j, j < 2 → j < nLX X := fun j q => by rw [hnL]; exact q
  intro x1 w hF
  unfold fX7_atom2_123 at hF
  refine g_aload_n (pc := 123) h 0 rfl dX7_atom2_123 ?_
  refine g_getI (pc := 124) h fdX7_166 (inw ht) (by decide) dX7_atom2_124 ?_
  refine g_if_ne (pc := 127) (tgt := 157) h dX7_atom2_127 (by decide) hF (fun hF => ?_) (fun hF => ?_)
  · exact kX7_atom2_157 h hr hnL ht _ _ hF
  · refine g_aload_n (pc := 130) h 0 rfl dX7_atom2_130 ?_
    refine g_getI (pc := 131) h fdX7_149 (inw ht) (by decide) dX7_atom2_131 ?_
    refine g_iconst (pc := 134) (v := (1 : Int32)) h dX7_atom2_134 (by decide) ?_
    refine g_icmp_ne (pc := 135) (tgt := 157) h dX7_atom2_135 (by decide) hF (fun hF => ?_) (fun hF => ?_)
    · exact kX7_atom2_157 h hr hnL ht _ _ hF
    · refine g_aload_n (pc := 138) h 0 rfl dX7_atom2_138 ?_
      refine g_cvI (pc := 139) (st := []) h mX7_name cvX7_214 (inw ht) (by decide) ⟨by decide, by decide⟩ (Nat.le_of_ble_eq_true rfl) rfl rfl dX7_atom2_139 hF (fun x_22 w_23 hF => ?_)
      refine g_istore_n (pc := 142) (lv' := [(1, .inl x_22), (0, .inr (.inl (some t)))]) h dX7_atom2_142 (hj 1 (by decide)) rfl ?_
      refine g_aload_n (pc := 143) h 1 rfl dX7_atom2_143 ?_
      refine g_getI (pc := 144) h fdX7_166 (inw ht) (by decide) dX7_atom2_144 ?_
      refine g_if_ne (pc := 147) (tgt := 161) h dX7_atom2_147 (by decide) hF (fun hF => ?_) (fun hF => ?_)
      · refine g_lv (lv' := [(1, .inl x_22)]) [0] rfl ?_
        exact kX7_atom2_161 h hr hnL ht _ _ hF
      · refine g_aload_n (pc := 150) h 1 rfl dX7_atom2_150 ?_
        refine g_cvV (pc := 151) (st := []) h mX7_next cvX7_182 (inw ht) (by decide) ⟨by decide, by decide⟩ (Nat.le_of_ble_eq_true rfl) rfl rfl dX7_atom2_151 hF (fun u_24 w_25 hF => ?_)
        refine g_goto (pc := 154) (tgt := 161) h dX7_atom2_154 (by decide) ?_
        refine g_lv (lv' := [(1, .inl x_22)]) [0] rfl ?_
        exact kX7_atom2_161 h hr hnL ht _ _ hF
def fX7_atom2 (t : Nat) (w : Wd) : Option (Int32 × Wd) :=
  bnd (fX7_isSign t (45 : Int32) w) (fun x_1 w_2 => if x_1 = 0 then
    (bnd (fX7_isSign t (40 : Int32) w_2) (fun x_3 w_4 => if x_3 = 0 then
      (if (gI w_4 t 25) = 0 then
        (if (gI w_4 t 21) = (2 : Int32) then
          (lt ((gL w_4 t 23).toInt32) (fun x1_5 => bnd (fX7_next t w_4) (fun u_6 w_7 => fX7_atom2_161 t x1_5 w_7)))
        else
          (fX7_atom2_123 t (0 : Int32) w_4))
      else
        (fX7_atom2_123 t (0 : Int32) w_4))
    else
      (bnd (fX7_opens t w_4) (fun x_8 w_9 => if x_8 = 0 then
        (fX7_atom2_161 t (0 : Int32) w_9)
      else
        (bnd (fX7_either3 t w_9) (fun x_10 w_11 => bnd (fX7_isSign t (41 : Int32) w_11) (fun x_12 w_13 => if x_12 = 0 then
          (bnd (fX7_fail t w_13) (fun u_14 w_15 => fX7_atom2_71 t x_10 w_15))
        else
          (fX7_atom2_71 t x_10 w_13))))))))
  else
    (bnd (fX7_opens t w_2) (fun x_16 w_17 => if x_16 = 0 then
      (fX7_atom2_161 t (0 : Int32) w_17)
    else
      (bnd (fX7_atom3 t w_17) (fun x_18 w_19 => lt (-x_18) (fun x1_20 => lw (sI w_19 t 24 ((gI w_19 t 24) - (1 : Int32))) (fun w_21 => fX7_atom2_161 t x1_20 w_21)))))))
set_option maxHeartbeats 4000000 in
theorem mX7_atom2 {Γ : En} {t : Nat} {w : Wd} (ht : t < wn w ∧ kd t = 7) : MtI Γ yX7_atom2 cX7_atom2 2 (some .int) 24 0 0 [rv Γ (some t)] w (fX7_atom2 t w) := by
  refine mtI [.inr (.inl (some t))] rfl (Nat.le_of_ble_eq_true rfl) (fun X hΓ hnL hn0 h _ hr hF => ?_)
  subst hΓ
  have ht : InN X t 7 := ⟨by rw [hn0]; exact ht.1, ht.2⟩
  have h : Ok X cX7_atom2 RX7 24 0 0 := h
  have hj : ∀ j, j < 2 → j < nLX X := fun j q => by rw [hnL]; exact q
  show G X 0 0 0 [(0, .inr (.inl (some t)))] [] w
  unfold fX7_atom2 at hF
  refine g_iconst (pc := 0) (v := (0 : Int32)) h dX7_atom2_0 (by decide) ?_
  refine g_istore_n (pc := 1) (lv' := [(1, .inl (0 : Int32)), (0, .inr (.inl (some t)))]) h dX7_atom2_1 (hj 1 (by decide)) rfl ?_
  refine g_aload_n (pc := 2) h 1 rfl dX7_atom2_2 ?_
  refine g_bipush (pc := 3) (v := (45 : Int32)) h dX7_atom2_3 (by decide) ?_
  refine g_cvI (pc := 5) (st := []) h mX7_isSign cvX7_207 (inw ht) (by decide) ⟨by decide, by decide⟩ (Nat.le_of_ble_eq_true rfl) rfl rfl dX7_atom2_5 hF (fun x_1 w_2 hF => ?_)
  refine g_if_eq (pc := 8) (tgt := 37) h dX7_atom2_8 (by decide) hF (fun hF => ?_) (fun hF => ?_)
  · refine g_aload_n (pc := 37) h 1 rfl dX7_atom2_37 ?_
    refine g_bipush (pc := 38) (v := (40 : Int32)) h dX7_atom2_38 (by decide) ?_
    refine g_cvI (pc := 40) (st := []) h mX7_isSign cvX7_207 (inw ht) (by decide) ⟨by decide, by decide⟩ (Nat.le_of_ble_eq_true rfl) rfl rfl dX7_atom2_40 hF (fun x_3 w_4 hF => ?_)
    refine g_if_eq (pc := 43) (tgt := 95) h dX7_atom2_43 (by decide) hF (fun hF => ?_) (fun hF => ?_)
    · refine g_aload_n (pc := 95) h 1 rfl dX7_atom2_95 ?_
      refine g_getI (pc := 96) h fdX7_166 (inw ht) (by decide) dX7_atom2_96 ?_
      refine g_if_ne (pc := 99) (tgt := 123) h dX7_atom2_99 (by decide) hF (fun hF => ?_) (fun hF => ?_)
      · refine g_lv (lv' := [(0, .inr (.inl (some t))), (1, .inl (0 : Int32))]) [1, 0] rfl ?_
        exact kX7_atom2_123 h hr hnL ht _ _ hF
      · refine g_aload_n (pc := 102) h 1 rfl dX7_atom2_102 ?_
        refine g_getI (pc := 103) h fdX7_149 (inw ht) (by decide) dX7_atom2_103 ?_
        refine g_iconst (pc := 106) (v := (2 : Int32)) h dX7_atom2_106 (by decide) ?_
        refine g_icmp_ne (pc := 107) (tgt := 123) h dX7_atom2_107 (by decide) hF (fun hF => ?_) (fun hF => ?_)
        · refine g_lv (lv' := [(0, .inr (.inl (some t))), (1, .inl (0 : Int32))]) [1, 0] rfl ?_
          exact kX7_atom2_123 h hr hnL ht _ _ hF
        · refine g_aload_n (pc := 110) h 1 rfl dX7_atom2_110 ?_
          refine g_getL (pc := 111) h fdX7_160 (inw ht) rfl dX7_atom2_111 ?_
          refine g_l2i (pc := 114) h dX7_atom2_114 ?_
          refine g_t hF (fun x1_5 hF => ?_)
          refine g_istore_n (pc := 115) (lv' := [(1, .inl x1_5), (0, .inr (.inl (some t)))]) h dX7_atom2_115 (hj 1 (by decide)) rfl ?_
          refine g_aload_n (pc := 116) h 1 rfl dX7_atom2_116 ?_
          refine g_cvV (pc := 117) (st := []) h mX7_next cvX7_182 (inw ht) (by decide) ⟨by decide, by decide⟩ (Nat.le_of_ble_eq_true rfl) rfl rfl dX7_atom2_117 hF (fun u_6 w_7 hF => ?_)
          refine g_goto (pc := 120) (tgt := 161) h dX7_atom2_120 (by decide) ?_
          refine g_lv (lv' := [(1, .inl x1_5)]) [0] rfl ?_
          exact kX7_atom2_161 h hr hnL ht _ _ hF
    · refine g_aload_n (pc := 46) h 1 rfl dX7_atom2_46 ?_
      refine g_cvI (pc := 47) (st := []) h mX7_opens cvX7_210 (inw ht) (by decide) ⟨by decide, by decide⟩ (Nat.le_of_ble_eq_true rfl) rfl rfl dX7_atom2_47 hF (fun x_8 w_9 hF => ?_)
      refine g_if_eq (pc := 50) (tgt := 161) h dX7_atom2_50 (by decide) hF (fun hF => ?_) (fun hF => ?_)
      · refine g_lv (lv' := [(1, .inl (0 : Int32))]) [0] rfl ?_
        exact kX7_atom2_161 h hr hnL ht _ _ hF
      · refine g_aload_n (pc := 53) h 1 rfl dX7_atom2_53 ?_
        refine g_cvI (pc := 54) (st := []) h mX7_either3 cvX7_273 (inw ht) (by decide) ⟨by decide, by decide⟩ (Nat.le_of_ble_eq_true rfl) rfl rfl dX7_atom2_54 hF (fun x_10 w_11 hF => ?_)
        refine g_istore_n (pc := 57) (lv' := [(1, .inl x_10), (0, .inr (.inl (some t)))]) h dX7_atom2_57 (hj 1 (by decide)) rfl ?_
        refine g_aload_n (pc := 58) h 1 rfl dX7_atom2_58 ?_
        refine g_bipush (pc := 59) (v := (41 : Int32)) h dX7_atom2_59 (by decide) ?_
        refine g_cvI (pc := 61) (st := []) h mX7_isSign cvX7_207 (inw ht) (by decide) ⟨by decide, by decide⟩ (Nat.le_of_ble_eq_true rfl) rfl rfl dX7_atom2_61 hF (fun x_12 w_13 hF => ?_)
        refine g_if_ne (pc := 64) (tgt := 71) h dX7_atom2_64 (by decide) hF (fun hF => ?_) (fun hF => ?_)
        · refine g_lv (lv' := [(0, .inr (.inl (some t))), (1, .inl x_10)]) [1, 0] rfl ?_
          exact kX7_atom2_71 h hr hnL ht _ _ hF
        · refine g_aload_n (pc := 67) h 1 rfl dX7_atom2_67 ?_
          refine g_cvV (pc := 68) (st := []) h mX7_fail cvX7_179 (inw ht) (by decide) ⟨by decide, by decide⟩ (Nat.le_of_ble_eq_true rfl) rfl rfl dX7_atom2_68 hF (fun u_14 w_15 hF => ?_)
          refine g_lv (lv' := [(0, .inr (.inl (some t))), (1, .inl x_10)]) [1, 0] rfl ?_
          exact kX7_atom2_71 h hr hnL ht _ _ hF
  · refine g_aload_n (pc := 11) h 1 rfl dX7_atom2_11 ?_
    refine g_cvI (pc := 12) (st := []) h mX7_opens cvX7_210 (inw ht) (by decide) ⟨by decide, by decide⟩ (Nat.le_of_ble_eq_true rfl) rfl rfl dX7_atom2_12 hF (fun x_16 w_17 hF => ?_)
    refine g_if_eq (pc := 15) (tgt := 161) h dX7_atom2_15 (by decide) hF (fun hF => ?_) (fun hF => ?_)
    · refine g_lv (lv' := [(1, .inl (0 : Int32))]) [0] rfl ?_
      exact kX7_atom2_161 h hr hnL ht _ _ hF
    · refine g_aload_n (pc := 18) h 1 rfl dX7_atom2_18 ?_
      refine g_cvI (pc := 19) (st := []) h mX7_atom3 cvX7_258 (inw ht) (by decide) ⟨by decide, by decide⟩ (Nat.le_of_ble_eq_true rfl) rfl rfl dX7_atom2_19 hF (fun x_18 w_19 hF => ?_)
      refine g_ineg (pc := 22) h dX7_atom2_22 ?_
      refine g_t hF (fun x1_20 hF => ?_)
      refine g_istore_n (pc := 23) (lv' := [(1, .inl x1_20), (0, .inr (.inl (some t)))]) h dX7_atom2_23 (hj 1 (by decide)) rfl ?_
      refine g_aload_n (pc := 24) h 1 rfl dX7_atom2_24 ?_
      refine g_dup (pc := 25) h dX7_atom2_25 rv_cat ?_
      refine g_getI (pc := 26) h fdX7_176 (inw ht) (by decide) dX7_atom2_26 ?_
      refine g_iconst (pc := 29) (v := (1 : Int32)) h dX7_atom2_29 (by decide) ?_
      refine g_isub (pc := 30) h dX7_atom2_30 ?_
      refine g_putI (pc := 31) h fdX7_176 (inw ht) (by decide) ⟨rfl, rfl⟩ dX7_atom2_31 ?_
      refine g_w hF (fun w_21 hF => ?_)
      refine g_goto (pc := 34) (tgt := 161) h dX7_atom2_34 (by decide) ?_
      refine g_lv (lv' := [(1, .inl x1_20)]) [0] rfl ?_
      exact kX7_atom2_161 h hr hnL ht _ _ hF
def fX7_term2_5 (t : Nat) : Nat → Int32 → Wd → Option (Int32 × Wd)
  | 0 => fun _ _ => none
  | n + 1 => fun x1 w =>
    bnd (fX7_isSign t (42 : Int32) w) (fun x_3 w_4 => if x_3 = 0 then
      (some (x1, w_4))
    else
      (bnd (fX7_next t w_4) (fun u_5 w_6 => bnd (fX7_atom2 t w_6) (fun x_7 w_8 => lt (x1 * x_7) (fun x1_9 => fX7_term2_5 t n x1_9 w_8)))))
set_option maxHeartbeats 4000000 in
theorem kX7_term2_5 {X : Cx} (h : Ok X cX7_term2 RX7 25 0 0) (hr : RetI X .int 0 0) (hnL : nLX X = 2) {t : Nat} (ht : InN X t 7) : ∀ (fu : Nat) (x1 : Int32) (w : Wd), OkR X Value.int (fX7_term2_5 t fu x1 w) → G X 0 0 5 [(0, .inr (.inl (some t))), (1, .inl x1)] [] w := by
  have hj : ∀ j, j < 2 → j < nLX X := fun j q => by rw [hnL]; exact q
  intro fu
  induction fu with
  | zero => intro x1 w hF; exact okN hF
  | succ fu ih =>
    intro x1 w hF
    rw [fX7_term2_5] at hF
    refine g_aload_n (pc := 5) h 0 rfl dX7_term2_5 ?_
    refine g_bipush (pc := 6) (v := (42 : Int32)) h dX7_term2_6 (by decide) ?_
    refine g_cvI (pc := 8) (st := []) h mX7_isSign cvX7_207 (inw ht) (by decide) ⟨by decide, by decide⟩ (Nat.le_of_ble_eq_true rfl) rfl rfl dX7_term2_8 hF (fun x_3 w_4 hF => ?_)
    refine g_if_eq (pc := 11) (tgt := 28) h dX7_term2_11 (by decide) hF (fun hF => ?_) (fun hF => ?_)
    · refine g_iload_n (pc := 28) h 1 rfl dX7_term2_28 ?_
      exact g_iret (pc := 29) h hr ⟨Nat.le_refl _, Nat.le_refl _⟩ hF dX7_term2_29
    · refine g_aload_n (pc := 14) h 0 rfl dX7_term2_14 ?_
      refine g_cvV (pc := 15) (st := []) h mX7_next cvX7_182 (inw ht) (by decide) ⟨by decide, by decide⟩ (Nat.le_of_ble_eq_true rfl) rfl rfl dX7_term2_15 hF (fun u_5 w_6 hF => ?_)
      refine g_iload_n (pc := 18) h 1 rfl dX7_term2_18 ?_
      refine g_aload_n (pc := 19) h 0 rfl dX7_term2_19 ?_
      refine g_cvI (pc := 20) (st := [.int x1]) h mX7_atom2 cvX7_276 (inw ht) (by decide) ⟨by decide, by decide⟩ (Nat.le_of_ble_eq_true rfl) rfl rfl dX7_term2_20 hF (fun x_7 w_8 hF => ?_)
      refine g_imul (pc := 23) h dX7_term2_23 ?_
      refine g_t hF (fun x1_9 hF => ?_)
      refine g_istore_n (pc := 24) (lv' := [(1, .inl x1_9), (0, .inr (.inl (some t)))]) h dX7_term2_24 (hj 1 (by decide)) rfl ?_
      refine g_goto (pc := 25) (tgt := 5) h dX7_term2_25 (by decide) ?_
      refine g_lv (lv' := [(0, .inr (.inl (some t))), (1, .inl x1_9)]) [1, 0] rfl ?_
      exact ih _ _ hF
def fX7_term2 (t : Nat) (w : Wd) : Option (Int32 × Wd) :=
  bnd (fX7_atom2 t w) (fun x_1 w_2 => fX7_term2_5 t FU x_1 w_2)
set_option maxHeartbeats 4000000 in
theorem mX7_term2 {Γ : En} {t : Nat} {w : Wd} (ht : t < wn w ∧ kd t = 7) : MtI Γ yX7_term2 cX7_term2 2 (some .int) 25 0 0 [rv Γ (some t)] w (fX7_term2 t w) := by
  refine mtI [.inr (.inl (some t))] rfl (Nat.le_of_ble_eq_true rfl) (fun X hΓ hnL hn0 h _ hr hF => ?_)
  subst hΓ
  have ht : InN X t 7 := ⟨by rw [hn0]; exact ht.1, ht.2⟩
  have h : Ok X cX7_term2 RX7 25 0 0 := h
  have hj : ∀ j, j < 2 → j < nLX X := fun j q => by rw [hnL]; exact q
  show G X 0 0 0 [(0, .inr (.inl (some t)))] [] w
  unfold fX7_term2 at hF
  refine g_aload_n (pc := 0) h 0 rfl dX7_term2_0 ?_
  refine g_cvI (pc := 1) (st := []) h mX7_atom2 cvX7_276 (inw ht) (by decide) ⟨by decide, by decide⟩ (Nat.le_of_ble_eq_true rfl) rfl rfl dX7_term2_1 hF (fun x_1 w_2 hF => ?_)
  refine g_istore_n (pc := 4) (lv' := [(1, .inl x_1), (0, .inr (.inl (some t)))]) h dX7_term2_4 (hj 1 (by decide)) rfl ?_
  refine g_lv (lv' := [(0, .inr (.inl (some t))), (1, .inl x_1)]) [1, 0] rfl ?_
  exact kX7_term2_5 h hr hnL ht _ _ _ hF
def fX7_added2_62 (k5 : Int32 → Wd → Option (Int32 × Wd)) (t : Nat) (y0 : Int32) (w : Wd) : Option (Int32 × Wd) :=
  k5 y0 w
set_option maxHeartbeats 4000000 in
theorem kX7_added2_62 {X : Cx} (h : Ok X cX7_added2 RX7 26 0 0) (hr : RetI X .int 0 0) (hnL : nLX X = 4) {t : Nat} (ht : InN X t 7) {k5 : Int32 → Wd → Option (Int32 × Wd)} (hk5 : ∀ (x1 : Int32) (w : Wd), OkR X Value.int (k5 x1 w) → G X 0 0 5 [(0, .inr (.inl (some t))), (1, .inl x1)] [] w) : ∀ (y0 : Int32) (w : Wd), OkR X Value.int (fX7_added2_62 k5 t y0 w) → G X 0 0 62 [(0, .inr (.inl (some t)))] [.int y0] w := by
  have hj : ∀ j, j < 4 → j < nLX X := fun j q => by rw [hnL]; exact q
  intro y0 w hF
  unfold fX7_added2_62 at hF
  refine g_istore_n (pc := 62) (lv' := [(1, .inl y0), (0, .inr (.inl (some t)))]) h dX7_added2_62 (hj 1 (by decide)) rfl ?_
  refine g_goto (pc := 63) (tgt := 5) h dX7_added2_63 (by decide) ?_
  refine g_lv (lv' := [(0, .inr (.inl (some t))), (1, .inl y0)]) [1, 0] rfl ?_
  exact hk5 _ _ hF
def fX7_added2_39 (k5 : Int32 → Wd → Option (Int32 × Wd)) (t : Nat) (x1 : Int32) (y0 : Int32) (w : Wd) : Option (Int32 × Wd) :=
  bnd (fX7_next t w) (fun u_7 w_8 => bnd (fX7_term2 t w_8) (fun x_9 w_10 => if y0 = 0 then
    (fX7_added2_62 k5 t (x1 - x_9) w_10)
  else
    (fX7_added2_62 k5 t (x1 + x_9) w_10)))
set_option maxHeartbeats 4000000 in
theorem kX7_added2_39 {X : Cx} (h : Ok X cX7_added2 RX7 26 0 0) (hr : RetI X .int 0 0) (hnL : nLX X = 4) {t : Nat} (ht : InN X t 7) {k5 : Int32 → Wd → Option (Int32 × Wd)} (hk5 : ∀ (x1 : Int32) (w : Wd), OkR X Value.int (k5 x1 w) → G X 0 0 5 [(0, .inr (.inl (some t))), (1, .inl x1)] [] w) : ∀ (x1 : Int32) (y0 : Int32) (w : Wd), OkR X Value.int (fX7_added2_39 k5 t x1 y0 w) → G X 0 0 39 [(0, .inr (.inl (some t))), (1, .inl x1)] [.int y0] w := by
  have hj : ∀ j, j < 4 → j < nLX X := fun j q => by rw [hnL]; exact q
  intro x1 y0 w hF
  unfold fX7_added2_39 at hF
  refine g_istore_n (pc := 39) (lv' := [(2, .inl y0), (0, .inr (.inl (some t))), (1, .inl x1)]) h dX7_added2_39 (hj 2 (by decide)) rfl ?_
  refine g_aload_n (pc := 40) h 1 rfl dX7_added2_40 ?_
  refine g_cvV (pc := 41) (st := []) h mX7_next cvX7_182 (inw ht) (by decide) ⟨by decide, by decide⟩ (Nat.le_of_ble_eq_true rfl) rfl rfl dX7_added2_41 hF (fun u_7 w_8 hF => ?_)
  refine g_aload_n (pc := 44) h 1 rfl dX7_added2_44 ?_
  refine g_cvI (pc := 45) (st := []) h mX7_term2 cvX7_279 (inw ht) (by decide) ⟨by decide, by decide⟩ (Nat.le_of_ble_eq_true rfl) rfl rfl dX7_added2_45 hF (fun x_9 w_10 hF => ?_)
  refine g_istore_n (pc := 48) (lv' := [(3, .inl x_9), (2, .inl y0), (0, .inr (.inl (some t))), (1, .inl x1)]) h dX7_added2_48 (hj 3 (by decide)) rfl ?_
  refine g_iload_n (pc := 49) h 1 rfl dX7_added2_49 ?_
  refine g_if_eq (pc := 50) (tgt := 59) h dX7_added2_50 (by decide) hF (fun hF => ?_) (fun hF => ?_)
  · refine g_iload_n (pc := 59) h 3 rfl dX7_added2_59 ?_
    refine g_iload_n (pc := 60) h 0 rfl dX7_added2_60 ?_
    refine g_isub (pc := 61) h dX7_added2_61 ?_
    refine g_lv (lv' := [(0, .inr (.inl (some t)))]) [2] rfl ?_
    exact kX7_added2_62 h hr hnL ht hk5 _ _ hF
  · refine g_iload_n (pc := 53) h 3 rfl dX7_added2_53 ?_
    refine g_iload_n (pc := 54) h 0 rfl dX7_added2_54 ?_
    refine g_iadd (pc := 55) h dX7_added2_55 ?_
    refine g_goto (pc := 56) (tgt := 62) h dX7_added2_56 (by decide) ?_
    refine g_lv (lv' := [(0, .inr (.inl (some t)))]) [2] rfl ?_
    exact kX7_added2_62 h hr hnL ht hk5 _ _ hF
def fX7_added2_23 (k5 : Int32 → Wd → Option (Int32 × Wd)) (t : Nat) (x1 : Int32) (w : Wd) : Option (Int32 × Wd) :=
  if (lg_cmp (gL w t 23) (43 : Int64)) = 0 then
    (fX7_added2_39 k5 t x1 (1 : Int32) w)
  else
    (fX7_added2_39 k5 t x1 (0 : Int32) w)
set_option maxHeartbeats 4000000 in
theorem kX7_added2_23 {X : Cx} (h : Ok X cX7_added2 RX7 26 0 0) (hr : RetI X .int 0 0) (hnL : nLX X = 4) {t : Nat} (ht : InN X t 7) {k5 : Int32 → Wd → Option (Int32 × Wd)} (hk5 : ∀ (x1 : Int32) (w : Wd), OkR X Value.int (k5 x1 w) → G X 0 0 5 [(0, .inr (.inl (some t))), (1, .inl x1)] [] w) : ∀ (x1 : Int32) (w : Wd), OkR X Value.int (fX7_added2_23 k5 t x1 w) → G X 0 0 23 [(0, .inr (.inl (some t))), (1, .inl x1)] [] w := by
  have hj : ∀ j, j < 4 → j < nLX X := fun j q => by rw [hnL]; exact q
  intro x1 w hF
  unfold fX7_added2_23 at hF
  refine g_aload_n (pc := 23) h 0 rfl dX7_added2_23 ?_
  refine g_getL (pc := 24) h fdX7_160 (inw ht) rfl dX7_added2_24 ?_
  refine g_ldc2 (pc := 27) h wcL_X7_224 dX7_added2_27 ?_
  refine g_lcmp (pc := 30) h dX7_added2_30 ?_
  refine g_if_ne (pc := 31) (tgt := 38) h dX7_added2_31 (by decide) hF (fun hF => ?_) (fun hF => ?_)
  · refine g_iconst (pc := 38) (v := (0 : Int32)) h dX7_added2_38 (by decide) ?_
    exact kX7_added2_39 h hr hnL ht hk5 _ _ _ hF
  · refine g_iconst (pc := 34) (v := (1 : Int32)) h dX7_added2_34 (by decide) ?_
    refine g_goto (pc := 35) (tgt := 39) h dX7_added2_35 (by decide) ?_
    exact kX7_added2_39 h hr hnL ht hk5 _ _ _ hF
def fX7_added2_5 (t : Nat) : Nat → Int32 → Wd → Option (Int32 × Wd)
  | 0 => fun _ _ => none
  | n + 1 => fun x1 w =>
    bnd (fX7_isSign t (43 : Int32) w) (fun x_3 w_4 => if x_3 = 0 then
      (bnd (fX7_isSign t (45 : Int32) w_4) (fun x_5 w_6 => if x_5 = 0 then
        (some (x1, w_6))
      else
        (fX7_added2_23 (fX7_added2_5 t n) t x1 w_6)))
    else
      (fX7_added2_23 (fX7_added2_5 t n) t x1 w_4))
set_option maxHeartbeats 4000000 in
theorem kX7_added2_5 {X : Cx} (h : Ok X cX7_added2 RX7 26 0 0) (hr : RetI X .int 0 0) (hnL : nLX X = 4) {t : Nat} (ht : InN X t 7) : ∀ (fu : Nat) (x1 : Int32) (w : Wd), OkR X Value.int (fX7_added2_5 t fu x1 w) → G X 0 0 5 [(0, .inr (.inl (some t))), (1, .inl x1)] [] w := by
  have hj : ∀ j, j < 4 → j < nLX X := fun j q => by rw [hnL]; exact q
  intro fu
  induction fu with
  | zero => intro x1 w hF; exact okN hF
  | succ fu ih =>
    intro x1 w hF
    rw [fX7_added2_5] at hF
    refine g_aload_n (pc := 5) h 0 rfl dX7_added2_5 ?_
    refine g_bipush (pc := 6) (v := (43 : Int32)) h dX7_added2_6 (by decide) ?_
    refine g_cvI (pc := 8) (st := []) h mX7_isSign cvX7_207 (inw ht) (by decide) ⟨by decide, by decide⟩ (Nat.le_of_ble_eq_true rfl) rfl rfl dX7_added2_8 hF (fun x_3 w_4 hF => ?_)
    refine g_if_ne (pc := 11) (tgt := 23) h dX7_added2_11 (by decide) hF (fun hF => ?_) (fun hF => ?_)
    · exact kX7_added2_23 h hr hnL ht (fun z0 z1 hF => ih z0 z1 hF) _ _ hF
    · refine g_aload_n (pc := 14) h 0 rfl dX7_added2_14 ?_
      refine g_bipush (pc := 15) (v := (45 : Int32)) h dX7_added2_15 (by decide) ?_
      refine g_cvI (pc := 17) (st := []) h mX7_isSign cvX7_207 (inw ht) (by decide) ⟨by decide, by decide⟩ (Nat.le_of_ble_eq_true rfl) rfl rfl dX7_added2_17 hF (fun x_5 w_6 hF => ?_)
      refine g_if_eq (pc := 20) (tgt := 66) h dX7_added2_20 (by decide) hF (fun hF => ?_) (fun hF => ?_)
      · refine g_iload_n (pc := 66) h 1 rfl dX7_added2_66 ?_
        exact g_iret (pc := 67) h hr ⟨Nat.le_refl _, Nat.le_refl _⟩ hF dX7_added2_67
      · exact kX7_added2_23 h hr hnL ht (fun z0 z1 hF => ih z0 z1 hF) _ _ hF
def fX7_added2 (t : Nat) (w : Wd) : Option (Int32 × Wd) :=
  bnd (fX7_term2 t w) (fun x_1 w_2 => fX7_added2_5 t FU x_1 w_2)
set_option maxHeartbeats 4000000 in
theorem mX7_added2 {Γ : En} {t : Nat} {w : Wd} (ht : t < wn w ∧ kd t = 7) : MtI Γ yX7_added2 cX7_added2 4 (some .int) 26 0 0 [rv Γ (some t)] w (fX7_added2 t w) := by
  refine mtI [.inr (.inl (some t))] rfl (Nat.le_of_ble_eq_true rfl) (fun X hΓ hnL hn0 h _ hr hF => ?_)
  subst hΓ
  have ht : InN X t 7 := ⟨by rw [hn0]; exact ht.1, ht.2⟩
  have h : Ok X cX7_added2 RX7 26 0 0 := h
  have hj : ∀ j, j < 4 → j < nLX X := fun j q => by rw [hnL]; exact q
  show G X 0 0 0 [(0, .inr (.inl (some t)))] [] w
  unfold fX7_added2 at hF
  refine g_aload_n (pc := 0) h 0 rfl dX7_added2_0 ?_
  refine g_cvI (pc := 1) (st := []) h mX7_term2 cvX7_279 (inw ht) (by decide) ⟨by decide, by decide⟩ (Nat.le_of_ble_eq_true rfl) rfl rfl dX7_added2_1 hF (fun x_1 w_2 hF => ?_)
  refine g_istore_n (pc := 4) (lv' := [(1, .inl x_1), (0, .inr (.inl (some t)))]) h dX7_added2_4 (hj 1 (by decide)) rfl ?_
  refine g_lv (lv' := [(0, .inr (.inl (some t))), (1, .inl x_1)]) [1, 0] rfl ?_
  exact kX7_added2_5 h hr hnL ht _ _ _ hF
def fX7_not2_120 (t : Nat) (w : Wd) : Option (Int32 × Wd) :=
  some ((1 : Int32), w)
set_option maxHeartbeats 4000000 in
theorem kX7_not2_120 {X : Cx} (h : Ok X cX7_not2 RX7 27 0 0) (hr : RetI X .int 0 0) (hnL : nLX X = 4) {t : Nat} (ht : InN X t 7) : ∀ (w : Wd), OkR X Value.int (fX7_not2_120 t  w) → G X 0 0 120 [] [] w := by
  have hj : ∀ j, j < 4 → j < nLX X := fun j q => by rw [hnL]; exact q
  intro w hF
  unfold fX7_not2_120 at hF
  refine g_iconst (pc := 120) (v := (1 : Int32)) h dX7_not2_120 (by decide) ?_
  refine g_goto (pc := 121) (tgt := 125) h dX7_not2_121 (by decide) ?_
  exact g_iret (pc := 125) h hr ⟨Nat.le_refl _, Nat.le_refl _⟩ hF dX7_not2_125
def fX7_not2_93 (t : Nat) (x1 : Int32) (y0 : Int32) (w : Wd) : Option (Int32 × Wd) :=
  bnd (fX7_next t w) (fun u_14 w_15 => bnd (fX7_added2 t w_15) (fun x_16 w_17 => if y0 = 0 then
    (if x1 = x_16 then
      (fX7_not2_120 t w_17)
    else
      (some ((0 : Int32), w_17)))
  else
    (if x_16 ≤ x1 then
      (some ((0 : Int32), w_17))
    else
      (fX7_not2_120 t w_17))))
set_option maxHeartbeats 4000000 in
theorem kX7_not2_93 {X : Cx} (h : Ok X cX7_not2 RX7 27 0 0) (hr : RetI X .int 0 0) (hnL : nLX X = 4) {t : Nat} (ht : InN X t 7) : ∀ (x1 : Int32) (y0 : Int32) (w : Wd), OkR X Value.int (fX7_not2_93 t x1 y0 w) → G X 0 0 93 [(0, .inr (.inl (some t))), (1, .inl x1)] [.int y0] w := by
  have hj : ∀ j, j < 4 → j < nLX X := fun j q => by rw [hnL]; exact q
  intro x1 y0 w hF
  unfold fX7_not2_93 at hF
  refine g_istore_n (pc := 93) (lv' := [(2, .inl y0), (0, .inr (.inl (some t))), (1, .inl x1)]) h dX7_not2_93 (hj 2 (by decide)) rfl ?_
  refine g_aload_n (pc := 94) h 1 rfl dX7_not2_94 ?_
  refine g_cvV (pc := 95) (st := []) h mX7_next cvX7_182 (inw ht) (by decide) ⟨by decide, by decide⟩ (Nat.le_of_ble_eq_true rfl) rfl rfl dX7_not2_95 hF (fun u_14 w_15 hF => ?_)
  refine g_aload_n (pc := 98) h 1 rfl dX7_not2_98 ?_
  refine g_cvI (pc := 99) (st := []) h mX7_added2 cvX7_282 (inw ht) (by decide) ⟨by decide, by decide⟩ (Nat.le_of_ble_eq_true rfl) rfl rfl dX7_not2_99 hF (fun x_16 w_17 hF => ?_)
  refine g_istore_n (pc := 102) (lv' := [(3, .inl x_16), (2, .inl y0), (0, .inr (.inl (some t))), (1, .inl x1)]) h dX7_not2_102 (hj 3 (by decide)) rfl ?_
  refine g_iload_n (pc := 103) h 1 rfl dX7_not2_103 ?_
  refine g_if_eq (pc := 104) (tgt := 115) h dX7_not2_104 (by decide) hF (fun hF => ?_) (fun hF => ?_)
  · refine g_iload_n (pc := 115) h 3 rfl dX7_not2_115 ?_
    refine g_iload_n (pc := 116) h 0 rfl dX7_not2_116 ?_
    refine g_icmp_ne (pc := 117) (tgt := 124) h dX7_not2_117 (by decide) hF (fun hF => ?_) (fun hF => ?_)
    · refine g_iconst (pc := 124) (v := (0 : Int32)) h dX7_not2_124 (by decide) ?_
      exact g_iret (pc := 125) h hr ⟨Nat.le_refl _, Nat.le_refl _⟩ hF dX7_not2_125
    · refine g_lv (lv' := []) [] rfl ?_
      exact kX7_not2_120 h hr hnL ht _ hF
  · refine g_iload_n (pc := 107) h 3 rfl dX7_not2_107 ?_
    refine g_iload_n (pc := 108) h 0 rfl dX7_not2_108 ?_
    refine g_icmp_ge (pc := 109) (tgt := 124) h dX7_not2_109 (by decide) hF (fun hF => ?_) (fun hF => ?_)
    · refine g_iconst (pc := 124) (v := (0 : Int32)) h dX7_not2_124 (by decide) ?_
      exact g_iret (pc := 125) h hr ⟨Nat.le_refl _, Nat.le_refl _⟩ hF dX7_not2_125
    · refine g_goto (pc := 112) (tgt := 120) h dX7_not2_112 (by decide) ?_
      refine g_lv (lv' := []) [] rfl ?_
      exact kX7_not2_120 h hr hnL ht _ hF
def fX7_not2_77 (t : Nat) (x1 : Int32) (w : Wd) : Option (Int32 × Wd) :=
  if (lg_cmp (gL w t 23) (60 : Int64)) = 0 then
    (fX7_not2_93 t x1 (1 : Int32) w)
  else
    (fX7_not2_93 t x1 (0 : Int32) w)
set_option maxHeartbeats 4000000 in
theorem kX7_not2_77 {X : Cx} (h : Ok X cX7_not2 RX7 27 0 0) (hr : RetI X .int 0 0) (hnL : nLX X = 4) {t : Nat} (ht : InN X t 7) : ∀ (x1 : Int32) (w : Wd), OkR X Value.int (fX7_not2_77 t x1 w) → G X 0 0 77 [(0, .inr (.inl (some t))), (1, .inl x1)] [] w := by
  have hj : ∀ j, j < 4 → j < nLX X := fun j q => by rw [hnL]; exact q
  intro x1 w hF
  unfold fX7_not2_77 at hF
  refine g_aload_n (pc := 77) h 0 rfl dX7_not2_77 ?_
  refine g_getL (pc := 78) h fdX7_160 (inw ht) rfl dX7_not2_78 ?_
  refine g_ldc2 (pc := 81) h wcL_X7_229 dX7_not2_81 ?_
  refine g_lcmp (pc := 84) h dX7_not2_84 ?_
  refine g_if_ne (pc := 85) (tgt := 92) h dX7_not2_85 (by decide) hF (fun hF => ?_) (fun hF => ?_)
  · refine g_iconst (pc := 92) (v := (0 : Int32)) h dX7_not2_92 (by decide) ?_
    exact kX7_not2_93 h hr hnL ht _ _ _ hF
  · refine g_iconst (pc := 88) (v := (1 : Int32)) h dX7_not2_88 (by decide) ?_
    refine g_goto (pc := 89) (tgt := 93) h dX7_not2_89 (by decide) ?_
    exact kX7_not2_93 h hr hnL ht _ _ _ hF
def fX7_not2 (t : Nat) (w : Wd) : Option (Int32 × Wd) :=
  bnd (fX7_isWord t (110 : Int32) (111 : Int32) (116 : Int32) (0 : Int32) (0 : Int32) (0 : Int32) (0 : Int32) (0 : Int32) w) (fun x_1 w_2 => if x_1 = 0 then
    (bnd (fX7_added2 t w_2) (fun x_3 w_4 => bnd (fX7_isSign t (60 : Int32) w_4) (fun x_5 w_6 => if x_5 = 0 then
      (bnd (fX7_isSign t (61 : Int32) w_6) (fun x_7 w_8 => if x_7 = 0 then
        (some (x_3, w_8))
      else
        (fX7_not2_77 t x_3 w_8)))
    else
      (fX7_not2_77 t x_3 w_6))))
  else
    (bnd (fX7_opens t w_2) (fun x_9 w_10 => if x_9 = 0 then
      (some ((0 : Int32), w_10))
    else
      (bnd (fX7_not3 t w_10) (fun x_11 w_12 => lw (sI w_12 t 24 ((gI w_12 t 24) - (1 : Int32))) (fun w_13 => if x_11 = 0 then
        (some ((1 : Int32), w_13))
      else
        (some ((0 : Int32), w_13))))))))
set_option maxHeartbeats 4000000 in
theorem mX7_not2 {Γ : En} {t : Nat} {w : Wd} (ht : t < wn w ∧ kd t = 7) : MtI Γ yX7_not2 cX7_not2 4 (some .int) 27 0 0 [rv Γ (some t)] w (fX7_not2 t w) := by
  refine mtI [.inr (.inl (some t))] rfl (Nat.le_of_ble_eq_true rfl) (fun X hΓ hnL hn0 h _ hr hF => ?_)
  subst hΓ
  have ht : InN X t 7 := ⟨by rw [hn0]; exact ht.1, ht.2⟩
  have h : Ok X cX7_not2 RX7 27 0 0 := h
  have hj : ∀ j, j < 4 → j < nLX X := fun j q => by rw [hnL]; exact q
  show G X 0 0 0 [(0, .inr (.inl (some t)))] [] w
  unfold fX7_not2 at hF
  refine g_aload_n (pc := 0) h 0 rfl dX7_not2_0 ?_
  refine g_bipush (pc := 1) (v := (110 : Int32)) h dX7_not2_1 (by decide) ?_
  refine g_bipush (pc := 3) (v := (111 : Int32)) h dX7_not2_3 (by decide) ?_
  refine g_bipush (pc := 5) (v := (116 : Int32)) h dX7_not2_5 (by decide) ?_
  refine g_iconst (pc := 7) (v := (0 : Int32)) h dX7_not2_7 (by decide) ?_
  refine g_iconst (pc := 8) (v := (0 : Int32)) h dX7_not2_8 (by decide) ?_
  refine g_iconst (pc := 9) (v := (0 : Int32)) h dX7_not2_9 (by decide) ?_
  refine g_iconst (pc := 10) (v := (0 : Int32)) h dX7_not2_10 (by decide) ?_
  refine g_iconst (pc := 11) (v := (0 : Int32)) h dX7_not2_11 (by decide) ?_
  refine g_cvI (pc := 12) (st := []) h mX7_isWord cvX7_185 (inw ht) (by decide) ⟨by decide, by decide⟩ (Nat.le_of_ble_eq_true rfl) rfl rfl dX7_not2_12 hF (fun x_1 w_2 hF => ?_)
  refine g_if_eq (pc := 15) (tgt := 52) h dX7_not2_15 (by decide) hF (fun hF => ?_) (fun hF => ?_)
  · refine g_aload_n (pc := 52) h 0 rfl dX7_not2_52 ?_
    refine g_cvI (pc := 53) (st := []) h mX7_added2 cvX7_282 (inw ht) (by decide) ⟨by decide, by decide⟩ (Nat.le_of_ble_eq_true rfl) rfl rfl dX7_not2_53 hF (fun x_3 w_4 hF => ?_)
    refine g_istore_n (pc := 56) (lv' := [(1, .inl x_3), (0, .inr (.inl (some t)))]) h dX7_not2_56 (hj 1 (by decide)) rfl ?_
    refine g_aload_n (pc := 57) h 1 rfl dX7_not2_57 ?_
    refine g_bipush (pc := 58) (v := (60 : Int32)) h dX7_not2_58 (by decide) ?_
    refine g_cvI (pc := 60) (st := []) h mX7_isSign cvX7_207 (inw ht) (by decide) ⟨by decide, by decide⟩ (Nat.le_of_ble_eq_true rfl) rfl rfl dX7_not2_60 hF (fun x_5 w_6 hF => ?_)
    refine g_if_ne (pc := 63) (tgt := 77) h dX7_not2_63 (by decide) hF (fun hF => ?_) (fun hF => ?_)
    · refine g_lv (lv' := [(0, .inr (.inl (some t))), (1, .inl x_3)]) [1, 0] rfl ?_
      exact kX7_not2_77 h hr hnL ht _ _ hF
    · refine g_aload_n (pc := 66) h 1 rfl dX7_not2_66 ?_
      refine g_bipush (pc := 67) (v := (61 : Int32)) h dX7_not2_67 (by decide) ?_
      refine g_cvI (pc := 69) (st := []) h mX7_isSign cvX7_207 (inw ht) (by decide) ⟨by decide, by decide⟩ (Nat.le_of_ble_eq_true rfl) rfl rfl dX7_not2_69 hF (fun x_7 w_8 hF => ?_)
      refine g_if_ne (pc := 72) (tgt := 77) h dX7_not2_72 (by decide) hF (fun hF => ?_) (fun hF => ?_)
      · refine g_lv (lv' := [(0, .inr (.inl (some t))), (1, .inl x_3)]) [1, 0] rfl ?_
        exact kX7_not2_77 h hr hnL ht _ _ hF
      · refine g_iload_n (pc := 75) h 0 rfl dX7_not2_75 ?_
        exact g_iret (pc := 76) h hr ⟨Nat.le_refl _, Nat.le_refl _⟩ hF dX7_not2_76
  · refine g_aload_n (pc := 18) h 0 rfl dX7_not2_18 ?_
    refine g_cvI (pc := 19) (st := []) h mX7_opens cvX7_210 (inw ht) (by decide) ⟨by decide, by decide⟩ (Nat.le_of_ble_eq_true rfl) rfl rfl dX7_not2_19 hF (fun x_9 w_10 hF => ?_)
    refine g_if_ne (pc := 22) (tgt := 27) h dX7_not2_22 (by decide) hF (fun hF => ?_) (fun hF => ?_)
    · refine g_aload_n (pc := 27) h 0 rfl dX7_not2_27 ?_
      refine g_cvI (pc := 28) (st := []) h mX7_not3 cvX7_267 (inw ht) (by decide) ⟨by decide, by decide⟩ (Nat.le_of_ble_eq_true rfl) rfl rfl dX7_not2_28 hF (fun x_11 w_12 hF => ?_)
      refine g_istore_n (pc := 31) (lv' := [(1, .inl x_11), (0, .inr (.inl (some t)))]) h dX7_not2_31 (hj 1 (by decide)) rfl ?_
      refine g_aload_n (pc := 32) h 1 rfl dX7_not2_32 ?_
      refine g_dup (pc := 33) h dX7_not2_33 rv_cat ?_
      refine g_getI (pc := 34) h fdX7_176 (inw ht) (by decide) dX7_not2_34 ?_
      refine g_iconst (pc := 37) (v := (1 : Int32)) h dX7_not2_37 (by decide) ?_
      refine g_isub (pc := 38) h dX7_not2_38 ?_
      refine g_putI (pc := 39) h fdX7_176 (inw ht) (by decide) ⟨rfl, rfl⟩ dX7_not2_39 ?_
      refine g_w hF (fun w_13 hF => ?_)
      refine g_iload_n (pc := 42) h 0 rfl dX7_not2_42 ?_
      refine g_if_ne (pc := 43) (tgt := 50) h dX7_not2_43 (by decide) hF (fun hF => ?_) (fun hF => ?_)
      · refine g_iconst (pc := 50) (v := (0 : Int32)) h dX7_not2_50 (by decide) ?_
        exact g_iret (pc := 51) h hr ⟨Nat.le_refl _, Nat.le_refl _⟩ hF dX7_not2_51
      · refine g_iconst (pc := 46) (v := (1 : Int32)) h dX7_not2_46 (by decide) ?_
        refine g_goto (pc := 47) (tgt := 51) h dX7_not2_47 (by decide) ?_
        exact g_iret (pc := 51) h hr ⟨Nat.le_refl _, Nat.le_refl _⟩ hF dX7_not2_51
    · refine g_iconst (pc := 25) (v := (0 : Int32)) h dX7_not2_25 (by decide) ?_
      exact g_iret (pc := 26) h hr ⟨Nat.le_refl _, Nat.le_refl _⟩ hF dX7_not2_26
def fX7_both2_45 (k5 : Int32 → Wd → Option (Int32 × Wd)) (t : Nat) (y0 : Int32) (w : Wd) : Option (Int32 × Wd) :=
  k5 y0 w
set_option maxHeartbeats 4000000 in
theorem kX7_both2_45 {X : Cx} (h : Ok X cX7_both2 RX7 28 0 0) (hr : RetI X .int 0 0) (hnL : nLX X = 3) {t : Nat} (ht : InN X t 7) {k5 : Int32 → Wd → Option (Int32 × Wd)} (hk5 : ∀ (x1 : Int32) (w : Wd), OkR X Value.int (k5 x1 w) → G X 0 0 5 [(0, .inr (.inl (some t))), (1, .inl x1)] [] w) : ∀ (y0 : Int32) (w : Wd), OkR X Value.int (fX7_both2_45 k5 t y0 w) → G X 0 0 45 [(0, .inr (.inl (some t)))] [.int y0] w := by
  have hj : ∀ j, j < 3 → j < nLX X := fun j q => by rw [hnL]; exact q
  intro y0 w hF
  unfold fX7_both2_45 at hF
  refine g_istore_n (pc := 45) (lv' := [(1, .inl y0), (0, .inr (.inl (some t)))]) h dX7_both2_45 (hj 1 (by decide)) rfl ?_
  refine g_goto (pc := 46) (tgt := 5) h dX7_both2_46 (by decide) ?_
  refine g_lv (lv' := [(0, .inr (.inl (some t))), (1, .inl y0)]) [1, 0] rfl ?_
  exact hk5 _ _ hF
def fX7_both2_44 (k5 : Int32 → Wd → Option (Int32 × Wd)) (t : Nat) (w : Wd) : Option (Int32 × Wd) :=
  fX7_both2_45 k5 t (0 : Int32) w
set_option maxHeartbeats 4000000 in
theorem kX7_both2_44 {X : Cx} (h : Ok X cX7_both2 RX7 28 0 0) (hr : RetI X .int 0 0) (hnL : nLX X = 3) {t : Nat} (ht : InN X t 7) {k5 : Int32 → Wd → Option (Int32 × Wd)} (hk5 : ∀ (x1 : Int32) (w : Wd), OkR X Value.int (k5 x1 w) → G X 0 0 5 [(0, .inr (.inl (some t))), (1, .inl x1)] [] w) : ∀ (w : Wd), OkR X Value.int (fX7_both2_44 k5 t  w) → G X 0 0 44 [(0, .inr (.inl (some t)))] [] w := by
  have hj : ∀ j, j < 3 → j < nLX X := fun j q => by rw [hnL]; exact q
  intro w hF
  unfold fX7_both2_44 at hF
  refine g_iconst (pc := 44) (v := (0 : Int32)) h dX7_both2_44 (by decide) ?_
  exact kX7_both2_45 h hr hnL ht hk5 _ _ hF
def fX7_both2_5 (t : Nat) : Nat → Int32 → Wd → Option (Int32 × Wd)
  | 0 => fun _ _ => none
  | n + 1 => fun x1 w =>
    bnd (fX7_isWord t (97 : Int32) (110 : Int32) (100 : Int32) (0 : Int32) (0 : Int32) (0 : Int32) (0 : Int32) (0 : Int32) w) (fun x_3 w_4 => if x_3 = 0 then
      (some (x1, w_4))
    else
      (bnd (fX7_next t w_4) (fun u_5 w_6 => bnd (fX7_not2 t w_6) (fun x_7 w_8 => if x1 = 0 then
        (fX7_both2_44 (fX7_both2_5 t n) t w_8)
      else
        (if x_7 = 0 then
          (fX7_both2_44 (fX7_both2_5 t n) t w_8)
        else
          (fX7_both2_45 (fX7_both2_5 t n) t (1 : Int32) w_8))))))
set_option maxHeartbeats 4000000 in
theorem kX7_both2_5 {X : Cx} (h : Ok X cX7_both2 RX7 28 0 0) (hr : RetI X .int 0 0) (hnL : nLX X = 3) {t : Nat} (ht : InN X t 7) : ∀ (fu : Nat) (x1 : Int32) (w : Wd), OkR X Value.int (fX7_both2_5 t fu x1 w) → G X 0 0 5 [(0, .inr (.inl (some t))), (1, .inl x1)] [] w := by
  have hj : ∀ j, j < 3 → j < nLX X := fun j q => by rw [hnL]; exact q
  intro fu
  induction fu with
  | zero => intro x1 w hF; exact okN hF
  | succ fu ih =>
    intro x1 w hF
    rw [fX7_both2_5] at hF
    refine g_aload_n (pc := 5) h 0 rfl dX7_both2_5 ?_
    refine g_bipush (pc := 6) (v := (97 : Int32)) h dX7_both2_6 (by decide) ?_
    refine g_bipush (pc := 8) (v := (110 : Int32)) h dX7_both2_8 (by decide) ?_
    refine g_bipush (pc := 10) (v := (100 : Int32)) h dX7_both2_10 (by decide) ?_
    refine g_iconst (pc := 12) (v := (0 : Int32)) h dX7_both2_12 (by decide) ?_
    refine g_iconst (pc := 13) (v := (0 : Int32)) h dX7_both2_13 (by decide) ?_
    refine g_iconst (pc := 14) (v := (0 : Int32)) h dX7_both2_14 (by decide) ?_
    refine g_iconst (pc := 15) (v := (0 : Int32)) h dX7_both2_15 (by decide) ?_
    refine g_iconst (pc := 16) (v := (0 : Int32)) h dX7_both2_16 (by decide) ?_
    refine g_cvI (pc := 17) (st := []) h mX7_isWord cvX7_185 (inw ht) (by decide) ⟨by decide, by decide⟩ (Nat.le_of_ble_eq_true rfl) rfl rfl dX7_both2_17 hF (fun x_3 w_4 hF => ?_)
    refine g_if_eq (pc := 20) (tgt := 49) h dX7_both2_20 (by decide) hF (fun hF => ?_) (fun hF => ?_)
    · refine g_iload_n (pc := 49) h 1 rfl dX7_both2_49 ?_
      exact g_iret (pc := 50) h hr ⟨Nat.le_refl _, Nat.le_refl _⟩ hF dX7_both2_50
    · refine g_aload_n (pc := 23) h 0 rfl dX7_both2_23 ?_
      refine g_cvV (pc := 24) (st := []) h mX7_next cvX7_182 (inw ht) (by decide) ⟨by decide, by decide⟩ (Nat.le_of_ble_eq_true rfl) rfl rfl dX7_both2_24 hF (fun u_5 w_6 hF => ?_)
      refine g_aload_n (pc := 27) h 0 rfl dX7_both2_27 ?_
      refine g_cvI (pc := 28) (st := []) h mX7_not2 cvX7_285 (inw ht) (by decide) ⟨by decide, by decide⟩ (Nat.le_of_ble_eq_true rfl) rfl rfl dX7_both2_28 hF (fun x_7 w_8 hF => ?_)
      refine g_istore_n (pc := 31) (lv' := [(2, .inl x_7), (0, .inr (.inl (some t))), (1, .inl x1)]) h dX7_both2_31 (hj 2 (by decide)) rfl ?_
      refine g_iload_n (pc := 32) h 2 rfl dX7_both2_32 ?_
      refine g_if_eq (pc := 33) (tgt := 44) h dX7_both2_33 (by decide) hF (fun hF => ?_) (fun hF => ?_)
      · refine g_lv (lv' := [(0, .inr (.inl (some t)))]) [1] rfl ?_
        exact kX7_both2_44 h hr hnL ht (fun z0 z1 hF => ih z0 z1 hF) _ hF
      · refine g_iload_n (pc := 36) h 0 rfl dX7_both2_36 ?_
        refine g_if_eq (pc := 37) (tgt := 44) h dX7_both2_37 (by decide) hF (fun hF => ?_) (fun hF => ?_)
        · refine g_lv (lv' := [(0, .inr (.inl (some t)))]) [1] rfl ?_
          exact kX7_both2_44 h hr hnL ht (fun z0 z1 hF => ih z0 z1 hF) _ hF
        · refine g_iconst (pc := 40) (v := (1 : Int32)) h dX7_both2_40 (by decide) ?_
          refine g_goto (pc := 41) (tgt := 45) h dX7_both2_41 (by decide) ?_
          refine g_lv (lv' := [(0, .inr (.inl (some t)))]) [1] rfl ?_
          exact kX7_both2_45 h hr hnL ht (fun z0 z1 hF => ih z0 z1 hF) _ _ hF
def fX7_both2 (t : Nat) (w : Wd) : Option (Int32 × Wd) :=
  bnd (fX7_not2 t w) (fun x_1 w_2 => fX7_both2_5 t FU x_1 w_2)
set_option maxHeartbeats 4000000 in
theorem mX7_both2 {Γ : En} {t : Nat} {w : Wd} (ht : t < wn w ∧ kd t = 7) : MtI Γ yX7_both2 cX7_both2 3 (some .int) 28 0 0 [rv Γ (some t)] w (fX7_both2 t w) := by
  refine mtI [.inr (.inl (some t))] rfl (Nat.le_of_ble_eq_true rfl) (fun X hΓ hnL hn0 h _ hr hF => ?_)
  subst hΓ
  have ht : InN X t 7 := ⟨by rw [hn0]; exact ht.1, ht.2⟩
  have h : Ok X cX7_both2 RX7 28 0 0 := h
  have hj : ∀ j, j < 3 → j < nLX X := fun j q => by rw [hnL]; exact q
  show G X 0 0 0 [(0, .inr (.inl (some t)))] [] w
  unfold fX7_both2 at hF
  refine g_aload_n (pc := 0) h 0 rfl dX7_both2_0 ?_
  refine g_cvI (pc := 1) (st := []) h mX7_not2 cvX7_285 (inw ht) (by decide) ⟨by decide, by decide⟩ (Nat.le_of_ble_eq_true rfl) rfl rfl dX7_both2_1 hF (fun x_1 w_2 hF => ?_)
  refine g_istore_n (pc := 4) (lv' := [(1, .inl x_1), (0, .inr (.inl (some t)))]) h dX7_both2_4 (hj 1 (by decide)) rfl ?_
  refine g_lv (lv' := [(0, .inr (.inl (some t))), (1, .inl x_1)]) [1, 0] rfl ?_
  exact kX7_both2_5 h hr hnL ht _ _ _ hF
def fX7_either2_44 (k5 : Int32 → Wd → Option (Int32 × Wd)) (t : Nat) (y0 : Int32) (w : Wd) : Option (Int32 × Wd) :=
  k5 y0 w
set_option maxHeartbeats 4000000 in
theorem kX7_either2_44 {X : Cx} (h : Ok X cX7_either2 RX7 29 0 0) (hr : RetI X .int 0 0) (hnL : nLX X = 3) {t : Nat} (ht : InN X t 7) {k5 : Int32 → Wd → Option (Int32 × Wd)} (hk5 : ∀ (x1 : Int32) (w : Wd), OkR X Value.int (k5 x1 w) → G X 0 0 5 [(0, .inr (.inl (some t))), (1, .inl x1)] [] w) : ∀ (y0 : Int32) (w : Wd), OkR X Value.int (fX7_either2_44 k5 t y0 w) → G X 0 0 44 [(0, .inr (.inl (some t)))] [.int y0] w := by
  have hj : ∀ j, j < 3 → j < nLX X := fun j q => by rw [hnL]; exact q
  intro y0 w hF
  unfold fX7_either2_44 at hF
  refine g_istore_n (pc := 44) (lv' := [(1, .inl y0), (0, .inr (.inl (some t)))]) h dX7_either2_44 (hj 1 (by decide)) rfl ?_
  refine g_goto (pc := 45) (tgt := 5) h dX7_either2_45 (by decide) ?_
  refine g_lv (lv' := [(0, .inr (.inl (some t))), (1, .inl y0)]) [1, 0] rfl ?_
  exact hk5 _ _ hF
def fX7_either2_39 (k5 : Int32 → Wd → Option (Int32 × Wd)) (t : Nat) (w : Wd) : Option (Int32 × Wd) :=
  fX7_either2_44 k5 t (1 : Int32) w
set_option maxHeartbeats 4000000 in
theorem kX7_either2_39 {X : Cx} (h : Ok X cX7_either2 RX7 29 0 0) (hr : RetI X .int 0 0) (hnL : nLX X = 3) {t : Nat} (ht : InN X t 7) {k5 : Int32 → Wd → Option (Int32 × Wd)} (hk5 : ∀ (x1 : Int32) (w : Wd), OkR X Value.int (k5 x1 w) → G X 0 0 5 [(0, .inr (.inl (some t))), (1, .inl x1)] [] w) : ∀ (w : Wd), OkR X Value.int (fX7_either2_39 k5 t  w) → G X 0 0 39 [(0, .inr (.inl (some t)))] [] w := by
  have hj : ∀ j, j < 3 → j < nLX X := fun j q => by rw [hnL]; exact q
  intro w hF
  unfold fX7_either2_39 at hF
  refine g_iconst (pc := 39) (v := (1 : Int32)) h dX7_either2_39 (by decide) ?_
  refine g_goto (pc := 40) (tgt := 44) h dX7_either2_40 (by decide) ?_
  exact kX7_either2_44 h hr hnL ht hk5 _ _ hF
def fX7_either2_5 (t : Nat) : Nat → Int32 → Wd → Option (Int32 × Wd)
  | 0 => fun _ _ => none
  | n + 1 => fun x1 w =>
    bnd (fX7_isWord t (111 : Int32) (114 : Int32) (0 : Int32) (0 : Int32) (0 : Int32) (0 : Int32) (0 : Int32) (0 : Int32) w) (fun x_3 w_4 => if x_3 = 0 then
      (some (x1, w_4))
    else
      (bnd (fX7_next t w_4) (fun u_5 w_6 => bnd (fX7_both2 t w_6) (fun x_7 w_8 => if x1 = 0 then
        (if x_7 = 0 then
          (fX7_either2_44 (fX7_either2_5 t n) t (0 : Int32) w_8)
        else
          (fX7_either2_39 (fX7_either2_5 t n) t w_8))
      else
        (fX7_either2_39 (fX7_either2_5 t n) t w_8)))))
set_option maxHeartbeats 4000000 in
theorem kX7_either2_5 {X : Cx} (h : Ok X cX7_either2 RX7 29 0 0) (hr : RetI X .int 0 0) (hnL : nLX X = 3) {t : Nat} (ht : InN X t 7) : ∀ (fu : Nat) (x1 : Int32) (w : Wd), OkR X Value.int (fX7_either2_5 t fu x1 w) → G X 0 0 5 [(0, .inr (.inl (some t))), (1, .inl x1)] [] w := by
  have hj : ∀ j, j < 3 → j < nLX X := fun j q => by rw [hnL]; exact q
  intro fu
  induction fu with
  | zero => intro x1 w hF; exact okN hF
  | succ fu ih =>
    intro x1 w hF
    rw [fX7_either2_5] at hF
    refine g_aload_n (pc := 5) h 0 rfl dX7_either2_5 ?_
    refine g_bipush (pc := 6) (v := (111 : Int32)) h dX7_either2_6 (by decide) ?_
    refine g_bipush (pc := 8) (v := (114 : Int32)) h dX7_either2_8 (by decide) ?_
    refine g_iconst (pc := 10) (v := (0 : Int32)) h dX7_either2_10 (by decide) ?_
    refine g_iconst (pc := 11) (v := (0 : Int32)) h dX7_either2_11 (by decide) ?_
    refine g_iconst (pc := 12) (v := (0 : Int32)) h dX7_either2_12 (by decide) ?_
    refine g_iconst (pc := 13) (v := (0 : Int32)) h dX7_either2_13 (by decide) ?_
    refine g_iconst (pc := 14) (v := (0 : Int32)) h dX7_either2_14 (by decide) ?_
    refine g_iconst (pc := 15) (v := (0 : Int32)) h dX7_either2_15 (by decide) ?_
    refine g_cvI (pc := 16) (st := []) h mX7_isWord cvX7_185 (inw ht) (by decide) ⟨by decide, by decide⟩ (Nat.le_of_ble_eq_true rfl) rfl rfl dX7_either2_16 hF (fun x_3 w_4 hF => ?_)
    refine g_if_eq (pc := 19) (tgt := 48) h dX7_either2_19 (by decide) hF (fun hF => ?_) (fun hF => ?_)
    · refine g_iload_n (pc := 48) h 1 rfl dX7_either2_48 ?_
      exact g_iret (pc := 49) h hr ⟨Nat.le_refl _, Nat.le_refl _⟩ hF dX7_either2_49
    · refine g_aload_n (pc := 22) h 0 rfl dX7_either2_22 ?_
      refine g_cvV (pc := 23) (st := []) h mX7_next cvX7_182 (inw ht) (by decide) ⟨by decide, by decide⟩ (Nat.le_of_ble_eq_true rfl) rfl rfl dX7_either2_23 hF (fun u_5 w_6 hF => ?_)
      refine g_aload_n (pc := 26) h 0 rfl dX7_either2_26 ?_
      refine g_cvI (pc := 27) (st := []) h mX7_both2 cvX7_288 (inw ht) (by decide) ⟨by decide, by decide⟩ (Nat.le_of_ble_eq_true rfl) rfl rfl dX7_either2_27 hF (fun x_7 w_8 hF => ?_)
      refine g_istore_n (pc := 30) (lv' := [(2, .inl x_7), (0, .inr (.inl (some t))), (1, .inl x1)]) h dX7_either2_30 (hj 2 (by decide)) rfl ?_
      refine g_iload_n (pc := 31) h 2 rfl dX7_either2_31 ?_
      refine g_if_ne (pc := 32) (tgt := 39) h dX7_either2_32 (by decide) hF (fun hF => ?_) (fun hF => ?_)
      · refine g_lv (lv' := [(0, .inr (.inl (some t)))]) [1] rfl ?_
        exact kX7_either2_39 h hr hnL ht (fun z0 z1 hF => ih z0 z1 hF) _ hF
      · refine g_iload_n (pc := 35) h 0 rfl dX7_either2_35 ?_
        refine g_if_eq (pc := 36) (tgt := 43) h dX7_either2_36 (by decide) hF (fun hF => ?_) (fun hF => ?_)
        · refine g_iconst (pc := 43) (v := (0 : Int32)) h dX7_either2_43 (by decide) ?_
          refine g_lv (lv' := [(0, .inr (.inl (some t)))]) [1] rfl ?_
          exact kX7_either2_44 h hr hnL ht (fun z0 z1 hF => ih z0 z1 hF) _ _ hF
        · refine g_lv (lv' := [(0, .inr (.inl (some t)))]) [1] rfl ?_
          exact kX7_either2_39 h hr hnL ht (fun z0 z1 hF => ih z0 z1 hF) _ hF
def fX7_either2 (t : Nat) (w : Wd) : Option (Int32 × Wd) :=
  bnd (fX7_both2 t w) (fun x_1 w_2 => fX7_either2_5 t FU x_1 w_2)
set_option maxHeartbeats 4000000 in
theorem mX7_either2 {Γ : En} {t : Nat} {w : Wd} (ht : t < wn w ∧ kd t = 7) : MtI Γ yX7_either2 cX7_either2 3 (some .int) 29 0 0 [rv Γ (some t)] w (fX7_either2 t w) := by
  refine mtI [.inr (.inl (some t))] rfl (Nat.le_of_ble_eq_true rfl) (fun X hΓ hnL hn0 h _ hr hF => ?_)
  subst hΓ
  have ht : InN X t 7 := ⟨by rw [hn0]; exact ht.1, ht.2⟩
  have h : Ok X cX7_either2 RX7 29 0 0 := h
  have hj : ∀ j, j < 3 → j < nLX X := fun j q => by rw [hnL]; exact q
  show G X 0 0 0 [(0, .inr (.inl (some t)))] [] w
  unfold fX7_either2 at hF
  refine g_aload_n (pc := 0) h 0 rfl dX7_either2_0 ?_
  refine g_cvI (pc := 1) (st := []) h mX7_both2 cvX7_288 (inw ht) (by decide) ⟨by decide, by decide⟩ (Nat.le_of_ble_eq_true rfl) rfl rfl dX7_either2_1 hF (fun x_1 w_2 hF => ?_)
  refine g_istore_n (pc := 4) (lv' := [(1, .inl x_1), (0, .inr (.inl (some t)))]) h dX7_either2_4 (hj 1 (by decide)) rfl ?_
  refine g_lv (lv' := [(0, .inr (.inl (some t))), (1, .inl x_1)]) [1, 0] rfl ?_
  exact kX7_either2_5 h hr hnL ht _ _ _ hF
def fX7_atom1_161 (t : Nat) (x1 : Int32) (w : Wd) : Option (Int32 × Wd) :=
  some (x1, w)
set_option maxHeartbeats 4000000 in
theorem kX7_atom1_161 {X : Cx} (h : Ok X cX7_atom1 RX7 30 0 0) (hr : RetI X .int 0 0) (hnL : nLX X = 2) {t : Nat} (ht : InN X t 7) : ∀ (x1 : Int32) (w : Wd), OkR X Value.int (fX7_atom1_161 t x1 w) → G X 0 0 161 [(1, .inl x1)] [] w := by
  have hj : ∀ j, j < 2 → j < nLX X := fun j q => by rw [hnL]; exact q
  intro x1 w hF
  unfold fX7_atom1_161 at hF
  refine g_iload_n (pc := 161) h 0 rfl dX7_atom1_161 ?_
  exact g_iret (pc := 162) h hr ⟨Nat.le_refl _, Nat.le_refl _⟩ hF dX7_atom1_162
def fX7_atom1_71 (t : Nat) (x1 : Int32) (w : Wd) : Option (Int32 × Wd) :=
  lw (sI w t 24 ((gI w t 24) - (1 : Int32))) (fun w_26 => if (gI w_26 t 25) = 0 then
    (bnd (fX7_next t w_26) (fun u_27 w_28 => fX7_atom1_161 t x1 w_28))
  else
    (fX7_atom1_161 t x1 w_26))
set_option maxHeartbeats 4000000 in
theorem kX7_atom1_71 {X : Cx} (h : Ok X cX7_atom1 RX7 30 0 0) (hr : RetI X .int 0 0) (hnL : nLX X = 2) {t : Nat} (ht : InN X t 7) : ∀ (x1 : Int32) (w : Wd), OkR X Value.int (fX7_atom1_71 t x1 w) → G X 0 0 71 [(0, .inr (.inl (some t))), (1, .inl x1)] [] w := by
  have hj : ∀ j, j < 2 → j < nLX X := fun j q => by rw [hnL]; exact q
  intro x1 w hF
  unfold fX7_atom1_71 at hF
  refine g_aload_n (pc := 71) h 0 rfl dX7_atom1_71 ?_
  refine g_dup (pc := 72) h dX7_atom1_72 rv_cat ?_
  refine g_getI (pc := 73) h fdX7_176 (inw ht) (by decide) dX7_atom1_73 ?_
  refine g_iconst (pc := 76) (v := (1 : Int32)) h dX7_atom1_76 (by decide) ?_
  refine g_isub (pc := 77) h dX7_atom1_77 ?_
  refine g_putI (pc := 78) h fdX7_176 (inw ht) (by decide) ⟨rfl, rfl⟩ dX7_atom1_78 ?_
  refine g_w hF (fun w_26 hF => ?_)
  refine g_aload_n (pc := 81) h 0 rfl dX7_atom1_81 ?_
  refine g_getI (pc := 82) h fdX7_166 (inw ht) (by decide) dX7_atom1_82 ?_
  refine g_if_ne (pc := 85) (tgt := 161) h dX7_atom1_85 (by decide) hF (fun hF => ?_) (fun hF => ?_)
  · refine g_lv (lv' := [(1, .inl x1)]) [1] rfl ?_
    exact kX7_atom1_161 h hr hnL ht _ _ hF
  · refine g_aload_n (pc := 88) h 0 rfl dX7_atom1_88 ?_
    refine g_cvV (pc := 89) (st := []) h mX7_next cvX7_182 (inw ht) (by decide) ⟨by decide, by decide⟩ (Nat.le_of_ble_eq_true rfl) rfl rfl dX7_atom1_89 hF (fun u_27 w_28 hF => ?_)
    refine g_goto (pc := 92) (tgt := 161) h dX7_atom1_92 (by decide) ?_
    refine g_lv (lv' := [(1, .inl x1)]) [1] rfl ?_
    exact kX7_atom1_161 h hr hnL ht _ _ hF
def fX7_atom1_157 (t : Nat) (x1 : Int32) (w : Wd) : Option (Int32 × Wd) :=
  bnd (fX7_fail t w) (fun u_29 w_30 => fX7_atom1_161 t x1 w_30)
set_option maxHeartbeats 4000000 in
theorem kX7_atom1_157 {X : Cx} (h : Ok X cX7_atom1 RX7 30 0 0) (hr : RetI X .int 0 0) (hnL : nLX X = 2) {t : Nat} (ht : InN X t 7) : ∀ (x1 : Int32) (w : Wd), OkR X Value.int (fX7_atom1_157 t x1 w) → G X 0 0 157 [(0, .inr (.inl (some t))), (1, .inl x1)] [] w := by
  have hj : ∀ j, j < 2 → j < nLX X := fun j q => by rw [hnL]; exact q
  intro x1 w hF
  unfold fX7_atom1_157 at hF
  refine g_aload_n (pc := 157) h 0 rfl dX7_atom1_157 ?_
  refine g_cvV (pc := 158) (st := []) h mX7_fail cvX7_179 (inw ht) (by decide) ⟨by decide, by decide⟩ (Nat.le_of_ble_eq_true rfl) rfl rfl dX7_atom1_158 hF (fun u_29 w_30 hF => ?_)
  refine g_lv (lv' := [(1, .inl x1)]) [1] rfl ?_
  exact kX7_atom1_161 h hr hnL ht _ _ hF
def fX7_atom1_123 (t : Nat) (x1 : Int32) (w : Wd) : Option (Int32 × Wd) :=
  if (gI w t 25) = 0 then
    (if (gI w t 21) = (1 : Int32) then
      (bnd (fX7_name t w) (fun x_22 w_23 => if (gI w_23 t 25) = 0 then
        (bnd (fX7_next t w_23) (fun u_24 w_25 => fX7_atom1_161 t x_22 w_25))
      else
        (fX7_atom1_161 t x_22 w_23)))
    else
      (fX7_atom1_157 t x1 w))
  else
    (fX7_atom1_157 t x1 w)
set_option maxHeartbeats 4000000 in
theorem kX7_atom1_123 {X : Cx} (h : Ok X cX7_atom1 RX7 30 0 0) (hr : RetI X .int 0 0) (hnL : nLX X = 2) {t : Nat} (ht : InN X t 7) : ∀ (x1 : Int32) (w : Wd), OkR X Value.int (fX7_atom1_123 t x1 w) → G X 0 0 123 [(0, .inr (.inl (some t))), (1, .inl x1)] [] w := by
  have hj : ∀ j, j < 2 → j < nLX X := fun j q => by rw [hnL]; exact q
  intro x1 w hF
  unfold fX7_atom1_123 at hF
  refine g_aload_n (pc := 123) h 0 rfl dX7_atom1_123 ?_
  refine g_getI (pc := 124) h fdX7_166 (inw ht) (by decide) dX7_atom1_124 ?_
  refine g_if_ne (pc := 127) (tgt := 157) h dX7_atom1_127 (by decide) hF (fun hF => ?_) (fun hF => ?_)
  · exact kX7_atom1_157 h hr hnL ht _ _ hF
  · refine g_aload_n (pc := 130) h 0 rfl dX7_atom1_130 ?_
    refine g_getI (pc := 131) h fdX7_149 (inw ht) (by decide) dX7_atom1_131 ?_
    refine g_iconst (pc := 134) (v := (1 : Int32)) h dX7_atom1_134 (by decide) ?_
    refine g_icmp_ne (pc := 135) (tgt := 157) h dX7_atom1_135 (by decide) hF (fun hF => ?_) (fun hF => ?_)
    · exact kX7_atom1_157 h hr hnL ht _ _ hF
    · refine g_aload_n (pc := 138) h 0 rfl dX7_atom1_138 ?_
      refine g_cvI (pc := 139) (st := []) h mX7_name cvX7_214 (inw ht) (by decide) ⟨by decide, by decide⟩ (Nat.le_of_ble_eq_true rfl) rfl rfl dX7_atom1_139 hF (fun x_22 w_23 hF => ?_)
      refine g_istore_n (pc := 142) (lv' := [(1, .inl x_22), (0, .inr (.inl (some t)))]) h dX7_atom1_142 (hj 1 (by decide)) rfl ?_
      refine g_aload_n (pc := 143) h 1 rfl dX7_atom1_143 ?_
      refine g_getI (pc := 144) h fdX7_166 (inw ht) (by decide) dX7_atom1_144 ?_
      refine g_if_ne (pc := 147) (tgt := 161) h dX7_atom1_147 (by decide) hF (fun hF => ?_) (fun hF => ?_)
      · refine g_lv (lv' := [(1, .inl x_22)]) [0] rfl ?_
        exact kX7_atom1_161 h hr hnL ht _ _ hF
      · refine g_aload_n (pc := 150) h 1 rfl dX7_atom1_150 ?_
        refine g_cvV (pc := 151) (st := []) h mX7_next cvX7_182 (inw ht) (by decide) ⟨by decide, by decide⟩ (Nat.le_of_ble_eq_true rfl) rfl rfl dX7_atom1_151 hF (fun u_24 w_25 hF => ?_)
        refine g_goto (pc := 154) (tgt := 161) h dX7_atom1_154 (by decide) ?_
        refine g_lv (lv' := [(1, .inl x_22)]) [0] rfl ?_
        exact kX7_atom1_161 h hr hnL ht _ _ hF
def fX7_atom1 (t : Nat) (w : Wd) : Option (Int32 × Wd) :=
  bnd (fX7_isSign t (45 : Int32) w) (fun x_1 w_2 => if x_1 = 0 then
    (bnd (fX7_isSign t (40 : Int32) w_2) (fun x_3 w_4 => if x_3 = 0 then
      (if (gI w_4 t 25) = 0 then
        (if (gI w_4 t 21) = (2 : Int32) then
          (lt ((gL w_4 t 23).toInt32) (fun x1_5 => bnd (fX7_next t w_4) (fun u_6 w_7 => fX7_atom1_161 t x1_5 w_7)))
        else
          (fX7_atom1_123 t (0 : Int32) w_4))
      else
        (fX7_atom1_123 t (0 : Int32) w_4))
    else
      (bnd (fX7_opens t w_4) (fun x_8 w_9 => if x_8 = 0 then
        (fX7_atom1_161 t (0 : Int32) w_9)
      else
        (bnd (fX7_either2 t w_9) (fun x_10 w_11 => bnd (fX7_isSign t (41 : Int32) w_11) (fun x_12 w_13 => if x_12 = 0 then
          (bnd (fX7_fail t w_13) (fun u_14 w_15 => fX7_atom1_71 t x_10 w_15))
        else
          (fX7_atom1_71 t x_10 w_13))))))))
  else
    (bnd (fX7_opens t w_2) (fun x_16 w_17 => if x_16 = 0 then
      (fX7_atom1_161 t (0 : Int32) w_17)
    else
      (bnd (fX7_atom2 t w_17) (fun x_18 w_19 => lt (-x_18) (fun x1_20 => lw (sI w_19 t 24 ((gI w_19 t 24) - (1 : Int32))) (fun w_21 => fX7_atom1_161 t x1_20 w_21)))))))
set_option maxHeartbeats 4000000 in
theorem mX7_atom1 {Γ : En} {t : Nat} {w : Wd} (ht : t < wn w ∧ kd t = 7) : MtI Γ yX7_atom1 cX7_atom1 2 (some .int) 30 0 0 [rv Γ (some t)] w (fX7_atom1 t w) := by
  refine mtI [.inr (.inl (some t))] rfl (Nat.le_of_ble_eq_true rfl) (fun X hΓ hnL hn0 h _ hr hF => ?_)
  subst hΓ
  have ht : InN X t 7 := ⟨by rw [hn0]; exact ht.1, ht.2⟩
  have h : Ok X cX7_atom1 RX7 30 0 0 := h
  have hj : ∀ j, j < 2 → j < nLX X := fun j q => by rw [hnL]; exact q
  show G X 0 0 0 [(0, .inr (.inl (some t)))] [] w
  unfold fX7_atom1 at hF
  refine g_iconst (pc := 0) (v := (0 : Int32)) h dX7_atom1_0 (by decide) ?_
  refine g_istore_n (pc := 1) (lv' := [(1, .inl (0 : Int32)), (0, .inr (.inl (some t)))]) h dX7_atom1_1 (hj 1 (by decide)) rfl ?_
  refine g_aload_n (pc := 2) h 1 rfl dX7_atom1_2 ?_
  refine g_bipush (pc := 3) (v := (45 : Int32)) h dX7_atom1_3 (by decide) ?_
  refine g_cvI (pc := 5) (st := []) h mX7_isSign cvX7_207 (inw ht) (by decide) ⟨by decide, by decide⟩ (Nat.le_of_ble_eq_true rfl) rfl rfl dX7_atom1_5 hF (fun x_1 w_2 hF => ?_)
  refine g_if_eq (pc := 8) (tgt := 37) h dX7_atom1_8 (by decide) hF (fun hF => ?_) (fun hF => ?_)
  · refine g_aload_n (pc := 37) h 1 rfl dX7_atom1_37 ?_
    refine g_bipush (pc := 38) (v := (40 : Int32)) h dX7_atom1_38 (by decide) ?_
    refine g_cvI (pc := 40) (st := []) h mX7_isSign cvX7_207 (inw ht) (by decide) ⟨by decide, by decide⟩ (Nat.le_of_ble_eq_true rfl) rfl rfl dX7_atom1_40 hF (fun x_3 w_4 hF => ?_)
    refine g_if_eq (pc := 43) (tgt := 95) h dX7_atom1_43 (by decide) hF (fun hF => ?_) (fun hF => ?_)
    · refine g_aload_n (pc := 95) h 1 rfl dX7_atom1_95 ?_
      refine g_getI (pc := 96) h fdX7_166 (inw ht) (by decide) dX7_atom1_96 ?_
      refine g_if_ne (pc := 99) (tgt := 123) h dX7_atom1_99 (by decide) hF (fun hF => ?_) (fun hF => ?_)
      · refine g_lv (lv' := [(0, .inr (.inl (some t))), (1, .inl (0 : Int32))]) [1, 0] rfl ?_
        exact kX7_atom1_123 h hr hnL ht _ _ hF
      · refine g_aload_n (pc := 102) h 1 rfl dX7_atom1_102 ?_
        refine g_getI (pc := 103) h fdX7_149 (inw ht) (by decide) dX7_atom1_103 ?_
        refine g_iconst (pc := 106) (v := (2 : Int32)) h dX7_atom1_106 (by decide) ?_
        refine g_icmp_ne (pc := 107) (tgt := 123) h dX7_atom1_107 (by decide) hF (fun hF => ?_) (fun hF => ?_)
        · refine g_lv (lv' := [(0, .inr (.inl (some t))), (1, .inl (0 : Int32))]) [1, 0] rfl ?_
          exact kX7_atom1_123 h hr hnL ht _ _ hF
        · refine g_aload_n (pc := 110) h 1 rfl dX7_atom1_110 ?_
          refine g_getL (pc := 111) h fdX7_160 (inw ht) rfl dX7_atom1_111 ?_
          refine g_l2i (pc := 114) h dX7_atom1_114 ?_
          refine g_t hF (fun x1_5 hF => ?_)
          refine g_istore_n (pc := 115) (lv' := [(1, .inl x1_5), (0, .inr (.inl (some t)))]) h dX7_atom1_115 (hj 1 (by decide)) rfl ?_
          refine g_aload_n (pc := 116) h 1 rfl dX7_atom1_116 ?_
          refine g_cvV (pc := 117) (st := []) h mX7_next cvX7_182 (inw ht) (by decide) ⟨by decide, by decide⟩ (Nat.le_of_ble_eq_true rfl) rfl rfl dX7_atom1_117 hF (fun u_6 w_7 hF => ?_)
          refine g_goto (pc := 120) (tgt := 161) h dX7_atom1_120 (by decide) ?_
          refine g_lv (lv' := [(1, .inl x1_5)]) [0] rfl ?_
          exact kX7_atom1_161 h hr hnL ht _ _ hF
    · refine g_aload_n (pc := 46) h 1 rfl dX7_atom1_46 ?_
      refine g_cvI (pc := 47) (st := []) h mX7_opens cvX7_210 (inw ht) (by decide) ⟨by decide, by decide⟩ (Nat.le_of_ble_eq_true rfl) rfl rfl dX7_atom1_47 hF (fun x_8 w_9 hF => ?_)
      refine g_if_eq (pc := 50) (tgt := 161) h dX7_atom1_50 (by decide) hF (fun hF => ?_) (fun hF => ?_)
      · refine g_lv (lv' := [(1, .inl (0 : Int32))]) [0] rfl ?_
        exact kX7_atom1_161 h hr hnL ht _ _ hF
      · refine g_aload_n (pc := 53) h 1 rfl dX7_atom1_53 ?_
        refine g_cvI (pc := 54) (st := []) h mX7_either2 cvX7_291 (inw ht) (by decide) ⟨by decide, by decide⟩ (Nat.le_of_ble_eq_true rfl) rfl rfl dX7_atom1_54 hF (fun x_10 w_11 hF => ?_)
        refine g_istore_n (pc := 57) (lv' := [(1, .inl x_10), (0, .inr (.inl (some t)))]) h dX7_atom1_57 (hj 1 (by decide)) rfl ?_
        refine g_aload_n (pc := 58) h 1 rfl dX7_atom1_58 ?_
        refine g_bipush (pc := 59) (v := (41 : Int32)) h dX7_atom1_59 (by decide) ?_
        refine g_cvI (pc := 61) (st := []) h mX7_isSign cvX7_207 (inw ht) (by decide) ⟨by decide, by decide⟩ (Nat.le_of_ble_eq_true rfl) rfl rfl dX7_atom1_61 hF (fun x_12 w_13 hF => ?_)
        refine g_if_ne (pc := 64) (tgt := 71) h dX7_atom1_64 (by decide) hF (fun hF => ?_) (fun hF => ?_)
        · refine g_lv (lv' := [(0, .inr (.inl (some t))), (1, .inl x_10)]) [1, 0] rfl ?_
          exact kX7_atom1_71 h hr hnL ht _ _ hF
        · refine g_aload_n (pc := 67) h 1 rfl dX7_atom1_67 ?_
          refine g_cvV (pc := 68) (st := []) h mX7_fail cvX7_179 (inw ht) (by decide) ⟨by decide, by decide⟩ (Nat.le_of_ble_eq_true rfl) rfl rfl dX7_atom1_68 hF (fun u_14 w_15 hF => ?_)
          refine g_lv (lv' := [(0, .inr (.inl (some t))), (1, .inl x_10)]) [1, 0] rfl ?_
          exact kX7_atom1_71 h hr hnL ht _ _ hF
  · refine g_aload_n (pc := 11) h 1 rfl dX7_atom1_11 ?_
    refine g_cvI (pc := 12) (st := []) h mX7_opens cvX7_210 (inw ht) (by decide) ⟨by decide, by decide⟩ (Nat.le_of_ble_eq_true rfl) rfl rfl dX7_atom1_12 hF (fun x_16 w_17 hF => ?_)
    refine g_if_eq (pc := 15) (tgt := 161) h dX7_atom1_15 (by decide) hF (fun hF => ?_) (fun hF => ?_)
    · refine g_lv (lv' := [(1, .inl (0 : Int32))]) [0] rfl ?_
      exact kX7_atom1_161 h hr hnL ht _ _ hF
    · refine g_aload_n (pc := 18) h 1 rfl dX7_atom1_18 ?_
      refine g_cvI (pc := 19) (st := []) h mX7_atom2 cvX7_276 (inw ht) (by decide) ⟨by decide, by decide⟩ (Nat.le_of_ble_eq_true rfl) rfl rfl dX7_atom1_19 hF (fun x_18 w_19 hF => ?_)
      refine g_ineg (pc := 22) h dX7_atom1_22 ?_
      refine g_t hF (fun x1_20 hF => ?_)
      refine g_istore_n (pc := 23) (lv' := [(1, .inl x1_20), (0, .inr (.inl (some t)))]) h dX7_atom1_23 (hj 1 (by decide)) rfl ?_
      refine g_aload_n (pc := 24) h 1 rfl dX7_atom1_24 ?_
      refine g_dup (pc := 25) h dX7_atom1_25 rv_cat ?_
      refine g_getI (pc := 26) h fdX7_176 (inw ht) (by decide) dX7_atom1_26 ?_
      refine g_iconst (pc := 29) (v := (1 : Int32)) h dX7_atom1_29 (by decide) ?_
      refine g_isub (pc := 30) h dX7_atom1_30 ?_
      refine g_putI (pc := 31) h fdX7_176 (inw ht) (by decide) ⟨rfl, rfl⟩ dX7_atom1_31 ?_
      refine g_w hF (fun w_21 hF => ?_)
      refine g_goto (pc := 34) (tgt := 161) h dX7_atom1_34 (by decide) ?_
      refine g_lv (lv' := [(1, .inl x1_20)]) [0] rfl ?_
      exact kX7_atom1_161 h hr hnL ht _ _ hF
def fX7_term1_5 (t : Nat) : Nat → Int32 → Wd → Option (Int32 × Wd)
  | 0 => fun _ _ => none
  | n + 1 => fun x1 w =>
    bnd (fX7_isSign t (42 : Int32) w) (fun x_3 w_4 => if x_3 = 0 then
      (some (x1, w_4))
    else
      (bnd (fX7_next t w_4) (fun u_5 w_6 => bnd (fX7_atom1 t w_6) (fun x_7 w_8 => lt (x1 * x_7) (fun x1_9 => fX7_term1_5 t n x1_9 w_8)))))
set_option maxHeartbeats 4000000 in
theorem kX7_term1_5 {X : Cx} (h : Ok X cX7_term1 RX7 31 0 0) (hr : RetI X .int 0 0) (hnL : nLX X = 2) {t : Nat} (ht : InN X t 7) : ∀ (fu : Nat) (x1 : Int32) (w : Wd), OkR X Value.int (fX7_term1_5 t fu x1 w) → G X 0 0 5 [(0, .inr (.inl (some t))), (1, .inl x1)] [] w := by
  have hj : ∀ j, j < 2 → j < nLX X := fun j q => by rw [hnL]; exact q
  intro fu
  induction fu with
  | zero => intro x1 w hF; exact okN hF
  | succ fu ih =>
    intro x1 w hF
    rw [fX7_term1_5] at hF
    refine g_aload_n (pc := 5) h 0 rfl dX7_term1_5 ?_
    refine g_bipush (pc := 6) (v := (42 : Int32)) h dX7_term1_6 (by decide) ?_
    refine g_cvI (pc := 8) (st := []) h mX7_isSign cvX7_207 (inw ht) (by decide) ⟨by decide, by decide⟩ (Nat.le_of_ble_eq_true rfl) rfl rfl dX7_term1_8 hF (fun x_3 w_4 hF => ?_)
    refine g_if_eq (pc := 11) (tgt := 28) h dX7_term1_11 (by decide) hF (fun hF => ?_) (fun hF => ?_)
    · refine g_iload_n (pc := 28) h 1 rfl dX7_term1_28 ?_
      exact g_iret (pc := 29) h hr ⟨Nat.le_refl _, Nat.le_refl _⟩ hF dX7_term1_29
    · refine g_aload_n (pc := 14) h 0 rfl dX7_term1_14 ?_
      refine g_cvV (pc := 15) (st := []) h mX7_next cvX7_182 (inw ht) (by decide) ⟨by decide, by decide⟩ (Nat.le_of_ble_eq_true rfl) rfl rfl dX7_term1_15 hF (fun u_5 w_6 hF => ?_)
      refine g_iload_n (pc := 18) h 1 rfl dX7_term1_18 ?_
      refine g_aload_n (pc := 19) h 0 rfl dX7_term1_19 ?_
      refine g_cvI (pc := 20) (st := [.int x1]) h mX7_atom1 cvX7_294 (inw ht) (by decide) ⟨by decide, by decide⟩ (Nat.le_of_ble_eq_true rfl) rfl rfl dX7_term1_20 hF (fun x_7 w_8 hF => ?_)
      refine g_imul (pc := 23) h dX7_term1_23 ?_
      refine g_t hF (fun x1_9 hF => ?_)
      refine g_istore_n (pc := 24) (lv' := [(1, .inl x1_9), (0, .inr (.inl (some t)))]) h dX7_term1_24 (hj 1 (by decide)) rfl ?_
      refine g_goto (pc := 25) (tgt := 5) h dX7_term1_25 (by decide) ?_
      refine g_lv (lv' := [(0, .inr (.inl (some t))), (1, .inl x1_9)]) [1, 0] rfl ?_
      exact ih _ _ hF
def fX7_term1 (t : Nat) (w : Wd) : Option (Int32 × Wd) :=
  bnd (fX7_atom1 t w) (fun x_1 w_2 => fX7_term1_5 t FU x_1 w_2)
set_option maxHeartbeats 4000000 in
theorem mX7_term1 {Γ : En} {t : Nat} {w : Wd} (ht : t < wn w ∧ kd t = 7) : MtI Γ yX7_term1 cX7_term1 2 (some .int) 31 0 0 [rv Γ (some t)] w (fX7_term1 t w) := by
  refine mtI [.inr (.inl (some t))] rfl (Nat.le_of_ble_eq_true rfl) (fun X hΓ hnL hn0 h _ hr hF => ?_)
  subst hΓ
  have ht : InN X t 7 := ⟨by rw [hn0]; exact ht.1, ht.2⟩
  have h : Ok X cX7_term1 RX7 31 0 0 := h
  have hj : ∀ j, j < 2 → j < nLX X := fun j q => by rw [hnL]; exact q
  show G X 0 0 0 [(0, .inr (.inl (some t)))] [] w
  unfold fX7_term1 at hF
  refine g_aload_n (pc := 0) h 0 rfl dX7_term1_0 ?_
  refine g_cvI (pc := 1) (st := []) h mX7_atom1 cvX7_294 (inw ht) (by decide) ⟨by decide, by decide⟩ (Nat.le_of_ble_eq_true rfl) rfl rfl dX7_term1_1 hF (fun x_1 w_2 hF => ?_)
  refine g_istore_n (pc := 4) (lv' := [(1, .inl x_1), (0, .inr (.inl (some t)))]) h dX7_term1_4 (hj 1 (by decide)) rfl ?_
  refine g_lv (lv' := [(0, .inr (.inl (some t))), (1, .inl x_1)]) [1, 0] rfl ?_
  exact kX7_term1_5 h hr hnL ht _ _ _ hF
def fX7_added1_62 (k5 : Int32 → Wd → Option (Int32 × Wd)) (t : Nat) (y0 : Int32) (w : Wd) : Option (Int32 × Wd) :=
  k5 y0 w
set_option maxHeartbeats 4000000 in
theorem kX7_added1_62 {X : Cx} (h : Ok X cX7_added1 RX7 32 0 0) (hr : RetI X .int 0 0) (hnL : nLX X = 4) {t : Nat} (ht : InN X t 7) {k5 : Int32 → Wd → Option (Int32 × Wd)} (hk5 : ∀ (x1 : Int32) (w : Wd), OkR X Value.int (k5 x1 w) → G X 0 0 5 [(0, .inr (.inl (some t))), (1, .inl x1)] [] w) : ∀ (y0 : Int32) (w : Wd), OkR X Value.int (fX7_added1_62 k5 t y0 w) → G X 0 0 62 [(0, .inr (.inl (some t)))] [.int y0] w := by
  have hj : ∀ j, j < 4 → j < nLX X := fun j q => by rw [hnL]; exact q
  intro y0 w hF
  unfold fX7_added1_62 at hF
  refine g_istore_n (pc := 62) (lv' := [(1, .inl y0), (0, .inr (.inl (some t)))]) h dX7_added1_62 (hj 1 (by decide)) rfl ?_
  refine g_goto (pc := 63) (tgt := 5) h dX7_added1_63 (by decide) ?_
  refine g_lv (lv' := [(0, .inr (.inl (some t))), (1, .inl y0)]) [1, 0] rfl ?_
  exact hk5 _ _ hF
def fX7_added1_39 (k5 : Int32 → Wd → Option (Int32 × Wd)) (t : Nat) (x1 : Int32) (y0 : Int32) (w : Wd) : Option (Int32 × Wd) :=
  bnd (fX7_next t w) (fun u_7 w_8 => bnd (fX7_term1 t w_8) (fun x_9 w_10 => if y0 = 0 then
    (fX7_added1_62 k5 t (x1 - x_9) w_10)
  else
    (fX7_added1_62 k5 t (x1 + x_9) w_10)))
set_option maxHeartbeats 4000000 in
theorem kX7_added1_39 {X : Cx} (h : Ok X cX7_added1 RX7 32 0 0) (hr : RetI X .int 0 0) (hnL : nLX X = 4) {t : Nat} (ht : InN X t 7) {k5 : Int32 → Wd → Option (Int32 × Wd)} (hk5 : ∀ (x1 : Int32) (w : Wd), OkR X Value.int (k5 x1 w) → G X 0 0 5 [(0, .inr (.inl (some t))), (1, .inl x1)] [] w) : ∀ (x1 : Int32) (y0 : Int32) (w : Wd), OkR X Value.int (fX7_added1_39 k5 t x1 y0 w) → G X 0 0 39 [(0, .inr (.inl (some t))), (1, .inl x1)] [.int y0] w := by
  have hj : ∀ j, j < 4 → j < nLX X := fun j q => by rw [hnL]; exact q
  intro x1 y0 w hF
  unfold fX7_added1_39 at hF
  refine g_istore_n (pc := 39) (lv' := [(2, .inl y0), (0, .inr (.inl (some t))), (1, .inl x1)]) h dX7_added1_39 (hj 2 (by decide)) rfl ?_
  refine g_aload_n (pc := 40) h 1 rfl dX7_added1_40 ?_
  refine g_cvV (pc := 41) (st := []) h mX7_next cvX7_182 (inw ht) (by decide) ⟨by decide, by decide⟩ (Nat.le_of_ble_eq_true rfl) rfl rfl dX7_added1_41 hF (fun u_7 w_8 hF => ?_)
  refine g_aload_n (pc := 44) h 1 rfl dX7_added1_44 ?_
  refine g_cvI (pc := 45) (st := []) h mX7_term1 cvX7_297 (inw ht) (by decide) ⟨by decide, by decide⟩ (Nat.le_of_ble_eq_true rfl) rfl rfl dX7_added1_45 hF (fun x_9 w_10 hF => ?_)
  refine g_istore_n (pc := 48) (lv' := [(3, .inl x_9), (2, .inl y0), (0, .inr (.inl (some t))), (1, .inl x1)]) h dX7_added1_48 (hj 3 (by decide)) rfl ?_
  refine g_iload_n (pc := 49) h 1 rfl dX7_added1_49 ?_
  refine g_if_eq (pc := 50) (tgt := 59) h dX7_added1_50 (by decide) hF (fun hF => ?_) (fun hF => ?_)
  · refine g_iload_n (pc := 59) h 3 rfl dX7_added1_59 ?_
    refine g_iload_n (pc := 60) h 0 rfl dX7_added1_60 ?_
    refine g_isub (pc := 61) h dX7_added1_61 ?_
    refine g_lv (lv' := [(0, .inr (.inl (some t)))]) [2] rfl ?_
    exact kX7_added1_62 h hr hnL ht hk5 _ _ hF
  · refine g_iload_n (pc := 53) h 3 rfl dX7_added1_53 ?_
    refine g_iload_n (pc := 54) h 0 rfl dX7_added1_54 ?_
    refine g_iadd (pc := 55) h dX7_added1_55 ?_
    refine g_goto (pc := 56) (tgt := 62) h dX7_added1_56 (by decide) ?_
    refine g_lv (lv' := [(0, .inr (.inl (some t)))]) [2] rfl ?_
    exact kX7_added1_62 h hr hnL ht hk5 _ _ hF
def fX7_added1_23 (k5 : Int32 → Wd → Option (Int32 × Wd)) (t : Nat) (x1 : Int32) (w : Wd) : Option (Int32 × Wd) :=
  if (lg_cmp (gL w t 23) (43 : Int64)) = 0 then
    (fX7_added1_39 k5 t x1 (1 : Int32) w)
  else
    (fX7_added1_39 k5 t x1 (0 : Int32) w)
set_option maxHeartbeats 4000000 in
theorem kX7_added1_23 {X : Cx} (h : Ok X cX7_added1 RX7 32 0 0) (hr : RetI X .int 0 0) (hnL : nLX X = 4) {t : Nat} (ht : InN X t 7) {k5 : Int32 → Wd → Option (Int32 × Wd)} (hk5 : ∀ (x1 : Int32) (w : Wd), OkR X Value.int (k5 x1 w) → G X 0 0 5 [(0, .inr (.inl (some t))), (1, .inl x1)] [] w) : ∀ (x1 : Int32) (w : Wd), OkR X Value.int (fX7_added1_23 k5 t x1 w) → G X 0 0 23 [(0, .inr (.inl (some t))), (1, .inl x1)] [] w := by
  have hj : ∀ j, j < 4 → j < nLX X := fun j q => by rw [hnL]; exact q
  intro x1 w hF
  unfold fX7_added1_23 at hF
  refine g_aload_n (pc := 23) h 0 rfl dX7_added1_23 ?_
  refine g_getL (pc := 24) h fdX7_160 (inw ht) rfl dX7_added1_24 ?_
  refine g_ldc2 (pc := 27) h wcL_X7_224 dX7_added1_27 ?_
  refine g_lcmp (pc := 30) h dX7_added1_30 ?_
  refine g_if_ne (pc := 31) (tgt := 38) h dX7_added1_31 (by decide) hF (fun hF => ?_) (fun hF => ?_)
  · refine g_iconst (pc := 38) (v := (0 : Int32)) h dX7_added1_38 (by decide) ?_
    exact kX7_added1_39 h hr hnL ht hk5 _ _ _ hF
  · refine g_iconst (pc := 34) (v := (1 : Int32)) h dX7_added1_34 (by decide) ?_
    refine g_goto (pc := 35) (tgt := 39) h dX7_added1_35 (by decide) ?_
    exact kX7_added1_39 h hr hnL ht hk5 _ _ _ hF
def fX7_added1_5 (t : Nat) : Nat → Int32 → Wd → Option (Int32 × Wd)
  | 0 => fun _ _ => none
  | n + 1 => fun x1 w =>
    bnd (fX7_isSign t (43 : Int32) w) (fun x_3 w_4 => if x_3 = 0 then
      (bnd (fX7_isSign t (45 : Int32) w_4) (fun x_5 w_6 => if x_5 = 0 then
        (some (x1, w_6))
      else
        (fX7_added1_23 (fX7_added1_5 t n) t x1 w_6)))
    else
      (fX7_added1_23 (fX7_added1_5 t n) t x1 w_4))
set_option maxHeartbeats 4000000 in
theorem kX7_added1_5 {X : Cx} (h : Ok X cX7_added1 RX7 32 0 0) (hr : RetI X .int 0 0) (hnL : nLX X = 4) {t : Nat} (ht : InN X t 7) : ∀ (fu : Nat) (x1 : Int32) (w : Wd), OkR X Value.int (fX7_added1_5 t fu x1 w) → G X 0 0 5 [(0, .inr (.inl (some t))), (1, .inl x1)] [] w := by
  have hj : ∀ j, j < 4 → j < nLX X := fun j q => by rw [hnL]; exact q
  intro fu
  induction fu with
  | zero => intro x1 w hF; exact okN hF
  | succ fu ih =>
    intro x1 w hF
    rw [fX7_added1_5] at hF
    refine g_aload_n (pc := 5) h 0 rfl dX7_added1_5 ?_
    refine g_bipush (pc := 6) (v := (43 : Int32)) h dX7_added1_6 (by decide) ?_
    refine g_cvI (pc := 8) (st := []) h mX7_isSign cvX7_207 (inw ht) (by decide) ⟨by decide, by decide⟩ (Nat.le_of_ble_eq_true rfl) rfl rfl dX7_added1_8 hF (fun x_3 w_4 hF => ?_)
    refine g_if_ne (pc := 11) (tgt := 23) h dX7_added1_11 (by decide) hF (fun hF => ?_) (fun hF => ?_)
    · exact kX7_added1_23 h hr hnL ht (fun z0 z1 hF => ih z0 z1 hF) _ _ hF
    · refine g_aload_n (pc := 14) h 0 rfl dX7_added1_14 ?_
      refine g_bipush (pc := 15) (v := (45 : Int32)) h dX7_added1_15 (by decide) ?_
      refine g_cvI (pc := 17) (st := []) h mX7_isSign cvX7_207 (inw ht) (by decide) ⟨by decide, by decide⟩ (Nat.le_of_ble_eq_true rfl) rfl rfl dX7_added1_17 hF (fun x_5 w_6 hF => ?_)
      refine g_if_eq (pc := 20) (tgt := 66) h dX7_added1_20 (by decide) hF (fun hF => ?_) (fun hF => ?_)
      · refine g_iload_n (pc := 66) h 1 rfl dX7_added1_66 ?_
        exact g_iret (pc := 67) h hr ⟨Nat.le_refl _, Nat.le_refl _⟩ hF dX7_added1_67
      · exact kX7_added1_23 h hr hnL ht (fun z0 z1 hF => ih z0 z1 hF) _ _ hF
def fX7_added1 (t : Nat) (w : Wd) : Option (Int32 × Wd) :=
  bnd (fX7_term1 t w) (fun x_1 w_2 => fX7_added1_5 t FU x_1 w_2)
set_option maxHeartbeats 4000000 in
theorem mX7_added1 {Γ : En} {t : Nat} {w : Wd} (ht : t < wn w ∧ kd t = 7) : MtI Γ yX7_added1 cX7_added1 4 (some .int) 32 0 0 [rv Γ (some t)] w (fX7_added1 t w) := by
  refine mtI [.inr (.inl (some t))] rfl (Nat.le_of_ble_eq_true rfl) (fun X hΓ hnL hn0 h _ hr hF => ?_)
  subst hΓ
  have ht : InN X t 7 := ⟨by rw [hn0]; exact ht.1, ht.2⟩
  have h : Ok X cX7_added1 RX7 32 0 0 := h
  have hj : ∀ j, j < 4 → j < nLX X := fun j q => by rw [hnL]; exact q
  show G X 0 0 0 [(0, .inr (.inl (some t)))] [] w
  unfold fX7_added1 at hF
  refine g_aload_n (pc := 0) h 0 rfl dX7_added1_0 ?_
  refine g_cvI (pc := 1) (st := []) h mX7_term1 cvX7_297 (inw ht) (by decide) ⟨by decide, by decide⟩ (Nat.le_of_ble_eq_true rfl) rfl rfl dX7_added1_1 hF (fun x_1 w_2 hF => ?_)
  refine g_istore_n (pc := 4) (lv' := [(1, .inl x_1), (0, .inr (.inl (some t)))]) h dX7_added1_4 (hj 1 (by decide)) rfl ?_
  refine g_lv (lv' := [(0, .inr (.inl (some t))), (1, .inl x_1)]) [1, 0] rfl ?_
  exact kX7_added1_5 h hr hnL ht _ _ _ hF
def fX7_not1_120 (t : Nat) (w : Wd) : Option (Int32 × Wd) :=
  some ((1 : Int32), w)
set_option maxHeartbeats 4000000 in
theorem kX7_not1_120 {X : Cx} (h : Ok X cX7_not1 RX7 33 0 0) (hr : RetI X .int 0 0) (hnL : nLX X = 4) {t : Nat} (ht : InN X t 7) : ∀ (w : Wd), OkR X Value.int (fX7_not1_120 t  w) → G X 0 0 120 [] [] w := by
  have hj : ∀ j, j < 4 → j < nLX X := fun j q => by rw [hnL]; exact q
  intro w hF
  unfold fX7_not1_120 at hF
  refine g_iconst (pc := 120) (v := (1 : Int32)) h dX7_not1_120 (by decide) ?_
  refine g_goto (pc := 121) (tgt := 125) h dX7_not1_121 (by decide) ?_
  exact g_iret (pc := 125) h hr ⟨Nat.le_refl _, Nat.le_refl _⟩ hF dX7_not1_125
def fX7_not1_93 (t : Nat) (x1 : Int32) (y0 : Int32) (w : Wd) : Option (Int32 × Wd) :=
  bnd (fX7_next t w) (fun u_14 w_15 => bnd (fX7_added1 t w_15) (fun x_16 w_17 => if y0 = 0 then
    (if x1 = x_16 then
      (fX7_not1_120 t w_17)
    else
      (some ((0 : Int32), w_17)))
  else
    (if x_16 ≤ x1 then
      (some ((0 : Int32), w_17))
    else
      (fX7_not1_120 t w_17))))
set_option maxHeartbeats 4000000 in
theorem kX7_not1_93 {X : Cx} (h : Ok X cX7_not1 RX7 33 0 0) (hr : RetI X .int 0 0) (hnL : nLX X = 4) {t : Nat} (ht : InN X t 7) : ∀ (x1 : Int32) (y0 : Int32) (w : Wd), OkR X Value.int (fX7_not1_93 t x1 y0 w) → G X 0 0 93 [(0, .inr (.inl (some t))), (1, .inl x1)] [.int y0] w := by
  have hj : ∀ j, j < 4 → j < nLX X := fun j q => by rw [hnL]; exact q
  intro x1 y0 w hF
  unfold fX7_not1_93 at hF
  refine g_istore_n (pc := 93) (lv' := [(2, .inl y0), (0, .inr (.inl (some t))), (1, .inl x1)]) h dX7_not1_93 (hj 2 (by decide)) rfl ?_
  refine g_aload_n (pc := 94) h 1 rfl dX7_not1_94 ?_
  refine g_cvV (pc := 95) (st := []) h mX7_next cvX7_182 (inw ht) (by decide) ⟨by decide, by decide⟩ (Nat.le_of_ble_eq_true rfl) rfl rfl dX7_not1_95 hF (fun u_14 w_15 hF => ?_)
  refine g_aload_n (pc := 98) h 1 rfl dX7_not1_98 ?_
  refine g_cvI (pc := 99) (st := []) h mX7_added1 cvX7_300 (inw ht) (by decide) ⟨by decide, by decide⟩ (Nat.le_of_ble_eq_true rfl) rfl rfl dX7_not1_99 hF (fun x_16 w_17 hF => ?_)
  refine g_istore_n (pc := 102) (lv' := [(3, .inl x_16), (2, .inl y0), (0, .inr (.inl (some t))), (1, .inl x1)]) h dX7_not1_102 (hj 3 (by decide)) rfl ?_
  refine g_iload_n (pc := 103) h 1 rfl dX7_not1_103 ?_
  refine g_if_eq (pc := 104) (tgt := 115) h dX7_not1_104 (by decide) hF (fun hF => ?_) (fun hF => ?_)
  · refine g_iload_n (pc := 115) h 3 rfl dX7_not1_115 ?_
    refine g_iload_n (pc := 116) h 0 rfl dX7_not1_116 ?_
    refine g_icmp_ne (pc := 117) (tgt := 124) h dX7_not1_117 (by decide) hF (fun hF => ?_) (fun hF => ?_)
    · refine g_iconst (pc := 124) (v := (0 : Int32)) h dX7_not1_124 (by decide) ?_
      exact g_iret (pc := 125) h hr ⟨Nat.le_refl _, Nat.le_refl _⟩ hF dX7_not1_125
    · refine g_lv (lv' := []) [] rfl ?_
      exact kX7_not1_120 h hr hnL ht _ hF
  · refine g_iload_n (pc := 107) h 3 rfl dX7_not1_107 ?_
    refine g_iload_n (pc := 108) h 0 rfl dX7_not1_108 ?_
    refine g_icmp_ge (pc := 109) (tgt := 124) h dX7_not1_109 (by decide) hF (fun hF => ?_) (fun hF => ?_)
    · refine g_iconst (pc := 124) (v := (0 : Int32)) h dX7_not1_124 (by decide) ?_
      exact g_iret (pc := 125) h hr ⟨Nat.le_refl _, Nat.le_refl _⟩ hF dX7_not1_125
    · refine g_goto (pc := 112) (tgt := 120) h dX7_not1_112 (by decide) ?_
      refine g_lv (lv' := []) [] rfl ?_
      exact kX7_not1_120 h hr hnL ht _ hF
def fX7_not1_77 (t : Nat) (x1 : Int32) (w : Wd) : Option (Int32 × Wd) :=
  if (lg_cmp (gL w t 23) (60 : Int64)) = 0 then
    (fX7_not1_93 t x1 (1 : Int32) w)
  else
    (fX7_not1_93 t x1 (0 : Int32) w)
set_option maxHeartbeats 4000000 in
theorem kX7_not1_77 {X : Cx} (h : Ok X cX7_not1 RX7 33 0 0) (hr : RetI X .int 0 0) (hnL : nLX X = 4) {t : Nat} (ht : InN X t 7) : ∀ (x1 : Int32) (w : Wd), OkR X Value.int (fX7_not1_77 t x1 w) → G X 0 0 77 [(0, .inr (.inl (some t))), (1, .inl x1)] [] w := by
  have hj : ∀ j, j < 4 → j < nLX X := fun j q => by rw [hnL]; exact q
  intro x1 w hF
  unfold fX7_not1_77 at hF
  refine g_aload_n (pc := 77) h 0 rfl dX7_not1_77 ?_
  refine g_getL (pc := 78) h fdX7_160 (inw ht) rfl dX7_not1_78 ?_
  refine g_ldc2 (pc := 81) h wcL_X7_229 dX7_not1_81 ?_
  refine g_lcmp (pc := 84) h dX7_not1_84 ?_
  refine g_if_ne (pc := 85) (tgt := 92) h dX7_not1_85 (by decide) hF (fun hF => ?_) (fun hF => ?_)
  · refine g_iconst (pc := 92) (v := (0 : Int32)) h dX7_not1_92 (by decide) ?_
    exact kX7_not1_93 h hr hnL ht _ _ _ hF
  · refine g_iconst (pc := 88) (v := (1 : Int32)) h dX7_not1_88 (by decide) ?_
    refine g_goto (pc := 89) (tgt := 93) h dX7_not1_89 (by decide) ?_
    exact kX7_not1_93 h hr hnL ht _ _ _ hF
def fX7_not1 (t : Nat) (w : Wd) : Option (Int32 × Wd) :=
  bnd (fX7_isWord t (110 : Int32) (111 : Int32) (116 : Int32) (0 : Int32) (0 : Int32) (0 : Int32) (0 : Int32) (0 : Int32) w) (fun x_1 w_2 => if x_1 = 0 then
    (bnd (fX7_added1 t w_2) (fun x_3 w_4 => bnd (fX7_isSign t (60 : Int32) w_4) (fun x_5 w_6 => if x_5 = 0 then
      (bnd (fX7_isSign t (61 : Int32) w_6) (fun x_7 w_8 => if x_7 = 0 then
        (some (x_3, w_8))
      else
        (fX7_not1_77 t x_3 w_8)))
    else
      (fX7_not1_77 t x_3 w_6))))
  else
    (bnd (fX7_opens t w_2) (fun x_9 w_10 => if x_9 = 0 then
      (some ((0 : Int32), w_10))
    else
      (bnd (fX7_not2 t w_10) (fun x_11 w_12 => lw (sI w_12 t 24 ((gI w_12 t 24) - (1 : Int32))) (fun w_13 => if x_11 = 0 then
        (some ((1 : Int32), w_13))
      else
        (some ((0 : Int32), w_13))))))))
set_option maxHeartbeats 4000000 in
theorem mX7_not1 {Γ : En} {t : Nat} {w : Wd} (ht : t < wn w ∧ kd t = 7) : MtI Γ yX7_not1 cX7_not1 4 (some .int) 33 0 0 [rv Γ (some t)] w (fX7_not1 t w) := by
  refine mtI [.inr (.inl (some t))] rfl (Nat.le_of_ble_eq_true rfl) (fun X hΓ hnL hn0 h _ hr hF => ?_)
  subst hΓ
  have ht : InN X t 7 := ⟨by rw [hn0]; exact ht.1, ht.2⟩
  have h : Ok X cX7_not1 RX7 33 0 0 := h
  have hj : ∀ j, j < 4 → j < nLX X := fun j q => by rw [hnL]; exact q
  show G X 0 0 0 [(0, .inr (.inl (some t)))] [] w
  unfold fX7_not1 at hF
  refine g_aload_n (pc := 0) h 0 rfl dX7_not1_0 ?_
  refine g_bipush (pc := 1) (v := (110 : Int32)) h dX7_not1_1 (by decide) ?_
  refine g_bipush (pc := 3) (v := (111 : Int32)) h dX7_not1_3 (by decide) ?_
  refine g_bipush (pc := 5) (v := (116 : Int32)) h dX7_not1_5 (by decide) ?_
  refine g_iconst (pc := 7) (v := (0 : Int32)) h dX7_not1_7 (by decide) ?_
  refine g_iconst (pc := 8) (v := (0 : Int32)) h dX7_not1_8 (by decide) ?_
  refine g_iconst (pc := 9) (v := (0 : Int32)) h dX7_not1_9 (by decide) ?_
  refine g_iconst (pc := 10) (v := (0 : Int32)) h dX7_not1_10 (by decide) ?_
  refine g_iconst (pc := 11) (v := (0 : Int32)) h dX7_not1_11 (by decide) ?_
  refine g_cvI (pc := 12) (st := []) h mX7_isWord cvX7_185 (inw ht) (by decide) ⟨by decide, by decide⟩ (Nat.le_of_ble_eq_true rfl) rfl rfl dX7_not1_12 hF (fun x_1 w_2 hF => ?_)
  refine g_if_eq (pc := 15) (tgt := 52) h dX7_not1_15 (by decide) hF (fun hF => ?_) (fun hF => ?_)
  · refine g_aload_n (pc := 52) h 0 rfl dX7_not1_52 ?_
    refine g_cvI (pc := 53) (st := []) h mX7_added1 cvX7_300 (inw ht) (by decide) ⟨by decide, by decide⟩ (Nat.le_of_ble_eq_true rfl) rfl rfl dX7_not1_53 hF (fun x_3 w_4 hF => ?_)
    refine g_istore_n (pc := 56) (lv' := [(1, .inl x_3), (0, .inr (.inl (some t)))]) h dX7_not1_56 (hj 1 (by decide)) rfl ?_
    refine g_aload_n (pc := 57) h 1 rfl dX7_not1_57 ?_
    refine g_bipush (pc := 58) (v := (60 : Int32)) h dX7_not1_58 (by decide) ?_
    refine g_cvI (pc := 60) (st := []) h mX7_isSign cvX7_207 (inw ht) (by decide) ⟨by decide, by decide⟩ (Nat.le_of_ble_eq_true rfl) rfl rfl dX7_not1_60 hF (fun x_5 w_6 hF => ?_)
    refine g_if_ne (pc := 63) (tgt := 77) h dX7_not1_63 (by decide) hF (fun hF => ?_) (fun hF => ?_)
    · refine g_lv (lv' := [(0, .inr (.inl (some t))), (1, .inl x_3)]) [1, 0] rfl ?_
      exact kX7_not1_77 h hr hnL ht _ _ hF
    · refine g_aload_n (pc := 66) h 1 rfl dX7_not1_66 ?_
      refine g_bipush (pc := 67) (v := (61 : Int32)) h dX7_not1_67 (by decide) ?_
      refine g_cvI (pc := 69) (st := []) h mX7_isSign cvX7_207 (inw ht) (by decide) ⟨by decide, by decide⟩ (Nat.le_of_ble_eq_true rfl) rfl rfl dX7_not1_69 hF (fun x_7 w_8 hF => ?_)
      refine g_if_ne (pc := 72) (tgt := 77) h dX7_not1_72 (by decide) hF (fun hF => ?_) (fun hF => ?_)
      · refine g_lv (lv' := [(0, .inr (.inl (some t))), (1, .inl x_3)]) [1, 0] rfl ?_
        exact kX7_not1_77 h hr hnL ht _ _ hF
      · refine g_iload_n (pc := 75) h 0 rfl dX7_not1_75 ?_
        exact g_iret (pc := 76) h hr ⟨Nat.le_refl _, Nat.le_refl _⟩ hF dX7_not1_76
  · refine g_aload_n (pc := 18) h 0 rfl dX7_not1_18 ?_
    refine g_cvI (pc := 19) (st := []) h mX7_opens cvX7_210 (inw ht) (by decide) ⟨by decide, by decide⟩ (Nat.le_of_ble_eq_true rfl) rfl rfl dX7_not1_19 hF (fun x_9 w_10 hF => ?_)
    refine g_if_ne (pc := 22) (tgt := 27) h dX7_not1_22 (by decide) hF (fun hF => ?_) (fun hF => ?_)
    · refine g_aload_n (pc := 27) h 0 rfl dX7_not1_27 ?_
      refine g_cvI (pc := 28) (st := []) h mX7_not2 cvX7_285 (inw ht) (by decide) ⟨by decide, by decide⟩ (Nat.le_of_ble_eq_true rfl) rfl rfl dX7_not1_28 hF (fun x_11 w_12 hF => ?_)
      refine g_istore_n (pc := 31) (lv' := [(1, .inl x_11), (0, .inr (.inl (some t)))]) h dX7_not1_31 (hj 1 (by decide)) rfl ?_
      refine g_aload_n (pc := 32) h 1 rfl dX7_not1_32 ?_
      refine g_dup (pc := 33) h dX7_not1_33 rv_cat ?_
      refine g_getI (pc := 34) h fdX7_176 (inw ht) (by decide) dX7_not1_34 ?_
      refine g_iconst (pc := 37) (v := (1 : Int32)) h dX7_not1_37 (by decide) ?_
      refine g_isub (pc := 38) h dX7_not1_38 ?_
      refine g_putI (pc := 39) h fdX7_176 (inw ht) (by decide) ⟨rfl, rfl⟩ dX7_not1_39 ?_
      refine g_w hF (fun w_13 hF => ?_)
      refine g_iload_n (pc := 42) h 0 rfl dX7_not1_42 ?_
      refine g_if_ne (pc := 43) (tgt := 50) h dX7_not1_43 (by decide) hF (fun hF => ?_) (fun hF => ?_)
      · refine g_iconst (pc := 50) (v := (0 : Int32)) h dX7_not1_50 (by decide) ?_
        exact g_iret (pc := 51) h hr ⟨Nat.le_refl _, Nat.le_refl _⟩ hF dX7_not1_51
      · refine g_iconst (pc := 46) (v := (1 : Int32)) h dX7_not1_46 (by decide) ?_
        refine g_goto (pc := 47) (tgt := 51) h dX7_not1_47 (by decide) ?_
        exact g_iret (pc := 51) h hr ⟨Nat.le_refl _, Nat.le_refl _⟩ hF dX7_not1_51
    · refine g_iconst (pc := 25) (v := (0 : Int32)) h dX7_not1_25 (by decide) ?_
      exact g_iret (pc := 26) h hr ⟨Nat.le_refl _, Nat.le_refl _⟩ hF dX7_not1_26
def fX7_both1_45 (k5 : Int32 → Wd → Option (Int32 × Wd)) (t : Nat) (y0 : Int32) (w : Wd) : Option (Int32 × Wd) :=
  k5 y0 w
set_option maxHeartbeats 4000000 in
theorem kX7_both1_45 {X : Cx} (h : Ok X cX7_both1 RX7 34 0 0) (hr : RetI X .int 0 0) (hnL : nLX X = 3) {t : Nat} (ht : InN X t 7) {k5 : Int32 → Wd → Option (Int32 × Wd)} (hk5 : ∀ (x1 : Int32) (w : Wd), OkR X Value.int (k5 x1 w) → G X 0 0 5 [(0, .inr (.inl (some t))), (1, .inl x1)] [] w) : ∀ (y0 : Int32) (w : Wd), OkR X Value.int (fX7_both1_45 k5 t y0 w) → G X 0 0 45 [(0, .inr (.inl (some t)))] [.int y0] w := by
  have hj : ∀ j, j < 3 → j < nLX X := fun j q => by rw [hnL]; exact q
  intro y0 w hF
  unfold fX7_both1_45 at hF
  refine g_istore_n (pc := 45) (lv' := [(1, .inl y0), (0, .inr (.inl (some t)))]) h dX7_both1_45 (hj 1 (by decide)) rfl ?_
  refine g_goto (pc := 46) (tgt := 5) h dX7_both1_46 (by decide) ?_
  refine g_lv (lv' := [(0, .inr (.inl (some t))), (1, .inl y0)]) [1, 0] rfl ?_
  exact hk5 _ _ hF
def fX7_both1_44 (k5 : Int32 → Wd → Option (Int32 × Wd)) (t : Nat) (w : Wd) : Option (Int32 × Wd) :=
  fX7_both1_45 k5 t (0 : Int32) w
set_option maxHeartbeats 4000000 in
theorem kX7_both1_44 {X : Cx} (h : Ok X cX7_both1 RX7 34 0 0) (hr : RetI X .int 0 0) (hnL : nLX X = 3) {t : Nat} (ht : InN X t 7) {k5 : Int32 → Wd → Option (Int32 × Wd)} (hk5 : ∀ (x1 : Int32) (w : Wd), OkR X Value.int (k5 x1 w) → G X 0 0 5 [(0, .inr (.inl (some t))), (1, .inl x1)] [] w) : ∀ (w : Wd), OkR X Value.int (fX7_both1_44 k5 t  w) → G X 0 0 44 [(0, .inr (.inl (some t)))] [] w := by
  have hj : ∀ j, j < 3 → j < nLX X := fun j q => by rw [hnL]; exact q
  intro w hF
  unfold fX7_both1_44 at hF
  refine g_iconst (pc := 44) (v := (0 : Int32)) h dX7_both1_44 (by decide) ?_
  exact kX7_both1_45 h hr hnL ht hk5 _ _ hF
def fX7_both1_5 (t : Nat) : Nat → Int32 → Wd → Option (Int32 × Wd)
  | 0 => fun _ _ => none
  | n + 1 => fun x1 w =>
    bnd (fX7_isWord t (97 : Int32) (110 : Int32) (100 : Int32) (0 : Int32) (0 : Int32) (0 : Int32) (0 : Int32) (0 : Int32) w) (fun x_3 w_4 => if x_3 = 0 then
      (some (x1, w_4))
    else
      (bnd (fX7_next t w_4) (fun u_5 w_6 => bnd (fX7_not1 t w_6) (fun x_7 w_8 => if x1 = 0 then
        (fX7_both1_44 (fX7_both1_5 t n) t w_8)
      else
        (if x_7 = 0 then
          (fX7_both1_44 (fX7_both1_5 t n) t w_8)
        else
          (fX7_both1_45 (fX7_both1_5 t n) t (1 : Int32) w_8))))))
set_option maxHeartbeats 4000000 in
theorem kX7_both1_5 {X : Cx} (h : Ok X cX7_both1 RX7 34 0 0) (hr : RetI X .int 0 0) (hnL : nLX X = 3) {t : Nat} (ht : InN X t 7) : ∀ (fu : Nat) (x1 : Int32) (w : Wd), OkR X Value.int (fX7_both1_5 t fu x1 w) → G X 0 0 5 [(0, .inr (.inl (some t))), (1, .inl x1)] [] w := by
  have hj : ∀ j, j < 3 → j < nLX X := fun j q => by rw [hnL]; exact q
  intro fu
  induction fu with
  | zero => intro x1 w hF; exact okN hF
  | succ fu ih =>
    intro x1 w hF
    rw [fX7_both1_5] at hF
    refine g_aload_n (pc := 5) h 0 rfl dX7_both1_5 ?_
    refine g_bipush (pc := 6) (v := (97 : Int32)) h dX7_both1_6 (by decide) ?_
    refine g_bipush (pc := 8) (v := (110 : Int32)) h dX7_both1_8 (by decide) ?_
    refine g_bipush (pc := 10) (v := (100 : Int32)) h dX7_both1_10 (by decide) ?_
    refine g_iconst (pc := 12) (v := (0 : Int32)) h dX7_both1_12 (by decide) ?_
    refine g_iconst (pc := 13) (v := (0 : Int32)) h dX7_both1_13 (by decide) ?_
    refine g_iconst (pc := 14) (v := (0 : Int32)) h dX7_both1_14 (by decide) ?_
    refine g_iconst (pc := 15) (v := (0 : Int32)) h dX7_both1_15 (by decide) ?_
    refine g_iconst (pc := 16) (v := (0 : Int32)) h dX7_both1_16 (by decide) ?_
    refine g_cvI (pc := 17) (st := []) h mX7_isWord cvX7_185 (inw ht) (by decide) ⟨by decide, by decide⟩ (Nat.le_of_ble_eq_true rfl) rfl rfl dX7_both1_17 hF (fun x_3 w_4 hF => ?_)
    refine g_if_eq (pc := 20) (tgt := 49) h dX7_both1_20 (by decide) hF (fun hF => ?_) (fun hF => ?_)
    · refine g_iload_n (pc := 49) h 1 rfl dX7_both1_49 ?_
      exact g_iret (pc := 50) h hr ⟨Nat.le_refl _, Nat.le_refl _⟩ hF dX7_both1_50
    · refine g_aload_n (pc := 23) h 0 rfl dX7_both1_23 ?_
      refine g_cvV (pc := 24) (st := []) h mX7_next cvX7_182 (inw ht) (by decide) ⟨by decide, by decide⟩ (Nat.le_of_ble_eq_true rfl) rfl rfl dX7_both1_24 hF (fun u_5 w_6 hF => ?_)
      refine g_aload_n (pc := 27) h 0 rfl dX7_both1_27 ?_
      refine g_cvI (pc := 28) (st := []) h mX7_not1 cvX7_303 (inw ht) (by decide) ⟨by decide, by decide⟩ (Nat.le_of_ble_eq_true rfl) rfl rfl dX7_both1_28 hF (fun x_7 w_8 hF => ?_)
      refine g_istore_n (pc := 31) (lv' := [(2, .inl x_7), (0, .inr (.inl (some t))), (1, .inl x1)]) h dX7_both1_31 (hj 2 (by decide)) rfl ?_
      refine g_iload_n (pc := 32) h 2 rfl dX7_both1_32 ?_
      refine g_if_eq (pc := 33) (tgt := 44) h dX7_both1_33 (by decide) hF (fun hF => ?_) (fun hF => ?_)
      · refine g_lv (lv' := [(0, .inr (.inl (some t)))]) [1] rfl ?_
        exact kX7_both1_44 h hr hnL ht (fun z0 z1 hF => ih z0 z1 hF) _ hF
      · refine g_iload_n (pc := 36) h 0 rfl dX7_both1_36 ?_
        refine g_if_eq (pc := 37) (tgt := 44) h dX7_both1_37 (by decide) hF (fun hF => ?_) (fun hF => ?_)
        · refine g_lv (lv' := [(0, .inr (.inl (some t)))]) [1] rfl ?_
          exact kX7_both1_44 h hr hnL ht (fun z0 z1 hF => ih z0 z1 hF) _ hF
        · refine g_iconst (pc := 40) (v := (1 : Int32)) h dX7_both1_40 (by decide) ?_
          refine g_goto (pc := 41) (tgt := 45) h dX7_both1_41 (by decide) ?_
          refine g_lv (lv' := [(0, .inr (.inl (some t)))]) [1] rfl ?_
          exact kX7_both1_45 h hr hnL ht (fun z0 z1 hF => ih z0 z1 hF) _ _ hF
def fX7_both1 (t : Nat) (w : Wd) : Option (Int32 × Wd) :=
  bnd (fX7_not1 t w) (fun x_1 w_2 => fX7_both1_5 t FU x_1 w_2)
set_option maxHeartbeats 4000000 in
theorem mX7_both1 {Γ : En} {t : Nat} {w : Wd} (ht : t < wn w ∧ kd t = 7) : MtI Γ yX7_both1 cX7_both1 3 (some .int) 34 0 0 [rv Γ (some t)] w (fX7_both1 t w) := by
  refine mtI [.inr (.inl (some t))] rfl (Nat.le_of_ble_eq_true rfl) (fun X hΓ hnL hn0 h _ hr hF => ?_)
  subst hΓ
  have ht : InN X t 7 := ⟨by rw [hn0]; exact ht.1, ht.2⟩
  have h : Ok X cX7_both1 RX7 34 0 0 := h
  have hj : ∀ j, j < 3 → j < nLX X := fun j q => by rw [hnL]; exact q
  show G X 0 0 0 [(0, .inr (.inl (some t)))] [] w
  unfold fX7_both1 at hF
  refine g_aload_n (pc := 0) h 0 rfl dX7_both1_0 ?_
  refine g_cvI (pc := 1) (st := []) h mX7_not1 cvX7_303 (inw ht) (by decide) ⟨by decide, by decide⟩ (Nat.le_of_ble_eq_true rfl) rfl rfl dX7_both1_1 hF (fun x_1 w_2 hF => ?_)
  refine g_istore_n (pc := 4) (lv' := [(1, .inl x_1), (0, .inr (.inl (some t)))]) h dX7_both1_4 (hj 1 (by decide)) rfl ?_
  refine g_lv (lv' := [(0, .inr (.inl (some t))), (1, .inl x_1)]) [1, 0] rfl ?_
  exact kX7_both1_5 h hr hnL ht _ _ _ hF
def fX7_either1_44 (k5 : Int32 → Wd → Option (Int32 × Wd)) (t : Nat) (y0 : Int32) (w : Wd) : Option (Int32 × Wd) :=
  k5 y0 w
set_option maxHeartbeats 4000000 in
theorem kX7_either1_44 {X : Cx} (h : Ok X cX7_either1 RX7 35 0 0) (hr : RetI X .int 0 0) (hnL : nLX X = 3) {t : Nat} (ht : InN X t 7) {k5 : Int32 → Wd → Option (Int32 × Wd)} (hk5 : ∀ (x1 : Int32) (w : Wd), OkR X Value.int (k5 x1 w) → G X 0 0 5 [(0, .inr (.inl (some t))), (1, .inl x1)] [] w) : ∀ (y0 : Int32) (w : Wd), OkR X Value.int (fX7_either1_44 k5 t y0 w) → G X 0 0 44 [(0, .inr (.inl (some t)))] [.int y0] w := by
  have hj : ∀ j, j < 3 → j < nLX X := fun j q => by rw [hnL]; exact q
  intro y0 w hF
  unfold fX7_either1_44 at hF
  refine g_istore_n (pc := 44) (lv' := [(1, .inl y0), (0, .inr (.inl (some t)))]) h dX7_either1_44 (hj 1 (by decide)) rfl ?_
  refine g_goto (pc := 45) (tgt := 5) h dX7_either1_45 (by decide) ?_
  refine g_lv (lv' := [(0, .inr (.inl (some t))), (1, .inl y0)]) [1, 0] rfl ?_
  exact hk5 _ _ hF
def fX7_either1_39 (k5 : Int32 → Wd → Option (Int32 × Wd)) (t : Nat) (w : Wd) : Option (Int32 × Wd) :=
  fX7_either1_44 k5 t (1 : Int32) w
set_option maxHeartbeats 4000000 in
theorem kX7_either1_39 {X : Cx} (h : Ok X cX7_either1 RX7 35 0 0) (hr : RetI X .int 0 0) (hnL : nLX X = 3) {t : Nat} (ht : InN X t 7) {k5 : Int32 → Wd → Option (Int32 × Wd)} (hk5 : ∀ (x1 : Int32) (w : Wd), OkR X Value.int (k5 x1 w) → G X 0 0 5 [(0, .inr (.inl (some t))), (1, .inl x1)] [] w) : ∀ (w : Wd), OkR X Value.int (fX7_either1_39 k5 t  w) → G X 0 0 39 [(0, .inr (.inl (some t)))] [] w := by
  have hj : ∀ j, j < 3 → j < nLX X := fun j q => by rw [hnL]; exact q
  intro w hF
  unfold fX7_either1_39 at hF
  refine g_iconst (pc := 39) (v := (1 : Int32)) h dX7_either1_39 (by decide) ?_
  refine g_goto (pc := 40) (tgt := 44) h dX7_either1_40 (by decide) ?_
  exact kX7_either1_44 h hr hnL ht hk5 _ _ hF
def fX7_either1_5 (t : Nat) : Nat → Int32 → Wd → Option (Int32 × Wd)
  | 0 => fun _ _ => none
  | n + 1 => fun x1 w =>
    bnd (fX7_isWord t (111 : Int32) (114 : Int32) (0 : Int32) (0 : Int32) (0 : Int32) (0 : Int32) (0 : Int32) (0 : Int32) w) (fun x_3 w_4 => if x_3 = 0 then
      (some (x1, w_4))
    else
      (bnd (fX7_next t w_4) (fun u_5 w_6 => bnd (fX7_both1 t w_6) (fun x_7 w_8 => if x1 = 0 then
        (if x_7 = 0 then
          (fX7_either1_44 (fX7_either1_5 t n) t (0 : Int32) w_8)
        else
          (fX7_either1_39 (fX7_either1_5 t n) t w_8))
      else
        (fX7_either1_39 (fX7_either1_5 t n) t w_8)))))
set_option maxHeartbeats 4000000 in
theorem kX7_either1_5 {X : Cx} (h : Ok X cX7_either1 RX7 35 0 0) (hr : RetI X .int 0 0) (hnL : nLX X = 3) {t : Nat} (ht : InN X t 7) : ∀ (fu : Nat) (x1 : Int32) (w : Wd), OkR X Value.int (fX7_either1_5 t fu x1 w) → G X 0 0 5 [(0, .inr (.inl (some t))), (1, .inl x1)] [] w := by
  have hj : ∀ j, j < 3 → j < nLX X := fun j q => by rw [hnL]; exact q
  intro fu
  induction fu with
  | zero => intro x1 w hF; exact okN hF
  | succ fu ih =>
    intro x1 w hF
    rw [fX7_either1_5] at hF
    refine g_aload_n (pc := 5) h 0 rfl dX7_either1_5 ?_
    refine g_bipush (pc := 6) (v := (111 : Int32)) h dX7_either1_6 (by decide) ?_
    refine g_bipush (pc := 8) (v := (114 : Int32)) h dX7_either1_8 (by decide) ?_
    refine g_iconst (pc := 10) (v := (0 : Int32)) h dX7_either1_10 (by decide) ?_
    refine g_iconst (pc := 11) (v := (0 : Int32)) h dX7_either1_11 (by decide) ?_
    refine g_iconst (pc := 12) (v := (0 : Int32)) h dX7_either1_12 (by decide) ?_
    refine g_iconst (pc := 13) (v := (0 : Int32)) h dX7_either1_13 (by decide) ?_
    refine g_iconst (pc := 14) (v := (0 : Int32)) h dX7_either1_14 (by decide) ?_
    refine g_iconst (pc := 15) (v := (0 : Int32)) h dX7_either1_15 (by decide) ?_
    refine g_cvI (pc := 16) (st := []) h mX7_isWord cvX7_185 (inw ht) (by decide) ⟨by decide, by decide⟩ (Nat.le_of_ble_eq_true rfl) rfl rfl dX7_either1_16 hF (fun x_3 w_4 hF => ?_)
    refine g_if_eq (pc := 19) (tgt := 48) h dX7_either1_19 (by decide) hF (fun hF => ?_) (fun hF => ?_)
    · refine g_iload_n (pc := 48) h 1 rfl dX7_either1_48 ?_
      exact g_iret (pc := 49) h hr ⟨Nat.le_refl _, Nat.le_refl _⟩ hF dX7_either1_49
    · refine g_aload_n (pc := 22) h 0 rfl dX7_either1_22 ?_
      refine g_cvV (pc := 23) (st := []) h mX7_next cvX7_182 (inw ht) (by decide) ⟨by decide, by decide⟩ (Nat.le_of_ble_eq_true rfl) rfl rfl dX7_either1_23 hF (fun u_5 w_6 hF => ?_)
      refine g_aload_n (pc := 26) h 0 rfl dX7_either1_26 ?_
      refine g_cvI (pc := 27) (st := []) h mX7_both1 cvX7_306 (inw ht) (by decide) ⟨by decide, by decide⟩ (Nat.le_of_ble_eq_true rfl) rfl rfl dX7_either1_27 hF (fun x_7 w_8 hF => ?_)
      refine g_istore_n (pc := 30) (lv' := [(2, .inl x_7), (0, .inr (.inl (some t))), (1, .inl x1)]) h dX7_either1_30 (hj 2 (by decide)) rfl ?_
      refine g_iload_n (pc := 31) h 2 rfl dX7_either1_31 ?_
      refine g_if_ne (pc := 32) (tgt := 39) h dX7_either1_32 (by decide) hF (fun hF => ?_) (fun hF => ?_)
      · refine g_lv (lv' := [(0, .inr (.inl (some t)))]) [1] rfl ?_
        exact kX7_either1_39 h hr hnL ht (fun z0 z1 hF => ih z0 z1 hF) _ hF
      · refine g_iload_n (pc := 35) h 0 rfl dX7_either1_35 ?_
        refine g_if_eq (pc := 36) (tgt := 43) h dX7_either1_36 (by decide) hF (fun hF => ?_) (fun hF => ?_)
        · refine g_iconst (pc := 43) (v := (0 : Int32)) h dX7_either1_43 (by decide) ?_
          refine g_lv (lv' := [(0, .inr (.inl (some t)))]) [1] rfl ?_
          exact kX7_either1_44 h hr hnL ht (fun z0 z1 hF => ih z0 z1 hF) _ _ hF
        · refine g_lv (lv' := [(0, .inr (.inl (some t)))]) [1] rfl ?_
          exact kX7_either1_39 h hr hnL ht (fun z0 z1 hF => ih z0 z1 hF) _ hF
def fX7_either1 (t : Nat) (w : Wd) : Option (Int32 × Wd) :=
  bnd (fX7_both1 t w) (fun x_1 w_2 => fX7_either1_5 t FU x_1 w_2)
set_option maxHeartbeats 4000000 in
theorem mX7_either1 {Γ : En} {t : Nat} {w : Wd} (ht : t < wn w ∧ kd t = 7) : MtI Γ yX7_either1 cX7_either1 3 (some .int) 35 0 0 [rv Γ (some t)] w (fX7_either1 t w) := by
  refine mtI [.inr (.inl (some t))] rfl (Nat.le_of_ble_eq_true rfl) (fun X hΓ hnL hn0 h _ hr hF => ?_)
  subst hΓ
  have ht : InN X t 7 := ⟨by rw [hn0]; exact ht.1, ht.2⟩
  have h : Ok X cX7_either1 RX7 35 0 0 := h
  have hj : ∀ j, j < 3 → j < nLX X := fun j q => by rw [hnL]; exact q
  show G X 0 0 0 [(0, .inr (.inl (some t)))] [] w
  unfold fX7_either1 at hF
  refine g_aload_n (pc := 0) h 0 rfl dX7_either1_0 ?_
  refine g_cvI (pc := 1) (st := []) h mX7_both1 cvX7_306 (inw ht) (by decide) ⟨by decide, by decide⟩ (Nat.le_of_ble_eq_true rfl) rfl rfl dX7_either1_1 hF (fun x_1 w_2 hF => ?_)
  refine g_istore_n (pc := 4) (lv' := [(1, .inl x_1), (0, .inr (.inl (some t)))]) h dX7_either1_4 (hj 1 (by decide)) rfl ?_
  refine g_lv (lv' := [(0, .inr (.inl (some t))), (1, .inl x_1)]) [1, 0] rfl ?_
  exact kX7_either1_5 h hr hnL ht _ _ _ hF
def fX7_atom0_161 (t : Nat) (x1 : Int32) (w : Wd) : Option (Int32 × Wd) :=
  some (x1, w)
set_option maxHeartbeats 4000000 in
theorem kX7_atom0_161 {X : Cx} (h : Ok X cX7_atom0 RX7 36 0 0) (hr : RetI X .int 0 0) (hnL : nLX X = 2) {t : Nat} (ht : InN X t 7) : ∀ (x1 : Int32) (w : Wd), OkR X Value.int (fX7_atom0_161 t x1 w) → G X 0 0 161 [(1, .inl x1)] [] w := by
  have hj : ∀ j, j < 2 → j < nLX X := fun j q => by rw [hnL]; exact q
  intro x1 w hF
  unfold fX7_atom0_161 at hF
  refine g_iload_n (pc := 161) h 0 rfl dX7_atom0_161 ?_
  exact g_iret (pc := 162) h hr ⟨Nat.le_refl _, Nat.le_refl _⟩ hF dX7_atom0_162
def fX7_atom0_71 (t : Nat) (x1 : Int32) (w : Wd) : Option (Int32 × Wd) :=
  lw (sI w t 24 ((gI w t 24) - (1 : Int32))) (fun w_26 => if (gI w_26 t 25) = 0 then
    (bnd (fX7_next t w_26) (fun u_27 w_28 => fX7_atom0_161 t x1 w_28))
  else
    (fX7_atom0_161 t x1 w_26))
set_option maxHeartbeats 4000000 in
theorem kX7_atom0_71 {X : Cx} (h : Ok X cX7_atom0 RX7 36 0 0) (hr : RetI X .int 0 0) (hnL : nLX X = 2) {t : Nat} (ht : InN X t 7) : ∀ (x1 : Int32) (w : Wd), OkR X Value.int (fX7_atom0_71 t x1 w) → G X 0 0 71 [(0, .inr (.inl (some t))), (1, .inl x1)] [] w := by
  have hj : ∀ j, j < 2 → j < nLX X := fun j q => by rw [hnL]; exact q
  intro x1 w hF
  unfold fX7_atom0_71 at hF
  refine g_aload_n (pc := 71) h 0 rfl dX7_atom0_71 ?_
  refine g_dup (pc := 72) h dX7_atom0_72 rv_cat ?_
  refine g_getI (pc := 73) h fdX7_176 (inw ht) (by decide) dX7_atom0_73 ?_
  refine g_iconst (pc := 76) (v := (1 : Int32)) h dX7_atom0_76 (by decide) ?_
  refine g_isub (pc := 77) h dX7_atom0_77 ?_
  refine g_putI (pc := 78) h fdX7_176 (inw ht) (by decide) ⟨rfl, rfl⟩ dX7_atom0_78 ?_
  refine g_w hF (fun w_26 hF => ?_)
  refine g_aload_n (pc := 81) h 0 rfl dX7_atom0_81 ?_
  refine g_getI (pc := 82) h fdX7_166 (inw ht) (by decide) dX7_atom0_82 ?_
  refine g_if_ne (pc := 85) (tgt := 161) h dX7_atom0_85 (by decide) hF (fun hF => ?_) (fun hF => ?_)
  · refine g_lv (lv' := [(1, .inl x1)]) [1] rfl ?_
    exact kX7_atom0_161 h hr hnL ht _ _ hF
  · refine g_aload_n (pc := 88) h 0 rfl dX7_atom0_88 ?_
    refine g_cvV (pc := 89) (st := []) h mX7_next cvX7_182 (inw ht) (by decide) ⟨by decide, by decide⟩ (Nat.le_of_ble_eq_true rfl) rfl rfl dX7_atom0_89 hF (fun u_27 w_28 hF => ?_)
    refine g_goto (pc := 92) (tgt := 161) h dX7_atom0_92 (by decide) ?_
    refine g_lv (lv' := [(1, .inl x1)]) [1] rfl ?_
    exact kX7_atom0_161 h hr hnL ht _ _ hF
def fX7_atom0_157 (t : Nat) (x1 : Int32) (w : Wd) : Option (Int32 × Wd) :=
  bnd (fX7_fail t w) (fun u_29 w_30 => fX7_atom0_161 t x1 w_30)
set_option maxHeartbeats 4000000 in
theorem kX7_atom0_157 {X : Cx} (h : Ok X cX7_atom0 RX7 36 0 0) (hr : RetI X .int 0 0) (hnL : nLX X = 2) {t : Nat} (ht : InN X t 7) : ∀ (x1 : Int32) (w : Wd), OkR X Value.int (fX7_atom0_157 t x1 w) → G X 0 0 157 [(0, .inr (.inl (some t))), (1, .inl x1)] [] w := by
  have hj : ∀ j, j < 2 → j < nLX X := fun j q => by rw [hnL]; exact q
  intro x1 w hF
  unfold fX7_atom0_157 at hF
  refine g_aload_n (pc := 157) h 0 rfl dX7_atom0_157 ?_
  refine g_cvV (pc := 158) (st := []) h mX7_fail cvX7_179 (inw ht) (by decide) ⟨by decide, by decide⟩ (Nat.le_of_ble_eq_true rfl) rfl rfl dX7_atom0_158 hF (fun u_29 w_30 hF => ?_)
  refine g_lv (lv' := [(1, .inl x1)]) [1] rfl ?_
  exact kX7_atom0_161 h hr hnL ht _ _ hF
def fX7_atom0_123 (t : Nat) (x1 : Int32) (w : Wd) : Option (Int32 × Wd) :=
  if (gI w t 25) = 0 then
    (if (gI w t 21) = (1 : Int32) then
      (bnd (fX7_name t w) (fun x_22 w_23 => if (gI w_23 t 25) = 0 then
        (bnd (fX7_next t w_23) (fun u_24 w_25 => fX7_atom0_161 t x_22 w_25))
      else
        (fX7_atom0_161 t x_22 w_23)))
    else
      (fX7_atom0_157 t x1 w))
  else
    (fX7_atom0_157 t x1 w)
set_option maxHeartbeats 4000000 in
theorem kX7_atom0_123 {X : Cx} (h : Ok X cX7_atom0 RX7 36 0 0) (hr : RetI X .int 0 0) (hnL : nLX X = 2) {t : Nat} (ht : InN X t 7) : ∀ (x1 : Int32) (w : Wd), OkR X Value.int (fX7_atom0_123 t x1 w) → G X 0 0 123 [(0, .inr (.inl (some t))), (1, .inl x1)] [] w := by
  have hj : ∀ j, j < 2 → j < nLX X := fun j q => by rw [hnL]; exact q
  intro x1 w hF
  unfold fX7_atom0_123 at hF
  refine g_aload_n (pc := 123) h 0 rfl dX7_atom0_123 ?_
  refine g_getI (pc := 124) h fdX7_166 (inw ht) (by decide) dX7_atom0_124 ?_
  refine g_if_ne (pc := 127) (tgt := 157) h dX7_atom0_127 (by decide) hF (fun hF => ?_) (fun hF => ?_)
  · exact kX7_atom0_157 h hr hnL ht _ _ hF
  · refine g_aload_n (pc := 130) h 0 rfl dX7_atom0_130 ?_
    refine g_getI (pc := 131) h fdX7_149 (inw ht) (by decide) dX7_atom0_131 ?_
    refine g_iconst (pc := 134) (v := (1 : Int32)) h dX7_atom0_134 (by decide) ?_
    refine g_icmp_ne (pc := 135) (tgt := 157) h dX7_atom0_135 (by decide) hF (fun hF => ?_) (fun hF => ?_)
    · exact kX7_atom0_157 h hr hnL ht _ _ hF
    · refine g_aload_n (pc := 138) h 0 rfl dX7_atom0_138 ?_
      refine g_cvI (pc := 139) (st := []) h mX7_name cvX7_214 (inw ht) (by decide) ⟨by decide, by decide⟩ (Nat.le_of_ble_eq_true rfl) rfl rfl dX7_atom0_139 hF (fun x_22 w_23 hF => ?_)
      refine g_istore_n (pc := 142) (lv' := [(1, .inl x_22), (0, .inr (.inl (some t)))]) h dX7_atom0_142 (hj 1 (by decide)) rfl ?_
      refine g_aload_n (pc := 143) h 1 rfl dX7_atom0_143 ?_
      refine g_getI (pc := 144) h fdX7_166 (inw ht) (by decide) dX7_atom0_144 ?_
      refine g_if_ne (pc := 147) (tgt := 161) h dX7_atom0_147 (by decide) hF (fun hF => ?_) (fun hF => ?_)
      · refine g_lv (lv' := [(1, .inl x_22)]) [0] rfl ?_
        exact kX7_atom0_161 h hr hnL ht _ _ hF
      · refine g_aload_n (pc := 150) h 1 rfl dX7_atom0_150 ?_
        refine g_cvV (pc := 151) (st := []) h mX7_next cvX7_182 (inw ht) (by decide) ⟨by decide, by decide⟩ (Nat.le_of_ble_eq_true rfl) rfl rfl dX7_atom0_151 hF (fun u_24 w_25 hF => ?_)
        refine g_goto (pc := 154) (tgt := 161) h dX7_atom0_154 (by decide) ?_
        refine g_lv (lv' := [(1, .inl x_22)]) [0] rfl ?_
        exact kX7_atom0_161 h hr hnL ht _ _ hF
def fX7_atom0 (t : Nat) (w : Wd) : Option (Int32 × Wd) :=
  bnd (fX7_isSign t (45 : Int32) w) (fun x_1 w_2 => if x_1 = 0 then
    (bnd (fX7_isSign t (40 : Int32) w_2) (fun x_3 w_4 => if x_3 = 0 then
      (if (gI w_4 t 25) = 0 then
        (if (gI w_4 t 21) = (2 : Int32) then
          (lt ((gL w_4 t 23).toInt32) (fun x1_5 => bnd (fX7_next t w_4) (fun u_6 w_7 => fX7_atom0_161 t x1_5 w_7)))
        else
          (fX7_atom0_123 t (0 : Int32) w_4))
      else
        (fX7_atom0_123 t (0 : Int32) w_4))
    else
      (bnd (fX7_opens t w_4) (fun x_8 w_9 => if x_8 = 0 then
        (fX7_atom0_161 t (0 : Int32) w_9)
      else
        (bnd (fX7_either1 t w_9) (fun x_10 w_11 => bnd (fX7_isSign t (41 : Int32) w_11) (fun x_12 w_13 => if x_12 = 0 then
          (bnd (fX7_fail t w_13) (fun u_14 w_15 => fX7_atom0_71 t x_10 w_15))
        else
          (fX7_atom0_71 t x_10 w_13))))))))
  else
    (bnd (fX7_opens t w_2) (fun x_16 w_17 => if x_16 = 0 then
      (fX7_atom0_161 t (0 : Int32) w_17)
    else
      (bnd (fX7_atom1 t w_17) (fun x_18 w_19 => lt (-x_18) (fun x1_20 => lw (sI w_19 t 24 ((gI w_19 t 24) - (1 : Int32))) (fun w_21 => fX7_atom0_161 t x1_20 w_21)))))))
set_option maxHeartbeats 4000000 in
theorem mX7_atom0 {Γ : En} {t : Nat} {w : Wd} (ht : t < wn w ∧ kd t = 7) : MtI Γ yX7_atom0 cX7_atom0 2 (some .int) 36 0 0 [rv Γ (some t)] w (fX7_atom0 t w) := by
  refine mtI [.inr (.inl (some t))] rfl (Nat.le_of_ble_eq_true rfl) (fun X hΓ hnL hn0 h _ hr hF => ?_)
  subst hΓ
  have ht : InN X t 7 := ⟨by rw [hn0]; exact ht.1, ht.2⟩
  have h : Ok X cX7_atom0 RX7 36 0 0 := h
  have hj : ∀ j, j < 2 → j < nLX X := fun j q => by rw [hnL]; exact q
  show G X 0 0 0 [(0, .inr (.inl (some t)))] [] w
  unfold fX7_atom0 at hF
  refine g_iconst (pc := 0) (v := (0 : Int32)) h dX7_atom0_0 (by decide) ?_
  refine g_istore_n (pc := 1) (lv' := [(1, .inl (0 : Int32)), (0, .inr (.inl (some t)))]) h dX7_atom0_1 (hj 1 (by decide)) rfl ?_
  refine g_aload_n (pc := 2) h 1 rfl dX7_atom0_2 ?_
  refine g_bipush (pc := 3) (v := (45 : Int32)) h dX7_atom0_3 (by decide) ?_
  refine g_cvI (pc := 5) (st := []) h mX7_isSign cvX7_207 (inw ht) (by decide) ⟨by decide, by decide⟩ (Nat.le_of_ble_eq_true rfl) rfl rfl dX7_atom0_5 hF (fun x_1 w_2 hF => ?_)
  refine g_if_eq (pc := 8) (tgt := 37) h dX7_atom0_8 (by decide) hF (fun hF => ?_) (fun hF => ?_)
  · refine g_aload_n (pc := 37) h 1 rfl dX7_atom0_37 ?_
    refine g_bipush (pc := 38) (v := (40 : Int32)) h dX7_atom0_38 (by decide) ?_
    refine g_cvI (pc := 40) (st := []) h mX7_isSign cvX7_207 (inw ht) (by decide) ⟨by decide, by decide⟩ (Nat.le_of_ble_eq_true rfl) rfl rfl dX7_atom0_40 hF (fun x_3 w_4 hF => ?_)
    refine g_if_eq (pc := 43) (tgt := 95) h dX7_atom0_43 (by decide) hF (fun hF => ?_) (fun hF => ?_)
    · refine g_aload_n (pc := 95) h 1 rfl dX7_atom0_95 ?_
      refine g_getI (pc := 96) h fdX7_166 (inw ht) (by decide) dX7_atom0_96 ?_
      refine g_if_ne (pc := 99) (tgt := 123) h dX7_atom0_99 (by decide) hF (fun hF => ?_) (fun hF => ?_)
      · refine g_lv (lv' := [(0, .inr (.inl (some t))), (1, .inl (0 : Int32))]) [1, 0] rfl ?_
        exact kX7_atom0_123 h hr hnL ht _ _ hF
      · refine g_aload_n (pc := 102) h 1 rfl dX7_atom0_102 ?_
        refine g_getI (pc := 103) h fdX7_149 (inw ht) (by decide) dX7_atom0_103 ?_
        refine g_iconst (pc := 106) (v := (2 : Int32)) h dX7_atom0_106 (by decide) ?_
        refine g_icmp_ne (pc := 107) (tgt := 123) h dX7_atom0_107 (by decide) hF (fun hF => ?_) (fun hF => ?_)
        · refine g_lv (lv' := [(0, .inr (.inl (some t))), (1, .inl (0 : Int32))]) [1, 0] rfl ?_
          exact kX7_atom0_123 h hr hnL ht _ _ hF
        · refine g_aload_n (pc := 110) h 1 rfl dX7_atom0_110 ?_
          refine g_getL (pc := 111) h fdX7_160 (inw ht) rfl dX7_atom0_111 ?_
          refine g_l2i (pc := 114) h dX7_atom0_114 ?_
          refine g_t hF (fun x1_5 hF => ?_)
          refine g_istore_n (pc := 115) (lv' := [(1, .inl x1_5), (0, .inr (.inl (some t)))]) h dX7_atom0_115 (hj 1 (by decide)) rfl ?_
          refine g_aload_n (pc := 116) h 1 rfl dX7_atom0_116 ?_
          refine g_cvV (pc := 117) (st := []) h mX7_next cvX7_182 (inw ht) (by decide) ⟨by decide, by decide⟩ (Nat.le_of_ble_eq_true rfl) rfl rfl dX7_atom0_117 hF (fun u_6 w_7 hF => ?_)
          refine g_goto (pc := 120) (tgt := 161) h dX7_atom0_120 (by decide) ?_
          refine g_lv (lv' := [(1, .inl x1_5)]) [0] rfl ?_
          exact kX7_atom0_161 h hr hnL ht _ _ hF
    · refine g_aload_n (pc := 46) h 1 rfl dX7_atom0_46 ?_
      refine g_cvI (pc := 47) (st := []) h mX7_opens cvX7_210 (inw ht) (by decide) ⟨by decide, by decide⟩ (Nat.le_of_ble_eq_true rfl) rfl rfl dX7_atom0_47 hF (fun x_8 w_9 hF => ?_)
      refine g_if_eq (pc := 50) (tgt := 161) h dX7_atom0_50 (by decide) hF (fun hF => ?_) (fun hF => ?_)
      · refine g_lv (lv' := [(1, .inl (0 : Int32))]) [0] rfl ?_
        exact kX7_atom0_161 h hr hnL ht _ _ hF
      · refine g_aload_n (pc := 53) h 1 rfl dX7_atom0_53 ?_
        refine g_cvI (pc := 54) (st := []) h mX7_either1 cvX7_309 (inw ht) (by decide) ⟨by decide, by decide⟩ (Nat.le_of_ble_eq_true rfl) rfl rfl dX7_atom0_54 hF (fun x_10 w_11 hF => ?_)
        refine g_istore_n (pc := 57) (lv' := [(1, .inl x_10), (0, .inr (.inl (some t)))]) h dX7_atom0_57 (hj 1 (by decide)) rfl ?_
        refine g_aload_n (pc := 58) h 1 rfl dX7_atom0_58 ?_
        refine g_bipush (pc := 59) (v := (41 : Int32)) h dX7_atom0_59 (by decide) ?_
        refine g_cvI (pc := 61) (st := []) h mX7_isSign cvX7_207 (inw ht) (by decide) ⟨by decide, by decide⟩ (Nat.le_of_ble_eq_true rfl) rfl rfl dX7_atom0_61 hF (fun x_12 w_13 hF => ?_)
        refine g_if_ne (pc := 64) (tgt := 71) h dX7_atom0_64 (by decide) hF (fun hF => ?_) (fun hF => ?_)
        · refine g_lv (lv' := [(0, .inr (.inl (some t))), (1, .inl x_10)]) [1, 0] rfl ?_
          exact kX7_atom0_71 h hr hnL ht _ _ hF
        · refine g_aload_n (pc := 67) h 1 rfl dX7_atom0_67 ?_
          refine g_cvV (pc := 68) (st := []) h mX7_fail cvX7_179 (inw ht) (by decide) ⟨by decide, by decide⟩ (Nat.le_of_ble_eq_true rfl) rfl rfl dX7_atom0_68 hF (fun u_14 w_15 hF => ?_)
          refine g_lv (lv' := [(0, .inr (.inl (some t))), (1, .inl x_10)]) [1, 0] rfl ?_
          exact kX7_atom0_71 h hr hnL ht _ _ hF
  · refine g_aload_n (pc := 11) h 1 rfl dX7_atom0_11 ?_
    refine g_cvI (pc := 12) (st := []) h mX7_opens cvX7_210 (inw ht) (by decide) ⟨by decide, by decide⟩ (Nat.le_of_ble_eq_true rfl) rfl rfl dX7_atom0_12 hF (fun x_16 w_17 hF => ?_)
    refine g_if_eq (pc := 15) (tgt := 161) h dX7_atom0_15 (by decide) hF (fun hF => ?_) (fun hF => ?_)
    · refine g_lv (lv' := [(1, .inl (0 : Int32))]) [0] rfl ?_
      exact kX7_atom0_161 h hr hnL ht _ _ hF
    · refine g_aload_n (pc := 18) h 1 rfl dX7_atom0_18 ?_
      refine g_cvI (pc := 19) (st := []) h mX7_atom1 cvX7_294 (inw ht) (by decide) ⟨by decide, by decide⟩ (Nat.le_of_ble_eq_true rfl) rfl rfl dX7_atom0_19 hF (fun x_18 w_19 hF => ?_)
      refine g_ineg (pc := 22) h dX7_atom0_22 ?_
      refine g_t hF (fun x1_20 hF => ?_)
      refine g_istore_n (pc := 23) (lv' := [(1, .inl x1_20), (0, .inr (.inl (some t)))]) h dX7_atom0_23 (hj 1 (by decide)) rfl ?_
      refine g_aload_n (pc := 24) h 1 rfl dX7_atom0_24 ?_
      refine g_dup (pc := 25) h dX7_atom0_25 rv_cat ?_
      refine g_getI (pc := 26) h fdX7_176 (inw ht) (by decide) dX7_atom0_26 ?_
      refine g_iconst (pc := 29) (v := (1 : Int32)) h dX7_atom0_29 (by decide) ?_
      refine g_isub (pc := 30) h dX7_atom0_30 ?_
      refine g_putI (pc := 31) h fdX7_176 (inw ht) (by decide) ⟨rfl, rfl⟩ dX7_atom0_31 ?_
      refine g_w hF (fun w_21 hF => ?_)
      refine g_goto (pc := 34) (tgt := 161) h dX7_atom0_34 (by decide) ?_
      refine g_lv (lv' := [(1, .inl x1_20)]) [0] rfl ?_
      exact kX7_atom0_161 h hr hnL ht _ _ hF
def fX7_term0_5 (t : Nat) : Nat → Int32 → Wd → Option (Int32 × Wd)
  | 0 => fun _ _ => none
  | n + 1 => fun x1 w =>
    bnd (fX7_isSign t (42 : Int32) w) (fun x_3 w_4 => if x_3 = 0 then
      (some (x1, w_4))
    else
      (bnd (fX7_next t w_4) (fun u_5 w_6 => bnd (fX7_atom0 t w_6) (fun x_7 w_8 => lt (x1 * x_7) (fun x1_9 => fX7_term0_5 t n x1_9 w_8)))))
set_option maxHeartbeats 4000000 in
theorem kX7_term0_5 {X : Cx} (h : Ok X cX7_term0 RX7 37 0 0) (hr : RetI X .int 0 0) (hnL : nLX X = 2) {t : Nat} (ht : InN X t 7) : ∀ (fu : Nat) (x1 : Int32) (w : Wd), OkR X Value.int (fX7_term0_5 t fu x1 w) → G X 0 0 5 [(0, .inr (.inl (some t))), (1, .inl x1)] [] w := by
  have hj : ∀ j, j < 2 → j < nLX X := fun j q => by rw [hnL]; exact q
  intro fu
  induction fu with
  | zero => intro x1 w hF; exact okN hF
  | succ fu ih =>
    intro x1 w hF
    rw [fX7_term0_5] at hF
    refine g_aload_n (pc := 5) h 0 rfl dX7_term0_5 ?_
    refine g_bipush (pc := 6) (v := (42 : Int32)) h dX7_term0_6 (by decide) ?_
    refine g_cvI (pc := 8) (st := []) h mX7_isSign cvX7_207 (inw ht) (by decide) ⟨by decide, by decide⟩ (Nat.le_of_ble_eq_true rfl) rfl rfl dX7_term0_8 hF (fun x_3 w_4 hF => ?_)
    refine g_if_eq (pc := 11) (tgt := 28) h dX7_term0_11 (by decide) hF (fun hF => ?_) (fun hF => ?_)
    · refine g_iload_n (pc := 28) h 1 rfl dX7_term0_28 ?_
      exact g_iret (pc := 29) h hr ⟨Nat.le_refl _, Nat.le_refl _⟩ hF dX7_term0_29
    · refine g_aload_n (pc := 14) h 0 rfl dX7_term0_14 ?_
      refine g_cvV (pc := 15) (st := []) h mX7_next cvX7_182 (inw ht) (by decide) ⟨by decide, by decide⟩ (Nat.le_of_ble_eq_true rfl) rfl rfl dX7_term0_15 hF (fun u_5 w_6 hF => ?_)
      refine g_iload_n (pc := 18) h 1 rfl dX7_term0_18 ?_
      refine g_aload_n (pc := 19) h 0 rfl dX7_term0_19 ?_
      refine g_cvI (pc := 20) (st := [.int x1]) h mX7_atom0 cvX7_312 (inw ht) (by decide) ⟨by decide, by decide⟩ (Nat.le_of_ble_eq_true rfl) rfl rfl dX7_term0_20 hF (fun x_7 w_8 hF => ?_)
      refine g_imul (pc := 23) h dX7_term0_23 ?_
      refine g_t hF (fun x1_9 hF => ?_)
      refine g_istore_n (pc := 24) (lv' := [(1, .inl x1_9), (0, .inr (.inl (some t)))]) h dX7_term0_24 (hj 1 (by decide)) rfl ?_
      refine g_goto (pc := 25) (tgt := 5) h dX7_term0_25 (by decide) ?_
      refine g_lv (lv' := [(0, .inr (.inl (some t))), (1, .inl x1_9)]) [1, 0] rfl ?_
      exact ih _ _ hF
def fX7_term0 (t : Nat) (w : Wd) : Option (Int32 × Wd) :=
  bnd (fX7_atom0 t w) (fun x_1 w_2 => fX7_term0_5 t FU x_1 w_2)
set_option maxHeartbeats 4000000 in
theorem mX7_term0 {Γ : En} {t : Nat} {w : Wd} (ht : t < wn w ∧ kd t = 7) : MtI Γ yX7_term0 cX7_term0 2 (some .int) 37 0 0 [rv Γ (some t)] w (fX7_term0 t w) := by
  refine mtI [.inr (.inl (some t))] rfl (Nat.le_of_ble_eq_true rfl) (fun X hΓ hnL hn0 h _ hr hF => ?_)
  subst hΓ
  have ht : InN X t 7 := ⟨by rw [hn0]; exact ht.1, ht.2⟩
  have h : Ok X cX7_term0 RX7 37 0 0 := h
  have hj : ∀ j, j < 2 → j < nLX X := fun j q => by rw [hnL]; exact q
  show G X 0 0 0 [(0, .inr (.inl (some t)))] [] w
  unfold fX7_term0 at hF
  refine g_aload_n (pc := 0) h 0 rfl dX7_term0_0 ?_
  refine g_cvI (pc := 1) (st := []) h mX7_atom0 cvX7_312 (inw ht) (by decide) ⟨by decide, by decide⟩ (Nat.le_of_ble_eq_true rfl) rfl rfl dX7_term0_1 hF (fun x_1 w_2 hF => ?_)
  refine g_istore_n (pc := 4) (lv' := [(1, .inl x_1), (0, .inr (.inl (some t)))]) h dX7_term0_4 (hj 1 (by decide)) rfl ?_
  refine g_lv (lv' := [(0, .inr (.inl (some t))), (1, .inl x_1)]) [1, 0] rfl ?_
  exact kX7_term0_5 h hr hnL ht _ _ _ hF
def fX7_added0_62 (k5 : Int32 → Wd → Option (Int32 × Wd)) (t : Nat) (y0 : Int32) (w : Wd) : Option (Int32 × Wd) :=
  k5 y0 w
set_option maxHeartbeats 4000000 in
theorem kX7_added0_62 {X : Cx} (h : Ok X cX7_added0 RX7 38 0 0) (hr : RetI X .int 0 0) (hnL : nLX X = 4) {t : Nat} (ht : InN X t 7) {k5 : Int32 → Wd → Option (Int32 × Wd)} (hk5 : ∀ (x1 : Int32) (w : Wd), OkR X Value.int (k5 x1 w) → G X 0 0 5 [(0, .inr (.inl (some t))), (1, .inl x1)] [] w) : ∀ (y0 : Int32) (w : Wd), OkR X Value.int (fX7_added0_62 k5 t y0 w) → G X 0 0 62 [(0, .inr (.inl (some t)))] [.int y0] w := by
  have hj : ∀ j, j < 4 → j < nLX X := fun j q => by rw [hnL]; exact q
  intro y0 w hF
  unfold fX7_added0_62 at hF
  refine g_istore_n (pc := 62) (lv' := [(1, .inl y0), (0, .inr (.inl (some t)))]) h dX7_added0_62 (hj 1 (by decide)) rfl ?_
  refine g_goto (pc := 63) (tgt := 5) h dX7_added0_63 (by decide) ?_
  refine g_lv (lv' := [(0, .inr (.inl (some t))), (1, .inl y0)]) [1, 0] rfl ?_
  exact hk5 _ _ hF
def fX7_added0_39 (k5 : Int32 → Wd → Option (Int32 × Wd)) (t : Nat) (x1 : Int32) (y0 : Int32) (w : Wd) : Option (Int32 × Wd) :=
  bnd (fX7_next t w) (fun u_7 w_8 => bnd (fX7_term0 t w_8) (fun x_9 w_10 => if y0 = 0 then
    (fX7_added0_62 k5 t (x1 - x_9) w_10)
  else
    (fX7_added0_62 k5 t (x1 + x_9) w_10)))
set_option maxHeartbeats 4000000 in
theorem kX7_added0_39 {X : Cx} (h : Ok X cX7_added0 RX7 38 0 0) (hr : RetI X .int 0 0) (hnL : nLX X = 4) {t : Nat} (ht : InN X t 7) {k5 : Int32 → Wd → Option (Int32 × Wd)} (hk5 : ∀ (x1 : Int32) (w : Wd), OkR X Value.int (k5 x1 w) → G X 0 0 5 [(0, .inr (.inl (some t))), (1, .inl x1)] [] w) : ∀ (x1 : Int32) (y0 : Int32) (w : Wd), OkR X Value.int (fX7_added0_39 k5 t x1 y0 w) → G X 0 0 39 [(0, .inr (.inl (some t))), (1, .inl x1)] [.int y0] w := by
  have hj : ∀ j, j < 4 → j < nLX X := fun j q => by rw [hnL]; exact q
  intro x1 y0 w hF
  unfold fX7_added0_39 at hF
  refine g_istore_n (pc := 39) (lv' := [(2, .inl y0), (0, .inr (.inl (some t))), (1, .inl x1)]) h dX7_added0_39 (hj 2 (by decide)) rfl ?_
  refine g_aload_n (pc := 40) h 1 rfl dX7_added0_40 ?_
  refine g_cvV (pc := 41) (st := []) h mX7_next cvX7_182 (inw ht) (by decide) ⟨by decide, by decide⟩ (Nat.le_of_ble_eq_true rfl) rfl rfl dX7_added0_41 hF (fun u_7 w_8 hF => ?_)
  refine g_aload_n (pc := 44) h 1 rfl dX7_added0_44 ?_
  refine g_cvI (pc := 45) (st := []) h mX7_term0 cvX7_315 (inw ht) (by decide) ⟨by decide, by decide⟩ (Nat.le_of_ble_eq_true rfl) rfl rfl dX7_added0_45 hF (fun x_9 w_10 hF => ?_)
  refine g_istore_n (pc := 48) (lv' := [(3, .inl x_9), (2, .inl y0), (0, .inr (.inl (some t))), (1, .inl x1)]) h dX7_added0_48 (hj 3 (by decide)) rfl ?_
  refine g_iload_n (pc := 49) h 1 rfl dX7_added0_49 ?_
  refine g_if_eq (pc := 50) (tgt := 59) h dX7_added0_50 (by decide) hF (fun hF => ?_) (fun hF => ?_)
  · refine g_iload_n (pc := 59) h 3 rfl dX7_added0_59 ?_
    refine g_iload_n (pc := 60) h 0 rfl dX7_added0_60 ?_
    refine g_isub (pc := 61) h dX7_added0_61 ?_
    refine g_lv (lv' := [(0, .inr (.inl (some t)))]) [2] rfl ?_
    exact kX7_added0_62 h hr hnL ht hk5 _ _ hF
  · refine g_iload_n (pc := 53) h 3 rfl dX7_added0_53 ?_
    refine g_iload_n (pc := 54) h 0 rfl dX7_added0_54 ?_
    refine g_iadd (pc := 55) h dX7_added0_55 ?_
    refine g_goto (pc := 56) (tgt := 62) h dX7_added0_56 (by decide) ?_
    refine g_lv (lv' := [(0, .inr (.inl (some t)))]) [2] rfl ?_
    exact kX7_added0_62 h hr hnL ht hk5 _ _ hF
def fX7_added0_23 (k5 : Int32 → Wd → Option (Int32 × Wd)) (t : Nat) (x1 : Int32) (w : Wd) : Option (Int32 × Wd) :=
  if (lg_cmp (gL w t 23) (43 : Int64)) = 0 then
    (fX7_added0_39 k5 t x1 (1 : Int32) w)
  else
    (fX7_added0_39 k5 t x1 (0 : Int32) w)
set_option maxHeartbeats 4000000 in
theorem kX7_added0_23 {X : Cx} (h : Ok X cX7_added0 RX7 38 0 0) (hr : RetI X .int 0 0) (hnL : nLX X = 4) {t : Nat} (ht : InN X t 7) {k5 : Int32 → Wd → Option (Int32 × Wd)} (hk5 : ∀ (x1 : Int32) (w : Wd), OkR X Value.int (k5 x1 w) → G X 0 0 5 [(0, .inr (.inl (some t))), (1, .inl x1)] [] w) : ∀ (x1 : Int32) (w : Wd), OkR X Value.int (fX7_added0_23 k5 t x1 w) → G X 0 0 23 [(0, .inr (.inl (some t))), (1, .inl x1)] [] w := by
  have hj : ∀ j, j < 4 → j < nLX X := fun j q => by rw [hnL]; exact q
  intro x1 w hF
  unfold fX7_added0_23 at hF
  refine g_aload_n (pc := 23) h 0 rfl dX7_added0_23 ?_
  refine g_getL (pc := 24) h fdX7_160 (inw ht) rfl dX7_added0_24 ?_
  refine g_ldc2 (pc := 27) h wcL_X7_224 dX7_added0_27 ?_
  refine g_lcmp (pc := 30) h dX7_added0_30 ?_
  refine g_if_ne (pc := 31) (tgt := 38) h dX7_added0_31 (by decide) hF (fun hF => ?_) (fun hF => ?_)
  · refine g_iconst (pc := 38) (v := (0 : Int32)) h dX7_added0_38 (by decide) ?_
    exact kX7_added0_39 h hr hnL ht hk5 _ _ _ hF
  · refine g_iconst (pc := 34) (v := (1 : Int32)) h dX7_added0_34 (by decide) ?_
    refine g_goto (pc := 35) (tgt := 39) h dX7_added0_35 (by decide) ?_
    exact kX7_added0_39 h hr hnL ht hk5 _ _ _ hF
def fX7_added0_5 (t : Nat) : Nat → Int32 → Wd → Option (Int32 × Wd)
  | 0 => fun _ _ => none
  | n + 1 => fun x1 w =>
    bnd (fX7_isSign t (43 : Int32) w) (fun x_3 w_4 => if x_3 = 0 then
      (bnd (fX7_isSign t (45 : Int32) w_4) (fun x_5 w_6 => if x_5 = 0 then
        (some (x1, w_6))
      else
        (fX7_added0_23 (fX7_added0_5 t n) t x1 w_6)))
    else
      (fX7_added0_23 (fX7_added0_5 t n) t x1 w_4))
set_option maxHeartbeats 4000000 in
theorem kX7_added0_5 {X : Cx} (h : Ok X cX7_added0 RX7 38 0 0) (hr : RetI X .int 0 0) (hnL : nLX X = 4) {t : Nat} (ht : InN X t 7) : ∀ (fu : Nat) (x1 : Int32) (w : Wd), OkR X Value.int (fX7_added0_5 t fu x1 w) → G X 0 0 5 [(0, .inr (.inl (some t))), (1, .inl x1)] [] w := by
  have hj : ∀ j, j < 4 → j < nLX X := fun j q => by rw [hnL]; exact q
  intro fu
  induction fu with
  | zero => intro x1 w hF; exact okN hF
  | succ fu ih =>
    intro x1 w hF
    rw [fX7_added0_5] at hF
    refine g_aload_n (pc := 5) h 0 rfl dX7_added0_5 ?_
    refine g_bipush (pc := 6) (v := (43 : Int32)) h dX7_added0_6 (by decide) ?_
    refine g_cvI (pc := 8) (st := []) h mX7_isSign cvX7_207 (inw ht) (by decide) ⟨by decide, by decide⟩ (Nat.le_of_ble_eq_true rfl) rfl rfl dX7_added0_8 hF (fun x_3 w_4 hF => ?_)
    refine g_if_ne (pc := 11) (tgt := 23) h dX7_added0_11 (by decide) hF (fun hF => ?_) (fun hF => ?_)
    · exact kX7_added0_23 h hr hnL ht (fun z0 z1 hF => ih z0 z1 hF) _ _ hF
    · refine g_aload_n (pc := 14) h 0 rfl dX7_added0_14 ?_
      refine g_bipush (pc := 15) (v := (45 : Int32)) h dX7_added0_15 (by decide) ?_
      refine g_cvI (pc := 17) (st := []) h mX7_isSign cvX7_207 (inw ht) (by decide) ⟨by decide, by decide⟩ (Nat.le_of_ble_eq_true rfl) rfl rfl dX7_added0_17 hF (fun x_5 w_6 hF => ?_)
      refine g_if_eq (pc := 20) (tgt := 66) h dX7_added0_20 (by decide) hF (fun hF => ?_) (fun hF => ?_)
      · refine g_iload_n (pc := 66) h 1 rfl dX7_added0_66 ?_
        exact g_iret (pc := 67) h hr ⟨Nat.le_refl _, Nat.le_refl _⟩ hF dX7_added0_67
      · exact kX7_added0_23 h hr hnL ht (fun z0 z1 hF => ih z0 z1 hF) _ _ hF
def fX7_added0 (t : Nat) (w : Wd) : Option (Int32 × Wd) :=
  bnd (fX7_term0 t w) (fun x_1 w_2 => fX7_added0_5 t FU x_1 w_2)
set_option maxHeartbeats 4000000 in
theorem mX7_added0 {Γ : En} {t : Nat} {w : Wd} (ht : t < wn w ∧ kd t = 7) : MtI Γ yX7_added0 cX7_added0 4 (some .int) 38 0 0 [rv Γ (some t)] w (fX7_added0 t w) := by
  refine mtI [.inr (.inl (some t))] rfl (Nat.le_of_ble_eq_true rfl) (fun X hΓ hnL hn0 h _ hr hF => ?_)
  subst hΓ
  have ht : InN X t 7 := ⟨by rw [hn0]; exact ht.1, ht.2⟩
  have h : Ok X cX7_added0 RX7 38 0 0 := h
  have hj : ∀ j, j < 4 → j < nLX X := fun j q => by rw [hnL]; exact q
  show G X 0 0 0 [(0, .inr (.inl (some t)))] [] w
  unfold fX7_added0 at hF
  refine g_aload_n (pc := 0) h 0 rfl dX7_added0_0 ?_
  refine g_cvI (pc := 1) (st := []) h mX7_term0 cvX7_315 (inw ht) (by decide) ⟨by decide, by decide⟩ (Nat.le_of_ble_eq_true rfl) rfl rfl dX7_added0_1 hF (fun x_1 w_2 hF => ?_)
  refine g_istore_n (pc := 4) (lv' := [(1, .inl x_1), (0, .inr (.inl (some t)))]) h dX7_added0_4 (hj 1 (by decide)) rfl ?_
  refine g_lv (lv' := [(0, .inr (.inl (some t))), (1, .inl x_1)]) [1, 0] rfl ?_
  exact kX7_added0_5 h hr hnL ht _ _ _ hF
def fX7_not0_120 (t : Nat) (w : Wd) : Option (Int32 × Wd) :=
  some ((1 : Int32), w)
set_option maxHeartbeats 4000000 in
theorem kX7_not0_120 {X : Cx} (h : Ok X cX7_not0 RX7 39 0 0) (hr : RetI X .int 0 0) (hnL : nLX X = 4) {t : Nat} (ht : InN X t 7) : ∀ (w : Wd), OkR X Value.int (fX7_not0_120 t  w) → G X 0 0 120 [] [] w := by
  have hj : ∀ j, j < 4 → j < nLX X := fun j q => by rw [hnL]; exact q
  intro w hF
  unfold fX7_not0_120 at hF
  refine g_iconst (pc := 120) (v := (1 : Int32)) h dX7_not0_120 (by decide) ?_
  refine g_goto (pc := 121) (tgt := 125) h dX7_not0_121 (by decide) ?_
  exact g_iret (pc := 125) h hr ⟨Nat.le_refl _, Nat.le_refl _⟩ hF dX7_not0_125
def fX7_not0_93 (t : Nat) (x1 : Int32) (y0 : Int32) (w : Wd) : Option (Int32 × Wd) :=
  bnd (fX7_next t w) (fun u_14 w_15 => bnd (fX7_added0 t w_15) (fun x_16 w_17 => if y0 = 0 then
    (if x1 = x_16 then
      (fX7_not0_120 t w_17)
    else
      (some ((0 : Int32), w_17)))
  else
    (if x_16 ≤ x1 then
      (some ((0 : Int32), w_17))
    else
      (fX7_not0_120 t w_17))))
set_option maxHeartbeats 4000000 in
theorem kX7_not0_93 {X : Cx} (h : Ok X cX7_not0 RX7 39 0 0) (hr : RetI X .int 0 0) (hnL : nLX X = 4) {t : Nat} (ht : InN X t 7) : ∀ (x1 : Int32) (y0 : Int32) (w : Wd), OkR X Value.int (fX7_not0_93 t x1 y0 w) → G X 0 0 93 [(0, .inr (.inl (some t))), (1, .inl x1)] [.int y0] w := by
  have hj : ∀ j, j < 4 → j < nLX X := fun j q => by rw [hnL]; exact q
  intro x1 y0 w hF
  unfold fX7_not0_93 at hF
  refine g_istore_n (pc := 93) (lv' := [(2, .inl y0), (0, .inr (.inl (some t))), (1, .inl x1)]) h dX7_not0_93 (hj 2 (by decide)) rfl ?_
  refine g_aload_n (pc := 94) h 1 rfl dX7_not0_94 ?_
  refine g_cvV (pc := 95) (st := []) h mX7_next cvX7_182 (inw ht) (by decide) ⟨by decide, by decide⟩ (Nat.le_of_ble_eq_true rfl) rfl rfl dX7_not0_95 hF (fun u_14 w_15 hF => ?_)
  refine g_aload_n (pc := 98) h 1 rfl dX7_not0_98 ?_
  refine g_cvI (pc := 99) (st := []) h mX7_added0 cvX7_318 (inw ht) (by decide) ⟨by decide, by decide⟩ (Nat.le_of_ble_eq_true rfl) rfl rfl dX7_not0_99 hF (fun x_16 w_17 hF => ?_)
  refine g_istore_n (pc := 102) (lv' := [(3, .inl x_16), (2, .inl y0), (0, .inr (.inl (some t))), (1, .inl x1)]) h dX7_not0_102 (hj 3 (by decide)) rfl ?_
  refine g_iload_n (pc := 103) h 1 rfl dX7_not0_103 ?_
  refine g_if_eq (pc := 104) (tgt := 115) h dX7_not0_104 (by decide) hF (fun hF => ?_) (fun hF => ?_)
  · refine g_iload_n (pc := 115) h 3 rfl dX7_not0_115 ?_
    refine g_iload_n (pc := 116) h 0 rfl dX7_not0_116 ?_
    refine g_icmp_ne (pc := 117) (tgt := 124) h dX7_not0_117 (by decide) hF (fun hF => ?_) (fun hF => ?_)
    · refine g_iconst (pc := 124) (v := (0 : Int32)) h dX7_not0_124 (by decide) ?_
      exact g_iret (pc := 125) h hr ⟨Nat.le_refl _, Nat.le_refl _⟩ hF dX7_not0_125
    · refine g_lv (lv' := []) [] rfl ?_
      exact kX7_not0_120 h hr hnL ht _ hF
  · refine g_iload_n (pc := 107) h 3 rfl dX7_not0_107 ?_
    refine g_iload_n (pc := 108) h 0 rfl dX7_not0_108 ?_
    refine g_icmp_ge (pc := 109) (tgt := 124) h dX7_not0_109 (by decide) hF (fun hF => ?_) (fun hF => ?_)
    · refine g_iconst (pc := 124) (v := (0 : Int32)) h dX7_not0_124 (by decide) ?_
      exact g_iret (pc := 125) h hr ⟨Nat.le_refl _, Nat.le_refl _⟩ hF dX7_not0_125
    · refine g_goto (pc := 112) (tgt := 120) h dX7_not0_112 (by decide) ?_
      refine g_lv (lv' := []) [] rfl ?_
      exact kX7_not0_120 h hr hnL ht _ hF
def fX7_not0_77 (t : Nat) (x1 : Int32) (w : Wd) : Option (Int32 × Wd) :=
  if (lg_cmp (gL w t 23) (60 : Int64)) = 0 then
    (fX7_not0_93 t x1 (1 : Int32) w)
  else
    (fX7_not0_93 t x1 (0 : Int32) w)
set_option maxHeartbeats 4000000 in
theorem kX7_not0_77 {X : Cx} (h : Ok X cX7_not0 RX7 39 0 0) (hr : RetI X .int 0 0) (hnL : nLX X = 4) {t : Nat} (ht : InN X t 7) : ∀ (x1 : Int32) (w : Wd), OkR X Value.int (fX7_not0_77 t x1 w) → G X 0 0 77 [(0, .inr (.inl (some t))), (1, .inl x1)] [] w := by
  have hj : ∀ j, j < 4 → j < nLX X := fun j q => by rw [hnL]; exact q
  intro x1 w hF
  unfold fX7_not0_77 at hF
  refine g_aload_n (pc := 77) h 0 rfl dX7_not0_77 ?_
  refine g_getL (pc := 78) h fdX7_160 (inw ht) rfl dX7_not0_78 ?_
  refine g_ldc2 (pc := 81) h wcL_X7_229 dX7_not0_81 ?_
  refine g_lcmp (pc := 84) h dX7_not0_84 ?_
  refine g_if_ne (pc := 85) (tgt := 92) h dX7_not0_85 (by decide) hF (fun hF => ?_) (fun hF => ?_)
  · refine g_iconst (pc := 92) (v := (0 : Int32)) h dX7_not0_92 (by decide) ?_
    exact kX7_not0_93 h hr hnL ht _ _ _ hF
  · refine g_iconst (pc := 88) (v := (1 : Int32)) h dX7_not0_88 (by decide) ?_
    refine g_goto (pc := 89) (tgt := 93) h dX7_not0_89 (by decide) ?_
    exact kX7_not0_93 h hr hnL ht _ _ _ hF
def fX7_not0 (t : Nat) (w : Wd) : Option (Int32 × Wd) :=
  bnd (fX7_isWord t (110 : Int32) (111 : Int32) (116 : Int32) (0 : Int32) (0 : Int32) (0 : Int32) (0 : Int32) (0 : Int32) w) (fun x_1 w_2 => if x_1 = 0 then
    (bnd (fX7_added0 t w_2) (fun x_3 w_4 => bnd (fX7_isSign t (60 : Int32) w_4) (fun x_5 w_6 => if x_5 = 0 then
      (bnd (fX7_isSign t (61 : Int32) w_6) (fun x_7 w_8 => if x_7 = 0 then
        (some (x_3, w_8))
      else
        (fX7_not0_77 t x_3 w_8)))
    else
      (fX7_not0_77 t x_3 w_6))))
  else
    (bnd (fX7_opens t w_2) (fun x_9 w_10 => if x_9 = 0 then
      (some ((0 : Int32), w_10))
    else
      (bnd (fX7_not1 t w_10) (fun x_11 w_12 => lw (sI w_12 t 24 ((gI w_12 t 24) - (1 : Int32))) (fun w_13 => if x_11 = 0 then
        (some ((1 : Int32), w_13))
      else
        (some ((0 : Int32), w_13))))))))
set_option maxHeartbeats 4000000 in
theorem mX7_not0 {Γ : En} {t : Nat} {w : Wd} (ht : t < wn w ∧ kd t = 7) : MtI Γ yX7_not0 cX7_not0 4 (some .int) 39 0 0 [rv Γ (some t)] w (fX7_not0 t w) := by
  refine mtI [.inr (.inl (some t))] rfl (Nat.le_of_ble_eq_true rfl) (fun X hΓ hnL hn0 h _ hr hF => ?_)
  subst hΓ
  have ht : InN X t 7 := ⟨by rw [hn0]; exact ht.1, ht.2⟩
  have h : Ok X cX7_not0 RX7 39 0 0 := h
  have hj : ∀ j, j < 4 → j < nLX X := fun j q => by rw [hnL]; exact q
  show G X 0 0 0 [(0, .inr (.inl (some t)))] [] w
  unfold fX7_not0 at hF
  refine g_aload_n (pc := 0) h 0 rfl dX7_not0_0 ?_
  refine g_bipush (pc := 1) (v := (110 : Int32)) h dX7_not0_1 (by decide) ?_
  refine g_bipush (pc := 3) (v := (111 : Int32)) h dX7_not0_3 (by decide) ?_
  refine g_bipush (pc := 5) (v := (116 : Int32)) h dX7_not0_5 (by decide) ?_
  refine g_iconst (pc := 7) (v := (0 : Int32)) h dX7_not0_7 (by decide) ?_
  refine g_iconst (pc := 8) (v := (0 : Int32)) h dX7_not0_8 (by decide) ?_
  refine g_iconst (pc := 9) (v := (0 : Int32)) h dX7_not0_9 (by decide) ?_
  refine g_iconst (pc := 10) (v := (0 : Int32)) h dX7_not0_10 (by decide) ?_
  refine g_iconst (pc := 11) (v := (0 : Int32)) h dX7_not0_11 (by decide) ?_
  refine g_cvI (pc := 12) (st := []) h mX7_isWord cvX7_185 (inw ht) (by decide) ⟨by decide, by decide⟩ (Nat.le_of_ble_eq_true rfl) rfl rfl dX7_not0_12 hF (fun x_1 w_2 hF => ?_)
  refine g_if_eq (pc := 15) (tgt := 52) h dX7_not0_15 (by decide) hF (fun hF => ?_) (fun hF => ?_)
  · refine g_aload_n (pc := 52) h 0 rfl dX7_not0_52 ?_
    refine g_cvI (pc := 53) (st := []) h mX7_added0 cvX7_318 (inw ht) (by decide) ⟨by decide, by decide⟩ (Nat.le_of_ble_eq_true rfl) rfl rfl dX7_not0_53 hF (fun x_3 w_4 hF => ?_)
    refine g_istore_n (pc := 56) (lv' := [(1, .inl x_3), (0, .inr (.inl (some t)))]) h dX7_not0_56 (hj 1 (by decide)) rfl ?_
    refine g_aload_n (pc := 57) h 1 rfl dX7_not0_57 ?_
    refine g_bipush (pc := 58) (v := (60 : Int32)) h dX7_not0_58 (by decide) ?_
    refine g_cvI (pc := 60) (st := []) h mX7_isSign cvX7_207 (inw ht) (by decide) ⟨by decide, by decide⟩ (Nat.le_of_ble_eq_true rfl) rfl rfl dX7_not0_60 hF (fun x_5 w_6 hF => ?_)
    refine g_if_ne (pc := 63) (tgt := 77) h dX7_not0_63 (by decide) hF (fun hF => ?_) (fun hF => ?_)
    · refine g_lv (lv' := [(0, .inr (.inl (some t))), (1, .inl x_3)]) [1, 0] rfl ?_
      exact kX7_not0_77 h hr hnL ht _ _ hF
    · refine g_aload_n (pc := 66) h 1 rfl dX7_not0_66 ?_
      refine g_bipush (pc := 67) (v := (61 : Int32)) h dX7_not0_67 (by decide) ?_
      refine g_cvI (pc := 69) (st := []) h mX7_isSign cvX7_207 (inw ht) (by decide) ⟨by decide, by decide⟩ (Nat.le_of_ble_eq_true rfl) rfl rfl dX7_not0_69 hF (fun x_7 w_8 hF => ?_)
      refine g_if_ne (pc := 72) (tgt := 77) h dX7_not0_72 (by decide) hF (fun hF => ?_) (fun hF => ?_)
      · refine g_lv (lv' := [(0, .inr (.inl (some t))), (1, .inl x_3)]) [1, 0] rfl ?_
        exact kX7_not0_77 h hr hnL ht _ _ hF
      · refine g_iload_n (pc := 75) h 0 rfl dX7_not0_75 ?_
        exact g_iret (pc := 76) h hr ⟨Nat.le_refl _, Nat.le_refl _⟩ hF dX7_not0_76
  · refine g_aload_n (pc := 18) h 0 rfl dX7_not0_18 ?_
    refine g_cvI (pc := 19) (st := []) h mX7_opens cvX7_210 (inw ht) (by decide) ⟨by decide, by decide⟩ (Nat.le_of_ble_eq_true rfl) rfl rfl dX7_not0_19 hF (fun x_9 w_10 hF => ?_)
    refine g_if_ne (pc := 22) (tgt := 27) h dX7_not0_22 (by decide) hF (fun hF => ?_) (fun hF => ?_)
    · refine g_aload_n (pc := 27) h 0 rfl dX7_not0_27 ?_
      refine g_cvI (pc := 28) (st := []) h mX7_not1 cvX7_303 (inw ht) (by decide) ⟨by decide, by decide⟩ (Nat.le_of_ble_eq_true rfl) rfl rfl dX7_not0_28 hF (fun x_11 w_12 hF => ?_)
      refine g_istore_n (pc := 31) (lv' := [(1, .inl x_11), (0, .inr (.inl (some t)))]) h dX7_not0_31 (hj 1 (by decide)) rfl ?_
      refine g_aload_n (pc := 32) h 1 rfl dX7_not0_32 ?_
      refine g_dup (pc := 33) h dX7_not0_33 rv_cat ?_
      refine g_getI (pc := 34) h fdX7_176 (inw ht) (by decide) dX7_not0_34 ?_
      refine g_iconst (pc := 37) (v := (1 : Int32)) h dX7_not0_37 (by decide) ?_
      refine g_isub (pc := 38) h dX7_not0_38 ?_
      refine g_putI (pc := 39) h fdX7_176 (inw ht) (by decide) ⟨rfl, rfl⟩ dX7_not0_39 ?_
      refine g_w hF (fun w_13 hF => ?_)
      refine g_iload_n (pc := 42) h 0 rfl dX7_not0_42 ?_
      refine g_if_ne (pc := 43) (tgt := 50) h dX7_not0_43 (by decide) hF (fun hF => ?_) (fun hF => ?_)
      · refine g_iconst (pc := 50) (v := (0 : Int32)) h dX7_not0_50 (by decide) ?_
        exact g_iret (pc := 51) h hr ⟨Nat.le_refl _, Nat.le_refl _⟩ hF dX7_not0_51
      · refine g_iconst (pc := 46) (v := (1 : Int32)) h dX7_not0_46 (by decide) ?_
        refine g_goto (pc := 47) (tgt := 51) h dX7_not0_47 (by decide) ?_
        exact g_iret (pc := 51) h hr ⟨Nat.le_refl _, Nat.le_refl _⟩ hF dX7_not0_51
    · refine g_iconst (pc := 25) (v := (0 : Int32)) h dX7_not0_25 (by decide) ?_
      exact g_iret (pc := 26) h hr ⟨Nat.le_refl _, Nat.le_refl _⟩ hF dX7_not0_26
def fX7_both0_45 (k5 : Int32 → Wd → Option (Int32 × Wd)) (t : Nat) (y0 : Int32) (w : Wd) : Option (Int32 × Wd) :=
  k5 y0 w
set_option maxHeartbeats 4000000 in
theorem kX7_both0_45 {X : Cx} (h : Ok X cX7_both0 RX7 40 0 0) (hr : RetI X .int 0 0) (hnL : nLX X = 3) {t : Nat} (ht : InN X t 7) {k5 : Int32 → Wd → Option (Int32 × Wd)} (hk5 : ∀ (x1 : Int32) (w : Wd), OkR X Value.int (k5 x1 w) → G X 0 0 5 [(0, .inr (.inl (some t))), (1, .inl x1)] [] w) : ∀ (y0 : Int32) (w : Wd), OkR X Value.int (fX7_both0_45 k5 t y0 w) → G X 0 0 45 [(0, .inr (.inl (some t)))] [.int y0] w := by
  have hj : ∀ j, j < 3 → j < nLX X := fun j q => by rw [hnL]; exact q
  intro y0 w hF
  unfold fX7_both0_45 at hF
  refine g_istore_n (pc := 45) (lv' := [(1, .inl y0), (0, .inr (.inl (some t)))]) h dX7_both0_45 (hj 1 (by decide)) rfl ?_
  refine g_goto (pc := 46) (tgt := 5) h dX7_both0_46 (by decide) ?_
  refine g_lv (lv' := [(0, .inr (.inl (some t))), (1, .inl y0)]) [1, 0] rfl ?_
  exact hk5 _ _ hF
def fX7_both0_44 (k5 : Int32 → Wd → Option (Int32 × Wd)) (t : Nat) (w : Wd) : Option (Int32 × Wd) :=
  fX7_both0_45 k5 t (0 : Int32) w
set_option maxHeartbeats 4000000 in
theorem kX7_both0_44 {X : Cx} (h : Ok X cX7_both0 RX7 40 0 0) (hr : RetI X .int 0 0) (hnL : nLX X = 3) {t : Nat} (ht : InN X t 7) {k5 : Int32 → Wd → Option (Int32 × Wd)} (hk5 : ∀ (x1 : Int32) (w : Wd), OkR X Value.int (k5 x1 w) → G X 0 0 5 [(0, .inr (.inl (some t))), (1, .inl x1)] [] w) : ∀ (w : Wd), OkR X Value.int (fX7_both0_44 k5 t  w) → G X 0 0 44 [(0, .inr (.inl (some t)))] [] w := by
  have hj : ∀ j, j < 3 → j < nLX X := fun j q => by rw [hnL]; exact q
  intro w hF
  unfold fX7_both0_44 at hF
  refine g_iconst (pc := 44) (v := (0 : Int32)) h dX7_both0_44 (by decide) ?_
  exact kX7_both0_45 h hr hnL ht hk5 _ _ hF
def fX7_both0_5 (t : Nat) : Nat → Int32 → Wd → Option (Int32 × Wd)
  | 0 => fun _ _ => none
  | n + 1 => fun x1 w =>
    bnd (fX7_isWord t (97 : Int32) (110 : Int32) (100 : Int32) (0 : Int32) (0 : Int32) (0 : Int32) (0 : Int32) (0 : Int32) w) (fun x_3 w_4 => if x_3 = 0 then
      (some (x1, w_4))
    else
      (bnd (fX7_next t w_4) (fun u_5 w_6 => bnd (fX7_not0 t w_6) (fun x_7 w_8 => if x1 = 0 then
        (fX7_both0_44 (fX7_both0_5 t n) t w_8)
      else
        (if x_7 = 0 then
          (fX7_both0_44 (fX7_both0_5 t n) t w_8)
        else
          (fX7_both0_45 (fX7_both0_5 t n) t (1 : Int32) w_8))))))
set_option maxHeartbeats 4000000 in
theorem kX7_both0_5 {X : Cx} (h : Ok X cX7_both0 RX7 40 0 0) (hr : RetI X .int 0 0) (hnL : nLX X = 3) {t : Nat} (ht : InN X t 7) : ∀ (fu : Nat) (x1 : Int32) (w : Wd), OkR X Value.int (fX7_both0_5 t fu x1 w) → G X 0 0 5 [(0, .inr (.inl (some t))), (1, .inl x1)] [] w := by
  have hj : ∀ j, j < 3 → j < nLX X := fun j q => by rw [hnL]; exact q
  intro fu
  induction fu with
  | zero => intro x1 w hF; exact okN hF
  | succ fu ih =>
    intro x1 w hF
    rw [fX7_both0_5] at hF
    refine g_aload_n (pc := 5) h 0 rfl dX7_both0_5 ?_
    refine g_bipush (pc := 6) (v := (97 : Int32)) h dX7_both0_6 (by decide) ?_
    refine g_bipush (pc := 8) (v := (110 : Int32)) h dX7_both0_8 (by decide) ?_
    refine g_bipush (pc := 10) (v := (100 : Int32)) h dX7_both0_10 (by decide) ?_
    refine g_iconst (pc := 12) (v := (0 : Int32)) h dX7_both0_12 (by decide) ?_
    refine g_iconst (pc := 13) (v := (0 : Int32)) h dX7_both0_13 (by decide) ?_
    refine g_iconst (pc := 14) (v := (0 : Int32)) h dX7_both0_14 (by decide) ?_
    refine g_iconst (pc := 15) (v := (0 : Int32)) h dX7_both0_15 (by decide) ?_
    refine g_iconst (pc := 16) (v := (0 : Int32)) h dX7_both0_16 (by decide) ?_
    refine g_cvI (pc := 17) (st := []) h mX7_isWord cvX7_185 (inw ht) (by decide) ⟨by decide, by decide⟩ (Nat.le_of_ble_eq_true rfl) rfl rfl dX7_both0_17 hF (fun x_3 w_4 hF => ?_)
    refine g_if_eq (pc := 20) (tgt := 49) h dX7_both0_20 (by decide) hF (fun hF => ?_) (fun hF => ?_)
    · refine g_iload_n (pc := 49) h 1 rfl dX7_both0_49 ?_
      exact g_iret (pc := 50) h hr ⟨Nat.le_refl _, Nat.le_refl _⟩ hF dX7_both0_50
    · refine g_aload_n (pc := 23) h 0 rfl dX7_both0_23 ?_
      refine g_cvV (pc := 24) (st := []) h mX7_next cvX7_182 (inw ht) (by decide) ⟨by decide, by decide⟩ (Nat.le_of_ble_eq_true rfl) rfl rfl dX7_both0_24 hF (fun u_5 w_6 hF => ?_)
      refine g_aload_n (pc := 27) h 0 rfl dX7_both0_27 ?_
      refine g_cvI (pc := 28) (st := []) h mX7_not0 cvX7_321 (inw ht) (by decide) ⟨by decide, by decide⟩ (Nat.le_of_ble_eq_true rfl) rfl rfl dX7_both0_28 hF (fun x_7 w_8 hF => ?_)
      refine g_istore_n (pc := 31) (lv' := [(2, .inl x_7), (0, .inr (.inl (some t))), (1, .inl x1)]) h dX7_both0_31 (hj 2 (by decide)) rfl ?_
      refine g_iload_n (pc := 32) h 2 rfl dX7_both0_32 ?_
      refine g_if_eq (pc := 33) (tgt := 44) h dX7_both0_33 (by decide) hF (fun hF => ?_) (fun hF => ?_)
      · refine g_lv (lv' := [(0, .inr (.inl (some t)))]) [1] rfl ?_
        exact kX7_both0_44 h hr hnL ht (fun z0 z1 hF => ih z0 z1 hF) _ hF
      · refine g_iload_n (pc := 36) h 0 rfl dX7_both0_36 ?_
        refine g_if_eq (pc := 37) (tgt := 44) h dX7_both0_37 (by decide) hF (fun hF => ?_) (fun hF => ?_)
        · refine g_lv (lv' := [(0, .inr (.inl (some t)))]) [1] rfl ?_
          exact kX7_both0_44 h hr hnL ht (fun z0 z1 hF => ih z0 z1 hF) _ hF
        · refine g_iconst (pc := 40) (v := (1 : Int32)) h dX7_both0_40 (by decide) ?_
          refine g_goto (pc := 41) (tgt := 45) h dX7_both0_41 (by decide) ?_
          refine g_lv (lv' := [(0, .inr (.inl (some t)))]) [1] rfl ?_
          exact kX7_both0_45 h hr hnL ht (fun z0 z1 hF => ih z0 z1 hF) _ _ hF
def fX7_both0 (t : Nat) (w : Wd) : Option (Int32 × Wd) :=
  bnd (fX7_not0 t w) (fun x_1 w_2 => fX7_both0_5 t FU x_1 w_2)
set_option maxHeartbeats 4000000 in
theorem mX7_both0 {Γ : En} {t : Nat} {w : Wd} (ht : t < wn w ∧ kd t = 7) : MtI Γ yX7_both0 cX7_both0 3 (some .int) 40 0 0 [rv Γ (some t)] w (fX7_both0 t w) := by
  refine mtI [.inr (.inl (some t))] rfl (Nat.le_of_ble_eq_true rfl) (fun X hΓ hnL hn0 h _ hr hF => ?_)
  subst hΓ
  have ht : InN X t 7 := ⟨by rw [hn0]; exact ht.1, ht.2⟩
  have h : Ok X cX7_both0 RX7 40 0 0 := h
  have hj : ∀ j, j < 3 → j < nLX X := fun j q => by rw [hnL]; exact q
  show G X 0 0 0 [(0, .inr (.inl (some t)))] [] w
  unfold fX7_both0 at hF
  refine g_aload_n (pc := 0) h 0 rfl dX7_both0_0 ?_
  refine g_cvI (pc := 1) (st := []) h mX7_not0 cvX7_321 (inw ht) (by decide) ⟨by decide, by decide⟩ (Nat.le_of_ble_eq_true rfl) rfl rfl dX7_both0_1 hF (fun x_1 w_2 hF => ?_)
  refine g_istore_n (pc := 4) (lv' := [(1, .inl x_1), (0, .inr (.inl (some t)))]) h dX7_both0_4 (hj 1 (by decide)) rfl ?_
  refine g_lv (lv' := [(0, .inr (.inl (some t))), (1, .inl x_1)]) [1, 0] rfl ?_
  exact kX7_both0_5 h hr hnL ht _ _ _ hF
def fX7_either0_44 (k5 : Int32 → Wd → Option (Int32 × Wd)) (t : Nat) (y0 : Int32) (w : Wd) : Option (Int32 × Wd) :=
  k5 y0 w
set_option maxHeartbeats 4000000 in
theorem kX7_either0_44 {X : Cx} (h : Ok X cX7_either0 RX7 41 0 0) (hr : RetI X .int 0 0) (hnL : nLX X = 3) {t : Nat} (ht : InN X t 7) {k5 : Int32 → Wd → Option (Int32 × Wd)} (hk5 : ∀ (x1 : Int32) (w : Wd), OkR X Value.int (k5 x1 w) → G X 0 0 5 [(0, .inr (.inl (some t))), (1, .inl x1)] [] w) : ∀ (y0 : Int32) (w : Wd), OkR X Value.int (fX7_either0_44 k5 t y0 w) → G X 0 0 44 [(0, .inr (.inl (some t)))] [.int y0] w := by
  have hj : ∀ j, j < 3 → j < nLX X := fun j q => by rw [hnL]; exact q
  intro y0 w hF
  unfold fX7_either0_44 at hF
  refine g_istore_n (pc := 44) (lv' := [(1, .inl y0), (0, .inr (.inl (some t)))]) h dX7_either0_44 (hj 1 (by decide)) rfl ?_
  refine g_goto (pc := 45) (tgt := 5) h dX7_either0_45 (by decide) ?_
  refine g_lv (lv' := [(0, .inr (.inl (some t))), (1, .inl y0)]) [1, 0] rfl ?_
  exact hk5 _ _ hF
def fX7_either0_39 (k5 : Int32 → Wd → Option (Int32 × Wd)) (t : Nat) (w : Wd) : Option (Int32 × Wd) :=
  fX7_either0_44 k5 t (1 : Int32) w
set_option maxHeartbeats 4000000 in
theorem kX7_either0_39 {X : Cx} (h : Ok X cX7_either0 RX7 41 0 0) (hr : RetI X .int 0 0) (hnL : nLX X = 3) {t : Nat} (ht : InN X t 7) {k5 : Int32 → Wd → Option (Int32 × Wd)} (hk5 : ∀ (x1 : Int32) (w : Wd), OkR X Value.int (k5 x1 w) → G X 0 0 5 [(0, .inr (.inl (some t))), (1, .inl x1)] [] w) : ∀ (w : Wd), OkR X Value.int (fX7_either0_39 k5 t  w) → G X 0 0 39 [(0, .inr (.inl (some t)))] [] w := by
  have hj : ∀ j, j < 3 → j < nLX X := fun j q => by rw [hnL]; exact q
  intro w hF
  unfold fX7_either0_39 at hF
  refine g_iconst (pc := 39) (v := (1 : Int32)) h dX7_either0_39 (by decide) ?_
  refine g_goto (pc := 40) (tgt := 44) h dX7_either0_40 (by decide) ?_
  exact kX7_either0_44 h hr hnL ht hk5 _ _ hF
def fX7_either0_5 (t : Nat) : Nat → Int32 → Wd → Option (Int32 × Wd)
  | 0 => fun _ _ => none
  | n + 1 => fun x1 w =>
    bnd (fX7_isWord t (111 : Int32) (114 : Int32) (0 : Int32) (0 : Int32) (0 : Int32) (0 : Int32) (0 : Int32) (0 : Int32) w) (fun x_3 w_4 => if x_3 = 0 then
      (some (x1, w_4))
    else
      (bnd (fX7_next t w_4) (fun u_5 w_6 => bnd (fX7_both0 t w_6) (fun x_7 w_8 => if x1 = 0 then
        (if x_7 = 0 then
          (fX7_either0_44 (fX7_either0_5 t n) t (0 : Int32) w_8)
        else
          (fX7_either0_39 (fX7_either0_5 t n) t w_8))
      else
        (fX7_either0_39 (fX7_either0_5 t n) t w_8)))))
set_option maxHeartbeats 4000000 in
theorem kX7_either0_5 {X : Cx} (h : Ok X cX7_either0 RX7 41 0 0) (hr : RetI X .int 0 0) (hnL : nLX X = 3) {t : Nat} (ht : InN X t 7) : ∀ (fu : Nat) (x1 : Int32) (w : Wd), OkR X Value.int (fX7_either0_5 t fu x1 w) → G X 0 0 5 [(0, .inr (.inl (some t))), (1, .inl x1)] [] w := by
  have hj : ∀ j, j < 3 → j < nLX X := fun j q => by rw [hnL]; exact q
  intro fu
  induction fu with
  | zero => intro x1 w hF; exact okN hF
  | succ fu ih =>
    intro x1 w hF
    rw [fX7_either0_5] at hF
    refine g_aload_n (pc := 5) h 0 rfl dX7_either0_5 ?_
    refine g_bipush (pc := 6) (v := (111 : Int32)) h dX7_either0_6 (by decide) ?_
    refine g_bipush (pc := 8) (v := (114 : Int32)) h dX7_either0_8 (by decide) ?_
    refine g_iconst (pc := 10) (v := (0 : Int32)) h dX7_either0_10 (by decide) ?_
    refine g_iconst (pc := 11) (v := (0 : Int32)) h dX7_either0_11 (by decide) ?_
    refine g_iconst (pc := 12) (v := (0 : Int32)) h dX7_either0_12 (by decide) ?_
    refine g_iconst (pc := 13) (v := (0 : Int32)) h dX7_either0_13 (by decide) ?_
    refine g_iconst (pc := 14) (v := (0 : Int32)) h dX7_either0_14 (by decide) ?_
    refine g_iconst (pc := 15) (v := (0 : Int32)) h dX7_either0_15 (by decide) ?_
    refine g_cvI (pc := 16) (st := []) h mX7_isWord cvX7_185 (inw ht) (by decide) ⟨by decide, by decide⟩ (Nat.le_of_ble_eq_true rfl) rfl rfl dX7_either0_16 hF (fun x_3 w_4 hF => ?_)
    refine g_if_eq (pc := 19) (tgt := 48) h dX7_either0_19 (by decide) hF (fun hF => ?_) (fun hF => ?_)
    · refine g_iload_n (pc := 48) h 1 rfl dX7_either0_48 ?_
      exact g_iret (pc := 49) h hr ⟨Nat.le_refl _, Nat.le_refl _⟩ hF dX7_either0_49
    · refine g_aload_n (pc := 22) h 0 rfl dX7_either0_22 ?_
      refine g_cvV (pc := 23) (st := []) h mX7_next cvX7_182 (inw ht) (by decide) ⟨by decide, by decide⟩ (Nat.le_of_ble_eq_true rfl) rfl rfl dX7_either0_23 hF (fun u_5 w_6 hF => ?_)
      refine g_aload_n (pc := 26) h 0 rfl dX7_either0_26 ?_
      refine g_cvI (pc := 27) (st := []) h mX7_both0 cvX7_324 (inw ht) (by decide) ⟨by decide, by decide⟩ (Nat.le_of_ble_eq_true rfl) rfl rfl dX7_either0_27 hF (fun x_7 w_8 hF => ?_)
      refine g_istore_n (pc := 30) (lv' := [(2, .inl x_7), (0, .inr (.inl (some t))), (1, .inl x1)]) h dX7_either0_30 (hj 2 (by decide)) rfl ?_
      refine g_iload_n (pc := 31) h 2 rfl dX7_either0_31 ?_
      refine g_if_ne (pc := 32) (tgt := 39) h dX7_either0_32 (by decide) hF (fun hF => ?_) (fun hF => ?_)
      · refine g_lv (lv' := [(0, .inr (.inl (some t)))]) [1] rfl ?_
        exact kX7_either0_39 h hr hnL ht (fun z0 z1 hF => ih z0 z1 hF) _ hF
      · refine g_iload_n (pc := 35) h 0 rfl dX7_either0_35 ?_
        refine g_if_eq (pc := 36) (tgt := 43) h dX7_either0_36 (by decide) hF (fun hF => ?_) (fun hF => ?_)
        · refine g_iconst (pc := 43) (v := (0 : Int32)) h dX7_either0_43 (by decide) ?_
          refine g_lv (lv' := [(0, .inr (.inl (some t)))]) [1] rfl ?_
          exact kX7_either0_44 h hr hnL ht (fun z0 z1 hF => ih z0 z1 hF) _ _ hF
        · refine g_lv (lv' := [(0, .inr (.inl (some t)))]) [1] rfl ?_
          exact kX7_either0_39 h hr hnL ht (fun z0 z1 hF => ih z0 z1 hF) _ hF
def fX7_either0 (t : Nat) (w : Wd) : Option (Int32 × Wd) :=
  bnd (fX7_both0 t w) (fun x_1 w_2 => fX7_either0_5 t FU x_1 w_2)
set_option maxHeartbeats 4000000 in
theorem mX7_either0 {Γ : En} {t : Nat} {w : Wd} (ht : t < wn w ∧ kd t = 7) : MtI Γ yX7_either0 cX7_either0 3 (some .int) 41 0 0 [rv Γ (some t)] w (fX7_either0 t w) := by
  refine mtI [.inr (.inl (some t))] rfl (Nat.le_of_ble_eq_true rfl) (fun X hΓ hnL hn0 h _ hr hF => ?_)
  subst hΓ
  have ht : InN X t 7 := ⟨by rw [hn0]; exact ht.1, ht.2⟩
  have h : Ok X cX7_either0 RX7 41 0 0 := h
  have hj : ∀ j, j < 3 → j < nLX X := fun j q => by rw [hnL]; exact q
  show G X 0 0 0 [(0, .inr (.inl (some t)))] [] w
  unfold fX7_either0 at hF
  refine g_aload_n (pc := 0) h 0 rfl dX7_either0_0 ?_
  refine g_cvI (pc := 1) (st := []) h mX7_both0 cvX7_324 (inw ht) (by decide) ⟨by decide, by decide⟩ (Nat.le_of_ble_eq_true rfl) rfl rfl dX7_either0_1 hF (fun x_1 w_2 hF => ?_)
  refine g_istore_n (pc := 4) (lv' := [(1, .inl x_1), (0, .inr (.inl (some t)))]) h dX7_either0_4 (hj 1 (by decide)) rfl ?_
  refine g_lv (lv' := [(0, .inr (.inl (some t))), (1, .inl x_1)]) [1, 0] rfl ?_
  exact kX7_either0_5 h hr hnL ht _ _ _ hF
def fX7_part_59 (t : Nat) (x2 : Int32) (w : Wd) : Option (Int32 × Wd) :=
  some (x2, w)
set_option maxHeartbeats 4000000 in
theorem kX7_part_59 {X : Cx} (h : Ok X cX7_part RX7 42 0 0) (hr : RetI X .int 0 0) (hnL : nLX X = 3) {t : Nat} (ht : InN X t 7) : ∀ (x2 : Int32) (w : Wd), OkR X Value.int (fX7_part_59 t x2 w) → G X 0 0 59 [(2, .inl x2)] [] w := by
  have hj : ∀ j, j < 3 → j < nLX X := fun j q => by rw [hnL]; exact q
  intro x2 w hF
  unfold fX7_part_59 at hF
  refine g_iload_n (pc := 59) h 0 rfl dX7_part_59 ?_
  exact g_iret (pc := 60) h hr ⟨Nat.le_refl _, Nat.le_refl _⟩ hF dX7_part_60
def fX7_part_48 (t : Nat) (x2 : Int32) (w : Wd) : Option (Int32 × Wd) :=
  if (gI w t 25) = 0 then
    (bnd (fX7_next t w) (fun u_11 w_12 => fX7_part_59 t x2 w_12))
  else
    (fX7_part_59 t x2 w)
set_option maxHeartbeats 4000000 in
theorem kX7_part_48 {X : Cx} (h : Ok X cX7_part RX7 42 0 0) (hr : RetI X .int 0 0) (hnL : nLX X = 3) {t : Nat} (ht : InN X t 7) : ∀ (x2 : Int32) (w : Wd), OkR X Value.int (fX7_part_48 t x2 w) → G X 0 0 48 [(0, .inr (.inl (some t))), (2, .inl x2)] [] w := by
  have hj : ∀ j, j < 3 → j < nLX X := fun j q => by rw [hnL]; exact q
  intro x2 w hF
  unfold fX7_part_48 at hF
  refine g_aload_n (pc := 48) h 0 rfl dX7_part_48 ?_
  refine g_getI (pc := 49) h fdX7_166 (inw ht) (by decide) dX7_part_49 ?_
  refine g_if_ne (pc := 52) (tgt := 59) h dX7_part_52 (by decide) hF (fun hF => ?_) (fun hF => ?_)
  · refine g_lv (lv' := [(2, .inl x2)]) [1] rfl ?_
    exact kX7_part_59 h hr hnL ht _ _ hF
  · refine g_aload_n (pc := 55) h 0 rfl dX7_part_55 ?_
    refine g_cvV (pc := 56) (st := []) h mX7_next cvX7_182 (inw ht) (by decide) ⟨by decide, by decide⟩ (Nat.le_of_ble_eq_true rfl) rfl rfl dX7_part_56 hF (fun u_11 w_12 hF => ?_)
    refine g_lv (lv' := [(2, .inl x2)]) [1] rfl ?_
    exact kX7_part_59 h hr hnL ht _ _ hF
def fX7_part_34 (t : Nat) (y0 : Int32) (w : Wd) : Option (Int32 × Wd) :=
  bnd (fX7_isSign t (59 : Int32) w) (fun x_7 w_8 => if x_7 = 0 then
    (bnd (fX7_fail t w_8) (fun u_9 w_10 => fX7_part_48 t y0 w_10))
  else
    (fX7_part_48 t y0 w_8))
set_option maxHeartbeats 4000000 in
theorem kX7_part_34 {X : Cx} (h : Ok X cX7_part RX7 42 0 0) (hr : RetI X .int 0 0) (hnL : nLX X = 3) {t : Nat} (ht : InN X t 7) : ∀ (y0 : Int32) (w : Wd), OkR X Value.int (fX7_part_34 t y0 w) → G X 0 0 34 [(0, .inr (.inl (some t)))] [.int y0] w := by
  have hj : ∀ j, j < 3 → j < nLX X := fun j q => by rw [hnL]; exact q
  intro y0 w hF
  unfold fX7_part_34 at hF
  refine g_istore_n (pc := 34) (lv' := [(2, .inl y0), (0, .inr (.inl (some t)))]) h dX7_part_34 (hj 2 (by decide)) rfl ?_
  refine g_aload_n (pc := 35) h 1 rfl dX7_part_35 ?_
  refine g_bipush (pc := 36) (v := (59 : Int32)) h dX7_part_36 (by decide) ?_
  refine g_cvI (pc := 38) (st := []) h mX7_isSign cvX7_207 (inw ht) (by decide) ⟨by decide, by decide⟩ (Nat.le_of_ble_eq_true rfl) rfl rfl dX7_part_38 hF (fun x_7 w_8 hF => ?_)
  refine g_if_ne (pc := 41) (tgt := 48) h dX7_part_41 (by decide) hF (fun hF => ?_) (fun hF => ?_)
  · refine g_lv (lv' := [(0, .inr (.inl (some t))), (2, .inl y0)]) [1, 0] rfl ?_
    exact kX7_part_48 h hr hnL ht _ _ hF
  · refine g_aload_n (pc := 44) h 1 rfl dX7_part_44 ?_
    refine g_cvV (pc := 45) (st := []) h mX7_fail cvX7_179 (inw ht) (by decide) ⟨by decide, by decide⟩ (Nat.le_of_ble_eq_true rfl) rfl rfl dX7_part_45 hF (fun u_9 w_10 hF => ?_)
    refine g_lv (lv' := [(0, .inr (.inl (some t))), (2, .inl y0)]) [1, 0] rfl ?_
    exact kX7_part_48 h hr hnL ht _ _ hF
def fX7_part_19 (t : Nat) (w : Wd) : Option (Int32 × Wd) :=
  if (gI w t 25) = 0 then
    (bnd (fX7_either0 t w) (fun x_5 w_6 => fX7_part_34 t x_5 w_6))
  else
    (fX7_part_34 t (0 : Int32) w)
set_option maxHeartbeats 4000000 in
theorem kX7_part_19 {X : Cx} (h : Ok X cX7_part RX7 42 0 0) (hr : RetI X .int 0 0) (hnL : nLX X = 3) {t : Nat} (ht : InN X t 7) : ∀ (w : Wd), OkR X Value.int (fX7_part_19 t  w) → G X 0 0 19 [(0, .inr (.inl (some t)))] [] w := by
  have hj : ∀ j, j < 3 → j < nLX X := fun j q => by rw [hnL]; exact q
  intro w hF
  unfold fX7_part_19 at hF
  refine g_aload_n (pc := 19) h 0 rfl dX7_part_19 ?_
  refine g_getI (pc := 20) h fdX7_166 (inw ht) (by decide) dX7_part_20 ?_
  refine g_if_eq (pc := 23) (tgt := 30) h dX7_part_23 (by decide) hF (fun hF => ?_) (fun hF => ?_)
  · refine g_aload_n (pc := 30) h 0 rfl dX7_part_30 ?_
    refine g_cvI (pc := 31) (st := []) h mX7_either0 cvX7_327 (inw ht) (by decide) ⟨by decide, by decide⟩ (Nat.le_of_ble_eq_true rfl) rfl rfl dX7_part_31 hF (fun x_5 w_6 hF => ?_)
    exact kX7_part_34 h hr hnL ht _ _ hF
  · refine g_iconst (pc := 26) (v := (0 : Int32)) h dX7_part_26 (by decide) ?_
    refine g_goto (pc := 27) (tgt := 34) h dX7_part_27 (by decide) ?_
    exact kX7_part_34 h hr hnL ht _ _ hF
def fX7_part_8 (t : Nat) (w : Wd) : Option (Int32 × Wd) :=
  if (gI w t 25) = 0 then
    (bnd (fX7_next t w) (fun u_3 w_4 => fX7_part_19 t w_4))
  else
    (fX7_part_19 t w)
set_option maxHeartbeats 4000000 in
theorem kX7_part_8 {X : Cx} (h : Ok X cX7_part RX7 42 0 0) (hr : RetI X .int 0 0) (hnL : nLX X = 3) {t : Nat} (ht : InN X t 7) : ∀ (w : Wd), OkR X Value.int (fX7_part_8 t  w) → G X 0 0 8 [(0, .inr (.inl (some t)))] [] w := by
  have hj : ∀ j, j < 3 → j < nLX X := fun j q => by rw [hnL]; exact q
  intro w hF
  unfold fX7_part_8 at hF
  refine g_aload_n (pc := 8) h 0 rfl dX7_part_8 ?_
  refine g_getI (pc := 9) h fdX7_166 (inw ht) (by decide) dX7_part_9 ?_
  refine g_if_ne (pc := 12) (tgt := 19) h dX7_part_12 (by decide) hF (fun hF => ?_) (fun hF => ?_)
  · exact kX7_part_19 h hr hnL ht _ hF
  · refine g_aload_n (pc := 15) h 0 rfl dX7_part_15 ?_
    refine g_cvV (pc := 16) (st := []) h mX7_next cvX7_182 (inw ht) (by decide) ⟨by decide, by decide⟩ (Nat.le_of_ble_eq_true rfl) rfl rfl dX7_part_16 hF (fun u_3 w_4 hF => ?_)
    exact kX7_part_19 h hr hnL ht _ hF
def fX7_part (t : Nat) (x1 : Int32) (w : Wd) : Option (Int32 × Wd) :=
  if x1 = 0 then
    (bnd (fX7_fail t w) (fun u_1 w_2 => fX7_part_8 t w_2))
  else
    (fX7_part_8 t w)
set_option maxHeartbeats 4000000 in
theorem mX7_part {Γ : En} {t : Nat} {x1 : Int32} {w : Wd} (ht : t < wn w ∧ kd t = 7) : MtI Γ yX7_part cX7_part 3 (some .int) 42 0 0 [rv Γ (some t), .int x1] w (fX7_part t x1 w) := by
  refine mtI [.inr (.inl (some t)), .inl x1] rfl (Nat.le_of_ble_eq_true rfl) (fun X hΓ hnL hn0 h _ hr hF => ?_)
  subst hΓ
  have ht : InN X t 7 := ⟨by rw [hn0]; exact ht.1, ht.2⟩
  have h : Ok X cX7_part RX7 42 0 0 := h
  have hj : ∀ j, j < 3 → j < nLX X := fun j q => by rw [hnL]; exact q
  show G X 0 0 0 [(0, .inr (.inl (some t))), (1, .inl x1)] [] w
  unfold fX7_part at hF
  refine g_iload_n (pc := 0) h 1 rfl dX7_part_0 ?_
  refine g_if_ne (pc := 1) (tgt := 8) h dX7_part_1 (by decide) hF (fun hF => ?_) (fun hF => ?_)
  · refine g_lv (lv' := [(0, .inr (.inl (some t)))]) [0] rfl ?_
    exact kX7_part_8 h hr hnL ht _ hF
  · refine g_aload_n (pc := 4) h 0 rfl dX7_part_4 ?_
    refine g_cvV (pc := 5) (st := []) h mX7_fail cvX7_179 (inw ht) (by decide) ⟨by decide, by decide⟩ (Nat.le_of_ble_eq_true rfl) rfl rfl dX7_part_5 hF (fun u_1 w_2 hF => ?_)
    refine g_lv (lv' := [(0, .inr (.inl (some t)))]) [0] rfl ?_
    exact kX7_part_8 h hr hnL ht _ hF
def fX7_read_146 (t : Nat) (x2 : Int32) (x3 : Int32) (x4 : Int32) (x5 : Int32) (w : Wd) : Option (Int32 × Wd) :=
  if x2 = 0 then
    (some (x3, w))
  else
    (if x2 = (1 : Int32) then
      (some (x4, w))
    else
      (some (x5, w)))
set_option maxHeartbeats 4000000 in
theorem kX7_read_146 {X : Cx} (h : Ok X cX7_read RX7 43 0 0) (hr : RetI X .int 0 0) (hnL : nLX X = 6) {t : Nat} (ht : InN X t 7) : ∀ (x2 : Int32) (x3 : Int32) (x4 : Int32) (x5 : Int32) (w : Wd), OkR X Value.int (fX7_read_146 t x2 x3 x4 x5 w) → G X 0 0 146 [(2, .inl x2), (3, .inl x3), (4, .inl x4), (5, .inl x5)] [] w := by
  have hj : ∀ j, j < 6 → j < nLX X := fun j q => by rw [hnL]; exact q
  intro x2 x3 x4 x5 w hF
  unfold fX7_read_146 at hF
  refine g_iload_n (pc := 146) h 0 rfl dX7_read_146 ?_
  refine g_if_ne (pc := 147) (tgt := 154) h dX7_read_147 (by decide) hF (fun hF => ?_) (fun hF => ?_)
  · refine g_iload_n (pc := 154) h 0 rfl dX7_read_154 ?_
    refine g_iconst (pc := 155) (v := (1 : Int32)) h dX7_read_155 (by decide) ?_
    refine g_icmp_ne (pc := 156) (tgt := 164) h dX7_read_156 (by decide) hF (fun hF => ?_) (fun hF => ?_)
    · refine g_iload (pc := 164) h 3 rfl dX7_read_164 ?_
      exact g_iret (pc := 166) h hr ⟨Nat.le_refl _, Nat.le_refl _⟩ hF dX7_read_166
    · refine g_iload (pc := 159) h 2 rfl dX7_read_159 ?_
      refine g_goto (pc := 161) (tgt := 166) h dX7_read_161 (by decide) ?_
      exact g_iret (pc := 166) h hr ⟨Nat.le_refl _, Nat.le_refl _⟩ hF dX7_read_166
  · refine g_iload_n (pc := 150) h 1 rfl dX7_read_150 ?_
    refine g_goto (pc := 151) (tgt := 166) h dX7_read_151 (by decide) ?_
    exact g_iret (pc := 166) h hr ⟨Nat.le_refl _, Nat.le_refl _⟩ hF dX7_read_166
def fX7_read_126 (t : Nat) (x2 : Int32) (x3 : Int32) (x4 : Int32) (y0 : Int32) (w : Wd) : Option (Int32 × Wd) :=
  if (gI w t 25) = 0 then
    (if (gI w t 21) = 0 then
      (fX7_read_146 t x2 x3 x4 y0 w)
    else
      (bnd (fX7_fail t w) (fun u_21 w_22 => fX7_read_146 t x2 x3 x4 y0 w_22)))
  else
    (fX7_read_146 t x2 x3 x4 y0 w)
set_option maxHeartbeats 4000000 in
theorem kX7_read_126 {X : Cx} (h : Ok X cX7_read RX7 43 0 0) (hr : RetI X .int 0 0) (hnL : nLX X = 6) {t : Nat} (ht : InN X t 7) : ∀ (x2 : Int32) (x3 : Int32) (x4 : Int32) (y0 : Int32) (w : Wd), OkR X Value.int (fX7_read_126 t x2 x3 x4 y0 w) → G X 0 0 126 [(0, .inr (.inl (some t))), (2, .inl x2), (3, .inl x3), (4, .inl x4)] [.int y0] w := by
  have hj : ∀ j, j < 6 → j < nLX X := fun j q => by rw [hnL]; exact q
  intro x2 x3 x4 y0 w hF
  unfold fX7_read_126 at hF
  refine g_istore (pc := 126) (lv' := [(5, .inl y0), (0, .inr (.inl (some t))), (2, .inl x2), (3, .inl x3), (4, .inl x4)]) h dX7_read_126 (hj 5 (by decide)) rfl ?_
  refine g_aload_n (pc := 128) h 1 rfl dX7_read_128 ?_
  refine g_getI (pc := 129) h fdX7_166 (inw ht) (by decide) dX7_read_129 ?_
  refine g_if_ne (pc := 132) (tgt := 146) h dX7_read_132 (by decide) hF (fun hF => ?_) (fun hF => ?_)
  · refine g_lv (lv' := [(2, .inl x2), (3, .inl x3), (4, .inl x4), (5, .inl y0)]) [2, 3, 4, 0] rfl ?_
    exact kX7_read_146 h hr hnL ht _ _ _ _ _ hF
  · refine g_aload_n (pc := 135) h 1 rfl dX7_read_135 ?_
    refine g_getI (pc := 136) h fdX7_149 (inw ht) (by decide) dX7_read_136 ?_
    refine g_if_eq (pc := 139) (tgt := 146) h dX7_read_139 (by decide) hF (fun hF => ?_) (fun hF => ?_)
    · refine g_lv (lv' := [(2, .inl x2), (3, .inl x3), (4, .inl x4), (5, .inl y0)]) [2, 3, 4, 0] rfl ?_
      exact kX7_read_146 h hr hnL ht _ _ _ _ _ hF
    · refine g_aload_n (pc := 142) h 1 rfl dX7_read_142 ?_
      refine g_cvV (pc := 143) (st := []) h mX7_fail cvX7_179 (inw ht) (by decide) ⟨by decide, by decide⟩ (Nat.le_of_ble_eq_true rfl) rfl rfl dX7_read_143 hF (fun u_21 w_22 hF => ?_)
      refine g_lv (lv' := [(2, .inl x2), (3, .inl x3), (4, .inl x4), (5, .inl y0)]) [2, 3, 4, 0] rfl ?_
      exact kX7_read_146 h hr hnL ht _ _ _ _ _ hF
def fX7_read_92 (t : Nat) (x2 : Int32) (x3 : Int32) (y0 : Int32) (w : Wd) : Option (Int32 × Wd) :=
  if (gI w t 25) = 0 then
    (bnd (fX7_isWord t (115 : Int32) (116 : Int32) (111 : Int32) (112 : Int32) (115 : Int32) (0 : Int32) (0 : Int32) (0 : Int32) w) (fun x_17 w_18 => bnd (fX7_part t x_17 w_18) (fun x_19 w_20 => fX7_read_126 t x2 x3 y0 x_19 w_20)))
  else
    (fX7_read_126 t x2 x3 y0 (0 : Int32) w)
set_option maxHeartbeats 4000000 in
theorem kX7_read_92 {X : Cx} (h : Ok X cX7_read RX7 43 0 0) (hr : RetI X .int 0 0) (hnL : nLX X = 6) {t : Nat} (ht : InN X t 7) : ∀ (x2 : Int32) (x3 : Int32) (y0 : Int32) (w : Wd), OkR X Value.int (fX7_read_92 t x2 x3 y0 w) → G X 0 0 92 [(0, .inr (.inl (some t))), (2, .inl x2), (3, .inl x3)] [.int y0] w := by
  have hj : ∀ j, j < 6 → j < nLX X := fun j q => by rw [hnL]; exact q
  intro x2 x3 y0 w hF
  unfold fX7_read_92 at hF
  refine g_istore (pc := 92) (lv' := [(4, .inl y0), (0, .inr (.inl (some t))), (2, .inl x2), (3, .inl x3)]) h dX7_read_92 (hj 4 (by decide)) rfl ?_
  refine g_aload_n (pc := 94) h 1 rfl dX7_read_94 ?_
  refine g_getI (pc := 95) h fdX7_166 (inw ht) (by decide) dX7_read_95 ?_
  refine g_if_eq (pc := 98) (tgt := 105) h dX7_read_98 (by decide) hF (fun hF => ?_) (fun hF => ?_)
  · refine g_aload_n (pc := 105) h 1 rfl dX7_read_105 ?_
    refine g_aload_n (pc := 106) h 1 rfl dX7_read_106 ?_
    refine g_bipush (pc := 107) (v := (115 : Int32)) h dX7_read_107 (by decide) ?_
    refine g_bipush (pc := 109) (v := (116 : Int32)) h dX7_read_109 (by decide) ?_
    refine g_bipush (pc := 111) (v := (111 : Int32)) h dX7_read_111 (by decide) ?_
    refine g_bipush (pc := 113) (v := (112 : Int32)) h dX7_read_113 (by decide) ?_
    refine g_bipush (pc := 115) (v := (115 : Int32)) h dX7_read_115 (by decide) ?_
    refine g_iconst (pc := 117) (v := (0 : Int32)) h dX7_read_117 (by decide) ?_
    refine g_iconst (pc := 118) (v := (0 : Int32)) h dX7_read_118 (by decide) ?_
    refine g_iconst (pc := 119) (v := (0 : Int32)) h dX7_read_119 (by decide) ?_
    refine g_cvI (pc := 120) (st := [rv X.1 (some t)]) h mX7_isWord cvX7_185 (inw ht) (by decide) ⟨by decide, by decide⟩ (Nat.le_of_ble_eq_true rfl) rfl rfl dX7_read_120 hF (fun x_17 w_18 hF => ?_)
    refine g_cvI (pc := 123) (st := []) h mX7_part cvX7_330 (inw ht) (by decide) ⟨by decide, by decide⟩ (Nat.le_of_ble_eq_true rfl) rfl rfl dX7_read_123 hF (fun x_19 w_20 hF => ?_)
    refine g_lv (lv' := [(0, .inr (.inl (some t))), (2, .inl x2), (3, .inl x3), (4, .inl y0)]) [1, 2, 3, 0] rfl ?_
    exact kX7_read_126 h hr hnL ht _ _ _ _ _ hF
  · refine g_iconst (pc := 101) (v := (0 : Int32)) h dX7_read_101 (by decide) ?_
    refine g_goto (pc := 102) (tgt := 126) h dX7_read_102 (by decide) ?_
    refine g_lv (lv' := [(0, .inr (.inl (some t))), (2, .inl x2), (3, .inl x3), (4, .inl y0)]) [1, 2, 3, 0] rfl ?_
    exact kX7_read_126 h hr hnL ht _ _ _ _ _ hF
def fX7_read (t : Nat) (x1 : Int32) (x2 : Int32) (w : Wd) : Option (Int32 × Wd) :=
  lw (sI w t 18 ((160 : Int32) * x1)) (fun w_1 => dr (gR w_1 t 2) 8 w_1 (fun a_2 => grd (vin x1 (ln a_2)) (lw (sI w_1 t 19 (gI w_1 a_2 x1.toNatClampNeg)) (fun w_3 => lw (sI w_3 t 20 (0 : Int32)) (fun w_4 => lw (sI w_4 t 24 (0 : Int32)) (fun w_5 => lw (sI w_5 t 25 (0 : Int32)) (fun w_6 => bnd (fX7_next t w_6) (fun u_7 w_8 => bnd (fX7_isWord t (108 : Int32) (97 : Int32) (115 : Int32) (116 : Int32) (115 : Int32) (0 : Int32) (0 : Int32) (0 : Int32) w_8) (fun x_9 w_10 => bnd (fX7_part t x_9 w_10) (fun x_11 w_12 => if (gI w_12 t 25) = 0 then
    (bnd (fX7_isWord t (112 : Int32) (97 : Int32) (99 : Int32) (101 : Int32) (115 : Int32) (0 : Int32) (0 : Int32) (0 : Int32) w_12) (fun x_13 w_14 => bnd (fX7_part t x_13 w_14) (fun x_15 w_16 => fX7_read_92 t x2 x_11 x_15 w_16)))
  else
    (fX7_read_92 t x2 x_11 (0 : Int32) w_12)))))))))))
set_option maxHeartbeats 4000000 in
theorem mX7_read {Γ : En} {t : Nat} {x1 : Int32} {x2 : Int32} {w : Wd} (ht : t < wn w ∧ kd t = 7) : MtI Γ yX7_read cX7_read 6 (some .int) 43 0 0 [rv Γ (some t), .int x1, .int x2] w (fX7_read t x1 x2 w) := by
  refine mtI [.inr (.inl (some t)), .inl x1, .inl x2] rfl (Nat.le_of_ble_eq_true rfl) (fun X hΓ hnL hn0 h _ hr hF => ?_)
  subst hΓ
  have ht : InN X t 7 := ⟨by rw [hn0]; exact ht.1, ht.2⟩
  have h : Ok X cX7_read RX7 43 0 0 := h
  have hj : ∀ j, j < 6 → j < nLX X := fun j q => by rw [hnL]; exact q
  show G X 0 0 0 [(0, .inr (.inl (some t))), (1, .inl x1), (2, .inl x2)] [] w
  unfold fX7_read at hF
  refine g_aload_n (pc := 0) h 0 rfl dX7_read_0 ?_
  refine g_sipush (pc := 1) (v := (160 : Int32)) h dX7_read_1 (by decide) ?_
  refine g_iload_n (pc := 4) h 1 rfl dX7_read_4 ?_
  refine g_imul (pc := 5) h dX7_read_5 ?_
  refine g_putI (pc := 6) h fdX7_137 (inw ht) (by decide) ⟨rfl, rfl⟩ dX7_read_6 ?_
  refine g_w hF (fun w_1 hF => ?_)
  refine g_aload_n (pc := 9) h 0 rfl dX7_read_9 ?_
  refine g_aload_n (pc := 10) h 0 rfl dX7_read_10 ?_
  refine g_getR (pc := 11) h fdX7_17 (inw ht) rfl dX7_read_11 ?_
  refine g_iload_n (pc := 14) h 1 rfl dX7_read_14 ?_
  refine g_dr hF (fun a_2 e_a_2 h_a_2 hF => ?_)
  rw [e_a_2]
  obtain ⟨g_1, hF⟩ := grd_ok hF
  refine g_iald (pc := 15) h h_a_2 g_1 dX7_read_15 ?_
  refine g_putI (pc := 16) h fdX7_134 (inw ht) (by decide) ⟨rfl, rfl⟩ dX7_read_16 ?_
  refine g_w hF (fun w_3 hF => ?_)
  refine g_aload_n (pc := 19) h 0 rfl dX7_read_19 ?_
  refine g_iconst (pc := 20) (v := (0 : Int32)) h dX7_read_20 (by decide) ?_
  refine g_putI (pc := 21) h fdX7_140 (inw ht) (by decide) ⟨rfl, rfl⟩ dX7_read_21 ?_
  refine g_w hF (fun w_4 hF => ?_)
  refine g_aload_n (pc := 24) h 0 rfl dX7_read_24 ?_
  refine g_iconst (pc := 25) (v := (0 : Int32)) h dX7_read_25 (by decide) ?_
  refine g_putI (pc := 26) h fdX7_176 (inw ht) (by decide) ⟨rfl, rfl⟩ dX7_read_26 ?_
  refine g_w hF (fun w_5 hF => ?_)
  refine g_aload_n (pc := 29) h 0 rfl dX7_read_29 ?_
  refine g_iconst (pc := 30) (v := (0 : Int32)) h dX7_read_30 (by decide) ?_
  refine g_putI (pc := 31) h fdX7_166 (inw ht) (by decide) ⟨by decide, by decide⟩ dX7_read_31 ?_
  refine g_w hF (fun w_6 hF => ?_)
  refine g_aload_n (pc := 34) h 0 rfl dX7_read_34 ?_
  refine g_cvV (pc := 35) (st := []) h mX7_next cvX7_182 (inw ht) (by decide) ⟨by decide, by decide⟩ (Nat.le_of_ble_eq_true rfl) rfl rfl dX7_read_35 hF (fun u_7 w_8 hF => ?_)
  refine g_aload_n (pc := 38) h 0 rfl dX7_read_38 ?_
  refine g_aload_n (pc := 39) h 0 rfl dX7_read_39 ?_
  refine g_bipush (pc := 40) (v := (108 : Int32)) h dX7_read_40 (by decide) ?_
  refine g_bipush (pc := 42) (v := (97 : Int32)) h dX7_read_42 (by decide) ?_
  refine g_bipush (pc := 44) (v := (115 : Int32)) h dX7_read_44 (by decide) ?_
  refine g_bipush (pc := 46) (v := (116 : Int32)) h dX7_read_46 (by decide) ?_
  refine g_bipush (pc := 48) (v := (115 : Int32)) h dX7_read_48 (by decide) ?_
  refine g_iconst (pc := 50) (v := (0 : Int32)) h dX7_read_50 (by decide) ?_
  refine g_iconst (pc := 51) (v := (0 : Int32)) h dX7_read_51 (by decide) ?_
  refine g_iconst (pc := 52) (v := (0 : Int32)) h dX7_read_52 (by decide) ?_
  refine g_cvI (pc := 53) (st := [rv X.1 (some t)]) h mX7_isWord cvX7_185 (inw ht) (by decide) ⟨by decide, by decide⟩ (Nat.le_of_ble_eq_true rfl) rfl rfl dX7_read_53 hF (fun x_9 w_10 hF => ?_)
  refine g_cvI (pc := 56) (st := []) h mX7_part cvX7_330 (inw ht) (by decide) ⟨by decide, by decide⟩ (Nat.le_of_ble_eq_true rfl) rfl rfl dX7_read_56 hF (fun x_11 w_12 hF => ?_)
  refine g_istore_n (pc := 59) (lv' := [(3, .inl x_11), (0, .inr (.inl (some t))), (1, .inl x1), (2, .inl x2)]) h dX7_read_59 (hj 3 (by decide)) rfl ?_
  refine g_aload_n (pc := 60) h 1 rfl dX7_read_60 ?_
  refine g_getI (pc := 61) h fdX7_166 (inw ht) (by decide) dX7_read_61 ?_
  refine g_if_eq (pc := 64) (tgt := 71) h dX7_read_64 (by decide) hF (fun hF => ?_) (fun hF => ?_)
  · refine g_aload_n (pc := 71) h 1 rfl dX7_read_71 ?_
    refine g_aload_n (pc := 72) h 1 rfl dX7_read_72 ?_
    refine g_bipush (pc := 73) (v := (112 : Int32)) h dX7_read_73 (by decide) ?_
    refine g_bipush (pc := 75) (v := (97 : Int32)) h dX7_read_75 (by decide) ?_
    refine g_bipush (pc := 77) (v := (99 : Int32)) h dX7_read_77 (by decide) ?_
    refine g_bipush (pc := 79) (v := (101 : Int32)) h dX7_read_79 (by decide) ?_
    refine g_bipush (pc := 81) (v := (115 : Int32)) h dX7_read_81 (by decide) ?_
    refine g_iconst (pc := 83) (v := (0 : Int32)) h dX7_read_83 (by decide) ?_
    refine g_iconst (pc := 84) (v := (0 : Int32)) h dX7_read_84 (by decide) ?_
    refine g_iconst (pc := 85) (v := (0 : Int32)) h dX7_read_85 (by decide) ?_
    refine g_cvI (pc := 86) (st := [rv X.1 (some t)]) h mX7_isWord cvX7_185 (inw ht) (by decide) ⟨by decide, by decide⟩ (Nat.le_of_ble_eq_true rfl) rfl rfl dX7_read_86 hF (fun x_13 w_14 hF => ?_)
    refine g_cvI (pc := 89) (st := []) h mX7_part cvX7_330 (inw ht) (by decide) ⟨by decide, by decide⟩ (Nat.le_of_ble_eq_true rfl) rfl rfl dX7_read_89 hF (fun x_15 w_16 hF => ?_)
    refine g_lv (lv' := [(0, .inr (.inl (some t))), (2, .inl x2), (3, .inl x_11)]) [1, 3, 0] rfl ?_
    exact kX7_read_92 h hr hnL ht _ _ _ _ hF
  · refine g_iconst (pc := 67) (v := (0 : Int32)) h dX7_read_67 (by decide) ?_
    refine g_goto (pc := 68) (tgt := 92) h dX7_read_68 (by decide) ?_
    refine g_lv (lv' := [(0, .inr (.inl (some t))), (2, .inl x2), (3, .inl x_11)]) [1, 3, 0] rfl ?_
    exact kX7_read_92 h hr hnL ht _ _ _ _ hF
