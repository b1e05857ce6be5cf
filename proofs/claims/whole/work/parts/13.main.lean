theorem fdX6_9 : FdOk RX6 9 6 0 (.array .int) true := ⟨RX6, TX6, 13, tyX6, rfl, inX6, by decide, rfl, by decide, rfl, wfl_X6_9, tyX6_ok, nmX6, rfl, rfl⟩
theorem fdX6_13 : FdOk RX6 13 6 1 (.array .int) true := ⟨RX6, TX6, 13, tyX6, rfl, inX6, by decide, rfl, by decide, rfl, wfl_X6_13, tyX6_ok, nmX6, rfl, rfl⟩
theorem fdX6_18 : FdOk RX6 18 6 2 (.array (.object "SolesByWhatIsTold$Walker")) true := ⟨RX6, TX6, 13, tyX6, rfl, inX6, by decide, rfl, by decide, rfl, wfl_X6_18, tyX6_ok, nmX6, rfl, rfl⟩
theorem fdX6_22 : FdOk RX6 22 6 3 .int false := ⟨RX6, TX6, 13, tyX6, rfl, inX6, by decide, rfl, by decide, rfl, wfl_X6_22, tyX6_ok, nmX6, rfl, rfl⟩
theorem fdX6_26 : FdOk RX6 26 6 4 .int false := ⟨RX6, TX6, 13, tyX6, rfl, inX6, by decide, rfl, by decide, rfl, wfl_X6_26, tyX6_ok, nmX6, rfl, rfl⟩
theorem fdX6_31 : FdOk RX6 31 6 5 (.array (.object "SolesByWhatIsTold$Text")) true := ⟨RX6, TX6, 13, tyX6, rfl, inX6, by decide, rfl, by decide, rfl, wfl_X6_31, tyX6_ok, nmX6, rfl, rfl⟩
theorem fdX6_35 : FdOk RX6 35 6 6 .int false := ⟨RX6, TX6, 13, tyX6, rfl, inX6, by decide, rfl, by decide, rfl, wfl_X6_35, tyX6_ok, nmX6, rfl, rfl⟩
theorem fdX6_38 : FdOk RX6 38 6 7 .int false := ⟨RX6, TX6, 13, tyX6, rfl, inX6, by decide, rfl, by decide, rfl, wfl_X6_38, tyX6_ok, nmX6, rfl, rfl⟩
theorem fdX6_44 : FdOk RX6 44 6 8 (.object "SolesByWhatIsTold$Reader") true := ⟨RX6, TX6, 13, tyX6, rfl, inX6, by decide, rfl, by decide, rfl, wfl_X6_44, tyX6_ok, nmX6, rfl, rfl⟩
theorem fdX6_48 : FdOk RX6 48 6 10 (.array .int) true := ⟨RX6, TX6, 13, tyX6, rfl, inX6, by decide, rfl, by decide, rfl, wfl_X6_48, tyX6_ok, nmX6, rfl, rfl⟩
theorem fdX6_54 : FdOk RX6 54 6 11 (.object "SolesByWhatIsTold$Image") true := ⟨RX6, TX6, 13, tyX6, rfl, inX6, by decide, rfl, by decide, rfl, wfl_X6_54, tyX6_ok, nmX6, rfl, rfl⟩
theorem fdX6_60 : FdOk RX6 60 6 12 (.array (.object "SolesByWhatIsTold$Sheet")) true := ⟨RX6, TX6, 13, tyX6, rfl, inX6, by decide, rfl, by decide, rfl, wfl_X6_60, tyX6_ok, nmX6, rfl, rfl⟩
theorem fdX6_98 : FdOk RX6 98 6 9 (.object "SolesByWhatIsTold$Thought") true := ⟨RX6, TX6, 13, tyX6, rfl, inX6, by decide, rfl, by decide, rfl, wfl_X6_98, tyX6_ok, nmX6, rfl, rfl⟩
theorem fdX6_137 : FdOk RX6 137 5 0 .int false := ⟨RX5, TX5, 6, tyX5, rfl, inX5, by decide, rfl, by decide, rfl, wfl_X6_137, tyX5_ok, nmX5, rfl, rfl⟩
theorem fdX6_140 : FdOk RX6 140 4 2 .int false := ⟨RX4, TX4, 9, tyX4, rfl, inX4, by decide, rfl, by decide, rfl, wfl_X6_140, tyX4_ok, nmX4, rfl, rfl⟩
theorem fdX6_143 : FdOk RX6 143 4 3 .int false := ⟨RX4, TX4, 9, tyX4, rfl, inX4, by decide, rfl, by decide, rfl, wfl_X6_143, tyX4_ok, nmX4, rfl, rfl⟩
theorem fdX6_163 : FdOk RX6 163 1 1 .int false := ⟨RX1, TX1, 9, tyX1, rfl, inX1, by decide, rfl, by decide, rfl, wfl_X6_163, tyX1_ok, nmX1, rfl, rfl⟩
theorem fdX6_169 : FdOk RX6 169 4 4 .int false := ⟨RX4, TX4, 9, tyX4, rfl, inX4, by decide, rfl, by decide, rfl, wfl_X6_169, tyX4_ok, nmX4, rfl, rfl⟩
theorem fdX6_172 : FdOk RX6 172 5 4 .int false := ⟨RX5, TX5, 6, tyX5, rfl, inX5, by decide, rfl, by decide, rfl, wfl_X6_172, tyX5_ok, nmX5, rfl, rfl⟩
theorem fdX6_173 : FdOk RX6 173 4 5 .int false := ⟨RX4, TX4, 9, tyX4, rfl, inX4, by decide, rfl, by decide, rfl, wfl_X6_173, tyX4_ok, nmX4, rfl, rfl⟩
theorem fdX6_176 : FdOk RX6 176 5 5 .int false := ⟨RX5, TX5, 6, tyX5, rfl, inX5, by decide, rfl, by decide, rfl, wfl_X6_176, tyX5_ok, nmX5, rfl, rfl⟩
theorem fdX6_195 : FdOk RX6 195 5 2 .int false := ⟨RX5, TX5, 6, tyX5, rfl, inX5, by decide, rfl, by decide, rfl, wfl_X6_195, tyX5_ok, nmX5, rfl, rfl⟩
theorem fdX6_220 : FdOk RX6 220 5 3 .int false := ⟨RX5, TX5, 6, tyX5, rfl, inX5, by decide, rfl, by decide, rfl, wfl_X6_220, tyX5_ok, nmX5, rfl, rfl⟩
theorem fdX6_276 : FdOk RX6 276 0 0 .boolean false := ⟨RX0, TX0, 6, tyX0, rfl, inX0, by decide, rfl, by decide, rfl, wfl_X6_276, tyX0_ok, nmX0, rfl, rfl⟩
theorem fdX6_280 : FdOk RX6 280 0 1 .int false := ⟨RX0, TX0, 6, tyX0, rfl, inX0, by decide, rfl, by decide, rfl, wfl_X6_280, tyX0_ok, nmX0, rfl, rfl⟩
theorem fdX6_283 : FdOk RX6 283 0 2 .int false := ⟨RX0, TX0, 6, tyX0, rfl, inX0, by decide, rfl, by decide, rfl, wfl_X6_283, tyX0_ok, nmX0, rfl, rfl⟩
theorem fdX6_284 : FdOk RX6 284 0 3 .int false := ⟨RX0, TX0, 6, tyX0, rfl, inX0, by decide, rfl, by decide, rfl, wfl_X6_284, tyX0_ok, nmX0, rfl, rfl⟩
theorem fdX6_285 : FdOk RX6 285 0 4 (.array .int) true := ⟨RX0, TX0, 6, tyX0, rfl, inX0, by decide, rfl, by decide, rfl, wfl_X6_285, tyX0_ok, nmX0, rfl, rfl⟩
theorem fdX6_292 : FdOk RX6 292 0 5 (.array (.object "SolesByWhatIsTold$Walker")) true := ⟨RX0, TX0, 6, tyX0, rfl, inX0, by decide, rfl, by decide, rfl, wfl_X6_292, tyX0_ok, nmX0, rfl, rfl⟩
theorem fdX6_305 : FdOk RX6 305 2 1 .int false := ⟨RX2, TX2, 3, tyX2, rfl, inX2, by decide, rfl, by decide, rfl, wfl_X6_305, tyX2_ok, nmX2, rfl, rfl⟩
theorem fdX6_308 : FdOk RX6 308 2 0 (.array .int) true := ⟨RX2, TX2, 3, tyX2, rfl, inX2, by decide, rfl, by decide, rfl, wfl_X6_308, tyX2_ok, nmX2, rfl, rfl⟩
theorem fdX6_318 : FdOk RX6 318 5 1 .int false := ⟨RX5, TX5, 6, tyX5, rfl, inX5, by decide, rfl, by decide, rfl, wfl_X6_318, tyX5_ok, nmX5, rfl, rfl⟩
theorem fdX6_348 : FdOk RX6 348 4 0 .int false := ⟨RX4, TX4, 9, tyX4, rfl, inX4, by decide, rfl, by decide, rfl, wfl_X6_348, tyX4_ok, nmX4, rfl, rfl⟩
theorem fdX6_349 : FdOk RX6 349 4 1 .int false := ⟨RX4, TX4, 9, tyX4, rfl, inX4, by decide, rfl, by decide, rfl, wfl_X6_349, tyX4_ok, nmX4, rfl, rfl⟩
theorem fdX6_350 : FdOk RX6 350 4 7 (.object "SolesByWhatIsTold$Text") false := ⟨RX4, TX4, 9, tyX4, rfl, inX4, by decide, rfl, by decide, rfl, wfl_X6_350, tyX4_ok, nmX4, rfl, rfl⟩
theorem cvX6_85 : CvOk RX6 85 1 yX1_append cX1_append 2 none 1 := ⟨⟨⟨by decide, by decide, rfl⟩, by decide, wco_X1_append, win_X1⟩, by decide, ⟨_, _, rfl⟩, wml_X6_85, wim_X1_append, wse_X1_append⟩
theorem cvX6_89 : CvOk RX6 89 1 yX1_readInto cX1_readInto 3 (some .int) 1 := ⟨⟨⟨by decide, by decide, rfl⟩, by decide, wco_X1_readInto, win_X1⟩, by decide, ⟨_, _, rfl⟩, wml_X6_89, wim_X1_readInto, wse_X1_readInto⟩
theorem cvX6_106 : CvOk RX6 106 6 yX6_names cX6_names 3 (some .boolean) 2 := ⟨⟨⟨by decide, by decide, rfl⟩, by decide, wco_X6_names, win_X6⟩, by decide, ⟨_, _, rfl⟩, wml_X6_106, wim_X6_names, wse_X6_names⟩
theorem cvX6_118 : CvOk RX6 118 6 yX6_valueOf cX6_valueOf 4 (some .int) 2 := ⟨⟨⟨by decide, by decide, rfl⟩, by decide, wco_X6_valueOf, win_X6⟩, by decide, ⟨_, _, rfl⟩, wml_X6_118, wim_X6_valueOf, wse_X6_valueOf⟩
theorem cvX6_122 : CvOk RX6 122 6 yX6_keep cX6_keep 4 none 3 := ⟨⟨⟨by decide, by decide, rfl⟩, by decide, wco_X6_keep, win_X6⟩, by decide, ⟨_, _, rfl⟩, wml_X6_122, wim_X6_keep, wse_X6_keep⟩
theorem cvX6_126 : CvOk RX6 126 5 yX5_comeAs cX5_comeAs 4 none 3 := ⟨⟨⟨by decide, by decide, rfl⟩, by decide, wco_X5_comeAs, win_X5⟩, by decide, ⟨_, _, rfl⟩, wml_X6_126, wim_X5_comeAs, wse_X5_comeAs⟩
theorem cvX6_129 : CvOk RX6 129 6 yX6_walkerAt cX6_walkerAt 2 (some (.object "SolesByWhatIsTold$Walker")) 1 := ⟨⟨⟨by decide, by decide, rfl⟩, by decide, wco_X6_walkerAt, win_X6⟩, by decide, ⟨_, _, rfl⟩, wml_X6_129, wim_X6_walkerAt, wse_X6_walkerAt⟩
theorem cvX6_133 : CvOk RX6 133 6 yX6_think cX6_think 2 none 1 := ⟨⟨⟨by decide, by decide, rfl⟩, by decide, wco_X6_think, win_X6⟩, by decide, ⟨_, _, rfl⟩, wml_X6_133, wim_X6_think, wse_X6_think⟩
theorem cvX6_146 : CvOk RX6 146 4 yX4_lasts cX4_lasts 1 (some .int) 0 := ⟨⟨⟨by decide, by decide, rfl⟩, by decide, wco_X4_lasts, win_X4⟩, by decide, ⟨_, _, rfl⟩, wml_X6_146, wim_X4_lasts, wse_X4_lasts⟩
theorem cvX6_149 : CvOk RX6 149 4 yX4_pace cX4_pace 1 (some .int) 0 := ⟨⟨⟨by decide, by decide, rfl⟩, by decide, wco_X4_pace, win_X4⟩, by decide, ⟨_, _, rfl⟩, wml_X6_149, wim_X4_pace, wse_X4_pace⟩
theorem cvX6_152 : CvOk RX6 152 4 yX4_isStopped cX4_isStopped 2 (some .boolean) 0 := ⟨⟨⟨by decide, by decide, rfl⟩, by decide, wco_X4_isStopped, win_X4⟩, by decide, ⟨_, _, rfl⟩, wml_X6_152, wim_X4_isStopped, wse_X4_isStopped⟩
theorem cvX6_160 : CvOk RX6 160 4 yX4_isInSocks cX4_isInSocks 1 (some .boolean) 0 := ⟨⟨⟨by decide, by decide, rfl⟩, by decide, wco_X4_isInSocks, win_X4⟩, by decide, ⟨_, _, rfl⟩, wml_X6_160, wim_X4_isInSocks, wse_X4_isInSocks⟩
theorem cvX6_166 : CvOk RX6 166 4 yX4_passDay cX4_passDay 4 (some .boolean) 0 := ⟨⟨⟨by decide, by decide, rfl⟩, by decide, wco_X4_passDay, win_X4⟩, by decide, ⟨_, _, rfl⟩, wml_X6_166, wim_X4_passDay, wse_X4_passDay⟩
theorem cvX6_180 : CvOk RX6 180 4 yX4_stepBehind cX4_stepBehind 3 (some .int) 1 := ⟨⟨⟨by decide, by decide, rfl⟩, by decide, wco_X4_stepBehind, win_X4⟩, by decide, ⟨_, _, rfl⟩, wml_X6_180, wim_X4_stepBehind, wse_X4_stepBehind⟩
theorem cvX6_183 : CvOk RX6 183 4 yX4_firstInSocks cX4_firstInSocks 3 (some .int) 1 := ⟨⟨⟨by decide, by decide, rfl⟩, by decide, wco_X4_firstInSocks, win_X4⟩, by decide, ⟨_, _, rfl⟩, wml_X6_183, wim_X4_firstInSocks, wse_X4_firstInSocks⟩
theorem cvX6_186 : CvOk RX6 186 4 yX4_firstStay cX4_firstStay 3 (some .int) 1 := ⟨⟨⟨by decide, by decide, rfl⟩, by decide, wco_X4_firstStay, win_X4⟩, by decide, ⟨_, _, rfl⟩, wml_X6_186, wim_X4_firstStay, wse_X4_firstStay⟩
theorem cvX6_189 : CvOk RX6 189 4 yX4_wornBehind cX4_wornBehind 3 (some .int) 1 := ⟨⟨⟨by decide, by decide, rfl⟩, by decide, wco_X4_wornBehind, win_X4⟩, by decide, ⟨_, _, rfl⟩, wml_X6_189, wim_X4_wornBehind, wse_X4_wornBehind⟩
theorem cvX6_192 : CvOk RX6 192 6 yX6_forgetSteps cX6_forgetSteps 1 none 0 := ⟨⟨⟨by decide, by decide, rfl⟩, by decide, wco_X6_forgetSteps, win_X6⟩, by decide, ⟨_, _, rfl⟩, wml_X6_192, wim_X6_forgetSteps, wse_X6_forgetSteps⟩
theorem cvX6_201 : CvOk RX6 201 6 yX6_stepIfTold cX6_stepIfTold 5 (some .int) 3 := ⟨⟨⟨by decide, by decide, rfl⟩, by decide, wco_X6_stepIfTold, win_X6⟩, by decide, ⟨_, _, rfl⟩, wml_X6_201, wim_X6_stepIfTold, wse_X6_stepIfTold⟩
theorem cvX6_208 : CvOk RX6 208 6 yX6_weighAsNow cX6_weighAsNow 1 none 0 := ⟨⟨⟨by decide, by decide, rfl⟩, by decide, wco_X6_weighAsNow, win_X6⟩, by decide, ⟨_, _, rfl⟩, wml_X6_208, wim_X6_weighAsNow, wse_X6_weighAsNow⟩
theorem cvX6_211 : CvOk RX6 211 6 yX6_thinkOtherwise cX6_thinkOtherwise 2 none 1 := ⟨⟨⟨by decide, by decide, rfl⟩, by decide, wco_X6_thinkOtherwise, win_X6⟩, by decide, ⟨_, _, rfl⟩, wml_X6_211, wim_X6_thinkOtherwise, wse_X6_thinkOtherwise⟩
theorem cvX6_214 : CvOk RX6 214 4 yX4_daysTill cX4_daysTill 3 (some .int) 1 := ⟨⟨⟨by decide, by decide, rfl⟩, by decide, wco_X4_daysTill, win_X4⟩, by decide, ⟨_, _, rfl⟩, wml_X6_214, wim_X4_daysTill, wse_X4_daysTill⟩
theorem cvX6_217 : CvOk RX6 217 6 yX6_stepsOfAll cX6_stepsOfAll 4 (some .int) 1 := ⟨⟨⟨by decide, by decide, rfl⟩, by decide, wco_X6_stepsOfAll, win_X6⟩, by decide, ⟨_, _, rfl⟩, wml_X6_217, wim_X6_stepsOfAll, wse_X6_stepsOfAll⟩
theorem cvX6_226 : CvOk RX6 226 6 yX6_thinkTold cX6_thinkTold 3 none 2 := ⟨⟨⟨by decide, by decide, rfl⟩, by decide, wco_X6_thinkTold, win_X6⟩, by decide, ⟨_, _, rfl⟩, wml_X6_226, wim_X6_thinkTold, wse_X6_thinkTold⟩
theorem cvX6_230 : CvOk RX6 230 6 yX6_sheetAt cX6_sheetAt 2 (some (.object "SolesByWhatIsTold$Sheet")) 1 := ⟨⟨⟨by decide, by decide, rfl⟩, by decide, wco_X6_sheetAt, win_X6⟩, by decide, ⟨_, _, rfl⟩, wml_X6_230, wim_X6_sheetAt, wse_X6_sheetAt⟩
theorem cvX6_234 : CvOk RX6 234 2 yX2_isMissing cX2_isMissing 1 (some .boolean) 0 := ⟨⟨⟨by decide, by decide, rfl⟩, by decide, wco_X2_isMissing, win_X2⟩, by decide, ⟨_, _, rfl⟩, wml_X6_234, wim_X2_isMissing, wse_X2_isMissing⟩
theorem cvX6_237 : CvOk RX6 237 4 yX4_firstOtherwise cX4_firstOtherwise 4 (some .int) 1 := ⟨⟨⟨by decide, by decide, rfl⟩, by decide, wco_X4_firstOtherwise, win_X4⟩, by decide, ⟨_, _, rfl⟩, wml_X6_237, wim_X4_firstOtherwise, wse_X4_firstOtherwise⟩
theorem cvX6_241 : CvOk RX6 241 6 yX6_kindsBy cX6_kindsBy 5 (some .int) 2 := ⟨⟨⟨by decide, by decide, rfl⟩, by decide, wco_X6_kindsBy, win_X6⟩, by decide, ⟨_, _, rfl⟩, wml_X6_241, wim_X6_kindsBy, wse_X6_kindsBy⟩
theorem cvX6_245 : CvOk RX6 245 6 yX6_numbersBy cX6_numbersBy 5 (some .int) 2 := ⟨⟨⟨by decide, by decide, rfl⟩, by decide, wco_X6_numbersBy, win_X6⟩, by decide, ⟨_, _, rfl⟩, wml_X6_245, wim_X6_numbersBy, wse_X6_numbersBy⟩
theorem cvX6_248 : CvOk RX6 248 6 yX6_setsBy cX6_setsBy 7 (some .int) 3 := ⟨⟨⟨by decide, by decide, rfl⟩, by decide, wco_X6_setsBy, win_X6⟩, by decide, ⟨_, _, rfl⟩, wml_X6_248, wim_X6_setsBy, wse_X6_setsBy⟩
theorem cvX6_252 : CvOk RX6 252 6 yX6_textsBy cX6_textsBy 5 (some .int) 2 := ⟨⟨⟨by decide, by decide, rfl⟩, by decide, wco_X6_textsBy, win_X6⟩, by decide, ⟨_, _, rfl⟩, wml_X6_252, wim_X6_textsBy, wse_X6_textsBy⟩
theorem cvX6_255 : CvOk RX6 255 6 yX6_stepsBy cX6_stepsBy 7 (some .int) 3 := ⟨⟨⟨by decide, by decide, rfl⟩, by decide, wco_X6_stepsBy, win_X6⟩, by decide, ⟨_, _, rfl⟩, wml_X6_255, wim_X6_stepsBy, wse_X6_stepsBy⟩
theorem cvX6_258 : CvOk RX6 258 2 yX2_becomeRow cX2_becomeRow 3 none 2 := ⟨⟨⟨by decide, by decide, rfl⟩, by decide, wco_X2_becomeRow, win_X2⟩, by decide, ⟨_, _, rfl⟩, wml_X6_258, wim_X2_becomeRow, wse_X2_becomeRow⟩
theorem cvX6_262 : CvOk RX6 262 2 yX2_put cX2_put 3 none 2 := ⟨⟨⟨by decide, by decide, rfl⟩, by decide, wco_X2_put, win_X2⟩, by decide, ⟨_, _, rfl⟩, wml_X6_262, wim_X2_put, wse_X2_put⟩
theorem cvX6_265 : CvOk RX6 265 6 yX6_draw cX6_draw 4 none 1 := ⟨⟨⟨by decide, by decide, rfl⟩, by decide, wco_X6_draw, win_X6⟩, by decide, ⟨_, _, rfl⟩, wml_X6_265, wim_X6_draw, wse_X6_draw⟩
theorem cvX6_270 : CvOk RX6 270 6 yX6_eachIsHeldUp cX6_eachIsHeldUp 2 (some .boolean) 0 := ⟨⟨⟨by decide, by decide, rfl⟩, by decide, wco_X6_eachIsHeldUp, win_X6⟩, by decide, ⟨_, _, rfl⟩, wml_X6_270, wim_X6_eachIsHeldUp, wse_X6_eachIsHeldUp⟩
theorem cvX6_293 : CvOk RX6 293 5 yX5_become cX5_become 2 none 1 := ⟨⟨⟨by decide, by decide, rfl⟩, by decide, wco_X5_become, win_X5⟩, by decide, ⟨_, _, rfl⟩, wml_X6_293, wim_X5_become, wse_X5_become⟩
theorem cvX6_296 : CvOk RX6 296 6 yX6_countInSocks cX6_countInSocks 3 (some .int) 0 := ⟨⟨⟨by decide, by decide, rfl⟩, by decide, wco_X6_countInSocks, win_X6⟩, by decide, ⟨_, _, rfl⟩, wml_X6_296, wim_X6_countInSocks, wse_X6_countInSocks⟩
theorem cvX6_299 : CvOk RX6 299 6 yX6_countStopped cX6_countStopped 3 (some .int) 0 := ⟨⟨⟨by decide, by decide, rfl⟩, by decide, wco_X6_countStopped, win_X6⟩, by decide, ⟨_, _, rfl⟩, wml_X6_299, wim_X6_countStopped, wse_X6_countStopped⟩
theorem cvX6_302 : CvOk RX6 302 2 yX2_holds cX2_holds 3 (some .boolean) 2 := ⟨⟨⟨by decide, by decide, rfl⟩, by decide, wco_X2_holds, win_X2⟩, by decide, ⟨_, _, rfl⟩, wml_X6_302, wim_X2_holds, wse_X2_holds⟩
theorem cvX6_311 : CvOk RX6 311 6 yX6_walker cX6_walker 4 (some .int) 3 := ⟨⟨⟨by decide, by decide, rfl⟩, by decide, wco_X6_walker, win_X6⟩, by decide, ⟨_, _, rfl⟩, wml_X6_311, wim_X6_walker, wse_X6_walker⟩
theorem cvX6_336 : CvOk RX6 336 4 yX4_startAs cX4_startAs 4 none 3 := ⟨⟨⟨by decide, by decide, rfl⟩, by decide, wco_X4_startAs, win_X4⟩, by decide, ⟨_, _, rfl⟩, wml_X6_336, wim_X4_startAs, wse_X4_startAs⟩
theorem cvX6_340 : CvOk RX6 340 4 yX4_weigh cX4_weigh 5 none 3 := ⟨⟨⟨by decide, by decide, rfl⟩, by decide, wco_X4_weigh, win_X4⟩, by decide, ⟨_, _, rfl⟩, wml_X6_340, wim_X4_weigh, wse_X4_weigh⟩
theorem cvX6_345 : CvOk RX6 345 4 yX4_isHeldUp cX4_isHeldUp 3 (some .boolean) 1 := ⟨⟨⟨by decide, by decide, rfl⟩, by decide, wco_X4_isHeldUp, win_X4⟩, by decide, ⟨_, _, rfl⟩, wml_X6_345, wim_X4_isHeldUp, wse_X4_isHeldUp⟩
theorem csX6_64 : CsOk RX6 64 yJ7_fill_53178 cJ7_fill_53178 4 none 2 := ⟨⟨⟨by decide, by decide, rfl⟩, by decide, wco_J7_fill_53178, win_J7⟩, wml_X6_64, wst_J7_fill_53178⟩
theorem csX6_102 : CsOk RX6 102 yX6_isKept cX6_isKept 1 (some .boolean) 1 := ⟨⟨⟨by decide, by decide, rfl⟩, by decide, wco_X6_isKept, win_X6⟩, wml_X6_102, wst_X6_isKept⟩
theorem csX6_110 : CsOk RX6 110 yX6_mostOf cX6_mostOf 1 (some .int) 1 := ⟨⟨⟨by decide, by decide, rfl⟩, by decide, wco_X6_mostOf, win_X6⟩, wml_X6_110, wst_X6_mostOf⟩
theorem csX6_156 : CsOk RX6 156 yX6_bit cX6_bit 1 (some .int) 1 := ⟨⟨⟨by decide, by decide, rfl⟩, by decide, wco_X6_bit, win_X6⟩, wml_X6_156, wst_X6_bit⟩
theorem csX6_177 : CsOk RX6 177 yX6_isDays cX6_isDays 1 (some .boolean) 1 := ⟨⟨⟨by decide, by decide, rfl⟩, by decide, wco_X6_isDays, win_X6⟩, wml_X6_177, wst_X6_isDays⟩
theorem csX6_198 : CsOk RX6 198 yX6_isPart cX6_isPart 2 (some .boolean) 2 := ⟨⟨⟨by decide, by decide, rfl⟩, by decide, wco_X6_isPart, win_X6⟩, wml_X6_198, wst_X6_isPart⟩
theorem csX6_205 : CsOk RX6 205 yX6_isThing cX6_isThing 1 (some .boolean) 1 := ⟨⟨⟨by decide, by decide, rfl⟩, by decide, wco_X6_isThing, win_X6⟩, wml_X6_205, wst_X6_isThing⟩
theorem csX6_223 : CsOk RX6 223 yX6_has cX6_has 2 (some .boolean) 2 := ⟨⟨⟨by decide, by decide, rfl⟩, by decide, wco_X6_has, win_X6⟩, wml_X6_223, wst_X6_has⟩
theorem csX6_273 : CsOk RX6 273 yX6_commonDivisor cX6_commonDivisor 6 (some .int) 2 := ⟨⟨⟨by decide, by decide, rfl⟩, by decide, wco_X6_commonDivisor, win_X6⟩, wml_X6_273, wst_X6_commonDivisor⟩
theorem csX6_315 : CsOk RX6 315 yX6_isUnder cX6_isUnder 4 (some .boolean) 2 := ⟨⟨⟨by decide, by decide, rfl⟩, by decide, wco_X6_isUnder, win_X6⟩, wml_X6_315, wst_X6_isUnder⟩
theorem csX6_332 : CsOk RX6 332 yX6_keepOfWalker cX6_keepOfWalker 3 none 3 := ⟨⟨⟨by decide, by decide, rfl⟩, by decide, wco_X6_keepOfWalker, win_X6⟩, wml_X6_332, wst_X6_keepOfWalker⟩
def fX6_isKept (x0 : Int32) (w : Wd) : Option (Int32 × Wd) :=
  bnd (fX6_within x0 (0 : Int32) (6 : Int32) w) (fun x_1 w_2 => grd (x_1 = 0 ∨ x_1 = 1) (some (x_1, w_2)))
set_option maxHeartbeats 4000000 in
theorem mX6_isKept {Γ : En} {x0 : Int32} {w : Wd} : MtI Γ yX6_isKept cX6_isKept 1 (some .boolean) 3 0 0 [.int x0] w (fX6_isKept x0 w) := by
  refine mtI [.inl x0] rfl (Nat.le_of_ble_eq_true rfl) (fun X hΓ hnL hn0 h _ hr hF => ?_)
  subst hΓ
  have h : Ok X cX6_isKept RX6 3 0 0 := h
  have hj : ∀ j, j < 1 → j < nLX X := fun j q => by rw [hnL]; exact q
  show G X 0 0 0 [(0, .inl x0)] [] w
  unfold fX6_isKept at hF
  refine g_iload_n (pc := 0) h 0 rfl dX6_isKept_0 ?_
  refine g_iconst (pc := 1) (v := (0 : Int32)) h dX6_isKept_1 (by decide) ?_
  refine g_bipush (pc := 2) (v := (6 : Int32)) h dX6_isKept_2 (by decide) ?_
  refine g_csI (pc := 4) (st := []) h mX6_within csX6_114 (by decide) ⟨by decide, by decide⟩ (Nat.le_of_ble_eq_true rfl) rfl rfl dX6_isKept_4 hF (fun x_1 w_2 hF => ?_)
  obtain ⟨g_1, hF⟩ := grd_ok hF
  exact g_zret (pc := 7) h hr ⟨Nat.le_refl _, Nat.le_refl _⟩ (bz_ok g_1).1 hF dX6_isKept_7
def fX6_keepOfWalker (x0 : Int32) (r1 : Option Nat) (x2 : Int32) (w : Wd) : Option (Unit × Wd) :=
  ifn r1
    (some ((), w))
    (if x0 = (2 : Int32) then
      (dr r1 5 w (fun a_1 => lw (sI w a_1 1 x2) (fun w_2 => some ((), w_2))))
    else if x0 = (3 : Int32) then
      (dr r1 5 w (fun a_3 => lw (sI w a_3 2 x2) (fun w_4 => some ((), w_4))))
    else if x0 = (4 : Int32) then
      (dr r1 5 w (fun a_5 => lw (sI w a_5 3 x2) (fun w_6 => some ((), w_6))))
    else if x0 = (5 : Int32) then
      (dr r1 5 w (fun a_7 => lw (sI w a_7 4 x2) (fun w_8 => some ((), w_8))))
    else 
      (dr r1 5 w (fun a_9 => lw (sI w a_9 5 x2) (fun w_10 => some ((), w_10)))))
set_option maxHeartbeats 4000000 in
theorem mX6_keepOfWalker {Γ : En} {x0 : Int32} {r1 : Option Nat} {x2 : Int32} {w : Wd} : MtV Γ yX6_keepOfWalker cX6_keepOfWalker 3 none 2 0 0 [.int x0, rv Γ r1, .int x2] w (fX6_keepOfWalker x0 r1 x2 w) := by
  refine mtV [.inl x0, .inr (.inl r1), .inl x2] rfl (Nat.le_of_ble_eq_true rfl) (fun X hΓ hnL hn0 h _ hr hF => ?_)
  subst hΓ
  have h : Ok X cX6_keepOfWalker RX6 2 0 0 := h
  have hj : ∀ j, j < 3 → j < nLX X := fun j q => by rw [hnL]; exact q
  show G X 0 0 0 [(0, .inl x0), (1, .inr (.inl r1)), (2, .inl x2)] [] w
  unfold fX6_keepOfWalker at hF
  refine g_aload_n (pc := 0) h 1 rfl dX6_keepOfWalker_0 ?_
  refine g_ifnonnull (pc := 1) (tgt := 5) h dX6_keepOfWalker_1 (by decide) hF (fun hF => ?_) (fun hF => ?_)
  · refine g_iload_n (pc := 5) h 0 rfl dX6_keepOfWalker_5 ?_
    refine g_swEq (pc := 6) (off := 30) (tgt := 36) h (2 : Int32) dX6_keepOfWalker_6 (by decide) (by decide) hF (fun hF => ?_) (fun c_0 hF => ?_)
    · refine g_aload_n (pc := 36) h 1 rfl dX6_keepOfWalker_36 ?_
      refine g_iload_n (pc := 37) h 2 rfl dX6_keepOfWalker_37 ?_
      refine g_dr hF (fun a_1 e_a_1 h_a_1 hF => ?_)
      rw [e_a_1]
      refine g_putI (pc := 38) h fdX6_318 h_a_1 (by decide) ⟨rfl, rfl⟩ dX6_keepOfWalker_38 ?_
      refine g_w hF (fun w_2 hF => ?_)
      refine g_goto (pc := 41) (tgt := 73) h dX6_keepOfWalker_41 (by decide) ?_
      exact g_vret (pc := 73) h hr ⟨Nat.le_refl _, Nat.le_refl _⟩ hF dX6_keepOfWalker_73
    refine g_swEq (pc := 6) (off := 38) (tgt := 44) h (3 : Int32) dX6_keepOfWalker_6 (by decide) (by decide) hF (fun hF => ?_) (fun c_1 hF => ?_)
    · refine g_aload_n (pc := 44) h 1 rfl dX6_keepOfWalker_44 ?_
      refine g_iload_n (pc := 45) h 2 rfl dX6_keepOfWalker_45 ?_
      refine g_dr hF (fun a_3 e_a_3 h_a_3 hF => ?_)
      rw [e_a_3]
      refine g_putI (pc := 46) h fdX6_195 h_a_3 (by decide) ⟨rfl, rfl⟩ dX6_keepOfWalker_46 ?_
      refine g_w hF (fun w_4 hF => ?_)
      refine g_goto (pc := 49) (tgt := 73) h dX6_keepOfWalker_49 (by decide) ?_
      exact g_vret (pc := 73) h hr ⟨Nat.le_refl _, Nat.le_refl _⟩ hF dX6_keepOfWalker_73
    refine g_swEq (pc := 6) (off := 46) (tgt := 52) h (4 : Int32) dX6_keepOfWalker_6 (by decide) (by decide) hF (fun hF => ?_) (fun c_2 hF => ?_)
    · refine g_aload_n (pc := 52) h 1 rfl dX6_keepOfWalker_52 ?_
      refine g_iload_n (pc := 53) h 2 rfl dX6_keepOfWalker_53 ?_
      refine g_dr hF (fun a_5 e_a_5 h_a_5 hF => ?_)
      rw [e_a_5]
      refine g_putI (pc := 54) h fdX6_220 h_a_5 (by decide) ⟨rfl, rfl⟩ dX6_keepOfWalker_54 ?_
      refine g_w hF (fun w_6 hF => ?_)
      refine g_goto (pc := 57) (tgt := 73) h dX6_keepOfWalker_57 (by decide) ?_
      exact g_vret (pc := 73) h hr ⟨Nat.le_refl _, Nat.le_refl _⟩ hF dX6_keepOfWalker_73
    refine g_swEq (pc := 6) (off := 54) (tgt := 60) h (5 : Int32) dX6_keepOfWalker_6 (by decide) (by decide) hF (fun hF => ?_) (fun c_3 hF => ?_)
    · refine g_aload_n (pc := 60) h 1 rfl dX6_keepOfWalker_60 ?_
      refine g_iload_n (pc := 61) h 2 rfl dX6_keepOfWalker_61 ?_
      refine g_dr hF (fun a_7 e_a_7 h_a_7 hF => ?_)
      rw [e_a_7]
      refine g_putI (pc := 62) h fdX6_172 h_a_7 (by decide) ⟨rfl, rfl⟩ dX6_keepOfWalker_62 ?_
      refine g_w hF (fun w_8 hF => ?_)
      refine g_goto (pc := 65) (tgt := 73) h dX6_keepOfWalker_65 (by decide) ?_
      exact g_vret (pc := 73) h hr ⟨Nat.le_refl _, Nat.le_refl _⟩ hF dX6_keepOfWalker_73
    refine g_swOut (pc := 6) (tgt := 68) h dX6_keepOfWalker_6 (sw_out (q := 4) (fun j hj9 => ?_)) (by decide) ?_
    · match j, hj9 with
      | 0, _ => exact c_0
      | 1, _ => exact c_1
      | 2, _ => exact c_2
      | 3, _ => exact c_3
      | j + 4, hj9 => exact absurd hj9 (by omega)
    · refine g_aload_n (pc := 68) h 1 rfl dX6_keepOfWalker_68 ?_
      refine g_iload_n (pc := 69) h 2 rfl dX6_keepOfWalker_69 ?_
      refine g_dr hF (fun a_9 e_a_9 h_a_9 hF => ?_)
      rw [e_a_9]
      refine g_putI (pc := 70) h fdX6_176 h_a_9 (by decide) ⟨rfl, rfl⟩ dX6_keepOfWalker_70 ?_
      refine g_w hF (fun w_10 hF => ?_)
      exact g_vret (pc := 73) h hr ⟨Nat.le_refl _, Nat.le_refl _⟩ hF dX6_keepOfWalker_73
  · exact g_vret (pc := 4) h hr ⟨Nat.le_refl _, Nat.le_refl _⟩ hF dX6_keepOfWalker_4
def fX6_walkerAt_21 (t : Nat) (w : Wd) : Option (Option Nat × Wd) :=
  some (none, w)
set_option maxHeartbeats 4000000 in
theorem kX6_walkerAt_21 {X : Cx} (h : Ok X cX6_walkerAt RX6 2 0 0) (hr : RetQ X (.object "SolesByWhatIsTold$Walker") 0 0) (hnL : nLX X = 2) {t : Nat} (ht : InN X t 6) : ∀ (w : Wd), OkR X (rv X.1) (fX6_walkerAt_21 t  w) → G X 0 0 21 [] [] w := by
  have hj : ∀ j, j < 2 → j < nLX X := fun j q => by rw [hnL]; exact q
  intro w hF
  unfold fX6_walkerAt_21 at hF
  refine g_null (pc := 21) h dX6_walkerAt_21 ?_
  exact g_aret (pc := 22) h hr ⟨Nat.le_refl _, Nat.le_refl _⟩ hF dX6_walkerAt_22
def fX6_walkerAt (t : Nat) (x1 : Int32) (w : Wd) : Option (Option Nat × Wd) :=
  if x1 < 0 then
    (fX6_walkerAt_21 t w)
  else
    (if (gI w t 3) ≤ x1 then
      (fX6_walkerAt_21 t w)
    else
      (dr (gR w t 2) 12 w (fun a_1 => grd (vin x1 (ln a_1)) (some (gR w a_1 x1.toNatClampNeg, w)))))
set_option maxHeartbeats 4000000 in
theorem mX6_walkerAt {Γ : En} {t : Nat} {x1 : Int32} {w : Wd} (ht : t < wn w ∧ kd t = 6) : MtQ Γ yX6_walkerAt cX6_walkerAt 2 (some (.object "SolesByWhatIsTold$Walker")) 2 0 0 [rv Γ (some t), .int x1] w (fX6_walkerAt t x1 w) := by
  refine mtQ [.inr (.inl (some t)), .inl x1] ⟨_, rfl⟩ rfl (Nat.le_of_ble_eq_true rfl) (fun X hΓ hnL hn0 h _ hr hF => ?_)
  subst hΓ
  have ht : InN X t 6 := ⟨by rw [hn0]; exact ht.1, ht.2⟩
  have h : Ok X cX6_walkerAt RX6 2 0 0 := h
  have hj : ∀ j, j < 2 → j < nLX X := fun j q => by rw [hnL]; exact q
  show G X 0 0 0 [(0, .inr (.inl (some t))), (1, .inl x1)] [] w
  unfold fX6_walkerAt at hF
  refine g_iload_n (pc := 0) h 1 rfl dX6_walkerAt_0 ?_
  refine g_if_lt (pc := 1) (tgt := 21) h dX6_walkerAt_1 (by decide) hF (fun hF => ?_) (fun hF => ?_)
  · refine g_lv (lv' := []) [] rfl ?_
    exact kX6_walkerAt_21 h hr hnL ht _ hF
  · refine g_iload_n (pc := 4) h 1 rfl dX6_walkerAt_4 ?_
    refine g_aload_n (pc := 5) h 0 rfl dX6_walkerAt_5 ?_
    refine g_getI (pc := 6) h fdX6_22 (inw ht) (by decide) dX6_walkerAt_6 ?_
    refine g_icmp_ge (pc := 9) (tgt := 21) h dX6_walkerAt_9 (by decide) hF (fun hF => ?_) (fun hF => ?_)
    · refine g_lv (lv' := []) [] rfl ?_
      exact kX6_walkerAt_21 h hr hnL ht _ hF
    · refine g_aload_n (pc := 12) h 0 rfl dX6_walkerAt_12 ?_
      refine g_getR (pc := 13) h fdX6_18 (inw ht) rfl dX6_walkerAt_13 ?_
      refine g_iload_n (pc := 16) h 1 rfl dX6_walkerAt_16 ?_
      refine g_dr hF (fun a_1 e_a_1 h_a_1 hF => ?_)
      rw [e_a_1]
      obtain ⟨g_1, hF⟩ := grd_ok hF
      refine g_aald (pc := 17) h (by decide) rfl h_a_1 g_1 dX6_walkerAt_17 ?_
      refine g_goto (pc := 18) (tgt := 22) h dX6_walkerAt_18 (by decide) ?_
      exact g_aret (pc := 22) h hr ⟨Nat.le_refl _, Nat.le_refl _⟩ hF dX6_walkerAt_22
def fX6_keep (t : Nat) (x1 : Int32) (x2 : Int32) (x3 : Int32) (w : Wd) : Option (Unit × Wd) :=
  if x1 = 0 then
    (lw (sI w t 4 x3) (fun w_9 => some ((), w_9)))
  else
    (if x1 = (1 : Int32) then
      (bnd (fX6_isThing x2 w) (fun x_5 w_6 => if x_5 = 0 then
        (some ((), w_6))
      else
        (dr (gR w_6 t 0) 8 w_6 (fun a_7 => grd (vin x2 (ln a_7)) (lw (sI w_6 a_7 x2.toNatClampNeg x3) (fun w_8 => some ((), w_8)))))))
    else
      (bnd (fX6_walkerAt t x2 w) (fun r_1 w_2 => bnd (fX6_keepOfWalker x1 r_1 x3 w_2) (fun u_3 w_4 => some ((), w_4)))))
set_option maxHeartbeats 4000000 in
theorem mX6_keep {Γ : En} {t : Nat} {x1 : Int32} {x2 : Int32} {x3 : Int32} {w : Wd} (ht : t < wn w ∧ kd t = 6) : MtV Γ yX6_keep cX6_keep 4 none 4 0 0 [rv Γ (some t), .int x1, .int x2, .int x3] w (fX6_keep t x1 x2 x3 w) := by
  refine mtV [.inr (.inl (some t)), .inl x1, .inl x2, .inl x3] rfl (Nat.le_of_ble_eq_true rfl) (fun X hΓ hnL hn0 h _ hr hF => ?_)
  subst hΓ
  have ht : InN X t 6 := ⟨by rw [hn0]; exact ht.1, ht.2⟩
  have h : Ok X cX6_keep RX6 4 0 0 := h
  have hj : ∀ j, j < 4 → j < nLX X := fun j q => by rw [hnL]; exact q
  show G X 0 0 0 [(0, .inr (.inl (some t))), (1, .inl x1), (2, .inl x2), (3, .inl x3)] [] w
  unfold fX6_keep at hF
  refine g_iload_n (pc := 0) h 1 rfl dX6_keep_0 ?_
  refine g_if_ne (pc := 1) (tgt := 12) h dX6_keep_1 (by decide) hF (fun hF => ?_) (fun hF => ?_)
  · refine g_iload_n (pc := 12) h 1 rfl dX6_keep_12 ?_
    refine g_iconst (pc := 13) (v := (1 : Int32)) h dX6_keep_13 (by decide) ?_
    refine g_icmp_ne (pc := 14) (tgt := 34) h dX6_keep_14 (by decide) hF (fun hF => ?_) (fun hF => ?_)
    · refine g_iload_n (pc := 34) h 1 rfl dX6_keep_34 ?_
      refine g_aload_n (pc := 35) h 0 rfl dX6_keep_35 ?_
      refine g_iload_n (pc := 36) h 2 rfl dX6_keep_36 ?_
      refine g_cvQ (pc := 37) (st := [.int x1]) h mX6_walkerAt cvX6_129 (inw ht) (by decide) ⟨by decide, by decide⟩ (Nat.le_of_ble_eq_true rfl) rfl rfl dX6_keep_37 hF (fun r_1 w_2 hF => ?_)
      refine g_iload_n (pc := 40) h 3 rfl dX6_keep_40 ?_
      refine g_csV (pc := 41) (st := []) h mX6_keepOfWalker csX6_332 (by decide) ⟨by decide, by decide⟩ (Nat.le_of_ble_eq_true rfl) rfl rfl dX6_keep_41 hF (fun u_3 w_4 hF => ?_)
      exact g_vret (pc := 44) h hr ⟨Nat.le_refl _, Nat.le_refl _⟩ hF dX6_keep_44
    · refine g_iload_n (pc := 17) h 2 rfl dX6_keep_17 ?_
      refine g_csI (pc := 18) (st := []) h mX6_isThing csX6_205 (by decide) ⟨by decide, by decide⟩ (Nat.le_of_ble_eq_true rfl) rfl rfl dX6_keep_18 hF (fun x_5 w_6 hF => ?_)
      refine g_if_eq (pc := 21) (tgt := 44) h dX6_keep_21 (by decide) hF (fun hF => ?_) (fun hF => ?_)
      · exact g_vret (pc := 44) h hr ⟨Nat.le_refl _, Nat.le_refl _⟩ hF dX6_keep_44
      · refine g_aload_n (pc := 24) h 0 rfl dX6_keep_24 ?_
        refine g_getR (pc := 25) h fdX6_9 (inw ht) rfl dX6_keep_25 ?_
        refine g_iload_n (pc := 28) h 2 rfl dX6_keep_28 ?_
        refine g_iload_n (pc := 29) h 3 rfl dX6_keep_29 ?_
        refine g_dr hF (fun a_7 e_a_7 h_a_7 hF => ?_)
        rw [e_a_7]
        obtain ⟨g_1, hF⟩ := grd_ok hF
        refine g_iast (pc := 30) h h_a_7 g_1 dX6_keep_30 ?_
        refine g_w hF (fun w_8 hF => ?_)
        refine g_goto (pc := 31) (tgt := 44) h dX6_keep_31 (by decide) ?_
        exact g_vret (pc := 44) h hr ⟨Nat.le_refl _, Nat.le_refl _⟩ hF dX6_keep_44
  · refine g_aload_n (pc := 4) h 0 rfl dX6_keep_4 ?_
    refine g_iload_n (pc := 5) h 3 rfl dX6_keep_5 ?_
    refine g_putI (pc := 6) h fdX6_26 (inw ht) (by decide) ⟨rfl, rfl⟩ dX6_keep_6 ?_
    refine g_w hF (fun w_9 hF => ?_)
    refine g_goto (pc := 9) (tgt := 44) h dX6_keep_9 (by decide) ?_
    exact g_vret (pc := 44) h hr ⟨Nat.le_refl _, Nat.le_refl _⟩ hF dX6_keep_44
def fX6_mostOf (x0 : Int32) (w : Wd) : Option (Int32 × Wd) :=
  if x0 = (0 : Int32) then
    (some ((999 : Int32), w))
  else if x0 = (1 : Int32) then
    (some ((99 : Int32), w))
  else if x0 = (2 : Int32) then
    (some ((9 : Int32), w))
  else if x0 = (3 : Int32) then
    (some ((255 : Int32), w))
  else if x0 = (4 : Int32) then
    (some ((255 : Int32), w))
  else if x0 = (5 : Int32) then
    (some ((999 : Int32), w))
  else 
    (some ((9999 : Int32), w))
set_option maxHeartbeats 4000000 in
theorem mX6_mostOf {Γ : En} {x0 : Int32} {w : Wd} : MtI Γ yX6_mostOf cX6_mostOf 1 (some .int) 2 0 0 [.int x0] w (fX6_mostOf x0 w) := by
  refine mtI [.inl x0] rfl (Nat.le_of_ble_eq_true rfl) (fun X hΓ hnL hn0 h _ hr hF => ?_)
  subst hΓ
  have h : Ok X cX6_mostOf RX6 2 0 0 := h
  have hj : ∀ j, j < 1 → j < nLX X := fun j q => by rw [hnL]; exact q
  show G X 0 0 0 [(0, .inl x0)] [] w
  unfold fX6_mostOf at hF
  refine g_iload_n (pc := 0) h 0 rfl dX6_mostOf_0 ?_
  refine g_swEq (pc := 1) (off := 39) (tgt := 40) h (0 : Int32) dX6_mostOf_1 (by decide) (by decide) hF (fun hF => ?_) (fun c_0 hF => ?_)
  · refine g_sipush (pc := 40) (v := (999 : Int32)) h dX6_mostOf_40 (by decide) ?_
    exact g_iret (pc := 43) h hr ⟨Nat.le_refl _, Nat.le_refl _⟩ hF dX6_mostOf_43
  refine g_swEq (pc := 1) (off := 43) (tgt := 44) h (1 : Int32) dX6_mostOf_1 (by decide) (by decide) hF (fun hF => ?_) (fun c_1 hF => ?_)
  · refine g_bipush (pc := 44) (v := (99 : Int32)) h dX6_mostOf_44 (by decide) ?_
    exact g_iret (pc := 46) h hr ⟨Nat.le_refl _, Nat.le_refl _⟩ hF dX6_mostOf_46
  refine g_swEq (pc := 1) (off := 46) (tgt := 47) h (2 : Int32) dX6_mostOf_1 (by decide) (by decide) hF (fun hF => ?_) (fun c_2 hF => ?_)
  · refine g_bipush (pc := 47) (v := (9 : Int32)) h dX6_mostOf_47 (by decide) ?_
    exact g_iret (pc := 49) h hr ⟨Nat.le_refl _, Nat.le_refl _⟩ hF dX6_mostOf_49
  refine g_swEq (pc := 1) (off := 49) (tgt := 50) h (3 : Int32) dX6_mostOf_1 (by decide) (by decide) hF (fun hF => ?_) (fun c_3 hF => ?_)
  · refine g_sipush (pc := 50) (v := (255 : Int32)) h dX6_mostOf_50 (by decide) ?_
    exact g_iret (pc := 53) h hr ⟨Nat.le_refl _, Nat.le_refl _⟩ hF dX6_mostOf_53
  refine g_swEq (pc := 1) (off := 53) (tgt := 54) h (4 : Int32) dX6_mostOf_1 (by decide) (by decide) hF (fun hF => ?_) (fun c_4 hF => ?_)
  · refine g_sipush (pc := 54) (v := (255 : Int32)) h dX6_mostOf_54 (by decide) ?_
    exact g_iret (pc := 57) h hr ⟨Nat.le_refl _, Nat.le_refl _⟩ hF dX6_mostOf_57
  refine g_swEq (pc := 1) (off := 57) (tgt := 58) h (5 : Int32) dX6_mostOf_1 (by decide) (by decide) hF (fun hF => ?_) (fun c_5 hF => ?_)
  · refine g_sipush (pc := 58) (v := (999 : Int32)) h dX6_mostOf_58 (by decide) ?_
    exact g_iret (pc := 61) h hr ⟨Nat.le_refl _, Nat.le_refl _⟩ hF dX6_mostOf_61
  refine g_swOut (pc := 1) (tgt := 62) h dX6_mostOf_1 (sw_out (q := 6) (fun j hj9 => ?_)) (by decide) ?_
  · match j, hj9 with
    | 0, _ => exact c_0
    | 1, _ => exact c_1
    | 2, _ => exact c_2
    | 3, _ => exact c_3
    | 4, _ => exact c_4
    | 5, _ => exact c_5
    | j + 6, hj9 => exact absurd hj9 (by omega)
  · refine g_sipush (pc := 62) (v := (9999 : Int32)) h dX6_mostOf_62 (by decide) ?_
    exact g_iret (pc := 65) h hr ⟨Nat.le_refl _, Nat.le_refl _⟩ hF dX6_mostOf_65
def fX6_names (t : Nat) (x1 : Int32) (x2 : Int32) (w : Wd) : Option (Int32 × Wd) :=
  if x1 = 0 then
    (some ((1 : Int32), w))
  else
    (if x1 = (1 : Int32) then
      (bnd (fX6_isThing x2 w) (fun x_3 w_4 => grd (x_3 = 0 ∨ x_3 = 1) (some (x_3, w_4))))
    else
      (bnd (fX6_walkerAt t x2 w) (fun r_1 w_2 => ifn r_1
        (some ((0 : Int32), w_2))
        (some ((1 : Int32), w_2)))))
set_option maxHeartbeats 4000000 in
theorem mX6_names {Γ : En} {t : Nat} {x1 : Int32} {x2 : Int32} {w : Wd} (ht : t < wn w ∧ kd t = 6) : MtI Γ yX6_names cX6_names 3 (some .boolean) 4 0 0 [rv Γ (some t), .int x1, .int x2] w (fX6_names t x1 x2 w) := by
  refine mtI [.inr (.inl (some t)), .inl x1, .inl x2] rfl (Nat.le_of_ble_eq_true rfl) (fun X hΓ hnL hn0 h _ hr hF => ?_)
  subst hΓ
  have ht : InN X t 6 := ⟨by rw [hn0]; exact ht.1, ht.2⟩
  have h : Ok X cX6_names RX6 4 0 0 := h
  have hj : ∀ j, j < 3 → j < nLX X := fun j q => by rw [hnL]; exact q
  show G X 0 0 0 [(0, .inr (.inl (some t))), (1, .inl x1), (2, .inl x2)] [] w
  unfold fX6_names at hF
  refine g_iload_n (pc := 0) h 1 rfl dX6_names_0 ?_
  refine g_if_ne (pc := 1) (tgt := 6) h dX6_names_1 (by decide) hF (fun hF => ?_) (fun hF => ?_)
  · refine g_iload_n (pc := 6) h 1 rfl dX6_names_6 ?_
    refine g_iconst (pc := 7) (v := (1 : Int32)) h dX6_names_7 (by decide) ?_
    refine g_icmp_ne (pc := 8) (tgt := 18) h dX6_names_8 (by decide) hF (fun hF => ?_) (fun hF => ?_)
    · refine g_aload_n (pc := 18) h 0 rfl dX6_names_18 ?_
      refine g_iload_n (pc := 19) h 2 rfl dX6_names_19 ?_
      refine g_cvQ (pc := 20) (st := []) h mX6_walkerAt cvX6_129 (inw ht) (by decide) ⟨by decide, by decide⟩ (Nat.le_of_ble_eq_true rfl) rfl rfl dX6_names_20 hF (fun r_1 w_2 hF => ?_)
      refine g_ifnull (pc := 23) (tgt := 30) h dX6_names_23 (by decide) hF (fun hF => ?_) (fun hF => ?_)
      · refine g_iconst (pc := 30) (v := (0 : Int32)) h dX6_names_30 (by decide) ?_
        exact g_zret (pc := 31) h hr ⟨Nat.le_refl _, Nat.le_refl _⟩ (by decide) hF dX6_names_31
      · refine g_iconst (pc := 26) (v := (1 : Int32)) h dX6_names_26 (by decide) ?_
        refine g_goto (pc := 27) (tgt := 31) h dX6_names_27 (by decide) ?_
        exact g_zret (pc := 31) h hr ⟨Nat.le_refl _, Nat.le_refl _⟩ (by decide) hF dX6_names_31
    · refine g_iload_n (pc := 11) h 2 rfl dX6_names_11 ?_
      refine g_csI (pc := 12) (st := []) h mX6_isThing csX6_205 (by decide) ⟨by decide, by decide⟩ (Nat.le_of_ble_eq_true rfl) rfl rfl dX6_names_12 hF (fun x_3 w_4 hF => ?_)
      refine g_goto (pc := 15) (tgt := 31) h dX6_names_15 (by decide) ?_
      obtain ⟨g_1, hF⟩ := grd_ok hF
      exact g_zret (pc := 31) h hr ⟨Nat.le_refl _, Nat.le_refl _⟩ (bz_ok g_1).1 hF dX6_names_31
  · refine g_iconst (pc := 4) (v := (1 : Int32)) h dX6_names_4 (by decide) ?_
    exact g_zret (pc := 5) h hr ⟨Nat.le_refl _, Nat.le_refl _⟩ (by decide) hF dX6_names_5
def fX6_valueOf (t : Nat) (x1 : Int32) (x2 : Int32) (w : Wd) : Option (Int32 × Wd) :=
  if x1 = 0 then
    (some (gI w t 4, w))
  else
    (if x1 = (1 : Int32) then
      (bnd (fX6_isThing x2 w) (fun x_8 w_9 => if x_8 = 0 then
        (some ((-2 : Int32), w_9))
      else
        (dr (gR w_9 t 0) 8 w_9 (fun a_10 => grd (vin x2 (ln a_10)) (some (gI w_9 a_10 x2.toNatClampNeg, w_9))))))
    else
      (bnd (fX6_walkerAt t x2 w) (fun r_1 w_2 => ifn r_1
        (some ((-2 : Int32), w_2))
        (if x1 = (2 : Int32) then
          (dr r_1 5 w_2 (fun a_3 => some (gI w_2 a_3 1, w_2)))
        else if x1 = (3 : Int32) then
          (dr r_1 5 w_2 (fun a_4 => some (gI w_2 a_4 2, w_2)))
        else if x1 = (4 : Int32) then
          (dr r_1 5 w_2 (fun a_5 => some (gI w_2 a_5 3, w_2)))
        else if x1 = (5 : Int32) then
          (dr r_1 5 w_2 (fun a_6 => some (gI w_2 a_6 4, w_2)))
        else 
          (dr r_1 5 w_2 (fun a_7 => some (gI w_2 a_7 5, w_2)))))))
set_option maxHeartbeats 4000000 in
theorem mX6_valueOf {Γ : En} {t : Nat} {x1 : Int32} {x2 : Int32} {w : Wd} (ht : t < wn w ∧ kd t = 6) : MtI Γ yX6_valueOf cX6_valueOf 4 (some .int) 4 0 0 [rv Γ (some t), .int x1, .int x2] w (fX6_valueOf t x1 x2 w) := by
  refine mtI [.inr (.inl (some t)), .inl x1, .inl x2] rfl (Nat.le_of_ble_eq_true rfl) (fun X hΓ hnL hn0 h _ hr hF => ?_)
  subst hΓ
  have ht : InN X t 6 := ⟨by rw [hn0]; exact ht.1, ht.2⟩
  have h : Ok X cX6_valueOf RX6 4 0 0 := h
  have hj : ∀ j, j < 4 → j < nLX X := fun j q => by rw [hnL]; exact q
  show G X 0 0 0 [(0, .inr (.inl (some t))), (1, .inl x1), (2, .inl x2)] [] w
  unfold fX6_valueOf at hF
  refine g_iload_n (pc := 0) h 1 rfl dX6_valueOf_0 ?_
  refine g_if_ne (pc := 1) (tgt := 9) h dX6_valueOf_1 (by decide) hF (fun hF => ?_) (fun hF => ?_)
  · refine g_iload_n (pc := 9) h 1 rfl dX6_valueOf_9 ?_
    refine g_iconst (pc := 10) (v := (1 : Int32)) h dX6_valueOf_10 (by decide) ?_
    refine g_icmp_ne (pc := 11) (tgt := 33) h dX6_valueOf_11 (by decide) hF (fun hF => ?_) (fun hF => ?_)
    · refine g_aload_n (pc := 33) h 0 rfl dX6_valueOf_33 ?_
      refine g_iload_n (pc := 34) h 2 rfl dX6_valueOf_34 ?_
      refine g_cvQ (pc := 35) (st := []) h mX6_walkerAt cvX6_129 (inw ht) (by decide) ⟨by decide, by decide⟩ (Nat.le_of_ble_eq_true rfl) rfl rfl dX6_valueOf_35 hF (fun r_1 w_2 hF => ?_)
      refine g_astore_n (pc := 38) (lv' := [(3, .inr (.inl r_1)), (0, .inr (.inl (some t))), (1, .inl x1), (2, .inl x2)]) h dX6_valueOf_38 (hj 3 (by decide)) rfl ?_
      refine g_aload_n (pc := 39) h 0 rfl dX6_valueOf_39 ?_
      refine g_ifnonnull (pc := 40) (tgt := 46) h dX6_valueOf_40 (by decide) hF (fun hF => ?_) (fun hF => ?_)
      · refine g_iload_n (pc := 46) h 2 rfl dX6_valueOf_46 ?_
        refine g_swEq (pc := 47) (off := 29) (tgt := 76) h (2 : Int32) dX6_valueOf_47 (by decide) (by decide) hF (fun hF => ?_) (fun c_0 hF => ?_)
        · refine g_aload_n (pc := 76) h 0 rfl dX6_valueOf_76 ?_
          refine g_dr hF (fun a_3 e_a_3 h_a_3 hF => ?_)
          rw [e_a_3]
          refine g_getI (pc := 77) h fdX6_318 h_a_3 (by decide) dX6_valueOf_77 ?_
          exact g_iret (pc := 80) h hr ⟨Nat.le_refl _, Nat.le_refl _⟩ hF dX6_valueOf_80
        refine g_swEq (pc := 47) (off := 34) (tgt := 81) h (3 : Int32) dX6_valueOf_47 (by decide) (by decide) hF (fun hF => ?_) (fun c_1 hF => ?_)
        · refine g_aload_n (pc := 81) h 0 rfl dX6_valueOf_81 ?_
          refine g_dr hF (fun a_4 e_a_4 h_a_4 hF => ?_)
          rw [e_a_4]
          refine g_getI (pc := 82) h fdX6_195 h_a_4 (by decide) dX6_valueOf_82 ?_
          exact g_iret (pc := 85) h hr ⟨Nat.le_refl _, Nat.le_refl _⟩ hF dX6_valueOf_85
        refine g_swEq (pc := 47) (off := 39) (tgt := 86) h (4 : Int32) dX6_valueOf_47 (by decide) (by decide) hF (fun hF => ?_) (fun c_2 hF => ?_)
        · refine g_aload_n (pc := 86) h 0 rfl dX6_valueOf_86 ?_
          refine g_dr hF (fun a_5 e_a_5 h_a_5 hF => ?_)
          rw [e_a_5]
          refine g_getI (pc := 87) h fdX6_220 h_a_5 (by decide) dX6_valueOf_87 ?_
          exact g_iret (pc := 90) h hr ⟨Nat.le_refl _, Nat.le_refl _⟩ hF dX6_valueOf_90
        refine g_swEq (pc := 47) (off := 44) (tgt := 91) h (5 : Int32) dX6_valueOf_47 (by decide) (by decide) hF (fun hF => ?_) (fun c_3 hF => ?_)
        · refine g_aload_n (pc := 91) h 0 rfl dX6_valueOf_91 ?_
          refine g_dr hF (fun a_6 e_a_6 h_a_6 hF => ?_)
          rw [e_a_6]
          refine g_getI (pc := 92) h fdX6_172 h_a_6 (by decide) dX6_valueOf_92 ?_
          exact g_iret (pc := 95) h hr ⟨Nat.le_refl _, Nat.le_refl _⟩ hF dX6_valueOf_95
        refine g_swOut (pc := 47) (tgt := 96) h dX6_valueOf_47 (sw_out (q := 4) (fun j hj9 => ?_)) (by decide) ?_
        · match j, hj9 with
          | 0, _ => exact c_0
          | 1, _ => exact c_1
          | 2, _ => exact c_2
          | 3, _ => exact c_3
          | j + 4, hj9 => exact absurd hj9 (by omega)
        · refine g_aload_n (pc := 96) h 0 rfl dX6_valueOf_96 ?_
          refine g_dr hF (fun a_7 e_a_7 h_a_7 hF => ?_)
          rw [e_a_7]
          refine g_getI (pc := 97) h fdX6_176 h_a_7 (by decide) dX6_valueOf_97 ?_
          exact g_iret (pc := 100) h hr ⟨Nat.le_refl _, Nat.le_refl _⟩ hF dX6_valueOf_100
      · refine g_bipush (pc := 43) (v := (-2 : Int32)) h dX6_valueOf_43 (by decide) ?_
        exact g_iret (pc := 45) h hr ⟨Nat.le_refl _, Nat.le_refl _⟩ hF dX6_valueOf_45
    · refine g_iload_n (pc := 14) h 2 rfl dX6_valueOf_14 ?_
      refine g_csI (pc := 15) (st := []) h mX6_isThing csX6_205 (by decide) ⟨by decide, by decide⟩ (Nat.le_of_ble_eq_true rfl) rfl rfl dX6_valueOf_15 hF (fun x_8 w_9 hF => ?_)
      refine g_if_eq (pc := 18) (tgt := 30) h dX6_valueOf_18 (by decide) hF (fun hF => ?_) (fun hF => ?_)
      · refine g_bipush (pc := 30) (v := (-2 : Int32)) h dX6_valueOf_30 (by decide) ?_
        exact g_iret (pc := 32) h hr ⟨Nat.le_refl _, Nat.le_refl _⟩ hF dX6_valueOf_32
      · refine g_aload_n (pc := 21) h 0 rfl dX6_valueOf_21 ?_
        refine g_getR (pc := 22) h fdX6_9 (inw ht) rfl dX6_valueOf_22 ?_
        refine g_iload_n (pc := 25) h 2 rfl dX6_valueOf_25 ?_
        refine g_dr hF (fun a_10 e_a_10 h_a_10 hF => ?_)
        rw [e_a_10]
        obtain ⟨g_1, hF⟩ := grd_ok hF
        refine g_iald (pc := 26) h h_a_10 g_1 dX6_valueOf_26 ?_
        refine g_goto (pc := 27) (tgt := 32) h dX6_valueOf_27 (by decide) ?_
        exact g_iret (pc := 32) h hr ⟨Nat.le_refl _, Nat.le_refl _⟩ hF dX6_valueOf_32
  · refine g_aload_n (pc := 4) h 0 rfl dX6_valueOf_4 ?_
    refine g_getI (pc := 5) h fdX6_26 (inw ht) (by decide) dX6_valueOf_5 ?_
    exact g_iret (pc := 8) h hr ⟨Nat.le_refl _, Nat.le_refl _⟩ hF dX6_valueOf_8
def fX6_set (t : Nat) (x1 : Int32) (x2 : Int32) (x3 : Int32) (w : Wd) : Option (Int32 × Wd) :=
  bnd (fX6_isKept x1 w) (fun x_1 w_2 => if x_1 = 0 then
    (some ((-2 : Int32), w_2))
  else
    (bnd (fX6_names t x1 x2 w_2) (fun x_3 w_4 => if x_3 = 0 then
      (some ((-2 : Int32), w_4))
    else
      (bnd (fX6_mostOf x1 w_4) (fun x_5 w_6 => bnd (fX6_within x3 (0 : Int32) x_5 w_6) (fun x_7 w_8 => if x_7 = 0 then
        (some ((-2 : Int32), w_8))
      else
        (bnd (fX6_valueOf t x1 x2 w_8) (fun x_9 w_10 => bnd (fX6_keep t x1 x2 x3 w_10) (fun u_11 w_12 => some (x_9, w_12))))))))))
set_option maxHeartbeats 4000000 in
theorem mX6_set {Γ : En} {t : Nat} {x1 : Int32} {x2 : Int32} {x3 : Int32} {w : Wd} (ht : t < wn w ∧ kd t = 6) : MtI Γ yX6_set cX6_set 5 (some .int) 5 0 0 [rv Γ (some t), .int x1, .int x2, .int x3] w (fX6_set t x1 x2 x3 w) := by
  refine mtI [.inr (.inl (some t)), .inl x1, .inl x2, .inl x3] rfl (Nat.le_of_ble_eq_true rfl) (fun X hΓ hnL hn0 h _ hr hF => ?_)
  subst hΓ
  have ht : InN X t 6 := ⟨by rw [hn0]; exact ht.1, ht.2⟩
  have h : Ok X cX6_set RX6 5 0 0 := h
  have hj : ∀ j, j < 5 → j < nLX X := fun j q => by rw [hnL]; exact q
  show G X 0 0 0 [(0, .inr (.inl (some t))), (1, .inl x1), (2, .inl x2), (3, .inl x3)] [] w
  unfold fX6_set at hF
  refine g_iload_n (pc := 0) h 1 rfl dX6_set_0 ?_
  refine g_csI (pc := 1) (st := []) h mX6_isKept csX6_102 (by decide) ⟨by decide, by decide⟩ (Nat.le_of_ble_eq_true rfl) rfl rfl dX6_set_1 hF (fun x_1 w_2 hF => ?_)
  refine g_if_eq (pc := 4) (tgt := 28) h dX6_set_4 (by decide) hF (fun hF => ?_) (fun hF => ?_)
  · refine g_bipush (pc := 28) (v := (-2 : Int32)) h dX6_set_28 (by decide) ?_
    exact g_iret (pc := 30) h hr ⟨Nat.le_refl _, Nat.le_refl _⟩ hF dX6_set_30
  · refine g_aload_n (pc := 7) h 0 rfl dX6_set_7 ?_
    refine g_iload_n (pc := 8) h 1 rfl dX6_set_8 ?_
    refine g_iload_n (pc := 9) h 2 rfl dX6_set_9 ?_
    refine g_cvI (pc := 10) (st := []) h mX6_names cvX6_106 (inw ht) (by decide) ⟨by decide, by decide⟩ (Nat.le_of_ble_eq_true rfl) rfl rfl dX6_set_10 hF (fun x_3 w_4 hF => ?_)
    refine g_if_eq (pc := 13) (tgt := 28) h dX6_set_13 (by decide) hF (fun hF => ?_) (fun hF => ?_)
    · refine g_bipush (pc := 28) (v := (-2 : Int32)) h dX6_set_28 (by decide) ?_
      exact g_iret (pc := 30) h hr ⟨Nat.le_refl _, Nat.le_refl _⟩ hF dX6_set_30
    · refine g_iload_n (pc := 16) h 3 rfl dX6_set_16 ?_
      refine g_iconst (pc := 17) (v := (0 : Int32)) h dX6_set_17 (by decide) ?_
      refine g_iload_n (pc := 18) h 1 rfl dX6_set_18 ?_
      refine g_csI (pc := 19) (st := [.int (0 : Int32), .int x3]) h mX6_mostOf csX6_110 (by decide) ⟨by decide, by decide⟩ (Nat.le_of_ble_eq_true rfl) rfl rfl dX6_set_19 hF (fun x_5 w_6 hF => ?_)
      refine g_csI (pc := 22) (st := []) h mX6_within csX6_114 (by decide) ⟨by decide, by decide⟩ (Nat.le_of_ble_eq_true rfl) rfl rfl dX6_set_22 hF (fun x_7 w_8 hF => ?_)
      refine g_if_ne (pc := 25) (tgt := 31) h dX6_set_25 (by decide) hF (fun hF => ?_) (fun hF => ?_)
      · refine g_aload_n (pc := 31) h 0 rfl dX6_set_31 ?_
        refine g_iload_n (pc := 32) h 1 rfl dX6_set_32 ?_
        refine g_iload_n (pc := 33) h 2 rfl dX6_set_33 ?_
        refine g_cvI (pc := 34) (st := []) h mX6_valueOf cvX6_118 (inw ht) (by decide) ⟨by decide, by decide⟩ (Nat.le_of_ble_eq_true rfl) rfl rfl dX6_set_34 hF (fun x_9 w_10 hF => ?_)
        refine g_istore (pc := 37) (lv' := [(4, .inl x_9), (0, .inr (.inl (some t))), (1, .inl x1), (2, .inl x2), (3, .inl x3)]) h dX6_set_37 (hj 4 (by decide)) rfl ?_
        refine g_aload_n (pc := 39) h 1 rfl dX6_set_39 ?_
        refine g_iload_n (pc := 40) h 2 rfl dX6_set_40 ?_
        refine g_iload_n (pc := 41) h 3 rfl dX6_set_41 ?_
        refine g_iload_n (pc := 42) h 4 rfl dX6_set_42 ?_
        refine g_cvV (pc := 43) (st := []) h mX6_keep cvX6_122 (inw ht) (by decide) ⟨by decide, by decide⟩ (Nat.le_of_ble_eq_true rfl) rfl rfl dX6_set_43 hF (fun u_11 w_12 hF => ?_)
        refine g_iload (pc := 46) h 0 rfl dX6_set_46 ?_
        exact g_iret (pc := 48) h hr ⟨Nat.le_refl _, Nat.le_refl _⟩ hF dX6_set_48
      · refine g_bipush (pc := 28) (v := (-2 : Int32)) h dX6_set_28 (by decide) ?_
        exact g_iret (pc := 30) h hr ⟨Nat.le_refl _, Nat.le_refl _⟩ hF dX6_set_30
def fX6_walker (t : Nat) (x1 : Int32) (x2 : Int32) (x3 : Int32) (w : Wd) : Option (Int32 × Wd) :=
  bnd (fX6_within x1 (0 : Int32) (5 : Int32) w) (fun x_1 w_2 => if x_1 = 0 then
    (some ((-2 : Int32), w_2))
  else
    (bnd (fX6_within x2 (0 : Int32) (9 : Int32) w_2) (fun x_3 w_4 => if x_3 = 0 then
      (some ((-2 : Int32), w_4))
    else
      (bnd (fX6_within x3 (0 : Int32) (255 : Int32) w_4) (fun x_5 w_6 => if x_5 = 0 then
        (some ((-2 : Int32), w_6))
      else
        (if (gI w_6 t 3) < (6 : Int32) then
          (dr (gR w_6 t 2) 12 w_6 (fun a_7 => grd (vin (gI w_6 t 3) (ln a_7)) (dr (gR w_6 a_7 (gI w_6 t 3).toNatClampNeg) 5 w_6 (fun a_8 => bnd (fX5_comeAs a_8 x1 x2 x3 w_6) (fun u_9 w_10 => lw (sI w_10 t 3 ((gI w_10 t 3) + (1 : Int32))) (fun w_11 => some ((gI w_11 t 3) - (1 : Int32), w_11)))))))
        else
          (some ((-4 : Int32), w_6))))))))
set_option maxHeartbeats 4000000 in
theorem mX6_walker {Γ : En} {t : Nat} {x1 : Int32} {x2 : Int32} {x3 : Int32} {w : Wd} (ht : t < wn w ∧ kd t = 6) : MtI Γ yX6_walker cX6_walker 4 (some .int) 3 0 0 [rv Γ (some t), .int x1, .int x2, .int x3] w (fX6_walker t x1 x2 x3 w) := by
  refine mtI [.inr (.inl (some t)), .inl x1, .inl x2, .inl x3] rfl (Nat.le_of_ble_eq_true rfl) (fun X hΓ hnL hn0 h _ hr hF => ?_)
  subst hΓ
  have ht : InN X t 6 := ⟨by rw [hn0]; exact ht.1, ht.2⟩
  have h : Ok X cX6_walker RX6 3 0 0 := h
  have hj : ∀ j, j < 4 → j < nLX X := fun j q => by rw [hnL]; exact q
  show G X 0 0 0 [(0, .inr (.inl (some t))), (1, .inl x1), (2, .inl x2), (3, .inl x3)] [] w
  unfold fX6_walker at hF
  refine g_iload_n (pc := 0) h 1 rfl dX6_walker_0 ?_
  refine g_iconst (pc := 1) (v := (0 : Int32)) h dX6_walker_1 (by decide) ?_
  refine g_iconst (pc := 2) (v := (5 : Int32)) h dX6_walker_2 (by decide) ?_
  refine g_csI (pc := 3) (st := []) h mX6_within csX6_114 (by decide) ⟨by decide, by decide⟩ (Nat.le_of_ble_eq_true rfl) rfl rfl dX6_walker_3 hF (fun x_1 w_2 hF => ?_)
  refine g_if_eq (pc := 6) (tgt := 30) h dX6_walker_6 (by decide) hF (fun hF => ?_) (fun hF => ?_)
  · refine g_bipush (pc := 30) (v := (-2 : Int32)) h dX6_walker_30 (by decide) ?_
    exact g_iret (pc := 32) h hr ⟨Nat.le_refl _, Nat.le_refl _⟩ hF dX6_walker_32
  · refine g_iload_n (pc := 9) h 2 rfl dX6_walker_9 ?_
    refine g_iconst (pc := 10) (v := (0 : Int32)) h dX6_walker_10 (by decide) ?_
    refine g_bipush (pc := 11) (v := (9 : Int32)) h dX6_walker_11 (by decide) ?_
    refine g_csI (pc := 13) (st := []) h mX6_within csX6_114 (by decide) ⟨by decide, by decide⟩ (Nat.le_of_ble_eq_true rfl) rfl rfl dX6_walker_13 hF (fun x_3 w_4 hF => ?_)
    refine g_if_eq (pc := 16) (tgt := 30) h dX6_walker_16 (by decide) hF (fun hF => ?_) (fun hF => ?_)
    · refine g_bipush (pc := 30) (v := (-2 : Int32)) h dX6_walker_30 (by decide) ?_
      exact g_iret (pc := 32) h hr ⟨Nat.le_refl _, Nat.le_refl _⟩ hF dX6_walker_32
    · refine g_iload_n (pc := 19) h 3 rfl dX6_walker_19 ?_
      refine g_iconst (pc := 20) (v := (0 : Int32)) h dX6_walker_20 (by decide) ?_
      refine g_sipush (pc := 21) (v := (255 : Int32)) h dX6_walker_21 (by decide) ?_
      refine g_csI (pc := 24) (st := []) h mX6_within csX6_114 (by decide) ⟨by decide, by decide⟩ (Nat.le_of_ble_eq_true rfl) rfl rfl dX6_walker_24 hF (fun x_5 w_6 hF => ?_)
      refine g_if_ne (pc := 27) (tgt := 33) h dX6_walker_27 (by decide) hF (fun hF => ?_) (fun hF => ?_)
      · refine g_aload_n (pc := 33) h 0 rfl dX6_walker_33 ?_
        refine g_getI (pc := 34) h fdX6_22 (inw ht) (by decide) dX6_walker_34 ?_
        refine g_bipush (pc := 37) (v := (6 : Int32)) h dX6_walker_37 (by decide) ?_
        refine g_icmp_lt (pc := 39) (tgt := 45) h dX6_walker_39 (by decide) hF (fun hF => ?_) (fun hF => ?_)
        · refine g_aload_n (pc := 45) h 0 rfl dX6_walker_45 ?_
          refine g_getR (pc := 46) h fdX6_18 (inw ht) rfl dX6_walker_46 ?_
          refine g_aload_n (pc := 49) h 0 rfl dX6_walker_49 ?_
          refine g_getI (pc := 50) h fdX6_22 (inw ht) (by decide) dX6_walker_50 ?_
          refine g_dr hF (fun a_7 e_a_7 h_a_7 hF => ?_)
          rw [e_a_7]
          obtain ⟨g_1, hF⟩ := grd_ok hF
          refine g_aald (pc := 53) h (by decide) rfl h_a_7 g_1 dX6_walker_53 ?_
          refine g_iload_n (pc := 54) h 1 rfl dX6_walker_54 ?_
          refine g_iload_n (pc := 55) h 2 rfl dX6_walker_55 ?_
          refine g_iload_n (pc := 56) h 3 rfl dX6_walker_56 ?_
          refine g_dr hF (fun a_8 e_a_8 h_a_8 hF => ?_)
          rw [e_a_8]
          refine g_cvV (pc := 57) (st := []) h mX5_comeAs cvX6_126 h_a_8 (by decide) ⟨by decide, by decide⟩ (Nat.le_of_ble_eq_true rfl) rfl rfl dX6_walker_57 hF (fun u_9 w_10 hF => ?_)
          refine g_aload_n (pc := 60) h 0 rfl dX6_walker_60 ?_
          refine g_dup (pc := 61) h dX6_walker_61 rv_cat ?_
          refine g_getI (pc := 62) h fdX6_22 (inw ht) (by decide) dX6_walker_62 ?_
          refine g_iconst (pc := 65) (v := (1 : Int32)) h dX6_walker_65 (by decide) ?_
          refine g_iadd (pc := 66) h dX6_walker_66 ?_
          refine g_putI (pc := 67) h fdX6_22 (inw ht) (by decide) ⟨rfl, rfl⟩ dX6_walker_67 ?_
          refine g_w hF (fun w_11 hF => ?_)
          refine g_aload_n (pc := 70) h 0 rfl dX6_walker_70 ?_
          refine g_getI (pc := 71) h fdX6_22 (inw ht) (by decide) dX6_walker_71 ?_
          refine g_iconst (pc := 74) (v := (1 : Int32)) h dX6_walker_74 (by decide) ?_
          refine g_isub (pc := 75) h dX6_walker_75 ?_
          exact g_iret (pc := 76) h hr ⟨Nat.le_refl _, Nat.le_refl _⟩ hF dX6_walker_76
        · refine g_bipush (pc := 42) (v := (-4 : Int32)) h dX6_walker_42 (by decide) ?_
          exact g_iret (pc := 44) h hr ⟨Nat.le_refl _, Nat.le_refl _⟩ hF dX6_walker_44
      · refine g_bipush (pc := 30) (v := (-2 : Int32)) h dX6_walker_30 (by decide) ?_
        exact g_iret (pc := 32) h hr ⟨Nat.le_refl _, Nat.le_refl _⟩ hF dX6_walker_32
def fX6_thinkTold (t : Nat) (r1 : Option Nat) (x2 : Int32) (w : Wd) : Option (Unit × Wd) :=
  dr (gR w t 5) 11 w (fun a_1 => grd (vin (gI w t 7) (ln a_1)) (dr (gR w t 9) 4 w (fun a_2 => bnd (fX4_startAs a_2 r1 (gR w a_1 (gI w t 7).toNatClampNeg) (gI w t 4) w) (fun u_3 w_4 => dr r1 5 w_4 (fun a_5 => dr (gR w_4 t 9) 4 w_4 (fun a_6 => bnd (fX4_weigh a_6 (gI w_4 a_5 2) x2 (gR w_4 t 0) w_4) (fun u_7 w_8 => some ((), w_8))))))))
set_option maxHeartbeats 4000000 in
theorem mX6_thinkTold {Γ : En} {t : Nat} {r1 : Option Nat} {x2 : Int32} {w : Wd} (ht : t < wn w ∧ kd t = 6) : MtV Γ yX6_thinkTold cX6_thinkTold 3 none 4 0 0 [rv Γ (some t), rv Γ r1, .int x2] w (fX6_thinkTold t r1 x2 w) := by
  refine mtV [.inr (.inl (some t)), .inr (.inl r1), .inl x2] rfl (Nat.le_of_ble_eq_true rfl) (fun X hΓ hnL hn0 h _ hr hF => ?_)
  subst hΓ
  have ht : InN X t 6 := ⟨by rw [hn0]; exact ht.1, ht.2⟩
  have h : Ok X cX6_thinkTold RX6 4 0 0 := h
  have hj : ∀ j, j < 3 → j < nLX X := fun j q => by rw [hnL]; exact q
  show G X 0 0 0 [(0, .inr (.inl (some t))), (1, .inr (.inl r1)), (2, .inl x2)] [] w
  unfold fX6_thinkTold at hF
  refine g_aload_n (pc := 0) h 0 rfl dX6_thinkTold_0 ?_
  refine g_getR (pc := 1) h fdX6_98 (inw ht) rfl dX6_thinkTold_1 ?_
  refine g_aload_n (pc := 4) h 1 rfl dX6_thinkTold_4 ?_
  refine g_aload_n (pc := 5) h 0 rfl dX6_thinkTold_5 ?_
  refine g_getR (pc := 6) h fdX6_31 (inw ht) rfl dX6_thinkTold_6 ?_
  refine g_aload_n (pc := 9) h 0 rfl dX6_thinkTold_9 ?_
  refine g_getI (pc := 10) h fdX6_38 (inw ht) (by decide) dX6_thinkTold_10 ?_
  refine g_dr hF (fun a_1 e_a_1 h_a_1 hF => ?_)
  rw [e_a_1]
  obtain ⟨g_1, hF⟩ := grd_ok hF
  refine g_aald (pc := 13) h (by decide) rfl h_a_1 g_1 dX6_thinkTold_13 ?_
  refine g_aload_n (pc := 14) h 0 rfl dX6_thinkTold_14 ?_
  refine g_getI (pc := 15) h fdX6_26 (inw ht) (by decide) dX6_thinkTold_15 ?_
  refine g_dr hF (fun a_2 e_a_2 h_a_2 hF => ?_)
  rw [e_a_2]
  refine g_cvV (pc := 18) (st := []) h mX4_startAs cvX6_336 h_a_2 (by decide) ⟨by decide, by decide⟩ (Nat.le_of_ble_eq_true rfl) rfl rfl dX6_thinkTold_18 hF (fun u_3 w_4 hF => ?_)
  refine g_aload_n (pc := 21) h 0 rfl dX6_thinkTold_21 ?_
  refine g_getR (pc := 22) h fdX6_98 (inw ht) rfl dX6_thinkTold_22 ?_
  refine g_aload_n (pc := 25) h 1 rfl dX6_thinkTold_25 ?_
  refine g_dr hF (fun a_5 e_a_5 h_a_5 hF => ?_)
  rw [e_a_5]
  refine g_getI (pc := 26) h fdX6_195 h_a_5 (by decide) dX6_thinkTold_26 ?_
  refine g_iload_n (pc := 29) h 2 rfl dX6_thinkTold_29 ?_
  refine g_aload_n (pc := 30) h 0 rfl dX6_thinkTold_30 ?_
  refine g_getR (pc := 31) h fdX6_9 (inw ht) rfl dX6_thinkTold_31 ?_
  refine g_dr hF (fun a_6 e_a_6 h_a_6 hF => ?_)
  rw [e_a_6]
  refine g_cvV (pc := 34) (st := []) h mX4_weigh cvX6_340 h_a_6 (by decide) ⟨by decide, by decide⟩ (Nat.le_of_ble_eq_true rfl) rfl rfl dX6_thinkTold_34 hF (fun u_7 w_8 hF => ?_)
  exact g_vret (pc := 37) h hr ⟨Nat.le_refl _, Nat.le_refl _⟩ hF dX6_thinkTold_37
def fX6_think (t : Nat) (r1 : Option Nat) (w : Wd) : Option (Unit × Wd) :=
  dr r1 5 w (fun a_1 => bnd (fX6_thinkTold t (some a_1) (gI w a_1 3) w) (fun u_2 w_3 => some ((), w_3)))
set_option maxHeartbeats 4000000 in
theorem mX6_think {Γ : En} {t : Nat} {r1 : Option Nat} {w : Wd} (ht : t < wn w ∧ kd t = 6) : MtV Γ yX6_think cX6_think 2 none 5 0 0 [rv Γ (some t), rv Γ r1] w (fX6_think t r1 w) := by
  refine mtV [.inr (.inl (some t)), .inr (.inl r1)] rfl (Nat.le_of_ble_eq_true rfl) (fun X hΓ hnL hn0 h _ hr hF => ?_)
  subst hΓ
  have ht : InN X t 6 := ⟨by rw [hn0]; exact ht.1, ht.2⟩
  have h : Ok X cX6_think RX6 5 0 0 := h
  have hj : ∀ j, j < 2 → j < nLX X := fun j q => by rw [hnL]; exact q
  show G X 0 0 0 [(0, .inr (.inl (some t))), (1, .inr (.inl r1))] [] w
  unfold fX6_think at hF
  refine g_aload_n (pc := 0) h 0 rfl dX6_think_0 ?_
  refine g_aload_n (pc := 1) h 1 rfl dX6_think_1 ?_
  refine g_aload_n (pc := 2) h 1 rfl dX6_think_2 ?_
  refine g_dr hF (fun a_1 e_a_1 h_a_1 hF => ?_)
  rw [e_a_1]
  refine g_getI (pc := 3) h fdX6_220 h_a_1 (by decide) dX6_think_3 ?_
  refine g_cvV (pc := 6) (st := []) h mX6_thinkTold cvX6_226 (inw ht) (by decide) ⟨by decide, by decide⟩ (Nat.le_of_ble_eq_true rfl) rfl rfl dX6_think_6 hF (fun u_2 w_3 hF => ?_)
  exact g_vret (pc := 9) h hr ⟨Nat.le_refl _, Nat.le_refl _⟩ hF dX6_think_9
def fX6_told (t : Nat) (x1 : Int32) (x2 : Int32) (w : Wd) : Option (Int32 × Wd) :=
  bnd (fX6_within x2 (0 : Int32) (13 : Int32) w) (fun x_1 w_2 => if x_1 = 0 then
    (some ((-2 : Int32), w_2))
  else
    (bnd (fX6_names t x2 x1 w_2) (fun x_3 w_4 => if x_3 = 0 then
      (some ((-2 : Int32), w_4))
    else
      (bnd (fX6_isKept x2 w_4) (fun x_5 w_6 => if x_5 = 0 then
        (bnd (fX6_walkerAt t x1 w_6) (fun r_7 w_8 => ifn r_7
          (some ((-2 : Int32), w_8))
          (bnd (fX6_think t r_7 w_8) (fun u_9 w_10 => if x2 = (7 : Int32) then
            (dr r_7 5 w_10 (fun a_11 => some (gI w_10 a_11 0, w_10)))
          else if x2 = (8 : Int32) then
            (dr (gR w_10 t 9) 4 w_10 (fun a_12 => some (gI w_10 a_12 2, w_10)))
          else if x2 = (9 : Int32) then
            (dr (gR w_10 t 9) 4 w_10 (fun a_13 => some (gI w_10 a_13 3, w_10)))
          else if x2 = (10 : Int32) then
            (dr (gR w_10 t 9) 4 w_10 (fun a_14 => bnd (fX4_lasts a_14 w_10) (fun x_15 w_16 => some (x_15, w_16))))
          else if x2 = (11 : Int32) then
            (dr (gR w_10 t 9) 4 w_10 (fun a_17 => bnd (fX4_pace a_17 w_10) (fun x_18 w_19 => some (x_18, w_19))))
          else if x2 = (12 : Int32) then
            (dr (gR w_10 t 9) 4 w_10 (fun a_20 => bnd (fX4_isStopped a_20 w_10) (fun x_21 w_22 => bnd (fX6_bit x_21 w_22) (fun x_23 w_24 => some (x_23, w_24)))))
          else 
            (dr (gR w_10 t 9) 4 w_10 (fun a_25 => bnd (fX4_isInSocks a_25 w_10) (fun x_26 w_27 => bnd (fX6_bit x_26 w_27) (fun x_28 w_29 => some (x_28, w_29)))))))))
      else
        (bnd (fX6_valueOf t x2 x1 w_6) (fun x_30 w_31 => some (x_30, w_31))))))))
set_option maxHeartbeats 4000000 in
theorem mX6_told {Γ : En} {t : Nat} {x1 : Int32} {x2 : Int32} {w : Wd} (ht : t < wn w ∧ kd t = 6) : MtI Γ yX6_told cX6_told 4 (some .int) 9 0 0 [rv Γ (some t), .int x1, .int x2] w (fX6_told t x1 x2 w) := by
  refine mtI [.inr (.inl (some t)), .inl x1, .inl x2] rfl (Nat.le_of_ble_eq_true rfl) (fun X hΓ hnL hn0 h _ hr hF => ?_)
  subst hΓ
  have ht : InN X t 6 := ⟨by rw [hn0]; exact ht.1, ht.2⟩
  have h : Ok X cX6_told RX6 9 0 0 := h
  have hj : ∀ j, j < 4 → j < nLX X := fun j q => by rw [hnL]; exact q
  show G X 0 0 0 [(0, .inr (.inl (some t))), (1, .inl x1), (2, .inl x2)] [] w
  unfold fX6_told at hF
  refine g_iload_n (pc := 0) h 2 rfl dX6_told_0 ?_
  refine g_iconst (pc := 1) (v := (0 : Int32)) h dX6_told_1 (by decide) ?_
  refine g_bipush (pc := 2) (v := (13 : Int32)) h dX6_told_2 (by decide) ?_
  refine g_csI (pc := 4) (st := []) h mX6_within csX6_114 (by decide) ⟨by decide, by decide⟩ (Nat.le_of_ble_eq_true rfl) rfl rfl dX6_told_4 hF (fun x_1 w_2 hF => ?_)
  refine g_if_eq (pc := 7) (tgt := 19) h dX6_told_7 (by decide) hF (fun hF => ?_) (fun hF => ?_)
  · refine g_bipush (pc := 19) (v := (-2 : Int32)) h dX6_told_19 (by decide) ?_
    exact g_iret (pc := 21) h hr ⟨Nat.le_refl _, Nat.le_refl _⟩ hF dX6_told_21
  · refine g_aload_n (pc := 10) h 0 rfl dX6_told_10 ?_
    refine g_iload_n (pc := 11) h 2 rfl dX6_told_11 ?_
    refine g_iload_n (pc := 12) h 1 rfl dX6_told_12 ?_
    refine g_cvI (pc := 13) (st := []) h mX6_names cvX6_106 (inw ht) (by decide) ⟨by decide, by decide⟩ (Nat.le_of_ble_eq_true rfl) rfl rfl dX6_told_13 hF (fun x_3 w_4 hF => ?_)
    refine g_if_ne (pc := 16) (tgt := 22) h dX6_told_16 (by decide) hF (fun hF => ?_) (fun hF => ?_)
    · refine g_iload_n (pc := 22) h 2 rfl dX6_told_22 ?_
      refine g_csI (pc := 23) (st := []) h mX6_isKept csX6_102 (by decide) ⟨by decide, by decide⟩ (Nat.le_of_ble_eq_true rfl) rfl rfl dX6_told_23 hF (fun x_5 w_6 hF => ?_)
      refine g_if_eq (pc := 26) (tgt := 36) h dX6_told_26 (by decide) hF (fun hF => ?_) (fun hF => ?_)
      · refine g_aload_n (pc := 36) h 0 rfl dX6_told_36 ?_
        refine g_iload_n (pc := 37) h 1 rfl dX6_told_37 ?_
        refine g_cvQ (pc := 38) (st := []) h mX6_walkerAt cvX6_129 (inw ht) (by decide) ⟨by decide, by decide⟩ (Nat.le_of_ble_eq_true rfl) rfl rfl dX6_told_38 hF (fun r_7 w_8 hF => ?_)
        refine g_astore_n (pc := 41) (lv' := [(3, .inr (.inl r_7)), (0, .inr (.inl (some t))), (1, .inl x1), (2, .inl x2)]) h dX6_told_41 (hj 3 (by decide)) rfl ?_
        refine g_aload_n (pc := 42) h 0 rfl dX6_told_42 ?_
        refine g_ifnonnull (pc := 43) (tgt := 49) h dX6_told_43 (by decide) hF (fun hF => ?_) (fun hF => ?_)
        · refine g_aload_n (pc := 49) h 1 rfl dX6_told_49 ?_
          refine g_aload_n (pc := 50) h 0 rfl dX6_told_50 ?_
          refine g_cvV (pc := 51) (st := []) h mX6_think cvX6_133 (inw ht) (by decide) ⟨by decide, by decide⟩ (Nat.le_of_ble_eq_true rfl) rfl rfl dX6_told_51 hF (fun u_9 w_10 hF => ?_)
          refine g_iload_n (pc := 54) h 3 rfl dX6_told_54 ?_
          refine g_swEq (pc := 55) (off := 37) (tgt := 92) h (7 : Int32) dX6_told_55 (by decide) (by decide) hF (fun hF => ?_) (fun c_0 hF => ?_)
          · refine g_aload_n (pc := 92) h 0 rfl dX6_told_92 ?_
            refine g_dr hF (fun a_11 e_a_11 h_a_11 hF => ?_)
            rw [e_a_11]
            refine g_getI (pc := 93) h fdX6_137 h_a_11 (by decide) dX6_told_93 ?_
            exact g_iret (pc := 96) h hr ⟨Nat.le_refl _, Nat.le_refl _⟩ hF dX6_told_96
          refine g_swEq (pc := 55) (off := 42) (tgt := 97) h (8 : Int32) dX6_told_55 (by decide) (by decide) hF (fun hF => ?_) (fun c_1 hF => ?_)
          · refine g_aload_n (pc := 97) h 1 rfl dX6_told_97 ?_
            refine g_getR (pc := 98) h fdX6_98 (inw ht) rfl dX6_told_98 ?_
            refine g_dr hF (fun a_12 e_a_12 h_a_12 hF => ?_)
            rw [e_a_12]
            refine g_getI (pc := 101) h fdX6_140 h_a_12 (by decide) dX6_told_101 ?_
            exact g_iret (pc := 104) h hr ⟨Nat.le_refl _, Nat.le_refl _⟩ hF dX6_told_104
          refine g_swEq (pc := 55) (off := 50) (tgt := 105) h (9 : Int32) dX6_told_55 (by decide) (by decide) hF (fun hF => ?_) (fun c_2 hF => ?_)
          · refine g_aload_n (pc := 105) h 1 rfl dX6_told_105 ?_
            refine g_getR (pc := 106) h fdX6_98 (inw ht) rfl dX6_told_106 ?_
            refine g_dr hF (fun a_13 e_a_13 h_a_13 hF => ?_)
            rw [e_a_13]
            refine g_getI (pc := 109) h fdX6_143 h_a_13 (by decide) dX6_told_109 ?_
            exact g_iret (pc := 112) h hr ⟨Nat.le_refl _, Nat.le_refl _⟩ hF dX6_told_112
          refine g_swEq (pc := 55) (off := 58) (tgt := 113) h (10 : Int32) dX6_told_55 (by decide) (by decide) hF (fun hF => ?_) (fun c_3 hF => ?_)
          · refine g_aload_n (pc := 113) h 1 rfl dX6_told_113 ?_
            refine g_getR (pc := 114) h fdX6_98 (inw ht) rfl dX6_told_114 ?_
            refine g_dr hF (fun a_14 e_a_14 h_a_14 hF => ?_)
            rw [e_a_14]
            refine g_cvI (pc := 117) (st := []) h mX4_lasts cvX6_146 h_a_14 (by decide) ⟨by decide, by decide⟩ (Nat.le_of_ble_eq_true rfl) rfl rfl dX6_told_117 hF (fun x_15 w_16 hF => ?_)
            exact g_iret (pc := 120) h hr ⟨Nat.le_refl _, Nat.le_refl _⟩ hF dX6_told_120
          refine g_swEq (pc := 55) (off := 66) (tgt := 121) h (11 : Int32) dX6_told_55 (by decide) (by decide) hF (fun hF => ?_) (fun c_4 hF => ?_)
          · refine g_aload_n (pc := 121) h 1 rfl dX6_told_121 ?_
            refine g_getR (pc := 122) h fdX6_98 (inw ht) rfl dX6_told_122 ?_
            refine g_dr hF (fun a_17 e_a_17 h_a_17 hF => ?_)
            rw [e_a_17]
            refine g_cvI (pc := 125) (st := []) h mX4_pace cvX6_149 h_a_17 (by decide) ⟨by decide, by decide⟩ (Nat.le_of_ble_eq_true rfl) rfl rfl dX6_told_125 hF (fun x_18 w_19 hF => ?_)
            exact g_iret (pc := 128) h hr ⟨Nat.le_refl _, Nat.le_refl _⟩ hF dX6_told_128
          refine g_swEq (pc := 55) (off := 74) (tgt := 129) h (12 : Int32) dX6_told_55 (by decide) (by decide) hF (fun hF => ?_) (fun c_5 hF => ?_)
          · refine g_aload_n (pc := 129) h 1 rfl dX6_told_129 ?_
            refine g_getR (pc := 130) h fdX6_98 (inw ht) rfl dX6_told_130 ?_
            refine g_dr hF (fun a_20 e_a_20 h_a_20 hF => ?_)
            rw [e_a_20]
            refine g_cvI (pc := 133) (st := []) h mX4_isStopped cvX6_152 h_a_20 (by decide) ⟨by decide, by decide⟩ (Nat.le_of_ble_eq_true rfl) rfl rfl dX6_told_133 hF (fun x_21 w_22 hF => ?_)
            refine g_csI (pc := 136) (st := []) h mX6_bit csX6_156 (by decide) ⟨by decide, by decide⟩ (Nat.le_of_ble_eq_true rfl) rfl rfl dX6_told_136 hF (fun x_23 w_24 hF => ?_)
            exact g_iret (pc := 139) h hr ⟨Nat.le_refl _, Nat.le_refl _⟩ hF dX6_told_139
          refine g_swOut (pc := 55) (tgt := 140) h dX6_told_55 (sw_out (q := 6) (fun j hj9 => ?_)) (by decide) ?_
          · match j, hj9 with
            | 0, _ => exact c_0
            | 1, _ => exact c_1
            | 2, _ => exact c_2
            | 3, _ => exact c_3
            | 4, _ => exact c_4
            | 5, _ => exact c_5
            | j + 6, hj9 => exact absurd hj9 (by omega)
          · refine g_aload_n (pc := 140) h 1 rfl dX6_told_140 ?_
            refine g_getR (pc := 141) h fdX6_98 (inw ht) rfl dX6_told_141 ?_
            refine g_dr hF (fun a_25 e_a_25 h_a_25 hF => ?_)
            rw [e_a_25]
            refine g_cvI (pc := 144) (st := []) h mX4_isInSocks cvX6_160 h_a_25 (by decide) ⟨by decide, by decide⟩ (Nat.le_of_ble_eq_true rfl) rfl rfl dX6_told_144 hF (fun x_26 w_27 hF => ?_)
            refine g_csI (pc := 147) (st := []) h mX6_bit csX6_156 (by decide) ⟨by decide, by decide⟩ (Nat.le_of_ble_eq_true rfl) rfl rfl dX6_told_147 hF (fun x_28 w_29 hF => ?_)
            exact g_iret (pc := 150) h hr ⟨Nat.le_refl _, Nat.le_refl _⟩ hF dX6_told_150
        · refine g_bipush (pc := 46) (v := (-2 : Int32)) h dX6_told_46 (by decide) ?_
          exact g_iret (pc := 48) h hr ⟨Nat.le_refl _, Nat.le_refl _⟩ hF dX6_told_48
      · refine g_aload_n (pc := 29) h 0 rfl dX6_told_29 ?_
        refine g_iload_n (pc := 30) h 2 rfl dX6_told_30 ?_
        refine g_iload_n (pc := 31) h 1 rfl dX6_told_31 ?_
        refine g_cvI (pc := 32) (st := []) h mX6_valueOf cvX6_118 (inw ht) (by decide) ⟨by decide, by decide⟩ (Nat.le_of_ble_eq_true rfl) rfl rfl dX6_told_32 hF (fun x_30 w_31 hF => ?_)
        exact g_iret (pc := 35) h hr ⟨Nat.le_refl _, Nat.le_refl _⟩ hF dX6_told_35
    · refine g_bipush (pc := 19) (v := (-2 : Int32)) h dX6_told_19 (by decide) ?_
      exact g_iret (pc := 21) h hr ⟨Nat.le_refl _, Nat.le_refl _⟩ hF dX6_told_21
def fX6_feed (t : Nat) (x1 : Int32) (w : Wd) : Option (Int32 × Wd) :=
  bnd (fX6_within x1 (0 : Int32) (255 : Int32) w) (fun x_1 w_2 => if x_1 = 0 then
    (some ((-2 : Int32), w_2))
  else
    (dr (gR w_2 t 8) 1 w_2 (fun a_3 => if (gI w_2 a_3 1) < (160 : Int32) then
      (dr (gR w_2 t 8) 1 w_2 (fun a_4 => bnd (fX1_append a_4 x1 w_2) (fun u_5 w_6 => dr (gR w_6 t 8) 1 w_6 (fun a_7 => some (gI w_6 a_7 1, w_6)))))
    else
      (some ((-4 : Int32), w_2)))))
set_option maxHeartbeats 4000000 in
theorem mX6_feed {Γ : En} {t : Nat} {x1 : Int32} {w : Wd} (ht : t < wn w ∧ kd t = 6) : MtI Γ yX6_feed cX6_feed 2 (some .int) 3 0 0 [rv Γ (some t), .int x1] w (fX6_feed t x1 w) := by
  refine mtI [.inr (.inl (some t)), .inl x1] rfl (Nat.le_of_ble_eq_true rfl) (fun X hΓ hnL hn0 h _ hr hF => ?_)
  subst hΓ
  have ht : InN X t 6 := ⟨by rw [hn0]; exact ht.1, ht.2⟩
  have h : Ok X cX6_feed RX6 3 0 0 := h
  have hj : ∀ j, j < 2 → j < nLX X := fun j q => by rw [hnL]; exact q
  show G X 0 0 0 [(0, .inr (.inl (some t))), (1, .inl x1)] [] w
  unfold fX6_feed at hF
  refine g_iload_n (pc := 0) h 1 rfl dX6_feed_0 ?_
  refine g_iconst (pc := 1) (v := (0 : Int32)) h dX6_feed_1 (by decide) ?_
  refine g_sipush (pc := 2) (v := (255 : Int32)) h dX6_feed_2 (by decide) ?_
  refine g_csI (pc := 5) (st := []) h mX6_within csX6_114 (by decide) ⟨by decide, by decide⟩ (Nat.le_of_ble_eq_true rfl) rfl rfl dX6_feed_5 hF (fun x_1 w_2 hF => ?_)
  refine g_if_ne (pc := 8) (tgt := 14) h dX6_feed_8 (by decide) hF (fun hF => ?_) (fun hF => ?_)
  · refine g_aload_n (pc := 14) h 0 rfl dX6_feed_14 ?_
    refine g_getR (pc := 15) h fdX6_44 (inw ht) rfl dX6_feed_15 ?_
    refine g_dr hF (fun a_3 e_a_3 h_a_3 hF => ?_)
    rw [e_a_3]
    refine g_getI (pc := 18) h fdX6_163 h_a_3 (by decide) dX6_feed_18 ?_
    refine g_sipush (pc := 21) (v := (160 : Int32)) h dX6_feed_21 (by decide) ?_
    refine g_icmp_lt (pc := 24) (tgt := 30) h dX6_feed_24 (by decide) hF (fun hF => ?_) (fun hF => ?_)
    · refine g_aload_n (pc := 30) h 0 rfl dX6_feed_30 ?_
      refine g_getR (pc := 31) h fdX6_44 (inw ht) rfl dX6_feed_31 ?_
      refine g_iload_n (pc := 34) h 1 rfl dX6_feed_34 ?_
      refine g_dr hF (fun a_4 e_a_4 h_a_4 hF => ?_)
      rw [e_a_4]
      refine g_cvV (pc := 35) (st := []) h mX1_append cvX6_85 h_a_4 (by decide) ⟨by decide, by decide⟩ (Nat.le_of_ble_eq_true rfl) rfl rfl dX6_feed_35 hF (fun u_5 w_6 hF => ?_)
      refine g_aload_n (pc := 38) h 0 rfl dX6_feed_38 ?_
      refine g_getR (pc := 39) h fdX6_44 (inw ht) rfl dX6_feed_39 ?_
      refine g_dr hF (fun a_7 e_a_7 h_a_7 hF => ?_)
      rw [e_a_7]
      refine g_getI (pc := 42) h fdX6_163 h_a_7 (by decide) dX6_feed_42 ?_
      exact g_iret (pc := 45) h hr ⟨Nat.le_refl _, Nat.le_refl _⟩ hF dX6_feed_45
    · refine g_bipush (pc := 27) (v := (-4 : Int32)) h dX6_feed_27 (by decide) ?_
      exact g_iret (pc := 29) h hr ⟨Nat.le_refl _, Nat.le_refl _⟩ hF dX6_feed_29
  · refine g_bipush (pc := 11) (v := (-2 : Int32)) h dX6_feed_11 (by decide) ?_
    exact g_iret (pc := 13) h hr ⟨Nat.le_refl _, Nat.le_refl _⟩ hF dX6_feed_13
def fX6_text (t : Nat) (w : Wd) : Option (Int32 × Wd) :=
  if (gI w t 6) < (6 : Int32) then
    (dr (gR w t 5) 11 w (fun a_1 => grd (vin (gI w t 6) (ln a_1)) (dr (gR w t 8) 1 w (fun a_2 => bnd (fX1_readInto a_2 (gR w a_1 (gI w t 6).toNatClampNeg) w) (fun x_3 w_4 => if x_3 = (-1 : Int32) then
      (lw (sI w_4 t 6 ((gI w_4 t 6) + (1 : Int32))) (fun w_5 => some ((gI w_5 t 6) - (1 : Int32), w_5)))
    else
      (some ((-100 : Int32) - x_3, w_4)))))))
  else
    (some ((-4 : Int32), w))
set_option maxHeartbeats 4000000 in
theorem mX6_text {Γ : En} {t : Nat} {w : Wd} (ht : t < wn w ∧ kd t = 6) : MtI Γ yX6_text cX6_text 2 (some .int) 74 0 0 [rv Γ (some t)] w (fX6_text t w) := by
  refine mtI [.inr (.inl (some t))] rfl (Nat.le_of_ble_eq_true rfl) (fun X hΓ hnL hn0 h _ hr hF => ?_)
  subst hΓ
  have ht : InN X t 6 := ⟨by rw [hn0]; exact ht.1, ht.2⟩
  have h : Ok X cX6_text RX6 74 0 0 := h
  have hj : ∀ j, j < 2 → j < nLX X := fun j q => by rw [hnL]; exact q
  show G X 0 0 0 [(0, .inr (.inl (some t)))] [] w
  unfold fX6_text at hF
  refine g_aload_n (pc := 0) h 0 rfl dX6_text_0 ?_
  refine g_getI (pc := 1) h fdX6_35 (inw ht) (by decide) dX6_text_1 ?_
  refine g_bipush (pc := 4) (v := (6 : Int32)) h dX6_text_4 (by decide) ?_
  refine g_icmp_lt (pc := 6) (tgt := 12) h dX6_text_6 (by decide) hF (fun hF => ?_) (fun hF => ?_)
  · refine g_aload_n (pc := 12) h 0 rfl dX6_text_12 ?_
    refine g_getR (pc := 13) h fdX6_44 (inw ht) rfl dX6_text_13 ?_
    refine g_aload_n (pc := 16) h 0 rfl dX6_text_16 ?_
    refine g_getR (pc := 17) h fdX6_31 (inw ht) rfl dX6_text_17 ?_
    refine g_aload_n (pc := 20) h 0 rfl dX6_text_20 ?_
    refine g_getI (pc := 21) h fdX6_35 (inw ht) (by decide) dX6_text_21 ?_
    refine g_dr hF (fun a_1 e_a_1 h_a_1 hF => ?_)
    rw [e_a_1]
    obtain ⟨g_1, hF⟩ := grd_ok hF
    refine g_aald (pc := 24) h (by decide) rfl h_a_1 g_1 dX6_text_24 ?_
    refine g_dr hF (fun a_2 e_a_2 h_a_2 hF => ?_)
    rw [e_a_2]
    refine g_cvI (pc := 25) (st := []) h mX1_readInto cvX6_89 h_a_2 (by decide) ⟨by decide, by decide⟩ (Nat.le_of_ble_eq_true rfl) rfl rfl dX6_text_25 hF (fun x_3 w_4 hF => ?_)
    refine g_istore_n (pc := 28) (lv' := [(1, .inl x_3), (0, .inr (.inl (some t)))]) h dX6_text_28 (hj 1 (by decide)) rfl ?_
    refine g_iload_n (pc := 29) h 0 rfl dX6_text_29 ?_
    refine g_iconst (pc := 30) (v := (-1 : Int32)) h dX6_text_30 (by decide) ?_
    refine g_icmp_eq (pc := 31) (tgt := 39) h dX6_text_31 (by decide) hF (fun hF => ?_) (fun hF => ?_)
    · refine g_aload_n (pc := 39) h 1 rfl dX6_text_39 ?_
      refine g_dup (pc := 40) h dX6_text_40 rv_cat ?_
      refine g_getI (pc := 41) h fdX6_35 (inw ht) (by decide) dX6_text_41 ?_
      refine g_iconst (pc := 44) (v := (1 : Int32)) h dX6_text_44 (by decide) ?_
      refine g_iadd (pc := 45) h dX6_text_45 ?_
      refine g_putI (pc := 46) h fdX6_35 (inw ht) (by decide) ⟨rfl, rfl⟩ dX6_text_46 ?_
      refine g_w hF (fun w_5 hF => ?_)
      refine g_aload_n (pc := 49) h 1 rfl dX6_text_49 ?_
      refine g_getI (pc := 50) h fdX6_35 (inw ht) (by decide) dX6_text_50 ?_
      refine g_iconst (pc := 53) (v := (1 : Int32)) h dX6_text_53 (by decide) ?_
      refine g_isub (pc := 54) h dX6_text_54 ?_
      exact g_iret (pc := 55) h hr ⟨Nat.le_refl _, Nat.le_refl _⟩ hF dX6_text_55
    · refine g_bipush (pc := 34) (v := (-100 : Int32)) h dX6_text_34 (by decide) ?_
      refine g_iload_n (pc := 36) h 0 rfl dX6_text_36 ?_
      refine g_isub (pc := 37) h dX6_text_37 ?_
      exact g_iret (pc := 38) h hr ⟨Nat.le_refl _, Nat.le_refl _⟩ hF dX6_text_38
  · refine g_bipush (pc := 9) (v := (-4 : Int32)) h dX6_text_9 (by decide) ?_
    exact g_iret (pc := 11) h hr ⟨Nat.le_refl _, Nat.le_refl _⟩ hF dX6_text_11
def fX6_force (t : Nat) (x1 : Int32) (w : Wd) : Option (Int32 × Wd) :=
  bnd (fX6_within x1 (0 : Int32) ((gI w t 6) - (1 : Int32)) w) (fun x_1 w_2 => if x_1 = 0 then
    (some ((-2 : Int32), w_2))
  else
    (lt (gI w_2 t 7) (fun x2_3 => lw (sI w_2 t 7 x1) (fun w_4 => some (x2_3, w_4)))))
set_option maxHeartbeats 4000000 in
theorem mX6_force {Γ : En} {t : Nat} {x1 : Int32} {w : Wd} (ht : t < wn w ∧ kd t = 6) : MtI Γ yX6_force cX6_force 3 (some .int) 3 0 0 [rv Γ (some t), .int x1] w (fX6_force t x1 w) := by
  refine mtI [.inr (.inl (some t)), .inl x1] rfl (Nat.le_of_ble_eq_true rfl) (fun X hΓ hnL hn0 h _ hr hF => ?_)
  subst hΓ
  have ht : InN X t 6 := ⟨by rw [hn0]; exact ht.1, ht.2⟩
  have h : Ok X cX6_force RX6 3 0 0 := h
  have hj : ∀ j, j < 3 → j < nLX X := fun j q => by rw [hnL]; exact q
  show G X 0 0 0 [(0, .inr (.inl (some t))), (1, .inl x1)] [] w
  unfold fX6_force at hF
  refine g_iload_n (pc := 0) h 1 rfl dX6_force_0 ?_
  refine g_iconst (pc := 1) (v := (0 : Int32)) h dX6_force_1 (by decide) ?_
  refine g_aload_n (pc := 2) h 0 rfl dX6_force_2 ?_
  refine g_getI (pc := 3) h fdX6_35 (inw ht) (by decide) dX6_force_3 ?_
  refine g_iconst (pc := 6) (v := (1 : Int32)) h dX6_force_6 (by decide) ?_
  refine g_isub (pc := 7) h dX6_force_7 ?_
  refine g_csI (pc := 8) (st := []) h mX6_within csX6_114 (by decide) ⟨by decide, by decide⟩ (Nat.le_of_ble_eq_true rfl) rfl rfl dX6_force_8 hF (fun x_1 w_2 hF => ?_)
  refine g_if_ne (pc := 11) (tgt := 17) h dX6_force_11 (by decide) hF (fun hF => ?_) (fun hF => ?_)
  · refine g_aload_n (pc := 17) h 0 rfl dX6_force_17 ?_
    refine g_getI (pc := 18) h fdX6_38 (inw ht) (by decide) dX6_force_18 ?_
    refine g_t hF (fun x2_3 hF => ?_)
    refine g_istore_n (pc := 21) (lv' := [(2, .inl x2_3), (0, .inr (.inl (some t))), (1, .inl x1)]) h dX6_force_21 (hj 2 (by decide)) rfl ?_
    refine g_aload_n (pc := 22) h 1 rfl dX6_force_22 ?_
    refine g_iload_n (pc := 23) h 2 rfl dX6_force_23 ?_
    refine g_putI (pc := 24) h fdX6_38 (inw ht) (by decide) ⟨rfl, rfl⟩ dX6_force_24 ?_
    refine g_w hF (fun w_4 hF => ?_)
    refine g_iload_n (pc := 27) h 0 rfl dX6_force_27 ?_
    exact g_iret (pc := 28) h hr ⟨Nat.le_refl _, Nat.le_refl _⟩ hF dX6_force_28
  · refine g_bipush (pc := 14) (v := (-2 : Int32)) h dX6_force_14 (by decide) ?_
    exact g_iret (pc := 16) h hr ⟨Nat.le_refl _, Nat.le_refl _⟩ hF dX6_force_16
def fX6_day_17 (t : Nat) : Nat → Int32 → Int32 → Wd → Option (Int32 × Wd)
  | 0 => fun _ _ _ => none
  | n + 1 => fun x1 x2 w =>
    if (gI w t 3) ≤ x2 then
      (lw (sI w t 4 ((gI w t 4) + (1 : Int32))) (fun w_1 => some (x1, w_1)))
    else
      (dr (gR w t 2) 12 w (fun a_2 => grd (vin x2 (ln a_2)) (bnd (fX6_think t (gR w a_2 x2.toNatClampNeg) w) (fun u_3 w_4 => dr (gR w_4 t 9) 4 w_4 (fun a_5 => bnd (fX4_passDay a_5 w_4) (fun x_6 w_7 => bnd (fX6_bit x_6 w_7) (fun x_8 w_9 => lt (x1 + x_8) (fun x1_10 => dr (gR w_9 t 2) 12 w_9 (fun a_11 => grd (vin x2 (ln a_11)) (dr (gR w_9 t 9) 4 w_9 (fun a_12 => dr (gR w_9 a_11 x2.toNatClampNeg) 5 w_9 (fun a_13 => lw (sI w_9 a_13 4 (gI w_9 a_12 4)) (fun w_14 => dr (gR w_14 t 2) 12 w_14 (fun a_15 => grd (vin x2 (ln a_15)) (dr (gR w_14 t 9) 4 w_14 (fun a_16 => dr (gR w_14 a_15 x2.toNatClampNeg) 5 w_14 (fun a_17 => lw (sI w_14 a_17 5 (gI w_14 a_16 5)) (fun w_18 => fX6_day_17 t n x1_10 (x2 + (1 : Int32)) w_18))))))))))))))))))
set_option maxHeartbeats 4000000 in
theorem kX6_day_17 {X : Cx} (h : Ok X cX6_day RX6 9 0 0) (hr : RetI X .int 0 0) (hnL : nLX X = 3) {t : Nat} (ht : InN X t 6) : ∀ (fu : Nat) (x1 : Int32) (x2 : Int32) (w : Wd), OkR X Value.int (fX6_day_17 t fu x1 x2 w) → G X 0 0 17 [(0, .inr (.inl (some t))), (1, .inl x1), (2, .inl x2)] [] w := by
  have hj : ∀ j, j < 3 → j < nLX X := fun j q => by rw [hnL]; exact q
  intro fu
  induction fu with
  | zero => intro x1 x2 w hF; exact okN hF
  | succ fu ih =>
    intro x1 x2 w hF
    rw [fX6_day_17] at hF
    refine g_iload_n (pc := 17) h 2 rfl dX6_day_17 ?_
    refine g_aload_n (pc := 18) h 0 rfl dX6_day_18 ?_
    refine g_getI (pc := 19) h fdX6_22 (inw ht) (by decide) dX6_day_19 ?_
    refine g_icmp_ge (pc := 22) (tgt := 86) h dX6_day_22 (by decide) hF (fun hF => ?_) (fun hF => ?_)
    · refine g_aload_n (pc := 86) h 0 rfl dX6_day_86 ?_
      refine g_dup (pc := 87) h dX6_day_87 rv_cat ?_
      refine g_getI (pc := 88) h fdX6_26 (inw ht) (by decide) dX6_day_88 ?_
      refine g_iconst (pc := 91) (v := (1 : Int32)) h dX6_day_91 (by decide) ?_
      refine g_iadd (pc := 92) h dX6_day_92 ?_
      refine g_putI (pc := 93) h fdX6_26 (inw ht) (by decide) ⟨rfl, rfl⟩ dX6_day_93 ?_
      refine g_w hF (fun w_1 hF => ?_)
      refine g_iload_n (pc := 96) h 1 rfl dX6_day_96 ?_
      exact g_iret (pc := 97) h hr ⟨Nat.le_refl _, Nat.le_refl _⟩ hF dX6_day_97
    · refine g_aload_n (pc := 25) h 0 rfl dX6_day_25 ?_
      refine g_aload_n (pc := 26) h 0 rfl dX6_day_26 ?_
      refine g_getR (pc := 27) h fdX6_18 (inw ht) rfl dX6_day_27 ?_
      refine g_iload_n (pc := 30) h 2 rfl dX6_day_30 ?_
      refine g_dr hF (fun a_2 e_a_2 h_a_2 hF => ?_)
      rw [e_a_2]
      obtain ⟨g_1, hF⟩ := grd_ok hF
      refine g_aald (pc := 31) h (by decide) rfl h_a_2 g_1 dX6_day_31 ?_
      refine g_cvV (pc := 32) (st := []) h mX6_think cvX6_133 (inw ht) (by decide) ⟨by decide, by decide⟩ (Nat.le_of_ble_eq_true rfl) rfl rfl dX6_day_32 hF (fun u_3 w_4 hF => ?_)
      refine g_iload_n (pc := 35) h 1 rfl dX6_day_35 ?_
      refine g_aload_n (pc := 36) h 0 rfl dX6_day_36 ?_
      refine g_getR (pc := 37) h fdX6_98 (inw ht) rfl dX6_day_37 ?_
      refine g_dr hF (fun a_5 e_a_5 h_a_5 hF => ?_)
      rw [e_a_5]
      refine g_cvI (pc := 40) (st := [.int x1]) h mX4_passDay cvX6_166 h_a_5 (by decide) ⟨by decide, by decide⟩ (Nat.le_of_ble_eq_true rfl) rfl rfl dX6_day_40 hF (fun x_6 w_7 hF => ?_)
      refine g_csI (pc := 43) (st := [.int x1]) h mX6_bit csX6_156 (by decide) ⟨by decide, by decide⟩ (Nat.le_of_ble_eq_true rfl) rfl rfl dX6_day_43 hF (fun x_8 w_9 hF => ?_)
      refine g_iadd (pc := 46) h dX6_day_46 ?_
      refine g_t hF (fun x1_10 hF => ?_)
      refine g_istore_n (pc := 47) (lv' := [(1, .inl x1_10), (0, .inr (.inl (some t))), (2, .inl x2)]) h dX6_day_47 (hj 1 (by decide)) rfl ?_
      refine g_aload_n (pc := 48) h 1 rfl dX6_day_48 ?_
      refine g_getR (pc := 49) h fdX6_18 (inw ht) rfl dX6_day_49 ?_
      refine g_iload_n (pc := 52) h 2 rfl dX6_day_52 ?_
      refine g_dr hF (fun a_11 e_a_11 h_a_11 hF => ?_)
      rw [e_a_11]
      obtain ⟨g_2, hF⟩ := grd_ok hF
      refine g_aald (pc := 53) h (by decide) rfl h_a_11 g_2 dX6_day_53 ?_
      refine g_aload_n (pc := 54) h 1 rfl dX6_day_54 ?_
      refine g_getR (pc := 55) h fdX6_98 (inw ht) rfl dX6_day_55 ?_
      refine g_dr hF (fun a_12 e_a_12 h_a_12 hF => ?_)
      rw [e_a_12]
      refine g_getI (pc := 58) h fdX6_169 h_a_12 (by decide) dX6_day_58 ?_
      refine g_dr hF (fun a_13 e_a_13 h_a_13 hF => ?_)
      rw [e_a_13]
      refine g_putI (pc := 61) h fdX6_172 h_a_13 (by decide) ⟨rfl, rfl⟩ dX6_day_61 ?_
      refine g_w hF (fun w_14 hF => ?_)
      refine g_aload_n (pc := 64) h 1 rfl dX6_day_64 ?_
      refine g_getR (pc := 65) h fdX6_18 (inw ht) rfl dX6_day_65 ?_
      refine g_iload_n (pc := 68) h 2 rfl dX6_day_68 ?_
      refine g_dr hF (fun a_15 e_a_15 h_a_15 hF => ?_)
      rw [e_a_15]
      obtain ⟨g_3, hF⟩ := grd_ok hF
      refine g_aald (pc := 69) h (by decide) rfl h_a_15 g_3 dX6_day_69 ?_
      refine g_aload_n (pc := 70) h 1 rfl dX6_day_70 ?_
      refine g_getR (pc := 71) h fdX6_98 (inw ht) rfl dX6_day_71 ?_
      refine g_dr hF (fun a_16 e_a_16 h_a_16 hF => ?_)
      rw [e_a_16]
      refine g_getI (pc := 74) h fdX6_173 h_a_16 (by decide) dX6_day_74 ?_
      refine g_dr hF (fun a_17 e_a_17 h_a_17 hF => ?_)
      rw [e_a_17]
      refine g_putI (pc := 77) h fdX6_176 h_a_17 (by decide) ⟨rfl, rfl⟩ dX6_day_77 ?_
      refine g_w hF (fun w_18 hF => ?_)
      refine g_iinc (pc := 80) (lv' := [(2, .inl (x2 + (1 : Int32))), (1, .inl x1_10), (0, .inr (.inl (some t)))]) h 2 rfl dX6_day_80 (dv := (1 : Int32)) (by decide) (hj 2 (by decide)) rfl ?_
      refine g_goto (pc := 83) (tgt := 17) h dX6_day_83 (by decide) ?_
      refine g_lv (lv' := [(0, .inr (.inl (some t))), (1, .inl x1_10), (2, .inl (x2 + (1 : Int32)))]) [2, 1, 0] rfl ?_
      exact ih _ _ _ hF
def fX6_day (t : Nat) (w : Wd) : Option (Int32 × Wd) :=
  if (gI w t 4) < (999 : Int32) then
    (fX6_day_17 t FU (0 : Int32) (0 : Int32) w)
  else
    (some ((-3 : Int32), w))
set_option maxHeartbeats 4000000 in
theorem mX6_day {Γ : En} {t : Nat} {w : Wd} (ht : t < wn w ∧ kd t = 6) : MtI Γ yX6_day cX6_day 3 (some .int) 9 0 0 [rv Γ (some t)] w (fX6_day t w) := by
  refine mtI [.inr (.inl (some t))] rfl (Nat.le_of_ble_eq_true rfl) (fun X hΓ hnL hn0 h _ hr hF => ?_)
  subst hΓ
  have ht : InN X t 6 := ⟨by rw [hn0]; exact ht.1, ht.2⟩
  have h : Ok X cX6_day RX6 9 0 0 := h
  have hj : ∀ j, j < 3 → j < nLX X := fun j q => by rw [hnL]; exact q
  show G X 0 0 0 [(0, .inr (.inl (some t)))] [] w
  unfold fX6_day at hF
  refine g_aload_n (pc := 0) h 0 rfl dX6_day_0 ?_
  refine g_getI (pc := 1) h fdX6_26 (inw ht) (by decide) dX6_day_1 ?_
  refine g_sipush (pc := 4) (v := (999 : Int32)) h dX6_day_4 (by decide) ?_
  refine g_icmp_lt (pc := 7) (tgt := 13) h dX6_day_7 (by decide) hF (fun hF => ?_) (fun hF => ?_)
  · refine g_iconst (pc := 13) (v := (0 : Int32)) h dX6_day_13 (by decide) ?_
    refine g_istore_n (pc := 14) (lv' := [(1, .inl (0 : Int32)), (0, .inr (.inl (some t)))]) h dX6_day_14 (hj 1 (by decide)) rfl ?_
    refine g_iconst (pc := 15) (v := (0 : Int32)) h dX6_day_15 (by decide) ?_
    refine g_istore_n (pc := 16) (lv' := [(2, .inl (0 : Int32)), (1, .inl (0 : Int32)), (0, .inr (.inl (some t)))]) h dX6_day_16 (hj 2 (by decide)) rfl ?_
    refine g_lv (lv' := [(0, .inr (.inl (some t))), (1, .inl (0 : Int32)), (2, .inl (0 : Int32))]) [2, 1, 0] rfl ?_
    exact kX6_day_17 h hr hnL ht _ _ _ _ hF
  · refine g_bipush (pc := 10) (v := (-3 : Int32)) h dX6_day_10 (by decide) ?_
    exact g_iret (pc := 12) h hr ⟨Nat.le_refl _, Nat.le_refl _⟩ hF dX6_day_12
def fX6_run (t : Nat) (x1 : Int32) (x2 : Int32) (x3 : Int32) (w : Wd) : Option (Int32 × Wd) :=
  bnd (fX6_walkerAt t x1 w) (fun r_1 w_2 => ifn r_1
    (some ((-2 : Int32), w_2))
    (bnd (fX6_isDays x2 w_2) (fun x_3 w_4 => if x_3 = 0 then
      (some ((-2 : Int32), w_4))
    else
      (bnd (fX6_within x3 (0 : Int32) (3 : Int32) w_4) (fun x_5 w_6 => if x_5 = 0 then
        (some ((-2 : Int32), w_6))
      else
        (bnd (fX6_think t r_1 w_6) (fun u_7 w_8 => if x3 = (0 : Int32) then
          (dr (gR w_8 t 9) 4 w_8 (fun a_9 => bnd (fX4_stepBehind a_9 x2 w_8) (fun x_10 w_11 => some (x_10, w_11))))
        else if x3 = (1 : Int32) then
          (dr (gR w_8 t 9) 4 w_8 (fun a_12 => bnd (fX4_firstInSocks a_12 x2 w_8) (fun x_13 w_14 => some (x_13, w_14))))
        else if x3 = (2 : Int32) then
          (dr (gR w_8 t 9) 4 w_8 (fun a_15 => bnd (fX4_firstStay a_15 x2 w_8) (fun x_16 w_17 => some (x_16, w_17))))
        else 
          (dr (gR w_8 t 9) 4 w_8 (fun a_18 => bnd (fX4_wornBehind a_18 x2 w_8) (fun x_19 w_20 => some (x_19, w_20)))))))))))
set_option maxHeartbeats 4000000 in
theorem mX6_run {Γ : En} {t : Nat} {x1 : Int32} {x2 : Int32} {x3 : Int32} {w : Wd} (ht : t < wn w ∧ kd t = 6) : MtI Γ yX6_run cX6_run 5 (some .int) 10 0 0 [rv Γ (some t), .int x1, .int x2, .int x3] w (fX6_run t x1 x2 x3 w) := by
  refine mtI [.inr (.inl (some t)), .inl x1, .inl x2, .inl x3] rfl (Nat.le_of_ble_eq_true rfl) (fun X hΓ hnL hn0 h _ hr hF => ?_)
  subst hΓ
  have ht : InN X t 6 := ⟨by rw [hn0]; exact ht.1, ht.2⟩
  have h : Ok X cX6_run RX6 10 0 0 := h
  have hj : ∀ j, j < 5 → j < nLX X := fun j q => by rw [hnL]; exact q
  show G X 0 0 0 [(0, .inr (.inl (some t))), (1, .inl x1), (2, .inl x2), (3, .inl x3)] [] w
  unfold fX6_run at hF
  refine g_aload_n (pc := 0) h 0 rfl dX6_run_0 ?_
  refine g_iload_n (pc := 1) h 1 rfl dX6_run_1 ?_
  refine g_cvQ (pc := 2) (st := []) h mX6_walkerAt cvX6_129 (inw ht) (by decide) ⟨by decide, by decide⟩ (Nat.le_of_ble_eq_true rfl) rfl rfl dX6_run_2 hF (fun r_1 w_2 hF => ?_)
  refine g_astore (pc := 5) (lv' := [(4, .inr (.inl r_1)), (0, .inr (.inl (some t))), (1, .inl x1), (2, .inl x2), (3, .inl x3)]) h dX6_run_5 (hj 4 (by decide)) rfl ?_
  refine g_aload (pc := 7) h 0 rfl dX6_run_7 ?_
  refine g_ifnull (pc := 9) (tgt := 28) h dX6_run_9 (by decide) hF (fun hF => ?_) (fun hF => ?_)
  · refine g_bipush (pc := 28) (v := (-2 : Int32)) h dX6_run_28 (by decide) ?_
    exact g_iret (pc := 30) h hr ⟨Nat.le_refl _, Nat.le_refl _⟩ hF dX6_run_30
  · refine g_iload_n (pc := 12) h 3 rfl dX6_run_12 ?_
    refine g_csI (pc := 13) (st := []) h mX6_isDays csX6_177 (by decide) ⟨by decide, by decide⟩ (Nat.le_of_ble_eq_true rfl) rfl rfl dX6_run_13 hF (fun x_3 w_4 hF => ?_)
    refine g_if_eq (pc := 16) (tgt := 28) h dX6_run_16 (by decide) hF (fun hF => ?_) (fun hF => ?_)
    · refine g_bipush (pc := 28) (v := (-2 : Int32)) h dX6_run_28 (by decide) ?_
      exact g_iret (pc := 30) h hr ⟨Nat.le_refl _, Nat.le_refl _⟩ hF dX6_run_30
    · refine g_iload_n (pc := 19) h 4 rfl dX6_run_19 ?_
      refine g_iconst (pc := 20) (v := (0 : Int32)) h dX6_run_20 (by decide) ?_
      refine g_iconst (pc := 21) (v := (3 : Int32)) h dX6_run_21 (by decide) ?_
      refine g_csI (pc := 22) (st := []) h mX6_within csX6_114 (by decide) ⟨by decide, by decide⟩ (Nat.le_of_ble_eq_true rfl) rfl rfl dX6_run_22 hF (fun x_5 w_6 hF => ?_)
      refine g_if_ne (pc := 25) (tgt := 31) h dX6_run_25 (by decide) hF (fun hF => ?_) (fun hF => ?_)
      · refine g_aload_n (pc := 31) h 1 rfl dX6_run_31 ?_
        refine g_aload (pc := 32) h 0 rfl dX6_run_32 ?_
        refine g_cvV (pc := 34) (st := []) h mX6_think cvX6_133 (inw ht) (by decide) ⟨by decide, by decide⟩ (Nat.le_of_ble_eq_true rfl) rfl rfl dX6_run_34 hF (fun u_7 w_8 hF => ?_)
        refine g_iload_n (pc := 37) h 4 rfl dX6_run_37 ?_
        refine g_swEq (pc := 38) (off := 26) (tgt := 64) h (0 : Int32) dX6_run_38 (by decide) (by decide) hF (fun hF => ?_) (fun c_0 hF => ?_)
        · refine g_aload_n (pc := 64) h 1 rfl dX6_run_64 ?_
          refine g_getR (pc := 65) h fdX6_98 (inw ht) rfl dX6_run_65 ?_
          refine g_iload_n (pc := 68) h 3 rfl dX6_run_68 ?_
          refine g_dr hF (fun a_9 e_a_9 h_a_9 hF => ?_)
          rw [e_a_9]
          refine g_cvI (pc := 69) (st := []) h mX4_stepBehind cvX6_180 h_a_9 (by decide) ⟨by decide, by decide⟩ (Nat.le_of_ble_eq_true rfl) rfl rfl dX6_run_69 hF (fun x_10 w_11 hF => ?_)
          exact g_iret (pc := 72) h hr ⟨Nat.le_refl _, Nat.le_refl _⟩ hF dX6_run_72
        refine g_swEq (pc := 38) (off := 35) (tgt := 73) h (1 : Int32) dX6_run_38 (by decide) (by decide) hF (fun hF => ?_) (fun c_1 hF => ?_)
        · refine g_aload_n (pc := 73) h 1 rfl dX6_run_73 ?_
          refine g_getR (pc := 74) h fdX6_98 (inw ht) rfl dX6_run_74 ?_
          refine g_iload_n (pc := 77) h 3 rfl dX6_run_77 ?_
          refine g_dr hF (fun a_12 e_a_12 h_a_12 hF => ?_)
          rw [e_a_12]
          refine g_cvI (pc := 78) (st := []) h mX4_firstInSocks cvX6_183 h_a_12 (by decide) ⟨by decide, by decide⟩ (Nat.le_of_ble_eq_true rfl) rfl rfl dX6_run_78 hF (fun x_13 w_14 hF => ?_)
          exact g_iret (pc := 81) h hr ⟨Nat.le_refl _, Nat.le_refl _⟩ hF dX6_run_81
        refine g_swEq (pc := 38) (off := 44) (tgt := 82) h (2 : Int32) dX6_run_38 (by decide) (by decide) hF (fun hF => ?_) (fun c_2 hF => ?_)
        · refine g_aload_n (pc := 82) h 1 rfl dX6_run_82 ?_
          refine g_getR (pc := 83) h fdX6_98 (inw ht) rfl dX6_run_83 ?_
          refine g_iload_n (pc := 86) h 3 rfl dX6_run_86 ?_
          refine g_dr hF (fun a_15 e_a_15 h_a_15 hF => ?_)
          rw [e_a_15]
          refine g_cvI (pc := 87) (st := []) h mX4_firstStay cvX6_186 h_a_15 (by decide) ⟨by decide, by decide⟩ (Nat.le_of_ble_eq_true rfl) rfl rfl dX6_run_87 hF (fun x_16 w_17 hF => ?_)
          exact g_iret (pc := 90) h hr ⟨Nat.le_refl _, Nat.le_refl _⟩ hF dX6_run_90
        refine g_swOut (pc := 38) (tgt := 91) h dX6_run_38 (sw_out (q := 3) (fun j hj9 => ?_)) (by decide) ?_
        · match j, hj9 with
          | 0, _ => exact c_0
          | 1, _ => exact c_1
          | 2, _ => exact c_2
          | j + 3, hj9 => exact absurd hj9 (by omega)
        · refine g_aload_n (pc := 91) h 1 rfl dX6_run_91 ?_
          refine g_getR (pc := 92) h fdX6_98 (inw ht) rfl dX6_run_92 ?_
          refine g_iload_n (pc := 95) h 3 rfl dX6_run_95 ?_
          refine g_dr hF (fun a_18 e_a_18 h_a_18 hF => ?_)
          rw [e_a_18]
          refine g_cvI (pc := 96) (st := []) h mX4_wornBehind cvX6_189 h_a_18 (by decide) ⟨by decide, by decide⟩ (Nat.le_of_ble_eq_true rfl) rfl rfl dX6_run_96 hF (fun x_19 w_20 hF => ?_)
          exact g_iret (pc := 99) h hr ⟨Nat.le_refl _, Nat.le_refl _⟩ hF dX6_run_99
      · refine g_bipush (pc := 28) (v := (-2 : Int32)) h dX6_run_28 (by decide) ?_
        exact g_iret (pc := 30) h hr ⟨Nat.le_refl _, Nat.le_refl _⟩ hF dX6_run_30
def fX6_mend (t : Nat) (x1 : Int32) (w : Wd) : Option (Int32 × Wd) :=
  bnd (fX6_walkerAt t x1 w) (fun r_1 w_2 => ifn r_1
    (some ((-2 : Int32), w_2))
    (dr r_1 5 w_2 (fun a_3 => lt (gI w_2 a_3 5) (fun x3_4 => lw (sI w_2 a_3 5 (0 : Int32)) (fun w_5 => some (x3_4, w_5))))))
set_option maxHeartbeats 4000000 in
theorem mX6_mend {Γ : En} {t : Nat} {x1 : Int32} {w : Wd} (ht : t < wn w ∧ kd t = 6) : MtI Γ yX6_mend cX6_mend 4 (some .int) 3 0 0 [rv Γ (some t), .int x1] w (fX6_mend t x1 w) := by
  refine mtI [.inr (.inl (some t)), .inl x1] rfl (Nat.le_of_ble_eq_true rfl) (fun X hΓ hnL hn0 h _ hr hF => ?_)
  subst hΓ
  have ht : InN X t 6 := ⟨by rw [hn0]; exact ht.1, ht.2⟩
  have h : Ok X cX6_mend RX6 3 0 0 := h
  have hj : ∀ j, j < 4 → j < nLX X := fun j q => by rw [hnL]; exact q
  show G X 0 0 0 [(0, .inr (.inl (some t))), (1, .inl x1)] [] w
  unfold fX6_mend at hF
  refine g_aload_n (pc := 0) h 0 rfl dX6_mend_0 ?_
  refine g_iload_n (pc := 1) h 1 rfl dX6_mend_1 ?_
  refine g_cvQ (pc := 2) (st := []) h mX6_walkerAt cvX6_129 (inw ht) (by decide) ⟨by decide, by decide⟩ (Nat.le_of_ble_eq_true rfl) rfl rfl dX6_mend_2 hF (fun r_1 w_2 hF => ?_)
  refine g_astore_n (pc := 5) (lv' := [(2, .inr (.inl r_1)), (0, .inr (.inl (some t))), (1, .inl x1)]) h dX6_mend_5 (hj 2 (by decide)) rfl ?_
  refine g_aload_n (pc := 6) h 0 rfl dX6_mend_6 ?_
  refine g_ifnonnull (pc := 7) (tgt := 13) h dX6_mend_7 (by decide) hF (fun hF => ?_) (fun hF => ?_)
  · refine g_aload_n (pc := 13) h 0 rfl dX6_mend_13 ?_
    refine g_dr hF (fun a_3 e_a_3 h_a_3 hF => ?_)
    rw [e_a_3]
    refine g_getI (pc := 14) h fdX6_176 h_a_3 (by decide) dX6_mend_14 ?_
    refine g_t hF (fun x3_4 hF => ?_)
    refine g_istore_n (pc := 17) (lv' := [(3, .inl x3_4), (2, .inr (.inl (some a_3))), (0, .inr (.inl (some t))), (1, .inl x1)]) h dX6_mend_17 (hj 3 (by decide)) rfl ?_
    refine g_aload_n (pc := 18) h 1 rfl dX6_mend_18 ?_
    refine g_iconst (pc := 19) (v := (0 : Int32)) h dX6_mend_19 (by decide) ?_
    refine g_putI (pc := 20) h fdX6_176 h_a_3 (by decide) ⟨rfl, rfl⟩ dX6_mend_20 ?_
    refine g_w hF (fun w_5 hF => ?_)
    refine g_iload_n (pc := 23) h 0 rfl dX6_mend_23 ?_
    exact g_iret (pc := 24) h hr ⟨Nat.le_refl _, Nat.le_refl _⟩ hF dX6_mend_24
  · refine g_bipush (pc := 10) (v := (-2 : Int32)) h dX6_mend_10 (by decide) ?_
    exact g_iret (pc := 12) h hr ⟨Nat.le_refl _, Nat.le_refl _⟩ hF dX6_mend_12
def fX6_forgetSteps (t : Nat) (w : Wd) : Option (Unit × Wd) :=
  bnd (fJ7_fill_53178 (gR w t 10) (-1 : Int32) w) (fun u_1 w_2 => some ((), w_2))
set_option maxHeartbeats 4000000 in
theorem mX6_forgetSteps {Γ : En} {t : Nat} {w : Wd} (ht : t < wn w ∧ kd t = 6) : MtV Γ yX6_forgetSteps cX6_forgetSteps 1 none 3 0 0 [rv Γ (some t)] w (fX6_forgetSteps t w) := by
  refine mtV [.inr (.inl (some t))] rfl (Nat.le_of_ble_eq_true rfl) (fun X hΓ hnL hn0 h _ hr hF => ?_)
  subst hΓ
  have ht : InN X t 6 := ⟨by rw [hn0]; exact ht.1, ht.2⟩
  have h : Ok X cX6_forgetSteps RX6 3 0 0 := h
  have hj : ∀ j, j < 1 → j < nLX X := fun j q => by rw [hnL]; exact q
  show G X 0 0 0 [(0, .inr (.inl (some t)))] [] w
  unfold fX6_forgetSteps at hF
  refine g_aload_n (pc := 0) h 0 rfl dX6_forgetSteps_0 ?_
  refine g_getR (pc := 1) h fdX6_48 (inw ht) rfl dX6_forgetSteps_1 ?_
  refine g_iconst (pc := 4) (v := (-1 : Int32)) h dX6_forgetSteps_4 (by decide) ?_
  refine g_csV (pc := 5) (st := []) h mJ7_fill_53178 csX6_64 (by decide) ⟨by decide, by decide⟩ (Nat.le_of_ble_eq_true rfl) rfl rfl dX6_forgetSteps_5 hF (fun u_1 w_2 hF => ?_)
  exact g_vret (pc := 8) h hr ⟨Nat.le_refl _, Nat.le_refl _⟩ hF dX6_forgetSteps_8
def fX6_stepIfTold_30 (t : Nat) (x3 : Int32) (w : Wd) : Option (Int32 × Wd) :=
  dr (gR w t 9) 4 w (fun a_12 => bnd (fX4_stepBehind a_12 x3 w) (fun x_13 w_14 => some (x_13, w_14)))
set_option maxHeartbeats 4000000 in
theorem kX6_stepIfTold_30 {X : Cx} (h : Ok X cX6_stepIfTold RX6 10 0 0) (hr : RetI X .int 0 0) (hnL : nLX X = 5) {t : Nat} (ht : InN X t 6) : ∀ (x3 : Int32) (w : Wd), OkR X Value.int (fX6_stepIfTold_30 t x3 w) → G X 0 0 30 [(0, .inr (.inl (some t))), (3, .inl x3)] [] w := by
  have hj : ∀ j, j < 5 → j < nLX X := fun j q => by rw [hnL]; exact q
  intro x3 w hF
  unfold fX6_stepIfTold_30 at hF
  refine g_aload_n (pc := 30) h 0 rfl dX6_stepIfTold_30 ?_
  refine g_getR (pc := 31) h fdX6_98 (inw ht) rfl dX6_stepIfTold_31 ?_
  refine g_iload_n (pc := 34) h 1 rfl dX6_stepIfTold_34 ?_
  refine g_dr hF (fun a_12 e_a_12 h_a_12 hF => ?_)
  rw [e_a_12]
  refine g_cvI (pc := 35) (st := []) h mX4_stepBehind cvX6_180 h_a_12 (by decide) ⟨by decide, by decide⟩ (Nat.le_of_ble_eq_true rfl) rfl rfl dX6_stepIfTold_35 hF (fun x_13 w_14 hF => ?_)
  exact g_iret (pc := 38) h hr ⟨Nat.le_refl _, Nat.le_refl _⟩ hF dX6_stepIfTold_38
def fX6_stepIfTold_65 (t : Nat) (x4 : Int32) (w : Wd) : Option (Int32 × Wd) :=
  dr (gR w t 10) 8 w (fun a_15 => grd (vin x4 (ln a_15)) (some (gI w a_15 x4.toNatClampNeg, w)))
set_option maxHeartbeats 4000000 in
theorem kX6_stepIfTold_65 {X : Cx} (h : Ok X cX6_stepIfTold RX6 10 0 0) (hr : RetI X .int 0 0) (hnL : nLX X = 5) {t : Nat} (ht : InN X t 6) : ∀ (x4 : Int32) (w : Wd), OkR X Value.int (fX6_stepIfTold_65 t x4 w) → G X 0 0 65 [(0, .inr (.inl (some t))), (4, .inl x4)] [] w := by
  have hj : ∀ j, j < 5 → j < nLX X := fun j q => by rw [hnL]; exact q
  intro x4 w hF
  unfold fX6_stepIfTold_65 at hF
  refine g_aload_n (pc := 65) h 0 rfl dX6_stepIfTold_65 ?_
  refine g_getR (pc := 66) h fdX6_48 (inw ht) rfl dX6_stepIfTold_66 ?_
  refine g_iload (pc := 69) h 1 rfl dX6_stepIfTold_69 ?_
  refine g_dr hF (fun a_15 e_a_15 h_a_15 hF => ?_)
  rw [e_a_15]
  obtain ⟨g_3, hF⟩ := grd_ok hF
  refine g_iald (pc := 71) h h_a_15 g_3 dX6_stepIfTold_71 ?_
  exact g_iret (pc := 72) h hr ⟨Nat.le_refl _, Nat.le_refl _⟩ hF dX6_stepIfTold_72
def fX6_stepIfTold (t : Nat) (r1 : Option Nat) (x2 : Int32) (x3 : Int32) (w : Wd) : Option (Int32 × Wd) :=
  bnd (fX6_thinkTold t r1 x2 w) (fun u_1 w_2 => dr (gR w_2 t 9) 4 w_2 (fun a_3 => lt (gI w_2 a_3 2) (fun x4_4 => if x4_4 < 0 then
    (fX6_stepIfTold_30 t x3 w_2)
  else
    (dr (gR w_2 t 10) 8 w_2 (fun a_5 => if x4_4 < (Int32.ofNat (ln a_5)) then
      (dr (gR w_2 t 10) 8 w_2 (fun a_6 => grd (vin x4_4 (ln a_6)) (if (gI w_2 a_6 x4_4.toNatClampNeg) = (-1 : Int32) then
        (dr (gR w_2 t 9) 4 w_2 (fun a_7 => bnd (fX4_stepBehind a_7 x3 w_2) (fun x_8 w_9 => dr (gR w_2 t 10) 8 w_9 (fun a_10 => grd (vin x4_4 (ln a_10)) (lw (sI w_9 a_10 x4_4.toNatClampNeg x_8) (fun w_11 => fX6_stepIfTold_65 t x4_4 w_11))))))
      else
        (fX6_stepIfTold_65 t x4_4 w_2))))
    else
      (fX6_stepIfTold_30 t x3 w_2))))))
set_option maxHeartbeats 4000000 in
theorem mX6_stepIfTold {Γ : En} {t : Nat} {r1 : Option Nat} {x2 : Int32} {x3 : Int32} {w : Wd} (ht : t < wn w ∧ kd t = 6) : MtI Γ yX6_stepIfTold cX6_stepIfTold 5 (some .int) 10 0 0 [rv Γ (some t), rv Γ r1, .int x2, .int x3] w (fX6_stepIfTold t r1 x2 x3 w) := by
  refine mtI [.inr (.inl (some t)), .inr (.inl r1), .inl x2, .inl x3] rfl (Nat.le_of_ble_eq_true rfl) (fun X hΓ hnL hn0 h _ hr hF => ?_)
  subst hΓ
  have ht : InN X t 6 := ⟨by rw [hn0]; exact ht.1, ht.2⟩
  have h : Ok X cX6_stepIfTold RX6 10 0 0 := h
  have hj : ∀ j, j < 5 → j < nLX X := fun j q => by rw [hnL]; exact q
  show G X 0 0 0 [(0, .inr (.inl (some t))), (1, .inr (.inl r1)), (2, .inl x2), (3, .inl x3)] [] w
  unfold fX6_stepIfTold at hF
  refine g_aload_n (pc := 0) h 0 rfl dX6_stepIfTold_0 ?_
  refine g_aload_n (pc := 1) h 1 rfl dX6_stepIfTold_1 ?_
  refine g_iload_n (pc := 2) h 2 rfl dX6_stepIfTold_2 ?_
  refine g_cvV (pc := 3) (st := []) h mX6_thinkTold cvX6_226 (inw ht) (by decide) ⟨by decide, by decide⟩ (Nat.le_of_ble_eq_true rfl) rfl rfl dX6_stepIfTold_3 hF (fun u_1 w_2 hF => ?_)
  refine g_aload_n (pc := 6) h 0 rfl dX6_stepIfTold_6 ?_
  refine g_getR (pc := 7) h fdX6_98 (inw ht) rfl dX6_stepIfTold_7 ?_
  refine g_dr hF (fun a_3 e_a_3 h_a_3 hF => ?_)
  rw [e_a_3]
  refine g_getI (pc := 10) h fdX6_140 h_a_3 (by decide) dX6_stepIfTold_10 ?_
  refine g_t hF (fun x4_4 hF => ?_)
  refine g_istore (pc := 13) (lv' := [(4, .inl x4_4), (0, .inr (.inl (some t))), (1, .inr (.inl r1)), (2, .inl x2), (3, .inl x3)]) h dX6_stepIfTold_13 (hj 4 (by decide)) rfl ?_
  refine g_iload (pc := 15) h 0 rfl dX6_stepIfTold_15 ?_
  refine g_if_lt (pc := 17) (tgt := 30) h dX6_stepIfTold_17 (by decide) hF (fun hF => ?_) (fun hF => ?_)
  · refine g_lv (lv' := [(0, .inr (.inl (some t))), (3, .inl x3)]) [1, 4] rfl ?_
    exact kX6_stepIfTold_30 h hr hnL ht _ _ hF
  · refine g_iload (pc := 20) h 0 rfl dX6_stepIfTold_20 ?_
    refine g_aload_n (pc := 22) h 1 rfl dX6_stepIfTold_22 ?_
    refine g_getR (pc := 23) h fdX6_48 (inw ht) rfl dX6_stepIfTold_23 ?_
    refine g_dr hF (fun a_5 e_a_5 h_a_5 hF => ?_)
    rw [e_a_5]
    refine g_alen (pc := 26) h h_a_5 rfl dX6_stepIfTold_26 ?_
    refine g_icmp_lt (pc := 27) (tgt := 39) h dX6_stepIfTold_27 (by decide) hF (fun hF => ?_) (fun hF => ?_)
    · refine g_aload_n (pc := 39) h 1 rfl dX6_stepIfTold_39 ?_
      refine g_getR (pc := 40) h fdX6_48 (inw ht) rfl dX6_stepIfTold_40 ?_
      refine g_iload (pc := 43) h 0 rfl dX6_stepIfTold_43 ?_
      refine g_dr hF (fun a_6 e_a_6 h_a_6 hF => ?_)
      rw [e_a_6]
      obtain ⟨g_1, hF⟩ := grd_ok hF
      refine g_iald (pc := 45) h h_a_6 g_1 dX6_stepIfTold_45 ?_
      refine g_iconst (pc := 46) (v := (-1 : Int32)) h dX6_stepIfTold_46 (by decide) ?_
      refine g_icmp_ne (pc := 47) (tgt := 65) h dX6_stepIfTold_47 (by decide) hF (fun hF => ?_) (fun hF => ?_)
      · refine g_lv (lv' := [(0, .inr (.inl (some t))), (4, .inl x4_4)]) [1, 0] rfl ?_
        exact kX6_stepIfTold_65 h hr hnL ht _ _ hF
      · refine g_aload_n (pc := 50) h 1 rfl dX6_stepIfTold_50 ?_
        refine g_getR (pc := 51) h fdX6_48 (inw ht) rfl dX6_stepIfTold_51 ?_
        refine g_iload (pc := 54) h 0 rfl dX6_stepIfTold_54 ?_
        refine g_aload_n (pc := 56) h 1 rfl dX6_stepIfTold_56 ?_
        refine g_getR (pc := 57) h fdX6_98 (inw ht) rfl dX6_stepIfTold_57 ?_
        refine g_iload_n (pc := 60) h 4 rfl dX6_stepIfTold_60 ?_
        refine g_dr hF (fun a_7 e_a_7 h_a_7 hF => ?_)
        rw [e_a_7]
        refine g_cvI (pc := 61) (st := [.int x4_4, rv X.1 (gR w_2 t 10)]) h mX4_stepBehind cvX6_180 h_a_7 (by decide) ⟨by decide, by decide⟩ (cat_le4 _ (Nat.le_of_ble_eq_true rfl)) rfl rfl dX6_stepIfTold_61 hF (fun x_8 w_9 hF => ?_)
        refine g_dr hF (fun a_10 e_a_10 h_a_10 hF => ?_)
        rw [e_a_10]
        obtain ⟨g_2, hF⟩ := grd_ok hF
        refine g_iast (pc := 64) h h_a_10 g_2 dX6_stepIfTold_64 ?_
        refine g_w hF (fun w_11 hF => ?_)
        refine g_lv (lv' := [(0, .inr (.inl (some t))), (4, .inl x4_4)]) [1, 0] rfl ?_
        exact kX6_stepIfTold_65 h hr hnL ht _ _ hF
    · refine g_lv (lv' := [(0, .inr (.inl (some t))), (3, .inl x3)]) [1, 4] rfl ?_
      exact kX6_stepIfTold_30 h hr hnL ht _ _ hF
def fX6_far_121 (k47 : Int32 → Int32 → Option Nat → Int32 → Int32 → Int32 → Int32 → Wd → Option (Int32 × Wd)) (t : Nat) (x2 : Int32) (x3 : Int32) (r4 : Option Nat) (x5 : Int32) (x6 : Int32) (x7 : Int32) (x8 : Int32) (w : Wd) : Option (Int32 × Wd) :=
  k47 x2 x3 r4 x5 x6 x7 (x8 + (1 : Int32)) w
set_option maxHeartbeats 4000000 in
theorem kX6_far_121 {X : Cx} (h : Ok X cX6_far RX6 11 0 0) (hr : RetI X .int 0 0) (hnL : nLX X = 11) {t : Nat} (ht : InN X t 6) {k47 : Int32 → Int32 → Option Nat → Int32 → Int32 → Int32 → Int32 → Wd → Option (Int32 × Wd)} (hk47 : ∀ (x2 : Int32) (x3 : Int32) (r4 : Option Nat) (x5 : Int32) (x6 : Int32) (x7 : Int32) (x8 : Int32) (w : Wd), OkR X Value.int (k47 x2 x3 r4 x5 x6 x7 x8 w) → G X 0 0 47 [(0, .inr (.inl (some t))), (2, .inl x2), (3, .inl x3), (4, .inr (.inl r4)), (5, .inl x5), (6, .inl x6), (7, .inl x7), (8, .inl x8)] [] w) : ∀ (x2 : Int32) (x3 : Int32) (r4 : Option Nat) (x5 : Int32) (x6 : Int32) (x7 : Int32) (x8 : Int32) (w : Wd), OkR X Value.int (fX6_far_121 k47 t x2 x3 r4 x5 x6 x7 x8 w) → G X 0 0 121 [(0, .inr (.inl (some t))), (2, .inl x2), (3, .inl x3), (4, .inr (.inl r4)), (5, .inl x5), (6, .inl x6), (7, .inl x7), (8, .inl x8)] [] w := by
  have hj : ∀ j, j < 11 → j < nLX X := fun j q => by rw [hnL]; exact q
  intro x2 x3 r4 x5 x6 x7 x8 w hF
  unfold fX6_far_121 at hF
  refine g_iinc (pc := 121) (lv' := [(8, .inl (x8 + (1 : Int32))), (0, .inr (.inl (some t))), (2, .inl x2), (3, .inl x3), (4, .inr (.inl r4)), (5, .inl x5), (6, .inl x6), (7, .inl x7)]) h 7 rfl dX6_far_121 (dv := (1 : Int32)) (by decide) (hj 8 (by decide)) rfl ?_
  refine g_goto (pc := 124) (tgt := 47) h dX6_far_124 (by decide) ?_
  refine g_lv (lv' := [(0, .inr (.inl (some t))), (2, .inl x2), (3, .inl x3), (4, .inr (.inl r4)), (5, .inl x5), (6, .inl x6), (7, .inl x7), (8, .inl (x8 + (1 : Int32)))]) [1, 2, 3, 4, 5, 6, 7, 0] rfl ?_
  exact hk47 _ _ _ _ _ _ _ _ hF
def fX6_far_109 (k47 : Int32 → Int32 → Option Nat → Int32 → Int32 → Int32 → Int32 → Wd → Option (Int32 × Wd)) (t : Nat) (x2 : Int32) (x3 : Int32) (r4 : Option Nat) (x8 : Int32) (x9 : Int32) (x10 : Int32) (w : Wd) : Option (Int32 × Wd) :=
  fX6_far_121 k47 t x2 x3 r4 x8 x9 x10 x8 w
set_option maxHeartbeats 4000000 in
theorem kX6_far_109 {X : Cx} (h : Ok X cX6_far RX6 11 0 0) (hr : RetI X .int 0 0) (hnL : nLX X = 11) {t : Nat} (ht : InN X t 6) {k47 : Int32 → Int32 → Option Nat → Int32 → Int32 → Int32 → Int32 → Wd → Option (Int32 × Wd)} (hk47 : ∀ (x2 : Int32) (x3 : Int32) (r4 : Option Nat) (x5 : Int32) (x6 : Int32) (x7 : Int32) (x8 : Int32) (w : Wd), OkR X Value.int (k47 x2 x3 r4 x5 x6 x7 x8 w) → G X 0 0 47 [(0, .inr (.inl (some t))), (2, .inl x2), (3, .inl x3), (4, .inr (.inl r4)), (5, .inl x5), (6, .inl x6), (7, .inl x7), (8, .inl x8)] [] w) : ∀ (x2 : Int32) (x3 : Int32) (r4 : Option Nat) (x8 : Int32) (x9 : Int32) (x10 : Int32) (w : Wd), OkR X Value.int (fX6_far_109 k47 t x2 x3 r4 x8 x9 x10 w) → G X 0 0 109 [(0, .inr (.inl (some t))), (2, .inl x2), (3, .inl x3), (4, .inr (.inl r4)), (8, .inl x8), (9, .inl x9), (10, .inl x10)] [] w := by
  have hj : ∀ j, j < 11 → j < nLX X := fun j q => by rw [hnL]; exact q
  intro x2 x3 r4 x8 x9 x10 w hF
  unfold fX6_far_109 at hF
  refine g_iload (pc := 109) h 4 rfl dX6_far_109 ?_
  refine g_istore (pc := 111) (lv' := [(5, .inl x8), (0, .inr (.inl (some t))), (2, .inl x2), (3, .inl x3), (4, .inr (.inl r4)), (8, .inl x8), (9, .inl x9), (10, .inl x10)]) h dX6_far_111 (hj 5 (by decide)) rfl ?_
  refine g_iload (pc := 113) h 6 rfl dX6_far_113 ?_
  refine g_istore (pc := 115) (lv' := [(6, .inl x9), (5, .inl x8), (0, .inr (.inl (some t))), (2, .inl x2), (3, .inl x3), (4, .inr (.inl r4)), (8, .inl x8), (9, .inl x9), (10, .inl x10)]) h dX6_far_115 (hj 6 (by decide)) rfl ?_
  refine g_iload (pc := 117) h 8 rfl dX6_far_117 ?_
  refine g_istore (pc := 119) (lv' := [(7, .inl x10), (6, .inl x9), (5, .inl x8), (0, .inr (.inl (some t))), (2, .inl x2), (3, .inl x3), (4, .inr (.inl r4)), (8, .inl x8), (9, .inl x9), (10, .inl x10)]) h dX6_far_119 (hj 7 (by decide)) rfl ?_
  refine g_lv (lv' := [(0, .inr (.inl (some t))), (2, .inl x2), (3, .inl x3), (4, .inr (.inl r4)), (5, .inl x8), (6, .inl x9), (7, .inl x10), (8, .inl x8)]) [3, 4, 5, 6, 2, 1, 0, 7] rfl ?_
  exact kX6_far_121 h hr hnL ht hk47 _ _ _ _ _ _ _ _ hF
def fX6_far_47 (t : Nat) : Nat → Int32 → Int32 → Option Nat → Int32 → Int32 → Int32 → Int32 → Wd → Option (Int32 × Wd)
  | 0 => fun _ _ _ _ _ _ _ _ => none
  | n + 1 => fun x2 x3 r4 x5 x6 x7 x8 w =>
    if (256 : Int32) ≤ x8 then
      (if x3 = 0 then
        (some (x5, w))
      else
        (some (x6, w)))
    else
      (dr r4 5 w (fun a_9 => bnd (fX6_isPart x8 (gI w a_9 2) w) (fun x_10 w_11 => if x_10 = 0 then
        (fX6_far_121 (fX6_far_47 t n) t x2 x3 (some a_9) x5 x6 x7 x8 w_11)
      else
        (bnd (fX6_stepIfTold t (some a_9) x8 x2 w_11) (fun x_12 w_13 => dr (gR w_13 t 9) 4 w_13 (fun a_14 => lt (gI w_13 a_14 2) (fun x10_15 => if x6 < x_12 then
          (fX6_far_109 (fX6_far_47 t n) t x2 x3 (some a_9) x8 x_12 x10_15 w_13)
        else
          (if x_12 = x6 then
            (if x7 ≤ x10_15 then
              (fX6_far_121 (fX6_far_47 t n) t x2 x3 (some a_9) x5 x6 x7 x8 w_13)
            else
              (fX6_far_109 (fX6_far_47 t n) t x2 x3 (some a_9) x8 x_12 x10_15 w_13))
          else
            (fX6_far_121 (fX6_far_47 t n) t x2 x3 (some a_9) x5 x6 x7 x8 w_13)))))))))
set_option maxHeartbeats 4000000 in
theorem kX6_far_47 {X : Cx} (h : Ok X cX6_far RX6 11 0 0) (hr : RetI X .int 0 0) (hnL : nLX X = 11) {t : Nat} (ht : InN X t 6) : ∀ (fu : Nat) (x2 : Int32) (x3 : Int32) (r4 : Option Nat) (x5 : Int32) (x6 : Int32) (x7 : Int32) (x8 : Int32) (w : Wd), OkR X Value.int (fX6_far_47 t fu x2 x3 r4 x5 x6 x7 x8 w) → G X 0 0 47 [(0, .inr (.inl (some t))), (2, .inl x2), (3, .inl x3), (4, .inr (.inl r4)), (5, .inl x5), (6, .inl x6), (7, .inl x7), (8, .inl x8)] [] w := by
  have hj : ∀ j, j < 11 → j < nLX X := fun j q => by rw [hnL]; exact q
  intro fu
  induction fu with
  | zero => intro x2 x3 r4 x5 x6 x7 x8 w hF; exact okN hF
  | succ fu ih =>
    intro x2 x3 r4 x5 x6 x7 x8 w hF
    rw [fX6_far_47] at hF
    refine g_iload (pc := 47) h 7 rfl dX6_far_47 ?_
    refine g_sipush (pc := 49) (v := (256 : Int32)) h dX6_far_49 (by decide) ?_
    refine g_icmp_ge (pc := 52) (tgt := 127) h dX6_far_52 (by decide) hF (fun hF => ?_) (fun hF => ?_)
    · refine g_iload_n (pc := 127) h 2 rfl dX6_far_127 ?_
      refine g_if_ne (pc := 128) (tgt := 136) h dX6_far_128 (by decide) hF (fun hF => ?_) (fun hF => ?_)
      · refine g_iload (pc := 136) h 5 rfl dX6_far_136 ?_
        exact g_iret (pc := 138) h hr ⟨Nat.le_refl _, Nat.le_refl _⟩ hF dX6_far_138
      · refine g_iload (pc := 131) h 4 rfl dX6_far_131 ?_
        refine g_goto (pc := 133) (tgt := 138) h dX6_far_133 (by decide) ?_
        exact g_iret (pc := 138) h hr ⟨Nat.le_refl _, Nat.le_refl _⟩ hF dX6_far_138
    · refine g_iload (pc := 55) h 7 rfl dX6_far_55 ?_
      refine g_aload (pc := 57) h 3 rfl dX6_far_57 ?_
      refine g_dr hF (fun a_9 e_a_9 h_a_9 hF => ?_)
      rw [e_a_9]
      refine g_getI (pc := 59) h fdX6_195 h_a_9 (by decide) dX6_far_59 ?_
      refine g_csI (pc := 62) (st := []) h mX6_isPart csX6_198 (by decide) ⟨by decide, by decide⟩ (Nat.le_of_ble_eq_true rfl) rfl rfl dX6_far_62 hF (fun x_10 w_11 hF => ?_)
      refine g_if_eq (pc := 65) (tgt := 121) h dX6_far_65 (by decide) hF (fun hF => ?_) (fun hF => ?_)
      · exact kX6_far_121 h hr hnL ht (fun z0 z1 z2 z3 z4 z5 z6 z7 hF => ih z0 z1 z2 z3 z4 z5 z6 z7 hF) _ _ _ _ _ _ _ _ hF
      · refine g_aload_n (pc := 68) h 0 rfl dX6_far_68 ?_
        refine g_aload (pc := 69) h 3 rfl dX6_far_69 ?_
        refine g_iload (pc := 71) h 7 rfl dX6_far_71 ?_
        refine g_iload_n (pc := 73) h 1 rfl dX6_far_73 ?_
        refine g_cvI (pc := 74) (st := []) h mX6_stepIfTold cvX6_201 (inw ht) (by decide) ⟨by decide, by decide⟩ (Nat.le_of_ble_eq_true rfl) rfl rfl dX6_far_74 hF (fun x_12 w_13 hF => ?_)
        refine g_istore (pc := 77) (lv' := [(9, .inl x_12), (0, .inr (.inl (some t))), (2, .inl x2), (3, .inl x3), (4, .inr (.inl (some a_9))), (5, .inl x5), (6, .inl x6), (7, .inl x7), (8, .inl x8)]) h dX6_far_77 (hj 9 (by decide)) rfl ?_
        refine g_aload_n (pc := 79) h 1 rfl dX6_far_79 ?_
        refine g_getR (pc := 80) h fdX6_98 (inw ht) rfl dX6_far_80 ?_
        refine g_dr hF (fun a_14 e_a_14 h_a_14 hF => ?_)
        rw [e_a_14]
        refine g_getI (pc := 83) h fdX6_140 h_a_14 (by decide) dX6_far_83 ?_
        refine g_t hF (fun x10_15 hF => ?_)
        refine g_istore (pc := 86) (lv' := [(10, .inl x10_15), (9, .inl x_12), (0, .inr (.inl (some t))), (2, .inl x2), (3, .inl x3), (4, .inr (.inl (some a_9))), (5, .inl x5), (6, .inl x6), (7, .inl x7), (8, .inl x8)]) h dX6_far_86 (hj 10 (by decide)) rfl ?_
        refine g_iload (pc := 88) h 1 rfl dX6_far_88 ?_
        refine g_iload (pc := 90) h 7 rfl dX6_far_90 ?_
        refine g_icmp_gt (pc := 92) (tgt := 109) h dX6_far_92 (by decide) hF (fun hF => ?_) (fun hF => ?_)
        · refine g_lv (lv' := [(0, .inr (.inl (some t))), (2, .inl x2), (3, .inl x3), (4, .inr (.inl (some a_9))), (8, .inl x8), (9, .inl x_12), (10, .inl x10_15)]) [2, 3, 4, 5, 9, 1, 0] rfl ?_
          exact kX6_far_109 h hr hnL ht (fun z0 z1 z2 z3 z4 z5 z6 z7 hF => ih z0 z1 z2 z3 z4 z5 z6 z7 hF) _ _ _ _ _ _ _ hF
        · refine g_iload (pc := 95) h 1 rfl dX6_far_95 ?_
          refine g_iload (pc := 97) h 7 rfl dX6_far_97 ?_
          refine g_icmp_ne (pc := 99) (tgt := 121) h dX6_far_99 (by decide) hF (fun hF => ?_) (fun hF => ?_)
          · refine g_lv (lv' := [(0, .inr (.inl (some t))), (2, .inl x2), (3, .inl x3), (4, .inr (.inl (some a_9))), (5, .inl x5), (6, .inl x6), (7, .inl x7), (8, .inl x8)]) [2, 3, 4, 5, 6, 7, 8, 9] rfl ?_
            exact kX6_far_121 h hr hnL ht (fun z0 z1 z2 z3 z4 z5 z6 z7 hF => ih z0 z1 z2 z3 z4 z5 z6 z7 hF) _ _ _ _ _ _ _ _ hF
          · refine g_iload (pc := 102) h 0 rfl dX6_far_102 ?_
            refine g_iload (pc := 104) h 8 rfl dX6_far_104 ?_
            refine g_icmp_ge (pc := 106) (tgt := 121) h dX6_far_106 (by decide) hF (fun hF => ?_) (fun hF => ?_)
            · refine g_lv (lv' := [(0, .inr (.inl (some t))), (2, .inl x2), (3, .inl x3), (4, .inr (.inl (some a_9))), (5, .inl x5), (6, .inl x6), (7, .inl x7), (8, .inl x8)]) [2, 3, 4, 5, 6, 7, 8, 9] rfl ?_
              exact kX6_far_121 h hr hnL ht (fun z0 z1 z2 z3 z4 z5 z6 z7 hF => ih z0 z1 z2 z3 z4 z5 z6 z7 hF) _ _ _ _ _ _ _ _ hF
            · refine g_lv (lv' := [(0, .inr (.inl (some t))), (2, .inl x2), (3, .inl x3), (4, .inr (.inl (some a_9))), (8, .inl x8), (9, .inl x_12), (10, .inl x10_15)]) [2, 3, 4, 5, 9, 1, 0] rfl ?_
              exact kX6_far_109 h hr hnL ht (fun z0 z1 z2 z3 z4 z5 z6 z7 hF => ih z0 z1 z2 z3 z4 z5 z6 z7 hF) _ _ _ _ _ _ _ hF
def fX6_far (t : Nat) (x1 : Int32) (x2 : Int32) (x3 : Int32) (w : Wd) : Option (Int32 × Wd) :=
  bnd (fX6_walkerAt t x1 w) (fun r_1 w_2 => ifn r_1
    (some ((-2 : Int32), w_2))
    (bnd (fX6_isDays x2 w_2) (fun x_3 w_4 => if x_3 = 0 then
      (some ((-2 : Int32), w_4))
    else
      (bnd (fX6_within x3 (0 : Int32) (1 : Int32) w_4) (fun x_5 w_6 => if x_5 = 0 then
        (some ((-2 : Int32), w_6))
      else
        (bnd (fX6_forgetSteps t w_6) (fun u_7 w_8 => fX6_far_47 t FU x2 x3 r_1 (0 : Int32) (-1 : Int32) (0 : Int32) (0 : Int32) w_8)))))))
set_option maxHeartbeats 4000000 in
theorem mX6_far {Γ : En} {t : Nat} {x1 : Int32} {x2 : Int32} {x3 : Int32} {w : Wd} (ht : t < wn w ∧ kd t = 6) : MtI Γ yX6_far cX6_far 11 (some .int) 11 0 0 [rv Γ (some t), .int x1, .int x2, .int x3] w (fX6_far t x1 x2 x3 w) := by
  refine mtI [.inr (.inl (some t)), .inl x1, .inl x2, .inl x3] rfl (Nat.le_of_ble_eq_true rfl) (fun X hΓ hnL hn0 h _ hr hF => ?_)
  subst hΓ
  have ht : InN X t 6 := ⟨by rw [hn0]; exact ht.1, ht.2⟩
  have h : Ok X cX6_far RX6 11 0 0 := h
  have hj : ∀ j, j < 11 → j < nLX X := fun j q => by rw [hnL]; exact q
  show G X 0 0 0 [(0, .inr (.inl (some t))), (1, .inl x1), (2, .inl x2), (3, .inl x3)] [] w
  unfold fX6_far at hF
  refine g_aload_n (pc := 0) h 0 rfl dX6_far_0 ?_
  refine g_iload_n (pc := 1) h 1 rfl dX6_far_1 ?_
  refine g_cvQ (pc := 2) (st := []) h mX6_walkerAt cvX6_129 (inw ht) (by decide) ⟨by decide, by decide⟩ (Nat.le_of_ble_eq_true rfl) rfl rfl dX6_far_2 hF (fun r_1 w_2 hF => ?_)
  refine g_astore (pc := 5) (lv' := [(4, .inr (.inl r_1)), (0, .inr (.inl (some t))), (1, .inl x1), (2, .inl x2), (3, .inl x3)]) h dX6_far_5 (hj 4 (by decide)) rfl ?_
  refine g_aload (pc := 7) h 0 rfl dX6_far_7 ?_
  refine g_ifnull (pc := 9) (tgt := 28) h dX6_far_9 (by decide) hF (fun hF => ?_) (fun hF => ?_)
  · refine g_bipush (pc := 28) (v := (-2 : Int32)) h dX6_far_28 (by decide) ?_
    exact g_iret (pc := 30) h hr ⟨Nat.le_refl _, Nat.le_refl _⟩ hF dX6_far_30
  · refine g_iload_n (pc := 12) h 3 rfl dX6_far_12 ?_
    refine g_csI (pc := 13) (st := []) h mX6_isDays csX6_177 (by decide) ⟨by decide, by decide⟩ (Nat.le_of_ble_eq_true rfl) rfl rfl dX6_far_13 hF (fun x_3 w_4 hF => ?_)
    refine g_if_eq (pc := 16) (tgt := 28) h dX6_far_16 (by decide) hF (fun hF => ?_) (fun hF => ?_)
    · refine g_bipush (pc := 28) (v := (-2 : Int32)) h dX6_far_28 (by decide) ?_
      exact g_iret (pc := 30) h hr ⟨Nat.le_refl _, Nat.le_refl _⟩ hF dX6_far_30
    · refine g_iload_n (pc := 19) h 4 rfl dX6_far_19 ?_
      refine g_iconst (pc := 20) (v := (0 : Int32)) h dX6_far_20 (by decide) ?_
      refine g_iconst (pc := 21) (v := (1 : Int32)) h dX6_far_21 (by decide) ?_
      refine g_csI (pc := 22) (st := []) h mX6_within csX6_114 (by decide) ⟨by decide, by decide⟩ (Nat.le_of_ble_eq_true rfl) rfl rfl dX6_far_22 hF (fun x_5 w_6 hF => ?_)
      refine g_if_ne (pc := 25) (tgt := 31) h dX6_far_25 (by decide) hF (fun hF => ?_) (fun hF => ?_)
      · refine g_iconst (pc := 31) (v := (0 : Int32)) h dX6_far_31 (by decide) ?_
        refine g_istore (pc := 32) (lv' := [(5, .inl (0 : Int32)), (4, .inr (.inl r_1)), (0, .inr (.inl (some t))), (1, .inl x1), (2, .inl x2), (3, .inl x3)]) h dX6_far_32 (hj 5 (by decide)) rfl ?_
        refine g_iconst (pc := 34) (v := (-1 : Int32)) h dX6_far_34 (by decide) ?_
        refine g_istore (pc := 35) (lv' := [(6, .inl (-1 : Int32)), (5, .inl (0 : Int32)), (4, .inr (.inl r_1)), (0, .inr (.inl (some t))), (1, .inl x1), (2, .inl x2), (3, .inl x3)]) h dX6_far_35 (hj 6 (by decide)) rfl ?_
        refine g_iconst (pc := 37) (v := (0 : Int32)) h dX6_far_37 (by decide) ?_
        refine g_istore (pc := 38) (lv' := [(7, .inl (0 : Int32)), (6, .inl (-1 : Int32)), (5, .inl (0 : Int32)), (4, .inr (.inl r_1)), (0, .inr (.inl (some t))), (1, .inl x1), (2, .inl x2), (3, .inl x3)]) h dX6_far_38 (hj 7 (by decide)) rfl ?_
        refine g_aload_n (pc := 40) h 4 rfl dX6_far_40 ?_
        refine g_cvV (pc := 41) (st := []) h mX6_forgetSteps cvX6_192 (inw ht) (by decide) ⟨by decide, by decide⟩ (Nat.le_of_ble_eq_true rfl) rfl rfl dX6_far_41 hF (fun u_7 w_8 hF => ?_)
        refine g_iconst (pc := 44) (v := (0 : Int32)) h dX6_far_44 (by decide) ?_
        refine g_istore (pc := 45) (lv' := [(8, .inl (0 : Int32)), (7, .inl (0 : Int32)), (6, .inl (-1 : Int32)), (5, .inl (0 : Int32)), (4, .inr (.inl r_1)), (0, .inr (.inl (some t))), (1, .inl x1), (2, .inl x2), (3, .inl x3)]) h dX6_far_45 (hj 8 (by decide)) rfl ?_
        refine g_lv (lv' := [(0, .inr (.inl (some t))), (2, .inl x2), (3, .inl x3), (4, .inr (.inl r_1)), (5, .inl (0 : Int32)), (6, .inl (-1 : Int32)), (7, .inl (0 : Int32)), (8, .inl (0 : Int32))]) [5, 7, 8, 4, 3, 2, 1, 0] rfl ?_
        exact kX6_far_47 h hr hnL ht _ _ _ _ _ _ _ _ _ hF
      · refine g_bipush (pc := 28) (v := (-2 : Int32)) h dX6_far_28 (by decide) ?_
        exact g_iret (pc := 30) h hr ⟨Nat.le_refl _, Nat.le_refl _⟩ hF dX6_far_30
def fX6_least_113 (k48 : Int32 → Int32 → Option Nat → Int32 → Int32 → Int32 → Wd → Option (Int32 × Wd)) (t : Nat) (x2 : Int32) (x3 : Int32) (r4 : Option Nat) (x5 : Int32) (x6 : Int32) (x7 : Int32) (w : Wd) : Option (Int32 × Wd) :=
  k48 x2 x3 r4 x5 x6 (x7 + (1 : Int32)) w
set_option maxHeartbeats 4000000 in
theorem kX6_least_113 {X : Cx} (h : Ok X cX6_least RX6 11 0 0) (hr : RetI X .int 0 0) (hnL : nLX X = 9) {t : Nat} (ht : InN X t 6) {k48 : Int32 → Int32 → Option Nat → Int32 → Int32 → Int32 → Wd → Option (Int32 × Wd)} (hk48 : ∀ (x2 : Int32) (x3 : Int32) (r4 : Option Nat) (x5 : Int32) (x6 : Int32) (x7 : Int32) (w : Wd), OkR X Value.int (k48 x2 x3 r4 x5 x6 x7 w) → G X 0 0 48 [(0, .inr (.inl (some t))), (2, .inl x2), (3, .inl x3), (4, .inr (.inl r4)), (5, .inl x5), (6, .inl x6), (7, .inl x7)] [] w) : ∀ (x2 : Int32) (x3 : Int32) (r4 : Option Nat) (x5 : Int32) (x6 : Int32) (x7 : Int32) (w : Wd), OkR X Value.int (fX6_least_113 k48 t x2 x3 r4 x5 x6 x7 w) → G X 0 0 113 [(0, .inr (.inl (some t))), (2, .inl x2), (3, .inl x3), (4, .inr (.inl r4)), (5, .inl x5), (6, .inl x6), (7, .inl x7)] [] w := by
  have hj : ∀ j, j < 9 → j < nLX X := fun j q => by rw [hnL]; exact q
  intro x2 x3 r4 x5 x6 x7 w hF
  unfold fX6_least_113 at hF
  refine g_iinc (pc := 113) (lv' := [(7, .inl (x7 + (1 : Int32))), (0, .inr (.inl (some t))), (2, .inl x2), (3, .inl x3), (4, .inr (.inl r4)), (5, .inl x5), (6, .inl x6)]) h 6 rfl dX6_least_113 (dv := (1 : Int32)) (by decide) (hj 7 (by decide)) rfl ?_
  refine g_goto (pc := 116) (tgt := 48) h dX6_least_116 (by decide) ?_
  refine g_lv (lv' := [(0, .inr (.inl (some t))), (2, .inl x2), (3, .inl x3), (4, .inr (.inl r4)), (5, .inl x5), (6, .inl x6), (7, .inl (x7 + (1 : Int32)))]) [1, 2, 3, 4, 5, 6, 0] rfl ?_
  exact hk48 _ _ _ _ _ _ _ hF
def fX6_least_105 (k48 : Int32 → Int32 → Option Nat → Int32 → Int32 → Int32 → Wd → Option (Int32 × Wd)) (t : Nat) (x2 : Int32) (x3 : Int32) (r4 : Option Nat) (x7 : Int32) (x8 : Int32) (w : Wd) : Option (Int32 × Wd) :=
  fX6_least_113 k48 t x2 x3 r4 x7 x8 x7 w
set_option maxHeartbeats 4000000 in
theorem kX6_least_105 {X : Cx} (h : Ok X cX6_least RX6 11 0 0) (hr : RetI X .int 0 0) (hnL : nLX X = 9) {t : Nat} (ht : InN X t 6) {k48 : Int32 → Int32 → Option Nat → Int32 → Int32 → Int32 → Wd → Option (Int32 × Wd)} (hk48 : ∀ (x2 : Int32) (x3 : Int32) (r4 : Option Nat) (x5 : Int32) (x6 : Int32) (x7 : Int32) (w : Wd), OkR X Value.int (k48 x2 x3 r4 x5 x6 x7 w) → G X 0 0 48 [(0, .inr (.inl (some t))), (2, .inl x2), (3, .inl x3), (4, .inr (.inl r4)), (5, .inl x5), (6, .inl x6), (7, .inl x7)] [] w) : ∀ (x2 : Int32) (x3 : Int32) (r4 : Option Nat) (x7 : Int32) (x8 : Int32) (w : Wd), OkR X Value.int (fX6_least_105 k48 t x2 x3 r4 x7 x8 w) → G X 0 0 105 [(0, .inr (.inl (some t))), (2, .inl x2), (3, .inl x3), (4, .inr (.inl r4)), (7, .inl x7), (8, .inl x8)] [] w := by
  have hj : ∀ j, j < 9 → j < nLX X := fun j q => by rw [hnL]; exact q
  intro x2 x3 r4 x7 x8 w hF
  unfold fX6_least_105 at hF
  refine g_iload (pc := 105) h 4 rfl dX6_least_105 ?_
  refine g_istore (pc := 107) (lv' := [(5, .inl x7), (0, .inr (.inl (some t))), (2, .inl x2), (3, .inl x3), (4, .inr (.inl r4)), (7, .inl x7), (8, .inl x8)]) h dX6_least_107 (hj 5 (by decide)) rfl ?_
  refine g_iload (pc := 109) h 6 rfl dX6_least_109 ?_
  refine g_istore (pc := 111) (lv' := [(6, .inl x8), (5, .inl x7), (0, .inr (.inl (some t))), (2, .inl x2), (3, .inl x3), (4, .inr (.inl r4)), (7, .inl x7), (8, .inl x8)]) h dX6_least_111 (hj 6 (by decide)) rfl ?_
  refine g_lv (lv' := [(0, .inr (.inl (some t))), (2, .inl x2), (3, .inl x3), (4, .inr (.inl r4)), (5, .inl x7), (6, .inl x8), (7, .inl x7)]) [2, 3, 4, 5, 1, 0, 6] rfl ?_
  exact kX6_least_113 h hr hnL ht hk48 _ _ _ _ _ _ _ hF
def fX6_least_48 (t : Nat) : Nat → Int32 → Int32 → Option Nat → Int32 → Int32 → Int32 → Wd → Option (Int32 × Wd)
  | 0 => fun _ _ _ _ _ _ _ => none
  | n + 1 => fun x2 x3 r4 x5 x6 x7 w =>
    if (256 : Int32) ≤ x7 then
      (if x3 = 0 then
        (some (x5, w))
      else
        (some (x6, w)))
    else
      (dr r4 5 w (fun a_9 => bnd (fX6_isPart x7 (gI w a_9 2) w) (fun x_10 w_11 => if x_10 = 0 then
        (fX6_least_113 (fX6_least_48 t n) t x2 x3 (some a_9) x5 x6 x7 w_11)
      else
        (bnd (fX6_stepIfTold t (some a_9) x7 (40 : Int32) w_11) (fun x_12 w_13 => if x_12 < x2 then
          (fX6_least_113 (fX6_least_48 t n) t x2 x3 (some a_9) x5 x6 x7 w_13)
        else
          (dr (gR w_13 t 9) 4 w_13 (fun a_14 => lt (gI w_13 a_14 2) (fun x8_15 => if x5 = (-1 : Int32) then
            (fX6_least_105 (fX6_least_48 t n) t x2 x3 (some a_9) x7 x8_15 w_13)
          else
            (if x6 ≤ x8_15 then
              (fX6_least_113 (fX6_least_48 t n) t x2 x3 (some a_9) x5 x6 x7 w_13)
            else
              (fX6_least_105 (fX6_least_48 t n) t x2 x3 (some a_9) x7 x8_15 w_13))))))))))
set_option maxHeartbeats 4000000 in
theorem kX6_least_48 {X : Cx} (h : Ok X cX6_least RX6 11 0 0) (hr : RetI X .int 0 0) (hnL : nLX X = 9) {t : Nat} (ht : InN X t 6) : ∀ (fu : Nat) (x2 : Int32) (x3 : Int32) (r4 : Option Nat) (x5 : Int32) (x6 : Int32) (x7 : Int32) (w : Wd), OkR X Value.int (fX6_least_48 t fu x2 x3 r4 x5 x6 x7 w) → G X 0 0 48 [(0, .inr (.inl (some t))), (2, .inl x2), (3, .inl x3), (4, .inr (.inl r4)), (5, .inl x5), (6, .inl x6), (7, .inl x7)] [] w := by
  have hj : ∀ j, j < 9 → j < nLX X := fun j q => by rw [hnL]; exact q
  intro fu
  induction fu with
  | zero => intro x2 x3 r4 x5 x6 x7 w hF; exact okN hF
  | succ fu ih =>
    intro x2 x3 r4 x5 x6 x7 w hF
    rw [fX6_least_48] at hF
    refine g_iload (pc := 48) h 6 rfl dX6_least_48 ?_
    refine g_sipush (pc := 50) (v := (256 : Int32)) h dX6_least_50 (by decide) ?_
    refine g_icmp_ge (pc := 53) (tgt := 119) h dX6_least_53 (by decide) hF (fun hF => ?_) (fun hF => ?_)
    · refine g_iload_n (pc := 119) h 2 rfl dX6_least_119 ?_
      refine g_if_ne (pc := 120) (tgt := 128) h dX6_least_120 (by decide) hF (fun hF => ?_) (fun hF => ?_)
      · refine g_iload (pc := 128) h 5 rfl dX6_least_128 ?_
        exact g_iret (pc := 130) h hr ⟨Nat.le_refl _, Nat.le_refl _⟩ hF dX6_least_130
      · refine g_iload (pc := 123) h 4 rfl dX6_least_123 ?_
        refine g_goto (pc := 125) (tgt := 130) h dX6_least_125 (by decide) ?_
        exact g_iret (pc := 130) h hr ⟨Nat.le_refl _, Nat.le_refl _⟩ hF dX6_least_130
    · refine g_iload (pc := 56) h 6 rfl dX6_least_56 ?_
      refine g_aload (pc := 58) h 3 rfl dX6_least_58 ?_
      refine g_dr hF (fun a_9 e_a_9 h_a_9 hF => ?_)
      rw [e_a_9]
      refine g_getI (pc := 60) h fdX6_195 h_a_9 (by decide) dX6_least_60 ?_
      refine g_csI (pc := 63) (st := []) h mX6_isPart csX6_198 (by decide) ⟨by decide, by decide⟩ (Nat.le_of_ble_eq_true rfl) rfl rfl dX6_least_63 hF (fun x_10 w_11 hF => ?_)
      refine g_if_eq (pc := 66) (tgt := 113) h dX6_least_66 (by decide) hF (fun hF => ?_) (fun hF => ?_)
      · exact kX6_least_113 h hr hnL ht (fun z0 z1 z2 z3 z4 z5 z6 hF => ih z0 z1 z2 z3 z4 z5 z6 hF) _ _ _ _ _ _ _ hF
      · refine g_aload_n (pc := 69) h 0 rfl dX6_least_69 ?_
        refine g_aload (pc := 70) h 3 rfl dX6_least_70 ?_
        refine g_iload (pc := 72) h 6 rfl dX6_least_72 ?_
        refine g_bipush (pc := 74) (v := (40 : Int32)) h dX6_least_74 (by decide) ?_
        refine g_cvI (pc := 76) (st := []) h mX6_stepIfTold cvX6_201 (inw ht) (by decide) ⟨by decide, by decide⟩ (Nat.le_of_ble_eq_true rfl) rfl rfl dX6_least_76 hF (fun x_12 w_13 hF => ?_)
        refine g_iload_n (pc := 79) h 1 rfl dX6_least_79 ?_
        refine g_icmp_lt (pc := 80) (tgt := 113) h dX6_least_80 (by decide) hF (fun hF => ?_) (fun hF => ?_)
        · exact kX6_least_113 h hr hnL ht (fun z0 z1 z2 z3 z4 z5 z6 hF => ih z0 z1 z2 z3 z4 z5 z6 hF) _ _ _ _ _ _ _ hF
        · refine g_aload_n (pc := 83) h 0 rfl dX6_least_83 ?_
          refine g_getR (pc := 84) h fdX6_98 (inw ht) rfl dX6_least_84 ?_
          refine g_dr hF (fun a_14 e_a_14 h_a_14 hF => ?_)
          rw [e_a_14]
          refine g_getI (pc := 87) h fdX6_140 h_a_14 (by decide) dX6_least_87 ?_
          refine g_t hF (fun x8_15 hF => ?_)
          refine g_istore (pc := 90) (lv' := [(8, .inl x8_15), (0, .inr (.inl (some t))), (2, .inl x2), (3, .inl x3), (4, .inr (.inl (some a_9))), (5, .inl x5), (6, .inl x6), (7, .inl x7)]) h dX6_least_90 (hj 8 (by decide)) rfl ?_
          refine g_iload (pc := 92) h 5 rfl dX6_least_92 ?_
          refine g_iconst (pc := 94) (v := (-1 : Int32)) h dX6_least_94 (by decide) ?_
          refine g_icmp_eq (pc := 95) (tgt := 105) h dX6_least_95 (by decide) hF (fun hF => ?_) (fun hF => ?_)
          · refine g_lv (lv' := [(0, .inr (.inl (some t))), (2, .inl x2), (3, .inl x3), (4, .inr (.inl (some a_9))), (7, .inl x7), (8, .inl x8_15)]) [1, 2, 3, 4, 7, 0] rfl ?_
            exact kX6_least_105 h hr hnL ht (fun z0 z1 z2 z3 z4 z5 z6 hF => ih z0 z1 z2 z3 z4 z5 z6 hF) _ _ _ _ _ _ hF
          · refine g_iload (pc := 98) h 0 rfl dX6_least_98 ?_
            refine g_iload (pc := 100) h 6 rfl dX6_least_100 ?_
            refine g_icmp_ge (pc := 102) (tgt := 113) h dX6_least_102 (by decide) hF (fun hF => ?_) (fun hF => ?_)
            · refine g_lv (lv' := [(0, .inr (.inl (some t))), (2, .inl x2), (3, .inl x3), (4, .inr (.inl (some a_9))), (5, .inl x5), (6, .inl x6), (7, .inl x7)]) [1, 2, 3, 4, 5, 6, 7] rfl ?_
              exact kX6_least_113 h hr hnL ht (fun z0 z1 z2 z3 z4 z5 z6 hF => ih z0 z1 z2 z3 z4 z5 z6 hF) _ _ _ _ _ _ _ hF
            · refine g_lv (lv' := [(0, .inr (.inl (some t))), (2, .inl x2), (3, .inl x3), (4, .inr (.inl (some a_9))), (7, .inl x7), (8, .inl x8_15)]) [1, 2, 3, 4, 7, 0] rfl ?_
              exact kX6_least_105 h hr hnL ht (fun z0 z1 z2 z3 z4 z5 z6 hF => ih z0 z1 z2 z3 z4 z5 z6 hF) _ _ _ _ _ _ hF
def fX6_least (t : Nat) (x1 : Int32) (x2 : Int32) (x3 : Int32) (w : Wd) : Option (Int32 × Wd) :=
  bnd (fX6_walkerAt t x1 w) (fun r_1 w_2 => ifn r_1
    (some ((-2 : Int32), w_2))
    (bnd (fX6_within x2 (0 : Int32) (999 : Int32) w_2) (fun x_3 w_4 => if x_3 = 0 then
      (some ((-2 : Int32), w_4))
    else
      (bnd (fX6_within x3 (0 : Int32) (1 : Int32) w_4) (fun x_5 w_6 => if x_5 = 0 then
        (some ((-2 : Int32), w_6))
      else
        (bnd (fX6_forgetSteps t w_6) (fun u_7 w_8 => fX6_least_48 t FU x2 x3 r_1 (-1 : Int32) (-1 : Int32) (0 : Int32) w_8)))))))
set_option maxHeartbeats 4000000 in
theorem mX6_least {Γ : En} {t : Nat} {x1 : Int32} {x2 : Int32} {x3 : Int32} {w : Wd} (ht : t < wn w ∧ kd t = 6) : MtI Γ yX6_least cX6_least 9 (some .int) 11 0 0 [rv Γ (some t), .int x1, .int x2, .int x3] w (fX6_least t x1 x2 x3 w) := by
  refine mtI [.inr (.inl (some t)), .inl x1, .inl x2, .inl x3] rfl (Nat.le_of_ble_eq_true rfl) (fun X hΓ hnL hn0 h _ hr hF => ?_)
  subst hΓ
  have ht : InN X t 6 := ⟨by rw [hn0]; exact ht.1, ht.2⟩
  have h : Ok X cX6_least RX6 11 0 0 := h
  have hj : ∀ j, j < 9 → j < nLX X := fun j q => by rw [hnL]; exact q
  show G X 0 0 0 [(0, .inr (.inl (some t))), (1, .inl x1), (2, .inl x2), (3, .inl x3)] [] w
  unfold fX6_least at hF
  refine g_aload_n (pc := 0) h 0 rfl dX6_least_0 ?_
  refine g_iload_n (pc := 1) h 1 rfl dX6_least_1 ?_
  refine g_cvQ (pc := 2) (st := []) h mX6_walkerAt cvX6_129 (inw ht) (by decide) ⟨by decide, by decide⟩ (Nat.le_of_ble_eq_true rfl) rfl rfl dX6_least_2 hF (fun r_1 w_2 hF => ?_)
  refine g_astore (pc := 5) (lv' := [(4, .inr (.inl r_1)), (0, .inr (.inl (some t))), (1, .inl x1), (2, .inl x2), (3, .inl x3)]) h dX6_least_5 (hj 4 (by decide)) rfl ?_
  refine g_aload (pc := 7) h 0 rfl dX6_least_7 ?_
  refine g_ifnull (pc := 9) (tgt := 32) h dX6_least_9 (by decide) hF (fun hF => ?_) (fun hF => ?_)
  · refine g_bipush (pc := 32) (v := (-2 : Int32)) h dX6_least_32 (by decide) ?_
    exact g_iret (pc := 34) h hr ⟨Nat.le_refl _, Nat.le_refl _⟩ hF dX6_least_34
  · refine g_iload_n (pc := 12) h 3 rfl dX6_least_12 ?_
    refine g_iconst (pc := 13) (v := (0 : Int32)) h dX6_least_13 (by decide) ?_
    refine g_sipush (pc := 14) (v := (999 : Int32)) h dX6_least_14 (by decide) ?_
    refine g_csI (pc := 17) (st := []) h mX6_within csX6_114 (by decide) ⟨by decide, by decide⟩ (Nat.le_of_ble_eq_true rfl) rfl rfl dX6_least_17 hF (fun x_3 w_4 hF => ?_)
    refine g_if_eq (pc := 20) (tgt := 32) h dX6_least_20 (by decide) hF (fun hF => ?_) (fun hF => ?_)
    · refine g_bipush (pc := 32) (v := (-2 : Int32)) h dX6_least_32 (by decide) ?_
      exact g_iret (pc := 34) h hr ⟨Nat.le_refl _, Nat.le_refl _⟩ hF dX6_least_34
    · refine g_iload_n (pc := 23) h 4 rfl dX6_least_23 ?_
      refine g_iconst (pc := 24) (v := (0 : Int32)) h dX6_least_24 (by decide) ?_
      refine g_iconst (pc := 25) (v := (1 : Int32)) h dX6_least_25 (by decide) ?_
      refine g_csI (pc := 26) (st := []) h mX6_within csX6_114 (by decide) ⟨by decide, by decide⟩ (Nat.le_of_ble_eq_true rfl) rfl rfl dX6_least_26 hF (fun x_5 w_6 hF => ?_)
      refine g_if_ne (pc := 29) (tgt := 35) h dX6_least_29 (by decide) hF (fun hF => ?_) (fun hF => ?_)
      · refine g_iconst (pc := 35) (v := (-1 : Int32)) h dX6_least_35 (by decide) ?_
        refine g_istore (pc := 36) (lv' := [(5, .inl (-1 : Int32)), (4, .inr (.inl r_1)), (0, .inr (.inl (some t))), (1, .inl x1), (2, .inl x2), (3, .inl x3)]) h dX6_least_36 (hj 5 (by decide)) rfl ?_
        refine g_iconst (pc := 38) (v := (-1 : Int32)) h dX6_least_38 (by decide) ?_
        refine g_istore (pc := 39) (lv' := [(6, .inl (-1 : Int32)), (5, .inl (-1 : Int32)), (4, .inr (.inl r_1)), (0, .inr (.inl (some t))), (1, .inl x1), (2, .inl x2), (3, .inl x3)]) h dX6_least_39 (hj 6 (by decide)) rfl ?_
        refine g_aload_n (pc := 41) h 3 rfl dX6_least_41 ?_
        refine g_cvV (pc := 42) (st := []) h mX6_forgetSteps cvX6_192 (inw ht) (by decide) ⟨by decide, by decide⟩ (Nat.le_of_ble_eq_true rfl) rfl rfl dX6_least_42 hF (fun u_7 w_8 hF => ?_)
        refine g_iconst (pc := 45) (v := (0 : Int32)) h dX6_least_45 (by decide) ?_
        refine g_istore (pc := 46) (lv' := [(7, .inl (0 : Int32)), (6, .inl (-1 : Int32)), (5, .inl (-1 : Int32)), (4, .inr (.inl r_1)), (0, .inr (.inl (some t))), (1, .inl x1), (2, .inl x2), (3, .inl x3)]) h dX6_least_46 (hj 7 (by decide)) rfl ?_
        refine g_lv (lv' := [(0, .inr (.inl (some t))), (2, .inl x2), (3, .inl x3), (4, .inr (.inl r_1)), (5, .inl (-1 : Int32)), (6, .inl (-1 : Int32)), (7, .inl (0 : Int32))]) [4, 6, 7, 3, 2, 1, 0] rfl ?_
        exact kX6_least_48 h hr hnL ht _ _ _ _ _ _ _ _ hF
      · refine g_bipush (pc := 32) (v := (-2 : Int32)) h dX6_least_32 (by decide) ?_
        exact g_iret (pc := 34) h hr ⟨Nat.le_refl _, Nat.le_refl _⟩ hF dX6_least_34
def fX6_thinkOtherwise (t : Nat) (r1 : Option Nat) (w : Wd) : Option (Unit × Wd) :=
  dr (gR w t 5) 11 w (fun a_1 => grd (vin (gI w t 7) (ln a_1)) (dr (gR w t 9) 4 w (fun a_2 => bnd (fX4_startAs a_2 r1 (gR w a_1 (gI w t 7).toNatClampNeg) (gI w t 4) w) (fun u_3 w_4 => dr r1 5 w_4 (fun a_5 => dr (gR w_4 t 9) 4 w_4 (fun a_6 => bnd (fX4_weigh a_6 (gI w_4 a_5 2) (gI w_4 a_5 3) (gR w_4 t 1) w_4) (fun u_7 w_8 => some ((), w_8))))))))
set_option maxHeartbeats 4000000 in
theorem mX6_thinkOtherwise {Γ : En} {t : Nat} {r1 : Option Nat} {w : Wd} (ht : t < wn w ∧ kd t = 6) : MtV Γ yX6_thinkOtherwise cX6_thinkOtherwise 2 none 4 0 0 [rv Γ (some t), rv Γ r1] w (fX6_thinkOtherwise t r1 w) := by
  refine mtV [.inr (.inl (some t)), .inr (.inl r1)] rfl (Nat.le_of_ble_eq_true rfl) (fun X hΓ hnL hn0 h _ hr hF => ?_)
  subst hΓ
  have ht : InN X t 6 := ⟨by rw [hn0]; exact ht.1, ht.2⟩
  have h : Ok X cX6_thinkOtherwise RX6 4 0 0 := h
  have hj : ∀ j, j < 2 → j < nLX X := fun j q => by rw [hnL]; exact q
  show G X 0 0 0 [(0, .inr (.inl (some t))), (1, .inr (.inl r1))] [] w
  unfold fX6_thinkOtherwise at hF
  refine g_aload_n (pc := 0) h 0 rfl dX6_thinkOtherwise_0 ?_
  refine g_getR (pc := 1) h fdX6_98 (inw ht) rfl dX6_thinkOtherwise_1 ?_
  refine g_aload_n (pc := 4) h 1 rfl dX6_thinkOtherwise_4 ?_
  refine g_aload_n (pc := 5) h 0 rfl dX6_thinkOtherwise_5 ?_
  refine g_getR (pc := 6) h fdX6_31 (inw ht) rfl dX6_thinkOtherwise_6 ?_
  refine g_aload_n (pc := 9) h 0 rfl dX6_thinkOtherwise_9 ?_
  refine g_getI (pc := 10) h fdX6_38 (inw ht) (by decide) dX6_thinkOtherwise_10 ?_
  refine g_dr hF (fun a_1 e_a_1 h_a_1 hF => ?_)
  rw [e_a_1]
  obtain ⟨g_1, hF⟩ := grd_ok hF
  refine g_aald (pc := 13) h (by decide) rfl h_a_1 g_1 dX6_thinkOtherwise_13 ?_
  refine g_aload_n (pc := 14) h 0 rfl dX6_thinkOtherwise_14 ?_
  refine g_getI (pc := 15) h fdX6_26 (inw ht) (by decide) dX6_thinkOtherwise_15 ?_
  refine g_dr hF (fun a_2 e_a_2 h_a_2 hF => ?_)
  rw [e_a_2]
  refine g_cvV (pc := 18) (st := []) h mX4_startAs cvX6_336 h_a_2 (by decide) ⟨by decide, by decide⟩ (Nat.le_of_ble_eq_true rfl) rfl rfl dX6_thinkOtherwise_18 hF (fun u_3 w_4 hF => ?_)
  refine g_aload_n (pc := 21) h 0 rfl dX6_thinkOtherwise_21 ?_
  refine g_getR (pc := 22) h fdX6_98 (inw ht) rfl dX6_thinkOtherwise_22 ?_
  refine g_aload_n (pc := 25) h 1 rfl dX6_thinkOtherwise_25 ?_
  refine g_dr hF (fun a_5 e_a_5 h_a_5 hF => ?_)
  rw [e_a_5]
  refine g_getI (pc := 26) h fdX6_195 h_a_5 (by decide) dX6_thinkOtherwise_26 ?_
  refine g_aload_n (pc := 29) h 1 rfl dX6_thinkOtherwise_29 ?_
  refine g_getI (pc := 30) h fdX6_220 h_a_5 (by decide) dX6_thinkOtherwise_30 ?_
  refine g_aload_n (pc := 33) h 0 rfl dX6_thinkOtherwise_33 ?_
  refine g_getR (pc := 34) h fdX6_13 (inw ht) rfl dX6_thinkOtherwise_34 ?_
  refine g_dr hF (fun a_6 e_a_6 h_a_6 hF => ?_)
  rw [e_a_6]
  refine g_cvV (pc := 37) (st := []) h mX4_weigh cvX6_340 h_a_6 (by decide) ⟨by decide, by decide⟩ (Nat.le_of_ble_eq_true rfl) rfl rfl dX6_thinkOtherwise_37 hF (fun u_7 w_8 hF => ?_)
  exact g_vret (pc := 40) h hr ⟨Nat.le_refl _, Nat.le_refl _⟩ hF dX6_thinkOtherwise_40
def fX6_weighAsNow (t : Nat) (w : Wd) : Option (Unit × Wd) :=
  dr (gR w t 0) 8 w (fun a_1 => dr (gR w t 1) 8 w (fun a_2 => grd (¬ (0 : Int32) < 0 ∧ ¬ (0 : Int32) < 0 ∧ ¬ (8 : Int32) < 0 ∧ (0 : Int32).toNatClampNeg + (8 : Int32).toNatClampNeg ≤ ln a_1 ∧ (0 : Int32).toNatClampNeg + (8 : Int32).toNatClampNeg ≤ ln a_2) (lw (cI w a_2 (va_cpy (gI w a_1) (gI w a_2) (0 : Int32).toNatClampNeg (0 : Int32).toNatClampNeg (8 : Int32).toNatClampNeg)) (fun w_3 => some ((), w_3)))))
set_option maxHeartbeats 4000000 in
theorem mX6_weighAsNow {Γ : En} {t : Nat} {w : Wd} (ht : t < wn w ∧ kd t = 6) : MtV Γ yX6_weighAsNow cX6_weighAsNow 1 none 2 0 0 [rv Γ (some t)] w (fX6_weighAsNow t w) := by
  refine mtV [.inr (.inl (some t))] rfl (Nat.le_of_ble_eq_true rfl) (fun X hΓ hnL hn0 h _ hr hF => ?_)
  subst hΓ
  have ht : InN X t 6 := ⟨by rw [hn0]; exact ht.1, ht.2⟩
  have h : Ok X cX6_weighAsNow RX6 2 0 0 := h
  have hj : ∀ j, j < 1 → j < nLX X := fun j q => by rw [hnL]; exact q
  show G X 0 0 0 [(0, .inr (.inl (some t)))] [] w
  unfold fX6_weighAsNow at hF
  refine g_aload_n (pc := 0) h 0 rfl dX6_weighAsNow_0 ?_
  refine g_getR (pc := 1) h fdX6_9 (inw ht) rfl dX6_weighAsNow_1 ?_
  refine g_iconst (pc := 4) (v := (0 : Int32)) h dX6_weighAsNow_4 (by decide) ?_
  refine g_aload_n (pc := 5) h 0 rfl dX6_weighAsNow_5 ?_
  refine g_getR (pc := 6) h fdX6_13 (inw ht) rfl dX6_weighAsNow_6 ?_
  refine g_iconst (pc := 9) (v := (0 : Int32)) h dX6_weighAsNow_9 (by decide) ?_
  refine g_bipush (pc := 10) (v := (8 : Int32)) h dX6_weighAsNow_10 (by decide) ?_
  refine g_dr hF (fun a_1 e_a_1 h_a_1 hF => ?_)
  rw [e_a_1]
  refine g_dr hF (fun a_2 e_a_2 h_a_2 hF => ?_)
  rw [e_a_2]
  obtain ⟨g_1, hF⟩ := grd_ok hF
  refine g_copy (pc := 12) h wml_X6_286 h_a_1 h_a_2 g_1 (by decide) (Nat.le_of_ble_eq_true rfl) wna_arraycopy wst_arraycopy win_System dX6_weighAsNow_12 ?_
  refine g_w hF (fun w_3 hF => ?_)
  exact g_vret (pc := 15) h hr ⟨Nat.le_refl _, Nat.le_refl _⟩ hF dX6_weighAsNow_15
def fX6_heaviest_41 (t : Nat) : Nat → Int32 → Int32 → Option Nat → Int32 → Wd → Option (Int32 × Wd)
  | 0 => fun _ _ _ _ _ => none
  | n + 1 => fun x1 x3 r4 x5 w =>
    if x5 < 0 then
      (some ((-1 : Int32), w))
    else
      (dr (gR w t 1) 8 w (fun a_9 => grd (vin x1 (ln a_9)) (lw (sI w a_9 x1.toNatClampNeg x5) (fun w_10 => bnd (fX6_thinkOtherwise t r4 w_10) (fun u_11 w_12 => dr (gR w_12 t 9) 4 w_12 (fun a_13 => bnd (fX4_stepBehind a_13 (40 : Int32) w_12) (fun x_14 w_15 => if x_14 < x3 then
        (fX6_heaviest_41 t n x1 x3 r4 (x5 + (-1 : Int32)) w_15)
      else
        (some (x5, w_15)))))))))
set_option maxHeartbeats 4000000 in
theorem kX6_heaviest_41 {X : Cx} (h : Ok X cX6_heaviest RX6 10 0 0) (hr : RetI X .int 0 0) (hnL : nLX X = 6) {t : Nat} (ht : InN X t 6) : ∀ (fu : Nat) (x1 : Int32) (x3 : Int32) (r4 : Option Nat) (x5 : Int32) (w : Wd), OkR X Value.int (fX6_heaviest_41 t fu x1 x3 r4 x5 w) → G X 0 0 41 [(0, .inr (.inl (some t))), (1, .inl x1), (3, .inl x3), (4, .inr (.inl r4)), (5, .inl x5)] [] w := by
  have hj : ∀ j, j < 6 → j < nLX X := fun j q => by rw [hnL]; exact q
  intro fu
  induction fu with
  | zero => intro x1 x3 r4 x5 w hF; exact okN hF
  | succ fu ih =>
    intro x1 x3 r4 x5 w hF
    rw [fX6_heaviest_41] at hF
    refine g_iload (pc := 41) h 4 rfl dX6_heaviest_41 ?_
    refine g_if_lt (pc := 43) (tgt := 82) h dX6_heaviest_43 (by decide) hF (fun hF => ?_) (fun hF => ?_)
    · refine g_iconst (pc := 82) (v := (-1 : Int32)) h dX6_heaviest_82 (by decide) ?_
      exact g_iret (pc := 83) h hr ⟨Nat.le_refl _, Nat.le_refl _⟩ hF dX6_heaviest_83
    · refine g_aload_n (pc := 46) h 0 rfl dX6_heaviest_46 ?_
      refine g_getR (pc := 47) h fdX6_13 (inw ht) rfl dX6_heaviest_47 ?_
      refine g_iload_n (pc := 50) h 1 rfl dX6_heaviest_50 ?_
      refine g_iload (pc := 51) h 4 rfl dX6_heaviest_51 ?_
      refine g_dr hF (fun a_9 e_a_9 h_a_9 hF => ?_)
      rw [e_a_9]
      obtain ⟨g_1, hF⟩ := grd_ok hF
      refine g_iast (pc := 53) h h_a_9 g_1 dX6_heaviest_53 ?_
      refine g_w hF (fun w_10 hF => ?_)
      refine g_aload_n (pc := 54) h 0 rfl dX6_heaviest_54 ?_
      refine g_aload (pc := 55) h 3 rfl dX6_heaviest_55 ?_
      refine g_cvV (pc := 57) (st := []) h mX6_thinkOtherwise cvX6_211 (inw ht) (by decide) ⟨by decide, by decide⟩ (Nat.le_of_ble_eq_true rfl) rfl rfl dX6_heaviest_57 hF (fun u_11 w_12 hF => ?_)
      refine g_aload_n (pc := 60) h 0 rfl dX6_heaviest_60 ?_
      refine g_getR (pc := 61) h fdX6_98 (inw ht) rfl dX6_heaviest_61 ?_
      refine g_bipush (pc := 64) (v := (40 : Int32)) h dX6_heaviest_64 (by decide) ?_
      refine g_dr hF (fun a_13 e_a_13 h_a_13 hF => ?_)
      rw [e_a_13]
      refine g_cvI (pc := 66) (st := []) h mX4_stepBehind cvX6_180 h_a_13 (by decide) ⟨by decide, by decide⟩ (Nat.le_of_ble_eq_true rfl) rfl rfl dX6_heaviest_66 hF (fun x_14 w_15 hF => ?_)
      refine g_iload_n (pc := 69) h 2 rfl dX6_heaviest_69 ?_
      refine g_icmp_lt (pc := 70) (tgt := 76) h dX6_heaviest_70 (by decide) hF (fun hF => ?_) (fun hF => ?_)
      · refine g_iinc (pc := 76) (lv' := [(5, .inl (x5 + (-1 : Int32))), (0, .inr (.inl (some t))), (1, .inl x1), (3, .inl x3), (4, .inr (.inl r4))]) h 4 rfl dX6_heaviest_76 (dv := (-1 : Int32)) (by decide) (hj 5 (by decide)) rfl ?_
        refine g_goto (pc := 79) (tgt := 41) h dX6_heaviest_79 (by decide) ?_
        refine g_lv (lv' := [(0, .inr (.inl (some t))), (1, .inl x1), (3, .inl x3), (4, .inr (.inl r4)), (5, .inl (x5 + (-1 : Int32)))]) [1, 2, 3, 4, 0] rfl ?_
        exact ih _ _ _ _ _ hF
      · refine g_iload (pc := 73) h 4 rfl dX6_heaviest_73 ?_
        exact g_iret (pc := 75) h hr ⟨Nat.le_refl _, Nat.le_refl _⟩ hF dX6_heaviest_75
def fX6_heaviest (t : Nat) (x1 : Int32) (x2 : Int32) (x3 : Int32) (w : Wd) : Option (Int32 × Wd) :=
  bnd (fX6_walkerAt t x2 w) (fun r_1 w_2 => bnd (fX6_isThing x1 w_2) (fun x_3 w_4 => if x_3 = 0 then
    (some ((-2 : Int32), w_4))
  else
    (ifn r_1
      (some ((-2 : Int32), w_4))
      (bnd (fX6_within x3 (0 : Int32) (999 : Int32) w_4) (fun x_5 w_6 => if x_5 = 0 then
        (some ((-2 : Int32), w_6))
      else
        (bnd (fX6_weighAsNow t w_6) (fun u_7 w_8 => fX6_heaviest_41 t FU x1 x3 r_1 (99 : Int32) w_8)))))))
set_option maxHeartbeats 4000000 in
theorem mX6_heaviest {Γ : En} {t : Nat} {x1 : Int32} {x2 : Int32} {x3 : Int32} {w : Wd} (ht : t < wn w ∧ kd t = 6) : MtI Γ yX6_heaviest cX6_heaviest 6 (some .int) 10 0 0 [rv Γ (some t), .int x1, .int x2, .int x3] w (fX6_heaviest t x1 x2 x3 w) := by
  refine mtI [.inr (.inl (some t)), .inl x1, .inl x2, .inl x3] rfl (Nat.le_of_ble_eq_true rfl) (fun X hΓ hnL hn0 h _ hr hF => ?_)
  subst hΓ
  have ht : InN X t 6 := ⟨by rw [hn0]; exact ht.1, ht.2⟩
  have h : Ok X cX6_heaviest RX6 10 0 0 := h
  have hj : ∀ j, j < 6 → j < nLX X := fun j q => by rw [hnL]; exact q
  show G X 0 0 0 [(0, .inr (.inl (some t))), (1, .inl x1), (2, .inl x2), (3, .inl x3)] [] w
  unfold fX6_heaviest at hF
  refine g_aload_n (pc := 0) h 0 rfl dX6_heaviest_0 ?_
  refine g_iload_n (pc := 1) h 2 rfl dX6_heaviest_1 ?_
  refine g_cvQ (pc := 2) (st := []) h mX6_walkerAt cvX6_129 (inw ht) (by decide) ⟨by decide, by decide⟩ (Nat.le_of_ble_eq_true rfl) rfl rfl dX6_heaviest_2 hF (fun r_1 w_2 hF => ?_)
  refine g_astore (pc := 5) (lv' := [(4, .inr (.inl r_1)), (0, .inr (.inl (some t))), (1, .inl x1), (2, .inl x2), (3, .inl x3)]) h dX6_heaviest_5 (hj 4 (by decide)) rfl ?_
  refine g_iload_n (pc := 7) h 2 rfl dX6_heaviest_7 ?_
  refine g_csI (pc := 8) (st := []) h mX6_isThing csX6_205 (by decide) ⟨by decide, by decide⟩ (Nat.le_of_ble_eq_true rfl) rfl rfl dX6_heaviest_8 hF (fun x_3 w_4 hF => ?_)
  refine g_if_eq (pc := 11) (tgt := 30) h dX6_heaviest_11 (by decide) hF (fun hF => ?_) (fun hF => ?_)
  · refine g_bipush (pc := 30) (v := (-2 : Int32)) h dX6_heaviest_30 (by decide) ?_
    exact g_iret (pc := 32) h hr ⟨Nat.le_refl _, Nat.le_refl _⟩ hF dX6_heaviest_32
  · refine g_aload (pc := 14) h 0 rfl dX6_heaviest_14 ?_
    refine g_ifnull (pc := 16) (tgt := 30) h dX6_heaviest_16 (by decide) hF (fun hF => ?_) (fun hF => ?_)
    · refine g_bipush (pc := 30) (v := (-2 : Int32)) h dX6_heaviest_30 (by decide) ?_
      exact g_iret (pc := 32) h hr ⟨Nat.le_refl _, Nat.le_refl _⟩ hF dX6_heaviest_32
    · refine g_iload_n (pc := 19) h 4 rfl dX6_heaviest_19 ?_
      refine g_iconst (pc := 20) (v := (0 : Int32)) h dX6_heaviest_20 (by decide) ?_
      refine g_sipush (pc := 21) (v := (999 : Int32)) h dX6_heaviest_21 (by decide) ?_
      refine g_csI (pc := 24) (st := []) h mX6_within csX6_114 (by decide) ⟨by decide, by decide⟩ (Nat.le_of_ble_eq_true rfl) rfl rfl dX6_heaviest_24 hF (fun x_5 w_6 hF => ?_)
      refine g_if_ne (pc := 27) (tgt := 33) h dX6_heaviest_27 (by decide) hF (fun hF => ?_) (fun hF => ?_)
      · refine g_aload_n (pc := 33) h 1 rfl dX6_heaviest_33 ?_
        refine g_cvV (pc := 34) (st := []) h mX6_weighAsNow cvX6_208 (inw ht) (by decide) ⟨by decide, by decide⟩ (Nat.le_of_ble_eq_true rfl) rfl rfl dX6_heaviest_34 hF (fun u_7 w_8 hF => ?_)
        refine g_bipush (pc := 37) (v := (99 : Int32)) h dX6_heaviest_37 (by decide) ?_
        refine g_istore (pc := 39) (lv' := [(5, .inl (99 : Int32)), (4, .inr (.inl r_1)), (0, .inr (.inl (some t))), (1, .inl x1), (2, .inl x2), (3, .inl x3)]) h dX6_heaviest_39 (hj 5 (by decide)) rfl ?_
        refine g_lv (lv' := [(0, .inr (.inl (some t))), (1, .inl x1), (3, .inl x3), (4, .inr (.inl r_1)), (5, .inl (99 : Int32))]) [2, 3, 5, 1, 0] rfl ?_
        exact kX6_heaviest_41 h hr hnL ht _ _ _ _ _ _ hF
      · refine g_bipush (pc := 30) (v := (-2 : Int32)) h dX6_heaviest_30 (by decide) ?_
        exact g_iret (pc := 32) h hr ⟨Nat.le_refl _, Nat.le_refl _⟩ hF dX6_heaviest_32
def fX6_away_86 (k31 : Int32 → Int32 → Int32 → Int32 → Int32 → Wd → Option (Int32 × Wd)) (t : Nat) (x1 : Int32) (x2 : Int32) (x3 : Int32) (x4 : Int32) (x5 : Int32) (w : Wd) : Option (Int32 × Wd) :=
  k31 x1 x2 x3 x4 (x5 + (1 : Int32)) w
set_option maxHeartbeats 4000000 in
theorem kX6_away_86 {X : Cx} (h : Ok X cX6_away RX6 10 0 0) (hr : RetI X .int 0 0) (hnL : nLX X = 7) {t : Nat} (ht : InN X t 6) {k31 : Int32 → Int32 → Int32 → Int32 → Int32 → Wd → Option (Int32 × Wd)} (hk31 : ∀ (x1 : Int32) (x2 : Int32) (x3 : Int32) (x4 : Int32) (x5 : Int32) (w : Wd), OkR X Value.int (k31 x1 x2 x3 x4 x5 w) → G X 0 0 31 [(0, .inr (.inl (some t))), (1, .inl x1), (2, .inl x2), (3, .inl x3), (4, .inl x4), (5, .inl x5)] [] w) : ∀ (x1 : Int32) (x2 : Int32) (x3 : Int32) (x4 : Int32) (x5 : Int32) (w : Wd), OkR X Value.int (fX6_away_86 k31 t x1 x2 x3 x4 x5 w) → G X 0 0 86 [(0, .inr (.inl (some t))), (1, .inl x1), (2, .inl x2), (3, .inl x3), (4, .inl x4), (5, .inl x5)] [] w := by
  have hj : ∀ j, j < 7 → j < nLX X := fun j q => by rw [hnL]; exact q
  intro x1 x2 x3 x4 x5 w hF
  unfold fX6_away_86 at hF
  refine g_iinc (pc := 86) (lv' := [(5, .inl (x5 + (1 : Int32))), (0, .inr (.inl (some t))), (1, .inl x1), (2, .inl x2), (3, .inl x3), (4, .inl x4)]) h 5 rfl dX6_away_86 (dv := (1 : Int32)) (by decide) (hj 5 (by decide)) rfl ?_
  refine g_goto (pc := 89) (tgt := 31) h dX6_away_89 (by decide) ?_
  refine g_lv (lv' := [(0, .inr (.inl (some t))), (1, .inl x1), (2, .inl x2), (3, .inl x3), (4, .inl x4), (5, .inl (x5 + (1 : Int32)))]) [1, 2, 3, 4, 5, 0] rfl ?_
  exact hk31 _ _ _ _ _ _ hF
def fX6_away_79 (k31 : Int32 → Int32 → Int32 → Int32 → Int32 → Wd → Option (Int32 × Wd)) (t : Nat) (x1 : Int32) (x2 : Int32) (x5 : Int32) (x6 : Int32) (w : Wd) : Option (Int32 × Wd) :=
  fX6_away_86 k31 t x1 x2 x5 x6 x5 w
set_option maxHeartbeats 4000000 in
theorem kX6_away_79 {X : Cx} (h : Ok X cX6_away RX6 10 0 0) (hr : RetI X .int 0 0) (hnL : nLX X = 7) {t : Nat} (ht : InN X t 6) {k31 : Int32 → Int32 → Int32 → Int32 → Int32 → Wd → Option (Int32 × Wd)} (hk31 : ∀ (x1 : Int32) (x2 : Int32) (x3 : Int32) (x4 : Int32) (x5 : Int32) (w : Wd), OkR X Value.int (k31 x1 x2 x3 x4 x5 w) → G X 0 0 31 [(0, .inr (.inl (some t))), (1, .inl x1), (2, .inl x2), (3, .inl x3), (4, .inl x4), (5, .inl x5)] [] w) : ∀ (x1 : Int32) (x2 : Int32) (x5 : Int32) (x6 : Int32) (w : Wd), OkR X Value.int (fX6_away_79 k31 t x1 x2 x5 x6 w) → G X 0 0 79 [(0, .inr (.inl (some t))), (1, .inl x1), (2, .inl x2), (5, .inl x5), (6, .inl x6)] [] w := by
  have hj : ∀ j, j < 7 → j < nLX X := fun j q => by rw [hnL]; exact q
  intro x1 x2 x5 x6 w hF
  unfold fX6_away_79 at hF
  refine g_iload (pc := 79) h 3 rfl dX6_away_79 ?_
  refine g_istore_n (pc := 81) (lv' := [(3, .inl x5), (0, .inr (.inl (some t))), (1, .inl x1), (2, .inl x2), (5, .inl x5), (6, .inl x6)]) h dX6_away_81 (hj 3 (by decide)) rfl ?_
  refine g_iload (pc := 82) h 5 rfl dX6_away_82 ?_
  refine g_istore (pc := 84) (lv' := [(4, .inl x6), (3, .inl x5), (0, .inr (.inl (some t))), (1, .inl x1), (2, .inl x2), (5, .inl x5), (6, .inl x6)]) h dX6_away_84 (hj 4 (by decide)) rfl ?_
  refine g_lv (lv' := [(0, .inr (.inl (some t))), (1, .inl x1), (2, .inl x2), (3, .inl x5), (4, .inl x6), (5, .inl x5)]) [2, 3, 4, 1, 0, 5] rfl ?_
  exact kX6_away_86 h hr hnL ht hk31 _ _ _ _ _ _ hF
def fX6_away_31 (t : Nat) : Nat → Int32 → Int32 → Int32 → Int32 → Int32 → Wd → Option (Int32 × Wd)
  | 0 => fun _ _ _ _ _ _ => none
  | n + 1 => fun x1 x2 x3 x4 x5 w =>
    if (gI w t 3) ≤ x5 then
      (if x2 = 0 then
        (some (x3, w))
      else
        (some (x4, w)))
    else
      (dr (gR w t 2) 12 w (fun a_5 => grd (vin x5 (ln a_5)) (bnd (fX6_think t (gR w a_5 x5.toNatClampNeg) w) (fun u_6 w_7 => dr (gR w_7 t 9) 4 w_7 (fun a_8 => bnd (fX4_daysTill a_8 x1 w_7) (fun x_9 w_10 => if x_9 = (-1 : Int32) then
        (fX6_away_86 (fX6_away_31 t n) t x1 x2 x3 x4 x5 w_10)
      else
        (if x3 = (-1 : Int32) then
          (fX6_away_79 (fX6_away_31 t n) t x1 x2 x5 x_9 w_10)
        else
          (if x4 ≤ x_9 then
            (fX6_away_86 (fX6_away_31 t n) t x1 x2 x3 x4 x5 w_10)
          else
            (fX6_away_79 (fX6_away_31 t n) t x1 x2 x5 x_9 w_10)))))))))
set_option maxHeartbeats 4000000 in
theorem kX6_away_31 {X : Cx} (h : Ok X cX6_away RX6 10 0 0) (hr : RetI X .int 0 0) (hnL : nLX X = 7) {t : Nat} (ht : InN X t 6) : ∀ (fu : Nat) (x1 : Int32) (x2 : Int32) (x3 : Int32) (x4 : Int32) (x5 : Int32) (w : Wd), OkR X Value.int (fX6_away_31 t fu x1 x2 x3 x4 x5 w) → G X 0 0 31 [(0, .inr (.inl (some t))), (1, .inl x1), (2, .inl x2), (3, .inl x3), (4, .inl x4), (5, .inl x5)] [] w := by
  have hj : ∀ j, j < 7 → j < nLX X := fun j q => by rw [hnL]; exact q
  intro fu
  induction fu with
  | zero => intro x1 x2 x3 x4 x5 w hF; exact okN hF
  | succ fu ih =>
    intro x1 x2 x3 x4 x5 w hF
    rw [fX6_away_31] at hF
    refine g_iload (pc := 31) h 5 rfl dX6_away_31 ?_
    refine g_aload_n (pc := 33) h 0 rfl dX6_away_33 ?_
    refine g_getI (pc := 34) h fdX6_22 (inw ht) (by decide) dX6_away_34 ?_
    refine g_icmp_ge (pc := 37) (tgt := 92) h dX6_away_37 (by decide) hF (fun hF => ?_) (fun hF => ?_)
    · refine g_iload_n (pc := 92) h 2 rfl dX6_away_92 ?_
      refine g_if_ne (pc := 93) (tgt := 100) h dX6_away_93 (by decide) hF (fun hF => ?_) (fun hF => ?_)
      · refine g_iload (pc := 100) h 4 rfl dX6_away_100 ?_
        exact g_iret (pc := 102) h hr ⟨Nat.le_refl _, Nat.le_refl _⟩ hF dX6_away_102
      · refine g_iload_n (pc := 96) h 3 rfl dX6_away_96 ?_
        refine g_goto (pc := 97) (tgt := 102) h dX6_away_97 (by decide) ?_
        exact g_iret (pc := 102) h hr ⟨Nat.le_refl _, Nat.le_refl _⟩ hF dX6_away_102
    · refine g_aload_n (pc := 40) h 0 rfl dX6_away_40 ?_
      refine g_aload_n (pc := 41) h 0 rfl dX6_away_41 ?_
      refine g_getR (pc := 42) h fdX6_18 (inw ht) rfl dX6_away_42 ?_
      refine g_iload (pc := 45) h 5 rfl dX6_away_45 ?_
      refine g_dr hF (fun a_5 e_a_5 h_a_5 hF => ?_)
      rw [e_a_5]
      obtain ⟨g_1, hF⟩ := grd_ok hF
      refine g_aald (pc := 47) h (by decide) rfl h_a_5 g_1 dX6_away_47 ?_
      refine g_cvV (pc := 48) (st := []) h mX6_think cvX6_133 (inw ht) (by decide) ⟨by decide, by decide⟩ (Nat.le_of_ble_eq_true rfl) rfl rfl dX6_away_48 hF (fun u_6 w_7 hF => ?_)
      refine g_aload_n (pc := 51) h 0 rfl dX6_away_51 ?_
      refine g_getR (pc := 52) h fdX6_98 (inw ht) rfl dX6_away_52 ?_
      refine g_iload_n (pc := 55) h 1 rfl dX6_away_55 ?_
      refine g_dr hF (fun a_8 e_a_8 h_a_8 hF => ?_)
      rw [e_a_8]
      refine g_cvI (pc := 56) (st := []) h mX4_daysTill cvX6_214 h_a_8 (by decide) ⟨by decide, by decide⟩ (Nat.le_of_ble_eq_true rfl) rfl rfl dX6_away_56 hF (fun x_9 w_10 hF => ?_)
      refine g_istore (pc := 59) (lv' := [(6, .inl x_9), (0, .inr (.inl (some t))), (1, .inl x1), (2, .inl x2), (3, .inl x3), (4, .inl x4), (5, .inl x5)]) h dX6_away_59 (hj 6 (by decide)) rfl ?_
      refine g_iload (pc := 61) h 0 rfl dX6_away_61 ?_
      refine g_iconst (pc := 63) (v := (-1 : Int32)) h dX6_away_63 (by decide) ?_
      refine g_icmp_eq (pc := 64) (tgt := 86) h dX6_away_64 (by decide) hF (fun hF => ?_) (fun hF => ?_)
      · refine g_lv (lv' := [(0, .inr (.inl (some t))), (1, .inl x1), (2, .inl x2), (3, .inl x3), (4, .inl x4), (5, .inl x5)]) [1, 2, 3, 4, 5, 6] rfl ?_
        exact kX6_away_86 h hr hnL ht (fun z0 z1 z2 z3 z4 z5 hF => ih z0 z1 z2 z3 z4 z5 hF) _ _ _ _ _ _ hF
      · refine g_iload_n (pc := 67) h 4 rfl dX6_away_67 ?_
        refine g_iconst (pc := 68) (v := (-1 : Int32)) h dX6_away_68 (by decide) ?_
        refine g_icmp_eq (pc := 69) (tgt := 79) h dX6_away_69 (by decide) hF (fun hF => ?_) (fun hF => ?_)
        · refine g_lv (lv' := [(0, .inr (.inl (some t))), (1, .inl x1), (2, .inl x2), (5, .inl x5), (6, .inl x_9)]) [1, 2, 3, 6, 0] rfl ?_
          exact kX6_away_79 h hr hnL ht (fun z0 z1 z2 z3 z4 z5 hF => ih z0 z1 z2 z3 z4 z5 hF) _ _ _ _ _ hF
        · refine g_iload (pc := 72) h 0 rfl dX6_away_72 ?_
          refine g_iload (pc := 74) h 5 rfl dX6_away_74 ?_
          refine g_icmp_ge (pc := 76) (tgt := 86) h dX6_away_76 (by decide) hF (fun hF => ?_) (fun hF => ?_)
          · refine g_lv (lv' := [(0, .inr (.inl (some t))), (1, .inl x1), (2, .inl x2), (3, .inl x3), (4, .inl x4), (5, .inl x5)]) [1, 2, 3, 4, 5, 6] rfl ?_
            exact kX6_away_86 h hr hnL ht (fun z0 z1 z2 z3 z4 z5 hF => ih z0 z1 z2 z3 z4 z5 hF) _ _ _ _ _ _ hF
          · refine g_lv (lv' := [(0, .inr (.inl (some t))), (1, .inl x1), (2, .inl x2), (5, .inl x5), (6, .inl x_9)]) [1, 2, 3, 6, 0] rfl ?_
            exact kX6_away_79 h hr hnL ht (fun z0 z1 z2 z3 z4 z5 hF => ih z0 z1 z2 z3 z4 z5 hF) _ _ _ _ _ hF
def fX6_away (t : Nat) (x1 : Int32) (x2 : Int32) (w : Wd) : Option (Int32 × Wd) :=
  bnd (fX6_within x1 (0 : Int32) (999 : Int32) w) (fun x_1 w_2 => if x_1 = 0 then
    (some ((-2 : Int32), w_2))
  else
    (bnd (fX6_within x2 (0 : Int32) (1 : Int32) w_2) (fun x_3 w_4 => if x_3 = 0 then
      (some ((-2 : Int32), w_4))
    else
      (fX6_away_31 t FU x1 x2 (-1 : Int32) (-1 : Int32) (0 : Int32) w_4))))
set_option maxHeartbeats 4000000 in
theorem mX6_away {Γ : En} {t : Nat} {x1 : Int32} {x2 : Int32} {w : Wd} (ht : t < wn w ∧ kd t = 6) : MtI Γ yX6_away cX6_away 7 (some .int) 10 0 0 [rv Γ (some t), .int x1, .int x2] w (fX6_away t x1 x2 w) := by
  refine mtI [.inr (.inl (some t)), .inl x1, .inl x2] rfl (Nat.le_of_ble_eq_true rfl) (fun X hΓ hnL hn0 h _ hr hF => ?_)
  subst hΓ
  have ht : InN X t 6 := ⟨by rw [hn0]; exact ht.1, ht.2⟩
  have h : Ok X cX6_away RX6 10 0 0 := h
  have hj : ∀ j, j < 7 → j < nLX X := fun j q => by rw [hnL]; exact q
  show G X 0 0 0 [(0, .inr (.inl (some t))), (1, .inl x1), (2, .inl x2)] [] w
  unfold fX6_away at hF
  refine g_iload_n (pc := 0) h 1 rfl dX6_away_0 ?_
  refine g_iconst (pc := 1) (v := (0 : Int32)) h dX6_away_1 (by decide) ?_
  refine g_sipush (pc := 2) (v := (999 : Int32)) h dX6_away_2 (by decide) ?_
  refine g_csI (pc := 5) (st := []) h mX6_within csX6_114 (by decide) ⟨by decide, by decide⟩ (Nat.le_of_ble_eq_true rfl) rfl rfl dX6_away_5 hF (fun x_1 w_2 hF => ?_)
  refine g_if_eq (pc := 8) (tgt := 20) h dX6_away_8 (by decide) hF (fun hF => ?_) (fun hF => ?_)
  · refine g_bipush (pc := 20) (v := (-2 : Int32)) h dX6_away_20 (by decide) ?_
    exact g_iret (pc := 22) h hr ⟨Nat.le_refl _, Nat.le_refl _⟩ hF dX6_away_22
  · refine g_iload_n (pc := 11) h 2 rfl dX6_away_11 ?_
    refine g_iconst (pc := 12) (v := (0 : Int32)) h dX6_away_12 (by decide) ?_
    refine g_iconst (pc := 13) (v := (1 : Int32)) h dX6_away_13 (by decide) ?_
    refine g_csI (pc := 14) (st := []) h mX6_within csX6_114 (by decide) ⟨by decide, by decide⟩ (Nat.le_of_ble_eq_true rfl) rfl rfl dX6_away_14 hF (fun x_3 w_4 hF => ?_)
    refine g_if_ne (pc := 17) (tgt := 23) h dX6_away_17 (by decide) hF (fun hF => ?_) (fun hF => ?_)
    · refine g_iconst (pc := 23) (v := (-1 : Int32)) h dX6_away_23 (by decide) ?_
      refine g_istore_n (pc := 24) (lv' := [(3, .inl (-1 : Int32)), (0, .inr (.inl (some t))), (1, .inl x1), (2, .inl x2)]) h dX6_away_24 (hj 3 (by decide)) rfl ?_
      refine g_iconst (pc := 25) (v := (-1 : Int32)) h dX6_away_25 (by decide) ?_
      refine g_istore (pc := 26) (lv' := [(4, .inl (-1 : Int32)), (3, .inl (-1 : Int32)), (0, .inr (.inl (some t))), (1, .inl x1), (2, .inl x2)]) h dX6_away_26 (hj 4 (by decide)) rfl ?_
      refine g_iconst (pc := 28) (v := (0 : Int32)) h dX6_away_28 (by decide) ?_
      refine g_istore (pc := 29) (lv' := [(5, .inl (0 : Int32)), (4, .inl (-1 : Int32)), (3, .inl (-1 : Int32)), (0, .inr (.inl (some t))), (1, .inl x1), (2, .inl x2)]) h dX6_away_29 (hj 5 (by decide)) rfl ?_
      refine g_lv (lv' := [(0, .inr (.inl (some t))), (1, .inl x1), (2, .inl x2), (3, .inl (-1 : Int32)), (4, .inl (-1 : Int32)), (5, .inl (0 : Int32))]) [3, 4, 5, 2, 1, 0] rfl ?_
      exact kX6_away_31 h hr hnL ht _ _ _ _ _ _ _ hF
    · refine g_bipush (pc := 20) (v := (-2 : Int32)) h dX6_away_20 (by decide) ?_
      exact g_iret (pc := 22) h hr ⟨Nat.le_refl _, Nat.le_refl _⟩ hF dX6_away_22
def fX6_stepsOfAll_4 (t : Nat) : Nat → Int32 → Int32 → Int32 → Wd → Option (Int32 × Wd)
  | 0 => fun _ _ _ _ => none
  | n + 1 => fun x1 x2 x3 w =>
    if (gI w t 3) ≤ x3 then
      (some (x2, w))
    else
      (dr (gR w t 2) 12 w (fun a_1 => grd (vin x3 (ln a_1)) (bnd (fX6_thinkOtherwise t (gR w a_1 x3.toNatClampNeg) w) (fun u_2 w_3 => dr (gR w_3 t 9) 4 w_3 (fun a_4 => bnd (fX4_stepBehind a_4 x1 w_3) (fun x_5 w_6 => lt (x2 + x_5) (fun x2_7 => fX6_stepsOfAll_4 t n x1 x2_7 (x3 + (1 : Int32)) w_6)))))))
set_option maxHeartbeats 4000000 in
theorem kX6_stepsOfAll_4 {X : Cx} (h : Ok X cX6_stepsOfAll RX6 10 0 0) (hr : RetI X .int 0 0) (hnL : nLX X = 4) {t : Nat} (ht : InN X t 6) : ∀ (fu : Nat) (x1 : Int32) (x2 : Int32) (x3 : Int32) (w : Wd), OkR X Value.int (fX6_stepsOfAll_4 t fu x1 x2 x3 w) → G X 0 0 4 [(0, .inr (.inl (some t))), (1, .inl x1), (2, .inl x2), (3, .inl x3)] [] w := by
  have hj : ∀ j, j < 4 → j < nLX X := fun j q => by rw [hnL]; exact q
  intro fu
  induction fu with
  | zero => intro x1 x2 x3 w hF; exact okN hF
  | succ fu ih =>
    intro x1 x2 x3 w hF
    rw [fX6_stepsOfAll_4] at hF
    refine g_iload_n (pc := 4) h 3 rfl dX6_stepsOfAll_4 ?_
    refine g_aload_n (pc := 5) h 0 rfl dX6_stepsOfAll_5 ?_
    refine g_getI (pc := 6) h fdX6_22 (inw ht) (by decide) dX6_stepsOfAll_6 ?_
    refine g_icmp_ge (pc := 9) (tgt := 39) h dX6_stepsOfAll_9 (by decide) hF (fun hF => ?_) (fun hF => ?_)
    · refine g_iload_n (pc := 39) h 2 rfl dX6_stepsOfAll_39 ?_
      exact g_iret (pc := 40) h hr ⟨Nat.le_refl _, Nat.le_refl _⟩ hF dX6_stepsOfAll_40
    · refine g_aload_n (pc := 12) h 0 rfl dX6_stepsOfAll_12 ?_
      refine g_aload_n (pc := 13) h 0 rfl dX6_stepsOfAll_13 ?_
      refine g_getR (pc := 14) h fdX6_18 (inw ht) rfl dX6_stepsOfAll_14 ?_
      refine g_iload_n (pc := 17) h 3 rfl dX6_stepsOfAll_17 ?_
      refine g_dr hF (fun a_1 e_a_1 h_a_1 hF => ?_)
      rw [e_a_1]
      obtain ⟨g_1, hF⟩ := grd_ok hF
      refine g_aald (pc := 18) h (by decide) rfl h_a_1 g_1 dX6_stepsOfAll_18 ?_
      refine g_cvV (pc := 19) (st := []) h mX6_thinkOtherwise cvX6_211 (inw ht) (by decide) ⟨by decide, by decide⟩ (Nat.le_of_ble_eq_true rfl) rfl rfl dX6_stepsOfAll_19 hF (fun u_2 w_3 hF => ?_)
      refine g_iload_n (pc := 22) h 2 rfl dX6_stepsOfAll_22 ?_
      refine g_aload_n (pc := 23) h 0 rfl dX6_stepsOfAll_23 ?_
      refine g_getR (pc := 24) h fdX6_98 (inw ht) rfl dX6_stepsOfAll_24 ?_
      refine g_iload_n (pc := 27) h 1 rfl dX6_stepsOfAll_27 ?_
      refine g_dr hF (fun a_4 e_a_4 h_a_4 hF => ?_)
      rw [e_a_4]
      refine g_cvI (pc := 28) (st := [.int x2]) h mX4_stepBehind cvX6_180 h_a_4 (by decide) ⟨by decide, by decide⟩ (Nat.le_of_ble_eq_true rfl) rfl rfl dX6_stepsOfAll_28 hF (fun x_5 w_6 hF => ?_)
      refine g_iadd (pc := 31) h dX6_stepsOfAll_31 ?_
      refine g_t hF (fun x2_7 hF => ?_)
      refine g_istore_n (pc := 32) (lv' := [(2, .inl x2_7), (0, .inr (.inl (some t))), (1, .inl x1), (3, .inl x3)]) h dX6_stepsOfAll_32 (hj 2 (by decide)) rfl ?_
      refine g_iinc (pc := 33) (lv' := [(3, .inl (x3 + (1 : Int32))), (2, .inl x2_7), (0, .inr (.inl (some t))), (1, .inl x1)]) h 3 rfl dX6_stepsOfAll_33 (dv := (1 : Int32)) (by decide) (hj 3 (by decide)) rfl ?_
      refine g_goto (pc := 36) (tgt := 4) h dX6_stepsOfAll_36 (by decide) ?_
      refine g_lv (lv' := [(0, .inr (.inl (some t))), (1, .inl x1), (2, .inl x2_7), (3, .inl (x3 + (1 : Int32)))]) [2, 3, 1, 0] rfl ?_
      exact ih _ _ _ _ hF
def fX6_stepsOfAll (t : Nat) (x1 : Int32) (w : Wd) : Option (Int32 × Wd) :=
  fX6_stepsOfAll_4 t FU x1 (0 : Int32) (0 : Int32) w
set_option maxHeartbeats 4000000 in
theorem mX6_stepsOfAll {Γ : En} {t : Nat} {x1 : Int32} {w : Wd} (ht : t < wn w ∧ kd t = 6) : MtI Γ yX6_stepsOfAll cX6_stepsOfAll 4 (some .int) 10 0 0 [rv Γ (some t), .int x1] w (fX6_stepsOfAll t x1 w) := by
  refine mtI [.inr (.inl (some t)), .inl x1] rfl (Nat.le_of_ble_eq_true rfl) (fun X hΓ hnL hn0 h _ hr hF => ?_)
  subst hΓ
  have ht : InN X t 6 := ⟨by rw [hn0]; exact ht.1, ht.2⟩
  have h : Ok X cX6_stepsOfAll RX6 10 0 0 := h
  have hj : ∀ j, j < 4 → j < nLX X := fun j q => by rw [hnL]; exact q
  show G X 0 0 0 [(0, .inr (.inl (some t))), (1, .inl x1)] [] w
  unfold fX6_stepsOfAll at hF
  refine g_iconst (pc := 0) (v := (0 : Int32)) h dX6_stepsOfAll_0 (by decide) ?_
  refine g_istore_n (pc := 1) (lv' := [(2, .inl (0 : Int32)), (0, .inr (.inl (some t))), (1, .inl x1)]) h dX6_stepsOfAll_1 (hj 2 (by decide)) rfl ?_
  refine g_iconst (pc := 2) (v := (0 : Int32)) h dX6_stepsOfAll_2 (by decide) ?_
  refine g_istore_n (pc := 3) (lv' := [(3, .inl (0 : Int32)), (2, .inl (0 : Int32)), (0, .inr (.inl (some t))), (1, .inl x1)]) h dX6_stepsOfAll_3 (hj 3 (by decide)) rfl ?_
  refine g_lv (lv' := [(0, .inr (.inl (some t))), (1, .inl x1), (2, .inl (0 : Int32)), (3, .inl (0 : Int32))]) [2, 3, 1, 0] rfl ?_
  exact kX6_stepsOfAll_4 h hr hnL ht _ _ _ _ _ hF
def fX6_keeper_75 (k35 : Int32 → Int32 → Int32 → Int32 → Int32 → Wd → Option (Int32 × Wd)) (t : Nat) (x1 : Int32) (x2 : Int32) (x3 : Int32) (x4 : Int32) (x5 : Int32) (w : Wd) : Option (Int32 × Wd) :=
  k35 x1 x2 x3 x4 (x5 + (1 : Int32)) w
set_option maxHeartbeats 4000000 in
theorem kX6_keeper_75 {X : Cx} (h : Ok X cX6_keeper RX6 11 0 0) (hr : RetI X .int 0 0) (hnL : nLX X = 7) {t : Nat} (ht : InN X t 6) {k35 : Int32 → Int32 → Int32 → Int32 → Int32 → Wd → Option (Int32 × Wd)} (hk35 : ∀ (x1 : Int32) (x2 : Int32) (x3 : Int32) (x4 : Int32) (x5 : Int32) (w : Wd), OkR X Value.int (k35 x1 x2 x3 x4 x5 w) → G X 0 0 35 [(0, .inr (.inl (some t))), (1, .inl x1), (2, .inl x2), (3, .inl x3), (4, .inl x4), (5, .inl x5)] [] w) : ∀ (x1 : Int32) (x2 : Int32) (x3 : Int32) (x4 : Int32) (x5 : Int32) (w : Wd), OkR X Value.int (fX6_keeper_75 k35 t x1 x2 x3 x4 x5 w) → G X 0 0 75 [(0, .inr (.inl (some t))), (1, .inl x1), (2, .inl x2), (3, .inl x3), (4, .inl x4), (5, .inl x5)] [] w := by
  have hj : ∀ j, j < 7 → j < nLX X := fun j q => by rw [hnL]; exact q
  intro x1 x2 x3 x4 x5 w hF
  unfold fX6_keeper_75 at hF
  refine g_iinc (pc := 75) (lv' := [(5, .inl (x5 + (1 : Int32))), (0, .inr (.inl (some t))), (1, .inl x1), (2, .inl x2), (3, .inl x3), (4, .inl x4)]) h 5 rfl dX6_keeper_75 (dv := (1 : Int32)) (by decide) (hj 5 (by decide)) rfl ?_
  refine g_goto (pc := 78) (tgt := 35) h dX6_keeper_78 (by decide) ?_
  refine g_lv (lv' := [(0, .inr (.inl (some t))), (1, .inl x1), (2, .inl x2), (3, .inl x3), (4, .inl x4), (5, .inl (x5 + (1 : Int32)))]) [1, 2, 3, 4, 5, 0] rfl ?_
  exact hk35 _ _ _ _ _ _ hF
def fX6_keeper_35 (t : Nat) : Nat → Int32 → Int32 → Int32 → Int32 → Int32 → Wd → Option (Int32 × Wd)
  | 0 => fun _ _ _ _ _ _ => none
  | n + 1 => fun x1 x2 x3 x4 x5 w =>
    if (8 : Int32) ≤ x5 then
      (if x2 = 0 then
        (some (x3, w))
      else
        (some (x4, w)))
    else
      (bnd (fX6_weighAsNow t w) (fun u_9 w_10 => dr (gR w_10 t 1) 8 w_10 (fun a_11 => grd (vin x5 (ln a_11)) (lw (sI w_10 a_11 x5.toNatClampNeg (0 : Int32)) (fun w_12 => bnd (fX6_stepsOfAll t x1 w_12) (fun x_13 w_14 => if x_13 ≤ x4 then
        (fX6_keeper_75 (fX6_keeper_35 t n) t x1 x2 x3 x4 x5 w_14)
      else
        (fX6_keeper_75 (fX6_keeper_35 t n) t x1 x2 x5 x_13 x5 w_14)))))))
set_option maxHeartbeats 4000000 in
theorem kX6_keeper_35 {X : Cx} (h : Ok X cX6_keeper RX6 11 0 0) (hr : RetI X .int 0 0) (hnL : nLX X = 7) {t : Nat} (ht : InN X t 6) : ∀ (fu : Nat) (x1 : Int32) (x2 : Int32) (x3 : Int32) (x4 : Int32) (x5 : Int32) (w : Wd), OkR X Value.int (fX6_keeper_35 t fu x1 x2 x3 x4 x5 w) → G X 0 0 35 [(0, .inr (.inl (some t))), (1, .inl x1), (2, .inl x2), (3, .inl x3), (4, .inl x4), (5, .inl x5)] [] w := by
  have hj : ∀ j, j < 7 → j < nLX X := fun j q => by rw [hnL]; exact q
  intro fu
  induction fu with
  | zero => intro x1 x2 x3 x4 x5 w hF; exact okN hF
  | succ fu ih =>
    intro x1 x2 x3 x4 x5 w hF
    rw [fX6_keeper_35] at hF
    refine g_iload (pc := 35) h 5 rfl dX6_keeper_35 ?_
    refine g_bipush (pc := 37) (v := (8 : Int32)) h dX6_keeper_37 (by decide) ?_
    refine g_icmp_ge (pc := 39) (tgt := 81) h dX6_keeper_39 (by decide) hF (fun hF => ?_) (fun hF => ?_)
    · refine g_iload_n (pc := 81) h 2 rfl dX6_keeper_81 ?_
      refine g_if_ne (pc := 82) (tgt := 89) h dX6_keeper_82 (by decide) hF (fun hF => ?_) (fun hF => ?_)
      · refine g_iload (pc := 89) h 4 rfl dX6_keeper_89 ?_
        exact g_iret (pc := 91) h hr ⟨Nat.le_refl _, Nat.le_refl _⟩ hF dX6_keeper_91
      · refine g_iload_n (pc := 85) h 3 rfl dX6_keeper_85 ?_
        refine g_goto (pc := 86) (tgt := 91) h dX6_keeper_86 (by decide) ?_
        exact g_iret (pc := 91) h hr ⟨Nat.le_refl _, Nat.le_refl _⟩ hF dX6_keeper_91
    · refine g_aload_n (pc := 42) h 0 rfl dX6_keeper_42 ?_
      refine g_cvV (pc := 43) (st := []) h mX6_weighAsNow cvX6_208 (inw ht) (by decide) ⟨by decide, by decide⟩ (Nat.le_of_ble_eq_true rfl) rfl rfl dX6_keeper_43 hF (fun u_9 w_10 hF => ?_)
      refine g_aload_n (pc := 46) h 0 rfl dX6_keeper_46 ?_
      refine g_getR (pc := 47) h fdX6_13 (inw ht) rfl dX6_keeper_47 ?_
      refine g_iload (pc := 50) h 5 rfl dX6_keeper_50 ?_
      refine g_iconst (pc := 52) (v := (0 : Int32)) h dX6_keeper_52 (by decide) ?_
      refine g_dr hF (fun a_11 e_a_11 h_a_11 hF => ?_)
      rw [e_a_11]
      obtain ⟨g_1, hF⟩ := grd_ok hF
      refine g_iast (pc := 53) h h_a_11 g_1 dX6_keeper_53 ?_
      refine g_w hF (fun w_12 hF => ?_)
      refine g_aload_n (pc := 54) h 0 rfl dX6_keeper_54 ?_
      refine g_iload_n (pc := 55) h 1 rfl dX6_keeper_55 ?_
      refine g_cvI (pc := 56) (st := []) h mX6_stepsOfAll cvX6_217 (inw ht) (by decide) ⟨by decide, by decide⟩ (Nat.le_of_ble_eq_true rfl) rfl rfl dX6_keeper_56 hF (fun x_13 w_14 hF => ?_)
      refine g_istore (pc := 59) (lv' := [(6, .inl x_13), (0, .inr (.inl (some t))), (1, .inl x1), (2, .inl x2), (3, .inl x3), (4, .inl x4), (5, .inl x5)]) h dX6_keeper_59 (hj 6 (by decide)) rfl ?_
      refine g_iload (pc := 61) h 0 rfl dX6_keeper_61 ?_
      refine g_iload (pc := 63) h 5 rfl dX6_keeper_63 ?_
      refine g_icmp_le (pc := 65) (tgt := 75) h dX6_keeper_65 (by decide) hF (fun hF => ?_) (fun hF => ?_)
      · refine g_lv (lv' := [(0, .inr (.inl (some t))), (1, .inl x1), (2, .inl x2), (3, .inl x3), (4, .inl x4), (5, .inl x5)]) [1, 2, 3, 4, 5, 6] rfl ?_
        exact kX6_keeper_75 h hr hnL ht (fun z0 z1 z2 z3 z4 z5 hF => ih z0 z1 z2 z3 z4 z5 hF) _ _ _ _ _ _ hF
      · refine g_iload (pc := 68) h 6 rfl dX6_keeper_68 ?_
        refine g_istore_n (pc := 70) (lv' := [(3, .inl x5), (6, .inl x_13), (0, .inr (.inl (some t))), (1, .inl x1), (2, .inl x2), (4, .inl x4), (5, .inl x5)]) h dX6_keeper_70 (hj 3 (by decide)) rfl ?_
        refine g_iload (pc := 71) h 1 rfl dX6_keeper_71 ?_
        refine g_istore (pc := 73) (lv' := [(4, .inl x_13), (3, .inl x5), (6, .inl x_13), (0, .inr (.inl (some t))), (1, .inl x1), (2, .inl x2), (5, .inl x5)]) h dX6_keeper_73 (hj 4 (by decide)) rfl ?_
        refine g_lv (lv' := [(0, .inr (.inl (some t))), (1, .inl x1), (2, .inl x2), (3, .inl x5), (4, .inl x_13), (5, .inl x5)]) [3, 4, 5, 1, 0, 6] rfl ?_
        exact kX6_keeper_75 h hr hnL ht (fun z0 z1 z2 z3 z4 z5 hF => ih z0 z1 z2 z3 z4 z5 hF) _ _ _ _ _ _ hF
def fX6_keeper (t : Nat) (x1 : Int32) (x2 : Int32) (w : Wd) : Option (Int32 × Wd) :=
  bnd (fX6_isDays x1 w) (fun x_1 w_2 => if x_1 = 0 then
    (some ((-2 : Int32), w_2))
  else
    (bnd (fX6_within x2 (0 : Int32) (1 : Int32) w_2) (fun x_3 w_4 => if x_3 = 0 then
      (some ((-2 : Int32), w_4))
    else
      (bnd (fX6_weighAsNow t w_4) (fun u_5 w_6 => bnd (fX6_stepsOfAll t x1 w_6) (fun x_7 w_8 => fX6_keeper_35 t FU x1 x2 (-1 : Int32) x_7 (0 : Int32) w_8))))))
set_option maxHeartbeats 4000000 in
theorem mX6_keeper {Γ : En} {t : Nat} {x1 : Int32} {x2 : Int32} {w : Wd} (ht : t < wn w ∧ kd t = 6) : MtI Γ yX6_keeper cX6_keeper 7 (some .int) 11 0 0 [rv Γ (some t), .int x1, .int x2] w (fX6_keeper t x1 x2 w) := by
  refine mtI [.inr (.inl (some t)), .inl x1, .inl x2] rfl (Nat.le_of_ble_eq_true rfl) (fun X hΓ hnL hn0 h _ hr hF => ?_)
  subst hΓ
  have ht : InN X t 6 := ⟨by rw [hn0]; exact ht.1, ht.2⟩
  have h : Ok X cX6_keeper RX6 11 0 0 := h
  have hj : ∀ j, j < 7 → j < nLX X := fun j q => by rw [hnL]; exact q
  show G X 0 0 0 [(0, .inr (.inl (some t))), (1, .inl x1), (2, .inl x2)] [] w
  unfold fX6_keeper at hF
  refine g_iload_n (pc := 0) h 1 rfl dX6_keeper_0 ?_
  refine g_csI (pc := 1) (st := []) h mX6_isDays csX6_177 (by decide) ⟨by decide, by decide⟩ (Nat.le_of_ble_eq_true rfl) rfl rfl dX6_keeper_1 hF (fun x_1 w_2 hF => ?_)
  refine g_if_eq (pc := 4) (tgt := 16) h dX6_keeper_4 (by decide) hF (fun hF => ?_) (fun hF => ?_)
  · refine g_bipush (pc := 16) (v := (-2 : Int32)) h dX6_keeper_16 (by decide) ?_
    exact g_iret (pc := 18) h hr ⟨Nat.le_refl _, Nat.le_refl _⟩ hF dX6_keeper_18
  · refine g_iload_n (pc := 7) h 2 rfl dX6_keeper_7 ?_
    refine g_iconst (pc := 8) (v := (0 : Int32)) h dX6_keeper_8 (by decide) ?_
    refine g_iconst (pc := 9) (v := (1 : Int32)) h dX6_keeper_9 (by decide) ?_
    refine g_csI (pc := 10) (st := []) h mX6_within csX6_114 (by decide) ⟨by decide, by decide⟩ (Nat.le_of_ble_eq_true rfl) rfl rfl dX6_keeper_10 hF (fun x_3 w_4 hF => ?_)
    refine g_if_ne (pc := 13) (tgt := 19) h dX6_keeper_13 (by decide) hF (fun hF => ?_) (fun hF => ?_)
    · refine g_aload_n (pc := 19) h 0 rfl dX6_keeper_19 ?_
      refine g_cvV (pc := 20) (st := []) h mX6_weighAsNow cvX6_208 (inw ht) (by decide) ⟨by decide, by decide⟩ (Nat.le_of_ble_eq_true rfl) rfl rfl dX6_keeper_20 hF (fun u_5 w_6 hF => ?_)
      refine g_iconst (pc := 23) (v := (-1 : Int32)) h dX6_keeper_23 (by decide) ?_
      refine g_istore_n (pc := 24) (lv' := [(3, .inl (-1 : Int32)), (0, .inr (.inl (some t))), (1, .inl x1), (2, .inl x2)]) h dX6_keeper_24 (hj 3 (by decide)) rfl ?_
      refine g_aload_n (pc := 25) h 1 rfl dX6_keeper_25 ?_
      refine g_iload_n (pc := 26) h 2 rfl dX6_keeper_26 ?_
      refine g_cvI (pc := 27) (st := []) h mX6_stepsOfAll cvX6_217 (inw ht) (by decide) ⟨by decide, by decide⟩ (Nat.le_of_ble_eq_true rfl) rfl rfl dX6_keeper_27 hF (fun x_7 w_8 hF => ?_)
      refine g_istore (pc := 30) (lv' := [(4, .inl x_7), (3, .inl (-1 : Int32)), (0, .inr (.inl (some t))), (1, .inl x1), (2, .inl x2)]) h dX6_keeper_30 (hj 4 (by decide)) rfl ?_
      refine g_iconst (pc := 32) (v := (0 : Int32)) h dX6_keeper_32 (by decide) ?_
      refine g_istore (pc := 33) (lv' := [(5, .inl (0 : Int32)), (4, .inl x_7), (3, .inl (-1 : Int32)), (0, .inr (.inl (some t))), (1, .inl x1), (2, .inl x2)]) h dX6_keeper_33 (hj 5 (by decide)) rfl ?_
      refine g_lv (lv' := [(0, .inr (.inl (some t))), (1, .inl x1), (2, .inl x2), (3, .inl (-1 : Int32)), (4, .inl x_7), (5, .inl (0 : Int32))]) [3, 4, 5, 2, 1, 0] rfl ?_
      exact kX6_keeper_35 h hr hnL ht _ _ _ _ _ _ _ hF
    · refine g_bipush (pc := 16) (v := (-2 : Int32)) h dX6_keeper_16 (by decide) ?_
      exact g_iret (pc := 18) h hr ⟨Nat.le_refl _, Nat.le_refl _⟩ hF dX6_keeper_18
def fX6_spare_103 (k41 : Int32 → Option Nat → Int32 → Int32 → Int32 → Wd → Option (Int32 × Wd)) (t : Nat) (x2 : Int32) (r3 : Option Nat) (x4 : Int32) (x5 : Int32) (x6 : Int32) (w : Wd) : Option (Int32 × Wd) :=
  k41 x2 r3 x4 x5 (x6 + (1 : Int32)) w
set_option maxHeartbeats 4000000 in
theorem kX6_spare_103 {X : Cx} (h : Ok X cX6_spare RX6 10 0 0) (hr : RetI X .int 0 0) (hnL : nLX X = 7) {t : Nat} (ht : InN X t 6) {k41 : Int32 → Option Nat → Int32 → Int32 → Int32 → Wd → Option (Int32 × Wd)} (hk41 : ∀ (x2 : Int32) (r3 : Option Nat) (x4 : Int32) (x5 : Int32) (x6 : Int32) (w : Wd), OkR X Value.int (k41 x2 r3 x4 x5 x6 w) → G X 0 0 41 [(0, .inr (.inl (some t))), (2, .inl x2), (3, .inr (.inl r3)), (4, .inl x4), (5, .inl x5), (6, .inl x6)] [] w) : ∀ (x2 : Int32) (r3 : Option Nat) (x4 : Int32) (x5 : Int32) (x6 : Int32) (w : Wd), OkR X Value.int (fX6_spare_103 k41 t x2 r3 x4 x5 x6 w) → G X 0 0 103 [(0, .inr (.inl (some t))), (2, .inl x2), (3, .inr (.inl r3)), (4, .inl x4), (5, .inl x5), (6, .inl x6)] [] w := by
  have hj : ∀ j, j < 7 → j < nLX X := fun j q => by rw [hnL]; exact q
  intro x2 r3 x4 x5 x6 w hF
  unfold fX6_spare_103 at hF
  refine g_iinc (pc := 103) (lv' := [(6, .inl (x6 + (1 : Int32))), (0, .inr (.inl (some t))), (2, .inl x2), (3, .inr (.inl r3)), (4, .inl x4), (5, .inl x5)]) h 5 rfl dX6_spare_103 (dv := (1 : Int32)) (by decide) (hj 6 (by decide)) rfl ?_
  refine g_goto (pc := 106) (tgt := 41) h dX6_spare_106 (by decide) ?_
  refine g_lv (lv' := [(0, .inr (.inl (some t))), (2, .inl x2), (3, .inr (.inl r3)), (4, .inl x4), (5, .inl x5), (6, .inl (x6 + (1 : Int32)))]) [1, 2, 3, 4, 5, 0] rfl ?_
  exact hk41 _ _ _ _ _ _ hF
def fX6_spare_41 (t : Nat) : Nat → Int32 → Option Nat → Int32 → Int32 → Int32 → Wd → Option (Int32 × Wd)
  | 0 => fun _ _ _ _ _ _ => none
  | n + 1 => fun x2 r3 x4 x5 x6 w =>
    if (8 : Int32) ≤ x6 then
      (some (x5, w))
    else
      (dr r3 5 w (fun a_10 => bnd (fX6_has ((gI w a_10 2) &&& (gI w a_10 3)) x6 w) (fun x_11 w_12 => if x_11 = 0 then
        (fX6_spare_103 (fX6_spare_41 t n) t x2 (some a_10) x4 x5 x6 w_12)
      else
        (bnd (fX6_thinkTold t (some a_10) ((gI w_12 a_10 3) &&& (((1 : Int32) <<< (x6 &&& 31)) ^^^ (-1 : Int32))) w_12) (fun u_13 w_14 => dr (gR w_14 t 9) 4 w_14 (fun a_15 => bnd (fX4_stepBehind a_15 x2 w_14) (fun x_16 w_17 => if x_16 < x4 then
          (fX6_spare_103 (fX6_spare_41 t n) t x2 (some a_10) x4 x5 x6 w_17)
        else
          (lt (x5 ||| ((1 : Int32) <<< (x6 &&& 31))) (fun x5_18 => fX6_spare_103 (fX6_spare_41 t n) t x2 (some a_10) x4 x5_18 x6 w_17)))))))))
set_option maxHeartbeats 4000000 in
theorem kX6_spare_41 {X : Cx} (h : Ok X cX6_spare RX6 10 0 0) (hr : RetI X .int 0 0) (hnL : nLX X = 7) {t : Nat} (ht : InN X t 6) : ∀ (fu : Nat) (x2 : Int32) (r3 : Option Nat) (x4 : Int32) (x5 : Int32) (x6 : Int32) (w : Wd), OkR X Value.int (fX6_spare_41 t fu x2 r3 x4 x5 x6 w) → G X 0 0 41 [(0, .inr (.inl (some t))), (2, .inl x2), (3, .inr (.inl r3)), (4, .inl x4), (5, .inl x5), (6, .inl x6)] [] w := by
  have hj : ∀ j, j < 7 → j < nLX X := fun j q => by rw [hnL]; exact q
  intro fu
  induction fu with
  | zero => intro x2 r3 x4 x5 x6 w hF; exact okN hF
  | succ fu ih =>
    intro x2 r3 x4 x5 x6 w hF
    rw [fX6_spare_41] at hF
    refine g_iload (pc := 41) h 5 rfl dX6_spare_41 ?_
    refine g_bipush (pc := 43) (v := (8 : Int32)) h dX6_spare_43 (by decide) ?_
    refine g_icmp_ge (pc := 45) (tgt := 109) h dX6_spare_45 (by decide) hF (fun hF => ?_) (fun hF => ?_)
    · refine g_iload (pc := 109) h 4 rfl dX6_spare_109 ?_
      exact g_iret (pc := 111) h hr ⟨Nat.le_refl _, Nat.le_refl _⟩ hF dX6_spare_111
    · refine g_aload_n (pc := 48) h 2 rfl dX6_spare_48 ?_
      refine g_dr hF (fun a_10 e_a_10 h_a_10 hF => ?_)
      rw [e_a_10]
      refine g_getI (pc := 49) h fdX6_195 h_a_10 (by decide) dX6_spare_49 ?_
      refine g_aload_n (pc := 52) h 2 rfl dX6_spare_52 ?_
      refine g_getI (pc := 53) h fdX6_220 h_a_10 (by decide) dX6_spare_53 ?_
      refine g_iand (pc := 56) h dX6_spare_56 ?_
      refine g_iload (pc := 57) h 5 rfl dX6_spare_57 ?_
      refine g_csI (pc := 59) (st := []) h mX6_has csX6_223 (by decide) ⟨by decide, by decide⟩ (Nat.le_of_ble_eq_true rfl) rfl rfl dX6_spare_59 hF (fun x_11 w_12 hF => ?_)
      refine g_if_eq (pc := 62) (tgt := 103) h dX6_spare_62 (by decide) hF (fun hF => ?_) (fun hF => ?_)
      · exact kX6_spare_103 h hr hnL ht (fun z0 z1 z2 z3 z4 z5 hF => ih z0 z1 z2 z3 z4 z5 hF) _ _ _ _ _ _ hF
      · refine g_aload_n (pc := 65) h 0 rfl dX6_spare_65 ?_
        refine g_aload_n (pc := 66) h 2 rfl dX6_spare_66 ?_
        refine g_aload_n (pc := 67) h 2 rfl dX6_spare_67 ?_
        refine g_getI (pc := 68) h fdX6_220 h_a_10 (by decide) dX6_spare_68 ?_
        refine g_iconst (pc := 71) (v := (1 : Int32)) h dX6_spare_71 (by decide) ?_
        refine g_iload (pc := 72) h 5 rfl dX6_spare_72 ?_
        refine g_ishl (pc := 74) h dX6_spare_74 ?_
        refine g_iconst (pc := 75) (v := (-1 : Int32)) h dX6_spare_75 (by decide) ?_
        refine g_ixor (pc := 76) h dX6_spare_76 ?_
        refine g_iand (pc := 77) h dX6_spare_77 ?_
        refine g_cvV (pc := 78) (st := []) h mX6_thinkTold cvX6_226 (inw ht) (by decide) ⟨by decide, by decide⟩ (Nat.le_of_ble_eq_true rfl) rfl rfl dX6_spare_78 hF (fun u_13 w_14 hF => ?_)
        refine g_aload_n (pc := 81) h 0 rfl dX6_spare_81 ?_
        refine g_getR (pc := 82) h fdX6_98 (inw ht) rfl dX6_spare_82 ?_
        refine g_iload_n (pc := 85) h 1 rfl dX6_spare_85 ?_
        refine g_dr hF (fun a_15 e_a_15 h_a_15 hF => ?_)
        rw [e_a_15]
        refine g_cvI (pc := 86) (st := []) h mX4_stepBehind cvX6_180 h_a_15 (by decide) ⟨by decide, by decide⟩ (Nat.le_of_ble_eq_true rfl) rfl rfl dX6_spare_86 hF (fun x_16 w_17 hF => ?_)
        refine g_iload (pc := 89) h 3 rfl dX6_spare_89 ?_
        refine g_icmp_lt (pc := 91) (tgt := 103) h dX6_spare_91 (by decide) hF (fun hF => ?_) (fun hF => ?_)
        · exact kX6_spare_103 h hr hnL ht (fun z0 z1 z2 z3 z4 z5 hF => ih z0 z1 z2 z3 z4 z5 hF) _ _ _ _ _ _ hF
        · refine g_iload (pc := 94) h 4 rfl dX6_spare_94 ?_
          refine g_iconst (pc := 96) (v := (1 : Int32)) h dX6_spare_96 (by decide) ?_
          refine g_iload (pc := 97) h 5 rfl dX6_spare_97 ?_
          refine g_ishl (pc := 99) h dX6_spare_99 ?_
          refine g_ior (pc := 100) h dX6_spare_100 ?_
          refine g_t hF (fun x5_18 hF => ?_)
          refine g_istore (pc := 101) (lv' := [(5, .inl x5_18), (0, .inr (.inl (some t))), (2, .inl x2), (3, .inr (.inl (some a_10))), (4, .inl x4), (6, .inl x6)]) h dX6_spare_101 (hj 5 (by decide)) rfl ?_
          refine g_lv (lv' := [(0, .inr (.inl (some t))), (2, .inl x2), (3, .inr (.inl (some a_10))), (4, .inl x4), (5, .inl x5_18), (6, .inl x6)]) [1, 2, 3, 4, 0, 5] rfl ?_
          exact kX6_spare_103 h hr hnL ht (fun z0 z1 z2 z3 z4 z5 hF => ih z0 z1 z2 z3 z4 z5 hF) _ _ _ _ _ _ hF
def fX6_spare (t : Nat) (x1 : Int32) (x2 : Int32) (w : Wd) : Option (Int32 × Wd) :=
  bnd (fX6_walkerAt t x1 w) (fun r_1 w_2 => ifn r_1
    (some ((-2 : Int32), w_2))
    (bnd (fX6_isDays x2 w_2) (fun x_3 w_4 => if x_3 = 0 then
      (some ((-2 : Int32), w_4))
    else
      (bnd (fX6_think t r_1 w_4) (fun u_5 w_6 => dr (gR w_6 t 9) 4 w_6 (fun a_7 => bnd (fX4_stepBehind a_7 x2 w_6) (fun x_8 w_9 => fX6_spare_41 t FU x2 r_1 x_8 (0 : Int32) (0 : Int32) w_9)))))))
set_option maxHeartbeats 4000000 in
theorem mX6_spare {Γ : En} {t : Nat} {x1 : Int32} {x2 : Int32} {w : Wd} (ht : t < wn w ∧ kd t = 6) : MtI Γ yX6_spare cX6_spare 7 (some .int) 10 0 0 [rv Γ (some t), .int x1, .int x2] w (fX6_spare t x1 x2 w) := by
  refine mtI [.inr (.inl (some t)), .inl x1, .inl x2] rfl (Nat.le_of_ble_eq_true rfl) (fun X hΓ hnL hn0 h _ hr hF => ?_)
  subst hΓ
  have ht : InN X t 6 := ⟨by rw [hn0]; exact ht.1, ht.2⟩
  have h : Ok X cX6_spare RX6 10 0 0 := h
  have hj : ∀ j, j < 7 → j < nLX X := fun j q => by rw [hnL]; exact q
  show G X 0 0 0 [(0, .inr (.inl (some t))), (1, .inl x1), (2, .inl x2)] [] w
  unfold fX6_spare at hF
  refine g_aload_n (pc := 0) h 0 rfl dX6_spare_0 ?_
  refine g_iload_n (pc := 1) h 1 rfl dX6_spare_1 ?_
  refine g_cvQ (pc := 2) (st := []) h mX6_walkerAt cvX6_129 (inw ht) (by decide) ⟨by decide, by decide⟩ (Nat.le_of_ble_eq_true rfl) rfl rfl dX6_spare_2 hF (fun r_1 w_2 hF => ?_)
  refine g_astore_n (pc := 5) (lv' := [(3, .inr (.inl r_1)), (0, .inr (.inl (some t))), (1, .inl x1), (2, .inl x2)]) h dX6_spare_5 (hj 3 (by decide)) rfl ?_
  refine g_aload_n (pc := 6) h 0 rfl dX6_spare_6 ?_
  refine g_ifnull (pc := 7) (tgt := 17) h dX6_spare_7 (by decide) hF (fun hF => ?_) (fun hF => ?_)
  · refine g_bipush (pc := 17) (v := (-2 : Int32)) h dX6_spare_17 (by decide) ?_
    exact g_iret (pc := 19) h hr ⟨Nat.le_refl _, Nat.le_refl _⟩ hF dX6_spare_19
  · refine g_iload_n (pc := 10) h 3 rfl dX6_spare_10 ?_
    refine g_csI (pc := 11) (st := []) h mX6_isDays csX6_177 (by decide) ⟨by decide, by decide⟩ (Nat.le_of_ble_eq_true rfl) rfl rfl dX6_spare_11 hF (fun x_3 w_4 hF => ?_)
    refine g_if_ne (pc := 14) (tgt := 20) h dX6_spare_14 (by decide) hF (fun hF => ?_) (fun hF => ?_)
    · refine g_aload_n (pc := 20) h 1 rfl dX6_spare_20 ?_
      refine g_aload_n (pc := 21) h 0 rfl dX6_spare_21 ?_
      refine g_cvV (pc := 22) (st := []) h mX6_think cvX6_133 (inw ht) (by decide) ⟨by decide, by decide⟩ (Nat.le_of_ble_eq_true rfl) rfl rfl dX6_spare_22 hF (fun u_5 w_6 hF => ?_)
      refine g_aload_n (pc := 25) h 1 rfl dX6_spare_25 ?_
      refine g_getR (pc := 26) h fdX6_98 (inw ht) rfl dX6_spare_26 ?_
      refine g_iload_n (pc := 29) h 3 rfl dX6_spare_29 ?_
      refine g_dr hF (fun a_7 e_a_7 h_a_7 hF => ?_)
      rw [e_a_7]
      refine g_cvI (pc := 30) (st := []) h mX4_stepBehind cvX6_180 h_a_7 (by decide) ⟨by decide, by decide⟩ (Nat.le_of_ble_eq_true rfl) rfl rfl dX6_spare_30 hF (fun x_8 w_9 hF => ?_)
      refine g_istore (pc := 33) (lv' := [(4, .inl x_8), (3, .inr (.inl r_1)), (0, .inr (.inl (some t))), (1, .inl x1), (2, .inl x2)]) h dX6_spare_33 (hj 4 (by decide)) rfl ?_
      refine g_iconst (pc := 35) (v := (0 : Int32)) h dX6_spare_35 (by decide) ?_
      refine g_istore (pc := 36) (lv' := [(5, .inl (0 : Int32)), (4, .inl x_8), (3, .inr (.inl r_1)), (0, .inr (.inl (some t))), (1, .inl x1), (2, .inl x2)]) h dX6_spare_36 (hj 5 (by decide)) rfl ?_
      refine g_iconst (pc := 38) (v := (0 : Int32)) h dX6_spare_38 (by decide) ?_
      refine g_istore (pc := 39) (lv' := [(6, .inl (0 : Int32)), (5, .inl (0 : Int32)), (4, .inl x_8), (3, .inr (.inl r_1)), (0, .inr (.inl (some t))), (1, .inl x1), (2, .inl x2)]) h dX6_spare_39 (hj 6 (by decide)) rfl ?_
      refine g_lv (lv' := [(0, .inr (.inl (some t))), (2, .inl x2), (3, .inr (.inl r_1)), (4, .inl x_8), (5, .inl (0 : Int32)), (6, .inl (0 : Int32))]) [4, 6, 3, 2, 1, 0] rfl ?_
      exact kX6_spare_41 h hr hnL ht _ _ _ _ _ _ _ hF
    · refine g_bipush (pc := 17) (v := (-2 : Int32)) h dX6_spare_17 (by decide) ?_
      exact g_iret (pc := 19) h hr ⟨Nat.le_refl _, Nat.le_refl _⟩ hF dX6_spare_19
def fX6_kindsBy_44 (k5 : Option Nat → Option Nat → Int32 → Int32 → Wd → Option (Int32 × Wd)) (t : Nat) (r1 : Option Nat) (r2 : Option Nat) (x4 : Int32) (y0 : Int32) (y1 : Int32) (w : Wd) : Option (Int32 × Wd) :=
  bnd (fX6_bit y0 w) (fun x_8 w_9 => lt (y1 ||| (x_8 <<< (x4 &&& 31))) (fun x3_10 => k5 r1 r2 x3_10 (x4 + (1 : Int32)) w_9))
set_option maxHeartbeats 4000000 in
theorem kX6_kindsBy_44 {X : Cx} (h : Ok X cX6_kindsBy RX6 10 0 0) (hr : RetI X .int 0 0) (hnL : nLX X = 5) {t : Nat} (ht : InN X t 6) {k5 : Option Nat → Option Nat → Int32 → Int32 → Wd → Option (Int32 × Wd)} (hk5 : ∀ (r1 : Option Nat) (r2 : Option Nat) (x3 : Int32) (x4 : Int32) (w : Wd), OkR X Value.int (k5 r1 r2 x3 x4 w) → G X 0 0 5 [(0, .inr (.inl (some t))), (1, .inr (.inl r1)), (2, .inr (.inl r2)), (3, .inl x3), (4, .inl x4)] [] w) : ∀ (r1 : Option Nat) (r2 : Option Nat) (x4 : Int32) (y0 : Int32) (y1 : Int32) (w : Wd), OkR X Value.int (fX6_kindsBy_44 k5 t r1 r2 x4 y0 y1 w) → G X 0 0 44 [(0, .inr (.inl (some t))), (1, .inr (.inl r1)), (2, .inr (.inl r2)), (4, .inl x4)] [.int y0, .int y1] w := by
  have hj : ∀ j, j < 5 → j < nLX X := fun j q => by rw [hnL]; exact q
  intro r1 r2 x4 y0 y1 w hF
  unfold fX6_kindsBy_44 at hF
  refine g_csI (pc := 44) (st := [.int y1]) h mX6_bit csX6_156 (by decide) ⟨by decide, by decide⟩ (Nat.le_of_ble_eq_true rfl) rfl rfl dX6_kindsBy_44 hF (fun x_8 w_9 hF => ?_)
  refine g_iload (pc := 47) h 3 rfl dX6_kindsBy_47 ?_
  refine g_ishl (pc := 49) h dX6_kindsBy_49 ?_
  refine g_ior (pc := 50) h dX6_kindsBy_50 ?_
  refine g_t hF (fun x3_10 hF => ?_)
  refine g_istore_n (pc := 51) (lv' := [(3, .inl x3_10), (0, .inr (.inl (some t))), (1, .inr (.inl r1)), (2, .inr (.inl r2)), (4, .inl x4)]) h dX6_kindsBy_51 (hj 3 (by decide)) rfl ?_
  refine g_iinc (pc := 52) (lv' := [(4, .inl (x4 + (1 : Int32))), (3, .inl x3_10), (0, .inr (.inl (some t))), (1, .inr (.inl r1)), (2, .inr (.inl r2))]) h 4 rfl dX6_kindsBy_52 (dv := (1 : Int32)) (by decide) (hj 4 (by decide)) rfl ?_
  refine g_goto (pc := 55) (tgt := 5) h dX6_kindsBy_55 (by decide) ?_
  refine g_lv (lv' := [(0, .inr (.inl (some t))), (1, .inr (.inl r1)), (2, .inr (.inl r2)), (3, .inl x3_10), (4, .inl (x4 + (1 : Int32)))]) [2, 3, 4, 1, 0] rfl ?_
  exact hk5 _ _ _ _ _ hF
def fX6_kindsBy_5 (t : Nat) : Nat → Option Nat → Option Nat → Int32 → Int32 → Wd → Option (Int32 × Wd)
  | 0 => fun _ _ _ _ _ => none
  | n + 1 => fun r1 r2 x3 x4 w =>
    if (6 : Int32) ≤ x4 then
      (some (x3, w))
    else
      (bnd (fX6_think t r2 w) (fun u_1 w_2 => dr (gR w_2 t 9) 4 w_2 (fun a_3 => lw (sI w_2 a_3 0 x4) (fun w_4 => dr (gR w_4 t 9) 4 w_4 (fun a_5 => bnd (fX4_firstOtherwise a_5 r1 w_4) (fun x_6 w_7 => if x_6 = (-1 : Int32) then
        (fX6_kindsBy_44 (fX6_kindsBy_5 t n) t r1 r2 x4 (1 : Int32) x3 w_7)
      else
        (fX6_kindsBy_44 (fX6_kindsBy_5 t n) t r1 r2 x4 (0 : Int32) x3 w_7)))))))
set_option maxHeartbeats 4000000 in
theorem kX6_kindsBy_5 {X : Cx} (h : Ok X cX6_kindsBy RX6 10 0 0) (hr : RetI X .int 0 0) (hnL : nLX X = 5) {t : Nat} (ht : InN X t 6) : ∀ (fu : Nat) (r1 : Option Nat) (r2 : Option Nat) (x3 : Int32) (x4 : Int32) (w : Wd), OkR X Value.int (fX6_kindsBy_5 t fu r1 r2 x3 x4 w) → G X 0 0 5 [(0, .inr (.inl (some t))), (1, .inr (.inl r1)), (2, .inr (.inl r2)), (3, .inl x3), (4, .inl x4)] [] w := by
  have hj : ∀ j, j < 5 → j < nLX X := fun j q => by rw [hnL]; exact q
  intro fu
  induction fu with
  | zero => intro r1 r2 x3 x4 w hF; exact okN hF
  | succ fu ih =>
    intro r1 r2 x3 x4 w hF
    rw [fX6_kindsBy_5] at hF
    refine g_iload (pc := 5) h 4 rfl dX6_kindsBy_5 ?_
    refine g_bipush (pc := 7) (v := (6 : Int32)) h dX6_kindsBy_7 (by decide) ?_
    refine g_icmp_ge (pc := 9) (tgt := 58) h dX6_kindsBy_9 (by decide) hF (fun hF => ?_) (fun hF => ?_)
    · refine g_iload_n (pc := 58) h 3 rfl dX6_kindsBy_58 ?_
      exact g_iret (pc := 59) h hr ⟨Nat.le_refl _, Nat.le_refl _⟩ hF dX6_kindsBy_59
    · refine g_aload_n (pc := 12) h 0 rfl dX6_kindsBy_12 ?_
      refine g_aload_n (pc := 13) h 2 rfl dX6_kindsBy_13 ?_
      refine g_cvV (pc := 14) (st := []) h mX6_think cvX6_133 (inw ht) (by decide) ⟨by decide, by decide⟩ (Nat.le_of_ble_eq_true rfl) rfl rfl dX6_kindsBy_14 hF (fun u_1 w_2 hF => ?_)
      refine g_aload_n (pc := 17) h 0 rfl dX6_kindsBy_17 ?_
      refine g_getR (pc := 18) h fdX6_98 (inw ht) rfl dX6_kindsBy_18 ?_
      refine g_iload (pc := 21) h 4 rfl dX6_kindsBy_21 ?_
      refine g_dr hF (fun a_3 e_a_3 h_a_3 hF => ?_)
      rw [e_a_3]
      refine g_putI (pc := 23) h fdX6_348 h_a_3 (by decide) ⟨rfl, rfl⟩ dX6_kindsBy_23 ?_
      refine g_w hF (fun w_4 hF => ?_)
      refine g_iload_n (pc := 26) h 3 rfl dX6_kindsBy_26 ?_
      refine g_aload_n (pc := 27) h 0 rfl dX6_kindsBy_27 ?_
      refine g_getR (pc := 28) h fdX6_98 (inw ht) rfl dX6_kindsBy_28 ?_
      refine g_aload_n (pc := 31) h 1 rfl dX6_kindsBy_31 ?_
      refine g_dr hF (fun a_5 e_a_5 h_a_5 hF => ?_)
      rw [e_a_5]
      refine g_cvI (pc := 32) (st := [.int x3]) h mX4_firstOtherwise cvX6_237 h_a_5 (by decide) ⟨by decide, by decide⟩ (Nat.le_of_ble_eq_true rfl) rfl rfl dX6_kindsBy_32 hF (fun x_6 w_7 hF => ?_)
      refine g_iconst (pc := 35) (v := (-1 : Int32)) h dX6_kindsBy_35 (by decide) ?_
      refine g_icmp_ne (pc := 36) (tgt := 43) h dX6_kindsBy_36 (by decide) hF (fun hF => ?_) (fun hF => ?_)
      · refine g_iconst (pc := 43) (v := (0 : Int32)) h dX6_kindsBy_43 (by decide) ?_
        refine g_lv (lv' := [(0, .inr (.inl (some t))), (1, .inr (.inl r1)), (2, .inr (.inl r2)), (4, .inl x4)]) [0, 1, 2, 4] rfl ?_
        exact kX6_kindsBy_44 h hr hnL ht (fun z0 z1 z2 z3 z4 hF => ih z0 z1 z2 z3 z4 hF) _ _ _ _ _ _ hF
      · refine g_iconst (pc := 39) (v := (1 : Int32)) h dX6_kindsBy_39 (by decide) ?_
        refine g_goto (pc := 40) (tgt := 44) h dX6_kindsBy_40 (by decide) ?_
        refine g_lv (lv' := [(0, .inr (.inl (some t))), (1, .inr (.inl r1)), (2, .inr (.inl r2)), (4, .inl x4)]) [0, 1, 2, 4] rfl ?_
        exact kX6_kindsBy_44 h hr hnL ht (fun z0 z1 z2 z3 z4 hF => ih z0 z1 z2 z3 z4 hF) _ _ _ _ _ _ hF
def fX6_kindsBy (t : Nat) (r1 : Option Nat) (r2 : Option Nat) (w : Wd) : Option (Int32 × Wd) :=
  fX6_kindsBy_5 t FU r1 r2 (0 : Int32) (0 : Int32) w
set_option maxHeartbeats 4000000 in
theorem mX6_kindsBy {Γ : En} {t : Nat} {r1 : Option Nat} {r2 : Option Nat} {w : Wd} (ht : t < wn w ∧ kd t = 6) : MtI Γ yX6_kindsBy cX6_kindsBy 5 (some .int) 10 0 0 [rv Γ (some t), rv Γ r1, rv Γ r2] w (fX6_kindsBy t r1 r2 w) := by
  refine mtI [.inr (.inl (some t)), .inr (.inl r1), .inr (.inl r2)] rfl (Nat.le_of_ble_eq_true rfl) (fun X hΓ hnL hn0 h _ hr hF => ?_)
  subst hΓ
  have ht : InN X t 6 := ⟨by rw [hn0]; exact ht.1, ht.2⟩
  have h : Ok X cX6_kindsBy RX6 10 0 0 := h
  have hj : ∀ j, j < 5 → j < nLX X := fun j q => by rw [hnL]; exact q
  show G X 0 0 0 [(0, .inr (.inl (some t))), (1, .inr (.inl r1)), (2, .inr (.inl r2))] [] w
  unfold fX6_kindsBy at hF
  refine g_iconst (pc := 0) (v := (0 : Int32)) h dX6_kindsBy_0 (by decide) ?_
  refine g_istore_n (pc := 1) (lv' := [(3, .inl (0 : Int32)), (0, .inr (.inl (some t))), (1, .inr (.inl r1)), (2, .inr (.inl r2))]) h dX6_kindsBy_1 (hj 3 (by decide)) rfl ?_
  refine g_iconst (pc := 2) (v := (0 : Int32)) h dX6_kindsBy_2 (by decide) ?_
  refine g_istore (pc := 3) (lv' := [(4, .inl (0 : Int32)), (3, .inl (0 : Int32)), (0, .inr (.inl (some t))), (1, .inr (.inl r1)), (2, .inr (.inl r2))]) h dX6_kindsBy_3 (hj 4 (by decide)) rfl ?_
  refine g_lv (lv' := [(0, .inr (.inl (some t))), (1, .inr (.inl r1)), (2, .inr (.inl r2)), (3, .inl (0 : Int32)), (4, .inl (0 : Int32))]) [2, 3, 4, 1, 0] rfl ?_
  exact kX6_kindsBy_5 h hr hnL ht _ _ _ _ _ _ hF
def fX6_numbersBy_44 (k5 : Option Nat → Option Nat → Int32 → Int32 → Wd → Option (Int32 × Wd)) (t : Nat) (r1 : Option Nat) (r2 : Option Nat) (x4 : Int32) (y0 : Int32) (y1 : Int32) (w : Wd) : Option (Int32 × Wd) :=
  bnd (fX6_bit y0 w) (fun x_8 w_9 => lt (y1 ||| (x_8 <<< (x4 &&& 31))) (fun x3_10 => k5 r1 r2 x3_10 (x4 + (1 : Int32)) w_9))
set_option maxHeartbeats 4000000 in
theorem kX6_numbersBy_44 {X : Cx} (h : Ok X cX6_numbersBy RX6 10 0 0) (hr : RetI X .int 0 0) (hnL : nLX X = 5) {t : Nat} (ht : InN X t 6) {k5 : Option Nat → Option Nat → Int32 → Int32 → Wd → Option (Int32 × Wd)} (hk5 : ∀ (r1 : Option Nat) (r2 : Option Nat) (x3 : Int32) (x4 : Int32) (w : Wd), OkR X Value.int (k5 r1 r2 x3 x4 w) → G X 0 0 5 [(0, .inr (.inl (some t))), (1, .inr (.inl r1)), (2, .inr (.inl r2)), (3, .inl x3), (4, .inl x4)] [] w) : ∀ (r1 : Option Nat) (r2 : Option Nat) (x4 : Int32) (y0 : Int32) (y1 : Int32) (w : Wd), OkR X Value.int (fX6_numbersBy_44 k5 t r1 r2 x4 y0 y1 w) → G X 0 0 44 [(0, .inr (.inl (some t))), (1, .inr (.inl r1)), (2, .inr (.inl r2)), (4, .inl x4)] [.int y0, .int y1] w := by
  have hj : ∀ j, j < 5 → j < nLX X := fun j q => by rw [hnL]; exact q
  intro r1 r2 x4 y0 y1 w hF
  unfold fX6_numbersBy_44 at hF
  refine g_csI (pc := 44) (st := [.int y1]) h mX6_bit csX6_156 (by decide) ⟨by decide, by decide⟩ (Nat.le_of_ble_eq_true rfl) rfl rfl dX6_numbersBy_44 hF (fun x_8 w_9 hF => ?_)
  refine g_iload (pc := 47) h 3 rfl dX6_numbersBy_47 ?_
  refine g_ishl (pc := 49) h dX6_numbersBy_49 ?_
  refine g_ior (pc := 50) h dX6_numbersBy_50 ?_
  refine g_t hF (fun x3_10 hF => ?_)
  refine g_istore_n (pc := 51) (lv' := [(3, .inl x3_10), (0, .inr (.inl (some t))), (1, .inr (.inl r1)), (2, .inr (.inl r2)), (4, .inl x4)]) h dX6_numbersBy_51 (hj 3 (by decide)) rfl ?_
  refine g_iinc (pc := 52) (lv' := [(4, .inl (x4 + (1 : Int32))), (3, .inl x3_10), (0, .inr (.inl (some t))), (1, .inr (.inl r1)), (2, .inr (.inl r2))]) h 4 rfl dX6_numbersBy_52 (dv := (1 : Int32)) (by decide) (hj 4 (by decide)) rfl ?_
  refine g_goto (pc := 55) (tgt := 5) h dX6_numbersBy_55 (by decide) ?_
  refine g_lv (lv' := [(0, .inr (.inl (some t))), (1, .inr (.inl r1)), (2, .inr (.inl r2)), (3, .inl x3_10), (4, .inl (x4 + (1 : Int32)))]) [2, 3, 4, 1, 0] rfl ?_
  exact hk5 _ _ _ _ _ hF
def fX6_numbersBy_5 (t : Nat) : Nat → Option Nat → Option Nat → Int32 → Int32 → Wd → Option (Int32 × Wd)
  | 0 => fun _ _ _ _ _ => none
  | n + 1 => fun r1 r2 x3 x4 w =>
    if (10 : Int32) ≤ x4 then
      (some (x3, w))
    else
      (bnd (fX6_think t r2 w) (fun u_1 w_2 => dr (gR w_2 t 9) 4 w_2 (fun a_3 => lw (sI w_2 a_3 1 x4) (fun w_4 => dr (gR w_4 t 9) 4 w_4 (fun a_5 => bnd (fX4_firstOtherwise a_5 r1 w_4) (fun x_6 w_7 => if x_6 = (-1 : Int32) then
        (fX6_numbersBy_44 (fX6_numbersBy_5 t n) t r1 r2 x4 (1 : Int32) x3 w_7)
      else
        (fX6_numbersBy_44 (fX6_numbersBy_5 t n) t r1 r2 x4 (0 : Int32) x3 w_7)))))))
set_option maxHeartbeats 4000000 in
theorem kX6_numbersBy_5 {X : Cx} (h : Ok X cX6_numbersBy RX6 10 0 0) (hr : RetI X .int 0 0) (hnL : nLX X = 5) {t : Nat} (ht : InN X t 6) : ∀ (fu : Nat) (r1 : Option Nat) (r2 : Option Nat) (x3 : Int32) (x4 : Int32) (w : Wd), OkR X Value.int (fX6_numbersBy_5 t fu r1 r2 x3 x4 w) → G X 0 0 5 [(0, .inr (.inl (some t))), (1, .inr (.inl r1)), (2, .inr (.inl r2)), (3, .inl x3), (4, .inl x4)] [] w := by
  have hj : ∀ j, j < 5 → j < nLX X := fun j q => by rw [hnL]; exact q
  intro fu
  induction fu with
  | zero => intro r1 r2 x3 x4 w hF; exact okN hF
  | succ fu ih =>
    intro r1 r2 x3 x4 w hF
    rw [fX6_numbersBy_5] at hF
    refine g_iload (pc := 5) h 4 rfl dX6_numbersBy_5 ?_
    refine g_bipush (pc := 7) (v := (10 : Int32)) h dX6_numbersBy_7 (by decide) ?_
    refine g_icmp_ge (pc := 9) (tgt := 58) h dX6_numbersBy_9 (by decide) hF (fun hF => ?_) (fun hF => ?_)
    · refine g_iload_n (pc := 58) h 3 rfl dX6_numbersBy_58 ?_
      exact g_iret (pc := 59) h hr ⟨Nat.le_refl _, Nat.le_refl _⟩ hF dX6_numbersBy_59
    · refine g_aload_n (pc := 12) h 0 rfl dX6_numbersBy_12 ?_
      refine g_aload_n (pc := 13) h 2 rfl dX6_numbersBy_13 ?_
      refine g_cvV (pc := 14) (st := []) h mX6_think cvX6_133 (inw ht) (by decide) ⟨by decide, by decide⟩ (Nat.le_of_ble_eq_true rfl) rfl rfl dX6_numbersBy_14 hF (fun u_1 w_2 hF => ?_)
      refine g_aload_n (pc := 17) h 0 rfl dX6_numbersBy_17 ?_
      refine g_getR (pc := 18) h fdX6_98 (inw ht) rfl dX6_numbersBy_18 ?_
      refine g_iload (pc := 21) h 4 rfl dX6_numbersBy_21 ?_
      refine g_dr hF (fun a_3 e_a_3 h_a_3 hF => ?_)
      rw [e_a_3]
      refine g_putI (pc := 23) h fdX6_349 h_a_3 (by decide) ⟨rfl, rfl⟩ dX6_numbersBy_23 ?_
      refine g_w hF (fun w_4 hF => ?_)
      refine g_iload_n (pc := 26) h 3 rfl dX6_numbersBy_26 ?_
      refine g_aload_n (pc := 27) h 0 rfl dX6_numbersBy_27 ?_
      refine g_getR (pc := 28) h fdX6_98 (inw ht) rfl dX6_numbersBy_28 ?_
      refine g_aload_n (pc := 31) h 1 rfl dX6_numbersBy_31 ?_
      refine g_dr hF (fun a_5 e_a_5 h_a_5 hF => ?_)
      rw [e_a_5]
      refine g_cvI (pc := 32) (st := [.int x3]) h mX4_firstOtherwise cvX6_237 h_a_5 (by decide) ⟨by decide, by decide⟩ (Nat.le_of_ble_eq_true rfl) rfl rfl dX6_numbersBy_32 hF (fun x_6 w_7 hF => ?_)
      refine g_iconst (pc := 35) (v := (-1 : Int32)) h dX6_numbersBy_35 (by decide) ?_
      refine g_icmp_ne (pc := 36) (tgt := 43) h dX6_numbersBy_36 (by decide) hF (fun hF => ?_) (fun hF => ?_)
      · refine g_iconst (pc := 43) (v := (0 : Int32)) h dX6_numbersBy_43 (by decide) ?_
        refine g_lv (lv' := [(0, .inr (.inl (some t))), (1, .inr (.inl r1)), (2, .inr (.inl r2)), (4, .inl x4)]) [0, 1, 2, 4] rfl ?_
        exact kX6_numbersBy_44 h hr hnL ht (fun z0 z1 z2 z3 z4 hF => ih z0 z1 z2 z3 z4 hF) _ _ _ _ _ _ hF
      · refine g_iconst (pc := 39) (v := (1 : Int32)) h dX6_numbersBy_39 (by decide) ?_
        refine g_goto (pc := 40) (tgt := 44) h dX6_numbersBy_40 (by decide) ?_
        refine g_lv (lv' := [(0, .inr (.inl (some t))), (1, .inr (.inl r1)), (2, .inr (.inl r2)), (4, .inl x4)]) [0, 1, 2, 4] rfl ?_
        exact kX6_numbersBy_44 h hr hnL ht (fun z0 z1 z2 z3 z4 hF => ih z0 z1 z2 z3 z4 hF) _ _ _ _ _ _ hF
def fX6_numbersBy (t : Nat) (r1 : Option Nat) (r2 : Option Nat) (w : Wd) : Option (Int32 × Wd) :=
  fX6_numbersBy_5 t FU r1 r2 (0 : Int32) (0 : Int32) w
set_option maxHeartbeats 4000000 in
theorem mX6_numbersBy {Γ : En} {t : Nat} {r1 : Option Nat} {r2 : Option Nat} {w : Wd} (ht : t < wn w ∧ kd t = 6) : MtI Γ yX6_numbersBy cX6_numbersBy 5 (some .int) 10 0 0 [rv Γ (some t), rv Γ r1, rv Γ r2] w (fX6_numbersBy t r1 r2 w) := by
  refine mtI [.inr (.inl (some t)), .inr (.inl r1), .inr (.inl r2)] rfl (Nat.le_of_ble_eq_true rfl) (fun X hΓ hnL hn0 h _ hr hF => ?_)
  subst hΓ
  have ht : InN X t 6 := ⟨by rw [hn0]; exact ht.1, ht.2⟩
  have h : Ok X cX6_numbersBy RX6 10 0 0 := h
  have hj : ∀ j, j < 5 → j < nLX X := fun j q => by rw [hnL]; exact q
  show G X 0 0 0 [(0, .inr (.inl (some t))), (1, .inr (.inl r1)), (2, .inr (.inl r2))] [] w
  unfold fX6_numbersBy at hF
  refine g_iconst (pc := 0) (v := (0 : Int32)) h dX6_numbersBy_0 (by decide) ?_
  refine g_istore_n (pc := 1) (lv' := [(3, .inl (0 : Int32)), (0, .inr (.inl (some t))), (1, .inr (.inl r1)), (2, .inr (.inl r2))]) h dX6_numbersBy_1 (hj 3 (by decide)) rfl ?_
  refine g_iconst (pc := 2) (v := (0 : Int32)) h dX6_numbersBy_2 (by decide) ?_
  refine g_istore (pc := 3) (lv' := [(4, .inl (0 : Int32)), (3, .inl (0 : Int32)), (0, .inr (.inl (some t))), (1, .inr (.inl r1)), (2, .inr (.inl r2))]) h dX6_numbersBy_3 (hj 4 (by decide)) rfl ?_
  refine g_lv (lv' := [(0, .inr (.inl (some t))), (1, .inr (.inl r1)), (2, .inr (.inl r2)), (3, .inl (0 : Int32)), (4, .inl (0 : Int32))]) [2, 3, 4, 1, 0] rfl ?_
  exact kX6_numbersBy_5 h hr hnL ht _ _ _ _ _ _ hF
def fX6_setsBy_66 (k9 : Option Nat → Option Nat → Int32 → Int32 → Int32 → Int32 → Wd → Option (Int32 × Wd)) (t : Nat) (r1 : Option Nat) (r2 : Option Nat) (x3 : Int32) (x4 : Int32) (x5 : Int32) (x6 : Int32) (w : Wd) : Option (Int32 × Wd) :=
  k9 r1 r2 x3 x4 x5 (x6 + (1 : Int32)) w
set_option maxHeartbeats 4000000 in
theorem kX6_setsBy_66 {X : Cx} (h : Ok X cX6_setsBy RX6 10 0 0) (hr : RetI X .int 0 0) (hnL : nLX X = 7) {t : Nat} (ht : InN X t 6) {k9 : Option Nat → Option Nat → Int32 → Int32 → Int32 → Int32 → Wd → Option (Int32 × Wd)} (hk9 : ∀ (r1 : Option Nat) (r2 : Option Nat) (x3 : Int32) (x4 : Int32) (x5 : Int32) (x6 : Int32) (w : Wd), OkR X Value.int (k9 r1 r2 x3 x4 x5 x6 w) → G X 0 0 9 [(0, .inr (.inl (some t))), (1, .inr (.inl r1)), (2, .inr (.inl r2)), (3, .inl x3), (4, .inl x4), (5, .inl x5), (6, .inl x6)] [] w) : ∀ (r1 : Option Nat) (r2 : Option Nat) (x3 : Int32) (x4 : Int32) (x5 : Int32) (x6 : Int32) (w : Wd), OkR X Value.int (fX6_setsBy_66 k9 t r1 r2 x3 x4 x5 x6 w) → G X 0 0 66 [(0, .inr (.inl (some t))), (1, .inr (.inl r1)), (2, .inr (.inl r2)), (3, .inl x3), (4, .inl x4), (5, .inl x5), (6, .inl x6)] [] w := by
  have hj : ∀ j, j < 7 → j < nLX X := fun j q => by rw [hnL]; exact q
  intro r1 r2 x3 x4 x5 x6 w hF
  unfold fX6_setsBy_66 at hF
  refine g_iinc (pc := 66) (lv' := [(6, .inl (x6 + (1 : Int32))), (0, .inr (.inl (some t))), (1, .inr (.inl r1)), (2, .inr (.inl r2)), (3, .inl x3), (4, .inl x4), (5, .inl x5)]) h 6 rfl dX6_setsBy_66 (dv := (1 : Int32)) (by decide) (hj 6 (by decide)) rfl ?_
  refine g_goto (pc := 69) (tgt := 9) h dX6_setsBy_69 (by decide) ?_
  refine g_lv (lv' := [(0, .inr (.inl (some t))), (1, .inr (.inl r1)), (2, .inr (.inl r2)), (3, .inl x3), (4, .inl x4), (5, .inl x5), (6, .inl (x6 + (1 : Int32)))]) [1, 2, 3, 4, 5, 6, 0] rfl ?_
  exact hk9 _ _ _ _ _ _ _ hF
def fX6_setsBy_64 (k9 : Option Nat → Option Nat → Int32 → Int32 → Int32 → Int32 → Wd → Option (Int32 × Wd)) (t : Nat) (r1 : Option Nat) (r2 : Option Nat) (x3 : Int32) (x4 : Int32) (x6 : Int32) (y0 : Int32) (w : Wd) : Option (Int32 × Wd) :=
  fX6_setsBy_66 k9 t r1 r2 x3 x4 y0 x6 w
set_option maxHeartbeats 4000000 in
theorem kX6_setsBy_64 {X : Cx} (h : Ok X cX6_setsBy RX6 10 0 0) (hr : RetI X .int 0 0) (hnL : nLX X = 7) {t : Nat} (ht : InN X t 6) {k9 : Option Nat → Option Nat → Int32 → Int32 → Int32 → Int32 → Wd → Option (Int32 × Wd)} (hk9 : ∀ (r1 : Option Nat) (r2 : Option Nat) (x3 : Int32) (x4 : Int32) (x5 : Int32) (x6 : Int32) (w : Wd), OkR X Value.int (k9 r1 r2 x3 x4 x5 x6 w) → G X 0 0 9 [(0, .inr (.inl (some t))), (1, .inr (.inl r1)), (2, .inr (.inl r2)), (3, .inl x3), (4, .inl x4), (5, .inl x5), (6, .inl x6)] [] w) : ∀ (r1 : Option Nat) (r2 : Option Nat) (x3 : Int32) (x4 : Int32) (x6 : Int32) (y0 : Int32) (w : Wd), OkR X Value.int (fX6_setsBy_64 k9 t r1 r2 x3 x4 x6 y0 w) → G X 0 0 64 [(0, .inr (.inl (some t))), (1, .inr (.inl r1)), (2, .inr (.inl r2)), (3, .inl x3), (4, .inl x4), (6, .inl x6)] [.int y0] w := by
  have hj : ∀ j, j < 7 → j < nLX X := fun j q => by rw [hnL]; exact q
  intro r1 r2 x3 x4 x6 y0 w hF
  unfold fX6_setsBy_64 at hF
  refine g_istore (pc := 64) (lv' := [(5, .inl y0), (0, .inr (.inl (some t))), (1, .inr (.inl r1)), (2, .inr (.inl r2)), (3, .inl x3), (4, .inl x4), (6, .inl x6)]) h dX6_setsBy_64 (hj 5 (by decide)) rfl ?_
  refine g_lv (lv' := [(0, .inr (.inl (some t))), (1, .inr (.inl r1)), (2, .inr (.inl r2)), (3, .inl x3), (4, .inl x4), (5, .inl y0), (6, .inl x6)]) [1, 2, 3, 4, 5, 0, 6] rfl ?_
  exact kX6_setsBy_66 h hr hnL ht hk9 _ _ _ _ _ _ _ hF
def fX6_setsBy_9 (t : Nat) : Nat → Option Nat → Option Nat → Int32 → Int32 → Int32 → Int32 → Wd → Option (Int32 × Wd)
  | 0 => fun _ _ _ _ _ _ _ => none
  | n + 1 => fun r1 r2 x3 x4 x5 x6 w =>
    if (256 : Int32) ≤ x6 then
      (if x3 = 0 then
        (some (x4, w))
      else
        (some (x5, w)))
    else
      (dr r2 5 w (fun a_1 => bnd (fX6_isPart x6 (gI w a_1 2) w) (fun x_2 w_3 => if x_2 = 0 then
        (fX6_setsBy_66 (fX6_setsBy_9 t n) t r1 (some a_1) x3 x4 x5 x6 w_3)
      else
        (bnd (fX6_thinkTold t (some a_1) x6 w_3) (fun u_4 w_5 => dr (gR w_5 t 9) 4 w_5 (fun a_6 => bnd (fX4_firstOtherwise a_6 r1 w_5) (fun x_7 w_8 => if x_7 = (-1 : Int32) then
          (if x5 = (-1 : Int32) then
            (fX6_setsBy_64 (fX6_setsBy_9 t n) t r1 (some a_1) x3 (x4 + (1 : Int32)) x6 x6 w_8)
          else
            (fX6_setsBy_64 (fX6_setsBy_9 t n) t r1 (some a_1) x3 (x4 + (1 : Int32)) x6 x5 w_8))
        else
          (fX6_setsBy_66 (fX6_setsBy_9 t n) t r1 (some a_1) x3 x4 x5 x6 w_8))))))))
set_option maxHeartbeats 4000000 in
theorem kX6_setsBy_9 {X : Cx} (h : Ok X cX6_setsBy RX6 10 0 0) (hr : RetI X .int 0 0) (hnL : nLX X = 7) {t : Nat} (ht : InN X t 6) : ∀ (fu : Nat) (r1 : Option Nat) (r2 : Option Nat) (x3 : Int32) (x4 : Int32) (x5 : Int32) (x6 : Int32) (w : Wd), OkR X Value.int (fX6_setsBy_9 t fu r1 r2 x3 x4 x5 x6 w) → G X 0 0 9 [(0, .inr (.inl (some t))), (1, .inr (.inl r1)), (2, .inr (.inl r2)), (3, .inl x3), (4, .inl x4), (5, .inl x5), (6, .inl x6)] [] w := by
  have hj : ∀ j, j < 7 → j < nLX X := fun j q => by rw [hnL]; exact q
  intro fu
  induction fu with
  | zero => intro r1 r2 x3 x4 x5 x6 w hF; exact okN hF
  | succ fu ih =>
    intro r1 r2 x3 x4 x5 x6 w hF
    rw [fX6_setsBy_9] at hF
    refine g_iload (pc := 9) h 6 rfl dX6_setsBy_9 ?_
    refine g_sipush (pc := 11) (v := (256 : Int32)) h dX6_setsBy_11 (by decide) ?_
    refine g_icmp_ge (pc := 14) (tgt := 72) h dX6_setsBy_14 (by decide) hF (fun hF => ?_) (fun hF => ?_)
    · refine g_iload_n (pc := 72) h 3 rfl dX6_setsBy_72 ?_
      refine g_if_eq (pc := 73) (tgt := 81) h dX6_setsBy_73 (by decide) hF (fun hF => ?_) (fun hF => ?_)
      · refine g_iload (pc := 81) h 4 rfl dX6_setsBy_81 ?_
        exact g_iret (pc := 83) h hr ⟨Nat.le_refl _, Nat.le_refl _⟩ hF dX6_setsBy_83
      · refine g_iload (pc := 76) h 5 rfl dX6_setsBy_76 ?_
        refine g_goto (pc := 78) (tgt := 83) h dX6_setsBy_78 (by decide) ?_
        exact g_iret (pc := 83) h hr ⟨Nat.le_refl _, Nat.le_refl _⟩ hF dX6_setsBy_83
    · refine g_iload (pc := 17) h 6 rfl dX6_setsBy_17 ?_
      refine g_aload_n (pc := 19) h 2 rfl dX6_setsBy_19 ?_
      refine g_dr hF (fun a_1 e_a_1 h_a_1 hF => ?_)
      rw [e_a_1]
      refine g_getI (pc := 20) h fdX6_195 h_a_1 (by decide) dX6_setsBy_20 ?_
      refine g_csI (pc := 23) (st := []) h mX6_isPart csX6_198 (by decide) ⟨by decide, by decide⟩ (Nat.le_of_ble_eq_true rfl) rfl rfl dX6_setsBy_23 hF (fun x_2 w_3 hF => ?_)
      refine g_if_eq (pc := 26) (tgt := 66) h dX6_setsBy_26 (by decide) hF (fun hF => ?_) (fun hF => ?_)
      · exact kX6_setsBy_66 h hr hnL ht (fun z0 z1 z2 z3 z4 z5 z6 hF => ih z0 z1 z2 z3 z4 z5 z6 hF) _ _ _ _ _ _ _ hF
      · refine g_aload_n (pc := 29) h 0 rfl dX6_setsBy_29 ?_
        refine g_aload_n (pc := 30) h 2 rfl dX6_setsBy_30 ?_
        refine g_iload (pc := 31) h 6 rfl dX6_setsBy_31 ?_
        refine g_cvV (pc := 33) (st := []) h mX6_thinkTold cvX6_226 (inw ht) (by decide) ⟨by decide, by decide⟩ (Nat.le_of_ble_eq_true rfl) rfl rfl dX6_setsBy_33 hF (fun u_4 w_5 hF => ?_)
        refine g_aload_n (pc := 36) h 0 rfl dX6_setsBy_36 ?_
        refine g_getR (pc := 37) h fdX6_98 (inw ht) rfl dX6_setsBy_37 ?_
        refine g_aload_n (pc := 40) h 1 rfl dX6_setsBy_40 ?_
        refine g_dr hF (fun a_6 e_a_6 h_a_6 hF => ?_)
        rw [e_a_6]
        refine g_cvI (pc := 41) (st := []) h mX4_firstOtherwise cvX6_237 h_a_6 (by decide) ⟨by decide, by decide⟩ (Nat.le_of_ble_eq_true rfl) rfl rfl dX6_setsBy_41 hF (fun x_7 w_8 hF => ?_)
        refine g_iconst (pc := 44) (v := (-1 : Int32)) h dX6_setsBy_44 (by decide) ?_
        refine g_icmp_ne (pc := 45) (tgt := 66) h dX6_setsBy_45 (by decide) hF (fun hF => ?_) (fun hF => ?_)
        · exact kX6_setsBy_66 h hr hnL ht (fun z0 z1 z2 z3 z4 z5 z6 hF => ih z0 z1 z2 z3 z4 z5 z6 hF) _ _ _ _ _ _ _ hF
        · refine g_iinc (pc := 48) (lv' := [(4, .inl (x4 + (1 : Int32))), (0, .inr (.inl (some t))), (1, .inr (.inl r1)), (2, .inr (.inl (some a_1))), (3, .inl x3), (5, .inl x5), (6, .inl x6)]) h 4 rfl dX6_setsBy_48 (dv := (1 : Int32)) (by decide) (hj 4 (by decide)) rfl ?_
          refine g_iload (pc := 51) h 5 rfl dX6_setsBy_51 ?_
          refine g_iconst (pc := 53) (v := (-1 : Int32)) h dX6_setsBy_53 (by decide) ?_
          refine g_icmp_ne (pc := 54) (tgt := 62) h dX6_setsBy_54 (by decide) hF (fun hF => ?_) (fun hF => ?_)
          · refine g_iload (pc := 62) h 5 rfl dX6_setsBy_62 ?_
            refine g_lv (lv' := [(0, .inr (.inl (some t))), (1, .inr (.inl r1)), (2, .inr (.inl (some a_1))), (3, .inl x3), (4, .inl (x4 + (1 : Int32))), (6, .inl x6)]) [1, 2, 3, 4, 0, 6] rfl ?_
            exact kX6_setsBy_64 h hr hnL ht (fun z0 z1 z2 z3 z4 z5 z6 hF => ih z0 z1 z2 z3 z4 z5 z6 hF) _ _ _ _ _ _ _ hF
          · refine g_iload (pc := 57) h 6 rfl dX6_setsBy_57 ?_
            refine g_goto (pc := 59) (tgt := 64) h dX6_setsBy_59 (by decide) ?_
            refine g_lv (lv' := [(0, .inr (.inl (some t))), (1, .inr (.inl r1)), (2, .inr (.inl (some a_1))), (3, .inl x3), (4, .inl (x4 + (1 : Int32))), (6, .inl x6)]) [1, 2, 3, 4, 0, 6] rfl ?_
            exact kX6_setsBy_64 h hr hnL ht (fun z0 z1 z2 z3 z4 z5 z6 hF => ih z0 z1 z2 z3 z4 z5 z6 hF) _ _ _ _ _ _ _ hF
def fX6_setsBy (t : Nat) (r1 : Option Nat) (r2 : Option Nat) (x3 : Int32) (w : Wd) : Option (Int32 × Wd) :=
  fX6_setsBy_9 t FU r1 r2 x3 (0 : Int32) (-1 : Int32) (0 : Int32) w
set_option maxHeartbeats 4000000 in
theorem mX6_setsBy {Γ : En} {t : Nat} {r1 : Option Nat} {r2 : Option Nat} {x3 : Int32} {w : Wd} (ht : t < wn w ∧ kd t = 6) : MtI Γ yX6_setsBy cX6_setsBy 7 (some .int) 10 0 0 [rv Γ (some t), rv Γ r1, rv Γ r2, .int x3] w (fX6_setsBy t r1 r2 x3 w) := by
  refine mtI [.inr (.inl (some t)), .inr (.inl r1), .inr (.inl r2), .inl x3] rfl (Nat.le_of_ble_eq_true rfl) (fun X hΓ hnL hn0 h _ hr hF => ?_)
  subst hΓ
  have ht : InN X t 6 := ⟨by rw [hn0]; exact ht.1, ht.2⟩
  have h : Ok X cX6_setsBy RX6 10 0 0 := h
  have hj : ∀ j, j < 7 → j < nLX X := fun j q => by rw [hnL]; exact q
  show G X 0 0 0 [(0, .inr (.inl (some t))), (1, .inr (.inl r1)), (2, .inr (.inl r2)), (3, .inl x3)] [] w
  unfold fX6_setsBy at hF
  refine g_iconst (pc := 0) (v := (0 : Int32)) h dX6_setsBy_0 (by decide) ?_
  refine g_istore (pc := 1) (lv' := [(4, .inl (0 : Int32)), (0, .inr (.inl (some t))), (1, .inr (.inl r1)), (2, .inr (.inl r2)), (3, .inl x3)]) h dX6_setsBy_1 (hj 4 (by decide)) rfl ?_
  refine g_iconst (pc := 3) (v := (-1 : Int32)) h dX6_setsBy_3 (by decide) ?_
  refine g_istore (pc := 4) (lv' := [(5, .inl (-1 : Int32)), (4, .inl (0 : Int32)), (0, .inr (.inl (some t))), (1, .inr (.inl r1)), (2, .inr (.inl r2)), (3, .inl x3)]) h dX6_setsBy_4 (hj 5 (by decide)) rfl ?_
  refine g_iconst (pc := 6) (v := (0 : Int32)) h dX6_setsBy_6 (by decide) ?_
  refine g_istore (pc := 7) (lv' := [(6, .inl (0 : Int32)), (5, .inl (-1 : Int32)), (4, .inl (0 : Int32)), (0, .inr (.inl (some t))), (1, .inr (.inl r1)), (2, .inr (.inl r2)), (3, .inl x3)]) h dX6_setsBy_7 (hj 6 (by decide)) rfl ?_
  refine g_lv (lv' := [(0, .inr (.inl (some t))), (1, .inr (.inl r1)), (2, .inr (.inl r2)), (3, .inl x3), (4, .inl (0 : Int32)), (5, .inl (-1 : Int32)), (6, .inl (0 : Int32))]) [3, 4, 5, 6, 2, 1, 0] rfl ?_
  exact kX6_setsBy_9 h hr hnL ht _ _ _ _ _ _ _ _ hF
def fX6_sheetAt_18 (t : Nat) (w : Wd) : Option (Option Nat × Wd) :=
  some (none, w)
set_option maxHeartbeats 4000000 in
theorem kX6_sheetAt_18 {X : Cx} (h : Ok X cX6_sheetAt RX6 2 0 0) (hr : RetQ X (.object "SolesByWhatIsTold$Sheet") 0 0) (hnL : nLX X = 2) {t : Nat} (ht : InN X t 6) : ∀ (w : Wd), OkR X (rv X.1) (fX6_sheetAt_18 t  w) → G X 0 0 18 [] [] w := by
  have hj : ∀ j, j < 2 → j < nLX X := fun j q => by rw [hnL]; exact q
  intro w hF
  unfold fX6_sheetAt_18 at hF
  refine g_null (pc := 18) h dX6_sheetAt_18 ?_
  exact g_aret (pc := 19) h hr ⟨Nat.le_refl _, Nat.le_refl _⟩ hF dX6_sheetAt_19
def fX6_sheetAt (t : Nat) (x1 : Int32) (w : Wd) : Option (Option Nat × Wd) :=
  if x1 < 0 then
    (fX6_sheetAt_18 t w)
  else
    (if (4 : Int32) ≤ x1 then
      (fX6_sheetAt_18 t w)
    else
      (dr (gR w t 12) 10 w (fun a_1 => grd (vin x1 (ln a_1)) (some (gR w a_1 x1.toNatClampNeg, w)))))
set_option maxHeartbeats 4000000 in
theorem mX6_sheetAt {Γ : En} {t : Nat} {x1 : Int32} {w : Wd} (ht : t < wn w ∧ kd t = 6) : MtQ Γ yX6_sheetAt cX6_sheetAt 2 (some (.object "SolesByWhatIsTold$Sheet")) 2 0 0 [rv Γ (some t), .int x1] w (fX6_sheetAt t x1 w) := by
  refine mtQ [.inr (.inl (some t)), .inl x1] ⟨_, rfl⟩ rfl (Nat.le_of_ble_eq_true rfl) (fun X hΓ hnL hn0 h _ hr hF => ?_)
  subst hΓ
  have ht : InN X t 6 := ⟨by rw [hn0]; exact ht.1, ht.2⟩
  have h : Ok X cX6_sheetAt RX6 2 0 0 := h
  have hj : ∀ j, j < 2 → j < nLX X := fun j q => by rw [hnL]; exact q
  show G X 0 0 0 [(0, .inr (.inl (some t))), (1, .inl x1)] [] w
  unfold fX6_sheetAt at hF
  refine g_iload_n (pc := 0) h 1 rfl dX6_sheetAt_0 ?_
  refine g_if_lt (pc := 1) (tgt := 18) h dX6_sheetAt_1 (by decide) hF (fun hF => ?_) (fun hF => ?_)
  · refine g_lv (lv' := []) [] rfl ?_
    exact kX6_sheetAt_18 h hr hnL ht _ hF
  · refine g_iload_n (pc := 4) h 1 rfl dX6_sheetAt_4 ?_
    refine g_iconst (pc := 5) (v := (4 : Int32)) h dX6_sheetAt_5 (by decide) ?_
    refine g_icmp_ge (pc := 6) (tgt := 18) h dX6_sheetAt_6 (by decide) hF (fun hF => ?_) (fun hF => ?_)
    · refine g_lv (lv' := []) [] rfl ?_
      exact kX6_sheetAt_18 h hr hnL ht _ hF
    · refine g_aload_n (pc := 9) h 0 rfl dX6_sheetAt_9 ?_
      refine g_getR (pc := 10) h fdX6_60 (inw ht) rfl dX6_sheetAt_10 ?_
      refine g_iload_n (pc := 13) h 1 rfl dX6_sheetAt_13 ?_
      refine g_dr hF (fun a_1 e_a_1 h_a_1 hF => ?_)
      rw [e_a_1]
      obtain ⟨g_1, hF⟩ := grd_ok hF
      refine g_aald (pc := 14) h (by decide) rfl h_a_1 g_1 dX6_sheetAt_14 ?_
      refine g_goto (pc := 15) (tgt := 19) h dX6_sheetAt_15 (by decide) ?_
      exact g_aret (pc := 19) h hr ⟨Nat.le_refl _, Nat.le_refl _⟩ hF dX6_sheetAt_19
def fX6_stepsBy_61 (k9 : Option Nat → Option Nat → Int32 → Int32 → Int32 → Int32 → Wd → Option (Int32 × Wd)) (t : Nat) (r1 : Option Nat) (r2 : Option Nat) (x3 : Int32) (x4 : Int32) (x5 : Int32) (x6 : Int32) (w : Wd) : Option (Int32 × Wd) :=
  k9 r1 r2 x3 x4 x5 (x6 + (1 : Int32)) w
set_option maxHeartbeats 4000000 in
theorem kX6_stepsBy_61 {X : Cx} (h : Ok X cX6_stepsBy RX6 10 0 0) (hr : RetI X .int 0 0) (hnL : nLX X = 7) {t : Nat} (ht : InN X t 6) {k9 : Option Nat → Option Nat → Int32 → Int32 → Int32 → Int32 → Wd → Option (Int32 × Wd)} (hk9 : ∀ (r1 : Option Nat) (r2 : Option Nat) (x3 : Int32) (x4 : Int32) (x5 : Int32) (x6 : Int32) (w : Wd), OkR X Value.int (k9 r1 r2 x3 x4 x5 x6 w) → G X 0 0 9 [(0, .inr (.inl (some t))), (1, .inr (.inl r1)), (2, .inr (.inl r2)), (3, .inl x3), (4, .inl x4), (5, .inl x5), (6, .inl x6)] [] w) : ∀ (r1 : Option Nat) (r2 : Option Nat) (x3 : Int32) (x4 : Int32) (x5 : Int32) (x6 : Int32) (w : Wd), OkR X Value.int (fX6_stepsBy_61 k9 t r1 r2 x3 x4 x5 x6 w) → G X 0 0 61 [(0, .inr (.inl (some t))), (1, .inr (.inl r1)), (2, .inr (.inl r2)), (3, .inl x3), (4, .inl x4), (5, .inl x5), (6, .inl x6)] [] w := by
  have hj : ∀ j, j < 7 → j < nLX X := fun j q => by rw [hnL]; exact q
  intro r1 r2 x3 x4 x5 x6 w hF
  unfold fX6_stepsBy_61 at hF
  refine g_iinc (pc := 61) (lv' := [(6, .inl (x6 + (1 : Int32))), (0, .inr (.inl (some t))), (1, .inr (.inl r1)), (2, .inr (.inl r2)), (3, .inl x3), (4, .inl x4), (5, .inl x5)]) h 6 rfl dX6_stepsBy_61 (dv := (1 : Int32)) (by decide) (hj 6 (by decide)) rfl ?_
  refine g_goto (pc := 64) (tgt := 9) h dX6_stepsBy_64 (by decide) ?_
  refine g_lv (lv' := [(0, .inr (.inl (some t))), (1, .inr (.inl r1)), (2, .inr (.inl r2)), (3, .inl x3), (4, .inl x4), (5, .inl x5), (6, .inl (x6 + (1 : Int32)))]) [1, 2, 3, 4, 5, 6, 0] rfl ?_
  exact hk9 _ _ _ _ _ _ _ hF
def fX6_stepsBy_59 (k9 : Option Nat → Option Nat → Int32 → Int32 → Int32 → Int32 → Wd → Option (Int32 × Wd)) (t : Nat) (r1 : Option Nat) (r2 : Option Nat) (x3 : Int32) (x4 : Int32) (x6 : Int32) (y0 : Int32) (w : Wd) : Option (Int32 × Wd) :=
  fX6_stepsBy_61 k9 t r1 r2 x3 x4 y0 x6 w
set_option maxHeartbeats 4000000 in
theorem kX6_stepsBy_59 {X : Cx} (h : Ok X cX6_stepsBy RX6 10 0 0) (hr : RetI X .int 0 0) (hnL : nLX X = 7) {t : Nat} (ht : InN X t 6) {k9 : Option Nat → Option Nat → Int32 → Int32 → Int32 → Int32 → Wd → Option (Int32 × Wd)} (hk9 : ∀ (r1 : Option Nat) (r2 : Option Nat) (x3 : Int32) (x4 : Int32) (x5 : Int32) (x6 : Int32) (w : Wd), OkR X Value.int (k9 r1 r2 x3 x4 x5 x6 w) → G X 0 0 9 [(0, .inr (.inl (some t))), (1, .inr (.inl r1)), (2, .inr (.inl r2)), (3, .inl x3), (4, .inl x4), (5, .inl x5), (6, .inl x6)] [] w) : ∀ (r1 : Option Nat) (r2 : Option Nat) (x3 : Int32) (x4 : Int32) (x6 : Int32) (y0 : Int32) (w : Wd), OkR X Value.int (fX6_stepsBy_59 k9 t r1 r2 x3 x4 x6 y0 w) → G X 0 0 59 [(0, .inr (.inl (some t))), (1, .inr (.inl r1)), (2, .inr (.inl r2)), (3, .inl x3), (4, .inl x4), (6, .inl x6)] [.int y0] w := by
  have hj : ∀ j, j < 7 → j < nLX X := fun j q => by rw [hnL]; exact q
  intro r1 r2 x3 x4 x6 y0 w hF
  unfold fX6_stepsBy_59 at hF
  refine g_istore (pc := 59) (lv' := [(5, .inl y0), (0, .inr (.inl (some t))), (1, .inr (.inl r1)), (2, .inr (.inl r2)), (3, .inl x3), (4, .inl x4), (6, .inl x6)]) h dX6_stepsBy_59 (hj 5 (by decide)) rfl ?_
  refine g_lv (lv' := [(0, .inr (.inl (some t))), (1, .inr (.inl r1)), (2, .inr (.inl r2)), (3, .inl x3), (4, .inl x4), (5, .inl y0), (6, .inl x6)]) [1, 2, 3, 4, 5, 0, 6] rfl ?_
  exact kX6_stepsBy_61 h hr hnL ht hk9 _ _ _ _ _ _ _ hF
def fX6_stepsBy_9 (t : Nat) : Nat → Option Nat → Option Nat → Int32 → Int32 → Int32 → Int32 → Wd → Option (Int32 × Wd)
  | 0 => fun _ _ _ _ _ _ _ => none
  | n + 1 => fun r1 r2 x3 x4 x5 x6 w =>
    if (999 : Int32) < x6 then
      (if x3 = 0 then
        (some (x4, w))
      else
        (some (x5, w)))
    else
      (bnd (fX6_think t r2 w) (fun u_1 w_2 => dr (gR w_2 t 9) 4 w_2 (fun a_3 => lw (sI w_2 a_3 4 x6) (fun w_4 => dr (gR w_4 t 9) 4 w_4 (fun a_5 => bnd (fX4_firstOtherwise a_5 r1 w_4) (fun x_6 w_7 => if x_6 = (-1 : Int32) then
        (if x5 = (-1 : Int32) then
          (fX6_stepsBy_59 (fX6_stepsBy_9 t n) t r1 r2 x3 (x4 + (1 : Int32)) x6 x6 w_7)
        else
          (fX6_stepsBy_59 (fX6_stepsBy_9 t n) t r1 r2 x3 (x4 + (1 : Int32)) x6 x5 w_7))
      else
        (fX6_stepsBy_61 (fX6_stepsBy_9 t n) t r1 r2 x3 x4 x5 x6 w_7)))))))
set_option maxHeartbeats 4000000 in
theorem kX6_stepsBy_9 {X : Cx} (h : Ok X cX6_stepsBy RX6 10 0 0) (hr : RetI X .int 0 0) (hnL : nLX X = 7) {t : Nat} (ht : InN X t 6) : ∀ (fu : Nat) (r1 : Option Nat) (r2 : Option Nat) (x3 : Int32) (x4 : Int32) (x5 : Int32) (x6 : Int32) (w : Wd), OkR X Value.int (fX6_stepsBy_9 t fu r1 r2 x3 x4 x5 x6 w) → G X 0 0 9 [(0, .inr (.inl (some t))), (1, .inr (.inl r1)), (2, .inr (.inl r2)), (3, .inl x3), (4, .inl x4), (5, .inl x5), (6, .inl x6)] [] w := by
  have hj : ∀ j, j < 7 → j < nLX X := fun j q => by rw [hnL]; exact q
  intro fu
  induction fu with
  | zero => intro r1 r2 x3 x4 x5 x6 w hF; exact okN hF
  | succ fu ih =>
    intro r1 r2 x3 x4 x5 x6 w hF
    rw [fX6_stepsBy_9] at hF
    refine g_iload (pc := 9) h 6 rfl dX6_stepsBy_9 ?_
    refine g_sipush (pc := 11) (v := (999 : Int32)) h dX6_stepsBy_11 (by decide) ?_
    refine g_icmp_gt (pc := 14) (tgt := 67) h dX6_stepsBy_14 (by decide) hF (fun hF => ?_) (fun hF => ?_)
    · refine g_iload_n (pc := 67) h 3 rfl dX6_stepsBy_67 ?_
      refine g_if_eq (pc := 68) (tgt := 76) h dX6_stepsBy_68 (by decide) hF (fun hF => ?_) (fun hF => ?_)
      · refine g_iload (pc := 76) h 4 rfl dX6_stepsBy_76 ?_
        exact g_iret (pc := 78) h hr ⟨Nat.le_refl _, Nat.le_refl _⟩ hF dX6_stepsBy_78
      · refine g_iload (pc := 71) h 5 rfl dX6_stepsBy_71 ?_
        refine g_goto (pc := 73) (tgt := 78) h dX6_stepsBy_73 (by decide) ?_
        exact g_iret (pc := 78) h hr ⟨Nat.le_refl _, Nat.le_refl _⟩ hF dX6_stepsBy_78
    · refine g_aload_n (pc := 17) h 0 rfl dX6_stepsBy_17 ?_
      refine g_aload_n (pc := 18) h 2 rfl dX6_stepsBy_18 ?_
      refine g_cvV (pc := 19) (st := []) h mX6_think cvX6_133 (inw ht) (by decide) ⟨by decide, by decide⟩ (Nat.le_of_ble_eq_true rfl) rfl rfl dX6_stepsBy_19 hF (fun u_1 w_2 hF => ?_)
      refine g_aload_n (pc := 22) h 0 rfl dX6_stepsBy_22 ?_
      refine g_getR (pc := 23) h fdX6_98 (inw ht) rfl dX6_stepsBy_23 ?_
      refine g_iload (pc := 26) h 6 rfl dX6_stepsBy_26 ?_
      refine g_dr hF (fun a_3 e_a_3 h_a_3 hF => ?_)
      rw [e_a_3]
      refine g_putI (pc := 28) h fdX6_169 h_a_3 (by decide) ⟨rfl, rfl⟩ dX6_stepsBy_28 ?_
      refine g_w hF (fun w_4 hF => ?_)
      refine g_aload_n (pc := 31) h 0 rfl dX6_stepsBy_31 ?_
      refine g_getR (pc := 32) h fdX6_98 (inw ht) rfl dX6_stepsBy_32 ?_
      refine g_aload_n (pc := 35) h 1 rfl dX6_stepsBy_35 ?_
      refine g_dr hF (fun a_5 e_a_5 h_a_5 hF => ?_)
      rw [e_a_5]
      refine g_cvI (pc := 36) (st := []) h mX4_firstOtherwise cvX6_237 h_a_5 (by decide) ⟨by decide, by decide⟩ (Nat.le_of_ble_eq_true rfl) rfl rfl dX6_stepsBy_36 hF (fun x_6 w_7 hF => ?_)
      refine g_iconst (pc := 39) (v := (-1 : Int32)) h dX6_stepsBy_39 (by decide) ?_
      refine g_icmp_ne (pc := 40) (tgt := 61) h dX6_stepsBy_40 (by decide) hF (fun hF => ?_) (fun hF => ?_)
      · exact kX6_stepsBy_61 h hr hnL ht (fun z0 z1 z2 z3 z4 z5 z6 hF => ih z0 z1 z2 z3 z4 z5 z6 hF) _ _ _ _ _ _ _ hF
      · refine g_iinc (pc := 43) (lv' := [(4, .inl (x4 + (1 : Int32))), (0, .inr (.inl (some t))), (1, .inr (.inl r1)), (2, .inr (.inl r2)), (3, .inl x3), (5, .inl x5), (6, .inl x6)]) h 4 rfl dX6_stepsBy_43 (dv := (1 : Int32)) (by decide) (hj 4 (by decide)) rfl ?_
        refine g_iload (pc := 46) h 5 rfl dX6_stepsBy_46 ?_
        refine g_iconst (pc := 48) (v := (-1 : Int32)) h dX6_stepsBy_48 (by decide) ?_
        refine g_icmp_ne (pc := 49) (tgt := 57) h dX6_stepsBy_49 (by decide) hF (fun hF => ?_) (fun hF => ?_)
        · refine g_iload (pc := 57) h 5 rfl dX6_stepsBy_57 ?_
          refine g_lv (lv' := [(0, .inr (.inl (some t))), (1, .inr (.inl r1)), (2, .inr (.inl r2)), (3, .inl x3), (4, .inl (x4 + (1 : Int32))), (6, .inl x6)]) [1, 2, 3, 4, 0, 6] rfl ?_
          exact kX6_stepsBy_59 h hr hnL ht (fun z0 z1 z2 z3 z4 z5 z6 hF => ih z0 z1 z2 z3 z4 z5 z6 hF) _ _ _ _ _ _ _ hF
        · refine g_iload (pc := 52) h 6 rfl dX6_stepsBy_52 ?_
          refine g_goto (pc := 54) (tgt := 59) h dX6_stepsBy_54 (by decide) ?_
          refine g_lv (lv' := [(0, .inr (.inl (some t))), (1, .inr (.inl r1)), (2, .inr (.inl r2)), (3, .inl x3), (4, .inl (x4 + (1 : Int32))), (6, .inl x6)]) [1, 2, 3, 4, 0, 6] rfl ?_
          exact kX6_stepsBy_59 h hr hnL ht (fun z0 z1 z2 z3 z4 z5 z6 hF => ih z0 z1 z2 z3 z4 z5 z6 hF) _ _ _ _ _ _ _ hF
def fX6_stepsBy (t : Nat) (r1 : Option Nat) (r2 : Option Nat) (x3 : Int32) (w : Wd) : Option (Int32 × Wd) :=
  fX6_stepsBy_9 t FU r1 r2 x3 (0 : Int32) (-1 : Int32) (0 : Int32) w
set_option maxHeartbeats 4000000 in
theorem mX6_stepsBy {Γ : En} {t : Nat} {r1 : Option Nat} {r2 : Option Nat} {x3 : Int32} {w : Wd} (ht : t < wn w ∧ kd t = 6) : MtI Γ yX6_stepsBy cX6_stepsBy 7 (some .int) 10 0 0 [rv Γ (some t), rv Γ r1, rv Γ r2, .int x3] w (fX6_stepsBy t r1 r2 x3 w) := by
  refine mtI [.inr (.inl (some t)), .inr (.inl r1), .inr (.inl r2), .inl x3] rfl (Nat.le_of_ble_eq_true rfl) (fun X hΓ hnL hn0 h _ hr hF => ?_)
  subst hΓ
  have ht : InN X t 6 := ⟨by rw [hn0]; exact ht.1, ht.2⟩
  have h : Ok X cX6_stepsBy RX6 10 0 0 := h
  have hj : ∀ j, j < 7 → j < nLX X := fun j q => by rw [hnL]; exact q
  show G X 0 0 0 [(0, .inr (.inl (some t))), (1, .inr (.inl r1)), (2, .inr (.inl r2)), (3, .inl x3)] [] w
  unfold fX6_stepsBy at hF
  refine g_iconst (pc := 0) (v := (0 : Int32)) h dX6_stepsBy_0 (by decide) ?_
  refine g_istore (pc := 1) (lv' := [(4, .inl (0 : Int32)), (0, .inr (.inl (some t))), (1, .inr (.inl r1)), (2, .inr (.inl r2)), (3, .inl x3)]) h dX6_stepsBy_1 (hj 4 (by decide)) rfl ?_
  refine g_iconst (pc := 3) (v := (-1 : Int32)) h dX6_stepsBy_3 (by decide) ?_
  refine g_istore (pc := 4) (lv' := [(5, .inl (-1 : Int32)), (4, .inl (0 : Int32)), (0, .inr (.inl (some t))), (1, .inr (.inl r1)), (2, .inr (.inl r2)), (3, .inl x3)]) h dX6_stepsBy_4 (hj 5 (by decide)) rfl ?_
  refine g_iconst (pc := 6) (v := (0 : Int32)) h dX6_stepsBy_6 (by decide) ?_
  refine g_istore (pc := 7) (lv' := [(6, .inl (0 : Int32)), (5, .inl (-1 : Int32)), (4, .inl (0 : Int32)), (0, .inr (.inl (some t))), (1, .inr (.inl r1)), (2, .inr (.inl r2)), (3, .inl x3)]) h dX6_stepsBy_7 (hj 6 (by decide)) rfl ?_
  refine g_lv (lv' := [(0, .inr (.inl (some t))), (1, .inr (.inl r1)), (2, .inr (.inl r2)), (3, .inl x3), (4, .inl (0 : Int32)), (5, .inl (-1 : Int32)), (6, .inl (0 : Int32))]) [3, 4, 5, 6, 2, 1, 0] rfl ?_
  exact kX6_stepsBy_9 h hr hnL ht _ _ _ _ _ _ _ _ hF
def fX6_textsBy_51 (k5 : Option Nat → Option Nat → Int32 → Int32 → Wd → Option (Int32 × Wd)) (t : Nat) (r1 : Option Nat) (r2 : Option Nat) (x4 : Int32) (y0 : Int32) (y1 : Int32) (w : Wd) : Option (Int32 × Wd) :=
  bnd (fX6_bit y0 w) (fun x_9 w_10 => lt (y1 ||| (x_9 <<< (x4 &&& 31))) (fun x3_11 => k5 r1 r2 x3_11 (x4 + (1 : Int32)) w_10))
set_option maxHeartbeats 4000000 in
theorem kX6_textsBy_51 {X : Cx} (h : Ok X cX6_textsBy RX6 10 0 0) (hr : RetI X .int 0 0) (hnL : nLX X = 5) {t : Nat} (ht : InN X t 6) {k5 : Option Nat → Option Nat → Int32 → Int32 → Wd → Option (Int32 × Wd)} (hk5 : ∀ (r1 : Option Nat) (r2 : Option Nat) (x3 : Int32) (x4 : Int32) (w : Wd), OkR X Value.int (k5 r1 r2 x3 x4 w) → G X 0 0 5 [(0, .inr (.inl (some t))), (1, .inr (.inl r1)), (2, .inr (.inl r2)), (3, .inl x3), (4, .inl x4)] [] w) : ∀ (r1 : Option Nat) (r2 : Option Nat) (x4 : Int32) (y0 : Int32) (y1 : Int32) (w : Wd), OkR X Value.int (fX6_textsBy_51 k5 t r1 r2 x4 y0 y1 w) → G X 0 0 51 [(0, .inr (.inl (some t))), (1, .inr (.inl r1)), (2, .inr (.inl r2)), (4, .inl x4)] [.int y0, .int y1] w := by
  have hj : ∀ j, j < 5 → j < nLX X := fun j q => by rw [hnL]; exact q
  intro r1 r2 x4 y0 y1 w hF
  unfold fX6_textsBy_51 at hF
  refine g_csI (pc := 51) (st := [.int y1]) h mX6_bit csX6_156 (by decide) ⟨by decide, by decide⟩ (Nat.le_of_ble_eq_true rfl) rfl rfl dX6_textsBy_51 hF (fun x_9 w_10 hF => ?_)
  refine g_iload (pc := 54) h 3 rfl dX6_textsBy_54 ?_
  refine g_ishl (pc := 56) h dX6_textsBy_56 ?_
  refine g_ior (pc := 57) h dX6_textsBy_57 ?_
  refine g_t hF (fun x3_11 hF => ?_)
  refine g_istore_n (pc := 58) (lv' := [(3, .inl x3_11), (0, .inr (.inl (some t))), (1, .inr (.inl r1)), (2, .inr (.inl r2)), (4, .inl x4)]) h dX6_textsBy_58 (hj 3 (by decide)) rfl ?_
  refine g_iinc (pc := 59) (lv' := [(4, .inl (x4 + (1 : Int32))), (3, .inl x3_11), (0, .inr (.inl (some t))), (1, .inr (.inl r1)), (2, .inr (.inl r2))]) h 4 rfl dX6_textsBy_59 (dv := (1 : Int32)) (by decide) (hj 4 (by decide)) rfl ?_
  refine g_goto (pc := 62) (tgt := 5) h dX6_textsBy_62 (by decide) ?_
  refine g_lv (lv' := [(0, .inr (.inl (some t))), (1, .inr (.inl r1)), (2, .inr (.inl r2)), (3, .inl x3_11), (4, .inl (x4 + (1 : Int32)))]) [2, 3, 4, 1, 0] rfl ?_
  exact hk5 _ _ _ _ _ hF
def fX6_textsBy_5 (t : Nat) : Nat → Option Nat → Option Nat → Int32 → Int32 → Wd → Option (Int32 × Wd)
  | 0 => fun _ _ _ _ _ => none
  | n + 1 => fun r1 r2 x3 x4 w =>
    if (gI w t 6) ≤ x4 then
      (some (x3, w))
    else
      (bnd (fX6_think t r2 w) (fun u_1 w_2 => dr (gR w_2 t 5) 11 w_2 (fun a_3 => grd (vin x4 (ln a_3)) (dr (gR w_2 t 9) 4 w_2 (fun a_4 => lw (sR w_2 a_4 7 (gR w_2 a_3 x4.toNatClampNeg)) (fun w_5 => dr (gR w_5 t 9) 4 w_5 (fun a_6 => bnd (fX4_firstOtherwise a_6 r1 w_5) (fun x_7 w_8 => if x_7 = (-1 : Int32) then
        (fX6_textsBy_51 (fX6_textsBy_5 t n) t r1 r2 x4 (1 : Int32) x3 w_8)
      else
        (fX6_textsBy_51 (fX6_textsBy_5 t n) t r1 r2 x4 (0 : Int32) x3 w_8)))))))))
set_option maxHeartbeats 4000000 in
theorem kX6_textsBy_5 {X : Cx} (h : Ok X cX6_textsBy RX6 10 0 0) (hr : RetI X .int 0 0) (hnL : nLX X = 5) {t : Nat} (ht : InN X t 6) : ∀ (fu : Nat) (r1 : Option Nat) (r2 : Option Nat) (x3 : Int32) (x4 : Int32) (w : Wd), OkR X Value.int (fX6_textsBy_5 t fu r1 r2 x3 x4 w) → G X 0 0 5 [(0, .inr (.inl (some t))), (1, .inr (.inl r1)), (2, .inr (.inl r2)), (3, .inl x3), (4, .inl x4)] [] w := by
  have hj : ∀ j, j < 5 → j < nLX X := fun j q => by rw [hnL]; exact q
  intro fu
  induction fu with
  | zero => intro r1 r2 x3 x4 w hF; exact okN hF
  | succ fu ih =>
    intro r1 r2 x3 x4 w hF
    rw [fX6_textsBy_5] at hF
    refine g_iload (pc := 5) h 4 rfl dX6_textsBy_5 ?_
    refine g_aload_n (pc := 7) h 0 rfl dX6_textsBy_7 ?_
    refine g_getI (pc := 8) h fdX6_35 (inw ht) (by decide) dX6_textsBy_8 ?_
    refine g_icmp_ge (pc := 11) (tgt := 65) h dX6_textsBy_11 (by decide) hF (fun hF => ?_) (fun hF => ?_)
    · refine g_iload_n (pc := 65) h 3 rfl dX6_textsBy_65 ?_
      exact g_iret (pc := 66) h hr ⟨Nat.le_refl _, Nat.le_refl _⟩ hF dX6_textsBy_66
    · refine g_aload_n (pc := 14) h 0 rfl dX6_textsBy_14 ?_
      refine g_aload_n (pc := 15) h 2 rfl dX6_textsBy_15 ?_
      refine g_cvV (pc := 16) (st := []) h mX6_think cvX6_133 (inw ht) (by decide) ⟨by decide, by decide⟩ (Nat.le_of_ble_eq_true rfl) rfl rfl dX6_textsBy_16 hF (fun u_1 w_2 hF => ?_)
      refine g_aload_n (pc := 19) h 0 rfl dX6_textsBy_19 ?_
      refine g_getR (pc := 20) h fdX6_98 (inw ht) rfl dX6_textsBy_20 ?_
      refine g_aload_n (pc := 23) h 0 rfl dX6_textsBy_23 ?_
      refine g_getR (pc := 24) h fdX6_31 (inw ht) rfl dX6_textsBy_24 ?_
      refine g_iload (pc := 27) h 4 rfl dX6_textsBy_27 ?_
      refine g_dr hF (fun a_3 e_a_3 h_a_3 hF => ?_)
      rw [e_a_3]
      obtain ⟨g_1, hF⟩ := grd_ok hF
      refine g_aald (pc := 29) h (by decide) rfl h_a_3 g_1 dX6_textsBy_29 ?_
      refine g_dr hF (fun a_4 e_a_4 h_a_4 hF => ?_)
      rw [e_a_4]
      refine g_putR (pc := 30) h fdX6_350 h_a_4 rfl (Or.inl ⟨_, rfl⟩) dX6_textsBy_30 ?_
      refine g_w hF (fun w_5 hF => ?_)
      refine g_iload_n (pc := 33) h 3 rfl dX6_textsBy_33 ?_
      refine g_aload_n (pc := 34) h 0 rfl dX6_textsBy_34 ?_
      refine g_getR (pc := 35) h fdX6_98 (inw ht) rfl dX6_textsBy_35 ?_
      refine g_aload_n (pc := 38) h 1 rfl dX6_textsBy_38 ?_
      refine g_dr hF (fun a_6 e_a_6 h_a_6 hF => ?_)
      rw [e_a_6]
      refine g_cvI (pc := 39) (st := [.int x3]) h mX4_firstOtherwise cvX6_237 h_a_6 (by decide) ⟨by decide, by decide⟩ (Nat.le_of_ble_eq_true rfl) rfl rfl dX6_textsBy_39 hF (fun x_7 w_8 hF => ?_)
      refine g_iconst (pc := 42) (v := (-1 : Int32)) h dX6_textsBy_42 (by decide) ?_
      refine g_icmp_ne (pc := 43) (tgt := 50) h dX6_textsBy_43 (by decide) hF (fun hF => ?_) (fun hF => ?_)
      · refine g_iconst (pc := 50) (v := (0 : Int32)) h dX6_textsBy_50 (by decide) ?_
        refine g_lv (lv' := [(0, .inr (.inl (some t))), (1, .inr (.inl r1)), (2, .inr (.inl r2)), (4, .inl x4)]) [0, 1, 2, 4] rfl ?_
        exact kX6_textsBy_51 h hr hnL ht (fun z0 z1 z2 z3 z4 hF => ih z0 z1 z2 z3 z4 hF) _ _ _ _ _ _ hF
      · refine g_iconst (pc := 46) (v := (1 : Int32)) h dX6_textsBy_46 (by decide) ?_
        refine g_goto (pc := 47) (tgt := 51) h dX6_textsBy_47 (by decide) ?_
        refine g_lv (lv' := [(0, .inr (.inl (some t))), (1, .inr (.inl r1)), (2, .inr (.inl r2)), (4, .inl x4)]) [0, 1, 2, 4] rfl ?_
        exact kX6_textsBy_51 h hr hnL ht (fun z0 z1 z2 z3 z4 hF => ih z0 z1 z2 z3 z4 hF) _ _ _ _ _ _ hF
def fX6_textsBy (t : Nat) (r1 : Option Nat) (r2 : Option Nat) (w : Wd) : Option (Int32 × Wd) :=
  fX6_textsBy_5 t FU r1 r2 (0 : Int32) (0 : Int32) w
set_option maxHeartbeats 4000000 in
theorem mX6_textsBy {Γ : En} {t : Nat} {r1 : Option Nat} {r2 : Option Nat} {w : Wd} (ht : t < wn w ∧ kd t = 6) : MtI Γ yX6_textsBy cX6_textsBy 5 (some .int) 10 0 0 [rv Γ (some t), rv Γ r1, rv Γ r2] w (fX6_textsBy t r1 r2 w) := by
  refine mtI [.inr (.inl (some t)), .inr (.inl r1), .inr (.inl r2)] rfl (Nat.le_of_ble_eq_true rfl) (fun X hΓ hnL hn0 h _ hr hF => ?_)
  subst hΓ
  have ht : InN X t 6 := ⟨by rw [hn0]; exact ht.1, ht.2⟩
  have h : Ok X cX6_textsBy RX6 10 0 0 := h
  have hj : ∀ j, j < 5 → j < nLX X := fun j q => by rw [hnL]; exact q
  show G X 0 0 0 [(0, .inr (.inl (some t))), (1, .inr (.inl r1)), (2, .inr (.inl r2))] [] w
  unfold fX6_textsBy at hF
  refine g_iconst (pc := 0) (v := (0 : Int32)) h dX6_textsBy_0 (by decide) ?_
  refine g_istore_n (pc := 1) (lv' := [(3, .inl (0 : Int32)), (0, .inr (.inl (some t))), (1, .inr (.inl r1)), (2, .inr (.inl r2))]) h dX6_textsBy_1 (hj 3 (by decide)) rfl ?_
  refine g_iconst (pc := 2) (v := (0 : Int32)) h dX6_textsBy_2 (by decide) ?_
  refine g_istore (pc := 3) (lv' := [(4, .inl (0 : Int32)), (3, .inl (0 : Int32)), (0, .inr (.inl (some t))), (1, .inr (.inl r1)), (2, .inr (.inl r2))]) h dX6_textsBy_3 (hj 4 (by decide)) rfl ?_
  refine g_lv (lv' := [(0, .inr (.inl (some t))), (1, .inr (.inl r1)), (2, .inr (.inl r2)), (3, .inl (0 : Int32)), (4, .inl (0 : Int32))]) [2, 3, 4, 1, 0] rfl ?_
  exact kX6_textsBy_5 h hr hnL ht _ _ _ _ _ _ hF
def fX6_tells (t : Nat) (x1 : Int32) (x2 : Int32) (x3 : Int32) (w : Wd) : Option (Int32 × Wd) :=
  bnd (fX6_sheetAt t x1 w) (fun r_1 w_2 => bnd (fX6_walkerAt t x2 w_2) (fun r_3 w_4 => ifn r_1
    (some ((-2 : Int32), w_4))
    (ifn r_3
      (some ((-2 : Int32), w_4))
      (bnd (fX6_within x3 (0 : Int32) (7 : Int32) w_4) (fun x_5 w_6 => if x_5 = 0 then
        (some ((-2 : Int32), w_6))
      else
        (dr r_1 2 w_6 (fun a_7 => bnd (fX2_isMissing a_7 w_6) (fun x_8 w_9 => if x_8 = 0 then
          (if x3 = (0 : Int32) then
            (bnd (fX6_think t r_3 w_9) (fun u_10 w_11 => dr (gR w_11 t 9) 4 w_11 (fun a_12 => bnd (fX4_firstOtherwise a_12 (some a_7) w_11) (fun x_13 w_14 => some (x_13, w_14)))))
          else if x3 = (1 : Int32) then
            (bnd (fX6_kindsBy t (some a_7) r_3 w_9) (fun x_15 w_16 => some (x_15, w_16)))
          else if x3 = (2 : Int32) then
            (bnd (fX6_numbersBy t (some a_7) r_3 w_9) (fun x_17 w_18 => some (x_17, w_18)))
          else if x3 = (3 : Int32) then
            (bnd (fX6_setsBy t (some a_7) r_3 (0 : Int32) w_9) (fun x_19 w_20 => some (x_19, w_20)))
          else if x3 = (4 : Int32) then
            (bnd (fX6_setsBy t (some a_7) r_3 (1 : Int32) w_9) (fun x_21 w_22 => some (x_21, w_22)))
          else if x3 = (5 : Int32) then
            (bnd (fX6_textsBy t (some a_7) r_3 w_9) (fun x_23 w_24 => some (x_23, w_24)))
          else if x3 = (6 : Int32) then
            (bnd (fX6_stepsBy t (some a_7) r_3 (0 : Int32) w_9) (fun x_25 w_26 => some (x_25, w_26)))
          else 
            (bnd (fX6_stepsBy t (some a_7) r_3 (1 : Int32) w_9) (fun x_27 w_28 => some (x_27, w_28))))
        else
          (some ((-11 : Int32), w_9))))))))))
set_option maxHeartbeats 4000000 in
theorem mX6_tells {Γ : En} {t : Nat} {x1 : Int32} {x2 : Int32} {x3 : Int32} {w : Wd} (ht : t < wn w ∧ kd t = 6) : MtI Γ yX6_tells cX6_tells 6 (some .int) 11 0 0 [rv Γ (some t), .int x1, .int x2, .int x3] w (fX6_tells t x1 x2 x3 w) := by
  refine mtI [.inr (.inl (some t)), .inl x1, .inl x2, .inl x3] rfl (Nat.le_of_ble_eq_true rfl) (fun X hΓ hnL hn0 h _ hr hF => ?_)
  subst hΓ
  have ht : InN X t 6 := ⟨by rw [hn0]; exact ht.1, ht.2⟩
  have h : Ok X cX6_tells RX6 11 0 0 := h
  have hj : ∀ j, j < 6 → j < nLX X := fun j q => by rw [hnL]; exact q
  show G X 0 0 0 [(0, .inr (.inl (some t))), (1, .inl x1), (2, .inl x2), (3, .inl x3)] [] w
  unfold fX6_tells at hF
  refine g_aload_n (pc := 0) h 0 rfl dX6_tells_0 ?_
  refine g_iload_n (pc := 1) h 1 rfl dX6_tells_1 ?_
  refine g_cvQ (pc := 2) (st := []) h mX6_sheetAt cvX6_230 (inw ht) (by decide) ⟨by decide, by decide⟩ (Nat.le_of_ble_eq_true rfl) rfl rfl dX6_tells_2 hF (fun r_1 w_2 hF => ?_)
  refine g_astore (pc := 5) (lv' := [(4, .inr (.inl r_1)), (0, .inr (.inl (some t))), (1, .inl x1), (2, .inl x2), (3, .inl x3)]) h dX6_tells_5 (hj 4 (by decide)) rfl ?_
  refine g_aload_n (pc := 7) h 1 rfl dX6_tells_7 ?_
  refine g_iload_n (pc := 8) h 3 rfl dX6_tells_8 ?_
  refine g_cvQ (pc := 9) (st := []) h mX6_walkerAt cvX6_129 (inw ht) (by decide) ⟨by decide, by decide⟩ (Nat.le_of_ble_eq_true rfl) rfl rfl dX6_tells_9 hF (fun r_3 w_4 hF => ?_)
  refine g_astore (pc := 12) (lv' := [(5, .inr (.inl r_3)), (4, .inr (.inl r_1)), (0, .inr (.inl (some t))), (1, .inl x1), (2, .inl x2), (3, .inl x3)]) h dX6_tells_12 (hj 5 (by decide)) rfl ?_
  refine g_aload (pc := 14) h 1 rfl dX6_tells_14 ?_
  refine g_ifnull (pc := 16) (tgt := 34) h dX6_tells_16 (by decide) hF (fun hF => ?_) (fun hF => ?_)
  · refine g_bipush (pc := 34) (v := (-2 : Int32)) h dX6_tells_34 (by decide) ?_
    exact g_iret (pc := 36) h hr ⟨Nat.le_refl _, Nat.le_refl _⟩ hF dX6_tells_36
  · refine g_aload (pc := 19) h 0 rfl dX6_tells_19 ?_
    refine g_ifnull (pc := 21) (tgt := 34) h dX6_tells_21 (by decide) hF (fun hF => ?_) (fun hF => ?_)
    · refine g_bipush (pc := 34) (v := (-2 : Int32)) h dX6_tells_34 (by decide) ?_
      exact g_iret (pc := 36) h hr ⟨Nat.le_refl _, Nat.le_refl _⟩ hF dX6_tells_36
    · refine g_iload_n (pc := 24) h 5 rfl dX6_tells_24 ?_
      refine g_iconst (pc := 25) (v := (0 : Int32)) h dX6_tells_25 (by decide) ?_
      refine g_bipush (pc := 26) (v := (7 : Int32)) h dX6_tells_26 (by decide) ?_
      refine g_csI (pc := 28) (st := []) h mX6_within csX6_114 (by decide) ⟨by decide, by decide⟩ (Nat.le_of_ble_eq_true rfl) rfl rfl dX6_tells_28 hF (fun x_5 w_6 hF => ?_)
      refine g_if_ne (pc := 31) (tgt := 37) h dX6_tells_31 (by decide) hF (fun hF => ?_) (fun hF => ?_)
      · refine g_aload (pc := 37) h 1 rfl dX6_tells_37 ?_
        refine g_dr hF (fun a_7 e_a_7 h_a_7 hF => ?_)
        rw [e_a_7]
        refine g_cvI (pc := 39) (st := []) h mX2_isMissing cvX6_234 h_a_7 (by decide) ⟨by decide, by decide⟩ (Nat.le_of_ble_eq_true rfl) rfl rfl dX6_tells_39 hF (fun x_8 w_9 hF => ?_)
        refine g_if_eq (pc := 42) (tgt := 48) h dX6_tells_42 (by decide) hF (fun hF => ?_) (fun hF => ?_)
        · refine g_iload_n (pc := 48) h 5 rfl dX6_tells_48 ?_
          refine g_swEq (pc := 49) (off := 43) (tgt := 92) h (0 : Int32) dX6_tells_49 (by decide) (by decide) hF (fun hF => ?_) (fun c_0 hF => ?_)
          · refine g_aload_n (pc := 92) h 2 rfl dX6_tells_92 ?_
            refine g_aload (pc := 93) h 0 rfl dX6_tells_93 ?_
            refine g_cvV (pc := 95) (st := []) h mX6_think cvX6_133 (inw ht) (by decide) ⟨by decide, by decide⟩ (Nat.le_of_ble_eq_true rfl) rfl rfl dX6_tells_95 hF (fun u_10 w_11 hF => ?_)
            refine g_aload_n (pc := 98) h 2 rfl dX6_tells_98 ?_
            refine g_getR (pc := 99) h fdX6_98 (inw ht) rfl dX6_tells_99 ?_
            refine g_aload (pc := 102) h 1 rfl dX6_tells_102 ?_
            refine g_dr hF (fun a_12 e_a_12 h_a_12 hF => ?_)
            rw [e_a_12]
            refine g_cvI (pc := 104) (st := []) h mX4_firstOtherwise cvX6_237 h_a_12 (by decide) ⟨by decide, by decide⟩ (Nat.le_of_ble_eq_true rfl) rfl rfl dX6_tells_104 hF (fun x_13 w_14 hF => ?_)
            exact g_iret (pc := 107) h hr ⟨Nat.le_refl _, Nat.le_refl _⟩ hF dX6_tells_107
          refine g_swEq (pc := 49) (off := 59) (tgt := 108) h (1 : Int32) dX6_tells_49 (by decide) (by decide) hF (fun hF => ?_) (fun c_1 hF => ?_)
          · refine g_aload_n (pc := 108) h 2 rfl dX6_tells_108 ?_
            refine g_aload (pc := 109) h 1 rfl dX6_tells_109 ?_
            refine g_aload (pc := 111) h 0 rfl dX6_tells_111 ?_
            refine g_cvI (pc := 113) (st := []) h mX6_kindsBy cvX6_241 (inw ht) (by decide) ⟨by decide, by decide⟩ (Nat.le_of_ble_eq_true rfl) rfl rfl dX6_tells_113 hF (fun x_15 w_16 hF => ?_)
            exact g_iret (pc := 116) h hr ⟨Nat.le_refl _, Nat.le_refl _⟩ hF dX6_tells_116
          refine g_swEq (pc := 49) (off := 68) (tgt := 117) h (2 : Int32) dX6_tells_49 (by decide) (by decide) hF (fun hF => ?_) (fun c_2 hF => ?_)
          · refine g_aload_n (pc := 117) h 2 rfl dX6_tells_117 ?_
            refine g_aload (pc := 118) h 1 rfl dX6_tells_118 ?_
            refine g_aload (pc := 120) h 0 rfl dX6_tells_120 ?_
            refine g_cvI (pc := 122) (st := []) h mX6_numbersBy cvX6_245 (inw ht) (by decide) ⟨by decide, by decide⟩ (Nat.le_of_ble_eq_true rfl) rfl rfl dX6_tells_122 hF (fun x_17 w_18 hF => ?_)
            exact g_iret (pc := 125) h hr ⟨Nat.le_refl _, Nat.le_refl _⟩ hF dX6_tells_125
          refine g_swEq (pc := 49) (off := 77) (tgt := 126) h (3 : Int32) dX6_tells_49 (by decide) (by decide) hF (fun hF => ?_) (fun c_3 hF => ?_)
          · refine g_aload_n (pc := 126) h 2 rfl dX6_tells_126 ?_
            refine g_aload (pc := 127) h 1 rfl dX6_tells_127 ?_
            refine g_aload (pc := 129) h 0 rfl dX6_tells_129 ?_
            refine g_iconst (pc := 131) (v := (0 : Int32)) h dX6_tells_131 (by decide) ?_
            refine g_cvI (pc := 132) (st := []) h mX6_setsBy cvX6_248 (inw ht) (by decide) ⟨by decide, by decide⟩ (Nat.le_of_ble_eq_true rfl) rfl rfl dX6_tells_132 hF (fun x_19 w_20 hF => ?_)
            exact g_iret (pc := 135) h hr ⟨Nat.le_refl _, Nat.le_refl _⟩ hF dX6_tells_135
          refine g_swEq (pc := 49) (off := 87) (tgt := 136) h (4 : Int32) dX6_tells_49 (by decide) (by decide) hF (fun hF => ?_) (fun c_4 hF => ?_)
          · refine g_aload_n (pc := 136) h 2 rfl dX6_tells_136 ?_
            refine g_aload (pc := 137) h 1 rfl dX6_tells_137 ?_
            refine g_aload (pc := 139) h 0 rfl dX6_tells_139 ?_
            refine g_iconst (pc := 141) (v := (1 : Int32)) h dX6_tells_141 (by decide) ?_
            refine g_cvI (pc := 142) (st := []) h mX6_setsBy cvX6_248 (inw ht) (by decide) ⟨by decide, by decide⟩ (Nat.le_of_ble_eq_true rfl) rfl rfl dX6_tells_142 hF (fun x_21 w_22 hF => ?_)
            exact g_iret (pc := 145) h hr ⟨Nat.le_refl _, Nat.le_refl _⟩ hF dX6_tells_145
          refine g_swEq (pc := 49) (off := 97) (tgt := 146) h (5 : Int32) dX6_tells_49 (by decide) (by decide) hF (fun hF => ?_) (fun c_5 hF => ?_)
          · refine g_aload_n (pc := 146) h 2 rfl dX6_tells_146 ?_
            refine g_aload (pc := 147) h 1 rfl dX6_tells_147 ?_
            refine g_aload (pc := 149) h 0 rfl dX6_tells_149 ?_
            refine g_cvI (pc := 151) (st := []) h mX6_textsBy cvX6_252 (inw ht) (by decide) ⟨by decide, by decide⟩ (Nat.le_of_ble_eq_true rfl) rfl rfl dX6_tells_151 hF (fun x_23 w_24 hF => ?_)
            exact g_iret (pc := 154) h hr ⟨Nat.le_refl _, Nat.le_refl _⟩ hF dX6_tells_154
          refine g_swEq (pc := 49) (off := 106) (tgt := 155) h (6 : Int32) dX6_tells_49 (by decide) (by decide) hF (fun hF => ?_) (fun c_6 hF => ?_)
          · refine g_aload_n (pc := 155) h 2 rfl dX6_tells_155 ?_
            refine g_aload (pc := 156) h 1 rfl dX6_tells_156 ?_
            refine g_aload (pc := 158) h 0 rfl dX6_tells_158 ?_
            refine g_iconst (pc := 160) (v := (0 : Int32)) h dX6_tells_160 (by decide) ?_
            refine g_cvI (pc := 161) (st := []) h mX6_stepsBy cvX6_255 (inw ht) (by decide) ⟨by decide, by decide⟩ (Nat.le_of_ble_eq_true rfl) rfl rfl dX6_tells_161 hF (fun x_25 w_26 hF => ?_)
            exact g_iret (pc := 164) h hr ⟨Nat.le_refl _, Nat.le_refl _⟩ hF dX6_tells_164
          refine g_swOut (pc := 49) (tgt := 165) h dX6_tells_49 (sw_out (q := 7) (fun j hj9 => ?_)) (by decide) ?_
          · match j, hj9 with
            | 0, _ => exact c_0
            | 1, _ => exact c_1
            | 2, _ => exact c_2
            | 3, _ => exact c_3
            | 4, _ => exact c_4
            | 5, _ => exact c_5
            | 6, _ => exact c_6
            | j + 7, hj9 => exact absurd hj9 (by omega)
          · refine g_aload_n (pc := 165) h 2 rfl dX6_tells_165 ?_
            refine g_aload (pc := 166) h 1 rfl dX6_tells_166 ?_
            refine g_aload (pc := 168) h 0 rfl dX6_tells_168 ?_
            refine g_iconst (pc := 170) (v := (1 : Int32)) h dX6_tells_170 (by decide) ?_
            refine g_cvI (pc := 171) (st := []) h mX6_stepsBy cvX6_255 (inw ht) (by decide) ⟨by decide, by decide⟩ (Nat.le_of_ble_eq_true rfl) rfl rfl dX6_tells_171 hF (fun x_27 w_28 hF => ?_)
            exact g_iret (pc := 174) h hr ⟨Nat.le_refl _, Nat.le_refl _⟩ hF dX6_tells_174
        · refine g_bipush (pc := 45) (v := (-11 : Int32)) h dX6_tells_45 (by decide) ?_
          exact g_iret (pc := 47) h hr ⟨Nat.le_refl _, Nat.le_refl _⟩ hF dX6_tells_47
      · refine g_bipush (pc := 34) (v := (-2 : Int32)) h dX6_tells_34 (by decide) ?_
        exact g_iret (pc := 36) h hr ⟨Nat.le_refl _, Nat.le_refl _⟩ hF dX6_tells_36
def fX6_film_50 (t : Nat) : Nat → Int32 → Option Nat → Int32 → Wd → Option (Int32 × Wd)
  | 0 => fun _ _ _ _ => none
  | n + 1 => fun x3 r4 x6 w =>
    if x3 ≤ x6 then
      (some (x3, w))
    else
      (dr (gR w t 9) 4 w (fun a_12 => bnd (fX4_passDay a_12 w) (fun x_13 w_14 => dr (gR w_14 t 9) 4 w_14 (fun a_15 => dr r4 2 w_14 (fun a_16 => bnd (fX2_put a_16 x6 (gI w_14 a_15 4) w_14) (fun u_17 w_18 => fX6_film_50 t n x3 (some a_16) (x6 + (1 : Int32)) w_18))))))
set_option maxHeartbeats 4000000 in
theorem kX6_film_50 {X : Cx} (h : Ok X cX6_film RX6 9 0 0) (hr : RetI X .int 0 0) (hnL : nLX X = 7) {t : Nat} (ht : InN X t 6) : ∀ (fu : Nat) (x3 : Int32) (r4 : Option Nat) (x6 : Int32) (w : Wd), OkR X Value.int (fX6_film_50 t fu x3 r4 x6 w) → G X 0 0 50 [(0, .inr (.inl (some t))), (3, .inl x3), (4, .inr (.inl r4)), (6, .inl x6)] [] w := by
  have hj : ∀ j, j < 7 → j < nLX X := fun j q => by rw [hnL]; exact q
  intro fu
  induction fu with
  | zero => intro x3 r4 x6 w hF; exact okN hF
  | succ fu ih =>
    intro x3 r4 x6 w hF
    rw [fX6_film_50] at hF
    refine g_iload (pc := 50) h 3 rfl dX6_film_50 ?_
    refine g_iload_n (pc := 52) h 1 rfl dX6_film_52 ?_
    refine g_icmp_ge (pc := 53) (tgt := 84) h dX6_film_53 (by decide) hF (fun hF => ?_) (fun hF => ?_)
    · refine g_iload_n (pc := 84) h 1 rfl dX6_film_84 ?_
      exact g_iret (pc := 85) h hr ⟨Nat.le_refl _, Nat.le_refl _⟩ hF dX6_film_85
    · refine g_aload_n (pc := 56) h 0 rfl dX6_film_56 ?_
      refine g_getR (pc := 57) h fdX6_98 (inw ht) rfl dX6_film_57 ?_
      refine g_dr hF (fun a_12 e_a_12 h_a_12 hF => ?_)
      rw [e_a_12]
      refine g_cvI (pc := 60) (st := []) h mX4_passDay cvX6_166 h_a_12 (by decide) ⟨by decide, by decide⟩ (Nat.le_of_ble_eq_true rfl) rfl rfl dX6_film_60 hF (fun x_13 w_14 hF => ?_)
      refine g_pop (pc := 63) h dX6_film_63 rfl ?_
      refine g_aload (pc := 64) h 2 rfl dX6_film_64 ?_
      refine g_iload (pc := 66) h 3 rfl dX6_film_66 ?_
      refine g_aload_n (pc := 68) h 0 rfl dX6_film_68 ?_
      refine g_getR (pc := 69) h fdX6_98 (inw ht) rfl dX6_film_69 ?_
      refine g_dr hF (fun a_15 e_a_15 h_a_15 hF => ?_)
      rw [e_a_15]
      refine g_getI (pc := 72) h fdX6_169 h_a_15 (by decide) dX6_film_72 ?_
      refine g_dr hF (fun a_16 e_a_16 h_a_16 hF => ?_)
      rw [e_a_16]
      refine g_cvV (pc := 75) (st := []) h mX2_put cvX6_262 h_a_16 (by decide) ⟨by decide, by decide⟩ (Nat.le_of_ble_eq_true rfl) rfl rfl dX6_film_75 hF (fun u_17 w_18 hF => ?_)
      refine g_iinc (pc := 78) (lv' := [(6, .inl (x6 + (1 : Int32))), (0, .inr (.inl (some t))), (3, .inl x3), (4, .inr (.inl (some a_16)))]) h 3 rfl dX6_film_78 (dv := (1 : Int32)) (by decide) (hj 6 (by decide)) rfl ?_
      refine g_goto (pc := 81) (tgt := 50) h dX6_film_81 (by decide) ?_
      refine g_lv (lv' := [(0, .inr (.inl (some t))), (3, .inl x3), (4, .inr (.inl (some a_16))), (6, .inl (x6 + (1 : Int32)))]) [1, 2, 3, 0] rfl ?_
      exact ih _ _ _ _ hF
def fX6_film (t : Nat) (x1 : Int32) (x2 : Int32) (x3 : Int32) (w : Wd) : Option (Int32 × Wd) :=
  bnd (fX6_sheetAt t x1 w) (fun r_1 w_2 => bnd (fX6_walkerAt t x2 w_2) (fun r_3 w_4 => ifn r_1
    (some ((-2 : Int32), w_4))
    (ifn r_3
      (some ((-2 : Int32), w_4))
      (bnd (fX6_isDays x3 w_4) (fun x_5 w_6 => if x_5 = 0 then
        (some ((-2 : Int32), w_6))
      else
        (dr r_1 2 w_6 (fun a_7 => bnd (fX2_becomeRow a_7 (1 : Int32) x3 w_6) (fun u_8 w_9 => bnd (fX6_think t r_3 w_9) (fun u_10 w_11 => fX6_film_50 t FU x3 (some a_7) (0 : Int32) w_11)))))))))
set_option maxHeartbeats 4000000 in
theorem mX6_film {Γ : En} {t : Nat} {x1 : Int32} {x2 : Int32} {x3 : Int32} {w : Wd} (ht : t < wn w ∧ kd t = 6) : MtI Γ yX6_film cX6_film 7 (some .int) 9 0 0 [rv Γ (some t), .int x1, .int x2, .int x3] w (fX6_film t x1 x2 x3 w) := by
  refine mtI [.inr (.inl (some t)), .inl x1, .inl x2, .inl x3] rfl (Nat.le_of_ble_eq_true rfl) (fun X hΓ hnL hn0 h _ hr hF => ?_)
  subst hΓ
  have ht : InN X t 6 := ⟨by rw [hn0]; exact ht.1, ht.2⟩
  have h : Ok X cX6_film RX6 9 0 0 := h
  have hj : ∀ j, j < 7 → j < nLX X := fun j q => by rw [hnL]; exact q
  show G X 0 0 0 [(0, .inr (.inl (some t))), (1, .inl x1), (2, .inl x2), (3, .inl x3)] [] w
  unfold fX6_film at hF
  refine g_aload_n (pc := 0) h 0 rfl dX6_film_0 ?_
  refine g_iload_n (pc := 1) h 1 rfl dX6_film_1 ?_
  refine g_cvQ (pc := 2) (st := []) h mX6_sheetAt cvX6_230 (inw ht) (by decide) ⟨by decide, by decide⟩ (Nat.le_of_ble_eq_true rfl) rfl rfl dX6_film_2 hF (fun r_1 w_2 hF => ?_)
  refine g_astore (pc := 5) (lv' := [(4, .inr (.inl r_1)), (0, .inr (.inl (some t))), (1, .inl x1), (2, .inl x2), (3, .inl x3)]) h dX6_film_5 (hj 4 (by decide)) rfl ?_
  refine g_aload_n (pc := 7) h 1 rfl dX6_film_7 ?_
  refine g_iload_n (pc := 8) h 3 rfl dX6_film_8 ?_
  refine g_cvQ (pc := 9) (st := []) h mX6_walkerAt cvX6_129 (inw ht) (by decide) ⟨by decide, by decide⟩ (Nat.le_of_ble_eq_true rfl) rfl rfl dX6_film_9 hF (fun r_3 w_4 hF => ?_)
  refine g_astore (pc := 12) (lv' := [(5, .inr (.inl r_3)), (4, .inr (.inl r_1)), (0, .inr (.inl (some t))), (1, .inl x1), (2, .inl x2), (3, .inl x3)]) h dX6_film_12 (hj 5 (by decide)) rfl ?_
  refine g_aload (pc := 14) h 1 rfl dX6_film_14 ?_
  refine g_ifnull (pc := 16) (tgt := 31) h dX6_film_16 (by decide) hF (fun hF => ?_) (fun hF => ?_)
  · refine g_bipush (pc := 31) (v := (-2 : Int32)) h dX6_film_31 (by decide) ?_
    exact g_iret (pc := 33) h hr ⟨Nat.le_refl _, Nat.le_refl _⟩ hF dX6_film_33
  · refine g_aload (pc := 19) h 0 rfl dX6_film_19 ?_
    refine g_ifnull (pc := 21) (tgt := 31) h dX6_film_21 (by decide) hF (fun hF => ?_) (fun hF => ?_)
    · refine g_bipush (pc := 31) (v := (-2 : Int32)) h dX6_film_31 (by decide) ?_
      exact g_iret (pc := 33) h hr ⟨Nat.le_refl _, Nat.le_refl _⟩ hF dX6_film_33
    · refine g_iload_n (pc := 24) h 5 rfl dX6_film_24 ?_
      refine g_csI (pc := 25) (st := []) h mX6_isDays csX6_177 (by decide) ⟨by decide, by decide⟩ (Nat.le_of_ble_eq_true rfl) rfl rfl dX6_film_25 hF (fun x_5 w_6 hF => ?_)
      refine g_if_ne (pc := 28) (tgt := 34) h dX6_film_28 (by decide) hF (fun hF => ?_) (fun hF => ?_)
      · refine g_aload (pc := 34) h 1 rfl dX6_film_34 ?_
        refine g_iconst (pc := 36) (v := (1 : Int32)) h dX6_film_36 (by decide) ?_
        refine g_iload_n (pc := 37) h 5 rfl dX6_film_37 ?_
        refine g_dr hF (fun a_7 e_a_7 h_a_7 hF => ?_)
        rw [e_a_7]
        refine g_cvV (pc := 38) (st := []) h mX2_becomeRow cvX6_258 h_a_7 (by decide) ⟨by decide, by decide⟩ (Nat.le_of_ble_eq_true rfl) rfl rfl dX6_film_38 hF (fun u_8 w_9 hF => ?_)
        refine g_aload_n (pc := 41) h 2 rfl dX6_film_41 ?_
        refine g_aload (pc := 42) h 0 rfl dX6_film_42 ?_
        refine g_cvV (pc := 44) (st := []) h mX6_think cvX6_133 (inw ht) (by decide) ⟨by decide, by decide⟩ (Nat.le_of_ble_eq_true rfl) rfl rfl dX6_film_44 hF (fun u_10 w_11 hF => ?_)
        refine g_iconst (pc := 47) (v := (0 : Int32)) h dX6_film_47 (by decide) ?_
        refine g_istore (pc := 48) (lv' := [(6, .inl (0 : Int32)), (5, .inr (.inl r_3)), (4, .inr (.inl (some a_7))), (0, .inr (.inl (some t))), (1, .inl x1), (2, .inl x2), (3, .inl x3)]) h dX6_film_48 (hj 6 (by decide)) rfl ?_
        refine g_lv (lv' := [(0, .inr (.inl (some t))), (3, .inl x3), (4, .inr (.inl (some a_7))), (6, .inl (0 : Int32))]) [3, 6, 2, 0] rfl ?_
        exact kX6_film_50 h hr hnL ht _ _ _ _ _ hF
      · refine g_bipush (pc := 31) (v := (-2 : Int32)) h dX6_film_31 (by decide) ?_
        exact g_iret (pc := 33) h hr ⟨Nat.le_refl _, Nat.le_refl _⟩ hF dX6_film_33
def fX6_draw_4 (t : Nat) : Nat → Int32 → Int32 → Wd → Option (Unit × Wd)
  | 0 => fun _ _ _ => none
  | n + 1 => fun x2 x3 w =>
    if (8 : Int32) ≤ x3 then
      (some ((), w))
    else
      (lt ((x2 * (1103515245 : Int32)) + (12345 : Int32)) (fun x2_1 => dr (gR w t 1) 8 w (fun a_2 => grd (vin x3 (ln a_2)) (lw (sI w a_2 x3.toNatClampNeg (((x2_1.toUInt32 >>> ((9 : Int32).toUInt32 &&& Int32.toUInt32 31)).toInt32) - ((x2_1.toUInt32 >>> ((9 : Int32).toUInt32 &&& Int32.toUInt32 31)).toInt32) / (30 : Int32) * (30 : Int32))) (fun w_3 => fX6_draw_4 t n x2_1 (x3 + (1 : Int32)) w_3)))))
set_option maxHeartbeats 4000000 in
theorem kX6_draw_4 {X : Cx} (h : Ok X cX6_draw RX6 2 0 0) (hr : RetV X 0 0) (hnL : nLX X = 4) {t : Nat} (ht : InN X t 6) : ∀ (fu : Nat) (x2 : Int32) (x3 : Int32) (w : Wd), OkR X (fun _ : Unit => Value.null) (fX6_draw_4 t fu x2 x3 w) → G X 0 0 4 [(0, .inr (.inl (some t))), (2, .inl x2), (3, .inl x3)] [] w := by
  have hj : ∀ j, j < 4 → j < nLX X := fun j q => by rw [hnL]; exact q
  intro fu
  induction fu with
  | zero => intro x2 x3 w hF; exact okN hF
  | succ fu ih =>
    intro x2 x3 w hF
    rw [fX6_draw_4] at hF
    refine g_iload_n (pc := 4) h 2 rfl dX6_draw_4 ?_
    refine g_bipush (pc := 5) (v := (8 : Int32)) h dX6_draw_5 (by decide) ?_
    refine g_icmp_ge (pc := 7) (tgt := 39) h dX6_draw_7 (by decide) hF (fun hF => ?_) (fun hF => ?_)
    · exact g_vret (pc := 39) h hr ⟨Nat.le_refl _, Nat.le_refl _⟩ hF dX6_draw_39
    · refine g_iload_n (pc := 10) h 1 rfl dX6_draw_10 ?_
      refine g_ldcw (pc := 11) h wci_X6_344 dX6_draw_11 ?_
      refine g_imul (pc := 14) h dX6_draw_14 ?_
      refine g_sipush (pc := 15) (v := (12345 : Int32)) h dX6_draw_15 (by decide) ?_
      refine g_iadd (pc := 18) h dX6_draw_18 ?_
      refine g_t hF (fun x2_1 hF => ?_)
      refine g_istore_n (pc := 19) (lv' := [(2, .inl x2_1), (0, .inr (.inl (some t))), (3, .inl x3)]) h dX6_draw_19 (hj 2 (by decide)) rfl ?_
      refine g_aload_n (pc := 20) h 1 rfl dX6_draw_20 ?_
      refine g_getR (pc := 21) h fdX6_13 (inw ht) rfl dX6_draw_21 ?_
      refine g_iload_n (pc := 24) h 2 rfl dX6_draw_24 ?_
      refine g_iload_n (pc := 25) h 0 rfl dX6_draw_25 ?_
      refine g_bipush (pc := 26) (v := (9 : Int32)) h dX6_draw_26 (by decide) ?_
      refine g_iushr (pc := 28) h dX6_draw_28 ?_
      refine g_bipush (pc := 29) (v := (30 : Int32)) h dX6_draw_29 (by decide) ?_
      refine g_irem (pc := 31) h dX6_draw_31 (by decide) ?_
      refine g_dr hF (fun a_2 e_a_2 h_a_2 hF => ?_)
      rw [e_a_2]
      obtain ⟨g_1, hF⟩ := grd_ok hF
      refine g_iast (pc := 32) h h_a_2 g_1 dX6_draw_32 ?_
      refine g_w hF (fun w_3 hF => ?_)
      refine g_iinc (pc := 33) (lv' := [(3, .inl (x3 + (1 : Int32))), (2, .inl x2_1), (0, .inr (.inl (some t)))]) h 2 rfl dX6_draw_33 (dv := (1 : Int32)) (by decide) (hj 3 (by decide)) rfl ?_
      refine g_goto (pc := 36) (tgt := 4) h dX6_draw_36 (by decide) ?_
      refine g_lv (lv' := [(0, .inr (.inl (some t))), (2, .inl x2_1), (3, .inl (x3 + (1 : Int32)))]) [2, 1, 0] rfl ?_
      exact ih _ _ _ hF
def fX6_draw (t : Nat) (x1 : Int32) (w : Wd) : Option (Unit × Wd) :=
  fX6_draw_4 t FU x1 (0 : Int32) w
set_option maxHeartbeats 4000000 in
theorem mX6_draw {Γ : En} {t : Nat} {x1 : Int32} {w : Wd} (ht : t < wn w ∧ kd t = 6) : MtV Γ yX6_draw cX6_draw 4 none 2 0 0 [rv Γ (some t), .int x1] w (fX6_draw t x1 w) := by
  refine mtV [.inr (.inl (some t)), .inl x1] rfl (Nat.le_of_ble_eq_true rfl) (fun X hΓ hnL hn0 h _ hr hF => ?_)
  subst hΓ
  have ht : InN X t 6 := ⟨by rw [hn0]; exact ht.1, ht.2⟩
  have h : Ok X cX6_draw RX6 2 0 0 := h
  have hj : ∀ j, j < 4 → j < nLX X := fun j q => by rw [hnL]; exact q
  show G X 0 0 0 [(0, .inr (.inl (some t))), (1, .inl x1)] [] w
  unfold fX6_draw at hF
  refine g_iload_n (pc := 0) h 1 rfl dX6_draw_0 ?_
  refine g_istore_n (pc := 1) (lv' := [(2, .inl x1), (0, .inr (.inl (some t))), (1, .inl x1)]) h dX6_draw_1 (hj 2 (by decide)) rfl ?_
  refine g_iconst (pc := 2) (v := (0 : Int32)) h dX6_draw_2 (by decide) ?_
  refine g_istore_n (pc := 3) (lv' := [(3, .inl (0 : Int32)), (2, .inl x1), (0, .inr (.inl (some t))), (1, .inl x1)]) h dX6_draw_3 (hj 3 (by decide)) rfl ?_
  refine g_lv (lv' := [(0, .inr (.inl (some t))), (2, .inl x1), (3, .inl (0 : Int32))]) [2, 1, 0] rfl ?_
  exact kX6_draw_4 h hr hnL ht _ _ _ _ hF
def fX6_drawn (t : Nat) (x1 : Int32) (x2 : Int32) (w : Wd) : Option (Int32 × Wd) :=
  bnd (fX6_isDays x2 w) (fun x_1 w_2 => if x_1 = 0 then
    (some ((-2 : Int32), w_2))
  else
    (bnd (fX6_draw t x1 w_2) (fun u_3 w_4 => bnd (fX6_stepsOfAll t x2 w_4) (fun x_5 w_6 => some (x_5, w_6)))))
set_option maxHeartbeats 4000000 in
theorem mX6_drawn {Γ : En} {t : Nat} {x1 : Int32} {x2 : Int32} {w : Wd} (ht : t < wn w ∧ kd t = 6) : MtI Γ yX6_drawn cX6_drawn 3 (some .int) 11 0 0 [rv Γ (some t), .int x1, .int x2] w (fX6_drawn t x1 x2 w) := by
  refine mtI [.inr (.inl (some t)), .inl x1, .inl x2] rfl (Nat.le_of_ble_eq_true rfl) (fun X hΓ hnL hn0 h _ hr hF => ?_)
  subst hΓ
  have ht : InN X t 6 := ⟨by rw [hn0]; exact ht.1, ht.2⟩
  have h : Ok X cX6_drawn RX6 11 0 0 := h
  have hj : ∀ j, j < 3 → j < nLX X := fun j q => by rw [hnL]; exact q
  show G X 0 0 0 [(0, .inr (.inl (some t))), (1, .inl x1), (2, .inl x2)] [] w
  unfold fX6_drawn at hF
  refine g_iload_n (pc := 0) h 2 rfl dX6_drawn_0 ?_
  refine g_csI (pc := 1) (st := []) h mX6_isDays csX6_177 (by decide) ⟨by decide, by decide⟩ (Nat.le_of_ble_eq_true rfl) rfl rfl dX6_drawn_1 hF (fun x_1 w_2 hF => ?_)
  refine g_if_ne (pc := 4) (tgt := 10) h dX6_drawn_4 (by decide) hF (fun hF => ?_) (fun hF => ?_)
  · refine g_aload_n (pc := 10) h 0 rfl dX6_drawn_10 ?_
    refine g_iload_n (pc := 11) h 1 rfl dX6_drawn_11 ?_
    refine g_cvV (pc := 12) (st := []) h mX6_draw cvX6_265 (inw ht) (by decide) ⟨by decide, by decide⟩ (Nat.le_of_ble_eq_true rfl) rfl rfl dX6_drawn_12 hF (fun u_3 w_4 hF => ?_)
    refine g_aload_n (pc := 15) h 0 rfl dX6_drawn_15 ?_
    refine g_iload_n (pc := 16) h 2 rfl dX6_drawn_16 ?_
    refine g_cvI (pc := 17) (st := []) h mX6_stepsOfAll cvX6_217 (inw ht) (by decide) ⟨by decide, by decide⟩ (Nat.le_of_ble_eq_true rfl) rfl rfl dX6_drawn_17 hF (fun x_5 w_6 hF => ?_)
    exact g_iret (pc := 20) h hr ⟨Nat.le_refl _, Nat.le_refl _⟩ hF dX6_drawn_20
  · refine g_bipush (pc := 7) (v := (-2 : Int32)) h dX6_drawn_7 (by decide) ?_
    exact g_iret (pc := 9) h hr ⟨Nat.le_refl _, Nat.le_refl _⟩ hF dX6_drawn_9
def fX6_eachIsHeldUp_2 (t : Nat) : Nat → Int32 → Wd → Option (Int32 × Wd)
  | 0 => fun _ _ => none
  | n + 1 => fun x1 w =>
    if (gI w t 3) ≤ x1 then
      (some ((1 : Int32), w))
    else
      (dr (gR w t 2) 12 w (fun a_1 => grd (vin x1 (ln a_1)) (bnd (fX6_thinkOtherwise t (gR w a_1 x1.toNatClampNeg) w) (fun u_2 w_3 => dr (gR w_3 t 9) 4 w_3 (fun a_4 => bnd (fX4_isHeldUp a_4 (10 : Int32) w_3) (fun x_5 w_6 => if x_5 = 0 then
        (some ((0 : Int32), w_6))
      else
        (fX6_eachIsHeldUp_2 t n (x1 + (1 : Int32)) w_6)))))))
set_option maxHeartbeats 4000000 in
theorem kX6_eachIsHeldUp_2 {X : Cx} (h : Ok X cX6_eachIsHeldUp RX6 10 0 0) (hr : RetI X .boolean 0 0) (hnL : nLX X = 2) {t : Nat} (ht : InN X t 6) : ∀ (fu : Nat) (x1 : Int32) (w : Wd), OkR X Value.int (fX6_eachIsHeldUp_2 t fu x1 w) → G X 0 0 2 [(0, .inr (.inl (some t))), (1, .inl x1)] [] w := by
  have hj : ∀ j, j < 2 → j < nLX X := fun j q => by rw [hnL]; exact q
  intro fu
  induction fu with
  | zero => intro x1 w hF; exact okN hF
  | succ fu ih =>
    intro x1 w hF
    rw [fX6_eachIsHeldUp_2] at hF
    refine g_iload_n (pc := 2) h 1 rfl dX6_eachIsHeldUp_2 ?_
    refine g_aload_n (pc := 3) h 0 rfl dX6_eachIsHeldUp_3 ?_
    refine g_getI (pc := 4) h fdX6_22 (inw ht) (by decide) dX6_eachIsHeldUp_4 ?_
    refine g_icmp_ge (pc := 7) (tgt := 40) h dX6_eachIsHeldUp_7 (by decide) hF (fun hF => ?_) (fun hF => ?_)
    · refine g_iconst (pc := 40) (v := (1 : Int32)) h dX6_eachIsHeldUp_40 (by decide) ?_
      exact g_zret (pc := 41) h hr ⟨Nat.le_refl _, Nat.le_refl _⟩ (by decide) hF dX6_eachIsHeldUp_41
    · refine g_aload_n (pc := 10) h 0 rfl dX6_eachIsHeldUp_10 ?_
      refine g_aload_n (pc := 11) h 0 rfl dX6_eachIsHeldUp_11 ?_
      refine g_getR (pc := 12) h fdX6_18 (inw ht) rfl dX6_eachIsHeldUp_12 ?_
      refine g_iload_n (pc := 15) h 1 rfl dX6_eachIsHeldUp_15 ?_
      refine g_dr hF (fun a_1 e_a_1 h_a_1 hF => ?_)
      rw [e_a_1]
      obtain ⟨g_1, hF⟩ := grd_ok hF
      refine g_aald (pc := 16) h (by decide) rfl h_a_1 g_1 dX6_eachIsHeldUp_16 ?_
      refine g_cvV (pc := 17) (st := []) h mX6_thinkOtherwise cvX6_211 (inw ht) (by decide) ⟨by decide, by decide⟩ (Nat.le_of_ble_eq_true rfl) rfl rfl dX6_eachIsHeldUp_17 hF (fun u_2 w_3 hF => ?_)
      refine g_aload_n (pc := 20) h 0 rfl dX6_eachIsHeldUp_20 ?_
      refine g_getR (pc := 21) h fdX6_98 (inw ht) rfl dX6_eachIsHeldUp_21 ?_
      refine g_bipush (pc := 24) (v := (10 : Int32)) h dX6_eachIsHeldUp_24 (by decide) ?_
      refine g_dr hF (fun a_4 e_a_4 h_a_4 hF => ?_)
      rw [e_a_4]
      refine g_cvI (pc := 26) (st := []) h mX4_isHeldUp cvX6_345 h_a_4 (by decide) ⟨by decide, by decide⟩ (Nat.le_of_ble_eq_true rfl) rfl rfl dX6_eachIsHeldUp_26 hF (fun x_5 w_6 hF => ?_)
      refine g_if_ne (pc := 29) (tgt := 34) h dX6_eachIsHeldUp_29 (by decide) hF (fun hF => ?_) (fun hF => ?_)
      · refine g_iinc (pc := 34) (lv' := [(1, .inl (x1 + (1 : Int32))), (0, .inr (.inl (some t)))]) h 1 rfl dX6_eachIsHeldUp_34 (dv := (1 : Int32)) (by decide) (hj 1 (by decide)) rfl ?_
        refine g_goto (pc := 37) (tgt := 2) h dX6_eachIsHeldUp_37 (by decide) ?_
        refine g_lv (lv' := [(0, .inr (.inl (some t))), (1, .inl (x1 + (1 : Int32)))]) [1, 0] rfl ?_
        exact ih _ _ hF
      · refine g_iconst (pc := 32) (v := (0 : Int32)) h dX6_eachIsHeldUp_32 (by decide) ?_
        exact g_zret (pc := 33) h hr ⟨Nat.le_refl _, Nat.le_refl _⟩ (by decide) hF dX6_eachIsHeldUp_33
def fX6_eachIsHeldUp (t : Nat) (w : Wd) : Option (Int32 × Wd) :=
  fX6_eachIsHeldUp_2 t FU (0 : Int32) w
set_option maxHeartbeats 4000000 in
theorem mX6_eachIsHeldUp {Γ : En} {t : Nat} {w : Wd} (ht : t < wn w ∧ kd t = 6) : MtI Γ yX6_eachIsHeldUp cX6_eachIsHeldUp 2 (some .boolean) 10 0 0 [rv Γ (some t)] w (fX6_eachIsHeldUp t w) := by
  refine mtI [.inr (.inl (some t))] rfl (Nat.le_of_ble_eq_true rfl) (fun X hΓ hnL hn0 h _ hr hF => ?_)
  subst hΓ
  have ht : InN X t 6 := ⟨by rw [hn0]; exact ht.1, ht.2⟩
  have h : Ok X cX6_eachIsHeldUp RX6 10 0 0 := h
  have hj : ∀ j, j < 2 → j < nLX X := fun j q => by rw [hnL]; exact q
  show G X 0 0 0 [(0, .inr (.inl (some t)))] [] w
  unfold fX6_eachIsHeldUp at hF
  refine g_iconst (pc := 0) (v := (0 : Int32)) h dX6_eachIsHeldUp_0 (by decide) ?_
  refine g_istore_n (pc := 1) (lv' := [(1, .inl (0 : Int32)), (0, .inr (.inl (some t)))]) h dX6_eachIsHeldUp_1 (hj 1 (by decide)) rfl ?_
  refine g_lv (lv' := [(0, .inr (.inl (some t))), (1, .inl (0 : Int32))]) [1, 0] rfl ?_
  exact kX6_eachIsHeldUp_2 h hr hnL ht _ _ _ hF
def fX6_chance_19 (t : Nat) (w : Wd) : Option (Int64 × Wd) :=
  some ((-4611686018427387904 : Int64), w)
set_option maxHeartbeats 4000000 in
theorem kX6_chance_19 {X : Cx} (h : Ok X cX6_chance RX6 11 0 0) (hr : RetL X 0 0) (hnL : nLX X = 6) {t : Nat} (ht : InN X t 6) : ∀ (w : Wd), OkR X Value.long (fX6_chance_19 t  w) → G X 0 0 19 [] [] w := by
  have hj : ∀ j, j < 6 → j < nLX X := fun j q => by rw [hnL]; exact q
  intro w hF
  unfold fX6_chance_19 at hF
  refine g_ldc2 (pc := 19) h wcL_X6_268 dX6_chance_19 ?_
  exact g_lret (pc := 22) h hr ⟨Nat.le_refl _, Nat.le_refl _⟩ hF dX6_chance_22
def fX6_chance_29 (t : Nat) : Nat → Int32 → Int32 → Int32 → Int32 → Int32 → Wd → Option (Int64 × Wd)
  | 0 => fun _ _ _ _ _ _ => none
  | n + 1 => fun x1 x2 x3 x4 x5 w =>
    if x2 ≤ x5 then
      (bnd (fX6_commonDivisor x4 x2 w) (fun x_5 w_6 => if (1 : Int32) ≤ x_5 then
        (if x3 = 0 then
          (grd (¬ x_5 = 0) (some ((x4 / x_5).toInt64, w_6)))
        else
          (grd (¬ x_5 = 0) (some ((x2 / x_5).toInt64, w_6))))
      else
        (some ((-4611686018427387904 : Int64), w_6))))
    else
      (bnd (fX6_draw t (x1 + x5) w) (fun u_7 w_8 => bnd (fX6_eachIsHeldUp t w_8) (fun x_9 w_10 => bnd (fX6_bit x_9 w_10) (fun x_11 w_12 => lt (x4 + x_11) (fun x4_13 => fX6_chance_29 t n x1 x2 x3 x4_13 (x5 + (1 : Int32)) w_12)))))
set_option maxHeartbeats 4000000 in
theorem kX6_chance_29 {X : Cx} (h : Ok X cX6_chance RX6 11 0 0) (hr : RetL X 0 0) (hnL : nLX X = 6) {t : Nat} (ht : InN X t 6) : ∀ (fu : Nat) (x1 : Int32) (x2 : Int32) (x3 : Int32) (x4 : Int32) (x5 : Int32) (w : Wd), OkR X Value.long (fX6_chance_29 t fu x1 x2 x3 x4 x5 w) → G X 0 0 29 [(0, .inr (.inl (some t))), (1, .inl x1), (2, .inl x2), (3, .inl x3), (4, .inl x4), (5, .inl x5)] [] w := by
  have hj : ∀ j, j < 6 → j < nLX X := fun j q => by rw [hnL]; exact q
  intro fu
  induction fu with
  | zero => intro x1 x2 x3 x4 x5 w hF; exact okN hF
  | succ fu ih =>
    intro x1 x2 x3 x4 x5 w hF
    rw [fX6_chance_29] at hF
    refine g_iload (pc := 29) h 5 rfl dX6_chance_29 ?_
    refine g_iload_n (pc := 31) h 2 rfl dX6_chance_31 ?_
    refine g_icmp_ge (pc := 32) (tgt := 61) h dX6_chance_32 (by decide) hF (fun hF => ?_) (fun hF => ?_)
    · refine g_iload (pc := 61) h 4 rfl dX6_chance_61 ?_
      refine g_iload_n (pc := 63) h 2 rfl dX6_chance_63 ?_
      refine g_csI (pc := 64) (st := []) h mX6_commonDivisor csX6_273 (by decide) ⟨by decide, by decide⟩ (Nat.le_of_ble_eq_true rfl) rfl rfl dX6_chance_64 hF (fun x_5 w_6 hF => ?_)
      refine g_istore (pc := 67) (lv' := [(5, .inl x_5), (0, .inr (.inl (some t))), (1, .inl x1), (2, .inl x2), (3, .inl x3), (4, .inl x4)]) h dX6_chance_67 (hj 5 (by decide)) rfl ?_
      refine g_iload (pc := 69) h 0 rfl dX6_chance_69 ?_
      refine g_iconst (pc := 71) (v := (1 : Int32)) h dX6_chance_71 (by decide) ?_
      refine g_icmp_ge (pc := 72) (tgt := 79) h dX6_chance_72 (by decide) hF (fun hF => ?_) (fun hF => ?_)
      · refine g_iload_n (pc := 79) h 4 rfl dX6_chance_79 ?_
        refine g_if_ne (pc := 80) (tgt := 92) h dX6_chance_80 (by decide) hF (fun hF => ?_) (fun hF => ?_)
        · refine g_iload_n (pc := 92) h 3 rfl dX6_chance_92 ?_
          refine g_iload (pc := 93) h 0 rfl dX6_chance_93 ?_
          obtain ⟨g_1, hF⟩ := grd_ok hF
          refine g_idiv (pc := 95) h dX6_chance_95 g_1 ?_
          refine g_i2l (pc := 96) h dX6_chance_96 ?_
          exact g_lret (pc := 97) h hr ⟨Nat.le_refl _, Nat.le_refl _⟩ hF dX6_chance_97
        · refine g_iload (pc := 83) h 5 rfl dX6_chance_83 ?_
          refine g_iload (pc := 85) h 0 rfl dX6_chance_85 ?_
          obtain ⟨g_2, hF⟩ := grd_ok hF
          refine g_idiv (pc := 87) h dX6_chance_87 g_2 ?_
          refine g_i2l (pc := 88) h dX6_chance_88 ?_
          refine g_goto (pc := 89) (tgt := 97) h dX6_chance_89 (by decide) ?_
          exact g_lret (pc := 97) h hr ⟨Nat.le_refl _, Nat.le_refl _⟩ hF dX6_chance_97
      · refine g_ldc2 (pc := 75) h wcL_X6_268 dX6_chance_75 ?_
        exact g_lret (pc := 78) h hr ⟨Nat.le_refl _, Nat.le_refl _⟩ hF dX6_chance_78
    · refine g_aload_n (pc := 35) h 0 rfl dX6_chance_35 ?_
      refine g_iload_n (pc := 36) h 1 rfl dX6_chance_36 ?_
      refine g_iload (pc := 37) h 5 rfl dX6_chance_37 ?_
      refine g_iadd (pc := 39) h dX6_chance_39 ?_
      refine g_cvV (pc := 40) (st := []) h mX6_draw cvX6_265 (inw ht) (by decide) ⟨by decide, by decide⟩ (Nat.le_of_ble_eq_true rfl) rfl rfl dX6_chance_40 hF (fun u_7 w_8 hF => ?_)
      refine g_iload (pc := 43) h 4 rfl dX6_chance_43 ?_
      refine g_aload_n (pc := 45) h 0 rfl dX6_chance_45 ?_
      refine g_cvI (pc := 46) (st := [.int x4]) h mX6_eachIsHeldUp cvX6_270 (inw ht) (by decide) ⟨by decide, by decide⟩ (Nat.le_of_ble_eq_true rfl) rfl rfl dX6_chance_46 hF (fun x_9 w_10 hF => ?_)
      refine g_csI (pc := 49) (st := [.int x4]) h mX6_bit csX6_156 (by decide) ⟨by decide, by decide⟩ (Nat.le_of_ble_eq_true rfl) rfl rfl dX6_chance_49 hF (fun x_11 w_12 hF => ?_)
      refine g_iadd (pc := 52) h dX6_chance_52 ?_
      refine g_t hF (fun x4_13 hF => ?_)
      refine g_istore (pc := 53) (lv' := [(4, .inl x4_13), (0, .inr (.inl (some t))), (1, .inl x1), (2, .inl x2), (3, .inl x3), (5, .inl x5)]) h dX6_chance_53 (hj 4 (by decide)) rfl ?_
      refine g_iinc (pc := 55) (lv' := [(5, .inl (x5 + (1 : Int32))), (4, .inl x4_13), (0, .inr (.inl (some t))), (1, .inl x1), (2, .inl x2), (3, .inl x3)]) h 5 rfl dX6_chance_55 (dv := (1 : Int32)) (by decide) (hj 5 (by decide)) rfl ?_
      refine g_goto (pc := 58) (tgt := 29) h dX6_chance_58 (by decide) ?_
      refine g_lv (lv' := [(0, .inr (.inl (some t))), (1, .inl x1), (2, .inl x2), (3, .inl x3), (4, .inl x4_13), (5, .inl (x5 + (1 : Int32)))]) [2, 3, 4, 5, 1, 0] rfl ?_
      exact ih _ _ _ _ _ _ hF
def fX6_chance (t : Nat) (x1 : Int32) (x2 : Int32) (x3 : Int32) (w : Wd) : Option (Int64 × Wd) :=
  bnd (fX6_within x2 (1 : Int32) (20 : Int32) w) (fun x_1 w_2 => if x_1 = 0 then
    (fX6_chance_19 t w_2)
  else
    (bnd (fX6_within x3 (0 : Int32) (1 : Int32) w_2) (fun x_3 w_4 => if x_3 = 0 then
      (fX6_chance_19 t w_4)
    else
      (fX6_chance_29 t FU x1 x2 x3 (0 : Int32) (0 : Int32) w_4))))
set_option maxHeartbeats 4000000 in
theorem mX6_chance {Γ : En} {t : Nat} {x1 : Int32} {x2 : Int32} {x3 : Int32} {w : Wd} (ht : t < wn w ∧ kd t = 6) : MtL Γ yX6_chance cX6_chance 6 (some .long) 11 0 0 [rv Γ (some t), .int x1, .int x2, .int x3] w (fX6_chance t x1 x2 x3 w) := by
  refine mtL [.inr (.inl (some t)), .inl x1, .inl x2, .inl x3] rfl (Nat.le_of_ble_eq_true rfl) (fun X hΓ hnL hn0 h _ hr hF => ?_)
  subst hΓ
  have ht : InN X t 6 := ⟨by rw [hn0]; exact ht.1, ht.2⟩
  have h : Ok X cX6_chance RX6 11 0 0 := h
  have hj : ∀ j, j < 6 → j < nLX X := fun j q => by rw [hnL]; exact q
  show G X 0 0 0 [(0, .inr (.inl (some t))), (1, .inl x1), (2, .inl x2), (3, .inl x3)] [] w
  unfold fX6_chance at hF
  refine g_iload_n (pc := 0) h 2 rfl dX6_chance_0 ?_
  refine g_iconst (pc := 1) (v := (1 : Int32)) h dX6_chance_1 (by decide) ?_
  refine g_bipush (pc := 2) (v := (20 : Int32)) h dX6_chance_2 (by decide) ?_
  refine g_csI (pc := 4) (st := []) h mX6_within csX6_114 (by decide) ⟨by decide, by decide⟩ (Nat.le_of_ble_eq_true rfl) rfl rfl dX6_chance_4 hF (fun x_1 w_2 hF => ?_)
  refine g_if_eq (pc := 7) (tgt := 19) h dX6_chance_7 (by decide) hF (fun hF => ?_) (fun hF => ?_)
  · refine g_lv (lv' := []) [] rfl ?_
    exact kX6_chance_19 h hr hnL ht _ hF
  · refine g_iload_n (pc := 10) h 3 rfl dX6_chance_10 ?_
    refine g_iconst (pc := 11) (v := (0 : Int32)) h dX6_chance_11 (by decide) ?_
    refine g_iconst (pc := 12) (v := (1 : Int32)) h dX6_chance_12 (by decide) ?_
    refine g_csI (pc := 13) (st := []) h mX6_within csX6_114 (by decide) ⟨by decide, by decide⟩ (Nat.le_of_ble_eq_true rfl) rfl rfl dX6_chance_13 hF (fun x_3 w_4 hF => ?_)
    refine g_if_ne (pc := 16) (tgt := 23) h dX6_chance_16 (by decide) hF (fun hF => ?_) (fun hF => ?_)
    · refine g_iconst (pc := 23) (v := (0 : Int32)) h dX6_chance_23 (by decide) ?_
      refine g_istore (pc := 24) (lv' := [(4, .inl (0 : Int32)), (0, .inr (.inl (some t))), (1, .inl x1), (2, .inl x2), (3, .inl x3)]) h dX6_chance_24 (hj 4 (by decide)) rfl ?_
      refine g_iconst (pc := 26) (v := (0 : Int32)) h dX6_chance_26 (by decide) ?_
      refine g_istore (pc := 27) (lv' := [(5, .inl (0 : Int32)), (4, .inl (0 : Int32)), (0, .inr (.inl (some t))), (1, .inl x1), (2, .inl x2), (3, .inl x3)]) h dX6_chance_27 (hj 5 (by decide)) rfl ?_
      refine g_lv (lv' := [(0, .inr (.inl (some t))), (1, .inl x1), (2, .inl x2), (3, .inl x3), (4, .inl (0 : Int32)), (5, .inl (0 : Int32))]) [2, 3, 4, 5, 1, 0] rfl ?_
      exact kX6_chance_29 h hr hnL ht _ _ _ _ _ _ _ hF
    · refine g_lv (lv' := []) [] rfl ?_
      exact kX6_chance_19 h hr hnL ht _ hF
def fX6_image_61 (t : Nat) : Nat → Int32 → Wd → Option (Int32 × Wd)
  | 0 => fun _ _ => none
  | n + 1 => fun x1 w =>
    if (gI w t 3) ≤ x1 then
      (some (gI w t 3, w))
    else
      (dr (gR w t 11) 0 w (fun a_13 => dr (gR w a_13 5) 12 w (fun a_14 => grd (vin x1 (ln a_14)) (dr (gR w t 2) 12 w (fun a_15 => grd (vin x1 (ln a_15)) (dr (gR w a_14 x1.toNatClampNeg) 5 w (fun a_16 => bnd (fX5_become a_16 (gR w a_15 x1.toNatClampNeg) w) (fun u_17 w_18 => fX6_image_61 t n (x1 + (1 : Int32)) w_18))))))))
set_option maxHeartbeats 4000000 in
theorem kX6_image_61 {X : Cx} (h : Ok X cX6_image RX6 3 0 0) (hr : RetI X .int 0 0) (hnL : nLX X = 2) {t : Nat} (ht : InN X t 6) : ∀ (fu : Nat) (x1 : Int32) (w : Wd), OkR X Value.int (fX6_image_61 t fu x1 w) → G X 0 0 61 [(0, .inr (.inl (some t))), (1, .inl x1)] [] w := by
  have hj : ∀ j, j < 2 → j < nLX X := fun j q => by rw [hnL]; exact q
  intro fu
  induction fu with
  | zero => intro x1 w hF; exact okN hF
  | succ fu ih =>
    intro x1 w hF
    rw [fX6_image_61] at hF
    refine g_iload_n (pc := 61) h 1 rfl dX6_image_61 ?_
    refine g_aload_n (pc := 62) h 0 rfl dX6_image_62 ?_
    refine g_getI (pc := 63) h fdX6_22 (inw ht) (by decide) dX6_image_63 ?_
    refine g_icmp_ge (pc := 66) (tgt := 93) h dX6_image_66 (by decide) hF (fun hF => ?_) (fun hF => ?_)
    · refine g_aload_n (pc := 93) h 0 rfl dX6_image_93 ?_
      refine g_getI (pc := 94) h fdX6_22 (inw ht) (by decide) dX6_image_94 ?_
      exact g_iret (pc := 97) h hr ⟨Nat.le_refl _, Nat.le_refl _⟩ hF dX6_image_97
    · refine g_aload_n (pc := 69) h 0 rfl dX6_image_69 ?_
      refine g_getR (pc := 70) h fdX6_54 (inw ht) rfl dX6_image_70 ?_
      refine g_dr hF (fun a_13 e_a_13 h_a_13 hF => ?_)
      rw [e_a_13]
      refine g_getR (pc := 73) h fdX6_292 h_a_13 rfl dX6_image_73 ?_
      refine g_iload_n (pc := 76) h 1 rfl dX6_image_76 ?_
      refine g_dr hF (fun a_14 e_a_14 h_a_14 hF => ?_)
      rw [e_a_14]
      obtain ⟨g_2, hF⟩ := grd_ok hF
      refine g_aald (pc := 77) h (by decide) rfl h_a_14 g_2 dX6_image_77 ?_
      refine g_aload_n (pc := 78) h 0 rfl dX6_image_78 ?_
      refine g_getR (pc := 79) h fdX6_18 (inw ht) rfl dX6_image_79 ?_
      refine g_iload_n (pc := 82) h 1 rfl dX6_image_82 ?_
      refine g_dr hF (fun a_15 e_a_15 h_a_15 hF => ?_)
      rw [e_a_15]
      obtain ⟨g_3, hF⟩ := grd_ok hF
      refine g_aald (pc := 83) h (by decide) rfl h_a_15 g_3 dX6_image_83 ?_
      refine g_dr hF (fun a_16 e_a_16 h_a_16 hF => ?_)
      rw [e_a_16]
      refine g_cvV (pc := 84) (st := []) h mX5_become cvX6_293 h_a_16 (by decide) ⟨by decide, by decide⟩ (Nat.le_of_ble_eq_true rfl) rfl rfl dX6_image_84 hF (fun u_17 w_18 hF => ?_)
      refine g_iinc (pc := 87) (lv' := [(1, .inl (x1 + (1 : Int32))), (0, .inr (.inl (some t)))]) h 1 rfl dX6_image_87 (dv := (1 : Int32)) (by decide) (hj 1 (by decide)) rfl ?_
      refine g_goto (pc := 90) (tgt := 61) h dX6_image_90 (by decide) ?_
      refine g_lv (lv' := [(0, .inr (.inl (some t))), (1, .inl (x1 + (1 : Int32)))]) [1, 0] rfl ?_
      exact ih _ _ hF
def fX6_image (t : Nat) (w : Wd) : Option (Int32 × Wd) :=
  dr (gR w t 11) 0 w (fun a_1 => lw (sI w a_1 0 (1 : Int32)) (fun w_2 => dr (gR w_2 t 11) 0 w_2 (fun a_3 => lw (sI w_2 a_3 1 (gI w_2 t 4)) (fun w_4 => dr (gR w_4 t 11) 0 w_4 (fun a_5 => lw (sI w_4 a_5 2 (gI w_4 t 7)) (fun w_6 => dr (gR w_6 t 11) 0 w_6 (fun a_7 => lw (sI w_6 a_7 3 (gI w_6 t 3)) (fun w_8 => dr (gR w_8 t 11) 0 w_8 (fun a_9 => dr (gR w_8 t 0) 8 w_8 (fun a_10 => dr (gR w_8 a_9 4) 8 w_8 (fun a_11 => grd (¬ (0 : Int32) < 0 ∧ ¬ (0 : Int32) < 0 ∧ ¬ (8 : Int32) < 0 ∧ (0 : Int32).toNatClampNeg + (8 : Int32).toNatClampNeg ≤ ln a_10 ∧ (0 : Int32).toNatClampNeg + (8 : Int32).toNatClampNeg ≤ ln a_11) (lw (cI w_8 a_11 (va_cpy (gI w_8 a_10) (gI w_8 a_11) (0 : Int32).toNatClampNeg (0 : Int32).toNatClampNeg (8 : Int32).toNatClampNeg)) (fun w_12 => fX6_image_61 t FU (0 : Int32) w_12)))))))))))))
set_option maxHeartbeats 4000000 in
theorem mX6_image {Γ : En} {t : Nat} {w : Wd} (ht : t < wn w ∧ kd t = 6) : MtI Γ yX6_image cX6_image 2 (some .int) 3 0 0 [rv Γ (some t)] w (fX6_image t w) := by
  refine mtI [.inr (.inl (some t))] rfl (Nat.le_of_ble_eq_true rfl) (fun X hΓ hnL hn0 h _ hr hF => ?_)
  subst hΓ
  have ht : InN X t 6 := ⟨by rw [hn0]; exact ht.1, ht.2⟩
  have h : Ok X cX6_image RX6 3 0 0 := h
  have hj : ∀ j, j < 2 → j < nLX X := fun j q => by rw [hnL]; exact q
  show G X 0 0 0 [(0, .inr (.inl (some t)))] [] w
  unfold fX6_image at hF
  refine g_aload_n (pc := 0) h 0 rfl dX6_image_0 ?_
  refine g_getR (pc := 1) h fdX6_54 (inw ht) rfl dX6_image_1 ?_
  refine g_iconst (pc := 4) (v := (1 : Int32)) h dX6_image_4 (by decide) ?_
  refine g_dr hF (fun a_1 e_a_1 h_a_1 hF => ?_)
  rw [e_a_1]
  refine g_putI (pc := 5) h fdX6_276 h_a_1 (by decide) ⟨by decide, by decide⟩ dX6_image_5 ?_
  refine g_w hF (fun w_2 hF => ?_)
  refine g_aload_n (pc := 8) h 0 rfl dX6_image_8 ?_
  refine g_getR (pc := 9) h fdX6_54 (inw ht) rfl dX6_image_9 ?_
  refine g_aload_n (pc := 12) h 0 rfl dX6_image_12 ?_
  refine g_getI (pc := 13) h fdX6_26 (inw ht) (by decide) dX6_image_13 ?_
  refine g_dr hF (fun a_3 e_a_3 h_a_3 hF => ?_)
  rw [e_a_3]
  refine g_putI (pc := 16) h fdX6_280 h_a_3 (by decide) ⟨rfl, rfl⟩ dX6_image_16 ?_
  refine g_w hF (fun w_4 hF => ?_)
  refine g_aload_n (pc := 19) h 0 rfl dX6_image_19 ?_
  refine g_getR (pc := 20) h fdX6_54 (inw ht) rfl dX6_image_20 ?_
  refine g_aload_n (pc := 23) h 0 rfl dX6_image_23 ?_
  refine g_getI (pc := 24) h fdX6_38 (inw ht) (by decide) dX6_image_24 ?_
  refine g_dr hF (fun a_5 e_a_5 h_a_5 hF => ?_)
  rw [e_a_5]
  refine g_putI (pc := 27) h fdX6_283 h_a_5 (by decide) ⟨rfl, rfl⟩ dX6_image_27 ?_
  refine g_w hF (fun w_6 hF => ?_)
  refine g_aload_n (pc := 30) h 0 rfl dX6_image_30 ?_
  refine g_getR (pc := 31) h fdX6_54 (inw ht) rfl dX6_image_31 ?_
  refine g_aload_n (pc := 34) h 0 rfl dX6_image_34 ?_
  refine g_getI (pc := 35) h fdX6_22 (inw ht) (by decide) dX6_image_35 ?_
  refine g_dr hF (fun a_7 e_a_7 h_a_7 hF => ?_)
  rw [e_a_7]
  refine g_putI (pc := 38) h fdX6_284 h_a_7 (by decide) ⟨rfl, rfl⟩ dX6_image_38 ?_
  refine g_w hF (fun w_8 hF => ?_)
  refine g_aload_n (pc := 41) h 0 rfl dX6_image_41 ?_
  refine g_getR (pc := 42) h fdX6_9 (inw ht) rfl dX6_image_42 ?_
  refine g_iconst (pc := 45) (v := (0 : Int32)) h dX6_image_45 (by decide) ?_
  refine g_aload_n (pc := 46) h 0 rfl dX6_image_46 ?_
  refine g_getR (pc := 47) h fdX6_54 (inw ht) rfl dX6_image_47 ?_
  refine g_dr hF (fun a_9 e_a_9 h_a_9 hF => ?_)
  rw [e_a_9]
  refine g_getR (pc := 50) h fdX6_285 h_a_9 rfl dX6_image_50 ?_
  refine g_iconst (pc := 53) (v := (0 : Int32)) h dX6_image_53 (by decide) ?_
  refine g_bipush (pc := 54) (v := (8 : Int32)) h dX6_image_54 (by decide) ?_
  refine g_dr hF (fun a_10 e_a_10 h_a_10 hF => ?_)
  rw [e_a_10]
  refine g_dr hF (fun a_11 e_a_11 h_a_11 hF => ?_)
  rw [e_a_11]
  obtain ⟨g_1, hF⟩ := grd_ok hF
  refine g_copy (pc := 56) h wml_X6_286 h_a_10 h_a_11 g_1 (by decide) (Nat.le_of_ble_eq_true rfl) wna_arraycopy wst_arraycopy win_System dX6_image_56 ?_
  refine g_w hF (fun w_12 hF => ?_)
  refine g_iconst (pc := 59) (v := (0 : Int32)) h dX6_image_59 (by decide) ?_
  refine g_istore_n (pc := 60) (lv' := [(1, .inl (0 : Int32)), (0, .inr (.inl (some t)))]) h dX6_image_60 (hj 1 (by decide)) rfl ?_
  refine g_lv (lv' := [(0, .inr (.inl (some t))), (1, .inl (0 : Int32))]) [1, 0] rfl ?_
  exact kX6_image_61 h hr hnL ht _ _ _ hF
def fX6_back_66 (t : Nat) : Nat → Int32 → Wd → Option (Int32 × Wd)
  | 0 => fun _ _ => none
  | n + 1 => fun x1 w =>
    if (gI w t 3) ≤ x1 then
      (some (gI w t 3, w))
    else
      (dr (gR w t 2) 12 w (fun a_12 => grd (vin x1 (ln a_12)) (dr (gR w t 11) 0 w (fun a_13 => dr (gR w a_13 5) 12 w (fun a_14 => grd (vin x1 (ln a_14)) (dr (gR w a_12 x1.toNatClampNeg) 5 w (fun a_15 => bnd (fX5_become a_15 (gR w a_14 x1.toNatClampNeg) w) (fun u_16 w_17 => fX6_back_66 t n (x1 + (1 : Int32)) w_17))))))))
set_option maxHeartbeats 4000000 in
theorem kX6_back_66 {X : Cx} (h : Ok X cX6_back RX6 3 0 0) (hr : RetI X .int 0 0) (hnL : nLX X = 2) {t : Nat} (ht : InN X t 6) : ∀ (fu : Nat) (x1 : Int32) (w : Wd), OkR X Value.int (fX6_back_66 t fu x1 w) → G X 0 0 66 [(0, .inr (.inl (some t))), (1, .inl x1)] [] w := by
  have hj : ∀ j, j < 2 → j < nLX X := fun j q => by rw [hnL]; exact q
  intro fu
  induction fu with
  | zero => intro x1 w hF; exact okN hF
  | succ fu ih =>
    intro x1 w hF
    rw [fX6_back_66] at hF
    refine g_iload_n (pc := 66) h 1 rfl dX6_back_66 ?_
    refine g_aload_n (pc := 67) h 0 rfl dX6_back_67 ?_
    refine g_getI (pc := 68) h fdX6_22 (inw ht) (by decide) dX6_back_68 ?_
    refine g_icmp_ge (pc := 71) (tgt := 98) h dX6_back_71 (by decide) hF (fun hF => ?_) (fun hF => ?_)
    · refine g_aload_n (pc := 98) h 0 rfl dX6_back_98 ?_
      refine g_getI (pc := 99) h fdX6_22 (inw ht) (by decide) dX6_back_99 ?_
      exact g_iret (pc := 102) h hr ⟨Nat.le_refl _, Nat.le_refl _⟩ hF dX6_back_102
    · refine g_aload_n (pc := 74) h 0 rfl dX6_back_74 ?_
      refine g_getR (pc := 75) h fdX6_18 (inw ht) rfl dX6_back_75 ?_
      refine g_iload_n (pc := 78) h 1 rfl dX6_back_78 ?_
      refine g_dr hF (fun a_12 e_a_12 h_a_12 hF => ?_)
      rw [e_a_12]
      obtain ⟨g_2, hF⟩ := grd_ok hF
      refine g_aald (pc := 79) h (by decide) rfl h_a_12 g_2 dX6_back_79 ?_
      refine g_aload_n (pc := 80) h 0 rfl dX6_back_80 ?_
      refine g_getR (pc := 81) h fdX6_54 (inw ht) rfl dX6_back_81 ?_
      refine g_dr hF (fun a_13 e_a_13 h_a_13 hF => ?_)
      rw [e_a_13]
      refine g_getR (pc := 84) h fdX6_292 h_a_13 rfl dX6_back_84 ?_
      refine g_iload_n (pc := 87) h 1 rfl dX6_back_87 ?_
      refine g_dr hF (fun a_14 e_a_14 h_a_14 hF => ?_)
      rw [e_a_14]
      obtain ⟨g_3, hF⟩ := grd_ok hF
      refine g_aald (pc := 88) h (by decide) rfl h_a_14 g_3 dX6_back_88 ?_
      refine g_dr hF (fun a_15 e_a_15 h_a_15 hF => ?_)
      rw [e_a_15]
      refine g_cvV (pc := 89) (st := []) h mX5_become cvX6_293 h_a_15 (by decide) ⟨by decide, by decide⟩ (Nat.le_of_ble_eq_true rfl) rfl rfl dX6_back_89 hF (fun u_16 w_17 hF => ?_)
      refine g_iinc (pc := 92) (lv' := [(1, .inl (x1 + (1 : Int32))), (0, .inr (.inl (some t)))]) h 1 rfl dX6_back_92 (dv := (1 : Int32)) (by decide) (hj 1 (by decide)) rfl ?_
      refine g_goto (pc := 95) (tgt := 66) h dX6_back_95 (by decide) ?_
      refine g_lv (lv' := [(0, .inr (.inl (some t))), (1, .inl (x1 + (1 : Int32)))]) [1, 0] rfl ?_
      exact ih _ _ hF
def fX6_back (t : Nat) (w : Wd) : Option (Int32 × Wd) :=
  dr (gR w t 11) 0 w (fun a_1 => if (gI w a_1 0) = 0 then
    (some ((-3 : Int32), w))
  else
    (dr (gR w t 11) 0 w (fun a_2 => lw (sI w t 4 (gI w a_2 1)) (fun w_3 => dr (gR w_3 t 11) 0 w_3 (fun a_4 => lw (sI w_3 t 7 (gI w_3 a_4 2)) (fun w_5 => dr (gR w_5 t 11) 0 w_5 (fun a_6 => lw (sI w_5 t 3 (gI w_5 a_6 3)) (fun w_7 => dr (gR w_7 t 11) 0 w_7 (fun a_8 => dr (gR w_7 a_8 4) 8 w_7 (fun a_9 => dr (gR w_7 t 0) 8 w_7 (fun a_10 => grd (¬ (0 : Int32) < 0 ∧ ¬ (0 : Int32) < 0 ∧ ¬ (8 : Int32) < 0 ∧ (0 : Int32).toNatClampNeg + (8 : Int32).toNatClampNeg ≤ ln a_9 ∧ (0 : Int32).toNatClampNeg + (8 : Int32).toNatClampNeg ≤ ln a_10) (lw (cI w_7 a_10 (va_cpy (gI w_7 a_9) (gI w_7 a_10) (0 : Int32).toNatClampNeg (0 : Int32).toNatClampNeg (8 : Int32).toNatClampNeg)) (fun w_11 => fX6_back_66 t FU (0 : Int32) w_11)))))))))))))
set_option maxHeartbeats 4000000 in
theorem mX6_back {Γ : En} {t : Nat} {w : Wd} (ht : t < wn w ∧ kd t = 6) : MtI Γ yX6_back cX6_back 2 (some .int) 3 0 0 [rv Γ (some t)] w (fX6_back t w) := by
  refine mtI [.inr (.inl (some t))] rfl (Nat.le_of_ble_eq_true rfl) (fun X hΓ hnL hn0 h _ hr hF => ?_)
  subst hΓ
  have ht : InN X t 6 := ⟨by rw [hn0]; exact ht.1, ht.2⟩
  have h : Ok X cX6_back RX6 3 0 0 := h
  have hj : ∀ j, j < 2 → j < nLX X := fun j q => by rw [hnL]; exact q
  show G X 0 0 0 [(0, .inr (.inl (some t)))] [] w
  unfold fX6_back at hF
  refine g_aload_n (pc := 0) h 0 rfl dX6_back_0 ?_
  refine g_getR (pc := 1) h fdX6_54 (inw ht) rfl dX6_back_1 ?_
  refine g_dr hF (fun a_1 e_a_1 h_a_1 hF => ?_)
  rw [e_a_1]
  refine g_getI (pc := 4) h fdX6_276 h_a_1 (by decide) dX6_back_4 ?_
  refine g_if_ne (pc := 7) (tgt := 13) h dX6_back_7 (by decide) hF (fun hF => ?_) (fun hF => ?_)
  · refine g_aload_n (pc := 13) h 0 rfl dX6_back_13 ?_
    refine g_aload_n (pc := 14) h 0 rfl dX6_back_14 ?_
    refine g_getR (pc := 15) h fdX6_54 (inw ht) rfl dX6_back_15 ?_
    refine g_dr hF (fun a_2 e_a_2 h_a_2 hF => ?_)
    rw [e_a_2]
    refine g_getI (pc := 18) h fdX6_280 h_a_2 (by decide) dX6_back_18 ?_
    refine g_putI (pc := 21) h fdX6_26 (inw ht) (by decide) ⟨rfl, rfl⟩ dX6_back_21 ?_
    refine g_w hF (fun w_3 hF => ?_)
    refine g_aload_n (pc := 24) h 0 rfl dX6_back_24 ?_
    refine g_aload_n (pc := 25) h 0 rfl dX6_back_25 ?_
    refine g_getR (pc := 26) h fdX6_54 (inw ht) rfl dX6_back_26 ?_
    refine g_dr hF (fun a_4 e_a_4 h_a_4 hF => ?_)
    rw [e_a_4]
    refine g_getI (pc := 29) h fdX6_283 h_a_4 (by decide) dX6_back_29 ?_
    refine g_putI (pc := 32) h fdX6_38 (inw ht) (by decide) ⟨rfl, rfl⟩ dX6_back_32 ?_
    refine g_w hF (fun w_5 hF => ?_)
    refine g_aload_n (pc := 35) h 0 rfl dX6_back_35 ?_
    refine g_aload_n (pc := 36) h 0 rfl dX6_back_36 ?_
    refine g_getR (pc := 37) h fdX6_54 (inw ht) rfl dX6_back_37 ?_
    refine g_dr hF (fun a_6 e_a_6 h_a_6 hF => ?_)
    rw [e_a_6]
    refine g_getI (pc := 40) h fdX6_284 h_a_6 (by decide) dX6_back_40 ?_
    refine g_putI (pc := 43) h fdX6_22 (inw ht) (by decide) ⟨rfl, rfl⟩ dX6_back_43 ?_
    refine g_w hF (fun w_7 hF => ?_)
    refine g_aload_n (pc := 46) h 0 rfl dX6_back_46 ?_
    refine g_getR (pc := 47) h fdX6_54 (inw ht) rfl dX6_back_47 ?_
    refine g_dr hF (fun a_8 e_a_8 h_a_8 hF => ?_)
    rw [e_a_8]
    refine g_getR (pc := 50) h fdX6_285 h_a_8 rfl dX6_back_50 ?_
    refine g_iconst (pc := 53) (v := (0 : Int32)) h dX6_back_53 (by decide) ?_
    refine g_aload_n (pc := 54) h 0 rfl dX6_back_54 ?_
    refine g_getR (pc := 55) h fdX6_9 (inw ht) rfl dX6_back_55 ?_
    refine g_iconst (pc := 58) (v := (0 : Int32)) h dX6_back_58 (by decide) ?_
    refine g_bipush (pc := 59) (v := (8 : Int32)) h dX6_back_59 (by decide) ?_
    refine g_dr hF (fun a_9 e_a_9 h_a_9 hF => ?_)
    rw [e_a_9]
    refine g_dr hF (fun a_10 e_a_10 h_a_10 hF => ?_)
    rw [e_a_10]
    obtain ⟨g_1, hF⟩ := grd_ok hF
    refine g_copy (pc := 61) h wml_X6_286 h_a_9 h_a_10 g_1 (by decide) (Nat.le_of_ble_eq_true rfl) wna_arraycopy wst_arraycopy win_System dX6_back_61 ?_
    refine g_w hF (fun w_11 hF => ?_)
    refine g_iconst (pc := 64) (v := (0 : Int32)) h dX6_back_64 (by decide) ?_
    refine g_istore_n (pc := 65) (lv' := [(1, .inl (0 : Int32)), (0, .inr (.inl (some t)))]) h dX6_back_65 (hj 1 (by decide)) rfl ?_
    refine g_lv (lv' := [(0, .inr (.inl (some t))), (1, .inl (0 : Int32))]) [1, 0] rfl ?_
    exact kX6_back_66 h hr hnL ht _ _ _ hF
  · refine g_bipush (pc := 10) (v := (-3 : Int32)) h dX6_back_10 (by decide) ?_
    exact g_iret (pc := 12) h hr ⟨Nat.le_refl _, Nat.le_refl _⟩ hF dX6_back_12
def fX6_countInSocks_4 (t : Nat) : Nat → Int32 → Int32 → Wd → Option (Int32 × Wd)
  | 0 => fun _ _ _ => none
  | n + 1 => fun x1 x2 w =>
    if (gI w t 3) ≤ x2 then
      (some (x1, w))
    else
      (dr (gR w t 2) 12 w (fun a_1 => grd (vin x2 (ln a_1)) (bnd (fX6_think t (gR w a_1 x2.toNatClampNeg) w) (fun u_2 w_3 => dr (gR w_3 t 9) 4 w_3 (fun a_4 => bnd (fX4_isInSocks a_4 w_3) (fun x_5 w_6 => bnd (fX6_bit x_5 w_6) (fun x_7 w_8 => lt (x1 + x_7) (fun x1_9 => fX6_countInSocks_4 t n x1_9 (x2 + (1 : Int32)) w_8))))))))
set_option maxHeartbeats 4000000 in
theorem kX6_countInSocks_4 {X : Cx} (h : Ok X cX6_countInSocks RX6 9 0 0) (hr : RetI X .int 0 0) (hnL : nLX X = 3) {t : Nat} (ht : InN X t 6) : ∀ (fu : Nat) (x1 : Int32) (x2 : Int32) (w : Wd), OkR X Value.int (fX6_countInSocks_4 t fu x1 x2 w) → G X 0 0 4 [(0, .inr (.inl (some t))), (1, .inl x1), (2, .inl x2)] [] w := by
  have hj : ∀ j, j < 3 → j < nLX X := fun j q => by rw [hnL]; exact q
  intro fu
  induction fu with
  | zero => intro x1 x2 w hF; exact okN hF
  | succ fu ih =>
    intro x1 x2 w hF
    rw [fX6_countInSocks_4] at hF
    refine g_iload_n (pc := 4) h 2 rfl dX6_countInSocks_4 ?_
    refine g_aload_n (pc := 5) h 0 rfl dX6_countInSocks_5 ?_
    refine g_getI (pc := 6) h fdX6_22 (inw ht) (by decide) dX6_countInSocks_6 ?_
    refine g_icmp_ge (pc := 9) (tgt := 41) h dX6_countInSocks_9 (by decide) hF (fun hF => ?_) (fun hF => ?_)
    · refine g_iload_n (pc := 41) h 1 rfl dX6_countInSocks_41 ?_
      exact g_iret (pc := 42) h hr ⟨Nat.le_refl _, Nat.le_refl _⟩ hF dX6_countInSocks_42
    · refine g_aload_n (pc := 12) h 0 rfl dX6_countInSocks_12 ?_
      refine g_aload_n (pc := 13) h 0 rfl dX6_countInSocks_13 ?_
      refine g_getR (pc := 14) h fdX6_18 (inw ht) rfl dX6_countInSocks_14 ?_
      refine g_iload_n (pc := 17) h 2 rfl dX6_countInSocks_17 ?_
      refine g_dr hF (fun a_1 e_a_1 h_a_1 hF => ?_)
      rw [e_a_1]
      obtain ⟨g_1, hF⟩ := grd_ok hF
      refine g_aald (pc := 18) h (by decide) rfl h_a_1 g_1 dX6_countInSocks_18 ?_
      refine g_cvV (pc := 19) (st := []) h mX6_think cvX6_133 (inw ht) (by decide) ⟨by decide, by decide⟩ (Nat.le_of_ble_eq_true rfl) rfl rfl dX6_countInSocks_19 hF (fun u_2 w_3 hF => ?_)
      refine g_iload_n (pc := 22) h 1 rfl dX6_countInSocks_22 ?_
      refine g_aload_n (pc := 23) h 0 rfl dX6_countInSocks_23 ?_
      refine g_getR (pc := 24) h fdX6_98 (inw ht) rfl dX6_countInSocks_24 ?_
      refine g_dr hF (fun a_4 e_a_4 h_a_4 hF => ?_)
      rw [e_a_4]
      refine g_cvI (pc := 27) (st := [.int x1]) h mX4_isInSocks cvX6_160 h_a_4 (by decide) ⟨by decide, by decide⟩ (Nat.le_of_ble_eq_true rfl) rfl rfl dX6_countInSocks_27 hF (fun x_5 w_6 hF => ?_)
      refine g_csI (pc := 30) (st := [.int x1]) h mX6_bit csX6_156 (by decide) ⟨by decide, by decide⟩ (Nat.le_of_ble_eq_true rfl) rfl rfl dX6_countInSocks_30 hF (fun x_7 w_8 hF => ?_)
      refine g_iadd (pc := 33) h dX6_countInSocks_33 ?_
      refine g_t hF (fun x1_9 hF => ?_)
      refine g_istore_n (pc := 34) (lv' := [(1, .inl x1_9), (0, .inr (.inl (some t))), (2, .inl x2)]) h dX6_countInSocks_34 (hj 1 (by decide)) rfl ?_
      refine g_iinc (pc := 35) (lv' := [(2, .inl (x2 + (1 : Int32))), (1, .inl x1_9), (0, .inr (.inl (some t)))]) h 2 rfl dX6_countInSocks_35 (dv := (1 : Int32)) (by decide) (hj 2 (by decide)) rfl ?_
      refine g_goto (pc := 38) (tgt := 4) h dX6_countInSocks_38 (by decide) ?_
      refine g_lv (lv' := [(0, .inr (.inl (some t))), (1, .inl x1_9), (2, .inl (x2 + (1 : Int32)))]) [2, 1, 0] rfl ?_
      exact ih _ _ _ hF
def fX6_countInSocks (t : Nat) (w : Wd) : Option (Int32 × Wd) :=
  fX6_countInSocks_4 t FU (0 : Int32) (0 : Int32) w
set_option maxHeartbeats 4000000 in
theorem mX6_countInSocks {Γ : En} {t : Nat} {w : Wd} (ht : t < wn w ∧ kd t = 6) : MtI Γ yX6_countInSocks cX6_countInSocks 3 (some .int) 9 0 0 [rv Γ (some t)] w (fX6_countInSocks t w) := by
  refine mtI [.inr (.inl (some t))] rfl (Nat.le_of_ble_eq_true rfl) (fun X hΓ hnL hn0 h _ hr hF => ?_)
  subst hΓ
  have ht : InN X t 6 := ⟨by rw [hn0]; exact ht.1, ht.2⟩
  have h : Ok X cX6_countInSocks RX6 9 0 0 := h
  have hj : ∀ j, j < 3 → j < nLX X := fun j q => by rw [hnL]; exact q
  show G X 0 0 0 [(0, .inr (.inl (some t)))] [] w
  unfold fX6_countInSocks at hF
  refine g_iconst (pc := 0) (v := (0 : Int32)) h dX6_countInSocks_0 (by decide) ?_
  refine g_istore_n (pc := 1) (lv' := [(1, .inl (0 : Int32)), (0, .inr (.inl (some t)))]) h dX6_countInSocks_1 (hj 1 (by decide)) rfl ?_
  refine g_iconst (pc := 2) (v := (0 : Int32)) h dX6_countInSocks_2 (by decide) ?_
  refine g_istore_n (pc := 3) (lv' := [(2, .inl (0 : Int32)), (1, .inl (0 : Int32)), (0, .inr (.inl (some t)))]) h dX6_countInSocks_3 (hj 2 (by decide)) rfl ?_
  refine g_lv (lv' := [(0, .inr (.inl (some t))), (1, .inl (0 : Int32)), (2, .inl (0 : Int32))]) [2, 1, 0] rfl ?_
  exact kX6_countInSocks_4 h hr hnL ht _ _ _ _ hF
def fX6_countStopped_4 (t : Nat) : Nat → Int32 → Int32 → Wd → Option (Int32 × Wd)
  | 0 => fun _ _ _ => none
  | n + 1 => fun x1 x2 w =>
    if (gI w t 3) ≤ x2 then
      (some (x1, w))
    else
      (dr (gR w t 2) 12 w (fun a_1 => grd (vin x2 (ln a_1)) (bnd (fX6_think t (gR w a_1 x2.toNatClampNeg) w) (fun u_2 w_3 => dr (gR w_3 t 9) 4 w_3 (fun a_4 => bnd (fX4_isStopped a_4 w_3) (fun x_5 w_6 => bnd (fX6_bit x_5 w_6) (fun x_7 w_8 => lt (x1 + x_7) (fun x1_9 => fX6_countStopped_4 t n x1_9 (x2 + (1 : Int32)) w_8))))))))
set_option maxHeartbeats 4000000 in
theorem kX6_countStopped_4 {X : Cx} (h : Ok X cX6_countStopped RX6 8 0 0) (hr : RetI X .int 0 0) (hnL : nLX X = 3) {t : Nat} (ht : InN X t 6) : ∀ (fu : Nat) (x1 : Int32) (x2 : Int32) (w : Wd), OkR X Value.int (fX6_countStopped_4 t fu x1 x2 w) → G X 0 0 4 [(0, .inr (.inl (some t))), (1, .inl x1), (2, .inl x2)] [] w := by
  have hj : ∀ j, j < 3 → j < nLX X := fun j q => by rw [hnL]; exact q
  intro fu
  induction fu with
  | zero => intro x1 x2 w hF; exact okN hF
  | succ fu ih =>
    intro x1 x2 w hF
    rw [fX6_countStopped_4] at hF
    refine g_iload_n (pc := 4) h 2 rfl dX6_countStopped_4 ?_
    refine g_aload_n (pc := 5) h 0 rfl dX6_countStopped_5 ?_
    refine g_getI (pc := 6) h fdX6_22 (inw ht) (by decide) dX6_countStopped_6 ?_
    refine g_icmp_ge (pc := 9) (tgt := 41) h dX6_countStopped_9 (by decide) hF (fun hF => ?_) (fun hF => ?_)
    · refine g_iload_n (pc := 41) h 1 rfl dX6_countStopped_41 ?_
      exact g_iret (pc := 42) h hr ⟨Nat.le_refl _, Nat.le_refl _⟩ hF dX6_countStopped_42
    · refine g_aload_n (pc := 12) h 0 rfl dX6_countStopped_12 ?_
      refine g_aload_n (pc := 13) h 0 rfl dX6_countStopped_13 ?_
      refine g_getR (pc := 14) h fdX6_18 (inw ht) rfl dX6_countStopped_14 ?_
      refine g_iload_n (pc := 17) h 2 rfl dX6_countStopped_17 ?_
      refine g_dr hF (fun a_1 e_a_1 h_a_1 hF => ?_)
      rw [e_a_1]
      obtain ⟨g_1, hF⟩ := grd_ok hF
      refine g_aald (pc := 18) h (by decide) rfl h_a_1 g_1 dX6_countStopped_18 ?_
      refine g_cvV (pc := 19) (st := []) h mX6_think cvX6_133 (inw ht) (by decide) ⟨by decide, by decide⟩ (Nat.le_of_ble_eq_true rfl) rfl rfl dX6_countStopped_19 hF (fun u_2 w_3 hF => ?_)
      refine g_iload_n (pc := 22) h 1 rfl dX6_countStopped_22 ?_
      refine g_aload_n (pc := 23) h 0 rfl dX6_countStopped_23 ?_
      refine g_getR (pc := 24) h fdX6_98 (inw ht) rfl dX6_countStopped_24 ?_
      refine g_dr hF (fun a_4 e_a_4 h_a_4 hF => ?_)
      rw [e_a_4]
      refine g_cvI (pc := 27) (st := [.int x1]) h mX4_isStopped cvX6_152 h_a_4 (by decide) ⟨by decide, by decide⟩ (Nat.le_of_ble_eq_true rfl) rfl rfl dX6_countStopped_27 hF (fun x_5 w_6 hF => ?_)
      refine g_csI (pc := 30) (st := [.int x1]) h mX6_bit csX6_156 (by decide) ⟨by decide, by decide⟩ (Nat.le_of_ble_eq_true rfl) rfl rfl dX6_countStopped_30 hF (fun x_7 w_8 hF => ?_)
      refine g_iadd (pc := 33) h dX6_countStopped_33 ?_
      refine g_t hF (fun x1_9 hF => ?_)
      refine g_istore_n (pc := 34) (lv' := [(1, .inl x1_9), (0, .inr (.inl (some t))), (2, .inl x2)]) h dX6_countStopped_34 (hj 1 (by decide)) rfl ?_
      refine g_iinc (pc := 35) (lv' := [(2, .inl (x2 + (1 : Int32))), (1, .inl x1_9), (0, .inr (.inl (some t)))]) h 2 rfl dX6_countStopped_35 (dv := (1 : Int32)) (by decide) (hj 2 (by decide)) rfl ?_
      refine g_goto (pc := 38) (tgt := 4) h dX6_countStopped_38 (by decide) ?_
      refine g_lv (lv' := [(0, .inr (.inl (some t))), (1, .inl x1_9), (2, .inl (x2 + (1 : Int32)))]) [2, 1, 0] rfl ?_
      exact ih _ _ _ hF
def fX6_countStopped (t : Nat) (w : Wd) : Option (Int32 × Wd) :=
  fX6_countStopped_4 t FU (0 : Int32) (0 : Int32) w
set_option maxHeartbeats 4000000 in
theorem mX6_countStopped {Γ : En} {t : Nat} {w : Wd} (ht : t < wn w ∧ kd t = 6) : MtI Γ yX6_countStopped cX6_countStopped 3 (some .int) 8 0 0 [rv Γ (some t)] w (fX6_countStopped t w) := by
  refine mtI [.inr (.inl (some t))] rfl (Nat.le_of_ble_eq_true rfl) (fun X hΓ hnL hn0 h _ hr hF => ?_)
  subst hΓ
  have ht : InN X t 6 := ⟨by rw [hn0]; exact ht.1, ht.2⟩
  have h : Ok X cX6_countStopped RX6 8 0 0 := h
  have hj : ∀ j, j < 3 → j < nLX X := fun j q => by rw [hnL]; exact q
  show G X 0 0 0 [(0, .inr (.inl (some t)))] [] w
  unfold fX6_countStopped at hF
  refine g_iconst (pc := 0) (v := (0 : Int32)) h dX6_countStopped_0 (by decide) ?_
  refine g_istore_n (pc := 1) (lv' := [(1, .inl (0 : Int32)), (0, .inr (.inl (some t)))]) h dX6_countStopped_1 (hj 1 (by decide)) rfl ?_
  refine g_iconst (pc := 2) (v := (0 : Int32)) h dX6_countStopped_2 (by decide) ?_
  refine g_istore_n (pc := 3) (lv' := [(2, .inl (0 : Int32)), (1, .inl (0 : Int32)), (0, .inr (.inl (some t)))]) h dX6_countStopped_3 (hj 2 (by decide)) rfl ?_
  refine g_lv (lv' := [(0, .inr (.inl (some t))), (1, .inl (0 : Int32)), (2, .inl (0 : Int32))]) [2, 1, 0] rfl ?_
  exact kX6_countStopped_4 h hr hnL ht _ _ _ _ hF
def fX6_count (t : Nat) (x1 : Int32) (w : Wd) : Option (Int32 × Wd) :=
  if x1 = (0 : Int32) then
    (some (gI w t 3, w))
  else if x1 = (1 : Int32) then
    (some (gI w t 4, w))
  else if x1 = (2 : Int32) then
    (bnd (fX6_countInSocks t w) (fun x_1 w_2 => some (x_1, w_2)))
  else if x1 = (3 : Int32) then
    (bnd (fX6_countStopped t w) (fun x_3 w_4 => some (x_3, w_4)))
  else if x1 = (4 : Int32) then
    (some (gI w t 6, w))
  else if x1 = (5 : Int32) then
    (dr (gR w t 8) 1 w (fun a_5 => some (gI w a_5 1, w)))
  else if x1 = (6 : Int32) then
    (some (gI w t 7, w))
  else 
    (some ((-2 : Int32), w))
set_option maxHeartbeats 4000000 in
theorem mX6_count {Γ : En} {t : Nat} {x1 : Int32} {w : Wd} (ht : t < wn w ∧ kd t = 6) : MtI Γ yX6_count cX6_count 2 (some .int) 10 0 0 [rv Γ (some t), .int x1] w (fX6_count t x1 w) := by
  refine mtI [.inr (.inl (some t)), .inl x1] rfl (Nat.le_of_ble_eq_true rfl) (fun X hΓ hnL hn0 h _ hr hF => ?_)
  subst hΓ
  have ht : InN X t 6 := ⟨by rw [hn0]; exact ht.1, ht.2⟩
  have h : Ok X cX6_count RX6 10 0 0 := h
  have hj : ∀ j, j < 2 → j < nLX X := fun j q => by rw [hnL]; exact q
  show G X 0 0 0 [(0, .inr (.inl (some t))), (1, .inl x1)] [] w
  unfold fX6_count at hF
  refine g_iload_n (pc := 0) h 1 rfl dX6_count_0 ?_
  refine g_swEq (pc := 1) (off := 43) (tgt := 44) h (0 : Int32) dX6_count_1 (by decide) (by decide) hF (fun hF => ?_) (fun c_0 hF => ?_)
  · refine g_aload_n (pc := 44) h 0 rfl dX6_count_44 ?_
    refine g_getI (pc := 45) h fdX6_22 (inw ht) (by decide) dX6_count_45 ?_
    exact g_iret (pc := 48) h hr ⟨Nat.le_refl _, Nat.le_refl _⟩ hF dX6_count_48
  refine g_swEq (pc := 1) (off := 48) (tgt := 49) h (1 : Int32) dX6_count_1 (by decide) (by decide) hF (fun hF => ?_) (fun c_1 hF => ?_)
  · refine g_aload_n (pc := 49) h 0 rfl dX6_count_49 ?_
    refine g_getI (pc := 50) h fdX6_26 (inw ht) (by decide) dX6_count_50 ?_
    exact g_iret (pc := 53) h hr ⟨Nat.le_refl _, Nat.le_refl _⟩ hF dX6_count_53
  refine g_swEq (pc := 1) (off := 53) (tgt := 54) h (2 : Int32) dX6_count_1 (by decide) (by decide) hF (fun hF => ?_) (fun c_2 hF => ?_)
  · refine g_aload_n (pc := 54) h 0 rfl dX6_count_54 ?_
    refine g_cvI (pc := 55) (st := []) h mX6_countInSocks cvX6_296 (inw ht) (by decide) ⟨by decide, by decide⟩ (Nat.le_of_ble_eq_true rfl) rfl rfl dX6_count_55 hF (fun x_1 w_2 hF => ?_)
    exact g_iret (pc := 58) h hr ⟨Nat.le_refl _, Nat.le_refl _⟩ hF dX6_count_58
  refine g_swEq (pc := 1) (off := 58) (tgt := 59) h (3 : Int32) dX6_count_1 (by decide) (by decide) hF (fun hF => ?_) (fun c_3 hF => ?_)
  · refine g_aload_n (pc := 59) h 0 rfl dX6_count_59 ?_
    refine g_cvI (pc := 60) (st := []) h mX6_countStopped cvX6_299 (inw ht) (by decide) ⟨by decide, by decide⟩ (Nat.le_of_ble_eq_true rfl) rfl rfl dX6_count_60 hF (fun x_3 w_4 hF => ?_)
    exact g_iret (pc := 63) h hr ⟨Nat.le_refl _, Nat.le_refl _⟩ hF dX6_count_63
  refine g_swEq (pc := 1) (off := 63) (tgt := 64) h (4 : Int32) dX6_count_1 (by decide) (by decide) hF (fun hF => ?_) (fun c_4 hF => ?_)
  · refine g_aload_n (pc := 64) h 0 rfl dX6_count_64 ?_
    refine g_getI (pc := 65) h fdX6_35 (inw ht) (by decide) dX6_count_65 ?_
    exact g_iret (pc := 68) h hr ⟨Nat.le_refl _, Nat.le_refl _⟩ hF dX6_count_68
  refine g_swEq (pc := 1) (off := 68) (tgt := 69) h (5 : Int32) dX6_count_1 (by decide) (by decide) hF (fun hF => ?_) (fun c_5 hF => ?_)
  · refine g_aload_n (pc := 69) h 0 rfl dX6_count_69 ?_
    refine g_getR (pc := 70) h fdX6_44 (inw ht) rfl dX6_count_70 ?_
    refine g_dr hF (fun a_5 e_a_5 h_a_5 hF => ?_)
    rw [e_a_5]
    refine g_getI (pc := 73) h fdX6_163 h_a_5 (by decide) dX6_count_73 ?_
    exact g_iret (pc := 76) h hr ⟨Nat.le_refl _, Nat.le_refl _⟩ hF dX6_count_76
  refine g_swEq (pc := 1) (off := 76) (tgt := 77) h (6 : Int32) dX6_count_1 (by decide) (by decide) hF (fun hF => ?_) (fun c_6 hF => ?_)
  · refine g_aload_n (pc := 77) h 0 rfl dX6_count_77 ?_
    refine g_getI (pc := 78) h fdX6_38 (inw ht) (by decide) dX6_count_78 ?_
    exact g_iret (pc := 81) h hr ⟨Nat.le_refl _, Nat.le_refl _⟩ hF dX6_count_81
  refine g_swOut (pc := 1) (tgt := 82) h dX6_count_1 (sw_out (q := 7) (fun j hj9 => ?_)) (by decide) ?_
  · match j, hj9 with
    | 0, _ => exact c_0
    | 1, _ => exact c_1
    | 2, _ => exact c_2
    | 3, _ => exact c_3
    | 4, _ => exact c_4
    | 5, _ => exact c_5
    | 6, _ => exact c_6
    | j + 7, hj9 => exact absurd hj9 (by omega)
  · refine g_bipush (pc := 82) (v := (-2 : Int32)) h dX6_count_82 (by decide) ?_
    exact g_iret (pc := 84) h hr ⟨Nat.le_refl _, Nat.le_refl _⟩ hF dX6_count_84
def fX6_sheet (t : Nat) (x1 : Int32) (x2 : Int32) (x3 : Int32) (w : Wd) : Option (Int32 × Wd) :=
  bnd (fX6_sheetAt t x1 w) (fun r_1 w_2 => ifn r_1
    (some ((-2 : Int32), w_2))
    (bnd (fX6_within x2 (-1 : Int32) (2 : Int32) w_2) (fun x_3 w_4 => if x_3 = 0 then
      (some ((-2 : Int32), w_4))
    else
      (if x2 = (-1 : Int32) then
        (dr r_1 2 w_4 (fun a_8 => bnd (fX2_becomeRow a_8 (-1 : Int32) (0 : Int32) w_4) (fun u_9 w_10 => some ((1 : Int32), w_10))))
      else
        (if x3 ≤ (40 : Int32) then
          (if 0 ≤ x3 then
            (dr r_1 2 w_4 (fun a_5 => bnd (fX2_becomeRow a_5 x2 x3 w_4) (fun u_6 w_7 => some ((1 : Int32), w_7))))
          else
            (some ((-14 : Int32), w_4)))
        else
          (some ((-2 : Int32), w_4)))))))
set_option maxHeartbeats 4000000 in
theorem mX6_sheet {Γ : En} {t : Nat} {x1 : Int32} {x2 : Int32} {x3 : Int32} {w : Wd} (ht : t < wn w ∧ kd t = 6) : MtI Γ yX6_sheet cX6_sheet 5 (some .int) 8 0 0 [rv Γ (some t), .int x1, .int x2, .int x3] w (fX6_sheet t x1 x2 x3 w) := by
  refine mtI [.inr (.inl (some t)), .inl x1, .inl x2, .inl x3] rfl (Nat.le_of_ble_eq_true rfl) (fun X hΓ hnL hn0 h _ hr hF => ?_)
  subst hΓ
  have ht : InN X t 6 := ⟨by rw [hn0]; exact ht.1, ht.2⟩
  have h : Ok X cX6_sheet RX6 8 0 0 := h
  have hj : ∀ j, j < 5 → j < nLX X := fun j q => by rw [hnL]; exact q
  show G X 0 0 0 [(0, .inr (.inl (some t))), (1, .inl x1), (2, .inl x2), (3, .inl x3)] [] w
  unfold fX6_sheet at hF
  refine g_aload_n (pc := 0) h 0 rfl dX6_sheet_0 ?_
  refine g_iload_n (pc := 1) h 1 rfl dX6_sheet_1 ?_
  refine g_cvQ (pc := 2) (st := []) h mX6_sheetAt cvX6_230 (inw ht) (by decide) ⟨by decide, by decide⟩ (Nat.le_of_ble_eq_true rfl) rfl rfl dX6_sheet_2 hF (fun r_1 w_2 hF => ?_)
  refine g_astore (pc := 5) (lv' := [(4, .inr (.inl r_1)), (0, .inr (.inl (some t))), (1, .inl x1), (2, .inl x2), (3, .inl x3)]) h dX6_sheet_5 (hj 4 (by decide)) rfl ?_
  refine g_aload (pc := 7) h 0 rfl dX6_sheet_7 ?_
  refine g_ifnull (pc := 9) (tgt := 21) h dX6_sheet_9 (by decide) hF (fun hF => ?_) (fun hF => ?_)
  · refine g_bipush (pc := 21) (v := (-2 : Int32)) h dX6_sheet_21 (by decide) ?_
    exact g_iret (pc := 23) h hr ⟨Nat.le_refl _, Nat.le_refl _⟩ hF dX6_sheet_23
  · refine g_iload_n (pc := 12) h 3 rfl dX6_sheet_12 ?_
    refine g_iconst (pc := 13) (v := (-1 : Int32)) h dX6_sheet_13 (by decide) ?_
    refine g_iconst (pc := 14) (v := (2 : Int32)) h dX6_sheet_14 (by decide) ?_
    refine g_csI (pc := 15) (st := []) h mX6_within csX6_114 (by decide) ⟨by decide, by decide⟩ (Nat.le_of_ble_eq_true rfl) rfl rfl dX6_sheet_15 hF (fun x_3 w_4 hF => ?_)
    refine g_if_ne (pc := 18) (tgt := 24) h dX6_sheet_18 (by decide) hF (fun hF => ?_) (fun hF => ?_)
    · refine g_iload_n (pc := 24) h 3 rfl dX6_sheet_24 ?_
      refine g_iconst (pc := 25) (v := (-1 : Int32)) h dX6_sheet_25 (by decide) ?_
      refine g_icmp_ne (pc := 26) (tgt := 38) h dX6_sheet_26 (by decide) hF (fun hF => ?_) (fun hF => ?_)
      · refine g_iload_n (pc := 38) h 4 rfl dX6_sheet_38 ?_
        refine g_bipush (pc := 39) (v := (40 : Int32)) h dX6_sheet_39 (by decide) ?_
        refine g_icmp_le (pc := 41) (tgt := 47) h dX6_sheet_41 (by decide) hF (fun hF => ?_) (fun hF => ?_)
        · refine g_iload_n (pc := 47) h 4 rfl dX6_sheet_47 ?_
          refine g_if_ge (pc := 48) (tgt := 54) h dX6_sheet_48 (by decide) hF (fun hF => ?_) (fun hF => ?_)
          · refine g_aload (pc := 54) h 0 rfl dX6_sheet_54 ?_
            refine g_iload_n (pc := 56) h 3 rfl dX6_sheet_56 ?_
            refine g_iload_n (pc := 57) h 4 rfl dX6_sheet_57 ?_
            refine g_dr hF (fun a_5 e_a_5 h_a_5 hF => ?_)
            rw [e_a_5]
            refine g_cvV (pc := 58) (st := []) h mX2_becomeRow cvX6_258 h_a_5 (by decide) ⟨by decide, by decide⟩ (Nat.le_of_ble_eq_true rfl) rfl rfl dX6_sheet_58 hF (fun u_6 w_7 hF => ?_)
            refine g_iconst (pc := 61) (v := (1 : Int32)) h dX6_sheet_61 (by decide) ?_
            exact g_iret (pc := 62) h hr ⟨Nat.le_refl _, Nat.le_refl _⟩ hF dX6_sheet_62
          · refine g_bipush (pc := 51) (v := (-14 : Int32)) h dX6_sheet_51 (by decide) ?_
            exact g_iret (pc := 53) h hr ⟨Nat.le_refl _, Nat.le_refl _⟩ hF dX6_sheet_53
        · refine g_bipush (pc := 44) (v := (-2 : Int32)) h dX6_sheet_44 (by decide) ?_
          exact g_iret (pc := 46) h hr ⟨Nat.le_refl _, Nat.le_refl _⟩ hF dX6_sheet_46
      · refine g_aload (pc := 29) h 0 rfl dX6_sheet_29 ?_
        refine g_iconst (pc := 31) (v := (-1 : Int32)) h dX6_sheet_31 (by decide) ?_
        refine g_iconst (pc := 32) (v := (0 : Int32)) h dX6_sheet_32 (by decide) ?_
        refine g_dr hF (fun a_8 e_a_8 h_a_8 hF => ?_)
        rw [e_a_8]
        refine g_cvV (pc := 33) (st := []) h mX2_becomeRow cvX6_258 h_a_8 (by decide) ⟨by decide, by decide⟩ (Nat.le_of_ble_eq_true rfl) rfl rfl dX6_sheet_33 hF (fun u_9 w_10 hF => ?_)
        refine g_iconst (pc := 36) (v := (1 : Int32)) h dX6_sheet_36 (by decide) ?_
        exact g_iret (pc := 37) h hr ⟨Nat.le_refl _, Nat.le_refl _⟩ hF dX6_sheet_37
    · refine g_bipush (pc := 21) (v := (-2 : Int32)) h dX6_sheet_21 (by decide) ?_
      exact g_iret (pc := 23) h hr ⟨Nat.le_refl _, Nat.le_refl _⟩ hF dX6_sheet_23
def fX6_cell (t : Nat) (x1 : Int32) (x2 : Int32) (x3 : Int32) (w : Wd) : Option (Int32 × Wd) :=
  bnd (fX6_sheetAt t x1 w) (fun r_1 w_2 => ifn r_1
    (some ((-2 : Int32), w_2))
    (dr r_1 2 w_2 (fun a_3 => bnd (fX2_isMissing a_3 w_2) (fun x_4 w_5 => if x_4 = 0 then
      (bnd (fX2_holds a_3 x2 (1 : Int32) w_5) (fun x_6 w_7 => if x_6 = 0 then
        (some ((-12 : Int32), w_7))
      else
        (bnd (fX2_put a_3 x2 x3 w_7) (fun u_8 w_9 => some ((1 : Int32), w_9)))))
    else
      (some ((-11 : Int32), w_5))))))
set_option maxHeartbeats 4000000 in
theorem mX6_cell {Γ : En} {t : Nat} {x1 : Int32} {x2 : Int32} {x3 : Int32} {w : Wd} (ht : t < wn w ∧ kd t = 6) : MtI Γ yX6_cell cX6_cell 5 (some .int) 3 0 0 [rv Γ (some t), .int x1, .int x2, .int x3] w (fX6_cell t x1 x2 x3 w) := by
  refine mtI [.inr (.inl (some t)), .inl x1, .inl x2, .inl x3] rfl (Nat.le_of_ble_eq_true rfl) (fun X hΓ hnL hn0 h _ hr hF => ?_)
  subst hΓ
  have ht : InN X t 6 := ⟨by rw [hn0]; exact ht.1, ht.2⟩
  have h : Ok X cX6_cell RX6 3 0 0 := h
  have hj : ∀ j, j < 5 → j < nLX X := fun j q => by rw [hnL]; exact q
  show G X 0 0 0 [(0, .inr (.inl (some t))), (1, .inl x1), (2, .inl x2), (3, .inl x3)] [] w
  unfold fX6_cell at hF
  refine g_aload_n (pc := 0) h 0 rfl dX6_cell_0 ?_
  refine g_iload_n (pc := 1) h 1 rfl dX6_cell_1 ?_
  refine g_cvQ (pc := 2) (st := []) h mX6_sheetAt cvX6_230 (inw ht) (by decide) ⟨by decide, by decide⟩ (Nat.le_of_ble_eq_true rfl) rfl rfl dX6_cell_2 hF (fun r_1 w_2 hF => ?_)
  refine g_astore (pc := 5) (lv' := [(4, .inr (.inl r_1)), (0, .inr (.inl (some t))), (1, .inl x1), (2, .inl x2), (3, .inl x3)]) h dX6_cell_5 (hj 4 (by decide)) rfl ?_
  refine g_aload (pc := 7) h 0 rfl dX6_cell_7 ?_
  refine g_ifnonnull (pc := 9) (tgt := 15) h dX6_cell_9 (by decide) hF (fun hF => ?_) (fun hF => ?_)
  · refine g_aload (pc := 15) h 0 rfl dX6_cell_15 ?_
    refine g_dr hF (fun a_3 e_a_3 h_a_3 hF => ?_)
    rw [e_a_3]
    refine g_cvI (pc := 17) (st := []) h mX2_isMissing cvX6_234 h_a_3 (by decide) ⟨by decide, by decide⟩ (Nat.le_of_ble_eq_true rfl) rfl rfl dX6_cell_17 hF (fun x_4 w_5 hF => ?_)
    refine g_if_eq (pc := 20) (tgt := 26) h dX6_cell_20 (by decide) hF (fun hF => ?_) (fun hF => ?_)
    · refine g_aload (pc := 26) h 0 rfl dX6_cell_26 ?_
      refine g_iload_n (pc := 28) h 3 rfl dX6_cell_28 ?_
      refine g_iconst (pc := 29) (v := (1 : Int32)) h dX6_cell_29 (by decide) ?_
      refine g_cvI (pc := 30) (st := []) h mX2_holds cvX6_302 h_a_3 (by decide) ⟨by decide, by decide⟩ (Nat.le_of_ble_eq_true rfl) rfl rfl dX6_cell_30 hF (fun x_6 w_7 hF => ?_)
      refine g_if_ne (pc := 33) (tgt := 39) h dX6_cell_33 (by decide) hF (fun hF => ?_) (fun hF => ?_)
      · refine g_aload (pc := 39) h 0 rfl dX6_cell_39 ?_
        refine g_iload_n (pc := 41) h 3 rfl dX6_cell_41 ?_
        refine g_iload_n (pc := 42) h 4 rfl dX6_cell_42 ?_
        refine g_cvV (pc := 43) (st := []) h mX2_put cvX6_262 h_a_3 (by decide) ⟨by decide, by decide⟩ (Nat.le_of_ble_eq_true rfl) rfl rfl dX6_cell_43 hF (fun u_8 w_9 hF => ?_)
        refine g_iconst (pc := 46) (v := (1 : Int32)) h dX6_cell_46 (by decide) ?_
        exact g_iret (pc := 47) h hr ⟨Nat.le_refl _, Nat.le_refl _⟩ hF dX6_cell_47
      · refine g_bipush (pc := 36) (v := (-12 : Int32)) h dX6_cell_36 (by decide) ?_
        exact g_iret (pc := 38) h hr ⟨Nat.le_refl _, Nat.le_refl _⟩ hF dX6_cell_38
    · refine g_bipush (pc := 23) (v := (-11 : Int32)) h dX6_cell_23 (by decide) ?_
      exact g_iret (pc := 25) h hr ⟨Nat.le_refl _, Nat.le_refl _⟩ hF dX6_cell_25
  · refine g_bipush (pc := 12) (v := (-2 : Int32)) h dX6_cell_12 (by decide) ?_
    exact g_iret (pc := 14) h hr ⟨Nat.le_refl _, Nat.le_refl _⟩ hF dX6_cell_14
def fX6_copy (t : Nat) (x1 : Int32) (x2 : Int32) (x3 : Int32) (x4 : Int32) (x5 : Int32) (w : Wd) : Option (Int32 × Wd) :=
  bnd (fX6_sheetAt t x1 w) (fun r_1 w_2 => bnd (fX6_sheetAt t x3 w_2) (fun r_3 w_4 => ifn r_1
    (some ((-2 : Int32), w_4))
    (ifn r_3
      (some ((-2 : Int32), w_4))
      (dr r_1 2 w_4 (fun a_5 => bnd (fX2_isMissing a_5 w_4) (fun x_6 w_7 => if x_6 = 0 then
        (dr r_3 2 w_7 (fun a_8 => bnd (fX2_isMissing a_8 w_7) (fun x_9 w_10 => if x_9 = 0 then
          (if (gI w_10 a_5 1) = (gI w_10 a_8 1) then
            (bnd (fX2_holds a_5 x2 x5 w_10) (fun x_11 w_12 => if x_11 = 0 then
              (some ((-12 : Int32), w_12))
            else
              (bnd (fX2_holds a_8 x4 x5 w_12) (fun x_13 w_14 => if x_13 = 0 then
                (some ((-12 : Int32), w_14))
              else
                (dr (gR w_14 a_5 0) 8 w_14 (fun a_15 => dr (gR w_14 a_8 0) 8 w_14 (fun a_16 => grd (¬ x2 < 0 ∧ ¬ x4 < 0 ∧ ¬ x5 < 0 ∧ x2.toNatClampNeg + x5.toNatClampNeg ≤ ln a_15 ∧ x4.toNatClampNeg + x5.toNatClampNeg ≤ ln a_16) (lw (cI w_14 a_16 (va_cpy (gI w_14 a_15) (gI w_14 a_16) x2.toNatClampNeg x4.toNatClampNeg x5.toNatClampNeg)) (fun w_17 => some (x5, w_17))))))))))
          else
            (some ((-13 : Int32), w_10)))
        else
          (some ((-11 : Int32), w_10)))))
      else
        (some ((-11 : Int32), w_7))))))))
set_option maxHeartbeats 4000000 in
theorem mX6_copy {Γ : En} {t : Nat} {x1 : Int32} {x2 : Int32} {x3 : Int32} {x4 : Int32} {x5 : Int32} {w : Wd} (ht : t < wn w ∧ kd t = 6) : MtI Γ yX6_copy cX6_copy 8 (some .int) 3 0 0 [rv Γ (some t), .int x1, .int x2, .int x3, .int x4, .int x5] w (fX6_copy t x1 x2 x3 x4 x5 w) := by
  refine mtI [.inr (.inl (some t)), .inl x1, .inl x2, .inl x3, .inl x4, .inl x5] rfl (Nat.le_of_ble_eq_true rfl) (fun X hΓ hnL hn0 h _ hr hF => ?_)
  subst hΓ
  have ht : InN X t 6 := ⟨by rw [hn0]; exact ht.1, ht.2⟩
  have h : Ok X cX6_copy RX6 3 0 0 := h
  have hj : ∀ j, j < 8 → j < nLX X := fun j q => by rw [hnL]; exact q
  show G X 0 0 0 [(0, .inr (.inl (some t))), (1, .inl x1), (2, .inl x2), (3, .inl x3), (4, .inl x4), (5, .inl x5)] [] w
  unfold fX6_copy at hF
  refine g_aload_n (pc := 0) h 0 rfl dX6_copy_0 ?_
  refine g_iload_n (pc := 1) h 1 rfl dX6_copy_1 ?_
  refine g_cvQ (pc := 2) (st := []) h mX6_sheetAt cvX6_230 (inw ht) (by decide) ⟨by decide, by decide⟩ (Nat.le_of_ble_eq_true rfl) rfl rfl dX6_copy_2 hF (fun r_1 w_2 hF => ?_)
  refine g_astore (pc := 5) (lv' := [(6, .inr (.inl r_1)), (0, .inr (.inl (some t))), (1, .inl x1), (2, .inl x2), (3, .inl x3), (4, .inl x4), (5, .inl x5)]) h dX6_copy_5 (hj 6 (by decide)) rfl ?_
  refine g_aload_n (pc := 7) h 1 rfl dX6_copy_7 ?_
  refine g_iload_n (pc := 8) h 4 rfl dX6_copy_8 ?_
  refine g_cvQ (pc := 9) (st := []) h mX6_sheetAt cvX6_230 (inw ht) (by decide) ⟨by decide, by decide⟩ (Nat.le_of_ble_eq_true rfl) rfl rfl dX6_copy_9 hF (fun r_3 w_4 hF => ?_)
  refine g_astore (pc := 12) (lv' := [(7, .inr (.inl r_3)), (6, .inr (.inl r_1)), (0, .inr (.inl (some t))), (1, .inl x1), (2, .inl x2), (3, .inl x3), (4, .inl x4), (5, .inl x5)]) h dX6_copy_12 (hj 7 (by decide)) rfl ?_
  refine g_aload (pc := 14) h 1 rfl dX6_copy_14 ?_
  refine g_ifnull (pc := 16) (tgt := 24) h dX6_copy_16 (by decide) hF (fun hF => ?_) (fun hF => ?_)
  · refine g_bipush (pc := 24) (v := (-2 : Int32)) h dX6_copy_24 (by decide) ?_
    exact g_iret (pc := 26) h hr ⟨Nat.le_refl _, Nat.le_refl _⟩ hF dX6_copy_26
  · refine g_aload (pc := 19) h 0 rfl dX6_copy_19 ?_
    refine g_ifnonnull (pc := 21) (tgt := 27) h dX6_copy_21 (by decide) hF (fun hF => ?_) (fun hF => ?_)
    · refine g_aload (pc := 27) h 1 rfl dX6_copy_27 ?_
      refine g_dr hF (fun a_5 e_a_5 h_a_5 hF => ?_)
      rw [e_a_5]
      refine g_cvI (pc := 29) (st := []) h mX2_isMissing cvX6_234 h_a_5 (by decide) ⟨by decide, by decide⟩ (Nat.le_of_ble_eq_true rfl) rfl rfl dX6_copy_29 hF (fun x_6 w_7 hF => ?_)
      refine g_if_ne (pc := 32) (tgt := 43) h dX6_copy_32 (by decide) hF (fun hF => ?_) (fun hF => ?_)
      · refine g_bipush (pc := 43) (v := (-11 : Int32)) h dX6_copy_43 (by decide) ?_
        exact g_iret (pc := 45) h hr ⟨Nat.le_refl _, Nat.le_refl _⟩ hF dX6_copy_45
      · refine g_aload (pc := 35) h 0 rfl dX6_copy_35 ?_
        refine g_dr hF (fun a_8 e_a_8 h_a_8 hF => ?_)
        rw [e_a_8]
        refine g_cvI (pc := 37) (st := []) h mX2_isMissing cvX6_234 h_a_8 (by decide) ⟨by decide, by decide⟩ (Nat.le_of_ble_eq_true rfl) rfl rfl dX6_copy_37 hF (fun x_9 w_10 hF => ?_)
        refine g_if_eq (pc := 40) (tgt := 46) h dX6_copy_40 (by decide) hF (fun hF => ?_) (fun hF => ?_)
        · refine g_aload (pc := 46) h 1 rfl dX6_copy_46 ?_
          refine g_getI (pc := 48) h fdX6_305 h_a_5 (by decide) dX6_copy_48 ?_
          refine g_aload (pc := 51) h 0 rfl dX6_copy_51 ?_
          refine g_getI (pc := 53) h fdX6_305 h_a_8 (by decide) dX6_copy_53 ?_
          refine g_icmp_eq (pc := 56) (tgt := 62) h dX6_copy_56 (by decide) hF (fun hF => ?_) (fun hF => ?_)
          · refine g_aload (pc := 62) h 1 rfl dX6_copy_62 ?_
            refine g_iload_n (pc := 64) h 4 rfl dX6_copy_64 ?_
            refine g_iload (pc := 65) h 7 rfl dX6_copy_65 ?_
            refine g_cvI (pc := 67) (st := []) h mX2_holds cvX6_302 h_a_5 (by decide) ⟨by decide, by decide⟩ (Nat.le_of_ble_eq_true rfl) rfl rfl dX6_copy_67 hF (fun x_11 w_12 hF => ?_)
            refine g_if_eq (pc := 70) (tgt := 85) h dX6_copy_70 (by decide) hF (fun hF => ?_) (fun hF => ?_)
            · refine g_bipush (pc := 85) (v := (-12 : Int32)) h dX6_copy_85 (by decide) ?_
              exact g_iret (pc := 87) h hr ⟨Nat.le_refl _, Nat.le_refl _⟩ hF dX6_copy_87
            · refine g_aload (pc := 73) h 0 rfl dX6_copy_73 ?_
              refine g_iload (pc := 75) h 6 rfl dX6_copy_75 ?_
              refine g_iload (pc := 77) h 7 rfl dX6_copy_77 ?_
              refine g_cvI (pc := 79) (st := []) h mX2_holds cvX6_302 h_a_8 (by decide) ⟨by decide, by decide⟩ (Nat.le_of_ble_eq_true rfl) rfl rfl dX6_copy_79 hF (fun x_13 w_14 hF => ?_)
              refine g_if_ne (pc := 82) (tgt := 88) h dX6_copy_82 (by decide) hF (fun hF => ?_) (fun hF => ?_)
              · refine g_aload (pc := 88) h 1 rfl dX6_copy_88 ?_
                refine g_getR (pc := 90) h fdX6_308 h_a_5 rfl dX6_copy_90 ?_
                refine g_iload_n (pc := 93) h 4 rfl dX6_copy_93 ?_
                refine g_aload (pc := 94) h 0 rfl dX6_copy_94 ?_
                refine g_getR (pc := 96) h fdX6_308 h_a_8 rfl dX6_copy_96 ?_
                refine g_iload (pc := 99) h 6 rfl dX6_copy_99 ?_
                refine g_iload (pc := 101) h 7 rfl dX6_copy_101 ?_
                refine g_dr hF (fun a_15 e_a_15 h_a_15 hF => ?_)
                rw [e_a_15]
                refine g_dr hF (fun a_16 e_a_16 h_a_16 hF => ?_)
                rw [e_a_16]
                obtain ⟨g_1, hF⟩ := grd_ok hF
                refine g_copy (pc := 103) h wml_X6_286 h_a_15 h_a_16 g_1 (by decide) (Nat.le_of_ble_eq_true rfl) wna_arraycopy wst_arraycopy win_System dX6_copy_103 ?_
                refine g_w hF (fun w_17 hF => ?_)
                refine g_iload (pc := 106) h 7 rfl dX6_copy_106 ?_
                exact g_iret (pc := 108) h hr ⟨Nat.le_refl _, Nat.le_refl _⟩ hF dX6_copy_108
              · refine g_bipush (pc := 85) (v := (-12 : Int32)) h dX6_copy_85 (by decide) ?_
                exact g_iret (pc := 87) h hr ⟨Nat.le_refl _, Nat.le_refl _⟩ hF dX6_copy_87
          · refine g_bipush (pc := 59) (v := (-13 : Int32)) h dX6_copy_59 (by decide) ?_
            exact g_iret (pc := 61) h hr ⟨Nat.le_refl _, Nat.le_refl _⟩ hF dX6_copy_61
        · refine g_bipush (pc := 43) (v := (-11 : Int32)) h dX6_copy_43 (by decide) ?_
          exact g_iret (pc := 45) h hr ⟨Nat.le_refl _, Nat.le_refl _⟩ hF dX6_copy_45
    · refine g_bipush (pc := 24) (v := (-2 : Int32)) h dX6_copy_24 (by decide) ?_
      exact g_iret (pc := 26) h hr ⟨Nat.le_refl _, Nat.le_refl _⟩ hF dX6_copy_26
def fX6_walkers_147 (k72 : Int32 → Int32 → Option Nat → Int32 → Int32 → Wd → Option (Int32 × Wd)) (t : Nat) (x3 : Int32) (x4 : Int32) (r5 : Option Nat) (x7 : Int32) (y0 : Int32) (y1 : Int32) (w : Wd) : Option (Int32 × Wd) :=
  bnd (fX6_bit y0 w) (fun x_22 w_23 => lt (y1 + x_22) (fun x6_24 => k72 x3 x4 r5 x6_24 (x7 + (1 : Int32)) w_23))
set_option maxHeartbeats 4000000 in
theorem kX6_walkers_147 {X : Cx} (h : Ok X cX6_walkers RX6 4 0 0) (hr : RetI X .int 0 0) (hnL : nLX X = 9) {t : Nat} (ht : InN X t 6) {k72 : Int32 → Int32 → Option Nat → Int32 → Int32 → Wd → Option (Int32 × Wd)} (hk72 : ∀ (x3 : Int32) (x4 : Int32) (r5 : Option Nat) (x6 : Int32) (x7 : Int32) (w : Wd), OkR X Value.int (k72 x3 x4 r5 x6 x7 w) → G X 0 0 72 [(0, .inr (.inl (some t))), (3, .inl x3), (4, .inl x4), (5, .inr (.inl r5)), (6, .inl x6), (7, .inl x7)] [] w) : ∀ (x3 : Int32) (x4 : Int32) (r5 : Option Nat) (x7 : Int32) (y0 : Int32) (y1 : Int32) (w : Wd), OkR X Value.int (fX6_walkers_147 k72 t x3 x4 r5 x7 y0 y1 w) → G X 0 0 147 [(0, .inr (.inl (some t))), (3, .inl x3), (4, .inl x4), (5, .inr (.inl r5)), (7, .inl x7)] [.int y0, .int y1] w := by
  have hj : ∀ j, j < 9 → j < nLX X := fun j q => by rw [hnL]; exact q
  intro x3 x4 r5 x7 y0 y1 w hF
  unfold fX6_walkers_147 at hF
  refine g_csI (pc := 147) (st := [.int y1]) h mX6_bit csX6_156 (by decide) ⟨by decide, by decide⟩ (Nat.le_of_ble_eq_true rfl) rfl rfl dX6_walkers_147 hF (fun x_22 w_23 hF => ?_)
  refine g_iadd (pc := 150) h dX6_walkers_150 ?_
  refine g_t hF (fun x6_24 hF => ?_)
  refine g_istore (pc := 151) (lv' := [(6, .inl x6_24), (0, .inr (.inl (some t))), (3, .inl x3), (4, .inl x4), (5, .inr (.inl r5)), (7, .inl x7)]) h dX6_walkers_151 (hj 6 (by decide)) rfl ?_
  refine g_iinc (pc := 153) (lv' := [(7, .inl (x7 + (1 : Int32))), (6, .inl x6_24), (0, .inr (.inl (some t))), (3, .inl x3), (4, .inl x4), (5, .inr (.inl r5))]) h 5 rfl dX6_walkers_153 (dv := (1 : Int32)) (by decide) (hj 7 (by decide)) rfl ?_
  refine g_goto (pc := 156) (tgt := 72) h dX6_walkers_156 (by decide) ?_
  refine g_lv (lv' := [(0, .inr (.inl (some t))), (3, .inl x3), (4, .inl x4), (5, .inr (.inl r5)), (6, .inl x6_24), (7, .inl (x7 + (1 : Int32)))]) [2, 3, 4, 5, 1, 0] rfl ?_
  exact hk72 _ _ _ _ _ _ hF
def fX6_walkers_72 (t : Nat) : Nat → Int32 → Int32 → Option Nat → Int32 → Int32 → Wd → Option (Int32 × Wd)
  | 0 => fun _ _ _ _ _ _ => none
  | n + 1 => fun x3 x4 r5 x6 x7 w =>
    if x4 ≤ x7 then
      (some (x6, w))
    else
      (dr r5 2 w (fun a_13 => bnd (fX2_holds a_13 x3 ((3 : Int32) * (x7 + (1 : Int32))) w) (fun x_14 w_15 => if x_14 = 0 then
        (some ((-12 : Int32), w_15))
      else
        (lt (x3 + ((3 : Int32) * x7)) (fun x8_16 => dr (gR w_15 a_13 0) 8 w_15 (fun a_17 => grd (vin x8_16 (ln a_17)) (dr (gR w_15 a_13 0) 8 w_15 (fun a_18 => grd (vin (x8_16 + (1 : Int32)) (ln a_18)) (dr (gR w_15 a_13 0) 8 w_15 (fun a_19 => grd (vin (x8_16 + (2 : Int32)) (ln a_19)) (bnd (fX6_walker t (gI w_15 a_17 x8_16.toNatClampNeg) (gI w_15 a_18 (x8_16 + (1 : Int32)).toNatClampNeg) (gI w_15 a_19 (x8_16 + (2 : Int32)).toNatClampNeg) w_15) (fun x_20 w_21 => if x_20 < 0 then
          (fX6_walkers_147 (fX6_walkers_72 t n) t x3 x4 (some a_13) x7 (0 : Int32) x6 w_21)
        else
          (fX6_walkers_147 (fX6_walkers_72 t n) t x3 x4 (some a_13) x7 (1 : Int32) x6 w_21)))))))))))))
set_option maxHeartbeats 4000000 in
theorem kX6_walkers_72 {X : Cx} (h : Ok X cX6_walkers RX6 4 0 0) (hr : RetI X .int 0 0) (hnL : nLX X = 9) {t : Nat} (ht : InN X t 6) : ∀ (fu : Nat) (x3 : Int32) (x4 : Int32) (r5 : Option Nat) (x6 : Int32) (x7 : Int32) (w : Wd), OkR X Value.int (fX6_walkers_72 t fu x3 x4 r5 x6 x7 w) → G X 0 0 72 [(0, .inr (.inl (some t))), (3, .inl x3), (4, .inl x4), (5, .inr (.inl r5)), (6, .inl x6), (7, .inl x7)] [] w := by
  have hj : ∀ j, j < 9 → j < nLX X := fun j q => by rw [hnL]; exact q
  intro fu
  induction fu with
  | zero => intro x3 x4 r5 x6 x7 w hF; exact okN hF
  | succ fu ih =>
    intro x3 x4 r5 x6 x7 w hF
    rw [fX6_walkers_72] at hF
    refine g_iload (pc := 72) h 5 rfl dX6_walkers_72 ?_
    refine g_iload (pc := 74) h 2 rfl dX6_walkers_74 ?_
    refine g_icmp_ge (pc := 76) (tgt := 159) h dX6_walkers_76 (by decide) hF (fun hF => ?_) (fun hF => ?_)
    · refine g_iload (pc := 159) h 4 rfl dX6_walkers_159 ?_
      exact g_iret (pc := 161) h hr ⟨Nat.le_refl _, Nat.le_refl _⟩ hF dX6_walkers_161
    · refine g_aload (pc := 79) h 3 rfl dX6_walkers_79 ?_
      refine g_iload_n (pc := 81) h 1 rfl dX6_walkers_81 ?_
      refine g_iconst (pc := 82) (v := (3 : Int32)) h dX6_walkers_82 (by decide) ?_
      refine g_iload (pc := 83) h 5 rfl dX6_walkers_83 ?_
      refine g_iconst (pc := 85) (v := (1 : Int32)) h dX6_walkers_85 (by decide) ?_
      refine g_iadd (pc := 86) h dX6_walkers_86 ?_
      refine g_imul (pc := 87) h dX6_walkers_87 ?_
      refine g_dr hF (fun a_13 e_a_13 h_a_13 hF => ?_)
      rw [e_a_13]
      refine g_cvI (pc := 88) (st := []) h mX2_holds cvX6_302 h_a_13 (by decide) ⟨by decide, by decide⟩ (Nat.le_of_ble_eq_true rfl) rfl rfl dX6_walkers_88 hF (fun x_14 w_15 hF => ?_)
      refine g_if_ne (pc := 91) (tgt := 97) h dX6_walkers_91 (by decide) hF (fun hF => ?_) (fun hF => ?_)
      · refine g_iload_n (pc := 97) h 1 rfl dX6_walkers_97 ?_
        refine g_iconst (pc := 98) (v := (3 : Int32)) h dX6_walkers_98 (by decide) ?_
        refine g_iload (pc := 99) h 5 rfl dX6_walkers_99 ?_
        refine g_imul (pc := 101) h dX6_walkers_101 ?_
        refine g_iadd (pc := 102) h dX6_walkers_102 ?_
        refine g_t hF (fun x8_16 hF => ?_)
        refine g_istore (pc := 103) (lv' := [(8, .inl x8_16), (0, .inr (.inl (some t))), (3, .inl x3), (4, .inl x4), (5, .inr (.inl (some a_13))), (6, .inl x6), (7, .inl x7)]) h dX6_walkers_103 (hj 8 (by decide)) rfl ?_
        refine g_iload (pc := 105) h 5 rfl dX6_walkers_105 ?_
        refine g_aload_n (pc := 107) h 1 rfl dX6_walkers_107 ?_
        refine g_aload (pc := 108) h 4 rfl dX6_walkers_108 ?_
        refine g_getR (pc := 110) h fdX6_308 h_a_13 rfl dX6_walkers_110 ?_
        refine g_iload (pc := 113) h 0 rfl dX6_walkers_113 ?_
        refine g_dr hF (fun a_17 e_a_17 h_a_17 hF => ?_)
        rw [e_a_17]
        obtain ⟨g_1, hF⟩ := grd_ok hF
        refine g_iald (pc := 115) h h_a_17 g_1 dX6_walkers_115 ?_
        refine g_aload (pc := 116) h 4 rfl dX6_walkers_116 ?_
        refine g_getR (pc := 118) h fdX6_308 h_a_13 rfl dX6_walkers_118 ?_
        refine g_iload (pc := 121) h 0 rfl dX6_walkers_121 ?_
        refine g_iconst (pc := 123) (v := (1 : Int32)) h dX6_walkers_123 (by decide) ?_
        refine g_iadd (pc := 124) h dX6_walkers_124 ?_
        refine g_dr hF (fun a_18 e_a_18 h_a_18 hF => ?_)
        rw [e_a_18]
        obtain ⟨g_2, hF⟩ := grd_ok hF
        refine g_iald (pc := 125) h h_a_18 g_2 dX6_walkers_125 ?_
        refine g_aload (pc := 126) h 4 rfl dX6_walkers_126 ?_
        refine g_getR (pc := 128) h fdX6_308 h_a_13 rfl dX6_walkers_128 ?_
        refine g_iload (pc := 131) h 0 rfl dX6_walkers_131 ?_
        refine g_iconst (pc := 133) (v := (2 : Int32)) h dX6_walkers_133 (by decide) ?_
        refine g_iadd (pc := 134) h dX6_walkers_134 ?_
        refine g_dr hF (fun a_19 e_a_19 h_a_19 hF => ?_)
        rw [e_a_19]
        obtain ⟨g_3, hF⟩ := grd_ok hF
        refine g_iald (pc := 135) h h_a_19 g_3 dX6_walkers_135 ?_
        refine g_cvI (pc := 136) (st := [.int x6]) h mX6_walker cvX6_311 (inw ht) (by decide) ⟨by decide, by decide⟩ (Nat.le_of_ble_eq_true rfl) rfl rfl dX6_walkers_136 hF (fun x_20 w_21 hF => ?_)
        refine g_if_lt (pc := 139) (tgt := 146) h dX6_walkers_139 (by decide) hF (fun hF => ?_) (fun hF => ?_)
        · refine g_iconst (pc := 146) (v := (0 : Int32)) h dX6_walkers_146 (by decide) ?_
          refine g_lv (lv' := [(0, .inr (.inl (some t))), (3, .inl x3), (4, .inl x4), (5, .inr (.inl (some a_13))), (7, .inl x7)]) [1, 2, 3, 4, 6] rfl ?_
          exact kX6_walkers_147 h hr hnL ht (fun z0 z1 z2 z3 z4 z5 hF => ih z0 z1 z2 z3 z4 z5 hF) _ _ _ _ _ _ _ hF
        · refine g_iconst (pc := 142) (v := (1 : Int32)) h dX6_walkers_142 (by decide) ?_
          refine g_goto (pc := 143) (tgt := 147) h dX6_walkers_143 (by decide) ?_
          refine g_lv (lv' := [(0, .inr (.inl (some t))), (3, .inl x3), (4, .inl x4), (5, .inr (.inl (some a_13))), (7, .inl x7)]) [1, 2, 3, 4, 6] rfl ?_
          exact kX6_walkers_147 h hr hnL ht (fun z0 z1 z2 z3 z4 z5 hF => ih z0 z1 z2 z3 z4 z5 hF) _ _ _ _ _ _ _ hF
      · refine g_bipush (pc := 94) (v := (-12 : Int32)) h dX6_walkers_94 (by decide) ?_
        exact g_iret (pc := 96) h hr ⟨Nat.le_refl _, Nat.le_refl _⟩ hF dX6_walkers_96
def fX6_walkers_55 (t : Nat) (x3 : Int32) (x4 : Int32) (r5 : Option Nat) (w : Wd) : Option (Int32 × Wd) :=
  dr r5 2 w (fun a_10 => bnd (fX2_isMissing a_10 w) (fun x_11 w_12 => if x_11 = 0 then
    (fX6_walkers_72 t FU x3 x4 (some a_10) (0 : Int32) (0 : Int32) w_12)
  else
    (some ((-11 : Int32), w_12))))
set_option maxHeartbeats 4000000 in
theorem kX6_walkers_55 {X : Cx} (h : Ok X cX6_walkers RX6 4 0 0) (hr : RetI X .int 0 0) (hnL : nLX X = 9) {t : Nat} (ht : InN X t 6) : ∀ (x3 : Int32) (x4 : Int32) (r5 : Option Nat) (w : Wd), OkR X Value.int (fX6_walkers_55 t x3 x4 r5 w) → G X 0 0 55 [(0, .inr (.inl (some t))), (3, .inl x3), (4, .inl x4), (5, .inr (.inl r5))] [] w := by
  have hj : ∀ j, j < 9 → j < nLX X := fun j q => by rw [hnL]; exact q
  intro x3 x4 r5 w hF
  unfold fX6_walkers_55 at hF
  refine g_aload (pc := 55) h 3 rfl dX6_walkers_55 ?_
  refine g_dr hF (fun a_10 e_a_10 h_a_10 hF => ?_)
  rw [e_a_10]
  refine g_cvI (pc := 57) (st := []) h mX2_isMissing cvX6_234 h_a_10 (by decide) ⟨by decide, by decide⟩ (Nat.le_of_ble_eq_true rfl) rfl rfl dX6_walkers_57 hF (fun x_11 w_12 hF => ?_)
  refine g_if_eq (pc := 60) (tgt := 66) h dX6_walkers_60 (by decide) hF (fun hF => ?_) (fun hF => ?_)
  · refine g_iconst (pc := 66) (v := (0 : Int32)) h dX6_walkers_66 (by decide) ?_
    refine g_istore (pc := 67) (lv' := [(6, .inl (0 : Int32)), (0, .inr (.inl (some t))), (3, .inl x3), (4, .inl x4), (5, .inr (.inl (some a_10)))]) h dX6_walkers_67 (hj 6 (by decide)) rfl ?_
    refine g_iconst (pc := 69) (v := (0 : Int32)) h dX6_walkers_69 (by decide) ?_
    refine g_istore (pc := 70) (lv' := [(7, .inl (0 : Int32)), (6, .inl (0 : Int32)), (0, .inr (.inl (some t))), (3, .inl x3), (4, .inl x4), (5, .inr (.inl (some a_10)))]) h dX6_walkers_70 (hj 7 (by decide)) rfl ?_
    refine g_lv (lv' := [(0, .inr (.inl (some t))), (3, .inl x3), (4, .inl x4), (5, .inr (.inl (some a_10))), (6, .inl (0 : Int32)), (7, .inl (0 : Int32))]) [2, 3, 4, 5, 1, 0] rfl ?_
    exact kX6_walkers_72 h hr hnL ht _ _ _ _ _ _ _ hF
  · refine g_bipush (pc := 63) (v := (-11 : Int32)) h dX6_walkers_63 (by decide) ?_
    exact g_iret (pc := 65) h hr ⟨Nat.le_refl _, Nat.le_refl _⟩ hF dX6_walkers_65
def fX6_walkers (t : Nat) (x1 : Int32) (x2 : Int32) (x3 : Int32) (x4 : Int32) (w : Wd) : Option (Int32 × Wd) :=
  bnd (fX6_sheetAt t x1 w) (fun r_1 w_2 => ifn r_1
    (some ((-2 : Int32), w_2))
    (bnd (fX6_within x2 (0 : Int32) (2 : Int32) w_2) (fun x_3 w_4 => if x_3 = 0 then
      (some ((-2 : Int32), w_4))
    else
      (bnd (fX6_within x4 (0 : Int32) (6 : Int32) w_4) (fun x_5 w_6 => if x_5 = 0 then
        (some ((-2 : Int32), w_6))
      else
        (dr r_1 2 w_6 (fun a_7 => bnd (fX2_isMissing a_7 w_6) (fun x_8 w_9 => if x_8 = 0 then
          (if (gI w_9 a_7 1) = x2 then
            (fX6_walkers_55 t x3 x4 (some a_7) w_9)
          else
            (some ((-13 : Int32), w_9)))
        else
          (fX6_walkers_55 t x3 x4 (some a_7) w_9)))))))))
set_option maxHeartbeats 4000000 in
theorem mX6_walkers {Γ : En} {t : Nat} {x1 : Int32} {x2 : Int32} {x3 : Int32} {x4 : Int32} {w : Wd} (ht : t < wn w ∧ kd t = 6) : MtI Γ yX6_walkers cX6_walkers 9 (some .int) 4 0 0 [rv Γ (some t), .int x1, .int x2, .int x3, .int x4] w (fX6_walkers t x1 x2 x3 x4 w) := by
  refine mtI [.inr (.inl (some t)), .inl x1, .inl x2, .inl x3, .inl x4] rfl (Nat.le_of_ble_eq_true rfl) (fun X hΓ hnL hn0 h _ hr hF => ?_)
  subst hΓ
  have ht : InN X t 6 := ⟨by rw [hn0]; exact ht.1, ht.2⟩
  have h : Ok X cX6_walkers RX6 4 0 0 := h
  have hj : ∀ j, j < 9 → j < nLX X := fun j q => by rw [hnL]; exact q
  show G X 0 0 0 [(0, .inr (.inl (some t))), (1, .inl x1), (2, .inl x2), (3, .inl x3), (4, .inl x4)] [] w
  unfold fX6_walkers at hF
  refine g_aload_n (pc := 0) h 0 rfl dX6_walkers_0 ?_
  refine g_iload_n (pc := 1) h 1 rfl dX6_walkers_1 ?_
  refine g_cvQ (pc := 2) (st := []) h mX6_sheetAt cvX6_230 (inw ht) (by decide) ⟨by decide, by decide⟩ (Nat.le_of_ble_eq_true rfl) rfl rfl dX6_walkers_2 hF (fun r_1 w_2 hF => ?_)
  refine g_astore (pc := 5) (lv' := [(5, .inr (.inl r_1)), (0, .inr (.inl (some t))), (1, .inl x1), (2, .inl x2), (3, .inl x3), (4, .inl x4)]) h dX6_walkers_5 (hj 5 (by decide)) rfl ?_
  refine g_aload (pc := 7) h 0 rfl dX6_walkers_7 ?_
  refine g_ifnull (pc := 9) (tgt := 32) h dX6_walkers_9 (by decide) hF (fun hF => ?_) (fun hF => ?_)
  · refine g_bipush (pc := 32) (v := (-2 : Int32)) h dX6_walkers_32 (by decide) ?_
    exact g_iret (pc := 34) h hr ⟨Nat.le_refl _, Nat.le_refl _⟩ hF dX6_walkers_34
  · refine g_iload_n (pc := 12) h 3 rfl dX6_walkers_12 ?_
    refine g_iconst (pc := 13) (v := (0 : Int32)) h dX6_walkers_13 (by decide) ?_
    refine g_iconst (pc := 14) (v := (2 : Int32)) h dX6_walkers_14 (by decide) ?_
    refine g_csI (pc := 15) (st := []) h mX6_within csX6_114 (by decide) ⟨by decide, by decide⟩ (Nat.le_of_ble_eq_true rfl) rfl rfl dX6_walkers_15 hF (fun x_3 w_4 hF => ?_)
    refine g_if_eq (pc := 18) (tgt := 32) h dX6_walkers_18 (by decide) hF (fun hF => ?_) (fun hF => ?_)
    · refine g_bipush (pc := 32) (v := (-2 : Int32)) h dX6_walkers_32 (by decide) ?_
      exact g_iret (pc := 34) h hr ⟨Nat.le_refl _, Nat.le_refl _⟩ hF dX6_walkers_34
    · refine g_iload (pc := 21) h 5 rfl dX6_walkers_21 ?_
      refine g_iconst (pc := 23) (v := (0 : Int32)) h dX6_walkers_23 (by decide) ?_
      refine g_bipush (pc := 24) (v := (6 : Int32)) h dX6_walkers_24 (by decide) ?_
      refine g_csI (pc := 26) (st := []) h mX6_within csX6_114 (by decide) ⟨by decide, by decide⟩ (Nat.le_of_ble_eq_true rfl) rfl rfl dX6_walkers_26 hF (fun x_5 w_6 hF => ?_)
      refine g_if_ne (pc := 29) (tgt := 35) h dX6_walkers_29 (by decide) hF (fun hF => ?_) (fun hF => ?_)
      · refine g_aload (pc := 35) h 0 rfl dX6_walkers_35 ?_
        refine g_dr hF (fun a_7 e_a_7 h_a_7 hF => ?_)
        rw [e_a_7]
        refine g_cvI (pc := 37) (st := []) h mX2_isMissing cvX6_234 h_a_7 (by decide) ⟨by decide, by decide⟩ (Nat.le_of_ble_eq_true rfl) rfl rfl dX6_walkers_37 hF (fun x_8 w_9 hF => ?_)
        refine g_if_ne (pc := 40) (tgt := 55) h dX6_walkers_40 (by decide) hF (fun hF => ?_) (fun hF => ?_)
        · refine g_lv (lv' := [(0, .inr (.inl (some t))), (3, .inl x3), (4, .inl x4), (5, .inr (.inl (some a_7)))]) [1, 4, 5, 0] rfl ?_
          exact kX6_walkers_55 h hr hnL ht _ _ _ _ hF
        · refine g_aload (pc := 43) h 0 rfl dX6_walkers_43 ?_
          refine g_getI (pc := 45) h fdX6_305 h_a_7 (by decide) dX6_walkers_45 ?_
          refine g_iload_n (pc := 48) h 3 rfl dX6_walkers_48 ?_
          refine g_icmp_eq (pc := 49) (tgt := 55) h dX6_walkers_49 (by decide) hF (fun hF => ?_) (fun hF => ?_)
          · refine g_lv (lv' := [(0, .inr (.inl (some t))), (3, .inl x3), (4, .inl x4), (5, .inr (.inl (some a_7)))]) [1, 4, 5, 0] rfl ?_
            exact kX6_walkers_55 h hr hnL ht _ _ _ _ hF
          · refine g_bipush (pc := 52) (v := (-13 : Int32)) h dX6_walkers_52 (by decide) ?_
            exact g_iret (pc := 54) h hr ⟨Nat.le_refl _, Nat.le_refl _⟩ hF dX6_walkers_54
      · refine g_bipush (pc := 32) (v := (-2 : Int32)) h dX6_walkers_32 (by decide) ?_
        exact g_iret (pc := 34) h hr ⟨Nat.le_refl _, Nat.le_refl _⟩ hF dX6_walkers_34
def fX6_taken (t : Nat) (x1 : Int32) (x2 : Int32) (w : Wd) : Option (Int32 × Wd) :=
  bnd (fX6_within x2 (0 : Int32) (5 : Int32) w) (fun x_1 w_2 => if x_1 = 0 then
    (some ((-2 : Int32), w_2))
  else
    (bnd (fX6_walkerAt t x1 w_2) (fun r_3 w_4 => ifn r_3
      (some ((-11 : Int32), w_4))
      (dr r_3 5 w_4 (fun a_5 => bnd (fX6_isUnder (gI w_4 a_5 0) x2 w_4) (fun x_6 w_7 => if x_6 = 0 then
        (some ((-13 : Int32), w_7))
      else
        (some (gI w_7 a_5 1, w_7))))))))
set_option maxHeartbeats 4000000 in
theorem mX6_taken {Γ : En} {t : Nat} {x1 : Int32} {x2 : Int32} {w : Wd} (ht : t < wn w ∧ kd t = 6) : MtI Γ yX6_taken cX6_taken 4 (some .int) 3 0 0 [rv Γ (some t), .int x1, .int x2] w (fX6_taken t x1 x2 w) := by
  refine mtI [.inr (.inl (some t)), .inl x1, .inl x2] rfl (Nat.le_of_ble_eq_true rfl) (fun X hΓ hnL hn0 h _ hr hF => ?_)
  subst hΓ
  have ht : InN X t 6 := ⟨by rw [hn0]; exact ht.1, ht.2⟩
  have h : Ok X cX6_taken RX6 3 0 0 := h
  have hj : ∀ j, j < 4 → j < nLX X := fun j q => by rw [hnL]; exact q
  show G X 0 0 0 [(0, .inr (.inl (some t))), (1, .inl x1), (2, .inl x2)] [] w
  unfold fX6_taken at hF
  refine g_iload_n (pc := 0) h 2 rfl dX6_taken_0 ?_
  refine g_iconst (pc := 1) (v := (0 : Int32)) h dX6_taken_1 (by decide) ?_
  refine g_iconst (pc := 2) (v := (5 : Int32)) h dX6_taken_2 (by decide) ?_
  refine g_csI (pc := 3) (st := []) h mX6_within csX6_114 (by decide) ⟨by decide, by decide⟩ (Nat.le_of_ble_eq_true rfl) rfl rfl dX6_taken_3 hF (fun x_1 w_2 hF => ?_)
  refine g_if_ne (pc := 6) (tgt := 12) h dX6_taken_6 (by decide) hF (fun hF => ?_) (fun hF => ?_)
  · refine g_aload_n (pc := 12) h 0 rfl dX6_taken_12 ?_
    refine g_iload_n (pc := 13) h 1 rfl dX6_taken_13 ?_
    refine g_cvQ (pc := 14) (st := []) h mX6_walkerAt cvX6_129 (inw ht) (by decide) ⟨by decide, by decide⟩ (Nat.le_of_ble_eq_true rfl) rfl rfl dX6_taken_14 hF (fun r_3 w_4 hF => ?_)
    refine g_astore_n (pc := 17) (lv' := [(3, .inr (.inl r_3)), (0, .inr (.inl (some t))), (1, .inl x1), (2, .inl x2)]) h dX6_taken_17 (hj 3 (by decide)) rfl ?_
    refine g_aload_n (pc := 18) h 0 rfl dX6_taken_18 ?_
    refine g_ifnonnull (pc := 19) (tgt := 25) h dX6_taken_19 (by decide) hF (fun hF => ?_) (fun hF => ?_)
    · refine g_aload_n (pc := 25) h 0 rfl dX6_taken_25 ?_
      refine g_dr hF (fun a_5 e_a_5 h_a_5 hF => ?_)
      rw [e_a_5]
      refine g_getI (pc := 26) h fdX6_137 h_a_5 (by decide) dX6_taken_26 ?_
      refine g_iload_n (pc := 29) h 3 rfl dX6_taken_29 ?_
      refine g_csI (pc := 30) (st := []) h mX6_isUnder csX6_315 (by decide) ⟨by decide, by decide⟩ (Nat.le_of_ble_eq_true rfl) rfl rfl dX6_taken_30 hF (fun x_6 w_7 hF => ?_)
      refine g_if_eq (pc := 33) (tgt := 43) h dX6_taken_33 (by decide) hF (fun hF => ?_) (fun hF => ?_)
      · refine g_bipush (pc := 43) (v := (-13 : Int32)) h dX6_taken_43 (by decide) ?_
        exact g_iret (pc := 45) h hr ⟨Nat.le_refl _, Nat.le_refl _⟩ hF dX6_taken_45
      · refine g_aload_n (pc := 36) h 0 rfl dX6_taken_36 ?_
        refine g_getI (pc := 37) h fdX6_318 h_a_5 (by decide) dX6_taken_37 ?_
        refine g_goto (pc := 40) (tgt := 45) h dX6_taken_40 (by decide) ?_
        exact g_iret (pc := 45) h hr ⟨Nat.le_refl _, Nat.le_refl _⟩ hF dX6_taken_45
    · refine g_bipush (pc := 22) (v := (-11 : Int32)) h dX6_taken_22 (by decide) ?_
      exact g_iret (pc := 24) h hr ⟨Nat.le_refl _, Nat.le_refl _⟩ hF dX6_taken_24
  · refine g_bipush (pc := 9) (v := (-2 : Int32)) h dX6_taken_9 (by decide) ?_
    exact g_iret (pc := 11) h hr ⟨Nat.le_refl _, Nat.le_refl _⟩ hF dX6_taken_11
