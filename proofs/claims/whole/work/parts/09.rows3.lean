variable {X : Cx} {cc : ByteArray} {own : String} {d K N k n pc : Nat} {lv : List (Nat × LV)} {st : List Value} {w : Wd} {β : Type} {enc : β → Value}
theorem wna_arraycopy : Cond.native arraycopyName ∈ lw_U := lw_in3 128 rfl rfl
theorem wst_arraycopy : Cond.static arraycopyName ∈ lw_U := lw_in3 127 rfl rfl
theorem wml_X6_286 : Cond.methodLink RX6 286 arraycopyName ∈ lw_U := lw_in3 126 rfl rfl
theorem win_System : Cond.initialized "java/lang/System" ∈ lw_U := lw_in1 15 rfl rfl
theorem g_getU (h : Ok X cc RX6 d K N) (hd : decode cc pc = .ok (.getstatic 329, 3)) (kk : G X k n (pc + 3) lv (.ref (adU X.1) :: st) w) : G X k n pc lv st w := by
  obtain ⟨Γ, p, e, R, s, m, args, below, meth, c0, nL, n0, Q, qv⟩ := X
  obtain ⟨hx, hb, hml, hown, hts, hK, hE, hsz, hlk, hRf⟩ := h
  intro H locs ls hR hS hl hn
  exact va_gets hx hb hE.2.2.2.2.1.1 hS hown (hts _ wfl_X6_329) (fun _ h9 => h9) hd (kk H locs ls hR hS hl hn)
theorem g_ldU (h : Ok X cc own d K N) {i : Int32} (hi : vin i 6) (hd : decode cc pc = .ok (.iaload, 1)) (kk : G X k n (pc + 1) lv (.int (undL.getD i.toNatClampNeg 0) :: st) w) : G X k n pc lv (.int i :: .ref (adU X.1) :: st) w := by
  obtain ⟨Γ, p, e, R, s, m, args, below, meth, c0, nL, n0, Q, qv⟩ := X
  obtain ⟨hx, hb, hml, hown, hts, hK, hE, hsz, hlk, hRf⟩ := h
  intro H locs ls hR hS hl hn
  exact va_ti hx hb hE.2.2.2.2.1.2 hS hi rfl hd (kk H locs ls hR hS hl hn)
theorem g_lenU (h : Ok X cc own d K N) (hd : decode cc pc = .ok (.arraylength, 1)) (kk : G X k n (pc + 1) lv (.int 6 :: st) w) : G X k n pc lv (.ref (adU X.1) :: st) w := by
  obtain ⟨Γ, p, e, R, s, m, args, below, meth, c0, nL, n0, Q, qv⟩ := X
  obtain ⟨hx, hb, hml, hown, hts, hK, hE, hsz, hlk, hRf⟩ := h
  intro H locs ls hR hS hl hn
  exact va_tlen hx hb hE.2.2.2.2.1.2 hS (v := 6) (by decide) hd (kk H locs ls hR hS hl hn)
theorem g_ldcS (h : Ok X cc own d K N) {i : Nat} (j : Nat) (hj : j < 13) (he : strP.getD j ("", 0) = (own, i)) (hd : decode cc pc = .ok (.ldc i, 2)) (kk : G X k n (pc + 2) lv (.ref (adK X.1 j) :: st) w) : G X k n pc lv st w := by
  obtain ⟨Γ, p, e, R, s, m, args, below, meth, c0, nL, n0, Q, qv⟩ := X
  obtain ⟨hx, hb, hml, hown, hts, hK, hE, hsz, hlk, hRf⟩ := h
  intro H locs ls hR hS hl hn
  have hR0 := hE.2.2.2.1 j hj
  rw [he] at hR0
  exact va_ldcS hx hb hown hR0 hd (kk H locs ls hR hS hl hn)
/-- the fields of a text constant -/
theorem g_sval (h : Ok X cc RJ0 d K N) {i : Nat} (hi : i < 13) {ix : Nat} (hlk2 : Cond.fieldLink RJ0 ix RJ0 "value" "[B" ∈ lw_U) (hd : decode cc pc = .ok (.getfield ix, 3)) (kk : G X k n (pc + 3) lv (.ref (adV X.1 i) :: st) w) : G X k n pc lv (.ref (adK X.1 i) :: st) w := by
  obtain ⟨Γ, p, e, R, s, m, args, below, meth, c0, nL, n0, Q, qv⟩ := X
  obtain ⟨hx, hb, hml, hown, hts, hK, hE, hsz, hlk, hRf⟩ := h
  intro H locs ls hR hS hl hn
  exact vk_getf hx hb (hE.2.2.1.1 i hi).2.2.1 hS hown (hts _ hlk2) (fun _ h9 => h9) hd (kk H locs ls hR hS hl hn)
theorem g_scod (h : Ok X cc RJ0 d K N) {i : Nat} (hi : i < 13) {ix : Nat} (hlk2 : Cond.fieldLink RJ0 ix RJ0 "coder" "B" ∈ lw_U) (hd : decode cc pc = .ok (.getfield ix, 3)) (kk : G X k n (pc + 3) lv (.int 0 :: st) w) : G X k n pc lv (.ref (adK X.1 i) :: st) w := by
  obtain ⟨Γ, p, e, R, s, m, args, below, meth, c0, nL, n0, Q, qv⟩ := X
  obtain ⟨hx, hb, hml, hown, hts, hK, hE, hsz, hlk, hRf⟩ := h
  intro H locs ls hR hS hl hn
  exact vk_getf hx hb (hE.2.2.1.1 i hi).2.1 hS hown (hts _ hlk2) (fun _ h9 => h9) hd (kk H locs ls hR hS hl hn)
theorem g_sbl (h : Ok X cc own d K N) {i : Nat} (hi : i < 13) {j : Int32} (hj : vin j (sLen.getD i 0)) (hd : decode cc pc = .ok (.baload, 1)) (kk : G X k n (pc + 1) lv (.int ((sByt.getD i []).getD j.toNatClampNeg 0) :: st) w) : G X k n pc lv (.int j :: .ref (adV X.1 i) :: st) w := by
  obtain ⟨Γ, p, e, R, s, m, args, below, meth, c0, nL, n0, Q, qv⟩ := X
  obtain ⟨hx, hb, hml, hown, hts, hK, hE, hsz, hlk, hRf⟩ := h
  intro H locs ls hR hS hl hn
  exact va_tb hx hb (hE.2.2.1.1 i hi).2.2.2 hS hj rfl hd (kk H locs ls hR hS hl hn)
theorem g_sbn (h : Ok X cc own d K N) {i : Nat} (hi : i < 13) (hd : decode cc pc = .ok (.arraylength, 1)) (kk : G X k n (pc + 1) lv (.int (Int32.ofNat (sLen.getD i 0)) :: st) w) : G X k n pc lv (.ref (adV X.1 i) :: st) w := by
  obtain ⟨Γ, p, e, R, s, m, args, below, meth, c0, nL, n0, Q, qv⟩ := X
  obtain ⟨hx, hb, hml, hown, hts, hK, hE, hsz, hlk, hRf⟩ := h
  intro H locs ls hR hS hl hn
  exact va_tlen hx hb (hE.2.2.1.1 i hi).2.2.2 hS rfl hd (kk H locs ls hR hS hl hn)
theorem g_getC (h : Ok X cc RJ0 d K N) {ix : Nat} (hlk2 : Cond.fieldLink RJ0 ix RJ0 "COMPACT_STRINGS" "Z" ∈ lw_U) (hd : decode cc pc = .ok (.getstatic ix, 3)) (kk : G X k n (pc + 3) lv (.int 1 :: st) w) : G X k n pc lv st w := by
  obtain ⟨Γ, p, e, R, s, m, args, below, meth, c0, nL, n0, Q, qv⟩ := X
  obtain ⟨hx, hb, hml, hown, hts, hK, hE, hsz, hlk, hRf⟩ := h
  intro H locs ls hR hS hl hn
  exact va_gets hx hb hE.2.2.2.2.2.1 hS hown (hts _ hlk2) (fun _ h9 => h9) hd (kk H locs ls hR hS hl hn)
theorem g_getF (h : Ok X cc own d K N) {ix : Nat} (hlk2 : Cond.fieldLink own ix RJ3 "SIOOBE_FORMATTER" "Ljava/util/function/BiFunction;" ∈ lw_U) (hd : decode cc pc = .ok (.getstatic ix, 3)) (kk : ∀ v : { v : Value // v = .null ∨ ∃ a : Nat, v = .ref a }, G X k n (pc + 3) lv (v.1 :: st) w) : G X k n pc lv st w := by
  obtain ⟨Γ, p, e, R, s, m, args, below, meth, c0, nL, n0, Q, qv⟩ := X
  obtain ⟨hx, hb, hml, hown, hts, hK, hE, hsz, hlk, hRf⟩ := h
  intro H locs ls hR hS hl hn
  rcases hE.2.2.2.2.2.2 with hZ | ⟨t, hZ⟩
  · exact va_gets hx hb hZ hS hown (hts _ hlk2) (fun _ h9 => h9) hd (kk ⟨.null, Or.inl rfl⟩ H locs ls hR hS hl hn)
  · exact va_gets hx hb hZ hS hown (hts _ hlk2) (fun _ h9 => h9) hd (kk ⟨.ref t, Or.inr ⟨t, rfl⟩⟩ H locs ls hR hS hl hn)
/-- a call on a text constant -/
theorem g_cvS (h : Ok X cc own d K N) {dc na mL idx : Nat} {y : MethodName} {bytes : ByteArray} {ret : Option FieldType} {As stk : List Value} {r : Int32} {i : Nat} (hi : i < 13) (hM : MtI X.1 y bytes mL ret dc 0 0 (.ref (adK X.1 i) :: As) w (some (r, w))) (hY : YOk y bytes mL ret na) (hc : y.cls = RJ0) (hlink : Cond.methodLink own idx y ∈ lw_U) (hinst : Cond.instanceMethod y ∈ lw_U) (hsel : Cond.selects y.cls y y ∈ lw_U) (hdd : dc + 1 ≤ d) (hkk : k ≤ K ∧ n ≤ N) (hst : (st.map fun v => v.category).sum ≤ 8) (hna : As.length = na) (hstk : stk = As.reverse ++ .ref (adK X.1 i) :: st) (hd : decode cc pc = .ok (.invokevirtual idx, 3)) (kk : G X k n (pc + 3) lv (.int r :: st) w) : G X k n pc lv stk w := by
  have hM := hM r w rfl
  obtain ⟨Γ, p, e, R, s, m, args, below, meth, c0, nL, n0, Q, qv⟩ := X
  obtain ⟨hx, hb, hml, hown, hts, hK, hE, hsz, hlk, hRf⟩ := h
  intro H locs ls hR hS hl hn
  have hgood : GoodIn lw_U (wsV own idx y.cls y (.code y bytes mL ret :: lw_U)) := fun w hw => by
    rcases List.mem_append.mp hw with hw | hw
    · simp only [List.mem_cons, List.not_mem_nil, or_false] at hw
      rcases hw with rfl | rfl | rfl | rfl
      · exact lw_goodIn _ hlink
      · exact lw_goodIn _ hinst
      · exact lw_goodIn _ hsel
      · exact lw_goodIn _ hY.2.2.2
    · exact good_code hY.2.2.1 w hw
  have hrecv : ∃ cell : Cell, H[adK Γ i]? = some cell ∧ cell.vm.isStatics = false ∧ s.vm.findClass y.cls = some cell.cls := by
    rw [hc]
    exact vk_recv hE.2.2.1 hi hS
  refine va_calli (va_runV (As := As) (rest := st) (b := adK Γ i) ⟨hx, hb, hml, hown, hts⟩ hM (cwV na hts hgood rfl rfl rfl ⟨rfl, hY.1⟩ ⟨by show dc + 1 ≤ R.frames; omega, by show 8 + (mL + 11) + 64 * dc ≤ R.locals; have := hY.2.1; omega⟩) ⟨Bd_blind, hrecv, fun U hU hW => ⟨rfl, pre_ok hR hK hE hS hU hW⟩⟩ rfl hna hl.1 hstk (lv_room hst) hd ⟨by omega, by omega⟩) hS (fun q _ hq => hq) (fun q hq => hq) (fun r2 u t H1 locs1 ht hvm hw hB hz1 hk1 hS1 => ?_)
  obtain ⟨rfl, rfl⟩ := hw
  rw [ht] at hB
  exact w_size fun hz => kk H1 locs1 ls hB hS1 hl (by have h1 : H.size = eb Γ + wn u := hR.1; have h2 : H1.size = eb Γ + wn u := hB.1; have h3 : H1.size ≤ s.heap.size + k := hz; show n0 + k = wn u; omega)
/-- a branch that is known -/
theorem g_if_eqF (h : Ok X cc own d K N) {x : Int32} {off : Int} {tgt : Nat} (hd : decode cc pc = .ok (.ifCond .eq off, 3)) (ht : (pc : Int) + off = (tgt : Int)) (hx0 : ¬ x = 0) (kf : G X k n (pc + 3) lv st w) : G X k n pc lv (.int x :: st) w := by
  obtain ⟨Γ, p, e, R, s, m, args, below, meth, c0, nL, n0, Q, qv⟩ := X
  obtain ⟨hx, hb, hml, hown, hts, hK, hE, hsz, hlk, hRf⟩ := h
  intro H locs ls hR hS hl hn
  exact lv_if_eq hx hb hd ht (fun z => absurd z hx0) (fun _ => kf H locs ls hR hS hl hn)
theorem g_if_neF (h : Ok X cc own d K N) {x : Int32} {off : Int} {tgt : Nat} (hd : decode cc pc = .ok (.ifCond .ne off, 3)) (ht : (pc : Int) + off = (tgt : Int)) (hx0 : x = 0) (kf : G X k n (pc + 3) lv st w) : G X k n pc lv (.int x :: st) w := by
  obtain ⟨Γ, p, e, R, s, m, args, below, meth, c0, nL, n0, Q, qv⟩ := X
  obtain ⟨hx, hb, hml, hown, hts, hK, hE, hsz, hlk, hRf⟩ := h
  intro H locs ls hR hS hl hn
  exact lv_if_ne hx hb hd ht (fun z => absurd hx0 z) (fun _ => kf H locs ls hR hS hl hn)
theorem g_if_ltF (h : Ok X cc own d K N) {x : Int32} {off : Int} {tgt : Nat} (hd : decode cc pc = .ok (.ifCond .lt off, 3)) (ht : (pc : Int) + off = (tgt : Int)) (hx0 : ¬ x < 0) (kf : G X k n (pc + 3) lv st w) : G X k n pc lv (.int x :: st) w := by
  obtain ⟨Γ, p, e, R, s, m, args, below, meth, c0, nL, n0, Q, qv⟩ := X
  obtain ⟨hx, hb, hml, hown, hts, hK, hE, hsz, hlk, hRf⟩ := h
  intro H locs ls hR hS hl hn
  exact lv_if_lt hx hb hd ht (fun z => absurd z hx0) (fun _ => kf H locs ls hR hS hl hn)
theorem g_icmp_ltT (h : Ok X cc own d K N) {x y : Int32} {off : Int} {tgt : Nat} (hd : decode cc pc = .ok (.if_icmp .lt off, 3)) (ht : (pc : Int) + off = (tgt : Int)) (hx0 : x < y) (kt : G X k n tgt lv st w) : G X k n pc lv (.int y :: .int x :: st) w := by
  obtain ⟨Γ, p, e, R, s, m, args, below, meth, c0, nL, n0, Q, qv⟩ := X
  obtain ⟨hx, hb, hml, hown, hts, hK, hE, hsz, hlk, hRf⟩ := h
  intro H locs ls hR hS hl hn
  exact lv_icmp_lt hx hb hd ht (fun _ => kt H locs ls hR hS hl hn) (fun z => absurd hx0 z)
theorem g_i2c (h : Ok X cc own d K N) {x : Int32} (hd : decode cc pc = .ok (.i2c, 1)) (kk : G X k n (pc + 1) lv (.int (x.toUInt32 % 65536).toInt32 :: st) w) : G X k n pc lv (.int x :: st) w := by
  obtain ⟨Γ, p, e, R, s, m, args, below, meth, c0, nL, n0, Q, qv⟩ := X
  obtain ⟨hx, hb, hml, hown, hts, hK, hE, hsz, hlk, hRf⟩ := h
  intro H locs ls hR hS hl hn
  exact lv_i2c hx hb hd rfl (kk H locs ls hR hS hl hn)
set_option maxHeartbeats 4000000 in
theorem mJ0_coder_7d493 {Γ : En} {i : Nat} {w : Wd} (hi : i < 13) : MtI Γ yJ0_coder_7d493 cJ0_coder_7d493 1 (some .byte) 2 0 0 [.ref (adK Γ i)] w (some ((0 : Int32), w)) := by
  refine mtI [.inr (.inr (.inr (sref (adK Γ i))))] rfl (Nat.le_of_ble_eq_true rfl) (fun X hΓ hnL hn0 h _ hr hF => ?_)
  subst hΓ
  have h : Ok X cJ0_coder_7d493 RJ0 2 0 0 := h
  show G X 0 0 0 [(0, .inr (.inr (.inr (sref (adK X.1 i)))))] [] w
  refine g_getC (pc := 0) h wfl_J0_38 dJ0_coder_7d493_0 ?_
  refine g_if_eqF (pc := 3) (tgt := 13) h dJ0_coder_7d493_3 (by decide) (by decide) ?_
  refine g_saload_n (pc := 6) h 0 rfl dJ0_coder_7d493_6 ?_
  refine g_scod (pc := 7) h hi wfl_J0_15 dJ0_coder_7d493_7 ?_
  refine g_goto (pc := 10) (tgt := 14) h dJ0_coder_7d493_10 (by decide) ?_
  exact g_zret (pc := 14) h hr ⟨Nat.le_refl _, Nat.le_refl _⟩ (by decide) hF dJ0_coder_7d493_14
set_option maxHeartbeats 4000000 in
theorem mJ0_isLatin1_aae02 {Γ : En} {i : Nat} {w : Wd} (hi : i < 13) : MtI Γ yJ0_isLatin1_aae02 cJ0_isLatin1_aae02 1 (some .boolean) 2 0 0 [.ref (adK Γ i)] w (some ((1 : Int32), w)) := by
  refine mtI [.inr (.inr (.inr (sref (adK Γ i))))] rfl (Nat.le_of_ble_eq_true rfl) (fun X hΓ hnL hn0 h _ hr hF => ?_)
  subst hΓ
  have h : Ok X cJ0_isLatin1_aae02 RJ0 2 0 0 := h
  show G X 0 0 0 [(0, .inr (.inr (.inr (sref (adK X.1 i)))))] [] w
  refine g_getC (pc := 0) h wfl_J0_38 dJ0_isLatin1_aae02_0 ?_
  refine g_if_eqF (pc := 3) (tgt := 17) h dJ0_isLatin1_aae02_3 (by decide) (by decide) ?_
  refine g_saload_n (pc := 6) h 0 rfl dJ0_isLatin1_aae02_6 ?_
  refine g_scod (pc := 7) h hi wfl_J0_15 dJ0_isLatin1_aae02_7 ?_
  refine g_if_neF (pc := 10) (tgt := 17) h dJ0_isLatin1_aae02_10 (by decide) rfl ?_
  refine g_iconst (pc := 13) (v := (1 : Int32)) h dJ0_isLatin1_aae02_13 (by decide) ?_
  refine g_goto (pc := 14) (tgt := 18) h dJ0_isLatin1_aae02_14 (by decide) ?_
  exact g_zret (pc := 18) h hr ⟨Nat.le_refl _, Nat.le_refl _⟩ (by decide) hF dJ0_isLatin1_aae02_18
set_option maxHeartbeats 4000000 in
theorem mJ0_length_8abf5 {Γ : En} {i : Nat} {w : Wd} (hi : i < 13) : MtI Γ yJ0_length_8abf5 cJ0_length_8abf5 1 (some .int) 3 0 0 [.ref (adK Γ i)] w (some (Int32.ofNat (sLen.getD i 0), w)) := by
  refine mtI [.inr (.inr (.inr (sref (adK Γ i))))] rfl (Nat.le_of_ble_eq_true rfl) (fun X hΓ hnL hn0 h _ hr hF => ?_)
  subst hΓ
  have h : Ok X cJ0_length_8abf5 RJ0 3 0 0 := h
  show G X 0 0 0 [(0, .inr (.inr (.inr (sref (adK X.1 i)))))] [] w
  refine g_saload_n (pc := 0) h 0 rfl dJ0_length_8abf5_0 ?_
  refine g_sval (pc := 1) h hi wfl_J0_9 dJ0_length_8abf5_1 ?_
  refine g_sbn (pc := 4) h hi dJ0_length_8abf5_4 ?_
  refine g_saload_n (pc := 5) h 0 rfl dJ0_length_8abf5_5 ?_
  refine g_cvS (pc := 6) (st := [.int (Int32.ofNat (sLen.getD i 0))]) (As := []) h hi (mJ0_coder_7d493 hi) ⟨⟨by decide, by decide, rfl⟩, by decide, wco_J0_coder_7d493, win_J0⟩ rfl wml_J0_335 wim_J0_coder_7d493 wse_J0_coder_7d493 (by decide) ⟨by decide, by decide⟩ (Nat.le_of_ble_eq_true rfl) rfl rfl dJ0_length_8abf5_6 ?_
  refine g_ishr (pc := 9) h dJ0_length_8abf5_9 ?_
  rw [sb_shr0]
  exact g_iret (pc := 10) h hr ⟨Nat.le_refl _, Nat.le_refl _⟩ hF dJ0_length_8abf5_10
set_option maxHeartbeats 4000000 in
theorem mJ3_checkIndex_8e157 {Γ : En} {x0 x1 : Int32} {v : { v : Value // v = .null ∨ ∃ a : Nat, v = .ref a }} {w : Wd} (h0 : ¬ x0 < 0) (h1 : x0 < x1) : MtI Γ yJ3_checkIndex_8e157 cJ3_checkIndex_8e157 3 (some .int) 2 0 0 [.int x0, .int x1, v.1] w (some (x0, w)) := by
  refine mtI [.inl x0, .inl x1, .inr (.inr (.inr v))] rfl (Nat.le_of_ble_eq_true rfl) (fun X hΓ hnL hn0 h _ hr hF => ?_)
  subst hΓ
  have h : Ok X cJ3_checkIndex_8e157 RJ3 2 0 0 := h
  show G X 0 0 0 [(0, .inl x0), (1, .inl x1), (2, .inr (.inr (.inr v)))] [] w
  refine g_iload_n (pc := 0) h 0 rfl dJ3_checkIndex_8e157_0 ?_
  refine g_if_ltF (pc := 1) (tgt := 9) h dJ3_checkIndex_8e157_1 (by decide) h0 ?_
  refine g_iload_n (pc := 4) h 0 rfl dJ3_checkIndex_8e157_4 ?_
  refine g_iload_n (pc := 5) h 1 rfl dJ3_checkIndex_8e157_5 ?_
  refine g_icmp_ltT (pc := 6) (tgt := 16) h dJ3_checkIndex_8e157_6 (by decide) h1 ?_
  refine g_iload_n (pc := 16) h 0 rfl dJ3_checkIndex_8e157_16 ?_
  exact g_iret (pc := 17) h hr ⟨Nat.le_refl _, Nat.le_refl _⟩ hF dJ3_checkIndex_8e157_17
/-- a call whose answer is known -/
theorem g_csK (h : Ok X cc own d K N) {dc na mL idx : Nat} {y : MethodName} {bytes : ByteArray} {ret : Option FieldType} {As stk : List Value} {r : Int32} (hM : MtI X.1 y bytes mL ret dc 0 0 As w (some (r, w))) (hw : CsOk own idx y bytes mL ret na) (hdd : dc + 1 ≤ d) (hkk : k ≤ K ∧ n ≤ N) (hst : (st.map fun v => v.category).sum ≤ 8) (hna : As.length = na) (hstk : stk = As.reverse ++ st) (hd : decode cc pc = .ok (.invokestatic idx, 3)) (kk : G X k n (pc + 3) lv (.int r :: st) w) : G X k n pc lv stk w := by
  have hM := hM r w rfl
  obtain ⟨Γ, p, e, R, s, m, args, below, meth, c0, nL, n0, Q, qv⟩ := X
  obtain ⟨hx, hb, hml, hown, hts, hK, hE, hsz, hlk, hRf⟩ := h
  intro H locs ls hR hS hl hn
  refine va_calli (va_runS (As := As) (rest := st) ⟨hx, hb, hml, hown, hts⟩ hM (va_cwS na hts (good_S hw) rfl rfl rfl hw.1.1 ⟨by show dc + 1 ≤ R.frames; omega, by show 8 + (mL + 11) + 64 * dc ≤ R.locals; have := hw.1.2.1; omega⟩) ⟨Bd_blind, fun U hU hW => ⟨rfl, pre_ok hR hK hE hS hU hW⟩⟩ rfl hna hl.1 hstk (lv_room hst) hd ⟨by omega, by omega⟩) hS (fun q _ hq => hq) (fun q hq => hq) (fun r2 u t H1 locs1 ht hvm hw hB hz1 hk1 hS1 => ?_)
  obtain ⟨rfl, rfl⟩ := hw
  rw [ht] at hB
  exact w_size fun hz => kk H1 locs1 ls hB hS1 hl (by have h1 : H.size = eb Γ + wn u := hR.1; have h2 : H1.size = eb Γ + wn u := hB.1; have h3 : H1.size ≤ s.heap.size + k := hz; show n0 + k = wn u; omega)
theorem g_csKv (h : Ok X cc own d K N) {dc na mL idx : Nat} {y : MethodName} {bytes : ByteArray} {ret : Option FieldType} {As stk : List Value} (hM : MtV X.1 y bytes mL ret dc 0 0 As w (some ((), w))) (hw : CsOk own idx y bytes mL ret na) (hdd : dc + 1 ≤ d) (hkk : k ≤ K ∧ n ≤ N) (hst : (st.map fun v => v.category).sum ≤ 8) (hna : As.length = na) (hstk : stk = As.reverse ++ st) (hd : decode cc pc = .ok (.invokestatic idx, 3)) (kk : G X k n (pc + 3) lv st w) : G X k n pc lv stk w := by
  have hM := hM () w rfl
  obtain ⟨Γ, p, e, R, s, m, args, below, meth, c0, nL, n0, Q, qv⟩ := X
  obtain ⟨hx, hb, hml, hown, hts, hK, hE, hsz, hlk, hRf⟩ := h
  intro H locs ls hR hS hl hn
  refine va_callv (va_runS (As := As) (rest := st) ⟨hx, hb, hml, hown, hts⟩ hM (va_cwS na hts (good_S hw) rfl rfl rfl hw.1.1 ⟨by show dc + 1 ≤ R.frames; omega, by show 8 + (mL + 11) + 64 * dc ≤ R.locals; have := hw.1.2.1; omega⟩) ⟨Bd_blind, fun U hU hW => ⟨rfl, pre_ok hR hK hE hS hU hW⟩⟩ rfl hna hl.1 hstk (lv_room hst) hd ⟨by omega, by omega⟩) hS (fun q _ hq => hq) (fun q hq => hq) (fun u t H1 locs1 ht hvm hw hB hz1 hk1 hS1 => ?_)
  subst hw
  rw [ht] at hB
  exact w_size fun hz => kk H1 locs1 ls hB hS1 hl (by have h1 : H.size = eb Γ + wn u := hR.1; have h2 : H1.size = eb Γ + wn u := hB.1; have h3 : H1.size ≤ s.heap.size + k := hz; show n0 + k = wn u; omega)
set_option maxHeartbeats 4000000 in
theorem mJ0_checkIndex_df160 {Γ : En} {x0 x1 : Int32} {w : Wd} (h0 : ¬ x0 < 0) (h1 : x0 < x1) : MtV Γ yJ0_checkIndex_df160 cJ0_checkIndex_df160 2 none 3 0 0 [.int x0, .int x1] w (some ((), w)) := by
  refine mtV [.inl x0, .inl x1] rfl (Nat.le_of_ble_eq_true rfl) (fun X hΓ hnL hn0 h _ hr hF => ?_)
  subst hΓ
  have h : Ok X cJ0_checkIndex_df160 RJ0 3 0 0 := h
  show G X 0 0 0 [(0, .inl x0), (1, .inl x1)] [] w
  refine g_iload_n (pc := 0) h 0 rfl dJ0_checkIndex_df160_0 ?_
  refine g_iload_n (pc := 1) h 1 rfl dJ0_checkIndex_df160_1 ?_
  refine g_getF (pc := 2) h wfl_J0_1053 dJ0_checkIndex_df160_2 (fun v => ?_)
  refine g_csK (pc := 5) (st := []) (As := [.int x0, .int x1, v.1]) h (mJ3_checkIndex_8e157 h0 h1) ⟨⟨⟨by decide, by decide, rfl⟩, by decide, wco_J3_checkIndex_8e157, win_J3⟩, wml_J0_1059, wst_J3_checkIndex_8e157⟩ (by decide) ⟨by decide, by decide⟩ (Nat.zero_le _) rfl rfl dJ0_checkIndex_df160_5 ?_
  refine g_pop (pc := 8) h dJ0_checkIndex_df160_8 rfl ?_
  exact g_vret (pc := 9) h hr ⟨Nat.le_refl _, Nat.le_refl _⟩ hF dJ0_checkIndex_df160_9
theorem vin_lt {j : Int32} {q : Nat} (h : vin j q) (hq : q < 2 ^ 31) : ¬ j < 0 ∧ j < Int32.ofNat q := by
  have h2 : vp_in j q := h
  obtain ⟨a, ha, rfl⟩ := vp_in_of h2 hq
  exact ⟨nI_pos (by omega), nI_lt ha hq⟩
theorem sLen_lt : ∀ i, i < 13 → sLen.getD i 0 < 2 ^ 31 := by decide +kernel
/-- the letters of the text constants are such as any char is -/
theorem sByt_ok : ∀ i, i < 13 → ∀ j, j < sLen.getD i 0 → (((sByt.getD i []).getD j 0 &&& 255).toUInt32 % 65536).toInt32 = (sByt.getD i []).getD j 0 ∧ narrow .char (.int ((sByt.getD i []).getD j 0)) = .int ((sByt.getD i []).getD j 0) := by decide +kernel
set_option maxHeartbeats 4000000 in
theorem mJ1_charAt_3b067 {Γ : En} {i : Nat} {x1 : Int32} {w : Wd} (hi : i < 13) (hx1 : vin x1 (sLen.getD i 0)) : MtI Γ yJ1_charAt_3b067 cJ1_charAt_3b067 2 (some .char) 4 0 0 [.ref (adV Γ i), .int x1] w (some ((sByt.getD i []).getD x1.toNatClampNeg 0, w)) := by
  refine mtI [.inr (.inr (.inr (sref (adV Γ i)))), .inl x1] rfl (Nat.le_of_ble_eq_true rfl) (fun X hΓ hnL hn0 h _ hr hF => ?_)
  subst hΓ
  have h : Ok X cJ1_charAt_3b067 RJ1 4 0 0 := h
  show G X 0 0 0 [(0, .inr (.inr (.inr (sref (adV X.1 i))))), (1, .inl x1)] [] w
  have h9 := vin_lt hx1 (sLen_lt i hi)
  have h8 := sByt_ok i hi x1.toNatClampNeg (by have := hx1; unfold vin at this; omega)
  refine g_iload_n (pc := 0) h 1 rfl dJ1_charAt_3b067_0 ?_
  refine g_saload_n (pc := 1) h 0 rfl dJ1_charAt_3b067_1 ?_
  refine g_sbn (pc := 2) h hi dJ1_charAt_3b067_2 ?_
  refine g_csKv (pc := 3) (st := []) (As := [.int x1, .int (Int32.ofNat (sLen.getD i 0))]) h (mJ0_checkIndex_df160 h9.1 h9.2) ⟨⟨⟨by decide, by decide, rfl⟩, by decide, wco_J0_checkIndex_df160, win_J0⟩, wml_J1_9, wst_J0_checkIndex_df160⟩ (by decide) ⟨by decide, by decide⟩ (Nat.zero_le _) rfl rfl dJ1_charAt_3b067_3 ?_
  refine g_saload_n (pc := 6) h 0 rfl dJ1_charAt_3b067_6 ?_
  refine g_iload_n (pc := 7) h 1 rfl dJ1_charAt_3b067_7 ?_
  refine g_sbl (pc := 8) h hi hx1 dJ1_charAt_3b067_8 ?_
  refine g_sipush (pc := 9) (v := (255 : Int32)) h dJ1_charAt_3b067_9 (by decide) ?_
  refine g_iand (pc := 12) h dJ1_charAt_3b067_12 ?_
  refine g_i2c (pc := 13) h dJ1_charAt_3b067_13 ?_
  rw [h8.1]
  exact g_zret (pc := 14) h hr ⟨Nat.le_refl _, Nat.le_refl _⟩ h8.2 hF dJ1_charAt_3b067_14
set_option maxHeartbeats 4000000 in
theorem mJ0_charAt_5068e {Γ : En} {i : Nat} {x1 : Int32} {w : Wd} (hi : i < 13) (hx1 : vin x1 (sLen.getD i 0)) : MtI Γ yJ0_charAt_5068e cJ0_charAt_5068e 2 (some .char) 5 0 0 [.ref (adK Γ i), .int x1] w (some ((sByt.getD i []).getD x1.toNatClampNeg 0, w)) := by
  refine mtI [.inr (.inr (.inr (sref (adK Γ i)))), .inl x1] rfl (Nat.le_of_ble_eq_true rfl) (fun X hΓ hnL hn0 h _ hr hF => ?_)
  subst hΓ
  have h : Ok X cJ0_charAt_5068e RJ0 5 0 0 := h
  show G X 0 0 0 [(0, .inr (.inr (.inr (sref (adK X.1 i))))), (1, .inl x1)] [] w
  have h8 := sByt_ok i hi x1.toNatClampNeg (by have := hx1; unfold vin at this; omega)
  refine g_saload_n (pc := 0) h 0 rfl dJ0_charAt_5068e_0 ?_
  refine g_cvS (pc := 1) (st := []) (As := []) h hi (mJ0_isLatin1_aae02 hi) ⟨⟨by decide, by decide, rfl⟩, by decide, wco_J0_isLatin1_aae02, win_J0⟩ rfl wml_J0_492 wim_J0_isLatin1_aae02 wse_J0_isLatin1_aae02 (by decide) ⟨by decide, by decide⟩ (Nat.zero_le _) rfl rfl dJ0_charAt_5068e_1 ?_
  refine g_if_eqF (pc := 4) (tgt := 16) h dJ0_charAt_5068e_4 (by decide) (by decide) ?_
  refine g_saload_n (pc := 7) h 0 rfl dJ0_charAt_5068e_7 ?_
  refine g_sval (pc := 8) h hi wfl_J0_9 dJ0_charAt_5068e_8 ?_
  refine g_iload_n (pc := 11) h 1 rfl dJ0_charAt_5068e_11 ?_
  refine g_csK (pc := 12) (st := []) (As := [.ref (adV X.1 i), .int x1]) h (mJ1_charAt_3b067 hi hx1) ⟨⟨⟨by decide, by decide, rfl⟩, by decide, wco_J1_charAt_3b067, win_J1⟩, wml_J0_495, wst_J1_charAt_3b067⟩ (by decide) ⟨by decide, by decide⟩ (Nat.zero_le _) rfl rfl dJ0_charAt_5068e_12 ?_
  exact g_zret (pc := 15) h hr ⟨Nat.le_refl _, Nat.le_refl _⟩ h8.2 hF dJ0_charAt_5068e_15
theorem g_slen (h : Ok X cc own d K N) {i ix : Nat} (hi : i < 13) (hlink : Cond.methodLink own ix yJ0_length_8abf5 ∈ lw_U) (hdd : 6 ≤ d) (hkk : k ≤ K ∧ n ≤ N) (hst : (st.map fun v => v.category).sum ≤ 8) (hd : decode cc pc = .ok (.invokevirtual ix, 3)) (kk : G X k n (pc + 3) lv (.int (Int32.ofNat (sLen.getD i 0)) :: st) w) : G X k n pc lv (.ref (adK X.1 i) :: st) w :=
  g_cvS (As := []) h hi (mJ0_length_8abf5 hi) ⟨⟨by decide, by decide, rfl⟩, by decide, wco_J0_length_8abf5, win_J0⟩ rfl hlink wim_J0_length_8abf5 wse_J0_length_8abf5 (by omega) hkk hst rfl rfl hd kk
theorem g_schar (h : Ok X cc own d K N) {i ix : Nat} {x1 : Int32} (hi : i < 13) (hx1 : vin x1 (sLen.getD i 0)) (hlink : Cond.methodLink own ix yJ0_charAt_5068e ∈ lw_U) (hdd : 6 ≤ d) (hkk : k ≤ K ∧ n ≤ N) (hst : (st.map fun v => v.category).sum ≤ 8) (hd : decode cc pc = .ok (.invokevirtual ix, 3)) (kk : G X k n (pc + 3) lv (.int ((sByt.getD i []).getD x1.toNatClampNeg 0) :: st) w) : G X k n pc lv (.int x1 :: .ref (adK X.1 i) :: st) w :=
  g_cvS (As := [.int x1]) h hi (mJ0_charAt_5068e hi hx1) ⟨⟨by decide, by decide, rfl⟩, by decide, wco_J0_charAt_5068e, win_J0⟩ rfl hlink wim_J0_charAt_5068e wse_J0_charAt_5068e (by omega) hkk hst rfl rfl hd kk
/-- the reader's own methods that call one another -/
def CallOk (Γ : En) (dc : Nat) (call : Nat → Nat → Wd → Option (Unit × Wd)) : Prop :=
  (∀ (a : Nat) (w : Wd), (a < wn w ∧ kd a = 1) → MtV Γ yX1_readEither cX1_readEither 2 none dc 0 0 [rv Γ (some a)] w (call 0 a w)) ∧
  (∀ (a : Nat) (w : Wd), (a < wn w ∧ kd a = 1) → MtV Γ yX1_readBoth cX1_readBoth 2 none dc 0 0 [rv Γ (some a)] w (call 1 a w)) ∧
  (∀ (a : Nat) (w : Wd), (a < wn w ∧ kd a = 1) → MtV Γ yX1_readNot cX1_readNot 2 none dc 0 0 [rv Γ (some a)] w (call 2 a w)) ∧
  (∀ (a : Nat) (w : Wd), (a < wn w ∧ kd a = 1) → MtV Γ yX1_readSum cX1_readSum 3 none dc 0 0 [rv Γ (some a)] w (call 3 a w)) ∧
  (∀ (a : Nat) (w : Wd), (a < wn w ∧ kd a = 1) → MtV Γ yX1_readTerm cX1_readTerm 2 none dc 0 0 [rv Γ (some a)] w (call 4 a w)) ∧
  (∀ (a : Nat) (w : Wd), (a < wn w ∧ kd a = 1) → MtV Γ yX1_readOne cX1_readOne 1 none dc 0 0 [rv Γ (some a)] w (call 5 a w))
theorem hcall_X1_readEither {Γ : En} {dc : Nat} {call : Nat → Nat → Wd → Option (Unit × Wd)} (hc : CallOk Γ dc call) {a : Nat} {w : Wd} (ha : a < wn w ∧ kd a = 1) : MtV Γ yX1_readEither cX1_readEither 2 none dc 0 0 [rv Γ (some a)] w (call 0 a w) := hc.1 a w ha
theorem hcall_X1_readBoth {Γ : En} {dc : Nat} {call : Nat → Nat → Wd → Option (Unit × Wd)} (hc : CallOk Γ dc call) {a : Nat} {w : Wd} (ha : a < wn w ∧ kd a = 1) : MtV Γ yX1_readBoth cX1_readBoth 2 none dc 0 0 [rv Γ (some a)] w (call 1 a w) := hc.2.1 a w ha
theorem hcall_X1_readNot {Γ : En} {dc : Nat} {call : Nat → Nat → Wd → Option (Unit × Wd)} (hc : CallOk Γ dc call) {a : Nat} {w : Wd} (ha : a < wn w ∧ kd a = 1) : MtV Γ yX1_readNot cX1_readNot 2 none dc 0 0 [rv Γ (some a)] w (call 2 a w) := hc.2.2.1 a w ha
theorem hcall_X1_readSum {Γ : En} {dc : Nat} {call : Nat → Nat → Wd → Option (Unit × Wd)} (hc : CallOk Γ dc call) {a : Nat} {w : Wd} (ha : a < wn w ∧ kd a = 1) : MtV Γ yX1_readSum cX1_readSum 3 none dc 0 0 [rv Γ (some a)] w (call 3 a w) := hc.2.2.2.1 a w ha
theorem hcall_X1_readTerm {Γ : En} {dc : Nat} {call : Nat → Nat → Wd → Option (Unit × Wd)} (hc : CallOk Γ dc call) {a : Nat} {w : Wd} (ha : a < wn w ∧ kd a = 1) : MtV Γ yX1_readTerm cX1_readTerm 2 none dc 0 0 [rv Γ (some a)] w (call 4 a w) := hc.2.2.2.2.1 a w ha
theorem hcall_X1_readOne {Γ : En} {dc : Nat} {call : Nat → Nat → Wd → Option (Unit × Wd)} (hc : CallOk Γ dc call) {a : Nat} {w : Wd} (ha : a < wn w ∧ kd a = 1) : MtV Γ yX1_readOne cX1_readOne 1 none dc 0 0 [rv Γ (some a)] w (call 5 a w) := hc.2.2.2.2.2 a w ha
