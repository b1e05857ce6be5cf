variable {X : Cx} {cc : ByteArray} {own : String} {d K N k n pc : Nat} {lv : List (Nat × LV)} {st : List Value} {w : Wd}
theorem g_kvI (h : Ok X cc own d K N) {dc na mL idx : Nat} {y : MethodName} {bytes : ByteArray} {ret : Option FieldType} {As stk : List Value} {o : Option (Int32 × Wd)} {r : Int32} {w' : Wd} {a c : Nat} (hM : (a < wn w ∧ kd a = c) → MtI X.1 y bytes mL ret dc 0 0 (rv X.1 (some a) :: As) w o) (hw : CvOk own idx c y bytes mL ret na) (ha : InW X k a c) (hdd : dc + 1 ≤ d) (hkk : k ≤ K ∧ n ≤ N) (hst : (st.map fun v => v.category).sum ≤ 8) (hna : As.length = na) (hstk : stk = As.reverse ++ rv X.1 (some a) :: st) (hd : decode cc pc = .ok (.invokevirtual idx, 3)) (ho : o = some (r, w')) (kk : G X k n (pc + 3) lv (.int r :: st) w') : G X k n pc lv stk w := by
  obtain ⟨Γ, p, e, R, s, m, args, below, meth, c0, nL, n0, Q, qv⟩ := X
  obtain ⟨hx, hb, hml, hown, hts, hK, hE, hsz, hlk, hRf⟩ := h
  obtain ⟨T, NN, hcl⟩ := hw.2.2.1
  intro H locs ls hR hS hl hn
  have haw : a < wn w := by
    have h1 : a < n0 + k := ha.1
    omega
  have hM := hM ⟨haw, ha.2⟩ r w' ho
  refine va_calli (va_runV (As := As) (rest := st) (b := eb Γ + a) ⟨hx, hb, hml, hown, hts⟩ hM (cwV na hts (good_V hw) rfl rfl rfl ⟨rfl, hw.1.1⟩ ⟨by show dc + 1 ≤ R.frames; omega, by show 8 + (mL + 11) + 64 * dc ≤ R.locals; have := hw.1.2.1; omega⟩) ⟨Bd_blind, va_recv hK hR.2 hcl (ob_at haw ha.2 hw.2.1), fun U hU hW => ⟨rfl, pre_ok hR hK hE hS hU hW⟩⟩ rfl hna hl.1 hstk (lv_room hst) hd ⟨by omega, by omega⟩) hS (fun q _ hq => hq) (fun q hq => hq) (fun r2 u t H1 locs1 ht hvm hw hB hz1 hk1 hS1 => ?_)
  obtain ⟨rfl, rfl⟩ := hw
  rw [ht] at hB
  exact w_size fun hz => kk H1 locs1 ls hB hS1 hl (by have h1 : H.size = eb Γ + wn w := hR.1; have h2 : H1.size = eb Γ + wn u := hB.1; have h3 : H1.size ≤ s.heap.size + k := hz; show n0 + k = wn u; omega)
theorem g_kvL (h : Ok X cc own d K N) {dc na mL idx : Nat} {y : MethodName} {bytes : ByteArray} {ret : Option FieldType} {As stk : List Value} {o : Option (Int64 × Wd)} {r : Int64} {w' : Wd} {a c : Nat} (hM : (a < wn w ∧ kd a = c) → MtL X.1 y bytes mL ret dc 0 0 (rv X.1 (some a) :: As) w o) (hw : CvOk own idx c y bytes mL ret na) (ha : InW X k a c) (hdd : dc + 1 ≤ d) (hkk : k ≤ K ∧ n ≤ N) (hst : (st.map fun v => v.category).sum ≤ 8) (hna : As.length = na) (hstk : stk = As.reverse ++ rv X.1 (some a) :: st) (hd : decode cc pc = .ok (.invokevirtual idx, 3)) (ho : o = some (r, w')) (kk : G X k n (pc + 3) lv (.long r :: st) w') : G X k n pc lv stk w := by
  obtain ⟨Γ, p, e, R, s, m, args, below, meth, c0, nL, n0, Q, qv⟩ := X
  obtain ⟨hx, hb, hml, hown, hts, hK, hE, hsz, hlk, hRf⟩ := h
  obtain ⟨T, NN, hcl⟩ := hw.2.2.1
  intro H locs ls hR hS hl hn
  have haw : a < wn w := by
    have h1 : a < n0 + k := ha.1
    omega
  have hM := hM ⟨haw, ha.2⟩ r w' ho
  refine va_calll (va_runV (As := As) (rest := st) (b := eb Γ + a) ⟨hx, hb, hml, hown, hts⟩ hM (cwV na hts (good_V hw) rfl rfl rfl ⟨rfl, hw.1.1⟩ ⟨by show dc + 1 ≤ R.frames; omega, by show 8 + (mL + 11) + 64 * dc ≤ R.locals; have := hw.1.2.1; omega⟩) ⟨Bd_blind, va_recv hK hR.2 hcl (ob_at haw ha.2 hw.2.1), fun U hU hW => ⟨rfl, pre_ok hR hK hE hS hU hW⟩⟩ rfl hna hl.1 hstk (lv_room hst) hd ⟨by omega, by omega⟩) hS (fun q _ hq => hq) (fun q hq => hq) (fun r2 u t H1 locs1 ht hvm hw hB hz1 hk1 hS1 => ?_)
  obtain ⟨rfl, rfl⟩ := hw
  rw [ht] at hB
  exact w_size fun hz => kk H1 locs1 ls hB hS1 hl (by have h1 : H.size = eb Γ + wn w := hR.1; have h2 : H1.size = eb Γ + wn u := hB.1; have h3 : H1.size ≤ s.heap.size + k := hz; show n0 + k = wn u; omega)
/-- the script lies below the first address -/
def SX (X : Cx) (b L : Nat) (xs : Nat → Int32) : Prop := va_X b L xs X.2.2.2.2.1 X.2.2.2.2.1.heap ∧ b < X.2.2.2.2.1.heap.size ∧ ¬ Ab X.1 b
theorem g_xlen (h : Ok X cc own d K N) {b L : Nat} {xs : Nat → Int32} (hX : SX X b L xs) (hd : decode cc pc = .ok (.arraylength, 1)) (kk : G X k n (pc + 1) lv (.int (Int32.ofNat L) :: st) w) : G X k n pc lv (.ref b :: st) w := by
  obtain ⟨Γ, p, e, R, s, m, args, below, meth, c0, nL, n0, Q, qv⟩ := X
  obtain ⟨hx, hb, hml, hown, hts, hK, hE, hsz, hlk, hRf⟩ := h
  intro H locs ls hR hS hl hn
  exact va_slen hx hb hX.1 hX.2.1 hX.2.2 hS hd (kk H locs ls hR hS hl hn)
theorem g_xld (h : Ok X cc own d K N) {b L : Nat} {xs : Nat → Int32} {i : Int32} (hX : SX X b L xs) (hi : vp_in i L) (hd : decode cc pc = .ok (.iaload, 1)) (kk : G X k n (pc + 1) lv (.int (xs i.toNatClampNeg) :: st) w) : G X k n pc lv (.int i :: .ref b :: st) w := by
  obtain ⟨Γ, p, e, R, s, m, args, below, meth, c0, nL, n0, Q, qv⟩ := X
  obtain ⟨hx, hb, hml, hown, hts, hK, hE, hsz, hlk, hRf⟩ := h
  intro H locs ls hR hS hl hn
  exact va_sld hx hb hX.1 hX.2.1 hX.2.2 hS hi hd (kk H locs ls hR hS hl hn)
theorem g_icmp_eqT (h : Ok X cc own d K N) {x : Int32} {off : Int} {tgt : Nat} (hd : decode cc pc = .ok (.if_icmp .eq off, 3)) (ht : (pc : Int) + off = (tgt : Int)) (kt : G X k n tgt lv st w) : G X k n pc lv (.int x :: .int x :: st) w := by
  obtain ⟨Γ, p, e, R, s, m, args, below, meth, c0, nL, n0, Q, qv⟩ := X
  obtain ⟨hx, hb, hml, hown, hts, hK, hE, hsz, hlk, hRf⟩ := h
  intro H locs ls hR hS hl hn
  exact lv_icmp_eq hx hb hd ht (fun _ => kt H locs ls hR hS hl hn) (fun z => absurd rfl z)
theorem g_if_eqT (h : Ok X cc own d K N) {x : Int32} {off : Int} {tgt : Nat} (hd : decode cc pc = .ok (.ifCond .eq off, 3)) (ht : (pc : Int) + off = (tgt : Int)) (hx0 : x = 0) (kt : G X k n tgt lv st w) : G X k n pc lv (.int x :: st) w := by
  obtain ⟨Γ, p, e, R, s, m, args, below, meth, c0, nL, n0, Q, qv⟩ := X
  obtain ⟨hx, hb, hml, hown, hts, hK, hE, hsz, hlk, hRf⟩ := h
  intro H locs ls hR hS hl hn
  exact lv_if_eq hx hb hd ht (fun _ => kt H locs ls hR hS hl hn) (fun z => absurd hx0 z)
theorem g_icmp_gtB (h : Ok X cc own d K N) {x y : Int32} {off : Int} {tgt : Nat} (hd : decode cc pc = .ok (.if_icmp .gt off, 3)) (ht : (pc : Int) + off = (tgt : Int)) (kt : y < x → G X k n tgt lv st w) (kf : ¬ y < x → G X k n (pc + 3) lv st w) : G X k n pc lv (.int y :: .int x :: st) w := by
  obtain ⟨Γ, p, e, R, s, m, args, below, meth, c0, nL, n0, Q, qv⟩ := X
  obtain ⟨hx, hb, hml, hown, hts, hK, hE, hsz, hlk, hRf⟩ := h
  intro H locs ls hR hS hl hn
  exact lv_icmp_gt hx hb hd ht (fun z => kt z H locs ls hR hS hl hn) (fun z => kf z H locs ls hR hS hl hn)
theorem g_swB (h : Ok X cc own d K N) {dflt lo hi : Int} {offs : Array Int} {len : Nat} {x : Int32} (v : Int32) {off : Int} {tgt : Nat} (hd : decode cc pc = .ok (.tableswitch dflt lo hi offs, len)) (h1 : ¬ v.toInt < lo ∧ ¬ hi < v.toInt ∧ offs[(v.toInt - lo).toNat]? = some off) (ht : (pc : Int) + off = (tgt : Int)) (kt : G X k n tgt lv st w) (kf : ¬ x = v → G X k n pc lv (.int x :: st) w) : G X k n pc lv (.int x :: st) w := by
  by_cases c : x = v
  · subst c
    exact g_swIn h hd h1.1 h1.2.1 h1.2.2 ht kt
  · exact kf c
/-- the class and the model agree, call for call -/
def Agree {α : Type} (J : Wd → Prop) (f g : Wd → Option (α × Wd)) : Prop := ∀ w, J w → ∃ r w1 w2, f w = some (r, w1) ∧ g w1 = some (r, w2) ∧ J w2
theorem vx {i L : Nat} (h : i + 6 ≤ L) (hL : L ≤ 3072) (j : Nat) (hj : j < 6) {c : Int32} (hc : c = nI j) : vp_in (nI i + c) L := by
  rw [hc, nI_add]
  exact vp_in_nI (by omega) (by omega)
theorem lcmp_self (r : Int64) : lg_cmp r r = 0 := by simp [lg_cmp]
abbrev lawL (b : Nat) (i : Int32) : List (Nat × LV) := [(3, .inl i), (2, .inr (.inl (some 52))), (1, .inr (.inl (some 0))), (0, .inr (.inr (.inr (sref b))))]
theorem cvL_13 : CvOk RL 13 6 yX6_set cX6_set 5 (some .int) 3 := ⟨⟨⟨by decide, by decide, rfl⟩, by decide, wco_X6_set, win_X6⟩, by decide, ⟨_, _, rfl⟩, wml_L_13, wim_X6_set, wse_X6_set⟩
theorem cvL_17 : CvOk RL 17 7 yX7_set cX7_set 5 (some .int) 3 := ⟨⟨⟨by decide, by decide, rfl⟩, by decide, wco_X7_set, win_X7⟩, by decide, ⟨_, _, rfl⟩, wml_L_17, wim_X7_set, wse_X7_set⟩
theorem cvL_18 : CvOk RL 18 6 yX6_walker cX6_walker 4 (some .int) 3 := ⟨⟨⟨by decide, by decide, rfl⟩, by decide, wco_X6_walker, win_X6⟩, by decide, ⟨_, _, rfl⟩, wml_L_18, wim_X6_walker, wse_X6_walker⟩
theorem cvL_21 : CvOk RL 21 7 yX7_walker cX7_walker 4 (some .int) 3 := ⟨⟨⟨by decide, by decide, rfl⟩, by decide, wco_X7_walker, win_X7⟩, by decide, ⟨_, _, rfl⟩, wml_L_21, wim_X7_walker, wse_X7_walker⟩
theorem cvL_22 : CvOk RL 22 6 yX6_told cX6_told 4 (some .int) 2 := ⟨⟨⟨by decide, by decide, rfl⟩, by decide, wco_X6_told, win_X6⟩, by decide, ⟨_, _, rfl⟩, wml_L_22, wim_X6_told, wse_X6_told⟩
theorem cvL_26 : CvOk RL 26 7 yX7_told cX7_told 3 (some .int) 2 := ⟨⟨⟨by decide, by decide, rfl⟩, by decide, wco_X7_told, win_X7⟩, by decide, ⟨_, _, rfl⟩, wml_L_26, wim_X7_told, wse_X7_told⟩
theorem cvL_27 : CvOk RL 27 6 yX6_feed cX6_feed 2 (some .int) 1 := ⟨⟨⟨by decide, by decide, rfl⟩, by decide, wco_X6_feed, win_X6⟩, by decide, ⟨_, _, rfl⟩, wml_L_27, wim_X6_feed, wse_X6_feed⟩
theorem cvL_31 : CvOk RL 31 7 yX7_feed cX7_feed 2 (some .int) 1 := ⟨⟨⟨by decide, by decide, rfl⟩, by decide, wco_X7_feed, win_X7⟩, by decide, ⟨_, _, rfl⟩, wml_L_31, wim_X7_feed, wse_X7_feed⟩
theorem cvL_32 : CvOk RL 32 6 yX6_text cX6_text 2 (some .int) 0 := ⟨⟨⟨by decide, by decide, rfl⟩, by decide, wco_X6_text, win_X6⟩, by decide, ⟨_, _, rfl⟩, wml_L_32, wim_X6_text, wse_X6_text⟩
theorem cvL_36 : CvOk RL 36 7 yX7_text cX7_text 2 (some .int) 0 := ⟨⟨⟨by decide, by decide, rfl⟩, by decide, wco_X7_text, win_X7⟩, by decide, ⟨_, _, rfl⟩, wml_L_36, wim_X7_text, wse_X7_text⟩
theorem cvL_37 : CvOk RL 37 6 yX6_force cX6_force 3 (some .int) 1 := ⟨⟨⟨by decide, by decide, rfl⟩, by decide, wco_X6_force, win_X6⟩, by decide, ⟨_, _, rfl⟩, wml_L_37, wim_X6_force, wse_X6_force⟩
theorem cvL_40 : CvOk RL 40 7 yX7_force cX7_force 3 (some .int) 1 := ⟨⟨⟨by decide, by decide, rfl⟩, by decide, wco_X7_force, win_X7⟩, by decide, ⟨_, _, rfl⟩, wml_L_40, wim_X7_force, wse_X7_force⟩
theorem cvL_41 : CvOk RL 41 6 yX6_day cX6_day 3 (some .int) 0 := ⟨⟨⟨by decide, by decide, rfl⟩, by decide, wco_X6_day, win_X6⟩, by decide, ⟨_, _, rfl⟩, wml_L_41, wim_X6_day, wse_X6_day⟩
theorem cvL_44 : CvOk RL 44 7 yX7_day cX7_day 3 (some .int) 0 := ⟨⟨⟨by decide, by decide, rfl⟩, by decide, wco_X7_day, win_X7⟩, by decide, ⟨_, _, rfl⟩, wml_L_44, wim_X7_day, wse_X7_day⟩
theorem cvL_45 : CvOk RL 45 6 yX6_run cX6_run 5 (some .int) 3 := ⟨⟨⟨by decide, by decide, rfl⟩, by decide, wco_X6_run, win_X6⟩, by decide, ⟨_, _, rfl⟩, wml_L_45, wim_X6_run, wse_X6_run⟩
theorem cvL_48 : CvOk RL 48 7 yX7_run cX7_run 4 (some .int) 3 := ⟨⟨⟨by decide, by decide, rfl⟩, by decide, wco_X7_run, win_X7⟩, by decide, ⟨_, _, rfl⟩, wml_L_48, wim_X7_run, wse_X7_run⟩
theorem cvL_49 : CvOk RL 49 6 yX6_mend cX6_mend 4 (some .int) 1 := ⟨⟨⟨by decide, by decide, rfl⟩, by decide, wco_X6_mend, win_X6⟩, by decide, ⟨_, _, rfl⟩, wml_L_49, wim_X6_mend, wse_X6_mend⟩
theorem cvL_52 : CvOk RL 52 7 yX7_mend cX7_mend 3 (some .int) 1 := ⟨⟨⟨by decide, by decide, rfl⟩, by decide, wco_X7_mend, win_X7⟩, by decide, ⟨_, _, rfl⟩, wml_L_52, wim_X7_mend, wse_X7_mend⟩
theorem cvL_53 : CvOk RL 53 6 yX6_far cX6_far 11 (some .int) 3 := ⟨⟨⟨by decide, by decide, rfl⟩, by decide, wco_X6_far, win_X6⟩, by decide, ⟨_, _, rfl⟩, wml_L_53, wim_X6_far, wse_X6_far⟩
theorem cvL_56 : CvOk RL 56 7 yX7_far cX7_far 8 (some .int) 3 := ⟨⟨⟨by decide, by decide, rfl⟩, by decide, wco_X7_far, win_X7⟩, by decide, ⟨_, _, rfl⟩, wml_L_56, wim_X7_far, wse_X7_far⟩
theorem cvL_57 : CvOk RL 57 6 yX6_least cX6_least 9 (some .int) 3 := ⟨⟨⟨by decide, by decide, rfl⟩, by decide, wco_X6_least, win_X6⟩, by decide, ⟨_, _, rfl⟩, wml_L_57, wim_X6_least, wse_X6_least⟩
theorem cvL_60 : CvOk RL 60 7 yX7_least cX7_least 7 (some .int) 3 := ⟨⟨⟨by decide, by decide, rfl⟩, by decide, wco_X7_least, win_X7⟩, by decide, ⟨_, _, rfl⟩, wml_L_60, wim_X7_least, wse_X7_least⟩
theorem cvL_61 : CvOk RL 61 6 yX6_heaviest cX6_heaviest 6 (some .int) 3 := ⟨⟨⟨by decide, by decide, rfl⟩, by decide, wco_X6_heaviest, win_X6⟩, by decide, ⟨_, _, rfl⟩, wml_L_61, wim_X6_heaviest, wse_X6_heaviest⟩
theorem cvL_64 : CvOk RL 64 7 yX7_heaviest cX7_heaviest 7 (some .int) 3 := ⟨⟨⟨by decide, by decide, rfl⟩, by decide, wco_X7_heaviest, win_X7⟩, by decide, ⟨_, _, rfl⟩, wml_L_64, wim_X7_heaviest, wse_X7_heaviest⟩
theorem cvL_65 : CvOk RL 65 6 yX6_away cX6_away 7 (some .int) 2 := ⟨⟨⟨by decide, by decide, rfl⟩, by decide, wco_X6_away, win_X6⟩, by decide, ⟨_, _, rfl⟩, wml_L_65, wim_X6_away, wse_X6_away⟩
theorem cvL_68 : CvOk RL 68 7 yX7_away cX7_away 5 (some .int) 2 := ⟨⟨⟨by decide, by decide, rfl⟩, by decide, wco_X7_away, win_X7⟩, by decide, ⟨_, _, rfl⟩, wml_L_68, wim_X7_away, wse_X7_away⟩
theorem cvL_69 : CvOk RL 69 6 yX6_keeper cX6_keeper 7 (some .int) 2 := ⟨⟨⟨by decide, by decide, rfl⟩, by decide, wco_X6_keeper, win_X6⟩, by decide, ⟨_, _, rfl⟩, wml_L_69, wim_X6_keeper, wse_X6_keeper⟩
theorem cvL_72 : CvOk RL 72 7 yX7_keeper cX7_keeper 6 (some .int) 2 := ⟨⟨⟨by decide, by decide, rfl⟩, by decide, wco_X7_keeper, win_X7⟩, by decide, ⟨_, _, rfl⟩, wml_L_72, wim_X7_keeper, wse_X7_keeper⟩
theorem cvL_73 : CvOk RL 73 6 yX6_spare cX6_spare 7 (some .int) 2 := ⟨⟨⟨by decide, by decide, rfl⟩, by decide, wco_X6_spare, win_X6⟩, by decide, ⟨_, _, rfl⟩, wml_L_73, wim_X6_spare, wse_X6_spare⟩
theorem cvL_76 : CvOk RL 76 7 yX7_spare cX7_spare 7 (some .int) 2 := ⟨⟨⟨by decide, by decide, rfl⟩, by decide, wco_X7_spare, win_X7⟩, by decide, ⟨_, _, rfl⟩, wml_L_76, wim_X7_spare, wse_X7_spare⟩
theorem cvL_77 : CvOk RL 77 6 yX6_tells cX6_tells 6 (some .int) 3 := ⟨⟨⟨by decide, by decide, rfl⟩, by decide, wco_X6_tells, win_X6⟩, by decide, ⟨_, _, rfl⟩, wml_L_77, wim_X6_tells, wse_X6_tells⟩
theorem cvL_80 : CvOk RL 80 7 yX7_tells cX7_tells 12 (some .int) 3 := ⟨⟨⟨by decide, by decide, rfl⟩, by decide, wco_X7_tells, win_X7⟩, by decide, ⟨_, _, rfl⟩, wml_L_80, wim_X7_tells, wse_X7_tells⟩
theorem cvL_81 : CvOk RL 81 6 yX6_film cX6_film 7 (some .int) 3 := ⟨⟨⟨by decide, by decide, rfl⟩, by decide, wco_X6_film, win_X6⟩, by decide, ⟨_, _, rfl⟩, wml_L_81, wim_X6_film, wse_X6_film⟩
theorem cvL_84 : CvOk RL 84 7 yX7_film cX7_film 5 (some .int) 3 := ⟨⟨⟨by decide, by decide, rfl⟩, by decide, wco_X7_film, win_X7⟩, by decide, ⟨_, _, rfl⟩, wml_L_84, wim_X7_film, wse_X7_film⟩
theorem cvL_85 : CvOk RL 85 6 yX6_drawn cX6_drawn 3 (some .int) 2 := ⟨⟨⟨by decide, by decide, rfl⟩, by decide, wco_X6_drawn, win_X6⟩, by decide, ⟨_, _, rfl⟩, wml_L_85, wim_X6_drawn, wse_X6_drawn⟩
theorem cvL_88 : CvOk RL 88 7 yX7_drawn cX7_drawn 4 (some .int) 2 := ⟨⟨⟨by decide, by decide, rfl⟩, by decide, wco_X7_drawn, win_X7⟩, by decide, ⟨_, _, rfl⟩, wml_L_88, wim_X7_drawn, wse_X7_drawn⟩
theorem cvL_89 : CvOk RL 89 6 yX6_chance cX6_chance 6 (some .long) 3 := ⟨⟨⟨by decide, by decide, rfl⟩, by decide, wco_X6_chance, win_X6⟩, by decide, ⟨_, _, rfl⟩, wml_L_89, wim_X6_chance, wse_X6_chance⟩
theorem cvL_93 : CvOk RL 93 7 yX7_chance cX7_chance 12 (some .long) 3 := ⟨⟨⟨by decide, by decide, rfl⟩, by decide, wco_X7_chance, win_X7⟩, by decide, ⟨_, _, rfl⟩, wml_L_93, wim_X7_chance, wse_X7_chance⟩
theorem cvL_94 : CvOk RL 94 6 yX6_image cX6_image 2 (some .int) 0 := ⟨⟨⟨by decide, by decide, rfl⟩, by decide, wco_X6_image, win_X6⟩, by decide, ⟨_, _, rfl⟩, wml_L_94, wim_X6_image, wse_X6_image⟩
theorem cvL_97 : CvOk RL 97 7 yX7_image cX7_image 2 (some .int) 0 := ⟨⟨⟨by decide, by decide, rfl⟩, by decide, wco_X7_image, win_X7⟩, by decide, ⟨_, _, rfl⟩, wml_L_97, wim_X7_image, wse_X7_image⟩
theorem cvL_98 : CvOk RL 98 6 yX6_back cX6_back 2 (some .int) 0 := ⟨⟨⟨by decide, by decide, rfl⟩, by decide, wco_X6_back, win_X6⟩, by decide, ⟨_, _, rfl⟩, wml_L_98, wim_X6_back, wse_X6_back⟩
theorem cvL_101 : CvOk RL 101 7 yX7_back cX7_back 2 (some .int) 0 := ⟨⟨⟨by decide, by decide, rfl⟩, by decide, wco_X7_back, win_X7⟩, by decide, ⟨_, _, rfl⟩, wml_L_101, wim_X7_back, wse_X7_back⟩
theorem cvL_102 : CvOk RL 102 6 yX6_count cX6_count 2 (some .int) 1 := ⟨⟨⟨by decide, by decide, rfl⟩, by decide, wco_X6_count, win_X6⟩, by decide, ⟨_, _, rfl⟩, wml_L_102, wim_X6_count, wse_X6_count⟩
theorem cvL_105 : CvOk RL 105 7 yX7_count cX7_count 4 (some .int) 1 := ⟨⟨⟨by decide, by decide, rfl⟩, by decide, wco_X7_count, win_X7⟩, by decide, ⟨_, _, rfl⟩, wml_L_105, wim_X7_count, wse_X7_count⟩
theorem cvL_106 : CvOk RL 106 6 yX6_sheet cX6_sheet 5 (some .int) 3 := ⟨⟨⟨by decide, by decide, rfl⟩, by decide, wco_X6_sheet, win_X6⟩, by decide, ⟨_, _, rfl⟩, wml_L_106, wim_X6_sheet, wse_X6_sheet⟩
theorem cvL_109 : CvOk RL 109 7 yX7_sheet cX7_sheet 5 (some .int) 3 := ⟨⟨⟨by decide, by decide, rfl⟩, by decide, wco_X7_sheet, win_X7⟩, by decide, ⟨_, _, rfl⟩, wml_L_109, wim_X7_sheet, wse_X7_sheet⟩
theorem cvL_110 : CvOk RL 110 6 yX6_cell cX6_cell 5 (some .int) 3 := ⟨⟨⟨by decide, by decide, rfl⟩, by decide, wco_X6_cell, win_X6⟩, by decide, ⟨_, _, rfl⟩, wml_L_110, wim_X6_cell, wse_X6_cell⟩
theorem cvL_113 : CvOk RL 113 7 yX7_cell cX7_cell 4 (some .int) 3 := ⟨⟨⟨by decide, by decide, rfl⟩, by decide, wco_X7_cell, win_X7⟩, by decide, ⟨_, _, rfl⟩, wml_L_113, wim_X7_cell, wse_X7_cell⟩
theorem cvL_114 : CvOk RL 114 6 yX6_copy cX6_copy 8 (some .int) 5 := ⟨⟨⟨by decide, by decide, rfl⟩, by decide, wco_X6_copy, win_X6⟩, by decide, ⟨_, _, rfl⟩, wml_L_114, wim_X6_copy, wse_X6_copy⟩
theorem cvL_118 : CvOk RL 118 7 yX7_copy cX7_copy 9 (some .int) 5 := ⟨⟨⟨by decide, by decide, rfl⟩, by decide, wco_X7_copy, win_X7⟩, by decide, ⟨_, _, rfl⟩, wml_L_118, wim_X7_copy, wse_X7_copy⟩
theorem cvL_119 : CvOk RL 119 6 yX6_walkers cX6_walkers 9 (some .int) 4 := ⟨⟨⟨by decide, by decide, rfl⟩, by decide, wco_X6_walkers, win_X6⟩, by decide, ⟨_, _, rfl⟩, wml_L_119, wim_X6_walkers, wse_X6_walkers⟩
theorem cvL_123 : CvOk RL 123 7 yX7_walkers cX7_walkers 8 (some .int) 4 := ⟨⟨⟨by decide, by decide, rfl⟩, by decide, wco_X7_walkers, win_X7⟩, by decide, ⟨_, _, rfl⟩, wml_L_123, wim_X7_walkers, wse_X7_walkers⟩
theorem cvL_124 : CvOk RL 124 6 yX6_taken cX6_taken 4 (some .int) 2 := ⟨⟨⟨by decide, by decide, rfl⟩, by decide, wco_X6_taken, win_X6⟩, by decide, ⟨_, _, rfl⟩, wml_L_124, wim_X6_taken, wse_X6_taken⟩
theorem cvL_127 : CvOk RL 127 7 yX7_taken cX7_taken 4 (some .int) 2 := ⟨⟨⟨by decide, by decide, rfl⟩, by decide, wco_X7_taken, win_X7⟩, by decide, ⟨_, _, rfl⟩, wml_L_127, wim_X7_taken, wse_X7_taken⟩
set_option maxHeartbeats 4000000 in
theorem law_set (h : Ok X cL_law RL 1000 600000 7302249) (hX0 : n0X X = 0) {b L : Nat} {xs : Nat → Int32} (hX : SX X b L xs) {J : Wd → Prop} (ag : ∀ a0 a1 a2 : Int32, Agree J (fX6_set 0 a0 a1 a2) (fX7_set 52 a0 a1 a2)) {i : Nat} (hi : i + 6 ≤ L) (hL : L ≤ 3072) (hw : J w) (kk : ∀ w2, J w2 → G X 66 3747 1088 (lawL b (nI i)) [] w2) : G X 66 3747 156 (lawL b (nI i)) [] w := by
  obtain ⟨r, w1, w2, e1, e2, hw2⟩ := ag (xs (nI i + (1 : Int32)).toNatClampNeg) (xs (nI i + (2 : Int32)).toNatClampNeg) (xs (nI i + (3 : Int32)).toNatClampNeg) w hw
  refine g_aload_n (pc := 156) h 2 rfl dL_law_156 ?_
  refine g_saload_n (pc := 157) h 3 rfl dL_law_157 ?_
  refine g_iload_n (pc := 158) h 0 rfl dL_law_158 ?_
  refine g_iconst (pc := 159) (v := (1 : Int32)) h dL_law_159 (by decide) ?_
  refine g_iadd (pc := 160) h dL_law_160 ?_
  refine g_xld (pc := 161) h hX (vx hi hL 1 (by decide) (by decide)) dL_law_161 ?_
  refine g_saload_n (pc := 162) h 3 rfl dL_law_162 ?_
  refine g_iload_n (pc := 163) h 0 rfl dL_law_163 ?_
  refine g_iconst (pc := 164) (v := (2 : Int32)) h dL_law_164 (by decide) ?_
  refine g_iadd (pc := 165) h dL_law_165 ?_
  refine g_xld (pc := 166) h hX (vx hi hL 2 (by decide) (by decide)) dL_law_166 ?_
  refine g_saload_n (pc := 167) h 3 rfl dL_law_167 ?_
  refine g_iload_n (pc := 168) h 0 rfl dL_law_168 ?_
  refine g_iconst (pc := 169) (v := (3 : Int32)) h dL_law_169 (by decide) ?_
  refine g_iadd (pc := 170) h dL_law_170 ?_
  refine g_xld (pc := 171) h hX (vx hi hL 3 (by decide) (by decide)) dL_law_171 ?_
  refine g_kvI (pc := 172) (st := []) h mX6_set cvL_13 ⟨by rw [hX0]; decide, rfl⟩ (by decide) ⟨by decide, by decide⟩ (Nat.le_of_ble_eq_true rfl) rfl rfl dL_law_172 e1 ?_
  refine g_aload_n (pc := 175) h 1 rfl dL_law_175 ?_
  refine g_saload_n (pc := 176) h 3 rfl dL_law_176 ?_
  refine g_iload_n (pc := 177) h 0 rfl dL_law_177 ?_
  refine g_iconst (pc := 178) (v := (1 : Int32)) h dL_law_178 (by decide) ?_
  refine g_iadd (pc := 179) h dL_law_179 ?_
  refine g_xld (pc := 180) h hX (vx hi hL 1 (by decide) (by decide)) dL_law_180 ?_
  refine g_saload_n (pc := 181) h 3 rfl dL_law_181 ?_
  refine g_iload_n (pc := 182) h 0 rfl dL_law_182 ?_
  refine g_iconst (pc := 183) (v := (2 : Int32)) h dL_law_183 (by decide) ?_
  refine g_iadd (pc := 184) h dL_law_184 ?_
  refine g_xld (pc := 185) h hX (vx hi hL 2 (by decide) (by decide)) dL_law_185 ?_
  refine g_saload_n (pc := 186) h 3 rfl dL_law_186 ?_
  refine g_iload_n (pc := 187) h 0 rfl dL_law_187 ?_
  refine g_iconst (pc := 188) (v := (3 : Int32)) h dL_law_188 (by decide) ?_
  refine g_iadd (pc := 189) h dL_law_189 ?_
  refine g_xld (pc := 190) h hX (vx hi hL 3 (by decide) (by decide)) dL_law_190 ?_
  refine g_kvI (pc := 191) (st := [.int r]) h mX7_set cvL_17 ⟨by rw [hX0]; decide, rfl⟩ (by decide) ⟨by decide, by decide⟩ (Nat.le_of_ble_eq_true rfl) rfl rfl dL_law_191 e2 ?_
  refine g_icmp_eqT (pc := 194) (tgt := 1088) h dL_law_194 (by decide) ?_
  exact kk w2 hw2
set_option maxHeartbeats 4000000 in
theorem law_walker (h : Ok X cL_law RL 1000 600000 7302249) (hX0 : n0X X = 0) {b L : Nat} {xs : Nat → Int32} (hX : SX X b L xs) {J : Wd → Prop} (ag : ∀ a0 a1 a2 : Int32, Agree J (fX6_walker 0 a0 a1 a2) (fX7_walker 52 a0 a1 a2)) {i : Nat} (hi : i + 6 ≤ L) (hL : L ≤ 3072) (hw : J w) (kk : ∀ w2, J w2 → G X 66 3747 1088 (lawL b (nI i)) [] w2) : G X 66 3747 199 (lawL b (nI i)) [] w := by
  obtain ⟨r, w1, w2, e1, e2, hw2⟩ := ag (xs (nI i + (1 : Int32)).toNatClampNeg) (xs (nI i + (2 : Int32)).toNatClampNeg) (xs (nI i + (3 : Int32)).toNatClampNeg) w hw
  refine g_aload_n (pc := 199) h 2 rfl dL_law_199 ?_
  refine g_saload_n (pc := 200) h 3 rfl dL_law_200 ?_
  refine g_iload_n (pc := 201) h 0 rfl dL_law_201 ?_
  refine g_iconst (pc := 202) (v := (1 : Int32)) h dL_law_202 (by decide) ?_
  refine g_iadd (pc := 203) h dL_law_203 ?_
  refine g_xld (pc := 204) h hX (vx hi hL 1 (by decide) (by decide)) dL_law_204 ?_
  refine g_saload_n (pc := 205) h 3 rfl dL_law_205 ?_
  refine g_iload_n (pc := 206) h 0 rfl dL_law_206 ?_
  refine g_iconst (pc := 207) (v := (2 : Int32)) h dL_law_207 (by decide) ?_
  refine g_iadd (pc := 208) h dL_law_208 ?_
  refine g_xld (pc := 209) h hX (vx hi hL 2 (by decide) (by decide)) dL_law_209 ?_
  refine g_saload_n (pc := 210) h 3 rfl dL_law_210 ?_
  refine g_iload_n (pc := 211) h 0 rfl dL_law_211 ?_
  refine g_iconst (pc := 212) (v := (3 : Int32)) h dL_law_212 (by decide) ?_
  refine g_iadd (pc := 213) h dL_law_213 ?_
  refine g_xld (pc := 214) h hX (vx hi hL 3 (by decide) (by decide)) dL_law_214 ?_
  refine g_kvI (pc := 215) (st := []) h mX6_walker cvL_18 ⟨by rw [hX0]; decide, rfl⟩ (by decide) ⟨by decide, by decide⟩ (Nat.le_of_ble_eq_true rfl) rfl rfl dL_law_215 e1 ?_
  refine g_aload_n (pc := 218) h 1 rfl dL_law_218 ?_
  refine g_saload_n (pc := 219) h 3 rfl dL_law_219 ?_
  refine g_iload_n (pc := 220) h 0 rfl dL_law_220 ?_
  refine g_iconst (pc := 221) (v := (1 : Int32)) h dL_law_221 (by decide) ?_
  refine g_iadd (pc := 222) h dL_law_222 ?_
  refine g_xld (pc := 223) h hX (vx hi hL 1 (by decide) (by decide)) dL_law_223 ?_
  refine g_saload_n (pc := 224) h 3 rfl dL_law_224 ?_
  refine g_iload_n (pc := 225) h 0 rfl dL_law_225 ?_
  refine g_iconst (pc := 226) (v := (2 : Int32)) h dL_law_226 (by decide) ?_
  refine g_iadd (pc := 227) h dL_law_227 ?_
  refine g_xld (pc := 228) h hX (vx hi hL 2 (by decide) (by decide)) dL_law_228 ?_
  refine g_saload_n (pc := 229) h 3 rfl dL_law_229 ?_
  refine g_iload_n (pc := 230) h 0 rfl dL_law_230 ?_
  refine g_iconst (pc := 231) (v := (3 : Int32)) h dL_law_231 (by decide) ?_
  refine g_iadd (pc := 232) h dL_law_232 ?_
  refine g_xld (pc := 233) h hX (vx hi hL 3 (by decide) (by decide)) dL_law_233 ?_
  refine g_kvI (pc := 234) (st := [.int r]) h mX7_walker cvL_21 ⟨by rw [hX0]; decide, rfl⟩ (by decide) ⟨by decide, by decide⟩ (Nat.le_of_ble_eq_true rfl) rfl rfl dL_law_234 e2 ?_
  refine g_icmp_eqT (pc := 237) (tgt := 1088) h dL_law_237 (by decide) ?_
  exact kk w2 hw2
set_option maxHeartbeats 4000000 in
theorem law_told (h : Ok X cL_law RL 1000 600000 7302249) (hX0 : n0X X = 0) {b L : Nat} {xs : Nat → Int32} (hX : SX X b L xs) {J : Wd → Prop} (ag : ∀ a0 a1 : Int32, Agree J (fX6_told 0 a0 a1) (fX7_told 52 a0 a1)) {i : Nat} (hi : i + 6 ≤ L) (hL : L ≤ 3072) (hw : J w) (kk : ∀ w2, J w2 → G X 66 3747 1088 (lawL b (nI i)) [] w2) : G X 66 3747 242 (lawL b (nI i)) [] w := by
  obtain ⟨r, w1, w2, e1, e2, hw2⟩ := ag (xs (nI i + (1 : Int32)).toNatClampNeg) (xs (nI i + (2 : Int32)).toNatClampNeg) w hw
  refine g_aload_n (pc := 242) h 2 rfl dL_law_242 ?_
  refine g_saload_n (pc := 243) h 3 rfl dL_law_243 ?_
  refine g_iload_n (pc := 244) h 0 rfl dL_law_244 ?_
  refine g_iconst (pc := 245) (v := (1 : Int32)) h dL_law_245 (by decide) ?_
  refine g_iadd (pc := 246) h dL_law_246 ?_
  refine g_xld (pc := 247) h hX (vx hi hL 1 (by decide) (by decide)) dL_law_247 ?_
  refine g_saload_n (pc := 248) h 3 rfl dL_law_248 ?_
  refine g_iload_n (pc := 249) h 0 rfl dL_law_249 ?_
  refine g_iconst (pc := 250) (v := (2 : Int32)) h dL_law_250 (by decide) ?_
  refine g_iadd (pc := 251) h dL_law_251 ?_
  refine g_xld (pc := 252) h hX (vx hi hL 2 (by decide) (by decide)) dL_law_252 ?_
  refine g_kvI (pc := 253) (st := []) h mX6_told cvL_22 ⟨by rw [hX0]; decide, rfl⟩ (by decide) ⟨by decide, by decide⟩ (Nat.le_of_ble_eq_true rfl) rfl rfl dL_law_253 e1 ?_
  refine g_aload_n (pc := 256) h 1 rfl dL_law_256 ?_
  refine g_saload_n (pc := 257) h 3 rfl dL_law_257 ?_
  refine g_iload_n (pc := 258) h 0 rfl dL_law_258 ?_
  refine g_iconst (pc := 259) (v := (1 : Int32)) h dL_law_259 (by decide) ?_
  refine g_iadd (pc := 260) h dL_law_260 ?_
  refine g_xld (pc := 261) h hX (vx hi hL 1 (by decide) (by decide)) dL_law_261 ?_
  refine g_saload_n (pc := 262) h 3 rfl dL_law_262 ?_
  refine g_iload_n (pc := 263) h 0 rfl dL_law_263 ?_
  refine g_iconst (pc := 264) (v := (2 : Int32)) h dL_law_264 (by decide) ?_
  refine g_iadd (pc := 265) h dL_law_265 ?_
  refine g_xld (pc := 266) h hX (vx hi hL 2 (by decide) (by decide)) dL_law_266 ?_
  refine g_kvI (pc := 267) (st := [.int r]) h mX7_told cvL_26 ⟨by rw [hX0]; decide, rfl⟩ (by decide) ⟨by decide, by decide⟩ (Nat.le_of_ble_eq_true rfl) rfl rfl dL_law_267 e2 ?_
  refine g_icmp_eqT (pc := 270) (tgt := 1088) h dL_law_270 (by decide) ?_
  exact kk w2 hw2
set_option maxHeartbeats 4000000 in
theorem law_feed (h : Ok X cL_law RL 1000 600000 7302249) (hX0 : n0X X = 0) {b L : Nat} {xs : Nat → Int32} (hX : SX X b L xs) {J : Wd → Prop} (ag : ∀ a0 : Int32, Agree J (fX6_feed 0 a0) (fX7_feed 52 a0)) {i : Nat} (hi : i + 6 ≤ L) (hL : L ≤ 3072) (hw : J w) (kk : ∀ w2, J w2 → G X 66 3747 1088 (lawL b (nI i)) [] w2) : G X 66 3747 275 (lawL b (nI i)) [] w := by
  obtain ⟨r, w1, w2, e1, e2, hw2⟩ := ag (xs (nI i + (1 : Int32)).toNatClampNeg) w hw
  refine g_aload_n (pc := 275) h 2 rfl dL_law_275 ?_
  refine g_saload_n (pc := 276) h 3 rfl dL_law_276 ?_
  refine g_iload_n (pc := 277) h 0 rfl dL_law_277 ?_
  refine g_iconst (pc := 278) (v := (1 : Int32)) h dL_law_278 (by decide) ?_
  refine g_iadd (pc := 279) h dL_law_279 ?_
  refine g_xld (pc := 280) h hX (vx hi hL 1 (by decide) (by decide)) dL_law_280 ?_
  refine g_kvI (pc := 281) (st := []) h mX6_feed cvL_27 ⟨by rw [hX0]; decide, rfl⟩ (by decide) ⟨by decide, by decide⟩ (Nat.le_of_ble_eq_true rfl) rfl rfl dL_law_281 e1 ?_
  refine g_aload_n (pc := 284) h 1 rfl dL_law_284 ?_
  refine g_saload_n (pc := 285) h 3 rfl dL_law_285 ?_
  refine g_iload_n (pc := 286) h 0 rfl dL_law_286 ?_
  refine g_iconst (pc := 287) (v := (1 : Int32)) h dL_law_287 (by decide) ?_
  refine g_iadd (pc := 288) h dL_law_288 ?_
  refine g_xld (pc := 289) h hX (vx hi hL 1 (by decide) (by decide)) dL_law_289 ?_
  refine g_kvI (pc := 290) (st := [.int r]) h mX7_feed cvL_31 ⟨by rw [hX0]; decide, rfl⟩ (by decide) ⟨by decide, by decide⟩ (Nat.le_of_ble_eq_true rfl) rfl rfl dL_law_290 e2 ?_
  refine g_icmp_eqT (pc := 293) (tgt := 1088) h dL_law_293 (by decide) ?_
  exact kk w2 hw2
set_option maxHeartbeats 4000000 in
theorem law_text (h : Ok X cL_law RL 1000 600000 7302249) (hX0 : n0X X = 0) {b L : Nat} {xs : Nat → Int32} (hX : SX X b L xs) {J : Wd → Prop} (ag : Agree J (fX6_text 0) (fX7_text 52)) {i : Nat} (hi : i + 6 ≤ L) (hL : L ≤ 3072) (hw : J w) (kk : ∀ w2, J w2 → G X 66 3747 1088 (lawL b (nI i)) [] w2) : G X 66 3747 298 (lawL b (nI i)) [] w := by
  obtain ⟨r, w1, w2, e1, e2, hw2⟩ := ag w hw
  refine g_aload_n (pc := 298) h 2 rfl dL_law_298 ?_
  refine g_kvI (pc := 299) (st := []) h mX6_text cvL_32 ⟨by rw [hX0]; decide, rfl⟩ (by decide) ⟨by decide, by decide⟩ (Nat.le_of_ble_eq_true rfl) rfl rfl dL_law_299 e1 ?_
  refine g_aload_n (pc := 302) h 1 rfl dL_law_302 ?_
  refine g_kvI (pc := 303) (st := [.int r]) h mX7_text cvL_36 ⟨by rw [hX0]; decide, rfl⟩ (by decide) ⟨by decide, by decide⟩ (Nat.le_of_ble_eq_true rfl) rfl rfl dL_law_303 e2 ?_
  refine g_icmp_eqT (pc := 306) (tgt := 1088) h dL_law_306 (by decide) ?_
  exact kk w2 hw2
set_option maxHeartbeats 4000000 in
theorem law_force (h : Ok X cL_law RL 1000 600000 7302249) (hX0 : n0X X = 0) {b L : Nat} {xs : Nat → Int32} (hX : SX X b L xs) {J : Wd → Prop} (ag : ∀ a0 : Int32, Agree J (fX6_force 0 a0) (fX7_force 52 a0)) {i : Nat} (hi : i + 6 ≤ L) (hL : L ≤ 3072) (hw : J w) (kk : ∀ w2, J w2 → G X 66 3747 1088 (lawL b (nI i)) [] w2) : G X 66 3747 311 (lawL b (nI i)) [] w := by
  obtain ⟨r, w1, w2, e1, e2, hw2⟩ := ag (xs (nI i + (1 : Int32)).toNatClampNeg) w hw
  refine g_aload_n (pc := 311) h 2 rfl dL_law_311 ?_
  refine g_saload_n (pc := 312) h 3 rfl dL_law_312 ?_
  refine g_iload_n (pc := 313) h 0 rfl dL_law_313 ?_
  refine g_iconst (pc := 314) (v := (1 : Int32)) h dL_law_314 (by decide) ?_
  refine g_iadd (pc := 315) h dL_law_315 ?_
  refine g_xld (pc := 316) h hX (vx hi hL 1 (by decide) (by decide)) dL_law_316 ?_
  refine g_kvI (pc := 317) (st := []) h mX6_force cvL_37 ⟨by rw [hX0]; decide, rfl⟩ (by decide) ⟨by decide, by decide⟩ (Nat.le_of_ble_eq_true rfl) rfl rfl dL_law_317 e1 ?_
  refine g_aload_n (pc := 320) h 1 rfl dL_law_320 ?_
  refine g_saload_n (pc := 321) h 3 rfl dL_law_321 ?_
  refine g_iload_n (pc := 322) h 0 rfl dL_law_322 ?_
  refine g_iconst (pc := 323) (v := (1 : Int32)) h dL_law_323 (by decide) ?_
  refine g_iadd (pc := 324) h dL_law_324 ?_
  refine g_xld (pc := 325) h hX (vx hi hL 1 (by decide) (by decide)) dL_law_325 ?_
  refine g_kvI (pc := 326) (st := [.int r]) h mX7_force cvL_40 ⟨by rw [hX0]; decide, rfl⟩ (by decide) ⟨by decide, by decide⟩ (Nat.le_of_ble_eq_true rfl) rfl rfl dL_law_326 e2 ?_
  refine g_icmp_eqT (pc := 329) (tgt := 1088) h dL_law_329 (by decide) ?_
  exact kk w2 hw2
set_option maxHeartbeats 4000000 in
theorem law_day (h : Ok X cL_law RL 1000 600000 7302249) (hX0 : n0X X = 0) {b L : Nat} {xs : Nat → Int32} (hX : SX X b L xs) {J : Wd → Prop} (ag : Agree J (fX6_day 0) (fX7_day 52)) {i : Nat} (hi : i + 6 ≤ L) (hL : L ≤ 3072) (hw : J w) (kk : ∀ w2, J w2 → G X 66 3747 1088 (lawL b (nI i)) [] w2) : G X 66 3747 334 (lawL b (nI i)) [] w := by
  obtain ⟨r, w1, w2, e1, e2, hw2⟩ := ag w hw
  refine g_aload_n (pc := 334) h 2 rfl dL_law_334 ?_
  refine g_kvI (pc := 335) (st := []) h mX6_day cvL_41 ⟨by rw [hX0]; decide, rfl⟩ (by decide) ⟨by decide, by decide⟩ (Nat.le_of_ble_eq_true rfl) rfl rfl dL_law_335 e1 ?_
  refine g_aload_n (pc := 338) h 1 rfl dL_law_338 ?_
  refine g_kvI (pc := 339) (st := [.int r]) h mX7_day cvL_44 ⟨by rw [hX0]; decide, rfl⟩ (by decide) ⟨by decide, by decide⟩ (Nat.le_of_ble_eq_true rfl) rfl rfl dL_law_339 e2 ?_
  refine g_icmp_eqT (pc := 342) (tgt := 1088) h dL_law_342 (by decide) ?_
  exact kk w2 hw2
set_option maxHeartbeats 4000000 in
theorem law_run (h : Ok X cL_law RL 1000 600000 7302249) (hX0 : n0X X = 0) {b L : Nat} {xs : Nat → Int32} (hX : SX X b L xs) {J : Wd → Prop} (ag : ∀ a0 a1 a2 : Int32, Agree J (fX6_run 0 a0 a1 a2) (fX7_run 52 a0 a1 a2)) {i : Nat} (hi : i + 6 ≤ L) (hL : L ≤ 3072) (hw : J w) (kk : ∀ w2, J w2 → G X 66 3747 1088 (lawL b (nI i)) [] w2) : G X 66 3747 347 (lawL b (nI i)) [] w := by
  obtain ⟨r, w1, w2, e1, e2, hw2⟩ := ag (xs (nI i + (1 : Int32)).toNatClampNeg) (xs (nI i + (2 : Int32)).toNatClampNeg) (xs (nI i + (3 : Int32)).toNatClampNeg) w hw
  refine g_aload_n (pc := 347) h 2 rfl dL_law_347 ?_
  refine g_saload_n (pc := 348) h 3 rfl dL_law_348 ?_
  refine g_iload_n (pc := 349) h 0 rfl dL_law_349 ?_
  refine g_iconst (pc := 350) (v := (1 : Int32)) h dL_law_350 (by decide) ?_
  refine g_iadd (pc := 351) h dL_law_351 ?_
  refine g_xld (pc := 352) h hX (vx hi hL 1 (by decide) (by decide)) dL_law_352 ?_
  refine g_saload_n (pc := 353) h 3 rfl dL_law_353 ?_
  refine g_iload_n (pc := 354) h 0 rfl dL_law_354 ?_
  refine g_iconst (pc := 355) (v := (2 : Int32)) h dL_law_355 (by decide) ?_
  refine g_iadd (pc := 356) h dL_law_356 ?_
  refine g_xld (pc := 357) h hX (vx hi hL 2 (by decide) (by decide)) dL_law_357 ?_
  refine g_saload_n (pc := 358) h 3 rfl dL_law_358 ?_
  refine g_iload_n (pc := 359) h 0 rfl dL_law_359 ?_
  refine g_iconst (pc := 360) (v := (3 : Int32)) h dL_law_360 (by decide) ?_
  refine g_iadd (pc := 361) h dL_law_361 ?_
  refine g_xld (pc := 362) h hX (vx hi hL 3 (by decide) (by decide)) dL_law_362 ?_
  refine g_kvI (pc := 363) (st := []) h mX6_run cvL_45 ⟨by rw [hX0]; decide, rfl⟩ (by decide) ⟨by decide, by decide⟩ (Nat.le_of_ble_eq_true rfl) rfl rfl dL_law_363 e1 ?_
  refine g_aload_n (pc := 366) h 1 rfl dL_law_366 ?_
  refine g_saload_n (pc := 367) h 3 rfl dL_law_367 ?_
  refine g_iload_n (pc := 368) h 0 rfl dL_law_368 ?_
  refine g_iconst (pc := 369) (v := (1 : Int32)) h dL_law_369 (by decide) ?_
  refine g_iadd (pc := 370) h dL_law_370 ?_
  refine g_xld (pc := 371) h hX (vx hi hL 1 (by decide) (by decide)) dL_law_371 ?_
  refine g_saload_n (pc := 372) h 3 rfl dL_law_372 ?_
  refine g_iload_n (pc := 373) h 0 rfl dL_law_373 ?_
  refine g_iconst (pc := 374) (v := (2 : Int32)) h dL_law_374 (by decide) ?_
  refine g_iadd (pc := 375) h dL_law_375 ?_
  refine g_xld (pc := 376) h hX (vx hi hL 2 (by decide) (by decide)) dL_law_376 ?_
  refine g_saload_n (pc := 377) h 3 rfl dL_law_377 ?_
  refine g_iload_n (pc := 378) h 0 rfl dL_law_378 ?_
  refine g_iconst (pc := 379) (v := (3 : Int32)) h dL_law_379 (by decide) ?_
  refine g_iadd (pc := 380) h dL_law_380 ?_
  refine g_xld (pc := 381) h hX (vx hi hL 3 (by decide) (by decide)) dL_law_381 ?_
  refine g_kvI (pc := 382) (st := [.int r]) h mX7_run cvL_48 ⟨by rw [hX0]; decide, rfl⟩ (by decide) ⟨by decide, by decide⟩ (Nat.le_of_ble_eq_true rfl) rfl rfl dL_law_382 e2 ?_
  refine g_icmp_eqT (pc := 385) (tgt := 1088) h dL_law_385 (by decide) ?_
  exact kk w2 hw2
set_option maxHeartbeats 4000000 in
theorem law_mend (h : Ok X cL_law RL 1000 600000 7302249) (hX0 : n0X X = 0) {b L : Nat} {xs : Nat → Int32} (hX : SX X b L xs) {J : Wd → Prop} (ag : ∀ a0 : Int32, Agree J (fX6_mend 0 a0) (fX7_mend 52 a0)) {i : Nat} (hi : i + 6 ≤ L) (hL : L ≤ 3072) (hw : J w) (kk : ∀ w2, J w2 → G X 66 3747 1088 (lawL b (nI i)) [] w2) : G X 66 3747 390 (lawL b (nI i)) [] w := by
  obtain ⟨r, w1, w2, e1, e2, hw2⟩ := ag (xs (nI i + (1 : Int32)).toNatClampNeg) w hw
  refine g_aload_n (pc := 390) h 2 rfl dL_law_390 ?_
  refine g_saload_n (pc := 391) h 3 rfl dL_law_391 ?_
  refine g_iload_n (pc := 392) h 0 rfl dL_law_392 ?_
  refine g_iconst (pc := 393) (v := (1 : Int32)) h dL_law_393 (by decide) ?_
  refine g_iadd (pc := 394) h dL_law_394 ?_
  refine g_xld (pc := 395) h hX (vx hi hL 1 (by decide) (by decide)) dL_law_395 ?_
  refine g_kvI (pc := 396) (st := []) h mX6_mend cvL_49 ⟨by rw [hX0]; decide, rfl⟩ (by decide) ⟨by decide, by decide⟩ (Nat.le_of_ble_eq_true rfl) rfl rfl dL_law_396 e1 ?_
  refine g_aload_n (pc := 399) h 1 rfl dL_law_399 ?_
  refine g_saload_n (pc := 400) h 3 rfl dL_law_400 ?_
  refine g_iload_n (pc := 401) h 0 rfl dL_law_401 ?_
  refine g_iconst (pc := 402) (v := (1 : Int32)) h dL_law_402 (by decide) ?_
  refine g_iadd (pc := 403) h dL_law_403 ?_
  refine g_xld (pc := 404) h hX (vx hi hL 1 (by decide) (by decide)) dL_law_404 ?_
  refine g_kvI (pc := 405) (st := [.int r]) h mX7_mend cvL_52 ⟨by rw [hX0]; decide, rfl⟩ (by decide) ⟨by decide, by decide⟩ (Nat.le_of_ble_eq_true rfl) rfl rfl dL_law_405 e2 ?_
  refine g_icmp_eqT (pc := 408) (tgt := 1088) h dL_law_408 (by decide) ?_
  exact kk w2 hw2
set_option maxHeartbeats 4000000 in
theorem law_far (h : Ok X cL_law RL 1000 600000 7302249) (hX0 : n0X X = 0) {b L : Nat} {xs : Nat → Int32} (hX : SX X b L xs) {J : Wd → Prop} (ag : ∀ a0 a1 a2 : Int32, Agree J (fX6_far 0 a0 a1 a2) (fX7_far 52 a0 a1 a2)) {i : Nat} (hi : i + 6 ≤ L) (hL : L ≤ 3072) (hw : J w) (kk : ∀ w2, J w2 → G X 66 3747 1088 (lawL b (nI i)) [] w2) : G X 66 3747 413 (lawL b (nI i)) [] w := by
  obtain ⟨r, w1, w2, e1, e2, hw2⟩ := ag (xs (nI i + (1 : Int32)).toNatClampNeg) (xs (nI i + (2 : Int32)).toNatClampNeg) (xs (nI i + (3 : Int32)).toNatClampNeg) w hw
  refine g_aload_n (pc := 413) h 2 rfl dL_law_413 ?_
  refine g_saload_n (pc := 414) h 3 rfl dL_law_414 ?_
  refine g_iload_n (pc := 415) h 0 rfl dL_law_415 ?_
  refine g_iconst (pc := 416) (v := (1 : Int32)) h dL_law_416 (by decide) ?_
  refine g_iadd (pc := 417) h dL_law_417 ?_
  refine g_xld (pc := 418) h hX (vx hi hL 1 (by decide) (by decide)) dL_law_418 ?_
  refine g_saload_n (pc := 419) h 3 rfl dL_law_419 ?_
  refine g_iload_n (pc := 420) h 0 rfl dL_law_420 ?_
  refine g_iconst (pc := 421) (v := (2 : Int32)) h dL_law_421 (by decide) ?_
  refine g_iadd (pc := 422) h dL_law_422 ?_
  refine g_xld (pc := 423) h hX (vx hi hL 2 (by decide) (by decide)) dL_law_423 ?_
  refine g_saload_n (pc := 424) h 3 rfl dL_law_424 ?_
  refine g_iload_n (pc := 425) h 0 rfl dL_law_425 ?_
  refine g_iconst (pc := 426) (v := (3 : Int32)) h dL_law_426 (by decide) ?_
  refine g_iadd (pc := 427) h dL_law_427 ?_
  refine g_xld (pc := 428) h hX (vx hi hL 3 (by decide) (by decide)) dL_law_428 ?_
  refine g_kvI (pc := 429) (st := []) h mX6_far cvL_53 ⟨by rw [hX0]; decide, rfl⟩ (by decide) ⟨by decide, by decide⟩ (Nat.le_of_ble_eq_true rfl) rfl rfl dL_law_429 e1 ?_
  refine g_aload_n (pc := 432) h 1 rfl dL_law_432 ?_
  refine g_saload_n (pc := 433) h 3 rfl dL_law_433 ?_
  refine g_iload_n (pc := 434) h 0 rfl dL_law_434 ?_
  refine g_iconst (pc := 435) (v := (1 : Int32)) h dL_law_435 (by decide) ?_
  refine g_iadd (pc := 436) h dL_law_436 ?_
  refine g_xld (pc := 437) h hX (vx hi hL 1 (by decide) (by decide)) dL_law_437 ?_
  refine g_saload_n (pc := 438) h 3 rfl dL_law_438 ?_
  refine g_iload_n (pc := 439) h 0 rfl dL_law_439 ?_
  refine g_iconst (pc := 440) (v := (2 : Int32)) h dL_law_440 (by decide) ?_
  refine g_iadd (pc := 441) h dL_law_441 ?_
  refine g_xld (pc := 442) h hX (vx hi hL 2 (by decide) (by decide)) dL_law_442 ?_
  refine g_saload_n (pc := 443) h 3 rfl dL_law_443 ?_
  refine g_iload_n (pc := 444) h 0 rfl dL_law_444 ?_
  refine g_iconst (pc := 445) (v := (3 : Int32)) h dL_law_445 (by decide) ?_
  refine g_iadd (pc := 446) h dL_law_446 ?_
  refine g_xld (pc := 447) h hX (vx hi hL 3 (by decide) (by decide)) dL_law_447 ?_
  refine g_kvI (pc := 448) (st := [.int r]) h mX7_far cvL_56 ⟨by rw [hX0]; decide, rfl⟩ (by decide) ⟨by decide, by decide⟩ (Nat.le_of_ble_eq_true rfl) rfl rfl dL_law_448 e2 ?_
  refine g_icmp_eqT (pc := 451) (tgt := 1088) h dL_law_451 (by decide) ?_
  exact kk w2 hw2
set_option maxHeartbeats 4000000 in
theorem law_least (h : Ok X cL_law RL 1000 600000 7302249) (hX0 : n0X X = 0) {b L : Nat} {xs : Nat → Int32} (hX : SX X b L xs) {J : Wd → Prop} (ag : ∀ a0 a1 a2 : Int32, Agree J (fX6_least 0 a0 a1 a2) (fX7_least 52 a0 a1 a2)) {i : Nat} (hi : i + 6 ≤ L) (hL : L ≤ 3072) (hw : J w) (kk : ∀ w2, J w2 → G X 66 3747 1088 (lawL b (nI i)) [] w2) : G X 66 3747 456 (lawL b (nI i)) [] w := by
  obtain ⟨r, w1, w2, e1, e2, hw2⟩ := ag (xs (nI i + (1 : Int32)).toNatClampNeg) (xs (nI i + (2 : Int32)).toNatClampNeg) (xs (nI i + (3 : Int32)).toNatClampNeg) w hw
  refine g_aload_n (pc := 456) h 2 rfl dL_law_456 ?_
  refine g_saload_n (pc := 457) h 3 rfl dL_law_457 ?_
  refine g_iload_n (pc := 458) h 0 rfl dL_law_458 ?_
  refine g_iconst (pc := 459) (v := (1 : Int32)) h dL_law_459 (by decide) ?_
  refine g_iadd (pc := 460) h dL_law_460 ?_
  refine g_xld (pc := 461) h hX (vx hi hL 1 (by decide) (by decide)) dL_law_461 ?_
  refine g_saload_n (pc := 462) h 3 rfl dL_law_462 ?_
  refine g_iload_n (pc := 463) h 0 rfl dL_law_463 ?_
  refine g_iconst (pc := 464) (v := (2 : Int32)) h dL_law_464 (by decide) ?_
  refine g_iadd (pc := 465) h dL_law_465 ?_
  refine g_xld (pc := 466) h hX (vx hi hL 2 (by decide) (by decide)) dL_law_466 ?_
  refine g_saload_n (pc := 467) h 3 rfl dL_law_467 ?_
  refine g_iload_n (pc := 468) h 0 rfl dL_law_468 ?_
  refine g_iconst (pc := 469) (v := (3 : Int32)) h dL_law_469 (by decide) ?_
  refine g_iadd (pc := 470) h dL_law_470 ?_
  refine g_xld (pc := 471) h hX (vx hi hL 3 (by decide) (by decide)) dL_law_471 ?_
  refine g_kvI (pc := 472) (st := []) h mX6_least cvL_57 ⟨by rw [hX0]; decide, rfl⟩ (by decide) ⟨by decide, by decide⟩ (Nat.le_of_ble_eq_true rfl) rfl rfl dL_law_472 e1 ?_
  refine g_aload_n (pc := 475) h 1 rfl dL_law_475 ?_
  refine g_saload_n (pc := 476) h 3 rfl dL_law_476 ?_
  refine g_iload_n (pc := 477) h 0 rfl dL_law_477 ?_
  refine g_iconst (pc := 478) (v := (1 : Int32)) h dL_law_478 (by decide) ?_
  refine g_iadd (pc := 479) h dL_law_479 ?_
  refine g_xld (pc := 480) h hX (vx hi hL 1 (by decide) (by decide)) dL_law_480 ?_
  refine g_saload_n (pc := 481) h 3 rfl dL_law_481 ?_
  refine g_iload_n (pc := 482) h 0 rfl dL_law_482 ?_
  refine g_iconst (pc := 483) (v := (2 : Int32)) h dL_law_483 (by decide) ?_
  refine g_iadd (pc := 484) h dL_law_484 ?_
  refine g_xld (pc := 485) h hX (vx hi hL 2 (by decide) (by decide)) dL_law_485 ?_
  refine g_saload_n (pc := 486) h 3 rfl dL_law_486 ?_
  refine g_iload_n (pc := 487) h 0 rfl dL_law_487 ?_
  refine g_iconst (pc := 488) (v := (3 : Int32)) h dL_law_488 (by decide) ?_
  refine g_iadd (pc := 489) h dL_law_489 ?_
  refine g_xld (pc := 490) h hX (vx hi hL 3 (by decide) (by decide)) dL_law_490 ?_
  refine g_kvI (pc := 491) (st := [.int r]) h mX7_least cvL_60 ⟨by rw [hX0]; decide, rfl⟩ (by decide) ⟨by decide, by decide⟩ (Nat.le_of_ble_eq_true rfl) rfl rfl dL_law_491 e2 ?_
  refine g_icmp_eqT (pc := 494) (tgt := 1088) h dL_law_494 (by decide) ?_
  exact kk w2 hw2
set_option maxHeartbeats 4000000 in
theorem law_heaviest (h : Ok X cL_law RL 1000 600000 7302249) (hX0 : n0X X = 0) {b L : Nat} {xs : Nat → Int32} (hX : SX X b L xs) {J : Wd → Prop} (ag : ∀ a0 a1 a2 : Int32, Agree J (fX6_heaviest 0 a0 a1 a2) (fX7_heaviest 52 a0 a1 a2)) {i : Nat} (hi : i + 6 ≤ L) (hL : L ≤ 3072) (hw : J w) (kk : ∀ w2, J w2 → G X 66 3747 1088 (lawL b (nI i)) [] w2) : G X 66 3747 499 (lawL b (nI i)) [] w := by
  obtain ⟨r, w1, w2, e1, e2, hw2⟩ := ag (xs (nI i + (1 : Int32)).toNatClampNeg) (xs (nI i + (2 : Int32)).toNatClampNeg) (xs (nI i + (3 : Int32)).toNatClampNeg) w hw
  refine g_aload_n (pc := 499) h 2 rfl dL_law_499 ?_
  refine g_saload_n (pc := 500) h 3 rfl dL_law_500 ?_
  refine g_iload_n (pc := 501) h 0 rfl dL_law_501 ?_
  refine g_iconst (pc := 502) (v := (1 : Int32)) h dL_law_502 (by decide) ?_
  refine g_iadd (pc := 503) h dL_law_503 ?_
  refine g_xld (pc := 504) h hX (vx hi hL 1 (by decide) (by decide)) dL_law_504 ?_
  refine g_saload_n (pc := 505) h 3 rfl dL_law_505 ?_
  refine g_iload_n (pc := 506) h 0 rfl dL_law_506 ?_
  refine g_iconst (pc := 507) (v := (2 : Int32)) h dL_law_507 (by decide) ?_
  refine g_iadd (pc := 508) h dL_law_508 ?_
  refine g_xld (pc := 509) h hX (vx hi hL 2 (by decide) (by decide)) dL_law_509 ?_
  refine g_saload_n (pc := 510) h 3 rfl dL_law_510 ?_
  refine g_iload_n (pc := 511) h 0 rfl dL_law_511 ?_
  refine g_iconst (pc := 512) (v := (3 : Int32)) h dL_law_512 (by decide) ?_
  refine g_iadd (pc := 513) h dL_law_513 ?_
  refine g_xld (pc := 514) h hX (vx hi hL 3 (by decide) (by decide)) dL_law_514 ?_
  refine g_kvI (pc := 515) (st := []) h mX6_heaviest cvL_61 ⟨by rw [hX0]; decide, rfl⟩ (by decide) ⟨by decide, by decide⟩ (Nat.le_of_ble_eq_true rfl) rfl rfl dL_law_515 e1 ?_
  refine g_aload_n (pc := 518) h 1 rfl dL_law_518 ?_
  refine g_saload_n (pc := 519) h 3 rfl dL_law_519 ?_
  refine g_iload_n (pc := 520) h 0 rfl dL_law_520 ?_
  refine g_iconst (pc := 521) (v := (1 : Int32)) h dL_law_521 (by decide) ?_
  refine g_iadd (pc := 522) h dL_law_522 ?_
  refine g_xld (pc := 523) h hX (vx hi hL 1 (by decide) (by decide)) dL_law_523 ?_
  refine g_saload_n (pc := 524) h 3 rfl dL_law_524 ?_
  refine g_iload_n (pc := 525) h 0 rfl dL_law_525 ?_
  refine g_iconst (pc := 526) (v := (2 : Int32)) h dL_law_526 (by decide) ?_
  refine g_iadd (pc := 527) h dL_law_527 ?_
  refine g_xld (pc := 528) h hX (vx hi hL 2 (by decide) (by decide)) dL_law_528 ?_
  refine g_saload_n (pc := 529) h 3 rfl dL_law_529 ?_
  refine g_iload_n (pc := 530) h 0 rfl dL_law_530 ?_
  refine g_iconst (pc := 531) (v := (3 : Int32)) h dL_law_531 (by decide) ?_
  refine g_iadd (pc := 532) h dL_law_532 ?_
  refine g_xld (pc := 533) h hX (vx hi hL 3 (by decide) (by decide)) dL_law_533 ?_
  refine g_kvI (pc := 534) (st := [.int r]) h mX7_heaviest cvL_64 ⟨by rw [hX0]; decide, rfl⟩ (by decide) ⟨by decide, by decide⟩ (Nat.le_of_ble_eq_true rfl) rfl rfl dL_law_534 e2 ?_
  refine g_icmp_eqT (pc := 537) (tgt := 1088) h dL_law_537 (by decide) ?_
  exact kk w2 hw2
set_option maxHeartbeats 4000000 in
theorem law_away (h : Ok X cL_law RL 1000 600000 7302249) (hX0 : n0X X = 0) {b L : Nat} {xs : Nat → Int32} (hX : SX X b L xs) {J : Wd → Prop} (ag : ∀ a0 a1 : Int32, Agree J (fX6_away 0 a0 a1) (fX7_away 52 a0 a1)) {i : Nat} (hi : i + 6 ≤ L) (hL : L ≤ 3072) (hw : J w) (kk : ∀ w2, J w2 → G X 66 3747 1088 (lawL b (nI i)) [] w2) : G X 66 3747 542 (lawL b (nI i)) [] w := by
  obtain ⟨r, w1, w2, e1, e2, hw2⟩ := ag (xs (nI i + (1 : Int32)).toNatClampNeg) (xs (nI i + (2 : Int32)).toNatClampNeg) w hw
  refine g_aload_n (pc := 542) h 2 rfl dL_law_542 ?_
  refine g_saload_n (pc := 543) h 3 rfl dL_law_543 ?_
  refine g_iload_n (pc := 544) h 0 rfl dL_law_544 ?_
  refine g_iconst (pc := 545) (v := (1 : Int32)) h dL_law_545 (by decide) ?_
  refine g_iadd (pc := 546) h dL_law_546 ?_
  refine g_xld (pc := 547) h hX (vx hi hL 1 (by decide) (by decide)) dL_law_547 ?_
  refine g_saload_n (pc := 548) h 3 rfl dL_law_548 ?_
  refine g_iload_n (pc := 549) h 0 rfl dL_law_549 ?_
  refine g_iconst (pc := 550) (v := (2 : Int32)) h dL_law_550 (by decide) ?_
  refine g_iadd (pc := 551) h dL_law_551 ?_
  refine g_xld (pc := 552) h hX (vx hi hL 2 (by decide) (by decide)) dL_law_552 ?_
  refine g_kvI (pc := 553) (st := []) h mX6_away cvL_65 ⟨by rw [hX0]; decide, rfl⟩ (by decide) ⟨by decide, by decide⟩ (Nat.le_of_ble_eq_true rfl) rfl rfl dL_law_553 e1 ?_
  refine g_aload_n (pc := 556) h 1 rfl dL_law_556 ?_
  refine g_saload_n (pc := 557) h 3 rfl dL_law_557 ?_
  refine g_iload_n (pc := 558) h 0 rfl dL_law_558 ?_
  refine g_iconst (pc := 559) (v := (1 : Int32)) h dL_law_559 (by decide) ?_
  refine g_iadd (pc := 560) h dL_law_560 ?_
  refine g_xld (pc := 561) h hX (vx hi hL 1 (by decide) (by decide)) dL_law_561 ?_
  refine g_saload_n (pc := 562) h 3 rfl dL_law_562 ?_
  refine g_iload_n (pc := 563) h 0 rfl dL_law_563 ?_
  refine g_iconst (pc := 564) (v := (2 : Int32)) h dL_law_564 (by decide) ?_
  refine g_iadd (pc := 565) h dL_law_565 ?_
  refine g_xld (pc := 566) h hX (vx hi hL 2 (by decide) (by decide)) dL_law_566 ?_
  refine g_kvI (pc := 567) (st := [.int r]) h mX7_away cvL_68 ⟨by rw [hX0]; decide, rfl⟩ (by decide) ⟨by decide, by decide⟩ (Nat.le_of_ble_eq_true rfl) rfl rfl dL_law_567 e2 ?_
  refine g_icmp_eqT (pc := 570) (tgt := 1088) h dL_law_570 (by decide) ?_
  exact kk w2 hw2
set_option maxHeartbeats 4000000 in
theorem law_keeper (h : Ok X cL_law RL 1000 600000 7302249) (hX0 : n0X X = 0) {b L : Nat} {xs : Nat → Int32} (hX : SX X b L xs) {J : Wd → Prop} (ag : ∀ a0 a1 : Int32, Agree J (fX6_keeper 0 a0 a1) (fX7_keeper 52 a0 a1)) {i : Nat} (hi : i + 6 ≤ L) (hL : L ≤ 3072) (hw : J w) (kk : ∀ w2, J w2 → G X 66 3747 1088 (lawL b (nI i)) [] w2) : G X 66 3747 575 (lawL b (nI i)) [] w := by
  obtain ⟨r, w1, w2, e1, e2, hw2⟩ := ag (xs (nI i + (1 : Int32)).toNatClampNeg) (xs (nI i + (2 : Int32)).toNatClampNeg) w hw
  refine g_aload_n (pc := 575) h 2 rfl dL_law_575 ?_
  refine g_saload_n (pc := 576) h 3 rfl dL_law_576 ?_
  refine g_iload_n (pc := 577) h 0 rfl dL_law_577 ?_
  refine g_iconst (pc := 578) (v := (1 : Int32)) h dL_law_578 (by decide) ?_
  refine g_iadd (pc := 579) h dL_law_579 ?_
  refine g_xld (pc := 580) h hX (vx hi hL 1 (by decide) (by decide)) dL_law_580 ?_
  refine g_saload_n (pc := 581) h 3 rfl dL_law_581 ?_
  refine g_iload_n (pc := 582) h 0 rfl dL_law_582 ?_
  refine g_iconst (pc := 583) (v := (2 : Int32)) h dL_law_583 (by decide) ?_
  refine g_iadd (pc := 584) h dL_law_584 ?_
  refine g_xld (pc := 585) h hX (vx hi hL 2 (by decide) (by decide)) dL_law_585 ?_
  refine g_kvI (pc := 586) (st := []) h mX6_keeper cvL_69 ⟨by rw [hX0]; decide, rfl⟩ (by decide) ⟨by decide, by decide⟩ (Nat.le_of_ble_eq_true rfl) rfl rfl dL_law_586 e1 ?_
  refine g_aload_n (pc := 589) h 1 rfl dL_law_589 ?_
  refine g_saload_n (pc := 590) h 3 rfl dL_law_590 ?_
  refine g_iload_n (pc := 591) h 0 rfl dL_law_591 ?_
  refine g_iconst (pc := 592) (v := (1 : Int32)) h dL_law_592 (by decide) ?_
  refine g_iadd (pc := 593) h dL_law_593 ?_
  refine g_xld (pc := 594) h hX (vx hi hL 1 (by decide) (by decide)) dL_law_594 ?_
  refine g_saload_n (pc := 595) h 3 rfl dL_law_595 ?_
  refine g_iload_n (pc := 596) h 0 rfl dL_law_596 ?_
  refine g_iconst (pc := 597) (v := (2 : Int32)) h dL_law_597 (by decide) ?_
  refine g_iadd (pc := 598) h dL_law_598 ?_
  refine g_xld (pc := 599) h hX (vx hi hL 2 (by decide) (by decide)) dL_law_599 ?_
  refine g_kvI (pc := 600) (st := [.int r]) h mX7_keeper cvL_72 ⟨by rw [hX0]; decide, rfl⟩ (by decide) ⟨by decide, by decide⟩ (Nat.le_of_ble_eq_true rfl) rfl rfl dL_law_600 e2 ?_
  refine g_icmp_eqT (pc := 603) (tgt := 1088) h dL_law_603 (by decide) ?_
  exact kk w2 hw2
set_option maxHeartbeats 4000000 in
theorem law_spare (h : Ok X cL_law RL 1000 600000 7302249) (hX0 : n0X X = 0) {b L : Nat} {xs : Nat → Int32} (hX : SX X b L xs) {J : Wd → Prop} (ag : ∀ a0 a1 : Int32, Agree J (fX6_spare 0 a0 a1) (fX7_spare 52 a0 a1)) {i : Nat} (hi : i + 6 ≤ L) (hL : L ≤ 3072) (hw : J w) (kk : ∀ w2, J w2 → G X 66 3747 1088 (lawL b (nI i)) [] w2) : G X 66 3747 608 (lawL b (nI i)) [] w := by
  obtain ⟨r, w1, w2, e1, e2, hw2⟩ := ag (xs (nI i + (1 : Int32)).toNatClampNeg) (xs (nI i + (2 : Int32)).toNatClampNeg) w hw
  refine g_aload_n (pc := 608) h 2 rfl dL_law_608 ?_
  refine g_saload_n (pc := 609) h 3 rfl dL_law_609 ?_
  refine g_iload_n (pc := 610) h 0 rfl dL_law_610 ?_
  refine g_iconst (pc := 611) (v := (1 : Int32)) h dL_law_611 (by decide) ?_
  refine g_iadd (pc := 612) h dL_law_612 ?_
  refine g_xld (pc := 613) h hX (vx hi hL 1 (by decide) (by decide)) dL_law_613 ?_
  refine g_saload_n (pc := 614) h 3 rfl dL_law_614 ?_
  refine g_iload_n (pc := 615) h 0 rfl dL_law_615 ?_
  refine g_iconst (pc := 616) (v := (2 : Int32)) h dL_law_616 (by decide) ?_
  refine g_iadd (pc := 617) h dL_law_617 ?_
  refine g_xld (pc := 618) h hX (vx hi hL 2 (by decide) (by decide)) dL_law_618 ?_
  refine g_kvI (pc := 619) (st := []) h mX6_spare cvL_73 ⟨by rw [hX0]; decide, rfl⟩ (by decide) ⟨by decide, by decide⟩ (Nat.le_of_ble_eq_true rfl) rfl rfl dL_law_619 e1 ?_
  refine g_aload_n (pc := 622) h 1 rfl dL_law_622 ?_
  refine g_saload_n (pc := 623) h 3 rfl dL_law_623 ?_
  refine g_iload_n (pc := 624) h 0 rfl dL_law_624 ?_
  refine g_iconst (pc := 625) (v := (1 : Int32)) h dL_law_625 (by decide) ?_
  refine g_iadd (pc := 626) h dL_law_626 ?_
  refine g_xld (pc := 627) h hX (vx hi hL 1 (by decide) (by decide)) dL_law_627 ?_
  refine g_saload_n (pc := 628) h 3 rfl dL_law_628 ?_
  refine g_iload_n (pc := 629) h 0 rfl dL_law_629 ?_
  refine g_iconst (pc := 630) (v := (2 : Int32)) h dL_law_630 (by decide) ?_
  refine g_iadd (pc := 631) h dL_law_631 ?_
  refine g_xld (pc := 632) h hX (vx hi hL 2 (by decide) (by decide)) dL_law_632 ?_
  refine g_kvI (pc := 633) (st := [.int r]) h mX7_spare cvL_76 ⟨by rw [hX0]; decide, rfl⟩ (by decide) ⟨by decide, by decide⟩ (Nat.le_of_ble_eq_true rfl) rfl rfl dL_law_633 e2 ?_
  refine g_icmp_eqT (pc := 636) (tgt := 1088) h dL_law_636 (by decide) ?_
  exact kk w2 hw2
set_option maxHeartbeats 4000000 in
theorem law_tells (h : Ok X cL_law RL 1000 600000 7302249) (hX0 : n0X X = 0) {b L : Nat} {xs : Nat → Int32} (hX : SX X b L xs) {J : Wd → Prop} (ag : ∀ a0 a1 a2 : Int32, Agree J (fX6_tells 0 a0 a1 a2) (fX7_tells 52 a0 a1 a2)) {i : Nat} (hi : i + 6 ≤ L) (hL : L ≤ 3072) (hw : J w) (kk : ∀ w2, J w2 → G X 66 3747 1088 (lawL b (nI i)) [] w2) : G X 66 3747 641 (lawL b (nI i)) [] w := by
  obtain ⟨r, w1, w2, e1, e2, hw2⟩ := ag (xs (nI i + (1 : Int32)).toNatClampNeg) (xs (nI i + (2 : Int32)).toNatClampNeg) (xs (nI i + (3 : Int32)).toNatClampNeg) w hw
  refine g_aload_n (pc := 641) h 2 rfl dL_law_641 ?_
  refine g_saload_n (pc := 642) h 3 rfl dL_law_642 ?_
  refine g_iload_n (pc := 643) h 0 rfl dL_law_643 ?_
  refine g_iconst (pc := 644) (v := (1 : Int32)) h dL_law_644 (by decide) ?_
  refine g_iadd (pc := 645) h dL_law_645 ?_
  refine g_xld (pc := 646) h hX (vx hi hL 1 (by decide) (by decide)) dL_law_646 ?_
  refine g_saload_n (pc := 647) h 3 rfl dL_law_647 ?_
  refine g_iload_n (pc := 648) h 0 rfl dL_law_648 ?_
  refine g_iconst (pc := 649) (v := (2 : Int32)) h dL_law_649 (by decide) ?_
  refine g_iadd (pc := 650) h dL_law_650 ?_
  refine g_xld (pc := 651) h hX (vx hi hL 2 (by decide) (by decide)) dL_law_651 ?_
  refine g_saload_n (pc := 652) h 3 rfl dL_law_652 ?_
  refine g_iload_n (pc := 653) h 0 rfl dL_law_653 ?_
  refine g_iconst (pc := 654) (v := (3 : Int32)) h dL_law_654 (by decide) ?_
  refine g_iadd (pc := 655) h dL_law_655 ?_
  refine g_xld (pc := 656) h hX (vx hi hL 3 (by decide) (by decide)) dL_law_656 ?_
  refine g_kvI (pc := 657) (st := []) h mX6_tells cvL_77 ⟨by rw [hX0]; decide, rfl⟩ (by decide) ⟨by decide, by decide⟩ (Nat.le_of_ble_eq_true rfl) rfl rfl dL_law_657 e1 ?_
  refine g_aload_n (pc := 660) h 1 rfl dL_law_660 ?_
  refine g_saload_n (pc := 661) h 3 rfl dL_law_661 ?_
  refine g_iload_n (pc := 662) h 0 rfl dL_law_662 ?_
  refine g_iconst (pc := 663) (v := (1 : Int32)) h dL_law_663 (by decide) ?_
  refine g_iadd (pc := 664) h dL_law_664 ?_
  refine g_xld (pc := 665) h hX (vx hi hL 1 (by decide) (by decide)) dL_law_665 ?_
  refine g_saload_n (pc := 666) h 3 rfl dL_law_666 ?_
  refine g_iload_n (pc := 667) h 0 rfl dL_law_667 ?_
  refine g_iconst (pc := 668) (v := (2 : Int32)) h dL_law_668 (by decide) ?_
  refine g_iadd (pc := 669) h dL_law_669 ?_
  refine g_xld (pc := 670) h hX (vx hi hL 2 (by decide) (by decide)) dL_law_670 ?_
  refine g_saload_n (pc := 671) h 3 rfl dL_law_671 ?_
  refine g_iload_n (pc := 672) h 0 rfl dL_law_672 ?_
  refine g_iconst (pc := 673) (v := (3 : Int32)) h dL_law_673 (by decide) ?_
  refine g_iadd (pc := 674) h dL_law_674 ?_
  refine g_xld (pc := 675) h hX (vx hi hL 3 (by decide) (by decide)) dL_law_675 ?_
  refine g_kvI (pc := 676) (st := [.int r]) h mX7_tells cvL_80 ⟨by rw [hX0]; decide, rfl⟩ (by decide) ⟨by decide, by decide⟩ (Nat.le_of_ble_eq_true rfl) rfl rfl dL_law_676 e2 ?_
  refine g_icmp_eqT (pc := 679) (tgt := 1088) h dL_law_679 (by decide) ?_
  exact kk w2 hw2
set_option maxHeartbeats 4000000 in
theorem law_film (h : Ok X cL_law RL 1000 600000 7302249) (hX0 : n0X X = 0) {b L : Nat} {xs : Nat → Int32} (hX : SX X b L xs) {J : Wd → Prop} (ag : ∀ a0 a1 a2 : Int32, Agree J (fX6_film 0 a0 a1 a2) (fX7_film 52 a0 a1 a2)) {i : Nat} (hi : i + 6 ≤ L) (hL : L ≤ 3072) (hw : J w) (kk : ∀ w2, J w2 → G X 66 3747 1088 (lawL b (nI i)) [] w2) : G X 66 3747 684 (lawL b (nI i)) [] w := by
  obtain ⟨r, w1, w2, e1, e2, hw2⟩ := ag (xs (nI i + (1 : Int32)).toNatClampNeg) (xs (nI i + (2 : Int32)).toNatClampNeg) (xs (nI i + (3 : Int32)).toNatClampNeg) w hw
  refine g_aload_n (pc := 684) h 2 rfl dL_law_684 ?_
  refine g_saload_n (pc := 685) h 3 rfl dL_law_685 ?_
  refine g_iload_n (pc := 686) h 0 rfl dL_law_686 ?_
  refine g_iconst (pc := 687) (v := (1 : Int32)) h dL_law_687 (by decide) ?_
  refine g_iadd (pc := 688) h dL_law_688 ?_
  refine g_xld (pc := 689) h hX (vx hi hL 1 (by decide) (by decide)) dL_law_689 ?_
  refine g_saload_n (pc := 690) h 3 rfl dL_law_690 ?_
  refine g_iload_n (pc := 691) h 0 rfl dL_law_691 ?_
  refine g_iconst (pc := 692) (v := (2 : Int32)) h dL_law_692 (by decide) ?_
  refine g_iadd (pc := 693) h dL_law_693 ?_
  refine g_xld (pc := 694) h hX (vx hi hL 2 (by decide) (by decide)) dL_law_694 ?_
  refine g_saload_n (pc := 695) h 3 rfl dL_law_695 ?_
  refine g_iload_n (pc := 696) h 0 rfl dL_law_696 ?_
  refine g_iconst (pc := 697) (v := (3 : Int32)) h dL_law_697 (by decide) ?_
  refine g_iadd (pc := 698) h dL_law_698 ?_
  refine g_xld (pc := 699) h hX (vx hi hL 3 (by decide) (by decide)) dL_law_699 ?_
  refine g_kvI (pc := 700) (st := []) h mX6_film cvL_81 ⟨by rw [hX0]; decide, rfl⟩ (by decide) ⟨by decide, by decide⟩ (Nat.le_of_ble_eq_true rfl) rfl rfl dL_law_700 e1 ?_
  refine g_aload_n (pc := 703) h 1 rfl dL_law_703 ?_
  refine g_saload_n (pc := 704) h 3 rfl dL_law_704 ?_
  refine g_iload_n (pc := 705) h 0 rfl dL_law_705 ?_
  refine g_iconst (pc := 706) (v := (1 : Int32)) h dL_law_706 (by decide) ?_
  refine g_iadd (pc := 707) h dL_law_707 ?_
  refine g_xld (pc := 708) h hX (vx hi hL 1 (by decide) (by decide)) dL_law_708 ?_
  refine g_saload_n (pc := 709) h 3 rfl dL_law_709 ?_
  refine g_iload_n (pc := 710) h 0 rfl dL_law_710 ?_
  refine g_iconst (pc := 711) (v := (2 : Int32)) h dL_law_711 (by decide) ?_
  refine g_iadd (pc := 712) h dL_law_712 ?_
  refine g_xld (pc := 713) h hX (vx hi hL 2 (by decide) (by decide)) dL_law_713 ?_
  refine g_saload_n (pc := 714) h 3 rfl dL_law_714 ?_
  refine g_iload_n (pc := 715) h 0 rfl dL_law_715 ?_
  refine g_iconst (pc := 716) (v := (3 : Int32)) h dL_law_716 (by decide) ?_
  refine g_iadd (pc := 717) h dL_law_717 ?_
  refine g_xld (pc := 718) h hX (vx hi hL 3 (by decide) (by decide)) dL_law_718 ?_
  refine g_kvI (pc := 719) (st := [.int r]) h mX7_film cvL_84 ⟨by rw [hX0]; decide, rfl⟩ (by decide) ⟨by decide, by decide⟩ (Nat.le_of_ble_eq_true rfl) rfl rfl dL_law_719 e2 ?_
  refine g_icmp_eqT (pc := 722) (tgt := 1088) h dL_law_722 (by decide) ?_
  exact kk w2 hw2
set_option maxHeartbeats 4000000 in
theorem law_drawn (h : Ok X cL_law RL 1000 600000 7302249) (hX0 : n0X X = 0) {b L : Nat} {xs : Nat → Int32} (hX : SX X b L xs) {J : Wd → Prop} (ag : ∀ a0 a1 : Int32, Agree J (fX6_drawn 0 a0 a1) (fX7_drawn 52 a0 a1)) {i : Nat} (hi : i + 6 ≤ L) (hL : L ≤ 3072) (hw : J w) (kk : ∀ w2, J w2 → G X 66 3747 1088 (lawL b (nI i)) [] w2) : G X 66 3747 727 (lawL b (nI i)) [] w := by
  obtain ⟨r, w1, w2, e1, e2, hw2⟩ := ag (xs (nI i + (1 : Int32)).toNatClampNeg) (xs (nI i + (2 : Int32)).toNatClampNeg) w hw
  refine g_aload_n (pc := 727) h 2 rfl dL_law_727 ?_
  refine g_saload_n (pc := 728) h 3 rfl dL_law_728 ?_
  refine g_iload_n (pc := 729) h 0 rfl dL_law_729 ?_
  refine g_iconst (pc := 730) (v := (1 : Int32)) h dL_law_730 (by decide) ?_
  refine g_iadd (pc := 731) h dL_law_731 ?_
  refine g_xld (pc := 732) h hX (vx hi hL 1 (by decide) (by decide)) dL_law_732 ?_
  refine g_saload_n (pc := 733) h 3 rfl dL_law_733 ?_
  refine g_iload_n (pc := 734) h 0 rfl dL_law_734 ?_
  refine g_iconst (pc := 735) (v := (2 : Int32)) h dL_law_735 (by decide) ?_
  refine g_iadd (pc := 736) h dL_law_736 ?_
  refine g_xld (pc := 737) h hX (vx hi hL 2 (by decide) (by decide)) dL_law_737 ?_
  refine g_kvI (pc := 738) (st := []) h mX6_drawn cvL_85 ⟨by rw [hX0]; decide, rfl⟩ (by decide) ⟨by decide, by decide⟩ (Nat.le_of_ble_eq_true rfl) rfl rfl dL_law_738 e1 ?_
  refine g_aload_n (pc := 741) h 1 rfl dL_law_741 ?_
  refine g_saload_n (pc := 742) h 3 rfl dL_law_742 ?_
  refine g_iload_n (pc := 743) h 0 rfl dL_law_743 ?_
  refine g_iconst (pc := 744) (v := (1 : Int32)) h dL_law_744 (by decide) ?_
  refine g_iadd (pc := 745) h dL_law_745 ?_
  refine g_xld (pc := 746) h hX (vx hi hL 1 (by decide) (by decide)) dL_law_746 ?_
  refine g_saload_n (pc := 747) h 3 rfl dL_law_747 ?_
  refine g_iload_n (pc := 748) h 0 rfl dL_law_748 ?_
  refine g_iconst (pc := 749) (v := (2 : Int32)) h dL_law_749 (by decide) ?_
  refine g_iadd (pc := 750) h dL_law_750 ?_
  refine g_xld (pc := 751) h hX (vx hi hL 2 (by decide) (by decide)) dL_law_751 ?_
  refine g_kvI (pc := 752) (st := [.int r]) h mX7_drawn cvL_88 ⟨by rw [hX0]; decide, rfl⟩ (by decide) ⟨by decide, by decide⟩ (Nat.le_of_ble_eq_true rfl) rfl rfl dL_law_752 e2 ?_
  refine g_icmp_eqT (pc := 755) (tgt := 1088) h dL_law_755 (by decide) ?_
  exact kk w2 hw2
set_option maxHeartbeats 4000000 in
theorem law_chance (h : Ok X cL_law RL 1000 600000 7302249) (hX0 : n0X X = 0) {b L : Nat} {xs : Nat → Int32} (hX : SX X b L xs) {J : Wd → Prop} (ag : ∀ a0 a1 a2 : Int32, Agree J (fX6_chance 0 a0 a1 a2) (fX7_chance 52 a0 a1 a2)) {i : Nat} (hi : i + 6 ≤ L) (hL : L ≤ 3072) (hw : J w) (kk : ∀ w2, J w2 → G X 66 3747 1088 (lawL b (nI i)) [] w2) : G X 66 3747 760 (lawL b (nI i)) [] w := by
  obtain ⟨r, w1, w2, e1, e2, hw2⟩ := ag (xs (nI i + (1 : Int32)).toNatClampNeg) (xs (nI i + (2 : Int32)).toNatClampNeg) (xs (nI i + (3 : Int32)).toNatClampNeg) w hw
  refine g_aload_n (pc := 760) h 2 rfl dL_law_760 ?_
  refine g_saload_n (pc := 761) h 3 rfl dL_law_761 ?_
  refine g_iload_n (pc := 762) h 0 rfl dL_law_762 ?_
  refine g_iconst (pc := 763) (v := (1 : Int32)) h dL_law_763 (by decide) ?_
  refine g_iadd (pc := 764) h dL_law_764 ?_
  refine g_xld (pc := 765) h hX (vx hi hL 1 (by decide) (by decide)) dL_law_765 ?_
  refine g_saload_n (pc := 766) h 3 rfl dL_law_766 ?_
  refine g_iload_n (pc := 767) h 0 rfl dL_law_767 ?_
  refine g_iconst (pc := 768) (v := (2 : Int32)) h dL_law_768 (by decide) ?_
  refine g_iadd (pc := 769) h dL_law_769 ?_
  refine g_xld (pc := 770) h hX (vx hi hL 2 (by decide) (by decide)) dL_law_770 ?_
  refine g_saload_n (pc := 771) h 3 rfl dL_law_771 ?_
  refine g_iload_n (pc := 772) h 0 rfl dL_law_772 ?_
  refine g_iconst (pc := 773) (v := (3 : Int32)) h dL_law_773 (by decide) ?_
  refine g_iadd (pc := 774) h dL_law_774 ?_
  refine g_xld (pc := 775) h hX (vx hi hL 3 (by decide) (by decide)) dL_law_775 ?_
  refine g_kvL (pc := 776) (st := []) h mX6_chance cvL_89 ⟨by rw [hX0]; decide, rfl⟩ (by decide) ⟨by decide, by decide⟩ (Nat.le_of_ble_eq_true rfl) rfl rfl dL_law_776 e1 ?_
  refine g_aload_n (pc := 779) h 1 rfl dL_law_779 ?_
  refine g_saload_n (pc := 780) h 3 rfl dL_law_780 ?_
  refine g_iload_n (pc := 781) h 0 rfl dL_law_781 ?_
  refine g_iconst (pc := 782) (v := (1 : Int32)) h dL_law_782 (by decide) ?_
  refine g_iadd (pc := 783) h dL_law_783 ?_
  refine g_xld (pc := 784) h hX (vx hi hL 1 (by decide) (by decide)) dL_law_784 ?_
  refine g_saload_n (pc := 785) h 3 rfl dL_law_785 ?_
  refine g_iload_n (pc := 786) h 0 rfl dL_law_786 ?_
  refine g_iconst (pc := 787) (v := (2 : Int32)) h dL_law_787 (by decide) ?_
  refine g_iadd (pc := 788) h dL_law_788 ?_
  refine g_xld (pc := 789) h hX (vx hi hL 2 (by decide) (by decide)) dL_law_789 ?_
  refine g_saload_n (pc := 790) h 3 rfl dL_law_790 ?_
  refine g_iload_n (pc := 791) h 0 rfl dL_law_791 ?_
  refine g_iconst (pc := 792) (v := (3 : Int32)) h dL_law_792 (by decide) ?_
  refine g_iadd (pc := 793) h dL_law_793 ?_
  refine g_xld (pc := 794) h hX (vx hi hL 3 (by decide) (by decide)) dL_law_794 ?_
  refine g_kvL (pc := 795) (st := [.long r]) h mX7_chance cvL_93 ⟨by rw [hX0]; decide, rfl⟩ (by decide) ⟨by decide, by decide⟩ (Nat.le_of_ble_eq_true rfl) rfl rfl dL_law_795 e2 ?_
  refine g_lcmp (pc := 798) h dL_law_798 ?_
  refine g_if_eqT (pc := 799) (tgt := 1088) h dL_law_799 (by decide) (lcmp_self r) ?_
  exact kk w2 hw2
set_option maxHeartbeats 4000000 in
theorem law_image (h : Ok X cL_law RL 1000 600000 7302249) (hX0 : n0X X = 0) {b L : Nat} {xs : Nat → Int32} (hX : SX X b L xs) {J : Wd → Prop} (ag : Agree J (fX6_image 0) (fX7_image 52)) {i : Nat} (hi : i + 6 ≤ L) (hL : L ≤ 3072) (hw : J w) (kk : ∀ w2, J w2 → G X 66 3747 1088 (lawL b (nI i)) [] w2) : G X 66 3747 804 (lawL b (nI i)) [] w := by
  obtain ⟨r, w1, w2, e1, e2, hw2⟩ := ag w hw
  refine g_aload_n (pc := 804) h 2 rfl dL_law_804 ?_
  refine g_kvI (pc := 805) (st := []) h mX6_image cvL_94 ⟨by rw [hX0]; decide, rfl⟩ (by decide) ⟨by decide, by decide⟩ (Nat.le_of_ble_eq_true rfl) rfl rfl dL_law_805 e1 ?_
  refine g_aload_n (pc := 808) h 1 rfl dL_law_808 ?_
  refine g_kvI (pc := 809) (st := [.int r]) h mX7_image cvL_97 ⟨by rw [hX0]; decide, rfl⟩ (by decide) ⟨by decide, by decide⟩ (Nat.le_of_ble_eq_true rfl) rfl rfl dL_law_809 e2 ?_
  refine g_icmp_eqT (pc := 812) (tgt := 1088) h dL_law_812 (by decide) ?_
  exact kk w2 hw2
set_option maxHeartbeats 4000000 in
theorem law_back (h : Ok X cL_law RL 1000 600000 7302249) (hX0 : n0X X = 0) {b L : Nat} {xs : Nat → Int32} (hX : SX X b L xs) {J : Wd → Prop} (ag : Agree J (fX6_back 0) (fX7_back 52)) {i : Nat} (hi : i + 6 ≤ L) (hL : L ≤ 3072) (hw : J w) (kk : ∀ w2, J w2 → G X 66 3747 1088 (lawL b (nI i)) [] w2) : G X 66 3747 817 (lawL b (nI i)) [] w := by
  obtain ⟨r, w1, w2, e1, e2, hw2⟩ := ag w hw
  refine g_aload_n (pc := 817) h 2 rfl dL_law_817 ?_
  refine g_kvI (pc := 818) (st := []) h mX6_back cvL_98 ⟨by rw [hX0]; decide, rfl⟩ (by decide) ⟨by decide, by decide⟩ (Nat.le_of_ble_eq_true rfl) rfl rfl dL_law_818 e1 ?_
  refine g_aload_n (pc := 821) h 1 rfl dL_law_821 ?_
  refine g_kvI (pc := 822) (st := [.int r]) h mX7_back cvL_101 ⟨by rw [hX0]; decide, rfl⟩ (by decide) ⟨by decide, by decide⟩ (Nat.le_of_ble_eq_true rfl) rfl rfl dL_law_822 e2 ?_
  refine g_icmp_eqT (pc := 825) (tgt := 1088) h dL_law_825 (by decide) ?_
  exact kk w2 hw2
set_option maxHeartbeats 4000000 in
theorem law_count (h : Ok X cL_law RL 1000 600000 7302249) (hX0 : n0X X = 0) {b L : Nat} {xs : Nat → Int32} (hX : SX X b L xs) {J : Wd → Prop} (ag : ∀ a0 : Int32, Agree J (fX6_count 0 a0) (fX7_count 52 a0)) {i : Nat} (hi : i + 6 ≤ L) (hL : L ≤ 3072) (hw : J w) (kk : ∀ w2, J w2 → G X 66 3747 1088 (lawL b (nI i)) [] w2) : G X 66 3747 830 (lawL b (nI i)) [] w := by
  obtain ⟨r, w1, w2, e1, e2, hw2⟩ := ag (xs (nI i + (1 : Int32)).toNatClampNeg) w hw
  refine g_aload_n (pc := 830) h 2 rfl dL_law_830 ?_
  refine g_saload_n (pc := 831) h 3 rfl dL_law_831 ?_
  refine g_iload_n (pc := 832) h 0 rfl dL_law_832 ?_
  refine g_iconst (pc := 833) (v := (1 : Int32)) h dL_law_833 (by decide) ?_
  refine g_iadd (pc := 834) h dL_law_834 ?_
  refine g_xld (pc := 835) h hX (vx hi hL 1 (by decide) (by decide)) dL_law_835 ?_
  refine g_kvI (pc := 836) (st := []) h mX6_count cvL_102 ⟨by rw [hX0]; decide, rfl⟩ (by decide) ⟨by decide, by decide⟩ (Nat.le_of_ble_eq_true rfl) rfl rfl dL_law_836 e1 ?_
  refine g_aload_n (pc := 839) h 1 rfl dL_law_839 ?_
  refine g_saload_n (pc := 840) h 3 rfl dL_law_840 ?_
  refine g_iload_n (pc := 841) h 0 rfl dL_law_841 ?_
  refine g_iconst (pc := 842) (v := (1 : Int32)) h dL_law_842 (by decide) ?_
  refine g_iadd (pc := 843) h dL_law_843 ?_
  refine g_xld (pc := 844) h hX (vx hi hL 1 (by decide) (by decide)) dL_law_844 ?_
  refine g_kvI (pc := 845) (st := [.int r]) h mX7_count cvL_105 ⟨by rw [hX0]; decide, rfl⟩ (by decide) ⟨by decide, by decide⟩ (Nat.le_of_ble_eq_true rfl) rfl rfl dL_law_845 e2 ?_
  refine g_icmp_eqT (pc := 848) (tgt := 1088) h dL_law_848 (by decide) ?_
  exact kk w2 hw2
set_option maxHeartbeats 4000000 in
theorem law_sheet (h : Ok X cL_law RL 1000 600000 7302249) (hX0 : n0X X = 0) {b L : Nat} {xs : Nat → Int32} (hX : SX X b L xs) {J : Wd → Prop} (ag : ∀ a0 a1 a2 : Int32, Agree J (fX6_sheet 0 a0 a1 a2) (fX7_sheet 52 a0 a1 a2)) {i : Nat} (hi : i + 6 ≤ L) (hL : L ≤ 3072) (hw : J w) (kk : ∀ w2, J w2 → G X 66 3747 1088 (lawL b (nI i)) [] w2) : G X 66 3747 853 (lawL b (nI i)) [] w := by
  obtain ⟨r, w1, w2, e1, e2, hw2⟩ := ag (xs (nI i + (1 : Int32)).toNatClampNeg) (xs (nI i + (2 : Int32)).toNatClampNeg) (xs (nI i + (3 : Int32)).toNatClampNeg) w hw
  refine g_aload_n (pc := 853) h 2 rfl dL_law_853 ?_
  refine g_saload_n (pc := 854) h 3 rfl dL_law_854 ?_
  refine g_iload_n (pc := 855) h 0 rfl dL_law_855 ?_
  refine g_iconst (pc := 856) (v := (1 : Int32)) h dL_law_856 (by decide) ?_
  refine g_iadd (pc := 857) h dL_law_857 ?_
  refine g_xld (pc := 858) h hX (vx hi hL 1 (by decide) (by decide)) dL_law_858 ?_
  refine g_saload_n (pc := 859) h 3 rfl dL_law_859 ?_
  refine g_iload_n (pc := 860) h 0 rfl dL_law_860 ?_
  refine g_iconst (pc := 861) (v := (2 : Int32)) h dL_law_861 (by decide) ?_
  refine g_iadd (pc := 862) h dL_law_862 ?_
  refine g_xld (pc := 863) h hX (vx hi hL 2 (by decide) (by decide)) dL_law_863 ?_
  refine g_saload_n (pc := 864) h 3 rfl dL_law_864 ?_
  refine g_iload_n (pc := 865) h 0 rfl dL_law_865 ?_
  refine g_iconst (pc := 866) (v := (3 : Int32)) h dL_law_866 (by decide) ?_
  refine g_iadd (pc := 867) h dL_law_867 ?_
  refine g_xld (pc := 868) h hX (vx hi hL 3 (by decide) (by decide)) dL_law_868 ?_
  refine g_kvI (pc := 869) (st := []) h mX6_sheet cvL_106 ⟨by rw [hX0]; decide, rfl⟩ (by decide) ⟨by decide, by decide⟩ (Nat.le_of_ble_eq_true rfl) rfl rfl dL_law_869 e1 ?_
  refine g_aload_n (pc := 872) h 1 rfl dL_law_872 ?_
  refine g_saload_n (pc := 873) h 3 rfl dL_law_873 ?_
  refine g_iload_n (pc := 874) h 0 rfl dL_law_874 ?_
  refine g_iconst (pc := 875) (v := (1 : Int32)) h dL_law_875 (by decide) ?_
  refine g_iadd (pc := 876) h dL_law_876 ?_
  refine g_xld (pc := 877) h hX (vx hi hL 1 (by decide) (by decide)) dL_law_877 ?_
  refine g_saload_n (pc := 878) h 3 rfl dL_law_878 ?_
  refine g_iload_n (pc := 879) h 0 rfl dL_law_879 ?_
  refine g_iconst (pc := 880) (v := (2 : Int32)) h dL_law_880 (by decide) ?_
  refine g_iadd (pc := 881) h dL_law_881 ?_
  refine g_xld (pc := 882) h hX (vx hi hL 2 (by decide) (by decide)) dL_law_882 ?_
  refine g_saload_n (pc := 883) h 3 rfl dL_law_883 ?_
  refine g_iload_n (pc := 884) h 0 rfl dL_law_884 ?_
  refine g_iconst (pc := 885) (v := (3 : Int32)) h dL_law_885 (by decide) ?_
  refine g_iadd (pc := 886) h dL_law_886 ?_
  refine g_xld (pc := 887) h hX (vx hi hL 3 (by decide) (by decide)) dL_law_887 ?_
  refine g_kvI (pc := 888) (st := [.int r]) h mX7_sheet cvL_109 ⟨by rw [hX0]; decide, rfl⟩ (by decide) ⟨by decide, by decide⟩ (Nat.le_of_ble_eq_true rfl) rfl rfl dL_law_888 e2 ?_
  refine g_icmp_eqT (pc := 891) (tgt := 1088) h dL_law_891 (by decide) ?_
  exact kk w2 hw2
set_option maxHeartbeats 4000000 in
theorem law_cell (h : Ok X cL_law RL 1000 600000 7302249) (hX0 : n0X X = 0) {b L : Nat} {xs : Nat → Int32} (hX : SX X b L xs) {J : Wd → Prop} (ag : ∀ a0 a1 a2 : Int32, Agree J (fX6_cell 0 a0 a1 a2) (fX7_cell 52 a0 a1 a2)) {i : Nat} (hi : i + 6 ≤ L) (hL : L ≤ 3072) (hw : J w) (kk : ∀ w2, J w2 → G X 66 3747 1088 (lawL b (nI i)) [] w2) : G X 66 3747 896 (lawL b (nI i)) [] w := by
  obtain ⟨r, w1, w2, e1, e2, hw2⟩ := ag (xs (nI i + (1 : Int32)).toNatClampNeg) (xs (nI i + (2 : Int32)).toNatClampNeg) (xs (nI i + (3 : Int32)).toNatClampNeg) w hw
  refine g_aload_n (pc := 896) h 2 rfl dL_law_896 ?_
  refine g_saload_n (pc := 897) h 3 rfl dL_law_897 ?_
  refine g_iload_n (pc := 898) h 0 rfl dL_law_898 ?_
  refine g_iconst (pc := 899) (v := (1 : Int32)) h dL_law_899 (by decide) ?_
  refine g_iadd (pc := 900) h dL_law_900 ?_
  refine g_xld (pc := 901) h hX (vx hi hL 1 (by decide) (by decide)) dL_law_901 ?_
  refine g_saload_n (pc := 902) h 3 rfl dL_law_902 ?_
  refine g_iload_n (pc := 903) h 0 rfl dL_law_903 ?_
  refine g_iconst (pc := 904) (v := (2 : Int32)) h dL_law_904 (by decide) ?_
  refine g_iadd (pc := 905) h dL_law_905 ?_
  refine g_xld (pc := 906) h hX (vx hi hL 2 (by decide) (by decide)) dL_law_906 ?_
  refine g_saload_n (pc := 907) h 3 rfl dL_law_907 ?_
  refine g_iload_n (pc := 908) h 0 rfl dL_law_908 ?_
  refine g_iconst (pc := 909) (v := (3 : Int32)) h dL_law_909 (by decide) ?_
  refine g_iadd (pc := 910) h dL_law_910 ?_
  refine g_xld (pc := 911) h hX (vx hi hL 3 (by decide) (by decide)) dL_law_911 ?_
  refine g_kvI (pc := 912) (st := []) h mX6_cell cvL_110 ⟨by rw [hX0]; decide, rfl⟩ (by decide) ⟨by decide, by decide⟩ (Nat.le_of_ble_eq_true rfl) rfl rfl dL_law_912 e1 ?_
  refine g_aload_n (pc := 915) h 1 rfl dL_law_915 ?_
  refine g_saload_n (pc := 916) h 3 rfl dL_law_916 ?_
  refine g_iload_n (pc := 917) h 0 rfl dL_law_917 ?_
  refine g_iconst (pc := 918) (v := (1 : Int32)) h dL_law_918 (by decide) ?_
  refine g_iadd (pc := 919) h dL_law_919 ?_
  refine g_xld (pc := 920) h hX (vx hi hL 1 (by decide) (by decide)) dL_law_920 ?_
  refine g_saload_n (pc := 921) h 3 rfl dL_law_921 ?_
  refine g_iload_n (pc := 922) h 0 rfl dL_law_922 ?_
  refine g_iconst (pc := 923) (v := (2 : Int32)) h dL_law_923 (by decide) ?_
  refine g_iadd (pc := 924) h dL_law_924 ?_
  refine g_xld (pc := 925) h hX (vx hi hL 2 (by decide) (by decide)) dL_law_925 ?_
  refine g_saload_n (pc := 926) h 3 rfl dL_law_926 ?_
  refine g_iload_n (pc := 927) h 0 rfl dL_law_927 ?_
  refine g_iconst (pc := 928) (v := (3 : Int32)) h dL_law_928 (by decide) ?_
  refine g_iadd (pc := 929) h dL_law_929 ?_
  refine g_xld (pc := 930) h hX (vx hi hL 3 (by decide) (by decide)) dL_law_930 ?_
  refine g_kvI (pc := 931) (st := [.int r]) h mX7_cell cvL_113 ⟨by rw [hX0]; decide, rfl⟩ (by decide) ⟨by decide, by decide⟩ (Nat.le_of_ble_eq_true rfl) rfl rfl dL_law_931 e2 ?_
  refine g_icmp_eqT (pc := 934) (tgt := 1088) h dL_law_934 (by decide) ?_
  exact kk w2 hw2
set_option maxHeartbeats 4000000 in
theorem law_copy (h : Ok X cL_law RL 1000 600000 7302249) (hX0 : n0X X = 0) {b L : Nat} {xs : Nat → Int32} (hX : SX X b L xs) {J : Wd → Prop} (ag : ∀ a0 a1 a2 a3 a4 : Int32, Agree J (fX6_copy 0 a0 a1 a2 a3 a4) (fX7_copy 52 a0 a1 a2 a3 a4)) {i : Nat} (hi : i + 6 ≤ L) (hL : L ≤ 3072) (hw : J w) (kk : ∀ w2, J w2 → G X 66 3747 1088 (lawL b (nI i)) [] w2) : G X 66 3747 939 (lawL b (nI i)) [] w := by
  obtain ⟨r, w1, w2, e1, e2, hw2⟩ := ag (xs (nI i + (1 : Int32)).toNatClampNeg) (xs (nI i + (2 : Int32)).toNatClampNeg) (xs (nI i + (3 : Int32)).toNatClampNeg) (xs (nI i + (4 : Int32)).toNatClampNeg) (xs (nI i + (5 : Int32)).toNatClampNeg) w hw
  refine g_aload_n (pc := 939) h 2 rfl dL_law_939 ?_
  refine g_saload_n (pc := 940) h 3 rfl dL_law_940 ?_
  refine g_iload_n (pc := 941) h 0 rfl dL_law_941 ?_
  refine g_iconst (pc := 942) (v := (1 : Int32)) h dL_law_942 (by decide) ?_
  refine g_iadd (pc := 943) h dL_law_943 ?_
  refine g_xld (pc := 944) h hX (vx hi hL 1 (by decide) (by decide)) dL_law_944 ?_
  refine g_saload_n (pc := 945) h 3 rfl dL_law_945 ?_
  refine g_iload_n (pc := 946) h 0 rfl dL_law_946 ?_
  refine g_iconst (pc := 947) (v := (2 : Int32)) h dL_law_947 (by decide) ?_
  refine g_iadd (pc := 948) h dL_law_948 ?_
  refine g_xld (pc := 949) h hX (vx hi hL 2 (by decide) (by decide)) dL_law_949 ?_
  refine g_saload_n (pc := 950) h 3 rfl dL_law_950 ?_
  refine g_iload_n (pc := 951) h 0 rfl dL_law_951 ?_
  refine g_iconst (pc := 952) (v := (3 : Int32)) h dL_law_952 (by decide) ?_
  refine g_iadd (pc := 953) h dL_law_953 ?_
  refine g_xld (pc := 954) h hX (vx hi hL 3 (by decide) (by decide)) dL_law_954 ?_
  refine g_saload_n (pc := 955) h 3 rfl dL_law_955 ?_
  refine g_iload_n (pc := 956) h 0 rfl dL_law_956 ?_
  refine g_iconst (pc := 957) (v := (4 : Int32)) h dL_law_957 (by decide) ?_
  refine g_iadd (pc := 958) h dL_law_958 ?_
  refine g_xld (pc := 959) h hX (vx hi hL 4 (by decide) (by decide)) dL_law_959 ?_
  refine g_saload_n (pc := 960) h 3 rfl dL_law_960 ?_
  refine g_iload_n (pc := 961) h 0 rfl dL_law_961 ?_
  refine g_iconst (pc := 962) (v := (5 : Int32)) h dL_law_962 (by decide) ?_
  refine g_iadd (pc := 963) h dL_law_963 ?_
  refine g_xld (pc := 964) h hX (vx hi hL 5 (by decide) (by decide)) dL_law_964 ?_
  refine g_kvI (pc := 965) (st := []) h mX6_copy cvL_114 ⟨by rw [hX0]; decide, rfl⟩ (by decide) ⟨by decide, by decide⟩ (Nat.le_of_ble_eq_true rfl) rfl rfl dL_law_965 e1 ?_
  refine g_aload_n (pc := 968) h 1 rfl dL_law_968 ?_
  refine g_saload_n (pc := 969) h 3 rfl dL_law_969 ?_
  refine g_iload_n (pc := 970) h 0 rfl dL_law_970 ?_
  refine g_iconst (pc := 971) (v := (1 : Int32)) h dL_law_971 (by decide) ?_
  refine g_iadd (pc := 972) h dL_law_972 ?_
  refine g_xld (pc := 973) h hX (vx hi hL 1 (by decide) (by decide)) dL_law_973 ?_
  refine g_saload_n (pc := 974) h 3 rfl dL_law_974 ?_
  refine g_iload_n (pc := 975) h 0 rfl dL_law_975 ?_
  refine g_iconst (pc := 976) (v := (2 : Int32)) h dL_law_976 (by decide) ?_
  refine g_iadd (pc := 977) h dL_law_977 ?_
  refine g_xld (pc := 978) h hX (vx hi hL 2 (by decide) (by decide)) dL_law_978 ?_
  refine g_saload_n (pc := 979) h 3 rfl dL_law_979 ?_
  refine g_iload_n (pc := 980) h 0 rfl dL_law_980 ?_
  refine g_iconst (pc := 981) (v := (3 : Int32)) h dL_law_981 (by decide) ?_
  refine g_iadd (pc := 982) h dL_law_982 ?_
  refine g_xld (pc := 983) h hX (vx hi hL 3 (by decide) (by decide)) dL_law_983 ?_
  refine g_saload_n (pc := 984) h 3 rfl dL_law_984 ?_
  refine g_iload_n (pc := 985) h 0 rfl dL_law_985 ?_
  refine g_iconst (pc := 986) (v := (4 : Int32)) h dL_law_986 (by decide) ?_
  refine g_iadd (pc := 987) h dL_law_987 ?_
  refine g_xld (pc := 988) h hX (vx hi hL 4 (by decide) (by decide)) dL_law_988 ?_
  refine g_saload_n (pc := 989) h 3 rfl dL_law_989 ?_
  refine g_iload_n (pc := 990) h 0 rfl dL_law_990 ?_
  refine g_iconst (pc := 991) (v := (5 : Int32)) h dL_law_991 (by decide) ?_
  refine g_iadd (pc := 992) h dL_law_992 ?_
  refine g_xld (pc := 993) h hX (vx hi hL 5 (by decide) (by decide)) dL_law_993 ?_
  refine g_kvI (pc := 994) (st := [.int r]) h mX7_copy cvL_118 ⟨by rw [hX0]; decide, rfl⟩ (by decide) ⟨by decide, by decide⟩ (Nat.le_of_ble_eq_true rfl) rfl rfl dL_law_994 e2 ?_
  refine g_icmp_eqT (pc := 997) (tgt := 1088) h dL_law_997 (by decide) ?_
  exact kk w2 hw2
set_option maxHeartbeats 4000000 in
theorem law_walkers (h : Ok X cL_law RL 1000 600000 7302249) (hX0 : n0X X = 0) {b L : Nat} {xs : Nat → Int32} (hX : SX X b L xs) {J : Wd → Prop} (ag : ∀ a0 a1 a2 a3 : Int32, Agree J (fX6_walkers 0 a0 a1 a2 a3) (fX7_walkers 52 a0 a1 a2 a3)) {i : Nat} (hi : i + 6 ≤ L) (hL : L ≤ 3072) (hw : J w) (kk : ∀ w2, J w2 → G X 66 3747 1088 (lawL b (nI i)) [] w2) : G X 66 3747 1002 (lawL b (nI i)) [] w := by
  obtain ⟨r, w1, w2, e1, e2, hw2⟩ := ag (xs (nI i + (1 : Int32)).toNatClampNeg) (xs (nI i + (2 : Int32)).toNatClampNeg) (xs (nI i + (3 : Int32)).toNatClampNeg) (xs (nI i + (4 : Int32)).toNatClampNeg) w hw
  refine g_aload_n (pc := 1002) h 2 rfl dL_law_1002 ?_
  refine g_saload_n (pc := 1003) h 3 rfl dL_law_1003 ?_
  refine g_iload_n (pc := 1004) h 0 rfl dL_law_1004 ?_
  refine g_iconst (pc := 1005) (v := (1 : Int32)) h dL_law_1005 (by decide) ?_
  refine g_iadd (pc := 1006) h dL_law_1006 ?_
  refine g_xld (pc := 1007) h hX (vx hi hL 1 (by decide) (by decide)) dL_law_1007 ?_
  refine g_saload_n (pc := 1008) h 3 rfl dL_law_1008 ?_
  refine g_iload_n (pc := 1009) h 0 rfl dL_law_1009 ?_
  refine g_iconst (pc := 1010) (v := (2 : Int32)) h dL_law_1010 (by decide) ?_
  refine g_iadd (pc := 1011) h dL_law_1011 ?_
  refine g_xld (pc := 1012) h hX (vx hi hL 2 (by decide) (by decide)) dL_law_1012 ?_
  refine g_saload_n (pc := 1013) h 3 rfl dL_law_1013 ?_
  refine g_iload_n (pc := 1014) h 0 rfl dL_law_1014 ?_
  refine g_iconst (pc := 1015) (v := (3 : Int32)) h dL_law_1015 (by decide) ?_
  refine g_iadd (pc := 1016) h dL_law_1016 ?_
  refine g_xld (pc := 1017) h hX (vx hi hL 3 (by decide) (by decide)) dL_law_1017 ?_
  refine g_saload_n (pc := 1018) h 3 rfl dL_law_1018 ?_
  refine g_iload_n (pc := 1019) h 0 rfl dL_law_1019 ?_
  refine g_iconst (pc := 1020) (v := (4 : Int32)) h dL_law_1020 (by decide) ?_
  refine g_iadd (pc := 1021) h dL_law_1021 ?_
  refine g_xld (pc := 1022) h hX (vx hi hL 4 (by decide) (by decide)) dL_law_1022 ?_
  refine g_kvI (pc := 1023) (st := []) h mX6_walkers cvL_119 ⟨by rw [hX0]; decide, rfl⟩ (by decide) ⟨by decide, by decide⟩ (Nat.le_of_ble_eq_true rfl) rfl rfl dL_law_1023 e1 ?_
  refine g_aload_n (pc := 1026) h 1 rfl dL_law_1026 ?_
  refine g_saload_n (pc := 1027) h 3 rfl dL_law_1027 ?_
  refine g_iload_n (pc := 1028) h 0 rfl dL_law_1028 ?_
  refine g_iconst (pc := 1029) (v := (1 : Int32)) h dL_law_1029 (by decide) ?_
  refine g_iadd (pc := 1030) h dL_law_1030 ?_
  refine g_xld (pc := 1031) h hX (vx hi hL 1 (by decide) (by decide)) dL_law_1031 ?_
  refine g_saload_n (pc := 1032) h 3 rfl dL_law_1032 ?_
  refine g_iload_n (pc := 1033) h 0 rfl dL_law_1033 ?_
  refine g_iconst (pc := 1034) (v := (2 : Int32)) h dL_law_1034 (by decide) ?_
  refine g_iadd (pc := 1035) h dL_law_1035 ?_
  refine g_xld (pc := 1036) h hX (vx hi hL 2 (by decide) (by decide)) dL_law_1036 ?_
  refine g_saload_n (pc := 1037) h 3 rfl dL_law_1037 ?_
  refine g_iload_n (pc := 1038) h 0 rfl dL_law_1038 ?_
  refine g_iconst (pc := 1039) (v := (3 : Int32)) h dL_law_1039 (by decide) ?_
  refine g_iadd (pc := 1040) h dL_law_1040 ?_
  refine g_xld (pc := 1041) h hX (vx hi hL 3 (by decide) (by decide)) dL_law_1041 ?_
  refine g_saload_n (pc := 1042) h 3 rfl dL_law_1042 ?_
  refine g_iload_n (pc := 1043) h 0 rfl dL_law_1043 ?_
  refine g_iconst (pc := 1044) (v := (4 : Int32)) h dL_law_1044 (by decide) ?_
  refine g_iadd (pc := 1045) h dL_law_1045 ?_
  refine g_xld (pc := 1046) h hX (vx hi hL 4 (by decide) (by decide)) dL_law_1046 ?_
  refine g_kvI (pc := 1047) (st := [.int r]) h mX7_walkers cvL_123 ⟨by rw [hX0]; decide, rfl⟩ (by decide) ⟨by decide, by decide⟩ (Nat.le_of_ble_eq_true rfl) rfl rfl dL_law_1047 e2 ?_
  refine g_icmp_eqT (pc := 1050) (tgt := 1088) h dL_law_1050 (by decide) ?_
  exact kk w2 hw2
set_option maxHeartbeats 4000000 in
theorem law_taken (h : Ok X cL_law RL 1000 600000 7302249) (hX0 : n0X X = 0) {b L : Nat} {xs : Nat → Int32} (hX : SX X b L xs) {J : Wd → Prop} (ag : ∀ a0 a1 : Int32, Agree J (fX6_taken 0 a0 a1) (fX7_taken 52 a0 a1)) {i : Nat} (hi : i + 6 ≤ L) (hL : L ≤ 3072) (hw : J w) (kk : ∀ w2, J w2 → G X 66 3747 1088 (lawL b (nI i)) [] w2) : G X 66 3747 1055 (lawL b (nI i)) [] w := by
  obtain ⟨r, w1, w2, e1, e2, hw2⟩ := ag (xs (nI i + (1 : Int32)).toNatClampNeg) (xs (nI i + (2 : Int32)).toNatClampNeg) w hw
  refine g_aload_n (pc := 1055) h 2 rfl dL_law_1055 ?_
  refine g_saload_n (pc := 1056) h 3 rfl dL_law_1056 ?_
  refine g_iload_n (pc := 1057) h 0 rfl dL_law_1057 ?_
  refine g_iconst (pc := 1058) (v := (1 : Int32)) h dL_law_1058 (by decide) ?_
  refine g_iadd (pc := 1059) h dL_law_1059 ?_
  refine g_xld (pc := 1060) h hX (vx hi hL 1 (by decide) (by decide)) dL_law_1060 ?_
  refine g_saload_n (pc := 1061) h 3 rfl dL_law_1061 ?_
  refine g_iload_n (pc := 1062) h 0 rfl dL_law_1062 ?_
  refine g_iconst (pc := 1063) (v := (2 : Int32)) h dL_law_1063 (by decide) ?_
  refine g_iadd (pc := 1064) h dL_law_1064 ?_
  refine g_xld (pc := 1065) h hX (vx hi hL 2 (by decide) (by decide)) dL_law_1065 ?_
  refine g_kvI (pc := 1066) (st := []) h mX6_taken cvL_124 ⟨by rw [hX0]; decide, rfl⟩ (by decide) ⟨by decide, by decide⟩ (Nat.le_of_ble_eq_true rfl) rfl rfl dL_law_1066 e1 ?_
  refine g_aload_n (pc := 1069) h 1 rfl dL_law_1069 ?_
  refine g_saload_n (pc := 1070) h 3 rfl dL_law_1070 ?_
  refine g_iload_n (pc := 1071) h 0 rfl dL_law_1071 ?_
  refine g_iconst (pc := 1072) (v := (1 : Int32)) h dL_law_1072 (by decide) ?_
  refine g_iadd (pc := 1073) h dL_law_1073 ?_
  refine g_xld (pc := 1074) h hX (vx hi hL 1 (by decide) (by decide)) dL_law_1074 ?_
  refine g_saload_n (pc := 1075) h 3 rfl dL_law_1075 ?_
  refine g_iload_n (pc := 1076) h 0 rfl dL_law_1076 ?_
  refine g_iconst (pc := 1077) (v := (2 : Int32)) h dL_law_1077 (by decide) ?_
  refine g_iadd (pc := 1078) h dL_law_1078 ?_
  refine g_xld (pc := 1079) h hX (vx hi hL 2 (by decide) (by decide)) dL_law_1079 ?_
  refine g_kvI (pc := 1080) (st := [.int r]) h mX7_taken cvL_127 ⟨by rw [hX0]; decide, rfl⟩ (by decide) ⟨by decide, by decide⟩ (Nat.le_of_ble_eq_true rfl) rfl rfl dL_law_1080 e2 ?_
  refine g_icmp_eqT (pc := 1083) (tgt := 1088) h dL_law_1083 (by decide) ?_
  exact kk w2 hw2
/-- every call agrees -/
def AllAgree (J : Wd → Prop) : Prop := (∀ a0 a1 a2 : Int32, Agree J (fX6_set 0 a0 a1 a2) (fX7_set 52 a0 a1 a2)) ∧ (∀ a0 a1 a2 : Int32, Agree J (fX6_walker 0 a0 a1 a2) (fX7_walker 52 a0 a1 a2)) ∧ (∀ a0 a1 : Int32, Agree J (fX6_told 0 a0 a1) (fX7_told 52 a0 a1)) ∧ (∀ a0 : Int32, Agree J (fX6_feed 0 a0) (fX7_feed 52 a0)) ∧ (Agree J (fX6_text 0) (fX7_text 52)) ∧ (∀ a0 : Int32, Agree J (fX6_force 0 a0) (fX7_force 52 a0)) ∧ (Agree J (fX6_day 0) (fX7_day 52)) ∧ (∀ a0 a1 a2 : Int32, Agree J (fX6_run 0 a0 a1 a2) (fX7_run 52 a0 a1 a2)) ∧ (∀ a0 : Int32, Agree J (fX6_mend 0 a0) (fX7_mend 52 a0)) ∧ (∀ a0 a1 a2 : Int32, Agree J (fX6_far 0 a0 a1 a2) (fX7_far 52 a0 a1 a2)) ∧ (∀ a0 a1 a2 : Int32, Agree J (fX6_least 0 a0 a1 a2) (fX7_least 52 a0 a1 a2)) ∧ (∀ a0 a1 a2 : Int32, Agree J (fX6_heaviest 0 a0 a1 a2) (fX7_heaviest 52 a0 a1 a2)) ∧ (∀ a0 a1 : Int32, Agree J (fX6_away 0 a0 a1) (fX7_away 52 a0 a1)) ∧ (∀ a0 a1 : Int32, Agree J (fX6_keeper 0 a0 a1) (fX7_keeper 52 a0 a1)) ∧ (∀ a0 a1 : Int32, Agree J (fX6_spare 0 a0 a1) (fX7_spare 52 a0 a1)) ∧ (∀ a0 a1 a2 : Int32, Agree J (fX6_tells 0 a0 a1 a2) (fX7_tells 52 a0 a1 a2)) ∧ (∀ a0 a1 a2 : Int32, Agree J (fX6_film 0 a0 a1 a2) (fX7_film 52 a0 a1 a2)) ∧ (∀ a0 a1 : Int32, Agree J (fX6_drawn 0 a0 a1) (fX7_drawn 52 a0 a1)) ∧ (∀ a0 a1 a2 : Int32, Agree J (fX6_chance 0 a0 a1 a2) (fX7_chance 52 a0 a1 a2)) ∧ (Agree J (fX6_image 0) (fX7_image 52)) ∧ (Agree J (fX6_back 0) (fX7_back 52)) ∧ (∀ a0 : Int32, Agree J (fX6_count 0 a0) (fX7_count 52 a0)) ∧ (∀ a0 a1 a2 : Int32, Agree J (fX6_sheet 0 a0 a1 a2) (fX7_sheet 52 a0 a1 a2)) ∧ (∀ a0 a1 a2 : Int32, Agree J (fX6_cell 0 a0 a1 a2) (fX7_cell 52 a0 a1 a2)) ∧ (∀ a0 a1 a2 a3 a4 : Int32, Agree J (fX6_copy 0 a0 a1 a2 a3 a4) (fX7_copy 52 a0 a1 a2 a3 a4)) ∧ (∀ a0 a1 a2 a3 : Int32, Agree J (fX6_walkers 0 a0 a1 a2 a3) (fX7_walkers 52 a0 a1 a2 a3)) ∧ (∀ a0 a1 : Int32, Agree J (fX6_taken 0 a0 a1) (fX7_taken 52 a0 a1))
set_option maxHeartbeats 4000000 in
theorem law_loop (h : Ok X cL_law RL 1000 600000 7302249) (hX0 : n0X X = 0) (hnL : nLX X = 4) {b L : Nat} {xs : Nat → Int32} (hX : SX X b L xs) {J : Wd → Prop} (hA : AllAgree J) (hL : L ≤ 3072) (kend : ∀ w lv, G X 66 3747 1094 lv [] w) : ∀ (fu i : Nat) (w : Wd), i ≤ L + 6 → L + 7 ≤ i + fu → J w → G X 66 3747 18 (lawL b (nI i)) [] w := by
  have hj : ∀ j, j < 4 → j < nLX X := fun j q => by rw [hnL]; exact q
  intro fu
  induction fu with
  | zero => intro i w h1 h2; exact absurd h2 (by omega)
  | succ fu ih =>
    intro i w h1 h2 hw
    have KK : i + 6 ≤ L → ∀ w2, J w2 → G X 66 3747 1088 (lawL b (nI i)) [] w2 := by
      intro hi w2 hw2
      refine g_iinc (pc := 1088) (lv' := [(3, .inl (nI i + (6 : Int32))), (2, .inr (.inl (some 52))), (1, .inr (.inl (some 0))), (0, .inr (.inr (.inr (sref b))))]) h 0 rfl dL_law_1088 (dv := (6 : Int32)) (by decide) (hj 3 (by decide)) rfl ?_
      refine g_goto (pc := 1091) (tgt := 18) h dL_law_1091 (by decide) ?_
      rw [show (6 : Int32) = nI 6 by decide, nI_add]
      exact ih (i + 6) w2 (by omega) (by omega) hw2
    refine g_iload_n (pc := 18) h 0 rfl dL_law_18 ?_
    refine g_saload_n (pc := 19) h 3 rfl dL_law_19 ?_
    refine g_xlen (pc := 20) h hX dL_law_20 ?_
    refine g_bipush (pc := 21) (v := (6 : Int32)) h dL_law_21 (by decide) ?_
    refine g_isub (pc := 23) h dL_law_23 ?_
    refine g_icmp_gtB (pc := 24) (tgt := 1094) h dL_law_24 (by decide) (fun c => ?_) (fun c => ?_)
    · exact kend _ _
    have hi : i + 6 ≤ L := by
      by_cases hq : i + 6 ≤ L
      · exact hq
      · refine absurd ?_ c
        show nI L - (6 : Int32) < nI i
        rw [show (6 : Int32) = nI 6 by decide]
        by_cases h6 : 6 ≤ L
        · rw [pk_sub h6]
          exact nI_lt (by omega) (by omega)
        · have h7 := pk_sneg (a := L) (b := 6) (by decide) (by omega)
          have h8 := nI_pos' (n := i) (by omega)
          have h7 := Int32.lt_iff_toInt_lt.mp h7
          have h8 := Int32.le_iff_toInt_le.mp h8
          exact Int32.lt_iff_toInt_lt.mpr (by omega)
    replace KK := KK hi
    refine g_saload_n (pc := 27) h 3 rfl dL_law_27 ?_
    refine g_iload_n (pc := 28) h 0 rfl dL_law_28 ?_
    refine g_xld (pc := 29) h hX (vp_in_nI (by omega) (by omega)) dL_law_29 ?_
    refine g_bipush (pc := 30) (v := (31 : Int32)) h dL_law_30 (by decide) ?_
    refine g_iand (pc := 32) h dL_law_32 ?_
    refine g_swB (pc := 33) (off := 123) (tgt := 156) h (0 : Int32) dL_law_33 (by decide) (by decide) ?_ (fun c_0 => ?_)
    · exact law_set h hX0 hX hA.1 (by omega) hL hw KK
    refine g_swB (pc := 33) (off := 166) (tgt := 199) h (1 : Int32) dL_law_33 (by decide) (by decide) ?_ (fun c_1 => ?_)
    · exact law_walker h hX0 hX hA.2.1 (by omega) hL hw KK
    refine g_swB (pc := 33) (off := 209) (tgt := 242) h (2 : Int32) dL_law_33 (by decide) (by decide) ?_ (fun c_2 => ?_)
    · exact law_told h hX0 hX hA.2.2.1 (by omega) hL hw KK
    refine g_swB (pc := 33) (off := 242) (tgt := 275) h (3 : Int32) dL_law_33 (by decide) (by decide) ?_ (fun c_3 => ?_)
    · exact law_feed h hX0 hX hA.2.2.2.1 (by omega) hL hw KK
    refine g_swB (pc := 33) (off := 265) (tgt := 298) h (4 : Int32) dL_law_33 (by decide) (by decide) ?_ (fun c_4 => ?_)
    · exact law_text h hX0 hX hA.2.2.2.2.1 (by omega) hL hw KK
    refine g_swB (pc := 33) (off := 278) (tgt := 311) h (5 : Int32) dL_law_33 (by decide) (by decide) ?_ (fun c_5 => ?_)
    · exact law_force h hX0 hX hA.2.2.2.2.2.1 (by omega) hL hw KK
    refine g_swB (pc := 33) (off := 301) (tgt := 334) h (6 : Int32) dL_law_33 (by decide) (by decide) ?_ (fun c_6 => ?_)
    · exact law_day h hX0 hX hA.2.2.2.2.2.2.1 (by omega) hL hw KK
    refine g_swB (pc := 33) (off := 314) (tgt := 347) h (7 : Int32) dL_law_33 (by decide) (by decide) ?_ (fun c_7 => ?_)
    · exact law_run h hX0 hX hA.2.2.2.2.2.2.2.1 (by omega) hL hw KK
    refine g_swB (pc := 33) (off := 357) (tgt := 390) h (8 : Int32) dL_law_33 (by decide) (by decide) ?_ (fun c_8 => ?_)
    · exact law_mend h hX0 hX hA.2.2.2.2.2.2.2.2.1 (by omega) hL hw KK
    refine g_swB (pc := 33) (off := 380) (tgt := 413) h (9 : Int32) dL_law_33 (by decide) (by decide) ?_ (fun c_9 => ?_)
    · exact law_far h hX0 hX hA.2.2.2.2.2.2.2.2.2.1 (by omega) hL hw KK
    refine g_swB (pc := 33) (off := 423) (tgt := 456) h (10 : Int32) dL_law_33 (by decide) (by decide) ?_ (fun c_10 => ?_)
    · exact law_least h hX0 hX hA.2.2.2.2.2.2.2.2.2.2.1 (by omega) hL hw KK
    refine g_swB (pc := 33) (off := 466) (tgt := 499) h (11 : Int32) dL_law_33 (by decide) (by decide) ?_ (fun c_11 => ?_)
    · exact law_heaviest h hX0 hX hA.2.2.2.2.2.2.2.2.2.2.2.1 (by omega) hL hw KK
    refine g_swB (pc := 33) (off := 509) (tgt := 542) h (12 : Int32) dL_law_33 (by decide) (by decide) ?_ (fun c_12 => ?_)
    · exact law_away h hX0 hX hA.2.2.2.2.2.2.2.2.2.2.2.2.1 (by omega) hL hw KK
    refine g_swB (pc := 33) (off := 542) (tgt := 575) h (13 : Int32) dL_law_33 (by decide) (by decide) ?_ (fun c_13 => ?_)
    · exact law_keeper h hX0 hX hA.2.2.2.2.2.2.2.2.2.2.2.2.2.1 (by omega) hL hw KK
    refine g_swB (pc := 33) (off := 575) (tgt := 608) h (14 : Int32) dL_law_33 (by decide) (by decide) ?_ (fun c_14 => ?_)
    · exact law_spare h hX0 hX hA.2.2.2.2.2.2.2.2.2.2.2.2.2.2.1 (by omega) hL hw KK
    refine g_swB (pc := 33) (off := 608) (tgt := 641) h (15 : Int32) dL_law_33 (by decide) (by decide) ?_ (fun c_15 => ?_)
    · exact law_tells h hX0 hX hA.2.2.2.2.2.2.2.2.2.2.2.2.2.2.2.1 (by omega) hL hw KK
    refine g_swB (pc := 33) (off := 651) (tgt := 684) h (16 : Int32) dL_law_33 (by decide) (by decide) ?_ (fun c_16 => ?_)
    · exact law_film h hX0 hX hA.2.2.2.2.2.2.2.2.2.2.2.2.2.2.2.2.1 (by omega) hL hw KK
    refine g_swB (pc := 33) (off := 694) (tgt := 727) h (17 : Int32) dL_law_33 (by decide) (by decide) ?_ (fun c_17 => ?_)
    · exact law_drawn h hX0 hX hA.2.2.2.2.2.2.2.2.2.2.2.2.2.2.2.2.2.1 (by omega) hL hw KK
    refine g_swB (pc := 33) (off := 727) (tgt := 760) h (18 : Int32) dL_law_33 (by decide) (by decide) ?_ (fun c_18 => ?_)
    · exact law_chance h hX0 hX hA.2.2.2.2.2.2.2.2.2.2.2.2.2.2.2.2.2.2.1 (by omega) hL hw KK
    refine g_swB (pc := 33) (off := 771) (tgt := 804) h (19 : Int32) dL_law_33 (by decide) (by decide) ?_ (fun c_19 => ?_)
    · exact law_image h hX0 hX hA.2.2.2.2.2.2.2.2.2.2.2.2.2.2.2.2.2.2.2.1 (by omega) hL hw KK
    refine g_swB (pc := 33) (off := 784) (tgt := 817) h (20 : Int32) dL_law_33 (by decide) (by decide) ?_ (fun c_20 => ?_)
    · exact law_back h hX0 hX hA.2.2.2.2.2.2.2.2.2.2.2.2.2.2.2.2.2.2.2.2.1 (by omega) hL hw KK
    refine g_swB (pc := 33) (off := 797) (tgt := 830) h (21 : Int32) dL_law_33 (by decide) (by decide) ?_ (fun c_21 => ?_)
    · exact law_count h hX0 hX hA.2.2.2.2.2.2.2.2.2.2.2.2.2.2.2.2.2.2.2.2.2.1 (by omega) hL hw KK
    refine g_swB (pc := 33) (off := 820) (tgt := 853) h (22 : Int32) dL_law_33 (by decide) (by decide) ?_ (fun c_22 => ?_)
    · exact law_sheet h hX0 hX hA.2.2.2.2.2.2.2.2.2.2.2.2.2.2.2.2.2.2.2.2.2.2.1 (by omega) hL hw KK
    refine g_swB (pc := 33) (off := 863) (tgt := 896) h (23 : Int32) dL_law_33 (by decide) (by decide) ?_ (fun c_23 => ?_)
    · exact law_cell h hX0 hX hA.2.2.2.2.2.2.2.2.2.2.2.2.2.2.2.2.2.2.2.2.2.2.2.1 (by omega) hL hw KK
    refine g_swB (pc := 33) (off := 906) (tgt := 939) h (24 : Int32) dL_law_33 (by decide) (by decide) ?_ (fun c_24 => ?_)
    · exact law_copy h hX0 hX hA.2.2.2.2.2.2.2.2.2.2.2.2.2.2.2.2.2.2.2.2.2.2.2.2.1 (by omega) hL hw KK
    refine g_swB (pc := 33) (off := 969) (tgt := 1002) h (25 : Int32) dL_law_33 (by decide) (by decide) ?_ (fun c_25 => ?_)
    · exact law_walkers h hX0 hX hA.2.2.2.2.2.2.2.2.2.2.2.2.2.2.2.2.2.2.2.2.2.2.2.2.2.1 (by omega) hL hw KK
    refine g_swB (pc := 33) (off := 1022) (tgt := 1055) h (26 : Int32) dL_law_33 (by decide) (by decide) ?_ (fun c_26 => ?_)
    · exact law_taken h hX0 hX hA.2.2.2.2.2.2.2.2.2.2.2.2.2.2.2.2.2.2.2.2.2.2.2.2.2.2 (by omega) hL hw KK
    refine g_swOut (pc := 33) (tgt := 1088) h dL_law_33 (sw_out (q := 27) (fun j hj9 => ?_)) (by decide) ?_
    · match j, hj9 with
      | 0, _ => exact c_0
      | 1, _ => exact c_1
      | 2, _ => exact c_2
      | 3, _ => exact c_3
      | 4, _ => exact c_4
      | 5, _ => exact c_5
      | 6, _ => exact c_6
      | 7, _ => exact c_7
      | 8, _ => exact c_8
      | 9, _ => exact c_9
      | 10, _ => exact c_10
      | 11, _ => exact c_11
      | 12, _ => exact c_12
      | 13, _ => exact c_13
      | 14, _ => exact c_14
      | 15, _ => exact c_15
      | 16, _ => exact c_16
      | 17, _ => exact c_17
      | 18, _ => exact c_18
      | 19, _ => exact c_19
      | 20, _ => exact c_20
      | 21, _ => exact c_21
      | 22, _ => exact c_22
      | 23, _ => exact c_23
      | 24, _ => exact c_24
      | 25, _ => exact c_25
      | 26, _ => exact c_26
      | j + 27, hj9 => exact absurd hj9 (by omega)
    · exact KK w hw
