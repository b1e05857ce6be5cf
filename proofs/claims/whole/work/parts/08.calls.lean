variable {X : Cx} {cc : ByteArray} {own : String} {d K N k n pc : Nat} {lv : List (Nat × LV)} {st : List Value} {w : Wd} {β : Type} {enc : β → Value}
def YOk (y : MethodName) (bytes : ByteArray) (mL : Nat) (ret : Option FieldType) (na : Nat) : Prop := (y.cls ≠ "java/lang/invoke/MethodHandle" ∧ y.cls ≠ "java/lang/invoke/VarHandle" ∧ (parseMethodDescriptor y.desc).map (fun d => d.parameters.length) = some na) ∧ mL ≤ 45 ∧ Cond.code y bytes mL ret ∈ lw_U ∧ Cond.initialized y.cls ∈ lw_U
/-- what the tables say of a call on an object of kind c -/
def CvOk (own : String) (idx c : Nat) (y : MethodName) (bytes : ByteArray) (mL : Nat) (ret : Option FieldType) (na : Nat) : Prop := YOk y bytes mL ret na ∧ c < 8 ∧ (∃ T NN, vwCl[c]? = some (y.cls, T, NN)) ∧ Cond.methodLink own idx y ∈ lw_U ∧ Cond.instanceMethod y ∈ lw_U ∧ Cond.selects y.cls y y ∈ lw_U
def CsOk (own : String) (idx : Nat) (y : MethodName) (bytes : ByteArray) (mL : Nat) (ret : Option FieldType) (na : Nat) : Prop := YOk y bytes mL ret na ∧ Cond.methodLink own idx y ∈ lw_U ∧ Cond.static y ∈ lw_U
def CnOk (own : String) (idx : Nat) (y : MethodName) (bytes : ByteArray) (mL : Nat) (ret : Option FieldType) (na : Nat) : Prop := YOk y bytes mL ret na ∧ Cond.methodLinkNest own idx y RX6 ∈ nestL ∧ Cond.static y ∈ lw_U
theorem good_code {y : MethodName} {bytes : ByteArray} {mL : Nat} {ret : Option FieldType} (h : Cond.code y bytes mL ret ∈ lw_U) : GoodIn lw_U (.code y bytes mL ret :: lw_U) := fun w hw => by
  rcases List.mem_cons.mp hw with rfl | hw
  · exact lw_goodIn _ h
  · exact lw_goodIn _ hw
theorem good_V {own : String} {idx c : Nat} {y : MethodName} {bytes : ByteArray} {mL na : Nat} {ret : Option FieldType} (h : CvOk own idx c y bytes mL ret na) : GoodIn lw_U (wsV own idx y.cls y (.code y bytes mL ret :: lw_U)) := fun w hw => by
  rcases List.mem_append.mp hw with hw | hw
  · simp only [List.mem_cons, List.not_mem_nil, or_false] at hw
    rcases hw with rfl | rfl | rfl | rfl
    · exact lw_goodIn _ h.2.2.2.1
    · exact lw_goodIn _ h.2.2.2.2.1
    · exact lw_goodIn _ h.2.2.2.2.2
    · exact lw_goodIn _ h.1.2.2.2
  · exact good_code h.1.2.2.1 w hw
theorem good_S {own : String} {idx : Nat} {y : MethodName} {bytes : ByteArray} {mL na : Nat} {ret : Option FieldType} (h : CsOk own idx y bytes mL ret na) : GoodIn lw_U (va_wsS own idx y (.code y bytes mL ret :: lw_U)) := fun w hw => by
  rcases List.mem_append.mp hw with hw | hw
  · simp only [List.mem_cons, List.not_mem_nil, or_false] at hw
    rcases hw with rfl | rfl | rfl
    · exact lw_goodIn _ h.2.1
    · exact lw_goodIn _ h.2.2
    · exact lw_goodIn _ h.1.2.2.2
  · exact good_code h.1.2.2.1 w hw
/-- the callee's start, out of the caller's world -/
theorem pre_ok {Γ : En} {w : Wd} {s U : State} {H : Heap} {locs : List Loc} (hR : Rp Γ w H) (hK : va_K Γ.2.1 vwCl (tysOf Γ) s) (hE : SE Γ s s.heap) (hS : va_S (Ab Γ) s.heap H locs) (hU : U.heap = H) (hW : s.WarmedH U.vm) : Bd Γ w U :=
  ⟨by rw [hU]; exact hR, va_K.moved hW.alike hK, SE_warm hW (by rw [hU]; exact SE_heap hE hS.2.1)⟩
theorem g_cvI (h : Ok X cc own d K N) {dc na mL idx : Nat} {y : MethodName} {bytes : ByteArray} {ret : Option FieldType} {As stk : List Value} {o : Option (Int32 × Wd)} {f : Int32 → Wd → Option (β × Wd)} {a c : Nat} (hM : (a < wn w ∧ kd a = c) → MtI X.1 y bytes mL ret dc 0 0 (rv X.1 (some a) :: As) w o) (hw : CvOk own idx c y bytes mL ret na) (ha : InW X k a c) (hdd : dc + 1 ≤ d) (hkk : k ≤ K ∧ n ≤ N) (hst : (st.map fun v => v.category).sum ≤ 8) (hna : As.length = na) (hstk : stk = As.reverse ++ rv X.1 (some a) :: st) (hd : decode cc pc = .ok (.invokevirtual idx, 3)) (hF : OkR X enc (bnd o f)) (kk : ∀ (r : Int32) (w' : Wd), OkR X enc (f r w') → G X k n (pc + 3) lv (.int r :: st) w') : G X k n pc lv stk w := by
  obtain ⟨r, w', ho, hF2⟩ := bnd_ok hF
  have kk := kk r w' hF2
  obtain ⟨Γ, p, e, R, s, m, args, below, meth, c0, nL, n0, Q, qv⟩ := X
  obtain ⟨hx, hb, hml, hown, hts, hK, hE, hsz, hlk, hRf⟩ := h
  obtain ⟨T, NN, hcl⟩ := hw.2.2.1
  intro H locs ls hR hS hl hn
  have haw : a < wn w := by
    have h1 : a < n0 + k := ha.1
    omega
  have hM := hM ⟨haw, ha.2⟩ r w' ho
  refine va_calli (va_runV (As := As) (rest := st) (b := eb Γ + a) ⟨hx, hb, hml, hown, hts⟩ hM (cwV na hts (good_V hw) rfl rfl rfl ⟨rfl, hw.1.1⟩ ⟨by show dc + 1 ≤ R.frames; omega, by show 8 + (mL + 11) + 64 * dc ≤ R.locals; have := hw.1.2.1; omega⟩) ⟨Bd_blind, va_recv hK hR.2 hcl (ob_at haw ha.2 hw.2.1), fun U hU hW => ⟨rfl, pre_ok hR hK hE hS hU hW⟩⟩ rfl hna hl.1 hstk (lv_room hst) hd ⟨by omega, by omega⟩) hS (fun q _ hq => hq) (fun q hq => hq) (fun r2 u t H1 locs1 ht hvm hw hB hz1 hk1 hS1 => ?_)
  obtain ⟨rfl, rfl⟩ := hw
  rw [ht] at hB
  exact w_size fun hz => kk H1 locs1 ls hB hS1 hl (by have h1 : H.size = eb Γ + wn w := hR.1; have h2 : H1.size = eb Γ + wn u := hB.1; have h3 : H1.size ≤ s.heap.size + k := hz; show n0 + k = wn u; omega)
theorem g_csI (h : Ok X cc own d K N) {dc na mL idx : Nat} {y : MethodName} {bytes : ByteArray} {ret : Option FieldType} {As stk : List Value} {o : Option (Int32 × Wd)} {f : Int32 → Wd → Option (β × Wd)} (hM : MtI X.1 y bytes mL ret dc 0 0 As w o) (hw : CsOk own idx y bytes mL ret na) (hdd : dc + 1 ≤ d) (hkk : k ≤ K ∧ n ≤ N) (hst : (st.map fun v => v.category).sum ≤ 8) (hna : As.length = na) (hstk : stk = As.reverse ++ st) (hd : decode cc pc = .ok (.invokestatic idx, 3)) (hF : OkR X enc (bnd o f)) (kk : ∀ (r : Int32) (w' : Wd), OkR X enc (f r w') → G X k n (pc + 3) lv (.int r :: st) w') : G X k n pc lv stk w := by
  obtain ⟨r, w', ho, hF2⟩ := bnd_ok hF
  have hM := hM r w' ho
  have kk := kk r w' hF2
  obtain ⟨Γ, p, e, R, s, m, args, below, meth, c0, nL, n0, Q, qv⟩ := X
  obtain ⟨hx, hb, hml, hown, hts, hK, hE, hsz, hlk, hRf⟩ := h
  intro H locs ls hR hS hl hn
  refine va_calli (va_runS (As := As) (rest := st) ⟨hx, hb, hml, hown, hts⟩ hM (va_cwS na hts (good_S hw) rfl rfl rfl hw.1.1 ⟨by show dc + 1 ≤ R.frames; omega, by show 8 + (mL + 11) + 64 * dc ≤ R.locals; have := hw.1.2.1; omega⟩) ⟨Bd_blind, fun U hU hW => ⟨rfl, pre_ok hR hK hE hS hU hW⟩⟩ rfl hna hl.1 hstk (lv_room hst) hd ⟨by omega, by omega⟩) hS (fun q _ hq => hq) (fun q hq => hq) (fun r2 u t H1 locs1 ht hvm hw hB hz1 hk1 hS1 => ?_)
  obtain ⟨rfl, rfl⟩ := hw
  rw [ht] at hB
  exact w_size fun hz => kk H1 locs1 ls hB hS1 hl (by have h1 : H.size = eb Γ + wn w := hR.1; have h2 : H1.size = eb Γ + wn u := hB.1; have h3 : H1.size ≤ s.heap.size + k := hz; show n0 + k = wn u; omega)
theorem g_cnI (h : Ok X cc own d K N) {dc na mL idx : Nat} {y : MethodName} {bytes : ByteArray} {ret : Option FieldType} {As stk : List Value} {o : Option (Int32 × Wd)} {f : Int32 → Wd → Option (β × Wd)} (hM : MtI X.1 y bytes mL ret dc 0 0 As w o) (hw : CnOk own idx y bytes mL ret na) (hdd : dc + 1 ≤ d) (hkk : k ≤ K ∧ n ≤ N) (hst : (st.map fun v => v.category).sum ≤ 8) (hna : As.length = na) (hstk : stk = As.reverse ++ st) (hd : decode cc pc = .ok (.invokestatic idx, 3)) (hF : OkR X enc (bnd o f)) (kk : ∀ (r : Int32) (w' : Wd), OkR X enc (f r w') → G X k n (pc + 3) lv (.int r :: st) w') : G X k n pc lv stk w := by
  obtain ⟨r, w', ho, hF2⟩ := bnd_ok hF
  have hM := hM r w' ho
  have kk := kk r w' hF2
  obtain ⟨Γ, p, e, R, s, m, args, below, meth, c0, nL, n0, Q, qv⟩ := X
  obtain ⟨hx, hb, hml, hown, hts, hK, hE, hsz, hlk, hRf⟩ := h
  intro H locs ls hR hS hl hn
  refine va_calli (va_runSN (As := As) (rest := st) ⟨hx, hb, hml, hown, hts⟩ hM ⟨va_cnB na hts (good_code hw.1.2.2.1) rfl rfl rfl (hE.1 _ hw.2.1) (hts _ hw.1.2.2.2) hw.1.1 ⟨by show dc + 1 ≤ R.frames; omega, by show 8 + (mL + 11) + 64 * dc ≤ R.locals; have := hw.1.2.1; omega⟩, hts _ hw.2.2, trivial⟩ ⟨Bd_blind, fun U hU hW => ⟨rfl, pre_ok hR hK hE hS hU hW⟩⟩ rfl hna hl.1 hstk (lv_room hst) hd ⟨by omega, by omega⟩) hS (fun q _ hq => hq) (fun q hq => hq) (fun r2 u t H1 locs1 ht hvm hw hB hz1 hk1 hS1 => ?_)
  obtain ⟨rfl, rfl⟩ := hw
  rw [ht] at hB
  exact w_size fun hz => kk H1 locs1 ls hB hS1 hl (by have h1 : H.size = eb Γ + wn w := hR.1; have h2 : H1.size = eb Γ + wn u := hB.1; have h3 : H1.size ≤ s.heap.size + k := hz; show n0 + k = wn u; omega)
theorem g_cvL (h : Ok X cc own d K N) {dc na mL idx : Nat} {y : MethodName} {bytes : ByteArray} {ret : Option FieldType} {As stk : List Value} {o : Option (Int64 × Wd)} {f : Int64 → Wd → Option (β × Wd)} {a c : Nat} (hM : (a < wn w ∧ kd a = c) → MtL X.1 y bytes mL ret dc 0 0 (rv X.1 (some a) :: As) w o) (hw : CvOk own idx c y bytes mL ret na) (ha : InW X k a c) (hdd : dc + 1 ≤ d) (hkk : k ≤ K ∧ n ≤ N) (hst : (st.map fun v => v.category).sum ≤ 8) (hna : As.length = na) (hstk : stk = As.reverse ++ rv X.1 (some a) :: st) (hd : decode cc pc = .ok (.invokevirtual idx, 3)) (hF : OkR X enc (bnd o f)) (kk : ∀ (r : Int64) (w' : Wd), OkR X enc (f r w') → G X k n (pc + 3) lv (.long r :: st) w') : G X k n pc lv stk w := by
  obtain ⟨r, w', ho, hF2⟩ := bnd_ok hF
  have kk := kk r w' hF2
  obtain ⟨Γ, p, e, R, s, m, args, below, meth, c0, nL, n0, Q, qv⟩ := X
  obtain ⟨hx, hb, hml, hown, hts, hK, hE, hsz, hlk, hRf⟩ := h
  obtain ⟨T, NN, hcl⟩ := hw.2.2.1
  intro H locs ls hR hS hl hn
  have haw : a < wn w := by
    have h1 : a < n0 + k := ha.1
    omega
  have hM := hM ⟨haw, ha.2⟩ r w' ho
  refine va_calll (va_runV (As := As) (rest := st) (b := eb Γ + a) ⟨hx, hb, hml, hown, hts⟩ hM (cwV na hts (good_V hw) rfl rfl rfl ⟨rfl, hw.1.1⟩ ⟨by show dc + 1 ≤ R.frames; omega, by show 8 + (mL + 11) + 64 * dc ≤ R.locals; have := hw.1.2.1; omega⟩) ⟨Bd_blind, va_recv hK hR.2 hcl (ob_at haw ha.2 hw.2.1), fun U hU hW => ⟨rfl, pre_ok hR hK hE hS hU hW⟩⟩ rfl hna hl.1 hstk (lv_room hst) hd ⟨by omega, by omega⟩) hS (fun q _ hq => hq) (fun q hq => hq) (fun r2 u t H1 locs1 ht hvm hw hB hz1 hk1 hS1 => ?_)
  obtain ⟨rfl, rfl⟩ := hw
  rw [ht] at hB
  exact w_size fun hz => kk H1 locs1 ls hB hS1 hl (by have h1 : H.size = eb Γ + wn w := hR.1; have h2 : H1.size = eb Γ + wn u := hB.1; have h3 : H1.size ≤ s.heap.size + k := hz; show n0 + k = wn u; omega)
theorem g_csL (h : Ok X cc own d K N) {dc na mL idx : Nat} {y : MethodName} {bytes : ByteArray} {ret : Option FieldType} {As stk : List Value} {o : Option (Int64 × Wd)} {f : Int64 → Wd → Option (β × Wd)} (hM : MtL X.1 y bytes mL ret dc 0 0 As w o) (hw : CsOk own idx y bytes mL ret na) (hdd : dc + 1 ≤ d) (hkk : k ≤ K ∧ n ≤ N) (hst : (st.map fun v => v.category).sum ≤ 8) (hna : As.length = na) (hstk : stk = As.reverse ++ st) (hd : decode cc pc = .ok (.invokestatic idx, 3)) (hF : OkR X enc (bnd o f)) (kk : ∀ (r : Int64) (w' : Wd), OkR X enc (f r w') → G X k n (pc + 3) lv (.long r :: st) w') : G X k n pc lv stk w := by
  obtain ⟨r, w', ho, hF2⟩ := bnd_ok hF
  have hM := hM r w' ho
  have kk := kk r w' hF2
  obtain ⟨Γ, p, e, R, s, m, args, below, meth, c0, nL, n0, Q, qv⟩ := X
  obtain ⟨hx, hb, hml, hown, hts, hK, hE, hsz, hlk, hRf⟩ := h
  intro H locs ls hR hS hl hn
  refine va_calll (va_runS (As := As) (rest := st) ⟨hx, hb, hml, hown, hts⟩ hM (va_cwS na hts (good_S hw) rfl rfl rfl hw.1.1 ⟨by show dc + 1 ≤ R.frames; omega, by show 8 + (mL + 11) + 64 * dc ≤ R.locals; have := hw.1.2.1; omega⟩) ⟨Bd_blind, fun U hU hW => ⟨rfl, pre_ok hR hK hE hS hU hW⟩⟩ rfl hna hl.1 hstk (lv_room hst) hd ⟨by omega, by omega⟩) hS (fun q _ hq => hq) (fun q hq => hq) (fun r2 u t H1 locs1 ht hvm hw hB hz1 hk1 hS1 => ?_)
  obtain ⟨rfl, rfl⟩ := hw
  rw [ht] at hB
  exact w_size fun hz => kk H1 locs1 ls hB hS1 hl (by have h1 : H.size = eb Γ + wn w := hR.1; have h2 : H1.size = eb Γ + wn u := hB.1; have h3 : H1.size ≤ s.heap.size + k := hz; show n0 + k = wn u; omega)
theorem g_cvQ (h : Ok X cc own d K N) {dc na mL idx : Nat} {y : MethodName} {bytes : ByteArray} {ret : Option FieldType} {As stk : List Value} {o : Option (Option Nat × Wd)} {f : Option Nat → Wd → Option (β × Wd)} {a c : Nat} (hM : (a < wn w ∧ kd a = c) → MtQ X.1 y bytes mL ret dc 0 0 (rv X.1 (some a) :: As) w o) (hw : CvOk own idx c y bytes mL ret na) (ha : InW X k a c) (hdd : dc + 1 ≤ d) (hkk : k ≤ K ∧ n ≤ N) (hst : (st.map fun v => v.category).sum ≤ 8) (hna : As.length = na) (hstk : stk = As.reverse ++ rv X.1 (some a) :: st) (hd : decode cc pc = .ok (.invokevirtual idx, 3)) (hF : OkR X enc (bnd o f)) (kk : ∀ (r : Option Nat) (w' : Wd), OkR X enc (f r w') → G X k n (pc + 3) lv (rv X.1 r :: st) w') : G X k n pc lv stk w := by
  obtain ⟨r, w', ho, hF2⟩ := bnd_ok hF
  have kk := kk r w' hF2
  obtain ⟨Γ, p, e, R, s, m, args, below, meth, c0, nL, n0, Q, qv⟩ := X
  obtain ⟨hx, hb, hml, hown, hts, hK, hE, hsz, hlk, hRf⟩ := h
  obtain ⟨T, NN, hcl⟩ := hw.2.2.1
  intro H locs ls hR hS hl hn
  have haw : a < wn w := by
    have h1 : a < n0 + k := ha.1
    omega
  have hM := hM ⟨haw, ha.2⟩ r w' ho
  refine va_callq (va_runV (As := As) (rest := st) (b := eb Γ + a) ⟨hx, hb, hml, hown, hts⟩ hM (cwV na hts (good_V hw) rfl rfl rfl ⟨rfl, hw.1.1⟩ ⟨by show dc + 1 ≤ R.frames; omega, by show 8 + (mL + 11) + 64 * dc ≤ R.locals; have := hw.1.2.1; omega⟩) ⟨Bd_blind, va_recv hK hR.2 hcl (ob_at haw ha.2 hw.2.1), fun U hU hW => ⟨rfl, pre_ok hR hK hE hS hU hW⟩⟩ rfl hna hl.1 hstk (lv_room hst) hd ⟨by omega, by omega⟩) hS (fun q _ hq => hq) (fun q hq => hq) (fun r2 u t H1 locs1 ht hvm hw hB hz1 hk1 hS1 => ?_)
  obtain ⟨rfl, rfl⟩ := hw
  rw [ht] at hB
  exact w_size fun hz => kk H1 locs1 ls hB hS1 hl (by have h1 : H.size = eb Γ + wn w := hR.1; have h2 : H1.size = eb Γ + wn u := hB.1; have h3 : H1.size ≤ s.heap.size + k := hz; show n0 + k = wn u; omega)
theorem g_csQ (h : Ok X cc own d K N) {dc na mL idx : Nat} {y : MethodName} {bytes : ByteArray} {ret : Option FieldType} {As stk : List Value} {o : Option (Option Nat × Wd)} {f : Option Nat → Wd → Option (β × Wd)} (hM : MtQ X.1 y bytes mL ret dc 0 0 As w o) (hw : CsOk own idx y bytes mL ret na) (hdd : dc + 1 ≤ d) (hkk : k ≤ K ∧ n ≤ N) (hst : (st.map fun v => v.category).sum ≤ 8) (hna : As.length = na) (hstk : stk = As.reverse ++ st) (hd : decode cc pc = .ok (.invokestatic idx, 3)) (hF : OkR X enc (bnd o f)) (kk : ∀ (r : Option Nat) (w' : Wd), OkR X enc (f r w') → G X k n (pc + 3) lv (rv X.1 r :: st) w') : G X k n pc lv stk w := by
  obtain ⟨r, w', ho, hF2⟩ := bnd_ok hF
  have hM := hM r w' ho
  have kk := kk r w' hF2
  obtain ⟨Γ, p, e, R, s, m, args, below, meth, c0, nL, n0, Q, qv⟩ := X
  obtain ⟨hx, hb, hml, hown, hts, hK, hE, hsz, hlk, hRf⟩ := h
  intro H locs ls hR hS hl hn
  refine va_callq (va_runS (As := As) (rest := st) ⟨hx, hb, hml, hown, hts⟩ hM (va_cwS na hts (good_S hw) rfl rfl rfl hw.1.1 ⟨by show dc + 1 ≤ R.frames; omega, by show 8 + (mL + 11) + 64 * dc ≤ R.locals; have := hw.1.2.1; omega⟩) ⟨Bd_blind, fun U hU hW => ⟨rfl, pre_ok hR hK hE hS hU hW⟩⟩ rfl hna hl.1 hstk (lv_room hst) hd ⟨by omega, by omega⟩) hS (fun q _ hq => hq) (fun q hq => hq) (fun r2 u t H1 locs1 ht hvm hw hB hz1 hk1 hS1 => ?_)
  obtain ⟨rfl, rfl⟩ := hw
  rw [ht] at hB
  exact w_size fun hz => kk H1 locs1 ls hB hS1 hl (by have h1 : H.size = eb Γ + wn w := hR.1; have h2 : H1.size = eb Γ + wn u := hB.1; have h3 : H1.size ≤ s.heap.size + k := hz; show n0 + k = wn u; omega)
theorem g_cvV (h : Ok X cc own d K N) {dc na mL idx : Nat} {y : MethodName} {bytes : ByteArray} {ret : Option FieldType} {As stk : List Value} {o : Option (Unit × Wd)} {f : Unit → Wd → Option (β × Wd)} {a c : Nat} (hM : (a < wn w ∧ kd a = c) → MtV X.1 y bytes mL ret dc 0 0 (rv X.1 (some a) :: As) w o) (hw : CvOk own idx c y bytes mL ret na) (ha : InW X k a c) (hdd : dc + 1 ≤ d) (hkk : k ≤ K ∧ n ≤ N) (hst : (st.map fun v => v.category).sum ≤ 8) (hna : As.length = na) (hstk : stk = As.reverse ++ rv X.1 (some a) :: st) (hd : decode cc pc = .ok (.invokevirtual idx, 3)) (hF : OkR X enc (bnd o f)) (kk : ∀ (r : Unit) (w' : Wd), OkR X enc (f r w') → G X k n (pc + 3) lv st w') : G X k n pc lv stk w := by
  obtain ⟨r, w', ho, hF2⟩ := bnd_ok hF
  have kk := kk r w' hF2
  obtain ⟨Γ, p, e, R, s, m, args, below, meth, c0, nL, n0, Q, qv⟩ := X
  obtain ⟨hx, hb, hml, hown, hts, hK, hE, hsz, hlk, hRf⟩ := h
  obtain ⟨T, NN, hcl⟩ := hw.2.2.1
  intro H locs ls hR hS hl hn
  have haw : a < wn w := by
    have h1 : a < n0 + k := ha.1
    omega
  have hM := hM ⟨haw, ha.2⟩ r w' ho
  refine va_callv (va_runV (As := As) (rest := st) (b := eb Γ + a) ⟨hx, hb, hml, hown, hts⟩ hM (cwV na hts (good_V hw) rfl rfl rfl ⟨rfl, hw.1.1⟩ ⟨by show dc + 1 ≤ R.frames; omega, by show 8 + (mL + 11) + 64 * dc ≤ R.locals; have := hw.1.2.1; omega⟩) ⟨Bd_blind, va_recv hK hR.2 hcl (ob_at haw ha.2 hw.2.1), fun U hU hW => ⟨rfl, pre_ok hR hK hE hS hU hW⟩⟩ rfl hna hl.1 hstk (lv_room hst) hd ⟨by omega, by omega⟩) hS (fun q _ hq => hq) (fun q hq => hq) (fun u t H1 locs1 ht hvm hw hB hz1 hk1 hS1 => ?_)
  subst hw
  rw [ht] at hB
  exact w_size fun hz => kk H1 locs1 ls hB hS1 hl (by have h1 : H.size = eb Γ + wn w := hR.1; have h2 : H1.size = eb Γ + wn u := hB.1; have h3 : H1.size ≤ s.heap.size + k := hz; show n0 + k = wn u; omega)
theorem g_csV (h : Ok X cc own d K N) {dc na mL idx : Nat} {y : MethodName} {bytes : ByteArray} {ret : Option FieldType} {As stk : List Value} {o : Option (Unit × Wd)} {f : Unit → Wd → Option (β × Wd)} (hM : MtV X.1 y bytes mL ret dc 0 0 As w o) (hw : CsOk own idx y bytes mL ret na) (hdd : dc + 1 ≤ d) (hkk : k ≤ K ∧ n ≤ N) (hst : (st.map fun v => v.category).sum ≤ 8) (hna : As.length = na) (hstk : stk = As.reverse ++ st) (hd : decode cc pc = .ok (.invokestatic idx, 3)) (hF : OkR X enc (bnd o f)) (kk : ∀ (r : Unit) (w' : Wd), OkR X enc (f r w') → G X k n (pc + 3) lv st w') : G X k n pc lv stk w := by
  obtain ⟨r, w', ho, hF2⟩ := bnd_ok hF
  have hM := hM r w' ho
  have kk := kk r w' hF2
  obtain ⟨Γ, p, e, R, s, m, args, below, meth, c0, nL, n0, Q, qv⟩ := X
  obtain ⟨hx, hb, hml, hown, hts, hK, hE, hsz, hlk, hRf⟩ := h
  intro H locs ls hR hS hl hn
  refine va_callv (va_runS (As := As) (rest := st) ⟨hx, hb, hml, hown, hts⟩ hM (va_cwS na hts (good_S hw) rfl rfl rfl hw.1.1 ⟨by show dc + 1 ≤ R.frames; omega, by show 8 + (mL + 11) + 64 * dc ≤ R.locals; have := hw.1.2.1; omega⟩) ⟨Bd_blind, fun U hU hW => ⟨rfl, pre_ok hR hK hE hS hU hW⟩⟩ rfl hna hl.1 hstk (lv_room hst) hd ⟨by omega, by omega⟩) hS (fun q _ hq => hq) (fun q hq => hq) (fun u t H1 locs1 ht hvm hw hB hz1 hk1 hS1 => ?_)
  subst hw
  rw [ht] at hB
  exact w_size fun hz => kk H1 locs1 ls hB hS1 hl (by have h1 : H.size = eb Γ + wn w := hR.1; have h2 : H1.size = eb Γ + wn u := hB.1; have h3 : H1.size ≤ s.heap.size + k := hz; show n0 + k = wn u; omega)
theorem sl_len {Γ : En} : ∀ xs : List LV, (lg_sl (xs.map (vL Γ))).length = (xs.map fun x => if isL x = true then 2 else 1).sum
  | [] => rfl
  | x :: xs => by
    have ih := sl_len (Γ := Γ) xs
    have hc := vL_cat (Γ := Γ) (x := x)
    simp only [lg_sl, List.map_cons, List.flatMap_cons, List.length_append, List.sum_cons] at ih ⊢
    rw [ih]
    congr 1
    by_cases hq : isL x = true
    · rw [hq] at hc
      rw [if_pos (by simpa using hc), if_pos hq]
      rfl
    · have hq2 : isL x = false := by simpa using hq
      rw [hq2] at hc
      rw [if_neg (by simpa using hc), if_neg hq]
      rfl
theorem rf_inj {a b : Option Nat} (h : va_rf a = va_rf b) : a = b := by
  cases a <;> cases b <;> first | rfl | (cases h; rfl) | cases h
theorem MQ_mono {below : List Frame} {Q1 Q2 : Array Value → State → Outcome → State → Prop} {a : Array Value} {s : State} {mc ms : Nat} {free : Addr → Prop} (h : ∀ o t, Q1 a s o t → Q2 a s o t) : ∀ t, MQ below Q1 a s mc ms free t → MQ below Q2 a s mc ms free t := fun t ht => by
  obtain ⟨o, h1, h2, h3, h4⟩ := ht
  exact ⟨o, h1, h2, h _ _ h3, h4⟩
theorem W_mono {p : Program} {l : Launch} {e : Env} {R : Room} {s : State} {m : MethodId} {args : Array Value} {below : List Frame} {meth : Method} {c : Code} {H : Heap} {locs : List Loc} {cells slots : Nat} {Q Q2 : State → Prop} {g : JFrame} (h : ∀ t, Q t → Q2 t) (kk : W p l e R s m args below meth c H locs cells slots Q g) : W p l e R s m args below meth c H locs cells slots Q2 g := fun T hT X => by
  obtain ⟨t, a, b⟩ := kk T hT X
  exact ⟨t, a, h t b⟩
/-- a contract out of a walk -/
theorem mtI {Γ : En} {y : MethodName} {cc : ByteArray} {mL d K N : Nat} {ty : FieldType} (xs : List LV) {w : Wd} {o : Option (Int32 × Wd)} (hy : plainName y.cls = true) (hL : (xs.map fun x => if isL x = true then 2 else 1).sum ≤ mL) (kk : ∀ X : Cx, X.1 = Γ → nLX X = mL → n0X X = wn w → Ok X cc y.cls d K N → (y.name = "<init>" → X.2.2.2.2.2.2.2.2.1.name = "<init>") → RetI X ty K N → OkR X Value.int o → G X 0 0 0 (targs 0 xs) [] w) : MtI Γ y cc mL (some ty) d K N (xs.map (vL Γ)) w o := by
  intro r w1 ho
  refine Met.ofW (cc := cc) (maxL := mL) (ret := some ty) hy rfl ?_
  intro p e s m args below meth c s₁ B hml hv
  obtain ⟨rfl, hR, hK, hE⟩ := hv
  have hts := atoms_spec (ws := .code y cc mL (some ty) :: lw_U) B.pre
  rw [lg_entry_eq]
  have hl := lv_entry (xs.map (vL Γ)) (n := mL) (by rw [sl_len]; exact hL)
  rw [lvm_args] at hl
  obtain ⟨QQ, hQQ⟩ : ∃ z : Value → Wd → Prop, z = (fun v w2 => v = .int r ∧ w2 = w1) := ⟨_, rfl⟩
  have key := kk (Γ, p, e, (headSpec (.code y cc mL (some ty) :: lw_U) (rmd d K N)).room, s, m, (xs.map (vL Γ)).toArray, below, meth, c, mL, wn w, MQ below (va_Qi (fun (r : Int32) (w : Wd) => QQ (.int r) w) (fun (w : Wd) t => Rp Γ w t.heap) (Ab Γ)) (xs.map (vL Γ)).toArray s K N (Ab Γ), QQ) rfl rfl rfl
    ⟨B.exec, B.bytes, hml, findClass_of_methodNamed B.named, fun w hw => hts w (List.mem_cons_of_mem _ hw), hK, hE, hR.1, B.notSynchronized, Nat.le_refl _, Nat.le_refl _, Nat.le_refl _, Nat.le_refl _⟩ (fun hi => by rw [← hi]; exact (name_of_methodNamed B.named B.method).1) ⟨B.returns, rfl⟩ ⟨r, w1, ho, by show QQ _ _; rw [hQQ]; exact ⟨rfl, rfl⟩⟩ s.heap [] _ hR va_S.rf hl rfl
  refine W_mono (MQ_mono (fun oc t hq => ?_)) key
  obtain ⟨⟨r2, u, ho, hq, hB⟩, hF2⟩ := hq
  rw [hQQ] at hq
  exact ⟨⟨r2, u, ho, ⟨Value.int.inj hq.1, hq.2⟩, hB⟩, hF2⟩
/-- a contract out of a walk -/
theorem mtL {Γ : En} {y : MethodName} {cc : ByteArray} {mL d K N : Nat} (xs : List LV) {w : Wd} {o : Option (Int64 × Wd)} (hy : plainName y.cls = true) (hL : (xs.map fun x => if isL x = true then 2 else 1).sum ≤ mL) (kk : ∀ X : Cx, X.1 = Γ → nLX X = mL → n0X X = wn w → Ok X cc y.cls d K N → (y.name = "<init>" → X.2.2.2.2.2.2.2.2.1.name = "<init>") → RetL X K N → OkR X Value.long o → G X 0 0 0 (targs 0 xs) [] w) : MtL Γ y cc mL (some .long) d K N (xs.map (vL Γ)) w o := by
  intro r w1 ho
  refine Met.ofW (cc := cc) (maxL := mL) (ret := some .long) hy rfl ?_
  intro p e s m args below meth c s₁ B hml hv
  obtain ⟨rfl, hR, hK, hE⟩ := hv
  have hts := atoms_spec (ws := .code y cc mL (some .long) :: lw_U) B.pre
  rw [lg_entry_eq]
  have hl := lv_entry (xs.map (vL Γ)) (n := mL) (by rw [sl_len]; exact hL)
  rw [lvm_args] at hl
  obtain ⟨QQ, hQQ⟩ : ∃ z : Value → Wd → Prop, z = (fun v w2 => v = .long r ∧ w2 = w1) := ⟨_, rfl⟩
  have key := kk (Γ, p, e, (headSpec (.code y cc mL (some .long) :: lw_U) (rmd d K N)).room, s, m, (xs.map (vL Γ)).toArray, below, meth, c, mL, wn w, MQ below (va_Ql (fun (r : Int64) (w : Wd) => QQ (.long r) w) (fun (w : Wd) t => Rp Γ w t.heap) (Ab Γ)) (xs.map (vL Γ)).toArray s K N (Ab Γ), QQ) rfl rfl rfl
    ⟨B.exec, B.bytes, hml, findClass_of_methodNamed B.named, fun w hw => hts w (List.mem_cons_of_mem _ hw), hK, hE, hR.1, B.notSynchronized, Nat.le_refl _, Nat.le_refl _, Nat.le_refl _, Nat.le_refl _⟩ (fun hi => by rw [← hi]; exact (name_of_methodNamed B.named B.method).1) ⟨B.returns, rfl⟩ ⟨r, w1, ho, by show QQ _ _; rw [hQQ]; exact ⟨rfl, rfl⟩⟩ s.heap [] _ hR va_S.rf hl rfl
  refine W_mono (MQ_mono (fun oc t hq => ?_)) key
  obtain ⟨⟨r2, u, ho, hq, hB⟩, hF2⟩ := hq
  rw [hQQ] at hq
  exact ⟨⟨r2, u, ho, ⟨Value.long.inj hq.1, hq.2⟩, hB⟩, hF2⟩
/-- a contract out of a walk -/
theorem mtV {Γ : En} {y : MethodName} {cc : ByteArray} {mL d K N : Nat} (xs : List LV) {w : Wd} {o : Option (Unit × Wd)} (hy : plainName y.cls = true) (hL : (xs.map fun x => if isL x = true then 2 else 1).sum ≤ mL) (kk : ∀ X : Cx, X.1 = Γ → nLX X = mL → n0X X = wn w → Ok X cc y.cls d K N → (y.name = "<init>" → X.2.2.2.2.2.2.2.2.1.name = "<init>") → RetV X K N → OkR X (fun _ : Unit => Value.null) o → G X 0 0 0 (targs 0 xs) [] w) : MtV Γ y cc mL (none) d K N (xs.map (vL Γ)) w o := by
  intro r w1 ho
  refine Met.ofW (cc := cc) (maxL := mL) (ret := none) hy rfl ?_
  intro p e s m args below meth c s₁ B hml hv
  obtain ⟨rfl, hR, hK, hE⟩ := hv
  have hts := atoms_spec (ws := .code y cc mL (none) :: lw_U) B.pre
  rw [lg_entry_eq]
  have hl := lv_entry (xs.map (vL Γ)) (n := mL) (by rw [sl_len]; exact hL)
  rw [lvm_args] at hl
  obtain ⟨QQ, hQQ⟩ : ∃ z : Value → Wd → Prop, z = (fun v w2 => v = .null ∧ w2 = w1) := ⟨_, rfl⟩
  have key := kk (Γ, p, e, (headSpec (.code y cc mL (none) :: lw_U) (rmd d K N)).room, s, m, (xs.map (vL Γ)).toArray, below, meth, c, mL, wn w, MQ below (va_Qv (fun (w : Wd) => QQ .null w) (fun (w : Wd) t => Rp Γ w t.heap) (Ab Γ)) (xs.map (vL Γ)).toArray s K N (Ab Γ), QQ) rfl rfl rfl
    ⟨B.exec, B.bytes, hml, findClass_of_methodNamed B.named, fun w hw => hts w (List.mem_cons_of_mem _ hw), hK, hE, hR.1, B.notSynchronized, Nat.le_refl _, Nat.le_refl _, Nat.le_refl _, Nat.le_refl _⟩ (fun hi => by rw [← hi]; exact (name_of_methodNamed B.named B.method).1) ⟨B.returns, rfl⟩ ⟨r, w1, ho, by show QQ _ _; rw [hQQ]; exact ⟨rfl, rfl⟩⟩ s.heap [] _ hR va_S.rf hl rfl
  refine W_mono (MQ_mono (fun oc t hq => ?_)) key
  obtain ⟨⟨u, ho, hq, hB⟩, hF2⟩ := hq
  rw [hQQ] at hq
  exact ⟨⟨u, ho, hq.2, hB⟩, hF2⟩
/-- a contract out of a walk -/
theorem mtQ {Γ : En} {y : MethodName} {cc : ByteArray} {mL d K N : Nat} {ty : FieldType} (xs : List LV) {w : Wd} {o : Option (Option Nat × Wd)} (hto : ∃ z, ty = .object z) (hy : plainName y.cls = true) (hL : (xs.map fun x => if isL x = true then 2 else 1).sum ≤ mL) (kk : ∀ X : Cx, X.1 = Γ → nLX X = mL → n0X X = wn w → Ok X cc y.cls d K N → (y.name = "<init>" → X.2.2.2.2.2.2.2.2.1.name = "<init>") → RetQ X ty K N → OkR X (rv Γ) o → G X 0 0 0 (targs 0 xs) [] w) : MtQ Γ y cc mL (some ty) d K N (xs.map (vL Γ)) w o := by
  intro r w1 ho
  refine Met.ofW (cc := cc) (maxL := mL) (ret := some ty) hy rfl ?_
  intro p e s m args below meth c s₁ B hml hv
  obtain ⟨rfl, hR, hK, hE⟩ := hv
  have hts := atoms_spec (ws := .code y cc mL (some ty) :: lw_U) B.pre
  rw [lg_entry_eq]
  have hl := lv_entry (xs.map (vL Γ)) (n := mL) (by rw [sl_len]; exact hL)
  rw [lvm_args] at hl
  obtain ⟨QQ, hQQ⟩ : ∃ z : Value → Wd → Prop, z = (fun v w2 => v = rv Γ r ∧ w2 = w1) := ⟨_, rfl⟩
  have key := kk (Γ, p, e, (headSpec (.code y cc mL (some ty) :: lw_U) (rmd d K N)).room, s, m, (xs.map (vL Γ)).toArray, below, meth, c, mL, wn w, MQ below (va_Qq (fun (r : Option Nat) (w : Wd) => QQ (va_rf r) w) (fun (w : Wd) t => Rp Γ w t.heap) (Ab Γ)) (xs.map (vL Γ)).toArray s K N (Ab Γ), QQ) rfl rfl rfl
    ⟨B.exec, B.bytes, hml, findClass_of_methodNamed B.named, fun w hw => hts w (List.mem_cons_of_mem _ hw), hK, hE, hR.1, B.notSynchronized, Nat.le_refl _, Nat.le_refl _, Nat.le_refl _, Nat.le_refl _⟩ (fun hi => by rw [← hi]; exact (name_of_methodNamed B.named B.method).1) ⟨B.returns, hto, rfl⟩ ⟨r, w1, ho, by show QQ _ _; rw [hQQ]; exact ⟨rfl, rfl⟩⟩ s.heap [] _ hR va_S.rf hl rfl
  refine W_mono (MQ_mono (fun oc t hq => ?_)) key
  obtain ⟨⟨r2, u, ho, hq, hB⟩, hF2⟩ := hq
  rw [hQQ] at hq
  exact ⟨⟨r2, u, ho, ⟨rf_inj hq.1, hq.2⟩, hB⟩, hF2⟩
