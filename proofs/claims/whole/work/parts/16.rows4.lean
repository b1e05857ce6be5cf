variable {X : Cx} {cc : ByteArray} {own : String} {d K N k n pc : Nat} {lv : List (Nat × LV)} {st : List Value} {w : Wd} {β : Type} {enc : β → Value}
/-- a new cell: it is the next one, of that kind and length -/
def nw {α : Type} (w : Wd) (c L : Nat) (f : Nat → Wd → Option α) : Option α := if kd (wn w) = c ∧ ln (wn w) = L then f (wn w) (al w) else none
theorem nw_ok {c L : Nat} {f : Nat → Wd → Option (β × Wd)} (hF : OkR X enc (nw w c L f)) : (kd (wn w) = c ∧ ln (wn w) = L) ∧ OkR X enc (f (wn w) (al w)) := by
  by_cases hc : kd (wn w) = c ∧ ln (wn w) = L
  · exact ⟨hc, by simpa [nw, hc] using hF⟩
  · obtain ⟨_, _, e, _⟩ := hF
    simp [nw, hc] at e
def NwOk (own : String) (idx c : Nat) : Prop := ∃ (C : String) (T : u_T) (NN : Nat) (ty0 : Nat → FieldType), vwCl[c]? = some (C, T, NN) ∧ c < 8 ∧ nsl c = NN ∧ (∀ w ∈ u_ws C T NN, w ∈ lw_U) ∧ (∀ k, k < NN → parseFieldDescriptor (T k).2.2.1 = some (ty0 k)) ∧ Cond.classLink own idx C ∈ lw_U ∧ Cond.instantiable C NN ∈ lw_U ∧ Cond.initialized C ∈ lw_U ∧ (∀ j, j < NN → defaultValue (ty0 j) = if fty c j = 1 then .null else if fty c j = 2 then .long 0 else .int 0)
theorem pic_al {Γ : En} {w : Wd} {j : Nat} (hj : j < wn w) : pic Γ (al w) j = pic Γ w j := pic_eq (fun q => by rw [gI_al, if_neg (by omega)]) (fun q => by rw [gR_al, if_neg (by omega)]) (fun q => by rw [gL_al, if_neg (by omega)])
/-- where the new cell lies -/
theorem new_at {Γ : En} {w : Wd} {q : Nat} {ee : va_E} {H1 : Heap} (hP : va_P Γ.2.1 vwCl (wl Γ w ++ [(q, ee)]) H1) (hD : va_D (Ab Γ) (wl Γ w ++ [(q, ee)])) (hz : H1.size ≤ eb Γ + wn w + 1) : q = eb Γ + wn w := by
  have hlast : (wl Γ w ++ [(q, ee)])[wn w]? = some (q, ee) := by
    rw [List.getElem?_append_right (Nat.le_of_eq wl_len), wl_len, Nat.sub_self]
    rfl
  have h1 : q < H1.size := (hP _ _ hlast).lt
  have h2 : eb Γ ≤ q := hD.2 _ _ hlast
  by_cases hlt : q < eb Γ + wn w
  · have hi : (wl Γ w ++ [(q, ee)])[q - eb Γ]? = some (eb Γ + (q - eb Γ), pic Γ w (q - eb Γ)) := by
      rw [List.getElem?_append_left (by rw [wl_len]; omega), wl_at (by omega)]
    have h3 := hD.1 _ _ _ _ hi hlast (by show eb Γ + (q - eb Γ) = q; omega)
    omega
  · omega
theorem Rp_new {Γ : En} {w : Wd} {q : Nat} {ee : va_E} {H1 : Heap} (hP : va_P Γ.2.1 vwCl (wl Γ w ++ [(q, ee)]) H1) (hq : q = eb Γ + wn w) (he : pic Γ (al w) (wn w) = ee) (hz : H1.size ≤ eb Γ + wn w + 1) : Rp Γ (al w) H1 := by
  subst hq
  rw [wl_app (w' := al w) rfl he (fun j hj => pic_al hj)] at hP
  exact Rp_of hP (Nat.succ_pos _) hz
theorem g_new (h : Ok X cc own d K N) {idx c n' : Nat} (hw : NwOk own idx c) {f : Nat → Wd → Option (β × Wd)} (hF : OkR X enc (nw w c 0 f)) (hkn : k + 1 ≤ K ∧ n' ≤ N) (hn2 : n + nsl c = n') (hd : decode cc pc = .ok (.new idx, 3)) (kk : ∀ a w1, InW X (k + 1) a c → OkR X enc (f a w1) → G X (k + 1) n' (pc + 3) lv (rv X.1 (some a) :: st) w1) : G X k n pc lv st w := by
  obtain ⟨hc, hF⟩ := nw_ok hF
  obtain ⟨Γ, p, e, R, s, m, args, below, meth, c0, nL, n0, Q, qv⟩ := X
  obtain ⟨hx, hb, hml, hown, hts, hK, hE, hsz, hlk, hRf⟩ := h
  obtain ⟨C, T, NN, ty0, hcl, hc8, hns, hin, hty, hcli, hinst, hini, hdef⟩ := hw
  subst hns
  intro H locs ls hR hS hl hn
  exact va_new hx hb hts hin ty0 hty hown (hts _ hcli) (hts _ hinst) (hts _ hini) hK hR.2 wl_D hS (fun q hq => by show eb Γ ≤ q; omega) hcl (fs := (List.range (nsl c)).map (fval Γ (al w) (wn w))) (fun j hj => by
      rw [hdef j hj]
      have e1 : vp_V ((List.range (nsl c)).map (fval Γ (al w) (wn w))) j = fval Γ (al w) (wn w) j := by simp [vp_V, hj]
      rw [e1]
      simp only [fval, hc.1, gI_al, gR_al, gL_al, if_true]
      rfl) (by omega) (by omega) hd (fun q H1 hP1 hD1 hS1 => w_size fun hz => by
    have hz2 : H1.size ≤ eb Γ + wn w + 1 := by
      have : H1.size ≤ s.heap.size + (k + 1) := hz
      omega
    have hq := new_at hP1 hD1 hz2
    subst hq
    have hR1 := Rp_new hP1 rfl (by rw [pic_ob hc.1 hc8]) hz2
    have := kk (wn w) (al w) ⟨(by show wn w < n0 + (k + 1); omega), hc.1⟩ hF H1 locs ls hR1 hS1 hl (by show n0 + (k + 1) = wn w + 1; omega)
    subst hn2
    exact this)
theorem g_newI (h : Ok X cc own d K N) {L n' : Nat} {x : Int32} {f : Nat → Wd → Option (β × Wd)} (hF : OkR X enc (nw w 8 L f)) (hL : ¬ x < 0 ∧ x.toNatClampNeg = L ∧ L * 4 ≤ 536870912) (hkn : k + 1 ≤ K ∧ n' ≤ N) (hn2 : n + L = n') (hd : decode cc pc = .ok (.newarray .int, 2)) (kk : ∀ a w1, InW X (k + 1) a 8 → OkR X enc (f a w1) → G X (k + 1) n' (pc + 2) lv (rv X.1 (some a) :: st) w1) : G X k n pc lv (.int x :: st) w := by
  obtain ⟨hc, hF⟩ := nw_ok hF
  obtain ⟨Γ, p, e, R, s, m, args, below, meth, c0, nL, n0, Q, qv⟩ := X
  obtain ⟨hx, hb, hml, hown, hts, hK, hE, hsz, hlk, hRf⟩ := h
  intro H locs ls hR hS hl hn
  exact va_newa (atype := .int) (ty := .int) (a0 := (L, .inl (fun _ => 0))) hx hb (hts _ wac_int) rfl hK hR.2 wl_D hS (fun q hq => by show eb Γ ≤ q; omega) (fun cA => rfl) hL.1 hL.2.1 (Nat.le_trans (Nat.mul_le_mul_left L (by decide)) hL.2.2) (by omega) (by omega) hd (fun q cA H1 hK1 hP1 hD1 hS1 => w_size fun hz => by
    have hcA : cA = Γ.2.2.1 8 := by
      have h1 := (hK1.2 5 (cA, .int) rfl).2
      have h2 := (hK.2 0 (Γ.2.2.1 8, .int) rfl).2
      exact Option.some.inj (h1.symm.trans h2)
    subst hcA
    exact (by
    have hz2 : H1.size ≤ eb Γ + wn w + 1 := by
      have : H1.size ≤ s.heap.size + (k + 1) := hz
      omega
    have hq := new_at hP1 hD1 hz2
    subst hq
    have hR1 := Rp_new hP1 rfl (by rw [pic_ia hc.1, hc.2]; congr 4; funext i; simp [gI_al]) hz2
    have := kk (wn w) (al w) ⟨(by show wn w < n0 + (k + 1); omega), hc.1⟩ hF H1 locs ls hR1 hS1 hl (by show n0 + (k + 1) = wn w + 1; omega)
    subst hn2
    exact this))
theorem g_newZ (h : Ok X cc own d K N) {L n' : Nat} {x : Int32} {f : Nat → Wd → Option (β × Wd)} (hF : OkR X enc (nw w 9 L f)) (hL : ¬ x < 0 ∧ x.toNatClampNeg = L ∧ L * 4 ≤ 536870912) (hkn : k + 1 ≤ K ∧ n' ≤ N) (hn2 : n + L = n') (hd : decode cc pc = .ok (.newarray .boolean, 2)) (kk : ∀ a w1, InW X (k + 1) a 9 → OkR X enc (f a w1) → G X (k + 1) n' (pc + 2) lv (rv X.1 (some a) :: st) w1) : G X k n pc lv (.int x :: st) w := by
  obtain ⟨hc, hF⟩ := nw_ok hF
  obtain ⟨Γ, p, e, R, s, m, args, below, meth, c0, nL, n0, Q, qv⟩ := X
  obtain ⟨hx, hb, hml, hown, hts, hK, hE, hsz, hlk, hRf⟩ := h
  intro H locs ls hR hS hl hn
  exact va_newa (atype := .boolean) (ty := .boolean) (a0 := (L, .inl (fun _ => 0))) hx hb (hts _ wac_boolean) rfl hK hR.2 wl_D hS (fun q hq => by show eb Γ ≤ q; omega) (fun cA => rfl) hL.1 hL.2.1 (Nat.le_trans (Nat.mul_le_mul_left L (by decide)) hL.2.2) (by omega) (by omega) hd (fun q cA H1 hK1 hP1 hD1 hS1 => w_size fun hz => by
    have hcA : cA = Γ.2.2.1 9 := by
      have h1 := (hK1.2 5 (cA, .boolean) rfl).2
      have h2 := (hK.2 1 (Γ.2.2.1 9, .boolean) rfl).2
      exact Option.some.inj (h1.symm.trans h2)
    subst hcA
    exact (by
    have hz2 : H1.size ≤ eb Γ + wn w + 1 := by
      have : H1.size ≤ s.heap.size + (k + 1) := hz
      omega
    have hq := new_at hP1 hD1 hz2
    subst hq
    have hR1 := Rp_new hP1 rfl (by rw [pic_za hc.1, hc.2]; congr 4; funext i; simp [gI_al]) hz2
    have := kk (wn w) (al w) ⟨(by show wn w < n0 + (k + 1); omega), hc.1⟩ hF H1 locs ls hR1 hS1 hl (by show n0 + (k + 1) = wn w + 1; omega)
    subst hn2
    exact this))
theorem g_newQ (h : Ok X cc own d K N) {idx c L n' : Nat} {E : String} {x : Int32} {f : Nat → Wd → Option (β × Wd)} (hc9 : 9 < c) (hE2 : E = RX2 ∨ E = RX3 ∨ E = RX5) (hty : (tysOf X.1)[c - 8]? = some (X.1.2.2.1 c, .object E)) (hcli : Cond.classLink own idx E ∈ lw_U) (hF : OkR X enc (nw w c L f)) (hL : ¬ x < 0 ∧ x.toNatClampNeg = L ∧ L * 4 ≤ 536870912) (hkn : k + 1 ≤ K ∧ n' ≤ N) (hn2 : n + L = n') (hd : decode cc pc = .ok (.anewarray idx, 3)) (kk : ∀ a w1, InW X (k + 1) a c → OkR X enc (f a w1) → G X (k + 1) n' (pc + 3) lv (rv X.1 (some a) :: st) w1) : G X k n pc lv (.int x :: st) w := by
  obtain ⟨hc, hF⟩ := nw_ok hF
  obtain ⟨Γ, p, e, R, s, m, args, below, meth, c0, nL, n0, Q, qv⟩ := X
  obtain ⟨hx, hb, hml, hown, hts, hK, hE, hsz, hlk, hRf⟩ := h
  intro H locs ls hR hS hl hn
  have hAO : va_AO E s := by rcases hE2 with rfl | rfl | rfl; exact hE.2.1.1; exact hE.2.1.2.1; exact hE.2.1.2.2
  exact va_newq hx hb hown (hts _ hcli) hAO hK hR.2 wl_D hS (fun q hq => by show eb Γ ≤ q; omega) hL.1 hL.2.1 hL.2.2 (by omega) (by omega) hd (fun q cA H1 hK1 hP1 hD1 hS1 => w_size fun hz => by
    have hcA : cA = Γ.2.2.1 c := by
      have h1 := (hK1.2 5 (cA, .object E) rfl).2
      have h2 := (hK.2 (c - 8) _ hty).2
      obtain ⟨_, _, _, _, _, h1⟩ := h1
      obtain ⟨_, _, _, _, _, h2⟩ := h2
      exact Option.some.inj (h1.symm.trans h2)
    subst hcA
    exact (by
    have hz2 : H1.size ≤ eb Γ + wn w + 1 := by
      have : H1.size ≤ s.heap.size + (k + 1) := hz
      omega
    have hq := new_at hP1 hD1 hz2
    subst hq
    have hR1 := Rp_new hP1 rfl (by rw [pic_ra hc.1 hc9, hc.2]; congr 7; funext i; simp [gR_al]) hz2
    have := kk (wn w) (al w) ⟨(by show wn w < n0 + (k + 1); omega), hc.1⟩ hF H1 locs ls hR1 hS1 hl (by show n0 + (k + 1) = wn w + 1; omega)
    subst hn2
    exact this))
theorem g_aast (h : Ok X cc own d K N) {a b c cv : Nat} {i : Int32} {E : String} {T : u_T} {NN : Nat} (hc9 : 9 < c) (hty : (tysOf X.1)[c - 8]? = some (X.1.2.2.1 c, .object E)) (hcl : vwCl[cv]? = some (E, T, NN)) (hcv : cv < 8) (ha : InW X k a c) (hb2 : InW X k b cv) (hi : vin i (ln a)) (hd : decode cc pc = .ok (.aastore, 1)) (kk : G X k n (pc + 1) lv st (sR w a i.toNatClampNeg (some b))) : G X k n pc lv (rv X.1 (some b) :: .int i :: rv X.1 (some a) :: st) w := by
  obtain ⟨Γ, p, e, R, s, m, args, below, meth, c0, nL, n0, Q, qv⟩ := X
  obtain ⟨hx, hb, hml, hown, hts, hK, hE, hsz, hlk, hRf⟩ := h
  intro H locs ls hR hS hl hn
  have haw : a < wn w := by
    have h1 : a < n0 + k := ha.1
    omega
  have hbw : b < wn w := by
    have h1 : b < n0 + k := hb2.1
    omega
  exact va_astq (r := (E, T, NN)) hx hb hK hR.2 wl_D hS a (c - 8) b cv (ra_at haw ha.2 hc9) hty (ob_at hbw hb2.2 hcv) hcl hi hd (fun H1 locs1 hP1 hD1 hS1 => w_size (fun hz => by
    rw [set_ra ha.2 hc9] at hP1
    exact kk H1 locs1 ls (Rp_of hP1 (by show 0 < wn w; omega) (by show H1.size ≤ eb Γ + wn w; omega)) hS1 hl hn))
theorem g_obj (h : Ok X cc own d K N) {idx a : Nat} (hlink : Cond.methodLink own idx Lib.objectInit ∈ lw_U) (hinst : Cond.instanceMethod Lib.objectInit ∈ lw_U) (hcode : Cond.code Lib.objectInit ⟨#[0xb1]⟩ 1 none ∈ lw_U) (hdd : 1 ≤ d) (hd : decode cc pc = .ok (.invokespecial idx, 3)) (kk : G X k n (pc + 3) lv [] w) : G X k n pc lv [rv X.1 (some a)] w := by
  obtain ⟨Γ, p, e, R, s, m, args, below, meth, c0, nL, n0, Q, qv⟩ := X
  obtain ⟨hx, hb, hml, hown, hts, hK, hE, hsz, hlk, hRf⟩ := h
  intro H locs ls hR hS hl hn
  exact W.objInit hx hb hown (hts _ hlink) (hts _ hinst) (hts _ hcode) rfl (by show ls.size = _; rw [hml]; exact hl.1) rfl hd (by omega) (by show 0 + 0 + 12 ≤ R.locals; omega) (kk H locs ls hR hS hl hn)
/-- a call of a constructor, by a link or a nest mate's -/
def CiOk (own : String) (idx : Nat) (y : MethodName) (bytes : ByteArray) (mL na : Nat) : Prop := YOk y bytes mL none na ∧ Cond.methodLink own idx y ∈ lw_U ∧ y.name = "<init>" ∧ Cond.instanceMethod y ∈ lw_U
def CjOk (own : String) (idx : Nat) (y : MethodName) (bytes : ByteArray) (mL na : Nat) : Prop := YOk y bytes mL none na ∧ Cond.methodLinkNest own idx y RX6 ∈ nestL ∧ y.name = "<init>" ∧ Cond.instanceMethod y ∈ lw_U

theorem g_ci (h : Ok X cc own d K N) {dc na mL idx K' N' k' n' a c : Nat} {y : MethodName} {bytes : ByteArray} {As stk : List Value} {o : Option (Unit × Wd)} {f : Unit → Wd → Option (β × Wd)} (hM : (a < wn w ∧ kd a = c) → MtV X.1 y bytes mL none dc K' N' (rv X.1 (some a) :: As) w o) (hw : CiOk own idx y bytes mL na) (ha : InW X k a c) (hdd : dc + 1 ≤ d) (hkk : k' ≤ K ∧ n' ≤ N) (hk2 : k + K' = k' ∧ n + N' = n') (hst : (st.map fun v => v.category).sum ≤ 8) (hna : As.length = na) (hstk : stk = As.reverse ++ rv X.1 (some a) :: st) (hd : decode cc pc = .ok (.invokespecial idx, 3)) (hgr : ∀ r w', o = some (r, w') → wn w + K' ≤ wn w') (hF : OkR X enc (bnd o f)) (kk : ∀ (r : Unit) (w' : Wd), OkR X enc (f r w') → G X k' n' (pc + 3) lv st w') : G X k n pc lv stk w := by
  obtain ⟨r, w', ho, hF2⟩ := bnd_ok hF
  have kk := kk r w' hF2
  have hgr := hgr r w' ho
  obtain ⟨Γ, p, e, R, s, m, args, below, meth, c0, nL, n0, Q, qv⟩ := X
  obtain ⟨hx, hb, hml, hown, hts, hK, hE, hsz, hlk, hRf⟩ := h
  obtain ⟨rfl, rfl⟩ := hk2
  intro H locs ls hR hS hl hn
  have haw : a < wn w := by
    have h1 : a < n0 + k := ha.1
    omega
  have hM := hM ⟨haw, ha.2⟩ r w' ho
  refine va_callv (va_runI (As := As) (rest := st) (b := eb Γ + a) ⟨hx, hb, hml, hown, hts⟩ hM (cwI na hts (good_code hw.1.2.2.1) rfl rfl rfl (hts _ hw.1.2.2.2) (hts _ hw.2.1) (hts _ hw.2.2.2) hw.2.2.1 hw.1.1 ⟨by show dc + 1 ≤ R.frames; omega, by show 8 + (mL + 11) + 64 * dc ≤ R.locals; have := hw.1.2.1; omega⟩) ⟨Bd_blind, fun U hU hW => ⟨rfl, pre_ok hR hK hE hS hU hW⟩⟩ rfl hna hl.1 hstk (lv_room hst) hd ⟨by omega, by omega⟩) hS (fun q _ hq => hq) (fun q hq => hq) (fun u t H1 locs1 ht hvm hw hB hz1 hk1 hS1 => ?_)
  subst hw
  rw [ht] at hB
  exact w_size fun hz => kk H1 locs1 ls hB hS1 hl (by have h1 : H.size = eb Γ + wn w := hR.1; have h2 : H1.size = eb Γ + wn u := hB.1; have h3 : H1.size ≤ s.heap.size + (k + K') := hz; show n0 + (k + K') = wn u; omega)
theorem g_cj (h : Ok X cc own d K N) {dc na mL idx K' N' k' n' a c : Nat} {y : MethodName} {bytes : ByteArray} {As stk : List Value} {o : Option (Unit × Wd)} {f : Unit → Wd → Option (β × Wd)} (hM : (a < wn w ∧ kd a = c) → MtV X.1 y bytes mL none dc K' N' (rv X.1 (some a) :: As) w o) (hw : CjOk own idx y bytes mL na) (ha : InW X k a c) (hdd : dc + 1 ≤ d) (hkk : k' ≤ K ∧ n' ≤ N) (hk2 : k + K' = k' ∧ n + N' = n') (hst : (st.map fun v => v.category).sum ≤ 8) (hna : As.length = na) (hstk : stk = As.reverse ++ rv X.1 (some a) :: st) (hd : decode cc pc = .ok (.invokespecial idx, 3)) (hgr : ∀ r w', o = some (r, w') → wn w + K' ≤ wn w') (hF : OkR X enc (bnd o f)) (kk : ∀ (r : Unit) (w' : Wd), OkR X enc (f r w') → G X k' n' (pc + 3) lv st w') : G X k n pc lv stk w := by
  obtain ⟨r, w', ho, hF2⟩ := bnd_ok hF
  have kk := kk r w' hF2
  have hgr := hgr r w' ho
  obtain ⟨Γ, p, e, R, s, m, args, below, meth, c0, nL, n0, Q, qv⟩ := X
  obtain ⟨hx, hb, hml, hown, hts, hK, hE, hsz, hlk, hRf⟩ := h
  obtain ⟨rfl, rfl⟩ := hk2
  intro H locs ls hR hS hl hn
  have haw : a < wn w := by
    have h1 : a < n0 + k := ha.1
    omega
  have hM := hM ⟨haw, ha.2⟩ r w' ho
  refine va_callv (va_runIN (As := As) (rest := st) (b := eb Γ + a) ⟨hx, hb, hml, hown, hts⟩ hM (⟨va_cnB na hts (good_code hw.1.2.2.1) rfl rfl rfl (hE.1 _ hw.2.1) (hts _ hw.1.2.2.2) hw.1.1 ⟨by show dc + 1 ≤ R.frames; omega, by show 8 + (mL + 11) + 64 * dc ≤ R.locals; have := hw.1.2.1; omega⟩, hw.2.2.1, hts _ hw.2.2.2⟩) ⟨Bd_blind, fun U hU hW => ⟨rfl, pre_ok hR hK hE hS hU hW⟩⟩ rfl hna hl.1 hstk (lv_room hst) hd ⟨by omega, by omega⟩) hS (fun q _ hq => hq) (fun q hq => hq) (fun u t H1 locs1 ht hvm hw hB hz1 hk1 hS1 => ?_)
  subst hw
  rw [ht] at hB
  exact w_size fun hz => kk H1 locs1 ls hB hS1 hl (by have h1 : H.size = eb Γ + wn w := hR.1; have h2 : H1.size = eb Γ + wn u := hB.1; have h3 : H1.size ≤ s.heap.size + (k + K') := hz; show n0 + (k + K') = wn u; omega)
theorem g_icmp_geT (h : Ok X cc own d K N) {x y : Int32} {off : Int} {tgt : Nat} (hd : decode cc pc = .ok (.if_icmp .ge off, 3)) (ht : (pc : Int) + off = (tgt : Int)) (hx0 : y ≤ x) (kt : G X k n tgt lv st w) : G X k n pc lv (.int y :: .int x :: st) w := by
  obtain ⟨Γ, p, e, R, s, m, args, below, meth, c0, nL, n0, Q, qv⟩ := X
  obtain ⟨hx, hb, hml, hown, hts, hK, hE, hsz, hlk, hRf⟩ := h
  intro H locs ls hR hS hl hn
  exact lv_icmp_ge hx hb hd ht (fun _ => kt H locs ls hR hS hl hn) (fun z => absurd hx0 z)
theorem g_icmp_geF (h : Ok X cc own d K N) {x y : Int32} {off : Int} {tgt : Nat} (hd : decode cc pc = .ok (.if_icmp .ge off, 3)) (ht : (pc : Int) + off = (tgt : Int)) (hx0 : ¬ y ≤ x) (kf : G X k n (pc + 3) lv st w) : G X k n pc lv (.int y :: .int x :: st) w := by
  obtain ⟨Γ, p, e, R, s, m, args, below, meth, c0, nL, n0, Q, qv⟩ := X
  obtain ⟨hx, hb, hml, hown, hts, hK, hE, hsz, hlk, hRf⟩ := h
  intro H locs ls hR hS hl hn
  exact lv_icmp_ge hx hb hd ht (fun z => absurd z hx0) (fun _ => kf H locs ls hR hS hl hn)
theorem wob_X6_1 : Cond.methodLink RX6 1 Lib.objectInit ∈ lw_U := lw_in1 21 rfl rfl
theorem wim_obj : Cond.instanceMethod Lib.objectInit ∈ lw_U := lw_in1 22 rfl rfl
theorem wco_obj : Cond.code Lib.objectInit ⟨#[0xb1]⟩ 1 none ∈ lw_U := lw_in1 23 rfl rfl
theorem wob_X1_3 : Cond.methodLink RX1 3 Lib.objectInit ∈ lw_U := lw_in1 33 rfl rfl
theorem wob_X0_3 : Cond.methodLink RX0 3 Lib.objectInit ∈ lw_U := lw_in1 69 rfl rfl
theorem wob_X5_1 : Cond.methodLink RX5 1 Lib.objectInit ∈ lw_U := lw_in1 75 rfl rfl
theorem wob_X3_3 : Cond.methodLink RX3 3 Lib.objectInit ∈ lw_U := lw_in1 140 rfl rfl
theorem wob_X2_3 : Cond.methodLink RX2 3 Lib.objectInit ∈ lw_U := lw_in1 160 rfl rfl
theorem wob_X4_3 : Cond.methodLink RX4 3 Lib.objectInit ∈ lw_U := lw_in2 87 rfl rfl
theorem wob_X7_7 : Cond.methodLink RX7 7 Lib.objectInit ∈ lw_U := lw_in4 48 rfl rfl
