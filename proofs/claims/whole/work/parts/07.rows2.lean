variable {X : Cx} {cc : ByteArray} {own : String} {d K N k n pc : Nat} {lv : List (Nat × LV)} {st : List Value} {w : Wd} {β : Type} {enc : β → Value}
/-- what the tables say of a field at a place of a pool -/
def FdOk (own : String) (idx c f : Nat) (ty : FieldType) (fin : Bool) : Prop := ∃ (C : String) (T : u_T) (NN : Nat) (ty0 : Nat → FieldType), vwCl[c]? = some (C, T, NN) ∧ (∀ w ∈ u_ws C T NN, w ∈ lw_U) ∧ f < NN ∧ nsl c = NN ∧ c < 8 ∧ (T f).1 = C ∧ Cond.fieldLink own idx C (T f).2.1 (T f).2.2.1 ∈ lw_U ∧ (∀ k, k < NN → parseFieldDescriptor (T k).2.2.1 = some (ty0 k)) ∧ (∀ a, a < NN → ∀ b, b < NN → a ≠ b → (T a).2.1 ≠ (T b).2.1) ∧ parseFieldDescriptor (T f).2.2.1 = some ty ∧ (T f).2.2.2 = fin
theorem put_set {Γ : En} {w w' : Wd} {a c f : Nat} {v : Value} (hkd : kd a = c) (hc : c < 8) (hf : f < nsl c) (hn : wn w' = wn w) (hv : fval Γ w' a f = v) (ho : ∀ j, j ≠ f → fval Γ w' a j = fval Γ w a j) (hp : ∀ j, j ≠ a → pic Γ w' j = pic Γ w j) : (wl Γ w).set a (eb Γ + a, .inr (c, ((List.range (nsl c)).map (fval Γ w a)).set f v)) = wl Γ w' := by
  subst hkd
  refine wl_set hn ?_ hp
  rw [pic_ob rfl hc, fset hf hv ho]
theorem Rp_of {Γ : En} {w : Wd} {H : Heap} (hP : va_P Γ.2.1 vwCl (wl Γ w) H) (h0 : 0 < wn w) (hz : H.size ≤ eb Γ + wn w) : Rp Γ w H := by
  refine ⟨?_, hP⟩
  have h1 := (hP _ _ (wl_at (Γ := Γ) (w := w) (i := wn w - 1) (by omega))).lt
  have h2 : eb Γ + (wn w - 1) < H.size := h1
  omega
theorem set_I {Γ : En} {w : Wd} {a c f : Nat} {v : Int32} (hkd : kd a = c) (hc : c < 8) (hf : f < nsl c) (ht : fty c f ≠ 1 ∧ fty c f ≠ 2) : (wl Γ w).set a (eb Γ + a, .inr (c, ((List.range (nsl c)).map (fval Γ w a)).set f (.int v))) = wl Γ (sI w a f v) := by
  refine put_set hkd hc hf rfl ?_ (fun j hj => ?_) (fun j hj => pic_eq (fun q => ?_) (fun q => rfl) (fun q => rfl))
  · simp [fval, hkd, ht.1, ht.2, gI_sI]
  · simp [fval, gI_sI, gR_sI, gL_sI, hj]
  · simp [gI_sI, hj]
theorem set_R {Γ : En} {w : Wd} {a c f : Nat} {v : Option Nat} (hkd : kd a = c) (hc : c < 8) (hf : f < nsl c) (ht : fty c f = 1) : (wl Γ w).set a (eb Γ + a, .inr (c, ((List.range (nsl c)).map (fval Γ w a)).set f (rv Γ v))) = wl Γ (sR w a f v) := by
  refine put_set hkd hc hf rfl ?_ (fun j hj => ?_) (fun j hj => pic_eq (fun q => rfl) (fun q => ?_) (fun q => rfl))
  · simp [fval, hkd, ht, gR_sR]
  · simp [fval, gI_sR, gR_sR, gL_sR, hj]
  · simp [gR_sR, hj]
theorem set_L {Γ : En} {w : Wd} {a c f : Nat} {v : Int64} (hkd : kd a = c) (hc : c < 8) (hf : f < nsl c) (ht : fty c f = 2) : (wl Γ w).set a (eb Γ + a, .inr (c, ((List.range (nsl c)).map (fval Γ w a)).set f (.long v))) = wl Γ (sL w a f v) := by
  refine put_set hkd hc hf rfl ?_ (fun j hj => ?_) (fun j hj => pic_eq (fun q => rfl) (fun q => rfl) (fun q => ?_))
  · simp [fval, hkd, ht, gL_sL]
  · simp [fval, gI_sL, gR_sL, gL_sL, hj]
  · simp [gL_sL, hj]
theorem fld_at {Γ : En} {w : Wd} {a c f : Nat} {v : Value} (hkd : kd a = c) (hf : f < nsl c) (hv : fval Γ w a f = v) : ((List.range (nsl c)).map (fval Γ w a))[f]? = some v := by
  subst hkd
  rw [fval_at hf, hv]
theorem fld_len {Γ : En} {w : Wd} {a c f : Nat} (hf : f < nsl c) : f < ((List.range (nsl c)).map (fval Γ w a)).length := by simpa using hf
theorem ob_at {Γ : En} {w : Wd} {a c : Nat} (ha : a < wn w) (hkd : kd a = c) (hc : c < 8) : (wl Γ w)[a]? = some (eb Γ + a, .inr (c, (List.range (nsl c)).map (fval Γ w a))) := by rw [wl_at ha, pic_ob hkd hc]
theorem g_getI (h : Ok X cc own d K N) {idx c f a : Nat} {ty : FieldType} {fin : Bool} (hf : FdOk own idx c f ty fin) (ha : InW X k a c) (ht : fty c f ≠ 1 ∧ fty c f ≠ 2) (hd : decode cc pc = .ok (.getfield idx, 3)) (kk : G X k n (pc + 3) lv (.int (gI w a f) :: st) w) : G X k n pc lv (rv X.1 (some a) :: st) w := by
  obtain ⟨Γ, p, e, R, s, m, args, below, meth, c0, nL, n0, Q, qv⟩ := X
  obtain ⟨hx, hb, hml, hown, hts, hK, hE, hsz, hlk, hRf⟩ := h
  obtain ⟨C, T, NN, ty0, hcl, hin, hlt, hns, hc8, hTC, hlk2, hty, hnm, hpd, hfi⟩ := hf
  have hkd := ha.2
  intro H locs ls hR hS hl hn
  have haw : a < wn w := by
    have h1 : a < n0 + k := ha.1
    omega
  have hlf : f < nsl c := by omega
  exact va_get hx hb hts hin hown hK hR.2 a (ob_at haw hkd hc8) hcl f hlt (hts _ hlk2) (fun x hx => by rw [hTC] at hx; exact hx) (fld_at hkd hlf (by simp [fval, hkd, ht.1, ht.2])) hd (kk H locs ls hR hS hl hn)
theorem g_putI (h : Ok X cc own d K N) {idx c f a : Nat} {ty : FieldType} (hf : FdOk own idx c f ty false) (ha : InW X k a c) (ht : fty c f ≠ 1 ∧ fty c f ≠ 2) {v : Int32} (hv : narrow ty (.int v) = .int v ∧ fits ty (.int v) = true) (hd : decode cc pc = .ok (.putfield idx, 3)) (kk : G X k n (pc + 3) lv st (sI w a f v)) : G X k n pc lv (.int v :: rv X.1 (some a) :: st) w := by
  obtain ⟨Γ, p, e, R, s, m, args, below, meth, c0, nL, n0, Q, qv⟩ := X
  obtain ⟨hx, hb, hml, hown, hts, hK, hE, hsz, hlk, hRf⟩ := h
  obtain ⟨C, T, NN, ty0, hcl, hin, hlt, hns, hc8, hTC, hlk2, hty, hnm, hpd, hfi⟩ := hf
  have hkd := ha.2
  intro H locs ls hR hS hl hn
  have haw : a < wn w := by
    have h1 : a < n0 + k := ha.1
    omega
  have hlf : f < nsl c := by omega
  exact va_put hx hb hts hin ty0 hty hnm hown hK hR.2 wl_D hS a (ob_at haw hkd hc8) hcl f hlt (hts _ hlk2) (fun x hx => by rw [hTC] at hx; exact hx) hfi hpd hv.1 hv.2 (fld_len hlf) hd (fun H1 locs1 hP1 hD1 hS1 => w_size (fun hz => by
    rw [set_I hkd hc8 hlf ht] at hP1
    exact kk H1 locs1 ls (Rp_of hP1 (by show 0 < wn w; omega) (by show H1.size ≤ eb Γ + wn w; omega)) hS1 hl hn))
theorem g_getR (h : Ok X cc own d K N) {idx c f a : Nat} {ty : FieldType} {fin : Bool} (hf : FdOk own idx c f ty fin) (ha : InW X k a c) (ht : fty c f = 1) (hd : decode cc pc = .ok (.getfield idx, 3)) (kk : G X k n (pc + 3) lv (rv X.1 (gR w a f) :: st) w) : G X k n pc lv (rv X.1 (some a) :: st) w := by
  obtain ⟨Γ, p, e, R, s, m, args, below, meth, c0, nL, n0, Q, qv⟩ := X
  obtain ⟨hx, hb, hml, hown, hts, hK, hE, hsz, hlk, hRf⟩ := h
  obtain ⟨C, T, NN, ty0, hcl, hin, hlt, hns, hc8, hTC, hlk2, hty, hnm, hpd, hfi⟩ := hf
  have hkd := ha.2
  intro H locs ls hR hS hl hn
  have haw : a < wn w := by
    have h1 : a < n0 + k := ha.1
    omega
  have hlf : f < nsl c := by omega
  exact va_get hx hb hts hin hown hK hR.2 a (ob_at haw hkd hc8) hcl f hlt (hts _ hlk2) (fun x hx => by rw [hTC] at hx; exact hx) (fld_at hkd hlf (by simp [fval, hkd, ht])) hd (kk H locs ls hR hS hl hn)
theorem g_putR (h : Ok X cc own d K N) {idx c f a : Nat} {ty : FieldType} (hf : FdOk own idx c f ty false) (ha : InW X k a c) (ht : fty c f = 1) (hty2 : (∃ z, ty = .object z) ∨ ∃ z, ty = .array z) {v : Option Nat} (hd : decode cc pc = .ok (.putfield idx, 3)) (kk : G X k n (pc + 3) lv st (sR w a f v)) : G X k n pc lv (rv X.1 v :: rv X.1 (some a) :: st) w := by
  obtain ⟨Γ, p, e, R, s, m, args, below, meth, c0, nL, n0, Q, qv⟩ := X
  obtain ⟨hx, hb, hml, hown, hts, hK, hE, hsz, hlk, hRf⟩ := h
  obtain ⟨C, T, NN, ty0, hcl, hin, hlt, hns, hc8, hTC, hlk2, hty, hnm, hpd, hfi⟩ := hf
  have hkd := ha.2
  intro H locs ls hR hS hl hn
  have haw : a < wn w := by
    have h1 : a < n0 + k := ha.1
    omega
  have hlf : f < nsl c := by omega
  have hnr : narrow ty (rv Γ v) = rv Γ v := by cases v <;> cases ty <;> rfl
  have hfr : fits ty (rv Γ v) = true := by rcases hty2 with ⟨z, rfl⟩ | ⟨z, rfl⟩ <;> cases v <;> rfl
  exact va_put hx hb hts hin ty0 hty hnm hown hK hR.2 wl_D hS a (ob_at haw hkd hc8) hcl f hlt (hts _ hlk2) (fun x hx => by rw [hTC] at hx; exact hx) hfi hpd hnr hfr (fld_len hlf) hd (fun H1 locs1 hP1 hD1 hS1 => w_size (fun hz => by
    rw [set_R hkd hc8 hlf ht] at hP1
    exact kk H1 locs1 ls (Rp_of hP1 (by show 0 < wn w; omega) (by show H1.size ≤ eb Γ + wn w; omega)) hS1 hl hn))
theorem g_putRF (h : Ok X cc own d K N) {idx c f a : Nat} {ty : FieldType} (hf : FdOk own idx c f ty true) (ha : InW X k a c) (ht : fty c f = 1) (hin2 : X.2.2.2.2.2.2.2.2.1.name = "<init>") (hdecl : ((vwCl.getD c ("", fun _ => ("", "", "", false), 0)).2.1 f).1 = own) (hty2 : (∃ z, ty = .object z) ∨ ∃ z, ty = .array z) {v : Option Nat} (hd : decode cc pc = .ok (.putfield idx, 3)) (kk : G X k n (pc + 3) lv st (sR w a f v)) : G X k n pc lv (rv X.1 v :: rv X.1 (some a) :: st) w := by
  obtain ⟨Γ, p, e, R, s, m, args, below, meth, c0, nL, n0, Q, qv⟩ := X
  obtain ⟨hx, hb, hml, hown, hts, hK, hE, hsz, hlk, hRf⟩ := h
  obtain ⟨C, T, NN, ty0, hcl, hin, hlt, hns, hc8, hTC, hlk2, hty, hnm, hpd, hfi⟩ := hf
  have hkd := ha.2
  intro H locs ls hR hS hl hn
  have haw : a < wn w := by
    have h1 : a < n0 + k := ha.1
    omega
  have hlf : f < nsl c := by omega
  have hnr : narrow ty (rv Γ v) = rv Γ v := by cases v <;> cases ty <;> rfl
  have hfr : fits ty (rv Γ v) = true := by rcases hty2 with ⟨z, rfl⟩ | ⟨z, rfl⟩ <;> cases v <;> rfl
  have hdec2 : (T f).1 = own := by
    have h9 := hdecl
    rw [List.getD_eq_getElem?_getD, hcl] at h9
    exact h9
  exact va_putF hx hb hts hin ty0 hty hnm hown hK hR.2 wl_D hS a (ob_at haw hkd hc8) hcl f hlt (hts _ hlk2) (fun x hx => by rw [hTC] at hx; exact hx) hfi hin2 hdec2 hpd hnr hfr (fld_len hlf) hd (fun H1 locs1 hP1 hD1 hS1 => w_size (fun hz => by
    rw [set_R hkd hc8 hlf ht] at hP1
    exact kk H1 locs1 ls (Rp_of hP1 (by show 0 < wn w; omega) (by show H1.size ≤ eb Γ + wn w; omega)) hS1 hl hn))
theorem g_getL (h : Ok X cc own d K N) {idx c f a : Nat} {ty : FieldType} {fin : Bool} (hf : FdOk own idx c f ty fin) (ha : InW X k a c) (ht : fty c f = 2) (hd : decode cc pc = .ok (.getfield idx, 3)) (kk : G X k n (pc + 3) lv (.long (gL w a f) :: st) w) : G X k n pc lv (rv X.1 (some a) :: st) w := by
  obtain ⟨Γ, p, e, R, s, m, args, below, meth, c0, nL, n0, Q, qv⟩ := X
  obtain ⟨hx, hb, hml, hown, hts, hK, hE, hsz, hlk, hRf⟩ := h
  obtain ⟨C, T, NN, ty0, hcl, hin, hlt, hns, hc8, hTC, hlk2, hty, hnm, hpd, hfi⟩ := hf
  have hkd := ha.2
  intro H locs ls hR hS hl hn
  have haw : a < wn w := by
    have h1 : a < n0 + k := ha.1
    omega
  have hlf : f < nsl c := by omega
  exact va_get hx hb hts hin hown hK hR.2 a (ob_at haw hkd hc8) hcl f hlt (hts _ hlk2) (fun x hx => by rw [hTC] at hx; exact hx) (fld_at hkd hlf (by simp [fval, hkd, ht])) hd (kk H locs ls hR hS hl hn)
theorem g_putL (h : Ok X cc own d K N) {idx c f a : Nat} {ty : FieldType} (hf : FdOk own idx c f ty false) (ha : InW X k a c) (ht : fty c f = 2) (hty2 : ty = .long) {v : Int64} (hd : decode cc pc = .ok (.putfield idx, 3)) (kk : G X k n (pc + 3) lv st (sL w a f v)) : G X k n pc lv (.long v :: rv X.1 (some a) :: st) w := by
  obtain ⟨Γ, p, e, R, s, m, args, below, meth, c0, nL, n0, Q, qv⟩ := X
  obtain ⟨hx, hb, hml, hown, hts, hK, hE, hsz, hlk, hRf⟩ := h
  obtain ⟨C, T, NN, ty0, hcl, hin, hlt, hns, hc8, hTC, hlk2, hty, hnm, hpd, hfi⟩ := hf
  have hkd := ha.2
  intro H locs ls hR hS hl hn
  have haw : a < wn w := by
    have h1 : a < n0 + k := ha.1
    omega
  have hlf : f < nsl c := by omega
  have hnr : narrow ty (.long v) = .long v := by cases ty <;> rfl
  have hfr : fits ty (.long v) = true := by subst hty2; rfl
  exact va_put hx hb hts hin ty0 hty hnm hown hK hR.2 wl_D hS a (ob_at haw hkd hc8) hcl f hlt (hts _ hlk2) (fun x hx => by rw [hTC] at hx; exact hx) hfi hpd hnr hfr (fld_len hlf) hd (fun H1 locs1 hP1 hD1 hS1 => w_size (fun hz => by
    rw [set_L hkd hc8 hlf ht] at hP1
    exact kk H1 locs1 ls (Rp_of hP1 (by show 0 < wn w; omega) (by show H1.size ≤ eb Γ + wn w; omega)) hS1 hl hn))
theorem ia_at {Γ : En} {w : Wd} {a : Nat} (ha : a < wn w) (hkd : kd a = 8) : (wl Γ w)[a]? = some (eb Γ + a, .inl (Γ.2.2.1 8, ln a, .inl (gI w a))) := by rw [wl_at ha, pic_ia hkd]
theorem za_at {Γ : En} {w : Wd} {a : Nat} (ha : a < wn w) (hkd : kd a = 9) : (wl Γ w)[a]? = some (eb Γ + a, .inl (Γ.2.2.1 9, ln a, .inl (gI w a))) := by rw [wl_at ha, pic_za hkd]
theorem ra_at {Γ : En} {w : Wd} {a c : Nat} (ha : a < wn w) (hkd : kd a = c) (hc : 9 < c) : (wl Γ w)[a]? = some (eb Γ + a, .inl (Γ.2.2.1 c, ln a, .inr (.inr (.inr (.inr (fun k => (gR w a k).map (fun j => eb Γ + j))))))) := by rw [wl_at ha, pic_ra hkd hc]
theorem set_ia {Γ : En} {w : Wd} {a j : Nat} {x : Int32} (hkd : kd a = 8) : (wl Γ w).set a (eb Γ + a, .inl (Γ.2.2.1 8, ln a, .inl (upd (gI w a) j x))) = wl Γ (sI w a j x) := by
  refine wl_set rfl ?_ (fun q hq => pic_eq (fun i => by simp [gI_sI, hq]) (fun i => rfl) (fun i => rfl))
  rw [pic_ia hkd]
  have : gI (sI w a j x) a = upd (gI w a) j x := by
    funext i
    simp [gI_sI, upd]
  rw [this]
theorem set_za {Γ : En} {w : Wd} {a j : Nat} {x : Int32} (hkd : kd a = 9) : (wl Γ w).set a (eb Γ + a, .inl (Γ.2.2.1 9, ln a, .inl (upd (gI w a) j x))) = wl Γ (sI w a j x) := by
  refine wl_set rfl ?_ (fun q hq => pic_eq (fun i => by simp [gI_sI, hq]) (fun i => rfl) (fun i => rfl))
  rw [pic_za hkd]
  have : gI (sI w a j x) a = upd (gI w a) j x := by
    funext i
    simp [gI_sI, upd]
  rw [this]
theorem set_ra {Γ : En} {w : Wd} {a c j v : Nat} (hkd : kd a = c) (hc : 9 < c) : (wl Γ w).set a (eb Γ + a, .inl (Γ.2.2.1 c, ln a, .inr (.inr (.inr (.inr (va_up (fun k => (gR w a k).map (fun j => eb Γ + j)) j (some (eb Γ + v)))))))) = wl Γ (sR w a j (some v)) := by
  refine wl_set rfl ?_ (fun q hq => pic_eq (fun i => rfl) (fun i => by simp [gR_sR, hq]) (fun i => rfl))
  rw [pic_ra hkd hc]
  have : (fun k => (gR (sR w a j (some v)) a k).map (fun j => eb Γ + j)) = va_up (fun k => (gR w a k).map (fun j => eb Γ + j)) j (some (eb Γ + v)) := by
    funext i
    by_cases hi : i = j <;> simp [gR_sR, va_up, hi]
  rw [this]
theorem set_cp {Γ : En} {w : Wd} {a : Nat} {f : Nat → Int32} (hkd : kd a = 8) : (wl Γ w).set a (eb Γ + a, .inl (Γ.2.2.1 8, ln a, .inl f)) = wl Γ (cI w a f) := by
  refine wl_set rfl ?_ (fun q hq => pic_eq (fun i => by simp [gI_cI, hq]) (fun i => rfl) (fun i => rfl))
  rw [pic_ia hkd]
  have : gI (cI w a f) a = f := by
    funext i
    simp [gI_cI]
  rw [this]
theorem g_iald (h : Ok X cc own d K N) {a : Nat} {i : Int32} (ha : InW X k a 8) (hi : vin i (ln a)) (hd : decode cc pc = .ok (.iaload, 1)) (kk : G X k n (pc + 1) lv (.int (gI w a i.toNatClampNeg) :: st) w) : G X k n pc lv (.int i :: rv X.1 (some a) :: st) w := by
  obtain ⟨Γ, p, e, R, s, m, args, below, meth, c0, nL, n0, Q, qv⟩ := X
  obtain ⟨hx, hb, hml, hown, hts, hK, hE, hsz, hlk, hRf⟩ := h
  intro H locs ls hR hS hl hn
  have haw : a < wn w := by
    have h1 : a < n0 + k := ha.1
    omega
  exact va_iald hx hb hK hR.2 a 0 (ia_at haw ha.2) rfl hi hd (kk H locs ls hR hS hl hn)
theorem g_zald (h : Ok X cc own d K N) {a : Nat} {i : Int32} (ha : InW X k a 9) (hi : vin i (ln a)) (hd : decode cc pc = .ok (.baload, 1)) (kk : G X k n (pc + 1) lv (.int (gI w a i.toNatClampNeg) :: st) w) : G X k n pc lv (.int i :: rv X.1 (some a) :: st) w := by
  obtain ⟨Γ, p, e, R, s, m, args, below, meth, c0, nL, n0, Q, qv⟩ := X
  obtain ⟨hx, hb, hml, hown, hts, hK, hE, hsz, hlk, hRf⟩ := h
  intro H locs ls hR hS hl hn
  have haw : a < wn w := by
    have h1 : a < n0 + k := ha.1
    omega
  exact va_zald hx hb hK hR.2 a 1 (za_at haw ha.2) rfl hi hd (kk H locs ls hR hS hl hn)
theorem g_iast (h : Ok X cc own d K N) {a : Nat} {i x : Int32} (ha : InW X k a 8) (hi : vin i (ln a)) (hd : decode cc pc = .ok (.iastore, 1)) (kk : G X k n (pc + 1) lv st (sI w a i.toNatClampNeg x)) : G X k n pc lv (.int x :: .int i :: rv X.1 (some a) :: st) w := by
  obtain ⟨Γ, p, e, R, s, m, args, below, meth, c0, nL, n0, Q, qv⟩ := X
  obtain ⟨hx, hb, hml, hown, hts, hK, hE, hsz, hlk, hRf⟩ := h
  intro H locs ls hR hS hl hn
  have haw : a < wn w := by
    have h1 : a < n0 + k := ha.1
    omega
  exact va_iast hx hb hK hR.2 wl_D hS a 0 (ia_at haw ha.2) rfl hi hd (fun H1 locs1 hP1 hD1 hS1 => w_size (fun hz => by
    rw [set_ia ha.2] at hP1
    exact kk H1 locs1 ls (Rp_of hP1 (by show 0 < wn w; omega) (by show H1.size ≤ eb Γ + wn w; omega)) hS1 hl hn))
theorem g_zast (h : Ok X cc own d K N) {a : Nat} {i x : Int32} (ha : InW X k a 9) (hi : vin i (ln a)) (hv : vp_nar .boolean x = x) (hd : decode cc pc = .ok (.bastore, 1)) (kk : G X k n (pc + 1) lv st (sI w a i.toNatClampNeg x)) : G X k n pc lv (.int x :: .int i :: rv X.1 (some a) :: st) w := by
  obtain ⟨Γ, p, e, R, s, m, args, below, meth, c0, nL, n0, Q, qv⟩ := X
  obtain ⟨hx, hb, hml, hown, hts, hK, hE, hsz, hlk, hRf⟩ := h
  intro H locs ls hR hS hl hn
  have haw : a < wn w := by
    have h1 : a < n0 + k := ha.1
    omega
  exact va_zast hx hb hK hR.2 wl_D hS a 1 (za_at haw ha.2) rfl hi hd (fun H1 locs1 hP1 hD1 hS1 => w_size (fun hz => by
    rw [hv, set_za ha.2] at hP1
    exact kk H1 locs1 ls (Rp_of hP1 (by show 0 < wn w; omega) (by show H1.size ≤ eb Γ + wn w; omega)) hS1 hl hn))
theorem g_aald (h : Ok X cc own d K N) {a c : Nat} {i : Int32} {E : String} (hc : 9 < c) (hty : (tysOf X.1)[c - 8]? = some (X.1.2.2.1 c, .object E)) (ha : InW X k a c) (hi : vin i (ln a)) (hd : decode cc pc = .ok (.aaload, 1)) (kk : G X k n (pc + 1) lv (rv X.1 (gR w a i.toNatClampNeg) :: st) w) : G X k n pc lv (.int i :: rv X.1 (some a) :: st) w := by
  obtain ⟨Γ, p, e, R, s, m, args, below, meth, c0, nL, n0, Q, qv⟩ := X
  obtain ⟨hx, hb, hml, hown, hts, hK, hE, hsz, hlk, hRf⟩ := h
  intro H locs ls hR hS hl hn
  have haw : a < wn w := by
    have h1 : a < n0 + k := ha.1
    omega
  exact va_aldq hx hb hK hR.2 a (c - 8) (ra_at haw ha.2 hc) hty hi hd (kk H locs ls hR hS hl hn)
theorem g_alen (h : Ok X cc own d K N) {a : Nat} {v : Int32} (ha : InW X k a 8) (hv : Int32.ofNat (ln a) = v) (hd : decode cc pc = .ok (.arraylength, 1)) (kk : G X k n (pc + 1) lv (.int v :: st) w) : G X k n pc lv (rv X.1 (some a) :: st) w := by
  obtain ⟨Γ, p, e, R, s, m, args, below, meth, c0, nL, n0, Q, qv⟩ := X
  obtain ⟨hx, hb, hml, hown, hts, hK, hE, hsz, hlk, hRf⟩ := h
  intro H locs ls hR hS hl hn
  have haw : a < wn w := by
    have h1 : a < n0 + k := ha.1
    omega
  exact va_alen hx hb hK hR.2 a 0 (ia_at haw ha.2) rfl hv hd (kk H locs ls hR hS hl hn)
theorem g_mmax (h : Ok X cc own d K N) {x y : Int32} {i : Nat} (hlink : Cond.methodLink own i Lib.Math.max.name ∈ lw_U) (hdd : 1 ≤ d) (hst : (st.map fun v => v.category).sum ≤ 8) (hkk : k ≤ K ∧ n ≤ N) (hd : decode cc pc = .ok (.invokestatic i, 3)) (kk : G X k n (pc + 3) lv (.int (if x < y then y else x) :: st) w) : G X k n pc lv (.int y :: .int x :: st) w := by
  obtain ⟨Γ, p, e, R, s, m, args, below, meth, c0, nL, n0, Q, qv⟩ := X
  obtain ⟨hx, hb, hml, hown, hts, hK, hE, hsz, hlk, hRf⟩ := h
  intro H locs ls hR hS hl hn
  exact va_mmax hx hb (by rw [hml]; exact hl.1.symm) hown (hts _ hlink) (hts _ wst_J9_max_7cf53) (hts _ win_J9) (hts _ wco_J9_max_7cf53) (by omega) (by omega) (by omega) (by omega) hd (kk H locs ls hR hS hl hn)
theorem g_mmin (h : Ok X cc own d K N) {x y : Int32} {i : Nat} (hlink : Cond.methodLink own i Lib.Math.min.name ∈ lw_U) (hdd : 1 ≤ d) (hst : (st.map fun v => v.category).sum ≤ 8) (hkk : k ≤ K ∧ n ≤ N) (hd : decode cc pc = .ok (.invokestatic i, 3)) (kk : G X k n (pc + 3) lv (.int (if y < x then y else x) :: st) w) : G X k n pc lv (.int y :: .int x :: st) w := by
  obtain ⟨Γ, p, e, R, s, m, args, below, meth, c0, nL, n0, Q, qv⟩ := X
  obtain ⟨hx, hb, hml, hown, hts, hK, hE, hsz, hlk, hRf⟩ := h
  intro H locs ls hR hS hl hn
  exact va_mmin hx hb (by rw [hml]; exact hl.1.symm) hown (hts _ hlink) (hts _ wst_J9_min_7cf53) (hts _ win_J9) (hts _ wco_J9_min_7cf53) (by omega) (by omega) (by omega) (by omega) hd (kk H locs ls hR hS hl hn)
theorem g_copy (h : Ok X cc own d K N) {a b i : Nat} {sp dp q : Int32} (hlink : Cond.methodLink own i arraycopyName ∈ lw_U) (ha : InW X k a 8) (hbb : InW X k b 8) (hq : ¬ sp < 0 ∧ ¬ dp < 0 ∧ ¬ q < 0 ∧ sp.toNatClampNeg + q.toNatClampNeg ≤ ln a ∧ dp.toNatClampNeg + q.toNatClampNeg ≤ ln b) (hdd : 2 ≤ d) (hst : (st.map fun v => v.category).sum ≤ 8) (hnat : Cond.native arraycopyName ∈ lw_U) (hsta : Cond.static arraycopyName ∈ lw_U) (hini : Cond.initialized "java/lang/System" ∈ lw_U) (hd : decode cc pc = .ok (.invokestatic i, 3)) (kk : G X k n (pc + 3) lv st (cI w b (va_cpy (gI w a) (gI w b) sp.toNatClampNeg dp.toNatClampNeg q.toNatClampNeg))) : G X k n pc lv (.int q :: .int dp :: rv X.1 (some b) :: .int sp :: rv X.1 (some a) :: st) w := by
  obtain ⟨Γ, p, e, R, s, m, args, below, meth, c0, nL, n0, Q, qv⟩ := X
  obtain ⟨hx, hb, hml, hown, hts, hK, hE, hsz, hlk, hRf⟩ := h
  intro H locs ls hR hS hl hn
  have haw : a < wn w := by
    have h1 : a < n0 + k := ha.1
    omega
  have hbw : b < wn w := by
    have h1 : b < n0 + k := hbb.1
    omega
  exact va_copyi hx hb (by rw [hml]; exact hl.1.symm) hown (hts _ hlink) (hts _ hnat) (hts _ hsta) (hts _ hini) hK hR.2 wl_D hS a b 0 0 (ia_at haw ha.2) (ia_at hbw hbb.2) rfl rfl rfl hq.1 hq.2.1 hq.2.2.1 hq.2.2.2.1 hq.2.2.2.2 (fun _ _ => rfl) (by omega) (Nat.le_trans (Nat.add_le_add_right hst _) (Nat.le_trans (m := 64 * 2) (by decide +kernel) (by omega))) hd (fun H1 locs1 hP1 hD1 hS1 => w_size (fun hz => by
    rw [set_cp hbb.2] at hP1
    exact kk H1 locs1 ls (Rp_of hP1 (by show 0 < wn w; omega) (by show H1.size ≤ eb Γ + wn w; omega)) hS1 hl hn))
theorem g_iret (h : Ok X cc own d K N) (hr : RetI X .int K N) (hkk : k ≤ K ∧ n ≤ N) {v : Int32} (hF : OkR X Value.int (some (v, w))) (hd : decode cc pc = .ok (.ireturn, 1)) : G X k n pc lv [.int v] w := by
  obtain ⟨Γ, p, e, R, s, m, args, below, meth, c0, nL, n0, Q, qv⟩ := X
  obtain ⟨hx, hb, hml, hown, hts, hK, hE, hsz, hlk, hRf⟩ := h
  obtain ⟨hr1, rfl⟩ := hr
  obtain ⟨r, w', he, hq⟩ := hF
  cases he
  intro H locs ls hR hS hl hn
  refine W.widen hkk.1 hkk.2 ?_
  exact W.iret hx hb hr1 (fun t ht hW => ⟨⟨v, w, rfl, hq, by show Rp Γ w t.heap; rw [ht]; exact hR⟩, hS.F ht⟩) hS.2.2 hd hlk
theorem g_zret (h : Ok X cc own d K N) {ty : FieldType} (hr : RetI X ty K N) (hkk : k ≤ K ∧ n ≤ N) {v : Int32} (hv : narrow ty (.int v) = .int v) (hF : OkR X Value.int (some (v, w))) (hd : decode cc pc = .ok (.ireturn, 1)) : G X k n pc lv [.int v] w := by
  obtain ⟨Γ, p, e, R, s, m, args, below, meth, c0, nL, n0, Q, qv⟩ := X
  obtain ⟨hx, hb, hml, hown, hts, hK, hE, hsz, hlk, hRf⟩ := h
  obtain ⟨hr1, rfl⟩ := hr
  obtain ⟨r, w', he, hq⟩ := hF
  cases he
  intro H locs ls hR hS hl hn
  refine W.widen hkk.1 hkk.2 ?_
  exact W.zret hx hb hr1 hv (fun t ht hW => ⟨⟨v, w, rfl, hq, by show Rp Γ w t.heap; rw [ht]; exact hR⟩, hS.F ht⟩) hS.2.2 hd hlk
theorem g_lret (h : Ok X cc own d K N) (hr : RetL X K N) (hkk : k ≤ K ∧ n ≤ N) {v : Int64} (hF : OkR X Value.long (some (v, w))) (hd : decode cc pc = .ok (.lreturn, 1)) : G X k n pc lv [.long v] w := by
  obtain ⟨Γ, p, e, R, s, m, args, below, meth, c0, nL, n0, Q, qv⟩ := X
  obtain ⟨hx, hb, hml, hown, hts, hK, hE, hsz, hlk, hRf⟩ := h
  obtain ⟨hr1, rfl⟩ := hr
  obtain ⟨r, w', he, hq⟩ := hF
  cases he
  intro H locs ls hR hS hl hn
  refine W.widen hkk.1 hkk.2 ?_
  exact W.lret hx hb hr1 (fun t ht hW => ⟨⟨v, w, rfl, hq, by show Rp Γ w t.heap; rw [ht]; exact hR⟩, hS.F ht⟩) hS.2.2 hd hlk
theorem g_vret (h : Ok X cc own d K N) (hr : RetV X K N) (hkk : k ≤ K ∧ n ≤ N) (hF : OkR X (fun _ : Unit => Value.null) (some ((), w))) (hd : decode cc pc = .ok (.return_, 1)) : G X k n pc lv [] w := by
  obtain ⟨Γ, p, e, R, s, m, args, below, meth, c0, nL, n0, Q, qv⟩ := X
  obtain ⟨hx, hb, hml, hown, hts, hK, hE, hsz, hlk, hRf⟩ := h
  obtain ⟨hr1, rfl⟩ := hr
  obtain ⟨r, w', he, hq⟩ := hF
  cases he
  intro H locs ls hR hS hl hn
  refine W.widen hkk.1 hkk.2 ?_
  exact W.vret hx hb hr1 (fun t ht hW => ⟨⟨w, rfl, hq, by show Rp Γ w t.heap; rw [ht]; exact hR⟩, hS.F ht⟩) hS.2.2 hd hlk
theorem g_aret (h : Ok X cc own d K N) {ty : FieldType} (hr : RetQ X ty K N) (hkk : k ≤ K ∧ n ≤ N) {v : Option Nat} (hF : OkR X (rv X.1) (some (v, w))) (hd : decode cc pc = .ok (.areturn, 1)) : G X k n pc lv [rv X.1 v] w := by
  obtain ⟨Γ, p, e, R, s, m, args, below, meth, c0, nL, n0, Q, qv⟩ := X
  obtain ⟨hx, hb, hml, hown, hts, hK, hE, hsz, hlk, hRf⟩ := h
  obtain ⟨hr1, hr2, rfl⟩ := hr
  obtain ⟨r, w', he, hq⟩ := hF
  cases he
  intro H locs ls hR hS hl hn
  refine W.widen hkk.1 hkk.2 ?_
  exact W.aret hx hb hr1 (Or.inl hr2) (by cases v with | none => exact Or.inl rfl | some a => exact Or.inr ⟨_, rfl⟩) (fun t ht hW => ⟨⟨v.map (fun i => eb Γ + i), w, rfl, hq, by show Rp Γ w t.heap; rw [ht]; exact hR⟩, hS.F ht⟩) hS.2.2 hd hlk
