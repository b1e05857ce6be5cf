/-! the model's reading, step by step -/
def PQ (i k : Nat) : Prop := i = 52 ∧ 20 ≤ k ∧ k ≤ 26
theorem PK_PQ (i k : Nat) (h : PK i k) : PQ i k := by unfold PK at h; unfold PQ; omega
theorem PQ_PR (i k : Nat) (h : PQ i k) : PR i k := by unfold PQ at h; unfold PR; omega
def MG (b : Nat → Int32) (z t : Nat) (w : Wd) (d : Nat) (env : Nat → Int32) (p : Nat) : Prop := (∀ k, k < z → 0 ≤ b k) ∧ Mz b z t w ∧ gI w 52 24 = nI d ∧ gI w 52 25 = 0 ∧ Mx b z w p ∧ p ≤ z ∧ envM w = env
def MB (b : Nat → Int32) (z t : Nat) (w : Wd) (d : Nat) (env : Nat → Int32) (f : Nat) : Prop := (∀ k, k < z → 0 ≤ b k) ∧ Mz b z t w ∧ gI w 52 24 = nI d ∧ gI w 52 25 = 1 ∧ gI w 52 26 = nI f ∧ envM w = env
def MV (b : Nat → Int32) (z t : Nat) (w : Wd) (d : Nat) (env : Nat → Int32) (v : Int32) (r : Rz) : Prop := match r with
  | .inl f => MB b z t w d env f
  | .inr (_, s, p) => MG b z t w d env p ∧ v = s env
def ImM (b : Nat → Int32) (z t : Nat) (f : Wd → Option (Int32 × Wd)) (d : Nat) (sp : Nat → Rz) : Prop :=
  (∀ w env p, MG b z t w d env p → ∃ v w', f w = some (v, w') ∧ MV b z t w' d env v (sp p) ∧ Ch PQ w w') ∧ (∀ w env fl, MB b z t w d env fl → ∃ v w', f w = some (v, w') ∧ MB b z t w' d env fl ∧ Ch PQ w w')
theorem MB.col {b : Nat → Int32} {z t : Nat} {w : Wd} {d : Nat} {env : Nat → Int32} {v : Int32} {x : Rz} {f : Nat} (hx : x = .inl f) (h : MV b z t w d env v x) : MB b z t w d env f := by rw [hx] at h; exact h
theorem MG.col {b : Nat → Int32} {z t : Nat} {w : Wd} {d : Nat} {env : Nat → Int32} {v : Int32} {x : Rz} {c : List Int32} {s : Sem} {p : Nat} (hx : x = .inr (c, s, p)) (h : MV b z t w d env v x) : MG b z t w d env p ∧ v = s env := by rw [hx] at h; exact h
theorem envM_ch {P : Nat → Nat → Prop} {w w' : Wd} (hc : Ch P w w') (hP : ∀ k, 12 ≤ k → k ≤ 17 → ¬ P 52 k) : envM w' = envM w := by
  funext q
  unfold envM
  rw [hc.I (hP 12 (by omega) (by omega)), hc.I (hP 13 (by omega) (by omega)), hc.I (hP 14 (by omega) (by omega)), hc.I (hP 15 (by omega) (by omega)), hc.I (hP 16 (by omega) (by omega)), hc.I (hP 17 (by omega) (by omega))]
theorem MG.next {b : Nat → Int32} {z t : Nat} {w : Wd} {d : Nat} {env : Nat → Int32} {p : Nat} (h : MG b z t w d env p) (hm : tk b z p ≠ 0) : ∃ w', fX7_next 52 w = some ((), w') ∧ MG b z t w' d env (nx b z p) ∧ Ch PQ w w' := by
  obtain ⟨h0, h1, h2, h3, h4, h5, h6⟩ := h
  obtain ⟨n1, n2, n3⟩ := nx_le (b := b) h5
  obtain ⟨w', e, l, c1⟩ := next_ev h0 h1 n2 (h4.2.2.1 (mk_ne4 hm))
  refine ⟨w', e, ⟨h0, h1.k c1, ?_, ?_, l, n2, ?_⟩, c1.mono PK_PQ⟩
  · rw [c1.I (by unfold PK; omega)]; exact h2
  · rw [c1.I (by unfold PK; omega)]; exact h3
  · rw [envM_ch c1 (fun k _ _ => by unfold PK; omega)]; exact h6
theorem MG.fail {b : Nat → Int32} {z t : Nat} {w : Wd} {d : Nat} {env : Nat → Int32} {p : Nat} (h : MG b z t w d env p) : ∃ w', fX7_fail 52 w = some ((), w') ∧ MB b z t w' d env (tS b z p) ∧ Ch PQ w w' := by
  obtain ⟨h0, h1, h2, h3, h4, h5, h6⟩ := h
  have c1 : Ch PQ w (sI (sI w 52 25 1) 52 26 (nI (tS b z p))) := (ch_sI ⟨rfl, by omega, by omega⟩).tr (ch_sI ⟨rfl, by omega, by omega⟩)
  refine ⟨_, ?_, ⟨h0, h1.ch c1 (fun i k q => by unfold PQ at q; omega), ?_, ?_, ?_, ?_⟩, c1⟩
  · unfold fX7_fail
    rw [if_pos h3, lw_e, gI_sI, if_neg (by omega), h4.2.1, lw_e]
  · rw [gI_sI, if_neg (by omega), gI_sI, if_neg (by omega)]; exact h2
  · rw [gI_sI, if_neg (by omega), gI_sI, if_pos ⟨rfl, rfl⟩]
  · rw [gI_sI, if_pos ⟨rfl, rfl⟩]
  · rw [envM_ch c1 (fun k _ _ => by unfold PQ; omega)]; exact h6
theorem MB.fail {b : Nat → Int32} {z t : Nat} {w : Wd} {d : Nat} {env : Nat → Int32} {f : Nat} (h : MB b z t w d env f) : fX7_fail 52 w = some ((), w) := by
  unfold fX7_fail
  rw [h.2.2.2.1, if_neg (by decide)]
theorem MG.bad {b : Nat → Int32} {z t : Nat} {w : Wd} {d : Nat} {env : Nat → Int32} {p : Nat} (h : MG b z t w d env p) : gI w 52 25 = 0 := h.2.2.2.1
theorem MG.kind {b : Nat → Int32} {z t : Nat} {w : Wd} {d : Nat} {env : Nat → Int32} {p : Nat} (h : MG b z t w d env p) : gI w 52 21 = mk b z p := h.2.2.2.2.1.1
theorem MB.bad {b : Nat → Int32} {z t : Nat} {w : Wd} {d : Nat} {env : Nat → Int32} {f : Nat} (h : MB b z t w d env f) : ¬ gI w 52 25 = 0 := by rw [h.2.2.2.1]; decide
theorem MG.sign {b : Nat → Int32} {z t : Nat} {w : Wd} {d : Nat} {env : Nat → Int32} {p : Nat} {x : Int32} (h : MG b z t w d env p) (h0 : sgT x ≠ 0) : fX7_isSign 52 x w = some (if tk b z p = sgT x then 1 else 0, w) := by
  rw [misS_ev h.2.2.2.1 h.2.2.2.2.1]
  by_cases hc : tk b z p = sgT x
  · rw [if_pos hc, if_pos ((tk_s h0).mpr hc)]
  · rw [if_neg hc, if_neg (fun y => hc ((tk_s h0).mp y))]
theorem MB.sign {b : Nat → Int32} {z t : Nat} {w : Wd} {d : Nat} {env : Nat → Int32} {f : Nat} {x : Int32} (h : MB b z t w d env f) : fX7_isSign 52 x w = some (0, w) := by
  unfold fX7_isSign
  rw [if_neg h.bad]
theorem MG.word {b : Nat → Int32} {z t : Nat} {w : Wd} {d : Nat} {env : Nat → Int32} {p k : Nat} (h : MG b z t w d env p) (hk : 7 ≤ k ∧ k < 13) : fX7_isWord 52 ((sByt.getD k []).getD 0 0) ((sByt.getD k []).getD 1 0) ((sByt.getD k []).getD 2 0) ((sByt.getD k []).getD 3 0) ((sByt.getD k []).getD 4 0) ((sByt.getD k []).getD 5 0) ((sByt.getD k []).getD 6 0) ((sByt.getD k []).getD 7 0) w = some (if tk b z p = nI (k - 3) then 1 else 0, w) := by
  rw [misW_ev (by omega) h.2.1 h.2.2.2.1 h.2.2.2.2.1 h.2.2.2.2.2.1]
  by_cases hc : tk b z p = nI (k - 3)
  · rw [if_pos hc, if_pos ((tk_w hk).mpr hc)]
  · rw [if_neg hc, if_neg (fun y => hc ((tk_w hk).mp y))]
theorem MB.word {b : Nat → Int32} {z t : Nat} {w : Wd} {d : Nat} {env : Nat → Int32} {f : Nat} {x1 x2 x3 x4 x5 x6 x7 x8 : Int32} (h : MB b z t w d env f) : fX7_isWord 52 x1 x2 x3 x4 x5 x6 x7 x8 w = some (0, w) := by
  unfold fX7_isWord
  rw [if_neg h.bad]
theorem MG.setD {b : Nat → Int32} {z t : Nat} {w : Wd} {d d2 : Nat} {env : Nat → Int32} {p : Nat} (h : MG b z t w d env p) : MG b z t (sI w 52 24 (nI d2)) d2 env p ∧ Ch PQ w (sI w 52 24 (nI d2)) := by
  obtain ⟨h0, h1, h2, h3, h4, h5, h6⟩ := h
  have c1 : Ch PQ w (sI w 52 24 (nI d2)) := ch_sI ⟨rfl, by omega, by omega⟩
  have e : ∀ k, k ≠ 24 → gI (sI w 52 24 (nI d2)) 52 k = gI w 52 k := fun k hk => by rw [gI_sI, if_neg (by omega)]
  refine ⟨⟨h0, h1.ch c1 (fun i k q => by unfold PQ at q; omega), by rw [gI_sI, if_pos ⟨rfl, rfl⟩], by rw [e _ (by omega)]; exact h3, ⟨by rw [e _ (by omega)]; exact h4.1, by rw [e _ (by omega)]; exact h4.2.1, fun y => by rw [e _ (by omega)]; exact h4.2.2.1 y, h4.2.2.2.1, h4.2.2.2.2⟩, h5, ?_⟩, c1⟩
  rw [envM_ch c1 (fun k _ _ => by unfold PQ; omega)]; exact h6
theorem MB.setD {b : Nat → Int32} {z t : Nat} {w : Wd} {d d2 : Nat} {env : Nat → Int32} {f : Nat} (h : MB b z t w d env f) : MB b z t (sI w 52 24 (nI d2)) d2 env f ∧ Ch PQ w (sI w 52 24 (nI d2)) := by
  obtain ⟨h0, h1, h2, h3, h4, h6⟩ := h
  have c1 : Ch PQ w (sI w 52 24 (nI d2)) := ch_sI ⟨rfl, by omega, by omega⟩
  have e : ∀ k, k ≠ 24 → gI (sI w 52 24 (nI d2)) 52 k = gI w 52 k := fun k hk => by rw [gI_sI, if_neg (by omega)]
  refine ⟨⟨h0, h1.ch c1 (fun i k q => by unfold PQ at q; omega), by rw [gI_sI, if_pos ⟨rfl, rfl⟩], by rw [e _ (by omega)]; exact h3, by rw [e _ (by omega)]; exact h4, ?_⟩, c1⟩
  rw [envM_ch c1 (fun k _ _ => by unfold PQ; omega)]; exact h6
theorem mopen_good {b : Nat → Int32} {z t : Nat} {w : Wd} {d : Nat} {env : Nat → Int32} {p : Nat} (h : MG b z t w d env p) (hd : d < 5) (hm : tk b z p ≠ 0) : ∃ w', fX7_opens 52 w = some (1, w') ∧ MG b z t w' (d + 1) env (nx b z p) ∧ Ch PQ w w' := by
  have h24 := h.2.2.1
  obtain ⟨g1, c1⟩ := h.setD (d2 := d + 1)
  obtain ⟨w2, e2, g2, c2⟩ := g1.next hm
  refine ⟨w2, ?_, g2, c1.tr c2⟩
  have hne : ¬ gI w 52 24 = 5 := by
    rw [h24]
    exact fun y => by
      have := (nI_eq (a := d) (b := 5) (by omega) (by omega)).mp y
      omega
  unfold fX7_opens
  rw [if_neg hne, lw_e, h24, nI_1, e2, bnd_s]
theorem mopen_full {b : Nat → Int32} {z t : Nat} {w : Wd} {env : Nat → Int32} {p : Nat} (h : MG b z t w 5 env p) : ∃ w', fX7_opens 52 w = some (0, w') ∧ MB b z t w' 5 env (tS b z p) ∧ Ch PQ w w' := by
  have h24 := h.2.2.1
  obtain ⟨w2, e2, g2, c2⟩ := h.fail
  refine ⟨w2, ?_, g2, c2⟩
  have he : gI w 52 24 = 5 := by rw [h24]; rfl
  unfold fX7_opens
  rw [if_pos he, e2, bnd_s]
/-- a loop over operators, as the model has it -/
def LoopM (b : Nat → Int32) (z t d : Nat) (op : Int32 → Int32) (one : Wd → Option (Int32 × Wd)) (F : Nat → Int32 → Wd → Option (Int32 × Wd)) : Prop :=
  (∀ n x w env p, MG b z t w d env p → F (n + 1) x w = if op (tk b z p) = 0 then some (x, w) else bnd (fX7_next 52 w) (fun _ w6 => bnd (one w6) (fun x7 w8 => F n (op2 (op (tk b z p)) x x7) w8))) ∧ (∀ n x w env f, MB b z t w d env f → F (n + 1) x w = some (x, w))
theorem mloop_good {b : Nat → Int32} {z t d k : Nat} {op : Int32 → Int32} {one : Wd → Option (Int32 × Wd)} {F : Nat → Int32 → Wd → Option (Int32 × Wd)} {sp : Nat → Rz} (hF : LoopM b z t d op one F) (h0 : op 0 = 0) (h01 : op 1 = 0) (h1 : ImM b z t one d sp) (hG : ∀ p, p ≤ z → Gd z k p (sp p)) : ∀ (n fu : Nat) (w : Wd) (env : Nat → Int32) (c : List Int32) (s : Sem) (p : Nat), z ≤ p + n → n < fu → MG b z t w d env p → ∃ v w', F fu (s env) w = some (v, w') ∧ MV b z t w' d env v (lp b z op sp n c s p) ∧ Ch PQ w w' := by
  intro n
  induction n with
  | zero =>
    intro fu w env c s p hi hf h
    obtain ⟨fu, rfl⟩ : ∃ y, fu = y + 1 := ⟨fu - 1, by omega⟩
    have ht : tk b z p = 1 := by
      have := tS_le (b := b) h.2.2.2.2.2.1
      rw [tk, if_neg (by omega)]
    rw [hF.1 fu _ w env p h, ht, h01, if_pos rfl]
    exact ⟨_, w, rfl, ⟨h, rfl⟩, Ch.rf⟩
  | succ n ih =>
    intro fu w env c s p hi hf h
    obtain ⟨fu, rfl⟩ : ∃ y, fu = y + 1 := ⟨fu - 1, by omega⟩
    rw [hF.1 fu _ w env p h, lp]
    by_cases ho : op (tk b z p) = 0
    · rw [if_pos ho, if_pos ho]
      exact ⟨_, w, rfl, ⟨h, rfl⟩, Ch.rf⟩
    · rw [if_neg ho, if_neg ho]
      have t0 : tk b z p ≠ 0 := fun y => ho (by rw [y]; exact h0)
      have t1 : tk b z p ≠ 1 := fun y => ho (by rw [y]; exact h01)
      obtain ⟨n1, n2, n3⟩ := nx_le (b := b) h.2.2.2.2.2.1
      have n3 := n3 t1
      obtain ⟨w1, e1, g1, c1⟩ := h.next t0
      obtain ⟨v2, w2, e2, q2, c2⟩ := h1.1 w1 _ _ g1
      rw [e1, bnd_s, e2, bnd_s]
      match hx : sp (nx b z p) with
      | .inl f =>
        have b2 := MB.col hx q2
        obtain ⟨fu, rfl⟩ : ∃ y, fu = y + 1 := ⟨fu - 1, by omega⟩
        rw [hF.2 fu _ w2 env f b2]
        exact ⟨_, w2, rfl, b2, c1.tr c2⟩
      | .inr (c9, s9, p9) =>
        obtain ⟨g2, rfl⟩ := MG.col hx q2
        obtain ⟨a1, a2, a3, -⟩ := hG _ n2 c9 s9 p9 hx
        obtain ⟨v3, w3, e3, q3, c3⟩ := ih fu w2 env (c ++ (c9 ++ [op (tk b z p)])) (fun e => op2 (op (tk b z p)) (s e) (s9 e)) p9 (by omega) (by omega) g2
        exact ⟨v3, w3, e3, q3, c1.tr (c2.tr c3)⟩
theorem mmany_ev {b : Nat → Int32} {z t d k : Nat} {op : Int32 → Int32} {one f : Wd → Option (Int32 × Wd)} {F : Nat → Int32 → Wd → Option (Int32 × Wd)} {sp : Nat → Rz} (hF : LoopM b z t d op one F) (h0 : op 0 = 0) (h01 : op 1 = 0) (h1 : ImM b z t one d sp) (hG : ∀ p, p ≤ z → Gd z k p (sp p)) (hf : ∀ w, f w = bnd (one w) (fun x w2 => F FU x w2)) : ImM b z t f d (many b z op sp) := by
  refine ⟨fun w env p h => ?_, fun w env fl h => ?_⟩
  · have hz := h.2.1.2.1
    obtain ⟨v1, w1, e1, q1, c1⟩ := h1.1 w env p h
    rw [hf, e1, bnd_s]
    unfold many
    match hx : sp p with
    | .inl f =>
      have b1 := MB.col hx q1
      rw [show FU = 1999 + 1 from rfl, hF.2 1999 _ w1 env f b1]
      exact ⟨v1, w1, rfl, b1, c1⟩
    | .inr (c9, s9, p9) =>
      obtain ⟨g1, rfl⟩ := MG.col hx q1
      obtain ⟨v2, w2, e2, q2, c2⟩ := mloop_good hF h0 h01 h1 hG 160 FU w1 env c9 s9 p9 (by omega) (by show 160 < 2000; omega) g1
      exact ⟨v2, w2, e2, q2, c1.tr c2⟩
  · obtain ⟨v1, w1, e1, b1, c1⟩ := h1.2 w env fl h
    rw [hf, e1, bnd_s, show FU = 1999 + 1 from rfl, hF.2 1999 _ w1 env fl b1]
    exact ⟨v1, w1, rfl, b1, c1⟩
