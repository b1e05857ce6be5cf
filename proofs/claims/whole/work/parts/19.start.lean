variable {X : Cx} {cc : ByteArray} {own : String} {d K N k n pc : Nat} {lv : List (Nat × LV)} {st : List Value} {w : Wd} {β : Type} {enc : β → Value}
theorem g_newK (h : Ok X cc own d K N) {idx c n' : Nat} (hw : NwOk own idx c) (hc : kd (wn w) = c ∧ ln (wn w) = 0) (hkn : k + 1 ≤ K ∧ n' ≤ N) (hn2 : n + nsl c = n') (hd : decode cc pc = .ok (.new idx, 3)) (kk : InW X (k + 1) (wn w) c → G X (k + 1) n' (pc + 3) lv (rv X.1 (some (wn w)) :: st) (al w)) : G X k n pc lv st w := by
  obtain ⟨Γ, p, e, R, s, m, args, below, meth, c0, nL, n0, Q, qv⟩ := X
  obtain ⟨hx, hb, hml, hown, hts, hK, hE, hsz, hlk, hRf⟩ := h
  obtain ⟨C, T, NN, ty0, hcl, hc8, hns, hin, hty, hcli, hinst, hini, hdef⟩ := hw
  subst hns
  intro H locs ls hR hS hl hn
  exact va_new hx hb hts hin ty0 hty hown (hts _ hcli) (hts _ hinst) (hts _ hini) hK hR.2 wl_D hS (fun q hq => by show eb Γ ≤ q; omega) hcl (fs := (List.range (nsl c)).map (fval Γ (al w) (wn w))) (fun j hj => by
      rw [hdef j hj]
      have e1 : vp_V ((List.range (nsl c)).map (fval Γ (al w) (wn w))) j = fval Γ (al w) (wn w) j := by simp [vp_V, hj]
      rw [e1]
      simp only [fval, hc.1, gI_al, gR_al, gL_al, if_true]
      rfl) (by omega) (by omega) hd (fun q H1 hP1 hD1 hS1 => w_size fun hz => by
    have hz2 : H1.size ≤ eb Γ + wn w + 1 := by
      have : H1.size ≤ s.heap.size + (k + 1) := hz
      omega
    have hq := new_at hP1 hD1 hz2
    subst hq
    have hR1 := Rp_new hP1 rfl (by rw [pic_ob hc.1 hc8]) hz2
    have := kk ⟨(by show wn w < n0 + (k + 1); omega), hc.1⟩ H1 locs ls hR1 hS1 hl (by show n0 + (k + 1) = wn w + 1; omega)
    subst hn2
    exact this)
theorem g_ciK (h : Ok X cc own d K N) {dc na mL idx K' N' k' n' a c : Nat} {y : MethodName} {bytes : ByteArray} {As stk : List Value} {o : Option (Unit × Wd)} {w' : Wd} (hM : (a < wn w ∧ kd a = c) → MtV X.1 y bytes mL none dc K' N' (rv X.1 (some a) :: As) w o) (hw : CiOk own idx y bytes mL na) (ha : InW X k a c) (hdd : dc + 1 ≤ d) (hkk : k' ≤ K ∧ n' ≤ N) (hk2 : k + K' = k' ∧ n + N' = n') (hst : (st.map fun v => v.category).sum ≤ 8) (hna : As.length = na) (hstk : stk = As.reverse ++ rv X.1 (some a) :: st) (hd : decode cc pc = .ok (.invokespecial idx, 3)) (hgr : wn w + K' ≤ wn w') (ho : o = some ((), w')) (kk : G X k' n' (pc + 3) lv st w') : G X k n pc lv stk w := by
  obtain ⟨Γ, p, e, R, s, m, args, below, meth, c0, nL, n0, Q, qv⟩ := X
  obtain ⟨hx, hb, hml, hown, hts, hK, hE, hsz, hlk, hRf⟩ := h
  obtain ⟨rfl, rfl⟩ := hk2
  intro H locs ls hR hS hl hn
  have haw : a < wn w := by
    have h1 : a < n0 + k := ha.1
    omega
  have hM := hM ⟨haw, ha.2⟩ () w' ho
  refine va_callv (va_runI (As := As) (rest := st) (b := eb Γ + a) ⟨hx, hb, hml, hown, hts⟩ hM (cwI na hts (good_code hw.1.2.2.1) rfl rfl rfl (hts _ hw.1.2.2.2) (hts _ hw.2.1) (hts _ hw.2.2.2) hw.2.2.1 hw.1.1 ⟨by show dc + 1 ≤ R.frames; omega, by show 8 + (mL + 11) + 64 * dc ≤ R.locals; have := hw.1.2.1; omega⟩) ⟨Bd_blind, fun U hU hW => ⟨rfl, pre_ok hR hK hE hS hU hW⟩⟩ rfl hna hl.1 hstk (lv_room hst) hd ⟨by omega, by omega⟩) hS (fun q _ hq => hq) (fun q hq => hq) (fun u t H1 locs1 ht hvm hw hB hz1 hk1 hS1 => ?_)
  subst hw
  rw [ht] at hB
  exact w_size fun hz => kk H1 locs1 ls hB hS1 hl (by have h1 : H.size = eb Γ + wn w := hR.1; have h2 : H1.size = eb Γ + wn u := hB.1; have h3 : H1.size ≤ s.heap.size + (k + K') := hz; show n0 + (k + K') = wn u; omega)
def w0 : Wd := (fun _ _ => 0, fun _ _ => none, fun _ _ => 0, 0)
/-- what the two constructors leave -/
def InitOk (J : Wd → Prop) : Prop := ∃ w1 w2, fX6_init 0 (al w0) = some ((), w1) ∧ wn w1 = 52 ∧ fX7_init 52 (al w1) = some ((), w2) ∧ wn w2 = 66 ∧ J w2
abbrev gvC : Cond := Jvm.Cond.and given_1 narrow_1
theorem gv_in (i : Nat) {c : Cond} (h : (flatC gvC)[i]? = some c) : c ∈ flatC gvC := List.mem_of_getElem? h
def stT (i : Nat) : Term := .string (strP.getD i ("", 0)).1 (strP.getD i ("", 0)).2
theorem gv_ex : ∀ i : Nat, i < 13 → Cond.exactly (stT i) "java/lang/String" ∈ flatC gvC := by
  intro i hi
  match i, hi with
  | 0, _ => exact gv_in 42 rfl
  | 1, _ => exact gv_in 106 rfl
  | 2, _ => exact gv_in 115 rfl
  | 3, _ => exact gv_in 127 rfl
  | 4, _ => exact gv_in 138 rfl
  | 5, _ => exact gv_in 152 rfl
  | 6, _ => exact gv_in 164 rfl
  | 7, _ => exact gv_in 178 rfl
  | 8, _ => exact gv_in 194 rfl
  | 9, _ => exact gv_in 211 rfl
  | 10, _ => exact gv_in 229 rfl
  | 11, _ => exact gv_in 245 rfl
  | 12, _ => exact gv_in 263 rfl
  | i + 13, hi => exact absurd hi (by omega)
theorem gv_co : ∀ i : Nat, i < 13 → Cond.eq (.field (stT i) "java/lang/String" "coder" "B") (.int 0) ∈ flatC gvC := by
  intro i hi
  match i, hi with
  | 0, _ => exact gv_in 43 rfl
  | 1, _ => exact gv_in 107 rfl
  | 2, _ => exact gv_in 116 rfl
  | 3, _ => exact gv_in 128 rfl
  | 4, _ => exact gv_in 139 rfl
  | 5, _ => exact gv_in 153 rfl
  | 6, _ => exact gv_in 165 rfl
  | 7, _ => exact gv_in 179 rfl
  | 8, _ => exact gv_in 195 rfl
  | 9, _ => exact gv_in 212 rfl
  | 10, _ => exact gv_in 230 rfl
  | 11, _ => exact gv_in 246 rfl
  | 12, _ => exact gv_in 264 rfl
  | i + 13, hi => exact absurd hi (by omega)
theorem gv_ar : ∀ i : Nat, i < 13 → Cond.arrayOf (.field (stT i) "java/lang/String" "value" "[B") .byte ∈ flatC gvC := by
  intro i hi
  match i, hi with
  | 0, _ => exact gv_in 44 rfl
  | 1, _ => exact gv_in 108 rfl
  | 2, _ => exact gv_in 117 rfl
  | 3, _ => exact gv_in 129 rfl
  | 4, _ => exact gv_in 140 rfl
  | 5, _ => exact gv_in 154 rfl
  | 6, _ => exact gv_in 166 rfl
  | 7, _ => exact gv_in 180 rfl
  | 8, _ => exact gv_in 196 rfl
  | 9, _ => exact gv_in 213 rfl
  | 10, _ => exact gv_in 231 rfl
  | 11, _ => exact gv_in 247 rfl
  | 12, _ => exact gv_in 265 rfl
  | i + 13, hi => exact absurd hi (by omega)
theorem gv_le : ∀ i : Nat, i < 13 → Cond.eq (.length (.field (stT i) "java/lang/String" "value" "[B")) (.int (Int32.ofNat (sLen.getD i 0))) ∈ flatC gvC := by
  intro i hi
  match i, hi with
  | 0, _ => exact gv_in 45 rfl
  | 1, _ => exact gv_in 109 rfl
  | 2, _ => exact gv_in 118 rfl
  | 3, _ => exact gv_in 130 rfl
  | 4, _ => exact gv_in 141 rfl
  | 5, _ => exact gv_in 155 rfl
  | 6, _ => exact gv_in 167 rfl
  | 7, _ => exact gv_in 181 rfl
  | 8, _ => exact gv_in 197 rfl
  | 9, _ => exact gv_in 214 rfl
  | 10, _ => exact gv_in 232 rfl
  | 11, _ => exact gv_in 248 rfl
  | 12, _ => exact gv_in 266 rfl
  | i + 13, hi => exact absurd hi (by omega)
theorem gv_el0 : ∀ j : Nat, j < 60 → Cond.eq (.elem (.field (stT 0) "java/lang/String" "value" "[B") (.int (Int32.ofNat j))) (.int ((sByt.getD 0 []).getD j 0)) ∈ flatC gvC := by
  intro j hj
  match j, hj with
  | 0, _ => exact gv_in 46 rfl
  | 1, _ => exact gv_in 47 rfl
  | 2, _ => exact gv_in 48 rfl
  | 3, _ => exact gv_in 49 rfl
  | 4, _ => exact gv_in 50 rfl
  | 5, _ => exact gv_in 51 rfl
  | 6, _ => exact gv_in 52 rfl
  | 7, _ => exact gv_in 53 rfl
  | 8, _ => exact gv_in 54 rfl
  | 9, _ => exact gv_in 55 rfl
  | 10, _ => exact gv_in 56 rfl
  | 11, _ => exact gv_in 57 rfl
  | 12, _ => exact gv_in 58 rfl
  | 13, _ => exact gv_in 59 rfl
  | 14, _ => exact gv_in 60 rfl
  | 15, _ => exact gv_in 61 rfl
  | 16, _ => exact gv_in 62 rfl
  | 17, _ => exact gv_in 63 rfl
  | 18, _ => exact gv_in 64 rfl
  | 19, _ => exact gv_in 65 rfl
  | 20, _ => exact gv_in 66 rfl
  | 21, _ => exact gv_in 67 rfl
  | 22, _ => exact gv_in 68 rfl
  | 23, _ => exact gv_in 69 rfl
  | 24, _ => exact gv_in 70 rfl
  | 25, _ => exact gv_in 71 rfl
  | 26, _ => exact gv_in 72 rfl
  | 27, _ => exact gv_in 73 rfl
  | 28, _ => exact gv_in 74 rfl
  | 29, _ => exact gv_in 75 rfl
  | 30, _ => exact gv_in 76 rfl
  | 31, _ => exact gv_in 77 rfl
  | 32, _ => exact gv_in 78 rfl
  | 33, _ => exact gv_in 79 rfl
  | 34, _ => exact gv_in 80 rfl
  | 35, _ => exact gv_in 81 rfl
  | 36, _ => exact gv_in 82 rfl
  | 37, _ => exact gv_in 83 rfl
  | 38, _ => exact gv_in 84 rfl
  | 39, _ => exact gv_in 85 rfl
  | 40, _ => exact gv_in 86 rfl
  | 41, _ => exact gv_in 87 rfl
  | 42, _ => exact gv_in 88 rfl
  | 43, _ => exact gv_in 89 rfl
  | 44, _ => exact gv_in 90 rfl
  | 45, _ => exact gv_in 91 rfl
  | 46, _ => exact gv_in 92 rfl
  | 47, _ => exact gv_in 93 rfl
  | 48, _ => exact gv_in 94 rfl
  | 49, _ => exact gv_in 95 rfl
  | 50, _ => exact gv_in 96 rfl
  | 51, _ => exact gv_in 97 rfl
  | 52, _ => exact gv_in 98 rfl
  | 53, _ => exact gv_in 99 rfl
  | 54, _ => exact gv_in 100 rfl
  | 55, _ => exact gv_in 101 rfl
  | 56, _ => exact gv_in 102 rfl
  | 57, _ => exact gv_in 103 rfl
  | 58, _ => exact gv_in 104 rfl
  | 59, _ => exact gv_in 105 rfl
  | j + 60, hj => exact absurd hj (by omega)
theorem gv_el1 : ∀ j : Nat, j < 4 → Cond.eq (.elem (.field (stT 1) "java/lang/String" "value" "[B") (.int (Int32.ofNat j))) (.int ((sByt.getD 1 []).getD j 0)) ∈ flatC gvC := by
  intro j hj
  match j, hj with
  | 0, _ => exact gv_in 110 rfl
  | 1, _ => exact gv_in 111 rfl
  | 2, _ => exact gv_in 112 rfl
  | 3, _ => exact gv_in 113 rfl
  | j + 4, hj => exact absurd hj (by omega)
theorem gv_el2 : ∀ j : Nat, j < 6 → Cond.eq (.elem (.field (stT 2) "java/lang/String" "value" "[B") (.int (Int32.ofNat j))) (.int ((sByt.getD 2 []).getD j 0)) ∈ flatC gvC := by
  intro j hj
  match j, hj with
  | 0, _ => exact gv_in 119 rfl
  | 1, _ => exact gv_in 120 rfl
  | 2, _ => exact gv_in 121 rfl
  | 3, _ => exact gv_in 122 rfl
  | 4, _ => exact gv_in 123 rfl
  | 5, _ => exact gv_in 124 rfl
  | j + 6, hj => exact absurd hj (by omega)
theorem gv_el3 : ∀ j : Nat, j < 4 → Cond.eq (.elem (.field (stT 3) "java/lang/String" "value" "[B") (.int (Int32.ofNat j))) (.int ((sByt.getD 3 []).getD j 0)) ∈ flatC gvC := by
  intro j hj
  match j, hj with
  | 0, _ => exact gv_in 131 rfl
  | 1, _ => exact gv_in 132 rfl
  | 2, _ => exact gv_in 133 rfl
  | 3, _ => exact gv_in 134 rfl
  | j + 4, hj => exact absurd hj (by omega)
theorem gv_el4 : ∀ j : Nat, j < 6 → Cond.eq (.elem (.field (stT 4) "java/lang/String" "value" "[B") (.int (Int32.ofNat j))) (.int ((sByt.getD 4 []).getD j 0)) ∈ flatC gvC := by
  intro j hj
  match j, hj with
  | 0, _ => exact gv_in 142 rfl
  | 1, _ => exact gv_in 143 rfl
  | 2, _ => exact gv_in 144 rfl
  | 3, _ => exact gv_in 145 rfl
  | 4, _ => exact gv_in 146 rfl
  | 5, _ => exact gv_in 147 rfl
  | j + 6, hj => exact absurd hj (by omega)
theorem gv_el5 : ∀ j : Nat, j < 3 → Cond.eq (.elem (.field (stT 5) "java/lang/String" "value" "[B") (.int (Int32.ofNat j))) (.int ((sByt.getD 5 []).getD j 0)) ∈ flatC gvC := by
  intro j hj
  match j, hj with
  | 0, _ => exact gv_in 156 rfl
  | 1, _ => exact gv_in 157 rfl
  | 2, _ => exact gv_in 158 rfl
  | j + 3, hj => exact absurd hj (by omega)
theorem gv_el6 : ∀ j : Nat, j < 4 → Cond.eq (.elem (.field (stT 6) "java/lang/String" "value" "[B") (.int (Int32.ofNat j))) (.int ((sByt.getD 6 []).getD j 0)) ∈ flatC gvC := by
  intro j hj
  match j, hj with
  | 0, _ => exact gv_in 168 rfl
  | 1, _ => exact gv_in 169 rfl
  | 2, _ => exact gv_in 170 rfl
  | 3, _ => exact gv_in 171 rfl
  | j + 4, hj => exact absurd hj (by omega)
theorem gv_el7 : ∀ j : Nat, j < 5 → Cond.eq (.elem (.field (stT 7) "java/lang/String" "value" "[B") (.int (Int32.ofNat j))) (.int ((sByt.getD 7 []).getD j 0)) ∈ flatC gvC := by
  intro j hj
  match j, hj with
  | 0, _ => exact gv_in 182 rfl
  | 1, _ => exact gv_in 183 rfl
  | 2, _ => exact gv_in 184 rfl
  | 3, _ => exact gv_in 185 rfl
  | 4, _ => exact gv_in 186 rfl
  | j + 5, hj => exact absurd hj (by omega)
theorem gv_el8 : ∀ j : Nat, j < 5 → Cond.eq (.elem (.field (stT 8) "java/lang/String" "value" "[B") (.int (Int32.ofNat j))) (.int ((sByt.getD 8 []).getD j 0)) ∈ flatC gvC := by
  intro j hj
  match j, hj with
  | 0, _ => exact gv_in 198 rfl
  | 1, _ => exact gv_in 199 rfl
  | 2, _ => exact gv_in 200 rfl
  | 3, _ => exact gv_in 201 rfl
  | 4, _ => exact gv_in 202 rfl
  | j + 5, hj => exact absurd hj (by omega)
theorem gv_el9 : ∀ j : Nat, j < 5 → Cond.eq (.elem (.field (stT 9) "java/lang/String" "value" "[B") (.int (Int32.ofNat j))) (.int ((sByt.getD 9 []).getD j 0)) ∈ flatC gvC := by
  intro j hj
  match j, hj with
  | 0, _ => exact gv_in 215 rfl
  | 1, _ => exact gv_in 216 rfl
  | 2, _ => exact gv_in 217 rfl
  | 3, _ => exact gv_in 218 rfl
  | 4, _ => exact gv_in 219 rfl
  | j + 5, hj => exact absurd hj (by omega)
theorem gv_el10 : ∀ j : Nat, j < 2 → Cond.eq (.elem (.field (stT 10) "java/lang/String" "value" "[B") (.int (Int32.ofNat j))) (.int ((sByt.getD 10 []).getD j 0)) ∈ flatC gvC := by
  intro j hj
  match j, hj with
  | 0, _ => exact gv_in 233 rfl
  | 1, _ => exact gv_in 234 rfl
  | j + 2, hj => exact absurd hj (by omega)
theorem gv_el11 : ∀ j : Nat, j < 3 → Cond.eq (.elem (.field (stT 11) "java/lang/String" "value" "[B") (.int (Int32.ofNat j))) (.int ((sByt.getD 11 []).getD j 0)) ∈ flatC gvC := by
  intro j hj
  match j, hj with
  | 0, _ => exact gv_in 249 rfl
  | 1, _ => exact gv_in 250 rfl
  | 2, _ => exact gv_in 251 rfl
  | j + 3, hj => exact absurd hj (by omega)
theorem gv_el12 : ∀ j : Nat, j < 3 → Cond.eq (.elem (.field (stT 12) "java/lang/String" "value" "[B") (.int (Int32.ofNat j))) (.int ((sByt.getD 12 []).getD j 0)) ∈ flatC gvC := by
  intro j hj
  match j, hj with
  | 0, _ => exact gv_in 267 rfl
  | 1, _ => exact gv_in 268 rfl
  | 2, _ => exact gv_in 269 rfl
  | j + 3, hj => exact absurd hj (by omega)
theorem gv_el : ∀ i : Nat, i < 13 → ∀ j : Nat, j < sLen.getD i 0 → Cond.eq (.elem (.field (stT i) "java/lang/String" "value" "[B") (.int (Int32.ofNat j))) (.int ((sByt.getD i []).getD j 0)) ∈ flatC gvC := by
  intro i hi
  match i, hi with
  | 0, _ => exact gv_el0
  | 1, _ => exact gv_el1
  | 2, _ => exact gv_el2
  | 3, _ => exact gv_el3
  | 4, _ => exact gv_el4
  | 5, _ => exact gv_el5
  | 6, _ => exact gv_el6
  | 7, _ => exact gv_el7
  | 8, _ => exact gv_el8
  | 9, _ => exact gv_el9
  | 10, _ => exact gv_el10
  | 11, _ => exact gv_el11
  | 12, _ => exact gv_el12
  | i + 13, hi => exact absurd hi (by omega)
theorem gv_ne0 : ∀ j : Nat, j < 13 → 0 ≠ j → (Cond.not (Cond.eq (stT 0) (stT j)) ∈ flatC gvC) ∨ (Cond.not (Cond.eq (stT j) (stT 0)) ∈ flatC gvC) := by
  intro j hj hn
  match j, hj with
  | 0, _ => exact absurd rfl hn
  | 1, _ => exact Or.inl (gv_in 114 rfl)
  | 2, _ => exact Or.inl (gv_in 125 rfl)
  | 3, _ => exact Or.inl (gv_in 135 rfl)
  | 4, _ => exact Or.inl (gv_in 148 rfl)
  | 5, _ => exact Or.inl (gv_in 159 rfl)
  | 6, _ => exact Or.inl (gv_in 172 rfl)
  | 7, _ => exact Or.inl (gv_in 187 rfl)
  | 8, _ => exact Or.inl (gv_in 203 rfl)
  | 9, _ => exact Or.inl (gv_in 220 rfl)
  | 10, _ => exact Or.inl (gv_in 235 rfl)
  | 11, _ => exact Or.inl (gv_in 252 rfl)
  | 12, _ => exact Or.inl (gv_in 270 rfl)
  | j + 13, hj => exact absurd hj (by omega)
theorem gv_ne1 : ∀ j : Nat, j < 13 → 1 ≠ j → (Cond.not (Cond.eq (stT 1) (stT j)) ∈ flatC gvC) ∨ (Cond.not (Cond.eq (stT j) (stT 1)) ∈ flatC gvC) := by
  intro j hj hn
  match j, hj with
  | 0, _ => exact Or.inr (gv_in 114 rfl)
  | 1, _ => exact absurd rfl hn
  | 2, _ => exact Or.inl (gv_in 126 rfl)
  | 3, _ => exact Or.inl (gv_in 136 rfl)
  | 4, _ => exact Or.inl (gv_in 149 rfl)
  | 5, _ => exact Or.inl (gv_in 160 rfl)
  | 6, _ => exact Or.inl (gv_in 173 rfl)
  | 7, _ => exact Or.inl (gv_in 188 rfl)
  | 8, _ => exact Or.inl (gv_in 204 rfl)
  | 9, _ => exact Or.inl (gv_in 221 rfl)
  | 10, _ => exact Or.inl (gv_in 236 rfl)
  | 11, _ => exact Or.inl (gv_in 253 rfl)
  | 12, _ => exact Or.inl (gv_in 271 rfl)
  | j + 13, hj => exact absurd hj (by omega)
theorem gv_ne2 : ∀ j : Nat, j < 13 → 2 ≠ j → (Cond.not (Cond.eq (stT 2) (stT j)) ∈ flatC gvC) ∨ (Cond.not (Cond.eq (stT j) (stT 2)) ∈ flatC gvC) := by
  intro j hj hn
  match j, hj with
  | 0, _ => exact Or.inr (gv_in 125 rfl)
  | 1, _ => exact Or.inr (gv_in 126 rfl)
  | 2, _ => exact absurd rfl hn
  | 3, _ => exact Or.inl (gv_in 137 rfl)
  | 4, _ => exact Or.inl (gv_in 150 rfl)
  | 5, _ => exact Or.inl (gv_in 161 rfl)
  | 6, _ => exact Or.inl (gv_in 174 rfl)
  | 7, _ => exact Or.inl (gv_in 189 rfl)
  | 8, _ => exact Or.inl (gv_in 205 rfl)
  | 9, _ => exact Or.inl (gv_in 222 rfl)
  | 10, _ => exact Or.inl (gv_in 237 rfl)
  | 11, _ => exact Or.inl (gv_in 254 rfl)
  | 12, _ => exact Or.inl (gv_in 272 rfl)
  | j + 13, hj => exact absurd hj (by omega)
theorem gv_ne3 : ∀ j : Nat, j < 13 → 3 ≠ j → (Cond.not (Cond.eq (stT 3) (stT j)) ∈ flatC gvC) ∨ (Cond.not (Cond.eq (stT j) (stT 3)) ∈ flatC gvC) := by
  intro j hj hn
  match j, hj with
  | 0, _ => exact Or.inr (gv_in 135 rfl)
  | 1, _ => exact Or.inr (gv_in 136 rfl)
  | 2, _ => exact Or.inr (gv_in 137 rfl)
  | 3, _ => exact absurd rfl hn
  | 4, _ => exact Or.inl (gv_in 151 rfl)
  | 5, _ => exact Or.inl (gv_in 162 rfl)
  | 6, _ => exact Or.inl (gv_in 175 rfl)
  | 7, _ => exact Or.inl (gv_in 190 rfl)
  | 8, _ => exact Or.inl (gv_in 206 rfl)
  | 9, _ => exact Or.inl (gv_in 223 rfl)
  | 10, _ => exact Or.inl (gv_in 238 rfl)
  | 11, _ => exact Or.inl (gv_in 255 rfl)
  | 12, _ => exact Or.inl (gv_in 273 rfl)
  | j + 13, hj => exact absurd hj (by omega)
theorem gv_ne4 : ∀ j : Nat, j < 13 → 4 ≠ j → (Cond.not (Cond.eq (stT 4) (stT j)) ∈ flatC gvC) ∨ (Cond.not (Cond.eq (stT j) (stT 4)) ∈ flatC gvC) := by
  intro j hj hn
  match j, hj with
  | 0, _ => exact Or.inr (gv_in 148 rfl)
  | 1, _ => exact Or.inr (gv_in 149 rfl)
  | 2, _ => exact Or.inr (gv_in 150 rfl)
  | 3, _ => exact Or.inr (gv_in 151 rfl)
  | 4, _ => exact absurd rfl hn
  | 5, _ => exact Or.inl (gv_in 163 rfl)
  | 6, _ => exact Or.inl (gv_in 176 rfl)
  | 7, _ => exact Or.inl (gv_in 191 rfl)
  | 8, _ => exact Or.inl (gv_in 207 rfl)
  | 9, _ => exact Or.inl (gv_in 224 rfl)
  | 10, _ => exact Or.inl (gv_in 239 rfl)
  | 11, _ => exact Or.inl (gv_in 256 rfl)
  | 12, _ => exact Or.inl (gv_in 274 rfl)
  | j + 13, hj => exact absurd hj (by omega)
theorem gv_ne5 : ∀ j : Nat, j < 13 → 5 ≠ j → (Cond.not (Cond.eq (stT 5) (stT j)) ∈ flatC gvC) ∨ (Cond.not (Cond.eq (stT j) (stT 5)) ∈ flatC gvC) := by
  intro j hj hn
  match j, hj with
  | 0, _ => exact Or.inr (gv_in 159 rfl)
  | 1, _ => exact Or.inr (gv_in 160 rfl)
  | 2, _ => exact Or.inr (gv_in 161 rfl)
  | 3, _ => exact Or.inr (gv_in 162 rfl)
  | 4, _ => exact Or.inr (gv_in 163 rfl)
  | 5, _ => exact absurd rfl hn
  | 6, _ => exact Or.inl (gv_in 177 rfl)
  | 7, _ => exact Or.inl (gv_in 192 rfl)
  | 8, _ => exact Or.inl (gv_in 208 rfl)
  | 9, _ => exact Or.inl (gv_in 225 rfl)
  | 10, _ => exact Or.inl (gv_in 240 rfl)
  | 11, _ => exact Or.inl (gv_in 257 rfl)
  | 12, _ => exact Or.inl (gv_in 275 rfl)
  | j + 13, hj => exact absurd hj (by omega)
theorem gv_ne6 : ∀ j : Nat, j < 13 → 6 ≠ j → (Cond.not (Cond.eq (stT 6) (stT j)) ∈ flatC gvC) ∨ (Cond.not (Cond.eq (stT j) (stT 6)) ∈ flatC gvC) := by
  intro j hj hn
  match j, hj with
  | 0, _ => exact Or.inr (gv_in 172 rfl)
  | 1, _ => exact Or.inr (gv_in 173 rfl)
  | 2, _ => exact Or.inr (gv_in 174 rfl)
  | 3, _ => exact Or.inr (gv_in 175 rfl)
  | 4, _ => exact Or.inr (gv_in 176 rfl)
  | 5, _ => exact Or.inr (gv_in 177 rfl)
  | 6, _ => exact absurd rfl hn
  | 7, _ => exact Or.inl (gv_in 193 rfl)
  | 8, _ => exact Or.inl (gv_in 209 rfl)
  | 9, _ => exact Or.inl (gv_in 226 rfl)
  | 10, _ => exact Or.inl (gv_in 241 rfl)
  | 11, _ => exact Or.inl (gv_in 258 rfl)
  | 12, _ => exact Or.inl (gv_in 276 rfl)
  | j + 13, hj => exact absurd hj (by omega)
theorem gv_ne7 : ∀ j : Nat, j < 13 → 7 ≠ j → (Cond.not (Cond.eq (stT 7) (stT j)) ∈ flatC gvC) ∨ (Cond.not (Cond.eq (stT j) (stT 7)) ∈ flatC gvC) := by
  intro j hj hn
  match j, hj with
  | 0, _ => exact Or.inr (gv_in 187 rfl)
  | 1, _ => exact Or.inr (gv_in 188 rfl)
  | 2, _ => exact Or.inr (gv_in 189 rfl)
  | 3, _ => exact Or.inr (gv_in 190 rfl)
  | 4, _ => exact Or.inr (gv_in 191 rfl)
  | 5, _ => exact Or.inr (gv_in 192 rfl)
  | 6, _ => exact Or.inr (gv_in 193 rfl)
  | 7, _ => exact absurd rfl hn
  | 8, _ => exact Or.inl (gv_in 210 rfl)
  | 9, _ => exact Or.inl (gv_in 227 rfl)
  | 10, _ => exact Or.inl (gv_in 242 rfl)
  | 11, _ => exact Or.inl (gv_in 259 rfl)
  | 12, _ => exact Or.inl (gv_in 277 rfl)
  | j + 13, hj => exact absurd hj (by omega)
theorem gv_ne8 : ∀ j : Nat, j < 13 → 8 ≠ j → (Cond.not (Cond.eq (stT 8) (stT j)) ∈ flatC gvC) ∨ (Cond.not (Cond.eq (stT j) (stT 8)) ∈ flatC gvC) := by
  intro j hj hn
  match j, hj with
  | 0, _ => exact Or.inr (gv_in 203 rfl)
  | 1, _ => exact Or.inr (gv_in 204 rfl)
  | 2, _ => exact Or.inr (gv_in 205 rfl)
  | 3, _ => exact Or.inr (gv_in 206 rfl)
  | 4, _ => exact Or.inr (gv_in 207 rfl)
  | 5, _ => exact Or.inr (gv_in 208 rfl)
  | 6, _ => exact Or.inr (gv_in 209 rfl)
  | 7, _ => exact Or.inr (gv_in 210 rfl)
  | 8, _ => exact absurd rfl hn
  | 9, _ => exact Or.inl (gv_in 228 rfl)
  | 10, _ => exact Or.inl (gv_in 243 rfl)
  | 11, _ => exact Or.inl (gv_in 260 rfl)
  | 12, _ => exact Or.inl (gv_in 278 rfl)
  | j + 13, hj => exact absurd hj (by omega)
theorem gv_ne9 : ∀ j : Nat, j < 13 → 9 ≠ j → (Cond.not (Cond.eq (stT 9) (stT j)) ∈ flatC gvC) ∨ (Cond.not (Cond.eq (stT j) (stT 9)) ∈ flatC gvC) := by
  intro j hj hn
  match j, hj with
  | 0, _ => exact Or.inr (gv_in 220 rfl)
  | 1, _ => exact Or.inr (gv_in 221 rfl)
  | 2, _ => exact Or.inr (gv_in 222 rfl)
  | 3, _ => exact Or.inr (gv_in 223 rfl)
  | 4, _ => exact Or.inr (gv_in 224 rfl)
  | 5, _ => exact Or.inr (gv_in 225 rfl)
  | 6, _ => exact Or.inr (gv_in 226 rfl)
  | 7, _ => exact Or.inr (gv_in 227 rfl)
  | 8, _ => exact Or.inr (gv_in 228 rfl)
  | 9, _ => exact absurd rfl hn
  | 10, _ => exact Or.inl (gv_in 244 rfl)
  | 11, _ => exact Or.inl (gv_in 261 rfl)
  | 12, _ => exact Or.inl (gv_in 279 rfl)
  | j + 13, hj => exact absurd hj (by omega)
theorem gv_ne10 : ∀ j : Nat, j < 13 → 10 ≠ j → (Cond.not (Cond.eq (stT 10) (stT j)) ∈ flatC gvC) ∨ (Cond.not (Cond.eq (stT j) (stT 10)) ∈ flatC gvC) := by
  intro j hj hn
  match j, hj with
  | 0, _ => exact Or.inr (gv_in 235 rfl)
  | 1, _ => exact Or.inr (gv_in 236 rfl)
  | 2, _ => exact Or.inr (gv_in 237 rfl)
  | 3, _ => exact Or.inr (gv_in 238 rfl)
  | 4, _ => exact Or.inr (gv_in 239 rfl)
  | 5, _ => exact Or.inr (gv_in 240 rfl)
  | 6, _ => exact Or.inr (gv_in 241 rfl)
  | 7, _ => exact Or.inr (gv_in 242 rfl)
  | 8, _ => exact Or.inr (gv_in 243 rfl)
  | 9, _ => exact Or.inr (gv_in 244 rfl)
  | 10, _ => exact absurd rfl hn
  | 11, _ => exact Or.inl (gv_in 262 rfl)
  | 12, _ => exact Or.inl (gv_in 280 rfl)
  | j + 13, hj => exact absurd hj (by omega)
theorem gv_ne11 : ∀ j : Nat, j < 13 → 11 ≠ j → (Cond.not (Cond.eq (stT 11) (stT j)) ∈ flatC gvC) ∨ (Cond.not (Cond.eq (stT j) (stT 11)) ∈ flatC gvC) := by
  intro j hj hn
  match j, hj with
  | 0, _ => exact Or.inr (gv_in 252 rfl)
  | 1, _ => exact Or.inr (gv_in 253 rfl)
  | 2, _ => exact Or.inr (gv_in 254 rfl)
  | 3, _ => exact Or.inr (gv_in 255 rfl)
  | 4, _ => exact Or.inr (gv_in 256 rfl)
  | 5, _ => exact Or.inr (gv_in 257 rfl)
  | 6, _ => exact Or.inr (gv_in 258 rfl)
  | 7, _ => exact Or.inr (gv_in 259 rfl)
  | 8, _ => exact Or.inr (gv_in 260 rfl)
  | 9, _ => exact Or.inr (gv_in 261 rfl)
  | 10, _ => exact Or.inr (gv_in 262 rfl)
  | 11, _ => exact absurd rfl hn
  | 12, _ => exact Or.inl (gv_in 281 rfl)
  | j + 13, hj => exact absurd hj (by omega)
theorem gv_ne12 : ∀ j : Nat, j < 13 → 12 ≠ j → (Cond.not (Cond.eq (stT 12) (stT j)) ∈ flatC gvC) ∨ (Cond.not (Cond.eq (stT j) (stT 12)) ∈ flatC gvC) := by
  intro j hj hn
  match j, hj with
  | 0, _ => exact Or.inr (gv_in 270 rfl)
  | 1, _ => exact Or.inr (gv_in 271 rfl)
  | 2, _ => exact Or.inr (gv_in 272 rfl)
  | 3, _ => exact Or.inr (gv_in 273 rfl)
  | 4, _ => exact Or.inr (gv_in 274 rfl)
  | 5, _ => exact Or.inr (gv_in 275 rfl)
  | 6, _ => exact Or.inr (gv_in 276 rfl)
  | 7, _ => exact Or.inr (gv_in 277 rfl)
  | 8, _ => exact Or.inr (gv_in 278 rfl)
  | 9, _ => exact Or.inr (gv_in 279 rfl)
  | 10, _ => exact Or.inr (gv_in 280 rfl)
  | 11, _ => exact Or.inr (gv_in 281 rfl)
  | 12, _ => exact absurd rfl hn
  | j + 13, hj => exact absurd hj (by omega)
theorem gv_ne : ∀ i j : Nat, i < 13 → j < 13 → i ≠ j → (Cond.not (Cond.eq (stT i) (stT j)) ∈ flatC gvC) ∨ (Cond.not (Cond.eq (stT j) (stT i)) ∈ flatC gvC) := by
  intro i j hi hj hn
  match i, hi with
  | 0, _ => exact gv_ne0 j hj hn
  | 1, _ => exact gv_ne1 j hj hn
  | 2, _ => exact gv_ne2 j hj hn
  | 3, _ => exact gv_ne3 j hj hn
  | 4, _ => exact gv_ne4 j hj hn
  | 5, _ => exact gv_ne5 j hj hn
  | 6, _ => exact gv_ne6 j hj hn
  | 7, _ => exact gv_ne7 j hj hn
  | 8, _ => exact gv_ne8 j hj hn
  | 9, _ => exact gv_ne9 j hj hn
  | 10, _ => exact gv_ne10 j hj hn
  | 11, _ => exact gv_ne11 j hj hn
  | 12, _ => exact gv_ne12 j hj hn
  | i + 13, hi => exact absurd hi (by omega)
theorem gv_uel : ∀ j : Nat, j < 6 → Cond.eq (.elem (.static RX6 "UNDER" "[I") (.int (Int32.ofNat j))) (.int (undL.getD j 0)) ∈ flatC gvC := by
  intro j hj
  match j, hj with
  | 0, _ => exact gv_in 12 rfl
  | 1, _ => exact gv_in 13 rfl
  | 2, _ => exact gv_in 14 rfl
  | 3, _ => exact gv_in 15 rfl
  | 4, _ => exact gv_in 16 rfl
  | 5, _ => exact gv_in 17 rfl
  | j + 6, hj => exact absurd hj (by omega)
theorem wls_und : Cond.laysStatic RX6 "UNDER" "[I" ∈ lw_tbl := List.mem_append_right _ (List.mem_of_getElem? (i := 762) (by decide +kernel))
theorem wls_com : Cond.laysStatic RJ0 "COMPACT_STRINGS" "Z" ∈ lw_tbl := List.mem_append_right _ (List.mem_of_getElem? (i := 185) (by decide +kernel))
theorem wls_sio : Cond.laysStatic RJ3 "SIOOBE_FORMATTER" "Ljava/util/function/BiFunction;" ∈ lw_tbl := List.mem_append_right _ (List.mem_of_getElem? (i := 201) (by decide +kernel))
set_option maxHeartbeats 4000000 in
/-- what the tables and the statics give at the law's entry -/
theorem se_start {s : State} {args : Array Value} (l : Launch) (D : va_G) (cy : Nat → ClassId) (hts : ∀ w ∈ lw_tbl, w.before args s = true) (hgv : gvC.before args s = true) : ∃ aK aV aU, SE (l, D, cy, s.heap.size, aK, aV, aU) s s.heap := by
  have hf := flat_of_before _ hgv
  have hA : ∀ a : Nat, a < s.heap.size → ¬ (fun q : Nat => s.heap.size ≤ q) a := fun a h1 h2 => by
    have h2 : s.heap.size ≤ a := h2
    omega
  obtain ⟨aK, aV, hS, hs⟩ := vk_Sof (args := args) (s := s) (N := 13) (tm := stT) (len := sLen) (byt := sByt) (A := fun q : Nat => s.heap.size ≤ q) sLen_lt (fun i hi => hf _ (gv_ex i hi)) (fun i hi => hf _ (gv_co i hi)) (fun i hi => hf _ (gv_ar i hi)) (fun i hi => hf _ (gv_le i hi)) (fun i hi j hj => hf _ (gv_el i hi j hj)) (fun i j hi hj hn => (gv_ne i j hi hj hn).imp (hf _) (hf _)) hA
  obtain ⟨aU, hU, hT⟩ := va_Tof (args := args) (s := s) (tm := .static RX6 "UNDER" "[I") (ty := .int) (N := 6) (f := fun j => .int (undL.getD j 0)) (A := fun q : Nat => s.heap.size ≤ q) (by decide) (hf _ (gv_in 10 rfl)) (va_eqt (hf _ (gv_in 11 rfl))) (fun j hj => va_eqt (hf _ (gv_uel j hj))) hA
  have hU2 : ∀ w ∈ lw_U, w.before args s = true := fun w hw => hts w (lw_Ugood w hw).1
  refine ⟨aK, aV, aU, fun w hw => ?_, ⟨va_AO.of (hts _ wao_X2), va_AO.of (hts _ wao_X3), va_AO.of (hts _ wao_X5)⟩, hS, fun i hi => ?_, ⟨va_Zref (hts _ wls_und) (hU2 _ win_X6) hU hA, hT⟩, va_Zof (hts _ wls_com) (hU2 _ win_J0) (va_eqi (hf _ (gv_in 4 rfl))) hA, va_Zqof (hts _ wls_sio) (hU2 _ win_J3) (hf _ (gv_in 5 rfl)) hA⟩
  · have hon := nestL_on w hw
    refine va_Nw.of (A := args) hon ?_
    have h9 : w ∈ lw_tbl := by
      simp only [nestL, List.mem_cons, List.not_mem_nil, or_false] at hw
      rcases hw with rfl | rfl | rfl | rfl | rfl | rfl | rfl | rfl | rfl
      · exact wmn_X6_43
      · exact wmn_X0_35
      · exact wmn_X6_70
      · exact wmn_X6_71
      · exact wmn_X6_72
      · exact wmn_X4_47
      · exact wmn_X4_114
      · exact wmn_X4_55
      · exact wmn_X2_22
    exact hts _ h9
  · refine vk_R.of (A := args) ?_ (hs i hi)
    match i, hi with
    | 0, _ => exact hts _ wsr_X6_73
    | 1, _ => exact hts _ wsr_X1_104
    | 2, _ => exact hts _ wsr_X1_110
    | 3, _ => exact hts _ wsr_X1_112
    | 4, _ => exact hts _ wsr_X1_114
    | 5, _ => exact hts _ wsr_X1_116
    | 6, _ => exact hts _ wsr_X1_118
    | 7, _ => exact hts _ wsr_X1_120
    | 8, _ => exact hts _ wsr_X1_122
    | 9, _ => exact hts _ wsr_X1_124
    | 10, _ => exact hts _ wsr_X1_126
    | 11, _ => exact hts _ wsr_X1_128
    | 12, _ => exact hts _ wsr_X1_130
    | i + 13, hi => exact absurd hi (by omega)
theorem nwL_7 : NwOk RL 7 6 := ⟨RX6, TX6, 13, tyX6, rfl, by decide, rfl, inX6, tyX6_ok, wcl_L_7, wia_X6, win_X6, by decide +kernel⟩
theorem nwL_10 : NwOk RL 10 7 := ⟨RX7, TX7, 46, tyX7, rfl, by decide, rfl, inX7, tyX7_ok, wcl_L_10, wia_X7, win_X7, by decide +kernel⟩
theorem ciL_9 : CiOk RL 9 yX6_init cX6_init 2 0 := ⟨⟨⟨by decide, by decide, rfl⟩, by decide, wco_X6_init, win_X6⟩, wml_L_9, rfl, wim_X6_init⟩
theorem ciL_12 : CiOk RL 12 yX7_init cX7_init 2 0 := ⟨⟨⟨by decide, by decide, rfl⟩, by decide, wco_X7_init, win_X7⟩, wml_L_12, rfl, wim_X7_init⟩
set_option maxHeartbeats 4000000 in
theorem k_start {s : State} {args : Array Value} (hU2 : ∀ w ∈ lw_U, w.before args s = true) (hao : ∀ E, E = RX2 ∨ E = RX3 ∨ E = RX5 → (Cond.arrayOver (.object E)).before args s = true) : ∃ (D : va_G) (cy : Nat → ClassId), ∀ l b aK aV aU, va_K D vwCl (tysOf (l, D, cy, b, aK, aV, aU)) s := by
  obtain ⟨c0, iS0, hKn0⟩ := u_known (C := RX0) (T := TX0) (N := 6) (n := 6) hU2 inX0 (hU2 _ wia_X0)
  obtain ⟨c1, iS1, hKn1⟩ := u_known (C := RX1) (T := TX1) (N := 9) (n := 9) hU2 inX1 (hU2 _ wia_X1)
  obtain ⟨c2, iS2, hKn2⟩ := u_known (C := RX2) (T := TX2) (N := 3) (n := 3) hU2 inX2 (hU2 _ wia_X2)
  obtain ⟨c3, iS3, hKn3⟩ := u_known (C := RX3) (T := TX3) (N := 4) (n := 4) hU2 inX3 (hU2 _ wia_X3)
  obtain ⟨c4, iS4, hKn4⟩ := u_known (C := RX4) (T := TX4) (N := 9) (n := 9) hU2 inX4 (hU2 _ wia_X4)
  obtain ⟨c5, iS5, hKn5⟩ := u_known (C := RX5) (T := TX5) (N := 6) (n := 6) hU2 inX5 (hU2 _ wia_X5)
  obtain ⟨c6, iS6, hKn6⟩ := u_known (C := RX6) (T := TX6) (N := 13) (n := 13) hU2 inX6 (hU2 _ wia_X6)
  obtain ⟨c7, iS7, hKn7⟩ := u_known (C := RX7) (T := TX7) (N := 46) (n := 46) hU2 inX7 (hU2 _ wia_X7)
  obtain ⟨y8, k8, m8, f8, g8, h8⟩ := Cond.arrayClass_spec (hU2 _ wac_int)
  obtain ⟨y9, k9, m9, f9, g9, h9⟩ := Cond.arrayClass_spec (hU2 _ wac_boolean)
  obtain ⟨m10, y10, k10, e10, -, g10, h10, f10⟩ := Cond.arrayOver_spec (hao RX2 (Or.inl rfl))
  obtain ⟨m11, y11, k11, e11, -, g11, h11, f11⟩ := Cond.arrayOver_spec (hao RX3 (Or.inr (Or.inl rfl)))
  obtain ⟨m12, y12, k12, e12, -, g12, h12, f12⟩ := Cond.arrayOver_spec (hao RX5 (Or.inr (Or.inr rfl)))
  refine ⟨(fun k => [c0, c1, c2, c3, c4, c5, c6, c7].getD k c0, fun k => [iS0, iS1, iS2, iS3, iS4, iS5, iS6, iS7].getD k iS0), fun k => [y8, y9, y10, y11, y12].getD (k - 8) y8, fun l b aK aV aU => ⟨fun c q hq => ?_, fun k q hq => ?_⟩⟩
  · match c, hq with
    | 0, hq => cases hq; exact hKn0
    | 1, hq => cases hq; exact hKn1
    | 2, hq => cases hq; exact hKn2
    | 3, hq => cases hq; exact hKn3
    | 4, hq => cases hq; exact hKn4
    | 5, hq => cases hq; exact hKn5
    | 6, hq => cases hq; exact hKn6
    | 7, hq => cases hq; exact hKn7
    | c + 8, hq => simp [vwCl] at hq
  · match k, hq with
    | 0, hq => cases hq; exact ⟨fun n z => ⟨fun k h => (by cases h), k8, g8, m8, h8⟩, f8⟩
    | 1, hq => cases hq; exact ⟨fun n z => ⟨fun k h => (by cases h), k9, g9, m9, h9⟩, f9⟩
    | 2, hq => cases hq; exact ⟨fun n z => ⟨fun k h => (by cases h), k10, g10, m10, h10⟩, k10, m10, g10, h10, e10, f10⟩
    | 3, hq => cases hq; exact ⟨fun n z => ⟨fun k h => (by cases h), k11, g11, m11, h11⟩, k11, m11, g11, h11, e11, f11⟩
    | 4, hq => cases hq; exact ⟨fun n z => ⟨fun k h => (by cases h), k12, g12, m12, h12⟩, k12, m12, g12, h12, e12, f12⟩
    | k + 5, hq => simp [tysOf] at hq
/-! THE CLAIM OUT OF ONE WALK OF THE LAW'S BODY. Your part is whole_start (and what it stands on); all else here is the same for every law, but numbers. -/
def R_law : String := "SolesByWhatIsToldLaw"
def lw_P (b : Addr) (xs : List Int32) (args : Array Value) (s : State) : Prop := args = #[.ref b] ∧ s.IntsAt b xs ∧ xs.length ≤ 3072 ∧ (Jvm.Cond.and given_1 narrow_1).before args s = true
def lw_Q (_ : Array Value) (s : State) (o : Outcome) (t : State) : Prop := o = .returned (some (.int 1)) ∧ Framed s o t [] 600000 7302249
def lw_Z (below : List Frame) (a : Array Value) (s : State) : State → Prop := fun t => ∃ o, t.status = .running ∧ Ended t below o ∧ lw_Q a s o t
/-- the law's own end, with 1 on the stack, nothing written that was there before, its room as the claim has it -/
theorem lw_ret {p : Program} {l : Launch} {e : Env} {s : State} {m : MethodId} {below : List Frame} {meth : Method} {c : Code} {b : Nat} (hx : p.tables.exec = Jvm.exec) (hb : c.code = code) (hr : meth.sig.returnType = ret) (hlocks : meth.locks = false) {pc : Nat} {H : Heap} {ls : Array Slot} (hdg : decode code pc = .ok (.ireturn, 1)) : W p l e room_1 s m #[Value.ref b] below meth c H [] 600000 7302249 (lw_Z below #[Value.ref b] s) (F0 m pc ls [.int 1]) := by
  intro T hT X
  obtain ⟨fs, hret, hrun, hended, hW, hframe⟩ := X.leave (v := some (.int 1)) (hlocks := hlocks) (fun h => by rw [hr] at h; cases h)
  have hmeth' : T.vm.method? m = some meth := X.method'
  refine ⟨T.setFrames fs, ?_, .returned (some (.int 1)), hrun, hended, rfl, ⟨_, rfl⟩, hW, hframe⟩
  jvm_step X.here [X.here.top, hx, hb, hdg, hmeth', hr, ret, narrow_b1]
  (try refine ⟨rfl, ?_⟩); (try refine ⟨rfl, ?_⟩)
  first | (intro acts; rw [hret _ acts rfl rfl rfl]) | rw [hret _ _ rfl rfl rfl]
  exact Steps.refl _
/-- what holds at the law's entry: the machine, the code, the tables' words (any of lw_tbl by 'hts w (by decide +kernel)'), the script of L ints xs at the cell b, what the Statement gives of the start (any of its parts by flat_of_before) -/
def lw_At (p : Program) (s : State) (m : MethodId) (meth : Method) (c : Code) (b L : Nat) (xs : Nat → Int32) : Prop :=
  p.tables.exec = Jvm.exec ∧ c.code = code ∧ meth.sig.returnType = ret ∧ c.maxLocals = 4 ∧ s.vm.findClass R_law = some m.cls ∧ (∀ w ∈ lw_tbl, w.before #[Value.ref b] s = true) ∧ va_X b L xs s s.heap ∧ b < s.heap.size ∧ meth.locks = false ∧ (Jvm.Cond.and given_1 narrow_1).before #[Value.ref b] s = true
set_option maxHeartbeats 4000000 in
theorem start_of {J : Wd → Prop} (hJ : AllAgree J) (hI : InitOk J) {p : Program} {e : Env} {s : State} {m : MethodId} {below : List Frame} {meth : Method} {c : Code} (l : Launch) {b L : Nat} {xs : Nat → Int32} (hL : L ≤ 3072) (C0 : lw_At p s m meth c b L xs) : W p l e room_1 s m #[Value.ref b] below meth c s.heap [] 0 0 (lw_Z below #[Value.ref b] s) (entryFrame m ([Value.ref b] : List Value).toArray 4) := by
  obtain ⟨hx, hb, hr, hml, hown, hts, hX, hbl, hlocks, hgv⟩ := C0
  have hU2 : ∀ w ∈ lw_U, w.before #[Value.ref b] s = true := fun w hw => hts w (lw_Ugood w hw).1
  obtain ⟨D, cy, hK⟩ := k_start hU2 (fun E hE => by rcases hE with rfl | rfl | rfl; exact hts _ wao_X2; exact hts _ wao_X3; exact hts _ wao_X5)
  obtain ⟨aK, aV, aU, hE⟩ := se_start l D cy hts hgv
  obtain ⟨w1, w2, hi1, hn1, hi2, hn2, hj2⟩ := hI
  obtain ⟨X, hXe⟩ : ∃ X : Cx, X = ((l, D, cy, s.heap.size, aK, aV, aU), p, e, room_1, s, m, #[Value.ref b], below, meth, c, 4, 0, lw_Z below #[Value.ref b] s, fun _ _ => True) := ⟨_, rfl⟩
  have h : Ok X cL_law RL 1000 600000 7302249 := by
    rw [hXe]
    exact ⟨hx, hb, hml, hown, hU2, hK _ _ _ _ _, hE, rfl, hlocks, Nat.le_of_ble_eq_true rfl, Nat.le_of_ble_eq_true rfl, Nat.le_of_ble_eq_true rfl, Nat.le_of_ble_eq_true rfl⟩
  have hX0 : n0X X = 0 := by rw [hXe]; rfl
  have hnL : nLX X = 4 := by rw [hXe]; rfl
  have hSX : SX X b L xs := by
    rw [hXe]
    exact ⟨hX, hbl, fun h9 => by have h9 : s.heap.size ≤ b := h9; omega⟩
  have hj : ∀ j, j < 4 → j < nLX X := fun j q => by rw [hnL]; exact q
  have kend : ∀ w lv, G X 66 3747 1094 lv [] w := by
    intro w lv
    refine g_iconst (pc := 1094) (v := (1 : Int32)) h dL_law_1094 (by decide) ?_
    rw [hXe]
    intro H locs ls hR hS hl hn
    refine va_forget (fun q hq => hS.2.2 q hq) ?_
    refine W.widen (k := 600000) (n := 7302249) (Nat.le_of_ble_eq_true rfl) (Nat.le_of_ble_eq_true rfl) ?_
    exact lw_ret hx hb hr hlocks dL_law_1095
  have key : G X 0 0 0 [(0, .inr (.inr (.inr (sref b))))] [] w0 := by
    refine g_newK (pc := 0) (n' := 13) h nwL_7 ⟨rfl, rfl⟩ ⟨by decide, by decide⟩ rfl dL_law_0 (fun h_a => ?_)
    refine g_dup (pc := 3) h dL_law_3 rfl ?_
    refine g_ciK (pc := 4) (k' := 52) (n' := 2313) (st := [rv X.1 (some 0)]) h mX6_init ciL_9 h_a (by decide) ⟨by decide, by decide⟩ ⟨rfl, rfl⟩ (Nat.le_of_ble_eq_true rfl) rfl rfl dL_law_4 (by rw [hn1]; decide) hi1 ?_
    refine g_astore_n (pc := 7) (lv' := [(1, .inr (.inl (some 0))), (0, .inr (.inr (.inr (sref b))))]) h dL_law_7 (hj 1 (by decide)) rfl ?_
    refine g_newK (pc := 8) (n' := 2359) h nwL_10 (by rw [hn1]; exact ⟨rfl, rfl⟩) ⟨by decide, by decide⟩ rfl dL_law_8 (fun h_b => ?_)
    rw [hn1] at h_b ⊢
    refine g_dup (pc := 11) h dL_law_11 rfl ?_
    refine g_ciK (pc := 12) (k' := 66) (n' := 3747) (st := [rv X.1 (some 52)]) h mX7_init ciL_12 h_b (by decide) ⟨by decide, by decide⟩ ⟨rfl, rfl⟩ (Nat.le_of_ble_eq_true rfl) rfl rfl dL_law_12 (by rw [hn2, wn_al, hn1]; decide) hi2 ?_
    refine g_astore_n (pc := 15) (lv' := [(2, .inr (.inl (some 52))), (1, .inr (.inl (some 0))), (0, .inr (.inr (.inr (sref b))))]) h dL_law_15 (hj 2 (by decide)) rfl ?_
    refine g_iconst (pc := 16) (v := (0 : Int32)) h dL_law_16 (by decide) ?_
    refine g_istore_n (pc := 17) (lv' := [(3, .inl (0 : Int32)), (2, .inr (.inl (some 52))), (1, .inr (.inl (some 0))), (0, .inr (.inr (.inr (sref b))))]) h dL_law_17 (hj 3 (by decide)) rfl ?_
    have h9 := law_loop h hX0 hnL hSX hJ hL kend (L + 7) 0 w2 (by omega) (by omega) hj2
    rw [nI_0] at h9
    exact h9
  have hl := lv_entry ([.ref b]) (n := 4) (Nat.le_of_ble_eq_true rfl)
  rw [lg_entry_eq]
  rw [hXe] at key
  exact key s.heap [] _ ⟨rfl, fun k q hq => by cases hq⟩ va_S.rf hl rfl
