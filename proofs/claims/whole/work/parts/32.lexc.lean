/-! the class's reader takes a token -/
theorem cL_ev {x : Int32} {w : Wd} : fX1_isLetter x w = some (if cL x = true then 1 else 0, w) := by
  unfold fX1_isLetter cL
  by_cases h1 : x < 97
  · rw [if_pos h1, if_neg (by simp only [decide_eq_true_eq]; exact fun z => Int32.not_le.mpr h1 z.1)]
  · rw [if_neg h1]
    by_cases h2 : 122 < x
    · rw [if_pos h2, if_neg (by simp only [decide_eq_true_eq]; exact fun z => Int32.not_le.mpr h2 z.2)]
    · rw [if_neg h2, if_pos (by simp only [decide_eq_true_eq]; exact ⟨Int32.not_lt.mp h1, Int32.not_lt.mp h2⟩)]
theorem cD_ev {x : Int32} {w : Wd} : fX1_isDigit x w = some (if cD x = true then 1 else 0, w) := by
  unfold fX1_isDigit cD
  by_cases h1 : x < 48
  · rw [if_pos h1, if_neg (by simp only [decide_eq_true_eq]; exact fun z => Int32.not_le.mpr h1 z.1)]
  · rw [if_neg h1]
    by_cases h2 : 57 < x
    · rw [if_pos h2, if_neg (by simp only [decide_eq_true_eq]; exact fun z => Int32.not_le.mpr h2 z.2)]
    · rw [if_neg h2, if_pos (by simp only [decide_eq_true_eq]; exact ⟨Int32.not_lt.mp h1, Int32.not_lt.mp h2⟩)]
theorem cS_ev {x : Int32} {w : Wd} : fX1_isBlank x w = some (if cS x = true then 1 else 0, w) := by
  unfold fX1_isBlank cS fX1_isBlank_12
  by_cases h1 : x = 32
  · rw [if_pos h1, if_pos (by simp only [decide_eq_true_eq]; exact Or.inl h1)]
  · rw [if_neg h1]
    by_cases h2 : x = 10
    · rw [if_pos h2, if_pos (by simp only [decide_eq_true_eq]; exact Or.inr h2)]
    · rw [if_neg h2, if_neg (by simp only [decide_eq_true_eq]; exact fun z => z.elim h1 h2)]
theorem sg_ev {x : Int32} {w : Wd} : fX1_signOf x w = some (sgT x, w) := by
  unfold fX1_signOf sgT
  by_cases h1 : x = 40
  · rw [if_pos h1, if_pos h1]
  rw [if_neg h1, if_neg h1]
  by_cases h2 : x = 41
  · rw [if_pos h2, if_pos h2]
  rw [if_neg h2, if_neg h2]
  by_cases h3 : x = 42
  · rw [if_pos h3, if_pos h3]
  rw [if_neg h3, if_neg h3]
  by_cases h4 : x = 43
  · rw [if_pos h4, if_pos h4]
  rw [if_neg h4, if_neg h4]
  by_cases h5 : x = 45
  · rw [h5]; rfl
  rw [if_neg h5, if_neg h5]
  by_cases h6 : x = 59
  · rw [h6]; rfl
  rw [if_neg h6, if_neg h6]
  by_cases h7 : x = 60
  · rw [h7]; rfl
  rw [if_neg h7, if_neg h7]
  by_cases h8 : x = 61
  · rw [h8]; rfl
  rw [if_neg h8, if_neg h8]
  simp only [ite_self]
/-- the bytes that a reader reads -/
def Bz (b : Nat → Int32) (z : Nat) (w : Wd) : Prop := St w ∧ z ≤ 160 ∧ gI w 5 1 = nI z ∧ ∀ k, k < z → gI w 6 k = b k
theorem Bz.ch {P : Nat → Nat → Prop} {b : Nat → Int32} {z : Nat} {w w' : Wd} (h : Bz b z w) (hc : Ch P w w') (hP : ∀ i k, P i k → i ≠ 6 ∧ ¬ (i = 5 ∧ k = 1)) : Bz b z w' := by
  obtain ⟨h1, h2, h3, h4⟩ := h
  exact ⟨hc.St h1, h2, by rw [hc.I (fun q => (hP _ _ q).2 ⟨rfl, rfl⟩)]; exact h3, fun k hk => by rw [hc.I (fun q => (hP _ _ q).1 rfl)]; exact h4 k hk⟩
def PX (i k : Nat) : Prop := i = 5 ∧ 2 ≤ k ∧ k ≤ 5
def P2 (i k : Nat) : Prop := i = 5 ∧ k = 2
theorem P2_PX (i k : Nat) (h : P2 i k) : PX i k := by unfold P2 at h; unfold PX; omega
theorem Bz.x {b : Nat → Int32} {z : Nat} {w w' : Wd} (h : Bz b z w) (hc : Ch PX w w') : Bz b z w' := h.ch hc (fun i k q => by unfold PX at q; omega)
theorem Bz.at {α : Type} {b : Nat → Int32} {z q : Nat} {w : Wd} (h : Bz b z w) (hq : q < z) (h2 : gI w 5 2 = nI q) {f : Int32 → Option α} : dr (gR w 5 0) 8 w (fun a => grd (vin (gI w 5 2) (ln a)) (f (gI w a (gI w 5 2).toNatClampNeg))) = f (b q) := by
  obtain ⟨h1, h3, h4, h5⟩ := h
  have c : (nI q).toNatClampNeg = q := nI_clamp (by omega)
  rw [dg_5_0 h1, grd_t (by rw [ln_6, h2]; exact vin_nI (by omega) (by omega)), h2, c, h5 q hq]
theorem word_loop {b : Nat → Int32} {z : Nat} : ∀ (n q fu : Nat) (w : Wd), Bz b z w → q + n = z → gI w 5 2 = nI q → n < fu → ∃ w1, fX1_takeWord_0 5 fu w = fX1_takeWord_39 5 w1 ∧ gI w1 5 2 = nI (sc cL b n q) ∧ Ch P2 w w1 := by
  intro n
  induction n with
  | zero =>
    intro q fu w h hn h2 hf
    obtain ⟨fu, rfl⟩ : ∃ y, fu = y + 1 := ⟨fu - 1, by omega⟩
    have h0 := h
    obtain ⟨h1, h3, h4, h5⟩ := h0
    rw [fX1_takeWord_0]
    dsimp only
    rw [h4, h2, if_pos (nI_le (by omega) (by omega))]
    exact ⟨w, rfl, h2, Ch.rf⟩
  | succ n ih =>
    intro q fu w h hn h2 hf
    obtain ⟨fu, rfl⟩ : ∃ y, fu = y + 1 := ⟨fu - 1, by omega⟩
    have h0 := h
    obtain ⟨h1, h3, h4, h5⟩ := h0
    have hlt : ¬ gI w 5 1 ≤ gI w 5 2 := by rw [h4, h2]; exact nI_ge (by omega) (by omega)
    rw [fX1_takeWord_0]
    dsimp only
    rw [if_neg hlt, h.at (q := q) (by omega) h2 (f := fun x => bnd (fX1_isLetter x w) (fun x_2 w_3 => if x_2 = 0 then (fX1_takeWord_39 5 w_3) else (lw (sI w_3 5 2 ((gI w_3 5 2) + (1 : Int32))) (fun w_4 => fX1_takeWord_0 5 fu w_4))))]
    rw [cL_ev, bnd_s, sc]
    by_cases hc : cL (b q) = true
    · rw [if_pos hc, if_pos hc, if_neg (by decide), lw_e, h2, nI_1]
      have c1 : Ch P2 w (sI w 5 2 (nI (q + 1))) := ch_sI ⟨rfl, rfl⟩
      obtain ⟨w2, e2, r2, c2⟩ := ih (q + 1) fu _ (h.x (c1.mono P2_PX)) (by omega) (by rw [gI_sI, if_pos ⟨rfl, rfl⟩]) (by omega)
      exact ⟨w2, e2, r2, c1.tr c2⟩
    · rw [if_neg hc, if_neg hc, if_pos rfl]
      exact ⟨w, rfl, h2, Ch.rf⟩
theorem blank_loop {b : Nat → Int32} {z : Nat} : ∀ (n q fu : Nat) (w : Wd), Bz b z w → q + n = z → gI w 5 2 = nI q → n < fu → ∃ w1, fX1_take_0 5 fu w = fX1_take_39 5 w1 ∧ gI w1 5 2 = nI (sc cS b n q) ∧ Ch P2 w w1 := by
  intro n
  induction n with
  | zero =>
    intro q fu w h hn h2 hf
    obtain ⟨fu, rfl⟩ : ∃ y, fu = y + 1 := ⟨fu - 1, by omega⟩
    have h0 := h
    obtain ⟨h1, h3, h4, h5⟩ := h0
    rw [fX1_take_0]
    dsimp only
    rw [h4, h2, if_pos (nI_le (by omega) (by omega))]
    exact ⟨w, rfl, h2, Ch.rf⟩
  | succ n ih =>
    intro q fu w h hn h2 hf
    obtain ⟨fu, rfl⟩ : ∃ y, fu = y + 1 := ⟨fu - 1, by omega⟩
    have h0 := h
    obtain ⟨h1, h3, h4, h5⟩ := h0
    have hlt : ¬ gI w 5 1 ≤ gI w 5 2 := by rw [h4, h2]; exact nI_ge (by omega) (by omega)
    rw [fX1_take_0]
    dsimp only
    rw [if_neg hlt, h.at (q := q) (by omega) h2 (f := fun x => bnd (fX1_isBlank x w) (fun x_2 w_3 => if x_2 = 0 then (fX1_take_39 5 w_3) else (lw (sI w_3 5 2 ((gI w_3 5 2) + (1 : Int32))) (fun w_4 => fX1_take_0 5 fu w_4))))]
    rw [cS_ev, bnd_s, sc]
    by_cases hc : cS (b q) = true
    · rw [if_pos hc, if_pos hc, if_neg (by decide), lw_e, h2, nI_1]
      have c1 : Ch P2 w (sI w 5 2 (nI (q + 1))) := ch_sI ⟨rfl, rfl⟩
      obtain ⟨w2, e2, r2, c2⟩ := ih (q + 1) fu _ (h.x (c1.mono P2_PX)) (by omega) (by rw [gI_sI, if_pos ⟨rfl, rfl⟩]) (by omega)
      exact ⟨w2, e2, r2, c1.tr c2⟩
    · rw [if_neg hc, if_neg hc, if_pos rfl]
      exact ⟨w, rfl, h2, Ch.rf⟩
def P25 (i k : Nat) : Prop := i = 5 ∧ (k = 2 ∨ k = 5)
theorem P25_PX (i k : Nat) (h : P25 i k) : PX i k := by unfold P25 at h; unfold PX; omega
theorem amount_loop {b : Nat → Int32} {z : Nat} : ∀ (n q fu : Nat) (w : Wd) (a : Int32), Bz b z w → q + n = z → gI w 5 2 = nI q → gI w 5 5 = a → n < fu → ∃ w1, fX1_takeAmount_5 5 fu w = fX1_takeAmount_68 5 w1 ∧ gI w1 5 2 = nI (sc cD b n q) ∧ gI w1 5 5 = vl b n q a ∧ Ch P25 w w1 := by
  intro n
  induction n with
  | zero =>
    intro q fu w a h hn h2 ha hf
    obtain ⟨fu, rfl⟩ : ∃ y, fu = y + 1 := ⟨fu - 1, by omega⟩
    have h0 := h
    obtain ⟨h1, h3, h4, h5⟩ := h0
    rw [fX1_takeAmount_5]
    dsimp only
    rw [h4, h2, if_pos (nI_le (by omega) (by omega))]
    exact ⟨w, rfl, h2, ha, Ch.rf⟩
  | succ n ih =>
    intro q fu w a h hn h2 ha hf
    obtain ⟨fu, rfl⟩ : ∃ y, fu = y + 1 := ⟨fu - 1, by omega⟩
    have h0 := h
    obtain ⟨h1, h3, h4, h5⟩ := h0
    have hlt : ¬ gI w 5 1 ≤ gI w 5 2 := by rw [h4, h2]; exact nI_ge (by omega) (by omega)
    rw [fX1_takeAmount_5]
    dsimp only
    rw [if_neg hlt, h.at (q := q) (by omega) h2 (f := fun x => bnd (fX1_isDigit x w) (fun x_3 w_4 => if x_3 = 0 then (fX1_takeAmount_68 5 w_4) else (dr (gR w_4 5 0) 8 w_4 (fun a_5 => grd (vin (gI w_4 5 2) (ln a_5)) (lw (sI w_4 5 5 ((((gI w_4 5 5) * (10 : Int32)) + (gI w_4 a_5 (gI w_4 5 2).toNatClampNeg)) - (48 : Int32))) (fun w_6 => lw (sI w_6 5 2 ((gI w_6 5 2) + (1 : Int32))) (fun w_7 => fX1_takeAmount_5 5 fu w_7)))))))]
    rw [cD_ev, bnd_s, sc, vl]
    by_cases hc : cD (b q) = true
    · rw [if_pos hc, if_pos hc, if_pos hc, if_neg (by decide)]
      rw [h.at (q := q) (by omega) h2 (f := fun x => lw (sI w 5 5 ((((gI w 5 5) * (10 : Int32)) + x) - (48 : Int32))) (fun w_6 => lw (sI w_6 5 2 ((gI w_6 5 2) + (1 : Int32))) (fun w_7 => fX1_takeAmount_5 5 fu w_7))), lw_e, lw_e, ha]
      have e2 : gI (sI w 5 5 (a * 10 + b q - 48)) 5 2 + 1 = nI (q + 1) := by rw [gI_sI, if_neg (by omega), h2, nI_1]
      rw [e2]
      have c1 : Ch P25 w (sI (sI w 5 5 (a * 10 + b q - 48)) 5 2 (nI (q + 1))) := (ch_sI ⟨rfl, Or.inr rfl⟩).tr (ch_sI ⟨rfl, Or.inl rfl⟩)
      obtain ⟨w2, e2, r2, r3, c2⟩ := ih (q + 1) fu _ (a * 10 + b q - 48) (h.x (c1.mono P25_PX)) (by omega) (by rw [gI_sI, if_pos ⟨rfl, rfl⟩]) (by rw [gI_sI, if_neg (by omega), gI_sI, if_pos ⟨rfl, rfl⟩]) (by omega)
      exact ⟨w2, e2, r2, r3, c1.tr c2⟩
    · rw [if_neg hc, if_neg hc, if_neg hc, if_pos rfl]
      exact ⟨w, rfl, h2, ha, Ch.rf⟩
theorem sLen_eq : ∀ k, k < 13 → sLen.getD k 0 = (sByt.getD k []).length ∧ (sByt.getD k []).length < 100 := by decide +kernel
theorem spell_loop {b : Nat → Int32} {z q e k : Nat} (hk : k < 13) (he : e = q + (sByt.getD k []).length) (hez : e ≤ z) {w : Wd} (h : Bz b z w) (h3 : gI w 5 3 = nI q) : ∀ (n i fu : Nat), i + n = (sByt.getD k []).length → n < fu → (∀ y, y < i → b (q + y) = (sByt.getD k []).getD y 0) → fX1_spells_20 5 fu k (nI i) w = some (if isW b q e k = true then 1 else 0, w) := by
  obtain ⟨hl, hl2⟩ := sLen_eq k hk
  obtain ⟨h1, hz, h4, h5⟩ := h
  intro n
  induction n with
  | zero =>
    intro i fu hn hf hb
    obtain ⟨fu, rfl⟩ : ∃ y, fu = y + 1 := ⟨fu - 1, by omega⟩
    have hle : Int32.ofNat (sLen.getD k 0) ≤ nI i := nI_le (a := sLen.getD k 0) (by omega) (by omega)
    rw [fX1_spells_20]
    dsimp only
    rw [if_pos hle]
    have hw : isW b q e k = true := by
      unfold isW
      simp only [decide_eq_true_eq]
      exact ⟨he, fun y hy => hb y (by omega)⟩
    rw [if_pos hw]
  | succ n ih =>
    intro i fu hn hf hb
    obtain ⟨fu, rfl⟩ : ∃ y, fu = y + 1 := ⟨fu - 1, by omega⟩
    have hle : ¬ Int32.ofNat (sLen.getD k 0) ≤ nI i := nI_ge (b := sLen.getD k 0) (by omega) (by omega)
    have hle2 : ¬ nI z ≤ nI (q + i) := nI_ge (by omega) (by omega)
    have c : (nI (q + i)).toNatClampNeg = q + i := nI_clamp (by omega)
    have c2 : (nI i).toNatClampNeg = i := nI_clamp (by omega)
    rw [fX1_spells_20]
    dsimp only
    rw [if_neg hle, h4, h3, nI_add, if_neg hle2, dg_5_0 h1, grd_t (by rw [ln_6]; exact vin_nI (by omega) (by omega)), grd_t (by rw [hl]; exact vin_nI (by omega) (by omega)), c, c2, h5 _ (by omega)]
    by_cases hb2 : b (q + i) = (sByt.getD k []).getD i 0
    · rw [if_pos hb2, nI_1]
      exact ih (i + 1) fu (by omega) (by omega) (fun y hy => by
        by_cases hyi : y = i
        · rw [hyi]; exact hb2
        · exact hb y (by omega))
    · rw [if_neg hb2]
      have hw : ¬ isW b q e k = true := by
        unfold isW
        simp only [decide_eq_true_eq]
        exact fun y => hb2 (y.2 i (by omega))
      rw [if_neg hw]
theorem spell_ev {b : Nat → Int32} {z q e k : Nat} (hk : k < 13) (hqe : q ≤ e) (hez : e ≤ z) {w : Wd} (h : Bz b z w) (h3 : gI w 5 3 = nI q) (h2 : gI w 5 2 = nI e) : fX1_spells 5 k w = some (if isW b q e k = true then 1 else 0, w) := by
  obtain ⟨hl, hl2⟩ := sLen_eq k hk
  have hz := h.2.1
  unfold fX1_spells
  rw [h2, h3, pk_sub hqe, hl]
  by_cases hy : e - q = (sByt.getD k []).length
  · have e1 : nI (e - q) = Int32.ofNat (sByt.getD k []).length := by rw [hy]; rfl
    rw [if_pos e1]
    exact spell_loop hk (by omega) hez h h3 (sByt.getD k []).length 0 FU (by omega) (by show (sByt.getD k []).length < 2000; omega) (fun y hy => absurd hy (by omega))
  · have e1 : ¬ nI (e - q) = Int32.ofNat (sByt.getD k []).length := fun y => hy ((nI_eq (a := e - q) (b := (sByt.getD k []).length) (by omega) (by omega)).mp y)
    have hw : ¬ isW b q e k = true := by
      unfold isW
      simp only [decide_eq_true_eq]
      exact fun y => hy (by omega)
    rw [if_neg e1, if_neg hw]
theorem w01 {c : Prop} [Decidable c] {α : Type} {f g : α} : (if (if c then (1 : Int32) else 0) = 0 then f else g) = if c then g else f := by
  by_cases h : c
  · rw [if_pos h, if_pos h, if_neg (by decide)]
  · rw [if_neg h, if_neg h, if_pos rfl]
theorem word_ev {b : Nat → Int32} {z q e : Nat} (hqe : q ≤ e) (hez : e ≤ z) {w : Wd} (h : Bz b z w) (h3 : gI w 5 3 = nI q) (h2 : gI w 5 2 = nI e) : fX1_takeWord_39 5 w = some ((), sI (sI w 5 5 (nmT b q e)) 5 4 (if nmT b q e = -1 then wdT b q e else 3)) := by
  have s : ∀ k, k < 13 → fX1_spells 5 k w = some (if isW b q e k = true then 1 else 0, w) := fun k hk => spell_ev hk hqe hez h h3 h2
  have f119 : ∀ y : Int32, fX1_takeWord_119 5 y w = some ((), sI (sI w 5 5 y) 5 4 (if y = -1 then wdT b q e else 3)) := by
    intro y
    have c1 : Ch PX w (sI w 5 5 y) := ch_sI ⟨rfl, by omega, by omega⟩
    have s : ∀ k, k < 13 → fX1_spells 5 k (sI w 5 5 y) = some (if isW b q e k = true then 1 else 0, sI w 5 5 y) := fun k hk => spell_ev hk hqe hez (h.x c1) (by rw [gI_sI, if_neg (by omega)]; exact h3) (by rw [gI_sI, if_neg (by omega)]; exact h2)
    have g5 : gI (sI w 5 5 y) 5 5 = y := by rw [gI_sI, if_pos ⟨rfl, rfl⟩]
    unfold fX1_takeWord_119 fX1_takeWord_218
    rw [lw_e, g5]
    by_cases hy : y = -1
    · rw [if_pos hy, if_pos hy]
      unfold wdT
      rw [s 7 (by omega), bnd_s, w01]
      by_cases k7 : isW b q e 7 = true
      · rw [if_pos k7, if_pos k7, lw_e]
      rw [if_neg k7, if_neg k7, s 8 (by omega), bnd_s, w01]
      by_cases k8 : isW b q e 8 = true
      · rw [if_pos k8, if_pos k8, lw_e]
      rw [if_neg k8, if_neg k8, s 9 (by omega), bnd_s, w01]
      by_cases k9 : isW b q e 9 = true
      · rw [if_pos k9, if_pos k9, lw_e]
      rw [if_neg k9, if_neg k9, s 10 (by omega), bnd_s, w01]
      by_cases k10 : isW b q e 10 = true
      · rw [if_pos k10, if_pos k10, lw_e]
      rw [if_neg k10, if_neg k10, s 11 (by omega), bnd_s, w01]
      by_cases k11 : isW b q e 11 = true
      · rw [if_pos k11, if_pos k11, lw_e]
      rw [if_neg k11, if_neg k11, s 12 (by omega), bnd_s, w01]
      by_cases k12 : isW b q e 12 = true
      · rw [if_pos k12, if_pos k12, lw_e]
      rw [if_neg k12, if_neg k12, lw_e]
    · rw [if_neg hy, if_neg hy, lw_e]
  unfold fX1_takeWord_39 nmT
  rw [s 1 (by omega), bnd_s, w01]
  by_cases k1 : isW b q e 1 = true
  · rw [if_pos k1, if_pos k1, f119]
  rw [if_neg k1, if_neg k1, s 2 (by omega), bnd_s, w01]
  by_cases k2 : isW b q e 2 = true
  · rw [if_pos k2, if_pos k2, f119]
  rw [if_neg k2, if_neg k2, s 3 (by omega), bnd_s, w01]
  by_cases k3 : isW b q e 3 = true
  · rw [if_pos k3, if_pos k3, f119]
  rw [if_neg k3, if_neg k3, s 4 (by omega), bnd_s, w01]
  by_cases k4 : isW b q e 4 = true
  · rw [if_pos k4, if_pos k4, f119]
  rw [if_neg k4, if_neg k4, s 5 (by omega), bnd_s, w01]
  by_cases k5 : isW b q e 5 = true
  · rw [if_pos k5, if_pos k5, f119]
  rw [if_neg k5, if_neg k5, s 6 (by omega), bnd_s, w01]
  by_cases k6 : isW b q e 6 = true
  · rw [if_pos k6, if_pos k6, f119]
  rw [if_neg k6, if_neg k6, f119]
