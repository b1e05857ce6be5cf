/-! weights that are drawn -/
def drN (z : Int32) : Int32 := (z * (1103515245 : Int32)) + (12345 : Int32)
def itr (f : Int32 → Int32) : Nat → Int32 → Int32
  | 0, z => z
  | n + 1, z => itr f n (f z)
theorem itr_s (f : Int32 → Int32) (n : Nat) (z : Int32) : itr f (n + 1) z = itr f n (f z) := rfl
def drZ (z : Int32) (n : Nat) : Int32 := itr drN n z
theorem drZ_s (z : Int32) (n : Nat) : drZ z (n + 1) = drZ (drN z) n := itr_s drN n z
def drV (z : Int32) : Int32 := ((z.toUInt32 >>> ((9 : Int32).toUInt32 &&& Int32.toUInt32 31)).toInt32) - ((z.toUInt32 >>> ((9 : Int32).toUInt32 &&& Int32.toUInt32 31)).toInt32) / (30 : Int32) * (30 : Int32)
def drH (z : Int32) (t : Nat) : Int32 := drV (drZ z (t + 1))
theorem drC_loop : ∀ (n i fu : Nat) (w : Wd) (z : Int32), St w → i + n = 8 → n < fu → ∃ w', fX6_draw_4 0 fu z (nI i) w = some ((), w') ∧ (∀ t, i ≤ t → t < 8 → gI w' 2 t = drV (drZ z (t - i + 1))) ∧ (∀ t, t < i → gI w' 2 t = gI w 2 t) ∧ Ch (fun a _ => a = 2) w w' := by
  intro n
  induction n with
  | zero =>
    intro i fu w z hS hi hf
    obtain ⟨fu, rfl⟩ : ∃ z, fu = z + 1 := ⟨fu - 1, by omega⟩
    have h1 : (8 : Int32) ≤ nI i := nI_le (a := 8) (by omega) (by omega)
    refine ⟨w, ?_, fun t a b => by omega, fun t a => rfl, Ch.rf⟩
    rw [fX6_draw_4]
    dsimp only
    rw [if_pos h1]
  | succ n ih =>
    intro i fu w z hS hi hf
    obtain ⟨fu, rfl⟩ : ∃ z, fu = z + 1 := ⟨fu - 1, by omega⟩
    have h1 : ¬ (8 : Int32) ≤ nI i := nI_ge (b := 8) (by omega) (by omega)
    have ci : (nI i).toNatClampNeg = i := nI_clamp (by omega)
    obtain ⟨w1, hw1⟩ : ∃ y, y = sI w 2 i (drV (drN z)) := ⟨_, rfl⟩
    have hw1' : sI w 2 (nI i).toNatClampNeg (drV (drN z)) = w1 := by rw [ci, hw1]
    have c1 : Ch (fun a _ => a = 2) w w1 := by rw [hw1]; exact ch_sI (P := fun a _ => a = 2) rfl
    obtain ⟨w2, e2, q2, q3, c2⟩ := ih (i + 1) fu w1 (drN z) (c1.St hS) (by omega) (by omega)
    refine ⟨w2, ?_, fun t a b => ?_, fun t a => ?_, c1.tr c2⟩
    · rw [fX6_draw_4]
      dsimp only
      have en : z * (1103515245 : Int32) + (12345 : Int32) = drN z := rfl
      rw [if_neg h1, lt_e, en, dg_0_1 hS, grd_t (by rw [ln_2]; exact vin_nI (by omega) (by omega)), lw_e]
      have hd : sI w 2 (nI i).toNatClampNeg (((drN z).toUInt32 >>> ((9 : Int32).toUInt32 &&& Int32.toUInt32 31)).toInt32 - ((drN z).toUInt32 >>> ((9 : Int32).toUInt32 &&& Int32.toUInt32 31)).toInt32 / (30 : Int32) * (30 : Int32)) = w1 := hw1'
      rw [hd, nI_1]
      exact e2
    · by_cases hti : t = i
      · subst hti
        rw [q3 t (by omega), hw1, gI_sI, if_pos ⟨rfl, rfl⟩, Nat.sub_self]
        rfl
      · rw [q2 t (by omega) b, show t - i + 1 = (t - (i + 1) + 1) + 1 by omega, drZ_s z]
    · rw [q3 t (by omega), hw1, gI_sI, if_neg (by omega)]
theorem drC_ev {w : Wd} (hS : St w) (z : Int32) : ∃ w', fX6_draw 0 z w = some ((), w') ∧ (∀ t, t < 8 → gI w' 2 t = drH z t) ∧ Ch (fun a _ => a = 2) w w' := by
  obtain ⟨w', e, q, -, c⟩ := drC_loop 8 0 FU w z hS (by omega) (show 8 < 2000 by omega)
  exact ⟨w', e, fun t ht => by rw [q t (by omega) ht]; rfl, c⟩
def PH (a k : Nat) : Prop := (a = 56 ∧ k < 8) ∨ a = 59
theorem drM_loop : ∀ (n i fu : Nat) (w : Wd) (z : Int32), St w → i + n = 8 → n < fu → ∃ w', fX7_draws_4 52 fu z (nI i) w = some ((), w') ∧ (∀ t, i ≤ t → t < 8 → gI w' 56 t = drV (drZ z (t - i + 1)) ∧ gI w' 59 t = gI w 56 t) ∧ (∀ t, t < i → gI w' 56 t = gI w 56 t ∧ gI w' 59 t = gI w 59 t) ∧ Ch PH w w' := by
  intro n
  induction n with
  | zero =>
    intro i fu w z hS hi hf
    obtain ⟨fu, rfl⟩ : ∃ z, fu = z + 1 := ⟨fu - 1, by omega⟩
    have h1 : (8 : Int32) ≤ nI i := nI_le (a := 8) (by omega) (by omega)
    refine ⟨w, ?_, fun t a b => by omega, fun t a => ⟨rfl, rfl⟩, Ch.rf⟩
    rw [fX7_draws_4]
    dsimp only
    rw [if_pos h1]
  | succ n ih =>
    intro i fu w z hS hi hf
    obtain ⟨fu, rfl⟩ : ∃ z, fu = z + 1 := ⟨fu - 1, by omega⟩
    have h1 : ¬ (8 : Int32) ≤ nI i := nI_ge (b := 8) (by omega) (by omega)
    have ci : (nI i).toNatClampNeg = i := nI_clamp (by omega)
    obtain ⟨w0, hw0⟩ : ∃ y, y = sI w 59 i (gI w 56 i) := ⟨_, rfl⟩
    have hw0' : sI w 59 (nI i).toNatClampNeg (gI w 56 (nI i).toNatClampNeg) = w0 := by rw [ci, hw0]
    have hS0 : St w0 := by rw [hw0]; exact St_sI hS
    obtain ⟨w1, hw1⟩ : ∃ y, y = sI w0 56 i (drV (drN z)) := ⟨_, rfl⟩
    have hw1' : sI w0 56 (nI i).toNatClampNeg (drV (drN z)) = w1 := by rw [ci, hw1]
    have c1 : Ch PH w w1 := by
      rw [hw1, hw0]
      exact (ch_sI (Or.inr rfl)).tr (ch_sI (Or.inl ⟨rfl, by omega⟩))
    have g : ∀ a b, gI w1 a b = if a = 56 ∧ b = i then drV (drN z) else if a = 59 ∧ b = i then gI w 56 i else gI w a b := fun a b => by rw [hw1, gI_sI, hw0, gI_sI]
    obtain ⟨w2, e2, q2, q3, c2⟩ := ih (i + 1) fu w1 (drN z) (c1.St hS) (by omega) (by omega)
    refine ⟨w2, ?_, fun t a b => ?_, fun t a => ?_, c1.tr c2⟩
    · rw [fX7_draws_4]
      dsimp only
      have en : z * (1103515245 : Int32) + (12345 : Int32) = drN z := rfl
      rw [if_neg h1, dg_52_8 hS, grd_t (by rw [ln_56]; exact vin_nI (by omega) (by omega)), dg_52_36 hS, grd_t (by rw [ln_59]; exact vin_nI (by omega) (by omega)), lw_e, hw0', lt_e, en, dg_52_8 hS0, grd_t (by rw [ln_56]; exact vin_nI (by omega) (by omega)), lw_e]
      have hd : sI w0 56 (nI i).toNatClampNeg (((drN z).toUInt32 >>> ((9 : Int32).toUInt32 &&& Int32.toUInt32 31)).toInt32 - ((drN z).toUInt32 >>> ((9 : Int32).toUInt32 &&& Int32.toUInt32 31)).toInt32 / (30 : Int32) * (30 : Int32)) = w1 := hw1'
      rw [hd, nI_1]
      exact e2
    · by_cases hti : t = i
      · subst hti
        rw [(q3 t (by omega)).1, (q3 t (by omega)).2, g, if_pos ⟨rfl, rfl⟩, g, if_neg (by omega), if_pos ⟨rfl, rfl⟩, Nat.sub_self]
        exact ⟨rfl, rfl⟩
      · obtain ⟨u1, u2⟩ := q2 t (by omega) b
        rw [u1, u2, show t - i + 1 = (t - (i + 1) + 1) + 1 by omega, drZ_s z, g, if_neg (by omega), if_neg (by omega)]
        exact ⟨rfl, rfl⟩
    · obtain ⟨u1, u2⟩ := q3 t (by omega)
      rw [u1, u2, g, if_neg (by omega), if_neg (by omega), g, if_neg (by omega), if_neg (by omega)]
      exact ⟨rfl, rfl⟩
theorem drM_ev {w : Wd} (hS : St w) (z : Int32) : ∃ w', fX7_draws 52 z w = some ((), w') ∧ (∀ t, t < 8 → gI w' 56 t = drH z t ∧ gI w' 59 t = gI w 56 t) ∧ Ch PH w w' := by
  obtain ⟨w', e, q, -, c⟩ := drM_loop 8 0 FU w z hS (by omega) (show 8 < 2000 by omega)
  refine ⟨w', e, fun t ht => ?_, c⟩
  obtain ⟨u1, u2⟩ := q t (by omega) ht
  exact ⟨u1.trans rfl, u2⟩
theorem lbM_loop : ∀ (n i fu : Nat) (w : Wd), St w → i + n = 8 → n < fu → ∃ w', fX7_laysBack_2 52 fu (nI i) w = some ((), w') ∧ (∀ t, i ≤ t → t < 8 → gI w' 56 t = gI w 59 t) ∧ (∀ t, t < i → gI w' 56 t = gI w 56 t) ∧ Ch (fun a k => a = 56 ∧ k < 8) w w' := by
  intro n
  induction n with
  | zero =>
    intro i fu w hS hi hf
    obtain ⟨fu, rfl⟩ : ∃ z, fu = z + 1 := ⟨fu - 1, by omega⟩
    have h1 : (8 : Int32) ≤ nI i := nI_le (a := 8) (by omega) (by omega)
    refine ⟨w, ?_, fun t a b => by omega, fun t a => rfl, Ch.rf⟩
    rw [fX7_laysBack_2]
    dsimp only
    rw [if_pos h1]
  | succ n ih =>
    intro i fu w hS hi hf
    obtain ⟨fu, rfl⟩ : ∃ z, fu = z + 1 := ⟨fu - 1, by omega⟩
    have h1 : ¬ (8 : Int32) ≤ nI i := nI_ge (b := 8) (by omega) (by omega)
    have ci : (nI i).toNatClampNeg = i := nI_clamp (by omega)
    obtain ⟨w1, hw1⟩ : ∃ y, y = sI w 56 i (gI w 59 i) := ⟨_, rfl⟩
    have hw1' : sI w 56 (nI i).toNatClampNeg (gI w 59 (nI i).toNatClampNeg) = w1 := by rw [ci, hw1]
    have c1 : Ch (fun a k => a = 56 ∧ k < 8) w w1 := by rw [hw1]; exact ch_sI ⟨rfl, by omega⟩
    obtain ⟨w2, e2, q2, q3, c2⟩ := ih (i + 1) fu w1 (c1.St hS) (by omega) (by omega)
    refine ⟨w2, ?_, fun t a b => ?_, fun t a => ?_, c1.tr c2⟩
    · rw [fX7_laysBack_2]
      dsimp only
      rw [if_neg h1, dg_52_36 hS, grd_t (by rw [ln_59]; exact vin_nI (by omega) (by omega)), dg_52_8 hS, grd_t (by rw [ln_56]; exact vin_nI (by omega) (by omega)), lw_e, hw1', nI_1]
      exact e2
    · by_cases hti : t = i
      · subst hti
        rw [q3 t (by omega), hw1, gI_sI, if_pos ⟨rfl, rfl⟩]
      · rw [q2 t (by omega) b, hw1, gI_sI, if_neg (by omega)]
    · rw [q3 t (by omega), hw1, gI_sI, if_neg (by omega)]
theorem lbM_ev {w : Wd} (hS : St w) : ∃ w', fX7_laysBack 52 w = some ((), w') ∧ (∀ t, t < 8 → gI w' 56 t = gI w 59 t) ∧ Ch (fun a k => a = 56 ∧ k < 8) w w' := by
  obtain ⟨w', e, q, -, c⟩ := lbM_loop 8 0 FU w hS (by omega) (show 8 < 2000 by omega)
  exact ⟨w', e, fun t ht => q t (by omega) ht, c⟩
/-- drawn, reckoned, laid back: only scratch has changed -/
theorem drM_back {w w1 w2 w3 : Wd} {z : Int32} (c1 : Ch PH w w1) (q1 : ∀ t, t < 8 → gI w1 56 t = drH z t ∧ gI w1 59 t = gI w 56 t) (c2 : Ch PM w1 w2) (q3 : ∀ t, t < 8 → gI w3 56 t = gI w2 59 t) (c3 : Ch (fun a k => a = 56 ∧ k < 8) w2 w3) : Ch SC w w3 := by
  refine Ch.outB (Q := fun a k => a = 56 ∧ k < 8) ((c1.mono (fun a k y => ?_)).tr ((c2.mono (fun a k y => Or.inl (PM_SC a k y))).tr (c3.mono (fun a k y => Or.inr y)))) (fun a k y => ?_) (fun a k y => by omega)
  · unfold PH at y
    unfold SC
    omega
  · obtain ⟨rfl, hk⟩ := y
    rw [q3 k hk, c2.I (by unfold PM; omega), (q1 k hk).2]
theorem drawn_agree (a0 a1 : Int32) : Agree JJ (fX6_drawn 0 a0 a1) (fX7_drawn 52 a0 a1) := by
  rintro w ⟨m, tc, rl, tp, h⟩
  have e40 : (40 : Int32).toInt64 = (40 : Int64) := by decide
  have J : JJ w := ⟨m, tc, rl, tp, h⟩
  by_cases hd : 0 ≤ a1 ∧ a1 ≤ (40 : Int32)
  · obtain ⟨N, hN, rfl⟩ := (in0n (n := 40) (by omega)).mp hd
    obtain ⟨ev, r1, r2⟩ := h.ru
    obtain ⟨w1, f1, q1, c1⟩ := drC_ev h.S a0
    have c1 : Ch SC w w1 := c1.mono (fun i k z => Or.inl z)
    have h1 := h.ch c1
    obtain ⟨w2, f2, c2⟩ := soaC (H := drH a0) h1 (r1.ch c1 (fun i k z => by unfold SC at z; omega)) hN q1
    have c12 := c1.tr (c2.mono PT_SC)
    have e58 : ∀ k, gI w1 58 k = gI w 58 k := fun k => c1.I (by unfold SC; omega)
    have eY : ∀ H j told, thY w1 H j told = thY w H j told := fun H j told => thY_ch c1 (fun i k z => by unfold SC at z; omega) H j told
    simp only [e58, eY] at f2
    have h2 := h.ch c12
    have r22 := r2.ch c12 (fun i k z => by unfold SC at z; omega)
    obtain ⟨w3, f3, q3, c3⟩ := drM_ev h2.S a0
    obtain ⟨w4, f4, c4⟩ := soaM (H := drH a0) h2 r22 hN c3 (fun i k z => by unfold PH at z; omega) (fun t ht => (q3 t ht).1)
    have e58 : ∀ k, gI w2 58 k = gI w 58 k := fun k => c12.I (by unfold SC; omega)
    have eY : ∀ H j told, thY w2 H j told = thY w H j told := fun H j told => thY_ch c12 (fun i k z => by unfold SC at z; omega) H j told
    simp only [e58, eY] at f4
    have hS4 := c4.St (c3.St h2.S)
    obtain ⟨w5, f5, q5, c5⟩ := lbM_ev hS4
    refine ⟨abS (fun j => daysS ev N (thY w (drH a0) j (gI w 58 (5 * j + 2))) 4) m 0 0, w2, w5, ?_, ?_, m, tc, rl, tp, h2.ch (drM_back c3 q3 (c4.mono PG_PM) q5 c5)⟩
    · unfold fX6_drawn
      rw [days_ev, bnd_s, w01, if_pos hd, f1, bnd_s, f2, bnd_s]
    · unfold fX7_drawn
      rw [in0l e40, bnd_s, w01, if_pos hd, f3, bnd_s, f4, bnd_s, f5, bnd_s]
  · refine ⟨-2, w, w, ?_, ?_, J⟩
    · unfold fX6_drawn
      rw [days_ev, bnd_s, w01, if_neg hd]
    · unfold fX7_drawn
      rw [in0l e40, bnd_s, w01, if_neg hd]
