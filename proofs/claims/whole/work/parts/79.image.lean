/-! an image is kept, and laid back -/
theorem st_kwc {w : Wd} (h : St w) {j : Nat} (hj : j < 6) : gR w 10 (nI j).toNatClampNeg = some (11 + j) := by
  rw [nI_clamp (by omega)]
  exact st_kw h hj
theorem become_ev {w : Wd} {a b : Nat} (hS : wn w = 66) (hb : b < 66 ∧ kd b = 5) (hab : b ≠ a) : ∃ w', fX5_become a (some b) w = some ((), w') ∧ (∀ q, q < 6 → gI w' a q = gI w b q) ∧ Ch (fun x _ => x = a) w w' := by
  have c : ∀ (u : Wd) (q : Nat) (v : Int32), Ch (fun x _ => x = a) u (sI u a q v) := fun u q v => ch_sI (P := fun x _ => x = a) rfl
  have n : ∀ (u : Wd) (q : Nat) (v : Int32) (r : Nat), gI (sI u a q v) b r = gI u b r := fun u q v r => by rw [gI_sI, if_neg (fun z => hab z.1)]
  obtain ⟨w1, hw1⟩ : ∃ z, z = sI (sI (sI (sI (sI (sI w a 0 (gI w b 0)) a 1 (gI w b 1)) a 2 (gI w b 2)) a 3 (gI w b 3)) a 4 (gI w b 4)) a 5 (gI w b 5) := ⟨_, rfl⟩
  refine ⟨w1, ?_, fun q hq => ?_, ?_⟩
  · unfold fX5_become
    rw [dr_at hS hb, lw_e, lw_e, lw_e, lw_e, lw_e, lw_e]
    simp only [n]
    rw [hw1]
  · rw [hw1]
    match q, hq with
    | 0, _ => simp [gI_sI]
    | 1, _ => simp [gI_sI]
    | 2, _ => simp [gI_sI]
    | 3, _ => simp [gI_sI]
    | 4, _ => simp [gI_sI]
    | 5, _ => simp [gI_sI]
  · rw [hw1]
    exact (((((c _ _ _).tr (c _ _ _)).tr (c _ _ _)).tr (c _ _ _)).tr (c _ _ _)).tr (c _ _ _)
theorem kd_kww {j : Nat} (hj : j < 6) : 11 + j < 66 ∧ kd (11 + j) = 5 := kd_kw hj
theorem imC_loop {w : Wd} {m : Nat} (hS : St w) (h3 : gI w 0 3 = nI m) (m6 : m ≤ 6) : ∀ (n i fu : Nat) (w2 : Wd), Ch (fun a _ => 11 ≤ a ∧ a ≤ 16) w w2 → (∀ j, j < i → ∀ q, q < 6 → gI w2 (11 + j) q = gI w (18 + j) q) → i + n = m → n < fu → ∃ w', fX6_image_61 0 fu (nI i) w2 = some (nI m, w') ∧ (∀ j, j < m → ∀ q, q < 6 → gI w' (11 + j) q = gI w (18 + j) q) ∧ Ch (fun a _ => 11 ≤ a ∧ a ≤ 16) w w' := by
  intro n
  induction n with
  | zero =>
    intro i fu w2 c hj hi hf
    obtain ⟨fu, rfl⟩ : ∃ z, fu = z + 1 := ⟨fu - 1, by omega⟩
    have h1 : nI m ≤ nI i := nI_le (by omega) (by omega)
    have e3 : gI w2 0 3 = nI m := by rw [c.I (by omega)]; exact h3
    refine ⟨w2, ?_, fun j hjm => hj j (by omega), c⟩
    rw [fX6_image_61]
    dsimp only
    rw [e3, if_pos h1]
  | succ n ih =>
    intro i fu w2 c hj hi hf
    obtain ⟨fu, rfl⟩ : ∃ z, fu = z + 1 := ⟨fu - 1, by omega⟩
    have h1 : ¬ nI m ≤ nI i := nI_ge (by omega) (by omega)
    have e3 : gI w2 0 3 = nI m := by rw [c.I (by omega)]; exact h3
    have hS2 := c.St hS
    obtain ⟨w3, f3, q3, c3⟩ := become_ev (a := 11 + i) (b := 18 + i) hS2.1 (kd_wk (by omega)) (by omega)
    have c4 := c.tr (c3.mono (P2 := fun a _ => 11 ≤ a ∧ a ≤ 16) (fun a b z => by omega))
    obtain ⟨w5, f5, q5, c5⟩ := ih (i + 1) fu w3 c4 (fun j hj2 q hq => by
      by_cases hji : j = i
      · rw [hji, q3 q hq, c.I (by omega)]
      · rw [c3.I (by omega)]
        exact hj j (by omega) q hq) (by omega) (by omega)
    refine ⟨w5, ?_, q5, c5⟩
    rw [fX6_image_61]
    dsimp only
    rw [e3, if_neg h1, dg_0_11 hS2, dg_8_5 hS2, grd_t (by rw [ln_10]; exact vin_nI (by omega) (by omega)), dg_0_2 hS2, grd_t (by rw [ln_3]; exact vin_nI (by omega) (by omega)), st_kwc hS2 (by omega), dr_at hS2.1 (kd_kww (by omega)), st_wkc hS2 (by omega), f3, bnd_s, nI_1]
    exact f5
theorem baC_loop {w : Wd} {m : Nat} (hS : St w) (h3 : gI w 0 3 = nI m) (m6 : m ≤ 6) : ∀ (n i fu : Nat) (w2 : Wd), Ch (fun a _ => 18 ≤ a ∧ a < 24) w w2 → (∀ j, j < i → ∀ q, q < 6 → gI w2 (18 + j) q = gI w (11 + j) q) → i + n = m → n < fu → ∃ w', fX6_back_66 0 fu (nI i) w2 = some (nI m, w') ∧ (∀ j, j < m → ∀ q, q < 6 → gI w' (18 + j) q = gI w (11 + j) q) ∧ Ch (fun a _ => 18 ≤ a ∧ a < 24) w w' := by
  intro n
  induction n with
  | zero =>
    intro i fu w2 c hj hi hf
    obtain ⟨fu, rfl⟩ : ∃ z, fu = z + 1 := ⟨fu - 1, by omega⟩
    have h1 : nI m ≤ nI i := nI_le (by omega) (by omega)
    have e3 : gI w2 0 3 = nI m := by rw [c.I (by omega)]; exact h3
    refine ⟨w2, ?_, fun j hjm => hj j (by omega), c⟩
    rw [fX6_back_66]
    dsimp only
    rw [e3, if_pos h1]
  | succ n ih =>
    intro i fu w2 c hj hi hf
    obtain ⟨fu, rfl⟩ : ∃ z, fu = z + 1 := ⟨fu - 1, by omega⟩
    have h1 : ¬ nI m ≤ nI i := nI_ge (by omega) (by omega)
    have e3 : gI w2 0 3 = nI m := by rw [c.I (by omega)]; exact h3
    have hS2 := c.St hS
    obtain ⟨w3, f3, q3, c3⟩ := become_ev (a := 18 + i) (b := 11 + i) hS2.1 (kd_kww (by omega)) (by omega)
    have c4 := c.tr (c3.mono (P2 := fun a _ => 18 ≤ a ∧ a < 24) (fun a b z => by omega))
    obtain ⟨w5, f5, q5, c5⟩ := ih (i + 1) fu w3 c4 (fun j hj2 q hq => by
      by_cases hji : j = i
      · rw [hji, q3 q hq, c.I (by omega)]
      · rw [c3.I (by omega)]
        exact hj j (by omega) q hq) (by omega) (by omega)
    refine ⟨w5, ?_, q5, c5⟩
    rw [fX6_back_66]
    dsimp only
    rw [e3, if_neg h1, dg_0_2 hS2, grd_t (by rw [ln_3]; exact vin_nI (by omega) (by omega)), dg_0_11 hS2, dg_8_5 hS2, grd_t (by rw [ln_10]; exact vin_nI (by omega) (by omega)), st_wkc hS2 (by omega), dr_at hS2.1 (kd_wk (by omega)), st_kwc hS2 (by omega), f3, bnd_s, nI_1]
    exact f5
theorem im2_loop : ∀ (n i fu : Nat) (w : Wd), St w → i + n = 8 → n < fu → ∃ w' z, fX7_image_2 52 fu (nI i) w = fX7_image_2 52 (z + 1) (nI 8) w' ∧ (∀ t, i ≤ t → t < 8 → gI w' 60 t = gI w 56 t) ∧ (∀ t, t < i → gI w' 60 t = gI w 60 t) ∧ Ch (fun a _ => a = 60) w w' := by
  intro n
  induction n with
  | zero =>
    intro i fu w hS hi hf
    obtain ⟨fu, rfl⟩ : ∃ z, fu = z + 1 := ⟨fu - 1, by omega⟩
    exact ⟨w, fu, by rw [show i = 8 by omega], fun t a b => by omega, fun t a => rfl, Ch.rf⟩
  | succ n ih =>
    intro i fu w hS hi hf
    obtain ⟨fu, rfl⟩ : ∃ z, fu = z + 1 := ⟨fu - 1, by omega⟩
    have h1 : ¬ (8 : Int32) ≤ nI i := nI_ge (b := 8) (by omega) (by omega)
    have ci : (nI i).toNatClampNeg = i := nI_clamp (by omega)
    obtain ⟨w1, hw1⟩ : ∃ y, y = sI w 60 i (gI w 56 i) := ⟨_, rfl⟩
    have hw1' : sI w 60 (nI i).toNatClampNeg (gI w 56 (nI i).toNatClampNeg) = w1 := by rw [ci, hw1]
    have c1 : Ch (fun a _ => a = 60) w w1 := by rw [hw1]; exact ch_sI (P := fun a _ => a = 60) rfl
    obtain ⟨w2, z, e2, q2, q3, c2⟩ := ih (i + 1) fu w1 (c1.St hS) (by omega) (by omega)
    refine ⟨w2, z, ?_, fun t a b => ?_, fun t a => ?_, c1.tr c2⟩
    · rw [← e2, fX7_image_2]
      dsimp only
      rw [if_neg h1, dg_52_8 hS, grd_t (by rw [ln_56]; exact vin_nI (by omega) (by omega)), dg_52_37 hS, grd_t (by rw [ln_60]; exact vin_nI (by omega) (by omega)), lw_e, hw1', nI_1]
    · by_cases hti : t = i
      · subst hti
        rw [q3 t (by omega), hw1, gI_sI, if_pos ⟨rfl, rfl⟩]
      · rw [q2 t (by omega) b, c1.I (by omega)]
    · rw [q3 t (by omega), hw1, gI_sI, if_neg (by omega)]
theorem im28_loop : ∀ (n i fu : Nat) (w : Wd), St w → i + n = 30 → n < fu → ∃ w' z, fX7_image_28 52 fu (nI i) w = fX7_image_28 52 (z + 1) (nI 30) w' ∧ (∀ t, i ≤ t → t < 30 → gI w' 61 t = gI w 58 t) ∧ (∀ t, t < i → gI w' 61 t = gI w 61 t) ∧ Ch (fun a _ => a = 61) w w' := by
  intro n
  induction n with
  | zero =>
    intro i fu w hS hi hf
    obtain ⟨fu, rfl⟩ : ∃ z, fu = z + 1 := ⟨fu - 1, by omega⟩
    exact ⟨w, fu, by rw [show i = 30 by omega], fun t a b => by omega, fun t a => rfl, Ch.rf⟩
  | succ n ih =>
    intro i fu w hS hi hf
    obtain ⟨fu, rfl⟩ : ∃ z, fu = z + 1 := ⟨fu - 1, by omega⟩
    have h1 : ¬ (30 : Int32) ≤ nI i := nI_ge (b := 30) (by omega) (by omega)
    have ci : (nI i).toNatClampNeg = i := nI_clamp (by omega)
    obtain ⟨w1, hw1⟩ : ∃ y, y = sI w 61 i (gI w 58 i) := ⟨_, rfl⟩
    have hw1' : sI w 61 (nI i).toNatClampNeg (gI w 58 (nI i).toNatClampNeg) = w1 := by rw [ci, hw1]
    have c1 : Ch (fun a _ => a = 61) w w1 := by rw [hw1]; exact ch_sI (P := fun a _ => a = 61) rfl
    obtain ⟨w2, z, e2, q2, q3, c2⟩ := ih (i + 1) fu w1 (c1.St hS) (by omega) (by omega)
    refine ⟨w2, z, ?_, fun t a b => ?_, fun t a => ?_, c1.tr c2⟩
    · rw [← e2, fX7_image_28]
      dsimp only
      rw [if_neg h1, dg_52_10 hS, grd_t (by rw [ln_58]; exact vin_nI (by omega) (by omega)), dg_52_38 hS, grd_t (by rw [ln_61]; exact vin_nI (by omega) (by omega)), lw_e, hw1', nI_1]
    · by_cases hti : t = i
      · subst hti
        rw [q3 t (by omega), hw1, gI_sI, if_pos ⟨rfl, rfl⟩]
      · rw [q2 t (by omega) b, c1.I (by omega)]
    · rw [q3 t (by omega), hw1, gI_sI, if_neg (by omega)]
theorem ba13_loop : ∀ (n i fu : Nat) (w : Wd), St w → i + n = 8 → n < fu → ∃ w' z, fX7_back_13 52 fu (nI i) w = fX7_back_13 52 (z + 1) (nI 8) w' ∧ (∀ t, i ≤ t → t < 8 → gI w' 56 t = gI w 60 t) ∧ (∀ t, t < i → gI w' 56 t = gI w 56 t) ∧ Ch (fun a _ => a = 56) w w' := by
  intro n
  induction n with
  | zero =>
    intro i fu w hS hi hf
    obtain ⟨fu, rfl⟩ : ∃ z, fu = z + 1 := ⟨fu - 1, by omega⟩
    exact ⟨w, fu, by rw [show i = 8 by omega], fun t a b => by omega, fun t a => rfl, Ch.rf⟩
  | succ n ih =>
    intro i fu w hS hi hf
    obtain ⟨fu, rfl⟩ : ∃ z, fu = z + 1 := ⟨fu - 1, by omega⟩
    have h1 : ¬ (8 : Int32) ≤ nI i := nI_ge (b := 8) (by omega) (by omega)
    have ci : (nI i).toNatClampNeg = i := nI_clamp (by omega)
    obtain ⟨w1, hw1⟩ : ∃ y, y = sI w 56 i (gI w 60 i) := ⟨_, rfl⟩
    have hw1' : sI w 56 (nI i).toNatClampNeg (gI w 60 (nI i).toNatClampNeg) = w1 := by rw [ci, hw1]
    have c1 : Ch (fun a _ => a = 56) w w1 := by rw [hw1]; exact ch_sI (P := fun a _ => a = 56) rfl
    obtain ⟨w2, z, e2, q2, q3, c2⟩ := ih (i + 1) fu w1 (c1.St hS) (by omega) (by omega)
    refine ⟨w2, z, ?_, fun t a b => ?_, fun t a => ?_, c1.tr c2⟩
    · rw [← e2, fX7_back_13]
      dsimp only
      rw [if_neg h1, dg_52_37 hS, grd_t (by rw [ln_60]; exact vin_nI (by omega) (by omega)), dg_52_8 hS, grd_t (by rw [ln_56]; exact vin_nI (by omega) (by omega)), lw_e, hw1', nI_1]
    · by_cases hti : t = i
      · subst hti
        rw [q3 t (by omega), hw1, gI_sI, if_pos ⟨rfl, rfl⟩]
      · rw [q2 t (by omega) b, c1.I (by omega)]
    · rw [q3 t (by omega), hw1, gI_sI, if_neg (by omega)]
theorem ba39_loop : ∀ (n i fu : Nat) (w : Wd), St w → i + n = 30 → n < fu → ∃ w' z, fX7_back_39 52 fu (nI i) w = fX7_back_39 52 (z + 1) (nI 30) w' ∧ (∀ t, i ≤ t → t < 30 → gI w' 58 t = gI w 61 t) ∧ (∀ t, t < i → gI w' 58 t = gI w 58 t) ∧ Ch (fun a _ => a = 58) w w' := by
  intro n
  induction n with
  | zero =>
    intro i fu w hS hi hf
    obtain ⟨fu, rfl⟩ : ∃ z, fu = z + 1 := ⟨fu - 1, by omega⟩
    exact ⟨w, fu, by rw [show i = 30 by omega], fun t a b => by omega, fun t a => rfl, Ch.rf⟩
  | succ n ih =>
    intro i fu w hS hi hf
    obtain ⟨fu, rfl⟩ : ∃ z, fu = z + 1 := ⟨fu - 1, by omega⟩
    have h1 : ¬ (30 : Int32) ≤ nI i := nI_ge (b := 30) (by omega) (by omega)
    have ci : (nI i).toNatClampNeg = i := nI_clamp (by omega)
    obtain ⟨w1, hw1⟩ : ∃ y, y = sI w 58 i (gI w 61 i) := ⟨_, rfl⟩
    have hw1' : sI w 58 (nI i).toNatClampNeg (gI w 61 (nI i).toNatClampNeg) = w1 := by rw [ci, hw1]
    have c1 : Ch (fun a _ => a = 58) w w1 := by rw [hw1]; exact ch_sI (P := fun a _ => a = 58) rfl
    obtain ⟨w2, z, e2, q2, q3, c2⟩ := ih (i + 1) fu w1 (c1.St hS) (by omega) (by omega)
    refine ⟨w2, z, ?_, fun t a b => ?_, fun t a => ?_, c1.tr c2⟩
    · rw [← e2, fX7_back_39]
      dsimp only
      rw [if_neg h1, dg_52_38 hS, grd_t (by rw [ln_61]; exact vin_nI (by omega) (by omega)), dg_52_10 hS, grd_t (by rw [ln_58]; exact vin_nI (by omega) (by omega)), lw_e, hw1', nI_1]
    · by_cases hti : t = i
      · subst hti
        rw [q3 t (by omega), hw1, gI_sI, if_pos ⟨rfl, rfl⟩]
      · rw [q2 t (by omega) b, c1.I (by omega)]
    · rw [q3 t (by omega), hw1, gI_sI, if_neg (by omega)]
theorem imageC {w : Wd} {m : Nat} (hS : St w) (h3 : gI w 0 3 = nI m) (m6 : m ≤ 6) : ∃ w', fX6_image 0 w = some (nI m, w') ∧ gI w' 8 0 = 1 ∧ gI w' 8 1 = gI w 0 4 ∧ gI w' 8 2 = gI w 0 7 ∧ gI w' 8 3 = nI m ∧ (∀ t, t < 8 → gI w' 9 t = gI w 1 t) ∧ (∀ j, j < m → ∀ q, q < 6 → gI w' (11 + j) q = gI w (18 + j) q) ∧ Ch (fun a b => (a = 8 ∧ b < 4) ∨ a = 9 ∨ (11 ≤ a ∧ a ≤ 16)) w w' := by
  have c0 : (0 : Int32).toNatClampNeg = 0 := by decide
  have c8 : (8 : Int32).toNatClampNeg = 8 := by decide
  obtain ⟨w1, hw1⟩ : ∃ z, z = sI (sI (sI (sI w 8 0 1) 8 1 (gI w 0 4)) 8 2 (gI w 0 7)) 8 3 (gI w 0 3) := ⟨_, rfl⟩
  have c1 : Ch (fun a b => (a = 8 ∧ b < 4) ∨ a = 9 ∨ (11 ≤ a ∧ a ≤ 16)) w w1 := by
    rw [hw1]
    exact (((ch_sI (Or.inl ⟨rfl, by omega⟩)).tr (ch_sI (Or.inl ⟨rfl, by omega⟩))).tr (ch_sI (Or.inl ⟨rfl, by omega⟩))).tr (ch_sI (Or.inl ⟨rfl, by omega⟩))
  have hS1 := c1.St hS
  obtain ⟨w2, hw2⟩ : ∃ z, z = cI w1 9 (va_cpy (gI w1 1) (gI w1 9) (0 : Int32).toNatClampNeg (0 : Int32).toNatClampNeg (8 : Int32).toNatClampNeg) := ⟨_, rfl⟩
  have c12 : Ch (fun a _ => a = 9) w1 w2 := by rw [hw2]; exact ch_cI (fun k => rfl)
  have c2 : Ch (fun a b => (a = 8 ∧ b < 4) ∨ a = 9 ∨ (11 ≤ a ∧ a ≤ 16)) w w2 := c1.tr (c12.mono (fun a b z => Or.inr (Or.inl z)))
  have hS2 := c2.St hS
  obtain ⟨w3, f3, q3, c3⟩ := imC_loop hS2 (by rw [c2.I (by omega)]; exact h3) m6 m 0 FU w2 Ch.rf (fun j hj => by omega) (by omega) (show m < 2000 by omega)
  have f3 : fX6_image_61 0 FU (0 : Int32) w2 = some (nI m, w3) := f3
  have s1 : St (sI w 8 0 1) := St_sI hS
  have s2 : St (sI (sI w 8 0 1) 8 1 (gI w 0 4)) := St_sI s1
  have s3 : St (sI (sI (sI w 8 0 1) 8 1 (gI w 0 4)) 8 2 (gI w 0 7)) := St_sI s2
  have g : ∀ b, gI w1 8 b = if b = 3 then gI w 0 3 else if b = 2 then gI w 0 7 else if b = 1 then gI w 0 4 else if b = 0 then 1 else gI w 8 b := fun b => by
    rw [hw1, gI_sI, gI_sI, gI_sI, gI_sI]
    simp only [true_and]
  have g2 : ∀ b, gI w3 8 b = gI w1 8 b := fun b => by rw [c3.I (by omega), c12.I (by omega)]
  refine ⟨w3, ?_, ?_, ?_, ?_, ?_, fun t ht => ?_, fun j hj q hq => ?_, c2.tr (c3.mono (fun a b z => Or.inr (Or.inr z)))⟩
  · have r1 : gI (sI w 8 0 1) 0 4 = gI w 0 4 := by rw [gI_sI, if_neg (by omega)]
    have r2 : gI (sI (sI w 8 0 1) 8 1 (gI w 0 4)) 0 7 = gI w 0 7 := by rw [gI_sI, if_neg (by omega), gI_sI, if_neg (by omega)]
    have r3 : gI (sI (sI (sI w 8 0 1) 8 1 (gI w 0 4)) 8 2 (gI w 0 7)) 0 3 = gI w 0 3 := by rw [gI_sI, if_neg (by omega), gI_sI, if_neg (by omega), gI_sI, if_neg (by omega)]
    unfold fX6_image
    rw [dg_0_11 hS, lw_e, dg_0_11 s1, r1, lw_e, dg_0_11 s2, r2, lw_e, dg_0_11 s3, r3, lw_e, ← hw1, dg_0_11 hS1, dg_0_0 hS1, dg_8_4 hS1, ln_1, ln_9, grd_t (by decide), lw_e, ← hw2]
    exact f3
  · rw [g2, g, if_neg (by omega), if_neg (by omega), if_neg (by omega), if_pos rfl]
  · rw [g2, g, if_neg (by omega), if_neg (by omega), if_pos rfl]
  · rw [g2, g, if_neg (by omega), if_pos rfl]
  · rw [g2, g, if_pos rfl, h3]
  · rw [c3.I (by omega), hw2, gI_cI, if_pos rfl, c0, c8]
    unfold va_cpy
    rw [if_pos ⟨by omega, by omega⟩, Nat.zero_add, Nat.sub_zero, c1.I (by omega)]
  · rw [q3 j hj q hq, c2.I (by omega)]
theorem imageM {w : Wd} {m : Nat} (hS : St w) (h11 : gI w 52 11 = nI m) : ∃ w', fX7_image 52 w = some (nI m, w') ∧ gI w' 52 39 = nI m ∧ gI w' 52 40 = gI w 52 7 ∧ gI w' 52 41 = gI w 52 4 ∧ (∀ t, t < 8 → gI w' 60 t = gI w 56 t) ∧ (∀ t, t < 30 → gI w' 61 t = gI w 58 t) ∧ Ch (fun a b => a = 60 ∨ a = 61 ∨ (a = 52 ∧ 39 ≤ b ∧ b ≤ 41)) w w' := by
  obtain ⟨w1, z1, e1, q1, -, c1⟩ := im2_loop 8 0 FU w hS (by omega) (show 8 < 2000 by omega)
  have hS1 := c1.St hS
  obtain ⟨w2, z2, e2, q2, -, c2⟩ := im28_loop 30 0 FU w1 hS1 (by omega) (show 30 < 2000 by omega)
  have hS2 := c2.St hS1
  have c12 : Ch (fun a b => a = 60 ∨ a = 61 ∨ (a = 52 ∧ 39 ≤ b ∧ b ≤ 41)) w w2 := (c1.mono (fun a b z => Or.inl z)).tr (c2.mono (fun a b z => Or.inr (Or.inl z)))
  obtain ⟨w3, hw3⟩ : ∃ z, z = sI (sI (sI w2 52 39 (nI m)) 52 40 (gI w 52 7)) 52 41 (gI w 52 4) := ⟨_, rfl⟩
  have c23 : Ch (fun a b => a = 52 ∧ 39 ≤ b ∧ b ≤ 41) w2 w3 := by
    rw [hw3]
    exact ((ch_sI ⟨rfl, by omega, by omega⟩).tr (ch_sI ⟨rfl, by omega, by omega⟩)).tr (ch_sI ⟨rfl, by omega, by omega⟩)
  have k11 : gI w2 52 11 = nI m := by rw [c12.I (by omega)]; exact h11
  have r7 : gI (sI w2 52 39 (nI m)) 52 7 = gI w 52 7 := by rw [gI_sI, if_neg (by omega), c12.I (by omega)]
  have r4 : gI (sI (sI w2 52 39 (nI m)) 52 40 (gI w 52 7)) 52 4 = gI w 52 4 := by rw [gI_sI, if_neg (by omega), gI_sI, if_neg (by omega), c12.I (by omega)]
  have r11 : gI w3 52 11 = nI m := by rw [c23.I (by omega)]; exact k11
  refine ⟨w3, ?_, ?_, ?_, ?_, fun t ht => ?_, fun t ht => ?_, c12.tr (c23.mono (fun a b z => Or.inr (Or.inr z)))⟩
  · have e1 : fX7_image_2 52 FU (0 : Int32) w = fX7_image_2 52 (z1 + 1) (nI 8) w1 := e1
    have e2 : fX7_image_28 52 FU (0 : Int32) w1 = fX7_image_28 52 (z2 + 1) (nI 30) w2 := e2
    unfold fX7_image
    rw [e1, fX7_image_2]
    dsimp only
    rw [if_pos (by decide), e2, fX7_image_28]
    dsimp only
    rw [if_pos (by decide), k11, lw_e, r7, lw_e, r4, lw_e, ← hw3, r11]
  · rw [hw3, gI_sI, if_neg (by omega), gI_sI, if_neg (by omega), gI_sI, if_pos ⟨rfl, rfl⟩]
  · rw [hw3, gI_sI, if_neg (by omega), gI_sI, if_pos ⟨rfl, rfl⟩]
  · rw [hw3, gI_sI, if_pos ⟨rfl, rfl⟩]
  · rw [c23.I (by omega), c2.I (by omega), q1 t (by omega) ht]
  · rw [c23.I (by omega), q2 t (by omega) ht, c1.I (by omega)]
theorem image_agree : Agree JJ (fX6_image 0) (fX7_image 52) := by
  rintro w ⟨m, tc, rl, tp, h⟩
  have m6 := h.m6
  obtain ⟨w1, f1, a0, a1, a2, a3, a4, a5, c1⟩ := imageC h.S h.c3 m6
  have h11 : gI w1 52 11 = nI m := by rw [c1.I (by omega)]; exact h.c11
  obtain ⟨w2, f2, b1, b2, b3, b4, b5, c2⟩ := imageM (c1.St h.S) h11
  have c : Ch (fun a b => ((a = 8 ∧ b < 4) ∨ a = 9 ∨ (11 ≤ a ∧ a ≤ 16)) ∨ (a = 60 ∨ a = 61 ∨ (a = 52 ∧ 39 ≤ b ∧ b ≤ 41))) w w2 := (c1.mono (fun a b z => Or.inl z)).tr (c2.mono (fun a b z => Or.inr z))
  refine ⟨nI m, w1, w2, f1, f2, m, tc, rl, tp, h.all c (fun a b z => by omega) ⟨m6, by rw [c.I (by omega)]; exact h.c3, by rw [c.I (by omega)]; exact h.c11⟩ ⟨h.2.2.2.1.1, by rw [c.I (by omega)]; exact h.2.2.2.1.2.1, by rw [c.I (by omega)]; exact h.2.2.2.1.2.2⟩ (by rw [c.I (by omega), c.I (by omega)]; exact h.dy) (fun k hk => by rw [c.I (by omega), c.I (by omega)]; exact h.hv k hk) (fun i hi => (h.wk i hi).ch c (fun q => ⟨by omega, by omega, by omega⟩)) (fun s hs => (h.shs s hs).ch c (fun q => ⟨by omega, by omega, by omega, by omega, by omega, by omega⟩)) (Or.inr ⟨?_, m, Nat.le_refl _, ?_, b1, ?_, ?_, ?_, ⟨rl, h.2.2.2.1.1, ?_⟩, fun t ht => ?_, fun i hi => ?_⟩)⟩
  · rw [c2.I (by omega)]; exact a0
  · rw [c2.I (by omega)]; exact a3
  · rw [c2.I (by omega), a1, b2, c1.I (by omega)]; exact h.dy.1
  · rw [c2.I (by omega), a1]; exact h.dy.2
  · rw [c2.I (by omega), a2, b3, c1.I (by omega), h.2.2.2.1.2.1, h.2.2.2.1.2.2]
  · rw [c2.I (by omega), a2]; exact h.2.2.2.1.2.1
  · rw [c2.I (by omega), a4 t ht, b4 t ht, c1.I (by omega)]; exact h.hv t ht
  · obtain ⟨x0, x1, x2⟩ := Wk_iff.mp (h.wk i hi)
    refine Wk_iff.mpr ⟨?_, ?_, fun q hq => ?_⟩
    · rw [c2.I (by omega), a5 i hi 0 (by omega), c.I (by omega)]; exact x0
    · rw [c2.I (by omega), a5 i hi 0 (by omega)]; exact x1
    · rw [c2.I (by omega), a5 i hi (q + 1) (by omega), b5 (5 * i + q) (by omega), c1.I (by omega)]; exact x2 q hq
theorem backC {w : Wd} {m : Nat} (hS : St w) (h80 : gI w 8 0 = 1) (h83 : gI w 8 3 = nI m) (m6 : m ≤ 6) : ∃ w', fX6_back 0 w = some (nI m, w') ∧ gI w' 0 3 = nI m ∧ gI w' 0 4 = gI w 8 1 ∧ gI w' 0 7 = gI w 8 2 ∧ (∀ t, t < 8 → gI w' 1 t = gI w 9 t) ∧ (∀ j, j < m → ∀ q, q < 6 → gI w' (18 + j) q = gI w (11 + j) q) ∧ Ch (fun a b => (a = 0 ∧ (b = 3 ∨ b = 4 ∨ b = 7)) ∨ a = 1 ∨ (18 ≤ a ∧ a < 24)) w w' := by
  have c0 : (0 : Int32).toNatClampNeg = 0 := by decide
  have c8 : (8 : Int32).toNatClampNeg = 8 := by decide
  obtain ⟨w1, hw1⟩ : ∃ z, z = sI (sI (sI w 0 4 (gI w 8 1)) 0 7 (gI w 8 2)) 0 3 (gI w 8 3) := ⟨_, rfl⟩
  have c1 : Ch (fun a b => (a = 0 ∧ (b = 3 ∨ b = 4 ∨ b = 7)) ∨ a = 1 ∨ (18 ≤ a ∧ a < 24)) w w1 := by
    rw [hw1]
    exact ((ch_sI (Or.inl ⟨rfl, by omega⟩)).tr (ch_sI (Or.inl ⟨rfl, by omega⟩))).tr (ch_sI (Or.inl ⟨rfl, by omega⟩))
  have hS1 := c1.St hS
  obtain ⟨w2, hw2⟩ : ∃ z, z = cI w1 1 (va_cpy (gI w1 9) (gI w1 1) (0 : Int32).toNatClampNeg (0 : Int32).toNatClampNeg (8 : Int32).toNatClampNeg) := ⟨_, rfl⟩
  have c12 : Ch (fun a _ => a = 1) w1 w2 := by rw [hw2]; exact ch_cI (fun k => rfl)
  have c2 : Ch (fun a b => (a = 0 ∧ (b = 3 ∨ b = 4 ∨ b = 7)) ∨ a = 1 ∨ (18 ≤ a ∧ a < 24)) w w2 := c1.tr (c12.mono (fun a b z => Or.inr (Or.inl z)))
  have hS2 := c2.St hS
  have k3 : gI w2 0 3 = nI m := by rw [c12.I (by omega), hw1, gI_sI, if_pos ⟨rfl, rfl⟩]; exact h83
  obtain ⟨w3, f3, q3, c3⟩ := baC_loop hS2 k3 m6 m 0 FU w2 Ch.rf (fun j hj => by omega) (by omega) (show m < 2000 by omega)
  have f3 : fX6_back_66 0 FU (0 : Int32) w2 = some (nI m, w3) := f3
  have s1 : St (sI w 0 4 (gI w 8 1)) := St_sI hS
  have s2 : St (sI (sI w 0 4 (gI w 8 1)) 0 7 (gI w 8 2)) := St_sI s1
  refine ⟨w3, ?_, ?_, ?_, ?_, fun t ht => ?_, fun j hj q hq => ?_, c2.tr (c3.mono (fun a b z => Or.inr (Or.inr z)))⟩
  · have r2 : gI (sI w 0 4 (gI w 8 1)) 8 2 = gI w 8 2 := by rw [gI_sI, if_neg (by omega)]
    have r3 : gI (sI (sI w 0 4 (gI w 8 1)) 0 7 (gI w 8 2)) 8 3 = gI w 8 3 := by rw [gI_sI, if_neg (by omega), gI_sI, if_neg (by omega)]
    unfold fX6_back
    rw [dg_0_11 hS, h80, if_neg (by decide), dg_0_11 hS, lw_e, dg_0_11 s1, r2, lw_e, dg_0_11 s2, r3, lw_e, ← hw1, dg_0_11 hS1, dg_8_4 hS1, dg_0_0 hS1, ln_1, ln_9, grd_t (by decide), lw_e, ← hw2]
    exact f3
  · rw [c3.I (by omega)]; exact k3
  · rw [c3.I (by omega), c12.I (by omega), hw1, gI_sI, if_neg (by omega), gI_sI, if_neg (by omega), gI_sI, if_pos ⟨rfl, rfl⟩]
  · rw [c3.I (by omega), c12.I (by omega), hw1, gI_sI, if_neg (by omega), gI_sI, if_pos ⟨rfl, rfl⟩]
  · rw [c3.I (by omega), hw2, gI_cI, if_pos rfl, c0, c8]
    unfold va_cpy
    rw [if_pos ⟨by omega, by omega⟩, Nat.zero_add, Nat.sub_zero, c1.I (by omega)]
  · rw [q3 j hj q hq, c2.I (by omega)]
theorem backM {w : Wd} {m : Nat} (hS : St w) (h39 : gI w 52 39 = nI m) (m6 : m ≤ 6) : ∃ w', fX7_back 52 w = some (nI m, w') ∧ gI w' 52 11 = nI m ∧ gI w' 52 7 = gI w 52 40 ∧ gI w' 52 4 = gI w 52 41 ∧ (∀ t, t < 8 → gI w' 56 t = gI w 60 t) ∧ (∀ t, t < 30 → gI w' 58 t = gI w 61 t) ∧ Ch (fun a b => a = 56 ∨ a = 58 ∨ (a = 52 ∧ (b = 11 ∨ b = 7 ∨ b = 4))) w w' := by
  obtain ⟨w1, z1, e1, q1, -, c1⟩ := ba13_loop 8 0 FU w hS (by omega) (show 8 < 2000 by omega)
  have hS1 := c1.St hS
  obtain ⟨w2, z2, e2, q2, -, c2⟩ := ba39_loop 30 0 FU w1 hS1 (by omega) (show 30 < 2000 by omega)
  have hS2 := c2.St hS1
  have c12 : Ch (fun a b => a = 56 ∨ a = 58 ∨ (a = 52 ∧ (b = 11 ∨ b = 7 ∨ b = 4))) w w2 := (c1.mono (fun a b z => Or.inl z)).tr (c2.mono (fun a b z => Or.inr (Or.inl z)))
  obtain ⟨w3, hw3⟩ : ∃ z, z = sI (sI (sI w2 52 11 (nI m)) 52 7 (gI w 52 40)) 52 4 (gI w 52 41) := ⟨_, rfl⟩
  have c23 : Ch (fun a b => a = 52 ∧ (b = 11 ∨ b = 7 ∨ b = 4)) w2 w3 := by
    rw [hw3]
    exact ((ch_sI ⟨rfl, by omega⟩).tr (ch_sI ⟨rfl, by omega⟩)).tr (ch_sI ⟨rfl, by omega⟩)
  have k39 : gI w2 52 39 = nI m := by rw [c12.I (by omega)]; exact h39
  have r7 : gI (sI w2 52 11 (nI m)) 52 40 = gI w 52 40 := by rw [gI_sI, if_neg (by omega), c12.I (by omega)]
  have r4 : gI (sI (sI w2 52 11 (nI m)) 52 7 (gI w 52 40)) 52 41 = gI w 52 41 := by rw [gI_sI, if_neg (by omega), gI_sI, if_neg (by omega), c12.I (by omega)]
  have r11 : gI w3 52 11 = nI m := by rw [hw3, gI_sI, if_neg (by omega), gI_sI, if_neg (by omega), gI_sI, if_pos ⟨rfl, rfl⟩]
  refine ⟨w3, ?_, r11, ?_, ?_, fun t ht => ?_, fun t ht => ?_, c12.tr (c23.mono (fun a b z => Or.inr (Or.inr z)))⟩
  · have e1 : fX7_back_13 52 FU (0 : Int32) w = fX7_back_13 52 (z1 + 1) (nI 8) w1 := e1
    have e2 : fX7_back_39 52 FU (0 : Int32) w1 = fX7_back_39 52 (z2 + 1) (nI 30) w2 := e2
    unfold fX7_back
    rw [h39, if_neg (m1_nI (by omega)), e1, fX7_back_13]
    dsimp only
    rw [if_pos (by decide), e2, fX7_back_39]
    dsimp only
    rw [if_pos (by decide), k39, lw_e, r7, lw_e, r4, lw_e, ← hw3, r11]
  · rw [hw3, gI_sI, if_neg (by omega), gI_sI, if_pos ⟨rfl, rfl⟩]
  · rw [hw3, gI_sI, if_pos ⟨rfl, rfl⟩]
  · rw [c23.I (by omega), c2.I (by omega), q1 t (by omega) ht]
  · rw [c23.I (by omega), q2 t (by omega) ht, c1.I (by omega)]
theorem back_agree : Agree JJ (fX6_back 0) (fX7_back 52) := by
  rintro w ⟨m, tc, rl, tp, h⟩
  have m6 := h.m6
  rcases h.2.2.2.2.2.2.2.2.2.2 with ⟨g1, g2⟩ | ⟨g1, k, y1, y2, y3, y4, y5, y6, ⟨r, hr, y7⟩, y8, y9⟩
  · refine ⟨-3, w, w, ?_, ?_, m, tc, rl, tp, h⟩
    · unfold fX6_back
      rw [dg_0_11 h.S, g1, if_pos rfl]
    · unfold fX7_back
      rw [g2, if_pos rfl]
  · obtain ⟨w1, f1, a3, a1, a2, a4, a5, c1⟩ := backC h.S g1 y2 (by omega)
    have h39 : gI w1 52 39 = nI k := by rw [c1.I (by omega)]; exact y3
    obtain ⟨w2, f2, b1, b2, b3, b4, b5, c2⟩ := backM (c1.St h.S) h39 (by omega)
    have c : Ch (fun a b => ((a = 0 ∧ (b = 3 ∨ b = 4 ∨ b = 7)) ∨ a = 1 ∨ (18 ≤ a ∧ a < 24)) ∨ (a = 56 ∨ a = 58 ∨ (a = 52 ∧ (b = 11 ∨ b = 7 ∨ b = 4)))) w w2 := (c1.mono (fun a b z => Or.inl z)).tr (c2.mono (fun a b z => Or.inr z))
    refine ⟨nI k, w1, w2, f1, f2, k, tc, r, tp, h.all c (fun a b z => by omega) ⟨by omega, by rw [c2.I (by omega)]; exact a3, b1⟩ ⟨hr, ?_, ?_⟩ ⟨?_, ?_⟩ (fun t ht => ?_) (fun i hi => ?_) (fun s hs => (h.shs s hs).ch c (fun q => ⟨by omega, by omega, by omega, by omega, by omega, by omega⟩)) (Or.inr ⟨?_, k, Nat.le_refl _, ?_, ?_, ?_, ?_, ?_, ⟨r, hr, ?_⟩, fun t ht => ?_, fun i hi => (y9 i hi).ch c (fun q => ⟨by omega, by omega, by omega⟩)⟩)⟩
    · rw [c2.I (by omega), a2]; exact y7
    · rw [b3, c1.I (by omega), ← y6]; exact y7
    · rw [c2.I (by omega), a1, b2, c1.I (by omega)]; exact y4
    · rw [c2.I (by omega), a1]; exact y5
    · rw [c2.I (by omega), a4 t ht, b4 t ht, c1.I (by omega)]; exact y8 t ht
    · obtain ⟨x0, x1, x2⟩ := Wk_iff.mp (y9 i hi)
      refine Wk_iff.mpr ⟨?_, ?_, fun q hq => ?_⟩
      · rw [c2.I (by omega), a5 i hi 0 (by omega), c.I (by omega)]; exact x0
      · rw [c2.I (by omega), a5 i hi 0 (by omega)]; exact x1
      · rw [c2.I (by omega), a5 i hi (q + 1) (by omega), b5 (5 * i + q) (by omega), c1.I (by omega)]; exact x2 q hq
    · rw [c.I (by omega)]; exact g1
    · rw [c.I (by omega)]; exact y2
    · rw [c.I (by omega)]; exact y3
    · rw [c.I (by omega), c.I (by omega)]; exact y4
    · rw [c.I (by omega)]; exact y5
    · rw [c.I (by omega), c.I (by omega)]; exact y6
    · rw [c.I (by omega)]; exact y7
    · rw [c.I (by omega), c.I (by omega)]; exact y8 t ht
