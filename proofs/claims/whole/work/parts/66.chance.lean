/-! chances -/
theorem he_iff {ev : Ev} : ∀ (n i : Nat) (th : Nat → Int32), i + n < 2 ^ 31 → (heS ev n th = 0 ↔ (fiS ev n i th = -1 ∧ fsS ev n i th = -1))
  | 0, i, th, _ => by
    unfold heS fiS fsS
    simp
  | n + 1, i, th, h => by
    rw [heS, fiS, fsS]
    by_cases hg : goI ev th = 0
    · rw [if_pos hg, if_pos hg]
      constructor
      · intro z
        exact absurd z (by decide)
      · intro z
        exact absurd z.2 (m1_nI (by omega))
    · rw [if_neg hg, if_neg hg]
      by_cases hs : sockS ev (dayS ev th) = 0
      · rw [if_pos hs, if_pos hs]
        exact he_iff n (i + 1) (dayS ev th) (by omega)
      · rw [if_neg hs, if_neg hs]
        constructor
        · intro z
          exact absurd z (by decide)
        · intro z
          exact absurd z.1 (m1_nI (by omega))
def ehS (g : Nat → Int32) : Nat → Nat → Int32
  | 0, _ => 1
  | n + 1, i => if g i = 0 then 0 else ehS g n (i + 1)
theorem ehC_loop {m tc rl tp : Nat} {ev : Ev} {w : Wd} (h : Jn w m tc rl tp) (hr : Ru w rl ev) {H : Nat → Int32} (hH : ∀ t, t < 8 → gI w 2 t = H t) : ∀ (n i fu : Nat) (w2 : Wd), Ch PT w w2 → i + n = m → n < fu → ∃ w', fX6_eachIsHeldUp_2 0 fu (nI i) w2 = some (ehS (fun j => heS ev 10 (thY w H j (gI w 58 (5 * j + 2)))) n i, w') ∧ Ch PT w w' := by
  have m6 := h.m6
  intro n
  induction n with
  | zero =>
    intro i fu w2 c hi hf
    obtain ⟨fu, rfl⟩ : ∃ z, fu = z + 1 := ⟨fu - 1, by omega⟩
    have h1 : nI m ≤ nI i := nI_le (by omega) (by omega)
    refine ⟨w2, ?_, c⟩
    rw [fX6_eachIsHeldUp_2]
    dsimp only
    rw [c.I (by unfold PT; omega), h.c3, if_pos h1]
    rfl
  | succ n ih =>
    intro i fu w2 c hi hf
    obtain ⟨fu, rfl⟩ : ∃ z, fu = z + 1 := ⟨fu - 1, by omega⟩
    have h1 : ¬ nI m ≤ nI i := nI_ge (by omega) (by omega)
    have h2 := h.ch (c.mono PT_SC)
    have hS2 := h2.S
    obtain ⟨w4, f4, tc4, c4⟩ := thinkOth_ev (hr.ch c (fun i k z => by unfold PT at z; omega)) (i := i) (by omega)
    have et : gI w2 (18 + i) 3 = gI w 58 (5 * i + 2) := by rw [c.I (by unfold PT; omega)]; exact h.told (by omega)
    rw [(h2.thy (show i < m by omega) (g := gI w2 2) (H := H) (fun t ht => by rw [c.I (by unfold PT; omega)]; exact hH t ht) _).1, thY_ch c (fun i k z => by unfold PT at z; omega), et] at tc4
    obtain ⟨w5, f5, c5⟩ := he_ev tc4
    have c6 : Ch PT w w5 := c.tr (c4.tr (c5.mono PD_PT))
    rw [fX6_eachIsHeldUp_2]
    dsimp only
    rw [c.I (by unfold PT; omega), h.c3, if_neg h1, dg_0_2 hS2, grd_t (by rw [ln_3]; exact vin_nI (by omega) (by omega)), st_wkc hS2 (by omega), f4, bnd_s, dg_0_9 tc4.1, f5, bnd_s, nI_1, ehS]
    by_cases hk : heS ev 10 (thY w H i (gI w 58 (5 * i + 2))) = 0
    · rw [if_pos hk, if_pos hk]
      exact ⟨w5, rfl, c6⟩
    · rw [if_neg hk, if_neg hk]
      exact ih (i + 1) fu w5 c6 (by omega) (by omega)
def chN (G : Int32 → Int32) (sd : Int32) : Nat → Nat → Nat → Nat
  | 0, _, k => k
  | n + 1, i, k => chN G sd n (i + 1) (if G (sd + nI i) = 0 then k else k + 1)
theorem chN_le {G : Int32 → Int32} {sd : Int32} : ∀ n i k, chN G sd n i k ≤ k + n
  | 0, _, _ => Nat.le_refl _
  | n + 1, i, k => by
    rw [chN]
    have := chN_le (G := G) (sd := sd) n (i + 1) (if G (sd + nI i) = 0 then k else k + 1)
    by_cases h : G (sd + nI i) = 0
    · rw [if_pos h] at this ⊢; omega
    · rw [if_neg h] at this ⊢; omega
/-- whether each is held up, by the weights of a seed -/
def seedS (ev : Ev) (w : Wd) (m : Nat) (s : Int32) : Int32 := ehS (fun j => heS ev 10 (thY w (drH s) j (gI w 58 (5 * j + 2)))) m 0
theorem seedS_ch {P : Nat → Nat → Prop} {ev : Ev} {w w' : Wd} {m : Nat} (c : Ch P w w') (hP : ∀ i k, P i k → i ≠ 57 ∧ i ≠ 58 ∧ ¬ (i = 52 ∧ k = 7)) (s : Int32) : seedS ev w' m s = seedS ev w m s := by
  have e58 : ∀ k, gI w' 58 k = gI w 58 k := fun k => c.I (fun z => (hP _ _ z).2.1 rfl)
  have eY : ∀ H j told, thY w' H j told = thY w H j told := fun H j told => thY_ch c hP H j told
  unfold seedS
  simp only [e58, eY]
theorem chC_loop {m tc rl tp M : Nat} {ev : Ev} {w : Wd} {sd x3 : Int32} (h : Jn w m tc rl tp) (hr : Ru w rl ev) (hM : M ≤ 20) : ∀ (n i fu k : Nat) (w2 : Wd), Ch SC w w2 → i + n = M → n < fu → ∃ w' z, fX6_chance_29 0 fu sd (nI M) x3 (nI k) (nI i) w2 = fX6_chance_29 0 (z + 1) sd (nI M) x3 (nI (chN (seedS ev w m) sd n i k)) (nI M) w' ∧ Ch SC w w' := by
  have m6 := h.m6
  intro n
  induction n with
  | zero =>
    intro i fu k w2 c hi hf
    obtain ⟨fu, rfl⟩ : ∃ z, fu = z + 1 := ⟨fu - 1, by omega⟩
    exact ⟨w2, fu, by rw [show i = M by omega, chN], c⟩
  | succ n ih =>
    intro i fu k w2 c hi hf
    obtain ⟨fu, rfl⟩ : ∃ z, fu = z + 1 := ⟨fu - 1, by omega⟩
    have h1 : ¬ nI M ≤ nI i := nI_ge (by omega) (by omega)
    obtain ⟨w3, f3, q3, c3⟩ := drC_ev (c.St h.S) (sd + nI i)
    have c3' : Ch SC w w3 := c.tr (c3.mono (fun i k z => Or.inl z))
    have h3 := h.ch c3'
    obtain ⟨w4, f4, c4⟩ := ehC_loop (H := drH (sd + nI i)) h3 (hr.ch c3' (fun i k z => by unfold SC at z; omega)) q3 m 0 FU w3 Ch.rf (by omega) (show m < 2000 by omega)
    have f4 : fX6_eachIsHeldUp_2 0 FU (nI 0) w3 = some (seedS ev w3 m (sd + nI i), w4) := f4
    rw [seedS_ch c3' (fun i k z => by unfold SC at z; omega)] at f4
    have f4 : fX6_eachIsHeldUp 0 w3 = some (seedS ev w m (sd + nI i), w4) := f4
    have c5 := c3'.tr (c4.mono PT_SC)
    have nk : nI k + (if seedS ev w m (sd + nI i) = 0 then (0 : Int32) else 1) = nI (if seedS ev w m (sd + nI i) = 0 then k else k + 1) := by
      by_cases hz : seedS ev w m (sd + nI i) = 0
      · rw [if_pos hz, if_pos hz, Int32.add_zero]
      · rw [if_neg hz, if_neg hz, nI_1]
    obtain ⟨w6, z, e6, c6⟩ := ih (i + 1) fu (if seedS ev w m (sd + nI i) = 0 then k else k + 1) w4 c5 (by omega) (by omega)
    refine ⟨w6, z, ?_, c6⟩
    rw [chN, ← e6]
    have step : fX6_chance_29 0 (fu + 1) sd (nI M) x3 (nI k) (nI i) w2 = fX6_chance_29 0 fu sd (nI M) x3 (nI (if seedS ev w m (sd + nI i) = 0 then k else k + 1)) (nI (i + 1)) w4 := by
      rw [fX6_chance_29]
      dsimp only
      rw [if_neg h1, f3, bnd_s, f4, bnd_s, bit_ev, bnd_s, lt_e, nk, nI_1]
    exact step
theorem chM_in {m tc rl tp : Nat} {ev : Ev} {w w2 : Wd} {H : Nat → Int32} {K : Int32 → Int32 → Int32 → Int64 → Int32 → Wd → Option (Int64 × Wd)} {x1 x2 x3 x6 : Int32} {l4 : Int64} (h : Jn w m tc rl tp) (hr : Rm w rl ev) (c0 : Ch PH w w2) (hH : ∀ t, t < 8 → gI w2 56 t = H t) : ∀ (n i fu : Nat) (w3 : Wd), Ch PM w2 w3 → i + n = m → n + 1 < fu → ∃ w', fX7_chance_52 K 52 fu x1 x2 x3 l4 x6 1 (nI i) w3 = fX7_chance_103 K 52 x1 x2 x3 l4 x6 (ehS (fun j => heS ev 10 (thY w H j (gI w 58 (5 * j + 2)))) n i) w' ∧ Ch PM w2 w' := by
  have m6 := h.m6
  intro n
  induction n with
  | zero =>
    intro i fu w3 c hi hf
    obtain ⟨fu, rfl⟩ : ∃ z, fu = z + 1 := ⟨fu - 1, by omega⟩
    have h1 : nI m ≤ nI i := nI_le (by omega) (by omega)
    refine ⟨w3, ?_, c⟩
    rw [fX7_chance_52]
    dsimp only
    rw [c.I (by unfold PM; omega), c0.I (by unfold PH; omega), h.c11, if_pos h1]
    rfl
  | succ n ih =>
    intro i fu w3 c hi hf
    obtain ⟨fu, rfl⟩ : ∃ z, fu = z + 1 := ⟨fu - 1, by omega⟩
    have h1 : ¬ nI m ≤ nI i := nI_ge (by omega) (by omega)
    have c3 : Ch (fun a k => PH a k ∨ PM a k) w w3 := (c0.mono (fun a k z => Or.inl z)).tr (c.mono (fun a k z => Or.inr z))
    have q : ∀ {a k : Nat}, ((a = 52 ∧ k < 12) ∨ a = 57 ∨ a = 58) → gI w3 a k = gI w a k := fun hk => c3.I (fun z => by unfold PH PM at z; omega)
    have et : thM w3 i = thY w H i (gI w 58 (5 * i + 2)) := thM_thY (fun t ht => by rw [c.I (by unfold PM; omega)]; exact hH t ht) (q (by omega)) (fun _ _ _ => q (by omega)) (q (by omega)) (q (by omega))
    have hRT : RT (thM w3 i) := by rw [et]; exact (h.thy (show i < m by omega) (fun t _ => rfl) _).2
    obtain ⟨w4, f4, g2, g3, -, -, c4⟩ := lives_ev (n := 10) (hr.ch c3 (fun a k z => by unfold PH PM at z; omega)) (p := i) (by omega) hRT (by omega)
    have f4 : fX7_lives 52 (nI i) (10 : Int32) w3 = some ((), w4) := f4
    rw [et] at g2 g3
    have c5 : Ch PM w2 w4 := c.tr (c4.mono (fun a k z => by unfold PL at z; unfold PM; omega))
    have hx1 : ¬ (1 : Int32) = 0 := by decide
    have hiff := he_iff (ev := ev) 10 0 (thY w H i (gI w 58 (5 * i + 2))) (by omega)
    rw [fX7_chance_52]
    dsimp only
    rw [c.I (by unfold PM; omega), c0.I (by unfold PH; omega), h.c11, if_neg h1, if_neg hx1, f4, bnd_s, g2, g3]
    unfold fX7_chance_90 fX7_chance_95
    rw [nI_1, ehS]
    have on : ¬ heS ev 10 (thY w H i (gI w 58 (5 * i + 2))) = 0 → ∃ w', fX7_chance_52 K 52 fu x1 x2 x3 l4 x6 1 (nI (i + 1)) w4 = fX7_chance_103 K 52 x1 x2 x3 l4 x6 (if heS ev 10 (thY w H i (gI w 58 (5 * i + 2))) = 0 then 0 else ehS (fun j => heS ev 10 (thY w H j (gI w 58 (5 * j + 2)))) n (i + 1)) w' ∧ Ch PM w2 w' := by
      intro hk
      rw [if_neg hk]
      exact ih (i + 1) fu w4 c5 (by omega) (by omega)
    by_cases k1 : fiS ev 10 0 (thY w H i (gI w 58 (5 * i + 2))) = -1
    · rw [if_pos k1]
      by_cases k2 : fsS ev 10 0 (thY w H i (gI w 58 (5 * i + 2))) = -1
      · have hk := hiff.mpr ⟨k1, k2⟩
        rw [if_pos k2, if_pos hk]
        obtain ⟨fu, rfl⟩ : ∃ z, fu = z + 1 := ⟨fu - 1, by omega⟩
        refine ⟨w4, ?_, c5⟩
        rw [fX7_chance_52]
        dsimp only
        by_cases hm : gI w4 52 11 ≤ nI (i + 1)
        · rw [if_pos hm]
        · rw [if_neg hm, if_pos rfl]
      · rw [if_neg k2]
        exact on (fun z => k2 (hiff.mp z).2)
    · rw [if_neg k1]
      exact on (fun z => k1 (hiff.mp z).1)
theorem l1 : ∀ k, k < 21 → (nI k).toInt64 + 1 = (nI (k + 1)).toInt64 := by decide +kernel
theorem chM_loop {m tc rl tp M : Nat} {ev : Ev} {w : Wd} {sd x3 : Int32} (h : Jn w m tc rl tp) (hr : Rm w rl ev) (hM : M ≤ 20) : ∀ (n i fu k : Nat) (w2 : Wd), Ch SC w w2 → i + n = M → n < fu → k ≤ i → ∃ w' z, fX7_chance_32 52 fu sd (nI M) x3 (nI k).toInt64 (nI i) w2 = fX7_chance_32 52 (z + 1) sd (nI M) x3 (nI (chN (seedS ev w m) sd n i k)).toInt64 (nI M) w' ∧ Ch SC w w' := by
  have m6 := h.m6
  intro n
  induction n with
  | zero =>
    intro i fu k w2 c hi hf hk
    obtain ⟨fu, rfl⟩ : ∃ z, fu = z + 1 := ⟨fu - 1, by omega⟩
    exact ⟨w2, fu, by rw [show i = M by omega, chN], c⟩
  | succ n ih =>
    intro i fu k w2 c hi hf hk
    obtain ⟨fu, rfl⟩ : ∃ z, fu = z + 1 := ⟨fu - 1, by omega⟩
    have h1 : ¬ nI M ≤ nI i := nI_ge (by omega) (by omega)
    have h2 := h.ch c
    have r2 := hr.ch c (fun i k z => by unfold SC at z; omega)
    obtain ⟨w3, f3, q3, c3⟩ := drM_ev h2.S (sd + nI i)
    obtain ⟨w4, f4, c4⟩ := chM_in (K := fX7_chance_32 52 fu) (x1 := sd) (x2 := nI M) (x3 := x3) (x6 := nI i) (l4 := (nI k).toInt64) (H := drH (sd + nI i)) h2 r2 c3 (fun t ht => (q3 t ht).1) m 0 FU w3 Ch.rf (by omega) (show m + 1 < 2000 by omega)
    have f4 : fX7_chance_52 (fX7_chance_32 52 fu) 52 FU sd (nI M) x3 (nI k).toInt64 (nI i) 1 (0 : Int32) w3 = fX7_chance_103 (fX7_chance_32 52 fu) 52 sd (nI M) x3 (nI k).toInt64 (nI i) (seedS ev w2 m (sd + nI i)) w4 := f4
    rw [seedS_ch c (fun i k z => by unfold SC at z; omega)] at f4
    obtain ⟨w5, f5, q5, c5⟩ := lbM_ev (c4.St (c3.St h2.S))
    have cb := c.tr (drM_back c3 q3 c4 q5 c5)
    obtain ⟨w6, z, e6, c6⟩ := ih (i + 1) fu (if seedS ev w m (sd + nI i) = 0 then k else k + 1) w5 cb (by omega) (by omega) (by split <;> omega)
    refine ⟨w6, z, ?_, c6⟩
    rw [chN, ← e6]
    have step : fX7_chance_32 52 (fu + 1) sd (nI M) x3 (nI k).toInt64 (nI i) w2 = fX7_chance_32 52 fu sd (nI M) x3 (nI (if seedS ev w m (sd + nI i) = 0 then k else k + 1)).toInt64 (nI (i + 1)) w5 := by
      rw [fX7_chance_32]
      dsimp only
      rw [if_neg h1, f3, bnd_s, f4]
      unfold fX7_chance_103 fX7_chance_115
      rw [f5, bnd_s, bnd_s, nI_1, Int64.add_zero, l1 k (by omega)]
      by_cases hz : seedS ev w m (sd + nI i) = 0
      · rw [if_pos hz, if_pos hz]
      · rw [if_neg hz, if_neg hz]
    exact step
/-- both ways to the greatest common divisor, without a world -/
def cdP : Nat → Int32 → Int32 → Int32 → Option Int32
  | 0 => fun _ _ _ => none
  | n + 1 => fun x2 x3 x4 => if (20 : Int32) ≤ x4 then some x2 else if x3 ≤ 0 then some x2 else if x3 = 0 then none else cdP n x3 (x2 - x2 / x3 * x3) (x4 + 1)
def gcP : Nat → Int64 → Int64 → Option Int64
  | 0 => fun _ _ => none
  | n + 1 => fun l6 l8 => if lg_cmp l8 (0 : Int64) = 0 then some l6 else if l8 = 0 then none else gcP n l8 (l6 - l6 / l8 * l8)
theorem cdP_ev {w : Wd} {r : Int32} : ∀ (n : Nat) (x2 x3 x4 : Int32), cdP n x2 x3 x4 = some r → fX6_commonDivisor_7 n x2 x3 x4 w = some (r, w)
  | 0, _, _, _, h => by
    rw [cdP] at h
    cases h
  | n + 1, x2, x3, x4, h => by
    rw [cdP] at h
    dsimp only at h
    rw [fX6_commonDivisor_7]
    dsimp only
    unfold fX6_commonDivisor_34
    by_cases a : (20 : Int32) ≤ x4
    · rw [if_pos a] at h ⊢
      rw [Option.some.inj h]
    · rw [if_neg a] at h ⊢
      by_cases b : x3 ≤ 0
      · rw [if_pos b] at h ⊢
        rw [Option.some.inj h]
      · rw [if_neg b] at h ⊢
        by_cases d : x3 = 0
        · rw [if_pos d] at h
          cases h
        · rw [if_neg d] at h
          rw [grd_t d, lt_e]
          exact cdP_ev n _ _ _ h
theorem gcP_ev {w : Wd} {r : Int64} {x2 x3 : Int32} {l4 : Int64} : ∀ (n : Nat) (l6 l8 : Int64), gcP n l6 l8 = some r → fX7_chance_136 52 n x2 x3 l4 l6 l8 w = (if x3 = 0 then grd (¬ r = 0) (some (l4 / r, w)) else grd (¬ r = 0) (some ((x2.toInt64) / r, w)))
  | 0, _, _, h => by
    rw [gcP] at h
    cases h
  | n + 1, l6, l8, h => by
    rw [gcP] at h
    dsimp only at h
    rw [fX7_chance_136]
    dsimp only
    by_cases a : lg_cmp l8 (0 : Int64) = 0
    · rw [if_pos a] at h ⊢
      rw [Option.some.inj h]
    · rw [if_neg a] at h ⊢
      by_cases d : l8 = 0
      · rw [if_pos d] at h
        cases h
      · rw [if_neg d] at h
        rw [grd_t d]
        exact gcP_ev n _ _ h
theorem cd_all : ∀ M, M < 20 → ∀ k, k < 21 → cdP 2000 (nI (M + 1)) (nI k) 0 = some (nI (Nat.gcd k (M + 1))) := by decide +kernel
theorem gc_all : ∀ M, M < 20 → ∀ k, k < 21 → gcP 2000 (nI k).toInt64 (nI (M + 1)).toInt64 = some (nI (Nat.gcd k (M + 1))).toInt64 := by decide +kernel
theorem dv_all : ∀ M, M < 20 → ∀ k, k < 21 → (1 : Int32) ≤ nI (Nat.gcd k (M + 1)) ∧ ¬ nI (Nat.gcd k (M + 1)) = 0 ∧ ¬ (nI (Nat.gcd k (M + 1))).toInt64 = 0 ∧ (nI k / nI (Nat.gcd k (M + 1))).toInt64 = (nI k).toInt64 / (nI (Nat.gcd k (M + 1))).toInt64 ∧ (nI (M + 1) / nI (Nat.gcd k (M + 1))).toInt64 = (nI (M + 1)).toInt64 / (nI (Nat.gcd k (M + 1))).toInt64 := by decide +kernel
theorem chance_agree (a0 a1 a2 : Int32) : Agree JJ (fX6_chance 0 a0 a1 a2) (fX7_chance 52 a0 a1 a2) := by
  rintro w ⟨m, tc, rl, tp, h⟩
  have e20 : (20 : Int32).toInt64 = (20 : Int64) := by decide
  have e1 : (1 : Int32).toInt64 = (1 : Int64) := by decide
  have J : JJ w := ⟨m, tc, rl, tp, h⟩
  have inM : ∀ u : Wd, fX7_in a1.toInt64 (1 : Int64) (20 : Int64) u = some (if 1 ≤ a1 ∧ a1 ≤ (20 : Int32) then 1 else 0, u) := fun u => by
    rw [← e20, ← e1, in32]
  by_cases hd : 1 ≤ a1 ∧ a1 ≤ (20 : Int32)
  · by_cases hs : 0 ≤ a2 ∧ a2 ≤ (1 : Int32)
    · have h0 : 0 ≤ a1 := by
        have a := Int32.le_iff_toInt_le.mp hd.1
        have b : (1 : Int32).toInt = 1 := by decide
        have c : (0 : Int32).toInt = 0 := by decide
        exact Int32.le_iff_toInt_le.mpr (by omega)
      obtain ⟨M, hM, rfl⟩ := (in0n (n := 20) (by omega)).mp ⟨h0, hd.2⟩
      obtain ⟨M, rfl⟩ : ∃ z, M = z + 1 := ⟨M - 1, by
        have : ¬ M = 0 := fun z => by
          rw [z] at hd
          exact absurd hd.1 (by decide)
        omega⟩
      obtain ⟨ev, r1, r2⟩ := h.ru
      obtain ⟨w1, z1, e5, c1⟩ := chC_loop (sd := a0) (x3 := a2) h r1 hM (M + 1) 0 FU 0 w Ch.rf (by omega) (show M + 1 < 2000 by omega)
      have h1 := h.ch c1
      obtain ⟨w2, z2, e6, c2⟩ := chM_loop (sd := a0) (x3 := a2) h1 (r2.ch c1 (fun i k z => by unfold SC at z; omega)) hM (M + 1) 0 FU 0 w1 Ch.rf (by omega) (show M + 1 < 2000 by omega) (by omega)
      have eG : (seedS ev w1 m) = seedS ev w m := funext (fun s => seedS_ch c1 (fun i k z => by unfold SC at z; omega) s)
      rw [eG] at e6
      obtain ⟨K, hK⟩ : ∃ K, K = chN (seedS ev w m) a0 (M + 1) 0 0 := ⟨_, rfl⟩
      have hKl : K ≤ M + 1 := by
        have := chN_le (G := seedS ev w m) (sd := a0) (M + 1) 0 0
        omega
      rw [← hK] at e5 e6
      obtain ⟨d1, d2, d3, d4, d5⟩ := dv_all M (by omega) K (by omega)
      have hMM : nI (M + 1) ≤ nI (M + 1) := nI_le (Nat.le_refl _) (by omega)
      have cdv := cdP_ev (w := w1) 2000 _ _ _ (cd_all M (by omega) K (by omega))
      have gcv := gcP_ev (w := w2) (x2 := nI (M + 1)) (x3 := a2) (l4 := (nI K).toInt64) 2000 _ _ (gc_all M (by omega) K (by omega))
      have cdv : fX6_commonDivisor (nI K) (nI (M + 1)) w1 = some (nI (Nat.gcd K (M + 1)), w1) := cdv
      refine ⟨if a2 = 0 then (nI K).toInt64 / (nI (Nat.gcd K (M + 1))).toInt64 else (nI (M + 1)).toInt64 / (nI (Nat.gcd K (M + 1))).toInt64, w1, w2, ?_, ?_, m, tc, rl, tp, h1.ch c2⟩
      · unfold fX6_chance
        rw [wn_ev, bnd_s, w01, if_pos hd, wn_ev, bnd_s, w01, if_pos hs]
        refine e5.trans ?_
        rw [fX6_chance_29]
        dsimp only
        rw [if_pos hMM, cdv, bnd_s, if_pos d1, grd_t d2, grd_t d2, d4, d5]
        by_cases hx : a2 = 0
        · rw [if_pos hx, if_pos hx]
        · rw [if_neg hx, if_neg hx]
      · unfold fX7_chance
        rw [inM, bnd_s, w01, if_pos hd, in0l e1, bnd_s, w01, if_pos hs]
        have e0 : (nI 0).toInt64 = (0 : Int64) := by decide
        rw [e0] at e6
        refine Eq.trans e6 ?_
        rw [fX7_chance_32]
        dsimp only
        rw [if_pos hMM]
        refine Eq.trans gcv ?_
        rw [grd_t d3, grd_t d3]
        by_cases hx : a2 = 0
        · rw [if_pos hx, if_pos hx]
        · rw [if_neg hx, if_neg hx]
    · refine ⟨-4611686018427387904, w, w, ?_, ?_, J⟩
      · unfold fX6_chance fX6_chance_19
        rw [wn_ev, bnd_s, w01, if_pos hd, wn_ev, bnd_s, w01, if_neg hs]
      · unfold fX7_chance fX7_chance_22
        rw [inM, bnd_s, w01, if_pos hd, in0l e1, bnd_s, w01, if_neg hs]
  · refine ⟨-4611686018427387904, w, w, ?_, ?_, J⟩
    · unfold fX6_chance fX6_chance_19
      rw [wn_ev, bnd_s, w01, if_neg hd]
    · unfold fX7_chance fX7_chance_22
      rw [inM, bnd_s, w01, if_neg hd]
