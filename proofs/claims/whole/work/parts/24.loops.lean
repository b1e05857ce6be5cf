/-! many days of the class's thought -/
theorem PD_tr {w : Wd} : ∀ i k : Nat, i = 51 → PD i k := fun _ _ h => Or.inr h
/-- a step limit is no limit: the text doesn't tell of the day -/
def Nd (ev : Ev) : Prop := ∀ p, p < 3 → ∀ e1 e2 : Nat → Int32, (∀ q, q ≠ 4 → e1 q = e2 q) → ev p e1 = ev p e2
theorem TEv.nd {w : Wd} {j : Nat} {ev : Ev} (h : TEv w j ev) (h0 : gI w (24 + 3 * j) 3 = 0) : Nd ev := fun _ hp _ _ he => h.day h0 he hp
theorem nd_env {ev : Ev} (hn : Nd ev) {th th2 : Nat → Int32} (h : ∀ k, k ≠ 6 → th2 k = th k) {p : Nat} (hp : p < 3) : ev p (envS th2) = ev p (envS th) := by
  refine hn p hp _ _ (fun q hq => ?_)
  simp only [envS, h 2 (by omega), h 3 (by omega), h 4 (by omega), h 1 (by omega), h 5 (by omega)]
  simp only [hq, if_false]
theorem nd_go {ev : Ev} (hn : Nd ev) {th th2 : Nat → Int32} (h : ∀ k, k ≠ 6 → th2 k = th k) : goI ev th2 = goI ev th := by
  have h1 : lastsS ev th2 = lastsS ev th := by
    unfold lastsS
    rw [nd_env hn h (by omega), h 0 (by omega), h 1 (by omega), h 2 (by omega)]
  have h2 : stopS ev th2 = stopS ev th := by
    unfold stopS
    rw [nd_env hn h (by omega), h 0 (by omega), h 3 (by omega)]
  unfold goI
  rw [h1, h2, h 5 (by omega)]
theorem stay_ever {ev : Ev} (hn : Nd ev) : ∀ (n : Nat) (th : Nat → Int32), goI ev th = 0 → ∀ k, k ≠ 6 → daysS ev n th k = th k
  | 0, _, _, _, _ => rfl
  | n + 1, th, h, k, hk => by
    have h1 : ∀ k, k ≠ 6 → dayS ev th k = th k := fun k hk => by
      unfold dayS
      rw [if_neg hk, if_pos h]
    show daysS ev n (dayS ev th) k = th k
    rw [stay_ever hn n (dayS ev th) (by rw [nd_go hn h1]; exact h) k hk, h1 k hk]
theorem step_loop {j : Nat} {ev : Ev} {N : Nat} (hN : N < 2 ^ 31) : ∀ (n i fu : Nat) (w : Wd) (th : Nat → Int32), Tc w th j ev → i + n = N → n < fu → ∃ w', fX4_stepBehind_2 50 fu (nI N) (nI i) w = some (daysS ev n th 4, w') ∧ Ch PD w w' := by
  intro n
  induction n with
  | zero =>
    intro i fu w th h hi hf
    obtain ⟨fu, rfl⟩ : ∃ z, fu = z + 1 := ⟨fu - 1, by omega⟩
    have h1 : nI N ≤ nI i := nI_le (by omega) (by omega)
    rw [fX4_stepBehind_2]
    dsimp only
    rw [if_pos h1, h.2.2.2.2 4 (by omega)]
    exact ⟨w, rfl, Ch.rf⟩
  | succ n ih =>
    intro i fu w th h hi hf
    obtain ⟨fu, rfl⟩ : ∃ z, fu = z + 1 := ⟨fu - 1, by omega⟩
    have h1 : ¬ nI N ≤ nI i := nI_ge (by omega) (by omega)
    obtain ⟨w1, e1, t1, c1⟩ := pass_ev h
    have go : ∃ w', fX4_stepBehind_29 (fX4_stepBehind_2 50 fu) 50 (nI N) (nI i) w1 = some (daysS ev (n + 1) th 4, w') ∧ Ch PD w w' := by
      obtain ⟨w2, e2, c2⟩ := ih (i + 1) fu w1 (dayS ev th) t1 (by omega) (by omega)
      refine ⟨w2, ?_, c1.tr c2⟩
      unfold fX4_stepBehind_29
      rw [nI_1]
      exact e2
    rw [fX4_stepBehind_2]
    dsimp only
    rw [if_neg h1, e1, bnd_s]
    by_cases hg : goI ev th = 0
    · rw [if_pos hg, t1.2.2.1, dr_at t1.1.1 (kd_tx t1.2.1)]
      by_cases hd : gI w1 (24 + 3 * j) 3 = 0
      · rw [if_pos hd, t1.2.2.2.2 4 (by omega)]
        refine ⟨w1, ?_, c1⟩
        have h2 := stay_ever (t1.2.2.2.1.nd hd) (n + 1) th hg 4 (by omega)
        have h3 : dayS ev th 4 = th 4 := by
          unfold dayS
          rw [if_neg (by omega), if_pos hg]
        rw [h2, h3]
      · rw [if_neg hd]
        exact go
    · rw [if_neg hg]
      exact go
theorem step_ev {w : Wd} {th : Nat → Int32} {j n : Nat} {ev : Ev} (h : Tc w th j ev) (hn : n ≤ 40) : ∃ w', fX4_stepBehind 50 (nI n) w = some (daysS ev n th 4, w') ∧ Ch PD w w' :=
  step_loop (N := n) (by omega) n 0 FU w th h (by omega) (by show n < 2000; omega)
theorem worn_loop {j : Nat} {ev : Ev} {N : Nat} (hN : N < 2 ^ 31) : ∀ (n i fu : Nat) (w : Wd) (th : Nat → Int32), Tc w th j ev → i + n = N → n < fu → ∃ w', fX4_wornBehind_2 50 fu (nI N) (nI i) w = some (daysS ev n th 5, w') ∧ Ch PD w w' := by
  intro n
  induction n with
  | zero =>
    intro i fu w th h hi hf
    obtain ⟨fu, rfl⟩ : ∃ z, fu = z + 1 := ⟨fu - 1, by omega⟩
    have h1 : nI N ≤ nI i := nI_le (by omega) (by omega)
    rw [fX4_wornBehind_2]
    dsimp only
    rw [if_pos h1, h.2.2.2.2 5 (by omega)]
    exact ⟨w, rfl, Ch.rf⟩
  | succ n ih =>
    intro i fu w th h hi hf
    obtain ⟨fu, rfl⟩ : ∃ z, fu = z + 1 := ⟨fu - 1, by omega⟩
    have h1 : ¬ nI N ≤ nI i := nI_ge (by omega) (by omega)
    obtain ⟨w1, e1, t1, c1⟩ := pass_ev h
    obtain ⟨w2, e2, c2⟩ := ih (i + 1) fu w1 (dayS ev th) t1 (by omega) (by omega)
    refine ⟨w2, ?_, c1.tr c2⟩
    rw [fX4_wornBehind_2]
    dsimp only
    rw [if_neg h1, e1, bnd_s, nI_1]
    exact e2
theorem worn_ev {w : Wd} {th : Nat → Int32} {j n : Nat} {ev : Ev} (h : Tc w th j ev) (hn : n ≤ 40) : ∃ w', fX4_wornBehind 50 (nI n) w = some (daysS ev n th 5, w') ∧ Ch PD w w' :=
  worn_loop (N := n) (by omega) n 0 FU w th h (by omega) (by show n < 2000; omega)
theorem fi_loop {j : Nat} {ev : Ev} {N : Nat} (hN : N < 2 ^ 31) : ∀ (n i fu : Nat) (w : Wd) (th : Nat → Int32), Tc w th j ev → i + n = N → n < fu → ∃ w', fX4_firstInSocks_2 50 fu (nI N) (nI i) w = some (fiS ev n i th, w') ∧ Ch PD w w' := by
  intro n
  induction n with
  | zero =>
    intro i fu w th h hi hf
    obtain ⟨fu, rfl⟩ : ∃ z, fu = z + 1 := ⟨fu - 1, by omega⟩
    have h1 : nI N ≤ nI i := nI_le (by omega) (by omega)
    rw [fX4_firstInSocks_2]
    dsimp only
    rw [if_pos h1]
    exact ⟨w, rfl, Ch.rf⟩
  | succ n ih =>
    intro i fu w th h hi hf
    obtain ⟨fu, rfl⟩ : ∃ z, fu = z + 1 := ⟨fu - 1, by omega⟩
    have h1 : ¬ nI N ≤ nI i := nI_ge (by omega) (by omega)
    obtain ⟨w1, e1, t1, c1⟩ := pass_ev h
    obtain ⟨w2, e2, c2⟩ := sock_ev t1
    have t2 := t1.c51 c2
    have c2 := c1.tr (c2.mono (PD_tr (w := w)))
    rw [fX4_firstInSocks_2]
    dsimp only
    rw [if_neg h1, e1, bnd_s, e2, bnd_s, fiS]
    by_cases hs : sockS ev (dayS ev th) = 0
    · rw [if_pos hs, if_pos hs, nI_1]
      obtain ⟨w3, e3, c3⟩ := ih (i + 1) fu w2 (dayS ev th) t2 (by omega) (by omega)
      exact ⟨w3, e3, c2.tr c3⟩
    · rw [if_neg hs, if_neg hs]
      exact ⟨w2, rfl, c2⟩
theorem fi_ev {w : Wd} {th : Nat → Int32} {j n : Nat} {ev : Ev} (h : Tc w th j ev) (hn : n ≤ 40) : ∃ w', fX4_firstInSocks 50 (nI n) w = some (fiS ev n 0 th, w') ∧ Ch PD w w' :=
  fi_loop (N := n) (by omega) n 0 FU w th h (by omega) (by show n < 2000; omega)
theorem fs_loop {j : Nat} {ev : Ev} {N : Nat} (hN : N < 2 ^ 31) : ∀ (n i fu : Nat) (w : Wd) (th : Nat → Int32), Tc w th j ev → i + n = N → n < fu → ∃ w', fX4_firstStay_2 50 fu (nI N) (nI i) w = some (fsS ev n i th, w') ∧ Ch PD w w' := by
  intro n
  induction n with
  | zero =>
    intro i fu w th h hi hf
    obtain ⟨fu, rfl⟩ : ∃ z, fu = z + 1 := ⟨fu - 1, by omega⟩
    have h1 : nI N ≤ nI i := nI_le (by omega) (by omega)
    rw [fX4_firstStay_2]
    dsimp only
    rw [if_pos h1]
    exact ⟨w, rfl, Ch.rf⟩
  | succ n ih =>
    intro i fu w th h hi hf
    obtain ⟨fu, rfl⟩ : ∃ z, fu = z + 1 := ⟨fu - 1, by omega⟩
    have h1 : ¬ nI N ≤ nI i := nI_ge (by omega) (by omega)
    obtain ⟨w1, e1, t1, c1⟩ := pass_ev h
    rw [fX4_firstStay_2]
    dsimp only
    rw [if_neg h1, e1, bnd_s, fsS]
    by_cases hs : goI ev th = 0
    · rw [if_pos hs, if_pos hs]
      exact ⟨w1, rfl, c1⟩
    · rw [if_neg hs, if_neg hs, nI_1]
      obtain ⟨w3, e3, c3⟩ := ih (i + 1) fu w1 (dayS ev th) t1 (by omega) (by omega)
      exact ⟨w3, e3, c1.tr c3⟩
theorem fs_ev {w : Wd} {th : Nat → Int32} {j n : Nat} {ev : Ev} (h : Tc w th j ev) (hn : n ≤ 40) : ∃ w', fX4_firstStay 50 (nI n) w = some (fsS ev n 0 th, w') ∧ Ch PD w w' :=
  fs_loop (N := n) (by omega) n 0 FU w th h (by omega) (by show n < 2000; omega)
theorem he_loop {j : Nat} {ev : Ev} {N : Nat} (hN : N < 2 ^ 31) : ∀ (n i fu : Nat) (w : Wd) (th : Nat → Int32), Tc w th j ev → i + n = N → n < fu → ∃ w', fX4_isHeldUp_2 50 fu (nI N) (nI i) w = some (heS ev n th, w') ∧ Ch PD w w' := by
  intro n
  induction n with
  | zero =>
    intro i fu w th h hi hf
    obtain ⟨fu, rfl⟩ : ∃ z, fu = z + 1 := ⟨fu - 1, by omega⟩
    have h1 : nI N ≤ nI i := nI_le (by omega) (by omega)
    rw [fX4_isHeldUp_2]
    dsimp only
    rw [if_pos h1]
    exact ⟨w, rfl, Ch.rf⟩
  | succ n ih =>
    intro i fu w th h hi hf
    obtain ⟨fu, rfl⟩ : ∃ z, fu = z + 1 := ⟨fu - 1, by omega⟩
    have h1 : ¬ nI N ≤ nI i := nI_ge (by omega) (by omega)
    obtain ⟨w1, e1, t1, c1⟩ := pass_ev h
    rw [fX4_isHeldUp_2]
    dsimp only
    rw [if_neg h1, e1, bnd_s, heS]
    by_cases hs : goI ev th = 0
    · rw [if_pos hs, if_pos hs]
      exact ⟨w1, rfl, c1⟩
    · rw [if_neg hs, if_neg hs]
      obtain ⟨w2, e2, c2⟩ := sock_ev t1
      have t2 := t1.c51 c2
      have c2 := c1.tr (c2.mono (PD_tr (w := w)))
      rw [e2, bnd_s]
      by_cases hk : sockS ev (dayS ev th) = 0
      · rw [if_pos hk, if_pos hk, nI_1]
        obtain ⟨w3, e3, c3⟩ := ih (i + 1) fu w2 (dayS ev th) t2 (by omega) (by omega)
        exact ⟨w3, e3, c2.tr c3⟩
      · rw [if_neg hk, if_neg hk]
        exact ⟨w2, rfl, c2⟩
theorem he_ev {w : Wd} {th : Nat → Int32} {j : Nat} {ev : Ev} (h : Tc w th j ev) : ∃ w', fX4_isHeldUp 50 (10 : Int32) w = some (heS ev 10 th, w') ∧ Ch PD w w' :=
  he_loop (N := 10) (by omega) 10 0 FU w th h (by omega) (by show 10 < 2000; omega)
theorem dt_loop {j : Nat} {ev : Ev} {k : Int32} : ∀ (n i fu : Nat) (w : Wd) (th : Nat → Int32), Tc w th j ev → i + n = 41 → n < fu → ∃ w', fX4_daysTill_2 50 fu k (nI i) w = some (dtS ev k n i th, w') ∧ Ch PD w w' := by
  intro n
  induction n with
  | zero =>
    intro i fu w th h hi hf
    obtain ⟨fu, rfl⟩ : ∃ z, fu = z + 1 := ⟨fu - 1, by omega⟩
    have h1 : (40 : Int32) < nI i := nI_lt (a := 40) (by omega) (by omega)
    rw [fX4_daysTill_2]
    dsimp only
    rw [if_pos h1]
    exact ⟨w, rfl, Ch.rf⟩
  | succ n ih =>
    intro i fu w th h hi hf
    obtain ⟨fu, rfl⟩ : ∃ z, fu = z + 1 := ⟨fu - 1, by omega⟩
    have h1 : ¬ (40 : Int32) < nI i := nI_nlt (a := 40) (by omega) (by omega)
    rw [fX4_daysTill_2]
    dsimp only
    rw [if_neg h1, h.2.2.2.2 4 (by omega), dtS]
    by_cases hk : th 4 < k
    · obtain ⟨w1, e1, t1, c1⟩ := pass_ev h
      rw [if_pos hk, if_pos hk, e1, bnd_s, nI_1]
      obtain ⟨w3, e3, c3⟩ := ih (i + 1) fu w1 (dayS ev th) t1 (by omega) (by omega)
      exact ⟨w3, e3, c1.tr c3⟩
    · rw [if_neg hk, if_neg hk]
      exact ⟨w, rfl, Ch.rf⟩
theorem dt_ev {w : Wd} {th : Nat → Int32} {j : Nat} {ev : Ev} {k : Int32} (h : Tc w th j ev) : ∃ w', fX4_daysTill 50 k w = some (dtS ev k 41 0 th, w') ∧ Ch PD w w' :=
  dt_loop 41 0 FU w th h (by omega) (by show 41 < 2000; omega)
theorem fo_loop {j s : Nat} (hs : s < 4) {ev : Ev} {N : Nat} (hN : N ≤ 40) {f : Nat → Int32} : ∀ (n i fu : Nat) (w : Wd) (th : Nat → Int32), Tc w th j ev → (∀ q, q < N → gI w (43 + 2 * s) q = f q) → i + n = N → n < fu → ∃ w', fX4_firstOtherwise_15 50 fu (some (42 + 2 * s)) (nI N) (nI i) w = some (foS ev f n i th, w') ∧ Ch PD w w' := by
  intro n
  induction n with
  | zero =>
    intro i fu w th h hf hi hfu
    obtain ⟨fu, rfl⟩ : ∃ z, fu = z + 1 := ⟨fu - 1, by omega⟩
    have h1 : nI N ≤ nI i := nI_le (by omega) (by omega)
    rw [fX4_firstOtherwise_15]
    dsimp only
    rw [if_pos h1]
    exact ⟨w, rfl, Ch.rf⟩
  | succ n ih =>
    intro i fu w th h hf hi hfu
    obtain ⟨fu, rfl⟩ : ∃ z, fu = z + 1 := ⟨fu - 1, by omega⟩
    have h1 : ¬ nI N ≤ nI i := nI_ge (by omega) (by omega)
    obtain ⟨w1, e1, t1, c1⟩ := pass_ev h
    have hi2 := kd_shi hs
    rw [fX4_firstOtherwise_15]
    dsimp only
    rw [if_neg h1, e1, bnd_s, dr_at t1.1.1 (kd_sh hs), dg_shi t1.1 hs, hi2.2, grd_t (vin_nI (by omega) (by omega)), t1.2.2.2.2 4 (by omega), nI_clamp (by omega), c1.I (by unfold PD; omega), hf i (by omega), foS]
    by_cases hk : dayS ev th 4 = f i
    · rw [if_pos hk, if_pos hk, nI_1]
      obtain ⟨w3, e3, c3⟩ := ih (i + 1) fu w1 (dayS ev th) t1 (fun q hq => by rw [c1.I (by unfold PD; omega)]; exact hf q hq) (by omega) (by omega)
      exact ⟨w3, e3, c1.tr c3⟩
    · rw [if_neg hk, if_neg hk]
      exact ⟨w1, rfl, c1⟩
theorem fo_ev {w : Wd} {th : Nat → Int32} {j s n : Nat} {ev : Ev} {f : Nat → Int32} (h : Tc w th j ev) (hs : s < 4) (hn : n ≤ 40) (hsz : gI w (42 + 2 * s) 2 = nI n) (hf : ∀ q, q < n → gI w (43 + 2 * s) q = f q) : ∃ w', fX4_firstOtherwise 50 (some (42 + 2 * s)) w = some (foS ev f n 0 th, w') ∧ Ch PD w w' := by
  obtain ⟨w', e, c⟩ := fo_loop hs hn n 0 FU w th h hf (by omega) (by show n < 2000; omega)
  refine ⟨w', ?_, c⟩
  have hi2 := kd_shi hs
  have h1 : ¬ Int32.ofNat 40 < nI n := nI_nlt (a := 40) (by omega) (by omega)
  unfold fX4_firstOtherwise
  rw [dr_at h.1.1 (kd_sh hs), dg_shi h.1 hs, lt_e, hi2.2, hsz, if_neg h1]
  exact e
