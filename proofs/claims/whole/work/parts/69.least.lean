/-! the least to tell -/
def leS (P : Nat → Bool) (g W : Nat → Int32) (k : Int32) : Nat → Nat → Int32 → Int32 → Int32 × Int32
  | 0, _, b, d => (b, d)
  | n + 1, i, b, d => if P i = true then (if g i < k then leS P g W k n (i + 1) b d else if b = -1 then leS P g W k n (i + 1) (nI i) (W i) else if d ≤ W i then leS P g W k n (i + 1) b d else leS P g W k n (i + 1) (nI i) (W i)) else leS P g W k n (i + 1) b d
theorem leC_loop {m tc rl tp i : Nat} {ev : Ev} {w : Wd} {x3 k : Int32} (h : Jn w m tc rl tp) (hr : Ru w rl ev) (hi : i < m) : ∀ (n q fu : Nat) (w2 : Wd) (b d : Int32), Ch SC w w2 → Me ev 40 w i w2 → q + n = 256 → n < fu → ∃ w', fX6_least_48 0 fu k x3 (some (18 + i)) b d (nI q) w2 = some (prt x3 (leS (isP w i) (fun q => gT ev 40 w i (nI q)) (fun q => tW w i (nI q)) k n q b d), w') ∧ Ch SC w w' := by
  have m6 := h.m6
  intro n
  induction n with
  | zero =>
    intro q fu w2 b d c hm hq hf
    obtain ⟨fu, rfl⟩ : ∃ z, fu = z + 1 := ⟨fu - 1, by omega⟩
    have h1 : (256 : Int32) ≤ nI q := nI_le (a := 256) (by omega) (by omega)
    refine ⟨w2, ?_, c⟩
    rw [fX6_least_48]
    dsimp only
    rw [if_pos h1]
    unfold prt leS
    by_cases hx : x3 = 0
    · rw [if_pos hx, if_pos hx]
    · rw [if_neg hx, if_neg hx]
  | succ n ih =>
    intro q fu w2 b d c hm hq hf
    obtain ⟨fu, rfl⟩ : ∃ z, fu = z + 1 := ⟨fu - 1, by omega⟩
    have h1 : ¬ (256 : Int32) ≤ nI q := nI_ge (b := 256) (by omega) (by omega)
    have h2 := h.ch c
    have ei : gI w2 (18 + i) 2 = gI w 58 (5 * i + 1) := by rw [c.I (by unfold SC; omega)]; exact h.ties hi
    rw [fX6_least_48]
    dsimp only
    rw [if_neg h1, dr_at h2.S.1 (kd_wk (by omega)), ei, part_ev, bnd_s, leS]
    unfold fX6_least_105 fX6_least_113
    rw [nI_1]
    by_cases hp : (nI q &&& (gI w 58 (5 * i + 1) ^^^ (-1 : Int32))) = 0
    · obtain ⟨w3, f3, e3, hm3, c3⟩ := sit_ev h hr hi (N := 40) (by omega) c hm (nI q)
      have f3 : fX6_stepIfTold 0 (some (18 + i)) (nI q) (40 : Int32) w2 = some (gT ev 40 w i (nI q), w3) := f3
      rw [if_pos hp, if_neg (by decide), f3, bnd_s, if_pos (isP_t.mpr hp)]
      by_cases k1 : gT ev 40 w i (nI q) < k
      · rw [if_pos k1, if_pos k1]
        exact ih (q + 1) fu w3 _ _ c3 hm3 (by omega) (by omega)
      · rw [if_neg k1, if_neg k1, dg_0_9 (c3.St h.S), lt_e, e3]
        by_cases k2 : b = -1
        · rw [if_pos k2, if_pos k2]
          exact ih (q + 1) fu w3 _ _ c3 hm3 (by omega) (by omega)
        · rw [if_neg k2, if_neg k2]
          by_cases k3 : d ≤ tW w i (nI q)
          · rw [if_pos k3, if_pos k3]
            exact ih (q + 1) fu w3 _ _ c3 hm3 (by omega) (by omega)
          · rw [if_neg k3, if_neg k3]
            exact ih (q + 1) fu w3 _ _ c3 hm3 (by omega) (by omega)
    · rw [if_neg hp, if_pos rfl, if_neg (fun z => hp (isP_t.mp z))]
      exact ih (q + 1) fu w2 _ _ c hm (by omega) (by omega)
theorem leM_loop {m tc rl tp i : Nat} {ev : Ev} {w : Wd} {x3 k : Int32} (h : Jn w m tc rl tp) (hr : Rm w rl ev) (hi : i < m) : ∀ (n q fu : Nat) (w2 : Wd) (b d : Int32), Ch (PQt i) w w2 → gI w2 52 34 = b → ((b = -1 ∧ d = -1) ∨ (¬ b = -1 ∧ d = wS (gI w 56) b 8)) → q + n = 256 → n < fu → ∃ w', fX7_least_65 52 fu (nI i) k x3 (gI w 58 (5 * i + 2)) (gI w 58 (5 * i + 1)) (nI q) w2 = some (prt x3 (leS (isP w i) (fun q => gT ev 40 w i (nI q)) (fun q => tW w i (nI q)) k n q b d), w') ∧ Ch PM w w' := by
  have m6 := h.m6
  have n2 : (5 : Int32) * nI i + 2 = nI (5 * i + 2) := by rw [m5]; exact nI_add (5 * i) 2
  have k2 : (nI (5 * i + 2)).toNatClampNeg = 5 * i + 2 := nI_clamp (by omega)
  intro n
  induction n with
  | zero =>
    intro q fu w2 b d c hb hv hq hf
    obtain ⟨fu, rfl⟩ : ∃ z, fu = z + 1 := ⟨fu - 1, by omega⟩
    have h1 : (256 : Int32) ≤ nI q := nI_le (a := 256) (by omega) (by omega)
    obtain ⟨w3, hw3⟩ : ∃ z, z = sI w2 58 (5 * i + 2) (gI w 58 (5 * i + 2)) := ⟨_, rfl⟩
    have q34 : gI w3 52 34 = b := by rw [hw3, gI_sI, if_neg (by omega)]; exact hb
    have cb := pqt_back h c
    rw [← hw3] at cb
    have e56 : gI w3 56 = gI w 56 := funext (fun k => cb.I (by unfold PM; omega))
    refine ⟨w3, ?_, cb⟩
    rw [fX7_least_65]
    dsimp only
    rw [if_pos h1, dg_52_10 (c.St h.S), n2, grd_t (by rw [ln_58]; exact vin_nI (by omega) (by omega)), k2, lw_e, ← hw3]
    unfold fX7_least_166
    rw [q34]
    unfold prt leS
    rcases hv with ⟨v1, v2⟩ | ⟨v1, v2⟩
    · rw [if_pos v1, v1, v2]
      by_cases hx : x3 = 0
      · rw [if_pos hx]
      · rw [if_neg hx]
    · rw [if_neg v1]
      by_cases hx : x3 = 0
      · rw [if_pos hx, if_pos hx]
      · rw [if_neg hx, if_neg hx, wof_ev (cb.St h.S), bnd_s, e56, v2]
  | succ n ih =>
    intro q fu w2 b d c hb hv hq hf
    obtain ⟨fu, rfl⟩ : ∃ z, fu = z + 1 := ⟨fu - 1, by omega⟩
    have h1 : ¬ (256 : Int32) ≤ nI q := nI_ge (b := 256) (by omega) (by omega)
    have hS2 := c.St h.S
    rw [fX7_least_65]
    dsimp only
    rw [if_neg h1, hb, leS]
    by_cases hp : (nI q &&& (gI w 58 (5 * i + 1) ^^^ (-1 : Int32))) = 0
    · obtain ⟨w3, hw3⟩ : ∃ z, z = sI w2 58 (5 * i + 2) (nI q) := ⟨_, rfl⟩
      have hw3' : sI w2 58 (nI (5 * i + 2)).toNatClampNeg (nI q) = w3 := by rw [k2, hw3]
      have c3 : Ch (PQt i) w w3 := c.tr (by rw [hw3]; exact ch_sI (Or.inr ⟨rfl, rfl⟩))
      obtain ⟨w4, f4, c4⟩ := mt_ev (N := 40) h hr hi (by omega) c3
      have e3 : gI w3 58 (5 * i + 2) = nI q := by rw [hw3, gI_sI, if_pos ⟨rfl, rfl⟩]
      rw [e3] at f4
      have f4 : fX7_stepBehind 52 (nI i) (40 : Int32) w3 = some (gT ev 40 w i (nI q), w4) := f4
      have c5 : Ch (PQt i) w w4 := c3.tr (c4.mono (fun a k z => Or.inl (PG_PM a k z)))
      have g34 : gI w4 52 34 = b := by rw [c4.I (by unfold PG; omega), hw3, gI_sI, if_neg (by omega)]; exact hb
      have eW : tW w i (nI q) = wS (gI w 56) (nI q) 8 := by unfold tW; rw [part_and hp]
      -- the trial
      have tri : ∃ w', fX7_least_100 (fX7_least_65 52 fu) 52 (nI i) k x3 (gI w 58 (5 * i + 2)) (gI w 58 (5 * i + 1)) (nI q) w2 = some (prt x3 (if gT ev 40 w i (nI q) < k then leS (isP w i) (fun q => gT ev 40 w i (nI q)) (fun q => tW w i (nI q)) k n (q + 1) b d else leS (isP w i) (fun q => gT ev 40 w i (nI q)) (fun q => tW w i (nI q)) k n (q + 1) (nI q) (tW w i (nI q))), w') ∧ Ch PM w w' := by
        unfold fX7_least_100 fX7_least_133 fX7_least_136
        rw [nI_1, dg_52_10 hS2, n2, grd_t (by rw [ln_58]; exact vin_nI (by omega) (by omega)), lw_e, hw3', f4, bnd_s]
        by_cases k1 : gT ev 40 w i (nI q) < k
        · rw [if_pos k1, if_pos k1, lw_e]
          exact ih (q + 1) fu _ _ _ (c5.tr (ch_sI (Or.inl ⟨rfl, by omega, by omega⟩))) (by rw [gI_sI, if_pos ⟨rfl, rfl⟩]; exact g34) hv (by omega) (by omega)
        · rw [if_neg k1, if_neg k1, lw_e]
          exact ih (q + 1) fu _ _ _ (c5.tr (ch_sI (Or.inl ⟨rfl, by omega, by omega⟩))) (by rw [gI_sI, if_pos ⟨rfl, rfl⟩]) (Or.inr ⟨m1_nI (by omega), eW⟩) (by omega) (by omega)
      rw [if_pos hp, if_pos (isP_t.mpr hp)]
      by_cases k2 : b = -1
      · rw [if_pos k2, if_pos k2]
        exact tri
      · rw [if_neg k2, if_neg k2]
        rcases hv with hv | ⟨v1, v2⟩
        · exact absurd hv.1 k2
        have hl : fX7_isLighter 52 (nI q) w2 = some (if d ≤ tW w i (nI q) then 0 else 1, w2) := by
          have e56 : gI w2 56 = gI w 56 := funext (fun k => c.I (by unfold PQt PM; omega))
          unfold fX7_isLighter
          rw [wof_ev hS2, bnd_s, wof_ev hS2, bnd_s, e56, hb, ← v2, ← eW]
          by_cases k3 : d ≤ tW w i (nI q)
          · rw [if_pos k3, if_pos k3]
          · rw [if_neg k3, if_neg k3]
        rw [hl, bnd_s]
        by_cases k3 : d ≤ tW w i (nI q)
        · rw [if_pos k3, if_pos k3, if_pos rfl, ite_self]
          unfold fX7_least_136
          rw [nI_1]
          exact ih (q + 1) fu w2 b d c hb (Or.inr ⟨v1, v2⟩) (by omega) (by omega)
        · rw [if_neg k3, if_neg k3, if_neg (by decide)]
          exact tri
    · rw [if_neg hp, if_neg (fun z => hp (isP_t.mp z))]
      unfold fX7_least_136
      rw [nI_1]
      exact ih (q + 1) fu w2 b d c hb hv (by omega) (by omega)
theorem least_agree (a0 a1 a2 : Int32) : Agree JJ (fX6_least 0 a0 a1 a2) (fX7_least 52 a0 a1 a2) := by
  rintro w ⟨m, tc, rl, tp, h⟩
  have e9 : (999 : Int32).toInt64 = (999 : Int64) := by decide
  have e01 : (1 : Int32).toInt64 = (1 : Int64) := by decide
  have J : JJ w := ⟨m, tc, rl, tp, h⟩
  have m6 := h.m6
  rcases one_at h a0 with ⟨i, hi, rfl, e1, e2⟩ | ⟨e1, e2⟩
  · by_cases hd : 0 ≤ a1 ∧ a1 ≤ (999 : Int32)
    · by_cases hs : 0 ≤ a2 ∧ a2 ≤ (1 : Int32)
      · obtain ⟨ev, r1, r2⟩ := h.ru
        have n1 : (5 : Int32) * nI i + 1 = nI (5 * i + 1) := by rw [m5, nI_1]
        have n2 : (5 : Int32) * nI i + 2 = nI (5 * i + 2) := by rw [m5]; exact nI_add (5 * i) 2
        have k1 : (nI (5 * i + 1)).toNatClampNeg = 5 * i + 1 := nI_clamp (by omega)
        have k2 : (nI (5 * i + 2)).toNatClampNeg = 5 * i + 2 := nI_clamp (by omega)
        obtain ⟨w1, f1, me, c1⟩ := me_new (ev := ev) (i := i) (N := 40) h
        obtain ⟨w3, f3, c3⟩ := leC_loop (x3 := a2) (k := a1) h r1 hi 256 0 FU w1 (-1) (-1) c1 me (by omega) (show 256 < 2000 by omega)
        have h3 := h.ch c3
        have r3 := r2.ch c3 (fun i k z => by unfold SC at z; omega)
        obtain ⟨w5, f5, c5⟩ := leM_loop (x3 := a2) (k := a1) h3 r3 hi 256 0 FU (sI w3 52 34 (-1)) (-1) (-1) (ch_sI (Or.inl ⟨rfl, by omega, by omega⟩)) (by rw [gI_sI, if_pos ⟨rfl, rfl⟩]) (Or.inl ⟨rfl, rfl⟩) (by omega) (show 256 < 2000 by omega)
        rw [gT_ch c3, tW_ch c3, isP_ch c3] at f5
        refine ⟨prt a2 (leS (isP w i) (fun q => gT ev 40 w i (nI q)) (fun q => tW w i (nI q)) a1 256 0 (-1) (-1)), w3, w5, ?_, ?_, m, tc, rl, tp, h3.ch (c5.mono PM_SC)⟩
        · unfold fX6_least
          rw [e1, bnd_s, ifn_some, wn_ev, bnd_s, w01, if_pos hd, wn_ev, bnd_s, w01, if_pos hs, f1, bnd_s]
          exact f3
        · unfold fX7_least
          rw [atM h3.c11 m6 hi, bnd_s, if_neg (by decide), in0l e9, bnd_s, w01, if_pos hd, in0l e01, bnd_s, w01, if_pos hs, dg_52_10 h3.S, n2, grd_t (by rw [ln_58]; exact vin_nI (by omega) (by omega)), k2, lt_e, dg_52_10 h3.S, n1, grd_t (by rw [ln_58]; exact vin_nI (by omega) (by omega)), k1, lt_e, lw_e]
          exact f5
      · refine ⟨-2, w, w, ?_, ?_, J⟩
        · unfold fX6_least
          rw [e1, bnd_s, ifn_some, wn_ev, bnd_s, w01, if_pos hd, wn_ev, bnd_s, w01, if_neg hs]
        · unfold fX7_least
          rw [e2, bnd_s, if_neg (by decide), in0l e9, bnd_s, w01, if_pos hd, in0l e01, bnd_s, w01, if_neg hs]
    · refine ⟨-2, w, w, ?_, ?_, J⟩
      · unfold fX6_least
        rw [e1, bnd_s, ifn_some, wn_ev, bnd_s, w01, if_neg hd]
      · unfold fX7_least
        rw [e2, bnd_s, if_neg (by decide), in0l e9, bnd_s, w01, if_neg hd]
  · refine ⟨-2, w, w, ?_, ?_, J⟩
    · unfold fX6_least
      rw [e1, bnd_s, ifn_none]
    · unfold fX7_least
      rw [e2, bnd_s, if_pos rfl]
