/-! the class reads back -/
theorem th_2 {w w2 : Wd} {m tc rl tp i : Nat} (h : Jn w m tc rl tp) (hi : i < m) (c : Ch SC w w2) : thC w2 (gI w2 1) i (gI w2 (18 + i) 3) = thM w i := by
  have m6 := h.m6
  rw [st_2 h hi c, c.I (show ¬ SC (18 + i) 3 by unfold SC; omega), h.told hi, ← thM_self]
theorem fo_at {w w3 : Wd} {th : Nat → Int32} {j s n : Nat} {ev : Ev} {f : Nat → Int32} (hs : s < 4) (hf : SF w s n f) (c : Ch SC w w3) (ht : Tc w3 th j ev) : ∃ w4, fX4_firstOtherwise 50 (some (42 + 2 * s)) w3 = some (foS ev f n 0 th, w4) ∧ Ch SC w3 w4 := by
  have hf3 := hf.ch hs c (fun a b z => by unfold SC at z; omega)
  obtain ⟨w4, e, c4⟩ := fo_ev ht hs hf3.2.2.1 hf3.2.1 hf3.2.2.2.1
  exact ⟨w4, e, (c4.mono PD_PT).mono PT_SC⟩
theorem Tc.put {w : Wd} {th : Nat → Int32} {j q : Nat} {ev : Ev} {v : Int32} (h : Tc w th j ev) : Tc (sI w 50 q v) (updT th q v) j ev := by
  obtain ⟨h1, h3, h4, h5, h6⟩ := h
  refine ⟨h1, h3, h4, h5.ch (P := fun i _ => i = 50) (ch_sI rfl) (fun i k _ _ => by omega) h3, fun k hk => ?_⟩
  rw [gI_sI]
  unfold updT
  by_cases e : k = q
  · rw [if_pos ⟨rfl, e⟩, if_pos e]
  · rw [if_neg (fun z => e z.2), if_neg e]
    exact h6 k hk
def pQ (ev : Ev) (f : Nat → Int32) (n : Nat) (th : Nat → Int32) (q : Nat) (v : Nat) : Bool := decide (foS ev f n 0 (updT th q (nI v)) = -1)
theorem orS_s (p : Nat → Bool) (v : Nat) : orS p (v + 1) = orS p v ||| (if p v = true then bitq v else 0) := rfl
theorem kdC_loop {m tc rl tp i s N : Nat} {ev : Ev} {w : Wd} {f : Nat → Int32} (h : Jn w m tc rl tp) (hr : Ru w rl ev) (hi : i < m) (hs : s < 4) (hf : SF w s N f) : ∀ (n v fu : Nat) (w2 : Wd), Ch SC w w2 → v + n = 6 → n < fu → ∃ w', fX6_kindsBy_5 0 fu (some (42 + 2 * s)) (some (18 + i)) (orS (pQ ev f N (thM w i) 0) v) (nI v) w2 = some (orS (pQ ev f N (thM w i) 0) 6, w') ∧ Ch SC w w' := by
  have m6 := h.m6
  intro n
  induction n with
  | zero =>
    intro v fu w2 c hv hf2
    obtain ⟨fu, rfl⟩ : ∃ z, fu = z + 1 := ⟨fu - 1, by omega⟩
    have h1 : (6 : Int32) ≤ nI v := nI_le (a := 6) (by omega) (by omega)
    refine ⟨w2, ?_, c⟩
    rw [fX6_kindsBy_5]
    dsimp only
    rw [if_pos h1, show v = 6 by omega]
  | succ n ih =>
    intro v fu w2 c hv hf2
    obtain ⟨fu, rfl⟩ : ∃ z, fu = z + 1 := ⟨fu - 1, by omega⟩
    have h1 : ¬ (6 : Int32) ≤ nI v := nI_ge (b := 6) (by omega) (by omega)
    obtain ⟨w3, f3, tc3, c3⟩ := think_ev (hr.ch c (fun i k z => by unfold SC at z; omega)) (i := i) (by omega)
    rw [th_2 h hi c] at tc3
    have tc4 := tc3.put (q := 0) (v := nI v)
    have c4 : Ch SC w (sI w3 50 0 (nI v)) := (c.tr (c3.mono PT_SC)).tr (ch_sI (Or.inr (Or.inr (Or.inl ⟨rfl, by omega⟩))))
    obtain ⟨w5, f5, c5⟩ := fo_at hs hf c4 tc4
    obtain ⟨w6, f6, c6⟩ := ih (v + 1) fu w5 (c4.tr c5) (by omega) (by omega)
    refine ⟨w6, ?_, c6⟩
    rw [fX6_kindsBy_5]
    dsimp only
    rw [if_neg h1, f3, bnd_s, dg_0_9 tc3.1, lw_e, dg_0_9 tc4.1, f5, bnd_s]
    unfold fX6_kindsBy_44
    rw [bit_ev, bit_ev, bnd_s, bnd_s, lt_e, lt_e, nI_1]
    rw [orS_s] at f6
    by_cases hz : foS ev f N 0 (updT (thM w i) 0 (nI v)) = -1
    · have hb : (if pQ ev f N (thM w i) 0 v = true then bitq v else 0) = ((if (1 : Int32) = 0 then (0 : Int32) else 1) <<< (nI v &&& 31)) := by
        have := bit_sh (v := v) (by omega) (c := True)
        simp only [if_true] at this
        unfold pQ
        rw [if_pos (decide_eq_true hz), if_neg (by decide), this]
      rw [hb] at f6
      rw [if_pos hz]
      exact f6
    · have hb : (if pQ ev f N (thM w i) 0 v = true then bitq v else 0) = ((if (0 : Int32) = 0 then (0 : Int32) else 1) <<< (nI v &&& 31)) := by
        unfold pQ
        rw [if_neg (fun z => hz (of_decide_eq_true z)), if_pos rfl, sh0 v (by omega)]
      rw [hb] at f6
      rw [if_neg hz]
      exact f6
theorem nbC_loop {m tc rl tp i s N : Nat} {ev : Ev} {w : Wd} {f : Nat → Int32} (h : Jn w m tc rl tp) (hr : Ru w rl ev) (hi : i < m) (hs : s < 4) (hf : SF w s N f) : ∀ (n v fu : Nat) (w2 : Wd), Ch SC w w2 → v + n = 10 → n < fu → ∃ w', fX6_numbersBy_5 0 fu (some (42 + 2 * s)) (some (18 + i)) (orS (pQ ev f N (thM w i) 1) v) (nI v) w2 = some (orS (pQ ev f N (thM w i) 1) 10, w') ∧ Ch SC w w' := by
  have m6 := h.m6
  intro n
  induction n with
  | zero =>
    intro v fu w2 c hv hf2
    obtain ⟨fu, rfl⟩ : ∃ z, fu = z + 1 := ⟨fu - 1, by omega⟩
    have h1 : (10 : Int32) ≤ nI v := nI_le (a := 10) (by omega) (by omega)
    refine ⟨w2, ?_, c⟩
    rw [fX6_numbersBy_5]
    dsimp only
    rw [if_pos h1, show v = 10 by omega]
  | succ n ih =>
    intro v fu w2 c hv hf2
    obtain ⟨fu, rfl⟩ : ∃ z, fu = z + 1 := ⟨fu - 1, by omega⟩
    have h1 : ¬ (10 : Int32) ≤ nI v := nI_ge (b := 10) (by omega) (by omega)
    obtain ⟨w3, f3, tc3, c3⟩ := think_ev (hr.ch c (fun i k z => by unfold SC at z; omega)) (i := i) (by omega)
    rw [th_2 h hi c] at tc3
    have tc4 := tc3.put (q := 1) (v := nI v)
    have c4 : Ch SC w (sI w3 50 1 (nI v)) := (c.tr (c3.mono PT_SC)).tr (ch_sI (Or.inr (Or.inr (Or.inl ⟨rfl, by omega⟩))))
    obtain ⟨w5, f5, c5⟩ := fo_at hs hf c4 tc4
    obtain ⟨w6, f6, c6⟩ := ih (v + 1) fu w5 (c4.tr c5) (by omega) (by omega)
    refine ⟨w6, ?_, c6⟩
    rw [fX6_numbersBy_5]
    dsimp only
    rw [if_neg h1, f3, bnd_s, dg_0_9 tc3.1, lw_e, dg_0_9 tc4.1, f5, bnd_s]
    unfold fX6_numbersBy_44
    rw [bit_ev, bit_ev, bnd_s, bnd_s, lt_e, lt_e, nI_1]
    rw [orS_s] at f6
    by_cases hz : foS ev f N 0 (updT (thM w i) 1 (nI v)) = -1
    · have hb : (if pQ ev f N (thM w i) 1 v = true then bitq v else 0) = ((if (1 : Int32) = 0 then (0 : Int32) else 1) <<< (nI v &&& 31)) := by
        have := bit_sh (v := v) (by omega) (c := True)
        simp only [if_true] at this
        unfold pQ
        rw [if_pos (decide_eq_true hz), if_neg (by decide), this]
      rw [hb] at f6
      rw [if_pos hz]
      exact f6
    · have hb : (if pQ ev f N (thM w i) 1 v = true then bitq v else 0) = ((if (0 : Int32) = 0 then (0 : Int32) else 1) <<< (nI v &&& 31)) := by
        unfold pQ
        rw [if_neg (fun z => hz (of_decide_eq_true z)), if_pos rfl, sh0 v (by omega)]
      rw [hb] at f6
      rw [if_neg hz]
      exact f6
def pX (evt : Nat → Ev) (f : Nat → Int32) (n : Nat) (th : Nat → Int32) (v : Nat) : Bool := decide (foS (evt v) f n 0 th = -1)
theorem txC_loop {m tc rl tp i s N : Nat} {ev : Ev} {w : Wd} {f : Nat → Int32} {evt : Nat → Ev} (h : Jn w m tc rl tp) (hr : Ru w rl ev) (hi : i < m) (hs : s < 4) (hf : SF w s N f) (ht : ∀ t, t < tc → TEv w t (evt t)) : ∀ (n v fu : Nat) (w2 : Wd), Ch SC w w2 → v + n = tc → n < fu → ∃ w', fX6_textsBy_5 0 fu (some (42 + 2 * s)) (some (18 + i)) (orS (pX evt f N (thM w i)) v) (nI v) w2 = some (orS (pX evt f N (thM w i)) tc, w') ∧ Ch SC w w' := by
  have m6 := h.m6
  have htc := h.2.2.1
  intro n
  induction n with
  | zero =>
    intro v fu w2 c hv hf2
    obtain ⟨fu, rfl⟩ : ∃ z, fu = z + 1 := ⟨fu - 1, by omega⟩
    have h1 : nI tc ≤ nI v := nI_le (by omega) (by omega)
    refine ⟨w2, ?_, c⟩
    rw [fX6_textsBy_5]
    dsimp only
    rw [c.I (by unfold SC; omega), htc.2.1, if_pos h1, show v = tc by omega]
  | succ n ih =>
    intro v fu w2 c hv hf2
    obtain ⟨fu, rfl⟩ : ∃ z, fu = z + 1 := ⟨fu - 1, by omega⟩
    have h1 : ¬ nI tc ≤ nI v := nI_ge (by omega) (by omega)
    have cv : (nI v).toNatClampNeg = v := nI_clamp (by omega)
    obtain ⟨w3, f3, tc3, c3⟩ := think_ev (hr.ch c (fun i k z => by unfold SC at z; omega)) (i := i) (by omega)
    rw [th_2 h hi c] at tc3
    obtain ⟨w4, hw4⟩ : ∃ z, z = sR w3 50 7 (some (24 + 3 * v)) := ⟨_, rfl⟩
    have c34 : Ch (fun a b => a = 50 ∧ b = 7) w3 w4 := by rw [hw4]; exact ch_sR ⟨⟨rfl, rfl⟩, Or.inl ⟨rfl, rfl⟩⟩
    have c4 : Ch SC w w4 := (c.tr (c3.mono PT_SC)).tr (c34.mono (fun a b z => Or.inr (Or.inr (Or.inl ⟨z.1, by omega⟩))))
    have tc4 : Tc w4 (thM w i) v (evt v) := by
      refine ⟨c4.St h.S, by omega, by rw [hw4, gR_sR, if_pos ⟨rfl, rfl⟩], (ht v (by omega)).ch c4 (fun a b x y z => by unfold SC at z; omega) (by omega), fun k hk => ?_⟩
      rw [hw4, gI_sR]
      exact tc3.2.2.2.2 k hk
    obtain ⟨w5, f5, c5⟩ := fo_at hs hf c4 tc4
    obtain ⟨w6, f6, c6⟩ := ih (v + 1) fu w5 (c4.tr c5) (by omega) (by omega)
    have e4 : gR w3 4 (nI v).toNatClampNeg = some (24 + 3 * v) := by rw [cv]; exact st_tx tc3.1 (by omega)
    refine ⟨w6, ?_, c6⟩
    rw [fX6_textsBy_5]
    dsimp only
    rw [c.I (by unfold SC; omega), htc.2.1, if_neg h1, f3, bnd_s, dg_0_5 tc3.1, grd_t (by rw [ln_4]; exact vin_nI (by omega) (by omega)), dg_0_9 tc3.1, e4, lw_e, ← hw4, dg_0_9 tc4.1, f5, bnd_s]
    unfold fX6_textsBy_51
    rw [bit_ev, bit_ev, bnd_s, bnd_s, lt_e, lt_e, nI_1]
    rw [orS_s] at f6
    by_cases hz : foS (evt v) f N 0 (thM w i) = -1
    · have hb : (if pX evt f N (thM w i) v = true then bitq v else 0) = ((if (1 : Int32) = 0 then (0 : Int32) else 1) <<< (nI v &&& 31)) := by
        have := bit_sh (v := v) (by omega) (c := True)
        simp only [if_true] at this
        unfold pX
        rw [if_pos (decide_eq_true hz), if_neg (by decide), this]
      rw [hb] at f6
      rw [if_pos hz]
      exact f6
    · have hb : (if pX evt f N (thM w i) v = true then bitq v else 0) = ((if (0 : Int32) = 0 then (0 : Int32) else 1) <<< (nI v &&& 31)) := by
        unfold pX
        rw [if_neg (fun z => hz (of_decide_eq_true z)), if_pos rfl, sh0 v (by omega)]
      rw [hb] at f6
      rw [if_neg hz]
      exact f6
theorem cn_s (p : Nat → Bool) (v : Nat) : cnN p (v + 1) = cnN p v + (if p v = true then 1 else 0) := rfl
theorem lw_s (p : Nat → Bool) (v : Nat) : lwS p (v + 1) = if lwS p v = -1 then (if p v = true then nI v else -1) else lwS p v := rfl
theorem wkC_loop {m tc rl tp i s N : Nat} {ev : Ev} {w : Wd} {f : Nat → Int32} {x3 : Int32} (h : Jn w m tc rl tp) (hr : Ru w rl ev) (hi : i < m) (hs : s < 4) (hf : SF w s N f) : ∀ (n v fu : Nat) (w2 : Wd), Ch SC w w2 → v + n = 1000 → n < fu → ∃ w', fX6_stepsBy_9 0 fu (some (42 + 2 * s)) (some (18 + i)) x3 (nI (cnN (pQ ev f N (thM w i) 4) v)) (lwS (pQ ev f N (thM w i) 4) v) (nI v) w2 = some (if x3 = 0 then nI (cnN (pQ ev f N (thM w i) 4) 1000) else lwS (pQ ev f N (thM w i) 4) 1000, w') ∧ Ch SC w w' := by
  have m6 := h.m6
  intro n
  induction n with
  | zero =>
    intro v fu w2 c hv hf2
    obtain ⟨fu, rfl⟩ : ∃ z, fu = z + 1 := ⟨fu - 1, by omega⟩
    have h1 : (999 : Int32) < nI v := nI_lt (a := 999) (by omega) (by omega)
    refine ⟨w2, ?_, c⟩
    rw [fX6_stepsBy_9]
    dsimp only
    rw [if_pos h1, show v = 1000 by omega]
    by_cases hx : x3 = 0
    · rw [if_pos hx, if_pos hx]
    · rw [if_neg hx, if_neg hx]
  | succ n ih =>
    intro v fu w2 c hv hf2
    obtain ⟨fu, rfl⟩ : ∃ z, fu = z + 1 := ⟨fu - 1, by omega⟩
    have h1 : ¬ (999 : Int32) < nI v := nI_nlt (a := 999) (by omega) (by omega)
    obtain ⟨w3, f3, tc3, c3⟩ := think_ev (hr.ch c (fun i k z => by unfold SC at z; omega)) (i := i) (by omega)
    rw [th_2 h hi c] at tc3
    have tc4 := tc3.put (q := 4) (v := nI v)
    have c4 : Ch SC w (sI w3 50 4 (nI v)) := (c.tr (c3.mono PT_SC)).tr (ch_sI (Or.inr (Or.inr (Or.inl ⟨rfl, by omega⟩))))
    obtain ⟨w5, f5, c5⟩ := fo_at hs hf c4 tc4
    obtain ⟨w6, f6, c6⟩ := ih (v + 1) fu w5 (c4.tr c5) (by omega) (by omega)
    refine ⟨w6, ?_, c6⟩
    rw [fX6_stepsBy_9]
    dsimp only
    rw [if_neg h1, f3, bnd_s, dg_0_9 tc3.1, lw_e, dg_0_9 tc4.1, f5, bnd_s]
    unfold fX6_stepsBy_59 fX6_stepsBy_61
    rw [nI_1, nI_1]
    rw [cn_s, lw_s] at f6
    by_cases hz : foS ev f N 0 (updT (thM w i) 4 (nI v)) = -1
    · have hp : pQ ev f N (thM w i) 4 v = true := decide_eq_true hz
      rw [if_pos hp, if_pos hp] at f6
      rw [if_pos hz]
      by_cases hl : lwS (pQ ev f N (thM w i) 4) v = -1
      · rw [if_pos hl] at f6 ⊢
        exact f6
      · rw [if_neg hl] at f6 ⊢
        exact f6
    · have hp : ¬ pQ ev f N (thM w i) 4 v = true := fun z => hz (of_decide_eq_true z)
      rw [if_neg hp, if_neg hp] at f6
      rw [if_neg hz]
      have e0 : cnN (pQ ev f N (thM w i) 4) v + 0 = cnN (pQ ev f N (thM w i) 4) v := rfl
      rw [e0] at f6
      by_cases hl : lwS (pQ ev f N (thM w i) 4) v = -1
      · rw [if_pos hl] at f6
        rw [hl]
        exact f6
      · rw [if_neg hl] at f6
        exact f6
def pB (ev : Ev) (f : Nat → Int32) (n : Nat) (w : Wd) (i : Nat) (v : Nat) : Bool := isP w i v && decide (foS ev f n 0 (thY w (gI w 56) i (nI v)) = -1)
theorem seC_loop {m tc rl tp i s N : Nat} {ev : Ev} {w : Wd} {f : Nat → Int32} {x3 : Int32} (h : Jn w m tc rl tp) (hr : Ru w rl ev) (hi : i < m) (hs : s < 4) (hf : SF w s N f) : ∀ (n v fu : Nat) (w2 : Wd), Ch SC w w2 → v + n = 256 → n < fu → ∃ w', fX6_setsBy_9 0 fu (some (42 + 2 * s)) (some (18 + i)) x3 (nI (cnN (pB ev f N w i) v)) (lwS (pB ev f N w i) v) (nI v) w2 = some (if x3 = 0 then nI (cnN (pB ev f N w i) 256) else lwS (pB ev f N w i) 256, w') ∧ Ch SC w w' := by
  have m6 := h.m6
  intro n
  induction n with
  | zero =>
    intro v fu w2 c hv hf2
    obtain ⟨fu, rfl⟩ : ∃ z, fu = z + 1 := ⟨fu - 1, by omega⟩
    have h1 : (256 : Int32) ≤ nI v := nI_le (a := 256) (by omega) (by omega)
    refine ⟨w2, ?_, c⟩
    rw [fX6_setsBy_9]
    dsimp only
    rw [if_pos h1, show v = 256 by omega]
    by_cases hx : x3 = 0
    · rw [if_pos hx, if_pos hx]
    · rw [if_neg hx, if_neg hx]
  | succ n ih =>
    intro v fu w2 c hv hf2
    obtain ⟨fu, rfl⟩ : ∃ z, fu = z + 1 := ⟨fu - 1, by omega⟩
    have h1 : ¬ (256 : Int32) ≤ nI v := nI_ge (b := 256) (by omega) (by omega)
    have h2 := h.ch c
    have ei : gI w2 (18 + i) 2 = gI w 58 (5 * i + 1) := by rw [c.I (by unfold SC; omega)]; exact h.ties hi
    have no : ∀ w5 : Wd, Ch SC w w5 → ¬ pB ev f N w i v = true → ∃ w', fX6_setsBy_9 0 fu (some (42 + 2 * s)) (some (18 + i)) x3 (nI (cnN (pB ev f N w i) v)) (lwS (pB ev f N w i) v) (nI (v + 1)) w5 = some (if x3 = 0 then nI (cnN (pB ev f N w i) 256) else lwS (pB ev f N w i) 256, w') ∧ Ch SC w w' := by
      intro w5 c5 hp
      obtain ⟨w6, f6, c6⟩ := ih (v + 1) fu w5 c5 (by omega) (by omega)
      refine ⟨w6, ?_, c6⟩
      rw [cn_s, lw_s, if_neg hp, if_neg hp] at f6
      have e0 : cnN (pB ev f N w i) v + 0 = cnN (pB ev f N w i) v := rfl
      rw [e0] at f6
      by_cases hl : lwS (pB ev f N w i) v = -1
      · rw [if_pos hl] at f6
        rw [hl]
        exact f6
      · rw [if_neg hl] at f6
        exact f6
    rw [fX6_setsBy_9]
    dsimp only
    rw [if_neg h1, dr_at h2.S.1 (kd_wk (by omega)), ei, part_ev, bnd_s]
    unfold fX6_setsBy_64 fX6_setsBy_66
    rw [nI_1, nI_1]
    by_cases hq : (nI v &&& (gI w 58 (5 * i + 1) ^^^ (-1 : Int32))) = 0
    · have hq2 := isP_t.mpr hq
      obtain ⟨w3, f3, tc3, c3⟩ := thinkTold_ev (hr.ch c (fun i k z => by unfold SC at z; omega)) (i := i) (by omega) (nI v)
      rw [st_2 h hi c] at tc3
      have c3' : Ch SC w w3 := c.tr (c3.mono PT_SC)
      obtain ⟨w5, f5, c5⟩ := fo_at hs hf c3' tc3
      rw [if_pos hq, if_neg (by decide), f3, bnd_s, dg_0_9 tc3.1, f5, bnd_s]
      by_cases hz : foS ev f N 0 (thY w (gI w 56) i (nI v)) = -1
      · have hp : pB ev f N w i v = true := by
          unfold pB
          rw [hq2, decide_eq_true hz]
          rfl
        obtain ⟨w6, f6, c6⟩ := ih (v + 1) fu w5 (c3'.tr c5) (by omega) (by omega)
        rw [cn_s, lw_s, if_pos hp, if_pos hp] at f6
        rw [if_pos hz]
        refine ⟨w6, ?_, c6⟩
        by_cases hl : lwS (pB ev f N w i) v = -1
        · rw [if_pos hl] at f6 ⊢
          exact f6
        · rw [if_neg hl] at f6 ⊢
          exact f6
      · rw [if_neg hz]
        refine no w5 (c3'.tr c5) (fun z => hz ?_)
        unfold pB at z
        rw [hq2, Bool.true_and] at z
        exact of_decide_eq_true z
    · rw [if_neg hq, if_pos rfl]
      refine no w2 c (fun z => hq (isP_t.mp ?_))
      unfold pB at z
      revert z
      cases isP w i v <;> simp
