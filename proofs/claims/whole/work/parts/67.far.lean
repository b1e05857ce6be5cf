/-! what to tell: spare, far, least -/
theorem st_2 {w w2 : Wd} {m tc rl tp i : Nat} (h : Jn w m tc rl tp) (hi : i < m) (c : Ch SC w w2) (told : Int32) : thC w2 (gI w2 1) i told = thY w (gI w 56) i told := by
  have h2 := h.ch c
  rw [(h2.thy hi (g := gI w2 1) (H := gI w 56) (fun t ht => by rw [c.I (by unfold SC; omega)]; exact (h.hv t ht).1) told).1, thY_ch c (fun i k z => by unfold SC at z; omega)]
theorem bit_and {X Y : Int32} {t : Nat} (ht : t < 32) : ((Y &&& X) &&& ((1 : Int32) <<< (nI t &&& 31))) = 0 ↔ ¬ hasB (X &&& Y) t := by
  rw [hasB_bt ht, b_and]
  constructor
  · intro h z
    have h1 := b_0 t
    rw [← h, b_and, b_and, b_shl t ht 1 ht, Nat.sub_self, b_1 0 (by omega)] at h1
    simp at z h1
    rw [h1 z.2] at z
    simp at z
  · intro h
    refine b_ext (fun j hj => ?_)
    rw [b_0, b_and, b_and, b_shl t ht 1 hj]
    by_cases hjt : j = t
    · subst hjt
      revert h
      cases bt X j <;> cases bt Y j <;> simp
    · by_cases hle : t ≤ j
      · rw [b_1 (j - t) (by omega)]
        have : ¬ j - t = 0 := by omega
        simp [this]
      · simp [hle]
def spS (s : Int32) (g : Nat → Int32) (st : Int32) : Nat → Nat → Int32 → Int32
  | 0, _, acc => acc
  | n + 1, t, acc => if hasB s t then (if g t < st then spS s g st n (t + 1) acc else spS s g st n (t + 1) (acc ||| ((1 : Int32) <<< (nI t &&& 31)))) else spS s g st n (t + 1) acc
/-- steps behind N days, were that told -/
def gT (ev : Ev) (N : Nat) (w : Wd) (i : Nat) (told : Int32) : Int32 := daysS ev N (thY w (gI w 56) i told) 4
def offB (y : Int32) (t : Nat) : Int32 := y &&& (((1 : Int32) <<< (nI t &&& 31)) ^^^ (-1 : Int32))
theorem spC_loop {m tc rl tp i N : Nat} {ev : Ev} {w : Wd} {st : Int32} (h : Jn w m tc rl tp) (hr : Ru w rl ev) (hi : i < m) (hN : N ≤ 40) : ∀ (n t fu : Nat) (w2 : Wd) (acc : Int32), Ch SC w w2 → t + n = 8 → n < fu → ∃ w', fX6_spare_41 0 fu (nI N) (some (18 + i)) st acc (nI t) w2 = some (spS (gI w 58 (5 * i + 1) &&& gI w 58 (5 * i + 2)) (fun t => gT ev N w i (offB (gI w 58 (5 * i + 2)) t)) st n t acc, w') ∧ Ch SC w w' := by
  have m6 := h.m6
  intro n
  induction n with
  | zero =>
    intro t fu w2 acc c ht hf
    obtain ⟨fu, rfl⟩ : ∃ z, fu = z + 1 := ⟨fu - 1, by omega⟩
    have h1 : (8 : Int32) ≤ nI t := nI_le (a := 8) (by omega) (by omega)
    refine ⟨w2, ?_, c⟩
    rw [fX6_spare_41]
    dsimp only
    rw [if_pos h1]
    rfl
  | succ n ih =>
    intro t fu w2 acc c ht hf
    obtain ⟨fu, rfl⟩ : ∃ z, fu = z + 1 := ⟨fu - 1, by omega⟩
    have h1 : ¬ (8 : Int32) ≤ nI t := nI_ge (b := 8) (by omega) (by omega)
    have h2 := h.ch c
    have et : gI w2 (18 + i) 3 = gI w 58 (5 * i + 2) := by rw [c.I (by unfold SC; omega)]; exact h.told hi
    have ei : gI w2 (18 + i) 2 = gI w 58 (5 * i + 1) := by rw [c.I (by unfold SC; omega)]; exact h.ties hi
    rw [fX6_spare_41]
    dsimp only
    rw [if_neg h1, dr_at h2.S.1 (kd_wk (by omega)), ei, et, has_ev, bnd_s, spS]
    unfold fX6_spare_103
    rw [nI_1]
    by_cases hb : hasB (gI w 58 (5 * i + 1) &&& gI w 58 (5 * i + 2)) t
    · obtain ⟨w3, f3, tc3, c3⟩ := thinkTold_ev (hr.ch c (fun i k z => by unfold SC at z; omega)) (i := i) (by omega) (offB (gI w 58 (5 * i + 2)) t)
      rw [st_2 h hi c] at tc3
      obtain ⟨w4, f4, c4⟩ := step_ev tc3 hN
      have f3 : fX6_thinkTold 0 (some (18 + i)) (gI w 58 (5 * i + 2) &&& (((1 : Int32) <<< (nI t &&& 31)) ^^^ (-1 : Int32))) w2 = some ((), w3) := f3
      have f4 : fX4_stepBehind 50 (nI N) w3 = some (gT ev N w i (offB (gI w 58 (5 * i + 2)) t), w4) := f4
      have c5 := c.tr ((c3.tr (c4.mono PD_PT)).mono PT_SC)
      rw [if_pos hb, if_pos hb, if_neg (by decide), et, f3, bnd_s, dg_0_9 tc3.1, f4, bnd_s, lt_e]
      by_cases hk : gT ev N w i (offB (gI w 58 (5 * i + 2)) t) < st
      · rw [if_pos hk, if_pos hk]
        exact ih (t + 1) fu w4 acc c5 (by omega) (by omega)
      · rw [if_neg hk, if_neg hk]
        exact ih (t + 1) fu w4 _ c5 (by omega) (by omega)
    · rw [if_neg hb, if_neg hb, if_pos rfl]
      exact ih (t + 1) fu w2 acc c (by omega) (by omega)
/-- what a trial of the model may change: what one has told, too -/
def PQt (i : Nat) (a k : Nat) : Prop := PM a k ∨ (a = 58 ∧ k = 5 * i + 2)
theorem mt_ev {m tc rl tp i N : Nat} {ev : Ev} {w w2 : Wd} (h : Jn w m tc rl tp) (hr : Rm w rl ev) (hi : i < m) (hN : N ≤ 40) (c : Ch (PQt i) w w2) : ∃ w', fX7_stepBehind 52 (nI i) (nI N) w2 = some (gT ev N w i (gI w2 58 (5 * i + 2)), w') ∧ Ch PG w2 w' := by
  have m6 := h.m6
  have et : thM w2 i = thY w (gI w 56) i (gI w2 58 (5 * i + 2)) := thM_thY (fun t _ => by rw [c.I (by unfold PQt PM; omega)]) rfl (fun q _ _ => c.I (by unfold PQt PM; omega)) (c.I (by unfold PQt PM; omega)) (c.I (by unfold PQt PM; omega))
  have hRT : RT (thM w2 i) := by rw [et]; exact (h.thy hi (fun t _ => rfl) _).2
  obtain ⟨w3, f3, c3⟩ := mstep_ev (n := N) (hr.ch c (fun a k z => by unfold PQt PM at z; omega)) (p := i) (by omega) hRT hN
  rw [et] at f3
  exact ⟨w3, f3, c3⟩
theorem pqt_back {m tc rl tp i : Nat} {w w2 : Wd} (h : Jn w m tc rl tp) (c : Ch (PQt i) w w2) : Ch PM w (sI w2 58 (5 * i + 2) (gI w 58 (5 * i + 2))) := by
  refine Ch.outB (Q := fun a k => a = 58 ∧ k = 5 * i + 2) (c.tr (ch_sI (Or.inr ⟨rfl, rfl⟩))) (fun a k z => ?_) (fun a k z => by omega)
  rw [gI_sI, if_pos z, z.1, z.2]
theorem spM_loop {m tc rl tp i N : Nat} {ev : Ev} {w : Wd} {st : Int32} (h : Jn w m tc rl tp) (hr : Rm w rl ev) (hi : i < m) (hN : N ≤ 40) : ∀ (n t fu : Nat) (w2 : Wd) (acc : Int32), Ch (PQt i) w w2 → t + n = 8 → n < fu → ∃ w', fX7_spare_48 52 fu (nI i) (nI N) (gI w 58 (5 * i + 2)) st acc (nI t) w2 = some (spS (gI w 58 (5 * i + 1) &&& gI w 58 (5 * i + 2)) (fun t => gT ev N w i (offB (gI w 58 (5 * i + 2)) t)) st n t acc, w') ∧ Ch PM w w' := by
  have m6 := h.m6
  have n1 : (5 : Int32) * nI i + 1 = nI (5 * i + 1) := by rw [m5, nI_1]
  have n2 : (5 : Int32) * nI i + 2 = nI (5 * i + 2) := by rw [m5]; exact nI_add (5 * i) 2
  have k1 : (nI (5 * i + 1)).toNatClampNeg = 5 * i + 1 := nI_clamp (by omega)
  have k2 : (nI (5 * i + 2)).toNatClampNeg = 5 * i + 2 := nI_clamp (by omega)
  intro n
  induction n with
  | zero =>
    intro t fu w2 acc c ht hf
    obtain ⟨fu, rfl⟩ : ∃ z, fu = z + 1 := ⟨fu - 1, by omega⟩
    have h1 : (8 : Int32) ≤ nI t := nI_le (a := 8) (by omega) (by omega)
    refine ⟨_, ?_, pqt_back h c⟩
    rw [fX7_spare_48]
    dsimp only
    rw [if_pos h1, dg_52_10 (c.St h.S), n2, grd_t (by rw [ln_58]; exact vin_nI (by omega) (by omega)), k2, lw_e]
    rfl
  | succ n ih =>
    intro t fu w2 acc c ht hf
    obtain ⟨fu, rfl⟩ : ∃ z, fu = z + 1 := ⟨fu - 1, by omega⟩
    have h1 : ¬ (8 : Int32) ≤ nI t := nI_ge (b := 8) (by omega) (by omega)
    have hS2 := c.St h.S
    have ei : gI w2 58 (nI (5 * i + 1)).toNatClampNeg = gI w 58 (5 * i + 1) := by rw [k1, c.I (by unfold PQt PM; omega)]
    rw [fX7_spare_48]
    dsimp only
    rw [if_neg h1, dg_52_10 hS2, n1, grd_t (by rw [ln_58]; exact vin_nI (by omega) (by omega)), ei, spS]
    unfold fX7_spare_117
    rw [nI_1]
    by_cases hb : hasB (gI w 58 (5 * i + 1) &&& gI w 58 (5 * i + 2)) t
    · have hb2 : ¬ ((gI w 58 (5 * i + 2) &&& gI w 58 (5 * i + 1)) &&& ((1 : Int32) <<< (nI t &&& 31))) = 0 := fun z => (bit_and (by omega)).mp z hb
      obtain ⟨w3, hw3⟩ : ∃ z, z = sI w2 58 (5 * i + 2) (offB (gI w 58 (5 * i + 2)) t) := ⟨_, rfl⟩
      have hw3' : sI w2 58 (nI (5 * i + 2)).toNatClampNeg (gI w 58 (5 * i + 2) &&& (((1 : Int32) <<< (nI t &&& 31)) ^^^ (-1 : Int32))) = w3 := by rw [k2, hw3]; rfl
      have c3 : Ch (PQt i) w w3 := c.tr (by rw [hw3]; exact ch_sI (Or.inr ⟨rfl, rfl⟩))
      obtain ⟨w4, f4, c4⟩ := mt_ev h hr hi hN c3
      have e3 : gI w3 58 (5 * i + 2) = offB (gI w 58 (5 * i + 2)) t := by rw [hw3, gI_sI, if_pos ⟨rfl, rfl⟩]
      rw [e3] at f4
      have c5 : Ch (PQt i) w w4 := c3.tr (c4.mono (fun a k z => Or.inl (PG_PM a k z)))
      rw [if_neg hb2, if_pos hb, dg_52_10 hS2, n2, grd_t (by rw [ln_58]; exact vin_nI (by omega) (by omega)), lw_e, hw3', f4, bnd_s]
      unfold fX7_spare_114 fX7_spare_117
      rw [nI_1, lt_e, lt_e]
      by_cases hk : gT ev N w i (offB (gI w 58 (5 * i + 2)) t) < st
      · rw [if_pos hk, if_pos hk, Int32.or_zero]
        exact ih (t + 1) fu w4 acc c5 (by omega) (by omega)
      · rw [if_neg hk, if_neg hk]
        exact ih (t + 1) fu w4 _ c5 (by omega) (by omega)
    · rw [if_neg hb, if_pos ((bit_and (by omega)).mpr hb)]
      exact ih (t + 1) fu w2 acc c (by omega) (by omega)
theorem gT_ch {ev : Ev} {N i : Nat} {w w' : Wd} (c : Ch SC w w') : gT ev N w' i = gT ev N w i := by
  have e56 : gI w' 56 = gI w 56 := funext (fun k => c.I (by unfold SC; omega))
  funext told
  unfold gT
  rw [e56, thY_ch c (fun i k z => by unfold SC at z; omega)]
theorem spare_agree (a0 a1 : Int32) : Agree JJ (fX6_spare 0 a0 a1) (fX7_spare 52 a0 a1) := by
  rintro w ⟨m, tc, rl, tp, h⟩
  have e40 : (40 : Int32).toInt64 = (40 : Int64) := by decide
  have J : JJ w := ⟨m, tc, rl, tp, h⟩
  have m6 := h.m6
  rcases one_at h a0 with ⟨i, hi, rfl, e1, e2⟩ | ⟨e1, e2⟩
  · by_cases hd : 0 ≤ a1 ∧ a1 ≤ (40 : Int32)
    · obtain ⟨N, hN, rfl⟩ := (in0n (n := 40) (by omega)).mp hd
      obtain ⟨ev, r1, r2⟩ := h.ru
      have n2 : (5 : Int32) * nI i + 2 = nI (5 * i + 2) := by rw [m5]; exact nI_add (5 * i) 2
      have k2 : (nI (5 * i + 2)).toNatClampNeg = 5 * i + 2 := nI_clamp (by omega)
      obtain ⟨w1, f1, tc1, c1⟩ := think_ev r1 (i := i) (by omega)
      rw [(h.th hi).1, thM_self] at tc1
      obtain ⟨w2, f2, c2⟩ := step_ev tc1 hN
      have f2 : fX4_stepBehind 50 (nI N) w1 = some (gT ev N w i (gI w 58 (5 * i + 2)), w2) := f2
      have c12 := (c1.tr (c2.mono PD_PT)).mono PT_SC
      obtain ⟨w3, f3, c3⟩ := spC_loop (st := gT ev N w i (gI w 58 (5 * i + 2))) h r1 hi hN 8 0 FU w2 0 c12 (by omega) (show 8 < 2000 by omega)
      have h3 := h.ch c3
      have r3 := r2.ch c3 (fun i k z => by unfold SC at z; omega)
      obtain ⟨w4, f4, c4⟩ := mt_ev h3 r3 hi hN Ch.rf
      have e58 : ∀ k, gI w3 58 k = gI w 58 k := fun k => c3.I (by unfold SC; omega)
      rw [gT_ch c3, e58] at f4
      obtain ⟨w5, f5, c5⟩ := spM_loop (st := gT ev N w i (gI w 58 (5 * i + 2))) h3 r3 hi hN 8 0 FU w4 0 (c4.mono (fun a k z => Or.inl (PG_PM a k z))) (by omega) (show 8 < 2000 by omega)
      rw [gT_ch c3, e58, e58] at f5
      refine ⟨spS (gI w 58 (5 * i + 1) &&& gI w 58 (5 * i + 2)) (fun t => gT ev N w i (offB (gI w 58 (5 * i + 2)) t)) (gT ev N w i (gI w 58 (5 * i + 2))) 8 0 0, w3, w5, ?_, ?_, m, tc, rl, tp, h3.ch (c5.mono PM_SC)⟩
      · unfold fX6_spare
        rw [e1, bnd_s, ifn_some, days_ev, bnd_s, w01, if_pos hd, f1, bnd_s, dg_0_9 tc1.1, f2, bnd_s]
        exact f3
      · unfold fX7_spare
        rw [atM h3.c11 m6 hi, bnd_s, if_neg (by decide), in0l e40, bnd_s, w01, if_pos hd, dg_52_10 h3.S, n2, grd_t (by rw [ln_58]; exact vin_nI (by omega) (by omega)), k2, lt_e, f4, bnd_s, e58]
        exact f5
    · refine ⟨-2, w, w, ?_, ?_, J⟩
      · unfold fX6_spare
        rw [e1, bnd_s, ifn_some, days_ev, bnd_s, w01, if_neg hd]
      · unfold fX7_spare
        rw [e2, bnd_s, if_neg (by decide), in0l e40, bnd_s, w01, if_neg hd]
  · refine ⟨-2, w, w, ?_, ?_, J⟩
    · unfold fX6_spare
      rw [e1, bnd_s, ifn_none]
    · unfold fX7_spare
      rw [e2, bnd_s, if_pos rfl]
