/-! the model's text, and loops of it that are left -/
theorem mev_of {b : Nat → Int32} {z t : Nat} {w : Wd} {ev : Ev} {c0 c1 c2 : List Int32} (hz : z ≤ 160) (ht : t < 6) (hb : ∀ k, k < z → 0 ≤ b k) (h54 : gI w 54 t = nI z) (h53 : ∀ k, k < z → gI w 53 (160 * t + k) = b k) (hp : pText b z = .inr (c0, c1, c2, ev)) : MEv w t ev := by
  intro w1 p hp3 hS e53 e54
  obtain ⟨v, w2, e, r, c⟩ := read_ev (p := p) hS hz ht hp3 hb (by rw [e54]; exact h54) (fun k hk => by rw [e53 k (by omega)]; exact h53 k hk)
  rw [hp] at r
  exact ⟨w2, by rw [e, r.2], c⟩
theorem mfo_loop {p rl s : Nat} (hs : s < 4) {ev : Ev} {N : Nat} (hN : N ≤ 40) {f : Nat → Int32} : ∀ (n i fu : Nat) (w : Wd) (th : Nat → Int32), Tm w th p rl ev → RT th → gI w 64 s = nI N → (∀ q, q < N → gI w 65 (40 * s + q) = f q) → i + n = N → n < fu → ∃ w', fX7_firstOther_7 52 fu (nI s) (nI p) (nI i) w = some (foS ev f n i th, w') ∧ Ch PG w w' := by
  intro n
  induction n with
  | zero =>
    intro i fu w th h hr h64 hf hi hfu
    obtain ⟨fu, rfl⟩ : ∃ z, fu = z + 1 := ⟨fu - 1, by omega⟩
    have h1 : nI N ≤ nI i := nI_le (by omega) (by omega)
    have cs : (nI s).toNatClampNeg = s := nI_clamp (by omega)
    rw [fX7_firstOther_7]
    dsimp only
    rw [dg_52_44 h.1, grd_t (by rw [ln_64]; exact vin_nI hs (by omega)), cs, h64, if_pos h1]
    exact ⟨w, rfl, Ch.rf⟩
  | succ n ih =>
    intro i fu w th h hr h64 hf hi hfu
    obtain ⟨fu, rfl⟩ : ∃ z, fu = z + 1 := ⟨fu - 1, by omega⟩
    have h1 : ¬ nI N ≤ nI i := nI_ge (by omega) (by omega)
    have cs : (nI s).toNatClampNeg = s := nI_clamp (by omega)
    have ci : (nI (40 * s + i)).toNatClampNeg = 40 * s + i := nI_clamp (by omega)
    have m40 : (40 : Int32) * nI s + nI i = nI (40 * s + i) := by
      have : (40 : Int32) * nI s = nI (40 * s) := pk_mul 40 s
      rw [this, nI_add]
    obtain ⟨w1, e1, t1, c1⟩ := goes_ev h hr
    rw [fX7_firstOther_7]
    dsimp only
    rw [dg_52_44 h.1, grd_t (by rw [ln_64]; exact vin_nI hs (by omega)), cs, h64, if_neg h1, e1, bnd_s, dg_52_45 t1.1, m40, grd_t (by rw [ln_65]; exact vin_nI (by omega) (by omega)), ci, t1.step, c1.I (by unfold PG; omega), hf i (by omega), foS]
    by_cases hk : dayS ev th 4 = f i
    · rw [if_pos hk, if_pos hk, nI_1]
      obtain ⟨w3, e3, c3⟩ := ih (i + 1) fu w1 (dayS ev th) t1 hr.d (by rw [c1.I (by unfold PG; omega)]; exact h64) (fun q hq => by rw [c1.I (by unfold PG; omega)]; exact hf q hq) (by omega) (by omega)
      exact ⟨w3, e3, c1.tr c3⟩
    · rw [if_neg hk, if_neg hk]
      exact ⟨w1, rfl, c1⟩
theorem mfo_ev {w : Wd} {p rl s n : Nat} {ev : Ev} {f : Nat → Int32} (h : Rm w rl ev) (hp : p < 6) (hr : RT (thM w p)) (hs : s < 4) (hn : n ≤ 40) (h64 : gI w 64 s = nI n) (hf : ∀ q, q < n → gI w 65 (40 * s + q) = f q) : ∃ w', fX7_firstOther 52 (nI s) (nI p) w = some (foS ev f n 0 (thM w p), w') ∧ Ch PG w w' := by
  obtain ⟨w1, e1, t1, c1⟩ := begins_ev h hp
  obtain ⟨w2, e2, c2⟩ := mfo_loop (N := n) (f := f) hs hn n 0 FU w1 _ t1 hr (by rw [c1.I (by unfold PB; omega)]; exact h64) (fun q hq => by rw [c1.I (by unfold PB; omega)]; exact hf q hq) (by omega) (by show n < 2000; omega)
  refine ⟨w2, ?_, (c1.mono PB_PG).tr c2⟩
  unfold fX7_firstOther
  rw [e1, bnd_s]
  exact e2
theorem thM_ch {P : Nat → Nat → Prop} {w w' : Wd} (hc : Ch P w w') (hP : ∀ i k, P i k → i ≠ 56 ∧ i ≠ 57 ∧ i ≠ 58 ∧ ¬ (i = 52 ∧ k = 7)) (p : Nat) : thM w' p = thM w p := by
  have e56 : gI w' 56 = gI w 56 := funext (fun k => hc.I (fun z => (hP _ _ z).1 rfl))
  have e57 : ∀ k, gI w' 57 k = gI w 57 k := fun k => hc.I (fun z => (hP _ _ z).2.1 rfl)
  have e58 : ∀ k, gI w' 58 k = gI w 58 k := fun k => hc.I (fun z => (hP _ _ z).2.2.1 rfl)
  have e7 : gI w' 52 7 = gI w 52 7 := hc.I (fun z => (hP _ _ z).2.2.2 ⟨rfl, rfl⟩)
  unfold thM
  rw [e56, e57, e58, e58, e58, e58, e58, e7]
/-- a sum over walkers -/
def abS (g : Nat → Int32) : Nat → Nat → Int32 → Int32
  | 0, _, a => a
  | n + 1, i, a => abS g n (i + 1) (a + g i)
theorem mall_loop {rl : Nat} {ev : Ev} {N M : Nat} (hN : N ≤ 40) (hM : M ≤ 6) {g : Nat → Int32} : ∀ (n i fu : Nat) (w : Wd) (a : Int32), Rm w rl ev → gI w 52 11 = nI M → (∀ q, q < M → RT (thM w q) ∧ g q = daysS ev N (thM w q) 4) → i + n = M → n < fu → ∃ w', fX7_allBehind_4 52 fu (nI N) a (nI i) w = some (abS g n i a, w') ∧ Ch PG w w' := by
  intro n
  induction n with
  | zero =>
    intro i fu w a h h11 hr hi hf
    obtain ⟨fu, rfl⟩ : ∃ z, fu = z + 1 := ⟨fu - 1, by omega⟩
    have h1 : nI M ≤ nI i := nI_le (by omega) (by omega)
    rw [fX7_allBehind_4]
    dsimp only
    rw [h11, if_pos h1]
    exact ⟨w, rfl, Ch.rf⟩
  | succ n ih =>
    intro i fu w a h h11 hr hi hf
    obtain ⟨fu, rfl⟩ : ∃ z, fu = z + 1 := ⟨fu - 1, by omega⟩
    have h1 : ¬ nI M ≤ nI i := nI_ge (by omega) (by omega)
    obtain ⟨r1, r2⟩ := hr i (by omega)
    obtain ⟨w1, e1, c1⟩ := mstep_ev (n := N) h (by omega) r1 hN
    have hP : ∀ i k, PG i k → i ≠ 56 ∧ i ≠ 57 ∧ i ≠ 58 ∧ ¬ (i = 52 ∧ k = 7) := fun i k z => by unfold PG at z; omega
    obtain ⟨w2, e2, c2⟩ := ih (i + 1) fu w1 (a + g i) (h.ch c1 (fun i k z => by unfold PG at z; omega)) (by rw [c1.I (by unfold PG; omega)]; exact h11) (fun q hq => by rw [thM_ch c1 hP]; exact hr q hq) (by omega) (by omega)
    refine ⟨w2, ?_, c1.tr c2⟩
    rw [fX7_allBehind_4]
    dsimp only
    rw [h11, if_neg h1, e1, bnd_s, lt_e, nI_1, ← r2]
    exact e2
theorem mall_ev {w : Wd} {rl N M : Nat} {ev : Ev} {g : Nat → Int32} (h : Rm w rl ev) (hN : N ≤ 40) (hM : M ≤ 6) (h11 : gI w 52 11 = nI M) (hr : ∀ q, q < M → RT (thM w q) ∧ g q = daysS ev N (thM w q) 4) : ∃ w', fX7_allBehind 52 (nI N) w = some (abS g M 0 0, w') ∧ Ch PG w w' := by
  obtain ⟨w', e, c⟩ := mall_loop hN hM M 0 FU w 0 h h11 hr (by omega) (by show M < 2000; omega)
  exact ⟨w', e, c⟩
