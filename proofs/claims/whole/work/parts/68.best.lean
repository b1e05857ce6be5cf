/-! what to tell: the best of all sets -/
theorem fill_loop {a : Nat} {v : Int32} {L : Nat} (ha : a < 66 ∧ kd a = 8) (hL : ln a = L) (hL2 : L < 1000) : ∀ (n i fu : Nat) (w : Wd), wn w = 66 → i + n = L → n < fu → ∃ w', fJ7_fill_53178_5 fu (some a) v (nI i) (nI L) w = some ((), w') ∧ (∀ k, i ≤ k → k < L → gI w' a k = v) ∧ (∀ k, k < i → gI w' a k = gI w a k) ∧ Ch (fun b k => b = a ∧ k < L) w w' := by
  intro n
  induction n with
  | zero =>
    intro i fu w hw hi hf
    obtain ⟨fu, rfl⟩ : ∃ z, fu = z + 1 := ⟨fu - 1, by omega⟩
    have h1 : nI L ≤ nI i := nI_le (by omega) (by omega)
    refine ⟨w, ?_, fun k x y => by omega, fun k x => rfl, Ch.rf⟩
    rw [fJ7_fill_53178_5]
    dsimp only
    rw [if_pos h1]
  | succ n ih =>
    intro i fu w hw hi hf
    obtain ⟨fu, rfl⟩ : ∃ z, fu = z + 1 := ⟨fu - 1, by omega⟩
    have h1 : ¬ nI L ≤ nI i := nI_ge (by omega) (by omega)
    have ci : (nI i).toNatClampNeg = i := nI_clamp (by omega)
    obtain ⟨w1, hw1⟩ : ∃ z, z = sI w a i v := ⟨_, rfl⟩
    have hw1' : sI w a (nI i).toNatClampNeg v = w1 := by rw [ci, hw1]
    have c1 : Ch (fun b k => b = a ∧ k < L) w w1 := by rw [hw1]; exact ch_sI ⟨rfl, by omega⟩
    obtain ⟨w2, e2, q2, q3, c2⟩ := ih (i + 1) fu w1 (c1.1.trans hw) (by omega) (by omega)
    refine ⟨w2, ?_, fun k x y => ?_, fun k x => ?_, c1.tr c2⟩
    · rw [fJ7_fill_53178_5]
      dsimp only
      rw [if_neg h1, dr_at hw ha, grd_t (by rw [hL]; exact vin_nI (by omega) (by omega)), lw_e, hw1', nI_1]
      exact e2
    · by_cases hk : k = i
      · rw [hk, q3 i (by omega), hw1, gI_sI, if_pos ⟨rfl, rfl⟩]
      · exact q2 k (by omega) y
    · rw [q3 k (by omega), hw1, gI_sI, if_neg (by omega)]
theorem fill_ev {a : Nat} {v : Int32} {L : Nat} (ha : a < 66 ∧ kd a = 8) (hL : ln a = L) (hL2 : L < 1000) {w : Wd} (hw : wn w = 66) : ∃ w', fJ7_fill_53178 (some a) v w = some ((), w') ∧ (∀ k, k < L → gI w' a k = v) ∧ Ch (fun b k => b = a ∧ k < L) w w' := by
  obtain ⟨w', e, q, -, c⟩ := fill_loop (v := v) ha hL hL2 L 0 FU w hw (by omega) (show L < 2000 by omega)
  refine ⟨w', ?_, fun k hk => q k (by omega) hk, c⟩
  unfold fJ7_fill_53178
  rw [dr_at hw ha, lt_e, hL]
  exact e
theorem wS_split {h : Nat → Int32} {ti b : Int32} : ∀ n, n ≤ 32 → wS h (ti &&& b) n + wS h (ti &&& (b ^^^ (-1))) n = wS h ti n
  | 0, _ => rfl
  | n + 1, hn => by
    have ih := wS_split (h := h) (ti := ti) (b := b) n (by omega)
    have a1 : hasB (ti &&& b) n ↔ (hasB ti n ∧ hasB b n) := by
      rw [hasB_bt (by omega), hasB_bt (by omega), hasB_bt (by omega), b_and]
      cases bt ti n <;> cases bt b n <;> simp
    have a2 : hasB (ti &&& (b ^^^ (-1))) n ↔ (hasB ti n ∧ ¬ hasB b n) := by
      rw [hasB_bt (by omega), hasB_bt (by omega), hasB_bt (by omega), b_and, b_xor, b_m1 n (by omega)]
      cases bt ti n <;> cases bt b n <;> simp
    show (if hasB (ti &&& b) n then wS h (ti &&& b) n + h n else wS h (ti &&& b) n) + (if hasB (ti &&& (b ^^^ (-1))) n then wS h (ti &&& (b ^^^ (-1))) n + h n else wS h (ti &&& (b ^^^ (-1))) n) = (if hasB ti n then wS h ti n + h n else wS h ti n)
    by_cases c1 : hasB ti n
    · rw [if_pos c1, ← ih]
      by_cases c2 : hasB b n
      · rw [if_pos (a1.mpr ⟨c1, c2⟩), if_neg (fun z => (a2.mp z).2 c2), Int32.add_assoc, Int32.add_comm (h n), ← Int32.add_assoc]
      · rw [if_neg (fun z => c2 (a1.mp z).2), if_pos (a2.mpr ⟨c1, c2⟩), Int32.add_assoc]
    · rw [if_neg c1, if_neg (fun z => c1 (a1.mp z).1), if_neg (fun z => c1 (a2.mp z).1), ih]
theorem wS_nI {h : Nat → Int32} {s : Int32} : ∀ n, n ≤ 8 → (∀ t, t < 8 → Ra (h t) 99) → ∃ v, v ≤ 99 * n ∧ wS h s n = nI v
  | 0, _, _ => ⟨0, by omega, rfl⟩
  | n + 1, hn, hh => by
    obtain ⟨v, hv, e⟩ := wS_nI (h := h) (s := s) n (by omega) hh
    obtain ⟨u, hu, eu⟩ := hh n (by omega)
    by_cases hb : hasB s n
    · refine ⟨v + u, by omega, ?_⟩
      show (if hasB s n then wS h s n + h n else wS h s n) = _
      rw [if_pos hb, e, eu, nI_add]
    · refine ⟨v, by omega, ?_⟩
      show (if hasB s n then wS h s n + h n else wS h s n) = _
      rw [if_neg hb, e]
/-- walker p in thought, by the weight that is told -/
def thV (w : Wd) (p : Nat) (tw : Int32) : Nat → Int32 := thW (gI w 57 p) (gI w 58 (5 * p)) tw (wS (gI w 56) (gI w 58 (5 * p + 1)) 8 - tw) (gI w 58 (5 * p + 3)) (gI w 58 (5 * p + 4)) (gI w 52 7)
theorem thY_thV {w : Wd} {p : Nat} {told : Int32} : thY w (gI w 56) p told = thV w p (wS (gI w 56) (gI w 58 (5 * p + 1) &&& told) 8) := by
  have h := wS_split (h := gI w 56) (ti := gI w 58 (5 * p + 1)) (b := told) 8 (by omega)
  rw [Int32.add_comm] at h
  unfold thY thV
  rw [Int32.eq_sub_iff_add_eq.mpr h]
/-- the weight that is told, of told bits -/
def tW (w : Wd) (i : Nat) (told : Int32) : Int32 := wS (gI w 56) (gI w 58 (5 * i + 1) &&& told) 8
/-- what was asked in this call: steps by weight -/
def Me (ev : Ev) (N : Nat) (w : Wd) (i : Nat) (w2 : Wd) : Prop := ∀ v, v < 793 → gI w2 7 v = -1 ∨ gI w2 7 v = daysS ev N (thV w i (nI v)) 4
theorem sit_ev {m tc rl tp i N : Nat} {ev : Ev} {w w2 : Wd} (h : Jn w m tc rl tp) (hr : Ru w rl ev) (hi : i < m) (hN : N ≤ 40) (c : Ch SC w w2) (hm : Me ev N w i w2) (told : Int32) : ∃ w', fX6_stepIfTold 0 (some (18 + i)) told (nI N) w2 = some (gT ev N w i told, w') ∧ gI w' 50 2 = tW w i told ∧ Me ev N w i w' ∧ Ch SC w w' := by
  have m6 := h.m6
  obtain ⟨w3, f3, tc3, c3⟩ := thinkTold_ev (hr.ch c (fun i k z => by unfold SC at z; omega)) (i := i) (by omega) told
  rw [st_2 h hi c] at tc3
  have c3' := c.tr (c3.mono PT_SC)
  have e2 : gI w3 50 2 = tW w i told := tc3.2.2.2.2 2 (by omega)
  have eg : gT ev N w i told = daysS ev N (thV w i (tW w i told)) 4 := by
    unfold gT
    rw [thY_thV]
    rfl
  obtain ⟨v, hv, ev0⟩ := wS_nI (h := gI w 56) (s := gI w 58 (5 * i + 1) &&& told) 8 (by omega) (fun t ht => by rw [← (h.hv t ht).1]; exact (h.hv t ht).2)
  have et : tW w i told = nI v := ev0
  have cv : (nI v).toNatClampNeg = v := nI_clamp (by omega)
  have hm3 : Me ev N w i w3 := fun u hu => by
    rw [c3.I (by unfold PT; omega)]
    exact hm u hu
  have hlt : nI v < Int32.ofNat 793 := nI_lt (b := 793) (by omega) (by omega)
  have hS3 := tc3.1
  have ez : gI w3 7 (nI v).toNatClampNeg = gI w3 7 v := by rw [cv]
  unfold fX6_stepIfTold fX6_stepIfTold_65
  rw [f3, bnd_s, dg_0_9 hS3, e2, lt_e, et, if_neg (nI_pos (by omega)), dg_0_10 hS3, ln_7, if_pos hlt, dg_0_10 hS3, grd_t (by rw [ln_7]; exact vin_nI (by omega) (by omega)), ez]
  by_cases hz : gI w3 7 v = -1
  · obtain ⟨w4, f4, c4⟩ := step_ev tc3 hN
    have f4 : fX4_stepBehind 50 (nI N) w3 = some (gT ev N w i told, w4) := f4
    have c4' := c3'.tr ((c4.mono PD_PT).mono PT_SC)
    have hS4 := c4'.St h.S
    obtain ⟨w5, hw5⟩ : ∃ z, z = sI w4 7 v (gT ev N w i told) := ⟨_, rfl⟩
    have hw5' : sI w4 7 (nI v).toNatClampNeg (gT ev N w i told) = w5 := by rw [cv, hw5]
    have e5 : gI w5 7 (nI v).toNatClampNeg = gT ev N w i told := by rw [cv, hw5, gI_sI, if_pos ⟨rfl, rfl⟩]
    have hS5 : St w5 := by rw [hw5]; exact St_sI hS4
    rw [if_pos hz, dg_0_9 hS3, f4, bnd_s, st_0_10 hS3, dk_7 hS4.1, grd_t (by rw [ln_7]; exact vin_nI (by omega) (by omega)), lw_e, hw5', dg_0_10 hS5, grd_t (by rw [ln_7]; exact vin_nI (by omega) (by omega)), e5]
    refine ⟨_, rfl, ?_, fun u hu => ?_, c4'.tr (by rw [hw5]; exact ch_sI (Or.inr (Or.inl rfl)))⟩
    · rw [hw5, gI_sI, if_neg (by omega), c4.I (by unfold PD; omega), e2, et]
    · rw [hw5, gI_sI]
      by_cases hu2 : u = v
      · rw [if_pos ⟨rfl, hu2⟩, hu2, eg, et]
        exact Or.inr rfl
      · rw [if_neg (fun z => hu2 z.2), c4.I (by unfold PD; omega)]
        exact hm3 u hu
  · rw [if_neg hz, dg_0_10 hS3, grd_t (by rw [ln_7]; exact vin_nI (by omega) (by omega)), ez]
    refine ⟨w3, ?_, by rw [e2, et], hm3, c3'⟩
    rcases hm3 v (by omega) with hq | hq
    · exact absurd hq hz
    · rw [hq, eg, et]
theorem part_ev {x o : Int32} {w : Wd} : fX6_isPart x o w = some (if (x &&& (o ^^^ (-1 : Int32))) = 0 then 1 else 0, w) := by
  unfold fX6_isPart
  by_cases h : (x &&& (o ^^^ (-1 : Int32))) = 0
  · rw [if_pos h, if_pos h]
  · rw [if_neg h, if_neg h]
/-- of a part: what is both is the part -/
theorem part_and {x o : Int32} (h : (x &&& (o ^^^ (-1 : Int32))) = 0) : o &&& x = x := by
  refine b_ext (fun j hj => ?_)
  have h1 := b_0 j
  rw [← h, b_and, b_xor, b_m1 j hj] at h1
  rw [b_and]
  revert h1
  cases bt x j <;> cases bt o j <;> simp
theorem RT.ds {ev : Ev} : ∀ (n : Nat) {th : Nat → Int32}, RT th → RT (daysS ev n th)
  | 0, _, h => h
  | n + 1, _, h => RT.ds n h.d
theorem m1_lt {k : Nat} (h : k < 2 ^ 31) : (-1 : Int32) < nI k := by
  have a := Int32.le_iff_toInt_le.mp (nI_pos' h)
  have b : (-1 : Int32).toInt = -1 := by decide
  have c : (0 : Int32).toInt = 0 := by decide
  exact Int32.lt_iff_toInt_lt.mpr (by omega)
theorem gT_pos {m tc rl tp i N : Nat} {ev : Ev} {w : Wd} (h : Jn w m tc rl tp) (hi : i < m) (told : Int32) : (-1 : Int32) < gT ev N w i told := by
  obtain ⟨n, s, o, -, hs, -, -, e4, -⟩ := RT.ds (ev := ev) N (h.thy hi (fun t _ => rfl) (H := gI w 56) told).2
  unfold gT
  rw [e4]
  exact m1_lt (by omega)
def farS (P : Nat → Bool) (g W : Nat → Int32) : Nat → Nat → Int32 → Int32 → Int32 → Int32 × Int32
  | 0, _, b, s, _ => (b, s)
  | n + 1, i, b, s, d => if P i = true then (if s < g i then farS P g W n (i + 1) (nI i) (g i) (W i) else if g i = s then (if d ≤ W i then farS P g W n (i + 1) b s d else farS P g W n (i + 1) (nI i) (g i) (W i)) else farS P g W n (i + 1) b s d) else farS P g W n (i + 1) b s d
def isP (w : Wd) (i q : Nat) : Bool := decide ((nI q &&& (gI w 58 (5 * i + 1) ^^^ (-1 : Int32))) = 0)
theorem isP_t {w : Wd} {i q : Nat} : isP w i q = true ↔ (nI q &&& (gI w 58 (5 * i + 1) ^^^ (-1 : Int32))) = 0 := by
  unfold isP
  rw [decide_eq_true_iff]
theorem farC_loop {m tc rl tp i N : Nat} {ev : Ev} {w : Wd} {x3 : Int32} (h : Jn w m tc rl tp) (hr : Ru w rl ev) (hi : i < m) (hN : N ≤ 40) : ∀ (n q fu : Nat) (w2 : Wd) (b s d : Int32), Ch SC w w2 → Me ev N w i w2 → q + n = 256 → n < fu → ∃ w', fX6_far_47 0 fu (nI N) x3 (some (18 + i)) b s d (nI q) w2 = some (prt x3 (farS (isP w i) (fun q => gT ev N w i (nI q)) (fun q => tW w i (nI q)) n q b s d), w') ∧ Ch SC w w' := by
  have m6 := h.m6
  intro n
  induction n with
  | zero =>
    intro q fu w2 b s d c hm hq hf
    obtain ⟨fu, rfl⟩ : ∃ z, fu = z + 1 := ⟨fu - 1, by omega⟩
    have h1 : (256 : Int32) ≤ nI q := nI_le (a := 256) (by omega) (by omega)
    refine ⟨w2, ?_, c⟩
    rw [fX6_far_47]
    dsimp only
    rw [if_pos h1]
    unfold prt farS
    by_cases hx : x3 = 0
    · rw [if_pos hx, if_pos hx]
    · rw [if_neg hx, if_neg hx]
  | succ n ih =>
    intro q fu w2 b s d c hm hq hf
    obtain ⟨fu, rfl⟩ : ∃ z, fu = z + 1 := ⟨fu - 1, by omega⟩
    have h1 : ¬ (256 : Int32) ≤ nI q := nI_ge (b := 256) (by omega) (by omega)
    have h2 := h.ch c
    have ei : gI w2 (18 + i) 2 = gI w 58 (5 * i + 1) := by rw [c.I (by unfold SC; omega)]; exact h.ties hi
    rw [fX6_far_47]
    dsimp only
    rw [if_neg h1, dr_at h2.S.1 (kd_wk (by omega)), ei, part_ev, bnd_s, farS]
    unfold fX6_far_109 fX6_far_121
    rw [nI_1]
    by_cases hp : (nI q &&& (gI w 58 (5 * i + 1) ^^^ (-1 : Int32))) = 0
    · obtain ⟨w3, f3, e3, hm3, c3⟩ := sit_ev h hr hi hN c hm (nI q)
      rw [if_pos hp, if_neg (by decide), f3, bnd_s, dg_0_9 (c3.St h.S), lt_e, e3, if_pos (isP_t.mpr hp)]
      by_cases k1 : s < gT ev N w i (nI q)
      · rw [if_pos k1, if_pos k1]
        exact ih (q + 1) fu w3 _ _ _ c3 hm3 (by omega) (by omega)
      · rw [if_neg k1, if_neg k1]
        by_cases k2 : gT ev N w i (nI q) = s
        · rw [if_pos k2, if_pos k2]
          by_cases k3 : d ≤ tW w i (nI q)
          · rw [if_pos k3, if_pos k3]
            exact ih (q + 1) fu w3 _ _ _ c3 hm3 (by omega) (by omega)
          · rw [if_neg k3, if_neg k3]
            exact ih (q + 1) fu w3 _ _ _ c3 hm3 (by omega) (by omega)
        · rw [if_neg k2, if_neg k2]
          exact ih (q + 1) fu w3 _ _ _ c3 hm3 (by omega) (by omega)
    · rw [if_neg hp, if_pos rfl, if_neg (fun z => hp (isP_t.mp z))]
      exact ih (q + 1) fu w2 _ _ _ c hm (by omega) (by omega)
theorem farM_loop {m tc rl tp i N : Nat} {ev : Ev} {w : Wd} {x3 : Int32} (h : Jn w m tc rl tp) (hr : Rm w rl ev) (hi : i < m) (hN : N ≤ 40) : ∀ (n q fu : Nat) (w2 : Wd) (b s d : Int32), Ch (PQt i) w w2 → ((q = 0 ∧ gI w2 52 34 = -1 ∧ s = -1) ∨ (gI w2 52 34 = b ∧ ¬ b = -1 ∧ gI w2 52 35 = s ∧ d = wS (gI w 56) b 8)) → q + n = 256 → n < fu → ∃ w', fX7_far_70 52 fu (nI i) (nI N) x3 (gI w 58 (5 * i + 2)) (gI w 58 (5 * i + 1)) (nI q) w2 = some (prt x3 (farS (isP w i) (fun q => gT ev N w i (nI q)) (fun q => tW w i (nI q)) n q b s d), w') ∧ Ch PM w w' := by
  have m6 := h.m6
  have n2 : (5 : Int32) * nI i + 2 = nI (5 * i + 2) := by rw [m5]; exact nI_add (5 * i) 2
  have k2 : (nI (5 * i + 2)).toNatClampNeg = 5 * i + 2 := nI_clamp (by omega)
  intro n
  induction n with
  | zero =>
    intro q fu w2 b s d c hv hq hf
    obtain ⟨fu, rfl⟩ : ∃ z, fu = z + 1 := ⟨fu - 1, by omega⟩
    have h1 : (256 : Int32) ≤ nI q := nI_le (a := 256) (by omega) (by omega)
    rcases hv with hv | ⟨v1, v2, v3, v4⟩
    · omega
    have q34 : gI (sI w2 58 (5 * i + 2) (gI w 58 (5 * i + 2))) 52 34 = b := by rw [gI_sI, if_neg (by omega)]; exact v1
    have q35 : gI (sI w2 58 (5 * i + 2) (gI w 58 (5 * i + 2))) 52 35 = s := by rw [gI_sI, if_neg (by omega)]; exact v3
    refine ⟨_, ?_, pqt_back h c⟩
    rw [fX7_far_70]
    dsimp only
    rw [if_pos h1, dg_52_10 (c.St h.S), n2, grd_t (by rw [ln_58]; exact vin_nI (by omega) (by omega)), k2, lw_e, q34, q35]
    unfold prt farS
    by_cases hx : x3 = 0
    · rw [if_pos hx, if_pos hx]
    · rw [if_neg hx, if_neg hx]
  | succ n ih =>
    intro q fu w2 b s d c hv hq hf
    obtain ⟨fu, rfl⟩ : ∃ z, fu = z + 1 := ⟨fu - 1, by omega⟩
    have h1 : ¬ (256 : Int32) ≤ nI q := nI_ge (b := 256) (by omega) (by omega)
    have hS2 := c.St h.S
    rw [fX7_far_70]
    dsimp only
    rw [if_neg h1, farS]
    unfold fX7_far_143 fX7_far_155
    rw [nI_1]
    by_cases hp : (nI q &&& (gI w 58 (5 * i + 1) ^^^ (-1 : Int32))) = 0
    · obtain ⟨w3, hw3⟩ : ∃ z, z = sI w2 58 (5 * i + 2) (nI q) := ⟨_, rfl⟩
      have hw3' : sI w2 58 (nI (5 * i + 2)).toNatClampNeg (nI q) = w3 := by rw [k2, hw3]
      have c3 : Ch (PQt i) w w3 := c.tr (by rw [hw3]; exact ch_sI (Or.inr ⟨rfl, rfl⟩))
      obtain ⟨w4, f4, c4⟩ := mt_ev h hr hi hN c3
      have e3 : gI w3 58 (5 * i + 2) = nI q := by rw [hw3, gI_sI, if_pos ⟨rfl, rfl⟩]
      rw [e3] at f4
      have c5 : Ch (PQt i) w w4 := c3.tr (c4.mono (fun a k z => Or.inl (PG_PM a k z)))
      have g34 : gI w4 52 34 = gI w2 52 34 := by rw [c4.I (by unfold PG; omega), hw3, gI_sI, if_neg (by omega)]
      have g35 : gI w4 52 35 = gI w2 52 35 := by rw [c4.I (by unfold PG; omega), hw3, gI_sI, if_neg (by omega)]
      have eW : tW w i (nI q) = wS (gI w 56) (nI q) 8 := by unfold tW; rw [part_and hp]
      have upd : ∃ w', fX7_far_70 52 fu (nI i) (nI N) x3 (gI w 58 (5 * i + 2)) (gI w 58 (5 * i + 1)) (nI (q + 1)) (sI (sI w4 52 34 (nI q)) 52 35 (gT ev N w i (nI q))) = some (prt x3 (farS (isP w i) (fun q => gT ev N w i (nI q)) (fun q => tW w i (nI q)) n (q + 1) (nI q) (gT ev N w i (nI q)) (tW w i (nI q))), w') ∧ Ch PM w w' :=
        ih (q + 1) fu _ _ _ _ (c5.tr ((ch_sI (Or.inl ⟨rfl, by omega, by omega⟩)).tr (ch_sI (Or.inl ⟨rfl, by omega, by omega⟩)))) (Or.inr ⟨by rw [gI_sI, if_neg (by omega), gI_sI, if_pos ⟨rfl, rfl⟩], m1_nI (by omega), by rw [gI_sI, if_pos ⟨rfl, rfl⟩], eW⟩) (by omega) (by omega)
      have same : (gI w2 52 34 = b ∧ ¬ b = -1 ∧ gI w2 52 35 = s ∧ d = wS (gI w 56) b 8) → ∃ w', fX7_far_70 52 fu (nI i) (nI N) x3 (gI w 58 (5 * i + 2)) (gI w 58 (5 * i + 1)) (nI (q + 1)) w4 = some (prt x3 (farS (isP w i) (fun q => gT ev N w i (nI q)) (fun q => tW w i (nI q)) n (q + 1) b s d), w') ∧ Ch PM w w' :=
        fun v => ih (q + 1) fu w4 b s d c5 (Or.inr ⟨by rw [g34]; exact v.1, v.2.1, by rw [g35]; exact v.2.2.1, v.2.2.2⟩) (by omega) (by omega)
      rw [if_pos hp, dg_52_10 hS2, n2, grd_t (by rw [ln_58]; exact vin_nI (by omega) (by omega)), lw_e, hw3', f4, bnd_s, if_pos (isP_t.mpr hp), g34, g35]
      rcases hv with ⟨z1, z2, z3⟩ | v
      · have k1 : s < gT ev N w i (nI q) := by rw [z3]; exact gT_pos h hi _
        rw [if_pos z2, if_pos k1, lw_e, lw_e]
        exact upd
      · have v0 := v
        obtain ⟨v1, v2, v3, v4⟩ := v
        rw [v1, v3, if_neg v2]
        by_cases k1 : s < gT ev N w i (nI q)
        · rw [if_pos k1, if_pos k1, lw_e, lw_e]
          exact upd
        · rw [if_neg k1, if_neg k1]
          by_cases k2 : gT ev N w i (nI q) = s
          · have hl : fX7_isLighter 52 (nI q) w4 = some (if d ≤ tW w i (nI q) then 0 else 1, w4) := by
              have e56 : gI w4 56 = gI w 56 := funext (fun k => c5.I (by unfold PQt PM; omega))
              have hS4 := c5.St h.S
              unfold fX7_isLighter
              rw [wof_ev hS4, bnd_s, wof_ev hS4, bnd_s, e56, g34, v1, ← v4, ← eW]
              by_cases k3 : d ≤ tW w i (nI q)
              · rw [if_pos k3, if_pos k3]
              · rw [if_neg k3, if_neg k3]
            rw [if_pos k2, if_pos k2, hl, bnd_s]
            by_cases k3 : d ≤ tW w i (nI q)
            · rw [if_pos k3, if_pos k3, if_pos rfl]
              exact same v0
            · rw [if_neg k3, if_neg k3, if_neg (by decide), lw_e, lw_e]
              exact upd
          · rw [if_neg k2, if_neg k2]
            exact same v0
    · have hq0 : ¬ q = 0 := fun z => hp (by
        rw [z]
        refine b_ext (fun j hj => ?_)
        have : bt (nI 0) j = false := b_0 j
        rw [b_and, this, b_0, Bool.false_and])
      rw [if_neg hp, if_neg (fun z => hp (isP_t.mp z))]
      exact ih (q + 1) fu w2 b s d c (hv.elim (fun z => absurd z.1 hq0) Or.inr) (by omega) (by omega)
theorem me_new {m tc rl tp i N : Nat} {ev : Ev} {w : Wd} (h : Jn w m tc rl tp) : ∃ w', fX6_forgetSteps 0 w = some ((), w') ∧ Me ev N w i w' ∧ Ch SC w w' := by
  obtain ⟨w1, f1, q1, c1⟩ := fill_ev (a := 7) (v := -1) (L := 793) ⟨by omega, rfl⟩ rfl (by omega) h.S.1
  refine ⟨w1, ?_, fun v hv => Or.inl (q1 v hv), c1.mono (fun a k z => by unfold SC; omega)⟩
  unfold fX6_forgetSteps
  rw [st_0_10 h.S, f1, bnd_s]
theorem farS_congr {P P' : Nat → Bool} {g g' W W' : Nat → Int32} (a : P' = P) (b : g' = g) (c : W' = W) : farS P' g' W' = farS P g W := by rw [a, b, c]
theorem tW_ch {w w' : Wd} {i : Nat} (c : Ch SC w w') : tW w' i = tW w i := by
  have e56 : gI w' 56 = gI w 56 := funext (fun k => c.I (by unfold SC; omega))
  funext told
  unfold tW
  rw [e56, c.I (show ¬ SC 58 (5 * i + 1) by unfold SC; omega)]
theorem isP_ch {w w' : Wd} {i : Nat} (c : Ch SC w w') : isP w' i = isP w i := by
  funext q
  unfold isP
  rw [c.I (show ¬ SC 58 (5 * i + 1) by unfold SC; omega)]
theorem far_agree (a0 a1 a2 : Int32) : Agree JJ (fX6_far 0 a0 a1 a2) (fX7_far 52 a0 a1 a2) := by
  rintro w ⟨m, tc, rl, tp, h⟩
  have e40 : (40 : Int32).toInt64 = (40 : Int64) := by decide
  have e01 : (1 : Int32).toInt64 = (1 : Int64) := by decide
  have J : JJ w := ⟨m, tc, rl, tp, h⟩
  have m6 := h.m6
  rcases one_at h a0 with ⟨i, hi, rfl, e1, e2⟩ | ⟨e1, e2⟩
  · by_cases hd : 0 ≤ a1 ∧ a1 ≤ (40 : Int32)
    · by_cases hs : 0 ≤ a2 ∧ a2 ≤ (1 : Int32)
      · obtain ⟨N, hN, rfl⟩ := (in0n (n := 40) (by omega)).mp hd
        obtain ⟨ev, r1, r2⟩ := h.ru
        have n1 : (5 : Int32) * nI i + 1 = nI (5 * i + 1) := by rw [m5, nI_1]
        have n2 : (5 : Int32) * nI i + 2 = nI (5 * i + 2) := by rw [m5]; exact nI_add (5 * i) 2
        have k1 : (nI (5 * i + 1)).toNatClampNeg = 5 * i + 1 := nI_clamp (by omega)
        have k2 : (nI (5 * i + 2)).toNatClampNeg = 5 * i + 2 := nI_clamp (by omega)
        obtain ⟨w1, f1, me, c1⟩ := me_new (ev := ev) (i := i) (N := N) h
        obtain ⟨w3, f3, c3⟩ := farC_loop (x3 := a2) h r1 hi hN 256 0 FU w1 0 (-1) 0 c1 me (by omega) (show 256 < 2000 by omega)
        have h3 := h.ch c3
        have r3 := r2.ch c3 (fun i k z => by unfold SC at z; omega)
        have cc : Ch (PQt i) w3 (sI (sI w3 52 34 (-1)) 52 35 (-1)) := (ch_sI (Or.inl ⟨rfl, by omega, by omega⟩)).tr (ch_sI (Or.inl ⟨rfl, by omega, by omega⟩))
        obtain ⟨w5, f5, c5⟩ := farM_loop (x3 := a2) h3 r3 hi hN 256 0 FU (sI (sI w3 52 34 (-1)) 52 35 (-1)) 0 (-1) 0 cc (Or.inl ⟨rfl, by rw [gI_sI, if_neg (by omega), gI_sI, if_pos ⟨rfl, rfl⟩], rfl⟩) (by omega) (show 256 < 2000 by omega)
        rw [gT_ch c3, tW_ch c3, isP_ch c3] at f5
        refine ⟨prt a2 (farS (isP w i) (fun q => gT ev N w i (nI q)) (fun q => tW w i (nI q)) 256 0 0 (-1) 0), w3, w5, ?_, ?_, m, tc, rl, tp, h3.ch (c5.mono PM_SC)⟩
        · unfold fX6_far
          rw [e1, bnd_s, ifn_some, days_ev, bnd_s, w01, if_pos hd, wn_ev, bnd_s, w01, if_pos hs, f1, bnd_s]
          exact f3
        · unfold fX7_far
          rw [atM h3.c11 m6 hi, bnd_s, if_neg (by decide), in0l e40, bnd_s, w01, if_pos hd, in0l e01, bnd_s, w01, if_pos hs, dg_52_10 h3.S, n2, grd_t (by rw [ln_58]; exact vin_nI (by omega) (by omega)), k2, lt_e, dg_52_10 h3.S, n1, grd_t (by rw [ln_58]; exact vin_nI (by omega) (by omega)), k1, lt_e, lw_e, lw_e]
          exact f5
      · refine ⟨-2, w, w, ?_, ?_, J⟩
        · unfold fX6_far
          rw [e1, bnd_s, ifn_some, days_ev, bnd_s, w01, if_pos hd, wn_ev, bnd_s, w01, if_neg hs]
        · unfold fX7_far
          rw [e2, bnd_s, if_neg (by decide), in0l e40, bnd_s, w01, if_pos hd, in0l e01, bnd_s, w01, if_neg hs]
    · refine ⟨-2, w, w, ?_, ?_, J⟩
      · unfold fX6_far
        rw [e1, bnd_s, ifn_some, days_ev, bnd_s, w01, if_neg hd]
      · unfold fX7_far
        rw [e2, bnd_s, if_neg (by decide), in0l e40, bnd_s, w01, if_neg hd]
  · refine ⟨-2, w, w, ?_, ?_, J⟩
    · unfold fX6_far
      rw [e1, bnd_s, ifn_none]
    · unfold fX7_far
      rw [e2, bnd_s, if_pos rfl]
