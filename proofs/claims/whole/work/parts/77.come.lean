/-! walkers come -/
abbrev T3 : Type := Int32 × Int32 × Int32
def trip (t : T3) (q : Nat) : Int32 := if q = 0 then t.1 else if q = 1 then t.2.1 else if q = 2 then t.2.2 else 0
def gdB (t : T3) : Bool := decide (((0 : Int32) ≤ t.1 ∧ t.1 ≤ 5) ∧ ((0 : Int32) ≤ t.2.1 ∧ t.2.1 ≤ 9) ∧ ((0 : Int32) ≤ t.2.2 ∧ t.2.2 ≤ 255))
theorem gdB_t {t : T3} : gdB t = true ↔ (((0 : Int32) ≤ t.1 ∧ t.1 ≤ 5) ∧ ((0 : Int32) ≤ t.2.1 ∧ t.2.1 ≤ 9) ∧ ((0 : Int32) ≤ t.2.2 ∧ t.2.2 ≤ 255)) := by
  unfold gdB
  rw [decide_eq_true_iff]
theorem comeC {w : Wd} {m : Nat} {t : T3} (hS : St w) (h3 : gI w 0 3 = nI m) (m6 : m < 6) (hg : gdB t = true) : ∃ w', fX6_walker 0 t.1 t.2.1 t.2.2 w = some (nI m, w') ∧ gI w' 0 3 = nI (m + 1) ∧ (∀ q, q < 6 → gI w' (18 + m) q = trip t q) ∧ Ch (fun a b => (a = 0 ∧ b = 3) ∨ a = 18 + m) w w' := by
  obtain ⟨g1, g2, g3⟩ := gdB_t.mp hg
  have h6 : nI m < (6 : Int32) := nI_lt (b := 6) m6 (by omega)
  have cm : (nI m).toNatClampNeg = m := nI_clamp (by omega)
  obtain ⟨w1, hw1⟩ : ∃ z, z = sI (sI (sI (sI (sI (sI w (18 + m) 0 t.1) (18 + m) 1 t.2.1) (18 + m) 2 t.2.2) (18 + m) 3 0) (18 + m) 4 0) (18 + m) 5 0 := ⟨_, rfl⟩
  have c1 : Ch (fun a b => (a = 0 ∧ b = 3) ∨ a = 18 + m) w w1 := by
    rw [hw1]
    exact (((((ch_sI (Or.inr rfl)).tr (ch_sI (Or.inr rfl))).tr (ch_sI (Or.inr rfl))).tr (ch_sI (Or.inr rfl))).tr (ch_sI (Or.inr rfl))).tr (ch_sI (Or.inr rfl))
  have e3 : gI w1 0 3 = nI m := by
    rw [hw1, gI_sI, if_neg (by omega), gI_sI, if_neg (by omega), gI_sI, if_neg (by omega), gI_sI, if_neg (by omega), gI_sI, if_neg (by omega), gI_sI, if_neg (by omega)]
    exact h3
  have ec : fX5_comeAs (18 + m) t.1 t.2.1 t.2.2 w = some ((), w1) := by
    unfold fX5_comeAs
    rw [lw_e, lw_e, lw_e, lw_e, lw_e, lw_e, hw1]
  refine ⟨sI w1 0 3 (nI (m + 1)), ?_, by rw [gI_sI, if_pos ⟨rfl, rfl⟩], fun q hq => ?_, c1.tr (ch_sI (Or.inl ⟨rfl, rfl⟩))⟩
  · have el : gI (sI w1 0 3 (nI (m + 1))) 0 3 - 1 = nI m := by rw [gI_sI, if_pos ⟨rfl, rfl⟩, nI_pred]
    unfold fX6_walker
    rw [wn_ev, bnd_s, w01, if_pos g1, wn_ev, bnd_s, w01, if_pos g2, wn_ev, bnd_s, w01, if_pos g3, h3, if_pos h6, dg_0_2 hS, grd_t (by rw [ln_3]; exact vin_nI (by omega) (by omega)), st_wkc hS m6, dr_at hS.1 (kd_wk m6), ec, bnd_s, e3, nI_1, lw_e, el]
  · rw [gI_sI, if_neg (by omega), hw1]
    unfold trip
    match q, hq with
    | 0, _ => simp [gI_sI]
    | 1, _ => simp [gI_sI]
    | 2, _ => simp [gI_sI]
    | 3, _ => simp [gI_sI]
    | 4, _ => simp [gI_sI]
    | 5, _ => simp [gI_sI]
theorem comeC_no {w : Wd} {m : Nat} {t : T3} (h3 : gI w 0 3 = nI m) (m6 : m ≤ 6) (hg : ¬ (gdB t = true ∧ m < 6)) : fX6_walker 0 t.1 t.2.1 t.2.2 w = some (if gdB t = true then -4 else -2, w) := by
  unfold fX6_walker
  rw [wn_ev, bnd_s, w01, wn_ev, bnd_s, w01, wn_ev, bnd_s, w01]
  by_cases g : gdB t = true
  · obtain ⟨g1, g2, g3⟩ := gdB_t.mp g
    have hm : m = 6 := by
      have : ¬ m < 6 := fun z => hg ⟨g, z⟩
      omega
    have h6 : ¬ nI m < (6 : Int32) := nI_nlt (a := m) (b := 6) (by omega) (by omega)
    rw [if_pos g1, if_pos g2, if_pos g3, h3, if_neg h6, if_pos g]
  · rw [if_neg g]
    by_cases g1 : 0 ≤ t.1 ∧ t.1 ≤ (5 : Int32)
    · rw [if_pos g1]
      by_cases g2 : 0 ≤ t.2.1 ∧ t.2.1 ≤ (9 : Int32)
      · rw [if_pos g2]
        by_cases g3 : 0 ≤ t.2.2 ∧ t.2.2 ≤ (255 : Int32)
        · exact absurd (gdB_t.mpr ⟨g1, g2, g3⟩) g
        · rw [if_neg g3]
      · rw [if_neg g2]
    · rw [if_neg g1]
theorem comeM {w : Wd} {m : Nat} {t : T3} (hS : St w) (h3 : gI w 52 11 = nI m) (m6 : m < 6) (hg : gdB t = true) : ∃ w', fX7_walker 52 t.1 t.2.1 t.2.2 w = some (nI m, w') ∧ gI w' 52 11 = nI (m + 1) ∧ gI w' 57 m = trip t 0 ∧ (∀ q, q < 5 → gI w' 58 (5 * m + q) = trip t (q + 1)) ∧ Ch (fun a b => (a = 52 ∧ b = 11) ∨ (a = 57 ∧ b = m) ∨ (a = 58 ∧ 5 * m ≤ b ∧ b < 5 * m + 5)) w w' := by
  obtain ⟨g1, g2, g3⟩ := gdB_t.mp hg
  have e5 : (5 : Int32).toInt64 = (5 : Int64) := by decide
  have e9 : (9 : Int32).toInt64 = (9 : Int64) := by decide
  have e255 : (255 : Int32).toInt64 = (255 : Int64) := by decide
  have n6 : ¬ nI m = (6 : Int32) := nI_ne (b := 6) (by omega) (by omega) (by omega)
  have cm : (nI m).toNatClampNeg = m := nI_clamp (by omega)
  have k : ∀ q : Nat, q ≤ 4 → (nI (5 * m + q)).toNatClampNeg = 5 * m + q := fun q hq => nI_clamp (by omega)
  have k0 : (nI (5 * m)).toNatClampNeg = 5 * m := nI_clamp (by omega)
  have vi : ∀ q : Nat, q ≤ 4 → vin (nI (5 * m + q)) (ln 58) := fun q hq => by rw [ln_58]; exact vin_nI (by omega) (by omega)
  have n1 : (5 : Int32) * nI m + 1 = nI (5 * m + 1) := by rw [m5, nI_1]
  have n2 : (5 : Int32) * nI m + 2 = nI (5 * m + 2) := by rw [m5]; exact nI_add (5 * m) 2
  have n3 : (5 : Int32) * nI m + 3 = nI (5 * m + 3) := by rw [m5]; exact nI_add (5 * m) 3
  have n4 : (5 : Int32) * nI m + 4 = nI (5 * m + 4) := by rw [m5]; exact nI_add (5 * m) 4
  obtain ⟨w1, hw1⟩ : ∃ z, z = sI w 57 m t.1 := ⟨_, rfl⟩
  obtain ⟨w2, hw2⟩ : ∃ z, z = sI w1 58 (5 * m) t.2.1 := ⟨_, rfl⟩
  obtain ⟨w3, hw3⟩ : ∃ z, z = sI w2 58 (5 * m + 1) t.2.2 := ⟨_, rfl⟩
  obtain ⟨w4, hw4⟩ : ∃ z, z = sI w3 58 (5 * m + 2) 0 := ⟨_, rfl⟩
  obtain ⟨w5, hw5⟩ : ∃ z, z = sI w4 58 (5 * m + 3) 0 := ⟨_, rfl⟩
  obtain ⟨w6, hw6⟩ : ∃ z, z = sI w5 58 (5 * m + 4) 0 := ⟨_, rfl⟩
  have hw1' : sI w 57 (nI m).toNatClampNeg t.1 = w1 := by rw [cm, hw1]
  have hw2' : sI w1 58 (nI (5 * m)).toNatClampNeg t.2.1 = w2 := by rw [k0, hw2]
  have hw3' : sI w2 58 (nI (5 * m + 1)).toNatClampNeg t.2.2 = w3 := by rw [k 1 (by omega), hw3]
  have hw4' : sI w3 58 (nI (5 * m + 2)).toNatClampNeg 0 = w4 := by rw [k 2 (by omega), hw4]
  have hw5' : sI w4 58 (nI (5 * m + 3)).toNatClampNeg 0 = w5 := by rw [k 3 (by omega), hw5]
  have hw6' : sI w5 58 (nI (5 * m + 4)).toNatClampNeg 0 = w6 := by rw [k 4 (by omega), hw6]
  have a1 : gI w1 52 11 = nI m := by rw [hw1, gI_sI, if_neg (by omega)]; exact h3
  have a2 : gI w2 52 11 = nI m := by rw [hw2, gI_sI, if_neg (by omega)]; exact a1
  have a3 : gI w3 52 11 = nI m := by rw [hw3, gI_sI, if_neg (by omega)]; exact a2
  have a4 : gI w4 52 11 = nI m := by rw [hw4, gI_sI, if_neg (by omega)]; exact a3
  have a5 : gI w5 52 11 = nI m := by rw [hw5, gI_sI, if_neg (by omega)]; exact a4
  have a6 : gI w6 52 11 = nI m := by rw [hw6, gI_sI, if_neg (by omega)]; exact a5
  have s1 : St w1 := by rw [hw1]; exact St_sI hS
  have s2 : St w2 := by rw [hw2]; exact St_sI s1
  have s3 : St w3 := by rw [hw3]; exact St_sI s2
  have s4 : St w4 := by rw [hw4]; exact St_sI s3
  have s5 : St w5 := by rw [hw5]; exact St_sI s4
  have c6 : Ch (fun a b => (a = 52 ∧ b = 11) ∨ (a = 57 ∧ b = m) ∨ (a = 58 ∧ 5 * m ≤ b ∧ b < 5 * m + 5)) w w6 := by
    rw [hw6, hw5, hw4, hw3, hw2, hw1]
    exact (((((ch_sI (Or.inr (Or.inl ⟨rfl, rfl⟩))).tr (ch_sI (Or.inr (Or.inr ⟨rfl, by omega, by omega⟩)))).tr (ch_sI (Or.inr (Or.inr ⟨rfl, by omega, by omega⟩)))).tr (ch_sI (Or.inr (Or.inr ⟨rfl, by omega, by omega⟩)))).tr (ch_sI (Or.inr (Or.inr ⟨rfl, by omega, by omega⟩)))).tr (ch_sI (Or.inr (Or.inr ⟨rfl, by omega, by omega⟩)))
  refine ⟨sI w6 52 11 (nI (m + 1)), ?_, by rw [gI_sI, if_pos ⟨rfl, rfl⟩], ?_, fun q hq => ?_, c6.tr (ch_sI (Or.inl ⟨rfl, rfl⟩))⟩
  · have el : gI (sI w6 52 11 (nI (m + 1))) 52 11 - 1 = nI m := by rw [gI_sI, if_pos ⟨rfl, rfl⟩, nI_pred]
    unfold fX7_walker
    rw [in0l e5, bnd_s, w01, if_pos g1, in0l e9, bnd_s, w01, if_pos g2, in0l e255, bnd_s, w01, if_pos g3, h3, if_neg n6, dg_52_9 hS, grd_t (by rw [ln_57]; exact vin_nI m6 (by omega)), lw_e, hw1']
    rw [a1, dg_52_10 s1, m5, grd_t (by rw [ln_58]; exact vin_nI (by omega) (by omega)), lw_e, hw2']
    rw [a2, dg_52_10 s2, n1, grd_t (vi 1 (by omega)), lw_e, hw3']
    rw [a3, dg_52_10 s3, n2, grd_t (vi 2 (by omega)), lw_e, hw4']
    rw [a4, dg_52_10 s4, n3, grd_t (vi 3 (by omega)), lw_e, hw5']
    rw [a5, dg_52_10 s5, n4, grd_t (vi 4 (by omega)), lw_e, hw6', a6, nI_1, lw_e, el]
  · rw [gI_sI, if_neg (by omega), hw6, gI_sI, if_neg (by omega), hw5, gI_sI, if_neg (by omega), hw4, gI_sI, if_neg (by omega), hw3, gI_sI, if_neg (by omega), hw2, gI_sI, if_neg (by omega), hw1, gI_sI, if_pos ⟨rfl, rfl⟩]
    rfl
  · have g : ∀ b, gI (sI w6 52 11 (nI (m + 1))) 58 b = if b = 5 * m + 4 then 0 else if b = 5 * m + 3 then 0 else if b = 5 * m + 2 then 0 else if b = 5 * m + 1 then t.2.2 else if b = 5 * m then t.2.1 else gI w1 58 b := by
      intro b
      rw [gI_sI, if_neg (by omega), hw6, gI_sI, hw5, gI_sI, hw4, gI_sI, hw3, gI_sI, hw2, gI_sI]
      simp only [true_and]
    rw [g]
    unfold trip
    match q, hq with
    | 0, _ => rw [if_neg (by omega), if_neg (by omega), if_neg (by omega), if_neg (by omega), if_pos (by omega)]; rfl
    | 1, _ => rw [if_neg (by omega), if_neg (by omega), if_neg (by omega), if_pos (by omega)]; rfl
    | 2, _ => rw [if_neg (by omega), if_neg (by omega), if_pos (by omega)]; rfl
    | 3, _ => rw [if_neg (by omega), if_pos (by omega)]; rfl
    | 4, _ => rw [if_pos (by omega)]; rfl
theorem comeM_no {w : Wd} {m : Nat} {t : T3} (h3 : gI w 52 11 = nI m) (m6 : m ≤ 6) (hg : ¬ (gdB t = true ∧ m < 6)) : fX7_walker 52 t.1 t.2.1 t.2.2 w = some (if gdB t = true then -4 else -2, w) := by
  have e5 : (5 : Int32).toInt64 = (5 : Int64) := by decide
  have e9 : (9 : Int32).toInt64 = (9 : Int64) := by decide
  have e255 : (255 : Int32).toInt64 = (255 : Int64) := by decide
  unfold fX7_walker
  rw [in0l e5, bnd_s, w01, in0l e9, bnd_s, w01, in0l e255, bnd_s, w01]
  by_cases g : gdB t = true
  · obtain ⟨g1, g2, g3⟩ := gdB_t.mp g
    have hm : m = 6 := by
      have : ¬ m < 6 := fun z => hg ⟨g, z⟩
      omega
    have h6 : nI m = (6 : Int32) := by rw [hm]; rfl
    rw [if_pos g1, if_pos g2, if_pos g3, h3, if_pos h6, if_pos g]
  · rw [if_neg g]
    by_cases g1 : 0 ≤ t.1 ∧ t.1 ≤ (5 : Int32)
    · rw [if_pos g1]
      by_cases g2 : 0 ≤ t.2.1 ∧ t.2.1 ≤ (9 : Int32)
      · rw [if_pos g2]
        by_cases g3 : 0 ≤ t.2.2 ∧ t.2.2 ≤ (255 : Int32)
        · exact absurd (gdB_t.mpr ⟨g1, g2, g3⟩) g
        · rw [if_neg g3]
      · rw [if_neg g2]
    · rw [if_neg g1]
/-- l walkers more, all known -/
theorem Jn.came {P : Nat → Nat → Prop} {w w' : Wd} {m tc rl tp l : Nat} {D : Nat → T3} (h : Jn w m tc rl tp) (hc : Ch P w w') (hP : ∀ a b, P a b → (a = 0 ∧ b = 3) ∨ (18 + m ≤ a ∧ a < 24) ∨ (a = 52 ∧ b = 11) ∨ (a = 57 ∧ m ≤ b) ∨ (a = 58 ∧ 5 * m ≤ b)) (hl : m + l ≤ 6) (h3 : gI w' 0 3 = nI (m + l)) (h11 : gI w' 52 11 = nI (m + l)) (hC : ∀ j, j < l → ∀ q, q < 6 → gI w' (18 + (m + j)) q = trip (D j) q) (hM : ∀ j, j < l → gI w' 57 (m + j) = trip (D j) 0 ∧ ∀ q, q < 5 → gI w' 58 (5 * (m + j) + q) = trip (D j) (q + 1)) (hg : ∀ j, j < l → gdB (D j) = true) : Jn w' (m + l) tc rl tp := by
  have n : ∀ {a b : Nat}, ¬ ((a = 0 ∧ b = 3) ∨ (18 + m ≤ a ∧ a < 24) ∨ (a = 52 ∧ b = 11) ∨ (a = 57 ∧ m ≤ b) ∨ (a = 58 ∧ 5 * m ≤ b)) → gI w' a b = gI w a b := fun hn => hc.I (fun z => hn (hP _ _ z))
  have m6 := h.m6
  refine h.all hc (fun i k z => by have := hP i k z; omega) ⟨hl, h3, h11⟩ ⟨h.2.2.2.1.1, ?_, ?_⟩ ?_ (fun k hk => ?_) (fun i hi => ?_) (fun s hs => (h.shs s hs).ch hc (fun y => ⟨fun z => by have := hP _ _ z; omega, fun z => by have := hP _ _ z; omega, fun z => by have := hP _ _ z; omega, fun z => by have := hP _ _ z; omega, fun z => by have := hP _ _ z; omega, fun z => by have := hP _ _ z; omega⟩)) ?_
  · rw [n (by omega)]; exact h.2.2.2.1.2.1
  · rw [n (by omega)]; exact h.2.2.2.1.2.2
  · rw [n (by omega), n (by omega)]; exact h.dy
  · rw [n (by omega), n (by omega)]; exact h.hv k hk
  · by_cases him : i < m
    · obtain ⟨x0, x1, x2⟩ := Wk_iff.mp (h.wk i him)
      refine Wk_iff.mpr ⟨?_, ?_, fun q hq => ?_⟩
      · rw [n (by omega), n (by omega)]; exact x0
      · rw [n (by omega)]; exact x1
      · rw [n (by omega), n (by omega)]; exact x2 q hq
    · obtain ⟨j, rfl⟩ : ∃ j, i = m + j := ⟨i - m, by omega⟩
      obtain ⟨y0, y1⟩ := hM j (by omega)
      have y2 := hC j (by omega)
      obtain ⟨g1, g2, g3⟩ := gdB_t.mp (hg j (by omega))
      refine Wk_iff.mpr ⟨?_, ?_, fun q hq => ?_⟩
      · rw [y2 0 (by omega), y0]
      · rw [y2 0 (by omega)]
        exact (in0n (n := 5) (by omega)).mp g1
      · rw [y2 (q + 1) (by omega), y1 q hq]
        refine ⟨rfl, ?_⟩
        match q, hq with
        | 0, _ => exact (in0n (n := 9) (by omega)).mp g2
        | 1, _ => exact (in0n (n := 255) (by omega)).mp g3
        | 2, _ => exact ⟨0, by omega, rfl⟩
        | 3, _ => exact ⟨0, by omega, rfl⟩
        | 4, _ => exact ⟨0, by omega, rfl⟩
  · have hI := h.2.2.2.2.2.2.2.2.2.2
    unfold Im at hI ⊢
    rw [n (show ¬ _ by omega), n (show ¬ _ by omega)]
    refine hI.imp id (fun y => ⟨y.1, ?_⟩)
    obtain ⟨k, y1, y2, y3, y4, y5, y6, y7, y8, y9⟩ := y.2
    refine ⟨k, by omega, by rw [n (by omega)]; exact y2, y3, by rw [n (by omega), n (by omega)]; exact y4, by rw [n (by omega)]; exact y5, by rw [n (by omega), n (by omega)]; exact y6, by rw [n (by omega)]; exact y7, fun t ht => by rw [n (by omega), n (by omega)]; exact y8 t ht, fun i hi => ?_⟩
    obtain ⟨x0, x1, x2⟩ := Wk_iff.mp (y9 i hi)
    refine Wk_iff.mpr ⟨?_, ?_, fun q hq => ?_⟩
    · rw [n (by omega), n (by omega)]; exact x0
    · rw [n (by omega)]; exact x1
    · rw [n (by omega), n (by omega)]; exact x2 q hq
theorem walker_agree (a0 a1 a2 : Int32) : Agree JJ (fX6_walker 0 a0 a1 a2) (fX7_walker 52 a0 a1 a2) := by
  rintro w ⟨m, tc, rl, tp, h⟩
  have m6 := h.m6
  by_cases hg : gdB (a0, a1, a2) = true ∧ m < 6
  · obtain ⟨w1, f1, x1, y1, c1⟩ := comeC (t := (a0, a1, a2)) h.S h.c3 hg.2 hg.1
    obtain ⟨w2, f2, x2, z2, y2, c2⟩ := comeM (t := (a0, a1, a2)) (c1.St h.S) (by rw [c1.I (by omega)]; exact h.c11) hg.2 hg.1
    refine ⟨nI m, w1, w2, f1, f2, m + 1, tc, rl, tp, h.came (P := fun a b => ((a = 0 ∧ b = 3) ∨ a = 18 + m) ∨ (a = 52 ∧ b = 11) ∨ (a = 57 ∧ b = m) ∨ (a = 58 ∧ 5 * m ≤ b ∧ b < 5 * m + 5)) (l := 1) (D := fun _ => (a0, a1, a2)) ((c1.mono (fun a b z => Or.inl z)).tr (c2.mono (fun a b z => Or.inr z))) (fun a b z => by omega) (by omega) (by rw [c2.I (by omega)]; exact x1) x2 (fun j hj q hq => ?_) (fun j hj => ?_) (fun j hj => hg.1)⟩
    · have : j = 0 := by omega
      subst this
      rw [Nat.add_zero, c2.I (by omega)]
      exact y1 q hq
    · have : j = 0 := by omega
      subst this
      exact ⟨z2, y2⟩
  · exact ⟨_, w, w, comeC_no (t := (a0, a1, a2)) h.c3 m6 hg, comeM_no (t := (a0, a1, a2)) h.c11 m6 hg, m, tc, rl, tp, h⟩
