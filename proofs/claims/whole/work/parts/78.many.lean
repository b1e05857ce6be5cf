/-! walkers by a sheet; one taken for a kind -/
theorem sub_sub32 (a b c : Int32) : a - b - c = a - (b + c) := by
  rw [Int32.sub_eq_add_neg, Int32.sub_eq_add_neg, Int32.sub_eq_add_neg a (b + c), Int32.neg_add, Int32.sub_eq_add_neg (-b), Int32.add_assoc]
def rowS (f : Nat → Int32) (a k : Nat) : T3 := (f (a + 3 * k), f (a + 3 * k + 1), f (a + 3 * k + 2))
def cmS (f : Nat → Int32) (N a m : Nat) : Nat → Nat → Nat → (Nat → T3) → Nat × (Nat → T3) × Bool
  | 0, _, l, D => (l, D, true)
  | n + 1, k, l, D => if a + 3 * (k + 1) ≤ N then (if gdB (rowS f a k) = true ∧ m + l < 6 then cmS f N a m n (k + 1) (l + 1) (fun j => if j = l then rowS f a k else D j) else cmS f N a m n (k + 1) l D) else (l, D, false)
theorem cm_good {f : Nat → Int32} {N a m : Nat} : ∀ (n k l : Nat) (D : Nat → T3), (∀ j, j < l → gdB (D j) = true) → m + l ≤ 6 → (∀ j, j < (cmS f N a m n k l D).1 → gdB ((cmS f N a m n k l D).2.1 j) = true) ∧ m + (cmS f N a m n k l D).1 ≤ 6
  | 0, _, l, D, h1, h2 => ⟨h1, h2⟩
  | n + 1, k, l, D, h1, h2 => by
    rw [cmS]
    by_cases c1 : a + 3 * (k + 1) ≤ N
    · rw [if_pos c1]
      by_cases c2 : gdB (rowS f a k) = true ∧ m + l < 6
      · rw [if_pos c2]
        refine cm_good n (k + 1) (l + 1) _ (fun j hj => ?_) (by omega)
        by_cases hjl : j = l
        · rw [if_pos hjl]; exact c2.1
        · rw [if_neg hjl]; exact h1 j (by omega)
      · rw [if_neg c2]
        exact cm_good n (k + 1) l D h1 h2
    · rw [if_neg c1]
      exact ⟨h1, h2⟩
def QCm (m a b : Nat) : Prop := (a = 0 ∧ b = 3) ∨ (18 + m ≤ a ∧ a < 24)
def QMm (m a b : Nat) : Prop := (a = 52 ∧ b = 11) ∨ (a = 57 ∧ m ≤ b) ∨ (a = 58 ∧ 5 * m ≤ b)
def InC (w w2 : Wd) (m l : Nat) (D : Nat → T3) : Prop := gI w2 0 3 = nI (m + l) ∧ (∀ j, j < l → ∀ q, q < 6 → gI w2 (18 + (m + j)) q = trip (D j) q) ∧ Ch (QCm m) w w2
def InM (w w2 : Wd) (m l : Nat) (D : Nat → T3) : Prop := gI w2 52 11 = nI (m + l) ∧ (∀ j, j < l → gI w2 57 (m + j) = trip (D j) 0 ∧ ∀ q, q < 5 → gI w2 58 (5 * (m + j) + q) = trip (D j) (q + 1)) ∧ Ch (QMm m) w w2
def ansM (r : Nat × (Nat → T3) × Bool) : Int32 := if r.2.2 = true then nI r.1 else -12
theorem cmC_loop {w : Wd} {m s N a M : Nat} {f : Nat → Int32} (hS : St w) (hs : s < 4) (hN : N ≤ 40) (ha : a < 2 ^ 31) (hM : M ≤ 6) (h2 : gI w (42 + 2 * s) 2 = nI N) (hf : ∀ q, q < N → gI w (43 + 2 * s) q = f q) : ∀ (n k fu l : Nat) (D : Nat → T3) (w2 : Wd), InC w w2 m l D → m + l ≤ 6 → k + n = M → n < fu → ∃ w', fX6_walkers_72 0 fu (nI a) (nI M) (some (42 + 2 * s)) (nI l) (nI k) w2 = some (ansM (cmS f N a m n k l D), w') ∧ InC w w' m (cmS f N a m n k l D).1 (cmS f N a m n k l D).2.1 := by
  have hi2 := kd_shi hs
  intro n
  induction n with
  | zero =>
    intro k fu l D w2 hI hl hk hfu
    obtain ⟨fu, rfl⟩ : ∃ z, fu = z + 1 := ⟨fu - 1, by omega⟩
    have h1 : nI M ≤ nI k := nI_le (by omega) (by omega)
    refine ⟨w2, ?_, hI⟩
    rw [fX6_walkers_72]
    dsimp only
    rw [if_pos h1]
    rfl
  | succ n ih =>
    intro k fu l D w2 hI hl hk hfu
    obtain ⟨fu, rfl⟩ : ∃ z, fu = z + 1 := ⟨fu - 1, by omega⟩
    have h1 : ¬ nI M ≤ nI k := nI_ge (by omega) (by omega)
    obtain ⟨i1, i2, i3⟩ := hI
    have hS2 := i3.St hS
    have g2 : gI w2 (42 + 2 * s) 2 = nI N := by rw [i3.I (by unfold QCm; omega)]; exact h2
    have m3 : (3 : Int32) * (nI k + 1) = nI (3 * (k + 1)) := by rw [nI_1]; exact pk_mul 3 (k + 1)
    have m3' : nI a + (3 : Int32) * nI k = nI (a + 3 * k) := by
      have : (3 : Int32) * nI k = nI (3 * k) := pk_mul 3 k
      rw [this, nI_add]
    rw [fX6_walkers_72]
    dsimp only
    rw [if_neg h1, dr_at hS2.1 (kd_sh hs), m3, cmS]
    by_cases c1 : a + 3 * (k + 1) ≤ N
    · have eh : fX2_holds (42 + 2 * s) (nI a) (nI (3 * (k + 1))) w2 = some (1, w2) := by
        rcases holds_ev (x := nI a) (y := nI (3 * (k + 1))) hN g2 with ⟨i, q, _, _, _, e⟩ | ⟨hno, _⟩
        · exact e
        · exact absurd rfl (hno a (3 * (k + 1)) c1 rfl)
      have v0 : vin (nI (a + 3 * k)) (ln (43 + 2 * s)) := by rw [hi2.2]; exact vin_nI (by omega) (by omega)
      have e1 : nI (a + 3 * k) + 1 = nI (a + 3 * k + 1) := nI_1 _
      have e2 : nI (a + 3 * k) + 2 = nI (a + 3 * k + 2) := nI_add (a + 3 * k) 2
      have v1 : vin (nI (a + 3 * k) + 1) (ln (43 + 2 * s)) := by rw [hi2.2, e1]; exact vin_nI (by omega) (by omega)
      have v2 : vin (nI (a + 3 * k) + 2) (ln (43 + 2 * s)) := by rw [hi2.2, e2]; exact vin_nI (by omega) (by omega)
      have r0 : gI w2 (43 + 2 * s) (nI (a + 3 * k)).toNatClampNeg = (rowS f a k).1 := by
        rw [nI_clamp (by omega), i3.I (by unfold QCm; omega), hf _ (by omega)]
        rfl
      have r1 : gI w2 (43 + 2 * s) (nI (a + 3 * k) + 1).toNatClampNeg = (rowS f a k).2.1 := by
        rw [e1, nI_clamp (by omega), i3.I (by unfold QCm; omega), hf _ (by omega)]
        rfl
      have r2 : gI w2 (43 + 2 * s) (nI (a + 3 * k) + 2).toNatClampNeg = (rowS f a k).2.2 := by
        rw [e2, nI_clamp (by omega), i3.I (by unfold QCm; omega), hf _ (by omega)]
        rfl
      rw [if_pos c1, eh, bnd_s, if_neg (by decide), lt_e, m3', dg_shi hS2 hs, grd_t v0, dg_shi hS2 hs, grd_t v1, dg_shi hS2 hs, grd_t v2, r0, r1, r2]
      unfold fX6_walkers_147
      rw [nI_1]
      by_cases c2 : gdB (rowS f a k) = true ∧ m + l < 6
      · obtain ⟨w3, f3, x3, y3, c3⟩ := comeC (t := rowS f a k) hS2 i1 c2.2 c2.1
        have c3' : Ch (QCm m) w w3 := i3.tr (c3.mono (fun a b z => by unfold QCm; omega))
        obtain ⟨w4, f4, q4⟩ := ih (k + 1) fu (l + 1) (fun j => if j = l then rowS f a k else D j) w3 ⟨x3, fun j hj q hq => by
          by_cases hjl : j = l
          · simp only [if_pos hjl]
            rw [hjl]; exact y3 q hq
          · simp only [if_neg hjl]
            rw [c3.I (by omega)]; exact i2 j (by omega) q hq, c3'⟩ (by omega) (by omega) (by omega)
        rw [if_pos c2]
        refine ⟨w4, ?_, q4⟩
        rw [f3, bnd_s, if_neg (nI_pos (by omega)), bit_ev, bnd_s, lt_e, if_neg (by decide), nI_1]
        exact f4
      · have f3 := comeC_no (t := rowS f a k) i1 (by omega) c2
        obtain ⟨w4, f4, q4⟩ := ih (k + 1) fu l D w2 ⟨i1, i2, i3⟩ hl (by omega) (by omega)
        rw [if_neg c2]
        refine ⟨w4, ?_, q4⟩
        have neg : (if gdB (rowS f a k) = true then (-4 : Int32) else -2) < 0 := by split <;> decide
        rw [f3, bnd_s, if_pos neg, bit_ev, bnd_s, lt_e, if_pos rfl, Int32.add_zero]
        exact f4
    · have eh : fX2_holds (42 + 2 * s) (nI a) (nI (3 * (k + 1))) w2 = some (0, w2) := by
        rcases holds_ev (x := nI a) (y := nI (3 * (k + 1))) hN g2 with ⟨i, q, hiq, ea, eq, _⟩ | ⟨_, e⟩
        · have a1 := (nI_eq ha (by omega)).mp ea
          have a2 := (nI_eq (by omega) (by omega)).mp eq
          omega
        · exact e
      rw [if_neg c1, eh, bnd_s, if_pos rfl]
      exact ⟨w2, rfl, i1, i2, i3⟩
theorem cmM_loop {w : Wd} {m s N a M : Nat} {f : Nat → Int32} (hS : St w) (hs : s < 4) (hN : N ≤ 40) (ha : a < 2 ^ 31) (hM : M ≤ 6) (h2 : gI w 64 s = nI N) (hf : ∀ q, q < N → gI w 65 (40 * s + q) = f q) : ∀ (n k fu l : Nat) (D : Nat → T3) (w2 : Wd), InM w w2 m l D → m + l ≤ 6 → k + n = M → n < fu → ∃ w', fX7_walkers_75 52 fu (nI s) (nI a) (nI M) (nI l) (nI k) w2 = some (ansM (cmS f N a m n k l D), w') ∧ InM w w' m (cmS f N a m n k l D).1 (cmS f N a m n k l D).2.1 := by
  have cs : (nI s).toNatClampNeg = s := nI_clamp (by omega)
  intro n
  induction n with
  | zero =>
    intro k fu l D w2 hI hl hk hfu
    obtain ⟨fu, rfl⟩ : ∃ z, fu = z + 1 := ⟨fu - 1, by omega⟩
    have h1 : nI M ≤ nI k := nI_le (by omega) (by omega)
    refine ⟨w2, ?_, hI⟩
    rw [fX7_walkers_75]
    dsimp only
    rw [if_pos h1]
    rfl
  | succ n ih =>
    intro k fu l D w2 hI hl hk hfu
    obtain ⟨fu, rfl⟩ : ∃ z, fu = z + 1 := ⟨fu - 1, by omega⟩
    have h1 : ¬ nI M ≤ nI k := nI_ge (by omega) (by omega)
    obtain ⟨i1, i2, i3⟩ := hI
    have hS2 := i3.St hS
    have g2 : gI w2 64 (nI s).toNatClampNeg = nI N := by rw [cs, i3.I (by unfold QMm; omega)]; exact h2
    have mk : (3 : Int32) * nI k = nI (3 * k) := pk_mul 3 k
    have ms : (40 : Int32) * nI s = nI (40 * s) := pk_mul 40 s
    have m3' : (40 : Int32) * nI s + nI a + (3 : Int32) * nI k = nI (40 * s + (a + 3 * k)) := by
      rw [mk, ms, nI_add, nI_add, Nat.add_assoc]
    have cond : (nI a ≤ nI N - (3 : Int32) * nI k - 3) ↔ a + 3 * (k + 1) ≤ N := by
      have e0 : nI N - (3 : Int32) * nI k - 3 = nI N - nI (3 * k + 3) := by
        rw [mk, sub_sub32, ← nI_add (3 * k) 3]
        rfl
      rw [e0]
      have e1 := sub_int (a := N) (b := 3 * k + 3) hN (by omega)
      have e2 := nI_toInt ha
      constructor
      · intro z
        have := Int32.le_iff_toInt_le.mp z
        omega
      · intro z
        exact Int32.le_iff_toInt_le.mpr (by omega)
    rw [fX7_walkers_75]
    dsimp only
    rw [if_neg h1, if_neg (nI_pos ha), dg_52_44 hS2, grd_t (by rw [ln_64]; exact vin_nI hs (by omega)), g2, cmS]
    by_cases c1 : a + 3 * (k + 1) ≤ N
    · have v0 : vin (nI (40 * s + (a + 3 * k))) (ln 65) := by rw [ln_65]; exact vin_nI (by omega) (by omega)
      have e1 : nI (40 * s + (a + 3 * k)) + 1 = nI (40 * s + (a + 3 * k) + 1) := nI_1 _
      have e2 : nI (40 * s + (a + 3 * k)) + 2 = nI (40 * s + (a + 3 * k) + 2) := nI_add (40 * s + (a + 3 * k)) 2
      have v1 : vin (nI (40 * s + (a + 3 * k)) + 1) (ln 65) := by rw [ln_65, e1]; exact vin_nI (by omega) (by omega)
      have v2 : vin (nI (40 * s + (a + 3 * k)) + 2) (ln 65) := by rw [ln_65, e2]; exact vin_nI (by omega) (by omega)
      have r0 : gI w2 65 (nI (40 * s + (a + 3 * k))).toNatClampNeg = (rowS f a k).1 := by
        rw [nI_clamp (by omega), i3.I (by unfold QMm; omega), hf _ (by omega)]
        rfl
      have r1 : gI w2 65 (nI (40 * s + (a + 3 * k)) + 1).toNatClampNeg = (rowS f a k).2.1 := by
        rw [e1, nI_clamp (by omega), i3.I (by unfold QMm; omega), show 40 * s + (a + 3 * k) + 1 = 40 * s + (a + 3 * k + 1) by omega, hf _ (by omega)]
        rfl
      have r2 : gI w2 65 (nI (40 * s + (a + 3 * k)) + 2).toNatClampNeg = (rowS f a k).2.2 := by
        rw [e2, nI_clamp (by omega), i3.I (by unfold QMm; omega), show 40 * s + (a + 3 * k) + 2 = 40 * s + (a + 3 * k + 2) by omega, hf _ (by omega)]
        rfl
      rw [if_pos (cond.mpr c1), if_pos c1, lt_e, m3', dg_52_45 hS2, grd_t v0, dg_52_45 hS2, grd_t v1, dg_52_45 hS2, grd_t v2, r0, r1, r2]
      unfold fX7_walkers_158
      rw [nI_1]
      by_cases c2 : gdB (rowS f a k) = true ∧ m + l < 6
      · obtain ⟨w3, f3, x3, z3, y3, c3⟩ := comeM (t := rowS f a k) hS2 i1 c2.2 c2.1
        have c3' : Ch (QMm m) w w3 := i3.tr (c3.mono (fun a b z => by unfold QMm; omega))
        obtain ⟨w4, f4, q4⟩ := ih (k + 1) fu (l + 1) (fun j => if j = l then rowS f a k else D j) w3 ⟨x3, fun j hj => by
          by_cases hjl : j = l
          · simp only [if_pos hjl]
            rw [hjl]
            exact ⟨z3, y3⟩
          · simp only [if_neg hjl]
            obtain ⟨p1, p2⟩ := i2 j (by omega)
            exact ⟨by rw [c3.I (by omega)]; exact p1, fun q hq => by rw [c3.I (by omega)]; exact p2 q hq⟩, c3'⟩ (by omega) (by omega) (by omega)
        rw [if_pos c2]
        refine ⟨w4, ?_, q4⟩
        rw [f3, bnd_s, if_neg (nI_pos (by omega)), lt_e, nI_1]
        exact f4
      · have f3 := comeM_no (t := rowS f a k) i1 (by omega) c2
        obtain ⟨w4, f4, q4⟩ := ih (k + 1) fu l D w2 ⟨i1, i2, i3⟩ hl (by omega) (by omega)
        rw [if_neg c2]
        refine ⟨w4, ?_, q4⟩
        have neg : (if gdB (rowS f a k) = true then (-4 : Int32) else -2) < 0 := by split <;> decide
        rw [f3, bnd_s, if_pos neg, lt_e, Int32.add_zero]
        exact f4
    · rw [if_neg (fun z => c1 (cond.mp z)), if_neg c1]
      exact ⟨w2, rfl, i1, i2, i3⟩
theorem walkers_agree (a0 a1 a2 a3 : Int32) : Agree JJ (fX6_walkers 0 a0 a1 a2 a3) (fX7_walkers 52 a0 a1 a2 a3) := by
  rintro w ⟨m, tc, rl, tp, h⟩
  have e2 : (2 : Int32).toInt64 = (2 : Int64) := by decide
  have e6 : (6 : Int32).toInt64 = (6 : Int64) := by decide
  have J : JJ w := ⟨m, tc, rl, tp, h⟩
  have m6 := h.m6
  by_cases hS : 0 ≤ a0 ∧ a0 ≤ (3 : Int32)
  · obtain ⟨s, hs, rfl⟩ := (in0n (n := 3) (by omega)).mp hS
    have hs : s < 4 := by omega
    have cs : (nI s).toNatClampNeg = s := nI_clamp (by omega)
    by_cases h1 : 0 ≤ a1 ∧ a1 ≤ (2 : Int32)
    · by_cases hn : 0 ≤ a3 ∧ a3 ≤ (6 : Int32)
      · obtain ⟨M, hM, rfl⟩ := (in0n (n := 6) (by omega)).mp hn
        rcases h.shs s hs with ⟨g1, g2⟩ | ⟨p1, p2, ⟨so, hso, p3⟩, p4, ⟨N, hN, p5⟩, p6⟩
        · refine ⟨-11, w, w, ?_, ?_, J⟩
          · unfold fX6_walkers fX6_walkers_55
            rw [atS h.S hs, bnd_s, ifn_some, wn_ev, bnd_s, w01, if_pos h1, wn_ev, bnd_s, w01, if_pos hn, dr_at h.S.1 (kd_sh hs), missC, bnd_s, if_pos g1, if_neg (by decide), dr_at h.S.1 (kd_sh hs), missC, bnd_s, if_pos g1, if_neg (by decide)]
          · have k62 : gI w 62 (nI s).toNatClampNeg = 0 := by rw [cs]; exact g2
            unfold fX7_walkers fX7_walkers_57
            rw [isS, bnd_s, w01, if_pos hS, in0l e2, bnd_s, w01, if_pos h1, in0l e6, bnd_s, w01, if_pos hn, dg_52_42 h.S, grd_t (by rw [ln_62]; exact vin_nI hs (by omega)), k62, if_pos rfl, dg_52_42 h.S, grd_t (by rw [ln_62]; exact vin_nI hs (by omega)), k62, if_pos rfl]
        · have hm : ¬ gI w (42 + 2 * s) 1 = -1 := by rw [p2, p3]; exact m1_nI (by omega)
          have k62 : ∀ w9 : Wd, gI w9 62 s = gI w 62 s → gI w9 62 (nI s).toNatClampNeg = 1 := fun w9 z => by rw [cs, z]; exact p1
          by_cases hso1 : gI w (42 + 2 * s) 1 = a1
          · have pre : ∀ F : Option (Int32 × Wd), fX6_walkers_72 0 FU a2 (nI M) (some (42 + 2 * s)) (0 : Int32) (0 : Int32) w = F → fX6_walkers 0 (nI s) a1 a2 (nI M) w = F := by
              intro F hF
              unfold fX6_walkers fX6_walkers_55
              rw [atS h.S hs, bnd_s, ifn_some, wn_ev, bnd_s, w01, if_pos h1, wn_ev, bnd_s, w01, if_pos hn, dr_at h.S.1 (kd_sh hs), missC, bnd_s, if_neg hm, if_pos rfl, if_pos hso1, dr_at h.S.1 (kd_sh hs), missC, bnd_s, if_neg hm, if_pos rfl]
              exact hF
            have preM : ∀ (w9 : Wd) (F : Option (Int32 × Wd)), St w9 → gI w9 62 s = gI w 62 s → gI w9 63 s = gI w 63 s → fX7_walkers_75 52 FU (nI s) a2 (nI M) (0 : Int32) (0 : Int32) w9 = F → fX7_walkers 52 (nI s) a1 a2 (nI M) w9 = F := by
              intro w9 F hS9 z62 z63 hF
              have k63 : gI w9 63 (nI s).toNatClampNeg = a1 := by rw [cs, z63, ← p2]; exact hso1
              unfold fX7_walkers fX7_walkers_57
              rw [isS, bnd_s, w01, if_pos hS, in0l e2, bnd_s, w01, if_pos h1, in0l e6, bnd_s, w01, if_pos hn, dg_52_42 hS9, grd_t (by rw [ln_62]; exact vin_nI hs (by omega)), k62 w9 z62, if_neg (by decide), dg_52_43 hS9, grd_t (by rw [ln_63]; exact vin_nI hs (by omega)), k63, if_pos rfl, dg_52_42 hS9, grd_t (by rw [ln_62]; exact vin_nI hs (by omega)), k62 w9 z62, if_neg (by decide)]
              exact hF
            by_cases ha0 : a2 < 0
            · by_cases hM0 : M = 0
              · subst hM0
                refine ⟨0, w, w, pre _ ?_, preM w _ h.S rfl rfl ?_, J⟩
                · rw [show FU = 1999 + 1 from rfl, fX6_walkers_72]
                  dsimp only
                  rw [if_pos (by decide)]
                · rw [show FU = 1999 + 1 from rfl, fX7_walkers_75]
                  dsimp only
                  rw [if_pos (by decide)]
              · have hM1 : ¬ nI M ≤ (0 : Int32) := nI_nle (by omega) (by omega)
                refine ⟨-12, w, w, pre _ ?_, preM w _ h.S rfl rfl ?_, J⟩
                · have eh : ∀ y, fX2_holds (42 + 2 * s) a2 y w = some (0, w) := fun y => by
                    unfold fX2_holds
                    rw [if_pos ha0]
                  rw [show FU = 1999 + 1 from rfl, fX6_walkers_72]
                  dsimp only
                  rw [if_neg hM1, dr_at h.S.1 (kd_sh hs), eh, bnd_s, if_pos rfl]
                · rw [show FU = 1999 + 1 from rfl, fX7_walkers_75]
                  dsimp only
                  rw [if_neg hM1, if_pos ha0]
            · obtain ⟨a, ha, rfl⟩ := nI_of ha0
              obtain ⟨r, hr⟩ : ∃ r, r = cmS (gI w (43 + 2 * s)) N a m M 0 0 (fun _ => (0, 0, 0)) := ⟨_, rfl⟩
              obtain ⟨w1, f1, i1, i2, i3⟩ := cmC_loop (f := gI w (43 + 2 * s)) (m := m) h.S hs hN ha hM (p4.trans p5) (fun q _ => rfl) M 0 FU 0 (fun _ => (0, 0, 0)) w ⟨h.c3, fun j hj => by omega, Ch.rf⟩ (by omega) (by omega) (show M < 2000 by omega)
              have hS1 := i3.St h.S
              obtain ⟨w2, f2, j1, j2, j3⟩ := cmM_loop (w := w1) (f := gI w (43 + 2 * s)) (m := m) hS1 hs hN ha hM (by rw [i3.I (by unfold QCm; omega)]; exact p5) (fun q hq => by rw [i3.I (by unfold QCm; omega)]; exact (p6 q (by rw [p5]; exact nI_lt hq (by omega)) (by omega)).symm) M 0 FU 0 (fun _ => (0, 0, 0)) w1 ⟨by rw [i3.I (by unfold QCm; omega)]; exact h.c11, fun j hj => by omega, Ch.rf⟩ (by omega) (by omega) (show M < 2000 by omega)
              obtain ⟨gd, gl⟩ := cm_good (f := gI w (43 + 2 * s)) (N := N) (a := a) (m := m) M 0 0 (fun _ => (0, 0, 0)) (fun j hj => by omega) (by omega)
              rw [← hr] at f1 i1 i2 f2 j1 j2 gd gl
              refine ⟨ansM r, w1, w2, pre _ f1, preM w1 _ hS1 (i3.I (by unfold QCm; omega)) (i3.I (by unfold QCm; omega)) f2, m + r.1, tc, rl, tp, h.came (D := r.2.1) (P := fun a b => QCm m a b ∨ QMm m a b) ((i3.mono (fun a b z => Or.inl z)).tr (j3.mono (fun a b z => Or.inr z))) (fun a b z => by unfold QCm QMm at z; omega) gl (by rw [j3.I (by unfold QMm; omega)]; exact i1) j1 (fun j hj q hq => by rw [j3.I (by unfold QMm; omega)]; exact i2 j hj q hq) j2 gd⟩
          · refine ⟨-13, w, w, ?_, ?_, J⟩
            · unfold fX6_walkers
              rw [atS h.S hs, bnd_s, ifn_some, wn_ev, bnd_s, w01, if_pos h1, wn_ev, bnd_s, w01, if_pos hn, dr_at h.S.1 (kd_sh hs), missC, bnd_s, if_neg hm, if_pos rfl, if_neg hso1]
            · have k63 : ¬ gI w 63 (nI s).toNatClampNeg = a1 := by rw [cs, ← p2]; exact hso1
              unfold fX7_walkers
              rw [isS, bnd_s, w01, if_pos hS, in0l e2, bnd_s, w01, if_pos h1, in0l e6, bnd_s, w01, if_pos hn, dg_52_42 h.S, grd_t (by rw [ln_62]; exact vin_nI hs (by omega)), k62 w rfl, if_neg (by decide), dg_52_43 h.S, grd_t (by rw [ln_63]; exact vin_nI hs (by omega)), if_neg k63]
      · refine ⟨-2, w, w, ?_, ?_, J⟩
        · unfold fX6_walkers
          rw [atS h.S hs, bnd_s, ifn_some, wn_ev, bnd_s, w01, if_pos h1, wn_ev, bnd_s, w01, if_neg hn]
        · unfold fX7_walkers
          rw [isS, bnd_s, w01, if_pos hS, in0l e2, bnd_s, w01, if_pos h1, in0l e6, bnd_s, w01, if_neg hn]
    · refine ⟨-2, w, w, ?_, ?_, J⟩
      · unfold fX6_walkers
        rw [atS h.S hs, bnd_s, ifn_some, wn_ev, bnd_s, w01, if_neg h1]
      · unfold fX7_walkers
        rw [isS, bnd_s, w01, if_pos hS, in0l e2, bnd_s, w01, if_neg h1]
  · refine ⟨-2, w, w, ?_, ?_, J⟩
    · unfold fX6_walkers
      rw [noS hS, bnd_s, ifn_none]
    · unfold fX7_walkers
      rw [isS, bnd_s, w01, if_neg hS]
/-! one taken for a kind -/
def undP : Nat → Int32 → Int32 → Int32 → Option Int32
  | 0 => fun _ _ _ => none
  | n + 1 => fun x1 x2 x3 => if (6 : Int32) ≤ x3 then some 0 else if x2 < 0 then some 0 else if (6 : Int32) ≤ x2 then some 0 else if x2 = x1 then some 1 else if vin x2 6 then undP n x1 (undL.getD x2.toNatClampNeg 0) (x3 + 1) else none
def ovP : Nat → Int32 → Int32 → Option Int32
  | 0 => fun _ _ => none
  | n + 1 => fun x2 x3 => if x3 = -1 then some x3 else if x3 = x2 then some x3 else ovP n x2 (if x3 = 0 then -1 else if x3 = 3 then 1 else if x3 = 4 then 2 else 0)
theorem undP_ev {w : Wd} {r : Int32} : ∀ (n : Nat) (x1 x2 x3 : Int32), undP n x1 x2 x3 = some r → fX6_isUnder_4 n x1 x2 x3 w = some (r, w)
  | 0, _, _, _, h => by
    rw [undP] at h
    cases h
  | n + 1, x1, x2, x3, h => by
    rw [undP] at h
    dsimp only at h
    rw [fX6_isUnder_4]
    dsimp only
    by_cases a : (6 : Int32) ≤ x3
    · rw [if_pos a] at h ⊢
      rw [Option.some.inj h]
    · rw [if_neg a] at h ⊢
      by_cases b : x2 < 0
      · rw [if_pos b] at h ⊢
        rw [Option.some.inj h]
      · rw [if_neg b] at h ⊢
        by_cases c : (6 : Int32) ≤ x2
        · rw [if_pos c] at h ⊢
          rw [Option.some.inj h]
        · rw [if_neg c] at h ⊢
          by_cases d : x2 = x1
          · rw [if_pos d] at h ⊢
            rw [Option.some.inj h]
          · rw [if_neg d] at h ⊢
            by_cases e : vin x2 6
            · rw [if_pos e] at h
              rw [grd_t e, lt_e]
              exact undP_ev n _ _ _ h
            · rw [if_neg e] at h
              cases h
theorem ovP_ev {w : Wd} {r x1 x2 : Int32} : ∀ (n : Nat) (x3 : Int32), ovP n x2 x3 = some r → fX7_taken_33 52 n x1 x2 x3 w = fX7_taken_51 52 x1 x2 r w
  | 0, _, h => by
    rw [ovP] at h
    cases h
  | n + 1, x3, h => by
    rw [ovP] at h
    dsimp only at h
    rw [fX7_taken_33]
    dsimp only
    by_cases a : x3 = -1
    · rw [if_pos a] at h ⊢
      rw [Option.some.inj h]
    · rw [if_neg a] at h ⊢
      by_cases b : x3 = x2
      · rw [if_pos b] at h ⊢
        rw [Option.some.inj h]
      · rw [if_neg b] at h ⊢
        have eo : fX7_over x3 w = some (if x3 = 0 then -1 else if x3 = 3 then 1 else if x3 = 4 then 2 else 0, w) := by
          unfold fX7_over
          by_cases c : x3 = 0
          · rw [if_pos c, if_pos c]
          · rw [if_neg c, if_neg c]
            by_cases d : x3 = 3
            · rw [if_pos d, if_pos d]
            · rw [if_neg d, if_neg d]
              by_cases e : x3 = 4
              · rw [if_pos e, if_pos e]
              · rw [if_neg e, if_neg e]
        rw [eo, bnd_s]
        exact ovP_ev n _ h
theorem und_all : ∀ v, v < 6 → ∀ k, k < 6 → (undP 2000 (nI k) (nI v) 0 = some 1 ∧ ovP 2000 (nI k) (nI v) = some (nI k)) ∨ (undP 2000 (nI k) (nI v) 0 = some 0 ∧ ovP 2000 (nI k) (nI v) = some (-1)) := by decide +kernel
theorem taken_agree (a0 a1 : Int32) : Agree JJ (fX6_taken 0 a0 a1) (fX7_taken 52 a0 a1) := by
  rintro w ⟨m, tc, rl, tp, h⟩
  have e5 : (5 : Int32).toInt64 = (5 : Int64) := by decide
  have J : JJ w := ⟨m, tc, rl, tp, h⟩
  have m6 := h.m6
  by_cases hd : 0 ≤ a1 ∧ a1 ≤ (5 : Int32)
  · obtain ⟨k, hk, rfl⟩ := (in0n (n := 5) (by omega)).mp hd
    rcases one_at h a0 with ⟨i, hi, rfl, e1, e2⟩ | ⟨e1, e2⟩
    · obtain ⟨x0, x1, -, -, -, -, ⟨v, hv, x6⟩, -⟩ := h.wk i hi
      have ci : (nI i).toNatClampNeg = i := nI_clamp (by omega)
      have k57 : gI w 57 (nI i).toNatClampNeg = nI v := by rw [ci, ← x0]; exact x6
      have k58 : gI w 58 (nI (5 * i)).toNatClampNeg = gI w (18 + i) 1 := by rw [nI_clamp (by omega)]; exact x1.symm
      have n0 : ¬ (-1 : Int32) = nI k := fun z => m1_nI (i := k) (by omega) z.symm
      have pre : ∀ r, fX7_taken_33 52 2000 (nI i) (nI k) (nI v) w = fX7_taken_51 52 (nI i) (nI k) r w → fX7_taken 52 (nI i) (nI k) w = fX7_taken_51 52 (nI i) (nI k) r w := by
        intro r hr
        unfold fX7_taken
        rw [in0l e5, bnd_s, w01, if_pos hd, e2, bnd_s, if_neg (by decide), dg_52_9 h.S, grd_t (by rw [ln_57]; exact vin_nI (by omega) (by omega)), k57, lt_e]
        exact hr
      rcases und_all v (by omega) k (by omega) with ⟨u1, u2⟩ | ⟨u1, u2⟩
      · have c1 : fX6_isUnder (nI v) (nI k) w = some (1, w) := undP_ev 2000 _ _ _ u1
        refine ⟨gI w (18 + i) 1, w, w, ?_, ?_, J⟩
        · unfold fX6_taken
          rw [wn_ev, bnd_s, w01, if_pos hd, e1, bnd_s, ifn_some, dr_at h.S.1 (kd_wk (by omega)), x6, c1, bnd_s, if_neg (by decide)]
        · rw [pre _ (ovP_ev 2000 _ u2)]
          unfold fX7_taken_51
          rw [if_pos rfl, dg_52_10 h.S, m5, grd_t (by rw [ln_58]; exact vin_nI (by omega) (by omega)), k58]
      · have c1 : fX6_isUnder (nI v) (nI k) w = some (0, w) := undP_ev 2000 _ _ _ u1
        refine ⟨-13, w, w, ?_, ?_, J⟩
        · unfold fX6_taken
          rw [wn_ev, bnd_s, w01, if_pos hd, e1, bnd_s, ifn_some, dr_at h.S.1 (kd_wk (by omega)), x6, c1, bnd_s, if_pos rfl]
        · rw [pre _ (ovP_ev 2000 _ u2)]
          unfold fX7_taken_51
          rw [if_neg n0]
    · refine ⟨-11, w, w, ?_, ?_, J⟩
      · unfold fX6_taken
        rw [wn_ev, bnd_s, w01, if_pos hd, e1, bnd_s, ifn_none]
      · unfold fX7_taken
        rw [in0l e5, bnd_s, w01, if_pos hd, e2, bnd_s, if_pos rfl]
  · refine ⟨-2, w, w, ?_, ?_, J⟩
    · unfold fX6_taken
      rw [wn_ev, bnd_s, w01, if_neg hd]
    · unfold fX7_taken
      rw [in0l e5, bnd_s, w01, if_neg hd]
