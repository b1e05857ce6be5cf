/-! copies -/
theorem sub_int {a b : Nat} (ha : a ≤ 40) (hb : b < 2 ^ 31) : (nI a - nI b).toInt = (a : Int) - (b : Int) := by
  rw [Int32.toInt_sub, nI_toInt (by omega), nI_toInt hb]
  exact Int.bmod_eq_of_le (by omega) (by omega)
theorem cpF_loop {w : Wd} {s o i j q : Nat} (hs : s < 4) (ho : o < 4) (hi : i + q ≤ 40) (hj : j + q ≤ 40) (hsep : ∀ t k, t < k → k < q → 40 * s + i + k ≠ 40 * o + j + t) : ∀ (c k fu : Nat) (w2 : Wd), St w → Ch (fun a b => a = 65 ∧ 40 * o + j ≤ b ∧ b < 40 * o + j + q) w w2 → (∀ t, t < k → gI w2 65 (40 * o + j + t) = gI w 65 (40 * s + i + t)) → (∀ t, k ≤ t → t < q → gI w2 65 (40 * o + j + t) = gI w 65 (40 * o + j + t)) → k + c = q → c < fu → ∃ w', fX7_copy_121 52 fu (nI s) (nI i) (nI o) (nI j) (nI q) 0 (nI k) w2 = some (nI q, w') ∧ (∀ t, t < q → gI w' 65 (40 * o + j + t) = gI w 65 (40 * s + i + t)) ∧ Ch (fun a b => a = 65 ∧ 40 * o + j ≤ b ∧ b < 40 * o + j + q) w w' := by
  intro c
  induction c with
  | zero =>
    intro k fu w2 hS hc h1 h2 hk hf
    obtain ⟨fu, rfl⟩ : ∃ z, fu = z + 1 := ⟨fu - 1, by omega⟩
    have h3 : nI q ≤ nI k := nI_le (by omega) (by omega)
    refine ⟨w2, ?_, fun t ht => h1 t (by omega), hc⟩
    rw [fX7_copy_121]
    dsimp only
    rw [if_pos h3]
  | succ c ih =>
    intro k fu w2 hS hc h1 h2 hk hf
    obtain ⟨fu, rfl⟩ : ∃ z, fu = z + 1 := ⟨fu - 1, by omega⟩
    have h3 : ¬ nI q ≤ nI k := nI_ge (by omega) (by omega)
    have ma : (40 : Int32) * nI s + nI i + nI k = nI (40 * s + i + k) := by
      have : (40 : Int32) * nI s = nI (40 * s) := pk_mul 40 s
      rw [this, nI_add, nI_add]
    have mb : (40 : Int32) * nI o + nI j + nI k = nI (40 * o + j + k) := by
      have : (40 : Int32) * nI o = nI (40 * o) := pk_mul 40 o
      rw [this, nI_add, nI_add]
    have ka : (nI (40 * s + i + k)).toNatClampNeg = 40 * s + i + k := nI_clamp (by omega)
    have kb : (nI (40 * o + j + k)).toNatClampNeg = 40 * o + j + k := nI_clamp (by omega)
    have src : gI w2 65 (40 * s + i + k) = gI w 65 (40 * s + i + k) := by
      by_cases hin : 40 * o + j ≤ 40 * s + i + k ∧ 40 * s + i + k < 40 * o + j + q
      · have hge : k ≤ 40 * s + i + k - (40 * o + j) := Nat.le_of_not_lt (fun z => hsep (40 * s + i + k - (40 * o + j)) k z (by omega) (by omega))
        have := h2 (40 * s + i + k - (40 * o + j)) hge (by omega)
        rw [show 40 * o + j + (40 * s + i + k - (40 * o + j)) = 40 * s + i + k by omega] at this
        exact this
      · exact hc.I (fun z => hin z.2)
    obtain ⟨w3, hw3⟩ : ∃ z, z = sI w2 65 (40 * o + j + k) (gI w 65 (40 * s + i + k)) := ⟨_, rfl⟩
    have hw3' : sI w2 65 (nI (40 * o + j + k)).toNatClampNeg (gI w2 65 (nI (40 * s + i + k)).toNatClampNeg) = w3 := by rw [ka, kb, src, hw3]
    have c3 : Ch (fun a b => a = 65 ∧ 40 * o + j ≤ b ∧ b < 40 * o + j + q) w w3 := hc.tr (by rw [hw3]; exact ch_sI ⟨rfl, by omega, by omega⟩)
    have hS2 := hc.St hS
    rw [fX7_copy_121]
    dsimp only
    rw [if_neg h3, if_pos rfl]
    unfold fX7_copy_145
    rw [dg_52_45 hS2, ma, grd_t (by rw [ln_65]; exact vin_nI (by omega) (by omega)), mb, grd_t (by rw [ln_65]; exact vin_nI (by omega) (by omega)), lw_e, hw3', nI_1]
    refine ih (k + 1) fu w3 hS c3 (fun t ht => ?_) (fun t a b => ?_) (by omega) (by omega)
    · by_cases htk : t = k
      · rw [htk, hw3, gI_sI, if_pos ⟨rfl, rfl⟩]
      · rw [hw3, gI_sI, if_neg (by omega)]
        exact h1 t (by omega)
    · rw [hw3, gI_sI, if_neg (by omega)]
      exact h2 t (by omega) b
theorem cpB_loop {w : Wd} {s o i j q : Nat} (hs : s < 4) (ho : o < 4) (hi : i + q ≤ 40) (hj : j + q ≤ 40) (hsep : ∀ t k, k < t → t < q → 40 * s + i + k ≠ 40 * o + j + t) : ∀ (c k fu : Nat) (w2 : Wd), St w → Ch (fun a b => a = 65 ∧ 40 * o + j ≤ b ∧ b < 40 * o + j + q) w w2 → (∀ t, c ≤ t → t < q → gI w2 65 (40 * o + j + t) = gI w 65 (40 * s + i + t)) → (∀ t, t < c → gI w2 65 (40 * o + j + t) = gI w 65 (40 * o + j + t)) → k + c = q → c < fu → ∃ w', fX7_copy_121 52 fu (nI s) (nI i) (nI o) (nI j) (nI q) 1 (nI k) w2 = some (nI q, w') ∧ (∀ t, t < q → gI w' 65 (40 * o + j + t) = gI w 65 (40 * s + i + t)) ∧ Ch (fun a b => a = 65 ∧ 40 * o + j ≤ b ∧ b < 40 * o + j + q) w w' := by
  intro c
  induction c with
  | zero =>
    intro k fu w2 hS hc h1 h2 hk hf
    obtain ⟨fu, rfl⟩ : ∃ z, fu = z + 1 := ⟨fu - 1, by omega⟩
    have h3 : nI q ≤ nI k := nI_le (by omega) (by omega)
    refine ⟨w2, ?_, fun t ht => h1 t (by omega) ht, hc⟩
    rw [fX7_copy_121]
    dsimp only
    rw [if_pos h3]
  | succ c ih =>
    intro k fu w2 hS hc h1 h2 hk hf
    obtain ⟨fu, rfl⟩ : ∃ z, fu = z + 1 := ⟨fu - 1, by omega⟩
    have h3 : ¬ nI q ≤ nI k := nI_ge (by omega) (by omega)
    have mk : nI q - 1 - nI k = nI c := by
      have e1 : nI q - nI 1 = nI (q - 1) := pk_sub (by omega)
      have e1 : nI q - 1 = nI (q - 1) := e1
      rw [e1, pk_sub (by omega), show q - 1 - k = c by omega]
    have ma : (40 : Int32) * nI s + nI i + nI c = nI (40 * s + i + c) := by
      have : (40 : Int32) * nI s = nI (40 * s) := pk_mul 40 s
      rw [this, nI_add, nI_add]
    have mb : (40 : Int32) * nI o + nI j + nI c = nI (40 * o + j + c) := by
      have : (40 : Int32) * nI o = nI (40 * o) := pk_mul 40 o
      rw [this, nI_add, nI_add]
    have ka : (nI (40 * s + i + c)).toNatClampNeg = 40 * s + i + c := nI_clamp (by omega)
    have kb : (nI (40 * o + j + c)).toNatClampNeg = 40 * o + j + c := nI_clamp (by omega)
    have src : gI w2 65 (40 * s + i + c) = gI w 65 (40 * s + i + c) := by
      by_cases hin : 40 * o + j ≤ 40 * s + i + c ∧ 40 * s + i + c < 40 * o + j + q
      · have hge : 40 * s + i + c - (40 * o + j) < c + 1 := Nat.lt_of_not_le (fun z => hsep (40 * s + i + c - (40 * o + j)) c z (by omega) (by omega))
        have := h2 (40 * s + i + c - (40 * o + j)) hge
        rw [show 40 * o + j + (40 * s + i + c - (40 * o + j)) = 40 * s + i + c by omega] at this
        exact this
      · exact hc.I (fun z => hin z.2)
    obtain ⟨w3, hw3⟩ : ∃ z, z = sI w2 65 (40 * o + j + c) (gI w 65 (40 * s + i + c)) := ⟨_, rfl⟩
    have hw3' : sI w2 65 (nI (40 * o + j + c)).toNatClampNeg (gI w2 65 (nI (40 * s + i + c)).toNatClampNeg) = w3 := by rw [ka, kb, src, hw3]
    have c3 : Ch (fun a b => a = 65 ∧ 40 * o + j ≤ b ∧ b < 40 * o + j + q) w w3 := hc.tr (by rw [hw3]; exact ch_sI ⟨rfl, by omega, by omega⟩)
    have hS2 := hc.St hS
    rw [fX7_copy_121]
    dsimp only
    rw [if_neg h3, if_neg (show ¬ (1 : Int32) = 0 by decide), mk]
    unfold fX7_copy_145
    rw [dg_52_45 hS2, ma, grd_t (by rw [ln_65]; exact vin_nI (by omega) (by omega)), mb, grd_t (by rw [ln_65]; exact vin_nI (by omega) (by omega)), lw_e, hw3', nI_1]
    refine ih (k + 1) fu w3 hS c3 (fun t a b => ?_) (fun t ht => ?_) (by omega) (by omega)
    · by_cases htk : t = c
      · rw [htk, hw3, gI_sI, if_pos ⟨rfl, rfl⟩]
      · rw [hw3, gI_sI, if_neg (by omega)]
        exact h1 t (by omega) b
    · rw [hw3, gI_sI, if_neg (by omega)]
      exact h2 t (by omega)
theorem copyM {w : Wd} {s o i j q N1 N2 : Nat} (hS : St w) (hs : s < 4) (ho : o < 4) (h62s : gI w 62 s = 1) (h62o : gI w 62 o = 1) (h63 : gI w 63 s = gI w 63 o) (h64s : gI w 64 s = nI N1) (h64o : gI w 64 o = nI N2) (hN1 : N1 ≤ 40) (hN2 : N2 ≤ 40) (hi : i + q ≤ N1) (hj : j + q ≤ N2) : ∃ w', fX7_copy 52 (nI s) (nI i) (nI o) (nI j) (nI q) w = some (nI q, w') ∧ (∀ t, t < q → gI w' 65 (40 * o + j + t) = gI w 65 (40 * s + i + t)) ∧ Ch (fun a b => a = 65 ∧ 40 * o + j ≤ b ∧ b < 40 * o + j + q) w w' := by
  have cs : (nI s).toNatClampNeg = s := nI_clamp (by omega)
  have co : (nI o).toNatClampNeg = o := nI_clamp (by omega)
  have a1 : gI w 62 (nI s).toNatClampNeg = 1 := by rw [cs]; exact h62s
  have a2 : gI w 62 (nI o).toNatClampNeg = 1 := by rw [co]; exact h62o
  have a3 : gI w 63 (nI s).toNatClampNeg = gI w 63 o := by rw [cs]; exact h63
  have a4 : gI w 63 (nI o).toNatClampNeg = gI w 63 o := by rw [co]
  have a5 : gI w 64 (nI s).toNatClampNeg = nI N1 := by rw [cs]; exact h64s
  have a6 : gI w 64 (nI o).toNatClampNeg = nI N2 := by rw [co]; exact h64o
  have q1 : ¬ nI N1 - nI q < nI i := by
    rw [pk_sub (by omega)]
    exact nI_nlt (by omega) (by omega)
  have q2 : nI j ≤ nI N2 - nI q := by
    rw [pk_sub (by omega)]
    exact nI_le (by omega) (by omega)
  have run : ∀ F : Option (Int32 × Wd), (if nI s = nI o then
                        (if nI j ≤ nI i then
                          (fX7_copy_115 52 (nI s) (nI i) (nI o) (nI j) (nI q) w)
                        else
                          (fX7_copy_116 52 (nI s) (nI i) (nI o) (nI j) (nI q) (1 : Int32) w))
                      else
                        (fX7_copy_115 52 (nI s) (nI i) (nI o) (nI j) (nI q) w)) = F → fX7_copy 52 (nI s) (nI i) (nI o) (nI j) (nI q) w = F := by
    intro F hF
    unfold fX7_copy
    rw [isS, bnd_s, w01, if_pos (b3s hs), isS, bnd_s, w01, if_pos (b3s ho), dg_52_42 hS, grd_t (by rw [ln_62]; exact vin_nI hs (by omega)), a1, if_neg (by decide), dg_52_42 hS, grd_t (by rw [ln_62]; exact vin_nI ho (by omega)), a2, if_neg (by decide), dg_52_43 hS, grd_t (by rw [ln_63]; exact vin_nI hs (by omega)), dg_52_43 hS, grd_t (by rw [ln_63]; exact vin_nI ho (by omega)), a3, a4, if_pos rfl, if_neg (nI_pos (by omega)), if_neg (nI_pos (by omega)), if_neg (nI_pos (by omega)), dg_52_44 hS, grd_t (by rw [ln_64]; exact vin_nI hs (by omega)), a5, if_neg q1, dg_52_44 hS, grd_t (by rw [ln_64]; exact vin_nI ho (by omega)), a6, if_pos q2]
    exact hF
  have fwd : (∀ t k, t < k → k < q → 40 * s + i + k ≠ 40 * o + j + t) → ∃ w', fX7_copy_115 52 (nI s) (nI i) (nI o) (nI j) (nI q) w = some (nI q, w') ∧ (∀ t, t < q → gI w' 65 (40 * o + j + t) = gI w 65 (40 * s + i + t)) ∧ Ch (fun a b => a = 65 ∧ 40 * o + j ≤ b ∧ b < 40 * o + j + q) w w' := fun hsep =>
    cpF_loop hs ho (by omega) (by omega) hsep q 0 FU w hS Ch.rf (fun t ht => by omega) (fun t _ _ => rfl) (by omega) (show q < 2000 by omega)
  by_cases hso : s = o
  · subst hso
    by_cases hij : j ≤ i
    · obtain ⟨w', e, r⟩ := fwd (fun t k a b => by omega)
      exact ⟨w', run _ (by rw [if_pos rfl, if_pos (nI_le hij (by omega))]; exact e), r⟩
    · obtain ⟨w', e, r⟩ := cpB_loop (w := w) (i := i) (j := j) (q := q) hs ho (by omega) (by omega) (fun t k a b => by omega) q 0 FU w hS Ch.rf (fun t a b => by omega) (fun t _ => rfl) (by omega) (show q < 2000 by omega)
      exact ⟨w', run _ (by rw [if_pos rfl, if_neg (nI_ge (by omega) (by omega))]; exact e), r⟩
  · obtain ⟨w', e, r⟩ := fwd (fun t k a b => by omega)
    exact ⟨w', run _ (by rw [if_neg (nI_ne hso (by omega) (by omega))]; exact e), r⟩
theorem copyM_no {w : Wd} {s o N1 N2 : Nat} {x y z : Int32} (hS : St w) (hs : s < 4) (ho : o < 4) (h62s : gI w 62 s = 1) (h62o : gI w 62 o = 1) (h63 : gI w 63 s = gI w 63 o) (h64s : gI w 64 s = nI N1) (h64o : gI w 64 o = nI N2) (hN1 : N1 ≤ 40) (hN2 : N2 ≤ 40) (hno : (∀ i q, i + q ≤ N1 → x = nI i → ¬ z = nI q) ∨ (∀ i q, i + q ≤ N2 → y = nI i → ¬ z = nI q)) : fX7_copy 52 (nI s) x (nI o) y z w = some (-12, w) := by
  have cs : (nI s).toNatClampNeg = s := nI_clamp (by omega)
  have co : (nI o).toNatClampNeg = o := nI_clamp (by omega)
  have a1 : gI w 62 (nI s).toNatClampNeg = 1 := by rw [cs]; exact h62s
  have a2 : gI w 62 (nI o).toNatClampNeg = 1 := by rw [co]; exact h62o
  have a3 : gI w 63 (nI s).toNatClampNeg = gI w 63 o := by rw [cs]; exact h63
  have a4 : gI w 63 (nI o).toNatClampNeg = gI w 63 o := by rw [co]
  have a5 : gI w 64 (nI s).toNatClampNeg = nI N1 := by rw [cs]; exact h64s
  have a6 : gI w 64 (nI o).toNatClampNeg = nI N2 := by rw [co]; exact h64o
  unfold fX7_copy
  rw [isS, bnd_s, w01, if_pos (b3s hs), isS, bnd_s, w01, if_pos (b3s ho), dg_52_42 hS, grd_t (by rw [ln_62]; exact vin_nI hs (by omega)), a1, if_neg (by decide), dg_52_42 hS, grd_t (by rw [ln_62]; exact vin_nI ho (by omega)), a2, if_neg (by decide), dg_52_43 hS, grd_t (by rw [ln_63]; exact vin_nI hs (by omega)), dg_52_43 hS, grd_t (by rw [ln_63]; exact vin_nI ho (by omega)), a3, a4, if_pos rfl]
  by_cases z0 : z < 0
  · rw [if_pos z0]
  rw [if_neg z0]
  by_cases x0 : x < 0
  · rw [if_pos x0]
  rw [if_neg x0]
  by_cases y0 : y < 0
  · rw [if_pos y0]
  rw [if_neg y0, dg_52_44 hS, grd_t (by rw [ln_64]; exact vin_nI hs (by omega)), a5]
  obtain ⟨q, hq, rfl⟩ := nI_of z0
  obtain ⟨i, hi, rfl⟩ := nI_of x0
  obtain ⟨j, hj, rfl⟩ := nI_of y0
  have e1 := sub_int (a := N1) (b := q) hN1 hq
  have e2 := sub_int (a := N2) (b := q) hN2 hq
  have ti := nI_toInt hi
  have tj := nI_toInt hj
  by_cases k1 : nI N1 - nI q < nI i
  · rw [if_pos k1]
  rw [if_neg k1, dg_52_44 hS, grd_t (by rw [ln_64]; exact vin_nI ho (by omega)), a6]
  have k1' : ¬ ((nI N1 - nI q).toInt < (nI i).toInt) := fun y => k1 (Int32.lt_iff_toInt_lt.mpr y)
  have h1 : i + q ≤ N1 := by omega
  rcases hno with hno | hno
  · exact absurd rfl (hno i q h1 rfl)
  · have k2 : ¬ nI j ≤ nI N2 - nI q := fun y => by
      have y' := Int32.le_iff_toInt_le.mp y
      exact hno j q (by omega) rfl rfl
    rw [if_neg k2]
theorem copy_agree (a0 a1 a2 a3 a4 : Int32) : Agree JJ (fX6_copy 0 a0 a1 a2 a3 a4) (fX7_copy 52 a0 a1 a2 a3 a4) := by
  rintro w ⟨m, tc, rl, tp, h⟩
  have J : JJ w := ⟨m, tc, rl, tp, h⟩
  by_cases hS1 : 0 ≤ a0 ∧ a0 ≤ (3 : Int32)
  · obtain ⟨s, hs, rfl⟩ := (in0n (n := 3) (by omega)).mp hS1
    have hs : s < 4 := by omega
    have cs : (nI s).toNatClampNeg = s := nI_clamp (by omega)
    by_cases hS2 : 0 ≤ a2 ∧ a2 ≤ (3 : Int32)
    · obtain ⟨o, ho, rfl⟩ := (in0n (n := 3) (by omega)).mp hS2
      have ho : o < 4 := by omega
      have co : (nI o).toNatClampNeg = o := nI_clamp (by omega)
      rcases h.shs s hs with ⟨g1, g2⟩ | ⟨h1, h2, ⟨so1, hso1, h3⟩, h4, ⟨N1, hN1, h5⟩, h6⟩
      · refine ⟨-11, w, w, ?_, ?_, J⟩
        · unfold fX6_copy
          rw [atS h.S hs, bnd_s, atS h.S ho, bnd_s, ifn_some, ifn_some, dr_at h.S.1 (kd_sh hs), missC, bnd_s, if_pos g1, if_neg (by decide)]
        · have k62 : gI w 62 (nI s).toNatClampNeg = 0 := by rw [cs]; exact g2
          unfold fX7_copy
          rw [isS, bnd_s, w01, if_pos hS1, isS, bnd_s, w01, if_pos hS2, dg_52_42 h.S, grd_t (by rw [ln_62]; exact vin_nI hs (by omega)), k62, if_pos rfl]
      · have hm1 : ¬ gI w (42 + 2 * s) 1 = -1 := by rw [h2, h3]; exact m1_nI (by omega)
        rcases h.shs o ho with ⟨g1, g2⟩ | ⟨j1, j2, ⟨so2, hso2, j3⟩, j4, ⟨N2, hN2, j5⟩, j6⟩
        · refine ⟨-11, w, w, ?_, ?_, J⟩
          · unfold fX6_copy
            rw [atS h.S hs, bnd_s, atS h.S ho, bnd_s, ifn_some, ifn_some, dr_at h.S.1 (kd_sh hs), missC, bnd_s, if_neg hm1, if_pos rfl, dr_at h.S.1 (kd_sh ho), missC, bnd_s, if_pos g1, if_neg (by decide)]
          · have k62 : gI w 62 (nI s).toNatClampNeg = 1 := by rw [cs]; exact h1
            have k62o : gI w 62 (nI o).toNatClampNeg = 0 := by rw [co]; exact g2
            unfold fX7_copy
            rw [isS, bnd_s, w01, if_pos hS1, isS, bnd_s, w01, if_pos hS2, dg_52_42 h.S, grd_t (by rw [ln_62]; exact vin_nI hs (by omega)), k62, if_neg (by decide), dg_52_42 h.S, grd_t (by rw [ln_62]; exact vin_nI ho (by omega)), k62o, if_pos rfl]
        · have hm2 : ¬ gI w (42 + 2 * o) 1 = -1 := by rw [j2, j3]; exact m1_nI (by omega)
          by_cases hso : gI w 63 s = gI w 63 o
          · have hso' : gI w (42 + 2 * s) 1 = gI w (42 + 2 * o) 1 := by rw [h2, j2, hso]
            have pre : ∀ F : Option (Int32 × Wd), (bnd (fX2_holds (42 + 2 * s) a1 a4 w) (fun x_11 w_12 => if x_11 = 0 then
              (some ((-12 : Int32), w_12))
            else
              (bnd (fX2_holds (42 + 2 * o) a3 a4 w_12) (fun x_13 w_14 => if x_13 = 0 then
                (some ((-12 : Int32), w_14))
              else
                (dr (gR w_14 (42 + 2 * s) 0) 8 w_14 (fun a_15 => dr (gR w_14 (42 + 2 * o) 0) 8 w_14 (fun a_16 => grd (¬ a1 < 0 ∧ ¬ a3 < 0 ∧ ¬ a4 < 0 ∧ a1.toNatClampNeg + a4.toNatClampNeg ≤ ln a_15 ∧ a3.toNatClampNeg + a4.toNatClampNeg ≤ ln a_16) (lw (cI w_14 a_16 (va_cpy (gI w_14 a_15) (gI w_14 a_16) a1.toNatClampNeg a3.toNatClampNeg a4.toNatClampNeg)) (fun w_17 => some (a4, w_17)))))))))) = F → fX6_copy 0 (nI s) a1 (nI o) a3 a4 w = F := by
              intro F hF
              unfold fX6_copy
              rw [atS h.S hs, bnd_s, atS h.S ho, bnd_s, ifn_some, ifn_some, dr_at h.S.1 (kd_sh hs), missC, bnd_s, if_neg hm1, if_pos rfl, dr_at h.S.1 (kd_sh ho), missC, bnd_s, if_neg hm2, if_pos rfl, if_pos hso']
              exact hF
            rcases holds_ev (x := a1) (y := a4) hN1 (h4.trans h5) with ⟨i, q, hiq, rfl, rfl, eh⟩ | ⟨hno, eh⟩
            · rcases holds_ev (x := a3) (y := nI q) hN2 (j4.trans j5) with ⟨j, q', hjq, rfl, hqq, eh2⟩ | ⟨hno, eh2⟩
              · have : q' = q := ((nI_eq (by omega) (by omega)).mp hqq).symm
                subst this
                have ki := kd_shi hs
                have ko := kd_shi ho
                have ci : (nI i).toNatClampNeg = i := nI_clamp (by omega)
                have cj : (nI j).toNatClampNeg = j := nI_clamp (by omega)
                have cq : (nI q').toNatClampNeg = q' := nI_clamp (by omega)
                obtain ⟨w1, hw1⟩ : ∃ z, z = cI w (43 + 2 * o) (va_cpy (gI w (43 + 2 * s)) (gI w (43 + 2 * o)) i j q') := ⟨_, rfl⟩
                have hw1' : cI w (43 + 2 * o) (va_cpy (gI w (43 + 2 * s)) (gI w (43 + 2 * o)) (nI i).toNatClampNeg (nI j).toNatClampNeg (nI q').toNatClampNeg) = w1 := by rw [ci, cj, cq, hw1]
                have c1 : Ch (fun a _ => a = 43 + 2 * o) w w1 := by rw [hw1]; exact ch_cI (fun k => rfl)
                have gr : ∀ k, gI w1 (43 + 2 * o) k = if j ≤ k ∧ k < j + q' then gI w (43 + 2 * s) (i + (k - j)) else gI w (43 + 2 * o) k := fun k => by
                  rw [hw1, gI_cI, if_pos rfl]
                  rfl
                obtain ⟨w2, e2, r2, c2⟩ := copyM (c1.St h.S) hs ho (by rw [c1.I (by omega)]; exact h1) (by rw [c1.I (by omega)]; exact j1) (by rw [c1.I (by omega), c1.I (by omega)]; exact hso) (by rw [c1.I (by omega)]; exact h5) (by rw [c1.I (by omega)]; exact j5) hN1 hN2 hiq hjq
                have e65 : ∀ k, gI w1 65 k = gI w 65 k := fun k => c1.I (by omega)
                refine ⟨nI q', w1, w2, pre _ ?_, e2, m, tc, rl, tp, h.sheets (P := fun i k => (42 ≤ i ∧ i < 50) ∨ (62 ≤ i ∧ i ≤ 65)) ((c1.mono (fun a b z => by omega)).tr (c2.mono (fun a b z => by omega))) (fun i k z => Or.inr z) (fun t ht => ?_)⟩
                · rw [eh, bnd_s, if_neg (by decide), eh2, bnd_s, if_neg (by decide), dg_shi h.S hs, dg_shi h.S ho, ki.2, ko.2, grd_t ⟨nI_pos (by omega), nI_pos (by omega), nI_pos (by omega), by rw [ci, cq]; omega, by rw [cj, cq]; omega⟩, lw_e, hw1']
                · by_cases hto : t = o
                  · subst hto
                    have x62 : gI w2 62 t = 1 := by rw [c2.I (by omega), c1.I (by omega)]; exact j1
                    have x63 : gI w2 63 t = gI w 63 t := by rw [c2.I (by omega), c1.I (by omega)]
                    have x64 : gI w2 64 t = nI N2 := by rw [c2.I (by omega), c1.I (by omega)]; exact j5
                    have x42 : ∀ k, gI w2 (42 + 2 * t) k = gI w (42 + 2 * t) k := fun k => by rw [c2.I (by omega), c1.I (by omega)]
                    refine Or.inr ⟨x62, by rw [x42, x63]; exact j2, by rw [x63, j3]; exact ⟨so2, hso2, rfl⟩, by rw [x42, x64]; exact j4.trans j5, by rw [x64]; exact ⟨N2, hN2, rfl⟩, fun k a b => ?_⟩
                    have hkN : k < N2 := Nat.lt_of_not_le (fun z => nI_nlt z (by omega) (by rw [← x64]; exact a))
                    rw [c2.I (show ¬ (43 + 2 * t = 65 ∧ _) by omega), gr]
                    by_cases hin : j ≤ k ∧ k < j + q'
                    · have hr := r2 (k - j) (by omega)
                      rw [show 40 * t + j + (k - j) = 40 * t + k by omega, e65] at hr
                      rw [if_pos hin, hr, h6 (i + (k - j)) (by rw [h5]; exact nI_lt (by omega) (by omega)) (by omega), Nat.add_assoc]
                    · rw [if_neg hin, c2.I (by omega), e65]
                      exact j6 k (by rw [j5]; exact nI_lt hkN (by omega)) b
                  · refine (h.shs t ht).eq (fun k => ?_) (fun k => ?_) ?_ ?_ ?_ (fun k hk => ?_)
                    · rw [c2.I (by omega), c1.I (by omega)]
                    · rw [c2.I (by omega), c1.I (by omega)]
                    · rw [c2.I (by omega), c1.I (by omega)]
                    · rw [c2.I (by omega), c1.I (by omega)]
                    · rw [c2.I (by omega), c1.I (by omega)]
                    · rw [c2.I (by omega), c1.I (by omega)]
              · exact ⟨-12, w, w, pre _ (by rw [eh, bnd_s, if_neg (by decide), eh2, bnd_s, if_pos rfl]), copyM_no h.S hs ho h1 j1 hso h5 j5 hN1 hN2 (Or.inr hno), J⟩
            · exact ⟨-12, w, w, pre _ (by rw [eh, bnd_s, if_pos rfl]), copyM_no h.S hs ho h1 j1 hso h5 j5 hN1 hN2 (Or.inl hno), J⟩
          · have hso' : ¬ gI w (42 + 2 * s) 1 = gI w (42 + 2 * o) 1 := by rw [h2, j2]; exact hso
            refine ⟨-13, w, w, ?_, ?_, J⟩
            · unfold fX6_copy
              rw [atS h.S hs, bnd_s, atS h.S ho, bnd_s, ifn_some, ifn_some, dr_at h.S.1 (kd_sh hs), missC, bnd_s, if_neg hm1, if_pos rfl, dr_at h.S.1 (kd_sh ho), missC, bnd_s, if_neg hm2, if_pos rfl, if_neg hso']
            · have k1 : gI w 62 (nI s).toNatClampNeg = 1 := by rw [cs]; exact h1
              have k2 : gI w 62 (nI o).toNatClampNeg = 1 := by rw [co]; exact j1
              have k3 : ¬ gI w 63 (nI s).toNatClampNeg = gI w 63 (nI o).toNatClampNeg := by rw [cs, co]; exact hso
              unfold fX7_copy
              rw [isS, bnd_s, w01, if_pos hS1, isS, bnd_s, w01, if_pos hS2, dg_52_42 h.S, grd_t (by rw [ln_62]; exact vin_nI hs (by omega)), k1, if_neg (by decide), dg_52_42 h.S, grd_t (by rw [ln_62]; exact vin_nI ho (by omega)), k2, if_neg (by decide), dg_52_43 h.S, grd_t (by rw [ln_63]; exact vin_nI hs (by omega)), dg_52_43 h.S, grd_t (by rw [ln_63]; exact vin_nI ho (by omega)), if_neg k3]
    · refine ⟨-2, w, w, ?_, ?_, J⟩
      · unfold fX6_copy
        rw [atS h.S hs, bnd_s, noS hS2, bnd_s, ifn_some, ifn_none]
      · unfold fX7_copy
        rw [isS, bnd_s, w01, if_pos hS1, isS, bnd_s, w01, if_neg hS2]
  · refine ⟨-2, w, w, ?_, ?_, J⟩
    · unfold fX6_copy
      rw [noS hS1, bnd_s]
      by_cases hS2 : 0 ≤ a2 ∧ a2 ≤ (3 : Int32)
      · obtain ⟨o, ho, rfl⟩ := (in0n (n := 3) (by omega)).mp hS2
        rw [atS h.S (by omega), bnd_s, ifn_none]
      · rw [noS hS2, bnd_s, ifn_none]
    · unfold fX7_copy
      rw [isS, bnd_s, w01, if_neg hS1]
