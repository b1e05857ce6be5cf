/-! cells -/
/-- what becomes of a number in a sheet of a sort -/
def cut (so v : Int32) : Int32 := if so = 0 then v.toInt8.toInt32 else if so = 1 then v.toInt16.toInt32 else v
theorem holds_ev {w : Wd} {a N : Nat} {x y : Int32} (hN : N ≤ 40) (h2 : gI w a 2 = nI N) : (∃ i q, i + q ≤ N ∧ x = nI i ∧ y = nI q ∧ fX2_holds a x y w = some (1, w)) ∨ ((∀ i q, i + q ≤ N → x = nI i → ¬ y = nI q) ∧ fX2_holds a x y w = some (0, w)) := by
  unfold fX2_holds
  rw [h2]
  by_cases h0 : x < 0
  · refine Or.inr ⟨fun i q hi hx _ => ?_, by rw [if_pos h0]⟩
    rw [hx] at h0
    exact nI_pos (by omega) h0
  · rw [if_neg h0]
    by_cases h1 : y < 0
    · refine Or.inr ⟨fun i q hi hx hy => ?_, by rw [if_pos h1]⟩
      rw [hy] at h1
      exact nI_pos (by omega) h1
    · rw [if_neg h1]
      obtain ⟨i, hi, rfl⟩ := nI_of h0
      obtain ⟨q, hq, rfl⟩ := nI_of h1
      by_cases h3 : N < q
      · refine Or.inr ⟨fun i' q' hi' hx hy => ?_, by rw [if_pos (nI_lt h3 hq)]⟩
        have := (nI_eq hq (by omega)).mp hy
        omega
      · rw [if_neg (nI_nlt (by omega) (by omega)), pk_sub (by omega)]
        by_cases h4 : N - q < i
        · refine Or.inr ⟨fun i' q' hi' hx hy => ?_, by rw [if_pos (nI_lt h4 hi)]⟩
          have a1 := (nI_eq hq (by omega)).mp hy
          have a2 := (nI_eq hi (by omega)).mp hx
          omega
        · exact Or.inl ⟨i, q, by omega, rfl, rfl, by rw [if_neg (nI_nlt (by omega) (by omega))]⟩
theorem putC_ev {w : Wd} {s N i : Nat} {v : Int32} (hS : St w) (hs : s < 4) (hN : N ≤ 40) (h2 : gI w (42 + 2 * s) 2 = nI N) (hi : i < N) : fX2_put (42 + 2 * s) (nI i) v w = some ((), sI w (43 + 2 * s) i (cut (gI w (42 + 2 * s) 1) v)) := by
  have hk := kd_shi hs
  have ci : (nI i).toNatClampNeg = i := nI_clamp (by omega)
  have p43 : ∀ x : Int32, fX2_put_43 (42 + 2 * s) x (nI i) (gR w (42 + 2 * s) 0) w = some ((), sI w (43 + 2 * s) i x) := by
    intro x
    unfold fX2_put_43
    rw [dg_shi hS hs, grd_t (by rw [hk.2]; exact vin_nI (by omega) (by omega)), ci, lw_e]
  unfold fX2_put cut
  rw [if_neg (nI_pos (by omega)), h2, if_neg (nI_ge hi (by omega)), p43, p43, p43]
  by_cases a : gI w (42 + 2 * s) 1 = 0
  · rw [if_pos a, if_pos a]
  · rw [if_neg a, if_neg a]
    by_cases b : gI w (42 + 2 * s) 1 = 1
    · rw [if_pos b, if_pos b]
    · rw [if_neg b, if_neg b]
/-- one item of a sheet changes on both sides -/
theorem Jn.item {w w' : Wd} {m tc rl tp s i : Nat} {v : Int32} (h : Jn w m tc rl tp) (hs : s < 4) (hi : i < 40) (e : w' = sI (sI w (43 + 2 * s) i v) 65 (40 * s + i) v) : Jn w' m tc rl tp := by
  have g : ∀ a b, gI w' a b = if a = 65 ∧ b = 40 * s + i then v else if a = 43 + 2 * s ∧ b = i then v else gI w a b := fun a b => by rw [e, gI_sI, gI_sI]
  have c : Ch (fun i k => (42 ≤ i ∧ i < 50) ∨ (62 ≤ i ∧ i ≤ 65)) w w' := by
    rw [e]
    exact (ch_sI (Or.inl ⟨by omega, by omega⟩)).tr (ch_sI (Or.inr ⟨by omega, by omega⟩))
  refine h.sheets c (fun i k z => Or.inr z) (fun t ht => ?_)
  by_cases hts : t = s
  · subst hts
    rcases h.shs t ht with ⟨h1, h2⟩ | ⟨h1, h2, h3, h4, h5, h6⟩
    · exact Or.inl ⟨by rw [g, if_neg (by omega), if_neg (by omega)]; exact h1, by rw [g, if_neg (by omega), if_neg (by omega)]; exact h2⟩
    · have e62 : gI w' 62 t = gI w 62 t := by rw [g, if_neg (by omega), if_neg (by omega)]
      have e63 : gI w' 63 t = gI w 63 t := by rw [g, if_neg (by omega), if_neg (by omega)]
      have e64 : gI w' 64 t = gI w 64 t := by rw [g, if_neg (by omega), if_neg (by omega)]
      have e42 : ∀ k, gI w' (42 + 2 * t) k = gI w (42 + 2 * t) k := fun k => by rw [g, if_neg (by omega), if_neg (by omega)]
      refine Or.inr ⟨by rw [e62]; exact h1, by rw [e42, e63]; exact h2, by rw [e63]; exact h3, by rw [e42, e64]; exact h4, by rw [e64]; exact h5, fun k a b => ?_⟩
      rw [e64] at a
      rw [g, g, if_neg (show ¬ (43 + 2 * t = 65 ∧ k = 40 * t + i) by omega), if_neg (show ¬ (65 = 43 + 2 * t ∧ 40 * t + k = i) by omega)]
      by_cases hk : k = i
      · rw [if_pos ⟨rfl, hk⟩, if_pos ⟨rfl, by omega⟩]
      · rw [if_neg (fun z => hk z.2), if_neg (by omega)]
        exact h6 k a b
  · refine (h.shs t ht).eq (fun k => ?_) (fun k => ?_) ?_ ?_ ?_ (fun k hk => ?_)
    · rw [g, if_neg (by omega), if_neg (by omega)]
    · rw [g, if_neg (by omega), if_neg (by omega)]
    · rw [g, if_neg (by omega), if_neg (by omega)]
    · rw [g, if_neg (by omega), if_neg (by omega)]
    · rw [g, if_neg (by omega), if_neg (by omega)]
    · rw [g, if_neg (by omega), if_neg (by omega)]
theorem cell_agree (a0 a1 a2 : Int32) : Agree JJ (fX6_cell 0 a0 a1 a2) (fX7_cell 52 a0 a1 a2) := by
  rintro w ⟨m, tc, rl, tp, h⟩
  have J : JJ w := ⟨m, tc, rl, tp, h⟩
  by_cases hS : 0 ≤ a0 ∧ a0 ≤ (3 : Int32)
  · obtain ⟨s, hs, rfl⟩ := (in0n (n := 3) (by omega)).mp hS
    have hs : s < 4 := by omega
    have cs : (nI s).toNatClampNeg = s := nI_clamp (by omega)
    rcases h.shs s hs with ⟨g1, g2⟩ | ⟨h1, h2, ⟨so, hso, h3⟩, h4, ⟨N, hN, h5⟩, h6⟩
    · refine ⟨-11, w, w, ?_, ?_, J⟩
      · unfold fX6_cell
        rw [atS h.S hs, bnd_s, ifn_some, dr_at h.S.1 (kd_sh hs), missC, bnd_s, if_pos g1, if_neg (by decide)]
      · have k62 : gI w 62 (nI s).toNatClampNeg = 0 := by rw [cs]; exact g2
        unfold fX7_cell
        rw [isS, bnd_s, w01, if_pos hS, dg_52_42 h.S, grd_t (by rw [ln_62]; exact vin_nI hs (by omega)), k62, if_pos rfl]
    · have hm : ¬ gI w (42 + 2 * s) 1 = -1 := by rw [h2, h3]; exact m1_nI (by omega)
      have h4' := h4.trans h5
      rcases holds_ev (x := a1) (y := 1) hN h4' with ⟨i, q, hiq, rfl, hq1, eh⟩ | ⟨hno, eh⟩
      · have hq : q = 1 := ((nI_eq (a := 1) (b := q) (by omega) (by omega)).mp hq1).symm
        have hi : i < N := by omega
        obtain ⟨w1, hw1⟩ : ∃ z, z = sI w (43 + 2 * s) i (cut (gI w (42 + 2 * s) 1) a2) := ⟨_, rfl⟩
        have c1 : Ch (fun a b => a = 43 + 2 * s) w w1 := by rw [hw1]; exact ch_sI (P := fun a b => a = 43 + 2 * s) rfl
        have hS1 := c1.St h.S
        have k62 : gI w1 62 (nI s).toNatClampNeg = 1 := by rw [cs, c1.I (by omega)]; exact h1
        have k63 : gI w1 63 (nI s).toNatClampNeg = gI w (42 + 2 * s) 1 := by rw [cs, c1.I (by omega)]; exact h2.symm
        have k64 : gI w1 64 (nI s).toNatClampNeg = nI N := by rw [cs, c1.I (by omega)]; exact h5
        have m40 : (40 : Int32) * nI s + nI i = nI (40 * s + i) := by
          have : (40 : Int32) * nI s = nI (40 * s) := pk_mul 40 s
          rw [this, nI_add]
        have cj : (nI (40 * s + i)).toNatClampNeg = 40 * s + i := nI_clamp (by omega)
        have c83 : ∀ x : Int32, fX7_cell_83 52 x (nI (40 * s + i)) (gR w1 52 45) w1 = some (1, sI w1 65 (40 * s + i) x) := by
          intro x
          unfold fX7_cell_83
          rw [dg_52_45 hS1, grd_t (by rw [ln_65]; exact vin_nI (by omega) (by omega)), cj, lw_e]
        refine ⟨1, w1, sI w1 65 (40 * s + i) (cut (gI w (42 + 2 * s) 1) a2), ?_, ?_, m, tc, rl, tp, h.item (i := i) (v := cut (gI w (42 + 2 * s) 1) a2) hs (by omega) (by rw [hw1])⟩
        · unfold fX6_cell
          rw [atS h.S hs, bnd_s, ifn_some, dr_at h.S.1 (kd_sh hs), missC, bnd_s, if_neg hm, if_pos rfl, eh, bnd_s, if_neg (by decide), putC_ev h.S hs hN h4' hi, bnd_s, ← hw1]
        · unfold fX7_cell
          rw [isS, bnd_s, w01, if_pos hS, dg_52_42 hS1, grd_t (by rw [ln_62]; exact vin_nI hs (by omega)), k62, if_neg (by decide), dg_52_44 hS1, grd_t (by rw [ln_64]; exact vin_nI hs (by omega)), k64, in0l rfl, bnd_s, w01, if_pos ((in0 (by omega)).mpr ⟨i, hi, rfl⟩), dg_52_43 hS1, grd_t (by rw [ln_63]; exact vin_nI hs (by omega)), k63, m40, c83]
          unfold cut
          by_cases a : gI w (42 + 2 * s) 1 = 0
          · rw [if_pos a, if_pos a]
          · rw [if_neg a, if_neg a, dg_52_43 hS1, grd_t (by rw [ln_63]; exact vin_nI hs (by omega)), k63, c83, c83]
            by_cases b : gI w (42 + 2 * s) 1 = 1
            · rw [if_pos b, if_pos b]
            · rw [if_neg b, if_neg b]
      · have hnot : ¬ (0 ≤ a1 ∧ a1 ≤ nI N - 1) := fun z => by
          obtain ⟨i, hi, hx⟩ := (in0 (by omega)).mp z
          exact hno i 1 (by omega) hx rfl
        refine ⟨-12, w, w, ?_, ?_, J⟩
        · unfold fX6_cell
          rw [atS h.S hs, bnd_s, ifn_some, dr_at h.S.1 (kd_sh hs), missC, bnd_s, if_neg hm, if_pos rfl, eh, bnd_s, if_pos rfl]
        · have k64 : gI w 64 (nI s).toNatClampNeg = nI N := by rw [cs]; exact h5
          have k62 : gI w 62 (nI s).toNatClampNeg = 1 := by rw [cs]; exact h1
          unfold fX7_cell
          rw [isS, bnd_s, w01, if_pos hS, dg_52_42 h.S, grd_t (by rw [ln_62]; exact vin_nI hs (by omega)), k62, if_neg (by decide), dg_52_44 h.S, grd_t (by rw [ln_64]; exact vin_nI hs (by omega)), k64, in0l rfl, bnd_s, w01, if_neg hnot]
  · refine ⟨-2, w, w, ?_, ?_, J⟩
    · unfold fX6_cell
      rw [noS hS, bnd_s, ifn_none]
    · unfold fX7_cell
      rw [isS, bnd_s, w01, if_neg hS]
/-! steps are filmed -/
theorem flC_loop {j s N : Nat} {ev : Ev} (hs : s < 4) (hN : N ≤ 40) : ∀ (n i fu : Nat) (w : Wd) (th : Nat → Int32), Tc w th j ev → RT th → gI w (42 + 2 * s) 1 = 1 → gI w (42 + 2 * s) 2 = nI N → i + n = N → n < fu → ∃ w', fX6_film_50 0 fu (nI N) (some (42 + 2 * s)) (nI i) w = some (nI N, w') ∧ (∀ k, i ≤ k → k < N → gI w' (43 + 2 * s) k = daysS ev (k - i + 1) th 4) ∧ (∀ k, k < i → gI w' (43 + 2 * s) k = gI w (43 + 2 * s) k) ∧ Ch (fun a b => PD a b ∨ a = 43 + 2 * s) w w' := by
  intro n
  induction n with
  | zero =>
    intro i fu w th h hR h1 h2 hi hf
    obtain ⟨fu, rfl⟩ : ∃ z, fu = z + 1 := ⟨fu - 1, by omega⟩
    have h3 : nI N ≤ nI i := nI_le (by omega) (by omega)
    refine ⟨w, ?_, fun k a b => by omega, fun k a => rfl, Ch.rf⟩
    rw [fX6_film_50]
    dsimp only
    rw [if_pos h3]
  | succ n ih =>
    intro i fu w th h hR h1 h2 hi hf
    obtain ⟨fu, rfl⟩ : ∃ z, fu = z + 1 := ⟨fu - 1, by omega⟩
    have h3 : ¬ nI N ≤ nI i := nI_ge (by omega) (by omega)
    obtain ⟨w1, f1, t1, c1⟩ := pass_ev h
    have hR1 := hR.d (ev := ev)
    obtain ⟨a, b, d, -, hb, -, -, e4, -⟩ := hR1
    have hR1 := hR.d (ev := ev)
    have hcut : cut (gI w1 (42 + 2 * s) 1) (dayS ev th 4) = dayS ev th 4 := by
      have : gI w1 (42 + 2 * s) 1 = 1 := by rw [c1.I (by unfold PD; omega)]; exact h1
      unfold cut
      have ti : (nI b).toInt = b := nI_toInt (by omega)
      rw [this, if_neg (by decide), if_pos rfl, e4, lg_i2s_small (by omega) (by omega)]
    have h2' : gI w1 (42 + 2 * s) 2 = nI N := by rw [c1.I (by unfold PD; omega)]; exact h2
    obtain ⟨w2, hw2⟩ : ∃ z, z = sI w1 (43 + 2 * s) i (dayS ev th 4) := ⟨_, rfl⟩
    have hp := putC_ev (i := i) (v := dayS ev th 4) t1.1 hs hN h2' (by omega)
    rw [hcut, ← hw2] at hp
    have c2 : Ch (fun a b => PD a b ∨ a = 43 + 2 * s) w w2 := (c1.mono (fun a b z => Or.inl z)).tr (by rw [hw2]; exact ch_sI (Or.inr rfl))
    have t2 : Tc w2 (dayS ev th) j ev := by
      obtain ⟨x1, x2, x3, x4, x5⟩ := t1
      have cc : Ch (fun a b => a = 43 + 2 * s) w1 w2 := by rw [hw2]; exact ch_sI (P := fun a b => a = 43 + 2 * s) rfl
      exact ⟨cc.St x1, x2, by rw [cc.R (by omega)]; exact x3, x4.ch cc (fun a b _ _ => by omega) x2, fun k hk => by rw [cc.I (by omega)]; exact x5 k hk⟩
    obtain ⟨w3, f3, q3, q4, c3⟩ := ih (i + 1) fu w2 (dayS ev th) t2 hR1 (by rw [c2.I (by unfold PD; omega)]; exact h1) (by rw [c2.I (by unfold PD; omega)]; exact h2) (by omega) (by omega)
    refine ⟨w3, ?_, fun k x y => ?_, fun k x => ?_, c2.tr c3⟩
    · rw [fX6_film_50]
      dsimp only
      rw [if_neg h3, dg_0_9 h.1, f1, bnd_s, dg_0_9 t1.1, dr_at t1.1.1 (kd_sh hs), t1.2.2.2.2 4 (by omega), hp, bnd_s, nI_1]
      exact f3
    · by_cases hk : k = i
      · rw [hk, q4 i (by omega), hw2, gI_sI, if_pos ⟨rfl, rfl⟩, Nat.sub_self]
        rfl
      · rw [q3 k (by omega) y, show k - i + 1 = (k - (i + 1) + 1) + 1 by omega]
        rfl
    · rw [q4 k (by omega), hw2, gI_sI, if_neg (by omega), c1.I (by unfold PD; omega)]
theorem flM_loop {p rl s N : Nat} {ev : Ev} (hs : s < 4) (hN : N ≤ 40) : ∀ (n i fu : Nat) (w : Wd) (th : Nat → Int32), Tm w th p rl ev → RT th → i + n = N → n < fu → ∃ w', fX7_film_46 52 fu (nI s) (nI p) (nI N) (nI i) w = some (nI N, w') ∧ (∀ k, i ≤ k → k < N → gI w' 65 (40 * s + k) = daysS ev (k - i + 1) th 4) ∧ (∀ k, k < i → gI w' 65 (40 * s + k) = gI w 65 (40 * s + k)) ∧ Ch (fun a b => PG a b ∨ (a = 65 ∧ 40 * s ≤ b ∧ b < 40 * s + 40)) w w' := by
  intro n
  induction n with
  | zero =>
    intro i fu w th h hR hi hf
    obtain ⟨fu, rfl⟩ : ∃ z, fu = z + 1 := ⟨fu - 1, by omega⟩
    have h3 : nI N ≤ nI i := nI_le (by omega) (by omega)
    refine ⟨w, ?_, fun k a b => by omega, fun k a => rfl, Ch.rf⟩
    rw [fX7_film_46]
    dsimp only
    rw [if_pos h3]
  | succ n ih =>
    intro i fu w th h hR hi hf
    obtain ⟨fu, rfl⟩ : ∃ z, fu = z + 1 := ⟨fu - 1, by omega⟩
    have h3 : ¬ nI N ≤ nI i := nI_ge (by omega) (by omega)
    obtain ⟨w1, f1, t1, c1⟩ := goes_ev h hR
    have m40 : (40 : Int32) * nI s + nI i = nI (40 * s + i) := by
      have : (40 : Int32) * nI s = nI (40 * s) := pk_mul 40 s
      rw [this, nI_add]
    have cj : (nI (40 * s + i)).toNatClampNeg = 40 * s + i := nI_clamp (by omega)
    obtain ⟨w2, hw2⟩ : ∃ z, z = sI w1 65 (40 * s + i) (dayS ev th 4) := ⟨_, rfl⟩
    have hw2' : sI w1 65 (nI (40 * s + i)).toNatClampNeg (dayS ev th 4) = w2 := by rw [cj, hw2]
    have c12 : Ch (fun a b => a = 65 ∧ 40 * s ≤ b ∧ b < 40 * s + 40) w1 w2 := by rw [hw2]; exact ch_sI ⟨rfl, by omega, by omega⟩
    have c2 : Ch (fun a b => PG a b ∨ (a = 65 ∧ 40 * s ≤ b ∧ b < 40 * s + 40)) w w2 := (c1.mono (fun a b z => Or.inl z)).tr (c12.mono (fun a b z => Or.inr z))
    have t2 : Tm w2 (dayS ev th) p rl ev := by
      obtain ⟨x1, x2, x3, x4, x5, x6, x7, x8, x9, x10, x11, x12⟩ := t1
      have n : ∀ {a b : Nat}, a ≠ 65 → gI w2 a b = gI w1 a b := fun hab => c12.I (fun z => hab z.1)
      exact ⟨c12.St x1, x2, x3, by rw [n (by omega)]; exact x4, x5.ch c12 (fun k => ⟨by omega, by omega⟩), by rw [n (by omega)]; exact x6, by rw [n (by omega)]; exact x7, by rw [n (by omega)]; exact x8, by rw [n (by omega)]; exact x9, by rw [n (by omega)]; exact x10, by rw [n (by omega)]; exact x11, by rw [n (by omega)]; exact x12⟩
    obtain ⟨w3, f3, q3, q4, c3⟩ := ih (i + 1) fu w2 (dayS ev th) t2 hR.d (by omega) (by omega)
    refine ⟨w3, ?_, fun k x y => ?_, fun k x => ?_, c2.tr c3⟩
    · rw [fX7_film_46]
      dsimp only
      rw [if_neg h3, f1, bnd_s, dg_52_45 t1.1, m40, grd_t (by rw [ln_65]; exact vin_nI (by omega) (by omega)), t1.step, lw_e, hw2', nI_1]
      exact f3
    · by_cases hk : k = i
      · rw [hk, q4 i (by omega), hw2, gI_sI, if_pos ⟨rfl, rfl⟩, Nat.sub_self]
        rfl
      · rw [q3 k (by omega) y, show k - i + 1 = (k - (i + 1) + 1) + 1 by omega]
        rfl
    · rw [q4 k (by omega), hw2, gI_sI, if_neg (by omega), c1.I (by unfold PG; omega)]
theorem film_agree (a0 a1 a2 : Int32) : Agree JJ (fX6_film 0 a0 a1 a2) (fX7_film 52 a0 a1 a2) := by
  rintro w ⟨m, tc, rl, tp, h⟩
  have e40 : (40 : Int32).toInt64 = (40 : Int64) := by decide
  have J : JJ w := ⟨m, tc, rl, tp, h⟩
  have m6 := h.m6
  by_cases hS : 0 ≤ a0 ∧ a0 ≤ (3 : Int32)
  · obtain ⟨s, hs, rfl⟩ := (in0n (n := 3) (by omega)).mp hS
    have hs : s < 4 := by omega
    rcases one_at h a1 with ⟨i, hi, rfl, e1, e2⟩ | ⟨e1, e2⟩
    · by_cases hd : 0 ≤ a2 ∧ a2 ≤ (40 : Int32)
      · obtain ⟨N, hN, rfl⟩ := (in0n (n := 40) (by omega)).mp hd
        obtain ⟨ev, r1, r2⟩ := h.ru
        obtain ⟨w1, f1, g1, g2, g3, c1⟩ := becomeC (n := N) (x := 1) h.S hs hN
        have r11 := r1.ch c1 (fun a b z => by omega)
        obtain ⟨w2, f2, tc2, c2⟩ := think_ev r11 (i := i) (by omega)
        rw [thC_ch c1 (fun a b z => by omega) (by omega), (h.th hi).1] at tc2
        obtain ⟨w3, f3, q3, -, c3⟩ := flC_loop hs hN N 0 FU w2 (thM w i) tc2 (h.th hi).2 (by rw [c2.I (by unfold PT; omega)]; exact g1) (by rw [c2.I (by unfold PT; omega)]; exact g2) (by omega) (show N < 2000 by omega)
        have c13 : Ch (fun a b => PT a b ∨ (a = 42 + 2 * s ∨ a = 43 + 2 * s)) w w3 := (c1.mono (fun a b z => Or.inr z)).tr ((c2.mono (fun a b z => Or.inl z)).tr (c3.mono (fun a b z => z.elim (fun y => Or.inl (PD_PT a b y)) (fun y => Or.inr (Or.inr y)))))
        have hS3 := c13.St h.S
        obtain ⟨w4, f4, k1, k2, k3, k4, c4⟩ := sheetM (so := 1) hS3 hs (by omega) hN
        have f4 : fX7_sheet 52 (nI s) (1 : Int32) (nI N) w3 = some (1, w4) := f4
        have c14 : Ch (fun a b => PT a b ∨ (a = 42 + 2 * s ∨ a = 43 + 2 * s) ∨ (((a = 62 ∨ a = 63 ∨ a = 64) ∧ b = s) ∨ (a = 65 ∧ 40 * s ≤ b ∧ b < 40 * s + 40))) w w4 := (c13.mono (fun a b z => z.elim Or.inl (fun y => Or.inr (Or.inl y)))).tr (c4.mono (fun a b z => Or.inr (Or.inr z)))
        obtain ⟨w5, f5, t5, c5⟩ := begins_ev (r2.ch c14 (fun a b z => by unfold PT at z; omega)) (p := i) (by omega)
        rw [thM_ch c14 (fun a b z => by unfold PT at z; omega) i] at t5
        obtain ⟨w6, f6, q6, -, c6⟩ := flM_loop hs hN N 0 FU w5 (thM w i) t5 (h.th hi).2 (by omega) (show N < 2000 by omega)
        have c56 : Ch (fun a b => PG a b ∨ (a = 65 ∧ 40 * s ≤ b ∧ b < 40 * s + 40)) w4 w6 := ((c5.mono PB_PG).mono (fun a b z => Or.inl z)).tr c6
        have c16 : Ch (fun a b => SC a b ∨ (a = 42 + 2 * s ∨ a = 43 + 2 * s) ∨ (((a = 62 ∨ a = 63 ∨ a = 64) ∧ b = s) ∨ (a = 65 ∧ 40 * s ≤ b ∧ b < 40 * s + 40))) w w6 := (c14.mono (fun a b z => z.elim (fun y => Or.inl (PT_SC a b y)) Or.inr)).tr (c56.mono (fun a b z => z.elim (fun y => Or.inl (PM_SC a b (PG_PM a b y))) (fun y => Or.inr (Or.inr (Or.inr y)))))
        refine ⟨nI N, w3, w6, ?_, ?_, m, tc, rl, tp, h.sheets c16 (fun a b z => z.elim Or.inl (fun y => Or.inr (by omega))) (fun t ht => ?_)⟩
        · unfold fX6_film
          rw [atS h.S hs, bnd_s, e1, bnd_s, ifn_some, ifn_some, days_ev, bnd_s, w01, if_pos hd, dr_at h.S.1 (kd_sh hs), f1, bnd_s, f2, bnd_s]
          exact f3
        · have h11 : gI w3 52 11 = nI m := by rw [c13.I (by unfold PT; omega)]; exact h.c11
          unfold fX7_film
          rw [isS, bnd_s, w01, if_pos hS, atM h11 m6 hi, bnd_s, if_neg (by decide), in0l e40, bnd_s, w01, if_pos hd, f4, bnd_s, f5, bnd_s]
          exact f6
        · by_cases hts : t = s
          · subst hts
            have a1 : gI w6 (42 + 2 * t) 1 = 1 := by rw [c56.I (by unfold PG; omega), c4.I (by omega), c3.I (by unfold PD; omega), c2.I (by unfold PT; omega)]; exact g1
            have a2 : gI w6 (42 + 2 * t) 2 = nI N := by rw [c56.I (by unfold PG; omega), c4.I (by omega), c3.I (by unfold PD; omega), c2.I (by unfold PT; omega)]; exact g2
            have a62 : gI w6 62 t = 1 := by rw [c56.I (by unfold PG; omega)]; exact k1
            have a63 : gI w6 63 t = nI 1 := by rw [c56.I (by unfold PG; omega)]; exact k2
            have a64 : gI w6 64 t = nI N := by rw [c56.I (by unfold PG; omega)]; exact k3
            refine Or.inr ⟨a62, by rw [a1, a63]; rfl, by rw [a63]; exact ⟨1, by omega, rfl⟩, by rw [a2, a64], by rw [a64]; exact ⟨N, hN, rfl⟩, fun k a b => ?_⟩
            have hkN : k < N := Nat.lt_of_not_le (fun z => nI_nlt z (by omega) (by rw [← a64]; exact a))
            rw [q6 k (by omega) hkN, c56.I (by unfold PG; omega), c4.I (by omega), q3 k (by omega) hkN]
          · refine (h.shs t ht).eq (fun k => ?_) (fun k => ?_) ?_ ?_ ?_ (fun k hk => ?_)
            · exact c16.I (by unfold SC; omega)
            · exact c16.I (by unfold SC; omega)
            · exact c16.I (by unfold SC; omega)
            · exact c16.I (by unfold SC; omega)
            · exact c16.I (by unfold SC; omega)
            · exact c16.I (by unfold SC; omega)
      · refine ⟨-2, w, w, ?_, ?_, J⟩
        · unfold fX6_film
          rw [atS h.S hs, bnd_s, e1, bnd_s, ifn_some, ifn_some, days_ev, bnd_s, w01, if_neg hd]
        · unfold fX7_film
          rw [isS, bnd_s, w01, if_pos hS, e2, bnd_s, if_neg (by decide), in0l e40, bnd_s, w01, if_neg hd]
    · refine ⟨-2, w, w, ?_, ?_, J⟩
      · unfold fX6_film
        rw [atS h.S hs, bnd_s, e1, bnd_s, ifn_some, ifn_none]
      · unfold fX7_film
        rw [isS, bnd_s, w01, if_pos hS, e2, bnd_s, if_pos rfl]
  · refine ⟨-2, w, w, ?_, ?_, J⟩
    · unfold fX6_film
      rw [noS hS, bnd_s]
      rcases one_at h a1 with ⟨i, hi, rfl, e1, e2⟩ | ⟨e1, e2⟩
      · rw [e1, bnd_s, ifn_none]
      · rw [e1, bnd_s, ifn_none]
    · unfold fX7_film
      rw [isS, bnd_s, w01, if_neg hS]
