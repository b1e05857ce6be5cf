/-! sheets -/
theorem Jn.sheets {P : Nat → Nat → Prop} {w w' : Wd} {m tc rl tp : Nat} (h : Jn w m tc rl tp) (hc : Ch P w w') (hP : ∀ i k, P i k → SC i k ∨ (42 ≤ i ∧ i < 50) ∨ (62 ≤ i ∧ i ≤ 65)) (h10 : ∀ s, s < 4 → Sh w' s) : Jn w' m tc rl tp := by
  have q : ∀ {i k : Nat}, P i k → (i = 2 ∨ i = 7 ∨ i = 50 ∨ i = 51 ∨ (i = 5 ∧ 2 ≤ k ∧ k ≤ 8) ∨ (i = 52 ∧ 12 ≤ k ∧ k ≤ 35) ∨ i = 59) ∨ (42 ≤ i ∧ i < 50) ∨ (62 ≤ i ∧ i ≤ 65) := fun {i k} z => by
    have := hP i k z
    unfold SC at this
    omega
  have n : ∀ {i k : Nat}, ¬ ((i = 2 ∨ i = 7 ∨ i = 50 ∨ i = 51 ∨ (i = 5 ∧ 2 ≤ k ∧ k ≤ 8) ∨ (i = 52 ∧ 12 ≤ k ∧ k ≤ 35) ∨ i = 59) ∨ (42 ≤ i ∧ i < 50) ∨ (62 ≤ i ∧ i ≤ 65)) → gI w' i k = gI w i k := fun hn => hc.I (fun z => hn (q z))
  have m6 := h.m6
  refine h.all hc (fun i k z => by have := q z; omega) ⟨h.m6, ?_, ?_⟩ ⟨h.2.2.2.1.1, ?_, ?_⟩ ?_ (fun k hk => ?_) (fun i hi => (h.wk i hi).ch hc (fun y => ⟨fun z => by have := q z; omega, fun z => by have := q z; omega, fun z => by have := q z; omega⟩)) h10 (h.2.2.2.2.2.2.2.2.2.2.ch h.m6 hc (fun i k z => by have := q z; omega))
  · rw [n (by omega)]; exact h.c3
  · rw [n (by omega)]; exact h.c11
  · rw [n (by omega)]; exact h.2.2.2.1.2.1
  · rw [n (by omega)]; exact h.2.2.2.1.2.2
  · rw [n (by omega), n (by omega)]; exact h.dy
  · rw [n (by omega), n (by omega)]; exact h.hv k hk
theorem Sh.eq {w w' : Wd} {t : Nat} (h : Sh w t) (e1 : ∀ k, gI w' (42 + 2 * t) k = gI w (42 + 2 * t) k) (e2 : ∀ k, gI w' (43 + 2 * t) k = gI w (43 + 2 * t) k) (e3 : gI w' 62 t = gI w 62 t) (e4 : gI w' 63 t = gI w 63 t) (e5 : gI w' 64 t = gI w 64 t) (e6 : ∀ k, k < 40 → gI w' 65 (40 * t + k) = gI w 65 (40 * t + k)) : Sh w' t := by
  unfold Sh
  rw [e1, e1, e3, e4, e5]
  refine h.imp id (fun y => ⟨y.1, y.2.1, y.2.2.1, y.2.2.2.1, y.2.2.2.2.1, fun k a b => ?_⟩)
  rw [e2, e6 k b]
  exact y.2.2.2.2.2 k a b
theorem bdd_le {n m : Nat} (h : n ≤ m) (hm : m < 2 ^ 31) : bdd (nI n) (nI m) = nI n := by
  unfold bdd
  have e : (if nI n < nI m then nI n else nI m) = nI n := by
    by_cases h1 : n < m
    · rw [if_pos (nI_lt h1 hm)]
    · rw [if_neg (nI_nlt (by omega) (by omega)), show n = m by omega]
  rw [e]
  by_cases h0 : n = 0
  · subst h0
    rw [if_neg (show ¬ (0 : Int32) < nI 0 by decide)]
    rfl
  · have : (0 : Int32) < nI n := nI_lt (a := 0) (by omega) (by omega)
    rw [if_pos this]
theorem becomeC {w : Wd} {s n : Nat} {x : Int32} (hS : St w) (hs : s < 4) (hn : n ≤ 40) : ∃ w', fX2_becomeRow (42 + 2 * s) x (nI n) w = some ((), w') ∧ gI w' (42 + 2 * s) 1 = x ∧ gI w' (42 + 2 * s) 2 = nI n ∧ (∀ k, k < 40 → gI w' (43 + 2 * s) k = 0) ∧ Ch (fun a b => a = 42 + 2 * s ∨ a = 43 + 2 * s) w w' := by
  have hk := kd_shi hs
  obtain ⟨w1, hw1⟩ : ∃ z, z = sI (sI w (42 + 2 * s) 1 x) (42 + 2 * s) 2 (nI n) := ⟨_, rfl⟩
  have c1 : Ch (fun a b => a = 42 + 2 * s ∨ a = 43 + 2 * s) w w1 := by
    rw [hw1]
    exact (ch_sI (Or.inl rfl)).tr (ch_sI (Or.inl rfl))
  have hS1 := c1.St hS
  obtain ⟨w2, f2, q2, c2⟩ := fill_ev (a := 43 + 2 * s) (v := 0) (L := 40) hk.1 hk.2 (by omega) hS1.1
  have b40 : bdd (nI n) (40 : Int32) = nI n := bdd_le (m := 40) hn (by omega)
  refine ⟨w2, ?_, ?_, ?_, q2, c1.tr (c2.mono (fun a b z => Or.inr z.1))⟩
  · unfold fX2_becomeRow
    rw [lw_e, bdd_ev, bnd_s, b40, lw_e, ← hw1, st_shi hS1 hs, f2, bnd_s]
  · rw [c2.I (by omega), hw1, gI_sI, if_neg (by omega), gI_sI, if_pos ⟨rfl, rfl⟩]
  · rw [c2.I (by omega), hw1, gI_sI, if_pos ⟨rfl, rfl⟩]
theorem shM_loop {s so N : Nat} (hs : s < 4) (hso : so ≤ 2) (hN : N ≤ 40) : ∀ (n i fu : Nat) (w : Wd), St w → i + n = N → n < fu → ∃ w', fX7_sheet_77 52 fu (nI s) (nI so) (nI N) (nI i) w = some (1, w') ∧ (∀ k, i ≤ k → k < N → gI w' 65 (40 * s + k) = 0) ∧ (∀ k, k < i → gI w' 65 (40 * s + k) = gI w 65 (40 * s + k)) ∧ Ch (fun a b => a = 65 ∧ 40 * s ≤ b ∧ b < 40 * s + 40) w w' := by
  intro n
  induction n with
  | zero =>
    intro i fu w hS hi hf
    obtain ⟨fu, rfl⟩ : ∃ z, fu = z + 1 := ⟨fu - 1, by omega⟩
    have h1 : nI N ≤ nI i := nI_le (by omega) (by omega)
    refine ⟨w, ?_, fun k a b => by omega, fun k a => rfl, Ch.rf⟩
    rw [fX7_sheet_77]
    dsimp only
    rw [if_pos h1]
  | succ n ih =>
    intro i fu w hS hi hf
    obtain ⟨fu, rfl⟩ : ∃ z, fu = z + 1 := ⟨fu - 1, by omega⟩
    have h1 : ¬ nI N ≤ nI i := nI_ge (by omega) (by omega)
    have m40 : (40 : Int32) * nI s + nI i = nI (40 * s + i) := by
      have : (40 : Int32) * nI s = nI (40 * s) := pk_mul 40 s
      rw [this, nI_add]
    have ci : (nI (40 * s + i)).toNatClampNeg = 40 * s + i := nI_clamp (by omega)
    obtain ⟨w1, hw1⟩ : ∃ z, z = sI w 65 (40 * s + i) 0 := ⟨_, rfl⟩
    have hw1' : sI w 65 (nI (40 * s + i)).toNatClampNeg 0 = w1 := by rw [ci, hw1]
    have c1 : Ch (fun a b => a = 65 ∧ 40 * s ≤ b ∧ b < 40 * s + 40) w w1 := by rw [hw1]; exact ch_sI ⟨rfl, by omega, by omega⟩
    obtain ⟨w2, e2, q2, q3, c2⟩ := ih (i + 1) fu w1 (c1.St hS) (by omega) (by omega)
    refine ⟨w2, ?_, fun k a b => ?_, fun k a => ?_, c1.tr c2⟩
    · rw [fX7_sheet_77]
      dsimp only
      rw [if_neg h1, if_neg (nI_pos (by omega)), dg_52_45 hS, m40, grd_t (by rw [ln_65]; exact vin_nI (by omega) (by omega)), lw_e, hw1', nI_1]
      exact e2
    · by_cases hk : k = i
      · rw [hk, q3 i (by omega), hw1, gI_sI, if_pos ⟨rfl, rfl⟩]
      · exact q2 k (by omega) b
    · rw [q3 k (by omega), hw1, gI_sI, if_neg (by omega)]
/-- a sheet becomes a row, on the model's side -/
theorem sheetM {w : Wd} {s so N : Nat} (hS : St w) (hs : s < 4) (hso : so ≤ 2) (hN : N ≤ 40) : ∃ w', fX7_sheet 52 (nI s) (nI so) (nI N) w = some (1, w') ∧ gI w' 62 s = 1 ∧ gI w' 63 s = nI so ∧ gI w' 64 s = nI N ∧ (∀ k, k < N → gI w' 65 (40 * s + k) = 0) ∧ Ch (fun a b => ((a = 62 ∨ a = 63 ∨ a = 64) ∧ b = s) ∨ (a = 65 ∧ 40 * s ≤ b ∧ b < 40 * s + 40)) w w' := by
  have em : (-1 : Int32).toInt64 = (-1 : Int64) := by decide
  have e2 : (2 : Int32).toInt64 = (2 : Int64) := by decide
  have cs : (nI s).toNatClampNeg = s := nI_clamp (by omega)
  have h40 : nI N ≤ (40 : Int32) := nI_le (b := 40) hN (by omega)
  have h2 : nI so ≤ (2 : Int32) := nI_le (b := 2) hso (by omega)
  have hm1 : (-1 : Int32) ≤ nI so := by
    have a := Int32.lt_iff_toInt_lt.mp (m1_lt (k := so) (by omega))
    exact Int32.le_iff_toInt_le.mpr (by omega)
  have n0 : ¬ nI so < 0 := nI_pos (by omega)
  have p0 : 0 ≤ nI N := nI_pos' (by omega)
  obtain ⟨w1, hw1⟩ : ∃ z, z = sI (sI (sI w 62 s 1) 63 s (nI so)) 64 s (nI N) := ⟨_, rfl⟩
  have c1 : Ch (fun a b => ((a = 62 ∨ a = 63 ∨ a = 64) ∧ b = s) ∨ (a = 65 ∧ 40 * s ≤ b ∧ b < 40 * s + 40)) w w1 := by
    rw [hw1]
    exact ((ch_sI (Or.inl ⟨Or.inl rfl, rfl⟩)).tr (ch_sI (Or.inl ⟨Or.inr (Or.inl rfl), rfl⟩))).tr (ch_sI (Or.inl ⟨Or.inr (Or.inr rfl), rfl⟩))
  obtain ⟨w2, e3, q2, -, c2⟩ := shM_loop hs hso hN N 0 FU w1 (c1.St hS) (by omega) (show N < 2000 by omega)
  have e3 : fX7_sheet_77 52 FU (nI s) (nI so) (nI N) (0 : Int32) w1 = some (1, w2) := e3
  refine ⟨w2, ?_, ?_, ?_, ?_, fun k hk => q2 k (by omega) hk, c1.tr (c2.mono (fun a b z => Or.inr z))⟩
  · unfold fX7_sheet fX7_sheet_34 fX7_sheet_45 fX7_sheet_59
    rw [isS, bnd_s, w01, if_pos (b3s hs), ← em, ← e2, in32, bnd_s, w01, if_pos ⟨hm1, h2⟩, if_neg n0, if_pos h40, if_neg n0, if_pos p0, if_neg n0, dg_52_42 hS, grd_t (by rw [ln_62]; exact vin_nI hs (by omega)), grd_t (Or.inr rfl)]
    simp only [cs]
    rw [lw_e, dg_52_43 (St_sI hS), grd_t (by rw [ln_63]; exact vin_nI hs (by omega)), lw_e, dg_52_44 (St_sI (St_sI hS)), grd_t (by rw [ln_64]; exact vin_nI hs (by omega)), lw_e, ← hw1]
    exact e3
  · rw [c2.I (by omega), hw1, gI_sI, if_neg (by omega), gI_sI, if_neg (by omega), gI_sI, if_pos ⟨rfl, rfl⟩]
  · rw [c2.I (by omega), hw1, gI_sI, if_neg (by omega), gI_sI, if_pos ⟨rfl, rfl⟩]
  · rw [c2.I (by omega), hw1, gI_sI, if_pos ⟨rfl, rfl⟩]
/-- a sheet goes missing, on the model's side -/
theorem missM {w : Wd} {s : Nat} {x : Int32} (hS : St w) (hs : s < 4) : ∃ w', fX7_sheet 52 (nI s) (-1) x w = some (1, w') ∧ gI w' 62 s = 0 ∧ Ch (fun a b => ((a = 62 ∨ a = 63 ∨ a = 64) ∧ b = s)) w w' := by
  have em : (-1 : Int32).toInt64 = (-1 : Int64) := by decide
  have e2 : (2 : Int32).toInt64 = (2 : Int64) := by decide
  have cs : (nI s).toNatClampNeg = s := nI_clamp (by omega)
  have n0 : (-1 : Int32) < 0 := by decide
  obtain ⟨w1, hw1⟩ : ∃ z, z = sI (sI (sI w 62 s 0) 63 s (-1)) 64 s x := ⟨_, rfl⟩
  have c1 : Ch (fun a b => ((a = 62 ∨ a = 63 ∨ a = 64) ∧ b = s)) w w1 := by
    rw [hw1]
    exact ((ch_sI ⟨Or.inl rfl, rfl⟩).tr (ch_sI ⟨Or.inr (Or.inl rfl), rfl⟩)).tr (ch_sI ⟨Or.inr (Or.inr rfl), rfl⟩)
  refine ⟨w1, ?_, ?_, c1⟩
  · unfold fX7_sheet fX7_sheet_34 fX7_sheet_45 fX7_sheet_59
    rw [isS, bnd_s, w01, if_pos (b3s hs), ← em, ← e2, in32, bnd_s, w01, if_pos (by decide), if_pos n0, if_pos n0, if_pos n0, dg_52_42 hS, grd_t (by rw [ln_62]; exact vin_nI hs (by omega)), grd_t (Or.inl rfl)]
    simp only [cs]
    rw [lw_e, dg_52_43 (St_sI hS), grd_t (by rw [ln_63]; exact vin_nI hs (by omega)), lw_e, dg_52_44 (St_sI (St_sI hS)), grd_t (by rw [ln_64]; exact vin_nI hs (by omega)), lw_e, ← hw1, show FU = 1999 + 1 from rfl, fX7_sheet_77]
    dsimp only
    by_cases hx : x ≤ 0
    · rw [if_pos hx]
    · rw [if_neg hx, if_pos n0]
  · rw [hw1, gI_sI, if_neg (by omega), gI_sI, if_neg (by omega), gI_sI, if_pos ⟨rfl, rfl⟩]
theorem sheet_agree (a0 a1 a2 : Int32) : Agree JJ (fX6_sheet 0 a0 a1 a2) (fX7_sheet 52 a0 a1 a2) := by
  rintro w ⟨m, tc, rl, tp, h⟩
  have em : (-1 : Int32).toInt64 = (-1 : Int64) := by decide
  have e2 : (2 : Int32).toInt64 = (2 : Int64) := by decide
  have J : JJ w := ⟨m, tc, rl, tp, h⟩
  have inM : ∀ u : Wd, fX7_in a1.toInt64 (-1 : Int64) (2 : Int64) u = some (if -1 ≤ a1 ∧ a1 ≤ (2 : Int32) then 1 else 0, u) := fun u => by
    rw [← em, ← e2, in32]
  by_cases hS : 0 ≤ a0 ∧ a0 ≤ (3 : Int32)
  · obtain ⟨s, hs, rfl⟩ := (in0n (n := 3) (by omega)).mp hS
    have hs : s < 4 := by omega
    by_cases hd : -1 ≤ a1 ∧ a1 ≤ (2 : Int32)
    · by_cases h1 : a1 = -1
      · subst h1
        obtain ⟨w1, f1, g1, g2, g3, c1⟩ := becomeC (n := 0) (x := -1) h.S hs (by omega)
        have f1 : fX2_becomeRow (42 + 2 * s) (-1 : Int32) (0 : Int32) w = some ((), w1) := f1
        obtain ⟨w2, f2, g4, c2⟩ := missM (x := a2) (c1.St h.S) hs
        refine ⟨1, w1, w2, ?_, f2, m, tc, rl, tp, h.sheets (P := fun i k => (42 ≤ i ∧ i < 50) ∨ (62 ≤ i ∧ i ≤ 65)) ((c1.mono (fun a b z => by omega)).tr (c2.mono (fun a b z => by omega))) (fun i k z => Or.inr z) (fun t ht => ?_)⟩
        · unfold fX6_sheet
          rw [atS h.S hs, bnd_s, ifn_some, wn_ev, bnd_s, w01, if_pos hd, if_pos rfl, dr_at h.S.1 (kd_sh hs), f1, bnd_s]
        · by_cases hts : t = s
          · subst hts
            exact Or.inl ⟨by rw [c2.I (by omega)]; exact g1, g4⟩
          · refine (h.shs t ht).eq (fun k => ?_) (fun k => ?_) ?_ ?_ ?_ (fun k hk => ?_)
            · rw [c2.I (by omega), c1.I (by omega)]
            · rw [c2.I (by omega), c1.I (by omega)]
            · rw [c2.I (by omega), c1.I (by omega)]
            · rw [c2.I (by omega), c1.I (by omega)]
            · rw [c2.I (by omega), c1.I (by omega)]
            · rw [c2.I (by omega), c1.I (by omega)]
      · have h0 : 0 ≤ a1 := by
          have a := Int32.le_iff_toInt_le.mp hd.1
          have b : (-1 : Int32).toInt = -1 := by decide
          have c : (0 : Int32).toInt = 0 := by decide
          have d : ¬ a1.toInt = -1 := fun z => h1 (Int32.toInt_inj.mp (z.trans b.symm))
          exact Int32.le_iff_toInt_le.mpr (by omega)
        obtain ⟨so, hso, rfl⟩ := (in0n (n := 2) (by omega)).mp ⟨h0, hd.2⟩
        by_cases h40 : a2 ≤ (40 : Int32)
        · by_cases hn : 0 ≤ a2
          · obtain ⟨N, hN, rfl⟩ := (in0n (n := 40) (by omega)).mp ⟨hn, h40⟩
            obtain ⟨w1, f1, g1, g2, g3, c1⟩ := becomeC (n := N) (x := nI so) h.S hs hN
            obtain ⟨w2, f2, k1, k2, k3, k4, c2⟩ := sheetM (c1.St h.S) hs hso hN
            refine ⟨1, w1, w2, ?_, f2, m, tc, rl, tp, h.sheets (P := fun i k => (42 ≤ i ∧ i < 50) ∨ (62 ≤ i ∧ i ≤ 65)) ((c1.mono (fun a b z => by omega)).tr (c2.mono (fun a b z => by omega))) (fun i k z => Or.inr z) (fun t ht => ?_)⟩
            · unfold fX6_sheet
              rw [atS h.S hs, bnd_s, ifn_some, wn_ev, bnd_s, w01, if_pos hd, if_neg h1, if_pos h40, if_pos hn, dr_at h.S.1 (kd_sh hs), f1, bnd_s]
            · by_cases hts : t = s
              · subst hts
                refine Or.inr ⟨k1, by rw [c2.I (by omega), g1, k2], by rw [k2]; exact ⟨so, hso, rfl⟩, by rw [c2.I (by omega), g2, k3], by rw [k3]; exact ⟨N, hN, rfl⟩, fun k a b => ?_⟩
                have hkN : k < N := Nat.lt_of_not_le (fun z => nI_nlt z (by omega) (by rw [← k3]; exact a))
                rw [c2.I (by omega), g3 k b, k4 k hkN]
              · refine (h.shs t ht).eq (fun k => ?_) (fun k => ?_) ?_ ?_ ?_ (fun k hk => ?_)
                · rw [c2.I (by omega), c1.I (by omega)]
                · rw [c2.I (by omega), c1.I (by omega)]
                · rw [c2.I (by omega), c1.I (by omega)]
                · rw [c2.I (by omega), c1.I (by omega)]
                · rw [c2.I (by omega), c1.I (by omega)]
                · rw [c2.I (by omega), c1.I (by omega)]
          · refine ⟨-14, w, w, ?_, ?_, J⟩
            · unfold fX6_sheet
              rw [atS h.S hs, bnd_s, ifn_some, wn_ev, bnd_s, w01, if_pos hd, if_neg h1, if_pos h40, if_neg hn]
            · unfold fX7_sheet fX7_sheet_34
              rw [isS, bnd_s, w01, if_pos hS, inM, bnd_s, w01, if_pos hd, if_neg (nI_pos (by omega)), if_pos h40, if_neg (nI_pos (by omega)), if_neg hn]
        · refine ⟨-2, w, w, ?_, ?_, J⟩
          · unfold fX6_sheet
            rw [atS h.S hs, bnd_s, ifn_some, wn_ev, bnd_s, w01, if_pos hd, if_neg h1, if_neg h40]
          · unfold fX7_sheet fX7_sheet_34
            rw [isS, bnd_s, w01, if_pos hS, inM, bnd_s, w01, if_pos hd, if_neg (nI_pos (by omega)), if_neg h40]
    · refine ⟨-2, w, w, ?_, ?_, J⟩
      · unfold fX6_sheet
        rw [atS h.S hs, bnd_s, ifn_some, wn_ev, bnd_s, w01, if_neg hd]
      · unfold fX7_sheet
        rw [isS, bnd_s, w01, if_pos hS, inM, bnd_s, w01, if_neg hd]
  · refine ⟨-2, w, w, ?_, ?_, J⟩
    · unfold fX6_sheet
      rw [noS hS, bnd_s, ifn_none]
    · unfold fX7_sheet
      rw [isS, bnd_s, w01, if_neg hS]
