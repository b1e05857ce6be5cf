/-! what set changes -/
def putC (w : Wd) (k i : Nat) (v : Int32) : Wd := if k = 0 then sI w 0 4 v else if k = 1 then sI w 1 i v else sI w (18 + i) (k - 1) v
def putM (w : Wd) (k i : Nat) (v : Int32) : Wd := if k = 0 then sI w 52 7 v else if k = 1 then sI w 56 i v else if k = 7 then sI w 57 i v else if k = 8 then sI w 52 4 v else sI w 58 (5 * i + (k - 2)) v
theorem keepC {w : Wd} {m k i : Nat} {x v : Int32} (hS : St w) (h3 : gI w 0 3 = nI m) (m6 : m ≤ 6) (hk : k ≤ 6) (hn : Nm m k i x) : fX6_keep 0 (nI k) x v w = some ((), putC w k i v) := by
  unfold fX6_keep putC
  rcases hn with rfl | ⟨rfl, hi, rfl⟩ | ⟨h2, hi, rfl⟩
  · rw [if_pos (by decide), if_pos rfl, lw_e]
  · have ci : (nI i).toNatClampNeg = i := nI_clamp (by omega)
    rw [if_neg (by decide), if_pos (by decide), thing_ev, bnd_s, w01, if_pos (b7 (by omega)), dg_0_0 hS, grd_t (by rw [ln_1]; exact vin_nI hi (by omega)), ci, if_neg (by omega), if_pos rfl, lw_e]
  · have h1 : ¬ nI k = (1 : Int32) := nI_ne (b := 1) (by omega) (by omega) (by omega)
    have hw := kd_wk (j := i) (by omega)
    rw [if_neg (nI_n0 (by omega) (by omega)), if_neg h1, atC hS h3 m6 hi, bnd_s, if_neg (by omega), if_neg (by omega)]
    unfold fX6_keepOfWalker
    rw [ifn_some]
    have hc : k = 2 ∨ k = 3 ∨ k = 4 ∨ k = 5 ∨ k = 6 := by omega
    rcases hc with rfl | rfl | rfl | rfl | rfl
    · rw [if_pos (by decide), dr_at hS.1 hw, lw_e, bnd_s]
    · rw [if_neg (by decide), if_pos (by decide), dr_at hS.1 hw, lw_e, bnd_s]
    · rw [if_neg (by decide), if_neg (by decide), if_pos (by decide), dr_at hS.1 hw, lw_e, bnd_s]
    · rw [if_neg (by decide), if_neg (by decide), if_neg (by decide), if_pos (by decide), dr_at hS.1 hw, lw_e, bnd_s]
    · rw [if_neg (by decide), if_neg (by decide), if_neg (by decide), if_neg (by decide), dr_at hS.1 hw, lw_e, bnd_s]
theorem laysM {w : Wd} {m k i : Nat} {x v : Int32} (hS : St w) (m6 : m ≤ 6) (hk : k ≤ 8) (hn : Nm m k i x) : fX7_lays 52 (nI k) x v w = some ((), putM w k i v) := by
  unfold fX7_lays putM
  rcases hn with rfl | ⟨rfl, hi, rfl⟩ | ⟨h2, hi, rfl⟩
  · rw [if_pos (by decide), if_pos rfl, lw_e]
  · have ci : (nI i).toNatClampNeg = i := nI_clamp (by omega)
    rw [if_neg (by decide), if_pos (by decide), dg_52_8 hS, grd_t (by rw [ln_56]; exact vin_nI hi (by omega)), ci, if_neg (by omega), if_pos rfl, lw_e]
  · have h1 : ¬ nI k = (1 : Int32) := nI_ne (b := 1) (by omega) (by omega) (by omega)
    have ci : (nI i).toNatClampNeg = i := nI_clamp (by omega)
    rw [if_neg (nI_n0 (by omega) (by omega)), if_neg h1, if_neg (show ¬ k = 0 by omega), if_neg (show ¬ k = 1 by omega)]
    by_cases h7 : k = 7
    · subst h7
      rw [if_pos (by decide), if_pos (by decide), dg_52_9 hS, grd_t (by rw [ln_57]; exact vin_nI (by omega) (by omega)), ci, if_pos rfl, lw_e]
    · rw [if_neg h7]
      by_cases h8 : k = 8
      · subst h8
        rw [if_pos (by decide), if_neg (by decide), if_pos rfl, lw_e]
      · have h7' : ¬ (7 : Int32) ≤ nI k := nI_ge (b := 7) (by omega) (by omega)
        have en : (5 : Int32) * nI i + nI k - 2 = nI (5 * i + (k - 2)) := by
          rw [m5, nI_add]
          have : nI (5 * i + k) - nI 2 = nI (5 * i + k - 2) := pk_sub (by omega)
          rw [show 5 * i + (k - 2) = 5 * i + k - 2 by omega]
          exact this
        have cj : (nI (5 * i + (k - 2))).toNatClampNeg = 5 * i + (k - 2) := nI_clamp (by omega)
        rw [if_neg h8, if_neg h7', dg_52_10 hS, en, grd_t (by rw [ln_58]; exact vin_nI (by omega) (by omega)), cj, lw_e]
/-- the numbers of a walker: bounds -/
def bq (q : Nat) : Nat := if q = 0 then 9 else if q < 3 then 255 else if q = 3 then 999 else 9999
theorem Wk_iff {w : Wd} {a r i : Nat} : Wk w a r 5 i ↔ (gI w (a + i) 0 = gI w 57 i ∧ Ra (gI w (a + i) 0) 5 ∧ ∀ q, q < 5 → gI w (a + i) (q + 1) = gI w r (5 * i + q) ∧ Ra (gI w (a + i) (q + 1)) (bq q)) := by
  constructor
  · rintro ⟨a0, a1, a2, a3, a4, a5, r0, r1, r2, r3, r4, r5⟩
    refine ⟨a0, r0, fun q hq => ?_⟩
    match q, hq with
    | 0, _ => exact ⟨a1, r1⟩
    | 1, _ => exact ⟨a2, r2⟩
    | 2, _ => exact ⟨a3, r3⟩
    | 3, _ => exact ⟨a4, r4⟩
    | 4, _ => exact ⟨a5, r5⟩
  · rintro ⟨a0, r0, f⟩
    exact ⟨a0, (f 0 (by omega)).1, (f 1 (by omega)).1, (f 2 (by omega)).1, (f 3 (by omega)).1, (f 4 (by omega)).1, r0, (f 0 (by omega)).2, (f 1 (by omega)).2, (f 2 (by omega)).2, (f 3 (by omega)).2, (f 4 (by omega)).2⟩
theorem set_agree (a0 a1 a2 : Int32) : Agree JJ (fX6_set 0 a0 a1 a2) (fX7_set 52 a0 a1 a2) := by
  rintro w ⟨m, tc, rl, tp, h⟩
  have e6 : (6 : Int32).toInt64 = (6 : Int64) := by decide
  have J : JJ w := ⟨m, tc, rl, tp, h⟩
  by_cases hd : 0 ≤ a0 ∧ a0 ≤ (6 : Int32)
  · obtain ⟨k, hk, rfl⟩ := (in0n (n := 6) (by omega)).mp hd
    obtain ⟨M, hM, em⟩ := mostC hk
    have e0 : (0 : Int32).toInt64 = (0 : Int64) := by decide
    rcases names_both h (k := k) (by omega) a1 with ⟨i, hn⟩ | ⟨n1, n2⟩
    · by_cases hv : 0 ≤ a2 ∧ a2 ≤ nI M
      · obtain ⟨w1, hw1⟩ : ∃ z, z = putC w k i a2 := ⟨_, rfl⟩
        obtain ⟨w2, hw2⟩ : ∃ z, z = putM w1 k i a2 := ⟨_, rfl⟩
        have c1 : Ch (fun a b => (a = 0 ∧ b = 4) ∨ (a = 1 ∧ k = 1) ∨ (18 ≤ a ∧ a < 24)) w w1 := by
          rw [hw1]
          unfold putC
          rcases hn with rfl | ⟨rfl, hi, rfl⟩ | ⟨h2, hi, rfl⟩
          · rw [if_pos rfl]; exact ch_sI (Or.inl ⟨rfl, rfl⟩)
          · rw [if_neg (by omega), if_pos rfl]; exact ch_sI (Or.inr (Or.inl ⟨rfl, rfl⟩))
          · have := h.m6
            rw [if_neg (by omega), if_neg (by omega)]; exact ch_sI (Or.inr (Or.inr ⟨by omega, by omega⟩))
        have c2 : Ch (fun a b => (a = 52 ∧ b = 7) ∨ (a = 56 ∧ k = 1) ∨ a = 58) w1 w2 := by
          rw [hw2]
          unfold putM
          rcases hn with rfl | ⟨rfl, hi, rfl⟩ | ⟨h2, hi, rfl⟩
          · rw [if_pos rfl]; exact ch_sI (Or.inl ⟨rfl, rfl⟩)
          · rw [if_neg (by omega), if_pos rfl]; exact ch_sI (Or.inr (Or.inl ⟨rfl, rfl⟩))
          · rw [if_neg (by omega), if_neg (by omega), if_neg (by omega), if_neg (by omega)]; exact ch_sI (Or.inr (Or.inr rfl))
        have hS1 := c1.St h.S
        have h11 : gI w1 52 11 = nI m := by rw [c1.I (by omega)]; exact h.c11
        have ev : valM w1 k i = valC w k i := by
          rw [val_eq h hk hn]
          unfold valM
          rw [c1.I (show ¬ _ by omega), c1.I (show ¬ _ by omega), c1.I (show ¬ _ by omega)]
        refine ⟨valC w k i, w1, w2, ?_, ?_, m, tc, rl, tp, ?_⟩
        · unfold fX6_set
          rw [kept_ev, bnd_s, w01, if_pos hd, namesC h.S h.c3 h.m6 (by omega) hn, bnd_s, if_neg (by decide), (em w).1, bnd_s, wn_ev, bnd_s, w01, if_pos hv, valueC h.S h.c3 h.m6 hk hn, bnd_s, keepC h.S h.c3 h.m6 hk hn, bnd_s, hw1]
        · unfold fX7_set
          rw [in0l e6, bnd_s, w01, if_pos hd, isOfM h11 h.m6 (by omega) hn, bnd_s, if_neg (by decide), (em w1).2.1, bnd_s, in0l rfl, bnd_s, w01, if_pos hv, toldM hS1 h11 h.m6 hk hn, bnd_s, laysM hS1 h.m6 (by omega) hn, bnd_s, ← hw2, ev]
        · have hMv := (em w).2.2
          obtain ⟨v, hv2, rfl⟩ := (in0n (n := M) hM).mp hv
          have cc : Ch (fun a b => SC a b ∨ (a = 0 ∧ b = 4) ∨ (a = 52 ∧ b = 7) ∨ a = 1 ∨ a = 56 ∨ (18 ≤ a ∧ a < 24) ∨ a = 58) w w2 := (c1.mono (fun a b z => by omega)).tr (c2.mono (fun a b z => by omega))
          have P1 : ∀ a b, gI w1 a b = if k = 0 then (if a = 0 ∧ b = 4 then nI v else gI w a b) else if k = 1 then (if a = 1 ∧ b = i then nI v else gI w a b) else (if a = 18 + i ∧ b = k - 1 then nI v else gI w a b) := by
            intro a b
            rw [hw1]
            unfold putC
            by_cases h0 : k = 0
            · rw [if_pos h0, if_pos h0]; rfl
            · rw [if_neg h0, if_neg h0]
              by_cases h1 : k = 1
              · rw [if_pos h1, if_pos h1]; rfl
              · rw [if_neg h1, if_neg h1]; rfl
          have P2 : ∀ a b, gI w2 a b = if k = 0 then (if a = 52 ∧ b = 7 then nI v else gI w1 a b) else if k = 1 then (if a = 56 ∧ b = i then nI v else gI w1 a b) else (if a = 58 ∧ b = 5 * i + (k - 2) then nI v else gI w1 a b) := by
            intro a b
            rw [hw2]
            unfold putM
            by_cases h0 : k = 0
            · rw [if_pos h0, if_pos h0]; rfl
            · rw [if_neg h0, if_neg h0]
              by_cases h1 : k = 1
              · rw [if_pos h1, if_pos h1]; rfl
              · rw [if_neg h1, if_neg h1, if_neg (by omega), if_neg (by omega)]; rfl
          refine h.body cc (fun a b z => z) ?_ ?_ ?_
          · by_cases h0 : k = 0
            · subst h0
              rw [P2, if_pos rfl, if_neg (by omega), P1, if_pos rfl, if_pos ⟨rfl, rfl⟩, P2, if_pos rfl, if_pos ⟨rfl, rfl⟩]
              exact ⟨rfl, v, by rw [if_pos rfl] at hMv; omega, rfl⟩
            · have q1 : gI w2 0 4 = gI w 0 4 := by
                rw [P2, if_neg h0, P1, if_neg h0]
                by_cases h1 : k = 1
                · rw [if_pos h1, if_pos h1, if_neg (by omega), if_neg (by omega)]
                · rw [if_neg h1, if_neg h1, if_neg (by omega), if_neg (by omega)]
              have q2 : gI w2 52 7 = gI w 52 7 := by
                rw [P2, if_neg h0, P1, if_neg h0]
                by_cases h1 : k = 1
                · rw [if_pos h1, if_pos h1, if_neg (by omega), if_neg (by omega)]
                · rw [if_neg h1, if_neg h1, if_neg (by omega), if_neg (by omega)]
              rw [q1, q2]
              exact h.dy
          · intro t ht
            by_cases h1 : k = 1
            · subst h1
              have r1 : gI w2 1 t = if t = i then nI v else gI w 1 t := by
                rw [c2.I (by omega)]
                have := P1 1 t
                simpa using this
              have r2 : gI w2 56 t = if t = i then nI v else gI w 56 t := by
                rw [← c1.I (show ¬ ((56 = 0 ∧ t = 4) ∨ (56 = 1 ∧ 1 = 1) ∨ (18 ≤ 56 ∧ 56 < 24)) by omega)]
                have := P2 56 t
                simpa using this
              rw [r1, r2]
              by_cases hti : t = i
              · rw [if_pos hti, if_pos hti]
                exact ⟨rfl, v, by simp at hMv; omega, rfl⟩
              · rw [if_neg hti, if_neg hti]
                exact h.hv t ht
            · have q1 : gI w2 1 t = gI w 1 t := by rw [c2.I (by omega), c1.I (by omega)]
              have q2 : gI w2 56 t = gI w 56 t := by rw [c2.I (by omega), c1.I (by omega)]
              rw [q1, q2]
              exact h.hv t ht
          · intro j hj
            have m6 := h.m6
            obtain ⟨x0, x1, x2⟩ := Wk_iff.mp (h.wk j hj)
            have e57 : gI w2 57 j = gI w 57 j := by rw [c2.I (by omega), c1.I (by omega)]
            by_cases h2 : 2 ≤ k
            · have d1 : ∀ b, gI w2 (18 + j) b = if j = i ∧ b = k - 1 then nI v else gI w (18 + j) b := by
                intro b
                rw [c2.I (by omega), P1, if_neg (by omega), if_neg (by omega)]
                by_cases hb : j = i ∧ b = k - 1
                · rw [if_pos ⟨by omega, hb.2⟩, if_pos hb]
                · rw [if_neg (fun z => hb ⟨by omega, z.2⟩), if_neg hb]
              have d2 : ∀ b, gI w2 58 b = if b = 5 * i + (k - 2) then nI v else gI w 58 b := by
                intro b
                rw [P2, if_neg (by omega), if_neg (by omega)]
                by_cases hb : b = 5 * i + (k - 2)
                · rw [if_pos ⟨rfl, hb⟩, if_pos hb]
                · rw [if_neg (fun z => hb z.2), if_neg hb, c1.I (by omega)]
              refine Wk_iff.mpr ⟨?_, ?_, fun q hq => ?_⟩
              · rw [d1, if_neg (by omega), e57]; exact x0
              · rw [d1, if_neg (by omega)]; exact x1
              · rw [d1, d2]
                by_cases hb : j = i ∧ q + 1 = k - 1
                · rw [if_pos hb, if_pos (by omega)]
                  refine ⟨rfl, v, ?_, rfl⟩
                  have hc : k = 2 ∨ k = 3 ∨ k = 4 ∨ k = 5 ∨ k = 6 := by omega
                  rcases hc with rfl | rfl | rfl | rfl | rfl
                  · have : q = 0 := by omega
                    subst this
                    simp [bq] at hMv ⊢; omega
                  · have : q = 1 := by omega
                    subst this
                    simp [bq] at hMv ⊢; omega
                  · have : q = 2 := by omega
                    subst this
                    simp [bq] at hMv ⊢; omega
                  · have : q = 3 := by omega
                    subst this
                    simp [bq] at hMv ⊢; omega
                  · have : q = 4 := by omega
                    subst this
                    simp [bq] at hMv ⊢; omega
                · rw [if_neg hb, if_neg (by omega)]
                  exact x2 q hq
            · have d1 : ∀ b, gI w2 (18 + j) b = gI w (18 + j) b := by
                intro b
                rw [P2, P1]
                by_cases h0 : k = 0
                · rw [if_pos h0, if_pos h0, if_neg (by omega), if_neg (by omega)]
                · have h1 : k = 1 := by omega
                  rw [if_neg h0, if_neg h0, if_pos h1, if_pos h1, if_neg (by omega), if_neg (by omega)]
              have d2 : ∀ b, gI w2 58 b = gI w 58 b := by
                intro b
                rw [P2, P1]
                by_cases h0 : k = 0
                · rw [if_pos h0, if_pos h0, if_neg (by omega), if_neg (by omega)]
                · have h1 : k = 1 := by omega
                  rw [if_neg h0, if_neg h0, if_pos h1, if_pos h1, if_neg (by omega), if_neg (by omega)]
              refine Wk_iff.mpr ⟨?_, ?_, fun q hq => ?_⟩
              · rw [d1, e57]; exact x0
              · rw [d1]; exact x1
              · rw [d1, d2]; exact x2 q hq
      · refine ⟨-2, w, w, ?_, ?_, J⟩
        · unfold fX6_set
          rw [kept_ev, bnd_s, w01, if_pos hd, namesC h.S h.c3 h.m6 (by omega) hn, bnd_s, if_neg (by decide), (em w).1, bnd_s, wn_ev, bnd_s, w01, if_neg hv]
        · unfold fX7_set
          rw [in0l e6, bnd_s, w01, if_pos hd, isOfM h.c11 h.m6 (by omega) hn, bnd_s, if_neg (by decide), (em w).2.1, bnd_s, in0l rfl, bnd_s, w01, if_neg hv]
    · refine ⟨-2, w, w, ?_, ?_, J⟩
      · unfold fX6_set
        rw [kept_ev, bnd_s, w01, if_pos hd, n1, bnd_s, if_pos rfl]
      · unfold fX7_set
        rw [in0l e6, bnd_s, w01, if_pos hd, n2, bnd_s, if_pos rfl]
  · refine ⟨-2, w, w, ?_, ?_, J⟩
    · unfold fX6_set
      rw [kept_ev, bnd_s, w01, if_neg hd]
    · unfold fX7_set
      rw [in0l e6, bnd_s, w01, if_neg hd]
