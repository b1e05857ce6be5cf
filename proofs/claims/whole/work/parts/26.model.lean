/-! the model's days -/
def wi (x a b : Int32) : Int32 := if a ≤ x then (if x ≤ b then x else b) else a
theorem within_ev {x a b : Int32} {w : Wd} : fX7_within x a b w = some (wi x a b, w) := by
  unfold fX7_within wi
  by_cases h : a ≤ x
  · rw [if_pos h, if_pos h]
    by_cases h2 : x ≤ b
    · rw [if_pos h2, if_pos h2]
    · rw [if_neg h2, if_neg h2]
  · rw [if_neg h, if_neg h]
theorem bdd_nI (x : Int32) {m : Nat} (hm : m < 2 ^ 31) : ∃ j, j ≤ m ∧ bdd x (nI m) = nI j ∧ wi x 0 (nI m) = nI j := by
  unfold bdd wi
  by_cases h0 : x < 0
  · have h1 : x < nI m := by
      have a := Int32.lt_iff_toInt_lt.mp h0
      have b := Int32.le_iff_toInt_le.mp (nI_pos' hm)
      exact Int32.lt_iff_toInt_lt.mpr (Int.lt_of_lt_of_le a b)
    refine ⟨0, Nat.zero_le _, ?_, ?_⟩
    · rw [if_pos h1, if_neg (fun z => by
        have a := Int32.lt_iff_toInt_lt.mp h0
        have b := Int32.lt_iff_toInt_lt.mp z
        omega)]
      rfl
    · rw [if_neg (fun z => by
        have a := Int32.lt_iff_toInt_lt.mp h0
        have b := Int32.le_iff_toInt_le.mp z
        omega)]
      rfl
  · obtain ⟨j, hj, rfl⟩ := nI_of h0
    have hp : (0 : Int32) ≤ nI j := nI_pos' hj
    by_cases hjm : j < m
    · refine ⟨j, by omega, ?_, ?_⟩
      · rw [if_pos (nI_lt hjm hm)]
        by_cases hz : j = 0
        · subst hz
          rfl
        · have hq : (0 : Int32) < nI j := nI_lt (a := 0) (by omega) hj
          rw [if_pos hq]
      · rw [if_pos hp, if_pos (nI_le (by omega) hm)]
    · refine ⟨m, Nat.le_refl _, ?_, ?_⟩
      · rw [if_neg (nI_nlt (by omega) hj)]
        by_cases hz : m = 0
        · subst hz
          rfl
        · have hq : (0 : Int32) < nI m := nI_lt (a := 0) (by omega) hm
          rw [if_pos hq]
      · rw [if_pos hp]
        by_cases hle : j ≤ m
        · rw [if_pos (nI_le hle hm), show j = m by omega]
        · rw [if_neg (nI_ge (by omega) hj)]
theorem wi_bdd (x : Int32) {m : Nat} (hm : m < 2 ^ 31) : wi x 0 (nI m) = bdd x (nI m) := by
  obtain ⟨j, _, h1, h2⟩ := bdd_nI x hm
  rw [h1, h2]
def envM (w : Wd) (q : Nat) : Int32 := if q = 0 then gI w 52 12 else if q = 1 then gI w 52 13 else if q = 2 then gI w 52 14 else if q = 3 then gI w 52 15 else if q = 4 then gI w 52 16 else gI w 52 17
/-- what reading a text changes; what asking changes -/
def PR (i k : Nat) : Prop := i = 52 ∧ 18 ≤ k ∧ k ≤ 26
def PA (i k : Nat) : Prop := i = 52 ∧ 12 ≤ k ∧ k ≤ 26
def PG (i k : Nat) : Prop := i = 52 ∧ 12 ≤ k ∧ k ≤ 31
theorem PR_PA (i k : Nat) (h : PR i k) : PA i k := by unfold PR at h; unfold PA; omega
theorem PA_PG (i k : Nat) (h : PA i k) : PG i k := by unfold PA at h; unfold PG; omega
theorem PG_PM (i k : Nat) (h : PG i k) : PM i k := by unfold PG at h; unfold PM; omega
/-- the model's text t says what ev says -/
def MEv (w : Wd) (t : Nat) (ev : Ev) : Prop := ∀ (w1 : Wd) (p : Nat), p < 3 → St w1 → (∀ k, k < 160 → gI w1 53 (160 * t + k) = gI w 53 (160 * t + k)) → gI w1 54 t = gI w 54 t → ∃ w2, fX7_read 52 (nI t) (nI p) w1 = some (ev p (envM w1), w2) ∧ Ch PR w1 w2
theorem MEv.ch {P : Nat → Nat → Prop} {w w' : Wd} {t : Nat} {ev : Ev} (h : MEv w t ev) (hc : Ch P w w') (hP : ∀ k, ¬ P 53 k ∧ ¬ P 54 k) : MEv w' t ev := fun w1 p hp hS h1 h2 => h w1 p hp hS (fun k hk => (h1 k hk).trans (hc.I (hP _).1)) (h2.trans (hc.I (hP t).2))
/-- walker p of the model in thought -/
def Tm (w : Wd) (th : Nat → Int32) (p rl : Nat) (ev : Ev) : Prop := St w ∧ p < 6 ∧ rl < 6 ∧ gI w 52 4 = nI rl ∧ MEv w rl ev ∧ gI w 57 p = th 0 ∧ gI w 58 (5 * p) = th 1 ∧ gI w 52 27 = th 2 ∧ gI w 52 28 = th 3 ∧ gI w 52 29 = th 4 ∧ gI w 52 30 = th 5 ∧ gI w 52 31 = th 6
theorem Tm.ch {P : Nat → Nat → Prop} {w w' : Wd} {th : Nat → Int32} {p rl : Nat} {ev : Ev} (h : Tm w th p rl ev) (hc : Ch P w w') (hP : ∀ i k, P i k → i = 52 ∧ 12 ≤ k ∧ ¬ (27 ≤ k ∧ k ≤ 31)) : Tm w' th p rl ev := by
  obtain ⟨h1, h2, h3, h4, h5, h6, h7, h8, h9, h10, h11, h12⟩ := h
  have n : ∀ i k, ¬ (i = 52 ∧ 12 ≤ k ∧ ¬ (27 ≤ k ∧ k ≤ 31)) → gI w' i k = gI w i k := fun i k h9 => hc.I (fun z => h9 (hP i k z))
  refine ⟨hc.St h1, h2, h3, ?_, h5.ch hc (fun k => ⟨fun z => by have := hP _ _ z; omega, fun z => by have := hP _ _ z; omega⟩), ?_, ?_, ?_, ?_, ?_, ?_, ?_⟩
  · rw [n _ _ (by omega)]; exact h4
  · rw [n _ _ (by omega)]; exact h6
  · rw [n _ _ (by omega)]; exact h7
  · rw [n _ _ (by omega)]; exact h8
  · rw [n _ _ (by omega)]; exact h9
  · rw [n _ _ (by omega)]; exact h10
  · rw [n _ _ (by omega)]; exact h11
  · rw [n _ _ (by omega)]; exact h12
theorem m5 (p : Nat) : (5 : Int32) * nI p = nI (5 * p) := pk_mul 5 p
theorem asks_ev {w : Wd} {th : Nat → Int32} {p rl q : Nat} {ev : Ev} (h : Tm w th p rl ev) (hq : q < 3) : ∃ w', fX7_asks 52 (nI q) (nI p) w = some (if q = 2 then ev 2 (envS th) else if q = 0 then bdd (ev 0 (envS th)) 999 else bdd (ev 1 (envS th)) 99, w') ∧ Ch PA w w' := by
  have h0 := h
  obtain ⟨h1, h2, h3, h4, h5, h6, h7, h8, h9, h10, h11, h12⟩ := h0
  obtain ⟨w1, hw1⟩ : ∃ z : Wd, z = sI (sI (sI (sI (sI (sI w 52 12 (th 2)) 52 13 (th 3)) 52 14 (th 4)) 52 15 (th 1)) 52 16 (th 6)) 52 17 (th 5) := ⟨_, rfl⟩
  have c1 : Ch (fun i k => i = 52 ∧ 12 ≤ k ∧ k ≤ 17) w w1 := by
    rw [hw1]
    exact Ch.tr (Ch.tr (Ch.tr (Ch.tr (Ch.tr (ch_sI ⟨rfl, by omega, by omega⟩) (ch_sI ⟨rfl, by omega, by omega⟩)) (ch_sI ⟨rfl, by omega, by omega⟩)) (ch_sI ⟨rfl, by omega, by omega⟩)) (ch_sI ⟨rfl, by omega, by omega⟩)) (ch_sI ⟨rfl, by omega, by omega⟩)
  have he : envM w1 = envS th := by
    funext z
    rw [hw1]
    simp [envM, envS, gI_sI]
  obtain ⟨w2, e2, c2⟩ := h5 w1 q hq (c1.St h1) (fun k _ => c1.I (by omega)) (c1.I (by omega))
  rw [he] at e2
  refine ⟨w2, ?_, (c1.mono (fun i k z => by unfold PA; omega)).tr (c2.mono PR_PA)⟩
  have hr4 : gI w1 52 4 = nI rl := by rw [c1.I (by omega)]; exact h4
  have c5 : (nI (5 * p)).toNatClampNeg = 5 * p := nI_clamp (by omega)
  have step : fX7_asks 52 (nI q) (nI p) w = bnd (fX7_read 52 (gI w1 52 4) (nI q) w1) (fun x_8 w_9 => if nI q = (2 : Int32) then some (x_8, w_9) else if nI q = 0 then fX7_asks_85 52 (999 : Int32) (0 : Int32) x_8 w_9 else fX7_asks_85 52 (99 : Int32) (0 : Int32) x_8 w_9) := by
    rw [hw1]
    unfold fX7_asks
    rw [lw_e, lw_e, lw_e, dg_52_10 (St_sI (St_sI (St_sI h1))), m5, grd_t (by rw [ln_58]; exact vin_nI (by omega) (by omega)), c5, lw_e, lw_e, lw_e]
    simp [gI_sI, h7, h8, h9, h10, h11, h12]
  rw [step, hr4, e2, bnd_s]
  have w999 : ∀ x : Int32, wi x 0 (999 : Int32) = bdd x 999 := fun x => wi_bdd x (m := 999) (by omega)
  have w99 : ∀ x : Int32, wi x 0 (99 : Int32) = bdd x 99 := fun x => wi_bdd x (m := 99) (by omega)
  have hj : q = 0 ∨ q = 1 ∨ q = 2 := by omega
  unfold fX7_asks_85
  rw [within_ev, within_ev, bnd_s, bnd_s, w999, w99]
  rcases hj with rfl | rfl | rfl
  · rw [if_neg (by decide), if_pos (by decide), if_neg (by decide), if_pos rfl]
  · rw [if_neg (by decide), if_neg (by decide), if_neg (by decide), if_neg (by decide)]
  · rw [if_pos (by decide), if_pos rfl]
