/-! what is read back of steps that were told -/
theorem atS {w : Wd} {s : Nat} (hS : St w) (hs : s < 4) : fX6_sheetAt 0 (nI s) w = some (some (42 + 2 * s), w) := by
  have h1 : ¬ (4 : Int32) ≤ nI s := nI_ge (b := 4) hs (by omega)
  have cs : (nI s).toNatClampNeg = s := nI_clamp (by omega)
  unfold fX6_sheetAt
  rw [if_neg (nI_pos (by omega)), if_neg h1, dg_0_12 hS, grd_t (by rw [ln_17]; exact vin_nI hs (by omega)), cs, st_sh hS hs]
theorem isS {x : Int32} {w : Wd} : fX7_isSheet x w = some (if 0 ≤ x ∧ x ≤ (3 : Int32) then 1 else 0, w) := by
  have e3 : (3 : Int32).toInt64 = (3 : Int64) := by decide
  unfold fX7_isSheet
  rw [in0l e3, bnd_s]
  by_cases h : 0 ≤ x ∧ x ≤ (3 : Int32)
  · rw [if_pos h, grd_t (Or.inr rfl)]
  · rw [if_neg h, grd_t (Or.inl rfl)]
theorem noS {x : Int32} {w : Wd} (h : ¬ (0 ≤ x ∧ x ≤ (3 : Int32))) : fX6_sheetAt 0 x w = some (none, w) := by
  unfold fX6_sheetAt fX6_sheetAt_18
  by_cases h0 : x < 0
  · rw [if_pos h0]
  · rw [if_neg h0]
    obtain ⟨j, hj, rfl⟩ := nI_of h0
    have h4 : (4 : Int32) ≤ nI j := by
      refine nI_le (a := 4) (Nat.le_of_not_lt (fun z => h ?_)) hj
      exact (in0n (n := 3) (by omega)).mpr ⟨j, by omega, rfl⟩
    rw [if_pos h4]
theorem b3s {s : Nat} (h : s < 4) : 0 ≤ nI s ∧ nI s ≤ (3 : Int32) := (in0n (n := 3) (by omega)).mpr ⟨s, by omega, rfl⟩
/-- a sheet that is there: n items f -/
def SF (w : Wd) (s n : Nat) (f : Nat → Int32) : Prop := ¬ gI w (42 + 2 * s) 1 = -1 ∧ gI w (42 + 2 * s) 2 = nI n ∧ n ≤ 40 ∧ (∀ q, q < n → gI w (43 + 2 * s) q = f q) ∧ gI w 62 s = 1 ∧ gI w 64 s = nI n ∧ ∀ q, q < n → gI w 65 (40 * s + q) = f q
theorem SF.ch {P : Nat → Nat → Prop} {w w' : Wd} {s n : Nat} {f : Nat → Int32} (h : SF w s n f) (hs : s < 4) (hc : Ch P w w') (hP : ∀ i k, P i k → ¬ (42 ≤ i ∧ i < 50) ∧ i ≠ 62 ∧ i ≠ 64 ∧ i ≠ 65) : SF w' s n f := by
  obtain ⟨h1, h2, h3, h4, h5, h6, h7⟩ := h
  refine ⟨?_, ?_, h3, fun q hq => ?_, ?_, ?_, fun q hq => ?_⟩
  · rw [hc.I (fun z => by have := hP _ _ z; omega)]; exact h1
  · rw [hc.I (fun z => by have := hP _ _ z; omega)]; exact h2
  · rw [hc.I (fun z => by have := hP _ _ z; omega)]; exact h4 q hq
  · rw [hc.I (fun z => by have := hP _ _ z; omega)]; exact h5
  · rw [hc.I (fun z => by have := hP _ _ z; omega)]; exact h6
  · rw [hc.I (fun z => by have := hP _ _ z; omega)]; exact h7 q hq
theorem sf_of {w : Wd} {s : Nat} (h : Sh w s) : (gI w (42 + 2 * s) 1 = -1 ∧ gI w 62 s = 0) ∨ ∃ n f, SF w s n f := by
  rcases h with h | ⟨h1, h2, h3, h4, ⟨n, hn, h5⟩, h6⟩
  · exact Or.inl h
  · refine Or.inr ⟨n, gI w (43 + 2 * s), ?_, h4.trans h5, hn, fun q _ => rfl, h1, h5, fun q hq => (h6 q (by rw [h5]; exact nI_lt hq (by omega)) (by omega)).symm⟩
    obtain ⟨v, hv, e⟩ := h3
    rw [h2, e]
    exact m1_nI (by omega)
theorem missC {w : Wd} {a : Nat} : fX2_isMissing a w = some (if gI w a 1 = -1 then 1 else 0, w) := by
  unfold fX2_isMissing
  by_cases h : gI w a 1 = -1
  · rw [if_pos h, if_pos h]
  · rw [if_neg h, if_neg h]
/-! bits, counts, the lowest: up and down -/
def bitq (v : Nat) : Int32 := if v < 10 then (1 : Int32) <<< (nI v &&& 31) else 0
def orS (p : Nat → Bool) : Nat → Int32
  | 0 => 0
  | n + 1 => orS p n ||| (if p n = true then bitq n else 0)
def cnN (p : Nat → Bool) : Nat → Nat
  | 0 => 0
  | n + 1 => cnN p n + (if p n = true then 1 else 0)
def lwS (p : Nat → Bool) : Nat → Int32
  | 0 => -1
  | n + 1 => if lwS p n = -1 then (if p n = true then nI n else -1) else lwS p n
theorem sh0 : ∀ v, v < 10 → (0 : Int32) <<< (nI v &&& 31) = 0 := by decide +kernel
theorem bit_sh {v : Nat} (hv : v < 10) {c : Prop} [Decidable c] : (if c then (1 : Int32) else 0) <<< (nI v &&& 31) = if c then bitq v else 0 := by
  unfold bitq
  by_cases h : c
  · rw [if_pos h, if_pos h, if_pos hv]
  · rw [if_neg h, if_neg h, sh0 v hv]
/-! the model's loop, of any sort -/
def ca (k : Nat) : Nat := if k = 7 then 57 else if k = 8 then 52 else 58
def cb (k i : Nat) : Nat := if k = 7 then i else if k = 8 then 4 else 5 * i + (k - 2)
def QK (k i a b : Nat) : Prop := PM a b ∨ (a = ca k ∧ b = cb k i)
theorem putM_c {w : Wd} {k i : Nat} {v : Int32} (h : 2 ≤ k) : putM w k i v = sI w (ca k) (cb k i) v := by
  unfold putM ca cb
  rw [if_neg (show ¬ k = 0 by omega), if_neg (show ¬ k = 1 by omega)]
  by_cases h7 : k = 7
  · rw [if_pos h7, if_pos h7, if_pos h7]
  · rw [if_neg h7, if_neg h7, if_neg h7]
    by_cases h8 : k = 8
    · rw [if_pos h8, if_pos h8, if_pos h8]
    · rw [if_neg h8, if_neg h8, if_neg h8]
def StepOk (w : Wd) (s i k V : Nat) (p : Nat → Bool) : Prop := ∀ (x3 was x7 x8 x9 : Int32) (v fu : Nat) (w2 : Wd), v < V → Ch (QK k i) w w2 → ∃ w', Ch (QK k i) w w' ∧ fX7_tells_164 52 (fu + 1) (nI s) (nI i) x3 (nI k) was x7 x8 x9 (nI v) w2 = (if p v = true then fX7_tells_241 (fX7_tells_164 52 fu) 52 (nI s) (nI i) x3 (nI k) was x8 (nI v) (bitq v) x7 w' else fX7_tells_251 (fX7_tells_164 52 fu) 52 (nI s) (nI i) x3 (nI k) was x7 x8 x9 (nI v) w')
theorem tl_core {K : Int32 → Int32 → Int32 → Int32 → Int32 → Int32 → Int32 → Int32 → Int32 → Wd → Option (Int32 × Wd)} {w2 w3 w4 : Wd} {s i k v : Nat} {x3 was x7 x8 x9 r : Int32} (hv : v < 2 ^ 31) (fl : fX7_lays 52 (nI k) (nI i) (nI v) w2 = some ((), w3)) (ff : fX7_firstOther 52 (nI s) (nI i) w3 = some (r, w4)) : fX7_tells_198 K 52 (nI s) (nI i) x3 (nI k) was x7 x8 x9 (nI v) 1 w2 = if r = -1 then fX7_tells_241 K 52 (nI s) (nI i) x3 (nI k) was x8 (nI v) (bitq v) x7 w4 else fX7_tells_251 K 52 (nI s) (nI i) x3 (nI k) was x7 x8 x9 (nI v) w4 := by
  unfold fX7_tells_198
  rw [fl, bnd_s, if_neg (by decide), ff, bnd_s]
  by_cases hr : r = -1
  · rw [if_pos hr, if_pos hr]
    unfold bitq
    by_cases h10 : v < 10
    · have : ¬ (10 : Int32) ≤ nI v := nI_ge (b := 10) h10 (by omega)
      rw [if_neg this, if_pos h10]
    · have : (10 : Int32) ≤ nI v := nI_le (a := 10) (by omega) hv
      rw [if_pos this, if_neg h10]
  · rw [if_neg hr, if_neg hr]
theorem lw_up {p : Nat → Bool} {n : Nat} {x : Int32} (hn : n < 2 ^ 31) : (if lwS p (n + 1) = -1 then x else lwS p (n + 1)) = (if lwS p n = -1 then (if p n = true then nI n else x) else lwS p n) := by
  show (if (if lwS p n = -1 then (if p n = true then nI n else -1) else lwS p n) = -1 then x else (if lwS p n = -1 then (if p n = true then nI n else -1) else lwS p n)) = _
  by_cases hl : lwS p n = -1
  · simp only [if_pos hl]
    by_cases hb : p n = true
    · simp only [if_pos hb]
      rw [if_neg (m1_nI hn)]
    · simp only [if_neg hb]
      exact if_pos trivial
  · simp only [if_neg hl]
theorem tl_loop {w : Wd} {s i k V : Nat} {p : Nat → Bool} (hp : StepOk w s i k V p) (hV : V < 1500) {x3 was : Int32} : ∀ (n fu c : Nat) (x7 x9 : Int32) (w2 : Wd), n ≤ V → n < fu → c + n < 1500 → Ch (QK k i) w w2 → ∃ w' z, fX7_tells_164 52 fu (nI s) (nI i) x3 (nI k) was x7 (nI c) x9 (nI n - 1) w2 = fX7_tells_164 52 (z + 1) (nI s) (nI i) x3 (nI k) was (x7 ||| orS p n) (nI (c + cnN p n)) (if lwS p n = -1 then x9 else lwS p n) (nI 0 - 1) w' ∧ Ch (QK k i) w w' := by
  intro n
  induction n with
  | zero =>
    intro fu c x7 x9 w2 hn hf hc h
    obtain ⟨fu, rfl⟩ : ∃ z, fu = z + 1 := ⟨fu - 1, by omega⟩
    refine ⟨w2, fu, ?_, h⟩
    have e1 : x7 ||| orS p 0 = x7 := Int32.or_zero
    have e2 : c + cnN p 0 = c := rfl
    have e3 : (if lwS p 0 = -1 then x9 else lwS p 0) = x9 := if_pos rfl
    rw [e1, e2, e3]
  | succ n ih =>
    intro fu c x7 x9 w2 hn hf hc h
    obtain ⟨fu, rfl⟩ : ∃ z, fu = z + 1 := ⟨fu - 1, by omega⟩
    obtain ⟨w3, c3, e3⟩ := hp x3 was x7 (nI c) x9 n fu w2 (by omega) h
    have eo : orS p (n + 1) = orS p n ||| (if p n = true then bitq n else 0) := rfl
    have ec : cnN p (n + 1) = cnN p n + (if p n = true then 1 else 0) := rfl
    rw [nI_pred, e3, lw_up (by omega), eo, ec]
    unfold fX7_tells_241 fX7_tells_251
    rw [lt_e, nI_m1, nI_1]
    by_cases hb : p n = true
    · simp only [if_pos hb]
      obtain ⟨w4, z, e4, c4⟩ := ih fu (c + 1) (x7 ||| bitq n) (nI n) w3 (by omega) (by omega) (by omega) c3
      refine ⟨w4, z, ?_, c4⟩
      rw [e4, Int32.or_assoc, Int32.or_comm (bitq n), show c + 1 + cnN p n = c + (cnN p n + 1) by omega]
    · simp only [if_neg hb]
      obtain ⟨w4, z, e4, c4⟩ := ih fu c x7 x9 w3 (by omega) (by omega) (by omega) c3
      refine ⟨w4, z, ?_, c4⟩
      have e0 : cnN p n + 0 = cnN p n := rfl
      rw [e4, Int32.or_zero, e0]
def ansT (x3 : Int32) (p : Nat → Bool) (V : Nat) : Int32 := if x3 = 3 then nI (cnN p V) else if x3 = 6 then nI (cnN p V) else if x3 = 4 then lwS p V else if x3 = 7 then lwS p V else orS p V
theorem tl_all {w : Wd} {s i k V m : Nat} {p : Nat → Bool} (hS : St w) (m6 : m ≤ 6) (hi : i < m) (hk : 2 ≤ k ∧ k ≤ 8) (hp : StepOk w s i k V p) (hV : V ≤ 1000) {x3 : Int32} : ∃ w', fX7_tells_164 52 FU (nI s) (nI i) x3 (nI k) (gI w (ca k) (cb k i)) 0 (nI 0) (-1) (nI V - 1) w = some (ansT x3 p V, w') ∧ Ch PM w w' := by
  obtain ⟨w1, z, e1, c1⟩ := tl_loop hp (by omega) (x3 := x3) (was := gI w (ca k) (cb k i)) V FU 0 0 (-1) w (Nat.le_refl _) (show V < 2000 by omega) (by omega) Ch.rf
  have hl := laysM (w := w1) (m := m) (k := k) (i := i) (x := nI i) (v := gI w (ca k) (cb k i)) (c1.St hS) m6 hk.2 (Or.inr (Or.inr ⟨hk.1, hi, rfl⟩))
  rw [putM_c hk.1] at hl
  have h0 : nI 0 - 1 < 0 := by decide
  refine ⟨sI w1 (ca k) (cb k i) (gI w (ca k) (cb k i)), ?_, Ch.outB (Q := fun a b => a = ca k ∧ b = cb k i) (c1.tr (ch_sI (Or.inr ⟨rfl, rfl⟩))) (fun a b z => by rw [gI_sI, if_pos z, z.1, z.2]) (fun a b z => ?_)⟩
  · rw [e1, fX7_tells_164]
    dsimp only
    rw [if_pos h0, hl, bnd_s]
    unfold fX7_tells_277 fX7_tells_293 ansT
    have hq : (if lwS p V = -1 then (-1 : Int32) else lwS p V) = lwS p V := by
      by_cases hl : lwS p V = -1
      · rw [if_pos hl, hl]
      · rw [if_neg hl]
    rw [hq, Int32.zero_or, Nat.zero_add]
    by_cases a : x3 = 3
    · rw [if_pos a, if_pos a]
    · rw [if_neg a, if_neg a]
      by_cases a : x3 = 6
      · rw [if_pos a, if_pos a]
      · rw [if_neg a, if_neg a]
        by_cases a : x3 = 4
        · rw [if_pos a, if_pos a]
        · rw [if_neg a, if_neg a]
          by_cases a : x3 = 7
          · rw [if_pos a, if_pos a]
          · rw [if_neg a, if_neg a]
  · rw [z.1]
    unfold ca
    split
    · omega
    · split <;> omega
/-- one number of a walker in thought is otherwise -/
def updT (th : Nat → Int32) (q : Nat) (v : Int32) : Nat → Int32 := fun k => if k = q then v else th k
theorem mfo_at {w3 : Wd} {th : Nat → Int32} {s n i rl : Nat} {ev : Ev} {f : Nat → Int32} (hr : Rm w3 rl ev) (hi : i < 6) (hs : s < 4) (hf : SF w3 s n f) (et : thM w3 i = th) (hR : RT th) : ∃ w4, fX7_firstOther 52 (nI s) (nI i) w3 = some (foS ev f n 0 th, w4) ∧ Ch PM w3 w4 := by
  obtain ⟨w4, e, c⟩ := mfo_ev (f := f) (n := n) hr hi (by rw [et]; exact hR) hs hf.2.2.1 hf.2.2.2.2.2.1 hf.2.2.2.2.2.2
  rw [et] at e
  exact ⟨w4, e, c.mono PG_PM⟩
/-- a step of any sort but 4: what the walker (or the rule) becomes is known -/
theorem stepOk_of {w : Wd} {s i k V n m : Nat} {f : Nat → Int32} {evv : Nat → Ev} {T : Nat → Nat → Int32} (hS : St w) (m6 : m ≤ 6) (hi : i < m) (hk : 2 ≤ k ∧ k ≤ 8) (hk4 : ¬ k = 4) (hV : V ≤ 1000) (hs : s < 4) (hf : SF w s n f) (H : ∀ v w3, v < V → Ch (QK k i) w w3 → gI w3 (ca k) (cb k i) = nI v → (∃ rl, Rm w3 rl (evv v)) ∧ thM w3 i = T v ∧ RT (T v)) : StepOk w s i k V (fun v => decide (foS (evv v) f n 0 (T v) = -1)) := by
  intro x3 was x7 x8 x9 v fu w2 hv c
  have hl := laysM (w := w2) (m := m) (k := k) (i := i) (x := nI i) (v := nI v) (c.St hS) m6 hk.2 (Or.inr (Or.inr ⟨hk.1, hi, rfl⟩))
  rw [putM_c hk.1] at hl
  have c3 : Ch (QK k i) w (sI w2 (ca k) (cb k i) (nI v)) := c.tr (ch_sI (Or.inr ⟨rfl, rfl⟩))
  obtain ⟨⟨rl, hr⟩, et, hR⟩ := H v _ hv c3 (by rw [gI_sI, if_pos ⟨rfl, rfl⟩])
  have hca : ca k = 57 ∨ ca k = 52 ∨ ca k = 58 := by
    unfold ca
    split
    · exact Or.inl rfl
    · split
      · exact Or.inr (Or.inl rfl)
      · exact Or.inr (Or.inr rfl)
  obtain ⟨w4, e4, c4⟩ := mfo_at hr (by omega) hs (hf.ch hs c3 (fun a b z => by unfold QK PM at z; omega)) et hR
  refine ⟨w4, c3.tr (c4.mono (fun a b z => Or.inl z)), ?_⟩
  have h0 : ¬ nI v < 0 := nI_pos (by omega)
  have h4 : ¬ nI k = (4 : Int32) := nI_ne (b := 4) hk4 (by omega) (by omega)
  rw [fX7_tells_164]
  dsimp only
  rw [if_neg h0, if_neg h4]
  unfold fX7_tells_193
  rw [tl_core (by omega) hl e4]
  by_cases hz : foS (evv v) f n 0 (T v) = -1
  · rw [if_pos hz, if_pos (decide_eq_true hz)]
  · rw [if_neg hz, if_neg (fun z => hz (of_decide_eq_true z))]
