/-! the model reads back, sort by sort -/
theorem RT.upd {th th2 : Nat → Int32} (h : RT th) (h1 : th2 1 = th 1 ∨ Ra (th2 1) 9) (h4 : th2 4 = th 4 ∨ Ra (th2 4) 999) (h5 : th2 5 = th 5) : RT th2 := by
  obtain ⟨n, s, o, a1, a2, a3, b1, b2, b3⟩ := h
  have k1 : ∃ n', n' ≤ 9 ∧ th2 1 = nI n' := h1.elim (fun z => ⟨n, a1, z.trans b1⟩) id
  have k4 : ∃ n', n' ≤ 999 ∧ th2 4 = nI n' := h4.elim (fun z => ⟨s, a2, z.trans b2⟩) id
  obtain ⟨n', c1, c2⟩ := k1
  obtain ⟨s', c3, c4⟩ := k4
  exact ⟨n', s', o, c1, c3, a3, c2, c4, h5.trans b3⟩
theorem ok7 {m tc rl tp i s N : Nat} {ev : Ev} {w : Wd} {f : Nat → Int32} (h : Jn w m tc rl tp) (hr : Rm w rl ev) (hi : i < m) (hs : s < 4) (hf : SF w s N f) : StepOk w s i 7 6 (pQ ev f N (thM w i) 0) := by
  have m6 := h.m6
  refine stepOk_of (evv := fun _ => ev) (T := fun v => updT (thM w i) 0 (nI v)) h.S m6 hi ⟨by omega, by omega⟩ (by omega) (by omega) hs hf (fun v w3 hv c e => ?_)
  have c : Ch (fun a b => PM a b ∨ (a = 57 ∧ b = i)) w w3 := c
  have e : gI w3 57 i = nI v := e
  have e58 : ∀ k, gI w3 58 k = gI w 58 k := fun k => c.I (by unfold PM; omega)
  have e56 : gI w3 56 = gI w 56 := funext (fun k => c.I (by unfold PM; omega))
  have e7 : gI w3 52 7 = gI w 52 7 := c.I (by unfold PM; omega)
  refine ⟨⟨rl, hr.ch c (fun a b z => by unfold PM at z; omega)⟩, ?_, RT.upd (h.th hi).2 (Or.inl ?_) (Or.inl ?_) ?_⟩
  · funext k
    unfold updT thM thW
    rw [e, e56, e58, e58, e58, e58, e58, e7]
    by_cases hk : k = 0
    · rw [if_pos hk, if_pos hk]
    · rw [if_neg hk, if_neg hk, if_neg hk]
  · show updT (thM w i) 0 (nI v) 1 = thM w i 1
    unfold updT
    rw [if_neg (by omega)]
  · show updT (thM w i) 0 (nI v) 4 = thM w i 4
    unfold updT
    rw [if_neg (by omega)]
  · show updT (thM w i) 0 (nI v) 5 = thM w i 5
    unfold updT
    rw [if_neg (by omega)]
theorem ok2 {m tc rl tp i s N : Nat} {ev : Ev} {w : Wd} {f : Nat → Int32} (h : Jn w m tc rl tp) (hr : Rm w rl ev) (hi : i < m) (hs : s < 4) (hf : SF w s N f) : StepOk w s i 2 10 (pQ ev f N (thM w i) 1) := by
  have m6 := h.m6
  refine stepOk_of (evv := fun _ => ev) (T := fun v => updT (thM w i) 1 (nI v)) h.S m6 hi ⟨by omega, by omega⟩ (by omega) (by omega) hs hf (fun v w3 hv c e => ?_)
  have c : Ch (fun a b => PM a b ∨ (a = 58 ∧ b = 5 * i)) w w3 := c
  have e : gI w3 58 (5 * i) = nI v := e
  have e58 : ∀ k, k ≠ 5 * i → gI w3 58 k = gI w 58 k := fun k hk => c.I (by unfold PM; omega)
  have e57 : gI w3 57 i = gI w 57 i := c.I (by unfold PM; omega)
  have e56 : gI w3 56 = gI w 56 := funext (fun k => c.I (by unfold PM; omega))
  have e7 : gI w3 52 7 = gI w 52 7 := c.I (by unfold PM; omega)
  refine ⟨⟨rl, hr.ch c (fun a b z => by unfold PM at z; omega)⟩, ?_, RT.upd (h.th hi).2 (Or.inr ⟨v, by omega, ?_⟩) (Or.inl ?_) ?_⟩
  · funext k
    unfold updT thM thW
    rw [e, e56, e57, e58 _ (show 5 * i + 1 ≠ 5 * i by omega), e58 _ (show 5 * i + 2 ≠ 5 * i by omega), e58 _ (show 5 * i + 3 ≠ 5 * i by omega), e58 _ (show 5 * i + 4 ≠ 5 * i by omega), e7]
    by_cases hk : k = 1
    · subst hk
      rw [if_neg (by omega), if_pos rfl, if_pos rfl]
    · rw [if_neg hk, if_neg hk, if_neg hk]
  · show updT (thM w i) 1 (nI v) 1 = nI v
    unfold updT
    rw [if_pos rfl]
  · show updT (thM w i) 1 (nI v) 4 = thM w i 4
    unfold updT
    rw [if_neg (by omega)]
  · show updT (thM w i) 1 (nI v) 5 = thM w i 5
    unfold updT
    rw [if_neg (by omega)]
theorem ok5 {m tc rl tp i s N : Nat} {ev : Ev} {w : Wd} {f : Nat → Int32} (h : Jn w m tc rl tp) (hr : Rm w rl ev) (hi : i < m) (hs : s < 4) (hf : SF w s N f) : StepOk w s i 5 1000 (pQ ev f N (thM w i) 4) := by
  have m6 := h.m6
  refine stepOk_of (evv := fun _ => ev) (T := fun v => updT (thM w i) 4 (nI v)) h.S m6 hi ⟨by omega, by omega⟩ (by omega) (by omega) hs hf (fun v w3 hv c e => ?_)
  have c : Ch (fun a b => PM a b ∨ (a = 58 ∧ b = 5 * i + 3)) w w3 := c
  have e : gI w3 58 (5 * i + 3) = nI v := e
  have e58 : ∀ k, k ≠ 5 * i + 3 → gI w3 58 k = gI w 58 k := fun k hk => c.I (by unfold PM; omega)
  have e57 : gI w3 57 i = gI w 57 i := c.I (by unfold PM; omega)
  have e56 : gI w3 56 = gI w 56 := funext (fun k => c.I (by unfold PM; omega))
  have e7 : gI w3 52 7 = gI w 52 7 := c.I (by unfold PM; omega)
  refine ⟨⟨rl, hr.ch c (fun a b z => by unfold PM at z; omega)⟩, ?_, RT.upd (h.th hi).2 (Or.inl ?_) (Or.inr ⟨v, by omega, ?_⟩) ?_⟩
  · funext k
    unfold updT thM thW
    rw [e, e56, e57, e58 _ (show 5 * i + 1 ≠ 5 * i + 3 by omega), e58 _ (show 5 * i + 2 ≠ 5 * i + 3 by omega), e58 _ (show 5 * i ≠ 5 * i + 3 by omega), e58 _ (show 5 * i + 4 ≠ 5 * i + 3 by omega), e7]
    by_cases hk : k = 4
    · subst hk
      rw [if_neg (by omega), if_neg (by omega), if_neg (by omega), if_neg (by omega), if_pos rfl, if_pos rfl]
    · rw [if_neg hk, if_neg hk, if_neg hk]
  · show updT (thM w i) 4 (nI v) 1 = thM w i 1
    unfold updT
    rw [if_neg (by omega)]
  · show updT (thM w i) 4 (nI v) 4 = nI v
    unfold updT
    rw [if_pos rfl]
  · show updT (thM w i) 4 (nI v) 5 = thM w i 5
    unfold updT
    rw [if_neg (by omega)]
theorem ok8 {m tc rl tp i s N : Nat} {evt : Nat → Ev} {w : Wd} {f : Nat → Int32} (h : Jn w m tc rl tp) (hi : i < m) (hs : s < 4) (hf : SF w s N f) (ht : ∀ t, t < tc → MEv w t (evt t)) : StepOk w s i 8 tc (pX evt f N (thM w i)) := by
  have m6 := h.m6
  have htc := h.2.2.1.1
  refine stepOk_of (evv := evt) (T := fun v => thM w i) h.S m6 hi ⟨by omega, by omega⟩ (by omega) (by omega) hs hf (fun v w3 hv c e => ?_)
  have c : Ch (fun a b => PM a b ∨ (a = 52 ∧ b = 4)) w w3 := c
  have e : gI w3 52 4 = nI v := e
  exact ⟨⟨v, c.St h.S, by omega, e, (ht v hv).ch c (fun k => ⟨by unfold PM; omega, by unfold PM; omega⟩)⟩, thM_ch c (fun a b z => by unfold PM at z; omega) i, (h.th hi).2⟩
theorem ok4 {m tc rl tp i s N : Nat} {ev : Ev} {w : Wd} {f : Nat → Int32} (h : Jn w m tc rl tp) (hr : Rm w rl ev) (hi : i < m) (hs : s < 4) (hf : SF w s N f) : StepOk w s i 4 256 (pB ev f N w i) := by
  have m6 := h.m6
  intro x3 was x7 x8 x9 v fu w2 hv c
  have c' : Ch (PQt i) w w2 := c
  have hl := laysM (w := w2) (m := m) (k := 4) (i := i) (x := nI i) (v := nI v) (c.St h.S) m6 (by omega) (Or.inr (Or.inr ⟨by omega, hi, rfl⟩))
  rw [putM_c (by omega)] at hl
  have c3 : Ch (QK 4 i) w (sI w2 (ca 4) (cb 4 i) (nI v)) := c.tr (ch_sI (Or.inr ⟨rfl, rfl⟩))
  have c3' : Ch (PQt i) w (sI w2 (ca 4) (cb 4 i) (nI v)) := c3
  have n1 : (5 : Int32) * nI i + 1 = nI (5 * i + 1) := by rw [m5, nI_1]
  have k1 : (nI (5 * i + 1)).toNatClampNeg = 5 * i + 1 := nI_clamp (by omega)
  have e1 : gI w2 58 (nI (5 * i + 1)).toNatClampNeg = gI w 58 (5 * i + 1) := by rw [k1, c'.I (by unfold PQt PM; omega)]
  have h0 : ¬ nI v < 0 := nI_pos (by omega)
  rw [fX7_tells_164]
  dsimp only
  rw [if_neg h0, if_pos (by decide), dg_52_10 (c.St h.S), n1, grd_t (by rw [ln_58]; exact vin_nI (by omega) (by omega)), e1]
  by_cases hq : (nI v &&& (gI w 58 (5 * i + 1) ^^^ (-1 : Int32))) = 0
  · have e3 : gI (sI w2 (ca 4) (cb 4 i) (nI v)) 58 (5 * i + 2) = nI v := by
      show gI (sI w2 58 (5 * i + 2) (nI v)) 58 (5 * i + 2) = nI v
      rw [gI_sI, if_pos ⟨rfl, rfl⟩]
    have et : thM (sI w2 (ca 4) (cb 4 i) (nI v)) i = thY w (gI w 56) i (nI v) := thM_thY (fun t _ => by rw [c3'.I (by unfold PQt PM; omega)]) e3 (fun q _ _ => c3'.I (by unfold PQt PM; omega)) (c3'.I (by unfold PQt PM; omega)) (c3'.I (by unfold PQt PM; omega))
    obtain ⟨w4, e4, c4⟩ := mfo_at (hr.ch c3' (fun a b z => by unfold PQt PM at z; omega)) (by omega) hs (hf.ch hs c3' (fun a b z => by unfold PQt PM at z; omega)) et (h.thy hi (fun t _ => rfl) _).2
    refine ⟨w4, c3.tr (c4.mono (fun a b z => Or.inl z)), ?_⟩
    rw [if_pos hq]
    unfold fX7_tells_193
    have h4 : nI 4 = (4 : Int32) := rfl
    rw [tl_core (by omega) hl e4]
    have hq2 := isP_t.mpr hq
    by_cases hz : foS ev f N 0 (thY w (gI w 56) i (nI v)) = -1
    · have hp : pB ev f N w i v = true := by
        unfold pB
        rw [hq2, decide_eq_true hz]
        rfl
      rw [if_pos hz, if_pos hp]
    · have hp : ¬ pB ev f N w i v = true := fun z => hz (by
        unfold pB at z
        rw [hq2, Bool.true_and] at z
        exact of_decide_eq_true z)
      rw [if_neg hz, if_neg hp]
  · have hp : ¬ pB ev f N w i v = true := fun z => hq (isP_t.mp (by
      unfold pB at z
      revert z
      cases isP w i v <;> simp))
    refine ⟨_, c3, ?_⟩
    rw [if_neg hq, if_neg hp]
    unfold fX7_tells_198
    rw [hl, bnd_s, if_pos rfl]
/-! the loop begins -/
theorem toldK {w : Wd} {m i : Nat} (hS : St w) (h11 : gI w 52 11 = nI m) (m6 : m ≤ 6) (hi : i < m) : fX7_told 52 (nI i) (7 : Int32) w = some (gI w 57 i, w) := by
  have e13 : (13 : Int32).toInt64 = (13 : Int64) := by decide
  have ci : (nI i).toNatClampNeg = i := nI_clamp (by omega)
  have o : fX7_isOf 52 (7 : Int32) (nI i) w = some (1, w) := isOfM (k := 7) h11 m6 (by omega) (Or.inr (Or.inr ⟨by omega, hi, rfl⟩))
  unfold fX7_told
  rw [in0l e13, bnd_s, w01, if_pos (by decide), o, bnd_s, if_neg (by decide), if_pos (by decide), if_pos (by decide), if_pos rfl, dg_52_9 hS, grd_t (by rw [ln_57]; exact vin_nI (by omega) (by omega)), ci]
theorem beg7 {w : Wd} {m s i : Nat} {x3 : Int32} (hS : St w) (h11 : gI w 52 11 = nI m) (m6 : m ≤ 6) (hi : i < m) : fX7_tells_92 52 (nI s) (nI i) x3 (7 : Int32) w = fX7_tells_164 52 FU (nI s) (nI i) x3 (nI 7) (gI w (ca 7) (cb 7 i)) 0 (nI 0) (-1) (nI 6 - 1) w := by
  unfold fX7_tells_92 fX7_tells_115 fX7_tells_149
  rw [if_neg (by decide), toldK hS h11 m6 hi, bnd_s, if_neg (by decide), if_pos rfl]
  rfl
theorem beg8 {w : Wd} {tc s i : Nat} {x3 : Int32} (h3 : gI w 52 3 = nI tc) : fX7_tells_92 52 (nI s) (nI i) x3 (8 : Int32) w = fX7_tells_164 52 FU (nI s) (nI i) x3 (nI 8) (gI w (ca 8) (cb 8 i)) 0 (nI 0) (-1) (nI tc - 1) w := by
  unfold fX7_tells_92 fX7_tells_115 fX7_tells_149
  rw [if_pos rfl, if_pos rfl, h3]
  rfl
theorem beg2 {w : Wd} {m s i : Nat} {x3 : Int32} (hS : St w) (h11 : gI w 52 11 = nI m) (m6 : m ≤ 6) (hi : i < m) : fX7_tells_92 52 (nI s) (nI i) x3 (2 : Int32) w = fX7_tells_164 52 FU (nI s) (nI i) x3 (nI 2) (gI w (ca 2) (cb 2 i)) 0 (nI 0) (-1) (nI 10 - 1) w := by
  have o : fX7_told 52 (nI i) (2 : Int32) w = some (valM w 2 i, w) := toldM (k := 2) hS h11 m6 (by omega) (Or.inr (Or.inr ⟨by omega, hi, rfl⟩))
  unfold fX7_tells_92 fX7_tells_115 fX7_tells_149 fX7_mostOf
  rw [if_neg (by decide), o, bnd_s, if_neg (by decide), if_neg (by decide), if_neg (by decide), if_neg (by decide), if_pos (by decide), bnd_s]
  rfl
theorem beg4 {w : Wd} {m s i : Nat} {x3 : Int32} (hS : St w) (h11 : gI w 52 11 = nI m) (m6 : m ≤ 6) (hi : i < m) : fX7_tells_92 52 (nI s) (nI i) x3 (4 : Int32) w = fX7_tells_164 52 FU (nI s) (nI i) x3 (nI 4) (gI w (ca 4) (cb 4 i)) 0 (nI 0) (-1) (nI 256 - 1) w := by
  have o : fX7_told 52 (nI i) (4 : Int32) w = some (valM w 4 i, w) := toldM (k := 4) hS h11 m6 (by omega) (Or.inr (Or.inr ⟨by omega, hi, rfl⟩))
  unfold fX7_tells_92 fX7_tells_115 fX7_tells_149 fX7_mostOf
  rw [if_neg (by decide), o, bnd_s, if_neg (by decide), if_neg (by decide), if_neg (by decide), if_neg (by decide), if_neg (by decide), if_neg (by decide), bnd_s]
  rfl
theorem beg5 {w : Wd} {m s i : Nat} {x3 : Int32} (hS : St w) (h11 : gI w 52 11 = nI m) (m6 : m ≤ 6) (hi : i < m) : fX7_tells_92 52 (nI s) (nI i) x3 (5 : Int32) w = fX7_tells_164 52 FU (nI s) (nI i) x3 (nI 5) (gI w (ca 5) (cb 5 i)) 0 (nI 0) (-1) (nI 1000 - 1) w := by
  have o : fX7_told 52 (nI i) (5 : Int32) w = some (valM w 5 i, w) := toldM (k := 5) hS h11 m6 (by omega) (Or.inr (Or.inr ⟨by omega, hi, rfl⟩))
  unfold fX7_tells_92 fX7_tells_115 fX7_tells_149 fX7_mostOf
  rw [if_neg (by decide), o, bnd_s, if_neg (by decide), if_neg (by decide), if_neg (by decide), if_neg (by decide), if_neg (by decide), if_pos (by decide), if_pos (by decide), bnd_s]
  rfl
