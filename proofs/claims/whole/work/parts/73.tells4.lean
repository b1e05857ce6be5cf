/-! tells agrees -/
theorem cls0 {w : Wd} {m tc rl tp i s N : Nat} {f : Nat → Int32} (h : Jn w m tc rl tp) (hi : i < m) (hs : s < 4) (hf : SF w s N f) {k : Nat} (hk : k ≤ 7) {r : Int32} {w' : Wd} (e : (if nI k = (0 : Int32) then
            (bnd (fX6_think 0 (some (18 + i)) w) (fun u_10 w_11 => dr (gR w_11 0 9) 4 w_11 (fun a_12 => bnd (fX4_firstOtherwise a_12 (some (42 + 2 * s)) w_11) (fun x_13 w_14 => some (x_13, w_14)))))
          else if nI k = (1 : Int32) then
            (bnd (fX6_kindsBy 0 (some (42 + 2 * s)) (some (18 + i)) w) (fun x_15 w_16 => some (x_15, w_16)))
          else if nI k = (2 : Int32) then
            (bnd (fX6_numbersBy 0 (some (42 + 2 * s)) (some (18 + i)) w) (fun x_17 w_18 => some (x_17, w_18)))
          else if nI k = (3 : Int32) then
            (bnd (fX6_setsBy 0 (some (42 + 2 * s)) (some (18 + i)) (0 : Int32) w) (fun x_19 w_20 => some (x_19, w_20)))
          else if nI k = (4 : Int32) then
            (bnd (fX6_setsBy 0 (some (42 + 2 * s)) (some (18 + i)) (1 : Int32) w) (fun x_21 w_22 => some (x_21, w_22)))
          else if nI k = (5 : Int32) then
            (bnd (fX6_textsBy 0 (some (42 + 2 * s)) (some (18 + i)) w) (fun x_23 w_24 => some (x_23, w_24)))
          else if nI k = (6 : Int32) then
            (bnd (fX6_stepsBy 0 (some (42 + 2 * s)) (some (18 + i)) (0 : Int32) w) (fun x_25 w_26 => some (x_25, w_26)))
          else
            (bnd (fX6_stepsBy 0 (some (42 + 2 * s)) (some (18 + i)) (1 : Int32) w) (fun x_27 w_28 => some (x_27, w_28)))) = some (r, w')) : fX6_tells 0 (nI s) (nI i) (nI k) w = some (r, w') := by
  have m6 := h.m6
  unfold fX6_tells
  rw [atS h.S hs, bnd_s, atC h.S h.c3 m6 hi, bnd_s, ifn_some, ifn_some, wn_ev, bnd_s, w01, if_pos (b7 hk), dr_at h.S.1 (kd_sh hs), missC, bnd_s, if_neg hf.1, if_pos rfl]
  exact e
theorem mod0 {w : Wd} {m tc rl tp i s N : Nat} {f : Nat → Int32} (h : Jn w m tc rl tp) (hi : i < m) (hs : s < 4) (hf : SF w s N f) {k : Nat} (hk : k ≤ 7) {r : Int32} {w' : Wd} (e : (if nI k = 0 then
            (bnd (fX7_firstOther 52 (nI s) (nI i) w) (fun x_8 w_9 => some (x_8, w_9)))
          else
            (if nI k = (1 : Int32) then
              (fX7_tells_92 52 (nI s) (nI i) (nI k) (7 : Int32) w)
            else
              (if nI k = (2 : Int32) then
                (fX7_tells_92 52 (nI s) (nI i) (nI k) (2 : Int32) w)
              else
                (if (5 : Int32) ≤ nI k then
                  (if nI k = (5 : Int32) then
                    (fX7_tells_92 52 (nI s) (nI i) (nI k) (8 : Int32) w)
                  else
                    (fX7_tells_92 52 (nI s) (nI i) (nI k) (5 : Int32) w))
                else
                  (fX7_tells_92 52 (nI s) (nI i) (nI k) (4 : Int32) w))))) = some (r, w')) : fX7_tells 52 (nI s) (nI i) (nI k) w = some (r, w') := by
  have m6 := h.m6
  have e7 : (7 : Int32).toInt64 = (7 : Int64) := by decide
  have cs : (nI s).toNatClampNeg = s := nI_clamp (by omega)
  unfold fX7_tells
  rw [isS, bnd_s, w01, if_pos (b3s hs), atM h.c11 m6 hi, bnd_s, if_neg (by decide), in0l e7, bnd_s, w01, if_pos (b7 hk), dg_52_42 h.S, grd_t (by rw [ln_62]; exact vin_nI hs (by omega)), cs, hf.2.2.2.2.1, if_neg (by decide)]
  exact e
theorem ans1 {p : Nat → Bool} {V : Nat} : ansT (nI 1) p V = orS p V := by
  unfold ansT
  rw [if_neg (by decide), if_neg (by decide), if_neg (by decide), if_neg (by decide)]
theorem ans2 {p : Nat → Bool} {V : Nat} : ansT (nI 2) p V = orS p V := by
  unfold ansT
  rw [if_neg (by decide), if_neg (by decide), if_neg (by decide), if_neg (by decide)]
theorem ans3 {p : Nat → Bool} {V : Nat} : ansT (nI 3) p V = nI (cnN p V) := by
  unfold ansT
  rw [if_pos (by decide)]
theorem ans4 {p : Nat → Bool} {V : Nat} : ansT (nI 4) p V = lwS p V := by
  unfold ansT
  rw [if_neg (by decide), if_neg (by decide), if_pos (by decide)]
theorem ans5 {p : Nat → Bool} {V : Nat} : ansT (nI 5) p V = orS p V := by
  unfold ansT
  rw [if_neg (by decide), if_neg (by decide), if_neg (by decide), if_neg (by decide)]
theorem ans6 {p : Nat → Bool} {V : Nat} : ansT (nI 6) p V = nI (cnN p V) := by
  unfold ansT
  rw [if_neg (by decide), if_pos (by decide)]
theorem ans7 {p : Nat → Bool} {V : Nat} : ansT (nI 7) p V = lwS p V := by
  unfold ansT
  rw [if_neg (by decide), if_neg (by decide), if_neg (by decide), if_pos (by decide)]
theorem tells_some {w : Wd} {m tc rl tp i s N k : Nat} {f : Nat → Int32} (h : Jn w m tc rl tp) (hi : i < m) (hs : s < 4) (hf : SF w s N f) (hk : k ≤ 7) : ∃ r w1 w2, fX6_tells 0 (nI s) (nI i) (nI k) w = some (r, w1) ∧ fX7_tells 52 (nI s) (nI i) (nI k) w1 = some (r, w2) ∧ JJ w2 := by
  have m6 := h.m6
  obtain ⟨ev, r1, r2⟩ := h.ru
  have htx := h.2.2.2.2.2.2.2.2.1
  obtain ⟨evt, hevt⟩ : ∃ evt : Nat → Ev, ∀ t, t < tc → TEv w t (evt t) ∧ MEv w t (evt t) := by
    refine ⟨fun t => if ht : t < tc then Classical.choose (htx t ht) else fun _ _ => 0, fun t ht => ?_⟩
    simp only [ht, dif_pos]
    exact Classical.choose_spec (htx t ht)
  -- behind the class: the model, over a world of which only scratch has changed
  have md : ∀ {w1 : Wd} {kk V : Nat} {p : Nat → Bool} {rr : Int32}, Ch SC w w1 → 2 ≤ kk ∧ kk ≤ 8 → V ≤ 1000 → StepOk w1 s i kk V p → (∀ w2, fX7_tells_164 52 FU (nI s) (nI i) (nI k) (nI kk) (gI w1 (ca kk) (cb kk i)) 0 (nI 0) (-1) (nI V - 1) w1 = some (ansT (nI k) p V, w2) → fX7_tells 52 (nI s) (nI i) (nI k) w1 = some (rr, w2)) → ∃ w2, fX7_tells 52 (nI s) (nI i) (nI k) w1 = some (rr, w2) ∧ JJ w2 := by
    intro w1 kk V p rr c1 hkk hV hp hfin
    obtain ⟨w2, e2, c2⟩ := tl_all (x3 := nI k) (c1.St h.S) m6 hi hkk hp hV
    exact ⟨w2, hfin w2 e2, m, tc, rl, tp, (h.ch c1).ch (c2.mono PM_SC)⟩
  have eM : ∀ {w1 : Wd}, Ch SC w w1 → thM w1 i = thM w i := fun c1 => thM_ch c1 (fun a b z => by unfold SC at z; omega) i
  have eF : ∀ {w1 : Wd}, Ch SC w w1 → SF w1 s N f := fun c1 => hf.ch hs c1 (fun a b z => by unfold SC at z; omega)
  have eR : ∀ {w1 : Wd}, Ch SC w w1 → Rm w1 rl ev := fun c1 => r2.ch c1 (fun a b z => by unfold SC at z; omega)
  have hc : k = 0 ∨ k = 1 ∨ k = 2 ∨ k = 3 ∨ k = 4 ∨ k = 5 ∨ k = 6 ∨ k = 7 := by omega
  rcases hc with rfl | rfl | rfl | rfl | rfl | rfl | rfl | rfl
  · obtain ⟨w1, f1, tc1, c1⟩ := think_ev r1 (i := i) (by omega)
    rw [(h.th hi).1] at tc1
    have c1 := c1.mono PT_SC
    obtain ⟨w2, f2, c2⟩ := fo_at hs hf c1 tc1
    have c12 := c1.tr c2
    have h2 := h.ch c12
    obtain ⟨w3, f3, c3⟩ := mfo_at (eR c12) (by omega) hs (eF c12) (eM c12) (h.th hi).2
    exact ⟨foS ev f N 0 (thM w i), w2, w3, cls0 h hi hs hf hk (by rw [if_pos (by decide), f1, bnd_s, dg_0_9 tc1.1, f2, bnd_s]), mod0 h2 hi hs (eF c12) hk (by rw [if_pos (by decide), f3, bnd_s]), m, tc, rl, tp, h2.ch (c3.mono PM_SC)⟩
  · obtain ⟨w1, f1, c1⟩ := kdC_loop h r1 hi hs hf 6 0 FU w Ch.rf (by omega) (show 6 < 2000 by omega)
    have f1 : fX6_kindsBy 0 (some (42 + 2 * s)) (some (18 + i)) w = some (orS (pQ ev f N (thM w i) 0) 6, w1) := f1
    have ok := ok7 (h.ch c1) (eR c1) hi hs (eF c1)
    rw [eM c1] at ok
    obtain ⟨w2, f2, J2⟩ := md (rr := orS (pQ ev f N (thM w i) 0) 6) c1 ⟨by omega, by omega⟩ (by omega) ok (fun w2 e2 => mod0 (h.ch c1) hi hs (eF c1) hk (by rw [if_neg (by decide), if_pos (by decide), beg7 (h.ch c1).S (h.ch c1).c11 m6 hi, e2, ans1]))
    exact ⟨_, w1, w2, cls0 h hi hs hf hk (by rw [if_neg (by decide), if_pos (by decide), f1, bnd_s]), f2, J2⟩
  · obtain ⟨w1, f1, c1⟩ := nbC_loop h r1 hi hs hf 10 0 FU w Ch.rf (by omega) (show 10 < 2000 by omega)
    have f1 : fX6_numbersBy 0 (some (42 + 2 * s)) (some (18 + i)) w = some (orS (pQ ev f N (thM w i) 1) 10, w1) := f1
    have ok := ok2 (h.ch c1) (eR c1) hi hs (eF c1)
    rw [eM c1] at ok
    obtain ⟨w2, f2, J2⟩ := md (rr := orS (pQ ev f N (thM w i) 1) 10) c1 ⟨by omega, by omega⟩ (by omega) ok (fun w2 e2 => mod0 (h.ch c1) hi hs (eF c1) hk (by rw [if_neg (by decide), if_neg (by decide), if_pos (by decide), beg2 (h.ch c1).S (h.ch c1).c11 m6 hi, e2, ans2]))
    exact ⟨_, w1, w2, cls0 h hi hs hf hk (by rw [if_neg (by decide), if_neg (by decide), if_pos (by decide), f1, bnd_s]), f2, J2⟩
  · obtain ⟨w1, f1, c1⟩ := seC_loop (x3 := 0) h r1 hi hs hf 256 0 FU w Ch.rf (by omega) (show 256 < 2000 by omega)
    have f1 : fX6_setsBy 0 (some (42 + 2 * s)) (some (18 + i)) (0 : Int32) w = some (nI (cnN (pB ev f N w i) 256), w1) := f1
    have ok := ok4 (h.ch c1) (eR c1) hi hs (eF c1)
    have eB : pB ev f N w1 i = pB ev f N w i := by
      have e56 : gI w1 56 = gI w 56 := funext (fun k => c1.I (by unfold SC; omega))
      funext v
      unfold pB
      rw [isP_ch c1, e56, thY_ch c1 (fun a b z => by unfold SC at z; omega)]
    rw [eB] at ok
    obtain ⟨w2, f2, J2⟩ := md (rr := nI (cnN (pB ev f N w i) 256)) c1 ⟨by omega, by omega⟩ (by omega) ok (fun w2 e2 => mod0 (h.ch c1) hi hs (eF c1) hk (by rw [if_neg (by decide), if_neg (by decide), if_neg (by decide), if_neg (by decide), beg4 (h.ch c1).S (h.ch c1).c11 m6 hi, e2, ans3]))
    exact ⟨_, w1, w2, cls0 h hi hs hf hk (by rw [if_neg (by decide), if_neg (by decide), if_neg (by decide), if_pos (by decide), f1, bnd_s]), f2, J2⟩
  · obtain ⟨w1, f1, c1⟩ := seC_loop (x3 := 1) h r1 hi hs hf 256 0 FU w Ch.rf (by omega) (show 256 < 2000 by omega)
    rw [if_neg (show ¬ (1 : Int32) = 0 by decide)] at f1
    have f1 : fX6_setsBy 0 (some (42 + 2 * s)) (some (18 + i)) (1 : Int32) w = some (lwS (pB ev f N w i) 256, w1) := f1
    have ok := ok4 (h.ch c1) (eR c1) hi hs (eF c1)
    have eB : pB ev f N w1 i = pB ev f N w i := by
      have e56 : gI w1 56 = gI w 56 := funext (fun k => c1.I (by unfold SC; omega))
      funext v
      unfold pB
      rw [isP_ch c1, e56, thY_ch c1 (fun a b z => by unfold SC at z; omega)]
    rw [eB] at ok
    obtain ⟨w2, f2, J2⟩ := md (rr := lwS (pB ev f N w i) 256) c1 ⟨by omega, by omega⟩ (by omega) ok (fun w2 e2 => mod0 (h.ch c1) hi hs (eF c1) hk (by rw [if_neg (by decide), if_neg (by decide), if_neg (by decide), if_neg (by decide), beg4 (h.ch c1).S (h.ch c1).c11 m6 hi, e2, ans4]))
    exact ⟨_, w1, w2, cls0 h hi hs hf hk (by rw [if_neg (by decide), if_neg (by decide), if_neg (by decide), if_neg (by decide), if_pos (by decide), f1, bnd_s]), f2, J2⟩
  · obtain ⟨w1, f1, c1⟩ := txC_loop (evt := evt) h r1 hi hs hf (fun t ht => (hevt t ht).1) tc 0 FU w Ch.rf (by omega) (show tc < 2000 by have := h.2.2.1.1; omega)
    have f1 : fX6_textsBy 0 (some (42 + 2 * s)) (some (18 + i)) w = some (orS (pX evt f N (thM w i)) tc, w1) := f1
    have ok := ok8 (evt := evt) (h.ch c1) hi hs (eF c1) (fun t ht => (hevt t ht).2.ch c1 (fun k => ⟨by unfold SC; omega, by unfold SC; omega⟩))
    rw [eM c1] at ok
    obtain ⟨w2, f2, J2⟩ := md (rr := orS (pX evt f N (thM w i)) tc) c1 ⟨by omega, by omega⟩ (by have := h.2.2.1.1; omega) ok (fun w2 e2 => mod0 (h.ch c1) hi hs (eF c1) hk (by rw [if_neg (by decide), if_neg (by decide), if_neg (by decide), if_pos (by decide), if_pos (by decide), beg8 (h.ch c1).2.2.1.2.2, e2, ans5]))
    exact ⟨_, w1, w2, cls0 h hi hs hf hk (by rw [if_neg (by decide), if_neg (by decide), if_neg (by decide), if_neg (by decide), if_neg (by decide), if_pos (by decide), f1, bnd_s]), f2, J2⟩
  · obtain ⟨w1, f1, c1⟩ := wkC_loop (x3 := 0) h r1 hi hs hf 1000 0 FU w Ch.rf (by omega) (show 1000 < 2000 by omega)
    have f1 : fX6_stepsBy 0 (some (42 + 2 * s)) (some (18 + i)) (0 : Int32) w = some (nI (cnN (pQ ev f N (thM w i) 4) 1000), w1) := f1
    have ok := ok5 (h.ch c1) (eR c1) hi hs (eF c1)
    rw [eM c1] at ok
    obtain ⟨w2, f2, J2⟩ := md (rr := nI (cnN (pQ ev f N (thM w i) 4) 1000)) c1 ⟨by omega, by omega⟩ (by omega) ok (fun w2 e2 => mod0 (h.ch c1) hi hs (eF c1) hk (by rw [if_neg (by decide), if_neg (by decide), if_neg (by decide), if_pos (by decide), if_neg (by decide), beg5 (h.ch c1).S (h.ch c1).c11 m6 hi, e2, ans6]))
    exact ⟨_, w1, w2, cls0 h hi hs hf hk (by rw [if_neg (by decide), if_neg (by decide), if_neg (by decide), if_neg (by decide), if_neg (by decide), if_neg (by decide), if_pos (by decide), f1, bnd_s]), f2, J2⟩
  · obtain ⟨w1, f1, c1⟩ := wkC_loop (x3 := 1) h r1 hi hs hf 1000 0 FU w Ch.rf (by omega) (show 1000 < 2000 by omega)
    rw [if_neg (show ¬ (1 : Int32) = 0 by decide)] at f1
    have f1 : fX6_stepsBy 0 (some (42 + 2 * s)) (some (18 + i)) (1 : Int32) w = some (lwS (pQ ev f N (thM w i) 4) 1000, w1) := f1
    have ok := ok5 (h.ch c1) (eR c1) hi hs (eF c1)
    rw [eM c1] at ok
    obtain ⟨w2, f2, J2⟩ := md (rr := lwS (pQ ev f N (thM w i) 4) 1000) c1 ⟨by omega, by omega⟩ (by omega) ok (fun w2 e2 => mod0 (h.ch c1) hi hs (eF c1) hk (by rw [if_neg (by decide), if_neg (by decide), if_neg (by decide), if_pos (by decide), if_neg (by decide), beg5 (h.ch c1).S (h.ch c1).c11 m6 hi, e2, ans7]))
    exact ⟨_, w1, w2, cls0 h hi hs hf hk (by rw [if_neg (by decide), if_neg (by decide), if_neg (by decide), if_neg (by decide), if_neg (by decide), if_neg (by decide), if_neg (by decide), f1, bnd_s]), f2, J2⟩
theorem tells_agree (a0 a1 a2 : Int32) : Agree JJ (fX6_tells 0 a0 a1 a2) (fX7_tells 52 a0 a1 a2) := by
  rintro w ⟨m, tc, rl, tp, h⟩
  have e7 : (7 : Int32).toInt64 = (7 : Int64) := by decide
  have J : JJ w := ⟨m, tc, rl, tp, h⟩
  have m6 := h.m6
  by_cases hS : 0 ≤ a0 ∧ a0 ≤ (3 : Int32)
  · obtain ⟨s, hs, rfl⟩ := (in0n (n := 3) (by omega)).mp hS
    have hs : s < 4 := by omega
    rcases one_at h a1 with ⟨i, hi, rfl, e1, e2⟩ | ⟨e1, e2⟩
    · by_cases hd : 0 ≤ a2 ∧ a2 ≤ (7 : Int32)
      · obtain ⟨k, hk, rfl⟩ := (in0n (n := 7) (by omega)).mp hd
        rcases sf_of (h.shs s hs) with ⟨g1, g2⟩ | ⟨N, f, hf⟩
        · have cs : (nI s).toNatClampNeg = s := nI_clamp (by omega)
          refine ⟨-11, w, w, ?_, ?_, J⟩
          · unfold fX6_tells
            rw [atS h.S hs, bnd_s, e1, bnd_s, ifn_some, ifn_some, wn_ev, bnd_s, w01, if_pos hd, dr_at h.S.1 (kd_sh hs), missC, bnd_s, if_pos g1, if_neg (by decide)]
          · unfold fX7_tells
            rw [isS, bnd_s, w01, if_pos hS, e2, bnd_s, if_neg (by decide), in0l e7, bnd_s, w01, if_pos hd, dg_52_42 h.S, grd_t (by rw [ln_62]; exact vin_nI hs (by omega)), cs, g2, if_pos rfl]
        · exact tells_some h hi hs hf hk
      · refine ⟨-2, w, w, ?_, ?_, J⟩
        · unfold fX6_tells
          rw [atS h.S hs, bnd_s, e1, bnd_s, ifn_some, ifn_some, wn_ev, bnd_s, w01, if_neg hd]
        · unfold fX7_tells
          rw [isS, bnd_s, w01, if_pos hS, e2, bnd_s, if_neg (by decide), in0l e7, bnd_s, w01, if_neg hd]
    · refine ⟨-2, w, w, ?_, ?_, J⟩
      · unfold fX6_tells
        rw [atS h.S hs, bnd_s, e1, bnd_s, ifn_some, ifn_none]
      · unfold fX7_tells
        rw [isS, bnd_s, w01, if_pos hS, e2, bnd_s, if_pos rfl]
  · refine ⟨-2, w, w, ?_, ?_, J⟩
    · unfold fX6_tells
      rw [noS hS, bnd_s]
      rcases one_at h a1 with ⟨i, hi, rfl, e1, e2⟩ | ⟨e1, e2⟩
      · rw [e1, bnd_s, ifn_none]
      · rw [e1, bnd_s, ifn_none]
    · unfold fX7_tells
      rw [isS, bnd_s, w01, if_neg hS]
