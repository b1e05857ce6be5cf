/-! telling and setting -/
theorem kept_ev {x : Int32} {w : Wd} : fX6_isKept x w = some (if 0 ≤ x ∧ x ≤ (6 : Int32) then 1 else 0, w) := by
  unfold fX6_isKept
  rw [wn_ev, bnd_s]
  by_cases h : 0 ≤ x ∧ x ≤ (6 : Int32)
  · rw [if_pos h, grd_t (Or.inr rfl)]
  · rw [if_neg h, grd_t (Or.inl rfl)]
def askS (ev : Ev) (th : Nat → Int32) (k : Nat) : Int32 := if k = 7 then th 0 else if k = 8 then th 2 else if k = 9 then th 3 else if k = 10 then lastsS ev th else if k = 11 then paceS ev th else if k = 12 then (if stopS ev th = 0 then 0 else 1) else (if sockS ev th = 0 then 0 else 1)
theorem ask7 {ev : Ev} {th : Nat → Int32} : askS ev th 7 = th 0 := by
  unfold askS
  rw [if_pos rfl]
theorem ask8 {ev : Ev} {th : Nat → Int32} : askS ev th 8 = th 2 := by
  unfold askS
  rw [if_neg (by decide), if_pos rfl]
theorem ask9 {ev : Ev} {th : Nat → Int32} : askS ev th 9 = th 3 := by
  unfold askS
  rw [if_neg (by decide), if_neg (by decide), if_pos rfl]
theorem ask10 {ev : Ev} {th : Nat → Int32} : askS ev th 10 = lastsS ev th := by
  unfold askS
  rw [if_neg (by decide), if_neg (by decide), if_neg (by decide), if_pos rfl]
theorem ask11 {ev : Ev} {th : Nat → Int32} : askS ev th 11 = paceS ev th := by
  unfold askS
  rw [if_neg (by decide), if_neg (by decide), if_neg (by decide), if_neg (by decide), if_pos rfl]
theorem ask12 {ev : Ev} {th : Nat → Int32} : askS ev th 12 = (if stopS ev th = 0 then 0 else 1) := by
  unfold askS
  rw [if_neg (by decide), if_neg (by decide), if_neg (by decide), if_neg (by decide), if_neg (by decide), if_pos rfl]
theorem ask13 {ev : Ev} {th : Nat → Int32} : askS ev th 13 = (if sockS ev th = 0 then 0 else 1) := by
  unfold askS
  rw [if_neg (by decide), if_neg (by decide), if_neg (by decide), if_neg (by decide), if_neg (by decide), if_neg (by decide)]
theorem PT51 : ∀ i k : Nat, i = 51 → PT i k := fun i k h => Or.inr h
theorem told7C {w : Wd} {m tc rl tp i k : Nat} {ev : Ev} (h : Jn w m tc rl tp) (hr : Ru w rl ev) (hi : i < m) (hk : 7 ≤ k) (hk2 : k ≤ 13) : ∃ w', fX6_told 0 (nI i) (nI k) w = some (askS ev (thM w i) k, w') ∧ Ch SC w w' := by
  have m6 := h.m6
  obtain ⟨w1, f1, tc1, c1⟩ := think_ev hr (i := i) (by omega)
  have e0 : gI w1 (18 + i) 0 = gI w (18 + i) 0 := c1.I (by unfold PT; omega)
  have t0 : gI w (18 + i) 0 = thM w i 0 := (h.wk i hi).1
  rw [(h.th hi).1] at tc1
  have pre : ∀ F : Option (Int32 × Wd), (if nI k = (7 : Int32) then
            (dr (some (18 + i)) 5 w1 (fun a_11 => some (gI w1 a_11 0, w1)))
          else if nI k = (8 : Int32) then
            (dr (gR w1 0 9) 4 w1 (fun a_12 => some (gI w1 a_12 2, w1)))
          else if nI k = (9 : Int32) then
            (dr (gR w1 0 9) 4 w1 (fun a_13 => some (gI w1 a_13 3, w1)))
          else if nI k = (10 : Int32) then
            (dr (gR w1 0 9) 4 w1 (fun a_14 => bnd (fX4_lasts a_14 w1) (fun x_15 w_16 => some (x_15, w_16))))
          else if nI k = (11 : Int32) then
            (dr (gR w1 0 9) 4 w1 (fun a_17 => bnd (fX4_pace a_17 w1) (fun x_18 w_19 => some (x_18, w_19))))
          else if nI k = (12 : Int32) then
            (dr (gR w1 0 9) 4 w1 (fun a_20 => bnd (fX4_isStopped a_20 w1) (fun x_21 w_22 => bnd (fX6_bit x_21 w_22) (fun x_23 w_24 => some (x_23, w_24)))))
          else
            (dr (gR w1 0 9) 4 w1 (fun a_25 => bnd (fX4_isInSocks a_25 w1) (fun x_26 w_27 => bnd (fX6_bit x_26 w_27) (fun x_28 w_29 => some (x_28, w_29)))))) = F → fX6_told 0 (nI i) (nI k) w = F := by
    intro F hF
    have hk6 : ¬ (0 ≤ nI k ∧ nI k ≤ (6 : Int32)) := fun z => nI_ge (a := 6) (b := k) (by omega) (by omega) z.2
    unfold fX6_told
    rw [wn_ev, bnd_s, w01, if_pos (b13 hk2), namesC h.S h.c3 m6 hk2 (Or.inr (Or.inr ⟨by omega, hi, rfl⟩)), bnd_s, if_neg (by decide), kept_ev, bnd_s, w01, if_neg hk6, atC h.S h.c3 m6 hi, bnd_s, ifn_some, f1, bnd_s]
    exact hF
  have c1s := c1.mono PT_SC
  have s51 : ∀ i k : Nat, i = 51 → SC i k := fun i k q => PT_SC i k (PT51 i k q)
  have hc : k = 7 ∨ k = 8 ∨ k = 9 ∨ k = 10 ∨ k = 11 ∨ k = 12 ∨ k = 13 := by omega
  rcases hc with rfl | rfl | rfl | rfl | rfl | rfl | rfl
  · exact ⟨w1, pre _ (by rw [if_pos (by decide), dr_at tc1.1.1 (kd_wk (by omega)), e0, t0, ask7]), c1s⟩
  · exact ⟨w1, pre _ (by rw [if_neg (by decide), if_pos (by decide), dg_0_9 tc1.1, tc1.2.2.2.2 2 (by omega), ask8]), c1s⟩
  · exact ⟨w1, pre _ (by rw [if_neg (by decide), if_neg (by decide), if_pos (by decide), dg_0_9 tc1.1, tc1.2.2.2.2 3 (by omega), ask9]), c1s⟩
  · obtain ⟨w2, g, c2⟩ := lasts_ev tc1
    exact ⟨w2, pre _ (by rw [if_neg (by decide), if_neg (by decide), if_neg (by decide), if_pos (by decide), dg_0_9 tc1.1, g, bnd_s, ask10]), c1s.tr (c2.mono s51)⟩
  · obtain ⟨w2, g, c2⟩ := pace_ev tc1
    exact ⟨w2, pre _ (by rw [if_neg (by decide), if_neg (by decide), if_neg (by decide), if_neg (by decide), if_pos (by decide), dg_0_9 tc1.1, g, bnd_s, ask11]), c1s.tr (c2.mono s51)⟩
  · obtain ⟨w2, g, c2⟩ := stop_ev tc1
    exact ⟨w2, pre _ (by rw [if_neg (by decide), if_neg (by decide), if_neg (by decide), if_neg (by decide), if_neg (by decide), if_pos (by decide), dg_0_9 tc1.1, g, bnd_s, bit_ev, bnd_s, ask12]), c1s.tr (c2.mono s51)⟩
  · obtain ⟨w2, g, c2⟩ := sock_ev tc1
    exact ⟨w2, pre _ (by rw [if_neg (by decide), if_neg (by decide), if_neg (by decide), if_neg (by decide), if_neg (by decide), if_neg (by decide), dg_0_9 tc1.1, g, bnd_s, bit_ev, bnd_s, ask13]), c1s.tr (c2.mono s51)⟩
theorem told7M {w : Wd} {m tc rl tp i k : Nat} {ev : Ev} (h : Jn w m tc rl tp) (hr : Rm w rl ev) (hi : i < m) (hk : 7 ≤ k) (hk2 : k ≤ 13) : ∃ w', fX7_told 52 (nI i) (nI k) w = some (askS ev (thM w i) k, w') ∧ Ch SC w w' := by
  have m6 := h.m6
  have e13 : (13 : Int32).toInt64 = (13 : Int64) := by decide
  have hRT := (h.th hi).2
  have ci : (nI i).toNatClampNeg = i := nI_clamp (by omega)
  obtain ⟨w1, f1, t1, c1⟩ := begins_ev hr (p := i) (by omega)
  have c1s : Ch SC w w1 := c1.mono (fun i k z => by unfold PB at z; unfold SC; omega)
  have sPA : ∀ i k, PA i k → SC i k := fun i k z => by unfold PA at z; unfold SC; omega
  have h2' : (2 : Int32) ≤ nI k := nI_le (a := 2) (by omega) (by omega)
  have h7' : (7 : Int32) ≤ nI k := nI_le (a := 7) (by omega) (by omega)
  have pre : ∀ F : Option (Int32 × Wd), (if nI k = (7 : Int32) then
            (dr (gR w 52 9) 8 w (fun a_15 => grd (vin (nI i) (ln a_15)) (some (gI w a_15 (nI i).toNatClampNeg, w))))
          else
            (bnd (fX7_begins 52 (nI i) w) (fun u_5 w_6 => if nI k = (8 : Int32) then
              (some (gI w_6 52 27, w_6))
            else
              (if nI k = (9 : Int32) then
                (some (gI w_6 52 28, w_6))
              else
                (if nI k = (10 : Int32) then
                  (bnd (fX7_lastsOf 52 (nI i) w_6) (fun x_13 w_14 => some (x_13, w_14)))
                else
                  (if nI k = (11 : Int32) then
                    (bnd (fX7_paceOf 52 (nI i) w_6) (fun x_11 w_12 => some (x_11, w_12)))
                  else
                    (if nI k = (12 : Int32) then
                      (bnd (fX7_isStopped 52 (nI i) w_6) (fun x_9 w_10 => if x_9 = 0 then
                        (some ((0 : Int32), w_10))
                      else
                        (some ((1 : Int32), w_10))))
                    else
                      (bnd (fX7_lastsOf 52 (nI i) w_6) (fun x_7 w_8 => if (gI w_6 52 30) < x_7 then
                        (some ((0 : Int32), w_8))
                      else
                        (some ((1 : Int32), w_8))))))))))) = F → fX7_told 52 (nI i) (nI k) w = F := by
    intro F hF
    unfold fX7_told
    rw [in0l e13, bnd_s, w01, if_pos (b13 hk2), isOfM h.c11 m6 hk2 (Or.inr (Or.inr ⟨by omega, hi, rfl⟩)), bnd_s, if_neg (by decide), if_pos h2', if_pos h7']
    exact hF
  have hc : k = 7 ∨ k = 8 ∨ k = 9 ∨ k = 10 ∨ k = 11 ∨ k = 12 ∨ k = 13 := by omega
  have t27 : gI w1 52 27 = thM w i 2 := t1.2.2.2.2.2.2.2.1
  have t28 : gI w1 52 28 = thM w i 3 := t1.2.2.2.2.2.2.2.2.1
  rcases hc with rfl | rfl | rfl | rfl | rfl | rfl | rfl
  · exact ⟨w, pre _ (by rw [if_pos (by decide), dg_52_9 h.S, grd_t (by rw [ln_57]; exact vin_nI (by omega) (by omega)), ci, ask7]; rfl), Ch.rf⟩
  · exact ⟨w1, pre _ (by rw [if_neg (by decide), f1, bnd_s, if_pos (by decide), t27, ask8]), c1s⟩
  · exact ⟨w1, pre _ (by rw [if_neg (by decide), f1, bnd_s, if_neg (by decide), if_pos (by decide), t28, ask9]), c1s⟩
  · obtain ⟨w2, g, c2⟩ := mlasts_ev t1
    exact ⟨w2, pre _ (by rw [if_neg (by decide), f1, bnd_s, if_neg (by decide), if_neg (by decide), if_pos (by decide), g, bnd_s, ask10]), c1s.tr (c2.mono sPA)⟩
  · obtain ⟨w2, g, c2⟩ := mpace_ev t1 hRT
    exact ⟨w2, pre _ (by rw [if_neg (by decide), f1, bnd_s, if_neg (by decide), if_neg (by decide), if_neg (by decide), if_pos (by decide), g, bnd_s, ask11]), c1s.tr (c2.mono sPA)⟩
  · obtain ⟨w2, g, c2⟩ := mstop_ev t1
    refine ⟨w2, pre _ ?_, c1s.tr (c2.mono sPA)⟩
    rw [if_neg (by decide), f1, bnd_s, if_neg (by decide), if_neg (by decide), if_neg (by decide), if_neg (by decide), if_pos (by decide), g, bnd_s]
    rw [ask12]
    by_cases hs : stopS ev (thM w i) = 0
    · rw [if_pos hs, if_pos hs]
    · rw [if_neg hs, if_neg hs]
  · obtain ⟨w2, g, c2⟩ := mlasts_ev t1
    refine ⟨w2, pre _ ?_, c1s.tr (c2.mono sPA)⟩
    rw [if_neg (by decide), f1, bnd_s, if_neg (by decide), if_neg (by decide), if_neg (by decide), if_neg (by decide), if_neg (by decide), g, bnd_s, t1.worn]
    rw [ask13]
    unfold sockS
    by_cases hs : thM w i 5 < lastsS ev (thM w i)
    · rw [if_pos hs, if_pos hs, if_pos rfl]
    · rw [if_neg hs, if_neg hs, if_neg (by decide)]
theorem told_agree (a0 a1 : Int32) : Agree JJ (fX6_told 0 a0 a1) (fX7_told 52 a0 a1) := by
  rintro w ⟨m, tc, rl, tp, h⟩
  have e13 : (13 : Int32).toInt64 = (13 : Int64) := by decide
  have J : JJ w := ⟨m, tc, rl, tp, h⟩
  by_cases hd : 0 ≤ a1 ∧ a1 ≤ (13 : Int32)
  · obtain ⟨k, hk, rfl⟩ := (in0n (n := 13) (by omega)).mp hd
    rcases names_both h (k := k) hk a0 with ⟨i, hn⟩ | ⟨n1, n2⟩
    · by_cases hk7 : k ≤ 6
      · refine ⟨valC w k i, w, w, ?_, ?_, J⟩
        · unfold fX6_told
          rw [wn_ev, bnd_s, w01, if_pos hd, namesC h.S h.c3 h.m6 hk hn, bnd_s, if_neg (by decide), kept_ev, bnd_s, w01, if_pos (b6 hk7), valueC h.S h.c3 h.m6 hk7 hn, bnd_s]
        · rw [toldM h.S h.c11 h.m6 hk7 hn, val_eq h hk7 hn]
      · rcases hn with rfl | ⟨rfl, -, -⟩ | ⟨-, hi, rfl⟩
        · omega
        · omega
        · obtain ⟨ev, r1, r2⟩ := h.ru
          obtain ⟨w1, e1, c1⟩ := told7C h r1 hi (k := k) (by omega) hk
          have h1 := h.ch c1
          obtain ⟨w2, e2, c2⟩ := told7M h1 (r2.ch c1 (fun i k z => by unfold SC at z; omega)) hi (k := k) (by omega) hk
          rw [thM_ch c1 (fun i k z => by unfold SC at z; omega) i] at e2
          exact ⟨_, w1, w2, e1, e2, m, tc, rl, tp, h1.ch c2⟩
    · refine ⟨-2, w, w, ?_, ?_, J⟩
      · unfold fX6_told
        rw [wn_ev, bnd_s, w01, if_pos hd, n1, bnd_s, if_pos rfl]
      · unfold fX7_told
        rw [in0l e13, bnd_s, w01, if_pos hd, n2, bnd_s, if_pos rfl]
  · refine ⟨-2, w, w, ?_, ?_, J⟩
    · unfold fX6_told
      rw [wn_ev, bnd_s, w01, if_neg hd]
    · unfold fX7_told
      rw [in0l e13, bnd_s, w01, if_neg hd]
