/-! the class's reader stands at a token -/
def Lx (b : Nat → Int32) (z : Nat) (w : Wd) (p : Nat) : Prop := gI w 5 2 = nI (nx b z p) ∧ gI w 5 3 = nI (tS b z p) ∧ gI w 5 4 = tk b z p ∧ (tk b z p = 2 ∨ tk b z p = 3 → gI w 5 5 = am b z p)
theorem take_ev {b : Nat → Int32} {z p : Nat} {w : Wd} (h : Bz b z w) (hp : p ≤ z) (h2 : gI w 5 2 = nI p) : ∃ w', fX1_take 5 w = some ((), w') ∧ Lx b z w' p ∧ Ch PX w w' := by
  have hz := h.2.1
  obtain ⟨w1, e1, r1, c1⟩ := blank_loop (z - p) p FU w h (by omega) h2 (by show z - p < 2000; omega)
  have c1 := c1.mono P2_PX
  have b1 := h.x c1
  obtain ⟨t1, t2⟩ := tS_le (b := b) hp
  have r1 : gI w1 5 2 = nI (tS b z p) := r1
  -- the token's beginning is kept
  obtain ⟨w2, hw2⟩ : ∃ w2, w2 = sI w1 5 3 (nI (tS b z p)) := ⟨_, rfl⟩
  have c2 : Ch PX w1 w2 := by rw [hw2]; exact ch_sI ⟨rfl, by omega, by omega⟩
  have b2 := b1.x c2
  have q2 : gI w2 5 2 = nI (tS b z p) := by rw [hw2, gI_sI, if_neg (by omega)]; exact r1
  have q3 : gI w2 5 3 = nI (tS b z p) := by rw [hw2, gI_sI, if_pos ⟨rfl, rfl⟩]
  have fin : ∃ w', fX1_take_39 5 w1 = some ((), w') ∧ Lx b z w' p ∧ Ch PX w1 w' := by
    unfold fX1_take_39
    rw [r1, lw_e, ← hw2]
    by_cases hq : tS b z p < z
    · have hlt : gI w2 5 2 < gI w2 5 1 := by rw [q2, b2.2.2.1]; exact nI_lt hq (by omega)
      rw [if_pos hlt, b2.at hq q2 (f := fun x => bnd (fX1_isLetter x w2) (fun x_7 w_8 => if x_7 = 0 then
      (dr (gR w_8 5 0) 8 w_8 (fun a_9 => grd (vin (gI w_8 5 2) (ln a_9)) (bnd (fX1_isDigit (gI w_8 a_9 (gI w_8 5 2).toNatClampNeg) w_8) (fun x_10 w_11 => if x_10 = 0 then
        (dr (gR w_11 5 0) 8 w_11 (fun a_12 => grd (vin (gI w_11 5 2) (ln a_12)) (bnd (fX1_signOf (gI w_11 a_12 (gI w_11 5 2).toNatClampNeg) w_11) (fun x_13 w_14 => lw (sI w_14 5 4 x_13) (fun w_15 => lw (sI w_15 5 2 ((gI w_15 5 2) + (1 : Int32))) (fun w_16 => some ((), w_16)))))))
      else
        (bnd (fX1_takeAmount 5 w_11) (fun u_17 w_18 => some ((), w_18)))))))
    else
      (bnd (fX1_takeWord 5 w_8) (fun u_19 w_20 => some ((), w_20)))))]
      rw [cL_ev, bnd_s, w01]
      by_cases hl : cL (b (tS b z p)) = true
      · rw [if_pos hl]
        obtain ⟨w3, e3, r3, c3⟩ := word_loop (z - tS b z p) (tS b z p) FU w2 b2 (by omega) q2 (by show z - tS b z p < 2000; omega)
        have r3 : gI w3 5 2 = nI (wE b z (tS b z p)) := r3
        have hg := sc_go (b := b) hq hl
        have hg : tS b z p < wE b z (tS b z p) ∧ wE b z (tS b z p) ≤ z := hg
        have q33 : gI w3 5 3 = nI (tS b z p) := by rw [c3.I (by unfold P2; omega)]; exact q3
        have b3 := b2.x (c3.mono P2_PX)
        have e4 := word_ev (by omega) hg.2 b3 q33 r3
        have e5 : fX1_takeWord 5 w2 = _ := e3.trans e4
        rw [e5, bnd_s]
        refine ⟨_, rfl, ⟨?_, ?_, ?_, fun _ => ?_⟩, (c2.tr (c3.mono P2_PX)).tr ((ch_sI ⟨rfl, by omega, by omega⟩).tr (ch_sI ⟨rfl, by omega, by omega⟩))⟩
        · rw [gI_sI, if_neg (by omega), gI_sI, if_neg (by omega), r3, nx, if_pos hq, if_pos hl]
        · rw [gI_sI, if_neg (by omega), gI_sI, if_neg (by omega)]; exact q33
        · rw [gI_sI, if_pos ⟨rfl, rfl⟩, tk, if_pos hq, if_pos hl]
        · rw [gI_sI, if_neg (by omega), gI_sI, if_pos ⟨rfl, rfl⟩, am, if_pos hl]
      · rw [if_neg hl, b2.at hq q2 (f := fun x => bnd (fX1_isDigit x w2) (fun x_10 w_11 => if x_10 = 0 then
        (dr (gR w_11 5 0) 8 w_11 (fun a_12 => grd (vin (gI w_11 5 2) (ln a_12)) (bnd (fX1_signOf (gI w_11 a_12 (gI w_11 5 2).toNatClampNeg) w_11) (fun x_13 w_14 => lw (sI w_14 5 4 x_13) (fun w_15 => lw (sI w_15 5 2 ((gI w_15 5 2) + (1 : Int32))) (fun w_16 => some ((), w_16)))))))
      else
        (bnd (fX1_takeAmount 5 w_11) (fun u_17 w_18 => some ((), w_18)))))]
        rw [cD_ev, bnd_s, w01]
        by_cases hd : cD (b (tS b z p)) = true
        · rw [if_pos hd]
          unfold fX1_takeAmount
          rw [lw_e]
          have c3 : Ch PX w2 (sI w2 5 5 0) := ch_sI ⟨rfl, by omega, by omega⟩
          have b3 := b2.x c3
          obtain ⟨w4, e4, r4, r5, c4⟩ := amount_loop (z - tS b z p) (tS b z p) FU (sI w2 5 5 0) 0 b3 (by omega) (by rw [gI_sI, if_neg (by omega)]; exact q2) (by rw [gI_sI, if_pos ⟨rfl, rfl⟩]) (by show z - tS b z p < 2000; omega)
          have r4 : gI w4 5 2 = nI (nE b z (tS b z p)) := r4
          have hg := sc_go (b := b) hq hd
          have hg : tS b z p < nE b z (tS b z p) ∧ nE b z (tS b z p) ≤ z := hg
          have q43 : gI w4 5 3 = nI (tS b z p) := by rw [c4.I (by unfold P25; omega), gI_sI, if_neg (by omega)]; exact q3
          rw [e4]
          unfold fX1_takeAmount_68 fX1_takeAmount_87
          rw [r4, q43, pk_sub (by omega)]
          have cc : ∀ v : Int32, Ch PX w1 (sI w4 5 4 v) := fun v => ((c2.tr c3).tr (c4.mono P25_PX)).tr (ch_sI ⟨rfl, by omega, by omega⟩)
          by_cases h4 : nE b z (tS b z p) ≤ tS b z p + 4
          · have h5 : nI (nE b z (tS b z p) - tS b z p) ≤ (4 : Int32) := nI_le (b := 4) (by omega) (by omega)
            rw [if_pos h5, lw_e, bnd_s]
            refine ⟨_, rfl, ⟨?_, ?_, ?_, fun _ => ?_⟩, cc 2⟩
            · rw [gI_sI, if_neg (by omega), r4, nx, if_pos hq, if_neg hl, if_pos hd]
            · rw [gI_sI, if_neg (by omega)]; exact q43
            · rw [gI_sI, if_pos ⟨rfl, rfl⟩, tk, if_pos hq, if_neg hl, if_pos hd, if_pos h4]
            · rw [gI_sI, if_neg (by omega), r5, am, if_neg hl]
          · have h5 : ¬ nI (nE b z (tS b z p) - tS b z p) ≤ (4 : Int32) := nI_ge (a := 4) (by omega) (by omega)
            rw [if_neg h5, lw_e, bnd_s]
            refine ⟨_, rfl, ⟨?_, ?_, ?_, fun _ => ?_⟩, cc 0⟩
            · rw [gI_sI, if_neg (by omega), r4, nx, if_pos hq, if_neg hl, if_pos hd]
            · rw [gI_sI, if_neg (by omega)]; exact q43
            · rw [gI_sI, if_pos ⟨rfl, rfl⟩, tk, if_pos hq, if_neg hl, if_pos hd, if_neg h4]
            · rw [gI_sI, if_neg (by omega), r5, am, if_neg hl]
        · rw [if_neg hd, b2.at hq q2 (f := fun x => bnd (fX1_signOf x w2) (fun x_13 w_14 => lw (sI w_14 5 4 x_13) (fun w_15 => lw (sI w_15 5 2 ((gI w_15 5 2) + (1 : Int32))) (fun w_16 => some ((), w_16)))))]
          rw [sg_ev, bnd_s, lw_e, lw_e]
          have g2 : gI (sI w2 5 4 (sgT (b (tS b z p)))) 5 2 + 1 = nI (tS b z p + 1) := by rw [gI_sI, if_neg (by omega), q2, nI_1]
          rw [g2]
          have ht : tk b z p = sgT (b (tS b z p)) := by rw [tk, if_pos hq, if_neg hl, if_neg hd]
          refine ⟨_, rfl, ⟨?_, ?_, ?_, fun hh => ?_⟩, c2.tr ((ch_sI ⟨rfl, by omega, by omega⟩).tr (ch_sI ⟨rfl, by omega, by omega⟩))⟩
          · rw [gI_sI, if_pos ⟨rfl, rfl⟩, nx, if_pos hq, if_neg hl, if_neg hd]
          · rw [gI_sI, if_neg (by omega), gI_sI, if_neg (by omega)]; exact q3
          · rw [gI_sI, if_neg (by omega), gI_sI, if_pos ⟨rfl, rfl⟩, ht]
          · rw [ht] at hh
            exact absurd hh (fun y => y.elim (sgT_in _).1 (sgT_in _).2.1)
    · have hlt : ¬ gI w2 5 2 < gI w2 5 1 := by rw [q2, b2.2.2.1]; exact nI_nlt (by omega) (by omega)
      have ht : tk b z p = 1 := by rw [tk, if_neg hq]
      rw [if_neg hlt, lw_e]
      refine ⟨_, rfl, ⟨?_, ?_, ?_, fun hh => ?_⟩, c2.tr (ch_sI ⟨rfl, by omega, by omega⟩)⟩
      · rw [gI_sI, if_neg (by omega), q2, nx, if_neg hq]
      · rw [gI_sI, if_neg (by omega)]; exact q3
      · rw [gI_sI, if_pos ⟨rfl, rfl⟩, ht]
      · rw [ht] at hh
        exact absurd hh (by decide)
  obtain ⟨w9, e9, l9, c9⟩ := fin
  exact ⟨w9, e1.trans e9, l9, c1.tr c9⟩
