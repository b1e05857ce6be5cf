/-! the model stands at a token -/
theorem sc_stop {c : Int32 → Bool} {b : Nat → Int32} : ∀ n q, sc c b n q < q + n → ¬ c (b (sc c b n q)) = true
  | 0, q, h => absurd h (by unfold sc; omega)
  | n + 1, q, h => by
    unfold sc at h ⊢
    by_cases hc : c (b q) = true
    · rw [if_pos hc] at h ⊢
      exact sc_stop n (q + 1) (by omega)
    · rw [if_neg hc]
      exact hc
theorem sc_all {c : Int32 → Bool} {b : Nat → Int32} : ∀ n q y, q ≤ y → y < sc c b n q → c (b y) = true
  | 0, q, y, h1, h2 => by unfold sc at h2; omega
  | n + 1, q, y, h1, h2 => by
    unfold sc at h2
    by_cases hc : c (b q) = true
    · rw [if_pos hc] at h2
      by_cases hy : y = q
      · rw [hy]; exact hc
      · exact sc_all n (q + 1) y (by omega) h2
    · rw [if_neg hc] at h2
      omega
theorem mblank_loop {b : Nat → Int32} {z t : Nat} : ∀ (n q fu : Nat) (w : Wd), Mz b z t w → q + n = z → gI w 52 20 = nI q → n < fu → ∃ w1 fu1, fX7_next_0 52 fu w = fX7_next_0 52 (fu1 + 1) w1 ∧ gI w1 52 20 = nI (sc cS b n q) ∧ Ch (fun i k => i = 52 ∧ k = 20) w w1 := by
  intro n
  induction n with
  | zero =>
    intro q fu w h hn h2 hf
    obtain ⟨fu, rfl⟩ : ∃ y, fu = y + 1 := ⟨fu - 1, by omega⟩
    exact ⟨w, fu, rfl, h2, Ch.rf⟩
  | succ n ih =>
    intro q fu w h hn h2 hf
    obtain ⟨fu, rfl⟩ : ∃ y, fu = y + 1 := ⟨fu - 1, by omega⟩
    have hz := h.2.1
    rw [sc]
    by_cases hc : cS (b q) = true
    · rw [if_pos hc]
      have c1 : Ch (fun i k => i = 52 ∧ k = 20) w (sI w 52 20 (nI (q + 1))) := ch_sI ⟨rfl, rfl⟩
      obtain ⟨w2, fu1, e2, r2, c2⟩ := ih (q + 1) fu _ (h.ch c1 (fun i k q => by omega)) (by omega) (by rw [gI_sI, if_pos ⟨rfl, rfl⟩]) (by omega)
      refine ⟨w2, fu1, ?_, r2, c1.tr c2⟩
      rw [← e2, fX7_next_0]
      dsimp only
      rw [h2, h.byte (by omega), bnd_s, if_pos (show q < z by omega)]
      have f26 : fX7_next_26 (fX7_next_0 52 fu) 52 w = fX7_next_0 52 fu (sI w 52 20 (nI (q + 1))) := by
        unfold fX7_next_26
        rw [lw_e, h2, nI_1]
      by_cases h32 : b q = 32
      · rw [if_pos h32, f26]
      · rw [if_neg h32, h2, h.byte (by omega), bnd_s, if_pos (show q < z by omega)]
        unfold cS at hc
        have h10 := (of_decide_eq_true hc).resolve_left h32
        rw [if_pos h10, f26]
    · rw [if_neg hc]
      exact ⟨w, fu, rfl, h2, Ch.rf⟩
theorem chain_ev {α : Type} {x : Int32} {G H : α} : (if x = 40 then G else if x = 41 then G else if x = 59 then G else if x = 43 then G else if x = 45 then G else if x = 42 then G else if x = 60 then G else if x = 61 then G else H) = if sgT x = 0 then H else G := by
  by_cases h1 : x = 40
  · rw [h1]; rfl
  by_cases h2 : x = 41
  · rw [h2]; rfl
  by_cases h3 : x = 42
  · rw [h3]; rfl
  by_cases h4 : x = 43
  · rw [h4]; rfl
  by_cases h5 : x = 45
  · rw [h5]; rfl
  by_cases h6 : x = 59
  · rw [h6]; rfl
  by_cases h7 : x = 60
  · rw [h7]; rfl
  by_cases h8 : x = 61
  · rw [h8]; rfl
  unfold sgT
  rw [if_neg h1, if_neg h2, if_neg h6, if_neg h4, if_neg h5, if_neg h3, if_neg h7, if_neg h8, if_neg h1, if_neg h2, if_neg h3, if_neg h4, if_neg h5, if_neg h6, if_neg h7, if_neg h8, if_pos rfl]
theorem next_ev {b : Nat → Int32} {z t p : Nat} {w : Wd} (hb : ∀ k, k < z → 0 ≤ b k) (h : Mz b z t w) (hp : p ≤ z) (h2 : gI w 52 20 = nI p) : ∃ w', fX7_next 52 w = some ((), w') ∧ Mx b z w' p ∧ Ch PK w w' := by
  have hz := h.2.1
  obtain ⟨t1, t2⟩ := tS_le (b := b) hp
  obtain ⟨w1, fu, e1, r1, c1⟩ := mblank_loop (z - p) p FU w h (by omega) h2 (by show z - p < 2000; omega)
  have r1 : gI w1 52 20 = nI (tS b z p) := r1
  have c1 : Ch PK w w1 := c1.mono (fun i k q => by unfold PK; omega)
  have m1 := h.k c1
  have by1 := m1.byte (q := tS b z p) (by omega)
  unfold fX7_next
  rw [e1, fX7_next_0]
  dsimp only
  rw [r1, by1, bnd_s]
  by_cases hq : tS b z p < z
  · have nS : ¬ cS (b (tS b z p)) = true := sc_stop (z - p) p (by show tS b z p < _; omega)
    have n32 : ¬ b (tS b z p) = 32 := fun e => nS (by unfold cS; simp only [decide_eq_true_eq]; exact Or.inl e)
    have n10 : ¬ b (tS b z p) = 10 := fun e => nS (by unfold cS; simp only [decide_eq_true_eq]; exact Or.inr e)
    have hge := hb _ hq
    rw [if_pos hq] at by1 ⊢
    rw [if_neg n32, r1, by1, bnd_s, if_neg n10, lw_e, r1]
    have c2 : Ch PK w1 (sI w1 52 22 (nI (tS b z p))) := ch_sI ⟨rfl, by omega, by omega⟩
    have m2 := m1.k c2
    have g20 : gI (sI w1 52 22 (nI (tS b z p))) 52 20 = nI (tS b z p) := by rw [gI_sI, if_neg (by omega)]; exact r1
    have by2 := m2.byte (q := tS b z p) (by omega)
    rw [if_pos hq] at by2
    rw [g20, by2, bnd_s, lw_e, if_pos hge, inL, bnd_s, w01]
    obtain ⟨w4, hw4⟩ : ∃ w4, w4 = sI (sI w1 52 22 (nI (tS b z p))) 52 21 4 := ⟨_, rfl⟩
    have c4 : Ch PK w w4 := by
      rw [hw4]
      exact (c1.tr c2).tr (ch_sI ⟨rfl, by omega, by omega⟩)
    have m4 := h.k c4
    have g420 : gI w4 52 20 = nI (tS b z p) := by rw [hw4, gI_sI, if_neg (by omega)]; exact g20
    have g422 : gI w4 52 22 = nI (tS b z p) := by rw [hw4, gI_sI, if_neg (by omega), gI_sI, if_pos ⟨rfl, rfl⟩]
    have g421 : gI w4 52 21 = 4 := by rw [hw4, gI_sI, if_pos ⟨rfl, rfl⟩]
    rw [← hw4]
    by_cases hl : cL (b (tS b z p)) = true
    · rw [if_pos hl, lw_e]
      have c5 : Ch PK w4 (sI w4 52 21 1) := ch_sI ⟨rfl, by omega, by omega⟩
      obtain ⟨w6, e6, r6, c6⟩ := mword_loop (z - tS b z p) (tS b z p) FU (sI w4 52 21 1) (m4.k c5) (by omega) (by rw [gI_sI, if_neg (by omega)]; exact g420) (by show z - tS b z p < 2000; omega)
      have hm : mk b z p = 1 := by rw [mk, if_pos hq, if_pos hl]
      refine ⟨w6, e6, ⟨?_, ?_, fun _ => ?_, fun y => ?_, fun y => ?_⟩, (c4.tr c5).tr (c6.mono (fun i k q => by unfold PK; omega))⟩
      · rw [c6.I (by omega), gI_sI, if_pos ⟨rfl, rfl⟩, hm]
      · rw [c6.I (by omega), gI_sI, if_neg (by omega)]; exact g422
      · rw [r6, nx, if_pos hq, if_pos hl]; rfl
      · rw [hm] at y; exact absurd y (by decide)
      · rw [hm] at y; exact absurd y (by decide)
    · rw [if_neg hl, inD, bnd_s, w01]
      by_cases hd : cD (b (tS b z p)) = true
      · rw [if_pos hd, lw_e, lw_e]
        have c5 : Ch PK w4 (sL (sI w4 52 21 2) 52 23 0) := (ch_sI ⟨rfl, by omega, by omega⟩).tr ch_sL
        obtain ⟨w6, e6, r6, r7, r8, c6⟩ := mnum_loop (z - tS b z p) (tS b z p) 0 0 FU (sL (sI w4 52 21 2) 52 23 0) (m4.k c5) (by omega) (by rw [gI_sL, gI_sI, if_neg (by omega)]; exact g420) (fun _ => ⟨by decide, by rw [gL_sL, if_pos ⟨rfl, rfl⟩]; rfl⟩) (by omega) (by show z - tS b z p < 2000; omega)
        have r6 : gI w6 52 20 = nI (nE b z (tS b z p)) := r6
        have hm : mk b z p = if nE b z (tS b z p) ≤ tS b z p + 4 then 2 else 4 := by rw [mk, if_pos hq, if_neg hl, if_pos hd]
        have r7 : gI w6 52 21 = mk b z p := by rw [r7, hm]; rfl
        refine ⟨w6, e6, ⟨r7, ?_, fun _ => ?_, fun y => ?_, fun y => ?_⟩, (c4.tr c5).tr (c6.mono (fun i k q => by unfold PK; omega))⟩
        · rw [c6.I (by omega), gI_sL, gI_sI, if_neg (by omega)]; exact g422
        · rw [r6, nx, if_pos hq, if_neg hl, if_pos hd]
        · rw [hm] at y
          by_cases h4 : nE b z (tS b z p) ≤ tS b z p + 4
          · rw [if_pos h4] at y; exact absurd y (by decide)
          · rw [if_neg h4] at y; exact absurd y (by decide)
        · rw [hm] at y
          by_cases h4 : nE b z (tS b z p) ≤ tS b z p + 4
          · rw [r8 h4, am, if_neg hl]
            rfl
          · rw [if_neg h4] at y; exact absurd y (by decide)
      · rw [if_neg hd, chain_ev]
        have hm : mk b z p = if sgT (b (tS b z p)) = 0 then 4 else 3 := by rw [mk, if_pos hq, if_neg hl, if_neg hd]
        by_cases hs : sgT (b (tS b z p)) = 0
        · rw [if_pos hs] at hm ⊢
          refine ⟨w4, rfl, ⟨by rw [g421, hm], g422, fun y => absurd hm y, fun y => ?_, fun y => ?_⟩, c4⟩
          · rw [hm] at y; exact absurd y (by decide)
          · rw [hm] at y; exact absurd y (by decide)
        · rw [if_neg hs] at hm ⊢
          unfold fX7_next_300
          rw [lw_e, lw_e, lw_e, gI_sL, gI_sI, if_neg (by omega), g420, nI_1]
          refine ⟨_, rfl, ⟨?_, ?_, fun _ => ?_, fun _ => ?_, fun y => ?_⟩, c4.tr (((ch_sI ⟨rfl, by omega, by omega⟩).tr ch_sL).tr (ch_sI ⟨rfl, by omega, by omega⟩))⟩
          · rw [gI_sI, if_neg (by omega), gI_sL, gI_sI, if_pos ⟨rfl, rfl⟩, hm]
          · rw [gI_sI, if_neg (by omega), gI_sL, gI_sI, if_neg (by omega)]; exact g422
          · rw [gI_sI, if_pos ⟨rfl, rfl⟩, nx, if_pos hq, if_neg hl, if_neg hd]
          · rw [gL_sI, gL_sL, if_pos ⟨rfl, rfl⟩]
          · rw [hm] at y; exact absurd y (by decide)
  · have m0 : ¬ (0 : Int32) ≤ -1 := by decide
    rw [if_neg hq] at by1 ⊢
    rw [if_neg (by decide), r1, by1, bnd_s, if_neg (by decide), lw_e, r1]
    have c2 : Ch PK w1 (sI w1 52 22 (nI (tS b z p))) := ch_sI ⟨rfl, by omega, by omega⟩
    have m2 := m1.k c2
    have g20 : gI (sI w1 52 22 (nI (tS b z p))) 52 20 = nI (tS b z p) := by rw [gI_sI, if_neg (by omega)]; exact r1
    have by2 := m2.byte (q := tS b z p) (by omega)
    rw [if_neg hq] at by2
    rw [g20, by2, bnd_s, lw_e, if_neg m0, lw_e, lw_e]
    have hm : mk b z p = 0 := by rw [mk, if_neg hq]
    have g19 : gI (sI (sI (sI w1 52 22 (nI (tS b z p))) 52 21 4) 52 21 0) 52 19 = nI z := by rw [gI_sI, if_neg (by omega), gI_sI, if_neg (by omega), gI_sI, if_neg (by omega)]; exact m1.2.2.2.2.1
    rw [g19]
    refine ⟨_, rfl, ⟨?_, ?_, fun _ => ?_, fun y => ?_, fun y => ?_⟩, c1.tr (c2.tr (((ch_sI ⟨rfl, by omega, by omega⟩).tr (ch_sI ⟨rfl, by omega, by omega⟩)).tr (ch_sI ⟨rfl, by omega, by omega⟩)))⟩
    · rw [gI_sI, if_neg (by omega), gI_sI, if_pos ⟨rfl, rfl⟩, hm]
    · rw [gI_sI, if_pos ⟨rfl, rfl⟩, show z = tS b z p by omega]
      congr 2
      omega
    · rw [gI_sI, if_neg (by omega), gI_sI, if_neg (by omega), gI_sI, if_neg (by omega), g20, nx, if_neg hq]
    · rw [hm] at y; exact absurd y (by decide)
    · rw [hm] at y; exact absurd y (by decide)
