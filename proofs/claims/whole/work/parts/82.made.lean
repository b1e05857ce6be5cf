/-! the relation holds at first -/
theorem pText_run {b : Nat → Int32} {z : Nat} {c0 c1 c2 : List Int32} {ev : Ev} (h : pText b z = .inr (c0, c1, c2, ev)) : ∀ p, p < 3 → ∀ env, runC env (cof p c0 c1 c2) [] = [ev p env] := by
  unfold pText at h
  have G1 := gd_part (b := b) (z := z) (p := 0) (t := nI 4) (Nat.zero_le _) (ne1 (by omega))
  match h1 : pPart b z (nI 4) 0, h with
  | .inl f, h => exact absurd h (by simp [bX])
  | .inr (a0, s0, p0), h =>
    obtain ⟨x1, x2, x3, x4⟩ := G1 a0 s0 p0 h1
    have G2 := gd_part (b := b) (z := z) (p := p0) (t := nI 5) x3 (ne1 (by omega))
    match h2 : pPart b z (nI 5) p0, h with
    | .inl f, h =>
      have h : bX (pPart b z (nI 5) p0) _ = _ := h
      rw [h2] at h
      exact absurd h (by simp [bX])
    | .inr (a1, s1, p1), h =>
      obtain ⟨y1, y2, y3, y4⟩ := G2 a1 s1 p1 h2
      have G3 := gd_part (b := b) (z := z) (p := p1) (t := nI 6) y3 (ne1 (by omega))
      have h : bX (pPart b z (nI 5) p0) _ = _ := h
      rw [h2] at h
      match h3 : pPart b z (nI 6) p1, h with
      | .inl f, h =>
        have h : bX (pPart b z (nI 6) p1) _ = _ := h
        rw [h3] at h
        exact absurd h (by simp [bX])
      | .inr (a2, s2, p2), h =>
        obtain ⟨v1, v2, v3, v4⟩ := G3 a2 s2 p2 h3
        have h : bX (pPart b z (nI 6) p1) _ = _ := h
        rw [h3] at h
        have h : (if tk b z p2 = 1 then .inr (a0, a1, a2, ev3 s0 s1 s2) else .inl (tS b z p2) : Nat ⊕ (List Int32 × List Int32 × List Int32 × Ev)) = .inr (c0, c1, c2, ev) := h
        by_cases ht : tk b z p2 = 1
        · rw [if_pos ht] at h
          have h := Sum.inr.inj h
          have e0 : a0 = c0 := congrArg (fun q => q.1) h
          have e1 : a1 = c1 := congrArg (fun q => q.2.1) h
          have e2 : a2 = c2 := congrArg (fun q => q.2.2.1) h
          have e3 : ev3 s0 s1 s2 = ev := congrArg (fun q => q.2.2.2) h
          subst e0 e1 e2 e3
          intro p hp env
          match p, hp with
          | 0, _ => exact x4 env [] (by simp)
          | 1, _ => exact y4 env [] (by simp)
          | 2, _ => exact v4 env [] (by simp)
        · rw [if_neg ht] at h
          exact absurd h (by simp)
theorem codes_of {x : Nat ⊕ (List Int32 × List Int32 × List Int32 × Ev)} {c0 c1 c2 : List Int32} (h : codes x = some (c0, c1, c2)) : ∃ ev, x = .inr (c0, c1, c2, ev) := by
  match x, h with
  | .inl _, h => exact absurd h (by simp [codes])
  | .inr (a, b, c, ev), h =>
    have h := Option.some.inj h
    have e0 : a = c0 := congrArg (fun q => q.1) h
    have e1 : b = c1 := congrArg (fun q => q.2.1) h
    have e2 : c = c2 := congrArg (fun q => q.2.2) h
    subst e0 e1 e2
    exact ⟨ev, rfl⟩
/-- what is known of the world that the makers leave -/
def Made (w : Wd) : Prop := wn w = 66 ∧ refB w = true ∧ intB w ∧ (∀ k, k < 8 → gI w 1 k = 10 ∧ gI w 56 k = 10) ∧ (∀ s, s < 4 → gI w (42 + 2 * s) 1 = -1 ∧ gI w 62 s = 0) ∧ txB w ∧ (∀ q, q < 11 → gI w 25 q = (cX0 ++ (cX1 ++ cX2)).getD q 0) ∧ (∀ k, k < 64 → 0 ≤ gI w 53 k) ∧ codes (pText (gI w 53) 64) = some (cX0, cX1, cX2)
theorem made : ∃ w1 w2, fX6_init 0 (al w0) = some ((), w1) ∧ wn w1 = 52 ∧ fX7_init 52 (al w1) = some ((), w2) ∧ Made w2 := ⟨w1X, w2X, some_of x6_some, x6_wn, some_of x7_some, x7_wn, x_refs, x_ints, x_hv, x_sh, x_tx, x_txs, x_pos, x_codes⟩
theorem refs_of {w : Wd} (h : refB w = true) {i k : Nat} (hi : i < 66) (hk : k < 46) (h1 : ¬ (i = 50 ∧ k = 7)) (h2 : ¬ (i = 5 ∧ k = 8)) : gR w i k = Rs i k := by
  unfold refB at h
  have a := List.all_eq_true.mp h i (List.mem_range.mpr hi)
  have b := List.all_eq_true.mp a k (List.mem_range.mpr hk)
  rcases of_decide_eq_true b with c | c | c
  · exact absurd c h1
  · exact absurd c h2
  · exact c
theorem made_jj {w : Wd} (h : Made w) : JJ w := by
  obtain ⟨h0, h1, ⟨i1, i2, i3, i4, i5, i6, i7, i8, i9, i10, i11, i12⟩, h3, h4, ⟨t1, t2, t3, t4, t5⟩, h6, h7, h8⟩ := h
  have hS : St w := ⟨h0, fun i k hi hk a b => refs_of h1 hi hk a b⟩
  obtain ⟨ev, hp⟩ := codes_of h8
  have run := pText_run hp
  have hT : TEv w 0 ev := by
    refine ⟨cX0, cX1, cX2, ⟨by decide, ?_, ?_, ?_, fun q hq => ?_⟩, run, Or.inl t4, fun _ => by decide⟩
    · exact t1.trans (by decide)
    · exact t2.trans (by decide)
    · exact t3.trans (by decide)
    · exact h6 q hq
  have hM : MEv w 0 ev := mev_of (z := 64) (b := gI w 53) (by omega) (by omega) h7 (t5.trans (by decide)) (fun k hk => by rw [Nat.mul_zero, Nat.zero_add]) hp
  refine ⟨0, 1, 0, 0, hS, ⟨by omega, i1, i2⟩, ⟨by omega, i3, i4⟩, ⟨by omega, i5, i6⟩, ⟨i7.trans i8.symm, 0, by omega, i7⟩, fun k hk => ?_, fun i hi => by omega, ⟨by omega, i9, i10, fun k hk => by omega⟩, fun t ht => ?_, fun s hs => Or.inl (h4 s hs), Or.inl ⟨i11, i12⟩⟩
  · obtain ⟨a, b⟩ := h3 k hk
    exact ⟨a.trans b.symm, 10, by omega, a⟩
  · have : t = 0 := by omega
    subst this
    exact ⟨ev, hT, hM⟩
theorem JJ_init : InitOk JJ := by
  obtain ⟨w1, w2, a, b, c, d⟩ := made
  exact ⟨w1, w2, a, b, c, d.1, made_jj d⟩
theorem JJ_agree : AllAgree JJ := ⟨set_agree, walker_agree, told_agree, feed_agree, text_agree, force_agree, day_agree, run_agree, mend_agree, far_agree, least_agree, heaviest_agree, away_agree, keeper_agree, spare_agree, tells_agree, film_agree, drawn_agree, chance_agree, image_agree, back_agree, count_agree, sheet_agree, cell_agree, copy_agree, walkers_agree, taken_agree⟩
