/-! the model lays the tape down as a text -/
theorem lay_loop {tc tp : Nat} (htc : tc < 6) (htp : tp ≤ 160) : ∀ (n i fu : Nat) (w : Wd), St w → gI w 52 3 = nI tc → gI w 52 6 = nI tp → i + n = tp → n < fu → ∃ w1 fu1, fX7_text_14 52 fu (nI i) w = fX7_text_14 52 (fu1 + 1) (nI tp) w1 ∧ Ch (fun a k => a = 53 ∧ 160 * tc + i ≤ k ∧ k < 160 * tc + 160) w w1 ∧ ∀ k, i ≤ k → k < tp → gI w1 53 (160 * tc + k) = gI w 55 k := by
  intro n
  induction n with
  | zero =>
    intro i fu w hS h3 h6 hi hf
    obtain ⟨fu, rfl⟩ : ∃ z, fu = z + 1 := ⟨fu - 1, by omega⟩
    exact ⟨w, fu, by rw [show i = tp by omega], Ch.rf, fun k a b => by omega⟩
  | succ n ih =>
    intro i fu w hS h3 h6 hi hf
    obtain ⟨fu, rfl⟩ : ∃ z, fu = z + 1 := ⟨fu - 1, by omega⟩
    have h1 : ¬ nI tp ≤ nI i := nI_ge (by omega) (by omega)
    have m1 : (160 : Int32) * nI tc = nI (160 * tc) := pk_mul 160 tc
    have ci : (nI i).toNatClampNeg = i := nI_clamp (by omega)
    have cj : (nI (160 * tc + i)).toNatClampNeg = 160 * tc + i := nI_clamp (by omega)
    have c1 : Ch (fun a k => a = 53 ∧ 160 * tc + i ≤ k ∧ k < 160 * tc + 160) w (sI w 53 (160 * tc + i) (gI w 55 i)) := ch_sI ⟨rfl, by omega, by omega⟩
    obtain ⟨w1, fu1, e, c, r⟩ := ih (i + 1) fu (sI w 53 (160 * tc + i) (gI w 55 i)) (St_sI hS) (by rw [gI_sI, if_neg (by omega)]; exact h3) (by rw [gI_sI, if_neg (by omega)]; exact h6) (by omega) (by omega)
    refine ⟨w1, fu1, ?_, c1.tr (c.mono (fun a k z => by omega)), fun k a b => ?_⟩
    · rw [← e, fX7_text_14]
      dsimp only
      rw [h6, if_neg h1, dg_52_5 hS, grd_t (by rw [ln_55]; exact vin_nI (by omega) (by omega)), dg_52_1 hS, h3, m1, nI_add, grd_t (by rw [ln_53]; exact vin_nI (by omega) (by omega)), lw_e, nI_1]
      simp only [ci, cj]
    · by_cases hk : k = i
      · rw [hk, c.I (by omega), gI_sI, if_pos ⟨rfl, rfl⟩]
      · rw [r k (by omega) b, gI_sI, if_neg (by omega)]
