/-! walkers in thought by other weights, otherwise told -/
theorem Ch.outB {P Q : Nat → Nat → Prop} {w w' : Wd} (h : Ch (fun i k => P i k ∨ Q i k) w w') (e : ∀ i k, Q i k → gI w' i k = gI w i k) (hd : ∀ i k, Q i k → i ≠ 50 ∧ i ≠ 5) : Ch P w w' := by
  refine ⟨h.1, fun i k hn => ?_, fun i k hn => h.R (fun z => hn ⟨?_, z.2⟩)⟩
  · exact Classical.byCases (fun (hk : Q i k) => e i k hk) (fun hk => h.I (fun z => z.elim hn hk))
  · refine z.1.elim id (fun q => ?_)
    have := z.2
    have := hd i k q
    unfold Dy at *
    omega
/-- walker p in thought, by weights H, with told -/
def thY (w : Wd) (H : Nat → Int32) (p : Nat) (told : Int32) : Nat → Int32 := thW (gI w 57 p) (gI w 58 (5 * p)) (wS H (gI w 58 (5 * p + 1) &&& told) 8) (wS H (gI w 58 (5 * p + 1) &&& (told ^^^ (-1))) 8) (gI w 58 (5 * p + 3)) (gI w 58 (5 * p + 4)) (gI w 52 7)
theorem thM_self {w : Wd} {p : Nat} : thM w p = thY w (gI w 56) p (gI w 58 (5 * p + 2)) := rfl
theorem thM_thY {w w' : Wd} {H : Nat → Int32} {p : Nat} {told : Int32} (e56 : ∀ t, t < 8 → gI w' 56 t = H t) (e2 : gI w' 58 (5 * p + 2) = told) (e58 : ∀ q, q < 5 → q ≠ 2 → gI w' 58 (5 * p + q) = gI w 58 (5 * p + q)) (e57 : gI w' 57 p = gI w 57 p) (e7 : gI w' 52 7 = gI w 52 7) : thM w' p = thY w H p told := by
  have e0 := e58 0 (by omega) (by omega)
  rw [Nat.add_zero] at e0
  unfold thM thY
  rw [e2, e57, e7, e0, e58 1 (by omega) (by omega), e58 3 (by omega) (by omega), e58 4 (by omega) (by omega), wS_congr _ 8 e56, wS_congr (gI w 58 (5 * p + 1) &&& (told ^^^ (-1))) 8 e56]
theorem thY_ch {P : Nat → Nat → Prop} {w w' : Wd} (hc : Ch P w w') (hP : ∀ i k, P i k → i ≠ 57 ∧ i ≠ 58 ∧ ¬ (i = 52 ∧ k = 7)) (H : Nat → Int32) (p : Nat) (told : Int32) : thY w' H p told = thY w H p told := by
  have e57 : ∀ k, gI w' 57 k = gI w 57 k := fun k => hc.I (fun z => (hP _ _ z).1 rfl)
  have e58 : ∀ k, gI w' 58 k = gI w 58 k := fun k => hc.I (fun z => (hP _ _ z).2.1 rfl)
  have e7 : gI w' 52 7 = gI w 52 7 := hc.I (fun z => (hP _ _ z).2.2 ⟨rfl, rfl⟩)
  unfold thY
  rw [e57, e58, e58, e58, e58, e7]
theorem Jn.thy {w : Wd} {m tc rl tp i : Nat} (h : Jn w m tc rl tp) (hi : i < m) {g H : Nat → Int32} (hg : ∀ t, t < 8 → g t = H t) (told : Int32) : thC w g i told = thY w H i told ∧ RT (thY w H i told) := by
  have hd := h.dy
  obtain ⟨a0, a1, a2, a3, a4, a5, r0, r1, r2, r3, r4, r5⟩ := h.wk i hi
  constructor
  · unfold thC thY
    rw [a0, a1, a2, a4, a5, hd.1, wS_congr _ 8 hg, wS_congr (gI w 58 (5 * i + 1) &&& (told ^^^ -1)) 8 hg]
  · obtain ⟨v1, l1, e1⟩ := r1
    obtain ⟨v4, l4, e4⟩ := r4
    obtain ⟨v5, l5, e5⟩ := r5
    exact ⟨v1, v4, v5, l1, l4, l5, a1.symm.trans e1, a4.symm.trans e4, a5.symm.trans e5⟩
theorem Jn.told {w : Wd} {m tc rl tp i : Nat} (h : Jn w m tc rl tp) (hi : i < m) : gI w (18 + i) 3 = gI w 58 (5 * i + 2) := (h.wk i hi).2.2.2.1
theorem Jn.ties {w : Wd} {m tc rl tp i : Nat} (h : Jn w m tc rl tp) (hi : i < m) : gI w (18 + i) 2 = gI w 58 (5 * i + 1) := (h.wk i hi).2.2.1
/-! who gets away first -/
def awS (g : Nat → Int32) : Nat → Nat → Int32 → Int32 → Int32 × Int32
  | 0, _, b, d => (b, d)
  | n + 1, i, b, d => if g i = -1 then awS g n (i + 1) b d else if b = -1 then awS g n (i + 1) (nI i) (g i) else if d ≤ g i then awS g n (i + 1) b d else awS g n (i + 1) (nI i) (g i)
def prt (x2 : Int32) (r : Int32 × Int32) : Int32 := if x2 = 0 then r.1 else r.2
theorem awC_loop {rl M : Nat} {ev : Ev} {k x2 : Int32} (hM : M ≤ 6) {T : Nat → Nat → Int32} : ∀ (n i fu : Nat) (w : Wd) (b d : Int32), Ru w rl ev → gI w 0 3 = nI M → (∀ j, i ≤ j → j < M → thC w (gI w 1) j (gI w (18 + j) 3) = T j) → i + n = M → n < fu → ∃ w', fX6_away_31 0 fu k x2 b d (nI i) w = some (prt x2 (awS (fun j => dtS ev k 41 0 (T j)) n i b d), w') ∧ Ch PT w w' := by
  intro n
  induction n with
  | zero =>
    intro i fu w b d h h3 hT hi hf
    obtain ⟨fu, rfl⟩ : ∃ z, fu = z + 1 := ⟨fu - 1, by omega⟩
    have h1 : nI M ≤ nI i := nI_le (by omega) (by omega)
    refine ⟨w, ?_, Ch.rf⟩
    rw [fX6_away_31]
    dsimp only
    rw [h3, if_pos h1]
    unfold prt awS
    by_cases hx : x2 = 0
    · rw [if_pos hx, if_pos hx]
    · rw [if_neg hx, if_neg hx]
  | succ n ih =>
    intro i fu w b d h h3 hT hi hf
    obtain ⟨fu, rfl⟩ : ∃ z, fu = z + 1 := ⟨fu - 1, by omega⟩
    have h1 : ¬ nI M ≤ nI i := nI_ge (by omega) (by omega)
    have ci : (nI i).toNatClampNeg = i := nI_clamp (by omega)
    have hS := h.1
    obtain ⟨w1, f1, tc1, c1⟩ := think_ev h (i := i) (by omega)
    rw [hT i (by omega) (by omega)] at tc1
    obtain ⟨w2, f2, c2⟩ := dt_ev (k := k) tc1
    have c12 : Ch PT w w2 := c1.tr (c2.mono PD_PT)
    have nxt : ∀ b2 d2 : Int32, ∃ w', fX6_away_31 0 fu k x2 b2 d2 (nI (i + 1)) w2 = some (prt x2 (awS (fun j => dtS ev k 41 0 (T j)) n (i + 1) b2 d2), w') ∧ Ch PT w w' := by
      intro b2 d2
      obtain ⟨w5, e5, c5⟩ := ih (i + 1) fu w2 b2 d2 (h.ch c12 (fun a b z => by unfold PT at z; omega)) (by rw [c12.I (by unfold PT; omega)]; exact h3) (fun j hj hjM => by rw [thC_ch c12 (fun a b z => by unfold PT at z; omega) (by omega)]; exact hT j (by omega) hjM) (by omega) (by omega)
      exact ⟨w5, e5, c12.tr c5⟩
    rw [fX6_away_31]
    dsimp only
    rw [h3, if_neg h1, dg_0_2 hS, grd_t (by rw [ln_3]; exact vin_nI (by omega) (by omega)), st_wkc hS (by omega), f1, bnd_s, dg_0_9 tc1.1, f2, bnd_s]
    unfold fX6_away_79 fX6_away_86
    rw [nI_1, awS]
    by_cases q1 : dtS ev k 41 0 (T i) = -1
    · rw [if_pos q1, if_pos q1]; exact nxt _ _
    · rw [if_neg q1, if_neg q1]
      by_cases q2 : b = -1
      · rw [if_pos q2, if_pos q2]; exact nxt _ _
      · rw [if_neg q2, if_neg q2]
        by_cases q3 : d ≤ dtS ev k 41 0 (T i)
        · rw [if_pos q3, if_pos q3]; exact nxt _ _
        · rw [if_neg q3, if_neg q3]; exact nxt _ _
theorem awM_loop {rl M : Nat} {ev : Ev} {k x2 : Int32} (hM : M ≤ 6) {T : Nat → Nat → Int32} : ∀ (n i fu : Nat) (w : Wd) (b d : Int32), Rm w rl ev → gI w 52 11 = nI M → (∀ j, i ≤ j → j < M → thM w j = T j ∧ RT (T j)) → gI w 52 34 = b → gI w 52 35 = d → i + n = M → n < fu → ∃ w', fX7_away_37 52 fu k x2 (nI i) w = some (prt x2 (awS (fun j => dtS ev k 41 0 (T j)) n i b d), w') ∧ Ch PM w w' := by
  intro n
  induction n with
  | zero =>
    intro i fu w b d h h3 hT hb hd hi hf
    obtain ⟨fu, rfl⟩ : ∃ z, fu = z + 1 := ⟨fu - 1, by omega⟩
    have h1 : nI M ≤ nI i := nI_le (by omega) (by omega)
    refine ⟨w, ?_, Ch.rf⟩
    rw [fX7_away_37]
    dsimp only
    rw [h3, if_pos h1, hb, hd]
    unfold prt awS
    by_cases hx : x2 = 0
    · rw [if_pos hx, if_pos hx]
    · rw [if_neg hx, if_neg hx]
  | succ n ih =>
    intro i fu w b d h h3 hT hb hd hi hf
    obtain ⟨fu, rfl⟩ : ∃ z, fu = z + 1 := ⟨fu - 1, by omega⟩
    have h1 : ¬ nI M ≤ nI i := nI_ge (by omega) (by omega)
    obtain ⟨hTi, hR⟩ := hT i (by omega) (by omega)
    obtain ⟨w2, f2, c2⟩ := mdt_ev (k := k) h (p := i) (by omega) (by rw [hTi]; exact hR)
    rw [hTi] at f2
    have q1 : ∀ i k, PM i k → i ≠ 56 ∧ i ≠ 57 ∧ i ≠ 58 ∧ ¬ (i = 52 ∧ k = 7) := fun i k z => by unfold PM at z; omega
    have c2m := c2.mono PG_PM
    have nxt : ∀ (w3 : Wd) (b2 d2 : Int32), Ch PM w w3 → gI w3 52 34 = b2 → gI w3 52 35 = d2 → ∃ w', fX7_away_37 52 fu k x2 (nI (i + 1)) w3 = some (prt x2 (awS (fun j => dtS ev k 41 0 (T j)) n (i + 1) b2 d2), w') ∧ Ch PM w w' := by
      intro w3 b2 d2 c3 y1 y2
      obtain ⟨w5, e5, c5⟩ := ih (i + 1) fu w3 b2 d2 (h.ch c3 (fun a b z => by unfold PM at z; omega)) (by rw [c3.I (by unfold PM; omega)]; exact h3) (fun j hj hjM => by rw [thM_ch c3 q1]; exact hT j (by omega) hjM) y1 y2 (by omega) (by omega)
      exact ⟨w5, e5, c3.tr c5⟩
    have g34 : gI w2 52 34 = b := by rw [c2.I (by unfold PG; omega)]; exact hb
    have g35 : gI w2 52 35 = d := by rw [c2.I (by unfold PG; omega)]; exact hd
    have cs : Ch PM w (sI (sI w2 52 34 (nI i)) 52 35 (dtS ev k 41 0 (T i))) := c2m.tr ((ch_sI ⟨rfl, by omega, by omega⟩).tr (ch_sI ⟨rfl, by omega, by omega⟩))
    rw [fX7_away_37]
    dsimp only
    rw [h3, if_neg h1, f2, bnd_s]
    unfold fX7_away_76 fX7_away_87
    rw [nI_1, awS, g34, g35]
    by_cases q1 : dtS ev k 41 0 (T i) = -1
    · rw [if_pos q1, if_pos q1]; exact nxt _ _ _ c2m g34 g35
    · rw [if_neg q1, if_neg q1]
      by_cases q2 : b = -1
      · rw [if_pos q2, if_pos q2, lw_e, lw_e]; exact nxt _ _ _ cs (by rw [gI_sI, if_neg (by omega), gI_sI, if_pos ⟨rfl, rfl⟩]) (by rw [gI_sI, if_pos ⟨rfl, rfl⟩])
      · rw [if_neg q2, if_neg q2]
        by_cases q3 : d ≤ dtS ev k 41 0 (T i)
        · rw [if_pos q3, if_pos q3]; exact nxt _ _ _ c2m g34 g35
        · rw [if_neg q3, if_neg q3, lw_e, lw_e]; exact nxt _ _ _ cs (by rw [gI_sI, if_neg (by omega), gI_sI, if_pos ⟨rfl, rfl⟩]) (by rw [gI_sI, if_pos ⟨rfl, rfl⟩])
theorem away_agree (a0 a1 : Int32) : Agree JJ (fX6_away 0 a0 a1) (fX7_away 52 a0 a1) := by
  rintro w ⟨m, tc, rl, tp, h⟩
  have e9 : (999 : Int32).toInt64 = (999 : Int64) := by decide
  have e1 : (1 : Int32).toInt64 = (1 : Int64) := by decide
  have J : JJ w := ⟨m, tc, rl, tp, h⟩
  have m6 := h.m6
  by_cases hd : 0 ≤ a0 ∧ a0 ≤ (999 : Int32)
  · by_cases hs : 0 ≤ a1 ∧ a1 ≤ (1 : Int32)
    · obtain ⟨ev, r1, r2⟩ := h.ru
      obtain ⟨w1, f1, c1⟩ := awC_loop (k := a0) (x2 := a1) m6 (T := thM w) m 0 FU w (-1) (-1) r1 h.c3 (fun j _ hj => (h.th hj).1) (by omega) (show m < 2000 by omega)
      have c1 := c1.mono PT_SC
      have h1 := h.ch c1
      have c2 : Ch PM w1 (sI (sI w1 52 34 (-1)) 52 35 (-1)) := (ch_sI ⟨rfl, by omega, by omega⟩).tr (ch_sI ⟨rfl, by omega, by omega⟩)
      have h2 := h1.ch (c2.mono PM_SC)
      have c12 := c1.tr (c2.mono PM_SC)
      obtain ⟨w3, f3, c3⟩ := awM_loop (k := a0) (x2 := a1) m6 (T := thM w) m 0 FU (sI (sI w1 52 34 (-1)) 52 35 (-1)) (-1) (-1) (r2.ch c12 (fun i k z => by unfold SC at z; omega)) h2.c11 (fun j _ hj => ⟨thM_ch c12 (fun i k z => by unfold SC at z; omega) j, (h.th hj).2⟩) (by rw [gI_sI, if_neg (by omega), gI_sI, if_pos ⟨rfl, rfl⟩]) (by rw [gI_sI, if_pos ⟨rfl, rfl⟩]) (by omega) (show m < 2000 by omega)
      refine ⟨prt a1 (awS (fun j => dtS ev a0 41 0 (thM w j)) m 0 (-1) (-1)), w1, w3, ?_, ?_, m, tc, rl, tp, h2.ch (c3.mono PM_SC)⟩
      · unfold fX6_away
        rw [wn_ev, bnd_s, w01, if_pos hd, wn_ev, bnd_s, w01, if_pos hs]
        exact f1
      · unfold fX7_away
        rw [in0l e9, bnd_s, w01, if_pos hd, in0l e1, bnd_s, w01, if_pos hs, lw_e, lw_e]
        exact f3
    · refine ⟨-2, w, w, ?_, ?_, J⟩
      · unfold fX6_away
        rw [wn_ev, bnd_s, w01, if_pos hd, wn_ev, bnd_s, w01, if_neg hs]
      · unfold fX7_away
        rw [in0l e9, bnd_s, w01, if_pos hd, in0l e1, bnd_s, w01, if_neg hs]
  · refine ⟨-2, w, w, ?_, ?_, J⟩
    · unfold fX6_away
      rw [wn_ev, bnd_s, w01, if_neg hd]
    · unfold fX7_away
      rw [in0l e9, bnd_s, w01, if_neg hd]
