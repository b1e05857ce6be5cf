/-! ===== Int32 by its bits: bt x i ===== -/
def bt (x : Int32) (i : Nat) : Bool := x.toBitVec.getLsbD i
theorem b_ext {x y : Int32} (h : ∀ i, i < 32 → bt x i = bt y i) : x = y := Int32.toBitVec_inj.mp (BitVec.eq_of_getLsbD_eq (fun i hi => h i hi))
theorem b_or (x y : Int32) (i : Nat) : bt (x ||| y) i = (bt x i || bt y i) := by unfold bt; rw [Int32.toBitVec_or, BitVec.getLsbD_or]
theorem b_and (x y : Int32) (i : Nat) : bt (x &&& y) i = (bt x i && bt y i) := by unfold bt; rw [Int32.toBitVec_and, BitVec.getLsbD_and]
theorem b_xor (x y : Int32) (i : Nat) : bt (x ^^^ y) i = (bt x i ^^ bt y i) := by unfold bt; rw [Int32.toBitVec_xor, BitVec.getLsbD_xor]
theorem b_big {x : Int32} {i : Nat} (h : 32 ≤ i) : bt x i = false := BitVec.getLsbD_of_ge _ _ h
theorem b_m1 : ∀ i, i < 32 → bt (-1) i = true := by decide +kernel
theorem b_0 (i : Nat) : bt 0 i = false := BitVec.getLsbD_zero
theorem s_l : ∀ n, n < 32 → ((nI n &&& 31).toBitVec.smod 32).toNat = n := by decide +kernel
theorem s_u : ∀ n, n < 32 → (((nI n).toUInt32 &&& Int32.toUInt32 31).toBitVec % 32).toNat = n := by decide +kernel
theorem b_shl (n : Nat) (hn : n < 32) (x : Int32) {i : Nat} (hi : i < 32) : bt (x <<< (nI n &&& 31)) i = (decide (n ≤ i) && bt x (i - n)) := by
  unfold bt
  rw [Int32.toBitVec_shiftLeft]
  show (x.toBitVec <<< ((nI n &&& 31).toBitVec.smod 32).toNat).getLsbD i = _
  rw [s_l n hn, BitVec.getLsbD_shiftLeft]
  rcases Nat.lt_or_ge i n with h | h
  · simp [h, Nat.not_le.mpr h]
  · simp [hi, h, Nat.not_lt.mpr h]
theorem b_sshr (n : Nat) (hn : n < 32) (x : Int32) {i : Nat} (hi : i < 32) : bt (x >>> (nI n &&& 31)) i = if n + i < 32 then bt x (n + i) else bt x 31 := by
  unfold bt
  rw [Int32.toBitVec_shiftRight]
  show (x.toBitVec.sshiftRight ((nI n &&& 31).toBitVec.smod 32).toNat).getLsbD i = _
  rw [s_l n hn, BitVec.getLsbD_sshiftRight, BitVec.msb_eq_getLsbD_last]
  simp [hi]
/-! weights -/
abbrev hasB (s : Int32) (t : Nat) : Prop := ((s >>> (nI t &&& 31)) &&& (1 : Int32)) = (1 : Int32)
theorem b_1 : ∀ i, i < 32 → bt 1 i = decide (i = 0) := by decide +kernel
theorem and1_bt (x : Int32) : (x &&& 1) = 1 ↔ bt x 0 = true := by
  constructor
  · intro h
    have h1 := b_and x 1 0
    rw [h, b_1 0 (by omega)] at h1
    simpa using h1
  · intro h
    refine b_ext (fun i hi => ?_)
    rw [b_and, b_1 i hi]
    by_cases h0 : i = 0
    · subst h0; simp [h]
    · simp [h0]
theorem hasB_bt {s : Int32} {t : Nat} (ht : t < 32) : hasB s t ↔ bt s t = true := by
  show ((s >>> (nI t &&& 31)) &&& (1 : Int32)) = (1 : Int32) ↔ _
  rw [and1_bt, b_sshr t ht s (by omega), if_pos (by omega), Nat.add_zero]
theorem has_ev {s : Int32} {t : Nat} {w : Wd} : fX6_has s (nI t) w = some (if hasB s t then 1 else 0, w) := by
  unfold fX6_has
  by_cases h : hasB s t
  · rw [if_pos h, if_pos h]
  · rw [if_neg h, if_neg h]
/-- how heavy the things of s are, together -/
def wS (h : Nat → Int32) (s : Int32) : Nat → Int32
  | 0 => 0
  | t + 1 => if hasB s t then wS h s t + h t else wS h s t
def uS (h : Nat → Int32) (ti tw : Int32) : Nat → Int32
  | 0 => 0
  | t + 1 => if hasB (ti &&& tw) t then uS h ti tw t else if hasB ti t then uS h ti tw t + h t else uS h ti tw t
theorem uS_eq (h : Nat → Int32) (ti tw : Int32) : ∀ n, n ≤ 32 → uS h ti tw n = wS h (ti &&& (tw ^^^ (-1))) n
  | 0, _ => rfl
  | n + 1, hn => by
    have ih := uS_eq h ti tw n (by omega)
    have h1 : hasB (ti &&& (tw ^^^ (-1))) n ↔ (hasB ti n ∧ ¬ hasB (ti &&& tw) n) := by
      rw [hasB_bt (by omega), hasB_bt (by omega), hasB_bt (by omega), b_and, b_and, b_xor, b_m1 n (by omega)]
      cases bt ti n <;> cases bt tw n <;> simp
    show (if hasB (ti &&& tw) n then uS h ti tw n else if hasB ti n then uS h ti tw n + h n else uS h ti tw n) = (if hasB (ti &&& (tw ^^^ (-1))) n then wS h (ti &&& (tw ^^^ (-1))) n + h n else wS h (ti &&& (tw ^^^ (-1))) n)
    rw [ih]
    by_cases a : hasB (ti &&& tw) n
    · rw [if_pos a, if_neg (fun z => (h1.mp z).2 a)]
    · rw [if_neg a]
      by_cases b : hasB ti n
      · rw [if_pos b, if_pos (h1.mpr ⟨b, a⟩)]
      · rw [if_neg b, if_neg (fun z => b (h1.mp z).1)]
theorem wS_congr {h g : Nat → Int32} (s : Int32) : ∀ n, (∀ t, t < n → h t = g t) → wS h s n = wS g s n
  | 0, _ => rfl
  | n + 1, hh => by
    show (if hasB s n then wS h s n + h n else wS h s n) = (if hasB s n then wS g s n + g n else wS g s n)
    rw [wS_congr s n (fun t ht => hh t (by omega)), hh n (by omega)]
/-- where a weighing writes -/
def PW (i k : Nat) : Prop := i = 50 ∧ (k = 2 ∨ k = 3)
theorem PW_PT (i k : Nat) (h : PW i k) : PT i k := by unfold PW at h; unfold PT; omega
theorem weigh_loop {a : Nat} (hk : kd a = 8 ∧ ln a = 8 ∧ a < 50) {h : Nat → Int32} {ti tw : Int32} : ∀ (n i fu : Nat) (w : Wd), i + n = 8 → n < fu → wn w = 66 → (∀ q, q < 8 → gI w a q = h q) → gI w 50 2 = wS h (ti &&& tw) i → gI w 50 3 = uS h ti tw i → ∃ w', fX4_weigh_13 50 fu ti tw (some a) (nI i) w = some ((), w') ∧ gI w' 50 2 = wS h (ti &&& tw) 8 ∧ gI w' 50 3 = uS h ti tw 8 ∧ Ch PW w w' := by
  intro n
  induction n with
  | zero =>
    intro i fu w hi hf hw hv h2 h3
    obtain ⟨fu, rfl⟩ : ∃ z, fu = z + 1 := ⟨fu - 1, by omega⟩
    have h1 : Int32.ofNat 8 ≤ nI i := nI_le (a := 8) (by omega) (by omega)
    rw [fX4_weigh_13]
    dsimp only
    rw [dr_at hw ⟨by omega, hk.1⟩, hk.2.1, if_pos h1]
    refine ⟨w, rfl, ?_, ?_, Ch.rf⟩
    · rw [h2, show i = 8 by omega]
    · rw [h3, show i = 8 by omega]
  | succ n ih =>
    intro i fu w hi hf hw hv h2 h3
    obtain ⟨fu, rfl⟩ : ∃ z, fu = z + 1 := ⟨fu - 1, by omega⟩
    have h1 : ¬ Int32.ofNat 8 ≤ nI i := nI_ge (b := 8) (by omega) (by omega)
    have nxt : ∀ w9 : Wd, Ch PW w w9 → gI w9 50 2 = wS h (ti &&& tw) (i + 1) → gI w9 50 3 = uS h ti tw (i + 1) → ∃ w', fX4_weigh_69 (fX4_weigh_13 50 fu) 50 ti tw (some a) (nI i) w9 = some ((), w') ∧ gI w' 50 2 = wS h (ti &&& tw) 8 ∧ gI w' 50 3 = uS h ti tw 8 ∧ Ch PW w w' := by
      intro w9 c9 a2 a3
      obtain ⟨w', e, b2, b3, c⟩ := ih (i + 1) fu w9 (by omega) (by omega) (c9.1.trans hw) (fun q hq => by rw [c9.I (by unfold PW; omega)]; exact hv q hq) a2 a3
      refine ⟨w', ?_, b2, b3, c9.tr c⟩
      unfold fX4_weigh_69
      rw [nI_1]
      exact e
    have eT : wS h (ti &&& tw) (i + 1) = if hasB (ti &&& tw) i then wS h (ti &&& tw) i + h i else wS h (ti &&& tw) i := rfl
    have eU : uS h ti tw (i + 1) = if hasB (ti &&& tw) i then uS h ti tw i else if hasB ti i then uS h ti tw i + h i else uS h ti tw i := rfl
    rw [fX4_weigh_13]
    dsimp only
    rw [dr_at hw ⟨by omega, hk.1⟩, hk.2.1, if_neg h1, has_ev, bnd_s]
    by_cases b1 : hasB (ti &&& tw) i
    · rw [if_pos b1] at eT eU
      rw [if_pos b1, if_neg (by decide), grd_t (vin_nI (by omega) (by omega)), lw_e, nI_clamp (by omega), hv i (by omega), h2]
      refine nxt _ (ch_sI ⟨rfl, Or.inl rfl⟩) ?_ ?_
      · rw [gI_sI, if_pos ⟨rfl, rfl⟩, eT]
      · rw [gI_sI, if_neg (by omega), h3, eU]
    · rw [if_neg b1] at eT eU
      rw [if_neg b1, if_pos rfl, has_ev, bnd_s]
      by_cases b2 : hasB ti i
      · rw [if_pos b2] at eU
        rw [if_pos b2, if_neg (by decide), grd_t (vin_nI (by omega) (by omega)), lw_e, nI_clamp (by omega), hv i (by omega), h3]
        refine nxt _ (ch_sI ⟨rfl, Or.inr rfl⟩) ?_ ?_
        · rw [gI_sI, if_neg (by omega), h2, eT]
        · rw [gI_sI, if_pos ⟨rfl, rfl⟩, eU]
      · rw [if_neg b2] at eU
        rw [if_neg b2, if_pos rfl]
        exact nxt w Ch.rf (by rw [h2, eT]) (by rw [h3, eU])
theorem weigh_ev {a : Nat} (hk : kd a = 8 ∧ ln a = 8 ∧ a < 50) {ti tw : Int32} {w : Wd} (hw : wn w = 66) : ∃ w', fX4_weigh 50 ti tw (some a) w = some ((), w') ∧ gI w' 50 2 = wS (gI w a) (ti &&& tw) 8 ∧ gI w' 50 3 = wS (gI w a) (ti &&& (tw ^^^ (-1))) 8 ∧ Ch PW w w' := by
  have c0 : Ch PW w (sI (sI w 50 2 0) 50 3 0) := (ch_sI (P := PW) (w := w) (v := 0) ⟨rfl, Or.inl rfl⟩).tr (ch_sI ⟨rfl, Or.inr rfl⟩)
  obtain ⟨w', e, b2, b3, c⟩ := weigh_loop hk (h := gI w a) (ti := ti) (tw := tw) 8 0 FU (sI (sI w 50 2 0) 50 3 0) (by omega) (by show 8 < 2000; omega) hw (fun q hq => c0.I (by unfold PW; omega)) (by rw [gI_sI, if_neg (by omega), gI_sI, if_pos ⟨rfl, rfl⟩]; rfl) (by rw [gI_sI, if_pos ⟨rfl, rfl⟩]; rfl)
  refine ⟨w', ?_, b2, ?_, c0.tr c⟩
  · unfold fX4_weigh
    rw [lw_e, lw_e]
    exact e
  · rw [b3, uS_eq _ _ _ 8 (by omega)]
/-- a walker in thought -/
def thW (kd nb tw uw st wo da : Int32) (k : Nat) : Int32 := if k = 0 then kd else if k = 1 then nb else if k = 2 then tw else if k = 3 then uw else if k = 4 then st else if k = 5 then wo else da
/-- walker i of the class in thought, by weights h, with told -/
def thC (w : Wd) (h : Nat → Int32) (i : Nat) (told : Int32) : Nat → Int32 := thW (gI w (18 + i) 0) (gI w (18 + i) 1) (wS h (gI w (18 + i) 2 &&& told) 8) (wS h (gI w (18 + i) 2 &&& (told ^^^ (-1))) 8) (gI w (18 + i) 4) (gI w (18 + i) 5) (gI w 0 4)
/-- what thinking needs: the rule and its text -/
def Ru (w : Wd) (rl : Nat) (ev : Ev) : Prop := St w ∧ rl < 6 ∧ gI w 0 7 = nI rl ∧ TEv w rl ev
theorem Ru.ch {P : Nat → Nat → Prop} {w w' : Wd} {rl : Nat} {ev : Ev} (h : Ru w rl ev) (hc : Ch P w w') (hP : ∀ i k, P i k → (i ≠ 0 ∧ ¬ (24 ≤ i ∧ i < 42))) : Ru w' rl ev := by
  obtain ⟨h1, h2, h3, h4⟩ := h
  exact ⟨hc.St h1, h2, by rw [hc.I (fun z => (hP _ _ z).1 rfl)]; exact h3, h4.ch hc (fun i k a b z => (hP i k z).2 ⟨a, b⟩) h2⟩
theorem start_th {w : Wd} {i rl : Nat} (hS : St w) (hi : i < 6) (r : Option Nat) (d : Int32) : ∃ w', fX4_startAs 50 (some (18 + i)) r d w = some ((), w') ∧ Ch PT w w' ∧ gR w' 50 7 = r ∧ gI w' 50 0 = gI w (18 + i) 0 ∧ gI w' 50 1 = gI w (18 + i) 1 ∧ gI w' 50 4 = gI w (18 + i) 4 ∧ gI w' 50 5 = gI w (18 + i) 5 ∧ gI w' 50 6 = d := by
  have h18 : ∀ k : Nat, ¬ (18 + i = 50 ∧ k = k) := fun k => by omega
  have hne : 18 + i ≠ 50 := by omega
  unfold fX4_startAs
  rw [dr_at hS.1 (kd_wk hi)]
  simp only [lw_e]
  refine ⟨_, rfl, ?_, ?_, ?_, ?_, ?_, ?_, ?_⟩
  · refine Ch.tr (Ch.tr (Ch.tr (Ch.tr (Ch.tr (ch_sI (Or.inl ⟨rfl, by omega⟩)) (ch_sI (Or.inl ⟨rfl, by omega⟩))) (ch_sI (Or.inl ⟨rfl, by omega⟩))) (ch_sI (Or.inl ⟨rfl, by omega⟩))) (ch_sI (Or.inl ⟨rfl, by omega⟩))) (ch_sR ⟨Or.inl ⟨rfl, by omega⟩, Or.inl ⟨rfl, rfl⟩⟩)
  · rw [gR_sR, if_pos ⟨rfl, rfl⟩]
  · simp [gI_sR, gI_sI]
  · simp [gI_sR, gI_sI, hne]
  · simp [gI_sR, gI_sI, hne]
  · simp [gI_sR, gI_sI, hne]
  · simp [gI_sR, gI_sI]
theorem think_of {w : Wd} {i rl : Nat} {ev : Ev} (h : Ru w rl ev) (hi : i < 6) {a : Nat} (hk : kd a = 8 ∧ ln a = 8 ∧ a < 50 ∧ a ≠ 0) {told : Int32} : ∃ w1 w', fX4_startAs 50 (some (18 + i)) (some (24 + 3 * rl)) (gI w 0 4) w = some ((), w1) ∧ St w1 ∧ gI w1 (18 + i) 2 = gI w (18 + i) 2 ∧ gI w1 (18 + i) 3 = gI w (18 + i) 3 ∧ fX4_weigh 50 (gI w (18 + i) 2) told (some a) w1 = some ((), w') ∧ Tc w' (thC w (gI w a) i told) rl ev ∧ Ch PT w w' := by
  obtain ⟨h1, h2, h3, h4⟩ := h
  obtain ⟨w1, e1, c1, r1, a0, a1, a4, a5, a6⟩ := start_th (rl := rl) h1 hi (some (24 + 3 * rl)) (gI w 0 4)
  have hS1 := c1.St h1
  obtain ⟨w2, e2, b2, b3, c2⟩ := weigh_ev ⟨hk.1, hk.2.1, hk.2.2.1⟩ (ti := gI w (18 + i) 2) (tw := told) hS1.1
  have c3 := c1.tr (c2.mono PW_PT)
  have hrow : ∀ q, gI w1 a q = gI w a q := fun q => c1.I (by unfold PT; omega)
  have hrow2 : gI w1 a = gI w a := funext hrow
  refine ⟨w1, w2, e1, hS1, c1.I (by unfold PT; omega), c1.I (by unfold PT; omega), e2, ⟨c3.St h1, h2, ?_, ?_, fun k hk => ?_⟩, c3⟩
  · rw [c2.R (fun z => by have := z.1; unfold PW at this; omega)]; exact r1
  · exact h4.ch c3 (fun i k _ _ => by unfold PT; omega) h2
  · rw [hrow2] at b2 b3
    match k, hk with
    | 0, _ => rw [c2.I (by unfold PW; omega), a0]; rfl
    | 1, _ => rw [c2.I (by unfold PW; omega), a1]; rfl
    | 2, _ => rw [b2]; rfl
    | 3, _ => rw [b3]; rfl
    | 4, _ => rw [c2.I (by unfold PW; omega), a4]; rfl
    | 5, _ => rw [c2.I (by unfold PW; omega), a5]; rfl
    | 6, _ => rw [c2.I (by unfold PW; omega), a6]; rfl
theorem thinkTold_ev {w : Wd} {i rl : Nat} {ev : Ev} (h : Ru w rl ev) (hi : i < 6) (told : Int32) : ∃ w', fX6_thinkTold 0 (some (18 + i)) told w = some ((), w') ∧ Tc w' (thC w (gI w 1) i told) rl ev ∧ Ch PT w w' := by
  obtain ⟨w1, w', e1, s1, x2, x3, e2, t, c⟩ := think_of h hi (a := 1) ⟨rfl, rfl, by omega, by omega⟩ (told := told)
  refine ⟨w', ?_, t, c⟩
  obtain ⟨h1, h2, h3, h4⟩ := h
  unfold fX6_thinkTold
  rw [dg_0_5 h1, h3, ln_4, grd_t (vin_nI h2 (by omega)), dg_0_9 h1, nI_clamp (by omega), st_tx h1 h2, e1, bnd_s, dr_at s1.1 (kd_wk hi), dg_0_9 s1, st_0_0 s1, x2, e2, bnd_s]
theorem thinkOth_ev {w : Wd} {i rl : Nat} {ev : Ev} (h : Ru w rl ev) (hi : i < 6) : ∃ w', fX6_thinkOtherwise 0 (some (18 + i)) w = some ((), w') ∧ Tc w' (thC w (gI w 2) i (gI w (18 + i) 3)) rl ev ∧ Ch PT w w' := by
  obtain ⟨w1, w', e1, s1, x2, x3, e2, t, c⟩ := think_of h hi (a := 2) ⟨rfl, rfl, by omega, by omega⟩ (told := gI w (18 + i) 3)
  refine ⟨w', ?_, t, c⟩
  obtain ⟨h1, h2, h3, h4⟩ := h
  unfold fX6_thinkOtherwise
  rw [dg_0_5 h1, h3, ln_4, grd_t (vin_nI h2 (by omega)), dg_0_9 h1, nI_clamp (by omega), st_tx h1 h2, e1, bnd_s, dr_at s1.1 (kd_wk hi), dg_0_9 s1, st_0_1 s1, x2, x3, e2, bnd_s]
theorem think_ev {w : Wd} {i rl : Nat} {ev : Ev} (h : Ru w rl ev) (hi : i < 6) : ∃ w', fX6_think 0 (some (18 + i)) w = some ((), w') ∧ Tc w' (thC w (gI w 1) i (gI w (18 + i) 3)) rl ev ∧ Ch PT w w' := by
  obtain ⟨w', e, t, c⟩ := thinkTold_ev h hi (gI w (18 + i) 3)
  refine ⟨w', ?_, t, c⟩
  unfold fX6_think
  rw [dr_at h.1.1 (kd_wk hi), e, bnd_s]
