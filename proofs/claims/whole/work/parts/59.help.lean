/-! what the calls ask, one side at a time -/
theorem b6 {i : Nat} (h : i ≤ 6) : 0 ≤ nI i ∧ nI i ≤ (6 : Int32) := (in0n (n := 6) (by omega)).mpr ⟨i, h, rfl⟩
theorem b7 {i : Nat} (h : i ≤ 7) : 0 ≤ nI i ∧ nI i ≤ (7 : Int32) := (in0n (n := 7) (by omega)).mpr ⟨i, h, rfl⟩
theorem b13 {i : Nat} (h : i ≤ 13) : 0 ≤ nI i ∧ nI i ≤ (13 : Int32) := (in0n (n := 13) (by omega)).mpr ⟨i, h, rfl⟩
theorem Jn.S {w : Wd} {m tc rl tp : Nat} (h : Jn w m tc rl tp) : St w := h.1
theorem Jn.m6 {w : Wd} {m tc rl tp : Nat} (h : Jn w m tc rl tp) : m ≤ 6 := h.2.1.1
theorem Jn.c3 {w : Wd} {m tc rl tp : Nat} (h : Jn w m tc rl tp) : gI w 0 3 = nI m := h.2.1.2.1
theorem Jn.c11 {w : Wd} {m tc rl tp : Nat} (h : Jn w m tc rl tp) : gI w 52 11 = nI m := h.2.1.2.2
theorem Jn.dy {w : Wd} {m tc rl tp : Nat} (h : Jn w m tc rl tp) : gI w 0 4 = gI w 52 7 ∧ Ra (gI w 0 4) 999 := h.2.2.2.2.1
theorem Jn.hv {w : Wd} {m tc rl tp : Nat} (h : Jn w m tc rl tp) : ∀ k, k < 8 → gI w 1 k = gI w 56 k ∧ Ra (gI w 1 k) 99 := h.2.2.2.2.2.1
theorem Jn.wk {w : Wd} {m tc rl tp : Nat} (h : Jn w m tc rl tp) : ∀ i, i < m → Wk w 18 58 5 i := h.2.2.2.2.2.2.1
theorem Jn.shs {w : Wd} {m tc rl tp : Nat} (h : Jn w m tc rl tp) : ∀ s, s < 4 → Sh w s := h.2.2.2.2.2.2.2.2.2.1
theorem Ch.out {P : Nat → Nat → Prop} {w w' : Wd} {a b : Nat} (h : Ch (fun i k => P i k ∨ (i = a ∧ k = b)) w w') (e : gI w' a b = gI w a b) (hd : ¬ Dy a b) : Ch P w w' := by
  refine ⟨h.1, fun i k hn => ?_, fun i k hn => h.R (fun z => hn ⟨?_, z.2⟩)⟩
  · by_cases hk : i = a ∧ k = b
    · rw [hk.1, hk.2]; exact e
    · exact h.I (fun z => z.elim hn hk)
  · refine z.1.elim id (fun q => ?_)
    have := z.2
    rw [q.1, q.2] at this
    exact absurd this hd
theorem Ch.outA {P : Nat → Nat → Prop} {w w' : Wd} {a : Nat} (h : Ch (fun i k => P i k ∨ i = a) w w') (e : ∀ k, gI w' a k = gI w a k) (hd : a ≠ 50 ∧ a ≠ 5) : Ch P w w' := by
  refine ⟨h.1, fun i k hn => ?_, fun i k hn => h.R (fun z => hn ⟨?_, z.2⟩)⟩
  · by_cases hk : i = a
    · rw [hk]; exact e k
    · exact h.I (fun z => z.elim hn hk)
  · refine z.1.elim id (fun q => ?_)
    have := z.2
    unfold Dy at this
    omega
theorem atC {w : Wd} {m i : Nat} (hS : St w) (h3 : gI w 0 3 = nI m) (m6 : m ≤ 6) (hi : i < m) : fX6_walkerAt 0 (nI i) w = some (some (18 + i), w) := by
  have ci : (nI i).toNatClampNeg = i := nI_clamp (by omega)
  unfold fX6_walkerAt
  rw [if_neg (nI_pos (by omega)), h3, if_neg (nI_ge hi (by omega)), dg_0_2 hS, grd_t (by rw [ln_3]; exact vin_nI (by omega) (by omega)), ci, st_wk hS (by omega)]
theorem atM {w : Wd} {m i : Nat} (h11 : gI w 52 11 = nI m) (m6 : m ≤ 6) (hi : i < m) : fX7_isOne 52 (nI i) w = some (1, w) := by
  have e0 : (0 : Int32).toInt64 = (0 : Int64) := by decide
  unfold fX7_isOne
  rw [h11, ← e0, in32, bnd_s, if_pos ((in0 (by omega)).mpr ⟨i, hi, rfl⟩), grd_t (Or.inr rfl)]
/-- what set and told name: k is what, i of whom -/
def Nm (m k i : Nat) (x : Int32) : Prop := k = 0 ∨ (k = 1 ∧ i < 8 ∧ x = nI i) ∨ (2 ≤ k ∧ i < m ∧ x = nI i)
theorem thing_ev {x : Int32} {w : Wd} : fX6_isThing x w = some (if 0 ≤ x ∧ x ≤ (7 : Int32) then 1 else 0, w) := by
  unfold fX6_isThing
  rw [wn_ev, bnd_s]
  by_cases h : 0 ≤ x ∧ x ≤ (7 : Int32)
  · rw [if_pos h, grd_t (Or.inr rfl)]
  · rw [if_neg h, grd_t (Or.inl rfl)]
theorem nI_n0 {k : Nat} (h : 0 < k) (h2 : k < 2 ^ 31) : ¬ nI k = 0 := nI_ne0 h h2
theorem nI_ne {a b : Nat} (h : a ≠ b) (ha : a < 2 ^ 31) (hb : b < 2 ^ 31) : ¬ nI a = nI b := fun y => h ((nI_eq ha hb).mp y)
theorem namesC {w : Wd} {m k i : Nat} {x : Int32} (hS : St w) (h3 : gI w 0 3 = nI m) (m6 : m ≤ 6) (hk : k ≤ 13) (hn : Nm m k i x) : fX6_names 0 (nI k) x w = some (1, w) := by
  unfold fX6_names
  rcases hn with rfl | ⟨rfl, hi, rfl⟩ | ⟨h2, hi, rfl⟩
  · rw [if_pos (by decide)]
  · rw [if_neg (by decide), if_pos (by decide), thing_ev, bnd_s, if_pos (b7 (by omega)), grd_t (Or.inr rfl)]
  · have h1 : ¬ nI k = (1 : Int32) := nI_ne (b := 1) (by omega) (by omega) (by omega)
    rw [if_neg (nI_n0 (by omega) (by omega)), if_neg h1, atC hS h3 m6 hi, bnd_s, ifn_some]
theorem isOfM {w : Wd} {m k i : Nat} {x : Int32} (h11 : gI w 52 11 = nI m) (m6 : m ≤ 6) (hk : k ≤ 13) (hn : Nm m k i x) : fX7_isOf 52 (nI k) x w = some (1, w) := by
  have e7 : (7 : Int32).toInt64 = (7 : Int64) := by decide
  unfold fX7_isOf fX7_isOf_32
  rcases hn with rfl | ⟨rfl, hi, rfl⟩ | ⟨h2, hi, rfl⟩
  · rw [if_pos (by decide)]
  · rw [if_neg (by decide), if_pos (by decide), in0l e7, bnd_s, w01, if_pos (b7 (by omega))]
  · have h1 : ¬ nI k = (1 : Int32) := nI_ne (b := 1) (by omega) (by omega) (by omega)
    rw [if_neg (nI_n0 (by omega) (by omega)), if_neg h1, atM h11 m6 hi, bnd_s, if_neg (by decide)]
theorem names_both {w : Wd} {m tc rl tp k : Nat} (h : Jn w m tc rl tp) (hk : k ≤ 13) (x : Int32) : (∃ i, Nm m k i x) ∨ (fX6_names 0 (nI k) x w = some (0, w) ∧ fX7_isOf 52 (nI k) x w = some (0, w)) := by
  have e7 : (7 : Int32).toInt64 = (7 : Int64) := by decide
  have hc : k = 0 ∨ k = 1 ∨ 2 ≤ k := by omega
  rcases hc with rfl | rfl | h2
  · exact Or.inl ⟨0, Or.inl rfl⟩
  · by_cases hd : 0 ≤ x ∧ x ≤ (7 : Int32)
    · obtain ⟨t, ht, rfl⟩ := (in0n (n := 7) (by omega)).mp hd
      exact Or.inl ⟨t, Or.inr (Or.inl ⟨rfl, by omega, rfl⟩)⟩
    · refine Or.inr ⟨?_, ?_⟩
      · unfold fX6_names
        rw [if_neg (by decide), if_pos (by decide), thing_ev, bnd_s, if_neg hd, grd_t (Or.inl rfl)]
      · unfold fX7_isOf fX7_isOf_32
        rw [if_neg (by decide), if_pos (by decide), in0l e7, bnd_s, w01, if_neg hd]
  · have h1 : ¬ nI k = (1 : Int32) := nI_ne (b := 1) (by omega) (by omega) (by omega)
    rcases one_at h x with ⟨i, hi, rfl, -, -⟩ | ⟨e1, e2⟩
    · exact Or.inl ⟨i, Or.inr (Or.inr ⟨h2, hi, rfl⟩)⟩
    · refine Or.inr ⟨?_, ?_⟩
      · unfold fX6_names
        rw [if_neg (nI_n0 (by omega) (by omega)), if_neg h1, e1, bnd_s, ifn_none]
      · unfold fX7_isOf fX7_isOf_32
        rw [if_neg (nI_n0 (by omega) (by omega)), if_neg h1, e2, bnd_s, if_pos rfl]
/-- what is kept, on either side -/
def valC (w : Wd) (k i : Nat) : Int32 := if k = 0 then gI w 0 4 else if k = 1 then gI w 1 i else gI w (18 + i) (k - 1)
def valM (w : Wd) (k i : Nat) : Int32 := if k = 0 then gI w 52 7 else if k = 1 then gI w 56 i else gI w 58 (5 * i + (k - 2))
theorem val_eq {w : Wd} {m tc rl tp k i : Nat} {x : Int32} (h : Jn w m tc rl tp) (hk : k ≤ 6) (hn : Nm m k i x) : valC w k i = valM w k i := by
  unfold valC valM
  rcases hn with rfl | ⟨rfl, hi, rfl⟩ | ⟨h2, hi, rfl⟩
  · rw [if_pos rfl, if_pos rfl]; exact h.dy.1
  · rw [if_neg (by omega), if_pos rfl, if_neg (by omega), if_pos rfl]; exact (h.hv i hi).1
  · rw [if_neg (by omega), if_neg (by omega), if_neg (by omega), if_neg (by omega)]
    obtain ⟨a0, a1, a2, a3, a4, a5, -⟩ := h.wk i hi
    have hc : k = 2 ∨ k = 3 ∨ k = 4 ∨ k = 5 ∨ k = 6 := by omega
    rcases hc with rfl | rfl | rfl | rfl | rfl
    · exact a1
    · exact a2
    · exact a3
    · exact a4
    · exact a5
theorem valueC {w : Wd} {m k i : Nat} {x : Int32} (hS : St w) (h3 : gI w 0 3 = nI m) (m6 : m ≤ 6) (hk : k ≤ 6) (hn : Nm m k i x) : fX6_valueOf 0 (nI k) x w = some (valC w k i, w) := by
  unfold fX6_valueOf valC
  rcases hn with rfl | ⟨rfl, hi, rfl⟩ | ⟨h2, hi, rfl⟩
  · rw [if_pos (by decide), if_pos rfl]
  · have ci : (nI i).toNatClampNeg = i := nI_clamp (by omega)
    rw [if_neg (by decide), if_pos (by decide), thing_ev, bnd_s, w01, if_pos (b7 (by omega)), dg_0_0 hS, grd_t (by rw [ln_1]; exact vin_nI hi (by omega)), ci, if_neg (by omega), if_pos rfl]
  · have h1 : ¬ nI k = (1 : Int32) := nI_ne (b := 1) (by omega) (by omega) (by omega)
    have hw := kd_wk (j := i) (by omega)
    rw [if_neg (nI_n0 (by omega) (by omega)), if_neg h1, atC hS h3 m6 hi, bnd_s, ifn_some, if_neg (show ¬ k = 0 by omega), if_neg (show ¬ k = 1 by omega)]
    have hc : k = 2 ∨ k = 3 ∨ k = 4 ∨ k = 5 ∨ k = 6 := by omega
    rcases hc with rfl | rfl | rfl | rfl | rfl
    · rw [if_pos (by decide), dr_at hS.1 hw]
    · rw [if_neg (by decide), if_pos (by decide), dr_at hS.1 hw]
    · rw [if_neg (by decide), if_neg (by decide), if_pos (by decide), dr_at hS.1 hw]
    · rw [if_neg (by decide), if_neg (by decide), if_neg (by decide), if_pos (by decide), dr_at hS.1 hw]
    · rw [if_neg (by decide), if_neg (by decide), if_neg (by decide), if_neg (by decide), dr_at hS.1 hw]
theorem toldM {w : Wd} {m k i : Nat} {x : Int32} (hS : St w) (h11 : gI w 52 11 = nI m) (m6 : m ≤ 6) (hk : k ≤ 6) (hn : Nm m k i x) : fX7_told 52 x (nI k) w = some (valM w k i, w) := by
  have e13 : (13 : Int32).toInt64 = (13 : Int64) := by decide
  unfold fX7_told
  rw [in0l e13, bnd_s, w01, if_pos (b13 (by omega)), isOfM h11 m6 (by omega) hn, bnd_s, if_neg (by decide)]
  unfold valM
  rcases hn with rfl | ⟨rfl, hi, rfl⟩ | ⟨h2, hi, rfl⟩
  · rw [if_neg (by decide), if_pos (by decide), if_pos rfl]
  · have ci : (nI i).toNatClampNeg = i := nI_clamp (by omega)
    rw [if_neg (by decide), if_neg (by decide), dg_52_8 hS, grd_t (by rw [ln_56]; exact vin_nI hi (by omega)), ci, if_neg (by omega), if_pos rfl]
  · have h2' : (2 : Int32) ≤ nI k := nI_le (a := 2) h2 (by omega)
    have h7' : ¬ (7 : Int32) ≤ nI k := nI_ge (b := 7) (by omega) (by omega)
    have en : (5 : Int32) * nI i + nI k - 2 = nI (5 * i + (k - 2)) := by
      rw [m5, nI_add]
      have : nI (5 * i + k) - nI 2 = nI (5 * i + k - 2) := pk_sub (by omega)
      rw [show 5 * i + (k - 2) = 5 * i + k - 2 by omega]
      exact this
    have ci : (nI (5 * i + (k - 2))).toNatClampNeg = 5 * i + (k - 2) := nI_clamp (by omega)
    rw [if_pos h2', if_neg h7', dg_52_10 hS, en, grd_t (by rw [ln_58]; exact vin_nI (by omega) (by omega)), ci, if_neg (by omega), if_neg (by omega)]
theorem mostC {k : Nat} (hk : k ≤ 6) : ∃ M, M < 2 ^ 31 ∧ ∀ w : Wd, fX6_mostOf (nI k) w = some (nI M, w) ∧ fX7_mostOf (nI k) w = some (nI M, w) ∧ M = (if k = 0 then 999 else if k = 1 then 99 else if k = 2 then 9 else if k < 5 then 255 else if k = 5 then 999 else 9999) := by
  unfold fX6_mostOf fX7_mostOf
  have hc : k = 0 ∨ k = 1 ∨ k = 2 ∨ k = 3 ∨ k = 4 ∨ k = 5 ∨ k = 6 := by omega
  rcases hc with rfl | rfl | rfl | rfl | rfl | rfl | rfl
  · exact ⟨999, by omega, fun w => ⟨by rw [if_pos (by decide)]; rfl, by rw [if_pos (by decide)]; rfl, rfl⟩⟩
  · exact ⟨99, by omega, fun w => ⟨by rw [if_neg (by decide), if_pos (by decide)]; rfl, by rw [if_neg (by decide), if_pos (by decide)]; rfl, rfl⟩⟩
  · exact ⟨9, by omega, fun w => ⟨by rw [if_neg (by decide), if_neg (by decide), if_pos (by decide)]; rfl, by rw [if_neg (by decide), if_neg (by decide), if_pos (by decide)]; rfl, rfl⟩⟩
  · exact ⟨255, by omega, fun w => ⟨by rw [if_neg (by decide), if_neg (by decide), if_neg (by decide), if_pos (by decide)]; rfl, by rw [if_neg (by decide), if_neg (by decide), if_neg (by decide), if_neg (by decide)]; rfl, rfl⟩⟩
  · exact ⟨255, by omega, fun w => ⟨by rw [if_neg (by decide), if_neg (by decide), if_neg (by decide), if_neg (by decide), if_pos (by decide)]; rfl, by rw [if_neg (by decide), if_neg (by decide), if_neg (by decide), if_neg (by decide)]; rfl, rfl⟩⟩
  · exact ⟨999, by omega, fun w => ⟨by rw [if_neg (by decide), if_neg (by decide), if_neg (by decide), if_neg (by decide), if_neg (by decide), if_pos (by decide)]; rfl, by rw [if_neg (by decide), if_neg (by decide), if_neg (by decide), if_pos (by decide), if_pos (by decide)]; rfl, rfl⟩⟩
  · exact ⟨9999, by omega, fun w => ⟨by rw [if_neg (by decide), if_neg (by decide), if_neg (by decide), if_neg (by decide), if_neg (by decide), if_neg (by decide)]; rfl, by rw [if_neg (by decide), if_neg (by decide), if_neg (by decide), if_pos (by decide), if_neg (by decide)]; rfl, rfl⟩⟩
/-- all that may change but texts and tape -/
theorem Jn.all {P : Nat → Nat → Prop} {w w' : Wd} {m tc rl tp m' rl' : Nat} (h : Jn w m tc rl tp) (hc : Ch P w w') (hP : ∀ i k, P i k → ¬ (i = 0 ∧ k = 6) ∧ ¬ (i = 52 ∧ (k = 3 ∨ k = 6)) ∧ ¬ (24 ≤ i ∧ i < 42) ∧ i ≠ 53 ∧ i ≠ 54 ∧ i ≠ 6 ∧ i ≠ 55 ∧ ¬ (i = 5 ∧ k = 1)) (h2 : m' ≤ 6 ∧ gI w' 0 3 = nI m' ∧ gI w' 52 11 = nI m') (h4 : rl' < tc ∧ gI w' 0 7 = nI rl' ∧ gI w' 52 4 = nI rl') (h5 : gI w' 0 4 = gI w' 52 7 ∧ Ra (gI w' 0 4) 999) (h6 : ∀ k, k < 8 → gI w' 1 k = gI w' 56 k ∧ Ra (gI w' 1 k) 99) (h7 : ∀ i, i < m' → Wk w' 18 58 5 i) (h10 : ∀ s, s < 4 → Sh w' s) (h11 : Im w' m' tc) : Jn w' m' tc rl' tp := by
  have n : ∀ {i k : Nat}, ((i = 0 ∧ k = 6) ∨ (i = 52 ∧ (k = 3 ∨ k = 6)) ∨ (24 ≤ i ∧ i < 42) ∨ i = 53 ∨ i = 54 ∨ i = 6 ∨ i = 55 ∨ (i = 5 ∧ k = 1)) → gI w' i k = gI w i k := fun {i k} hn => hc.I (fun z => by have := hP i k z; omega)
  obtain ⟨g1, g2, g3, g4, g5, g6, g7, g8, g9, g10, g11⟩ := h
  refine ⟨hc.St g1, h2, ⟨g3.1, ?_, ?_⟩, h4, h5, h6, h7, ⟨g8.1, ?_, ?_, fun k hk => ?_⟩, fun t ht => ?_, h10, h11⟩
  · rw [n (by omega)]; exact g3.2.1
  · rw [n (by omega)]; exact g3.2.2
  · rw [n (by omega)]; exact g8.2.1
  · rw [n (by omega)]; exact g8.2.2.1
  · rw [n (by omega), n (by omega)]; exact g8.2.2.2 k hk
  · obtain ⟨ev, e1, e2⟩ := g9 t ht
    exact ⟨ev, e1.ch hc (fun i k a b z => by have := hP i k z; omega) (by omega), e2.ch hc (fun k => ⟨fun z => by have := hP _ _ z; omega, fun z => by have := hP _ _ z; omega⟩)⟩
/-- day, weights, walkers' numbers change -/
theorem Jn.body {P : Nat → Nat → Prop} {w w' : Wd} {m tc rl tp : Nat} (h : Jn w m tc rl tp) (hc : Ch P w w') (hP : ∀ i k, P i k → SC i k ∨ (i = 0 ∧ k = 4) ∨ (i = 52 ∧ k = 7) ∨ i = 1 ∨ i = 56 ∨ (18 ≤ i ∧ i < 24) ∨ i = 58) (h5 : gI w' 0 4 = gI w' 52 7 ∧ Ra (gI w' 0 4) 999) (h6 : ∀ k, k < 8 → gI w' 1 k = gI w' 56 k ∧ Ra (gI w' 1 k) 99) (h7 : ∀ i, i < m → Wk w' 18 58 5 i) : Jn w' m tc rl tp := by
  have q : ∀ {i k : Nat}, P i k → (i = 2 ∨ i = 7 ∨ i = 50 ∨ i = 51 ∨ (i = 5 ∧ 2 ≤ k ∧ k ≤ 8) ∨ (i = 52 ∧ 12 ≤ k ∧ k ≤ 35) ∨ i = 59) ∨ (i = 0 ∧ k = 4) ∨ (i = 52 ∧ k = 7) ∨ i = 1 ∨ i = 56 ∨ (18 ≤ i ∧ i < 24) ∨ i = 58 := fun {i k} z => by
    have := hP i k z
    unfold SC at this
    omega
  have n : ∀ {i k : Nat}, ¬ ((i = 2 ∨ i = 7 ∨ i = 50 ∨ i = 51 ∨ (i = 5 ∧ 2 ≤ k ∧ k ≤ 8) ∨ (i = 52 ∧ 12 ≤ k ∧ k ≤ 35) ∨ i = 59) ∨ (i = 0 ∧ k = 4) ∨ (i = 52 ∧ k = 7) ∨ i = 1 ∨ i = 56 ∨ (18 ≤ i ∧ i < 24) ∨ i = 58) → gI w' i k = gI w i k := fun hn => hc.I (fun z => hn (q z))
  refine h.all hc (fun i k z => by have := q z; omega) ⟨h.m6, ?_, ?_⟩ ⟨h.2.2.2.1.1, ?_, ?_⟩ h5 h6 h7 (fun s hs => (h.shs s hs).ch hc (fun y => ⟨fun z => by have := q z; omega, fun z => by have := q z; omega, fun z => by have := q z; omega, fun z => by have := q z; omega, fun z => by have := q z; omega, fun z => by have := q z; omega⟩)) (h.2.2.2.2.2.2.2.2.2.2.ch h.m6 hc (fun i k z => by have := q z; omega))
  · rw [n (by omega)]; exact h.c3
  · rw [n (by omega)]; exact h.c11
  · rw [n (by omega)]; exact h.2.2.2.1.2.1
  · rw [n (by omega)]; exact h.2.2.2.1.2.2
