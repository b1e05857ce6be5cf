def RsL : List (List (Option Nat)) := [[some 1, some 2, some 3, none, none, some 4, none, none, some 5, some 50, some 7, some 8, some 17], [], [], [some 18, some 19, some 20, some 21, some 22, some 23], [some 24, some 27, some 30, some 33, some 36, some 39], [some 6], [], [], [none, none, none, none, some 9, some 10], [], [some 11, some 12, some 13, some 14, some 15, some 16], [], [], [], [], [], [], [some 42, some 44, some 46, some 48], [], [], [], [], [], [], [some 25, some 26], [], [], [some 28, some 29], [], [], [some 31, some 32], [], [], [some 34, some 35], [], [], [some 37, some 38], [], [], [some 40, some 41], [], [], [some 43], [], [some 45], [], [some 47], [], [some 49], [], [none, none, none, none, none, none, none, none, some 51], [], [none, some 53, some 54, none, none, some 55, none, none, some 56, some 57, some 58, none, none, none, none, none, none, none, none, none, none, none, none, none, none, none, none, none, none, none, none, none, none, none, none, none, some 59, some 60, some 61, none, none, none, some 62, some 63, some 64, some 65], [], [], [], [], [], [], [], [], [], [], [], [], []]
/-- the references that never change once all is made -/
def Rs (i k : Nat) : Option Nat := (RsL.getD i []).getD k none
/-- all is made, and the references lie where they were laid (but the two that move: what a thought thinks by, what a reader reads into) -/
def St (w : Wd) : Prop := wn w = 66 ∧ ∀ i k, i < 66 → k < 46 → ¬ (i = 50 ∧ k = 7) → ¬ (i = 5 ∧ k = 8) → gR w i k = Rs i k
theorem dr_at {α : Type} {a c : Nat} {w : Wd} {f : Nat → Option α} (h : wn w = 66) (ha : a < 66 ∧ kd a = c) : dr (some a) c w f = f a := by
  simp only [dr, h]
  rw [if_pos ha]
theorem dr_sI {α : Type} {r : Option Nat} {c i k : Nat} {v : Int32} {w : Wd} {f : Nat → Option α} : dr r c (sI w i k v) f = dr r c w f := rfl
theorem dr_sR {α : Type} {r : Option Nat} {c i k : Nat} {v : Option Nat} {w : Wd} {f : Nat → Option α} : dr r c (sR w i k v) f = dr r c w f := rfl
theorem dr_sL {α : Type} {r : Option Nat} {c i k : Nat} {v : Int64} {w : Wd} {f : Nat → Option α} : dr r c (sL w i k v) f = dr r c w f := rfl
theorem dr_cI {α : Type} {r : Option Nat} {c i : Nat} {v : Nat → Int32} {w : Wd} {f : Nat → Option α} : dr r c (cI w i v) f = dr r c w f := rfl
theorem lw_e {α : Type} {w : Wd} {f : Wd → Option α} : lw w f = f w := rfl
theorem lt_e {α : Type} {x : Int32} {f : Int32 → Option α} : lt x f = f x := rfl
theorem grd_t {α : Type} {c : Prop} [Decidable c] {e : Option α} (h : c) : grd c e = e := if_pos h
theorem bnd_s {α β : Type} {r : α} {w : Wd} {f : α → Wd → Option (β × Wd)} : bnd (some (r, w)) f = f r w := rfl
theorem vin_nI {j n : Nat} (h : j < n) (hn : n < 2 ^ 31) : vin (nI j) n := vp_in_nI h hn
/-- what a run may have changed: the places P alone (of references: those two that move) -/
def Dy (i k : Nat) : Prop := (i = 50 ∧ k = 7) ∨ (i = 5 ∧ k = 8)
def Ch (P : Nat → Nat → Prop) (w w' : Wd) : Prop := wn w' = wn w ∧ (∀ i k, ¬ P i k → gI w' i k = gI w i k) ∧ ∀ i k, ¬ (P i k ∧ Dy i k) → gR w' i k = gR w i k
theorem Ch.rf {P : Nat → Nat → Prop} {w : Wd} : Ch P w w := ⟨rfl, fun _ _ _ => rfl, fun _ _ _ => rfl⟩
theorem Ch.tr {P : Nat → Nat → Prop} {w w1 w2 : Wd} (h1 : Ch P w w1) (h2 : Ch P w1 w2) : Ch P w w2 :=
  ⟨h2.1.trans h1.1, fun i k h => (h2.2.1 i k h).trans (h1.2.1 i k h), fun i k h => (h2.2.2 i k h).trans (h1.2.2 i k h)⟩
theorem Ch.mono {P P2 : Nat → Nat → Prop} {w w1 : Wd} (h : Ch P w w1) (hP : ∀ i k, P i k → P2 i k) : Ch P2 w w1 := ⟨h.1, fun i k hk => h.2.1 i k fun h9 => hk (hP i k h9), fun i k hk => h.2.2 i k fun h9 => hk ⟨hP i k h9.1, h9.2⟩⟩
theorem Ch.I {P : Nat → Nat → Prop} {w w1 : Wd} (h : Ch P w w1) {i k : Nat} (hk : ¬ P i k) : gI w1 i k = gI w i k := h.2.1 i k hk
theorem Ch.R {P : Nat → Nat → Prop} {w w1 : Wd} (h : Ch P w w1) {i k : Nat} (hk : ¬ (P i k ∧ Dy i k)) : gR w1 i k = gR w i k := h.2.2 i k hk
theorem Ch.St {P : Nat → Nat → Prop} {w w1 : Wd} (h : Ch P w w1) (hS : St w) : St w1 := ⟨h.1.trans hS.1, fun i k hi hk h1 h2 => by rw [h.R (fun h9 => h9.2.elim h1 h2)]; exact hS.2 i k hi hk h1 h2⟩
theorem ch_sI {P : Nat → Nat → Prop} {w : Wd} {i k : Nat} {v : Int32} (h : P i k) : Ch P w (sI w i k v) := ⟨rfl, fun a b hab => by rw [gI_sI, if_neg]; rintro ⟨rfl, rfl⟩; exact hab h, fun _ _ _ => rfl⟩
theorem ch_sR {P : Nat → Nat → Prop} {w : Wd} {i k : Nat} {v : Option Nat} (h : P i k ∧ Dy i k) : Ch P w (sR w i k v) := ⟨rfl, fun _ _ _ => rfl, fun a b hab => by rw [gR_sR, if_neg]; rintro ⟨rfl, rfl⟩; exact hab h⟩
theorem ch_sL {P : Nat → Nat → Prop} {w : Wd} {i k : Nat} {v : Int64} : Ch P w (sL w i k v) := ⟨rfl, fun _ _ _ => rfl, fun _ _ _ => rfl⟩
theorem ch_cI {P : Nat → Nat → Prop} {w : Wd} {i : Nat} {f : Nat → Int32} (h : ∀ k, P i k) : Ch P w (cI w i f) := ⟨rfl, fun a b hab => by rw [gI_cI, if_neg]; rintro rfl; exact hab (h b), fun _ _ _ => rfl⟩
/-- places that hold nothing for long -/
def SC (i k : Nat) : Prop := i = 2 ∨ i = 7 ∨ (i = 50 ∧ k < 8) ∨ i = 51 ∨ (i = 5 ∧ 2 ≤ k ∧ k ≤ 8) ∨ (i = 52 ∧ 12 ≤ k ∧ k ≤ 35) ∨ i = 59
/-- the thought's own places -/
def PT (i k : Nat) : Prop := (i = 50 ∧ k < 8) ∨ i = 51
/-- the places that a thought's day changes -/
def PD (i k : Nat) : Prop := (i = 50 ∧ 4 ≤ k ∧ k ≤ 6) ∨ i = 51
/-- the model's own places -/
def PM (i k : Nat) : Prop := i = 52 ∧ 12 ≤ k ∧ k ≤ 35
theorem PT_SC (i k : Nat) (h : PT i k) : SC i k := by unfold PT at h; unfold SC; omega
theorem PM_SC (i k : Nat) (h : PM i k) : SC i k := by unfold PM at h; unfold SC; omega
theorem PD_PT (i k : Nat) (h : PD i k) : PT i k := by unfold PD at h; unfold PT; omega
theorem St_sI {w : Wd} {i k : Nat} {v : Int32} (h : St w) : St (sI w i k v) := h
theorem St_cI {w : Wd} {i : Nat} {f : Nat → Int32} (h : St w) : St (cI w i f) := h
theorem St_sL {w : Wd} {i k : Nat} {v : Int64} (h : St w) : St (sL w i k v) := h
theorem st_0_0 {w : Wd} (h : St w) : gR w 0 0 = some 1 := h.2 0 0 (by omega) (by omega) (by omega) (by omega)
theorem dg_0_0 {α : Type} {w : Wd} {f : Nat → Option α} (h : St w) : dr (gR w 0 0) 8 w f = f 1 := by rw [st_0_0 h]; exact dr_at h.1 ⟨by decide, rfl⟩
theorem st_0_1 {w : Wd} (h : St w) : gR w 0 1 = some 2 := h.2 0 1 (by omega) (by omega) (by omega) (by omega)
theorem dg_0_1 {α : Type} {w : Wd} {f : Nat → Option α} (h : St w) : dr (gR w 0 1) 8 w f = f 2 := by rw [st_0_1 h]; exact dr_at h.1 ⟨by decide, rfl⟩
theorem st_0_2 {w : Wd} (h : St w) : gR w 0 2 = some 3 := h.2 0 2 (by omega) (by omega) (by omega) (by omega)
theorem dg_0_2 {α : Type} {w : Wd} {f : Nat → Option α} (h : St w) : dr (gR w 0 2) 12 w f = f 3 := by rw [st_0_2 h]; exact dr_at h.1 ⟨by decide, rfl⟩
theorem st_0_5 {w : Wd} (h : St w) : gR w 0 5 = some 4 := h.2 0 5 (by omega) (by omega) (by omega) (by omega)
theorem dg_0_5 {α : Type} {w : Wd} {f : Nat → Option α} (h : St w) : dr (gR w 0 5) 11 w f = f 4 := by rw [st_0_5 h]; exact dr_at h.1 ⟨by decide, rfl⟩
theorem st_0_8 {w : Wd} (h : St w) : gR w 0 8 = some 5 := h.2 0 8 (by omega) (by omega) (by omega) (by omega)
theorem dg_0_8 {α : Type} {w : Wd} {f : Nat → Option α} (h : St w) : dr (gR w 0 8) 1 w f = f 5 := by rw [st_0_8 h]; exact dr_at h.1 ⟨by decide, rfl⟩
theorem st_0_9 {w : Wd} (h : St w) : gR w 0 9 = some 50 := h.2 0 9 (by omega) (by omega) (by omega) (by omega)
theorem dg_0_9 {α : Type} {w : Wd} {f : Nat → Option α} (h : St w) : dr (gR w 0 9) 4 w f = f 50 := by rw [st_0_9 h]; exact dr_at h.1 ⟨by decide, rfl⟩
theorem st_0_10 {w : Wd} (h : St w) : gR w 0 10 = some 7 := h.2 0 10 (by omega) (by omega) (by omega) (by omega)
theorem dg_0_10 {α : Type} {w : Wd} {f : Nat → Option α} (h : St w) : dr (gR w 0 10) 8 w f = f 7 := by rw [st_0_10 h]; exact dr_at h.1 ⟨by decide, rfl⟩
theorem st_0_11 {w : Wd} (h : St w) : gR w 0 11 = some 8 := h.2 0 11 (by omega) (by omega) (by omega) (by omega)
theorem dg_0_11 {α : Type} {w : Wd} {f : Nat → Option α} (h : St w) : dr (gR w 0 11) 0 w f = f 8 := by rw [st_0_11 h]; exact dr_at h.1 ⟨by decide, rfl⟩
theorem st_0_12 {w : Wd} (h : St w) : gR w 0 12 = some 17 := h.2 0 12 (by omega) (by omega) (by omega) (by omega)
theorem dg_0_12 {α : Type} {w : Wd} {f : Nat → Option α} (h : St w) : dr (gR w 0 12) 10 w f = f 17 := by rw [st_0_12 h]; exact dr_at h.1 ⟨by decide, rfl⟩
theorem st_5_0 {w : Wd} (h : St w) : gR w 5 0 = some 6 := h.2 5 0 (by omega) (by omega) (by omega) (by omega)
theorem dg_5_0 {α : Type} {w : Wd} {f : Nat → Option α} (h : St w) : dr (gR w 5 0) 8 w f = f 6 := by rw [st_5_0 h]; exact dr_at h.1 ⟨by decide, rfl⟩
theorem st_8_4 {w : Wd} (h : St w) : gR w 8 4 = some 9 := h.2 8 4 (by omega) (by omega) (by omega) (by omega)
theorem dg_8_4 {α : Type} {w : Wd} {f : Nat → Option α} (h : St w) : dr (gR w 8 4) 8 w f = f 9 := by rw [st_8_4 h]; exact dr_at h.1 ⟨by decide, rfl⟩
theorem st_8_5 {w : Wd} (h : St w) : gR w 8 5 = some 10 := h.2 8 5 (by omega) (by omega) (by omega) (by omega)
theorem dg_8_5 {α : Type} {w : Wd} {f : Nat → Option α} (h : St w) : dr (gR w 8 5) 12 w f = f 10 := by rw [st_8_5 h]; exact dr_at h.1 ⟨by decide, rfl⟩
theorem st_50_8 {w : Wd} (h : St w) : gR w 50 8 = some 51 := h.2 50 8 (by omega) (by omega) (by omega) (by omega)
theorem dg_50_8 {α : Type} {w : Wd} {f : Nat → Option α} (h : St w) : dr (gR w 50 8) 8 w f = f 51 := by rw [st_50_8 h]; exact dr_at h.1 ⟨by decide, rfl⟩
theorem st_52_1 {w : Wd} (h : St w) : gR w 52 1 = some 53 := h.2 52 1 (by omega) (by omega) (by omega) (by omega)
theorem dg_52_1 {α : Type} {w : Wd} {f : Nat → Option α} (h : St w) : dr (gR w 52 1) 8 w f = f 53 := by rw [st_52_1 h]; exact dr_at h.1 ⟨by decide, rfl⟩
theorem st_52_2 {w : Wd} (h : St w) : gR w 52 2 = some 54 := h.2 52 2 (by omega) (by omega) (by omega) (by omega)
theorem dg_52_2 {α : Type} {w : Wd} {f : Nat → Option α} (h : St w) : dr (gR w 52 2) 8 w f = f 54 := by rw [st_52_2 h]; exact dr_at h.1 ⟨by decide, rfl⟩
theorem st_52_5 {w : Wd} (h : St w) : gR w 52 5 = some 55 := h.2 52 5 (by omega) (by omega) (by omega) (by omega)
theorem dg_52_5 {α : Type} {w : Wd} {f : Nat → Option α} (h : St w) : dr (gR w 52 5) 8 w f = f 55 := by rw [st_52_5 h]; exact dr_at h.1 ⟨by decide, rfl⟩
theorem st_52_8 {w : Wd} (h : St w) : gR w 52 8 = some 56 := h.2 52 8 (by omega) (by omega) (by omega) (by omega)
theorem dg_52_8 {α : Type} {w : Wd} {f : Nat → Option α} (h : St w) : dr (gR w 52 8) 8 w f = f 56 := by rw [st_52_8 h]; exact dr_at h.1 ⟨by decide, rfl⟩
theorem st_52_9 {w : Wd} (h : St w) : gR w 52 9 = some 57 := h.2 52 9 (by omega) (by omega) (by omega) (by omega)
theorem dg_52_9 {α : Type} {w : Wd} {f : Nat → Option α} (h : St w) : dr (gR w 52 9) 8 w f = f 57 := by rw [st_52_9 h]; exact dr_at h.1 ⟨by decide, rfl⟩
theorem st_52_10 {w : Wd} (h : St w) : gR w 52 10 = some 58 := h.2 52 10 (by omega) (by omega) (by omega) (by omega)
theorem dg_52_10 {α : Type} {w : Wd} {f : Nat → Option α} (h : St w) : dr (gR w 52 10) 8 w f = f 58 := by rw [st_52_10 h]; exact dr_at h.1 ⟨by decide, rfl⟩
theorem st_52_36 {w : Wd} (h : St w) : gR w 52 36 = some 59 := h.2 52 36 (by omega) (by omega) (by omega) (by omega)
theorem dg_52_36 {α : Type} {w : Wd} {f : Nat → Option α} (h : St w) : dr (gR w 52 36) 8 w f = f 59 := by rw [st_52_36 h]; exact dr_at h.1 ⟨by decide, rfl⟩
theorem st_52_37 {w : Wd} (h : St w) : gR w 52 37 = some 60 := h.2 52 37 (by omega) (by omega) (by omega) (by omega)
theorem dg_52_37 {α : Type} {w : Wd} {f : Nat → Option α} (h : St w) : dr (gR w 52 37) 8 w f = f 60 := by rw [st_52_37 h]; exact dr_at h.1 ⟨by decide, rfl⟩
theorem st_52_38 {w : Wd} (h : St w) : gR w 52 38 = some 61 := h.2 52 38 (by omega) (by omega) (by omega) (by omega)
theorem dg_52_38 {α : Type} {w : Wd} {f : Nat → Option α} (h : St w) : dr (gR w 52 38) 8 w f = f 61 := by rw [st_52_38 h]; exact dr_at h.1 ⟨by decide, rfl⟩
theorem st_52_42 {w : Wd} (h : St w) : gR w 52 42 = some 62 := h.2 52 42 (by omega) (by omega) (by omega) (by omega)
theorem dg_52_42 {α : Type} {w : Wd} {f : Nat → Option α} (h : St w) : dr (gR w 52 42) 9 w f = f 62 := by rw [st_52_42 h]; exact dr_at h.1 ⟨by decide, rfl⟩
theorem st_52_43 {w : Wd} (h : St w) : gR w 52 43 = some 63 := h.2 52 43 (by omega) (by omega) (by omega) (by omega)
theorem dg_52_43 {α : Type} {w : Wd} {f : Nat → Option α} (h : St w) : dr (gR w 52 43) 8 w f = f 63 := by rw [st_52_43 h]; exact dr_at h.1 ⟨by decide, rfl⟩
theorem st_52_44 {w : Wd} (h : St w) : gR w 52 44 = some 64 := h.2 52 44 (by omega) (by omega) (by omega) (by omega)
theorem dg_52_44 {α : Type} {w : Wd} {f : Nat → Option α} (h : St w) : dr (gR w 52 44) 8 w f = f 64 := by rw [st_52_44 h]; exact dr_at h.1 ⟨by decide, rfl⟩
theorem st_52_45 {w : Wd} (h : St w) : gR w 52 45 = some 65 := h.2 52 45 (by omega) (by omega) (by omega) (by omega)
theorem dg_52_45 {α : Type} {w : Wd} {f : Nat → Option α} (h : St w) : dr (gR w 52 45) 8 w f = f 65 := by rw [st_52_45 h]; exact dr_at h.1 ⟨by decide, rfl⟩
theorem st_wk {w : Wd} (h : St w) {j : Nat} (hj : j < 6) : gR w 3 j = some (18 + j) := by
  rw [h.2 3 j (by omega) (by omega) (by omega) (by omega)]
  revert hj; revert j; decide +kernel
theorem kd_wk {j : Nat} (hj : j < 6) : 18 + j < 66 ∧ kd (18 + j) = 5 := by
  revert hj; revert j; decide +kernel
theorem dg_wk {α : Type} {w : Wd} {f : Nat → Option α} (h : wn w = 66) {j : Nat} (hj : j < 6) : dr (some (18 + j)) 5 w f = f (18 + j) := dr_at h (kd_wk hj)
theorem st_tx {w : Wd} (h : St w) {j : Nat} (hj : j < 6) : gR w 4 j = some (24 + 3 * j) := by
  rw [h.2 4 j (by omega) (by omega) (by omega) (by omega)]
  revert hj; revert j; decide +kernel
theorem kd_tx {j : Nat} (hj : j < 6) : 24 + 3 * j < 66 ∧ kd (24 + 3 * j) = 3 := by
  revert hj; revert j; decide +kernel
theorem dg_tx {α : Type} {w : Wd} {f : Nat → Option α} (h : wn w = 66) {j : Nat} (hj : j < 6) : dr (some (24 + 3 * j)) 3 w f = f (24 + 3 * j) := dr_at h (kd_tx hj)
theorem st_kw {w : Wd} (h : St w) {j : Nat} (hj : j < 6) : gR w 10 j = some (11 + j) := by
  rw [h.2 10 j (by omega) (by omega) (by omega) (by omega)]
  revert hj; revert j; decide +kernel
theorem kd_kw {j : Nat} (hj : j < 6) : 11 + j < 66 ∧ kd (11 + j) = 5 := by
  revert hj; revert j; decide +kernel
theorem dg_kw {α : Type} {w : Wd} {f : Nat → Option α} (h : wn w = 66) {j : Nat} (hj : j < 6) : dr (some (11 + j)) 5 w f = f (11 + j) := dr_at h (kd_kw hj)
theorem st_sh {w : Wd} (h : St w) {j : Nat} (hj : j < 4) : gR w 17 j = some (42 + 2 * j) := by
  rw [h.2 17 j (by omega) (by omega) (by omega) (by omega)]
  revert hj; revert j; decide +kernel
theorem kd_sh {j : Nat} (hj : j < 4) : 42 + 2 * j < 66 ∧ kd (42 + 2 * j) = 2 := by
  revert hj; revert j; decide +kernel
theorem dg_sh {α : Type} {w : Wd} {f : Nat → Option α} (h : wn w = 66) {j : Nat} (hj : j < 4) : dr (some (42 + 2 * j)) 2 w f = f (42 + 2 * j) := dr_at h (kd_sh hj)
theorem st_txs {w : Wd} (h : St w) {j : Nat} (hj : j < 6) : gR w (24 + 3 * j) 0 = some (25 + 3 * j) := by
  rw [h.2 (24 + 3 * j) 0 (by omega) (by omega) (by omega) (by omega)]
  revert hj; revert j; decide +kernel
theorem kd_txs {j : Nat} (hj : j < 6) : (25 + 3 * j < 66 ∧ kd (25 + 3 * j) = 8) ∧ ln (25 + 3 * j) = 160 := by
  revert hj; revert j; decide +kernel
theorem dg_txs {α : Type} {w : Wd} {f : Nat → Option α} (h : St w) {j : Nat} (hj : j < 6) : dr (gR w (24 + 3 * j) 0) 8 w f = f (25 + 3 * j) := by rw [st_txs h hj]; exact dr_at h.1 (kd_txs hj).1
theorem st_txe {w : Wd} (h : St w) {j : Nat} (hj : j < 6) : gR w (24 + 3 * j) 1 = some (26 + 3 * j) := by
  rw [h.2 (24 + 3 * j) 1 (by omega) (by omega) (by omega) (by omega)]
  revert hj; revert j; decide +kernel
theorem kd_txe {j : Nat} (hj : j < 6) : (26 + 3 * j < 66 ∧ kd (26 + 3 * j) = 8) ∧ ln (26 + 3 * j) = 3 := by
  revert hj; revert j; decide +kernel
theorem dg_txe {α : Type} {w : Wd} {f : Nat → Option α} (h : St w) {j : Nat} (hj : j < 6) : dr (gR w (24 + 3 * j) 1) 8 w f = f (26 + 3 * j) := by rw [st_txe h hj]; exact dr_at h.1 (kd_txe hj).1
theorem st_shi {w : Wd} (h : St w) {j : Nat} (hj : j < 4) : gR w (42 + 2 * j) 0 = some (43 + 2 * j) := by
  rw [h.2 (42 + 2 * j) 0 (by omega) (by omega) (by omega) (by omega)]
  revert hj; revert j; decide +kernel
theorem kd_shi {j : Nat} (hj : j < 4) : (43 + 2 * j < 66 ∧ kd (43 + 2 * j) = 8) ∧ ln (43 + 2 * j) = 40 := by
  revert hj; revert j; decide +kernel
theorem dg_shi {α : Type} {w : Wd} {f : Nat → Option α} (h : St w) {j : Nat} (hj : j < 4) : dr (gR w (42 + 2 * j) 0) 8 w f = f (43 + 2 * j) := by rw [st_shi h hj]; exact dr_at h.1 (kd_shi hj).1
theorem dk_0 {α : Type} {w : Wd} {f : Nat → Option α} (h : wn w = 66) : dr (some 0) 6 w f = f 0 := dr_at h ⟨by decide, rfl⟩
theorem dk_1 {α : Type} {w : Wd} {f : Nat → Option α} (h : wn w = 66) : dr (some 1) 8 w f = f 1 := dr_at h ⟨by decide, rfl⟩
theorem ln_1 : ln 1 = 8 := rfl
theorem dk_2 {α : Type} {w : Wd} {f : Nat → Option α} (h : wn w = 66) : dr (some 2) 8 w f = f 2 := dr_at h ⟨by decide, rfl⟩
theorem ln_2 : ln 2 = 8 := rfl
theorem dk_3 {α : Type} {w : Wd} {f : Nat → Option α} (h : wn w = 66) : dr (some 3) 12 w f = f 3 := dr_at h ⟨by decide, rfl⟩
theorem ln_3 : ln 3 = 6 := rfl
theorem dk_4 {α : Type} {w : Wd} {f : Nat → Option α} (h : wn w = 66) : dr (some 4) 11 w f = f 4 := dr_at h ⟨by decide, rfl⟩
theorem ln_4 : ln 4 = 6 := rfl
theorem dk_5 {α : Type} {w : Wd} {f : Nat → Option α} (h : wn w = 66) : dr (some 5) 1 w f = f 5 := dr_at h ⟨by decide, rfl⟩
theorem dk_6 {α : Type} {w : Wd} {f : Nat → Option α} (h : wn w = 66) : dr (some 6) 8 w f = f 6 := dr_at h ⟨by decide, rfl⟩
theorem ln_6 : ln 6 = 160 := rfl
theorem dk_7 {α : Type} {w : Wd} {f : Nat → Option α} (h : wn w = 66) : dr (some 7) 8 w f = f 7 := dr_at h ⟨by decide, rfl⟩
theorem ln_7 : ln 7 = 793 := rfl
theorem dk_8 {α : Type} {w : Wd} {f : Nat → Option α} (h : wn w = 66) : dr (some 8) 0 w f = f 8 := dr_at h ⟨by decide, rfl⟩
theorem dk_9 {α : Type} {w : Wd} {f : Nat → Option α} (h : wn w = 66) : dr (some 9) 8 w f = f 9 := dr_at h ⟨by decide, rfl⟩
theorem ln_9 : ln 9 = 8 := rfl
theorem dk_10 {α : Type} {w : Wd} {f : Nat → Option α} (h : wn w = 66) : dr (some 10) 12 w f = f 10 := dr_at h ⟨by decide, rfl⟩
theorem ln_10 : ln 10 = 6 := rfl
theorem dk_11 {α : Type} {w : Wd} {f : Nat → Option α} (h : wn w = 66) : dr (some 11) 5 w f = f 11 := dr_at h ⟨by decide, rfl⟩
theorem dk_12 {α : Type} {w : Wd} {f : Nat → Option α} (h : wn w = 66) : dr (some 12) 5 w f = f 12 := dr_at h ⟨by decide, rfl⟩
theorem dk_13 {α : Type} {w : Wd} {f : Nat → Option α} (h : wn w = 66) : dr (some 13) 5 w f = f 13 := dr_at h ⟨by decide, rfl⟩
theorem dk_14 {α : Type} {w : Wd} {f : Nat → Option α} (h : wn w = 66) : dr (some 14) 5 w f = f 14 := dr_at h ⟨by decide, rfl⟩
theorem dk_15 {α : Type} {w : Wd} {f : Nat → Option α} (h : wn w = 66) : dr (some 15) 5 w f = f 15 := dr_at h ⟨by decide, rfl⟩
theorem dk_16 {α : Type} {w : Wd} {f : Nat → Option α} (h : wn w = 66) : dr (some 16) 5 w f = f 16 := dr_at h ⟨by decide, rfl⟩
theorem dk_17 {α : Type} {w : Wd} {f : Nat → Option α} (h : wn w = 66) : dr (some 17) 10 w f = f 17 := dr_at h ⟨by decide, rfl⟩
theorem ln_17 : ln 17 = 4 := rfl
theorem dk_18 {α : Type} {w : Wd} {f : Nat → Option α} (h : wn w = 66) : dr (some 18) 5 w f = f 18 := dr_at h ⟨by decide, rfl⟩
theorem dk_19 {α : Type} {w : Wd} {f : Nat → Option α} (h : wn w = 66) : dr (some 19) 5 w f = f 19 := dr_at h ⟨by decide, rfl⟩
theorem dk_20 {α : Type} {w : Wd} {f : Nat → Option α} (h : wn w = 66) : dr (some 20) 5 w f = f 20 := dr_at h ⟨by decide, rfl⟩
theorem dk_21 {α : Type} {w : Wd} {f : Nat → Option α} (h : wn w = 66) : dr (some 21) 5 w f = f 21 := dr_at h ⟨by decide, rfl⟩
theorem dk_22 {α : Type} {w : Wd} {f : Nat → Option α} (h : wn w = 66) : dr (some 22) 5 w f = f 22 := dr_at h ⟨by decide, rfl⟩
theorem dk_23 {α : Type} {w : Wd} {f : Nat → Option α} (h : wn w = 66) : dr (some 23) 5 w f = f 23 := dr_at h ⟨by decide, rfl⟩
theorem dk_24 {α : Type} {w : Wd} {f : Nat → Option α} (h : wn w = 66) : dr (some 24) 3 w f = f 24 := dr_at h ⟨by decide, rfl⟩
theorem dk_25 {α : Type} {w : Wd} {f : Nat → Option α} (h : wn w = 66) : dr (some 25) 8 w f = f 25 := dr_at h ⟨by decide, rfl⟩
theorem ln_25 : ln 25 = 160 := rfl
theorem dk_26 {α : Type} {w : Wd} {f : Nat → Option α} (h : wn w = 66) : dr (some 26) 8 w f = f 26 := dr_at h ⟨by decide, rfl⟩
theorem ln_26 : ln 26 = 3 := rfl
theorem dk_27 {α : Type} {w : Wd} {f : Nat → Option α} (h : wn w = 66) : dr (some 27) 3 w f = f 27 := dr_at h ⟨by decide, rfl⟩
theorem dk_28 {α : Type} {w : Wd} {f : Nat → Option α} (h : wn w = 66) : dr (some 28) 8 w f = f 28 := dr_at h ⟨by decide, rfl⟩
theorem ln_28 : ln 28 = 160 := rfl
theorem dk_29 {α : Type} {w : Wd} {f : Nat → Option α} (h : wn w = 66) : dr (some 29) 8 w f = f 29 := dr_at h ⟨by decide, rfl⟩
theorem ln_29 : ln 29 = 3 := rfl
theorem dk_30 {α : Type} {w : Wd} {f : Nat → Option α} (h : wn w = 66) : dr (some 30) 3 w f = f 30 := dr_at h ⟨by decide, rfl⟩
theorem dk_31 {α : Type} {w : Wd} {f : Nat → Option α} (h : wn w = 66) : dr (some 31) 8 w f = f 31 := dr_at h ⟨by decide, rfl⟩
theorem ln_31 : ln 31 = 160 := rfl
theorem dk_32 {α : Type} {w : Wd} {f : Nat → Option α} (h : wn w = 66) : dr (some 32) 8 w f = f 32 := dr_at h ⟨by decide, rfl⟩
theorem ln_32 : ln 32 = 3 := rfl
theorem dk_33 {α : Type} {w : Wd} {f : Nat → Option α} (h : wn w = 66) : dr (some 33) 3 w f = f 33 := dr_at h ⟨by decide, rfl⟩
theorem dk_34 {α : Type} {w : Wd} {f : Nat → Option α} (h : wn w = 66) : dr (some 34) 8 w f = f 34 := dr_at h ⟨by decide, rfl⟩
theorem ln_34 : ln 34 = 160 := rfl
theorem dk_35 {α : Type} {w : Wd} {f : Nat → Option α} (h : wn w = 66) : dr (some 35) 8 w f = f 35 := dr_at h ⟨by decide, rfl⟩
theorem ln_35 : ln 35 = 3 := rfl
theorem dk_36 {α : Type} {w : Wd} {f : Nat → Option α} (h : wn w = 66) : dr (some 36) 3 w f = f 36 := dr_at h ⟨by decide, rfl⟩
theorem dk_37 {α : Type} {w : Wd} {f : Nat → Option α} (h : wn w = 66) : dr (some 37) 8 w f = f 37 := dr_at h ⟨by decide, rfl⟩
theorem ln_37 : ln 37 = 160 := rfl
theorem dk_38 {α : Type} {w : Wd} {f : Nat → Option α} (h : wn w = 66) : dr (some 38) 8 w f = f 38 := dr_at h ⟨by decide, rfl⟩
theorem ln_38 : ln 38 = 3 := rfl
theorem dk_39 {α : Type} {w : Wd} {f : Nat → Option α} (h : wn w = 66) : dr (some 39) 3 w f = f 39 := dr_at h ⟨by decide, rfl⟩
theorem dk_40 {α : Type} {w : Wd} {f : Nat → Option α} (h : wn w = 66) : dr (some 40) 8 w f = f 40 := dr_at h ⟨by decide, rfl⟩
theorem ln_40 : ln 40 = 160 := rfl
theorem dk_41 {α : Type} {w : Wd} {f : Nat → Option α} (h : wn w = 66) : dr (some 41) 8 w f = f 41 := dr_at h ⟨by decide, rfl⟩
theorem ln_41 : ln 41 = 3 := rfl
theorem dk_42 {α : Type} {w : Wd} {f : Nat → Option α} (h : wn w = 66) : dr (some 42) 2 w f = f 42 := dr_at h ⟨by decide, rfl⟩
theorem dk_43 {α : Type} {w : Wd} {f : Nat → Option α} (h : wn w = 66) : dr (some 43) 8 w f = f 43 := dr_at h ⟨by decide, rfl⟩
theorem ln_43 : ln 43 = 40 := rfl
theorem dk_44 {α : Type} {w : Wd} {f : Nat → Option α} (h : wn w = 66) : dr (some 44) 2 w f = f 44 := dr_at h ⟨by decide, rfl⟩
theorem dk_45 {α : Type} {w : Wd} {f : Nat → Option α} (h : wn w = 66) : dr (some 45) 8 w f = f 45 := dr_at h ⟨by decide, rfl⟩
theorem ln_45 : ln 45 = 40 := rfl
theorem dk_46 {α : Type} {w : Wd} {f : Nat → Option α} (h : wn w = 66) : dr (some 46) 2 w f = f 46 := dr_at h ⟨by decide, rfl⟩
theorem dk_47 {α : Type} {w : Wd} {f : Nat → Option α} (h : wn w = 66) : dr (some 47) 8 w f = f 47 := dr_at h ⟨by decide, rfl⟩
theorem ln_47 : ln 47 = 40 := rfl
theorem dk_48 {α : Type} {w : Wd} {f : Nat → Option α} (h : wn w = 66) : dr (some 48) 2 w f = f 48 := dr_at h ⟨by decide, rfl⟩
theorem dk_49 {α : Type} {w : Wd} {f : Nat → Option α} (h : wn w = 66) : dr (some 49) 8 w f = f 49 := dr_at h ⟨by decide, rfl⟩
theorem ln_49 : ln 49 = 40 := rfl
theorem dk_50 {α : Type} {w : Wd} {f : Nat → Option α} (h : wn w = 66) : dr (some 50) 4 w f = f 50 := dr_at h ⟨by decide, rfl⟩
theorem dk_51 {α : Type} {w : Wd} {f : Nat → Option α} (h : wn w = 66) : dr (some 51) 8 w f = f 51 := dr_at h ⟨by decide, rfl⟩
theorem ln_51 : ln 51 = 31 := rfl
theorem dk_52 {α : Type} {w : Wd} {f : Nat → Option α} (h : wn w = 66) : dr (some 52) 7 w f = f 52 := dr_at h ⟨by decide, rfl⟩
theorem dk_53 {α : Type} {w : Wd} {f : Nat → Option α} (h : wn w = 66) : dr (some 53) 8 w f = f 53 := dr_at h ⟨by decide, rfl⟩
theorem ln_53 : ln 53 = 960 := rfl
theorem dk_54 {α : Type} {w : Wd} {f : Nat → Option α} (h : wn w = 66) : dr (some 54) 8 w f = f 54 := dr_at h ⟨by decide, rfl⟩
theorem ln_54 : ln 54 = 6 := rfl
theorem dk_55 {α : Type} {w : Wd} {f : Nat → Option α} (h : wn w = 66) : dr (some 55) 8 w f = f 55 := dr_at h ⟨by decide, rfl⟩
theorem ln_55 : ln 55 = 160 := rfl
theorem dk_56 {α : Type} {w : Wd} {f : Nat → Option α} (h : wn w = 66) : dr (some 56) 8 w f = f 56 := dr_at h ⟨by decide, rfl⟩
theorem ln_56 : ln 56 = 8 := rfl
theorem dk_57 {α : Type} {w : Wd} {f : Nat → Option α} (h : wn w = 66) : dr (some 57) 8 w f = f 57 := dr_at h ⟨by decide, rfl⟩
theorem ln_57 : ln 57 = 6 := rfl
theorem dk_58 {α : Type} {w : Wd} {f : Nat → Option α} (h : wn w = 66) : dr (some 58) 8 w f = f 58 := dr_at h ⟨by decide, rfl⟩
theorem ln_58 : ln 58 = 30 := rfl
theorem dk_59 {α : Type} {w : Wd} {f : Nat → Option α} (h : wn w = 66) : dr (some 59) 8 w f = f 59 := dr_at h ⟨by decide, rfl⟩
theorem ln_59 : ln 59 = 8 := rfl
theorem dk_60 {α : Type} {w : Wd} {f : Nat → Option α} (h : wn w = 66) : dr (some 60) 8 w f = f 60 := dr_at h ⟨by decide, rfl⟩
theorem ln_60 : ln 60 = 8 := rfl
theorem dk_61 {α : Type} {w : Wd} {f : Nat → Option α} (h : wn w = 66) : dr (some 61) 8 w f = f 61 := dr_at h ⟨by decide, rfl⟩
theorem ln_61 : ln 61 = 30 := rfl
theorem dk_62 {α : Type} {w : Wd} {f : Nat → Option α} (h : wn w = 66) : dr (some 62) 9 w f = f 62 := dr_at h ⟨by decide, rfl⟩
theorem ln_62 : ln 62 = 4 := rfl
theorem dk_63 {α : Type} {w : Wd} {f : Nat → Option α} (h : wn w = 66) : dr (some 63) 8 w f = f 63 := dr_at h ⟨by decide, rfl⟩
theorem ln_63 : ln 63 = 4 := rfl
theorem dk_64 {α : Type} {w : Wd} {f : Nat → Option α} (h : wn w = 66) : dr (some 64) 8 w f = f 64 := dr_at h ⟨by decide, rfl⟩
theorem ln_64 : ln 64 = 4 := rfl
theorem dk_65 {α : Type} {w : Wd} {f : Nat → Option α} (h : wn w = 66) : dr (some 65) 8 w f = f 65 := dr_at h ⟨by decide, rfl⟩
theorem ln_65 : ln 65 = 160 := rfl
