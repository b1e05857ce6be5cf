/-! worlds: what the cells hold, by their numbers in the order of making -/
def kdL : List Nat := [6, 8, 8, 12, 11, 1, 8, 8, 0, 8, 12, 5, 5, 5, 5, 5, 5, 10, 5, 5, 5, 5, 5, 5, 3, 8, 8, 3, 8, 8, 3, 8, 8, 3, 8, 8, 3, 8, 8, 3, 8, 8, 2, 8, 2, 8, 2, 8, 2, 8, 4, 8, 7, 8, 8, 8, 8, 8, 8, 8, 8, 8, 9, 8, 8, 8]
def lnL : List Nat := [0, 8, 8, 6, 6, 0, 160, 793, 0, 8, 6, 0, 0, 0, 0, 0, 0, 4, 0, 0, 0, 0, 0, 0, 0, 160, 3, 0, 160, 3, 0, 160, 3, 0, 160, 3, 0, 160, 3, 0, 160, 3, 0, 40, 0, 40, 0, 40, 0, 40, 0, 31, 0, 960, 6, 160, 8, 6, 30, 8, 8, 30, 4, 4, 4, 160]
/-- the kind of cell i: 0 .. 7 an object of that sort, 8 ints, 9 booleans, 10 .. 12 references -/
def kd (i : Nat) : Nat := kdL.getD i 99
/-- how long row i is -/
def ln (i : Nat) : Nat := lnL.getD i 0
def nsl (c : Nat) : Nat := ([6, 9, 3, 4, 9, 6, 13, 46] : List Nat).getD c 0
/-- a field: 0 an int, 1 a reference, 2 a long, 3 a boolean -/
def ftyL : List (List Nat) := [[3, 0, 0, 0, 1, 1], [1, 0, 0, 0, 0, 0, 0, 0, 1], [1, 0, 0], [1, 1, 0, 3], [0, 0, 0, 0, 0, 0, 0, 1, 1], [0, 0, 0, 0, 0, 0], [1, 1, 1, 0, 0, 1, 0, 0, 1, 1, 1, 1, 1], [0, 1, 1, 0, 0, 1, 0, 0, 1, 1, 1, 0, 0, 0, 0, 0, 0, 0, 0, 0, 0, 0, 0, 2, 0, 3, 0, 0, 0, 0, 0, 0, 0, 0, 0, 0, 1, 1, 1, 0, 0, 0, 1, 1, 1, 1]]
def fty (c k : Nat) : Nat := (ftyL.getD c []).getD k 0
def strL : List String := ["lasts told * 3 + 5 ; paces 10 - untold ; stops 50 < untold ;", "told", "untold", "step", "number", "day", "worn", "lasts", "paces", "stops", "or", "and", "not"]
def sLen : List Nat := [60, 4, 6, 4, 6, 3, 4, 5, 5, 5, 2, 3, 3]
def sByt : List (List Int32) := [[108, 97, 115, 116, 115, 32, 116, 111, 108, 100, 32, 42, 32, 51, 32, 43, 32, 53, 32, 59, 32, 112, 97, 99, 101, 115, 32, 49, 48, 32, 45, 32, 117, 110, 116, 111, 108, 100, 32, 59, 32, 115, 116, 111, 112, 115, 32, 53, 48, 32, 60, 32, 117, 110, 116, 111, 108, 100, 32, 59], [116, 111, 108, 100], [117, 110, 116, 111, 108, 100], [115, 116, 101, 112], [110, 117, 109, 98, 101, 114], [100, 97, 121], [119, 111, 114, 110], [108, 97, 115, 116, 115], [112, 97, 99, 101, 115], [115, 116, 111, 112, 115], [111, 114], [97, 110, 100], [110, 111, 116]]
abbrev Wd : Type := (Nat → Nat → Int32) × (Nat → Nat → Option Nat) × (Nat → Nat → Int64) × Nat
def gI (w : Wd) (i k : Nat) : Int32 := w.1 i k
def gR (w : Wd) (i k : Nat) : Option Nat := w.2.1 i k
def gL (w : Wd) (i k : Nat) : Int64 := w.2.2.1 i k
def wn (w : Wd) : Nat := w.2.2.2
def u2 {α : Type} (f : Nat → Nat → α) (i k : Nat) (v : α) : Nat → Nat → α := fun a b => if a = i ∧ b = k then v else f a b
def sI (w : Wd) (i k : Nat) (v : Int32) : Wd := (u2 w.1 i k v, w.2)
def sR (w : Wd) (i k : Nat) (v : Option Nat) : Wd := (w.1, u2 w.2.1 i k v, w.2.2)
def sL (w : Wd) (i k : Nat) (v : Int64) : Wd := (w.1, w.2.1, u2 w.2.2.1 i k v, w.2.2.2)
/-- a whole row of ints becomes f -/
def cI (w : Wd) (i : Nat) (f : Nat → Int32) : Wd := (fun a b => if a = i then f b else w.1 a b, w.2)
/-- one cell more, all in it as a new one has it -/
def al (w : Wd) : Wd := (fun a b => if a = wn w then 0 else w.1 a b, fun a b => if a = wn w then none else w.2.1 a b, fun a b => if a = wn w then 0 else w.2.2.1 a b, wn w + 1)
theorem wn_sI {w : Wd} {i k : Nat} {v : Int32} : wn (sI w i k v) = wn w := rfl
theorem wn_sR {w : Wd} {i k : Nat} {v : Option Nat} : wn (sR w i k v) = wn w := rfl
theorem wn_sL {w : Wd} {i k : Nat} {v : Int64} : wn (sL w i k v) = wn w := rfl
theorem wn_cI {w : Wd} {i : Nat} {f : Nat → Int32} : wn (cI w i f) = wn w := rfl
theorem wn_al {w : Wd} : wn (al w) = wn w + 1 := rfl
theorem gI_sI {w : Wd} {i k a b : Nat} {v : Int32} : gI (sI w i k v) a b = if a = i ∧ b = k then v else gI w a b := rfl
theorem gR_sI {w : Wd} {i k a b : Nat} {v : Int32} : gR (sI w i k v) a b = gR w a b := rfl
theorem gL_sI {w : Wd} {i k a b : Nat} {v : Int32} : gL (sI w i k v) a b = gL w a b := rfl
theorem gI_sR {w : Wd} {i k a b : Nat} {v : Option Nat} : gI (sR w i k v) a b = gI w a b := rfl
theorem gR_sR {w : Wd} {i k a b : Nat} {v : Option Nat} : gR (sR w i k v) a b = if a = i ∧ b = k then v else gR w a b := rfl
theorem gL_sR {w : Wd} {i k a b : Nat} {v : Option Nat} : gL (sR w i k v) a b = gL w a b := rfl
theorem gI_sL {w : Wd} {i k a b : Nat} {v : Int64} : gI (sL w i k v) a b = gI w a b := rfl
theorem gR_sL {w : Wd} {i k a b : Nat} {v : Int64} : gR (sL w i k v) a b = gR w a b := rfl
theorem gL_sL {w : Wd} {i k a b : Nat} {v : Int64} : gL (sL w i k v) a b = if a = i ∧ b = k then v else gL w a b := rfl
theorem gI_cI {w : Wd} {i a b : Nat} {f : Nat → Int32} : gI (cI w i f) a b = if a = i then f b else gI w a b := rfl
theorem gR_cI {w : Wd} {i a b : Nat} {f : Nat → Int32} : gR (cI w i f) a b = gR w a b := rfl
theorem gL_cI {w : Wd} {i a b : Nat} {f : Nat → Int32} : gL (cI w i f) a b = gL w a b := rfl
theorem gI_al {w : Wd} {a b : Nat} : gI (al w) a b = if a = wn w then 0 else gI w a b := rfl
theorem gR_al {w : Wd} {a b : Nat} : gR (al w) a b = if a = wn w then none else gR w a b := rfl
theorem gL_al {w : Wd} {a b : Nat} : gL (al w) a b = if a = wn w then 0 else gL w a b := rfl
/-- what stays the same over a run: the launch, the tables' numbers, the first address, the texts' addresses -/
abbrev En : Type := Launch × va_G × (Nat → ClassId) × Nat × (Nat → Nat) × (Nat → Nat) × Nat
def eb (Γ : En) : Nat := Γ.2.2.2.1
def rv (Γ : En) (r : Option Nat) : Value := va_rf (r.map (fun i => eb Γ + i))
def fval (Γ : En) (w : Wd) (i k : Nat) : Value := if fty (kd i) k = 1 then rv Γ (gR w i k) else if fty (kd i) k = 2 then .long (gL w i k) else .int (gI w i k)
def pic (Γ : En) (w : Wd) (i : Nat) : va_E :=
  if kd i < 8 then .inr (kd i, (List.range (nsl (kd i))).map (fval Γ w i))
  else if kd i ≤ 9 then .inl (Γ.2.2.1 (kd i), ln i, .inl (gI w i))
  else .inl (Γ.2.2.1 (kd i), ln i, .inr (.inr (.inr (.inr (fun k => (gR w i k).map (fun j => eb Γ + j))))))
def wl (Γ : En) (w : Wd) : va_W := (List.range (wn w)).map (fun i => (eb Γ + i, pic Γ w i))
def Ab (Γ : En) : Nat → Prop := fun q => eb Γ ≤ q
def Rp (Γ : En) (w : Wd) (H : Heap) : Prop := H.size = eb Γ + wn w ∧ va_P Γ.2.1 vwCl (wl Γ w) H
def tysOf (Γ : En) : List (ClassId × FieldType) := [(Γ.2.2.1 8, .int), (Γ.2.2.1 9, .boolean), (Γ.2.2.1 10, .object RX2), (Γ.2.2.1 11, .object RX3), (Γ.2.2.1 12, .object RX5)]
theorem wl_len {Γ : En} {w : Wd} : (wl Γ w).length = wn w := by simp [wl]
theorem wl_at {Γ : En} {w : Wd} {i : Nat} (h : i < wn w) : (wl Γ w)[i]? = some (eb Γ + i, pic Γ w i) := by simp [wl, h]
theorem wl_of {Γ : En} {w : Wd} {i : Nat} {q : Nat × va_E} (h : (wl Γ w)[i]? = some q) : i < wn w ∧ q = (eb Γ + i, pic Γ w i) := by
  have h1 : i < wn w := by
    have := (List.getElem?_eq_some_iff.mp h).1
    rwa [wl_len] at this
  rw [wl_at h1] at h
  exact ⟨h1, (Option.some.inj h).symm⟩
theorem wl_D {Γ : En} {w : Wd} : va_D (Ab Γ) (wl Γ w) := by
  refine ⟨fun i j p q hi hj e => ?_, fun k q hk => ?_⟩
  · obtain ⟨_, rfl⟩ := wl_of hi
    obtain ⟨_, rfl⟩ := wl_of hj
    have : eb Γ + i = eb Γ + j := e
    omega
  · obtain ⟨_, rfl⟩ := wl_of hk
    exact Nat.le_add_right _ _
theorem wl_set {Γ : En} {w w' : Wd} {i : Nat} {e : va_E} (hn : wn w' = wn w) (he : pic Γ w' i = e) (ho : ∀ j, j ≠ i → pic Γ w' j = pic Γ w j) : (wl Γ w).set i (eb Γ + i, e) = wl Γ w' := by
  apply List.ext_getElem?
  intro j
  by_cases hj : j < wn w
  · rw [wl_at (w := w') (by omega), List.getElem?_set]
    by_cases hij : i = j
    · subst hij
      simp [wl_len, hj, he]
    · rw [if_neg hij, wl_at hj, ho j (fun e => hij e.symm)]
  · rw [List.getElem?_eq_none (by rw [List.length_set, wl_len]; omega), List.getElem?_eq_none (by rw [wl_len]; omega)]
theorem wl_app {Γ : En} {w w' : Wd} {e : va_E} (hn : wn w' = wn w + 1) (he : pic Γ w' (wn w) = e) (ho : ∀ j, j < wn w → pic Γ w' j = pic Γ w j) : wl Γ w ++ [(eb Γ + wn w, e)] = wl Γ w' := by
  apply List.ext_getElem?
  intro j
  by_cases hj : j < wn w
  · rw [List.getElem?_append_left (by rw [wl_len]; exact hj), wl_at hj, wl_at (by omega), ho j hj]
  · rw [List.getElem?_append_right (by rw [wl_len]; omega), wl_len]
    by_cases hj2 : j = wn w
    · subst hj2
      rw [Nat.sub_self, wl_at (by omega), he]
      rfl
    · rw [List.getElem?_eq_none (by show 1 ≤ j - wn w; omega), List.getElem?_eq_none (by rw [wl_len]; omega)]
theorem Rp_lt {Γ : En} {w : Wd} {H : Heap} (h : Rp Γ w H) {i : Nat} (hi : i < wn w) : eb Γ + i < H.size := by
  rw [h.1]; omega
theorem fval_at {Γ : En} {w : Wd} {i k : Nat} (h : k < nsl (kd i)) : ((List.range (nsl (kd i))).map (fval Γ w i))[k]? = some (fval Γ w i k) := by simp [h]
theorem fset {Γ : En} {w w' : Wd} {i k : Nat} {v : Value} (hk : k < nsl (kd i)) (hv : fval Γ w' i k = v) (ho : ∀ j, j ≠ k → fval Γ w' i j = fval Γ w i j) : ((List.range (nsl (kd i))).map (fval Γ w i)).set k v = (List.range (nsl (kd i))).map (fval Γ w' i) := by
  apply List.ext_getElem?
  intro j
  rw [List.getElem?_set]
  by_cases hj : j < nsl (kd i)
  · by_cases hkj : k = j
    · subst hkj
      simp [hj, hv]
    · rw [if_neg hkj]
      simp [hj, ho j (fun e => hkj e.symm)]
  · by_cases hkj : k = j
    · omega
    · rw [if_neg hkj]
      simp [hj]
theorem pic_ob {Γ : En} {w : Wd} {i c : Nat} (h : kd i = c) (hc : c < 8) : pic Γ w i = .inr (c, (List.range (nsl c)).map (fval Γ w i)) := by
  subst h
  simp [pic, hc]
theorem pic_ia {Γ : En} {w : Wd} {i : Nat} (h : kd i = 8) : pic Γ w i = .inl (Γ.2.2.1 8, ln i, .inl (gI w i)) := by simp [pic, h]
theorem pic_za {Γ : En} {w : Wd} {i : Nat} (h : kd i = 9) : pic Γ w i = .inl (Γ.2.2.1 9, ln i, .inl (gI w i)) := by simp [pic, h]
theorem pic_ra {Γ : En} {w : Wd} {i c : Nat} (h : kd i = c) (hc : 9 < c) : pic Γ w i = .inl (Γ.2.2.1 c, ln i, .inr (.inr (.inr (.inr (fun k => (gR w i k).map (fun j => eb Γ + j)))))) := by
  subst h
  rw [pic, if_neg (by omega), if_neg (by omega)]
/-- the picture of a cell that no change touches -/
theorem pic_eq {Γ : En} {w w' : Wd} {j : Nat} (h1 : ∀ k, gI w' j k = gI w j k) (h2 : ∀ k, gR w' j k = gR w j k) (h3 : ∀ k, gL w' j k = gL w j k) : pic Γ w' j = pic Γ w j := by
  have e1 : gI w' j = gI w j := funext h1
  have e2 : fval Γ w' j = fval Γ w j := by
    funext k
    simp only [fval, h1, h2, h3]
  have e3 : (fun k => (gR w' j k).map (fun j => eb Γ + j)) = (fun k => (gR w j k).map (fun j => eb Γ + j)) := by
    funext k
    rw [h2]
  simp only [pic, e1, e2, e3]

