def nestL : List Cond := [.methodLinkNest RX6 43 yX1_init RX6, .methodLinkNest RX0 35 yX5_init RX6, .methodLinkNest RX6 70 yX5_init RX6, .methodLinkNest RX6 71 yX3_init RX6, .methodLinkNest RX6 72 yX2_init RX6, .methodLinkNest RX4 47 yX6_has RX6, .methodLinkNest RX4 114 yX6_bit RX6, .methodLinkNest RX4 55 yX6_bounded RX6, .methodLinkNest RX2 22 yX6_bounded RX6]
theorem nestL_on : ∀ w ∈ nestL, w.onTables = true := by decide +kernel
/-- where each text constant stands -/
def strP : List (String × Nat) := [(RX6, 73), (RX1, 104), (RX1, 110), (RX1, 112), (RX1, 114), (RX1, 116), (RX1, 118), (RX1, 120), (RX1, 122), (RX1, 124), (RX1, 126), (RX1, 128), (RX1, 130)]
def adK (Γ : En) : Nat → Nat := Γ.2.2.2.2.1
def adV (Γ : En) : Nat → Nat := Γ.2.2.2.2.2.1
def adU (Γ : En) : Nat := Γ.2.2.2.2.2.2
def undL : List Int32 := [-1, 0, 0, 1, 2, 0]
/-- what of a state's own statics and constants is used: it lies below the first address, nobody writes it -/
def SE (Γ : En) (U : State) (H : Heap) : Prop :=
  (∀ w ∈ nestL, va_Nw w U) ∧ (va_AO RX2 U ∧ va_AO RX3 U ∧ va_AO RX5 U) ∧
  vk_S 13 sLen sByt (adK Γ) (adV Γ) (Ab Γ) U H ∧
  (∀ i : Nat, i < 13 → vk_R (strP.getD i ("", 0)).1 (strP.getD i ("", 0)).2 (strL.getD i "") (adK Γ i) U) ∧
  (va_Z RX6 "UNDER" "[I" (.ref (adU Γ)) (Ab Γ) U H ∧ va_T .int (adU Γ) 6 (fun j => .int (undL.getD j 0)) (Ab Γ) U H) ∧
  va_Z RJ0 "COMPACT_STRINGS" "Z" (.int 1) (Ab Γ) U H ∧ va_Zq RJ3 "SIOOBE_FORMATTER" "Ljava/util/function/BiFunction;" (Ab Γ) U H
theorem SE_heap {Γ : En} {U : State} {H H1 : Heap} (h : SE Γ U H) (hq : ∀ a : Nat, a < H.size → ¬ Ab Γ a → H1[a]? = H[a]?) : SE Γ U H1 :=
  ⟨h.1, h.2.1, h.2.2.1.kept hq, h.2.2.2.1, ⟨h.2.2.2.2.1.1.kept hq, h.2.2.2.2.1.2.kept hq⟩, h.2.2.2.2.2.1.kept hq, h.2.2.2.2.2.2.kept hq⟩
theorem SE_same {Γ : En} {u U : State} {H : Heap} (hv : u.vm = U.vm) (h : SE Γ u H) : SE Γ U H := by
  have ha : u.vm.Alike U.vm := by rw [hv]; exact Vm.Alike.refl _
  exact ⟨fun w hw => (h.1 w hw).same (nestL_on w hw) hv, ⟨h.2.1.1.moved ha, h.2.1.2.1.moved ha, h.2.1.2.2.moved ha⟩, h.2.2.1.moved ha, fun i hi => (h.2.2.2.1 i hi).same hv.symm, ⟨h.2.2.2.2.1.1.moved ha, h.2.2.2.2.1.2.moved ha⟩, h.2.2.2.2.2.1.moved ha, h.2.2.2.2.2.2.moved ha⟩
theorem nest_warm {s U : State} (hW : s.WarmedH U.vm) (h : ∀ w ∈ nestL, va_Nw w s) : ∀ w ∈ nestL, va_Nw w U := by
  intro w hw
  have h1 := h w hw
  simp only [nestL, List.mem_cons, List.not_mem_nil, or_false] at hw
  rcases hw with rfl | rfl | rfl | rfl | rfl | rfl | rfl | rfl | rfl <;> exact va_Nw.warmM hW h1
theorem SE_warm {Γ : En} {s U : State} {H : Heap} (hW : s.WarmedH U.vm) (h : SE Γ s H) : SE Γ U H := by
  have ha := hW.alike
  exact ⟨nest_warm hW h.1, ⟨h.2.1.1.moved ha, h.2.1.2.1.moved ha, h.2.1.2.2.moved ha⟩, h.2.2.1.moved ha, fun i hi => (h.2.2.2.1 i hi).warm hW, ⟨h.2.2.2.2.1.1.moved ha, h.2.2.2.2.1.2.moved ha⟩, h.2.2.2.2.2.1.moved ha, h.2.2.2.2.2.2.moved ha⟩
/-- a method's world at its start -/
def Bd (Γ : En) (w : Wd) (U : State) : Prop := Rp Γ w U.heap ∧ va_K Γ.2.1 vwCl (tysOf Γ) U ∧ SE Γ U U.heap
theorem Bd_blind {Γ : En} {w : Wd} {vs : List Value} : FrameBlind (va_Pc vs (Bd Γ w)) := fun a U g mk q => by
  obtain ⟨q0, qP, qK, qE⟩ := q
  exact ⟨q0, qP, va_K.moved (u := U) (U := U.calling g mk a) (Vm.Alike.refl U.vm) qK, SE_same (u := U) (U := U.calling g mk a) rfl qE⟩
def rmd (d K N : Nat) : Room := { frames := d, cells := K, slots := N, locals := 64 * d }
/-- a method's contracts, by what it answers -/
def MtI (Γ : En) (y : MethodName) (cc : ByteArray) (mL : Nat) (ret : Option FieldType) (d K N : Nat) (vs : List Value) (w : Wd) (o : Option (Int32 × Wd)) : Prop := ∀ r w', o = some (r, w') → Met Γ.1 y (.code y cc mL ret :: lw_U) (rmd d K N) (va_Pc vs (Bd Γ w)) (va_Qi (fun (r2 : Int32) (w2 : Wd) => r2 = r ∧ w2 = w') (fun (w2 : Wd) t => Rp Γ w2 t.heap) (Ab Γ)) K N (Ab Γ)
def MtL (Γ : En) (y : MethodName) (cc : ByteArray) (mL : Nat) (ret : Option FieldType) (d K N : Nat) (vs : List Value) (w : Wd) (o : Option (Int64 × Wd)) : Prop := ∀ r w', o = some (r, w') → Met Γ.1 y (.code y cc mL ret :: lw_U) (rmd d K N) (va_Pc vs (Bd Γ w)) (va_Ql (fun (r2 : Int64) (w2 : Wd) => r2 = r ∧ w2 = w') (fun (w2 : Wd) t => Rp Γ w2 t.heap) (Ab Γ)) K N (Ab Γ)
def MtV (Γ : En) (y : MethodName) (cc : ByteArray) (mL : Nat) (ret : Option FieldType) (d K N : Nat) (vs : List Value) (w : Wd) (o : Option (Unit × Wd)) : Prop := ∀ r w', o = some (r, w') → Met Γ.1 y (.code y cc mL ret :: lw_U) (rmd d K N) (va_Pc vs (Bd Γ w)) (va_Qv (fun (w2 : Wd) => w2 = w') (fun (w2 : Wd) t => Rp Γ w2 t.heap) (Ab Γ)) K N (Ab Γ)
def MtQ (Γ : En) (y : MethodName) (cc : ByteArray) (mL : Nat) (ret : Option FieldType) (d K N : Nat) (vs : List Value) (w : Wd) (o : Option (Option Nat × Wd)) : Prop := ∀ r w', o = some (r, w') → Met Γ.1 y (.code y cc mL ret :: lw_U) (rmd d K N) (va_Pc vs (Bd Γ w)) (va_Qq (fun (r2 : Option Nat) (w2 : Wd) => r2 = r.map (fun i => eb Γ + i) ∧ w2 = w') (fun (w2 : Wd) t => Rp Γ w2 t.heap) (Ab Γ)) K N (Ab Γ)
/-- what a place of the locals holds: an int, a reference, a long, a text constant -/
abbrev LV : Type := Int32 ⊕ (Option Nat ⊕ (Int64 ⊕ { v : Value // v = .null ∨ ∃ a : Nat, v = .ref a }))
def sref (a : Nat) : { v : Value // v = .null ∨ ∃ a : Nat, v = .ref a } := ⟨.ref a, Or.inr ⟨a, rfl⟩⟩
def vL (Γ : En) (x : LV) : Value := match x with
  | .inl a => .int a
  | .inr (.inl r) => rv Γ r
  | .inr (.inr (.inl a)) => .long a
  | .inr (.inr (.inr v)) => v.1
def isL (x : LV) : Bool := match x with
  | .inr (.inr (.inl _)) => true
  | _ => false
def lvm (Γ : En) (lv : List (Nat × LV)) : List (Nat × Value) := lv.map fun q => (q.1, vL Γ q.2)
theorem rv_cat {Γ : En} {r : Option Nat} : (rv Γ r).category = 1 := by cases r <;> rfl
theorem vL_cat {Γ : En} {x : LV} : ((vL Γ x).category == 2) = isL x := by
  rcases x with a | r | a | ⟨v, hv⟩
  · rfl
  · show ((rv Γ r).category == 2) = false
    rw [rv_cat]; rfl
  · rfl
  · show (v.category == 2) = false
    rcases hv with rfl | ⟨a, rfl⟩ <;> rfl
theorem lvm_at {Γ : En} {lv : List (Nat × LV)} {q j : Nat} {x : LV} (h : lv[q]? = some (j, x)) : (lvm Γ lv)[q]? = some (j, vL Γ x) := by simp [lvm, h]
def lset1 (lv : List (Nat × LV)) (i : Nat) (x : LV) : List (Nat × LV) := (i, x) :: lv.filter (fun q => !(q.1 == i) && !(q.1 + 1 == i && isL q.2))
def lset2 (lv : List (Nat × LV)) (i : Nat) (x : LV) : List (Nat × LV) := (i, x) :: lv.filter (fun q => !(q.1 == i) && (!(q.1 == i + 1) && !(q.1 + 1 == i && isL q.2)))
theorem lvm_set1 {Γ : En} {lv : List (Nat × LV)} {i : Nat} {x : LV} : (i, vL Γ x) :: (lvm Γ lv).filter (fun q => !(q.1 == i) && !(q.1 + 1 == i && q.2.category == 2)) = lvm Γ (lset1 lv i x) := by
  simp only [lvm, lset1, List.map_cons, List.filter_map]
  congr 2
  apply List.filter_congr
  intro q hq
  simp only [Function.comp, vL_cat]
theorem lvm_set2 {Γ : En} {lv : List (Nat × LV)} {i : Nat} {x : LV} : (i, vL Γ x) :: (lvm Γ lv).filter (fun q => !(q.1 == i) && (!(q.1 == i + 1) && !(q.1 + 1 == i && q.2.category == 2))) = lvm Γ (lset2 lv i x) := by
  simp only [lvm, lset2, List.map_cons, List.filter_map]
  congr 2
  apply List.filter_congr
  intro q hq
  simp only [Function.comp, vL_cat]
def tpick (l : List (Nat × LV)) (ks : List Nat) : List (Nat × LV) := ks.filterMap (fun k => l[k]?)
theorem lvm_pick {Γ : En} {lv : List (Nat × LV)} {ks : List Nat} : lv_pick (lvm Γ lv) ks = lvm Γ (tpick lv ks) := by
  simp only [lv_pick, lvm, tpick, List.map_filterMap, List.getElem?_map]
/-- arguments, typed, and where they lie -/
def targs : Nat → List LV → List (Nat × LV)
  | _, [] => []
  | i, x :: xs => (i, x) :: targs (if isL x = true then i + 2 else i + 1) xs
theorem lvm_args {Γ : En} : ∀ (xs : List LV) (i : Nat), lv_args i (xs.map (vL Γ)) = lvm Γ (targs i xs)
  | [], _ => rfl
  | x :: xs, i => by
    have hc := vL_cat (Γ := Γ) (x := x)
    have e : (if (vL Γ x).category = 2 then i + 2 else i + 1) = (if isL x = true then i + 2 else i + 1) := by
      by_cases hq : isL x = true
      · rw [hq] at hc
        rw [if_pos hq, if_pos (by simpa using hc)]
      · have hq2 : isL x = false := by simpa using hq
        rw [hq2] at hc
        rw [if_neg hq, if_neg (by simpa using hc)]
    show (i, vL Γ x) :: lv_args (if (vL Γ x).category = 2 then i + 2 else i + 1) (xs.map (vL Γ)) = _
    rw [e, lvm_args xs]
    rfl
/-- a walk's surroundings -/
abbrev Cx : Type := En × Program × Env × Room × State × MethodId × Array Value × List Frame × Method × Code × Nat × Nat × (State → Prop) × (Value → Wd → Prop)
/-- the walk: from this place with these locals, this stack and this world the method comes to a state as Q wants it -/
def G (X : Cx) (k n pc : Nat) (lv : List (Nat × LV)) (st : List Value) (w : Wd) : Prop := match X with
  | (Γ, p, e, R, s, m, args, below, meth, c, nL, n0, Q, _) => ∀ (H : Heap) (locs : List Loc) (ls : Array Slot), Rp Γ w H → va_S (Ab Γ) s.heap H locs → lv_has ls nL (lvm Γ lv) → n0 + k = wn w → W p Γ.1 e R s m args below meth c H locs k n Q (F0 m pc ls st)
def Ok (X : Cx) (cc : ByteArray) (own : String) (d K N : Nat) : Prop := match X with
  | (Γ, p, _, R, s, m, args, _, meth, c, nL, n0, _, _) => p.tables.exec = Jvm.exec ∧ c.code = cc ∧ c.maxLocals = nL ∧ s.vm.findClass own = some m.cls ∧ (∀ w ∈ lw_U, w.before args s = true) ∧ va_K Γ.2.1 vwCl (tysOf Γ) s ∧ SE Γ s s.heap ∧ s.heap.size = eb Γ + n0 ∧ meth.locks = false ∧ (d ≤ R.frames ∧ 64 * d ≤ R.locals ∧ K ≤ R.cells ∧ N ≤ R.slots)
def n0X (X : Cx) : Nat := X.2.2.2.2.2.2.2.2.2.2.2.1
def qX (X : Cx) : Value → Wd → Prop := X.2.2.2.2.2.2.2.2.2.2.2.2.2
def nLX (X : Cx) : Nat := X.2.2.2.2.2.2.2.2.2.2.1
def RetI (X : Cx) (ty : FieldType) (K N : Nat) : Prop := match X with
  | (Γ, _, _, _, s, _, args, below, meth, _, _, _, Q, q) => meth.sig.returnType = some ty ∧ Q = MQ below (va_Qi (fun (r : Int32) (w : Wd) => q (.int r) w) (fun (w : Wd) t => Rp Γ w t.heap) (Ab Γ)) args s K N (Ab Γ)
def RetL (X : Cx) (K N : Nat) : Prop := match X with
  | (Γ, _, _, _, s, _, args, below, meth, _, _, _, Q, q) => meth.sig.returnType = some .long ∧ Q = MQ below (va_Ql (fun (r : Int64) (w : Wd) => q (.long r) w) (fun (w : Wd) t => Rp Γ w t.heap) (Ab Γ)) args s K N (Ab Γ)
def RetV (X : Cx) (K N : Nat) : Prop := match X with
  | (Γ, _, _, _, s, _, args, below, meth, _, _, _, Q, q) => meth.sig.returnType = none ∧ Q = MQ below (va_Qv (fun (w : Wd) => q .null w) (fun (w : Wd) t => Rp Γ w t.heap) (Ab Γ)) args s K N (Ab Γ)
def RetQ (X : Cx) (ty : FieldType) (K N : Nat) : Prop := match X with
  | (Γ, _, _, _, s, _, args, below, meth, _, _, _, Q, q) => meth.sig.returnType = some ty ∧ (∃ n, ty = .object n) ∧ Q = MQ below (va_Qq (fun (r : Option Nat) (w : Wd) => q (va_rf r) w) (fun (w : Wd) t => Rp Γ w t.heap) (Ab Γ)) args s K N (Ab Γ)
/-- what a program answers is what the walk owes -/
def OkR {α : Type} (X : Cx) (enc : α → Value) (e : Option (α × Wd)) : Prop := ∃ r w', e = some (r, w') ∧ qX X (enc r) w'
def bnd {α β : Type} (o : Option (α × Wd)) (f : α → Wd → Option (β × Wd)) : Option (β × Wd) := match o with
  | none => none
  | some (r, w) => f r w
theorem bnd_ok {α β : Type} {X : Cx} {enc : β → Value} {o : Option (α × Wd)} {f : α → Wd → Option (β × Wd)} (h : OkR X enc (bnd o f)) : ∃ r w, o = some (r, w) ∧ OkR X enc (f r w) := by
  cases o with
  | none => obtain ⟨_, _, e, _⟩ := h; cases e
  | some q => exact ⟨q.1, q.2, rfl, h⟩
/-- a reference is looked into: it is there, and of that kind -/
def dr {α : Type} (r : Option Nat) (c : Nat) (w : Wd) (f : Nat → Option α) : Option α := match r with
  | none => none
  | some a => if a < wn w ∧ kd a = c then f a else none
theorem dr_ok {α : Type} {X : Cx} {enc : α → Value} {r : Option Nat} {c : Nat} {w : Wd} {f : Nat → Option (α × Wd)} (h : OkR X enc (dr r c w f)) : ∃ a, r = some a ∧ (a < wn w ∧ kd a = c) ∧ OkR X enc (f a) := by
  cases r with
  | none => obtain ⟨_, _, e, _⟩ := h; cases e
  | some a =>
    by_cases hc : a < wn w ∧ kd a = c
    · refine ⟨a, rfl, hc, ?_⟩
      simpa [dr, hc] using h
    · obtain ⟨_, _, e, _⟩ := h
      simp [dr, hc] at e
/-- a guard -/
def grd {α : Type} (c : Prop) [Decidable c] (e : Option α) : Option α := if c then e else none
theorem grd_ok {α : Type} {X : Cx} {enc : α → Value} {c : Prop} [Decidable c] {e : Option (α × Wd)} (h : OkR X enc (grd c e)) : c ∧ OkR X enc e := by
  by_cases hc : c
  · exact ⟨hc, by simpa [grd, hc] using h⟩
  · obtain ⟨_, _, e, _⟩ := h
    simp [grd, hc] at e
/-- an index within a row -/
abbrev vin (i : Int32) (n : Nat) : Prop := ¬ (i < 0 ∨ n ≤ i.toNatClampNeg)
theorem w_size {p : Program} {l : Launch} {e : Env} {R : Room} {s : State} {m : MethodId} {args : Array Value} {below : List Frame} {meth : Method} {c : Code} {H : Heap} {locs : List Loc} {cells slots : Nat} {Q : State → Prop} {g : JFrame} (kk : H.size ≤ s.heap.size + cells → W p l e R s m args below meth c H locs cells slots Q g) : W p l e R s m args below meth c H locs cells slots Q g := fun T hT X => kk (by rw [← hT]; exact X.heapSize) T hT X
