/-! the language of the texts, on bytes b of length z -/
def cL (x : Int32) : Bool := decide (97 ≤ x ∧ x ≤ 122)
def cD (x : Int32) : Bool := decide (48 ≤ x ∧ x ≤ 57)
def cS (x : Int32) : Bool := decide (x = 32 ∨ x = 10)
def sc (c : Int32 → Bool) (b : Nat → Int32) : Nat → Nat → Nat
  | 0, p => p
  | n + 1, p => if c (b p) = true then sc c b n (p + 1) else p
theorem sc_le (c : Int32 → Bool) (b : Nat → Int32) : ∀ n p, p ≤ sc c b n p ∧ sc c b n p ≤ p + n
  | 0, p => ⟨Nat.le_refl _, Nat.le_refl _⟩
  | n + 1, p => by
    have h := sc_le c b n (p + 1)
    unfold sc
    split
    · omega
    · omega
def isW (b : Nat → Int32) (q e k : Nat) : Bool := decide (e = q + (sByt.getD k []).length ∧ ∀ i, i < (sByt.getD k []).length → b (q + i) = (sByt.getD k []).getD i 0)
/-- where the token from p begins; where its word ends; where its digits end -/
def tS (b : Nat → Int32) (z p : Nat) : Nat := sc cS b (z - p) p
def wE (b : Nat → Int32) (z q : Nat) : Nat := sc cL b (z - q) q
def nE (b : Nat → Int32) (z q : Nat) : Nat := sc cD b (z - q) q
def vl (b : Nat → Int32) : Nat → Nat → Int32 → Int32
  | 0, _, a => a
  | n + 1, q, a => if cD (b q) = true then vl b n (q + 1) (a * 10 + b q - 48) else a
def nmT (b : Nat → Int32) (q e : Nat) : Int32 := if isW b q e 1 = true then 0 else if isW b q e 2 = true then 1 else if isW b q e 3 = true then 2 else if isW b q e 4 = true then 3 else if isW b q e 5 = true then 4 else if isW b q e 6 = true then 5 else -1
def wdT (b : Nat → Int32) (q e : Nat) : Int32 := if isW b q e 7 = true then 4 else if isW b q e 8 = true then 5 else if isW b q e 9 = true then 6 else if isW b q e 10 = true then 7 else if isW b q e 11 = true then 8 else if isW b q e 12 = true then 9 else 0
def sgT (x : Int32) : Int32 := if x = 40 then 10 else if x = 41 then 11 else if x = 42 then 15 else if x = 43 then 13 else if x = 45 then 14 else if x = 59 then 12 else if x = 60 then 16 else if x = 61 then 17 else 0
def tk (b : Nat → Int32) (z p : Nat) : Int32 := if tS b z p < z then (if cL (b (tS b z p)) = true then (if nmT b (tS b z p) (wE b z (tS b z p)) = -1 then wdT b (tS b z p) (wE b z (tS b z p)) else 3) else if cD (b (tS b z p)) = true then (if nE b z (tS b z p) ≤ tS b z p + 4 then 2 else 0) else sgT (b (tS b z p))) else 1
def nx (b : Nat → Int32) (z p : Nat) : Nat := if tS b z p < z then (if cL (b (tS b z p)) = true then wE b z (tS b z p) else if cD (b (tS b z p)) = true then nE b z (tS b z p) else tS b z p + 1) else tS b z p
def am (b : Nat → Int32) (z p : Nat) : Int32 := if cL (b (tS b z p)) = true then nmT b (tS b z p) (wE b z (tS b z p)) else vl b (z - tS b z p) (tS b z p) 0
theorem tS_le {b : Nat → Int32} {z p : Nat} (h : p ≤ z) : p ≤ tS b z p ∧ tS b z p ≤ z := by
  have := sc_le cS b (z - p) p
  unfold tS
  omega
theorem sc_go {c : Int32 → Bool} {b : Nat → Int32} {z q : Nat} (h : q < z) (hc : c (b q) = true) : q < sc c b (z - q) q ∧ sc c b (z - q) q ≤ z := by
  obtain ⟨n, hn⟩ : ∃ n, z - q = n + 1 := ⟨z - q - 1, by omega⟩
  rw [hn, sc, if_pos hc]
  have := sc_le c b n (q + 1)
  omega
theorem nx_le {b : Nat → Int32} {z p : Nat} (h : p ≤ z) : p ≤ nx b z p ∧ nx b z p ≤ z ∧ (tk b z p ≠ 1 → p < nx b z p) := by
  have h1 := tS_le (b := b) h
  unfold nx tk
  by_cases hq : tS b z p < z
  · rw [if_pos hq]
    by_cases hl : cL (b (tS b z p)) = true
    · rw [if_pos hl]
      have := sc_go (b := b) hq hl
      unfold wE
      omega
    · rw [if_neg hl]
      by_cases hd : cD (b (tS b z p)) = true
      · rw [if_pos hd]
        have := sc_go (b := b) hq hd
        unfold nE
        omega
      · rw [if_neg hd]
        omega
  · rw [if_neg hq, if_neg hq]
    exact ⟨h1.1, h1.2, fun z => absurd rfl z⟩
abbrev Sem : Type := (Nat → Int32) → Int32
abbrev Rz : Type := Nat ⊕ (List Int32 × Sem × Nat)
def bR (x : Rz) (f : List Int32 → Sem → Nat → Rz) : Rz := match x with
  | .inl e => .inl e
  | .inr (c, s, p) => f c s p
def opE (t : Int32) : Int32 := if t = 7 then 13 else 0
def opB (t : Int32) : Int32 := if t = 8 then 14 else 0
def opS (t : Int32) : Int32 := if t = 13 then 8 else if t = 14 then 9 else 0
def opT (t : Int32) : Int32 := if t = 15 then 10 else 0
def opC (t : Int32) : Int32 := if t = 16 then 11 else 12
def lp (b : Nat → Int32) (z : Nat) (op : Int32 → Int32) (one : Nat → Rz) : Nat → List Int32 → Sem → Nat → Rz
  | 0, c, s, p => .inr (c, s, p)
  | n + 1, c, s, p => if op (tk b z p) = 0 then .inr (c, s, p) else bR (one (nx b z p)) (fun c2 s2 p2 => lp b z op one n (c ++ (c2 ++ [op (tk b z p)])) (fun e => op2 (op (tk b z p)) (s e) (s2 e)) p2)
def many (b : Nat → Int32) (z : Nat) (op : Int32 → Int32) (one : Nat → Rz) (p : Nat) : Rz := bR (one p) (lp b z op one 160)
def pO (b : Nat → Int32) (z : Nat) (g : Bool) (lo : Nat → Nat → Rz) (p : Nat) : Rz :=
  if tk b z p = 2 then .inr ([16 + am b z p], fun e => op0 e (16 + am b z p), nx b z p)
  else if tk b z p = 3 then .inr ([am b z p], fun e => op0 e (am b z p), nx b z p)
  else if tk b z p = 14 then (if g = true then bR (lo 5 (nx b z p)) (fun c s p2 => .inr (c ++ [7], fun e => op1 7 (s e), p2)) else .inl (tS b z p))
  else if tk b z p = 10 then (if g = true then bR (lo 0 (nx b z p)) (fun c s p2 => if tk b z p2 = 11 then .inr (c, s, nx b z p2) else .inl (tS b z p2)) else .inl (tS b z p))
  else .inl (tS b z p)
def pN (b : Nat → Int32) (z : Nat) (g : Bool) (sum : Nat → Rz) (lo : Nat → Nat → Rz) (p : Nat) : Rz :=
  if tk b z p = 9 then (if g = true then bR (lo 2 (nx b z p)) (fun c s p2 => .inr (c ++ [6], fun e => op1 6 (s e), p2)) else .inl (tS b z p))
  else bR (sum p) (fun c s p1 => if tk b z p1 = 16 ∨ tk b z p1 = 17 then bR (sum (nx b z p1)) (fun c2 s2 p2 => .inr (c ++ (c2 ++ [opC (tk b z p1)]), fun e => op2 (opC (tk b z p1)) (s e) (s2 e), p2)) else .inr (c, s, p1))
def pA (b : Nat → Int32) (z : Nat) (g : Bool) (lo : Nat → Nat → Rz) : Nat → Nat → Rz
  | 5 => pO b z g lo
  | 4 => many b z opT (pO b z g lo)
  | 3 => many b z opS (many b z opT (pO b z g lo))
  | 2 => pN b z g (many b z opS (many b z opT (pO b z g lo))) lo
  | 1 => many b z opB (pN b z g (many b z opS (many b z opT (pO b z g lo))) lo)
  | _ => many b z opE (many b z opB (pN b z g (many b z opS (many b z opT (pO b z g lo))) lo))
/-- r: how many openings more are allowed; j: 0 either, 1 both, 2 not, 3 sum, 4 term, 5 one -/
def pL (b : Nat → Int32) (z : Nat) : Nat → Nat → Nat → Rz
  | 0 => pA b z false (fun _ _ => .inl 0)
  | r + 1 => pA b z true (pL b z r)
def pPart (b : Nat → Int32) (z : Nat) (t : Int32) (p : Nat) : Rz :=
  if tk b z p = t then bR (pL b z 5 0 (nx b z p)) (fun c s p2 => if tk b z p2 = 12 then .inr (c, s, nx b z p2) else .inl (tS b z p2)) else .inl (tS b z p)
/-- what a good reading is -/
def Gd (z k p : Nat) (x : Rz) : Prop := ∀ c s p', x = .inr (c, s, p') → p + c.length ≤ p' ∧ p < p' ∧ p' ≤ z ∧ ∀ env st, st.length + k ≤ 31 → runC env c st = s env :: st
theorem runC_app (env : Nat → Int32) : ∀ (c d st : List Int32), runC env (c ++ d) st = runC env d (runC env c st)
  | [], _, _ => rfl
  | o :: c, d, st => runC_app env c d (stp env o st)
theorem opE_ok {t : Int32} (h : opE t ≠ 0) : ¬ (opE t < 8 ∨ 16 ≤ opE t) ∧ t ≠ 1 := by
  unfold opE at h ⊢
  by_cases h1 : t = 7
  · rw [if_pos h1, h1]; decide
  · rw [if_neg h1] at h; exact absurd rfl h
theorem opB_ok {t : Int32} (h : opB t ≠ 0) : ¬ (opB t < 8 ∨ 16 ≤ opB t) ∧ t ≠ 1 := by
  unfold opB at h ⊢
  by_cases h1 : t = 8
  · rw [if_pos h1, h1]; decide
  · rw [if_neg h1] at h; exact absurd rfl h
theorem opT_ok {t : Int32} (h : opT t ≠ 0) : ¬ (opT t < 8 ∨ 16 ≤ opT t) ∧ t ≠ 1 := by
  unfold opT at h ⊢
  by_cases h1 : t = 15
  · rw [if_pos h1, h1]; decide
  · rw [if_neg h1] at h; exact absurd rfl h
theorem opS_ok {t : Int32} (h : opS t ≠ 0) : ¬ (opS t < 8 ∨ 16 ≤ opS t) ∧ t ≠ 1 := by
  unfold opS at h ⊢
  by_cases h1 : t = 13
  · rw [if_pos h1, h1]; decide
  · rw [if_neg h1] at h ⊢
    by_cases h2 : t = 14
    · rw [if_pos h2, h2]; decide
    · rw [if_neg h2] at h; exact absurd rfl h
theorem opC_ok {t : Int32} : ¬ (opC t < 8 ∨ 16 ≤ opC t) := by
  unfold opC
  by_cases h1 : t = 16
  · rw [if_pos h1]; decide
  · rw [if_neg h1]; decide
theorem run_two {env : Nat → Int32} {o : Int32} (h : ¬ (o < 8 ∨ 16 ≤ o)) (a d : Int32) (st : List Int32) : runC env [o] (d :: a :: st) = op2 o a d :: st := by
  show stp env o (d :: a :: st) = _
  unfold stp
  rw [if_neg h]
  rfl
theorem gd_bR {z k p : Nat} {x : Rz} {f : List Int32 → Sem → Nat → Rz} (hx : Gd z k p x) (hf : ∀ c s p', x = .inr (c, s, p') → Gd z k p (f c s p')) : Gd z k p (bR x f) := by
  intro c s p' h
  match x, hx, hf, h with
  | .inl e, _, _, h => exact absurd h (by simp [bR])
  | .inr (c1, s1, p1), _, hf, h => exact hf c1 s1 p1 rfl c s p' h
theorem gd_mono {z k k2 p : Nat} {x : Rz} (h : Gd z k p x) (hk : k ≤ k2) : Gd z k2 p x := fun c s p' e => by
  obtain ⟨a1, a2, a3, a4⟩ := h c s p' e
  exact ⟨a1, a2, a3, fun env st hs => a4 env st (by omega)⟩
theorem gd_lp {b : Nat → Int32} {z k p0 : Nat} {op : Int32 → Int32} {one : Nat → Rz} (hop : ∀ t, op t ≠ 0 → ¬ (op t < 8 ∨ 16 ≤ op t) ∧ t ≠ 1) (h1 : ∀ p, p ≤ z → Gd z k p (one p)) : ∀ (n : Nat) (c : List Int32) (s : Sem) (p : Nat), p0 + c.length ≤ p → p0 < p → p ≤ z → (∀ env st, st.length + (k + 1) ≤ 31 → runC env c st = s env :: st) → Gd z (k + 1) p0 (lp b z op one n c s p)
  | 0, c, s, p, a1, a2, a3, a4 => fun c9 s9 p9 e => by
    unfold lp at e
    simp only [Sum.inr.injEq, Prod.mk.injEq] at e
    obtain ⟨rfl, rfl, rfl⟩ := e
    exact ⟨a1, a2, a3, a4⟩
  | n + 1, c, s, p, a1, a2, a3, a4 => fun c9 s9 p9 e => by
    unfold lp at e
    by_cases h0 : op (tk b z p) = 0
    · rw [if_pos h0] at e
      simp only [Sum.inr.injEq, Prod.mk.injEq] at e
      obtain ⟨rfl, rfl, rfl⟩ := e
      exact ⟨a1, a2, a3, a4⟩
    · rw [if_neg h0] at e
      obtain ⟨o1, o2⟩ := hop _ h0
      obtain ⟨n1, n2, n3⟩ := nx_le (b := b) a3
      have n3 := n3 o2
      match hx : one (nx b z p), e with
      | .inl f, e => exact absurd e (by simp [bR])
      | .inr (c2, s2, p2), e =>
        obtain ⟨b1, b2, b3, b4⟩ := h1 _ n2 c2 s2 p2 hx
        refine gd_lp hop h1 n _ _ p2 ?_ (by omega) b3 (fun env st hs => ?_) c9 s9 p9 e
        · simp only [List.length_append, List.length_cons, List.length_nil]
          omega
        · rw [runC_app, runC_app, a4 env st hs, b4 env (s env :: st) (by simp only [List.length_cons]; omega), run_two o1]
theorem gd_many {b : Nat → Int32} {z k : Nat} {op : Int32 → Int32} {one : Nat → Rz} (hop : ∀ t, op t ≠ 0 → ¬ (op t < 8 ∨ 16 ≤ op t) ∧ t ≠ 1) (h1 : ∀ p, p ≤ z → Gd z k p (one p)) : ∀ p, p ≤ z → Gd z (k + 1) p (many b z op one p) := fun p hp => by
  unfold many
  refine gd_bR (gd_mono (h1 p hp) (by omega)) (fun c s p1 e => ?_)
  obtain ⟨a1, a2, a3, a4⟩ := h1 p hp c s p1 e
  exact gd_lp hop h1 160 c s p1 a1 a2 a3 (fun env st hs => a4 env st (by omega))
