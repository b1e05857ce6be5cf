variable {X : Cx} {cc : ByteArray} {own : String} {d K N k n pc : Nat} {lv : List (Nat × LV)} {st : List Value} {w : Wd} {β : Type} {enc : β → Value}
theorem g_iadd (h : Ok X cc own d K N) {x y : Int32} (hd : decode cc pc = .ok (.iadd, 1)) (kk : G X k n (pc + 1) lv (.int (x + y) :: st) w) : G X k n pc lv (.int y :: .int x :: st) w := by
  obtain ⟨Γ, p, e, R, s, m, args, below, meth, c, nL, n0, Q, qv⟩ := X
  obtain ⟨hx, hb, hml, hown, hts, hK, hE, hsz, hlk, hRf⟩ := h
  intro H locs ls hR hS hl hn
  exact lv_iadd hx hb hd (kk H locs ls hR hS hl hn)
theorem g_isub (h : Ok X cc own d K N) {x y : Int32} (hd : decode cc pc = .ok (.isub, 1)) (kk : G X k n (pc + 1) lv (.int (x - y) :: st) w) : G X k n pc lv (.int y :: .int x :: st) w := by
  obtain ⟨Γ, p, e, R, s, m, args, below, meth, c, nL, n0, Q, qv⟩ := X
  obtain ⟨hx, hb, hml, hown, hts, hK, hE, hsz, hlk, hRf⟩ := h
  intro H locs ls hR hS hl hn
  exact lv_isub hx hb hd (kk H locs ls hR hS hl hn)
theorem g_imul (h : Ok X cc own d K N) {x y : Int32} (hd : decode cc pc = .ok (.imul, 1)) (kk : G X k n (pc + 1) lv (.int (x * y) :: st) w) : G X k n pc lv (.int y :: .int x :: st) w := by
  obtain ⟨Γ, p, e, R, s, m, args, below, meth, c, nL, n0, Q, qv⟩ := X
  obtain ⟨hx, hb, hml, hown, hts, hK, hE, hsz, hlk, hRf⟩ := h
  intro H locs ls hR hS hl hn
  exact lv_imul hx hb hd (kk H locs ls hR hS hl hn)
theorem g_iand (h : Ok X cc own d K N) {x y : Int32} (hd : decode cc pc = .ok (.iand, 1)) (kk : G X k n (pc + 1) lv (.int (x &&& y) :: st) w) : G X k n pc lv (.int y :: .int x :: st) w := by
  obtain ⟨Γ, p, e, R, s, m, args, below, meth, c, nL, n0, Q, qv⟩ := X
  obtain ⟨hx, hb, hml, hown, hts, hK, hE, hsz, hlk, hRf⟩ := h
  intro H locs ls hR hS hl hn
  exact lv_iand hx hb hd (kk H locs ls hR hS hl hn)
theorem g_ior (h : Ok X cc own d K N) {x y : Int32} (hd : decode cc pc = .ok (.ior, 1)) (kk : G X k n (pc + 1) lv (.int (x ||| y) :: st) w) : G X k n pc lv (.int y :: .int x :: st) w := by
  obtain ⟨Γ, p, e, R, s, m, args, below, meth, c, nL, n0, Q, qv⟩ := X
  obtain ⟨hx, hb, hml, hown, hts, hK, hE, hsz, hlk, hRf⟩ := h
  intro H locs ls hR hS hl hn
  exact lv_ior hx hb hd (kk H locs ls hR hS hl hn)
theorem g_ixor (h : Ok X cc own d K N) {x y : Int32} (hd : decode cc pc = .ok (.ixor, 1)) (kk : G X k n (pc + 1) lv (.int (x ^^^ y) :: st) w) : G X k n pc lv (.int y :: .int x :: st) w := by
  obtain ⟨Γ, p, e, R, s, m, args, below, meth, c, nL, n0, Q, qv⟩ := X
  obtain ⟨hx, hb, hml, hown, hts, hK, hE, hsz, hlk, hRf⟩ := h
  intro H locs ls hR hS hl hn
  exact lv_ixor hx hb hd (kk H locs ls hR hS hl hn)
theorem g_ishl (h : Ok X cc own d K N) {x y : Int32} (hd : decode cc pc = .ok (.ishl, 1)) (kk : G X k n (pc + 1) lv (.int (x <<< (y &&& 31)) :: st) w) : G X k n pc lv (.int y :: .int x :: st) w := by
  obtain ⟨Γ, p, e, R, s, m, args, below, meth, c, nL, n0, Q, qv⟩ := X
  obtain ⟨hx, hb, hml, hown, hts, hK, hE, hsz, hlk, hRf⟩ := h
  intro H locs ls hR hS hl hn
  exact lv_ishl hx hb hd (kk H locs ls hR hS hl hn)
theorem g_ishr (h : Ok X cc own d K N) {x y : Int32} (hd : decode cc pc = .ok (.ishr, 1)) (kk : G X k n (pc + 1) lv (.int (x >>> (y &&& 31)) :: st) w) : G X k n pc lv (.int y :: .int x :: st) w := by
  obtain ⟨Γ, p, e, R, s, m, args, below, meth, c, nL, n0, Q, qv⟩ := X
  obtain ⟨hx, hb, hml, hown, hts, hK, hE, hsz, hlk, hRf⟩ := h
  intro H locs ls hR hS hl hn
  exact lv_ishr hx hb hd (kk H locs ls hR hS hl hn)
theorem g_iushr (h : Ok X cc own d K N) {x y : Int32} (hd : decode cc pc = .ok (.iushr, 1)) (kk : G X k n (pc + 1) lv (.int ((x.toUInt32 >>> (y.toUInt32 &&& Int32.toUInt32 31)).toInt32) :: st) w) : G X k n pc lv (.int y :: .int x :: st) w := by
  obtain ⟨Γ, p, e, R, s, m, args, below, meth, c, nL, n0, Q, qv⟩ := X
  obtain ⟨hx, hb, hml, hown, hts, hK, hE, hsz, hlk, hRf⟩ := h
  intro H locs ls hR hS hl hn
  exact lv_iushr hx hb hd rfl (kk H locs ls hR hS hl hn)
theorem g_idiv (h : Ok X cc own d K N) {x y : Int32} (hd : decode cc pc = .ok (.idiv, 1)) (hne : ¬ y = 0) (kk : G X k n (pc + 1) lv (.int (x / y) :: st) w) : G X k n pc lv (.int y :: .int x :: st) w := by
  obtain ⟨Γ, p, e, R, s, m, args, below, meth, c, nL, n0, Q, qv⟩ := X
  obtain ⟨hx, hb, hml, hown, hts, hK, hE, hsz, hlk, hRf⟩ := h
  intro H locs ls hR hS hl hn
  exact lv_idiv hx hb hd hne (kk H locs ls hR hS hl hn)
theorem g_irem (h : Ok X cc own d K N) {x y : Int32} (hd : decode cc pc = .ok (.irem, 1)) (hne : ¬ y = 0) (kk : G X k n (pc + 1) lv (.int (x - x / y * y) :: st) w) : G X k n pc lv (.int y :: .int x :: st) w := by
  obtain ⟨Γ, p, e, R, s, m, args, below, meth, c, nL, n0, Q, qv⟩ := X
  obtain ⟨hx, hb, hml, hown, hts, hK, hE, hsz, hlk, hRf⟩ := h
  intro H locs ls hR hS hl hn
  exact lv_irem hx hb hd hne (kk H locs ls hR hS hl hn)
theorem g_ineg (h : Ok X cc own d K N) {x : Int32} (hd : decode cc pc = .ok (.ineg, 1)) (kk : G X k n (pc + 1) lv (.int (-x) :: st) w) : G X k n pc lv (.int x :: st) w := by
  obtain ⟨Γ, p, e, R, s, m, args, below, meth, c, nL, n0, Q, qv⟩ := X
  obtain ⟨hx, hb, hml, hown, hts, hK, hE, hsz, hlk, hRf⟩ := h
  intro H locs ls hR hS hl hn
  exact lv_ineg hx hb hd (kk H locs ls hR hS hl hn)
theorem g_ladd (h : Ok X cc own d K N) {x y : Int64} (hd : decode cc pc = .ok (.ladd, 1)) (kk : G X k n (pc + 1) lv (.long (x + y) :: st) w) : G X k n pc lv (.long y :: .long x :: st) w := by
  obtain ⟨Γ, p, e, R, s, m, args, below, meth, c, nL, n0, Q, qv⟩ := X
  obtain ⟨hx, hb, hml, hown, hts, hK, hE, hsz, hlk, hRf⟩ := h
  intro H locs ls hR hS hl hn
  exact lv_ladd hx hb hd (kk H locs ls hR hS hl hn)
theorem g_lsub (h : Ok X cc own d K N) {x y : Int64} (hd : decode cc pc = .ok (.lsub, 1)) (kk : G X k n (pc + 1) lv (.long (x - y) :: st) w) : G X k n pc lv (.long y :: .long x :: st) w := by
  obtain ⟨Γ, p, e, R, s, m, args, below, meth, c, nL, n0, Q, qv⟩ := X
  obtain ⟨hx, hb, hml, hown, hts, hK, hE, hsz, hlk, hRf⟩ := h
  intro H locs ls hR hS hl hn
  exact lv_lsub hx hb hd (kk H locs ls hR hS hl hn)
theorem g_lmul (h : Ok X cc own d K N) {x y : Int64} (hd : decode cc pc = .ok (.lmul, 1)) (kk : G X k n (pc + 1) lv (.long (x * y) :: st) w) : G X k n pc lv (.long y :: .long x :: st) w := by
  obtain ⟨Γ, p, e, R, s, m, args, below, meth, c, nL, n0, Q, qv⟩ := X
  obtain ⟨hx, hb, hml, hown, hts, hK, hE, hsz, hlk, hRf⟩ := h
  intro H locs ls hR hS hl hn
  exact lv_lmul hx hb hd (kk H locs ls hR hS hl hn)
theorem g_ldiv (h : Ok X cc own d K N) {x y : Int64} (hd : decode cc pc = .ok (.ldiv, 1)) (hne : ¬ y = 0) (kk : G X k n (pc + 1) lv (.long (x / y) :: st) w) : G X k n pc lv (.long y :: .long x :: st) w := by
  obtain ⟨Γ, p, e, R, s, m, args, below, meth, c, nL, n0, Q, qv⟩ := X
  obtain ⟨hx, hb, hml, hown, hts, hK, hE, hsz, hlk, hRf⟩ := h
  intro H locs ls hR hS hl hn
  exact lv_ldiv hx hb hd hne (kk H locs ls hR hS hl hn)
theorem g_lrem (h : Ok X cc own d K N) {x y : Int64} (hd : decode cc pc = .ok (.lrem, 1)) (hne : ¬ y = 0) (kk : G X k n (pc + 1) lv (.long (x - x / y * y) :: st) w) : G X k n pc lv (.long y :: .long x :: st) w := by
  obtain ⟨Γ, p, e, R, s, m, args, below, meth, c, nL, n0, Q, qv⟩ := X
  obtain ⟨hx, hb, hml, hown, hts, hK, hE, hsz, hlk, hRf⟩ := h
  intro H locs ls hR hS hl hn
  exact lv_lrem hx hb hd hne (kk H locs ls hR hS hl hn)
theorem g_lcmp (h : Ok X cc own d K N) {x y : Int64} (hd : decode cc pc = .ok (.lcmp, 1)) (kk : G X k n (pc + 1) lv (.int (lg_cmp x y) :: st) w) : G X k n pc lv (.long y :: .long x :: st) w := by
  obtain ⟨Γ, p, e, R, s, m, args, below, meth, c, nL, n0, Q, qv⟩ := X
  obtain ⟨hx, hb, hml, hown, hts, hK, hE, hsz, hlk, hRf⟩ := h
  intro H locs ls hR hS hl hn
  exact W.lcmp hx hb hd (kk H locs ls hR hS hl hn)
theorem g_i2l (h : Ok X cc own d K N) {x : Int32} (hd : decode cc pc = .ok (.i2l, 1)) (kk : G X k n (pc + 1) lv (.long x.toInt64 :: st) w) : G X k n pc lv (.int x :: st) w := by
  obtain ⟨Γ, p, e, R, s, m, args, below, meth, c, nL, n0, Q, qv⟩ := X
  obtain ⟨hx, hb, hml, hown, hts, hK, hE, hsz, hlk, hRf⟩ := h
  intro H locs ls hR hS hl hn
  exact lv_i2l hx hb hd rfl (kk H locs ls hR hS hl hn)
theorem g_l2i (h : Ok X cc own d K N) {x : Int64} (hd : decode cc pc = .ok (.l2i, 1)) (kk : G X k n (pc + 1) lv (.int x.toInt32 :: st) w) : G X k n pc lv (.long x :: st) w := by
  obtain ⟨Γ, p, e, R, s, m, args, below, meth, c, nL, n0, Q, qv⟩ := X
  obtain ⟨hx, hb, hml, hown, hts, hK, hE, hsz, hlk, hRf⟩ := h
  intro H locs ls hR hS hl hn
  exact lv_l2i hx hb hd rfl (kk H locs ls hR hS hl hn)
theorem g_i2b (h : Ok X cc own d K N) {x : Int32} (hd : decode cc pc = .ok (.i2b, 1)) (kk : G X k n (pc + 1) lv (.int x.toInt8.toInt32 :: st) w) : G X k n pc lv (.int x :: st) w := by
  obtain ⟨Γ, p, e, R, s, m, args, below, meth, c, nL, n0, Q, qv⟩ := X
  obtain ⟨hx, hb, hml, hown, hts, hK, hE, hsz, hlk, hRf⟩ := h
  intro H locs ls hR hS hl hn
  exact lv_i2b hx hb hd rfl (kk H locs ls hR hS hl hn)
theorem g_i2s (h : Ok X cc own d K N) {x : Int32} (hd : decode cc pc = .ok (.i2s, 1)) (kk : G X k n (pc + 1) lv (.int x.toInt16.toInt32 :: st) w) : G X k n pc lv (.int x :: st) w := by
  obtain ⟨Γ, p, e, R, s, m, args, below, meth, c, nL, n0, Q, qv⟩ := X
  obtain ⟨hx, hb, hml, hown, hts, hK, hE, hsz, hlk, hRf⟩ := h
  intro H locs ls hR hS hl hn
  exact lv_i2s hx hb hd rfl (kk H locs ls hR hS hl hn)
theorem g_iconst (h : Ok X cc own d K N) {i : Int} {v : Int32} (hd : decode cc pc = .ok (.iconst i, 1)) (hv : Int32.ofInt i = v) (kk : G X k n (pc + 1) lv (.int v :: st) w) : G X k n pc lv st w := by
  obtain ⟨Γ, p, e, R, s, m, args, below, meth, c, nL, n0, Q, qv⟩ := X
  obtain ⟨hx, hb, hml, hown, hts, hK, hE, hsz, hlk, hRf⟩ := h
  intro H locs ls hR hS hl hn
  exact lv_iconst hx hb hd hv (kk H locs ls hR hS hl hn)
theorem g_bipush (h : Ok X cc own d K N) {i : Int} {v : Int32} (hd : decode cc pc = .ok (.bipush i, 2)) (hv : (Int8.ofInt i).toInt32 = v) (kk : G X k n (pc + 2) lv (.int v :: st) w) : G X k n pc lv st w := by
  obtain ⟨Γ, p, e, R, s, m, args, below, meth, c, nL, n0, Q, qv⟩ := X
  obtain ⟨hx, hb, hml, hown, hts, hK, hE, hsz, hlk, hRf⟩ := h
  intro H locs ls hR hS hl hn
  exact lv_bipush hx hb hd hv (kk H locs ls hR hS hl hn)
theorem g_sipush (h : Ok X cc own d K N) {i : Int} {v : Int32} (hd : decode cc pc = .ok (.sipush i, 3)) (hv : (Int16.ofInt i).toInt32 = v) (kk : G X k n (pc + 3) lv (.int v :: st) w) : G X k n pc lv st w := by
  obtain ⟨Γ, p, e, R, s, m, args, below, meth, c, nL, n0, Q, qv⟩ := X
  obtain ⟨hx, hb, hml, hown, hts, hK, hE, hsz, hlk, hRf⟩ := h
  intro H locs ls hR hS hl hn
  exact lv_sipush hx hb hd hv (kk H locs ls hR hS hl hn)
theorem g_lconst (h : Ok X cc own d K N) {i : Fin 2} {v : Int64} (hd : decode cc pc = .ok (.lconst i, 1)) (hv : Int64.ofNat (i : Nat) = v) (kk : G X k n (pc + 1) lv (.long v :: st) w) : G X k n pc lv st w := by
  obtain ⟨Γ, p, e, R, s, m, args, below, meth, c, nL, n0, Q, qv⟩ := X
  obtain ⟨hx, hb, hml, hown, hts, hK, hE, hsz, hlk, hRf⟩ := h
  intro H locs ls hR hS hl hn
  exact lv_lconst hx hb hd hv (kk H locs ls hR hS hl hn)
theorem g_ldc (h : Ok X cc own d K N) {i : Nat} {v : Int32} (hw : Cond.constant own i v ∈ lw_U) (hd : decode cc pc = .ok (.ldc i, 2)) (kk : G X k n (pc + 2) lv (.int v :: st) w) : G X k n pc lv st w := by
  obtain ⟨Γ, p, e, R, s, m, args, below, meth, c, nL, n0, Q, qv⟩ := X
  obtain ⟨hx, hb, hml, hown, hts, hK, hE, hsz, hlk, hRf⟩ := h
  intro H locs ls hR hS hl hn
  exact lv_ldc hx hb hown (hts _ hw) hd (kk H locs ls hR hS hl hn)
theorem g_ldcw (h : Ok X cc own d K N) {i : Nat} {v : Int32} (hw : Cond.constant own i v ∈ lw_U) (hd : decode cc pc = .ok (.ldc_w i, 3)) (kk : G X k n (pc + 3) lv (.int v :: st) w) : G X k n pc lv st w := by
  obtain ⟨Γ, p, e, R, s, m, args, below, meth, c, nL, n0, Q, qv⟩ := X
  obtain ⟨hx, hb, hml, hown, hts, hK, hE, hsz, hlk, hRf⟩ := h
  intro H locs ls hR hS hl hn
  exact lv_ldcw hx hb hown (hts _ hw) hd (kk H locs ls hR hS hl hn)
theorem g_ldc2 (h : Ok X cc own d K N) {i : Nat} {v : Int64} (hw : Cond.constantLong own i v ∈ lw_U) (hd : decode cc pc = .ok (.ldc2_w i, 3)) (kk : G X k n (pc + 3) lv (.long v :: st) w) : G X k n pc lv st w := by
  obtain ⟨Γ, p, e, R, s, m, args, below, meth, c, nL, n0, Q, qv⟩ := X
  obtain ⟨hx, hb, hml, hown, hts, hK, hE, hsz, hlk, hRf⟩ := h
  intro H locs ls hR hS hl hn
  exact lv_ldc2 hx hb hown (hts _ hw) hd (kk H locs ls hR hS hl hn)
theorem g_null (h : Ok X cc own d K N) (hd : decode cc pc = .ok (.aconst_null, 1)) (kk : G X k n (pc + 1) lv (rv X.1 none :: st) w) : G X k n pc lv st w := by
  obtain ⟨Γ, p, e, R, s, m, args, below, meth, c, nL, n0, Q, qv⟩ := X
  obtain ⟨hx, hb, hml, hown, hts, hK, hE, hsz, hlk, hRf⟩ := h
  intro H locs ls hR hS hl hn
  exact lv_null hx hb hd (kk H locs ls hR hS hl hn)
theorem g_pop (h : Ok X cc own d K N) {v : Value} (hd : decode cc pc = .ok (.pop, 1)) (hv : v.category = 1) (kk : G X k n (pc + 1) lv st w) : G X k n pc lv (v :: st) w := by
  obtain ⟨Γ, p, e, R, s, m, args, below, meth, c, nL, n0, Q, qv⟩ := X
  obtain ⟨hx, hb, hml, hown, hts, hK, hE, hsz, hlk, hRf⟩ := h
  intro H locs ls hR hS hl hn
  exact lv_pop hx hb hd hv (kk H locs ls hR hS hl hn)
theorem g_dup (h : Ok X cc own d K N) {v : Value} (hd : decode cc pc = .ok (.dup, 1)) (hv : v.category = 1) (kk : G X k n (pc + 1) lv (v :: v :: st) w) : G X k n pc lv (v :: st) w := by
  obtain ⟨Γ, p, e, R, s, m, args, below, meth, c, nL, n0, Q, qv⟩ := X
  obtain ⟨hx, hb, hml, hown, hts, hK, hE, hsz, hlk, hRf⟩ := h
  intro H locs ls hR hS hl hn
  exact lv_dup hx hb hd hv (kk H locs ls hR hS hl hn)
theorem g_iload_n (h : Ok X cc own d K N) {j : Fin 4} {x : Int32} (q : Nat) (hq : lv[q]? = some ((j : Nat), .inl x)) (hd : decode cc pc = .ok (.iload_n j, 1)) (kk : G X k n (pc + 1) lv (.int x :: st) w) : G X k n pc lv st w := by
  obtain ⟨Γ, p, e, R, s, m, args, below, meth, c, nL, n0, Q, qv⟩ := X
  obtain ⟨hx, hb, hml, hown, hts, hK, hE, hsz, hlk, hRf⟩ := h
  intro H locs ls hR hS hl hn
  exact lv_iload_n hx hb hd rfl (lv_at hl q (lvm_at hq)) (kk H locs ls hR hS hl hn)
theorem g_iload (h : Ok X cc own d K N) {j : Nat} {x : Int32} (q : Nat) (hq : lv[q]? = some (j, .inl x)) (hd : decode cc pc = .ok (.iload j, 2)) (kk : G X k n (pc + 2) lv (.int x :: st) w) : G X k n pc lv st w := by
  obtain ⟨Γ, p, e, R, s, m, args, below, meth, c, nL, n0, Q, qv⟩ := X
  obtain ⟨hx, hb, hml, hown, hts, hK, hE, hsz, hlk, hRf⟩ := h
  intro H locs ls hR hS hl hn
  exact lv_iload hx hb hd (lv_at hl q (lvm_at hq)) (kk H locs ls hR hS hl hn)
theorem g_lload_n (h : Ok X cc own d K N) {j : Fin 4} {x : Int64} (q : Nat) (hq : lv[q]? = some ((j : Nat), .inr (.inr (.inl x)))) (hd : decode cc pc = .ok (.lload_n j, 1)) (kk : G X k n (pc + 1) lv (.long x :: st) w) : G X k n pc lv st w := by
  obtain ⟨Γ, p, e, R, s, m, args, below, meth, c, nL, n0, Q, qv⟩ := X
  obtain ⟨hx, hb, hml, hown, hts, hK, hE, hsz, hlk, hRf⟩ := h
  intro H locs ls hR hS hl hn
  exact lv_lload_n hx hb hd rfl (lv_at hl q (lvm_at hq)) (kk H locs ls hR hS hl hn)
theorem g_lload (h : Ok X cc own d K N) {j : Nat} {x : Int64} (q : Nat) (hq : lv[q]? = some (j, .inr (.inr (.inl x)))) (hd : decode cc pc = .ok (.lload j, 2)) (kk : G X k n (pc + 2) lv (.long x :: st) w) : G X k n pc lv st w := by
  obtain ⟨Γ, p, e, R, s, m, args, below, meth, c, nL, n0, Q, qv⟩ := X
  obtain ⟨hx, hb, hml, hown, hts, hK, hE, hsz, hlk, hRf⟩ := h
  intro H locs ls hR hS hl hn
  exact lv_lload hx hb hd (lv_at hl q (lvm_at hq)) (kk H locs ls hR hS hl hn)
theorem g_aload_n (h : Ok X cc own d K N) {j : Fin 4} {r : Option Nat} (q0 : Nat) (hq : lv[q0]? = some ((j : Nat), .inr (.inl r))) (hd : decode cc pc = .ok (.aload_n j, 1)) (kk : G X k n (pc + 1) lv (rv X.1 r :: st) w) : G X k n pc lv st w := by
  obtain ⟨Γ, p, e, R, s, m, args, below, meth, c, nL, n0, Q, qv⟩ := X
  obtain ⟨hx, hb, hml, hown, hts, hK, hE, hsz, hlk, hRf⟩ := h
  intro H locs ls hR hS hl hn
  cases r with
  | none => exact lv_aload_nN hx hb hd rfl (lv_at hl q0 (lvm_at hq)) (kk H locs ls hR hS hl hn)
  | some a => exact lv_aload_n hx hb hd rfl (lv_at hl q0 (lvm_at hq)) (kk H locs ls hR hS hl hn)
theorem g_aload (h : Ok X cc own d K N) {j : Nat} {r : Option Nat} (q0 : Nat) (hq : lv[q0]? = some ((j : Nat), .inr (.inl r))) (hd : decode cc pc = .ok (.aload j, 2)) (kk : G X k n (pc + 2) lv (rv X.1 r :: st) w) : G X k n pc lv st w := by
  obtain ⟨Γ, p, e, R, s, m, args, below, meth, c, nL, n0, Q, qv⟩ := X
  obtain ⟨hx, hb, hml, hown, hts, hK, hE, hsz, hlk, hRf⟩ := h
  intro H locs ls hR hS hl hn
  cases r with
  | none => exact lv_aloadN hx hb hd (lv_at hl q0 (lvm_at hq)) (kk H locs ls hR hS hl hn)
  | some a => exact lv_aload hx hb hd (lv_at hl q0 (lvm_at hq)) (kk H locs ls hR hS hl hn)
theorem g_istore_n (h : Ok X cc own d K N) {j : Fin 4} {x : Int32} {lv' : List (Nat × LV)} (hd : decode cc pc = .ok (.istore_n j, 1)) (hj : (j : Nat) < nLX X) (hv : lset1 lv (j : Nat) (.inl x) = lv') (kk : G X k n (pc + 1) lv' st w) : G X k n pc lv (.int x :: st) w := by
  obtain ⟨Γ, p, e, R, s, m, args, below, meth, c, nL, n0, Q, qv⟩ := X
  obtain ⟨hx, hb, hml, hown, hts, hK, hE, hsz, hlk, hRf⟩ := h
  intro H locs ls hR hS hl hn
  exact lv_istore_n hx hb hd rfl hl hj (lvm_set1 (x := .inl x)) (fun ls' hl' => kk H locs ls' hR hS (by rw [← hv]; exact hl') hn)
theorem g_istore (h : Ok X cc own d K N) {j : Nat} {x : Int32} {lv' : List (Nat × LV)} (hd : decode cc pc = .ok (.istore j, 2)) (hj : (j : Nat) < nLX X) (hv : lset1 lv (j : Nat) (.inl x) = lv') (kk : G X k n (pc + 2) lv' st w) : G X k n pc lv (.int x :: st) w := by
  obtain ⟨Γ, p, e, R, s, m, args, below, meth, c, nL, n0, Q, qv⟩ := X
  obtain ⟨hx, hb, hml, hown, hts, hK, hE, hsz, hlk, hRf⟩ := h
  intro H locs ls hR hS hl hn
  exact lv_istore hx hb hd hl hj (lvm_set1 (x := .inl x)) (fun ls' hl' => kk H locs ls' hR hS (by rw [← hv]; exact hl') hn)
theorem g_lstore_n (h : Ok X cc own d K N) {j : Fin 4} {x : Int64} {lv' : List (Nat × LV)} (hd : decode cc pc = .ok (.lstore_n j, 1)) (hj : (j : Nat) + 1 < nLX X) (hv : lset2 lv (j : Nat) (.inr (.inr (.inl x))) = lv') (kk : G X k n (pc + 1) lv' st w) : G X k n pc lv (.long x :: st) w := by
  obtain ⟨Γ, p, e, R, s, m, args, below, meth, c, nL, n0, Q, qv⟩ := X
  obtain ⟨hx, hb, hml, hown, hts, hK, hE, hsz, hlk, hRf⟩ := h
  intro H locs ls hR hS hl hn
  exact lv_lstore_n hx hb hd rfl hl hj (lvm_set2 (x := .inr (.inr (.inl x)))) (fun ls' hl' => kk H locs ls' hR hS (by rw [← hv]; exact hl') hn)
theorem g_lstore (h : Ok X cc own d K N) {j : Nat} {x : Int64} {lv' : List (Nat × LV)} (hd : decode cc pc = .ok (.lstore j, 2)) (hj : (j : Nat) + 1 < nLX X) (hv : lset2 lv (j : Nat) (.inr (.inr (.inl x))) = lv') (kk : G X k n (pc + 2) lv' st w) : G X k n pc lv (.long x :: st) w := by
  obtain ⟨Γ, p, e, R, s, m, args, below, meth, c, nL, n0, Q, qv⟩ := X
  obtain ⟨hx, hb, hml, hown, hts, hK, hE, hsz, hlk, hRf⟩ := h
  intro H locs ls hR hS hl hn
  exact lv_lstore hx hb hd hl hj (lvm_set2 (x := .inr (.inr (.inl x)))) (fun ls' hl' => kk H locs ls' hR hS (by rw [← hv]; exact hl') hn)
theorem g_astore_n (h : Ok X cc own d K N) {j : Fin 4} {r : Option Nat} {lv' : List (Nat × LV)} (hd : decode cc pc = .ok (.astore_n j, 1)) (hj : (j : Nat) < nLX X) (hv : lset1 lv (j : Nat) (.inr (.inl r)) = lv') (kk : G X k n (pc + 1) lv' st w) : G X k n pc lv (rv X.1 r :: st) w := by
  obtain ⟨Γ, p, e, R, s, m, args, below, meth, c, nL, n0, Q, qv⟩ := X
  obtain ⟨hx, hb, hml, hown, hts, hK, hE, hsz, hlk, hRf⟩ := h
  intro H locs ls hR hS hl hn
  cases r with
  | none => exact lv_astore_nN hx hb hd rfl hl hj (lvm_set1 (x := .inr (.inl none))) (fun ls' hl' => kk H locs ls' hR hS (by rw [← hv]; exact hl') hn)
  | some a => exact lv_astore_n hx hb hd rfl hl hj (lvm_set1 (x := .inr (.inl (some a)))) (fun ls' hl' => kk H locs ls' hR hS (by rw [← hv]; exact hl') hn)
theorem g_astore (h : Ok X cc own d K N) {j : Nat} {r : Option Nat} {lv' : List (Nat × LV)} (hd : decode cc pc = .ok (.astore j, 2)) (hj : (j : Nat) < nLX X) (hv : lset1 lv (j : Nat) (.inr (.inl r)) = lv') (kk : G X k n (pc + 2) lv' st w) : G X k n pc lv (rv X.1 r :: st) w := by
  obtain ⟨Γ, p, e, R, s, m, args, below, meth, c, nL, n0, Q, qv⟩ := X
  obtain ⟨hx, hb, hml, hown, hts, hK, hE, hsz, hlk, hRf⟩ := h
  intro H locs ls hR hS hl hn
  cases r with
  | none => exact lv_astoreN hx hb hd hl hj (lvm_set1 (x := .inr (.inl none))) (fun ls' hl' => kk H locs ls' hR hS (by rw [← hv]; exact hl') hn)
  | some a => exact lv_astore hx hb hd hl hj (lvm_set1 (x := .inr (.inl (some a)))) (fun ls' hl' => kk H locs ls' hR hS (by rw [← hv]; exact hl') hn)
theorem g_iinc (h : Ok X cc own d K N) {j : Nat} {i : Int} {x dv : Int32} {lv' : List (Nat × LV)} (q0 : Nat) (hq : lv[q0]? = some (j, .inl x)) (hd : decode cc pc = .ok (.iinc j i, 3)) (he : Int32.ofInt i = dv) (hj : j < nLX X) (hv : lset1 lv j (.inl (x + dv)) = lv') (kk : G X k n (pc + 3) lv' st w) : G X k n pc lv st w := by
  obtain ⟨Γ, p, e, R, s, m, args, below, meth, c, nL, n0, Q, qv⟩ := X
  obtain ⟨hx, hb, hml, hown, hts, hK, hE, hsz, hlk, hRf⟩ := h
  intro H locs ls hR hS hl hn
  exact lv_iinc hx hb hd hl (lvm_at hq) (by rw [he]) hj (lvm_set1 (x := .inl (x + dv))) (fun ls' hl' => kk H locs ls' hR hS (by rw [← hv]; exact hl') hn)
theorem g_saload_n (h : Ok X cc own d K N) {j : Fin 4} {v : { v : Value // v = .null ∨ ∃ a : Nat, v = .ref a }} (q0 : Nat) (hq : lv[q0]? = some ((j : Nat), .inr (.inr (.inr v)))) (hd : decode cc pc = .ok (.aload_n j, 1)) (kk : G X k n (pc + 1) lv (v.1 :: st) w) : G X k n pc lv st w := by
  obtain ⟨Γ, p, e, R, s, m, args, below, meth, c, nL, n0, Q, qv⟩ := X
  obtain ⟨hx, hb, hml, hown, hts, hK, hE, hsz, hlk, hRf⟩ := h
  intro H locs ls hR hS hl hn
  obtain ⟨v, hv⟩ := v
  rcases hv with rfl | ⟨a, rfl⟩
  · exact lv_aload_nN hx hb hd rfl (lv_at hl q0 (lvm_at hq)) (kk H locs ls hR hS hl hn)
  · exact lv_aload_n hx hb hd rfl (lv_at hl q0 (lvm_at hq)) (kk H locs ls hR hS hl hn)
/-- a name for a world, for a number -/
def lw {α : Type} (w : Wd) (f : Wd → Option α) : Option α := f w
def lt {α : Type} (x : Int32) (f : Int32 → Option α) : Option α := f x
theorem g_w {w0 : Wd} {f : Wd → Option (β × Wd)} (hF : OkR X enc (lw w0 f)) (kk : ∀ w1, OkR X enc (f w1) → G X k n pc lv st w1) : G X k n pc lv st w0 := kk w0 hF
theorem g_t {x : Int32} {f : Int32 → Option (β × Wd)} (hF : OkR X enc (lt x f)) (kk : ∀ y, OkR X enc (f y) → G X k n pc lv (.int y :: st) w) : G X k n pc lv (.int x :: st) w := kk x hF
/-- fewer locals, in any order -/
theorem g_lv {lv' : List (Nat × LV)} (ks : List Nat) (he : tpick lv ks = lv') (kk : G X k n pc lv' st w) : G X k n pc lv st w := by
  obtain ⟨Γ, p, e, R, s, m, args, below, meth, c, nL, n0, Q, qv⟩ := X
  intro H locs ls hR hS hl hn
  exact kk H locs ls hR hS (lv_sub hl ks (by rw [lvm_pick, he])) hn
theorem okT {c : Prop} [Decidable c] {A B : Option (β × Wd)} (hF : OkR X enc (if c then A else B)) (hc : c) : OkR X enc A := by rwa [if_pos hc] at hF
theorem okE {c : Prop} [Decidable c] {A B : Option (β × Wd)} (hF : OkR X enc (if c then A else B)) (hc : ¬ c) : OkR X enc B := by rwa [if_neg hc] at hF
theorem g_icmp_eq (h : Ok X cc own d K N) {x y : Int32} {off : Int} {tgt : Nat} (hd : decode cc pc = .ok (.if_icmp .eq off, 3)) (ht : (pc : Int) + off = (tgt : Int)) {A B : Option (β × Wd)} (hF : OkR X enc (if x = y then A else B)) (kt : OkR X enc A → G X k n tgt lv st w) (kf : OkR X enc B → G X k n (pc + 3) lv st w) : G X k n pc lv (.int y :: .int x :: st) w := by
  have h1 := fun z => kt (okT hF z)
  have h2 := fun z => kf (okE hF z)
  obtain ⟨Γ, p, e, R, s, m, args, below, meth, c, nL, n0, Q, qv⟩ := X
  obtain ⟨hx, hb, hml, hown, hts, hK, hE, hsz, hlk, hRf⟩ := h
  intro H locs ls hR hS hl hn
  exact lv_icmp_eq hx hb hd ht (fun z => h1 z H locs ls hR hS hl hn) (fun z => h2 z H locs ls hR hS hl hn)
theorem g_if_eq (h : Ok X cc own d K N) {x : Int32} {off : Int} {tgt : Nat} (hd : decode cc pc = .ok (.ifCond .eq off, 3)) (ht : (pc : Int) + off = (tgt : Int)) {A B : Option (β × Wd)} (hF : OkR X enc (if x = 0 then A else B)) (kt : OkR X enc A → G X k n tgt lv st w) (kf : OkR X enc B → G X k n (pc + 3) lv st w) : G X k n pc lv (.int x :: st) w := by
  have h1 := fun z => kt (okT hF z)
  have h2 := fun z => kf (okE hF z)
  obtain ⟨Γ, p, e, R, s, m, args, below, meth, c, nL, n0, Q, qv⟩ := X
  obtain ⟨hx, hb, hml, hown, hts, hK, hE, hsz, hlk, hRf⟩ := h
  intro H locs ls hR hS hl hn
  exact lv_if_eq hx hb hd ht (fun z => h1 z H locs ls hR hS hl hn) (fun z => h2 z H locs ls hR hS hl hn)
theorem g_icmp_ne (h : Ok X cc own d K N) {x y : Int32} {off : Int} {tgt : Nat} (hd : decode cc pc = .ok (.if_icmp .ne off, 3)) (ht : (pc : Int) + off = (tgt : Int)) {A B : Option (β × Wd)} (hF : OkR X enc (if x = y then A else B)) (kt : OkR X enc B → G X k n tgt lv st w) (kf : OkR X enc A → G X k n (pc + 3) lv st w) : G X k n pc lv (.int y :: .int x :: st) w := by
  have h1 := fun z => kt (okE hF z)
  have h2 := fun z => kf (okT hF z)
  obtain ⟨Γ, p, e, R, s, m, args, below, meth, c, nL, n0, Q, qv⟩ := X
  obtain ⟨hx, hb, hml, hown, hts, hK, hE, hsz, hlk, hRf⟩ := h
  intro H locs ls hR hS hl hn
  exact lv_icmp_ne hx hb hd ht (fun z => h1 z H locs ls hR hS hl hn) (fun z => h2 z H locs ls hR hS hl hn)
theorem g_if_ne (h : Ok X cc own d K N) {x : Int32} {off : Int} {tgt : Nat} (hd : decode cc pc = .ok (.ifCond .ne off, 3)) (ht : (pc : Int) + off = (tgt : Int)) {A B : Option (β × Wd)} (hF : OkR X enc (if x = 0 then A else B)) (kt : OkR X enc B → G X k n tgt lv st w) (kf : OkR X enc A → G X k n (pc + 3) lv st w) : G X k n pc lv (.int x :: st) w := by
  have h1 := fun z => kt (okE hF z)
  have h2 := fun z => kf (okT hF z)
  obtain ⟨Γ, p, e, R, s, m, args, below, meth, c, nL, n0, Q, qv⟩ := X
  obtain ⟨hx, hb, hml, hown, hts, hK, hE, hsz, hlk, hRf⟩ := h
  intro H locs ls hR hS hl hn
  exact lv_if_ne hx hb hd ht (fun z => h1 z H locs ls hR hS hl hn) (fun z => h2 z H locs ls hR hS hl hn)
theorem g_icmp_lt (h : Ok X cc own d K N) {x y : Int32} {off : Int} {tgt : Nat} (hd : decode cc pc = .ok (.if_icmp .lt off, 3)) (ht : (pc : Int) + off = (tgt : Int)) {A B : Option (β × Wd)} (hF : OkR X enc (if x < y then A else B)) (kt : OkR X enc A → G X k n tgt lv st w) (kf : OkR X enc B → G X k n (pc + 3) lv st w) : G X k n pc lv (.int y :: .int x :: st) w := by
  have h1 := fun z => kt (okT hF z)
  have h2 := fun z => kf (okE hF z)
  obtain ⟨Γ, p, e, R, s, m, args, below, meth, c, nL, n0, Q, qv⟩ := X
  obtain ⟨hx, hb, hml, hown, hts, hK, hE, hsz, hlk, hRf⟩ := h
  intro H locs ls hR hS hl hn
  exact lv_icmp_lt hx hb hd ht (fun z => h1 z H locs ls hR hS hl hn) (fun z => h2 z H locs ls hR hS hl hn)
theorem g_if_lt (h : Ok X cc own d K N) {x : Int32} {off : Int} {tgt : Nat} (hd : decode cc pc = .ok (.ifCond .lt off, 3)) (ht : (pc : Int) + off = (tgt : Int)) {A B : Option (β × Wd)} (hF : OkR X enc (if x < 0 then A else B)) (kt : OkR X enc A → G X k n tgt lv st w) (kf : OkR X enc B → G X k n (pc + 3) lv st w) : G X k n pc lv (.int x :: st) w := by
  have h1 := fun z => kt (okT hF z)
  have h2 := fun z => kf (okE hF z)
  obtain ⟨Γ, p, e, R, s, m, args, below, meth, c, nL, n0, Q, qv⟩ := X
  obtain ⟨hx, hb, hml, hown, hts, hK, hE, hsz, hlk, hRf⟩ := h
  intro H locs ls hR hS hl hn
  exact lv_if_lt hx hb hd ht (fun z => h1 z H locs ls hR hS hl hn) (fun z => h2 z H locs ls hR hS hl hn)
theorem g_icmp_ge (h : Ok X cc own d K N) {x y : Int32} {off : Int} {tgt : Nat} (hd : decode cc pc = .ok (.if_icmp .ge off, 3)) (ht : (pc : Int) + off = (tgt : Int)) {A B : Option (β × Wd)} (hF : OkR X enc (if y ≤ x then A else B)) (kt : OkR X enc A → G X k n tgt lv st w) (kf : OkR X enc B → G X k n (pc + 3) lv st w) : G X k n pc lv (.int y :: .int x :: st) w := by
  have h1 := fun z => kt (okT hF z)
  have h2 := fun z => kf (okE hF z)
  obtain ⟨Γ, p, e, R, s, m, args, below, meth, c, nL, n0, Q, qv⟩ := X
  obtain ⟨hx, hb, hml, hown, hts, hK, hE, hsz, hlk, hRf⟩ := h
  intro H locs ls hR hS hl hn
  exact lv_icmp_ge hx hb hd ht (fun z => h1 z H locs ls hR hS hl hn) (fun z => h2 z H locs ls hR hS hl hn)
theorem g_if_ge (h : Ok X cc own d K N) {x : Int32} {off : Int} {tgt : Nat} (hd : decode cc pc = .ok (.ifCond .ge off, 3)) (ht : (pc : Int) + off = (tgt : Int)) {A B : Option (β × Wd)} (hF : OkR X enc (if 0 ≤ x then A else B)) (kt : OkR X enc A → G X k n tgt lv st w) (kf : OkR X enc B → G X k n (pc + 3) lv st w) : G X k n pc lv (.int x :: st) w := by
  have h1 := fun z => kt (okT hF z)
  have h2 := fun z => kf (okE hF z)
  obtain ⟨Γ, p, e, R, s, m, args, below, meth, c, nL, n0, Q, qv⟩ := X
  obtain ⟨hx, hb, hml, hown, hts, hK, hE, hsz, hlk, hRf⟩ := h
  intro H locs ls hR hS hl hn
  exact lv_if_ge hx hb hd ht (fun z => h1 z H locs ls hR hS hl hn) (fun z => h2 z H locs ls hR hS hl hn)
theorem g_icmp_gt (h : Ok X cc own d K N) {x y : Int32} {off : Int} {tgt : Nat} (hd : decode cc pc = .ok (.if_icmp .gt off, 3)) (ht : (pc : Int) + off = (tgt : Int)) {A B : Option (β × Wd)} (hF : OkR X enc (if y < x then A else B)) (kt : OkR X enc A → G X k n tgt lv st w) (kf : OkR X enc B → G X k n (pc + 3) lv st w) : G X k n pc lv (.int y :: .int x :: st) w := by
  have h1 := fun z => kt (okT hF z)
  have h2 := fun z => kf (okE hF z)
  obtain ⟨Γ, p, e, R, s, m, args, below, meth, c, nL, n0, Q, qv⟩ := X
  obtain ⟨hx, hb, hml, hown, hts, hK, hE, hsz, hlk, hRf⟩ := h
  intro H locs ls hR hS hl hn
  exact lv_icmp_gt hx hb hd ht (fun z => h1 z H locs ls hR hS hl hn) (fun z => h2 z H locs ls hR hS hl hn)
theorem g_if_gt (h : Ok X cc own d K N) {x : Int32} {off : Int} {tgt : Nat} (hd : decode cc pc = .ok (.ifCond .gt off, 3)) (ht : (pc : Int) + off = (tgt : Int)) {A B : Option (β × Wd)} (hF : OkR X enc (if 0 < x then A else B)) (kt : OkR X enc A → G X k n tgt lv st w) (kf : OkR X enc B → G X k n (pc + 3) lv st w) : G X k n pc lv (.int x :: st) w := by
  have h1 := fun z => kt (okT hF z)
  have h2 := fun z => kf (okE hF z)
  obtain ⟨Γ, p, e, R, s, m, args, below, meth, c, nL, n0, Q, qv⟩ := X
  obtain ⟨hx, hb, hml, hown, hts, hK, hE, hsz, hlk, hRf⟩ := h
  intro H locs ls hR hS hl hn
  exact lv_if_gt hx hb hd ht (fun z => h1 z H locs ls hR hS hl hn) (fun z => h2 z H locs ls hR hS hl hn)
theorem g_icmp_le (h : Ok X cc own d K N) {x y : Int32} {off : Int} {tgt : Nat} (hd : decode cc pc = .ok (.if_icmp .le off, 3)) (ht : (pc : Int) + off = (tgt : Int)) {A B : Option (β × Wd)} (hF : OkR X enc (if x ≤ y then A else B)) (kt : OkR X enc A → G X k n tgt lv st w) (kf : OkR X enc B → G X k n (pc + 3) lv st w) : G X k n pc lv (.int y :: .int x :: st) w := by
  have h1 := fun z => kt (okT hF z)
  have h2 := fun z => kf (okE hF z)
  obtain ⟨Γ, p, e, R, s, m, args, below, meth, c, nL, n0, Q, qv⟩ := X
  obtain ⟨hx, hb, hml, hown, hts, hK, hE, hsz, hlk, hRf⟩ := h
  intro H locs ls hR hS hl hn
  exact lv_icmp_le hx hb hd ht (fun z => h1 z H locs ls hR hS hl hn) (fun z => h2 z H locs ls hR hS hl hn)
theorem g_if_le (h : Ok X cc own d K N) {x : Int32} {off : Int} {tgt : Nat} (hd : decode cc pc = .ok (.ifCond .le off, 3)) (ht : (pc : Int) + off = (tgt : Int)) {A B : Option (β × Wd)} (hF : OkR X enc (if x ≤ 0 then A else B)) (kt : OkR X enc A → G X k n tgt lv st w) (kf : OkR X enc B → G X k n (pc + 3) lv st w) : G X k n pc lv (.int x :: st) w := by
  have h1 := fun z => kt (okT hF z)
  have h2 := fun z => kf (okE hF z)
  obtain ⟨Γ, p, e, R, s, m, args, below, meth, c, nL, n0, Q, qv⟩ := X
  obtain ⟨hx, hb, hml, hown, hts, hK, hE, hsz, hlk, hRf⟩ := h
  intro H locs ls hR hS hl hn
  exact lv_if_le hx hb hd ht (fun z => h1 z H locs ls hR hS hl hn) (fun z => h2 z H locs ls hR hS hl hn)
/-- null or not -/
def ifn {α : Type} (r : Option Nat) (A : Option α) (B : Option α) : Option α := match r with
  | none => A
  | some _ => B
theorem g_ifnull (h : Ok X cc own d K N) {r : Option Nat} {off : Int} {tgt : Nat} (hd : decode cc pc = .ok (.ifnull off, 3)) (ht : (pc : Int) + off = (tgt : Int)) {A B : Option (β × Wd)} (hF : OkR X enc (ifn r A B)) (kt : OkR X enc A → G X k n tgt lv st w) (kf : OkR X enc B → G X k n (pc + 3) lv st w) : G X k n pc lv (rv X.1 r :: st) w := by
  obtain ⟨Γ, p, e, R, s, m, args, below, meth, c, nL, n0, Q, qv⟩ := X
  obtain ⟨hx, hb, hml, hown, hts, hK, hE, hsz, hlk, hRf⟩ := h
  intro H locs ls hR hS hl hn
  cases r with
  | none => exact lv_ifnullN hx hb hd ht (kt hF H locs ls hR hS hl hn)
  | some a => exact lv_ifnull hx hb hd (kf hF H locs ls hR hS hl hn)
theorem g_ifnonnull (h : Ok X cc own d K N) {r : Option Nat} {off : Int} {tgt : Nat} (hd : decode cc pc = .ok (.ifnonnull off, 3)) (ht : (pc : Int) + off = (tgt : Int)) {A B : Option (β × Wd)} (hF : OkR X enc (ifn r B A)) (kt : OkR X enc A → G X k n tgt lv st w) (kf : OkR X enc B → G X k n (pc + 3) lv st w) : G X k n pc lv (rv X.1 r :: st) w := by
  obtain ⟨Γ, p, e, R, s, m, args, below, meth, c, nL, n0, Q, qv⟩ := X
  obtain ⟨hx, hb, hml, hown, hts, hK, hE, hsz, hlk, hRf⟩ := h
  intro H locs ls hR hS hl hn
  cases r with
  | none => exact lv_ifnonnullN hx hb hd (kf hF H locs ls hR hS hl hn)
  | some a => exact lv_ifnonnull hx hb hd ht (kt hF H locs ls hR hS hl hn)
theorem g_goto (h : Ok X cc own d K N) {off : Int} {tgt : Nat} (hd : decode cc pc = .ok (.goto off, 3)) (ht : (pc : Int) + off = (tgt : Int)) (kk : G X k n tgt lv st w) : G X k n pc lv st w := by
  obtain ⟨Γ, p, e, R, s, m, args, below, meth, c, nL, n0, Q, qv⟩ := X
  obtain ⟨hx, hb, hml, hown, hts, hK, hE, hsz, hlk, hRf⟩ := h
  intro H locs ls hR hS hl hn
  exact lv_goto hx hb hd ht (kk H locs ls hR hS hl hn)
theorem g_swIn (h : Ok X cc own d K N) {dflt lo hi : Int} {offs : Array Int} {len : Nat} {x : Int32} {off : Int} {tgt : Nat} (hd : decode cc pc = .ok (.tableswitch dflt lo hi offs, len)) (h1 : ¬ x.toInt < lo) (h2 : ¬ hi < x.toInt) (ho : offs[(x.toInt - lo).toNat]? = some off) (ht : (pc : Int) + off = (tgt : Int)) (kk : G X k n tgt lv st w) : G X k n pc lv (.int x :: st) w := by
  obtain ⟨Γ, p, e, R, s, m, args, below, meth, c, nL, n0, Q, qv⟩ := X
  obtain ⟨hx, hb, hml, hown, hts, hK, hE, hsz, hlk, hRf⟩ := h
  intro H locs ls hR hS hl hn
  exact lv_tableIn hx hb hd h1 h2 ho ht (kk H locs ls hR hS hl hn)
theorem g_swOut (h : Ok X cc own d K N) {dflt lo hi : Int} {offs : Array Int} {len : Nat} {x : Int32} {tgt : Nat} (hd : decode cc pc = .ok (.tableswitch dflt lo hi offs, len)) (h1 : x.toInt < lo ∨ hi < x.toInt) (ht : (pc : Int) + dflt = (tgt : Int)) (kk : G X k n tgt lv st w) : G X k n pc lv (.int x :: st) w := by
  obtain ⟨Γ, p, e, R, s, m, args, below, meth, c, nL, n0, Q, qv⟩ := X
  obtain ⟨hx, hb, hml, hown, hts, hK, hE, hsz, hlk, hRf⟩ := h
  intro H locs ls hR hS hl hn
  exact lv_tableOut hx hb hd h1 ht (kk H locs ls hR hS hl hn)
theorem sw_out {x : Int32} {lo : Int} {q : Nat} (h : ∀ j : Nat, j < q → ¬ x = Int32.ofInt (lo + j)) : x.toInt < lo ∨ lo + q - 1 < x.toInt := by
  by_cases h1 : x.toInt < lo
  · exact Or.inl h1
  · by_cases h2 : lo + q - 1 < x.toInt
    · exact Or.inr h2
    · refine absurd ?_ (h (x.toInt - lo).toNat (by omega))
      rw [show lo + ((x.toInt - lo).toNat : Int) = x.toInt by omega, Int32.ofInt_toInt]
theorem g_swEq (h : Ok X cc own d K N) {dflt lo hi : Int} {offs : Array Int} {len : Nat} {x : Int32} (v : Int32) {off : Int} {tgt : Nat} (hd : decode cc pc = .ok (.tableswitch dflt lo hi offs, len)) (h1 : ¬ v.toInt < lo ∧ ¬ hi < v.toInt ∧ offs[(v.toInt - lo).toNat]? = some off) (ht : (pc : Int) + off = (tgt : Int)) {A B : Option (β × Wd)} (hF : OkR X enc (if x = v then A else B)) (kt : OkR X enc A → G X k n tgt lv st w) (kf : ¬ x = v → OkR X enc B → G X k n pc lv (.int x :: st) w) : G X k n pc lv (.int x :: st) w := by
  by_cases c : x = v
  · subst c
    exact g_swIn h hd h1.1 h1.2.1 h1.2.2 ht (kt (okT hF rfl))
  · exact kf c (okE hF c)
/-- a cell that was there as the method began, of kind c -/
def InN (X : Cx) (a c : Nat) : Prop := a < n0X X ∧ kd a = c
/-- a cell that is there, k new ones counted, of kind c -/
def InW (X : Cx) (k a c : Nat) : Prop := a < n0X X + k ∧ kd a = c
theorem inw {k a c : Nat} (h : InN X a c) : InW X k a c := ⟨Nat.lt_of_lt_of_le h.1 (Nat.le_add_right _ _), h.2⟩
theorem inwm {k k2 a c : Nat} (h : InW X k a c) (hk : k ≤ k2) : InW X k2 a c := ⟨Nat.lt_of_lt_of_le h.1 (Nat.add_le_add_left hk _), h.2⟩
theorem g_dr {r : Option Nat} {c : Nat} {f : Nat → Option (β × Wd)} (hF : OkR X enc (dr r c w f)) (kk : ∀ a, r = some a → InW X k a c → OkR X enc (f a) → G X k n pc lv st w) : G X k n pc lv st w := by
  obtain ⟨a, e, h1, hF⟩ := dr_ok hF
  have kk := kk a e
  obtain ⟨Γ, p, e, R, s, m, args, below, meth, c, nL, n0, Q, qv⟩ := X
  intro H locs ls hR hS hl hn
  refine kk ⟨?_, h1.2⟩ hF H locs ls hR hS hl hn
  show a < n0 + k
  omega
theorem okN {P : Prop} (hF : OkR X enc (none : Option (β × Wd))) : P := by
  obtain ⟨_, _, e, _⟩ := hF
  cases e
