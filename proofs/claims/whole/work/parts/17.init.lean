theorem nw_some {α : Type} {w : Wd} {c L : Nat} {f : Nat → Wd → Option α} {q : α} (h : nw w c L f = some q) : f (wn w) (al w) = some q := by
  by_cases hc : kd (wn w) = c ∧ ln (wn w) = L
  · simpa [nw, hc] using h
  · simp [nw, hc] at h
theorem dr_some {α : Type} {r : Option Nat} {c : Nat} {w : Wd} {f : Nat → Option α} {q : α} (h : dr r c w f = some q) : ∃ a, r = some a ∧ (a < wn w ∧ kd a = c) ∧ f a = some q := by
  cases r with
  | none => cases h
  | some a =>
    by_cases hc : a < wn w ∧ kd a = c
    · exact ⟨a, rfl, hc, by simpa [dr, hc] using h⟩
    · simp [dr, hc] at h
theorem grd_some {α : Type} {c : Prop} [Decidable c] {e : Option α} {q : α} (h : grd c e = some q) : c ∧ e = some q := by
  by_cases hc : c
  · exact ⟨hc, by simpa [grd, hc] using h⟩
  · simp [grd, hc] at h
theorem bnd_some {α β : Type} {o : Option (α × Wd)} {f : α → Wd → Option (β × Wd)} {q : β × Wd} (h : bnd o f = some q) : ∃ r w, o = some (r, w) ∧ f r w = some q := by
  cases o with
  | none => cases h
  | some z => exact ⟨z.1, z.2, rfl, h⟩
theorem lw_some {α : Type} {w : Wd} {f : Wd → Option α} {q : α} (h : lw w f = some q) : f w = some q := h
theorem fdX0_9 : FdOk RX0 9 0 0 .boolean false := ⟨RX0, TX0, 6, tyX0, rfl, inX0, by decide, rfl, by decide, rfl, wfl_X0_9, tyX0_ok, nmX0, rfl, rfl⟩
theorem fdX0_15 : FdOk RX0 15 0 1 .int false := ⟨RX0, TX0, 6, tyX0, rfl, inX0, by decide, rfl, by decide, rfl, wfl_X0_15, tyX0_ok, nmX0, rfl, rfl⟩
theorem fdX0_19 : FdOk RX0 19 0 2 .int false := ⟨RX0, TX0, 6, tyX0, rfl, inX0, by decide, rfl, by decide, rfl, wfl_X0_19, tyX0_ok, nmX0, rfl, rfl⟩
theorem fdX0_22 : FdOk RX0 22 0 3 .int false := ⟨RX0, TX0, 6, tyX0, rfl, inX0, by decide, rfl, by decide, rfl, wfl_X0_22, tyX0_ok, nmX0, rfl, rfl⟩
theorem fdX0_25 : FdOk RX0 25 0 4 (.array .int) true := ⟨RX0, TX0, 6, tyX0, rfl, inX0, by decide, rfl, by decide, rfl, wfl_X0_25, tyX0_ok, nmX0, rfl, rfl⟩
theorem fdX0_31 : FdOk RX0 31 0 5 (.array (.object "SolesByWhatIsTold$Walker")) true := ⟨RX0, TX0, 6, tyX0, rfl, inX0, by decide, rfl, by decide, rfl, wfl_X0_31, tyX0_ok, nmX0, rfl, rfl⟩
theorem cvX7_57 : CvOk RX7 57 7 yX7_spell cX7_spell 10 none 9 := ⟨⟨⟨by decide, by decide, rfl⟩, by decide, wco_X7_spell, win_X7⟩, by decide, ⟨_, _, rfl⟩, wml_X7_57, wim_X7_spell, wse_X7_spell⟩
theorem nwX6_16 : NwOk RX6 16 5 := ⟨RX5, TX5, 6, tyX5, rfl, by decide, rfl, inX5, tyX5_ok, wcl_X6_16, wia_X5, win_X5, by decide +kernel⟩
theorem nwX6_29 : NwOk RX6 29 3 := ⟨RX3, TX3, 4, tyX3, rfl, by decide, rfl, inX3, tyX3_ok, wcl_X6_29, wia_X3, win_X3, by decide +kernel⟩
theorem nwX6_41 : NwOk RX6 41 1 := ⟨RX1, TX1, 9, tyX1, rfl, by decide, rfl, inX1, tyX1_ok, wcl_X6_41, wia_X1, win_X1, by decide +kernel⟩
theorem nwX6_51 : NwOk RX6 51 0 := ⟨RX0, TX0, 6, tyX0, rfl, by decide, rfl, inX0, tyX0_ok, wcl_X6_51, wia_X0, win_X0, by decide +kernel⟩
theorem nwX6_58 : NwOk RX6 58 2 := ⟨RX2, TX2, 3, tyX2, rfl, by decide, rfl, inX2, tyX2_ok, wcl_X6_58, wia_X2, win_X2, by decide +kernel⟩
theorem nwX6_93 : NwOk RX6 93 4 := ⟨RX4, TX4, 9, tyX4, rfl, by decide, rfl, inX4, tyX4_ok, wcl_X6_93, wia_X4, win_X4, by decide +kernel⟩
theorem nwX0_29 : NwOk RX0 29 5 := ⟨RX5, TX5, 6, tyX5, rfl, by decide, rfl, inX5, tyX5_ok, wcl_X0_29, wia_X5, win_X5, by decide +kernel⟩
theorem ciX6_53 : CiOk RX6 53 yX0_init cX0_init 2 0 := ⟨⟨⟨by decide, by decide, rfl⟩, by decide, wco_X0_init, win_X0⟩, wml_X6_53, rfl, wim_X0_init⟩
theorem ciX6_95 : CiOk RX6 95 yX4_init cX4_init 2 1 := ⟨⟨⟨by decide, by decide, rfl⟩, by decide, wco_X4_init, win_X4⟩, wml_X6_95, rfl, wim_X4_init⟩
theorem cjX6_43 : CjOk RX6 43 yX1_init cX1_init 1 0 := ⟨⟨⟨by decide, by decide, rfl⟩, by decide, wco_X1_init, win_X1⟩, List.mem_of_getElem? (i := 0) rfl, rfl, wim_X1_init⟩
theorem cjX6_70 : CjOk RX6 70 yX5_init cX5_init 1 0 := ⟨⟨⟨by decide, by decide, rfl⟩, by decide, wco_X5_init, win_X5⟩, List.mem_of_getElem? (i := 2) rfl, rfl, wim_X5_init⟩
theorem cjX6_71 : CjOk RX6 71 yX3_init cX3_init 1 0 := ⟨⟨⟨by decide, by decide, rfl⟩, by decide, wco_X3_init, win_X3⟩, List.mem_of_getElem? (i := 3) rfl, rfl, wim_X3_init⟩
theorem cjX6_72 : CjOk RX6 72 yX2_init cX2_init 1 0 := ⟨⟨⟨by decide, by decide, rfl⟩, by decide, wco_X2_init, win_X2⟩, List.mem_of_getElem? (i := 4) rfl, rfl, wim_X2_init⟩
theorem cjX0_35 : CjOk RX0 35 yX5_init cX5_init 1 0 := ⟨⟨⟨by decide, by decide, rfl⟩, by decide, wco_X5_init, win_X5⟩, List.mem_of_getElem? (i := 1) rfl, rfl, wim_X5_init⟩
def fX5_init (t : Nat) (w : Wd) : Option (Unit × Wd) :=
  some ((), w)
set_option maxHeartbeats 4000000 in
theorem mX5_init {Γ : En} {t : Nat} {w : Wd} (ht : t < wn w ∧ kd t = 5) : MtV Γ yX5_init cX5_init 1 none 2 0 0 [rv Γ (some t)] w (fX5_init t w) := by
  refine mtV [.inr (.inl (some t))] rfl (Nat.le_of_ble_eq_true rfl) (fun X hΓ hnL hn0 h hin9 hr hF => ?_)
  subst hΓ
  have hin := hin9 rfl
  have ht : InN X t 5 := ⟨by rw [hn0]; exact ht.1, ht.2⟩
  have h : Ok X cX5_init RX5 2 0 0 := h
  have hj : ∀ j, j < 1 → j < nLX X := fun j q => by rw [hnL]; exact q
  show G X 0 0 0 [(0, .inr (.inl (some t)))] [] w
  unfold fX5_init at hF
  refine g_aload_n (pc := 0) h 0 rfl dX5_init_0 ?_
  refine g_obj (pc := 1) h wob_X5_1 wim_obj wco_obj (by decide) dX5_init_1 ?_
  exact g_vret (pc := 4) h hr ⟨by decide, by decide⟩ hF dX5_init_4
theorem nX5_init {t : Nat} {w : Wd} {r : Unit} {w2 : Wd} (h : fX5_init t w = some (r, w2)) : wn w + 0 ≤ wn w2 := by
  unfold fX5_init at h
  
  cases h
  try simp only [wn_sR, wn_sI, wn_al] at *
  omega
def fX3_init (t : Nat) (w : Wd) : Option (Unit × Wd) :=
  nw w 8 160 (fun a_1 w_2 => lw (sR w_2 t 0 (some a_1)) (fun w_3 => nw w_3 8 3 (fun a_4 w_5 => lw (sR w_5 t 1 (some a_4)) (fun w_6 => lw (sI w_6 t 2 (0 : Int32)) (fun w_7 => lw (sI w_7 t 3 (0 : Int32)) (fun w_8 => some ((), w_8)))))))
set_option maxHeartbeats 4000000 in
theorem mX3_init {Γ : En} {t : Nat} {w : Wd} (ht : t < wn w ∧ kd t = 3) : MtV Γ yX3_init cX3_init 1 none 2 2 163 [rv Γ (some t)] w (fX3_init t w) := by
  refine mtV [.inr (.inl (some t))] rfl (Nat.le_of_ble_eq_true rfl) (fun X hΓ hnL hn0 h hin9 hr hF => ?_)
  subst hΓ
  have hin := hin9 rfl
  have ht : InN X t 3 := ⟨by rw [hn0]; exact ht.1, ht.2⟩
  have h : Ok X cX3_init RX3 2 2 163 := h
  have hj : ∀ j, j < 1 → j < nLX X := fun j q => by rw [hnL]; exact q
  show G X 0 0 0 [(0, .inr (.inl (some t)))] [] w
  unfold fX3_init at hF
  refine g_aload_n (pc := 0) h 0 rfl dX3_init_0 ?_
  refine g_obj (pc := 1) h wob_X3_3 wim_obj wco_obj (by decide) dX3_init_1 ?_
  refine g_aload_n (pc := 4) h 0 rfl dX3_init_4 ?_
  refine g_sipush (pc := 5) (v := (160 : Int32)) h dX3_init_5 (by decide) ?_
  refine g_newI (pc := 8) (n' := 160) h hF (L := 160) ⟨by decide, by decide, by decide⟩ ⟨by decide, by decide⟩ rfl dX3_init_8 (fun a_1 w_2 h_a_1 hF => ?_)
  refine g_putRF (pc := 10) h fdX3_9 (inw ht) rfl hin rfl (Or.inr ⟨_, rfl⟩) dX3_init_10 ?_
  refine g_w hF (fun w_3 hF => ?_)
  refine g_aload_n (pc := 13) h 0 rfl dX3_init_13 ?_
  refine g_iconst (pc := 14) (v := (3 : Int32)) h dX3_init_14 (by decide) ?_
  refine g_newI (pc := 15) (n' := 163) h hF (L := 3) ⟨by decide, by decide, by decide⟩ ⟨by decide, by decide⟩ rfl dX3_init_15 (fun a_4 w_5 h_a_4 hF => ?_)
  refine g_putRF (pc := 17) h fdX3_15 (inw ht) rfl hin rfl (Or.inr ⟨_, rfl⟩) dX3_init_17 ?_
  refine g_w hF (fun w_6 hF => ?_)
  refine g_aload_n (pc := 20) h 0 rfl dX3_init_20 ?_
  refine g_iconst (pc := 21) (v := (0 : Int32)) h dX3_init_21 (by decide) ?_
  refine g_putI (pc := 22) h fdX3_18 (inw ht) (by decide) ⟨rfl, rfl⟩ dX3_init_22 ?_
  refine g_w hF (fun w_7 hF => ?_)
  refine g_aload_n (pc := 25) h 0 rfl dX3_init_25 ?_
  refine g_iconst (pc := 26) (v := (0 : Int32)) h dX3_init_26 (by decide) ?_
  refine g_putI (pc := 27) h fdX3_22 (inw ht) (by decide) ⟨by decide, by decide⟩ dX3_init_27 ?_
  refine g_w hF (fun w_8 hF => ?_)
  exact g_vret (pc := 30) h hr ⟨by decide, by decide⟩ hF dX3_init_30
theorem nX3_init {t : Nat} {w : Wd} {r : Unit} {w2 : Wd} (h : fX3_init t w = some (r, w2)) : wn w + 2 ≤ wn w2 := by
  unfold fX3_init at h
  replace h := nw_some h
  replace h := lw_some h
  replace h := nw_some h
  replace h := lw_some h
  replace h := lw_some h
  replace h := lw_some h
  cases h
  try simp only [wn_sR, wn_sI, wn_al] at *
  omega
def fX2_init (t : Nat) (w : Wd) : Option (Unit × Wd) :=
  nw w 8 40 (fun a_1 w_2 => lw (sR w_2 t 0 (some a_1)) (fun w_3 => lw (sI w_3 t 1 (-1 : Int32)) (fun w_4 => lw (sI w_4 t 2 (0 : Int32)) (fun w_5 => some ((), w_5)))))
set_option maxHeartbeats 4000000 in
theorem mX2_init {Γ : En} {t : Nat} {w : Wd} (ht : t < wn w ∧ kd t = 2) : MtV Γ yX2_init cX2_init 1 none 2 1 40 [rv Γ (some t)] w (fX2_init t w) := by
  refine mtV [.inr (.inl (some t))] rfl (Nat.le_of_ble_eq_true rfl) (fun X hΓ hnL hn0 h hin9 hr hF => ?_)
  subst hΓ
  have hin := hin9 rfl
  have ht : InN X t 2 := ⟨by rw [hn0]; exact ht.1, ht.2⟩
  have h : Ok X cX2_init RX2 2 1 40 := h
  have hj : ∀ j, j < 1 → j < nLX X := fun j q => by rw [hnL]; exact q
  show G X 0 0 0 [(0, .inr (.inl (some t)))] [] w
  unfold fX2_init at hF
  refine g_aload_n (pc := 0) h 0 rfl dX2_init_0 ?_
  refine g_obj (pc := 1) h wob_X2_3 wim_obj wco_obj (by decide) dX2_init_1 ?_
  refine g_aload_n (pc := 4) h 0 rfl dX2_init_4 ?_
  refine g_bipush (pc := 5) (v := (40 : Int32)) h dX2_init_5 (by decide) ?_
  refine g_newI (pc := 7) (n' := 40) h hF (L := 40) ⟨by decide, by decide, by decide⟩ ⟨by decide, by decide⟩ rfl dX2_init_7 (fun a_1 w_2 h_a_1 hF => ?_)
  refine g_putRF (pc := 9) h fdX2_9 (inw ht) rfl hin rfl (Or.inr ⟨_, rfl⟩) dX2_init_9 ?_
  refine g_w hF (fun w_3 hF => ?_)
  refine g_aload_n (pc := 12) h 0 rfl dX2_init_12 ?_
  refine g_iconst (pc := 13) (v := (-1 : Int32)) h dX2_init_13 (by decide) ?_
  refine g_putI (pc := 14) h fdX2_15 (inw ht) (by decide) ⟨rfl, rfl⟩ dX2_init_14 ?_
  refine g_w hF (fun w_4 hF => ?_)
  refine g_aload_n (pc := 17) h 0 rfl dX2_init_17 ?_
  refine g_iconst (pc := 18) (v := (0 : Int32)) h dX2_init_18 (by decide) ?_
  refine g_putI (pc := 19) h fdX2_19 (inw ht) (by decide) ⟨rfl, rfl⟩ dX2_init_19 ?_
  refine g_w hF (fun w_5 hF => ?_)
  exact g_vret (pc := 22) h hr ⟨by decide, by decide⟩ hF dX2_init_22
theorem nX2_init {t : Nat} {w : Wd} {r : Unit} {w2 : Wd} (h : fX2_init t w = some (r, w2)) : wn w + 1 ≤ wn w2 := by
  unfold fX2_init at h
  replace h := nw_some h
  replace h := lw_some h
  replace h := lw_some h
  replace h := lw_some h
  cases h
  try simp only [wn_sR, wn_sI, wn_al] at *
  omega
def fX1_init (t : Nat) (w : Wd) : Option (Unit × Wd) :=
  nw w 8 160 (fun a_1 w_2 => lw (sR w_2 t 0 (some a_1)) (fun w_3 => lw (sI w_3 t 1 (0 : Int32)) (fun w_4 => some ((), w_4))))
set_option maxHeartbeats 4000000 in
theorem mX1_init {Γ : En} {t : Nat} {w : Wd} (ht : t < wn w ∧ kd t = 1) : MtV Γ yX1_init cX1_init 1 none 2 1 160 [rv Γ (some t)] w (fX1_init t w) := by
  refine mtV [.inr (.inl (some t))] rfl (Nat.le_of_ble_eq_true rfl) (fun X hΓ hnL hn0 h hin9 hr hF => ?_)
  subst hΓ
  have hin := hin9 rfl
  have ht : InN X t 1 := ⟨by rw [hn0]; exact ht.1, ht.2⟩
  have h : Ok X cX1_init RX1 2 1 160 := h
  have hj : ∀ j, j < 1 → j < nLX X := fun j q => by rw [hnL]; exact q
  show G X 0 0 0 [(0, .inr (.inl (some t)))] [] w
  unfold fX1_init at hF
  refine g_aload_n (pc := 0) h 0 rfl dX1_init_0 ?_
  refine g_obj (pc := 1) h wob_X1_3 wim_obj wco_obj (by decide) dX1_init_1 ?_
  refine g_aload_n (pc := 4) h 0 rfl dX1_init_4 ?_
  refine g_sipush (pc := 5) (v := (160 : Int32)) h dX1_init_5 (by decide) ?_
  refine g_newI (pc := 8) (n' := 160) h hF (L := 160) ⟨by decide, by decide, by decide⟩ ⟨by decide, by decide⟩ rfl dX1_init_8 (fun a_1 w_2 h_a_1 hF => ?_)
  refine g_putRF (pc := 10) h fdX1_9 (inw ht) rfl hin rfl (Or.inr ⟨_, rfl⟩) dX1_init_10 ?_
  refine g_w hF (fun w_3 hF => ?_)
  refine g_aload_n (pc := 13) h 0 rfl dX1_init_13 ?_
  refine g_iconst (pc := 14) (v := (0 : Int32)) h dX1_init_14 (by decide) ?_
  refine g_putI (pc := 15) h fdX1_15 (inw ht) (by decide) ⟨rfl, rfl⟩ dX1_init_15 ?_
  refine g_w hF (fun w_4 hF => ?_)
  exact g_vret (pc := 18) h hr ⟨by decide, by decide⟩ hF dX1_init_18
theorem nX1_init {t : Nat} {w : Wd} {r : Unit} {w2 : Wd} (h : fX1_init t w = some (r, w2)) : wn w + 1 ≤ wn w2 := by
  unfold fX1_init at h
  replace h := nw_some h
  replace h := lw_some h
  replace h := lw_some h
  cases h
  try simp only [wn_sR, wn_sI, wn_al] at *
  omega
def fX4_init (t : Nat) (r1 : Option Nat) (w : Wd) : Option (Unit × Wd) :=
  nw w 8 31 (fun a_1 w_2 => lw (sR w_2 t 8 (some a_1)) (fun w_3 => lw (sR w_3 t 7 r1) (fun w_4 => some ((), w_4))))
set_option maxHeartbeats 4000000 in
theorem mX4_init {Γ : En} {t : Nat} {r1 : Option Nat} {w : Wd} (ht : t < wn w ∧ kd t = 4) : MtV Γ yX4_init cX4_init 2 none 2 1 31 [rv Γ (some t), rv Γ r1] w (fX4_init t r1 w) := by
  refine mtV [.inr (.inl (some t)), .inr (.inl r1)] rfl (Nat.le_of_ble_eq_true rfl) (fun X hΓ hnL hn0 h hin9 hr hF => ?_)
  subst hΓ
  have hin := hin9 rfl
  have ht : InN X t 4 := ⟨by rw [hn0]; exact ht.1, ht.2⟩
  have h : Ok X cX4_init RX4 2 1 31 := h
  have hj : ∀ j, j < 2 → j < nLX X := fun j q => by rw [hnL]; exact q
  show G X 0 0 0 [(0, .inr (.inl (some t))), (1, .inr (.inl r1))] [] w
  unfold fX4_init at hF
  refine g_aload_n (pc := 0) h 0 rfl dX4_init_0 ?_
  refine g_obj (pc := 1) h wob_X4_3 wim_obj wco_obj (by decide) dX4_init_1 ?_
  refine g_aload_n (pc := 4) h 0 rfl dX4_init_4 ?_
  refine g_bipush (pc := 5) (v := (31 : Int32)) h dX4_init_5 (by decide) ?_
  refine g_newI (pc := 7) (n' := 31) h hF (L := 31) ⟨by decide, by decide, by decide⟩ ⟨by decide, by decide⟩ rfl dX4_init_7 (fun a_1 w_2 h_a_1 hF => ?_)
  refine g_putRF (pc := 9) h fdX4_11 (inw ht) rfl hin rfl (Or.inr ⟨_, rfl⟩) dX4_init_9 ?_
  refine g_w hF (fun w_3 hF => ?_)
  refine g_aload_n (pc := 12) h 0 rfl dX4_init_12 ?_
  refine g_aload_n (pc := 13) h 1 rfl dX4_init_13 ?_
  refine g_putR (pc := 14) h fdX4_15 (inw ht) rfl (Or.inl ⟨_, rfl⟩) dX4_init_14 ?_
  refine g_w hF (fun w_4 hF => ?_)
  exact g_vret (pc := 17) h hr ⟨by decide, by decide⟩ hF dX4_init_17
theorem nX4_init {t : Nat} {r1 : Option Nat} {w : Wd} {r : Unit} {w2 : Wd} (h : fX4_init t r1 w = some (r, w2)) : wn w + 1 ≤ wn w2 := by
  unfold fX4_init at h
  replace h := nw_some h
  replace h := lw_some h
  replace h := lw_some h
  cases h
  try simp only [wn_sR, wn_sI, wn_al] at *
  omega
def fX0_init (t : Nat) (w : Wd) : Option (Unit × Wd) :=
  lw (sI w t 0 (0 : Int32)) (fun w_1 => lw (sI w_1 t 1 (0 : Int32)) (fun w_2 => lw (sI w_2 t 2 (0 : Int32)) (fun w_3 => lw (sI w_3 t 3 (0 : Int32)) (fun w_4 => nw w_4 8 8 (fun a_5 w_6 => lw (sR w_6 t 4 (some a_5)) (fun w_7 => nw w_7 12 6 (fun a_8 w_9 => lw (sR w_9 t 5 (some a_8)) (fun w_10 => nw w_10 5 0 (fun a_11 w_12 => bnd (fX5_init a_11 w_12) (fun u_13 w_14 => dr (gR w_10 t 5) 12 w_14 (fun a_15 => grd (vin (0 : Int32) (ln a_15)) (lw (sR w_14 a_15 (0 : Int32).toNatClampNeg (some a_11)) (fun w_16 => nw w_16 5 0 (fun a_17 w_18 => bnd (fX5_init a_17 w_18) (fun u_19 w_20 => dr (gR w_16 t 5) 12 w_20 (fun a_21 => grd (vin (1 : Int32) (ln a_21)) (lw (sR w_20 a_21 (1 : Int32).toNatClampNeg (some a_17)) (fun w_22 => nw w_22 5 0 (fun a_23 w_24 => bnd (fX5_init a_23 w_24) (fun u_25 w_26 => dr (gR w_22 t 5) 12 w_26 (fun a_27 => grd (vin (2 : Int32) (ln a_27)) (lw (sR w_26 a_27 (2 : Int32).toNatClampNeg (some a_23)) (fun w_28 => nw w_28 5 0 (fun a_29 w_30 => bnd (fX5_init a_29 w_30) (fun u_31 w_32 => dr (gR w_28 t 5) 12 w_32 (fun a_33 => grd (vin (3 : Int32) (ln a_33)) (lw (sR w_32 a_33 (3 : Int32).toNatClampNeg (some a_29)) (fun w_34 => nw w_34 5 0 (fun a_35 w_36 => bnd (fX5_init a_35 w_36) (fun u_37 w_38 => dr (gR w_34 t 5) 12 w_38 (fun a_39 => grd (vin (4 : Int32) (ln a_39)) (lw (sR w_38 a_39 (4 : Int32).toNatClampNeg (some a_35)) (fun w_40 => nw w_40 5 0 (fun a_41 w_42 => bnd (fX5_init a_41 w_42) (fun u_43 w_44 => dr (gR w_40 t 5) 12 w_44 (fun a_45 => grd (vin (5 : Int32) (ln a_45)) (lw (sR w_44 a_45 (5 : Int32).toNatClampNeg (some a_41)) (fun w_46 => some ((), w_46)))))))))))))))))))))))))))))))))))))))
set_option maxHeartbeats 4000000 in
theorem mX0_init {Γ : En} {t : Nat} {w : Wd} (ht : t < wn w ∧ kd t = 0) : MtV Γ yX0_init cX0_init 2 none 3 8 50 [rv Γ (some t)] w (fX0_init t w) := by
  refine mtV [.inr (.inl (some t))] rfl (Nat.le_of_ble_eq_true rfl) (fun X hΓ hnL hn0 h hin9 hr hF => ?_)
  subst hΓ
  have hin := hin9 rfl
  have ht : InN X t 0 := ⟨by rw [hn0]; exact ht.1, ht.2⟩
  have h : Ok X cX0_init RX0 3 8 50 := h
  have hj : ∀ j, j < 2 → j < nLX X := fun j q => by rw [hnL]; exact q
  show G X 0 0 0 [(0, .inr (.inl (some t)))] [] w
  unfold fX0_init at hF
  refine g_aload_n (pc := 0) h 0 rfl dX0_init_0 ?_
  refine g_obj (pc := 1) h wob_X0_3 wim_obj wco_obj (by decide) dX0_init_1 ?_
  refine g_aload_n (pc := 4) h 0 rfl dX0_init_4 ?_
  refine g_iconst (pc := 5) (v := (0 : Int32)) h dX0_init_5 (by decide) ?_
  refine g_putI (pc := 6) h fdX0_9 (inw ht) (by decide) ⟨by decide, by decide⟩ dX0_init_6 ?_
  refine g_w hF (fun w_1 hF => ?_)
  refine g_aload_n (pc := 9) h 0 rfl dX0_init_9 ?_
  refine g_iconst (pc := 10) (v := (0 : Int32)) h dX0_init_10 (by decide) ?_
  refine g_putI (pc := 11) h fdX0_15 (inw ht) (by decide) ⟨rfl, rfl⟩ dX0_init_11 ?_
  refine g_w hF (fun w_2 hF => ?_)
  refine g_aload_n (pc := 14) h 0 rfl dX0_init_14 ?_
  refine g_iconst (pc := 15) (v := (0 : Int32)) h dX0_init_15 (by decide) ?_
  refine g_putI (pc := 16) h fdX0_19 (inw ht) (by decide) ⟨rfl, rfl⟩ dX0_init_16 ?_
  refine g_w hF (fun w_3 hF => ?_)
  refine g_aload_n (pc := 19) h 0 rfl dX0_init_19 ?_
  refine g_iconst (pc := 20) (v := (0 : Int32)) h dX0_init_20 (by decide) ?_
  refine g_putI (pc := 21) h fdX0_22 (inw ht) (by decide) ⟨rfl, rfl⟩ dX0_init_21 ?_
  refine g_w hF (fun w_4 hF => ?_)
  refine g_aload_n (pc := 24) h 0 rfl dX0_init_24 ?_
  refine g_bipush (pc := 25) (v := (8 : Int32)) h dX0_init_25 (by decide) ?_
  refine g_newI (pc := 27) (n' := 8) h hF (L := 8) ⟨by decide, by decide, by decide⟩ ⟨by decide, by decide⟩ rfl dX0_init_27 (fun a_5 w_6 h_a_5 hF => ?_)
  refine g_putRF (pc := 29) h fdX0_25 (inw ht) rfl hin rfl (Or.inr ⟨_, rfl⟩) dX0_init_29 ?_
  refine g_w hF (fun w_7 hF => ?_)
  refine g_aload_n (pc := 32) h 0 rfl dX0_init_32 ?_
  refine g_bipush (pc := 33) (v := (6 : Int32)) h dX0_init_33 (by decide) ?_
  refine g_newQ (pc := 35) (n' := 14) (c := 12) (L := 6) h (by decide) (Or.inr (Or.inr rfl)) rfl wcl_X0_29 hF ⟨by decide, by decide, by decide⟩ ⟨by decide, by decide⟩ rfl dX0_init_35 (fun a_8 w_9 h_a_8 hF => ?_)
  refine g_putRF (pc := 38) h fdX0_31 (inw ht) rfl hin rfl (Or.inr ⟨_, rfl⟩) dX0_init_38 ?_
  refine g_w hF (fun w_10 hF => ?_)
  refine g_iconst (pc := 41) (v := (0 : Int32)) h dX0_init_41 (by decide) ?_
  refine g_istore_n (pc := 42) (lv' := [(1, .inl (0 : Int32)), (0, .inr (.inl (some t)))]) h dX0_init_42 (hj 1 (by decide)) rfl ?_
  refine g_iload_n (pc := 43) h 0 rfl dX0_init_43 ?_
  refine g_bipush (pc := 44) (v := (6 : Int32)) h dX0_init_44 (by decide) ?_
  refine g_icmp_geF (pc := 46) (tgt := 68) h dX0_init_46 (by decide) (by decide) ?_
  refine g_aload_n (pc := 49) h 1 rfl dX0_init_49 ?_
  refine g_getR (pc := 50) h fdX0_31 (inw ht) rfl dX0_init_50 ?_
  refine g_iload_n (pc := 53) h 0 rfl dX0_init_53 ?_
  refine g_new (pc := 54) (n' := 20) h nwX0_29 hF ⟨by decide, by decide⟩ rfl dX0_init_54 (fun a_11 w_12 h_a_11 hF => ?_)
  refine g_dup (pc := 57) h dX0_init_57 rv_cat ?_
  refine g_cj (pc := 58) (k' := 3) (n' := 20) (st := [rv X.1 (some a_11), .int (0 : Int32), rv X.1 (gR w_10 t 5)]) h mX5_init cjX0_35 (inwm h_a_11 (by decide)) (by decide) ⟨by decide, by decide⟩ ⟨rfl, rfl⟩ (cat_le4 _ (Nat.le_of_ble_eq_true rfl)) rfl rfl dX0_init_58 (fun _ _ hq9 => nX5_init hq9) hF (fun u_13 w_14 hF => ?_)
  refine g_dr hF (fun a_15 e_a_15 h_a_15 hF => ?_)
  rw [e_a_15]
  obtain ⟨g_1, hF⟩ := grd_ok hF
  refine g_aast (pc := 61) (cv := 5) h (by decide) rfl rfl (by decide) h_a_15 (inwm h_a_11 (by decide)) g_1 dX0_init_61 ?_
  refine g_w hF (fun w_16 hF => ?_)
  refine g_iinc (pc := 62) (lv' := [(1, .inl (1 : Int32)), (0, .inr (.inl (some t)))]) h 0 rfl dX0_init_62 (dv := (1 : Int32)) (by decide) (hj 1 (by decide)) rfl ?_
  refine g_goto (pc := 65) (tgt := 43) h dX0_init_65 (by decide) ?_
  refine g_iload_n (pc := 43) h 0 rfl dX0_init_43 ?_
  refine g_bipush (pc := 44) (v := (6 : Int32)) h dX0_init_44 (by decide) ?_
  refine g_icmp_geF (pc := 46) (tgt := 68) h dX0_init_46 (by decide) (by decide) ?_
  refine g_aload_n (pc := 49) h 1 rfl dX0_init_49 ?_
  refine g_getR (pc := 50) h fdX0_31 (inw ht) rfl dX0_init_50 ?_
  refine g_iload_n (pc := 53) h 0 rfl dX0_init_53 ?_
  refine g_new (pc := 54) (n' := 26) h nwX0_29 hF ⟨by decide, by decide⟩ rfl dX0_init_54 (fun a_17 w_18 h_a_17 hF => ?_)
  refine g_dup (pc := 57) h dX0_init_57 rv_cat ?_
  refine g_cj (pc := 58) (k' := 4) (n' := 26) (st := [rv X.1 (some a_17), .int (1 : Int32), rv X.1 (gR w_16 t 5)]) h mX5_init cjX0_35 (inwm h_a_17 (by decide)) (by decide) ⟨by decide, by decide⟩ ⟨rfl, rfl⟩ (cat_le4 _ (Nat.le_of_ble_eq_true rfl)) rfl rfl dX0_init_58 (fun _ _ hq9 => nX5_init hq9) hF (fun u_19 w_20 hF => ?_)
  refine g_dr hF (fun a_21 e_a_21 h_a_21 hF => ?_)
  rw [e_a_21]
  obtain ⟨g_2, hF⟩ := grd_ok hF
  refine g_aast (pc := 61) (cv := 5) h (by decide) rfl rfl (by decide) h_a_21 (inwm h_a_17 (by decide)) g_2 dX0_init_61 ?_
  refine g_w hF (fun w_22 hF => ?_)
  refine g_iinc (pc := 62) (lv' := [(1, .inl (2 : Int32)), (0, .inr (.inl (some t)))]) h 0 rfl dX0_init_62 (dv := (1 : Int32)) (by decide) (hj 1 (by decide)) rfl ?_
  refine g_goto (pc := 65) (tgt := 43) h dX0_init_65 (by decide) ?_
  refine g_iload_n (pc := 43) h 0 rfl dX0_init_43 ?_
  refine g_bipush (pc := 44) (v := (6 : Int32)) h dX0_init_44 (by decide) ?_
  refine g_icmp_geF (pc := 46) (tgt := 68) h dX0_init_46 (by decide) (by decide) ?_
  refine g_aload_n (pc := 49) h 1 rfl dX0_init_49 ?_
  refine g_getR (pc := 50) h fdX0_31 (inw ht) rfl dX0_init_50 ?_
  refine g_iload_n (pc := 53) h 0 rfl dX0_init_53 ?_
  refine g_new (pc := 54) (n' := 32) h nwX0_29 hF ⟨by decide, by decide⟩ rfl dX0_init_54 (fun a_23 w_24 h_a_23 hF => ?_)
  refine g_dup (pc := 57) h dX0_init_57 rv_cat ?_
  refine g_cj (pc := 58) (k' := 5) (n' := 32) (st := [rv X.1 (some a_23), .int (2 : Int32), rv X.1 (gR w_22 t 5)]) h mX5_init cjX0_35 (inwm h_a_23 (by decide)) (by decide) ⟨by decide, by decide⟩ ⟨rfl, rfl⟩ (cat_le4 _ (Nat.le_of_ble_eq_true rfl)) rfl rfl dX0_init_58 (fun _ _ hq9 => nX5_init hq9) hF (fun u_25 w_26 hF => ?_)
  refine g_dr hF (fun a_27 e_a_27 h_a_27 hF => ?_)
  rw [e_a_27]
  obtain ⟨g_3, hF⟩ := grd_ok hF
  refine g_aast (pc := 61) (cv := 5) h (by decide) rfl rfl (by decide) h_a_27 (inwm h_a_23 (by decide)) g_3 dX0_init_61 ?_
  refine g_w hF (fun w_28 hF => ?_)
  refine g_iinc (pc := 62) (lv' := [(1, .inl (3 : Int32)), (0, .inr (.inl (some t)))]) h 0 rfl dX0_init_62 (dv := (1 : Int32)) (by decide) (hj 1 (by decide)) rfl ?_
  refine g_goto (pc := 65) (tgt := 43) h dX0_init_65 (by decide) ?_
  refine g_iload_n (pc := 43) h 0 rfl dX0_init_43 ?_
  refine g_bipush (pc := 44) (v := (6 : Int32)) h dX0_init_44 (by decide) ?_
  refine g_icmp_geF (pc := 46) (tgt := 68) h dX0_init_46 (by decide) (by decide) ?_
  refine g_aload_n (pc := 49) h 1 rfl dX0_init_49 ?_
  refine g_getR (pc := 50) h fdX0_31 (inw ht) rfl dX0_init_50 ?_
  refine g_iload_n (pc := 53) h 0 rfl dX0_init_53 ?_
  refine g_new (pc := 54) (n' := 38) h nwX0_29 hF ⟨by decide, by decide⟩ rfl dX0_init_54 (fun a_29 w_30 h_a_29 hF => ?_)
  refine g_dup (pc := 57) h dX0_init_57 rv_cat ?_
  refine g_cj (pc := 58) (k' := 6) (n' := 38) (st := [rv X.1 (some a_29), .int (3 : Int32), rv X.1 (gR w_28 t 5)]) h mX5_init cjX0_35 (inwm h_a_29 (by decide)) (by decide) ⟨by decide, by decide⟩ ⟨rfl, rfl⟩ (cat_le4 _ (Nat.le_of_ble_eq_true rfl)) rfl rfl dX0_init_58 (fun _ _ hq9 => nX5_init hq9) hF (fun u_31 w_32 hF => ?_)
  refine g_dr hF (fun a_33 e_a_33 h_a_33 hF => ?_)
  rw [e_a_33]
  obtain ⟨g_4, hF⟩ := grd_ok hF
  refine g_aast (pc := 61) (cv := 5) h (by decide) rfl rfl (by decide) h_a_33 (inwm h_a_29 (by decide)) g_4 dX0_init_61 ?_
  refine g_w hF (fun w_34 hF => ?_)
  refine g_iinc (pc := 62) (lv' := [(1, .inl (4 : Int32)), (0, .inr (.inl (some t)))]) h 0 rfl dX0_init_62 (dv := (1 : Int32)) (by decide) (hj 1 (by decide)) rfl ?_
  refine g_goto (pc := 65) (tgt := 43) h dX0_init_65 (by decide) ?_
  refine g_iload_n (pc := 43) h 0 rfl dX0_init_43 ?_
  refine g_bipush (pc := 44) (v := (6 : Int32)) h dX0_init_44 (by decide) ?_
  refine g_icmp_geF (pc := 46) (tgt := 68) h dX0_init_46 (by decide) (by decide) ?_
  refine g_aload_n (pc := 49) h 1 rfl dX0_init_49 ?_
  refine g_getR (pc := 50) h fdX0_31 (inw ht) rfl dX0_init_50 ?_
  refine g_iload_n (pc := 53) h 0 rfl dX0_init_53 ?_
  refine g_new (pc := 54) (n' := 44) h nwX0_29 hF ⟨by decide, by decide⟩ rfl dX0_init_54 (fun a_35 w_36 h_a_35 hF => ?_)
  refine g_dup (pc := 57) h dX0_init_57 rv_cat ?_
  refine g_cj (pc := 58) (k' := 7) (n' := 44) (st := [rv X.1 (some a_35), .int (4 : Int32), rv X.1 (gR w_34 t 5)]) h mX5_init cjX0_35 (inwm h_a_35 (by decide)) (by decide) ⟨by decide, by decide⟩ ⟨rfl, rfl⟩ (cat_le4 _ (Nat.le_of_ble_eq_true rfl)) rfl rfl dX0_init_58 (fun _ _ hq9 => nX5_init hq9) hF (fun u_37 w_38 hF => ?_)
  refine g_dr hF (fun a_39 e_a_39 h_a_39 hF => ?_)
  rw [e_a_39]
  obtain ⟨g_5, hF⟩ := grd_ok hF
  refine g_aast (pc := 61) (cv := 5) h (by decide) rfl rfl (by decide) h_a_39 (inwm h_a_35 (by decide)) g_5 dX0_init_61 ?_
  refine g_w hF (fun w_40 hF => ?_)
  refine g_iinc (pc := 62) (lv' := [(1, .inl (5 : Int32)), (0, .inr (.inl (some t)))]) h 0 rfl dX0_init_62 (dv := (1 : Int32)) (by decide) (hj 1 (by decide)) rfl ?_
  refine g_goto (pc := 65) (tgt := 43) h dX0_init_65 (by decide) ?_
  refine g_iload_n (pc := 43) h 0 rfl dX0_init_43 ?_
  refine g_bipush (pc := 44) (v := (6 : Int32)) h dX0_init_44 (by decide) ?_
  refine g_icmp_geF (pc := 46) (tgt := 68) h dX0_init_46 (by decide) (by decide) ?_
  refine g_aload_n (pc := 49) h 1 rfl dX0_init_49 ?_
  refine g_getR (pc := 50) h fdX0_31 (inw ht) rfl dX0_init_50 ?_
  refine g_iload_n (pc := 53) h 0 rfl dX0_init_53 ?_
  refine g_new (pc := 54) (n' := 50) h nwX0_29 hF ⟨by decide, by decide⟩ rfl dX0_init_54 (fun a_41 w_42 h_a_41 hF => ?_)
  refine g_dup (pc := 57) h dX0_init_57 rv_cat ?_
  refine g_cj (pc := 58) (k' := 8) (n' := 50) (st := [rv X.1 (some a_41), .int (5 : Int32), rv X.1 (gR w_40 t 5)]) h mX5_init cjX0_35 (inwm h_a_41 (by decide)) (by decide) ⟨by decide, by decide⟩ ⟨rfl, rfl⟩ (cat_le4 _ (Nat.le_of_ble_eq_true rfl)) rfl rfl dX0_init_58 (fun _ _ hq9 => nX5_init hq9) hF (fun u_43 w_44 hF => ?_)
  refine g_dr hF (fun a_45 e_a_45 h_a_45 hF => ?_)
  rw [e_a_45]
  obtain ⟨g_6, hF⟩ := grd_ok hF
  refine g_aast (pc := 61) (cv := 5) h (by decide) rfl rfl (by decide) h_a_45 (inwm h_a_41 (by decide)) g_6 dX0_init_61 ?_
  refine g_w hF (fun w_46 hF => ?_)
  refine g_iinc (pc := 62) (lv' := [(1, .inl (6 : Int32)), (0, .inr (.inl (some t)))]) h 0 rfl dX0_init_62 (dv := (1 : Int32)) (by decide) (hj 1 (by decide)) rfl ?_
  refine g_goto (pc := 65) (tgt := 43) h dX0_init_65 (by decide) ?_
  refine g_iload_n (pc := 43) h 0 rfl dX0_init_43 ?_
  refine g_bipush (pc := 44) (v := (6 : Int32)) h dX0_init_44 (by decide) ?_
  refine g_icmp_geT (pc := 46) (tgt := 68) h dX0_init_46 (by decide) (by decide) ?_
  exact g_vret (pc := 68) h hr ⟨by decide, by decide⟩ hF dX0_init_68
theorem nX0_init {t : Nat} {w : Wd} {r : Unit} {w2 : Wd} (h : fX0_init t w = some (r, w2)) : wn w + 8 ≤ wn w2 := by
  unfold fX0_init at h
  replace h := lw_some h
  replace h := lw_some h
  replace h := lw_some h
  replace h := lw_some h
  replace h := nw_some h
  replace h := lw_some h
  replace h := nw_some h
  replace h := lw_some h
  replace h := nw_some h
  obtain ⟨_, w_1, h2, h⟩ := bnd_some h
  have e_1 := nX5_init h2
  obtain ⟨_, _, _, h⟩ := dr_some h
  replace h := (grd_some h).2
  replace h := lw_some h
  replace h := nw_some h
  obtain ⟨_, w_2, h2, h⟩ := bnd_some h
  have e_2 := nX5_init h2
  obtain ⟨_, _, _, h⟩ := dr_some h
  replace h := (grd_some h).2
  replace h := lw_some h
  replace h := nw_some h
  obtain ⟨_, w_3, h2, h⟩ := bnd_some h
  have e_3 := nX5_init h2
  obtain ⟨_, _, _, h⟩ := dr_some h
  replace h := (grd_some h).2
  replace h := lw_some h
  replace h := nw_some h
  obtain ⟨_, w_4, h2, h⟩ := bnd_some h
  have e_4 := nX5_init h2
  obtain ⟨_, _, _, h⟩ := dr_some h
  replace h := (grd_some h).2
  replace h := lw_some h
  replace h := nw_some h
  obtain ⟨_, w_5, h2, h⟩ := bnd_some h
  have e_5 := nX5_init h2
  obtain ⟨_, _, _, h⟩ := dr_some h
  replace h := (grd_some h).2
  replace h := lw_some h
  replace h := nw_some h
  obtain ⟨_, w_6, h2, h⟩ := bnd_some h
  have e_6 := nX5_init h2
  obtain ⟨_, _, _, h⟩ := dr_some h
  replace h := (grd_some h).2
  replace h := lw_some h
  cases h
  try simp only [wn_sR, wn_sI, wn_al] at *
  omega
def fX6_init_188 (t : Nat) : Nat → Int32 → Wd → Option (Unit × Wd)
  | 0 => fun _ _ => none
  | n + 1 => fun x1 w =>
    if (Int32.ofNat (sLen.getD 0 0)) ≤ x1 then
      (dr (gR w t 5) 11 w (fun a_131 => grd (vin (0 : Int32) (ln a_131)) (dr (gR w t 8) 1 w (fun a_132 => bnd (fX1_readInto a_132 (gR w a_131 (0 : Int32).toNatClampNeg) w) (fun x_133 w_134 => nw w_134 4 0 (fun a_135 w_136 => dr (gR w_136 t 5) 11 w_136 (fun a_137 => grd (vin (0 : Int32) (ln a_137)) (bnd (fX4_init a_135 (gR w_136 a_137 (0 : Int32).toNatClampNeg) w_136) (fun u_138 w_139 => lw (sR w_139 t 9 (some a_135)) (fun w_140 => some ((), w_140)))))))))))
    else
      (grd (vin x1 (sLen.getD 0 0)) (dr (gR w t 8) 1 w (fun a_141 => bnd (fX1_append a_141 ((sByt.getD 0 []).getD x1.toNatClampNeg 0) w) (fun u_142 w_143 => fX6_init_188 t n (x1 + (1 : Int32)) w_143))))
set_option maxHeartbeats 4000000 in
theorem kX6_init_188 {X : Cx} (h : Ok X cX6_init RX6 74 51 2300) (hr : RetV X 51 2300) (hnL : nLX X = 2) (hin : X.2.2.2.2.2.2.2.2.1.name = "<init>") {t : Nat} (ht : InN X t 6) : ∀ (fu : Nat) (x1 : Int32) (w : Wd), OkR X (fun _ : Unit => Value.null) (fX6_init_188 t fu x1 w) → G X 49 2260 188 [(0, .inr (.inl (some t))), (1, .inl x1)] [] w := by
  have hj : ∀ j, j < 2 → j < nLX X := fun j q => by rw [hnL]; exact q
  intro fu
  induction fu with
  | zero => intro x1 w hF; exact okN hF
  | succ fu ih =>
    intro x1 w hF
    rw [fX6_init_188] at hF
    refine g_iload_n (pc := 188) h 1 rfl dX6_init_188 ?_
    refine g_ldcS (pc := 189) h 0 (by decide) rfl dX6_init_189 ?_
    refine g_slen (pc := 191) h (by decide) wml_X6_75 (by decide) ⟨by decide, by decide⟩ (Nat.le_of_ble_eq_true rfl) dX6_init_191 ?_
    refine g_icmp_ge (pc := 194) (tgt := 216) h dX6_init_194 (by decide) hF (fun hF => ?_) (fun hF => ?_)
    · refine g_aload_n (pc := 216) h 0 rfl dX6_init_216 ?_
      refine g_getR (pc := 217) h fdX6_44 (inw ht) rfl dX6_init_217 ?_
      refine g_aload_n (pc := 220) h 0 rfl dX6_init_220 ?_
      refine g_getR (pc := 221) h fdX6_31 (inw ht) rfl dX6_init_221 ?_
      refine g_iconst (pc := 224) (v := (0 : Int32)) h dX6_init_224 (by decide) ?_
      refine g_dr hF (fun a_131 e_a_131 h_a_131 hF => ?_)
      rw [e_a_131]
      obtain ⟨g_17, hF⟩ := grd_ok hF
      refine g_aald (pc := 225) h (by decide) rfl h_a_131 g_17 dX6_init_225 ?_
      refine g_dr hF (fun a_132 e_a_132 h_a_132 hF => ?_)
      rw [e_a_132]
      refine g_cvI (pc := 226) (st := []) h mX1_readInto cvX6_89 h_a_132 (by decide) ⟨by decide, by decide⟩ (Nat.le_of_ble_eq_true rfl) rfl rfl dX6_init_226 hF (fun x_133 w_134 hF => ?_)
      refine g_pop (pc := 229) h dX6_init_229 rfl ?_
      refine g_aload_n (pc := 230) h 0 rfl dX6_init_230 ?_
      refine g_new (pc := 231) (n' := 2269) h nwX6_93 hF ⟨by decide, by decide⟩ rfl dX6_init_231 (fun a_135 w_136 h_a_135 hF => ?_)
      refine g_dup (pc := 234) h dX6_init_234 rv_cat ?_
      refine g_aload_n (pc := 235) h 0 rfl dX6_init_235 ?_
      refine g_getR (pc := 236) h fdX6_31 (inw ht) rfl dX6_init_236 ?_
      refine g_iconst (pc := 239) (v := (0 : Int32)) h dX6_init_239 (by decide) ?_
      refine g_dr hF (fun a_137 e_a_137 h_a_137 hF => ?_)
      rw [e_a_137]
      obtain ⟨g_18, hF⟩ := grd_ok hF
      refine g_aald (pc := 240) h (by decide) rfl h_a_137 g_18 dX6_init_240 ?_
      refine g_ci (pc := 241) (k' := 51) (n' := 2300) (st := [rv X.1 (some a_135), rv X.1 (some t)]) h mX4_init ciX6_95 (inwm h_a_135 (by decide)) (by decide) ⟨by decide, by decide⟩ ⟨rfl, rfl⟩ (Nat.le_of_ble_eq_true rfl) rfl rfl dX6_init_241 (fun _ _ hq9 => nX4_init hq9) hF (fun u_138 w_139 hF => ?_)
      refine g_putRF (pc := 244) h fdX6_98 (inw ht) rfl hin rfl (Or.inl ⟨_, rfl⟩) dX6_init_244 ?_
      refine g_w hF (fun w_140 hF => ?_)
      exact g_vret (pc := 247) h hr ⟨by decide, by decide⟩ hF dX6_init_247
    · refine g_aload_n (pc := 197) h 0 rfl dX6_init_197 ?_
      refine g_getR (pc := 198) h fdX6_44 (inw ht) rfl dX6_init_198 ?_
      refine g_ldcS (pc := 201) h 0 (by decide) rfl dX6_init_201 ?_
      refine g_iload_n (pc := 203) h 1 rfl dX6_init_203 ?_
      obtain ⟨g_19, hF⟩ := grd_ok hF
      refine g_schar (pc := 204) h (by decide) g_19 wml_X6_81 (by decide) ⟨by decide, by decide⟩ (cat_le4 _ (Nat.le_of_ble_eq_true rfl)) dX6_init_204 ?_
      refine g_dr hF (fun a_141 e_a_141 h_a_141 hF => ?_)
      rw [e_a_141]
      refine g_cvV (pc := 207) (st := []) h mX1_append cvX6_85 h_a_141 (by decide) ⟨by decide, by decide⟩ (Nat.le_of_ble_eq_true rfl) rfl rfl dX6_init_207 hF (fun u_142 w_143 hF => ?_)
      refine g_iinc (pc := 210) (lv' := [(1, .inl (x1 + (1 : Int32))), (0, .inr (.inl (some t)))]) h 1 rfl dX6_init_210 (dv := (1 : Int32)) (by decide) (hj 1 (by decide)) rfl ?_
      refine g_goto (pc := 213) (tgt := 188) h dX6_init_213 (by decide) ?_
      refine g_lv (lv' := [(0, .inr (.inl (some t))), (1, .inl (x1 + (1 : Int32)))]) [1, 0] rfl ?_
      exact ih _ _ hF
def fX6_init (t : Nat) (w : Wd) : Option (Unit × Wd) :=
  nw w 8 8 (fun a_1 w_2 => lw (sR w_2 t 0 (some a_1)) (fun w_3 => nw w_3 8 8 (fun a_4 w_5 => lw (sR w_5 t 1 (some a_4)) (fun w_6 => nw w_6 12 6 (fun a_7 w_8 => lw (sR w_8 t 2 (some a_7)) (fun w_9 => lw (sI w_9 t 3 (0 : Int32)) (fun w_10 => lw (sI w_10 t 4 (0 : Int32)) (fun w_11 => nw w_11 11 6 (fun a_12 w_13 => lw (sR w_13 t 5 (some a_12)) (fun w_14 => lw (sI w_14 t 6 (1 : Int32)) (fun w_15 => lw (sI w_15 t 7 (0 : Int32)) (fun w_16 => nw w_16 1 0 (fun a_17 w_18 => bnd (fX1_init a_17 w_18) (fun u_19 w_20 => lw (sR w_20 t 8 (some a_17)) (fun w_21 => nw w_21 8 793 (fun a_22 w_23 => lw (sR w_23 t 10 (some a_22)) (fun w_24 => nw w_24 0 0 (fun a_25 w_26 => bnd (fX0_init a_25 w_26) (fun u_27 w_28 => lw (sR w_28 t 11 (some a_25)) (fun w_29 => nw w_29 10 4 (fun a_30 w_31 => lw (sR w_31 t 12 (some a_30)) (fun w_32 => bnd (fJ7_fill_53178 (gR w_32 t 0) (10 : Int32) w_32) (fun u_33 w_34 => nw w_34 5 0 (fun a_35 w_36 => bnd (fX5_init a_35 w_36) (fun u_37 w_38 => dr (gR w_34 t 2) 12 w_38 (fun a_39 => grd (vin (0 : Int32) (ln a_39)) (lw (sR w_38 a_39 (0 : Int32).toNatClampNeg (some a_35)) (fun w_40 => nw w_40 5 0 (fun a_41 w_42 => bnd (fX5_init a_41 w_42) (fun u_43 w_44 => dr (gR w_40 t 2) 12 w_44 (fun a_45 => grd (vin (1 : Int32) (ln a_45)) (lw (sR w_44 a_45 (1 : Int32).toNatClampNeg (some a_41)) (fun w_46 => nw w_46 5 0 (fun a_47 w_48 => bnd (fX5_init a_47 w_48) (fun u_49 w_50 => dr (gR w_46 t 2) 12 w_50 (fun a_51 => grd (vin (2 : Int32) (ln a_51)) (lw (sR w_50 a_51 (2 : Int32).toNatClampNeg (some a_47)) (fun w_52 => nw w_52 5 0 (fun a_53 w_54 => bnd (fX5_init a_53 w_54) (fun u_55 w_56 => dr (gR w_52 t 2) 12 w_56 (fun a_57 => grd (vin (3 : Int32) (ln a_57)) (lw (sR w_56 a_57 (3 : Int32).toNatClampNeg (some a_53)) (fun w_58 => nw w_58 5 0 (fun a_59 w_60 => bnd (fX5_init a_59 w_60) (fun u_61 w_62 => dr (gR w_58 t 2) 12 w_62 (fun a_63 => grd (vin (4 : Int32) (ln a_63)) (lw (sR w_62 a_63 (4 : Int32).toNatClampNeg (some a_59)) (fun w_64 => nw w_64 5 0 (fun a_65 w_66 => bnd (fX5_init a_65 w_66) (fun u_67 w_68 => dr (gR w_64 t 2) 12 w_68 (fun a_69 => grd (vin (5 : Int32) (ln a_69)) (lw (sR w_68 a_69 (5 : Int32).toNatClampNeg (some a_65)) (fun w_70 => nw w_70 3 0 (fun a_71 w_72 => bnd (fX3_init a_71 w_72) (fun u_73 w_74 => dr (gR w_70 t 5) 11 w_74 (fun a_75 => grd (vin (0 : Int32) (ln a_75)) (lw (sR w_74 a_75 (0 : Int32).toNatClampNeg (some a_71)) (fun w_76 => nw w_76 3 0 (fun a_77 w_78 => bnd (fX3_init a_77 w_78) (fun u_79 w_80 => dr (gR w_76 t 5) 11 w_80 (fun a_81 => grd (vin (1 : Int32) (ln a_81)) (lw (sR w_80 a_81 (1 : Int32).toNatClampNeg (some a_77)) (fun w_82 => nw w_82 3 0 (fun a_83 w_84 => bnd (fX3_init a_83 w_84) (fun u_85 w_86 => dr (gR w_82 t 5) 11 w_86 (fun a_87 => grd (vin (2 : Int32) (ln a_87)) (lw (sR w_86 a_87 (2 : Int32).toNatClampNeg (some a_83)) (fun w_88 => nw w_88 3 0 (fun a_89 w_90 => bnd (fX3_init a_89 w_90) (fun u_91 w_92 => dr (gR w_88 t 5) 11 w_92 (fun a_93 => grd (vin (3 : Int32) (ln a_93)) (lw (sR w_92 a_93 (3 : Int32).toNatClampNeg (some a_89)) (fun w_94 => nw w_94 3 0 (fun a_95 w_96 => bnd (fX3_init a_95 w_96) (fun u_97 w_98 => dr (gR w_94 t 5) 11 w_98 (fun a_99 => grd (vin (4 : Int32) (ln a_99)) (lw (sR w_98 a_99 (4 : Int32).toNatClampNeg (some a_95)) (fun w_100 => nw w_100 3 0 (fun a_101 w_102 => bnd (fX3_init a_101 w_102) (fun u_103 w_104 => dr (gR w_100 t 5) 11 w_104 (fun a_105 => grd (vin (5 : Int32) (ln a_105)) (lw (sR w_104 a_105 (5 : Int32).toNatClampNeg (some a_101)) (fun w_106 => nw w_106 2 0 (fun a_107 w_108 => bnd (fX2_init a_107 w_108) (fun u_109 w_110 => dr (gR w_106 t 12) 10 w_110 (fun a_111 => grd (vin (0 : Int32) (ln a_111)) (lw (sR w_110 a_111 (0 : Int32).toNatClampNeg (some a_107)) (fun w_112 => nw w_112 2 0 (fun a_113 w_114 => bnd (fX2_init a_113 w_114) (fun u_115 w_116 => dr (gR w_112 t 12) 10 w_116 (fun a_117 => grd (vin (1 : Int32) (ln a_117)) (lw (sR w_116 a_117 (1 : Int32).toNatClampNeg (some a_113)) (fun w_118 => nw w_118 2 0 (fun a_119 w_120 => bnd (fX2_init a_119 w_120) (fun u_121 w_122 => dr (gR w_118 t 12) 10 w_122 (fun a_123 => grd (vin (2 : Int32) (ln a_123)) (lw (sR w_122 a_123 (2 : Int32).toNatClampNeg (some a_119)) (fun w_124 => nw w_124 2 0 (fun a_125 w_126 => bnd (fX2_init a_125 w_126) (fun u_127 w_128 => dr (gR w_124 t 12) 10 w_128 (fun a_129 => grd (vin (3 : Int32) (ln a_129)) (lw (sR w_128 a_129 (3 : Int32).toNatClampNeg (some a_125)) (fun w_130 => fX6_init_188 t FU (0 : Int32) w_130)))))))))))))))))))))))))))))))))))))))))))))))))))))))))))))))))))))))))))))))))))))))))))))))))))))))
set_option maxHeartbeats 4000000 in
theorem mX6_init {Γ : En} {t : Nat} {w : Wd} (ht : t < wn w ∧ kd t = 6) : MtV Γ yX6_init cX6_init 2 none 74 51 2300 [rv Γ (some t)] w (fX6_init t w) := by
  refine mtV [.inr (.inl (some t))] rfl (Nat.le_of_ble_eq_true rfl) (fun X hΓ hnL hn0 h hin9 hr hF => ?_)
  subst hΓ
  have hin := hin9 rfl
  have ht : InN X t 6 := ⟨by rw [hn0]; exact ht.1, ht.2⟩
  have h : Ok X cX6_init RX6 74 51 2300 := h
  have hj : ∀ j, j < 2 → j < nLX X := fun j q => by rw [hnL]; exact q
  show G X 0 0 0 [(0, .inr (.inl (some t)))] [] w
  unfold fX6_init at hF
  refine g_aload_n (pc := 0) h 0 rfl dX6_init_0 ?_
  refine g_obj (pc := 1) h wob_X6_1 wim_obj wco_obj (by decide) dX6_init_1 ?_
  refine g_aload_n (pc := 4) h 0 rfl dX6_init_4 ?_
  refine g_bipush (pc := 5) (v := (8 : Int32)) h dX6_init_5 (by decide) ?_
  refine g_newI (pc := 7) (n' := 8) h hF (L := 8) ⟨by decide, by decide, by decide⟩ ⟨by decide, by decide⟩ rfl dX6_init_7 (fun a_1 w_2 h_a_1 hF => ?_)
  refine g_putRF (pc := 9) h fdX6_9 (inw ht) rfl hin rfl (Or.inr ⟨_, rfl⟩) dX6_init_9 ?_
  refine g_w hF (fun w_3 hF => ?_)
  refine g_aload_n (pc := 12) h 0 rfl dX6_init_12 ?_
  refine g_bipush (pc := 13) (v := (8 : Int32)) h dX6_init_13 (by decide) ?_
  refine g_newI (pc := 15) (n' := 16) h hF (L := 8) ⟨by decide, by decide, by decide⟩ ⟨by decide, by decide⟩ rfl dX6_init_15 (fun a_4 w_5 h_a_4 hF => ?_)
  refine g_putRF (pc := 17) h fdX6_13 (inw ht) rfl hin rfl (Or.inr ⟨_, rfl⟩) dX6_init_17 ?_
  refine g_w hF (fun w_6 hF => ?_)
  refine g_aload_n (pc := 20) h 0 rfl dX6_init_20 ?_
  refine g_bipush (pc := 21) (v := (6 : Int32)) h dX6_init_21 (by decide) ?_
  refine g_newQ (pc := 23) (n' := 22) (c := 12) (L := 6) h (by decide) (Or.inr (Or.inr rfl)) rfl wcl_X6_16 hF ⟨by decide, by decide, by decide⟩ ⟨by decide, by decide⟩ rfl dX6_init_23 (fun a_7 w_8 h_a_7 hF => ?_)
  refine g_putRF (pc := 26) h fdX6_18 (inw ht) rfl hin rfl (Or.inr ⟨_, rfl⟩) dX6_init_26 ?_
  refine g_w hF (fun w_9 hF => ?_)
  refine g_aload_n (pc := 29) h 0 rfl dX6_init_29 ?_
  refine g_iconst (pc := 30) (v := (0 : Int32)) h dX6_init_30 (by decide) ?_
  refine g_putI (pc := 31) h fdX6_22 (inw ht) (by decide) ⟨rfl, rfl⟩ dX6_init_31 ?_
  refine g_w hF (fun w_10 hF => ?_)
  refine g_aload_n (pc := 34) h 0 rfl dX6_init_34 ?_
  refine g_iconst (pc := 35) (v := (0 : Int32)) h dX6_init_35 (by decide) ?_
  refine g_putI (pc := 36) h fdX6_26 (inw ht) (by decide) ⟨rfl, rfl⟩ dX6_init_36 ?_
  refine g_w hF (fun w_11 hF => ?_)
  refine g_aload_n (pc := 39) h 0 rfl dX6_init_39 ?_
  refine g_bipush (pc := 40) (v := (6 : Int32)) h dX6_init_40 (by decide) ?_
  refine g_newQ (pc := 42) (n' := 28) (c := 11) (L := 6) h (by decide) (Or.inr (Or.inl rfl)) rfl wcl_X6_29 hF ⟨by decide, by decide, by decide⟩ ⟨by decide, by decide⟩ rfl dX6_init_42 (fun a_12 w_13 h_a_12 hF => ?_)
  refine g_putRF (pc := 45) h fdX6_31 (inw ht) rfl hin rfl (Or.inr ⟨_, rfl⟩) dX6_init_45 ?_
  refine g_w hF (fun w_14 hF => ?_)
  refine g_aload_n (pc := 48) h 0 rfl dX6_init_48 ?_
  refine g_iconst (pc := 49) (v := (1 : Int32)) h dX6_init_49 (by decide) ?_
  refine g_putI (pc := 50) h fdX6_35 (inw ht) (by decide) ⟨rfl, rfl⟩ dX6_init_50 ?_
  refine g_w hF (fun w_15 hF => ?_)
  refine g_aload_n (pc := 53) h 0 rfl dX6_init_53 ?_
  refine g_iconst (pc := 54) (v := (0 : Int32)) h dX6_init_54 (by decide) ?_
  refine g_putI (pc := 55) h fdX6_38 (inw ht) (by decide) ⟨rfl, rfl⟩ dX6_init_55 ?_
  refine g_w hF (fun w_16 hF => ?_)
  refine g_aload_n (pc := 58) h 0 rfl dX6_init_58 ?_
  refine g_new (pc := 59) (n' := 37) h nwX6_41 hF ⟨by decide, by decide⟩ rfl dX6_init_59 (fun a_17 w_18 h_a_17 hF => ?_)
  refine g_dup (pc := 62) h dX6_init_62 rv_cat ?_
  refine g_cj (pc := 63) (k' := 6) (n' := 197) (st := [rv X.1 (some a_17), rv X.1 (some t)]) h mX1_init cjX6_43 (inwm h_a_17 (by decide)) (by decide) ⟨by decide, by decide⟩ ⟨rfl, rfl⟩ (Nat.le_of_ble_eq_true rfl) rfl rfl dX6_init_63 (fun _ _ hq9 => nX1_init hq9) hF (fun u_19 w_20 hF => ?_)
  refine g_putRF (pc := 66) h fdX6_44 (inw ht) rfl hin rfl (Or.inl ⟨_, rfl⟩) dX6_init_66 ?_
  refine g_w hF (fun w_21 hF => ?_)
  refine g_aload_n (pc := 69) h 0 rfl dX6_init_69 ?_
  refine g_sipush (pc := 70) (v := (793 : Int32)) h dX6_init_70 (by decide) ?_
  refine g_newI (pc := 73) (n' := 990) h hF (L := 793) ⟨by decide, by decide, by decide⟩ ⟨by decide, by decide⟩ rfl dX6_init_73 (fun a_22 w_23 h_a_22 hF => ?_)
  refine g_putRF (pc := 75) h fdX6_48 (inw ht) rfl hin rfl (Or.inr ⟨_, rfl⟩) dX6_init_75 ?_
  refine g_w hF (fun w_24 hF => ?_)
  refine g_aload_n (pc := 78) h 0 rfl dX6_init_78 ?_
  refine g_new (pc := 79) (n' := 996) h nwX6_51 hF ⟨by decide, by decide⟩ rfl dX6_init_79 (fun a_25 w_26 h_a_25 hF => ?_)
  refine g_dup (pc := 82) h dX6_init_82 rv_cat ?_
  refine g_ci (pc := 83) (k' := 16) (n' := 1046) (st := [rv X.1 (some a_25), rv X.1 (some t)]) h mX0_init ciX6_53 (inwm h_a_25 (by decide)) (by decide) ⟨by decide, by decide⟩ ⟨rfl, rfl⟩ (Nat.le_of_ble_eq_true rfl) rfl rfl dX6_init_83 (fun _ _ hq9 => nX0_init hq9) hF (fun u_27 w_28 hF => ?_)
  refine g_putRF (pc := 86) h fdX6_54 (inw ht) rfl hin rfl (Or.inl ⟨_, rfl⟩) dX6_init_86 ?_
  refine g_w hF (fun w_29 hF => ?_)
  refine g_aload_n (pc := 89) h 0 rfl dX6_init_89 ?_
  refine g_iconst (pc := 90) (v := (4 : Int32)) h dX6_init_90 (by decide) ?_
  refine g_newQ (pc := 91) (n' := 1050) (c := 10) (L := 4) h (by decide) (Or.inl rfl) rfl wcl_X6_58 hF ⟨by decide, by decide, by decide⟩ ⟨by decide, by decide⟩ rfl dX6_init_91 (fun a_30 w_31 h_a_30 hF => ?_)
  refine g_putRF (pc := 94) h fdX6_60 (inw ht) rfl hin rfl (Or.inr ⟨_, rfl⟩) dX6_init_94 ?_
  refine g_w hF (fun w_32 hF => ?_)
  refine g_aload_n (pc := 97) h 0 rfl dX6_init_97 ?_
  refine g_getR (pc := 98) h fdX6_9 (inw ht) rfl dX6_init_98 ?_
  refine g_bipush (pc := 101) (v := (10 : Int32)) h dX6_init_101 (by decide) ?_
  refine g_csV (pc := 103) (st := []) h mJ7_fill_53178 csX6_64 (by decide) ⟨by decide, by decide⟩ (Nat.le_of_ble_eq_true rfl) rfl rfl dX6_init_103 hF (fun u_33 w_34 hF => ?_)
  refine g_iconst (pc := 106) (v := (0 : Int32)) h dX6_init_106 (by decide) ?_
  refine g_istore_n (pc := 107) (lv' := [(1, .inl (0 : Int32)), (0, .inr (.inl (some t)))]) h dX6_init_107 (hj 1 (by decide)) rfl ?_
  refine g_iload_n (pc := 108) h 0 rfl dX6_init_108 ?_
  refine g_bipush (pc := 109) (v := (6 : Int32)) h dX6_init_109 (by decide) ?_
  refine g_icmp_geF (pc := 111) (tgt := 133) h dX6_init_111 (by decide) (by decide) ?_
  refine g_aload_n (pc := 114) h 1 rfl dX6_init_114 ?_
  refine g_getR (pc := 115) h fdX6_18 (inw ht) rfl dX6_init_115 ?_
  refine g_iload_n (pc := 118) h 0 rfl dX6_init_118 ?_
  refine g_new (pc := 119) (n' := 1056) h nwX6_16 hF ⟨by decide, by decide⟩ rfl dX6_init_119 (fun a_35 w_36 h_a_35 hF => ?_)
  refine g_dup (pc := 122) h dX6_init_122 rv_cat ?_
  refine g_cj (pc := 123) (k' := 18) (n' := 1056) (st := [rv X.1 (some a_35), .int (0 : Int32), rv X.1 (gR w_34 t 2)]) h mX5_init cjX6_70 (inwm h_a_35 (by decide)) (by decide) ⟨by decide, by decide⟩ ⟨rfl, rfl⟩ (cat_le4 _ (Nat.le_of_ble_eq_true rfl)) rfl rfl dX6_init_123 (fun _ _ hq9 => nX5_init hq9) hF (fun u_37 w_38 hF => ?_)
  refine g_dr hF (fun a_39 e_a_39 h_a_39 hF => ?_)
  rw [e_a_39]
  obtain ⟨g_1, hF⟩ := grd_ok hF
  refine g_aast (pc := 126) (cv := 5) h (by decide) rfl rfl (by decide) h_a_39 (inwm h_a_35 (by decide)) g_1 dX6_init_126 ?_
  refine g_w hF (fun w_40 hF => ?_)
  refine g_iinc (pc := 127) (lv' := [(1, .inl (1 : Int32)), (0, .inr (.inl (some t)))]) h 0 rfl dX6_init_127 (dv := (1 : Int32)) (by decide) (hj 1 (by decide)) rfl ?_
  refine g_goto (pc := 130) (tgt := 108) h dX6_init_130 (by decide) ?_
  refine g_iload_n (pc := 108) h 0 rfl dX6_init_108 ?_
  refine g_bipush (pc := 109) (v := (6 : Int32)) h dX6_init_109 (by decide) ?_
  refine g_icmp_geF (pc := 111) (tgt := 133) h dX6_init_111 (by decide) (by decide) ?_
  refine g_aload_n (pc := 114) h 1 rfl dX6_init_114 ?_
  refine g_getR (pc := 115) h fdX6_18 (inw ht) rfl dX6_init_115 ?_
  refine g_iload_n (pc := 118) h 0 rfl dX6_init_118 ?_
  refine g_new (pc := 119) (n' := 1062) h nwX6_16 hF ⟨by decide, by decide⟩ rfl dX6_init_119 (fun a_41 w_42 h_a_41 hF => ?_)
  refine g_dup (pc := 122) h dX6_init_122 rv_cat ?_
  refine g_cj (pc := 123) (k' := 19) (n' := 1062) (st := [rv X.1 (some a_41), .int (1 : Int32), rv X.1 (gR w_40 t 2)]) h mX5_init cjX6_70 (inwm h_a_41 (by decide)) (by decide) ⟨by decide, by decide⟩ ⟨rfl, rfl⟩ (cat_le4 _ (Nat.le_of_ble_eq_true rfl)) rfl rfl dX6_init_123 (fun _ _ hq9 => nX5_init hq9) hF (fun u_43 w_44 hF => ?_)
  refine g_dr hF (fun a_45 e_a_45 h_a_45 hF => ?_)
  rw [e_a_45]
  obtain ⟨g_2, hF⟩ := grd_ok hF
  refine g_aast (pc := 126) (cv := 5) h (by decide) rfl rfl (by decide) h_a_45 (inwm h_a_41 (by decide)) g_2 dX6_init_126 ?_
  refine g_w hF (fun w_46 hF => ?_)
  refine g_iinc (pc := 127) (lv' := [(1, .inl (2 : Int32)), (0, .inr (.inl (some t)))]) h 0 rfl dX6_init_127 (dv := (1 : Int32)) (by decide) (hj 1 (by decide)) rfl ?_
  refine g_goto (pc := 130) (tgt := 108) h dX6_init_130 (by decide) ?_
  refine g_iload_n (pc := 108) h 0 rfl dX6_init_108 ?_
  refine g_bipush (pc := 109) (v := (6 : Int32)) h dX6_init_109 (by decide) ?_
  refine g_icmp_geF (pc := 111) (tgt := 133) h dX6_init_111 (by decide) (by decide) ?_
  refine g_aload_n (pc := 114) h 1 rfl dX6_init_114 ?_
  refine g_getR (pc := 115) h fdX6_18 (inw ht) rfl dX6_init_115 ?_
  refine g_iload_n (pc := 118) h 0 rfl dX6_init_118 ?_
  refine g_new (pc := 119) (n' := 1068) h nwX6_16 hF ⟨by decide, by decide⟩ rfl dX6_init_119 (fun a_47 w_48 h_a_47 hF => ?_)
  refine g_dup (pc := 122) h dX6_init_122 rv_cat ?_
  refine g_cj (pc := 123) (k' := 20) (n' := 1068) (st := [rv X.1 (some a_47), .int (2 : Int32), rv X.1 (gR w_46 t 2)]) h mX5_init cjX6_70 (inwm h_a_47 (by decide)) (by decide) ⟨by decide, by decide⟩ ⟨rfl, rfl⟩ (cat_le4 _ (Nat.le_of_ble_eq_true rfl)) rfl rfl dX6_init_123 (fun _ _ hq9 => nX5_init hq9) hF (fun u_49 w_50 hF => ?_)
  refine g_dr hF (fun a_51 e_a_51 h_a_51 hF => ?_)
  rw [e_a_51]
  obtain ⟨g_3, hF⟩ := grd_ok hF
  refine g_aast (pc := 126) (cv := 5) h (by decide) rfl rfl (by decide) h_a_51 (inwm h_a_47 (by decide)) g_3 dX6_init_126 ?_
  refine g_w hF (fun w_52 hF => ?_)
  refine g_iinc (pc := 127) (lv' := [(1, .inl (3 : Int32)), (0, .inr (.inl (some t)))]) h 0 rfl dX6_init_127 (dv := (1 : Int32)) (by decide) (hj 1 (by decide)) rfl ?_
  refine g_goto (pc := 130) (tgt := 108) h dX6_init_130 (by decide) ?_
  refine g_iload_n (pc := 108) h 0 rfl dX6_init_108 ?_
  refine g_bipush (pc := 109) (v := (6 : Int32)) h dX6_init_109 (by decide) ?_
  refine g_icmp_geF (pc := 111) (tgt := 133) h dX6_init_111 (by decide) (by decide) ?_
  refine g_aload_n (pc := 114) h 1 rfl dX6_init_114 ?_
  refine g_getR (pc := 115) h fdX6_18 (inw ht) rfl dX6_init_115 ?_
  refine g_iload_n (pc := 118) h 0 rfl dX6_init_118 ?_
  refine g_new (pc := 119) (n' := 1074) h nwX6_16 hF ⟨by decide, by decide⟩ rfl dX6_init_119 (fun a_53 w_54 h_a_53 hF => ?_)
  refine g_dup (pc := 122) h dX6_init_122 rv_cat ?_
  refine g_cj (pc := 123) (k' := 21) (n' := 1074) (st := [rv X.1 (some a_53), .int (3 : Int32), rv X.1 (gR w_52 t 2)]) h mX5_init cjX6_70 (inwm h_a_53 (by decide)) (by decide) ⟨by decide, by decide⟩ ⟨rfl, rfl⟩ (cat_le4 _ (Nat.le_of_ble_eq_true rfl)) rfl rfl dX6_init_123 (fun _ _ hq9 => nX5_init hq9) hF (fun u_55 w_56 hF => ?_)
  refine g_dr hF (fun a_57 e_a_57 h_a_57 hF => ?_)
  rw [e_a_57]
  obtain ⟨g_4, hF⟩ := grd_ok hF
  refine g_aast (pc := 126) (cv := 5) h (by decide) rfl rfl (by decide) h_a_57 (inwm h_a_53 (by decide)) g_4 dX6_init_126 ?_
  refine g_w hF (fun w_58 hF => ?_)
  refine g_iinc (pc := 127) (lv' := [(1, .inl (4 : Int32)), (0, .inr (.inl (some t)))]) h 0 rfl dX6_init_127 (dv := (1 : Int32)) (by decide) (hj 1 (by decide)) rfl ?_
  refine g_goto (pc := 130) (tgt := 108) h dX6_init_130 (by decide) ?_
  refine g_iload_n (pc := 108) h 0 rfl dX6_init_108 ?_
  refine g_bipush (pc := 109) (v := (6 : Int32)) h dX6_init_109 (by decide) ?_
  refine g_icmp_geF (pc := 111) (tgt := 133) h dX6_init_111 (by decide) (by decide) ?_
  refine g_aload_n (pc := 114) h 1 rfl dX6_init_114 ?_
  refine g_getR (pc := 115) h fdX6_18 (inw ht) rfl dX6_init_115 ?_
  refine g_iload_n (pc := 118) h 0 rfl dX6_init_118 ?_
  refine g_new (pc := 119) (n' := 1080) h nwX6_16 hF ⟨by decide, by decide⟩ rfl dX6_init_119 (fun a_59 w_60 h_a_59 hF => ?_)
  refine g_dup (pc := 122) h dX6_init_122 rv_cat ?_
  refine g_cj (pc := 123) (k' := 22) (n' := 1080) (st := [rv X.1 (some a_59), .int (4 : Int32), rv X.1 (gR w_58 t 2)]) h mX5_init cjX6_70 (inwm h_a_59 (by decide)) (by decide) ⟨by decide, by decide⟩ ⟨rfl, rfl⟩ (cat_le4 _ (Nat.le_of_ble_eq_true rfl)) rfl rfl dX6_init_123 (fun _ _ hq9 => nX5_init hq9) hF (fun u_61 w_62 hF => ?_)
  refine g_dr hF (fun a_63 e_a_63 h_a_63 hF => ?_)
  rw [e_a_63]
  obtain ⟨g_5, hF⟩ := grd_ok hF
  refine g_aast (pc := 126) (cv := 5) h (by decide) rfl rfl (by decide) h_a_63 (inwm h_a_59 (by decide)) g_5 dX6_init_126 ?_
  refine g_w hF (fun w_64 hF => ?_)
  refine g_iinc (pc := 127) (lv' := [(1, .inl (5 : Int32)), (0, .inr (.inl (some t)))]) h 0 rfl dX6_init_127 (dv := (1 : Int32)) (by decide) (hj 1 (by decide)) rfl ?_
  refine g_goto (pc := 130) (tgt := 108) h dX6_init_130 (by decide) ?_
  refine g_iload_n (pc := 108) h 0 rfl dX6_init_108 ?_
  refine g_bipush (pc := 109) (v := (6 : Int32)) h dX6_init_109 (by decide) ?_
  refine g_icmp_geF (pc := 111) (tgt := 133) h dX6_init_111 (by decide) (by decide) ?_
  refine g_aload_n (pc := 114) h 1 rfl dX6_init_114 ?_
  refine g_getR (pc := 115) h fdX6_18 (inw ht) rfl dX6_init_115 ?_
  refine g_iload_n (pc := 118) h 0 rfl dX6_init_118 ?_
  refine g_new (pc := 119) (n' := 1086) h nwX6_16 hF ⟨by decide, by decide⟩ rfl dX6_init_119 (fun a_65 w_66 h_a_65 hF => ?_)
  refine g_dup (pc := 122) h dX6_init_122 rv_cat ?_
  refine g_cj (pc := 123) (k' := 23) (n' := 1086) (st := [rv X.1 (some a_65), .int (5 : Int32), rv X.1 (gR w_64 t 2)]) h mX5_init cjX6_70 (inwm h_a_65 (by decide)) (by decide) ⟨by decide, by decide⟩ ⟨rfl, rfl⟩ (cat_le4 _ (Nat.le_of_ble_eq_true rfl)) rfl rfl dX6_init_123 (fun _ _ hq9 => nX5_init hq9) hF (fun u_67 w_68 hF => ?_)
  refine g_dr hF (fun a_69 e_a_69 h_a_69 hF => ?_)
  rw [e_a_69]
  obtain ⟨g_6, hF⟩ := grd_ok hF
  refine g_aast (pc := 126) (cv := 5) h (by decide) rfl rfl (by decide) h_a_69 (inwm h_a_65 (by decide)) g_6 dX6_init_126 ?_
  refine g_w hF (fun w_70 hF => ?_)
  refine g_iinc (pc := 127) (lv' := [(1, .inl (6 : Int32)), (0, .inr (.inl (some t)))]) h 0 rfl dX6_init_127 (dv := (1 : Int32)) (by decide) (hj 1 (by decide)) rfl ?_
  refine g_goto (pc := 130) (tgt := 108) h dX6_init_130 (by decide) ?_
  refine g_iload_n (pc := 108) h 0 rfl dX6_init_108 ?_
  refine g_bipush (pc := 109) (v := (6 : Int32)) h dX6_init_109 (by decide) ?_
  refine g_icmp_geT (pc := 111) (tgt := 133) h dX6_init_111 (by decide) (by decide) ?_
  refine g_iconst (pc := 133) (v := (0 : Int32)) h dX6_init_133 (by decide) ?_
  refine g_istore_n (pc := 134) (lv' := [(1, .inl (0 : Int32)), (0, .inr (.inl (some t)))]) h dX6_init_134 (hj 1 (by decide)) rfl ?_
  refine g_iload_n (pc := 135) h 0 rfl dX6_init_135 ?_
  refine g_bipush (pc := 136) (v := (6 : Int32)) h dX6_init_136 (by decide) ?_
  refine g_icmp_geF (pc := 138) (tgt := 160) h dX6_init_138 (by decide) (by decide) ?_
  refine g_aload_n (pc := 141) h 1 rfl dX6_init_141 ?_
  refine g_getR (pc := 142) h fdX6_31 (inw ht) rfl dX6_init_142 ?_
  refine g_iload_n (pc := 145) h 0 rfl dX6_init_145 ?_
  refine g_new (pc := 146) (n' := 1090) h nwX6_29 hF ⟨by decide, by decide⟩ rfl dX6_init_146 (fun a_71 w_72 h_a_71 hF => ?_)
  refine g_dup (pc := 149) h dX6_init_149 rv_cat ?_
  refine g_cj (pc := 150) (k' := 26) (n' := 1253) (st := [rv X.1 (some a_71), .int (0 : Int32), rv X.1 (gR w_70 t 5)]) h mX3_init cjX6_71 (inwm h_a_71 (by decide)) (by decide) ⟨by decide, by decide⟩ ⟨rfl, rfl⟩ (cat_le4 _ (Nat.le_of_ble_eq_true rfl)) rfl rfl dX6_init_150 (fun _ _ hq9 => nX3_init hq9) hF (fun u_73 w_74 hF => ?_)
  refine g_dr hF (fun a_75 e_a_75 h_a_75 hF => ?_)
  rw [e_a_75]
  obtain ⟨g_7, hF⟩ := grd_ok hF
  refine g_aast (pc := 153) (cv := 3) h (by decide) rfl rfl (by decide) h_a_75 (inwm h_a_71 (by decide)) g_7 dX6_init_153 ?_
  refine g_w hF (fun w_76 hF => ?_)
  refine g_iinc (pc := 154) (lv' := [(1, .inl (1 : Int32)), (0, .inr (.inl (some t)))]) h 0 rfl dX6_init_154 (dv := (1 : Int32)) (by decide) (hj 1 (by decide)) rfl ?_
  refine g_goto (pc := 157) (tgt := 135) h dX6_init_157 (by decide) ?_
  refine g_iload_n (pc := 135) h 0 rfl dX6_init_135 ?_
  refine g_bipush (pc := 136) (v := (6 : Int32)) h dX6_init_136 (by decide) ?_
  refine g_icmp_geF (pc := 138) (tgt := 160) h dX6_init_138 (by decide) (by decide) ?_
  refine g_aload_n (pc := 141) h 1 rfl dX6_init_141 ?_
  refine g_getR (pc := 142) h fdX6_31 (inw ht) rfl dX6_init_142 ?_
  refine g_iload_n (pc := 145) h 0 rfl dX6_init_145 ?_
  refine g_new (pc := 146) (n' := 1257) h nwX6_29 hF ⟨by decide, by decide⟩ rfl dX6_init_146 (fun a_77 w_78 h_a_77 hF => ?_)
  refine g_dup (pc := 149) h dX6_init_149 rv_cat ?_
  refine g_cj (pc := 150) (k' := 29) (n' := 1420) (st := [rv X.1 (some a_77), .int (1 : Int32), rv X.1 (gR w_76 t 5)]) h mX3_init cjX6_71 (inwm h_a_77 (by decide)) (by decide) ⟨by decide, by decide⟩ ⟨rfl, rfl⟩ (cat_le4 _ (Nat.le_of_ble_eq_true rfl)) rfl rfl dX6_init_150 (fun _ _ hq9 => nX3_init hq9) hF (fun u_79 w_80 hF => ?_)
  refine g_dr hF (fun a_81 e_a_81 h_a_81 hF => ?_)
  rw [e_a_81]
  obtain ⟨g_8, hF⟩ := grd_ok hF
  refine g_aast (pc := 153) (cv := 3) h (by decide) rfl rfl (by decide) h_a_81 (inwm h_a_77 (by decide)) g_8 dX6_init_153 ?_
  refine g_w hF (fun w_82 hF => ?_)
  refine g_iinc (pc := 154) (lv' := [(1, .inl (2 : Int32)), (0, .inr (.inl (some t)))]) h 0 rfl dX6_init_154 (dv := (1 : Int32)) (by decide) (hj 1 (by decide)) rfl ?_
  refine g_goto (pc := 157) (tgt := 135) h dX6_init_157 (by decide) ?_
  refine g_iload_n (pc := 135) h 0 rfl dX6_init_135 ?_
  refine g_bipush (pc := 136) (v := (6 : Int32)) h dX6_init_136 (by decide) ?_
  refine g_icmp_geF (pc := 138) (tgt := 160) h dX6_init_138 (by decide) (by decide) ?_
  refine g_aload_n (pc := 141) h 1 rfl dX6_init_141 ?_
  refine g_getR (pc := 142) h fdX6_31 (inw ht) rfl dX6_init_142 ?_
  refine g_iload_n (pc := 145) h 0 rfl dX6_init_145 ?_
  refine g_new (pc := 146) (n' := 1424) h nwX6_29 hF ⟨by decide, by decide⟩ rfl dX6_init_146 (fun a_83 w_84 h_a_83 hF => ?_)
  refine g_dup (pc := 149) h dX6_init_149 rv_cat ?_
  refine g_cj (pc := 150) (k' := 32) (n' := 1587) (st := [rv X.1 (some a_83), .int (2 : Int32), rv X.1 (gR w_82 t 5)]) h mX3_init cjX6_71 (inwm h_a_83 (by decide)) (by decide) ⟨by decide, by decide⟩ ⟨rfl, rfl⟩ (cat_le4 _ (Nat.le_of_ble_eq_true rfl)) rfl rfl dX6_init_150 (fun _ _ hq9 => nX3_init hq9) hF (fun u_85 w_86 hF => ?_)
  refine g_dr hF (fun a_87 e_a_87 h_a_87 hF => ?_)
  rw [e_a_87]
  obtain ⟨g_9, hF⟩ := grd_ok hF
  refine g_aast (pc := 153) (cv := 3) h (by decide) rfl rfl (by decide) h_a_87 (inwm h_a_83 (by decide)) g_9 dX6_init_153 ?_
  refine g_w hF (fun w_88 hF => ?_)
  refine g_iinc (pc := 154) (lv' := [(1, .inl (3 : Int32)), (0, .inr (.inl (some t)))]) h 0 rfl dX6_init_154 (dv := (1 : Int32)) (by decide) (hj 1 (by decide)) rfl ?_
  refine g_goto (pc := 157) (tgt := 135) h dX6_init_157 (by decide) ?_
  refine g_iload_n (pc := 135) h 0 rfl dX6_init_135 ?_
  refine g_bipush (pc := 136) (v := (6 : Int32)) h dX6_init_136 (by decide) ?_
  refine g_icmp_geF (pc := 138) (tgt := 160) h dX6_init_138 (by decide) (by decide) ?_
  refine g_aload_n (pc := 141) h 1 rfl dX6_init_141 ?_
  refine g_getR (pc := 142) h fdX6_31 (inw ht) rfl dX6_init_142 ?_
  refine g_iload_n (pc := 145) h 0 rfl dX6_init_145 ?_
  refine g_new (pc := 146) (n' := 1591) h nwX6_29 hF ⟨by decide, by decide⟩ rfl dX6_init_146 (fun a_89 w_90 h_a_89 hF => ?_)
  refine g_dup (pc := 149) h dX6_init_149 rv_cat ?_
  refine g_cj (pc := 150) (k' := 35) (n' := 1754) (st := [rv X.1 (some a_89), .int (3 : Int32), rv X.1 (gR w_88 t 5)]) h mX3_init cjX6_71 (inwm h_a_89 (by decide)) (by decide) ⟨by decide, by decide⟩ ⟨rfl, rfl⟩ (cat_le4 _ (Nat.le_of_ble_eq_true rfl)) rfl rfl dX6_init_150 (fun _ _ hq9 => nX3_init hq9) hF (fun u_91 w_92 hF => ?_)
  refine g_dr hF (fun a_93 e_a_93 h_a_93 hF => ?_)
  rw [e_a_93]
  obtain ⟨g_10, hF⟩ := grd_ok hF
  refine g_aast (pc := 153) (cv := 3) h (by decide) rfl rfl (by decide) h_a_93 (inwm h_a_89 (by decide)) g_10 dX6_init_153 ?_
  refine g_w hF (fun w_94 hF => ?_)
  refine g_iinc (pc := 154) (lv' := [(1, .inl (4 : Int32)), (0, .inr (.inl (some t)))]) h 0 rfl dX6_init_154 (dv := (1 : Int32)) (by decide) (hj 1 (by decide)) rfl ?_
  refine g_goto (pc := 157) (tgt := 135) h dX6_init_157 (by decide) ?_
  refine g_iload_n (pc := 135) h 0 rfl dX6_init_135 ?_
  refine g_bipush (pc := 136) (v := (6 : Int32)) h dX6_init_136 (by decide) ?_
  refine g_icmp_geF (pc := 138) (tgt := 160) h dX6_init_138 (by decide) (by decide) ?_
  refine g_aload_n (pc := 141) h 1 rfl dX6_init_141 ?_
  refine g_getR (pc := 142) h fdX6_31 (inw ht) rfl dX6_init_142 ?_
  refine g_iload_n (pc := 145) h 0 rfl dX6_init_145 ?_
  refine g_new (pc := 146) (n' := 1758) h nwX6_29 hF ⟨by decide, by decide⟩ rfl dX6_init_146 (fun a_95 w_96 h_a_95 hF => ?_)
  refine g_dup (pc := 149) h dX6_init_149 rv_cat ?_
  refine g_cj (pc := 150) (k' := 38) (n' := 1921) (st := [rv X.1 (some a_95), .int (4 : Int32), rv X.1 (gR w_94 t 5)]) h mX3_init cjX6_71 (inwm h_a_95 (by decide)) (by decide) ⟨by decide, by decide⟩ ⟨rfl, rfl⟩ (cat_le4 _ (Nat.le_of_ble_eq_true rfl)) rfl rfl dX6_init_150 (fun _ _ hq9 => nX3_init hq9) hF (fun u_97 w_98 hF => ?_)
  refine g_dr hF (fun a_99 e_a_99 h_a_99 hF => ?_)
  rw [e_a_99]
  obtain ⟨g_11, hF⟩ := grd_ok hF
  refine g_aast (pc := 153) (cv := 3) h (by decide) rfl rfl (by decide) h_a_99 (inwm h_a_95 (by decide)) g_11 dX6_init_153 ?_
  refine g_w hF (fun w_100 hF => ?_)
  refine g_iinc (pc := 154) (lv' := [(1, .inl (5 : Int32)), (0, .inr (.inl (some t)))]) h 0 rfl dX6_init_154 (dv := (1 : Int32)) (by decide) (hj 1 (by decide)) rfl ?_
  refine g_goto (pc := 157) (tgt := 135) h dX6_init_157 (by decide) ?_
  refine g_iload_n (pc := 135) h 0 rfl dX6_init_135 ?_
  refine g_bipush (pc := 136) (v := (6 : Int32)) h dX6_init_136 (by decide) ?_
  refine g_icmp_geF (pc := 138) (tgt := 160) h dX6_init_138 (by decide) (by decide) ?_
  refine g_aload_n (pc := 141) h 1 rfl dX6_init_141 ?_
  refine g_getR (pc := 142) h fdX6_31 (inw ht) rfl dX6_init_142 ?_
  refine g_iload_n (pc := 145) h 0 rfl dX6_init_145 ?_
  refine g_new (pc := 146) (n' := 1925) h nwX6_29 hF ⟨by decide, by decide⟩ rfl dX6_init_146 (fun a_101 w_102 h_a_101 hF => ?_)
  refine g_dup (pc := 149) h dX6_init_149 rv_cat ?_
  refine g_cj (pc := 150) (k' := 41) (n' := 2088) (st := [rv X.1 (some a_101), .int (5 : Int32), rv X.1 (gR w_100 t 5)]) h mX3_init cjX6_71 (inwm h_a_101 (by decide)) (by decide) ⟨by decide, by decide⟩ ⟨rfl, rfl⟩ (cat_le4 _ (Nat.le_of_ble_eq_true rfl)) rfl rfl dX6_init_150 (fun _ _ hq9 => nX3_init hq9) hF (fun u_103 w_104 hF => ?_)
  refine g_dr hF (fun a_105 e_a_105 h_a_105 hF => ?_)
  rw [e_a_105]
  obtain ⟨g_12, hF⟩ := grd_ok hF
  refine g_aast (pc := 153) (cv := 3) h (by decide) rfl rfl (by decide) h_a_105 (inwm h_a_101 (by decide)) g_12 dX6_init_153 ?_
  refine g_w hF (fun w_106 hF => ?_)
  refine g_iinc (pc := 154) (lv' := [(1, .inl (6 : Int32)), (0, .inr (.inl (some t)))]) h 0 rfl dX6_init_154 (dv := (1 : Int32)) (by decide) (hj 1 (by decide)) rfl ?_
  refine g_goto (pc := 157) (tgt := 135) h dX6_init_157 (by decide) ?_
  refine g_iload_n (pc := 135) h 0 rfl dX6_init_135 ?_
  refine g_bipush (pc := 136) (v := (6 : Int32)) h dX6_init_136 (by decide) ?_
  refine g_icmp_geT (pc := 138) (tgt := 160) h dX6_init_138 (by decide) (by decide) ?_
  refine g_iconst (pc := 160) (v := (0 : Int32)) h dX6_init_160 (by decide) ?_
  refine g_istore_n (pc := 161) (lv' := [(1, .inl (0 : Int32)), (0, .inr (.inl (some t)))]) h dX6_init_161 (hj 1 (by decide)) rfl ?_
  refine g_iload_n (pc := 162) h 0 rfl dX6_init_162 ?_
  refine g_iconst (pc := 163) (v := (4 : Int32)) h dX6_init_163 (by decide) ?_
  refine g_icmp_geF (pc := 164) (tgt := 186) h dX6_init_164 (by decide) (by decide) ?_
  refine g_aload_n (pc := 167) h 1 rfl dX6_init_167 ?_
  refine g_getR (pc := 168) h fdX6_60 (inw ht) rfl dX6_init_168 ?_
  refine g_iload_n (pc := 171) h 0 rfl dX6_init_171 ?_
  refine g_new (pc := 172) (n' := 2091) h nwX6_58 hF ⟨by decide, by decide⟩ rfl dX6_init_172 (fun a_107 w_108 h_a_107 hF => ?_)
  refine g_dup (pc := 175) h dX6_init_175 rv_cat ?_
  refine g_cj (pc := 176) (k' := 43) (n' := 2131) (st := [rv X.1 (some a_107), .int (0 : Int32), rv X.1 (gR w_106 t 12)]) h mX2_init cjX6_72 (inwm h_a_107 (by decide)) (by decide) ⟨by decide, by decide⟩ ⟨rfl, rfl⟩ (cat_le4 _ (Nat.le_of_ble_eq_true rfl)) rfl rfl dX6_init_176 (fun _ _ hq9 => nX2_init hq9) hF (fun u_109 w_110 hF => ?_)
  refine g_dr hF (fun a_111 e_a_111 h_a_111 hF => ?_)
  rw [e_a_111]
  obtain ⟨g_13, hF⟩ := grd_ok hF
  refine g_aast (pc := 179) (cv := 2) h (by decide) rfl rfl (by decide) h_a_111 (inwm h_a_107 (by decide)) g_13 dX6_init_179 ?_
  refine g_w hF (fun w_112 hF => ?_)
  refine g_iinc (pc := 180) (lv' := [(1, .inl (1 : Int32)), (0, .inr (.inl (some t)))]) h 0 rfl dX6_init_180 (dv := (1 : Int32)) (by decide) (hj 1 (by decide)) rfl ?_
  refine g_goto (pc := 183) (tgt := 162) h dX6_init_183 (by decide) ?_
  refine g_iload_n (pc := 162) h 0 rfl dX6_init_162 ?_
  refine g_iconst (pc := 163) (v := (4 : Int32)) h dX6_init_163 (by decide) ?_
  refine g_icmp_geF (pc := 164) (tgt := 186) h dX6_init_164 (by decide) (by decide) ?_
  refine g_aload_n (pc := 167) h 1 rfl dX6_init_167 ?_
  refine g_getR (pc := 168) h fdX6_60 (inw ht) rfl dX6_init_168 ?_
  refine g_iload_n (pc := 171) h 0 rfl dX6_init_171 ?_
  refine g_new (pc := 172) (n' := 2134) h nwX6_58 hF ⟨by decide, by decide⟩ rfl dX6_init_172 (fun a_113 w_114 h_a_113 hF => ?_)
  refine g_dup (pc := 175) h dX6_init_175 rv_cat ?_
  refine g_cj (pc := 176) (k' := 45) (n' := 2174) (st := [rv X.1 (some a_113), .int (1 : Int32), rv X.1 (gR w_112 t 12)]) h mX2_init cjX6_72 (inwm h_a_113 (by decide)) (by decide) ⟨by decide, by decide⟩ ⟨rfl, rfl⟩ (cat_le4 _ (Nat.le_of_ble_eq_true rfl)) rfl rfl dX6_init_176 (fun _ _ hq9 => nX2_init hq9) hF (fun u_115 w_116 hF => ?_)
  refine g_dr hF (fun a_117 e_a_117 h_a_117 hF => ?_)
  rw [e_a_117]
  obtain ⟨g_14, hF⟩ := grd_ok hF
  refine g_aast (pc := 179) (cv := 2) h (by decide) rfl rfl (by decide) h_a_117 (inwm h_a_113 (by decide)) g_14 dX6_init_179 ?_
  refine g_w hF (fun w_118 hF => ?_)
  refine g_iinc (pc := 180) (lv' := [(1, .inl (2 : Int32)), (0, .inr (.inl (some t)))]) h 0 rfl dX6_init_180 (dv := (1 : Int32)) (by decide) (hj 1 (by decide)) rfl ?_
  refine g_goto (pc := 183) (tgt := 162) h dX6_init_183 (by decide) ?_
  refine g_iload_n (pc := 162) h 0 rfl dX6_init_162 ?_
  refine g_iconst (pc := 163) (v := (4 : Int32)) h dX6_init_163 (by decide) ?_
  refine g_icmp_geF (pc := 164) (tgt := 186) h dX6_init_164 (by decide) (by decide) ?_
  refine g_aload_n (pc := 167) h 1 rfl dX6_init_167 ?_
  refine g_getR (pc := 168) h fdX6_60 (inw ht) rfl dX6_init_168 ?_
  refine g_iload_n (pc := 171) h 0 rfl dX6_init_171 ?_
  refine g_new (pc := 172) (n' := 2177) h nwX6_58 hF ⟨by decide, by decide⟩ rfl dX6_init_172 (fun a_119 w_120 h_a_119 hF => ?_)
  refine g_dup (pc := 175) h dX6_init_175 rv_cat ?_
  refine g_cj (pc := 176) (k' := 47) (n' := 2217) (st := [rv X.1 (some a_119), .int (2 : Int32), rv X.1 (gR w_118 t 12)]) h mX2_init cjX6_72 (inwm h_a_119 (by decide)) (by decide) ⟨by decide, by decide⟩ ⟨rfl, rfl⟩ (cat_le4 _ (Nat.le_of_ble_eq_true rfl)) rfl rfl dX6_init_176 (fun _ _ hq9 => nX2_init hq9) hF (fun u_121 w_122 hF => ?_)
  refine g_dr hF (fun a_123 e_a_123 h_a_123 hF => ?_)
  rw [e_a_123]
  obtain ⟨g_15, hF⟩ := grd_ok hF
  refine g_aast (pc := 179) (cv := 2) h (by decide) rfl rfl (by decide) h_a_123 (inwm h_a_119 (by decide)) g_15 dX6_init_179 ?_
  refine g_w hF (fun w_124 hF => ?_)
  refine g_iinc (pc := 180) (lv' := [(1, .inl (3 : Int32)), (0, .inr (.inl (some t)))]) h 0 rfl dX6_init_180 (dv := (1 : Int32)) (by decide) (hj 1 (by decide)) rfl ?_
  refine g_goto (pc := 183) (tgt := 162) h dX6_init_183 (by decide) ?_
  refine g_iload_n (pc := 162) h 0 rfl dX6_init_162 ?_
  refine g_iconst (pc := 163) (v := (4 : Int32)) h dX6_init_163 (by decide) ?_
  refine g_icmp_geF (pc := 164) (tgt := 186) h dX6_init_164 (by decide) (by decide) ?_
  refine g_aload_n (pc := 167) h 1 rfl dX6_init_167 ?_
  refine g_getR (pc := 168) h fdX6_60 (inw ht) rfl dX6_init_168 ?_
  refine g_iload_n (pc := 171) h 0 rfl dX6_init_171 ?_
  refine g_new (pc := 172) (n' := 2220) h nwX6_58 hF ⟨by decide, by decide⟩ rfl dX6_init_172 (fun a_125 w_126 h_a_125 hF => ?_)
  refine g_dup (pc := 175) h dX6_init_175 rv_cat ?_
  refine g_cj (pc := 176) (k' := 49) (n' := 2260) (st := [rv X.1 (some a_125), .int (3 : Int32), rv X.1 (gR w_124 t 12)]) h mX2_init cjX6_72 (inwm h_a_125 (by decide)) (by decide) ⟨by decide, by decide⟩ ⟨rfl, rfl⟩ (cat_le4 _ (Nat.le_of_ble_eq_true rfl)) rfl rfl dX6_init_176 (fun _ _ hq9 => nX2_init hq9) hF (fun u_127 w_128 hF => ?_)
  refine g_dr hF (fun a_129 e_a_129 h_a_129 hF => ?_)
  rw [e_a_129]
  obtain ⟨g_16, hF⟩ := grd_ok hF
  refine g_aast (pc := 179) (cv := 2) h (by decide) rfl rfl (by decide) h_a_129 (inwm h_a_125 (by decide)) g_16 dX6_init_179 ?_
  refine g_w hF (fun w_130 hF => ?_)
  refine g_iinc (pc := 180) (lv' := [(1, .inl (4 : Int32)), (0, .inr (.inl (some t)))]) h 0 rfl dX6_init_180 (dv := (1 : Int32)) (by decide) (hj 1 (by decide)) rfl ?_
  refine g_goto (pc := 183) (tgt := 162) h dX6_init_183 (by decide) ?_
  refine g_iload_n (pc := 162) h 0 rfl dX6_init_162 ?_
  refine g_iconst (pc := 163) (v := (4 : Int32)) h dX6_init_163 (by decide) ?_
  refine g_icmp_geT (pc := 164) (tgt := 186) h dX6_init_164 (by decide) (by decide) ?_
  refine g_iconst (pc := 186) (v := (0 : Int32)) h dX6_init_186 (by decide) ?_
  refine g_istore_n (pc := 187) (lv' := [(1, .inl (0 : Int32)), (0, .inr (.inl (some t)))]) h dX6_init_187 (hj 1 (by decide)) rfl ?_
  refine g_lv (lv' := [(0, .inr (.inl (some t))), (1, .inl (0 : Int32))]) [1, 0] rfl ?_
  exact kX6_init_188 h hr hnL hin ht _ _ _ hF
def fX7_init_115 (t : Nat) : Nat → Int32 → Wd → Option (Unit × Wd)
  | 0 => fun _ _ => none
  | n + 1 => fun x1 w =>
    if (8 : Int32) ≤ x1 then
      (bnd (fX7_spell t (0 : Int32) (108 : Int32) (97 : Int32) (115 : Int32) (116 : Int32) (115 : Int32) (32 : Int32) (116 : Int32) (111 : Int32) w) (fun u_41 w_42 => bnd (fX7_spell t (8 : Int32) (108 : Int32) (100 : Int32) (32 : Int32) (42 : Int32) (32 : Int32) (51 : Int32) (32 : Int32) (43 : Int32) w_42) (fun u_43 w_44 => bnd (fX7_spell t (16 : Int32) (32 : Int32) (53 : Int32) (32 : Int32) (59 : Int32) (32 : Int32) (112 : Int32) (97 : Int32) (99 : Int32) w_44) (fun u_45 w_46 => bnd (fX7_spell t (24 : Int32) (101 : Int32) (115 : Int32) (32 : Int32) (49 : Int32) (48 : Int32) (32 : Int32) (45 : Int32) (32 : Int32) w_46) (fun u_47 w_48 => bnd (fX7_spell t (32 : Int32) (117 : Int32) (110 : Int32) (116 : Int32) (111 : Int32) (108 : Int32) (100 : Int32) (32 : Int32) (59 : Int32) w_48) (fun u_49 w_50 => bnd (fX7_spell t (40 : Int32) (32 : Int32) (115 : Int32) (116 : Int32) (111 : Int32) (112 : Int32) (115 : Int32) (32 : Int32) (53 : Int32) w_50) (fun u_51 w_52 => bnd (fX7_spell t (48 : Int32) (48 : Int32) (32 : Int32) (60 : Int32) (32 : Int32) (117 : Int32) (110 : Int32) (116 : Int32) (111 : Int32) w_52) (fun u_53 w_54 => bnd (fX7_spell t (56 : Int32) (108 : Int32) (100 : Int32) (32 : Int32) (59 : Int32) (32 : Int32) (32 : Int32) (32 : Int32) (32 : Int32) w_54) (fun u_55 w_56 => dr (gR w_56 t 2) 8 w_56 (fun a_57 => grd (vin (0 : Int32) (ln a_57)) (lw (sI w_56 a_57 (0 : Int32).toNatClampNeg (64 : Int32)) (fun w_58 => lw (sI w_58 t 3 (1 : Int32)) (fun w_59 => some ((), w_59))))))))))))))
    else
      (dr (gR w t 8) 8 w (fun a_60 => grd (vin x1 (ln a_60)) (lw (sI w a_60 x1.toNatClampNeg (10 : Int32)) (fun w_61 => fX7_init_115 t n (x1 + (1 : Int32)) w_61))))
set_option maxHeartbeats 4000000 in
theorem kX7_init_115 {X : Cx} (h : Ok X cX7_init RX7 3 13 1388) (hr : RetV X 13 1388) (hnL : nLX X = 2) (hin : X.2.2.2.2.2.2.2.2.1.name = "<init>") {t : Nat} (ht : InN X t 7) : ∀ (fu : Nat) (x1 : Int32) (w : Wd), OkR X (fun _ : Unit => Value.null) (fX7_init_115 t fu x1 w) → G X 13 1388 115 [(0, .inr (.inl (some t))), (1, .inl x1)] [] w := by
  have hj : ∀ j, j < 2 → j < nLX X := fun j q => by rw [hnL]; exact q
  intro fu
  induction fu with
  | zero => intro x1 w hF; exact okN hF
  | succ fu ih =>
    intro x1 w hF
    rw [fX7_init_115] at hF
    refine g_iload_n (pc := 115) h 1 rfl dX7_init_115 ?_
    refine g_bipush (pc := 116) (v := (8 : Int32)) h dX7_init_116 (by decide) ?_
    refine g_icmp_ge (pc := 118) (tgt := 135) h dX7_init_118 (by decide) hF (fun hF => ?_) (fun hF => ?_)
    · refine g_aload_n (pc := 135) h 0 rfl dX7_init_135 ?_
      refine g_iconst (pc := 136) (v := (0 : Int32)) h dX7_init_136 (by decide) ?_
      refine g_bipush (pc := 137) (v := (108 : Int32)) h dX7_init_137 (by decide) ?_
      refine g_bipush (pc := 139) (v := (97 : Int32)) h dX7_init_139 (by decide) ?_
      refine g_bipush (pc := 141) (v := (115 : Int32)) h dX7_init_141 (by decide) ?_
      refine g_bipush (pc := 143) (v := (116 : Int32)) h dX7_init_143 (by decide) ?_
      refine g_bipush (pc := 145) (v := (115 : Int32)) h dX7_init_145 (by decide) ?_
      refine g_bipush (pc := 147) (v := (32 : Int32)) h dX7_init_147 (by decide) ?_
      refine g_bipush (pc := 149) (v := (116 : Int32)) h dX7_init_149 (by decide) ?_
      refine g_bipush (pc := 151) (v := (111 : Int32)) h dX7_init_151 (by decide) ?_
      refine g_cvV (pc := 153) (st := []) h mX7_spell cvX7_57 (inw ht) (by decide) ⟨by decide, by decide⟩ (Nat.le_of_ble_eq_true rfl) rfl rfl dX7_init_153 hF (fun u_41 w_42 hF => ?_)
      refine g_aload_n (pc := 156) h 0 rfl dX7_init_156 ?_
      refine g_bipush (pc := 157) (v := (8 : Int32)) h dX7_init_157 (by decide) ?_
      refine g_bipush (pc := 159) (v := (108 : Int32)) h dX7_init_159 (by decide) ?_
      refine g_bipush (pc := 161) (v := (100 : Int32)) h dX7_init_161 (by decide) ?_
      refine g_bipush (pc := 163) (v := (32 : Int32)) h dX7_init_163 (by decide) ?_
      refine g_bipush (pc := 165) (v := (42 : Int32)) h dX7_init_165 (by decide) ?_
      refine g_bipush (pc := 167) (v := (32 : Int32)) h dX7_init_167 (by decide) ?_
      refine g_bipush (pc := 169) (v := (51 : Int32)) h dX7_init_169 (by decide) ?_
      refine g_bipush (pc := 171) (v := (32 : Int32)) h dX7_init_171 (by decide) ?_
      refine g_bipush (pc := 173) (v := (43 : Int32)) h dX7_init_173 (by decide) ?_
      refine g_cvV (pc := 175) (st := []) h mX7_spell cvX7_57 (inw ht) (by decide) ⟨by decide, by decide⟩ (Nat.le_of_ble_eq_true rfl) rfl rfl dX7_init_175 hF (fun u_43 w_44 hF => ?_)
      refine g_aload_n (pc := 178) h 0 rfl dX7_init_178 ?_
      refine g_bipush (pc := 179) (v := (16 : Int32)) h dX7_init_179 (by decide) ?_
      refine g_bipush (pc := 181) (v := (32 : Int32)) h dX7_init_181 (by decide) ?_
      refine g_bipush (pc := 183) (v := (53 : Int32)) h dX7_init_183 (by decide) ?_
      refine g_bipush (pc := 185) (v := (32 : Int32)) h dX7_init_185 (by decide) ?_
      refine g_bipush (pc := 187) (v := (59 : Int32)) h dX7_init_187 (by decide) ?_
      refine g_bipush (pc := 189) (v := (32 : Int32)) h dX7_init_189 (by decide) ?_
      refine g_bipush (pc := 191) (v := (112 : Int32)) h dX7_init_191 (by decide) ?_
      refine g_bipush (pc := 193) (v := (97 : Int32)) h dX7_init_193 (by decide) ?_
      refine g_bipush (pc := 195) (v := (99 : Int32)) h dX7_init_195 (by decide) ?_
      refine g_cvV (pc := 197) (st := []) h mX7_spell cvX7_57 (inw ht) (by decide) ⟨by decide, by decide⟩ (Nat.le_of_ble_eq_true rfl) rfl rfl dX7_init_197 hF (fun u_45 w_46 hF => ?_)
      refine g_aload_n (pc := 200) h 0 rfl dX7_init_200 ?_
      refine g_bipush (pc := 201) (v := (24 : Int32)) h dX7_init_201 (by decide) ?_
      refine g_bipush (pc := 203) (v := (101 : Int32)) h dX7_init_203 (by decide) ?_
      refine g_bipush (pc := 205) (v := (115 : Int32)) h dX7_init_205 (by decide) ?_
      refine g_bipush (pc := 207) (v := (32 : Int32)) h dX7_init_207 (by decide) ?_
      refine g_bipush (pc := 209) (v := (49 : Int32)) h dX7_init_209 (by decide) ?_
      refine g_bipush (pc := 211) (v := (48 : Int32)) h dX7_init_211 (by decide) ?_
      refine g_bipush (pc := 213) (v := (32 : Int32)) h dX7_init_213 (by decide) ?_
      refine g_bipush (pc := 215) (v := (45 : Int32)) h dX7_init_215 (by decide) ?_
      refine g_bipush (pc := 217) (v := (32 : Int32)) h dX7_init_217 (by decide) ?_
      refine g_cvV (pc := 219) (st := []) h mX7_spell cvX7_57 (inw ht) (by decide) ⟨by decide, by decide⟩ (Nat.le_of_ble_eq_true rfl) rfl rfl dX7_init_219 hF (fun u_47 w_48 hF => ?_)
      refine g_aload_n (pc := 222) h 0 rfl dX7_init_222 ?_
      refine g_bipush (pc := 223) (v := (32 : Int32)) h dX7_init_223 (by decide) ?_
      refine g_bipush (pc := 225) (v := (117 : Int32)) h dX7_init_225 (by decide) ?_
      refine g_bipush (pc := 227) (v := (110 : Int32)) h dX7_init_227 (by decide) ?_
      refine g_bipush (pc := 229) (v := (116 : Int32)) h dX7_init_229 (by decide) ?_
      refine g_bipush (pc := 231) (v := (111 : Int32)) h dX7_init_231 (by decide) ?_
      refine g_bipush (pc := 233) (v := (108 : Int32)) h dX7_init_233 (by decide) ?_
      refine g_bipush (pc := 235) (v := (100 : Int32)) h dX7_init_235 (by decide) ?_
      refine g_bipush (pc := 237) (v := (32 : Int32)) h dX7_init_237 (by decide) ?_
      refine g_bipush (pc := 239) (v := (59 : Int32)) h dX7_init_239 (by decide) ?_
      refine g_cvV (pc := 241) (st := []) h mX7_spell cvX7_57 (inw ht) (by decide) ⟨by decide, by decide⟩ (Nat.le_of_ble_eq_true rfl) rfl rfl dX7_init_241 hF (fun u_49 w_50 hF => ?_)
      refine g_aload_n (pc := 244) h 0 rfl dX7_init_244 ?_
      refine g_bipush (pc := 245) (v := (40 : Int32)) h dX7_init_245 (by decide) ?_
      refine g_bipush (pc := 247) (v := (32 : Int32)) h dX7_init_247 (by decide) ?_
      refine g_bipush (pc := 249) (v := (115 : Int32)) h dX7_init_249 (by decide) ?_
      refine g_bipush (pc := 251) (v := (116 : Int32)) h dX7_init_251 (by decide) ?_
      refine g_bipush (pc := 253) (v := (111 : Int32)) h dX7_init_253 (by decide) ?_
      refine g_bipush (pc := 255) (v := (112 : Int32)) h dX7_init_255 (by decide) ?_
      refine g_bipush (pc := 257) (v := (115 : Int32)) h dX7_init_257 (by decide) ?_
      refine g_bipush (pc := 259) (v := (32 : Int32)) h dX7_init_259 (by decide) ?_
      refine g_bipush (pc := 261) (v := (53 : Int32)) h dX7_init_261 (by decide) ?_
      refine g_cvV (pc := 263) (st := []) h mX7_spell cvX7_57 (inw ht) (by decide) ⟨by decide, by decide⟩ (Nat.le_of_ble_eq_true rfl) rfl rfl dX7_init_263 hF (fun u_51 w_52 hF => ?_)
      refine g_aload_n (pc := 266) h 0 rfl dX7_init_266 ?_
      refine g_bipush (pc := 267) (v := (48 : Int32)) h dX7_init_267 (by decide) ?_
      refine g_bipush (pc := 269) (v := (48 : Int32)) h dX7_init_269 (by decide) ?_
      refine g_bipush (pc := 271) (v := (32 : Int32)) h dX7_init_271 (by decide) ?_
      refine g_bipush (pc := 273) (v := (60 : Int32)) h dX7_init_273 (by decide) ?_
      refine g_bipush (pc := 275) (v := (32 : Int32)) h dX7_init_275 (by decide) ?_
      refine g_bipush (pc := 277) (v := (117 : Int32)) h dX7_init_277 (by decide) ?_
      refine g_bipush (pc := 279) (v := (110 : Int32)) h dX7_init_279 (by decide) ?_
      refine g_bipush (pc := 281) (v := (116 : Int32)) h dX7_init_281 (by decide) ?_
      refine g_bipush (pc := 283) (v := (111 : Int32)) h dX7_init_283 (by decide) ?_
      refine g_cvV (pc := 285) (st := []) h mX7_spell cvX7_57 (inw ht) (by decide) ⟨by decide, by decide⟩ (Nat.le_of_ble_eq_true rfl) rfl rfl dX7_init_285 hF (fun u_53 w_54 hF => ?_)
      refine g_aload_n (pc := 288) h 0 rfl dX7_init_288 ?_
      refine g_bipush (pc := 289) (v := (56 : Int32)) h dX7_init_289 (by decide) ?_
      refine g_bipush (pc := 291) (v := (108 : Int32)) h dX7_init_291 (by decide) ?_
      refine g_bipush (pc := 293) (v := (100 : Int32)) h dX7_init_293 (by decide) ?_
      refine g_bipush (pc := 295) (v := (32 : Int32)) h dX7_init_295 (by decide) ?_
      refine g_bipush (pc := 297) (v := (59 : Int32)) h dX7_init_297 (by decide) ?_
      refine g_bipush (pc := 299) (v := (32 : Int32)) h dX7_init_299 (by decide) ?_
      refine g_bipush (pc := 301) (v := (32 : Int32)) h dX7_init_301 (by decide) ?_
      refine g_bipush (pc := 303) (v := (32 : Int32)) h dX7_init_303 (by decide) ?_
      refine g_bipush (pc := 305) (v := (32 : Int32)) h dX7_init_305 (by decide) ?_
      refine g_cvV (pc := 307) (st := []) h mX7_spell cvX7_57 (inw ht) (by decide) ⟨by decide, by decide⟩ (Nat.le_of_ble_eq_true rfl) rfl rfl dX7_init_307 hF (fun u_55 w_56 hF => ?_)
      refine g_aload_n (pc := 310) h 0 rfl dX7_init_310 ?_
      refine g_getR (pc := 311) h fdX7_17 (inw ht) rfl dX7_init_311 ?_
      refine g_iconst (pc := 314) (v := (0 : Int32)) h dX7_init_314 (by decide) ?_
      refine g_bipush (pc := 315) (v := (64 : Int32)) h dX7_init_315 (by decide) ?_
      refine g_dr hF (fun a_57 e_a_57 h_a_57 hF => ?_)
      rw [e_a_57]
      obtain ⟨g_1, hF⟩ := grd_ok hF
      refine g_iast (pc := 317) h h_a_57 g_1 dX7_init_317 ?_
      refine g_w hF (fun w_58 hF => ?_)
      refine g_aload_n (pc := 318) h 0 rfl dX7_init_318 ?_
      refine g_iconst (pc := 319) (v := (1 : Int32)) h dX7_init_319 (by decide) ?_
      refine g_putI (pc := 320) h fdX7_61 (inw ht) (by decide) ⟨rfl, rfl⟩ dX7_init_320 ?_
      refine g_w hF (fun w_59 hF => ?_)
      exact g_vret (pc := 323) h hr ⟨by decide, by decide⟩ hF dX7_init_323
    · refine g_aload_n (pc := 121) h 0 rfl dX7_init_121 ?_
      refine g_getR (pc := 122) h fdX7_23 (inw ht) rfl dX7_init_122 ?_
      refine g_iload_n (pc := 125) h 1 rfl dX7_init_125 ?_
      refine g_bipush (pc := 126) (v := (10 : Int32)) h dX7_init_126 (by decide) ?_
      refine g_dr hF (fun a_60 e_a_60 h_a_60 hF => ?_)
      rw [e_a_60]
      obtain ⟨g_2, hF⟩ := grd_ok hF
      refine g_iast (pc := 128) h h_a_60 g_2 dX7_init_128 ?_
      refine g_w hF (fun w_61 hF => ?_)
      refine g_iinc (pc := 129) (lv' := [(1, .inl (x1 + (1 : Int32))), (0, .inr (.inl (some t)))]) h 1 rfl dX7_init_129 (dv := (1 : Int32)) (by decide) (hj 1 (by decide)) rfl ?_
      refine g_goto (pc := 132) (tgt := 115) h dX7_init_132 (by decide) ?_
      refine g_lv (lv' := [(0, .inr (.inl (some t))), (1, .inl (x1 + (1 : Int32)))]) [1, 0] rfl ?_
      exact ih _ _ hF
def fX7_init (t : Nat) (w : Wd) : Option (Unit × Wd) :=
  nw w 8 960 (fun a_1 w_2 => lw (sR w_2 t 1 (some a_1)) (fun w_3 => nw w_3 8 6 (fun a_4 w_5 => lw (sR w_5 t 2 (some a_4)) (fun w_6 => nw w_6 8 160 (fun a_7 w_8 => lw (sR w_8 t 5 (some a_7)) (fun w_9 => nw w_9 8 8 (fun a_10 w_11 => lw (sR w_11 t 8 (some a_10)) (fun w_12 => nw w_12 8 6 (fun a_13 w_14 => lw (sR w_14 t 9 (some a_13)) (fun w_15 => nw w_15 8 30 (fun a_16 w_17 => lw (sR w_17 t 10 (some a_16)) (fun w_18 => nw w_18 8 8 (fun a_19 w_20 => lw (sR w_20 t 36 (some a_19)) (fun w_21 => nw w_21 8 8 (fun a_22 w_23 => lw (sR w_23 t 37 (some a_22)) (fun w_24 => nw w_24 8 30 (fun a_25 w_26 => lw (sR w_26 t 38 (some a_25)) (fun w_27 => lw (sI w_27 t 39 (-1 : Int32)) (fun w_28 => nw w_28 9 4 (fun a_29 w_30 => lw (sR w_30 t 42 (some a_29)) (fun w_31 => nw w_31 8 4 (fun a_32 w_33 => lw (sR w_33 t 43 (some a_32)) (fun w_34 => nw w_34 8 4 (fun a_35 w_36 => lw (sR w_36 t 44 (some a_35)) (fun w_37 => nw w_37 8 160 (fun a_38 w_39 => lw (sR w_39 t 45 (some a_38)) (fun w_40 => fX7_init_115 t FU (0 : Int32) w_40)))))))))))))))))))))))))))
set_option maxHeartbeats 4000000 in
theorem mX7_init {Γ : En} {t : Nat} {w : Wd} (ht : t < wn w ∧ kd t = 7) : MtV Γ yX7_init cX7_init 2 none 3 13 1388 [rv Γ (some t)] w (fX7_init t w) := by
  refine mtV [.inr (.inl (some t))] rfl (Nat.le_of_ble_eq_true rfl) (fun X hΓ hnL hn0 h hin9 hr hF => ?_)
  subst hΓ
  have hin := hin9 rfl
  have ht : InN X t 7 := ⟨by rw [hn0]; exact ht.1, ht.2⟩
  have h : Ok X cX7_init RX7 3 13 1388 := h
  have hj : ∀ j, j < 2 → j < nLX X := fun j q => by rw [hnL]; exact q
  show G X 0 0 0 [(0, .inr (.inl (some t)))] [] w
  unfold fX7_init at hF
  refine g_aload_n (pc := 0) h 0 rfl dX7_init_0 ?_
  refine g_obj (pc := 1) h wob_X7_7 wim_obj wco_obj (by decide) dX7_init_1 ?_
  refine g_aload_n (pc := 4) h 0 rfl dX7_init_4 ?_
  refine g_sipush (pc := 5) (v := (960 : Int32)) h dX7_init_5 (by decide) ?_
  refine g_newI (pc := 8) (n' := 960) h hF (L := 960) ⟨by decide, by decide, by decide⟩ ⟨by decide, by decide⟩ rfl dX7_init_8 (fun a_1 w_2 h_a_1 hF => ?_)
  refine g_putRF (pc := 10) h fdX7_13 (inw ht) rfl hin rfl (Or.inr ⟨_, rfl⟩) dX7_init_10 ?_
  refine g_w hF (fun w_3 hF => ?_)
  refine g_aload_n (pc := 13) h 0 rfl dX7_init_13 ?_
  refine g_bipush (pc := 14) (v := (6 : Int32)) h dX7_init_14 (by decide) ?_
  refine g_newI (pc := 16) (n' := 966) h hF (L := 6) ⟨by decide, by decide, by decide⟩ ⟨by decide, by decide⟩ rfl dX7_init_16 (fun a_4 w_5 h_a_4 hF => ?_)
  refine g_putRF (pc := 18) h fdX7_17 (inw ht) rfl hin rfl (Or.inr ⟨_, rfl⟩) dX7_init_18 ?_
  refine g_w hF (fun w_6 hF => ?_)
  refine g_aload_n (pc := 21) h 0 rfl dX7_init_21 ?_
  refine g_sipush (pc := 22) (v := (160 : Int32)) h dX7_init_22 (by decide) ?_
  refine g_newI (pc := 25) (n' := 1126) h hF (L := 160) ⟨by decide, by decide, by decide⟩ ⟨by decide, by decide⟩ rfl dX7_init_25 (fun a_7 w_8 h_a_7 hF => ?_)
  refine g_putRF (pc := 27) h fdX7_20 (inw ht) rfl hin rfl (Or.inr ⟨_, rfl⟩) dX7_init_27 ?_
  refine g_w hF (fun w_9 hF => ?_)
  refine g_aload_n (pc := 30) h 0 rfl dX7_init_30 ?_
  refine g_bipush (pc := 31) (v := (8 : Int32)) h dX7_init_31 (by decide) ?_
  refine g_newI (pc := 33) (n' := 1134) h hF (L := 8) ⟨by decide, by decide, by decide⟩ ⟨by decide, by decide⟩ rfl dX7_init_33 (fun a_10 w_11 h_a_10 hF => ?_)
  refine g_putRF (pc := 35) h fdX7_23 (inw ht) rfl hin rfl (Or.inr ⟨_, rfl⟩) dX7_init_35 ?_
  refine g_w hF (fun w_12 hF => ?_)
  refine g_aload_n (pc := 38) h 0 rfl dX7_init_38 ?_
  refine g_bipush (pc := 39) (v := (6 : Int32)) h dX7_init_39 (by decide) ?_
  refine g_newI (pc := 41) (n' := 1140) h hF (L := 6) ⟨by decide, by decide, by decide⟩ ⟨by decide, by decide⟩ rfl dX7_init_41 (fun a_13 w_14 h_a_13 hF => ?_)
  refine g_putRF (pc := 43) h fdX7_26 (inw ht) rfl hin rfl (Or.inr ⟨_, rfl⟩) dX7_init_43 ?_
  refine g_w hF (fun w_15 hF => ?_)
  refine g_aload_n (pc := 46) h 0 rfl dX7_init_46 ?_
  refine g_bipush (pc := 47) (v := (30 : Int32)) h dX7_init_47 (by decide) ?_
  refine g_newI (pc := 49) (n' := 1170) h hF (L := 30) ⟨by decide, by decide, by decide⟩ ⟨by decide, by decide⟩ rfl dX7_init_49 (fun a_16 w_17 h_a_16 hF => ?_)
  refine g_putRF (pc := 51) h fdX7_29 (inw ht) rfl hin rfl (Or.inr ⟨_, rfl⟩) dX7_init_51 ?_
  refine g_w hF (fun w_18 hF => ?_)
  refine g_aload_n (pc := 54) h 0 rfl dX7_init_54 ?_
  refine g_bipush (pc := 55) (v := (8 : Int32)) h dX7_init_55 (by decide) ?_
  refine g_newI (pc := 57) (n' := 1178) h hF (L := 8) ⟨by decide, by decide, by decide⟩ ⟨by decide, by decide⟩ rfl dX7_init_57 (fun a_19 w_20 h_a_19 hF => ?_)
  refine g_putRF (pc := 59) h fdX7_32 (inw ht) rfl hin rfl (Or.inr ⟨_, rfl⟩) dX7_init_59 ?_
  refine g_w hF (fun w_21 hF => ?_)
  refine g_aload_n (pc := 62) h 0 rfl dX7_init_62 ?_
  refine g_bipush (pc := 63) (v := (8 : Int32)) h dX7_init_63 (by decide) ?_
  refine g_newI (pc := 65) (n' := 1186) h hF (L := 8) ⟨by decide, by decide, by decide⟩ ⟨by decide, by decide⟩ rfl dX7_init_65 (fun a_22 w_23 h_a_22 hF => ?_)
  refine g_putRF (pc := 67) h fdX7_35 (inw ht) rfl hin rfl (Or.inr ⟨_, rfl⟩) dX7_init_67 ?_
  refine g_w hF (fun w_24 hF => ?_)
  refine g_aload_n (pc := 70) h 0 rfl dX7_init_70 ?_
  refine g_bipush (pc := 71) (v := (30 : Int32)) h dX7_init_71 (by decide) ?_
  refine g_newI (pc := 73) (n' := 1216) h hF (L := 30) ⟨by decide, by decide, by decide⟩ ⟨by decide, by decide⟩ rfl dX7_init_73 (fun a_25 w_26 h_a_25 hF => ?_)
  refine g_putRF (pc := 75) h fdX7_38 (inw ht) rfl hin rfl (Or.inr ⟨_, rfl⟩) dX7_init_75 ?_
  refine g_w hF (fun w_27 hF => ?_)
  refine g_aload_n (pc := 78) h 0 rfl dX7_init_78 ?_
  refine g_iconst (pc := 79) (v := (-1 : Int32)) h dX7_init_79 (by decide) ?_
  refine g_putI (pc := 80) h fdX7_41 (inw ht) (by decide) ⟨rfl, rfl⟩ dX7_init_80 ?_
  refine g_w hF (fun w_28 hF => ?_)
  refine g_aload_n (pc := 83) h 0 rfl dX7_init_83 ?_
  refine g_iconst (pc := 84) (v := (4 : Int32)) h dX7_init_84 (by decide) ?_
  refine g_newZ (pc := 85) (n' := 1220) h hF (L := 4) ⟨by decide, by decide, by decide⟩ ⟨by decide, by decide⟩ rfl dX7_init_85 (fun a_29 w_30 h_a_29 hF => ?_)
  refine g_putRF (pc := 87) h fdX7_44 (inw ht) rfl hin rfl (Or.inr ⟨_, rfl⟩) dX7_init_87 ?_
  refine g_w hF (fun w_31 hF => ?_)
  refine g_aload_n (pc := 90) h 0 rfl dX7_init_90 ?_
  refine g_iconst (pc := 91) (v := (4 : Int32)) h dX7_init_91 (by decide) ?_
  refine g_newI (pc := 92) (n' := 1224) h hF (L := 4) ⟨by decide, by decide, by decide⟩ ⟨by decide, by decide⟩ rfl dX7_init_92 (fun a_32 w_33 h_a_32 hF => ?_)
  refine g_putRF (pc := 94) h fdX7_48 (inw ht) rfl hin rfl (Or.inr ⟨_, rfl⟩) dX7_init_94 ?_
  refine g_w hF (fun w_34 hF => ?_)
  refine g_aload_n (pc := 97) h 0 rfl dX7_init_97 ?_
  refine g_iconst (pc := 98) (v := (4 : Int32)) h dX7_init_98 (by decide) ?_
  refine g_newI (pc := 99) (n' := 1228) h hF (L := 4) ⟨by decide, by decide, by decide⟩ ⟨by decide, by decide⟩ rfl dX7_init_99 (fun a_35 w_36 h_a_35 hF => ?_)
  refine g_putRF (pc := 101) h fdX7_51 (inw ht) rfl hin rfl (Or.inr ⟨_, rfl⟩) dX7_init_101 ?_
  refine g_w hF (fun w_37 hF => ?_)
  refine g_aload_n (pc := 104) h 0 rfl dX7_init_104 ?_
  refine g_sipush (pc := 105) (v := (160 : Int32)) h dX7_init_105 (by decide) ?_
  refine g_newI (pc := 108) (n' := 1388) h hF (L := 160) ⟨by decide, by decide, by decide⟩ ⟨by decide, by decide⟩ rfl dX7_init_108 (fun a_38 w_39 h_a_38 hF => ?_)
  refine g_putRF (pc := 110) h fdX7_54 (inw ht) rfl hin rfl (Or.inr ⟨_, rfl⟩) dX7_init_110 ?_
  refine g_w hF (fun w_40 hF => ?_)
  refine g_iconst (pc := 113) (v := (0 : Int32)) h dX7_init_113 (by decide) ?_
  refine g_istore_n (pc := 114) (lv' := [(1, .inl (0 : Int32)), (0, .inr (.inl (some t)))]) h dX7_init_114 (hj 1 (by decide)) rfl ?_
  refine g_lv (lv' := [(0, .inr (.inl (some t))), (1, .inl (0 : Int32))]) [1, 0] rfl ?_
  exact kX7_init_115 h hr hnL hin ht _ _ _ hF
