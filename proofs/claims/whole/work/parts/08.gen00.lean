set_option maxRecDepth 100000 in
set_option maxHeartbeats 4000000 in
theorem c_X8_item {l : Launch} {D : va_G} {cA ρ : Nat → Nat} {σ : Sg} {τ : Tg} {k0 : Nat} {i1 : Int32} (hk0 : (kd k0).1 = 1) {r : Int32} (h : f_X8_item σ k0 i1 = some r) : Ct l yX8_item cX8_item 2 (some .int) 0 0 D cA ρ A0 [.ref (ρ k0), .int i1] σ τ (some (.int r)) σ τ := by
  refine Ct_of (by decide +kernel) (Nat.le_of_ble_eq_true rfl) (fun p e s m args below meth c C => ?_)
  have C : Ctx p l s m args meth c cX8_item RX8 2 (some .int) D cA ρ A0 := C
  unfold f_X8_item at h
  refine Y_sub [0, 1] (lv' := [(0, .ref (ρ k0)), (1, .int i1)]) rfl ?_
  refine Y_iload_n C (pc := 0) 1 1 rfl rfl dX8_item_0 ?_
  refine Y_if_lt C (pc := 1) (tgt := 16) dX8_item_1 (by decide) (fun c3 => ?_) (fun c3 => ?_)
  · rw [if_pos c3] at h
    refine Y_iconst C (pc := 16) (v := (0 : Int32)) (by decide) dX8_item_16 ?_
    cases h
    exact Y_iret C dX8_item_17
  · rw [if_neg c3] at h
    refine Y_iload_n C (pc := 4) 1 1 rfl rfl dX8_item_4 ?_
    refine Y_aload_n C (pc := 5) 0 0 rfl rfl dX8_item_5 ?_
    refine Y_alen1 C (pc := 6) hk0 dX8_item_6 ?_
    refine Y_icmp_ge C (pc := 7) (tgt := 16) dX8_item_7 (by decide) (fun c2 => ?_) (fun c2 => ?_)
    · rw [if_pos c2] at h
      refine Y_iconst C (pc := 16) (v := (0 : Int32)) (by decide) dX8_item_16 ?_
      cases h
      exact Y_iret C dX8_item_17
    · rw [if_neg c2] at h
      refine Y_aload_n C (pc := 10) 0 0 rfl rfl dX8_item_10 ?_
      refine Y_iload_n C (pc := 11) 1 1 rfl rfl dX8_item_11 ?_
      obtain ⟨v1, hv1, h⟩ := Option.bind_eq_some_iff.mp h
      refine Y_iald C (pc := 12) hk0 hv1 dX8_item_12 ?_
      refine Y_goto C (pc := 13) (tgt := 17) dX8_item_13 (by decide) ?_
      cases h
      exact Y_iret C dX8_item_17

set_option maxRecDepth 100000 in
set_option maxHeartbeats 4000000 in
theorem c_X8_factorial {l : Launch} {D : va_G} {cA ρ : Nat → Nat} {σ : Sg} {τ : Tg} {i0 : Int32}  {r : Int32} (h : f_X8_factorial σ i0 = some r) : Ct l yX8_factorial cX8_factorial 1 (some .int) 1 21 D cA ρ A0 [.int i0] σ τ (some (.int r)) σ τ := by
  refine Ct_of (by decide +kernel) (Nat.le_of_ble_eq_true rfl) (fun p e s m args below meth c C => ?_)
  have C : Ctx p l s m args meth c cX8_factorial RX8 1 (some .int) D cA ρ A0 := C
  unfold f_X8_factorial at h
  refine Y_sub [0] (lv' := [(0, .int i0)]) rfl ?_
  refine Y_iconst C (pc := 0) (v := (1 : Int32)) (by decide) dX8_factorial_0 ?_
  refine Y_gets C (pc := 1) q_fs_RX8_330 dX8_factorial_1 ?_
  refine Y_iload_n C (pc := 4) 0 0 rfl rfl dX8_factorial_4 ?_
  obtain ⟨v1, hv1, h⟩ := Option.bind_eq_some_iff.mp h
  refine Y_callS C [.ref (ρ 97), .int i0] [.int (1 : Int32)] [.int v1, .int (1 : Int32)] (c_X8_item (by decide +kernel) hv1) (fun _ h => h.elim) q_cw_yX8_item q_ml_RX8_119 q_st_yX8_item ⟨⟨Nat.le_of_ble_eq_true rfl, Nat.le_of_ble_eq_true rfl⟩, ⟨Nat.zero_le _, Nat.zero_le _⟩, Nat.le_of_ble_eq_true rfl⟩ rfl rfl rfl dX8_factorial_5 ?_
  refine Y_max C (pc := 8) q_ml_RX8_333 ⟨q_st_max, q_in_Math, q_cd_max⟩ ⟨Nat.le_of_ble_eq_true rfl, Nat.le_of_ble_eq_true rfl, Nat.zero_le _, Nat.zero_le _⟩ dX8_factorial_8 ?_
  cases h
  exact Y_iret C dX8_factorial_11

set_option maxRecDepth 100000 in
set_option maxHeartbeats 4000000 in
theorem c_X0_restart {l : Launch} {D : va_G} {cA ρ : Nat → Nat} {σ : Sg} {τ : Tg} {k0 : Nat} {i1 : Int32} (hI : Inj ρ) (hk0 : kd k0 = (0, 0)) {r : Sg} (h : f_X0_restart σ k0 i1 = some r) : Ct l yX0_restart cX0_restart 3 none 2 41 D cA ρ (Aw ρ) [.ref (ρ k0), .int i1] σ τ none r τ := by
  refine Ct_of (by decide +kernel) (Nat.le_of_ble_eq_true rfl) (fun p e s m args below meth c C => ?_)
  have C : Ctx p l s m args meth c cX0_restart RX0 3 none D cA ρ (Aw ρ) := C
  have hW : Wr ρ (Aw ρ) := ⟨hI, fun k hk => ⟨k, hk, rfl⟩⟩
  unfold f_X0_restart at h
  refine Y_sub [0, 1] (lv' := [(0, .ref (ρ k0)), (1, .int i1)]) rfl ?_
  refine Y_aload_n C (pc := 0) 0 0 rfl rfl dX0_restart_0 ?_
  refine Y_iload_n C (pc := 1) 1 1 rfl rfl dX0_restart_1 ?_
  obtain ⟨v1, hv1, h⟩ := Option.bind_eq_some_iff.mp h
  refine Y_callSN C [.int i1] [.ref (ρ k0)] [.int v1, .ref (ρ k0)] (c_X8_factorial  hv1) (fun _ h => h.elim) q_cw_yX8_factorial q_mn_RX0_63 q_st_yX8_factorial ⟨⟨Nat.le_of_ble_eq_true rfl, Nat.le_of_ble_eq_true rfl⟩, ⟨Nat.zero_le _, Nat.zero_le _⟩, Nat.le_of_ble_eq_true rfl⟩ rfl rfl rfl dX0_restart_2 ?_
  refine Y_putI C (pc := 5) hW hk0 (q_lo_0 hk0) q_fp_RX0_38 dX0_restart_5 ?_
  refine Y_iconst C (pc := 8) (v := (0 : Int32)) (by decide) dX0_restart_8 ?_
  refine Y_istore_n C (pc := 9) (lv' := [(2, .int (0 : Int32)), (0, .ref (ρ k0)), (1, .int i1)]) 2 rfl (by decide) rfl dX0_restart_9 ?_
  obtain ⟨e5, he5, h⟩ := Option.bind_eq_some_iff.mp h
  refine Y_sub [1, 0] (lv' := [(0, .ref (ρ k0)), (2, .int (0 : Int32))]) rfl ?_
  refine lo_rule (f := (f_X0_restart_L10 k0)) (YS := fun s2 => Y p l e (Rm 2 41) s m args below meth c 3 D cA ρ (Aw ρ) 0 0 (MQ below (QC D cA ρ (Aw ρ) none r τ) args s 0 0 (Aw ρ)) s2.2 τ 10 [(0, .ref (ρ k0)), (2, .int s2.1)] []) (YE := fun e5 => Y p l e (Rm 2 41) s m args below meth c 3 D cA ρ (Aw ρ) 0 0 (MQ below (QC D cA ρ (Aw ρ) none r τ) args s 0 0 (Aw ρ)) e5 τ 29 [] []) ?_ he5 ?_
  · intro s2 x h hLp hE
    unfold f_X0_restart_L10 at h
    refine Y_iload_n C (pc := 10) 2 1 rfl rfl dX0_restart_10 ?_
    refine Y_bipush C (pc := 11) (v := (6 : Int32)) (by decide) dX0_restart_11 ?_
    refine Y_icmp_ge C (pc := 13) (tgt := 29) dX0_restart_13 (by decide) (fun c4 => ?_) (fun c4 => ?_)
    · rw [if_pos c4] at h
      have h := Option.some.inj h
      exact Y_sub [] rfl (hE _ h.symm)
    · rw [if_neg c4] at h
      refine Y_aload_n C (pc := 16) 0 0 rfl rfl dX0_restart_16 ?_
      refine Y_getR C (pc := 17) hk0 q_fi_RX0_15 (by decide) dX0_restart_17 ?_
      refine Y_iload_n C (pc := 20) 2 1 rfl rfl dX0_restart_20 ?_
      refine Y_iload_n C (pc := 21) 2 1 rfl rfl dX0_restart_21 ?_
      obtain ⟨s3, hs3, h⟩ := Option.bind_eq_some_iff.mp h
      refine Y_iast C (pc := 22) hW (q_kr_0_5 hk0) (q_lr_0_5 hk0) hs3 dX0_restart_22 ?_
      refine Y_iinc C (pc := 23) (v := (s2.1 + 1)) (lv' := [(2, .int (s2.1 + 1)), (0, .ref (ρ k0))]) 1 rfl (congrArg (fun z => s2.1 + z) (by decide : Int32.ofInt (1) = (1))) (by decide) rfl dX0_restart_23 ?_
      refine Y_goto C (pc := 26) (tgt := 10) dX0_restart_26 (by decide) ?_
      have h := Option.some.inj h
      exact Y_sub [1, 0] rfl (hLp _ h.symm)
  · cases h
    exact Y_vret C dX0_restart_29

set_option maxRecDepth 100000 in
set_option maxHeartbeats 4000000 in
theorem c_X6_isFree {l : Launch} {D : va_G} {cA ρ : Nat → Nat} {σ : Sg} {τ : Tg} {k0 : Nat} {i1 : Int32} (hk0 : kd k0 = (0, 6)) {r : Int32} (h : f_X6_isFree σ k0 i1 = some r) : Ct l yX6_isFree cX6_isFree 2 (some .boolean) 1 21 D cA ρ A0 [.ref (ρ k0), .int i1] σ τ (some (.int r)) σ τ := by
  refine Ct_of (by decide +kernel) (Nat.le_of_ble_eq_true rfl) (fun p e s m args below meth c C => ?_)
  have C : Ctx p l s m args meth c cX6_isFree RX6 2 (some .boolean) D cA ρ A0 := C
  unfold f_X6_isFree at h
  refine Y_sub [0, 1] (lv' := [(0, .ref (ρ k0)), (1, .int i1)]) rfl ?_
  refine Y_aload_n C (pc := 0) 0 0 rfl rfl dX6_isFree_0 ?_
  refine Y_getR C (pc := 1) hk0 q_fi_RX6_24 (by decide) dX6_isFree_1 ?_
  refine Y_iload_n C (pc := 4) 1 1 rfl rfl dX6_isFree_4 ?_
  obtain ⟨v1, hv1, h⟩ := Option.bind_eq_some_iff.mp h
  refine Y_callSN C [.ref (ρ (k0 + 5)), .int i1] [] [.int v1] (c_X8_item (q_kr_6_5 hk0) hv1) (fun _ h => h.elim) q_cw_yX8_item q_mn_RX6_65 q_st_yX8_item ⟨⟨Nat.le_of_ble_eq_true rfl, Nat.le_of_ble_eq_true rfl⟩, ⟨Nat.zero_le _, Nat.zero_le _⟩, Nat.le_of_ble_eq_true rfl⟩ rfl rfl rfl dX6_isFree_5 ?_
  refine Y_iconst C (pc := 8) (v := (-1 : Int32)) (by decide) dX6_isFree_8 ?_
  refine Y_icmp_ne C (pc := 9) (tgt := 16) dX6_isFree_9 (by decide) (fun c2 => ?_) (fun c2 => ?_)
  · rw [if_neg c2] at h
    refine Y_iconst C (pc := 16) (v := (0 : Int32)) (by decide) dX6_isFree_16 ?_
    cases h
    exact Y_zret (by decide) C dX6_isFree_17
  · rw [if_pos c2] at h
    refine Y_iconst C (pc := 12) (v := (1 : Int32)) (by decide) dX6_isFree_12 ?_
    refine Y_goto C (pc := 13) (tgt := 17) dX6_isFree_13 (by decide) ?_
    cases h
    exact Y_zret (by decide) C dX6_isFree_17

set_option maxRecDepth 100000 in
set_option maxHeartbeats 4000000 in
theorem c_X6_agrees {l : Launch} {D : va_G} {cA ρ : Nat → Nat} {σ : Sg} {τ : Tg} {k0 : Nat} {k1 : Nat} (hk0 : kd k0 = (0, 6)) (hk1 : (kd k1).1 = 1) {r : Int32} (h : f_X6_agrees σ k0 k1 = some r) : Ct l yX6_agrees cX6_agrees 3 (some .boolean) 2 42 D cA ρ A0 [.ref (ρ k0), .ref (ρ k1)] σ τ (some (.int r)) σ τ := by
  refine Ct_of (by decide +kernel) (Nat.le_of_ble_eq_true rfl) (fun p e s m args below meth c C => ?_)
  have C : Ctx p l s m args meth c cX6_agrees RX6 3 (some .boolean) D cA ρ A0 := C
  unfold f_X6_agrees at h
  refine Y_sub [0, 1] (lv' := [(0, .ref (ρ k0)), (1, .ref (ρ k1))]) rfl ?_
  refine Y_iconst C (pc := 0) (v := (0 : Int32)) (by decide) dX6_agrees_0 ?_
  refine Y_istore_n C (pc := 1) (lv' := [(2, .int (0 : Int32)), (0, .ref (ρ k0)), (1, .ref (ρ k1))]) 2 rfl (by decide) rfl dX6_agrees_1 ?_
  obtain ⟨e9, he9, h⟩ := Option.bind_eq_some_iff.mp h
  refine Y_sub [1, 2, 0] (lv' := [(0, .ref (ρ k0)), (1, .ref (ρ k1)), (2, .int (0 : Int32))]) rfl ?_
  refine lo_rule (f := (f_X6_agrees_L2 σ k0 k1)) (YS := fun s1 => Y p l e (Rm 2 42) s m args below meth c 3 D cA ρ A0 0 0 (MQ below (QC D cA ρ A0 (some (.int r)) σ τ) args s 0 0 A0) σ τ 2 [(0, .ref (ρ k0)), (1, .ref (ρ k1)), (2, .int s1)] []) (YE := fun e9 => (∀ e10, e9 = (.inl e10) → Y p l e (Rm 2 42) s m args below meth c 3 D cA ρ A0 0 0 (MQ below (QC D cA ρ A0 (some (.int r)) σ τ) args s 0 0 A0) σ τ 34 [] []) ∧ (∀ e11, e9 = (.inr e11) → Y p l e (Rm 2 42) s m args below meth c 3 D cA ρ A0 0 0 (MQ below (QC D cA ρ A0 (some (.int r)) σ τ) args s 0 0 A0) σ τ 42 [] [])) ?_ he9 ?_
  · intro s1 x h hLp hE
    have hE0 : ∀ y, x = .inr (.inl y) → _ := fun y q => (hE _ q).1 y rfl
    have hE1 : ∀ y, x = .inr (.inr y) → _ := fun y q => (hE _ q).2 y rfl
    unfold f_X6_agrees_L2 at h
    have hJ36 : ∀ (j3 : Int32), f_X6_agrees_J36 j3 = some x → Y p l e (Rm 2 42) s m args below meth c 3 D cA ρ A0 0 0 (MQ below (QC D cA ρ A0 (some (.int r)) σ τ) args s 0 0 A0) σ τ 36 [(0, .ref (ρ k0)), (1, .ref (ρ k1)), (2, .int j3)] [] := by
      intro j3 h
      unfold f_X6_agrees_J36 at h
      refine Y_iinc C (pc := 36) (v := (j3 + 1)) (lv' := [(2, .int (j3 + 1)), (0, .ref (ρ k0)), (1, .ref (ρ k1))]) 2 rfl (congrArg (fun z => j3 + z) (by decide : Int32.ofInt (1) = (1))) (by decide) rfl dX6_agrees_36 ?_
      refine Y_goto C (pc := 39) (tgt := 2) dX6_agrees_39 (by decide) ?_
      have h := Option.some.inj h
      exact Y_sub [1, 2, 0] rfl (hLp _ h.symm)
    refine Y_iload_n C (pc := 2) 2 2 rfl rfl dX6_agrees_2 ?_
    refine Y_aload_n C (pc := 3) 0 0 rfl rfl dX6_agrees_3 ?_
    refine Y_getI C (pc := 4) hk0 q_fi_RX6_31 dX6_agrees_4 ?_
    refine Y_icmp_ge C (pc := 7) (tgt := 42) dX6_agrees_7 (by decide) (fun c8 => ?_) (fun c8 => ?_)
    · rw [if_pos c8] at h
      have h := Option.some.inj h
      exact Y_sub [] rfl (hE1 _ h.symm)
    · rw [if_neg c8] at h
      refine Y_aload_n C (pc := 10) 0 0 rfl rfl dX6_agrees_10 ?_
      refine Y_iload_n C (pc := 11) 2 2 rfl rfl dX6_agrees_11 ?_
      obtain ⟨v2, hv2, h⟩ := Option.bind_eq_some_iff.mp h
      refine Y_callV C [.int s1] [] [.int v2] hk0 rfl rfl (c_X6_isFree hk0 hv2) (fun _ h => h.elim) q_cw_yX6_isFree q_ml_RX6_69 ⟨q_im_yX6_isFree, q_se_yX6_isFree⟩ ⟨⟨Nat.le_of_ble_eq_true rfl, Nat.le_of_ble_eq_true rfl⟩, ⟨Nat.zero_le _, Nat.zero_le _⟩, Nat.le_of_ble_eq_true rfl⟩ rfl rfl rfl dX6_agrees_12 ?_
      refine Y_if_ne C (pc := 15) (tgt := 36) dX6_agrees_15 (by decide) (fun c7 => ?_) (fun c7 => ?_)
      · rw [if_neg c7] at h
        exact Y_sub [0, 1, 2] rfl (hJ36 _ h)
      · rw [if_pos c7] at h
        refine Y_aload_n C (pc := 18) 0 0 rfl rfl dX6_agrees_18 ?_
        refine Y_getR C (pc := 19) hk0 q_fi_RX6_24 (by decide) dX6_agrees_19 ?_
        refine Y_iload_n C (pc := 22) 2 2 rfl rfl dX6_agrees_22 ?_
        obtain ⟨v4, hv4, h⟩ := Option.bind_eq_some_iff.mp h
        refine Y_callSN C [.ref (ρ (k0 + 5)), .int s1] [] [.int v4] (c_X8_item (q_kr_6_5 hk0) hv4) (fun _ h => h.elim) q_cw_yX8_item q_mn_RX6_65 q_st_yX8_item ⟨⟨Nat.le_of_ble_eq_true rfl, Nat.le_of_ble_eq_true rfl⟩, ⟨Nat.zero_le _, Nat.zero_le _⟩, Nat.le_of_ble_eq_true rfl⟩ rfl rfl rfl dX6_agrees_23 ?_
        refine Y_aload_n C (pc := 26) 1 1 rfl rfl dX6_agrees_26 ?_
        refine Y_iload_n C (pc := 27) 2 2 rfl rfl dX6_agrees_27 ?_
        obtain ⟨v5, hv5, h⟩ := Option.bind_eq_some_iff.mp h
        refine Y_callSN C [.ref (ρ k1), .int s1] [.int v4] [.int v5, .int v4] (c_X8_item hk1 hv5) (fun _ h => h.elim) q_cw_yX8_item q_mn_RX6_65 q_st_yX8_item ⟨⟨Nat.le_of_ble_eq_true rfl, Nat.le_of_ble_eq_true rfl⟩, ⟨Nat.zero_le _, Nat.zero_le _⟩, Nat.le_of_ble_eq_true rfl⟩ rfl rfl rfl dX6_agrees_28 ?_
        refine Y_icmp_eq C (pc := 31) (tgt := 36) dX6_agrees_31 (by decide) (fun c6 => ?_) (fun c6 => ?_)
        · rw [if_pos c6] at h
          exact Y_sub [0, 1, 2] rfl (hJ36 _ h)
        · rw [if_neg c6] at h
          have h := Option.some.inj h
          exact Y_sub [] rfl (hE0 _ h.symm)
  refine ⟨?_, ?_⟩
  · intro e10 q
    subst q
    simp only [Sum.elim_inl, Sum.elim_inr] at h
    refine Y_iconst C (pc := 34) (v := (0 : Int32)) (by decide) dX6_agrees_34 ?_
    cases h
    exact Y_zret (by decide) C dX6_agrees_35
  · intro e11 q
    subst q
    simp only [Sum.elim_inl, Sum.elim_inr] at h
    refine Y_iconst C (pc := 42) (v := (1 : Int32)) (by decide) dX6_agrees_42 ?_
    cases h
    exact Y_zret (by decide) C dX6_agrees_43

set_option maxRecDepth 100000 in
set_option maxHeartbeats 4000000 in
theorem c_X8_at {l : Launch} {D : va_G} {cA ρ : Nat → Nat} {σ : Sg} {τ : Tg} {k0 : Nat} {i1 : Int32} {i2 : Int32} (hk0 : (kd k0).1 = 1) {r : Int32} (h : f_X8_at σ k0 i1 i2 = some r) : Ct l yX8_at cX8_at 4 (some .int) 0 0 D cA ρ A0 [.ref (ρ k0), .int i1, .int i2] σ τ (some (.int r)) σ τ := by
  refine Ct_of (by decide +kernel) (Nat.le_of_ble_eq_true rfl) (fun p e s m args below meth c C => ?_)
  have C : Ctx p l s m args meth c cX8_at RX8 4 (some .int) D cA ρ A0 := C
  unfold f_X8_at at h
  refine Y_sub [0, 1, 2] (lv' := [(0, .ref (ρ k0)), (1, .int i1), (2, .int i2)]) rfl ?_
  refine Y_iload_n C (pc := 0) 1 1 rfl rfl dX8_at_0 ?_
  refine Y_bipush C (pc := 1) (v := (6 : Int32)) (by decide) dX8_at_1 ?_
  refine Y_imul C (pc := 3) dX8_at_3 ?_
  refine Y_iload_n C (pc := 4) 2 2 rfl rfl dX8_at_4 ?_
  refine Y_iadd C (pc := 5) dX8_at_5 ?_
  refine Y_istore_n C (pc := 6) (lv' := [(3, .int ((i1 * (6 : Int32)) + i2)), (0, .ref (ρ k0)), (1, .int i1), (2, .int i2)]) 3 rfl (by decide) rfl dX8_at_6 ?_
  refine Y_iload_n C (pc := 7) 3 0 rfl rfl dX8_at_7 ?_
  refine Y_if_lt C (pc := 8) (tgt := 23) dX8_at_8 (by decide) (fun c3 => ?_) (fun c3 => ?_)
  · rw [if_pos c3] at h
    refine Y_iconst C (pc := 23) (v := (0 : Int32)) (by decide) dX8_at_23 ?_
    cases h
    exact Y_iret C dX8_at_24
  · rw [if_neg c3] at h
    refine Y_iload_n C (pc := 11) 3 0 rfl rfl dX8_at_11 ?_
    refine Y_aload_n C (pc := 12) 0 1 rfl rfl dX8_at_12 ?_
    refine Y_alen1 C (pc := 13) hk0 dX8_at_13 ?_
    refine Y_icmp_ge C (pc := 14) (tgt := 23) dX8_at_14 (by decide) (fun c2 => ?_) (fun c2 => ?_)
    · rw [if_pos c2] at h
      refine Y_iconst C (pc := 23) (v := (0 : Int32)) (by decide) dX8_at_23 ?_
      cases h
      exact Y_iret C dX8_at_24
    · rw [if_neg c2] at h
      refine Y_aload_n C (pc := 17) 0 1 rfl rfl dX8_at_17 ?_
      refine Y_iload_n C (pc := 18) 3 0 rfl rfl dX8_at_18 ?_
      obtain ⟨v1, hv1, h⟩ := Option.bind_eq_some_iff.mp h
      refine Y_iald C (pc := 19) hk0 hv1 dX8_at_19 ?_
      refine Y_goto C (pc := 20) (tgt := 24) dX8_at_20 (by decide) ?_
      cases h
      exact Y_iret C dX8_at_24

set_option maxRecDepth 100000 in
set_option maxHeartbeats 4000000 in
theorem c_X6_partCost {l : Launch} {D : va_G} {cA ρ : Nat → Nat} {σ : Sg} {τ : Tg} {k0 : Nat} {k1 : Nat} (hk0 : kd k0 = (0, 6)) (hk1 : (kd k1).1 = 1) {r : Int32} (h : f_X6_partCost σ k0 k1 = some r) : Ct l yX6_partCost cX6_partCost 7 (some .int) 1 23 D cA ρ A0 [.ref (ρ k0), .ref (ρ k1)] σ τ (some (.int r)) σ τ := by
  refine Ct_of (by decide +kernel) (Nat.le_of_ble_eq_true rfl) (fun p e s m args below meth c C => ?_)
  have C : Ctx p l s m args meth c cX6_partCost RX6 7 (some .int) D cA ρ A0 := C
  unfold f_X6_partCost at h
  refine Y_sub [0, 1] (lv' := [(0, .ref (ρ k0)), (1, .ref (ρ k1))]) rfl ?_
  refine Y_iconst C (pc := 0) (v := (0 : Int32)) (by decide) dX6_partCost_0 ?_
  refine Y_istore_n C (pc := 1) (lv' := [(2, .int (0 : Int32)), (0, .ref (ρ k0)), (1, .ref (ρ k1))]) 2 rfl (by decide) rfl dX6_partCost_1 ?_
  refine Y_iconst C (pc := 2) (v := (0 : Int32)) (by decide) dX6_partCost_2 ?_
  refine Y_istore_n C (pc := 3) (lv' := [(3, .int (0 : Int32)), (2, .int (0 : Int32)), (0, .ref (ρ k0)), (1, .ref (ρ k1))]) 3 rfl (by decide) rfl dX6_partCost_3 ?_
  obtain ⟨e17, he17, h⟩ := Option.bind_eq_some_iff.mp h
  refine Y_sub [2, 3, 1, 0] (lv' := [(0, .ref (ρ k0)), (1, .ref (ρ k1)), (2, .int (0 : Int32)), (3, .int (0 : Int32))]) rfl ?_
  refine lo_rule (f := (f_X6_partCost_L4 σ k0 k1)) (YS := fun s1 => Y p l e (Rm 1 23) s m args below meth c 7 D cA ρ A0 0 0 (MQ below (QC D cA ρ A0 (some (.int r)) σ τ) args s 0 0 A0) σ τ 4 [(0, .ref (ρ k0)), (1, .ref (ρ k1)), (2, .int s1.1), (3, .int s1.2)] []) (YE := fun e17 => Y p l e (Rm 1 23) s m args below meth c 7 D cA ρ A0 0 0 (MQ below (QC D cA ρ A0 (some (.int r)) σ τ) args s 0 0 A0) σ τ 104 [(2, .int e17)] []) ?_ he17 ?_
  · intro s1 x h hLp hE
    unfold f_X6_partCost_L4 at h
    have hJ98 : ∀ (j13 : Int32) (j14 : Int32), f_X6_partCost_J98 j13 j14 = some x → Y p l e (Rm 1 23) s m args below meth c 7 D cA ρ A0 0 0 (MQ below (QC D cA ρ A0 (some (.int r)) σ τ) args s 0 0 A0) σ τ 98 [(0, .ref (ρ k0)), (1, .ref (ρ k1)), (2, .int j13), (3, .int j14)] [] := by
      intro j13 j14 h
      unfold f_X6_partCost_J98 at h
      refine Y_iinc C (pc := 98) (v := (j14 + 1)) (lv' := [(3, .int (j14 + 1)), (0, .ref (ρ k0)), (1, .ref (ρ k1)), (2, .int j13)]) 3 rfl (congrArg (fun z => j14 + z) (by decide : Int32.ofInt (1) = (1))) (by decide) rfl dX6_partCost_98 ?_
      refine Y_goto C (pc := 101) (tgt := 4) dX6_partCost_101 (by decide) ?_
      have h := Option.some.inj h
      exact Y_sub [1, 2, 3, 0] rfl (hLp _ h.symm)
    refine Y_iload_n C (pc := 4) 3 3 rfl rfl dX6_partCost_4 ?_
    refine Y_aload_n C (pc := 5) 0 0 rfl rfl dX6_partCost_5 ?_
    refine Y_getI C (pc := 6) hk0 q_fi_RX6_31 dX6_partCost_6 ?_
    refine Y_icmp_ge C (pc := 9) (tgt := 104) dX6_partCost_9 (by decide) (fun c16 => ?_) (fun c16 => ?_)
    · rw [if_pos c16] at h
      have h := Option.some.inj h
      exact Y_sub [2] rfl (hE _ h.symm)
    · rw [if_neg c16] at h
      refine Y_aload_n C (pc := 12) 1 1 rfl rfl dX6_partCost_12 ?_
      refine Y_iload_n C (pc := 13) 3 3 rfl rfl dX6_partCost_13 ?_
      obtain ⟨v2, hv2, h⟩ := Option.bind_eq_some_iff.mp h
      refine Y_callSN C [.ref (ρ k1), .int s1.2] [] [.int v2] (c_X8_item hk1 hv2) (fun _ h => h.elim) q_cw_yX8_item q_mn_RX6_65 q_st_yX8_item ⟨⟨Nat.le_of_ble_eq_true rfl, Nat.le_of_ble_eq_true rfl⟩, ⟨Nat.zero_le _, Nat.zero_le _⟩, Nat.le_of_ble_eq_true rfl⟩ rfl rfl rfl dX6_partCost_14 ?_
      refine Y_istore C (pc := 17) (lv' := [(4, .int v2), (0, .ref (ρ k0)), (1, .ref (ρ k1)), (2, .int s1.1), (3, .int s1.2)]) (by decide) rfl dX6_partCost_17 ?_
      refine Y_iload C (pc := 19) 0 rfl dX6_partCost_19 ?_
      refine Y_iconst C (pc := 21) (v := (-1 : Int32)) (by decide) dX6_partCost_21 ?_
      refine Y_icmp_ne C (pc := 22) (tgt := 28) dX6_partCost_22 (by decide) (fun c15 => ?_) (fun c15 => ?_)
      · rw [if_neg c15] at h
        refine Y_iload_n C (pc := 28) 2 3 rfl rfl dX6_partCost_28 ?_
        refine Y_aload_n C (pc := 29) 0 1 rfl rfl dX6_partCost_29 ?_
        refine Y_getR C (pc := 30) hk0 q_fi_RX6_18 (by decide) dX6_partCost_30 ?_
        refine Y_iload_n C (pc := 33) 3 4 rfl rfl dX6_partCost_33 ?_
        refine Y_iload C (pc := 34) 0 rfl dX6_partCost_34 ?_
        obtain ⟨v3, hv3, h⟩ := Option.bind_eq_some_iff.mp h
        refine Y_callSN C [.ref (ρ (k0 + 3)), .int s1.2, .int v2] [.int s1.1] [.int v3, .int s1.1] (c_X8_at (q_kr_6_3 hk0) hv3) (fun _ h => h.elim) q_cw_yX8_at q_mn_RX6_57 q_st_yX8_at ⟨⟨Nat.le_of_ble_eq_true rfl, Nat.le_of_ble_eq_true rfl⟩, ⟨Nat.zero_le _, Nat.zero_le _⟩, Nat.le_of_ble_eq_true rfl⟩ rfl rfl rfl dX6_partCost_36 ?_
        refine Y_iadd C (pc := 39) dX6_partCost_39 ?_
        refine Y_istore_n C (pc := 40) (lv' := [(2, .int (s1.1 + v3)), (4, .int v2), (0, .ref (ρ k0)), (1, .ref (ρ k1)), (3, .int s1.2)]) 2 rfl (by decide) rfl dX6_partCost_40 ?_
        refine Y_iconst C (pc := 41) (v := (0 : Int32)) (by decide) dX6_partCost_41 ?_
        refine Y_istore C (pc := 42) (lv' := [(5, .int (0 : Int32)), (2, .int (s1.1 + v3)), (4, .int v2), (0, .ref (ρ k0)), (1, .ref (ρ k1)), (3, .int s1.2)]) (by decide) rfl dX6_partCost_42 ?_
        obtain ⟨e12, he12, h⟩ := Option.bind_eq_some_iff.mp h
        refine Y_sub [3, 4, 1, 5, 2, 0] (lv' := [(0, .ref (ρ k0)), (1, .ref (ρ k1)), (2, .int (s1.1 + v3)), (3, .int s1.2), (4, .int v2), (5, .int (0 : Int32))]) rfl ?_
        refine lo_rule (f := (f_X6_partCost_L44 σ k0 k1 s1 v2)) (YS := fun s4 => Y p l e (Rm 1 23) s m args below meth c 7 D cA ρ A0 0 0 (MQ below (QC D cA ρ A0 (some (.int r)) σ τ) args s 0 0 A0) σ τ 44 [(0, .ref (ρ k0)), (1, .ref (ρ k1)), (2, .int s4.1), (3, .int s1.2), (4, .int v2), (5, .int s4.2)] []) (YE := fun e12 => Y p l e (Rm 1 23) s m args below meth c 7 D cA ρ A0 0 0 (MQ below (QC D cA ρ A0 (some (.int r)) σ τ) args s 0 0 A0) σ τ 98 [(0, .ref (ρ k0)), (1, .ref (ρ k1)), (2, .int e12), (3, .int s1.2)] []) ?_ he12 ?_
        · intro s4 x h hLp hE
          unfold f_X6_partCost_L44 at h
          have hJ92 : ∀ (j6 : Int32) (j7 : Int32), f_X6_partCost_J92 j6 j7 = some x → Y p l e (Rm 1 23) s m args below meth c 7 D cA ρ A0 0 0 (MQ below (QC D cA ρ A0 (some (.int r)) σ τ) args s 0 0 A0) σ τ 92 [(0, .ref (ρ k0)), (1, .ref (ρ k1)), (2, .int j6), (3, .int s1.2), (4, .int v2), (5, .int j7)] [] := by
            intro j6 j7 h
            unfold f_X6_partCost_J92 at h
            refine Y_iinc C (pc := 92) (v := (j7 + 1)) (lv' := [(5, .int (j7 + 1)), (0, .ref (ρ k0)), (1, .ref (ρ k1)), (2, .int j6), (3, .int s1.2), (4, .int v2)]) 5 rfl (congrArg (fun z => j7 + z) (by decide : Int32.ofInt (1) = (1))) (by decide) rfl dX6_partCost_92 ?_
            refine Y_goto C (pc := 95) (tgt := 44) dX6_partCost_95 (by decide) ?_
            have h := Option.some.inj h
            exact Y_sub [1, 2, 3, 4, 5, 0] rfl (hLp _ h.symm)
          refine Y_iload C (pc := 44) 5 rfl dX6_partCost_44 ?_
          refine Y_aload_n C (pc := 46) 0 0 rfl rfl dX6_partCost_46 ?_
          refine Y_getI C (pc := 47) hk0 q_fi_RX6_31 dX6_partCost_47 ?_
          refine Y_icmp_ge C (pc := 50) (tgt := 98) dX6_partCost_50 (by decide) (fun c11 => ?_) (fun c11 => ?_)
          · rw [if_pos c11] at h
            have h := Option.some.inj h
            exact Y_sub [0, 1, 2, 3] rfl (hE _ h.symm)
          · rw [if_neg c11] at h
            refine Y_aload_n C (pc := 53) 1 1 rfl rfl dX6_partCost_53 ?_
            refine Y_iload C (pc := 54) 5 rfl dX6_partCost_54 ?_
            obtain ⟨v5, hv5, h⟩ := Option.bind_eq_some_iff.mp h
            refine Y_callSN C [.ref (ρ k1), .int s4.2] [] [.int v5] (c_X8_item hk1 hv5) (fun _ h => h.elim) q_cw_yX8_item q_mn_RX6_65 q_st_yX8_item ⟨⟨Nat.le_of_ble_eq_true rfl, Nat.le_of_ble_eq_true rfl⟩, ⟨Nat.zero_le _, Nat.zero_le _⟩, Nat.le_of_ble_eq_true rfl⟩ rfl rfl rfl dX6_partCost_56 ?_
            refine Y_istore C (pc := 59) (lv' := [(6, .int v5), (0, .ref (ρ k0)), (1, .ref (ρ k1)), (2, .int s4.1), (3, .int s1.2), (4, .int v2), (5, .int s4.2)]) (by decide) rfl dX6_partCost_59 ?_
            refine Y_iload C (pc := 61) 0 rfl dX6_partCost_61 ?_
            refine Y_iconst C (pc := 63) (v := (-1 : Int32)) (by decide) dX6_partCost_63 ?_
            refine Y_icmp_eq C (pc := 64) (tgt := 92) dX6_partCost_64 (by decide) (fun c10 => ?_) (fun c10 => ?_)
            · rw [if_pos c10] at h
              exact Y_sub [1, 2, 3, 4, 5, 6] rfl (hJ92 _ _ h)
            · rw [if_neg c10] at h
              refine Y_iload_n C (pc := 67) 2 3 rfl rfl dX6_partCost_67 ?_
              refine Y_aload_n C (pc := 68) 0 1 rfl rfl dX6_partCost_68 ?_
              refine Y_getR C (pc := 69) hk0 q_fi_RX6_9 (by decide) dX6_partCost_69 ?_
              refine Y_iload_n C (pc := 72) 3 4 rfl rfl dX6_partCost_72 ?_
              refine Y_iload C (pc := 73) 6 rfl dX6_partCost_73 ?_
              obtain ⟨v8, hv8, h⟩ := Option.bind_eq_some_iff.mp h
              refine Y_callSN C [.ref (ρ (k0 + 1)), .int s1.2, .int s4.2] [.int s4.1] [.int v8, .int s4.1] (c_X8_at (q_kr_6_1 hk0) hv8) (fun _ h => h.elim) q_cw_yX8_at q_mn_RX6_57 q_st_yX8_at ⟨⟨Nat.le_of_ble_eq_true rfl, Nat.le_of_ble_eq_true rfl⟩, ⟨Nat.zero_le _, Nat.zero_le _⟩, Nat.le_of_ble_eq_true rfl⟩ rfl rfl rfl dX6_partCost_75 ?_
              refine Y_aload_n C (pc := 78) 0 1 rfl rfl dX6_partCost_78 ?_
              refine Y_getR C (pc := 79) hk0 q_fi_RX6_15 (by decide) dX6_partCost_79 ?_
              refine Y_iload C (pc := 82) 5 rfl dX6_partCost_82 ?_
              refine Y_iload C (pc := 84) 0 rfl dX6_partCost_84 ?_
              obtain ⟨v9, hv9, h⟩ := Option.bind_eq_some_iff.mp h
              refine Y_callSN C [.ref (ρ (k0 + 2)), .int v2, .int v5] [.int v8, .int s4.1] [.int v9, .int v8, .int s4.1] (c_X8_at (q_kr_6_2 hk0) hv9) (fun _ h => h.elim) q_cw_yX8_at q_mn_RX6_57 q_st_yX8_at ⟨⟨Nat.le_of_ble_eq_true rfl, Nat.le_of_ble_eq_true rfl⟩, ⟨Nat.zero_le _, Nat.zero_le _⟩, Nat.le_of_ble_eq_true rfl⟩ rfl rfl rfl dX6_partCost_86 ?_
              refine Y_imul C (pc := 89) dX6_partCost_89 ?_
              refine Y_iadd C (pc := 90) dX6_partCost_90 ?_
              refine Y_istore_n C (pc := 91) (lv' := [(2, .int (s4.1 + (v8 * v9))), (6, .int v5), (0, .ref (ρ k0)), (1, .ref (ρ k1)), (3, .int s1.2), (4, .int v2), (5, .int s4.2)]) 2 rfl (by decide) rfl dX6_partCost_91 ?_
              exact Y_sub [2, 3, 0, 4, 5, 6] rfl (hJ92 _ _ h)
        · exact Y_sub [0, 1, 2, 3] rfl (hJ98 _ _ h)
      · rw [if_pos c15] at h
        refine Y_goto C (pc := 25) (tgt := 98) dX6_partCost_25 (by decide) ?_
        exact Y_sub [1, 2, 3, 4] rfl (hJ98 _ _ h)
  · refine Y_iload_n C (pc := 104) 2 0 rfl rfl dX6_partCost_104 ?_
    cases h
    exact Y_iret C dX6_partCost_105

set_option maxRecDepth 100000 in
set_option maxHeartbeats 4000000 in
theorem c_X6_costOf {l : Launch} {D : va_G} {cA ρ : Nat → Nat} {σ : Sg} {τ : Tg} {k0 : Nat} {k1 : Nat} (hk0 : kd k0 = (0, 6)) (hk1 : (kd k1).1 = 1) {r : Int32} (h : f_X6_costOf σ k0 k1 = some r) : Ct l yX6_costOf cX6_costOf 2 (some .int) 2 49 D cA ρ A0 [.ref (ρ k0), .ref (ρ k1)] σ τ (some (.int r)) σ τ := by
  refine Ct_of (by decide +kernel) (Nat.le_of_ble_eq_true rfl) (fun p e s m args below meth c C => ?_)
  have C : Ctx p l s m args meth c cX6_costOf RX6 2 (some .int) D cA ρ A0 := C
  unfold f_X6_costOf at h
  refine Y_sub [0, 1] (lv' := [(0, .ref (ρ k0)), (1, .ref (ρ k1))]) rfl ?_
  refine Y_aload_n C (pc := 0) 0 0 rfl rfl dX6_costOf_0 ?_
  refine Y_aload_n C (pc := 1) 1 1 rfl rfl dX6_costOf_1 ?_
  obtain ⟨v1, hv1, h⟩ := Option.bind_eq_some_iff.mp h
  refine Y_callV C [.ref (ρ k1)] [] [.int v1] hk0 rfl rfl (c_X6_partCost hk0 hk1 hv1) (fun _ h => h.elim) q_cw_yX6_partCost q_ml_RX6_61 ⟨q_im_yX6_partCost, q_se_yX6_partCost⟩ ⟨⟨Nat.le_of_ble_eq_true rfl, Nat.le_of_ble_eq_true rfl⟩, ⟨Nat.zero_le _, Nat.zero_le _⟩, Nat.le_of_ble_eq_true rfl⟩ rfl rfl rfl dX6_costOf_2 ?_
  cases h
  exact Y_iret C dX6_costOf_5

set_option maxRecDepth 100000 in
set_option maxHeartbeats 4000000 in
theorem c_X8_setItem {l : Launch} {D : va_G} {cA ρ : Nat → Nat} {σ : Sg} {τ : Tg} {k0 : Nat} {i1 : Int32} {i2 : Int32} (hI : Inj ρ) (hk0 : (kd k0).1 = 1) (hn0 : k0 < 97) {r : Sg} (h : f_X8_setItem σ k0 i1 i2 = some r) : Ct l yX8_setItem cX8_setItem 3 none 0 0 D cA ρ (Aw ρ) [.ref (ρ k0), .int i1, .int i2] σ τ none r τ := by
  refine Ct_of (by decide +kernel) (Nat.le_of_ble_eq_true rfl) (fun p e s m args below meth c C => ?_)
  have C : Ctx p l s m args meth c cX8_setItem RX8 3 none D cA ρ (Aw ρ) := C
  have hW : Wr ρ (Aw ρ) := ⟨hI, fun k hk => ⟨k, hk, rfl⟩⟩
  unfold f_X8_setItem at h
  refine Y_sub [0, 1, 2] (lv' := [(0, .ref (ρ k0)), (1, .int i1), (2, .int i2)]) rfl ?_
  refine Y_iload_n C (pc := 0) 1 1 rfl rfl dX8_setItem_0 ?_
  refine Y_if_lt C (pc := 1) (tgt := 14) dX8_setItem_1 (by decide) (fun c3 => ?_) (fun c3 => ?_)
  · rw [if_pos c3] at h
    cases h
    exact Y_vret C dX8_setItem_14
  · rw [if_neg c3] at h
    refine Y_iload_n C (pc := 4) 1 1 rfl rfl dX8_setItem_4 ?_
    refine Y_aload_n C (pc := 5) 0 0 rfl rfl dX8_setItem_5 ?_
    refine Y_alen1 C (pc := 6) hk0 dX8_setItem_6 ?_
    refine Y_icmp_ge C (pc := 7) (tgt := 14) dX8_setItem_7 (by decide) (fun c2 => ?_) (fun c2 => ?_)
    · rw [if_pos c2] at h
      cases h
      exact Y_vret C dX8_setItem_14
    · rw [if_neg c2] at h
      refine Y_aload_n C (pc := 10) 0 0 rfl rfl dX8_setItem_10 ?_
      refine Y_iload_n C (pc := 11) 1 1 rfl rfl dX8_setItem_11 ?_
      refine Y_iload_n C (pc := 12) 2 2 rfl rfl dX8_setItem_12 ?_
      obtain ⟨s1, hs1, h⟩ := Option.bind_eq_some_iff.mp h
      refine Y_iast C (pc := 13) hW hk0 hn0 hs1 dX8_setItem_13 ?_
      cases h
      exact Y_vret C dX8_setItem_14

set_option maxRecDepth 100000 in
set_option maxHeartbeats 4000000 in
theorem c_X8_swap {l : Launch} {D : va_G} {cA ρ : Nat → Nat} {σ : Sg} {τ : Tg} {k0 : Nat} {i1 : Int32} {i2 : Int32} (hI : Inj ρ) (hk0 : (kd k0).1 = 1) (hn0 : k0 < 97) {r : Sg} (h : f_X8_swap σ k0 i1 i2 = some r) : Ct l yX8_swap cX8_swap 4 none 1 22 D cA ρ (Aw ρ) [.ref (ρ k0), .int i1, .int i2] σ τ none r τ := by
  refine Ct_of (by decide +kernel) (Nat.le_of_ble_eq_true rfl) (fun p e s m args below meth c C => ?_)
  have C : Ctx p l s m args meth c cX8_swap RX8 4 none D cA ρ (Aw ρ) := C
  have hW : Wr ρ (Aw ρ) := ⟨hI, fun k hk => ⟨k, hk, rfl⟩⟩
  unfold f_X8_swap at h
  refine Y_sub [0, 1, 2] (lv' := [(0, .ref (ρ k0)), (1, .int i1), (2, .int i2)]) rfl ?_
  refine Y_aload_n C (pc := 0) 0 0 rfl rfl dX8_swap_0 ?_
  refine Y_iload_n C (pc := 1) 1 1 rfl rfl dX8_swap_1 ?_
  obtain ⟨v1, hv1, h⟩ := Option.bind_eq_some_iff.mp h
  refine Y_callS C [.ref (ρ k0), .int i1] [] [.int v1] (c_X8_item hk0 hv1) (fun _ h => h.elim) q_cw_yX8_item q_ml_RX8_119 q_st_yX8_item ⟨⟨Nat.le_of_ble_eq_true rfl, Nat.le_of_ble_eq_true rfl⟩, ⟨Nat.zero_le _, Nat.zero_le _⟩, Nat.le_of_ble_eq_true rfl⟩ rfl rfl rfl dX8_swap_2 ?_
  refine Y_istore_n C (pc := 5) (lv' := [(3, .int v1), (0, .ref (ρ k0)), (1, .int i1), (2, .int i2)]) 3 rfl (by decide) rfl dX8_swap_5 ?_
  refine Y_aload_n C (pc := 6) 0 1 rfl rfl dX8_swap_6 ?_
  refine Y_iload_n C (pc := 7) 1 2 rfl rfl dX8_swap_7 ?_
  refine Y_aload_n C (pc := 8) 0 1 rfl rfl dX8_swap_8 ?_
  refine Y_iload_n C (pc := 9) 2 3 rfl rfl dX8_swap_9 ?_
  obtain ⟨v2, hv2, h⟩ := Option.bind_eq_some_iff.mp h
  refine Y_callS C [.ref (ρ k0), .int i2] [.int i1, .ref (ρ k0)] [.int v2, .int i1, .ref (ρ k0)] (c_X8_item hk0 hv2) (fun _ h => h.elim) q_cw_yX8_item q_ml_RX8_119 q_st_yX8_item ⟨⟨Nat.le_of_ble_eq_true rfl, Nat.le_of_ble_eq_true rfl⟩, ⟨Nat.zero_le _, Nat.zero_le _⟩, Nat.le_of_ble_eq_true rfl⟩ rfl rfl rfl dX8_swap_10 ?_
  obtain ⟨v3, hv3, h⟩ := Option.bind_eq_some_iff.mp h
  refine Y_callS C [.ref (ρ k0), .int i1, .int v2] [] [] (c_X8_setItem hI hk0 hn0 hv3) (fun _ h => h) q_cw_yX8_setItem q_ml_RX8_187 q_st_yX8_setItem ⟨⟨Nat.le_of_ble_eq_true rfl, Nat.le_of_ble_eq_true rfl⟩, ⟨Nat.zero_le _, Nat.zero_le _⟩, Nat.le_of_ble_eq_true rfl⟩ rfl rfl rfl dX8_swap_13 ?_
  refine Y_aload_n C (pc := 16) 0 1 rfl rfl dX8_swap_16 ?_
  refine Y_iload_n C (pc := 17) 2 3 rfl rfl dX8_swap_17 ?_
  refine Y_iload_n C (pc := 18) 3 0 rfl rfl dX8_swap_18 ?_
  obtain ⟨v4, hv4, h⟩ := Option.bind_eq_some_iff.mp h
  refine Y_callS C [.ref (ρ k0), .int i2, .int v1] [] [] (c_X8_setItem hI hk0 hn0 hv4) (fun _ h => h) q_cw_yX8_setItem q_ml_RX8_187 q_st_yX8_setItem ⟨⟨Nat.le_of_ble_eq_true rfl, Nat.le_of_ble_eq_true rfl⟩, ⟨Nat.zero_le _, Nat.zero_le _⟩, Nat.le_of_ble_eq_true rfl⟩ rfl rfl rfl dX8_swap_19 ?_
  cases h
  exact Y_vret C dX8_swap_22

set_option maxRecDepth 100000 in
set_option maxHeartbeats 4000000 in
theorem c_X8_advance {l : Launch} {D : va_G} {cA ρ : Nat → Nat} {σ : Sg} {τ : Tg} {k0 : Nat} {i1 : Int32} (hI : Inj ρ) (hk0 : (kd k0).1 = 1) (hn0 : k0 < 97) {r : Sg} (h : f_X8_advance σ k0 i1 = some r) : Ct l yX8_advance cX8_advance 6 none 2 45 D cA ρ (Aw ρ) [.ref (ρ k0), .int i1] σ τ none r τ := by
  refine Ct_of (by decide +kernel) (Nat.le_of_ble_eq_true rfl) (fun p e s m args below meth c C => ?_)
  have C : Ctx p l s m args meth c cX8_advance RX8 6 none D cA ρ (Aw ρ) := C
  have hW : Wr ρ (Aw ρ) := ⟨hI, fun k hk => ⟨k, hk, rfl⟩⟩
  unfold f_X8_advance at h
  refine Y_sub [0, 1] (lv' := [(0, .ref (ρ k0)), (1, .int i1)]) rfl ?_
  refine Y_iload_n C (pc := 0) 1 1 rfl rfl dX8_advance_0 ?_
  refine Y_iconst C (pc := 1) (v := (2 : Int32)) (by decide) dX8_advance_1 ?_
  refine Y_isub C (pc := 2) dX8_advance_2 ?_
  refine Y_istore_n C (pc := 3) (lv' := [(2, .int (i1 - (2 : Int32))), (0, .ref (ρ k0)), (1, .int i1)]) 2 rfl (by decide) rfl dX8_advance_3 ?_
  obtain ⟨e6, he6, h⟩ := Option.bind_eq_some_iff.mp h
  refine Y_sub [1, 2, 0] (lv' := [(0, .ref (ρ k0)), (1, .int i1), (2, .int (i1 - (2 : Int32)))]) rfl ?_
  refine lo_rule (f := (f_X8_advance_L4 σ k0)) (YS := fun s1 => Y p l e (Rm 2 45) s m args below meth c 6 D cA ρ (Aw ρ) 0 0 (MQ below (QC D cA ρ (Aw ρ) none r τ) args s 0 0 (Aw ρ)) σ τ 4 [(0, .ref (ρ k0)), (1, .int i1), (2, .int s1)] []) (YE := fun e6 => Y p l e (Rm 2 45) s m args below meth c 6 D cA ρ (Aw ρ) 0 0 (MQ below (QC D cA ρ (Aw ρ) none r τ) args s 0 0 (Aw ρ)) σ τ 29 [(0, .ref (ρ k0)), (1, .int i1), (2, .int e6)] []) ?_ he6 ?_
  · intro s1 x h hLp hE
    unfold f_X8_advance_L4 at h
    refine Y_iload_n C (pc := 4) 2 2 rfl rfl dX8_advance_4 ?_
    refine Y_if_lt C (pc := 5) (tgt := 29) dX8_advance_5 (by decide) (fun c5 => ?_) (fun c5 => ?_)
    · rw [if_pos c5] at h
      have h := Option.some.inj h
      exact Y_sub [0, 1, 2] rfl (hE _ h.symm)
    · rw [if_neg c5] at h
      refine Y_aload_n C (pc := 8) 0 0 rfl rfl dX8_advance_8 ?_
      refine Y_iload_n C (pc := 9) 2 2 rfl rfl dX8_advance_9 ?_
      obtain ⟨v2, hv2, h⟩ := Option.bind_eq_some_iff.mp h
      refine Y_callS C [.ref (ρ k0), .int s1] [] [.int v2] (c_X8_item hk0 hv2) (fun _ h => h.elim) q_cw_yX8_item q_ml_RX8_119 q_st_yX8_item ⟨⟨Nat.le_of_ble_eq_true rfl, Nat.le_of_ble_eq_true rfl⟩, ⟨Nat.zero_le _, Nat.zero_le _⟩, Nat.le_of_ble_eq_true rfl⟩ rfl rfl rfl dX8_advance_10 ?_
      refine Y_aload_n C (pc := 13) 0 0 rfl rfl dX8_advance_13 ?_
      refine Y_iload_n C (pc := 14) 2 2 rfl rfl dX8_advance_14 ?_
      refine Y_iconst C (pc := 15) (v := (1 : Int32)) (by decide) dX8_advance_15 ?_
      refine Y_iadd C (pc := 16) dX8_advance_16 ?_
      obtain ⟨v3, hv3, h⟩ := Option.bind_eq_some_iff.mp h
      refine Y_callS C [.ref (ρ k0), .int (s1 + (1 : Int32))] [.int v2] [.int v3, .int v2] (c_X8_item hk0 hv3) (fun _ h => h.elim) q_cw_yX8_item q_ml_RX8_119 q_st_yX8_item ⟨⟨Nat.le_of_ble_eq_true rfl, Nat.le_of_ble_eq_true rfl⟩, ⟨Nat.zero_le _, Nat.zero_le _⟩, Nat.le_of_ble_eq_true rfl⟩ rfl rfl rfl dX8_advance_17 ?_
      refine Y_icmp_le C (pc := 20) (tgt := 29) dX8_advance_20 (by decide) (fun c4 => ?_) (fun c4 => ?_)
      · rw [if_pos c4] at h
        have h := Option.some.inj h
        exact Y_sub [0, 1, 2] rfl (hE _ h.symm)
      · rw [if_neg c4] at h
        refine Y_iinc C (pc := 23) (v := (s1 + (-1))) (lv' := [(2, .int (s1 + (-1))), (0, .ref (ρ k0)), (1, .int i1)]) 2 rfl (congrArg (fun z => s1 + z) (by decide : Int32.ofInt (-1) = (-1))) (by decide) rfl dX8_advance_23 ?_
        refine Y_goto C (pc := 26) (tgt := 4) dX8_advance_26 (by decide) ?_
        have h := Option.some.inj h
        exact Y_sub [1, 2, 0] rfl (hLp _ h.symm)
  · refine Y_iload_n C (pc := 29) 2 2 rfl rfl dX8_advance_29 ?_
    refine Y_if_ge C (pc := 30) (tgt := 34) dX8_advance_30 (by decide) (fun c18 => ?_) (fun c18 => ?_)
    · rw [if_pos c18] at h
      refine Y_iload_n C (pc := 34) 1 1 rfl rfl dX8_advance_34 ?_
      refine Y_iconst C (pc := 35) (v := (1 : Int32)) (by decide) dX8_advance_35 ?_
      refine Y_isub C (pc := 36) dX8_advance_36 ?_
      refine Y_istore_n C (pc := 37) (lv' := [(3, .int (i1 - (1 : Int32))), (0, .ref (ρ k0)), (1, .int i1), (2, .int e6)]) 3 rfl (by decide) rfl dX8_advance_37 ?_
      obtain ⟨e12, he12, h⟩ := Option.bind_eq_some_iff.mp h
      refine Y_sub [1, 2, 3, 0] (lv' := [(0, .ref (ρ k0)), (1, .int i1), (2, .int e6), (3, .int (i1 - (1 : Int32)))]) rfl ?_
      refine lo_rule (f := (f_X8_advance_L38 e6 σ k0)) (YS := fun s7 => Y p l e (Rm 2 45) s m args below meth c 6 D cA ρ (Aw ρ) 0 0 (MQ below (QC D cA ρ (Aw ρ) none r τ) args s 0 0 (Aw ρ)) σ τ 38 [(0, .ref (ρ k0)), (1, .int i1), (2, .int e6), (3, .int s7)] []) (YE := fun e12 => Y p l e (Rm 2 45) s m args below meth c 6 D cA ρ (Aw ρ) 0 0 (MQ below (QC D cA ρ (Aw ρ) none r τ) args s 0 0 (Aw ρ)) σ τ 62 [(0, .ref (ρ k0)), (1, .int i1), (2, .int e6), (3, .int e12)] []) ?_ he12 ?_
      · intro s7 x h hLp hE
        unfold f_X8_advance_L38 at h
        refine Y_iload_n C (pc := 38) 3 3 rfl rfl dX8_advance_38 ?_
        refine Y_iload_n C (pc := 39) 2 2 rfl rfl dX8_advance_39 ?_
        refine Y_icmp_le C (pc := 40) (tgt := 62) dX8_advance_40 (by decide) (fun c11 => ?_) (fun c11 => ?_)
        · rw [if_pos c11] at h
          have h := Option.some.inj h
          exact Y_sub [0, 1, 2, 3] rfl (hE _ h.symm)
        · rw [if_neg c11] at h
          refine Y_aload_n C (pc := 43) 0 0 rfl rfl dX8_advance_43 ?_
          refine Y_iload_n C (pc := 44) 3 3 rfl rfl dX8_advance_44 ?_
          obtain ⟨v8, hv8, h⟩ := Option.bind_eq_some_iff.mp h
          refine Y_callS C [.ref (ρ k0), .int s7] [] [.int v8] (c_X8_item hk0 hv8) (fun _ h => h.elim) q_cw_yX8_item q_ml_RX8_119 q_st_yX8_item ⟨⟨Nat.le_of_ble_eq_true rfl, Nat.le_of_ble_eq_true rfl⟩, ⟨Nat.zero_le _, Nat.zero_le _⟩, Nat.le_of_ble_eq_true rfl⟩ rfl rfl rfl dX8_advance_45 ?_
          refine Y_aload_n C (pc := 48) 0 0 rfl rfl dX8_advance_48 ?_
          refine Y_iload_n C (pc := 49) 2 2 rfl rfl dX8_advance_49 ?_
          obtain ⟨v9, hv9, h⟩ := Option.bind_eq_some_iff.mp h
          refine Y_callS C [.ref (ρ k0), .int e6] [.int v8] [.int v9, .int v8] (c_X8_item hk0 hv9) (fun _ h => h.elim) q_cw_yX8_item q_ml_RX8_119 q_st_yX8_item ⟨⟨Nat.le_of_ble_eq_true rfl, Nat.le_of_ble_eq_true rfl⟩, ⟨Nat.zero_le _, Nat.zero_le _⟩, Nat.le_of_ble_eq_true rfl⟩ rfl rfl rfl dX8_advance_50 ?_
          refine Y_icmp_ge C (pc := 53) (tgt := 62) dX8_advance_53 (by decide) (fun c10 => ?_) (fun c10 => ?_)
          · rw [if_pos c10] at h
            have h := Option.some.inj h
            exact Y_sub [0, 1, 2, 3] rfl (hE _ h.symm)
          · rw [if_neg c10] at h
            refine Y_iinc C (pc := 56) (v := (s7 + (-1))) (lv' := [(3, .int (s7 + (-1))), (0, .ref (ρ k0)), (1, .int i1), (2, .int e6)]) 3 rfl (congrArg (fun z => s7 + z) (by decide : Int32.ofInt (-1) = (-1))) (by decide) rfl dX8_advance_56 ?_
            refine Y_goto C (pc := 59) (tgt := 38) dX8_advance_59 (by decide) ?_
            have h := Option.some.inj h
            exact Y_sub [1, 2, 3, 0] rfl (hLp _ h.symm)
      · refine Y_aload_n C (pc := 62) 0 0 rfl rfl dX8_advance_62 ?_
        refine Y_iload_n C (pc := 63) 2 2 rfl rfl dX8_advance_63 ?_
        refine Y_iload_n C (pc := 64) 3 3 rfl rfl dX8_advance_64 ?_
        obtain ⟨v13, hv13, h⟩ := Option.bind_eq_some_iff.mp h
        refine Y_callS C [.ref (ρ k0), .int e6, .int e12] [] [] (c_X8_swap hI hk0 hn0 hv13) (fun _ h => h) q_cw_yX8_swap q_ml_RX8_145 q_st_yX8_swap ⟨⟨Nat.le_of_ble_eq_true rfl, Nat.le_of_ble_eq_true rfl⟩, ⟨Nat.zero_le _, Nat.zero_le _⟩, Nat.le_of_ble_eq_true rfl⟩ rfl rfl rfl dX8_advance_65 ?_
        refine Y_iload_n C (pc := 68) 2 2 rfl rfl dX8_advance_68 ?_
        refine Y_iconst C (pc := 69) (v := (1 : Int32)) (by decide) dX8_advance_69 ?_
        refine Y_iadd C (pc := 70) dX8_advance_70 ?_
        refine Y_istore C (pc := 71) (lv' := [(4, .int (e6 + (1 : Int32))), (0, .ref (ρ k0)), (1, .int i1), (2, .int e6), (3, .int e12)]) (by decide) rfl dX8_advance_71 ?_
        refine Y_iload_n C (pc := 73) 1 2 rfl rfl dX8_advance_73 ?_
        refine Y_iconst C (pc := 74) (v := (1 : Int32)) (by decide) dX8_advance_74 ?_
        refine Y_isub C (pc := 75) dX8_advance_75 ?_
        refine Y_istore C (pc := 76) (lv' := [(5, .int (i1 - (1 : Int32))), (4, .int (e6 + (1 : Int32))), (0, .ref (ρ k0)), (1, .int i1), (2, .int e6), (3, .int e12)]) (by decide) rfl dX8_advance_76 ?_
        obtain ⟨e17, he17, h⟩ := Option.bind_eq_some_iff.mp h
        refine Y_sub [2, 1, 0] (lv' := [(0, .ref (ρ k0)), (4, .int (e6 + (1 : Int32))), (5, .int (i1 - (1 : Int32)))]) rfl ?_
        refine lo_rule (f := (f_X8_advance_L78 k0)) (YS := fun s14 => Y p l e (Rm 2 45) s m args below meth c 6 D cA ρ (Aw ρ) 0 0 (MQ below (QC D cA ρ (Aw ρ) none r τ) args s 0 0 (Aw ρ)) s14.2.2 τ 78 [(0, .ref (ρ k0)), (4, .int s14.1), (5, .int s14.2.1)] []) (YE := fun e17 => Y p l e (Rm 2 45) s m args below meth c 6 D cA ρ (Aw ρ) 0 0 (MQ below (QC D cA ρ (Aw ρ) none r τ) args s 0 0 (Aw ρ)) e17 τ 102 [] []) ?_ he17 ?_
        · intro s14 x h hLp hE
          unfold f_X8_advance_L78 at h
          refine Y_iload C (pc := 78) 1 rfl dX8_advance_78 ?_
          refine Y_iload C (pc := 80) 2 rfl dX8_advance_80 ?_
          refine Y_icmp_ge C (pc := 82) (tgt := 102) dX8_advance_82 (by decide) (fun c16 => ?_) (fun c16 => ?_)
          · rw [if_pos c16] at h
            have h := Option.some.inj h
            exact Y_sub [] rfl (hE _ h.symm)
          · rw [if_neg c16] at h
            refine Y_aload_n C (pc := 85) 0 0 rfl rfl dX8_advance_85 ?_
            refine Y_iload C (pc := 86) 1 rfl dX8_advance_86 ?_
            refine Y_iload C (pc := 88) 2 rfl dX8_advance_88 ?_
            obtain ⟨v15, hv15, h⟩ := Option.bind_eq_some_iff.mp h
            refine Y_callS C [.ref (ρ k0), .int s14.1, .int s14.2.1] [] [] (c_X8_swap hI hk0 hn0 hv15) (fun _ h => h) q_cw_yX8_swap q_ml_RX8_145 q_st_yX8_swap ⟨⟨Nat.le_of_ble_eq_true rfl, Nat.le_of_ble_eq_true rfl⟩, ⟨Nat.zero_le _, Nat.zero_le _⟩, Nat.le_of_ble_eq_true rfl⟩ rfl rfl rfl dX8_advance_90 ?_
            refine Y_iinc C (pc := 93) (v := (s14.1 + 1)) (lv' := [(4, .int (s14.1 + 1)), (0, .ref (ρ k0)), (5, .int s14.2.1)]) 1 rfl (congrArg (fun z => s14.1 + z) (by decide : Int32.ofInt (1) = (1))) (by decide) rfl dX8_advance_93 ?_
            refine Y_iinc C (pc := 96) (v := (s14.2.1 + (-1))) (lv' := [(5, .int (s14.2.1 + (-1))), (4, .int (s14.1 + 1)), (0, .ref (ρ k0))]) 2 rfl (congrArg (fun z => s14.2.1 + z) (by decide : Int32.ofInt (-1) = (-1))) (by decide) rfl dX8_advance_96 ?_
            refine Y_goto C (pc := 99) (tgt := 78) dX8_advance_99 (by decide) ?_
            have h := Option.some.inj h
            exact Y_sub [2, 1, 0] rfl (hLp _ h.symm)
        · cases h
          exact Y_vret C dX8_advance_102
    · rw [if_neg c18] at h
      cases h
      exact Y_vret C dX8_advance_33

set_option maxRecDepth 100000 in
set_option maxHeartbeats 4000000 in
theorem c_X0_load {l : Launch} {D : va_G} {cA ρ : Nat → Nat} {σ : Sg} {τ : Tg} {k0 : Nat} {k1 : Nat} (hI : Inj ρ) (hk0 : kd k0 = (0, 0)) (hk1 : kd k1 = (0, 6)) {r : Sg} (h : f_X0_load σ k0 k1 = some r) : Ct l yX0_load cX0_load 4 none 3 70 D cA ρ (Aw ρ) [.ref (ρ k0), .ref (ρ k1)] σ τ none r τ := by
  refine Ct_of (by decide +kernel) (Nat.le_of_ble_eq_true rfl) (fun p e s m args below meth c C => ?_)
  have C : Ctx p l s m args meth c cX0_load RX0 4 none D cA ρ (Aw ρ) := C
  have hW : Wr ρ (Aw ρ) := ⟨hI, fun k hk => ⟨k, hk, rfl⟩⟩
  unfold f_X0_load at h
  refine Y_sub [0, 1] (lv' := [(0, .ref (ρ k0)), (1, .ref (ρ k1))]) rfl ?_
  refine Y_aload_n C (pc := 0) 0 0 rfl rfl dX0_load_0 ?_
  refine Y_aload_n C (pc := 1) 1 1 rfl rfl dX0_load_1 ?_
  refine Y_getI C (pc := 2) hk1 q_fi_RX0_18 dX0_load_2 ?_
  obtain ⟨v1, hv1, h⟩ := Option.bind_eq_some_iff.mp h
  refine Y_callV C [.int (σ k1 0)] [] [] hk0 rfl rfl (c_X0_restart hI hk0 hv1) (fun _ h => h) q_cw_yX0_restart q_ml_RX0_24 ⟨q_im_yX0_restart, q_se_yX0_restart⟩ ⟨⟨Nat.le_of_ble_eq_true rfl, Nat.le_of_ble_eq_true rfl⟩, ⟨Nat.zero_le _, Nat.zero_le _⟩, Nat.le_of_ble_eq_true rfl⟩ rfl rfl rfl dX0_load_5 ?_
  refine Y_aload_n C (pc := 8) 0 0 rfl rfl dX0_load_8 ?_
  refine Y_iconst C (pc := 9) (v := (0 : Int32)) (by decide) dX0_load_9 ?_
  refine Y_putI C (pc := 10) hW hk0 (q_lo_0 hk0) q_fp_RX0_28 dX0_load_10 ?_
  refine Y_aload_n C (pc := 13) 0 0 rfl rfl dX0_load_13 ?_
  refine Y_iconst C (pc := 14) (v := (0 : Int32)) (by decide) dX0_load_14 ?_
  refine Y_putI C (pc := 15) hW hk0 (q_lo_0 hk0) q_fp_RX0_31 dX0_load_15 ?_
  refine Y_aload_n C (pc := 18) 0 0 rfl rfl dX0_load_18 ?_
  refine Y_ldc C q_ct_RX0_34 dX0_load_19 ?_
  refine Y_putI C (pc := 21) hW hk0 (q_lo_0 hk0) q_fp_RX0_35 dX0_load_21 ?_
  refine Y_iconst C (pc := 24) (v := (0 : Int32)) (by decide) dX0_load_24 ?_
  refine Y_istore_n C (pc := 25) (lv' := [(2, .int (0 : Int32)), (0, .ref (ρ k0)), (1, .ref (ρ k1))]) 2 rfl (by decide) rfl dX0_load_25 ?_
  obtain ⟨e12, he12, h⟩ := Option.bind_eq_some_iff.mp h
  refine Y_sub [1, 2, 0] (lv' := [(0, .ref (ρ k0)), (1, .ref (ρ k1)), (2, .int (0 : Int32))]) rfl ?_
  refine lo_rule (f := (f_X0_load_L26 k0 k1)) (YS := fun s2 => Y p l e (Rm 3 70) s m args below meth c 4 D cA ρ (Aw ρ) 0 0 (MQ below (QC D cA ρ (Aw ρ) none r τ) args s 0 0 (Aw ρ)) s2.2 τ 26 [(0, .ref (ρ k0)), (1, .ref (ρ k1)), (2, .int s2.1)] []) (YE := fun e12 => Y p l e (Rm 3 70) s m args below meth c 4 D cA ρ (Aw ρ) 0 0 (MQ below (QC D cA ρ (Aw ρ) none r τ) args s 0 0 (Aw ρ)) e12 τ 114 [] []) ?_ he12 ?_
  · intro s2 x h hLp hE
    unfold f_X0_load_L26 at h
    have hJ88 : ∀ (j4 : Int32) (j5 : Int32) (sj6 : Sg), f_X0_load_J88 k0 k1 j4 j5 sj6 = some x → Y p l e (Rm 3 70) s m args below meth c 4 D cA ρ (Aw ρ) 0 0 (MQ below (QC D cA ρ (Aw ρ) none r τ) args s 0 0 (Aw ρ)) sj6 τ 88 [(0, .ref (ρ k0)), (1, .ref (ρ k1)), (2, .int j4), (3, .int j5)] [] := by
      intro j4 j5 sj6 h
      unfold f_X0_load_J88 at h
      refine Y_aload_n C (pc := 88) 0 0 rfl rfl dX0_load_88 ?_
      refine Y_getR C (pc := 89) hk0 q_fi_RX0_9 (by decide) dX0_load_89 ?_
      refine Y_iload_n C (pc := 92) 2 2 rfl rfl dX0_load_92 ?_
      refine Y_iload_n C (pc := 93) 3 3 rfl rfl dX0_load_93 ?_
      obtain ⟨v7, hv7, h⟩ := Option.bind_eq_some_iff.mp h
      refine Y_callSN C [.ref (ρ (k0 + 1)), .int j4, .int j5] [] [] (c_X8_setItem hI (q_kr_0_3 hk0) (q_lr_0_3 hk0) hv7) (fun _ h => h) q_cw_yX8_setItem q_mn_RX0_55 q_st_yX8_setItem ⟨⟨Nat.le_of_ble_eq_true rfl, Nat.le_of_ble_eq_true rfl⟩, ⟨Nat.zero_le _, Nat.zero_le _⟩, Nat.le_of_ble_eq_true rfl⟩ rfl rfl rfl dX0_load_94 ?_
      refine Y_aload_n C (pc := 97) 0 0 rfl rfl dX0_load_97 ?_
      refine Y_getR C (pc := 98) hk0 q_fi_RX0_15 (by decide) dX0_load_98 ?_
      refine Y_aload_n C (pc := 101) 1 1 rfl rfl dX0_load_101 ?_
      refine Y_getI C (pc := 102) hk1 q_fi_RX0_18 dX0_load_102 ?_
      obtain ⟨v8, hv8, h⟩ := Option.bind_eq_some_iff.mp h
      refine Y_callSN C [.ref (ρ (k0 + 2)), .int (v7 k1 0)] [] [] (c_X8_advance hI (q_kr_0_5 hk0) (q_lr_0_5 hk0) hv8) (fun _ h => h) q_cw_yX8_advance q_mn_RX0_59 q_st_yX8_advance ⟨⟨Nat.le_of_ble_eq_true rfl, Nat.le_of_ble_eq_true rfl⟩, ⟨Nat.zero_le _, Nat.zero_le _⟩, Nat.le_of_ble_eq_true rfl⟩ rfl rfl rfl dX0_load_105 ?_
      refine Y_iinc C (pc := 108) (v := (j4 + 1)) (lv' := [(2, .int (j4 + 1)), (0, .ref (ρ k0)), (1, .ref (ρ k1)), (3, .int j5)]) 2 rfl (congrArg (fun z => j4 + z) (by decide : Int32.ofInt (1) = (1))) (by decide) rfl dX0_load_108 ?_
      refine Y_goto C (pc := 111) (tgt := 26) dX0_load_111 (by decide) ?_
      have h := Option.some.inj h
      exact Y_sub [1, 2, 0] rfl (hLp _ h.symm)
    refine Y_iload_n C (pc := 26) 2 2 rfl rfl dX0_load_26 ?_
    refine Y_aload_n C (pc := 27) 0 0 rfl rfl dX0_load_27 ?_
    refine Y_getI C (pc := 28) hk0 q_fi_RX0_38 dX0_load_28 ?_
    refine Y_icmp_ge C (pc := 31) (tgt := 114) dX0_load_31 (by decide) (fun c11 => ?_) (fun c11 => ?_)
    · rw [if_pos c11] at h
      have h := Option.some.inj h
      exact Y_sub [] rfl (hE _ h.symm)
    · rw [if_neg c11] at h
      refine Y_iconst C (pc := 34) (v := (-1 : Int32)) (by decide) dX0_load_34 ?_
      refine Y_istore_n C (pc := 35) (lv' := [(3, .int (-1 : Int32)), (0, .ref (ρ k0)), (1, .ref (ρ k1)), (2, .int s2.1)]) 3 rfl (by decide) rfl dX0_load_35 ?_
      refine Y_aload_n C (pc := 36) 1 2 rfl rfl dX0_load_36 ?_
      refine Y_aload_n C (pc := 37) 0 1 rfl rfl dX0_load_37 ?_
      refine Y_getR C (pc := 38) hk0 q_fi_RX0_15 (by decide) dX0_load_38 ?_
      obtain ⟨v3, hv3, h⟩ := Option.bind_eq_some_iff.mp h
      refine Y_callV C [.ref (ρ (k0 + 2))] [] [.int v3] hk1 rfl rfl (c_X6_agrees hk1 (q_kr_0_5 hk0) hv3) (fun _ h => h.elim) q_cw_yX6_agrees q_ml_RX0_41 ⟨q_im_yX6_agrees, q_se_yX6_agrees⟩ ⟨⟨Nat.le_of_ble_eq_true rfl, Nat.le_of_ble_eq_true rfl⟩, ⟨Nat.zero_le _, Nat.zero_le _⟩, Nat.le_of_ble_eq_true rfl⟩ rfl rfl rfl dX0_load_41 ?_
      refine Y_if_eq C (pc := 44) (tgt := 88) dX0_load_44 (by decide) (fun c10 => ?_) (fun c10 => ?_)
      · rw [if_pos c10] at h
        exact Y_sub [1, 2, 3, 0] rfl (hJ88 _ _ _ h)
      · rw [if_neg c10] at h
        refine Y_aload_n C (pc := 47) 1 2 rfl rfl dX0_load_47 ?_
        refine Y_aload_n C (pc := 48) 0 1 rfl rfl dX0_load_48 ?_
        refine Y_getR C (pc := 49) hk0 q_fi_RX0_15 (by decide) dX0_load_49 ?_
        obtain ⟨v9, hv9, h⟩ := Option.bind_eq_some_iff.mp h
        refine Y_callV C [.ref (ρ (k0 + 2))] [] [.int v9] hk1 rfl rfl (c_X6_costOf hk1 (q_kr_0_5 hk0) hv9) (fun _ h => h.elim) q_cw_yX6_costOf q_ml_RX0_45 ⟨q_im_yX6_costOf, q_se_yX6_costOf⟩ ⟨⟨Nat.le_of_ble_eq_true rfl, Nat.le_of_ble_eq_true rfl⟩, ⟨Nat.zero_le _, Nat.zero_le _⟩, Nat.le_of_ble_eq_true rfl⟩ rfl rfl rfl dX0_load_52 ?_
        refine Y_istore_n C (pc := 55) (lv' := [(3, .int v9), (0, .ref (ρ k0)), (1, .ref (ρ k1)), (2, .int s2.1)]) 3 rfl (by decide) rfl dX0_load_55 ?_
        refine Y_aload_n C (pc := 56) 0 1 rfl rfl dX0_load_56 ?_
        refine Y_dup C (pc := 57) rfl dX0_load_57 ?_
        refine Y_getI C (pc := 58) hk0 q_fi_RX0_28 dX0_load_58 ?_
        refine Y_iconst C (pc := 61) (v := (1 : Int32)) (by decide) dX0_load_61 ?_
        refine Y_iadd C (pc := 62) dX0_load_62 ?_
        refine Y_putI C (pc := 63) hW hk0 (q_lo_0 hk0) q_fp_RX0_28 dX0_load_63 ?_
        refine Y_aload_n C (pc := 66) 0 1 rfl rfl dX0_load_66 ?_
        refine Y_dup C (pc := 67) rfl dX0_load_67 ?_
        refine Y_getI C (pc := 68) hk0 q_fi_RX0_31 dX0_load_68 ?_
        refine Y_iload_n C (pc := 71) 3 0 rfl rfl dX0_load_71 ?_
        refine Y_iadd C (pc := 72) dX0_load_72 ?_
        refine Y_putI C (pc := 73) hW hk0 (q_lo_0 hk0) q_fp_RX0_31 dX0_load_73 ?_
        refine Y_aload_n C (pc := 76) 0 1 rfl rfl dX0_load_76 ?_
        refine Y_aload_n C (pc := 77) 0 1 rfl rfl dX0_load_77 ?_
        refine Y_getI C (pc := 78) hk0 q_fi_RX0_35 dX0_load_78 ?_
        refine Y_iload_n C (pc := 81) 3 0 rfl rfl dX0_load_81 ?_
        refine Y_min C (pc := 82) q_ml_RX0_49 ⟨q_st_min, q_in_Math, q_cd_min⟩ ⟨Nat.le_of_ble_eq_true rfl, Nat.le_of_ble_eq_true rfl, Nat.zero_le _, Nat.zero_le _⟩ dX0_load_82 ?_
        refine Y_putI C (pc := 85) hW hk0 (q_lo_0 hk0) q_fp_RX0_35 dX0_load_85 ?_
        exact Y_sub [1, 2, 3, 0] rfl (hJ88 _ _ _ h)
  · cases h
    exact Y_vret C dX0_load_114

set_option maxRecDepth 100000 in
set_option maxHeartbeats 4000000 in
theorem c_X0_countUpTo {l : Launch} {D : va_G} {cA ρ : Nat → Nat} {σ : Sg} {τ : Tg} {k0 : Nat} {i1 : Int32} (hk0 : kd k0 = (0, 0)) {r : Int32} (h : f_X0_countUpTo σ k0 i1 = some r) : Ct l yX0_countUpTo cX0_countUpTo 5 (some .int) 1 21 D cA ρ A0 [.ref (ρ k0), .int i1] σ τ (some (.int r)) σ τ := by
  refine Ct_of (by decide +kernel) (Nat.le_of_ble_eq_true rfl) (fun p e s m args below meth c C => ?_)
  have C : Ctx p l s m args meth c cX0_countUpTo RX0 5 (some .int) D cA ρ A0 := C
  unfold f_X0_countUpTo at h
  refine Y_sub [0, 1] (lv' := [(0, .ref (ρ k0)), (1, .int i1)]) rfl ?_
  refine Y_iconst C (pc := 0) (v := (0 : Int32)) (by decide) dX0_countUpTo_0 ?_
  refine Y_istore_n C (pc := 1) (lv' := [(2, .int (0 : Int32)), (0, .ref (ρ k0)), (1, .int i1)]) 2 rfl (by decide) rfl dX0_countUpTo_1 ?_
  refine Y_iconst C (pc := 2) (v := (0 : Int32)) (by decide) dX0_countUpTo_2 ?_
  refine Y_istore_n C (pc := 3) (lv' := [(3, .int (0 : Int32)), (2, .int (0 : Int32)), (0, .ref (ρ k0)), (1, .int i1)]) 3 rfl (by decide) rfl dX0_countUpTo_3 ?_
  obtain ⟨e8, he8, h⟩ := Option.bind_eq_some_iff.mp h
  refine Y_sub [2, 3, 1, 0] (lv' := [(0, .ref (ρ k0)), (1, .int i1), (2, .int (0 : Int32)), (3, .int (0 : Int32))]) rfl ?_
  refine lo_rule (f := (f_X0_countUpTo_L4 σ k0 i1)) (YS := fun s1 => Y p l e (Rm 1 21) s m args below meth c 5 D cA ρ A0 0 0 (MQ below (QC D cA ρ A0 (some (.int r)) σ τ) args s 0 0 A0) σ τ 4 [(0, .ref (ρ k0)), (1, .int i1), (2, .int s1.1), (3, .int s1.2)] []) (YE := fun e8 => Y p l e (Rm 1 21) s m args below meth c 5 D cA ρ A0 0 0 (MQ below (QC D cA ρ A0 (some (.int r)) σ τ) args s 0 0 A0) σ τ 43 [(2, .int e8)] []) ?_ he8 ?_
  · intro s1 x h hLp hE
    unfold f_X0_countUpTo_L4 at h
    have hJ37 : ∀ (j3 : Int32) (j4 : Int32), f_X0_countUpTo_J37 j3 j4 = some x → Y p l e (Rm 1 21) s m args below meth c 5 D cA ρ A0 0 0 (MQ below (QC D cA ρ A0 (some (.int r)) σ τ) args s 0 0 A0) σ τ 37 [(0, .ref (ρ k0)), (1, .int i1), (2, .int j3), (3, .int j4)] [] := by
      intro j3 j4 h
      unfold f_X0_countUpTo_J37 at h
      refine Y_iinc C (pc := 37) (v := (j4 + 1)) (lv' := [(3, .int (j4 + 1)), (0, .ref (ρ k0)), (1, .int i1), (2, .int j3)]) 3 rfl (congrArg (fun z => j4 + z) (by decide : Int32.ofInt (1) = (1))) (by decide) rfl dX0_countUpTo_37 ?_
      refine Y_goto C (pc := 40) (tgt := 4) dX0_countUpTo_40 (by decide) ?_
      have h := Option.some.inj h
      exact Y_sub [1, 2, 3, 0] rfl (hLp _ h.symm)
    refine Y_iload_n C (pc := 4) 3 3 rfl rfl dX0_countUpTo_4 ?_
    refine Y_aload_n C (pc := 5) 0 0 rfl rfl dX0_countUpTo_5 ?_
    refine Y_getI C (pc := 6) hk0 q_fi_RX0_38 dX0_countUpTo_6 ?_
    refine Y_icmp_ge C (pc := 9) (tgt := 43) dX0_countUpTo_9 (by decide) (fun c7 => ?_) (fun c7 => ?_)
    · rw [if_pos c7] at h
      have h := Option.some.inj h
      exact Y_sub [2] rfl (hE _ h.symm)
    · rw [if_neg c7] at h
      refine Y_aload_n C (pc := 12) 0 0 rfl rfl dX0_countUpTo_12 ?_
      refine Y_getR C (pc := 13) hk0 q_fi_RX0_9 (by decide) dX0_countUpTo_13 ?_
      refine Y_iload_n C (pc := 16) 3 3 rfl rfl dX0_countUpTo_16 ?_
      obtain ⟨v2, hv2, h⟩ := Option.bind_eq_some_iff.mp h
      refine Y_callSN C [.ref (ρ (k0 + 1)), .int s1.2] [] [.int v2] (c_X8_item (q_kr_0_3 hk0) hv2) (fun _ h => h.elim) q_cw_yX8_item q_mn_RX0_67 q_st_yX8_item ⟨⟨Nat.le_of_ble_eq_true rfl, Nat.le_of_ble_eq_true rfl⟩, ⟨Nat.zero_le _, Nat.zero_le _⟩, Nat.le_of_ble_eq_true rfl⟩ rfl rfl rfl dX0_countUpTo_17 ?_
      refine Y_istore C (pc := 20) (lv' := [(4, .int v2), (0, .ref (ρ k0)), (1, .int i1), (2, .int s1.1), (3, .int s1.2)]) (by decide) rfl dX0_countUpTo_20 ?_
      refine Y_iload C (pc := 22) 0 rfl dX0_countUpTo_22 ?_
      refine Y_iconst C (pc := 24) (v := (-1 : Int32)) (by decide) dX0_countUpTo_24 ?_
      refine Y_icmp_eq C (pc := 25) (tgt := 37) dX0_countUpTo_25 (by decide) (fun c6 => ?_) (fun c6 => ?_)
      · rw [if_pos c6] at h
        exact Y_sub [1, 2, 3, 4] rfl (hJ37 _ _ h)
      · rw [if_neg c6] at h
        refine Y_iload C (pc := 28) 0 rfl dX0_countUpTo_28 ?_
        refine Y_iload_n C (pc := 30) 1 2 rfl rfl dX0_countUpTo_30 ?_
        refine Y_icmp_gt C (pc := 31) (tgt := 37) dX0_countUpTo_31 (by decide) (fun c5 => ?_) (fun c5 => ?_)
        · rw [if_pos c5] at h
          exact Y_sub [1, 2, 3, 4] rfl (hJ37 _ _ h)
        · rw [if_neg c5] at h
          refine Y_iinc C (pc := 34) (v := (s1.1 + 1)) (lv' := [(2, .int (s1.1 + 1)), (4, .int v2), (0, .ref (ρ k0)), (1, .int i1), (3, .int s1.2)]) 3 rfl (congrArg (fun z => s1.1 + z) (by decide : Int32.ofInt (1) = (1))) (by decide) rfl dX0_countUpTo_34 ?_
          exact Y_sub [2, 3, 0, 4] rfl (hJ37 _ _ h)
  · refine Y_iload_n C (pc := 43) 2 0 rfl rfl dX0_countUpTo_43 ?_
    cases h
    exact Y_iret C dX0_countUpTo_44

set_option maxRecDepth 100000 in
set_option maxHeartbeats 4000000 in
theorem c_X0_cheapestAt {l : Launch} {D : va_G} {cA ρ : Nat → Nat} {σ : Sg} {τ : Tg} {k0 : Nat} {i1 : Int32} (hk0 : kd k0 = (0, 0)) {r : Int32} (h : f_X0_cheapestAt σ k0 i1 = some r) : Ct l yX0_cheapestAt cX0_cheapestAt 4 (some .int) 1 21 D cA ρ A0 [.ref (ρ k0), .int i1] σ τ (some (.int r)) σ τ := by
  refine Ct_of (by decide +kernel) (Nat.le_of_ble_eq_true rfl) (fun p e s m args below meth c C => ?_)
  have C : Ctx p l s m args meth c cX0_cheapestAt RX0 4 (some .int) D cA ρ A0 := C
  unfold f_X0_cheapestAt at h
  refine Y_sub [0, 1] (lv' := [(0, .ref (ρ k0)), (1, .int i1)]) rfl ?_
  refine Y_iconst C (pc := 0) (v := (0 : Int32)) (by decide) dX0_cheapestAt_0 ?_
  refine Y_istore_n C (pc := 1) (lv' := [(2, .int (0 : Int32)), (0, .ref (ρ k0)), (1, .int i1)]) 2 rfl (by decide) rfl dX0_cheapestAt_1 ?_
  refine Y_iconst C (pc := 2) (v := (0 : Int32)) (by decide) dX0_cheapestAt_2 ?_
  refine Y_istore_n C (pc := 3) (lv' := [(3, .int (0 : Int32)), (2, .int (0 : Int32)), (0, .ref (ρ k0)), (1, .int i1)]) 3 rfl (by decide) rfl dX0_cheapestAt_3 ?_
  obtain ⟨e8, he8, h⟩ := Option.bind_eq_some_iff.mp h
  refine Y_sub [2, 3, 1, 0] (lv' := [(0, .ref (ρ k0)), (1, .int i1), (2, .int (0 : Int32)), (3, .int (0 : Int32))]) rfl ?_
  refine lo_rule (f := (f_X0_cheapestAt_L4 σ k0 i1)) (YS := fun s1 => Y p l e (Rm 1 21) s m args below meth c 4 D cA ρ A0 0 0 (MQ below (QC D cA ρ A0 (some (.int r)) σ τ) args s 0 0 A0) σ τ 4 [(0, .ref (ρ k0)), (1, .int i1), (2, .int s1.1), (3, .int s1.2)] []) (YE := fun e8 => (∀ e9, e8 = (.inl e9) → Y p l e (Rm 1 21) s m args below meth c 4 D cA ρ A0 0 0 (MQ below (QC D cA ρ A0 (some (.int r)) σ τ) args s 0 0 A0) σ τ 32 [(3, .int e9)] []) ∧ (∀ e10, e8 = (.inr e10) → Y p l e (Rm 1 21) s m args below meth c 4 D cA ρ A0 0 0 (MQ below (QC D cA ρ A0 (some (.int r)) σ τ) args s 0 0 A0) σ τ 43 [] [])) ?_ he8 ?_
  · intro s1 x h hLp hE
    have hE0 : ∀ y, x = .inr (.inl y) → _ := fun y q => (hE _ q).1 y rfl
    have hE1 : ∀ y, x = .inr (.inr y) → _ := fun y q => (hE _ q).2 y rfl
    unfold f_X0_cheapestAt_L4 at h
    have hJ37 : ∀ (j3 : Int32) (j4 : Int32), f_X0_cheapestAt_J37 j3 j4 = some x → Y p l e (Rm 1 21) s m args below meth c 4 D cA ρ A0 0 0 (MQ below (QC D cA ρ A0 (some (.int r)) σ τ) args s 0 0 A0) σ τ 37 [(0, .ref (ρ k0)), (1, .int i1), (2, .int j3), (3, .int j4)] [] := by
      intro j3 j4 h
      unfold f_X0_cheapestAt_J37 at h
      refine Y_iinc C (pc := 37) (v := (j4 + 1)) (lv' := [(3, .int (j4 + 1)), (0, .ref (ρ k0)), (1, .int i1), (2, .int j3)]) 3 rfl (congrArg (fun z => j4 + z) (by decide : Int32.ofInt (1) = (1))) (by decide) rfl dX0_cheapestAt_37 ?_
      refine Y_goto C (pc := 40) (tgt := 4) dX0_cheapestAt_40 (by decide) ?_
      have h := Option.some.inj h
      exact Y_sub [1, 2, 3, 0] rfl (hLp _ h.symm)
    refine Y_iload_n C (pc := 4) 3 3 rfl rfl dX0_cheapestAt_4 ?_
    refine Y_aload_n C (pc := 5) 0 0 rfl rfl dX0_cheapestAt_5 ?_
    refine Y_getI C (pc := 6) hk0 q_fi_RX0_38 dX0_cheapestAt_6 ?_
    refine Y_icmp_ge C (pc := 9) (tgt := 43) dX0_cheapestAt_9 (by decide) (fun c7 => ?_) (fun c7 => ?_)
    · rw [if_pos c7] at h
      have h := Option.some.inj h
      exact Y_sub [] rfl (hE1 _ h.symm)
    · rw [if_neg c7] at h
      refine Y_aload_n C (pc := 12) 0 0 rfl rfl dX0_cheapestAt_12 ?_
      refine Y_getR C (pc := 13) hk0 q_fi_RX0_9 (by decide) dX0_cheapestAt_13 ?_
      refine Y_iload_n C (pc := 16) 3 3 rfl rfl dX0_cheapestAt_16 ?_
      obtain ⟨v2, hv2, h⟩ := Option.bind_eq_some_iff.mp h
      refine Y_callSN C [.ref (ρ (k0 + 1)), .int s1.2] [] [.int v2] (c_X8_item (q_kr_0_3 hk0) hv2) (fun _ h => h.elim) q_cw_yX8_item q_mn_RX0_67 q_st_yX8_item ⟨⟨Nat.le_of_ble_eq_true rfl, Nat.le_of_ble_eq_true rfl⟩, ⟨Nat.zero_le _, Nat.zero_le _⟩, Nat.le_of_ble_eq_true rfl⟩ rfl rfl rfl dX0_cheapestAt_17 ?_
      refine Y_aload_n C (pc := 20) 0 0 rfl rfl dX0_cheapestAt_20 ?_
      refine Y_getI C (pc := 21) hk0 q_fi_RX0_35 dX0_cheapestAt_21 ?_
      refine Y_icmp_ne C (pc := 24) (tgt := 37) dX0_cheapestAt_24 (by decide) (fun c6 => ?_) (fun c6 => ?_)
      · rw [if_neg c6] at h
        exact Y_sub [0, 1, 2, 3] rfl (hJ37 _ _ h)
      · rw [if_pos c6] at h
        refine Y_iload_n C (pc := 27) 2 2 rfl rfl dX0_cheapestAt_27 ?_
        refine Y_iload_n C (pc := 28) 1 1 rfl rfl dX0_cheapestAt_28 ?_
        refine Y_icmp_ne C (pc := 29) (tgt := 34) dX0_cheapestAt_29 (by decide) (fun c5 => ?_) (fun c5 => ?_)
        · rw [if_neg c5] at h
          refine Y_iinc C (pc := 34) (v := (s1.1 + 1)) (lv' := [(2, .int (s1.1 + 1)), (0, .ref (ρ k0)), (1, .int i1), (3, .int s1.2)]) 2 rfl (congrArg (fun z => s1.1 + z) (by decide : Int32.ofInt (1) = (1))) (by decide) rfl dX0_cheapestAt_34 ?_
          exact Y_sub [1, 2, 0, 3] rfl (hJ37 _ _ h)
        · rw [if_pos c5] at h
          have h := Option.some.inj h
          exact Y_sub [3] rfl (hE0 _ h.symm)
  refine ⟨?_, ?_⟩
  · intro e9 q
    subst q
    simp only [Sum.elim_inl, Sum.elim_inr] at h
    refine Y_iload_n C (pc := 32) 3 0 rfl rfl dX0_cheapestAt_32 ?_
    cases h
    exact Y_iret C dX0_cheapestAt_33
  · intro e10 q
    subst q
    simp only [Sum.elim_inl, Sum.elim_inr] at h
    refine Y_iconst C (pc := 43) (v := (-1 : Int32)) (by decide) dX0_cheapestAt_43 ?_
    cases h
    exact Y_iret C dX0_cheapestAt_44

set_option maxRecDepth 100000 in
set_option maxHeartbeats 4000000 in
theorem c_X6_gainOf {l : Launch} {D : va_G} {cA ρ : Nat → Nat} {σ : Sg} {τ : Tg} {k0 : Nat} {k1 : Nat} {i2 : Int32} {i3 : Int32} (hk0 : kd k0 = (0, 6)) (hk1 : (kd k1).1 = 1) {r : Int32} (h : f_X6_gainOf σ k0 k1 i2 i3 = some r) : Ct l yX6_gainOf cX6_gainOf 9 (some .int) 1 23 D cA ρ A0 [.ref (ρ k0), .ref (ρ k1), .int i2, .int i3] σ τ (some (.int r)) σ τ := by
  refine Ct_of (by decide +kernel) (Nat.le_of_ble_eq_true rfl) (fun p e s m args below meth c C => ?_)
  have C : Ctx p l s m args meth c cX6_gainOf RX6 9 (some .int) D cA ρ A0 := C
  unfold f_X6_gainOf at h
  refine Y_sub [0, 1, 2, 3] (lv' := [(0, .ref (ρ k0)), (1, .ref (ρ k1)), (2, .int i2), (3, .int i3)]) rfl ?_
  refine Y_iload_n C (pc := 0) 2 2 rfl rfl dX6_gainOf_0 ?_
  refine Y_iload_n C (pc := 1) 3 3 rfl rfl dX6_gainOf_1 ?_
  refine Y_icmp_ne C (pc := 2) (tgt := 7) dX6_gainOf_2 (by decide) (fun c31 => ?_) (fun c31 => ?_)
  · rw [if_neg c31] at h
    refine Y_aload_n C (pc := 7) 1 1 rfl rfl dX6_gainOf_7 ?_
    refine Y_iload_n C (pc := 8) 2 2 rfl rfl dX6_gainOf_8 ?_
    obtain ⟨v1, hv1, h⟩ := Option.bind_eq_some_iff.mp h
    refine Y_callSN C [.ref (ρ k1), .int i2] [] [.int v1] (c_X8_item hk1 hv1) (fun _ h => h.elim) q_cw_yX8_item q_mn_RX6_65 q_st_yX8_item ⟨⟨Nat.le_of_ble_eq_true rfl, Nat.le_of_ble_eq_true rfl⟩, ⟨Nat.zero_le _, Nat.zero_le _⟩, Nat.le_of_ble_eq_true rfl⟩ rfl rfl rfl dX6_gainOf_9 ?_
    refine Y_istore C (pc := 12) (lv' := [(4, .int v1), (0, .ref (ρ k0)), (1, .ref (ρ k1)), (2, .int i2), (3, .int i3)]) (by decide) rfl dX6_gainOf_12 ?_
    refine Y_aload_n C (pc := 14) 1 2 rfl rfl dX6_gainOf_14 ?_
    refine Y_iload_n C (pc := 15) 3 4 rfl rfl dX6_gainOf_15 ?_
    obtain ⟨v2, hv2, h⟩ := Option.bind_eq_some_iff.mp h
    refine Y_callSN C [.ref (ρ k1), .int i3] [] [.int v2] (c_X8_item hk1 hv2) (fun _ h => h.elim) q_cw_yX8_item q_mn_RX6_65 q_st_yX8_item ⟨⟨Nat.le_of_ble_eq_true rfl, Nat.le_of_ble_eq_true rfl⟩, ⟨Nat.zero_le _, Nat.zero_le _⟩, Nat.le_of_ble_eq_true rfl⟩ rfl rfl rfl dX6_gainOf_16 ?_
    refine Y_istore C (pc := 19) (lv' := [(5, .int v2), (4, .int v1), (0, .ref (ρ k0)), (1, .ref (ρ k1)), (2, .int i2), (3, .int i3)]) (by decide) rfl dX6_gainOf_19 ?_
    refine Y_aload_n C (pc := 21) 0 2 rfl rfl dX6_gainOf_21 ?_
    refine Y_getR C (pc := 22) hk0 q_fi_RX6_18 (by decide) dX6_gainOf_22 ?_
    refine Y_iload_n C (pc := 25) 2 4 rfl rfl dX6_gainOf_25 ?_
    refine Y_iload C (pc := 26) 1 rfl dX6_gainOf_26 ?_
    obtain ⟨v3, hv3, h⟩ := Option.bind_eq_some_iff.mp h
    refine Y_callSN C [.ref (ρ (k0 + 3)), .int i2, .int v1] [] [.int v3] (c_X8_at (q_kr_6_3 hk0) hv3) (fun _ h => h.elim) q_cw_yX8_at q_mn_RX6_57 q_st_yX8_at ⟨⟨Nat.le_of_ble_eq_true rfl, Nat.le_of_ble_eq_true rfl⟩, ⟨Nat.zero_le _, Nat.zero_le _⟩, Nat.le_of_ble_eq_true rfl⟩ rfl rfl rfl dX6_gainOf_28 ?_
    refine Y_aload_n C (pc := 31) 0 2 rfl rfl dX6_gainOf_31 ?_
    refine Y_getR C (pc := 32) hk0 q_fi_RX6_18 (by decide) dX6_gainOf_32 ?_
    refine Y_iload_n C (pc := 35) 3 5 rfl rfl dX6_gainOf_35 ?_
    refine Y_iload C (pc := 36) 0 rfl dX6_gainOf_36 ?_
    obtain ⟨v4, hv4, h⟩ := Option.bind_eq_some_iff.mp h
    refine Y_callSN C [.ref (ρ (k0 + 3)), .int i3, .int v2] [.int v3] [.int v4, .int v3] (c_X8_at (q_kr_6_3 hk0) hv4) (fun _ h => h.elim) q_cw_yX8_at q_mn_RX6_57 q_st_yX8_at ⟨⟨Nat.le_of_ble_eq_true rfl, Nat.le_of_ble_eq_true rfl⟩, ⟨Nat.zero_le _, Nat.zero_le _⟩, Nat.le_of_ble_eq_true rfl⟩ rfl rfl rfl dX6_gainOf_38 ?_
    refine Y_iadd C (pc := 41) dX6_gainOf_41 ?_
    refine Y_aload_n C (pc := 42) 0 2 rfl rfl dX6_gainOf_42 ?_
    refine Y_getR C (pc := 43) hk0 q_fi_RX6_18 (by decide) dX6_gainOf_43 ?_
    refine Y_iload_n C (pc := 46) 2 4 rfl rfl dX6_gainOf_46 ?_
    refine Y_iload C (pc := 47) 0 rfl dX6_gainOf_47 ?_
    obtain ⟨v5, hv5, h⟩ := Option.bind_eq_some_iff.mp h
    refine Y_callSN C [.ref (ρ (k0 + 3)), .int i2, .int v2] [.int (v3 + v4)] [.int v5, .int (v3 + v4)] (c_X8_at (q_kr_6_3 hk0) hv5) (fun _ h => h.elim) q_cw_yX8_at q_mn_RX6_57 q_st_yX8_at ⟨⟨Nat.le_of_ble_eq_true rfl, Nat.le_of_ble_eq_true rfl⟩, ⟨Nat.zero_le _, Nat.zero_le _⟩, Nat.le_of_ble_eq_true rfl⟩ rfl rfl rfl dX6_gainOf_49 ?_
    refine Y_isub C (pc := 52) dX6_gainOf_52 ?_
    refine Y_aload_n C (pc := 53) 0 2 rfl rfl dX6_gainOf_53 ?_
    refine Y_getR C (pc := 54) hk0 q_fi_RX6_18 (by decide) dX6_gainOf_54 ?_
    refine Y_iload_n C (pc := 57) 3 5 rfl rfl dX6_gainOf_57 ?_
    refine Y_iload C (pc := 58) 1 rfl dX6_gainOf_58 ?_
    obtain ⟨v6, hv6, h⟩ := Option.bind_eq_some_iff.mp h
    refine Y_callSN C [.ref (ρ (k0 + 3)), .int i3, .int v1] [.int ((v3 + v4) - v5)] [.int v6, .int ((v3 + v4) - v5)] (c_X8_at (q_kr_6_3 hk0) hv6) (fun _ h => h.elim) q_cw_yX8_at q_mn_RX6_57 q_st_yX8_at ⟨⟨Nat.le_of_ble_eq_true rfl, Nat.le_of_ble_eq_true rfl⟩, ⟨Nat.zero_le _, Nat.zero_le _⟩, Nat.le_of_ble_eq_true rfl⟩ rfl rfl rfl dX6_gainOf_60 ?_
    refine Y_isub C (pc := 63) dX6_gainOf_63 ?_
    refine Y_istore C (pc := 64) (lv' := [(6, .int (((v3 + v4) - v5) - v6)), (5, .int v2), (4, .int v1), (0, .ref (ρ k0)), (1, .ref (ρ k1)), (2, .int i2), (3, .int i3)]) (by decide) rfl dX6_gainOf_64 ?_
    refine Y_iload C (pc := 66) 0 rfl dX6_gainOf_66 ?_
    refine Y_aload_n C (pc := 68) 0 3 rfl rfl dX6_gainOf_68 ?_
    refine Y_getR C (pc := 69) hk0 q_fi_RX6_9 (by decide) dX6_gainOf_69 ?_
    refine Y_iload_n C (pc := 72) 2 5 rfl rfl dX6_gainOf_72 ?_
    refine Y_iload_n C (pc := 73) 2 5 rfl rfl dX6_gainOf_73 ?_
    obtain ⟨v7, hv7, h⟩ := Option.bind_eq_some_iff.mp h
    refine Y_callSN C [.ref (ρ (k0 + 1)), .int i2, .int i2] [.int (((v3 + v4) - v5) - v6)] [.int v7, .int (((v3 + v4) - v5) - v6)] (c_X8_at (q_kr_6_1 hk0) hv7) (fun _ h => h.elim) q_cw_yX8_at q_mn_RX6_57 q_st_yX8_at ⟨⟨Nat.le_of_ble_eq_true rfl, Nat.le_of_ble_eq_true rfl⟩, ⟨Nat.zero_le _, Nat.zero_le _⟩, Nat.le_of_ble_eq_true rfl⟩ rfl rfl rfl dX6_gainOf_74 ?_
    refine Y_aload_n C (pc := 77) 0 3 rfl rfl dX6_gainOf_77 ?_
    refine Y_getR C (pc := 78) hk0 q_fi_RX6_9 (by decide) dX6_gainOf_78 ?_
    refine Y_iload_n C (pc := 81) 3 6 rfl rfl dX6_gainOf_81 ?_
    refine Y_iload_n C (pc := 82) 3 6 rfl rfl dX6_gainOf_82 ?_
    obtain ⟨v8, hv8, h⟩ := Option.bind_eq_some_iff.mp h
    refine Y_callSN C [.ref (ρ (k0 + 1)), .int i3, .int i3] [.int v7, .int (((v3 + v4) - v5) - v6)] [.int v8, .int v7, .int (((v3 + v4) - v5) - v6)] (c_X8_at (q_kr_6_1 hk0) hv8) (fun _ h => h.elim) q_cw_yX8_at q_mn_RX6_57 q_st_yX8_at ⟨⟨Nat.le_of_ble_eq_true rfl, Nat.le_of_ble_eq_true rfl⟩, ⟨Nat.zero_le _, Nat.zero_le _⟩, Nat.le_of_ble_eq_true rfl⟩ rfl rfl rfl dX6_gainOf_83 ?_
    refine Y_isub C (pc := 86) dX6_gainOf_86 ?_
    refine Y_aload_n C (pc := 87) 0 3 rfl rfl dX6_gainOf_87 ?_
    refine Y_getR C (pc := 88) hk0 q_fi_RX6_15 (by decide) dX6_gainOf_88 ?_
    refine Y_iload C (pc := 91) 2 rfl dX6_gainOf_91 ?_
    refine Y_iload C (pc := 93) 2 rfl dX6_gainOf_93 ?_
    obtain ⟨v9, hv9, h⟩ := Option.bind_eq_some_iff.mp h
    refine Y_callSN C [.ref (ρ (k0 + 2)), .int v1, .int v1] [.int (v7 - v8), .int (((v3 + v4) - v5) - v6)] [.int v9, .int (v7 - v8), .int (((v3 + v4) - v5) - v6)] (c_X8_at (q_kr_6_2 hk0) hv9) (fun _ h => h.elim) q_cw_yX8_at q_mn_RX6_57 q_st_yX8_at ⟨⟨Nat.le_of_ble_eq_true rfl, Nat.le_of_ble_eq_true rfl⟩, ⟨Nat.zero_le _, Nat.zero_le _⟩, Nat.le_of_ble_eq_true rfl⟩ rfl rfl rfl dX6_gainOf_95 ?_
    refine Y_aload_n C (pc := 98) 0 3 rfl rfl dX6_gainOf_98 ?_
    refine Y_getR C (pc := 99) hk0 q_fi_RX6_15 (by decide) dX6_gainOf_99 ?_
    refine Y_iload C (pc := 102) 1 rfl dX6_gainOf_102 ?_
    refine Y_iload C (pc := 104) 1 rfl dX6_gainOf_104 ?_
    obtain ⟨v10, hv10, h⟩ := Option.bind_eq_some_iff.mp h
    refine Y_callSN C [.ref (ρ (k0 + 2)), .int v2, .int v2] [.int v9, .int (v7 - v8), .int (((v3 + v4) - v5) - v6)] [.int v10, .int v9, .int (v7 - v8), .int (((v3 + v4) - v5) - v6)] (c_X8_at (q_kr_6_2 hk0) hv10) (fun _ h => h.elim) q_cw_yX8_at q_mn_RX6_57 q_st_yX8_at ⟨⟨Nat.le_of_ble_eq_true rfl, Nat.le_of_ble_eq_true rfl⟩, ⟨Nat.zero_le _, Nat.zero_le _⟩, Nat.le_of_ble_eq_true rfl⟩ rfl rfl rfl dX6_gainOf_106 ?_
    refine Y_isub C (pc := 109) dX6_gainOf_109 ?_
    refine Y_imul C (pc := 110) dX6_gainOf_110 ?_
    refine Y_iadd C (pc := 111) dX6_gainOf_111 ?_
    refine Y_istore C (pc := 112) (lv' := [(6, .int ((((v3 + v4) - v5) - v6) + ((v7 - v8) * (v9 - v10)))), (5, .int v2), (4, .int v1), (0, .ref (ρ k0)), (1, .ref (ρ k1)), (2, .int i2), (3, .int i3)]) (by decide) rfl dX6_gainOf_112 ?_
    refine Y_iload C (pc := 114) 0 rfl dX6_gainOf_114 ?_
    refine Y_aload_n C (pc := 116) 0 3 rfl rfl dX6_gainOf_116 ?_
    refine Y_getR C (pc := 117) hk0 q_fi_RX6_9 (by decide) dX6_gainOf_117 ?_
    refine Y_iload_n C (pc := 120) 2 5 rfl rfl dX6_gainOf_120 ?_
    refine Y_iload_n C (pc := 121) 3 6 rfl rfl dX6_gainOf_121 ?_
    obtain ⟨v11, hv11, h⟩ := Option.bind_eq_some_iff.mp h
    refine Y_callSN C [.ref (ρ (k0 + 1)), .int i2, .int i3] [.int ((((v3 + v4) - v5) - v6) + ((v7 - v8) * (v9 - v10)))] [.int v11, .int ((((v3 + v4) - v5) - v6) + ((v7 - v8) * (v9 - v10)))] (c_X8_at (q_kr_6_1 hk0) hv11) (fun _ h => h.elim) q_cw_yX8_at q_mn_RX6_57 q_st_yX8_at ⟨⟨Nat.le_of_ble_eq_true rfl, Nat.le_of_ble_eq_true rfl⟩, ⟨Nat.zero_le _, Nat.zero_le _⟩, Nat.le_of_ble_eq_true rfl⟩ rfl rfl rfl dX6_gainOf_122 ?_
    refine Y_aload_n C (pc := 125) 0 3 rfl rfl dX6_gainOf_125 ?_
    refine Y_getR C (pc := 126) hk0 q_fi_RX6_9 (by decide) dX6_gainOf_126 ?_
    refine Y_iload_n C (pc := 129) 3 6 rfl rfl dX6_gainOf_129 ?_
    refine Y_iload_n C (pc := 130) 2 5 rfl rfl dX6_gainOf_130 ?_
    obtain ⟨v12, hv12, h⟩ := Option.bind_eq_some_iff.mp h
    refine Y_callSN C [.ref (ρ (k0 + 1)), .int i3, .int i2] [.int v11, .int ((((v3 + v4) - v5) - v6) + ((v7 - v8) * (v9 - v10)))] [.int v12, .int v11, .int ((((v3 + v4) - v5) - v6) + ((v7 - v8) * (v9 - v10)))] (c_X8_at (q_kr_6_1 hk0) hv12) (fun _ h => h.elim) q_cw_yX8_at q_mn_RX6_57 q_st_yX8_at ⟨⟨Nat.le_of_ble_eq_true rfl, Nat.le_of_ble_eq_true rfl⟩, ⟨Nat.zero_le _, Nat.zero_le _⟩, Nat.le_of_ble_eq_true rfl⟩ rfl rfl rfl dX6_gainOf_131 ?_
    refine Y_isub C (pc := 134) dX6_gainOf_134 ?_
    refine Y_aload_n C (pc := 135) 0 3 rfl rfl dX6_gainOf_135 ?_
    refine Y_getR C (pc := 136) hk0 q_fi_RX6_15 (by decide) dX6_gainOf_136 ?_
    refine Y_iload C (pc := 139) 2 rfl dX6_gainOf_139 ?_
    refine Y_iload C (pc := 141) 1 rfl dX6_gainOf_141 ?_
    obtain ⟨v13, hv13, h⟩ := Option.bind_eq_some_iff.mp h
    refine Y_callSN C [.ref (ρ (k0 + 2)), .int v1, .int v2] [.int (v11 - v12), .int ((((v3 + v4) - v5) - v6) + ((v7 - v8) * (v9 - v10)))] [.int v13, .int (v11 - v12), .int ((((v3 + v4) - v5) - v6) + ((v7 - v8) * (v9 - v10)))] (c_X8_at (q_kr_6_2 hk0) hv13) (fun _ h => h.elim) q_cw_yX8_at q_mn_RX6_57 q_st_yX8_at ⟨⟨Nat.le_of_ble_eq_true rfl, Nat.le_of_ble_eq_true rfl⟩, ⟨Nat.zero_le _, Nat.zero_le _⟩, Nat.le_of_ble_eq_true rfl⟩ rfl rfl rfl dX6_gainOf_143 ?_
    refine Y_aload_n C (pc := 146) 0 3 rfl rfl dX6_gainOf_146 ?_
    refine Y_getR C (pc := 147) hk0 q_fi_RX6_15 (by decide) dX6_gainOf_147 ?_
    refine Y_iload C (pc := 150) 1 rfl dX6_gainOf_150 ?_
    refine Y_iload C (pc := 152) 2 rfl dX6_gainOf_152 ?_
    obtain ⟨v14, hv14, h⟩ := Option.bind_eq_some_iff.mp h
    refine Y_callSN C [.ref (ρ (k0 + 2)), .int v2, .int v1] [.int v13, .int (v11 - v12), .int ((((v3 + v4) - v5) - v6) + ((v7 - v8) * (v9 - v10)))] [.int v14, .int v13, .int (v11 - v12), .int ((((v3 + v4) - v5) - v6) + ((v7 - v8) * (v9 - v10)))] (c_X8_at (q_kr_6_2 hk0) hv14) (fun _ h => h.elim) q_cw_yX8_at q_mn_RX6_57 q_st_yX8_at ⟨⟨Nat.le_of_ble_eq_true rfl, Nat.le_of_ble_eq_true rfl⟩, ⟨Nat.zero_le _, Nat.zero_le _⟩, Nat.le_of_ble_eq_true rfl⟩ rfl rfl rfl dX6_gainOf_154 ?_
    refine Y_isub C (pc := 157) dX6_gainOf_157 ?_
    refine Y_imul C (pc := 158) dX6_gainOf_158 ?_
    refine Y_iadd C (pc := 159) dX6_gainOf_159 ?_
    refine Y_istore C (pc := 160) (lv' := [(6, .int (((((v3 + v4) - v5) - v6) + ((v7 - v8) * (v9 - v10))) + ((v11 - v12) * (v13 - v14)))), (5, .int v2), (4, .int v1), (0, .ref (ρ k0)), (1, .ref (ρ k1)), (2, .int i2), (3, .int i3)]) (by decide) rfl dX6_gainOf_160 ?_
    refine Y_iconst C (pc := 162) (v := (0 : Int32)) (by decide) dX6_gainOf_162 ?_
    refine Y_istore C (pc := 163) (lv' := [(7, .int (0 : Int32)), (6, .int (((((v3 + v4) - v5) - v6) + ((v7 - v8) * (v9 - v10))) + ((v11 - v12) * (v13 - v14)))), (5, .int v2), (4, .int v1), (0, .ref (ρ k0)), (1, .ref (ρ k1)), (2, .int i2), (3, .int i3)]) (by decide) rfl dX6_gainOf_163 ?_
    obtain ⟨e30, he30, h⟩ := Option.bind_eq_some_iff.mp h
    refine Y_sub [4, 5, 6, 7, 3, 2, 1, 0] (lv' := [(0, .ref (ρ k0)), (1, .ref (ρ k1)), (2, .int i2), (3, .int i3), (4, .int v1), (5, .int v2), (6, .int (((((v3 + v4) - v5) - v6) + ((v7 - v8) * (v9 - v10))) + ((v11 - v12) * (v13 - v14)))), (7, .int (0 : Int32))]) rfl ?_
    refine lo_rule (f := (f_X6_gainOf_L165 σ k0 i2 i3 k1 v1 v2)) (YS := fun s15 => Y p l e (Rm 1 23) s m args below meth c 9 D cA ρ A0 0 0 (MQ below (QC D cA ρ A0 (some (.int r)) σ τ) args s 0 0 A0) σ τ 165 [(0, .ref (ρ k0)), (1, .ref (ρ k1)), (2, .int i2), (3, .int i3), (4, .int v1), (5, .int v2), (6, .int s15.1), (7, .int s15.2)] []) (YE := fun e30 => Y p l e (Rm 1 23) s m args below meth c 9 D cA ρ A0 0 0 (MQ below (QC D cA ρ A0 (some (.int r)) σ τ) args s 0 0 A0) σ τ 300 [(6, .int e30)] []) ?_ he30 ?_
    · intro s15 x h hLp hE
      unfold f_X6_gainOf_L165 at h
      have hJ294 : ∀ (j16 : Int32) (j17 : Int32), f_X6_gainOf_J294 j16 j17 = some x → Y p l e (Rm 1 23) s m args below meth c 9 D cA ρ A0 0 0 (MQ below (QC D cA ρ A0 (some (.int r)) σ τ) args s 0 0 A0) σ τ 294 [(0, .ref (ρ k0)), (1, .ref (ρ k1)), (2, .int i2), (3, .int i3), (4, .int v1), (5, .int v2), (6, .int j16), (7, .int j17)] [] := by
        intro j16 j17 h
        unfold f_X6_gainOf_J294 at h
        refine Y_iinc C (pc := 294) (v := (j17 + 1)) (lv' := [(7, .int (j17 + 1)), (0, .ref (ρ k0)), (1, .ref (ρ k1)), (2, .int i2), (3, .int i3), (4, .int v1), (5, .int v2), (6, .int j16)]) 7 rfl (congrArg (fun z => j17 + z) (by decide : Int32.ofInt (1) = (1))) (by decide) rfl dX6_gainOf_294 ?_
        refine Y_goto C (pc := 297) (tgt := 165) dX6_gainOf_297 (by decide) ?_
        have h := Option.some.inj h
        exact Y_sub [1, 2, 3, 4, 5, 6, 7, 0] rfl (hLp _ h.symm)
      refine Y_iload C (pc := 165) 7 rfl dX6_gainOf_165 ?_
      refine Y_aload_n C (pc := 167) 0 0 rfl rfl dX6_gainOf_167 ?_
      refine Y_getI C (pc := 168) hk0 q_fi_RX6_31 dX6_gainOf_168 ?_
      refine Y_icmp_ge C (pc := 171) (tgt := 300) dX6_gainOf_171 (by decide) (fun c29 => ?_) (fun c29 => ?_)
      · rw [if_pos c29] at h
        have h := Option.some.inj h
        exact Y_sub [6] rfl (hE _ h.symm)
      · rw [if_neg c29] at h
        refine Y_iload C (pc := 174) 7 rfl dX6_gainOf_174 ?_
        refine Y_iload_n C (pc := 176) 2 2 rfl rfl dX6_gainOf_176 ?_
        refine Y_icmp_eq C (pc := 177) (tgt := 294) dX6_gainOf_177 (by decide) (fun c28 => ?_) (fun c28 => ?_)
        · rw [if_pos c28] at h
          exact Y_sub [0, 1, 2, 3, 4, 5, 6, 7] rfl (hJ294 _ _ h)
        · rw [if_neg c28] at h
          refine Y_iload C (pc := 180) 7 rfl dX6_gainOf_180 ?_
          refine Y_iload_n C (pc := 182) 3 3 rfl rfl dX6_gainOf_182 ?_
          refine Y_icmp_eq C (pc := 183) (tgt := 294) dX6_gainOf_183 (by decide) (fun c27 => ?_) (fun c27 => ?_)
          · rw [if_pos c27] at h
            exact Y_sub [0, 1, 2, 3, 4, 5, 6, 7] rfl (hJ294 _ _ h)
          · rw [if_neg c27] at h
            refine Y_aload_n C (pc := 186) 1 1 rfl rfl dX6_gainOf_186 ?_
            refine Y_iload C (pc := 187) 7 rfl dX6_gainOf_187 ?_
            obtain ⟨v18, hv18, h⟩ := Option.bind_eq_some_iff.mp h
            refine Y_callSN C [.ref (ρ k1), .int s15.2] [] [.int v18] (c_X8_item hk1 hv18) (fun _ h => h.elim) q_cw_yX8_item q_mn_RX6_65 q_st_yX8_item ⟨⟨Nat.le_of_ble_eq_true rfl, Nat.le_of_ble_eq_true rfl⟩, ⟨Nat.zero_le _, Nat.zero_le _⟩, Nat.le_of_ble_eq_true rfl⟩ rfl rfl rfl dX6_gainOf_189 ?_
            refine Y_istore C (pc := 192) (lv' := [(8, .int v18), (0, .ref (ρ k0)), (1, .ref (ρ k1)), (2, .int i2), (3, .int i3), (4, .int v1), (5, .int v2), (6, .int s15.1), (7, .int s15.2)]) (by decide) rfl dX6_gainOf_192 ?_
            refine Y_iload C (pc := 194) 7 rfl dX6_gainOf_194 ?_
            refine Y_aload_n C (pc := 196) 0 1 rfl rfl dX6_gainOf_196 ?_
            refine Y_getR C (pc := 197) hk0 q_fi_RX6_9 (by decide) dX6_gainOf_197 ?_
            refine Y_iload_n C (pc := 200) 2 3 rfl rfl dX6_gainOf_200 ?_
            refine Y_iload C (pc := 201) 8 rfl dX6_gainOf_201 ?_
            obtain ⟨v19, hv19, h⟩ := Option.bind_eq_some_iff.mp h
            refine Y_callSN C [.ref (ρ (k0 + 1)), .int i2, .int s15.2] [.int s15.1] [.int v19, .int s15.1] (c_X8_at (q_kr_6_1 hk0) hv19) (fun _ h => h.elim) q_cw_yX8_at q_mn_RX6_57 q_st_yX8_at ⟨⟨Nat.le_of_ble_eq_true rfl, Nat.le_of_ble_eq_true rfl⟩, ⟨Nat.zero_le _, Nat.zero_le _⟩, Nat.le_of_ble_eq_true rfl⟩ rfl rfl rfl dX6_gainOf_203 ?_
            refine Y_aload_n C (pc := 206) 0 1 rfl rfl dX6_gainOf_206 ?_
            refine Y_getR C (pc := 207) hk0 q_fi_RX6_9 (by decide) dX6_gainOf_207 ?_
            refine Y_iload_n C (pc := 210) 3 4 rfl rfl dX6_gainOf_210 ?_
            refine Y_iload C (pc := 211) 8 rfl dX6_gainOf_211 ?_
            obtain ⟨v20, hv20, h⟩ := Option.bind_eq_some_iff.mp h
            refine Y_callSN C [.ref (ρ (k0 + 1)), .int i3, .int s15.2] [.int v19, .int s15.1] [.int v20, .int v19, .int s15.1] (c_X8_at (q_kr_6_1 hk0) hv20) (fun _ h => h.elim) q_cw_yX8_at q_mn_RX6_57 q_st_yX8_at ⟨⟨Nat.le_of_ble_eq_true rfl, Nat.le_of_ble_eq_true rfl⟩, ⟨Nat.zero_le _, Nat.zero_le _⟩, Nat.le_of_ble_eq_true rfl⟩ rfl rfl rfl dX6_gainOf_213 ?_
            refine Y_isub C (pc := 216) dX6_gainOf_216 ?_
            refine Y_aload_n C (pc := 217) 0 1 rfl rfl dX6_gainOf_217 ?_
            refine Y_getR C (pc := 218) hk0 q_fi_RX6_15 (by decide) dX6_gainOf_218 ?_
            refine Y_iload C (pc := 221) 5 rfl dX6_gainOf_221 ?_
            refine Y_iload C (pc := 223) 0 rfl dX6_gainOf_223 ?_
            obtain ⟨v21, hv21, h⟩ := Option.bind_eq_some_iff.mp h
            refine Y_callSN C [.ref (ρ (k0 + 2)), .int v1, .int v18] [.int (v19 - v20), .int s15.1] [.int v21, .int (v19 - v20), .int s15.1] (c_X8_at (q_kr_6_2 hk0) hv21) (fun _ h => h.elim) q_cw_yX8_at q_mn_RX6_57 q_st_yX8_at ⟨⟨Nat.le_of_ble_eq_true rfl, Nat.le_of_ble_eq_true rfl⟩, ⟨Nat.zero_le _, Nat.zero_le _⟩, Nat.le_of_ble_eq_true rfl⟩ rfl rfl rfl dX6_gainOf_225 ?_
            refine Y_aload_n C (pc := 228) 0 1 rfl rfl dX6_gainOf_228 ?_
            refine Y_getR C (pc := 229) hk0 q_fi_RX6_15 (by decide) dX6_gainOf_229 ?_
            refine Y_iload C (pc := 232) 6 rfl dX6_gainOf_232 ?_
            refine Y_iload C (pc := 234) 0 rfl dX6_gainOf_234 ?_
            obtain ⟨v22, hv22, h⟩ := Option.bind_eq_some_iff.mp h
            refine Y_callSN C [.ref (ρ (k0 + 2)), .int v2, .int v18] [.int v21, .int (v19 - v20), .int s15.1] [.int v22, .int v21, .int (v19 - v20), .int s15.1] (c_X8_at (q_kr_6_2 hk0) hv22) (fun _ h => h.elim) q_cw_yX8_at q_mn_RX6_57 q_st_yX8_at ⟨⟨Nat.le_of_ble_eq_true rfl, Nat.le_of_ble_eq_true rfl⟩, ⟨Nat.zero_le _, Nat.zero_le _⟩, Nat.le_of_ble_eq_true rfl⟩ rfl rfl rfl dX6_gainOf_236 ?_
            refine Y_isub C (pc := 239) dX6_gainOf_239 ?_
            refine Y_imul C (pc := 240) dX6_gainOf_240 ?_
            refine Y_iadd C (pc := 241) dX6_gainOf_241 ?_
            refine Y_istore C (pc := 242) (lv' := [(6, .int (s15.1 + ((v19 - v20) * (v21 - v22)))), (8, .int v18), (0, .ref (ρ k0)), (1, .ref (ρ k1)), (2, .int i2), (3, .int i3), (4, .int v1), (5, .int v2), (7, .int s15.2)]) (by decide) rfl dX6_gainOf_242 ?_
            refine Y_iload C (pc := 244) 0 rfl dX6_gainOf_244 ?_
            refine Y_aload_n C (pc := 246) 0 2 rfl rfl dX6_gainOf_246 ?_
            refine Y_getR C (pc := 247) hk0 q_fi_RX6_9 (by decide) dX6_gainOf_247 ?_
            refine Y_iload C (pc := 250) 8 rfl dX6_gainOf_250 ?_
            refine Y_iload_n C (pc := 252) 2 4 rfl rfl dX6_gainOf_252 ?_
            obtain ⟨v23, hv23, h⟩ := Option.bind_eq_some_iff.mp h
            refine Y_callSN C [.ref (ρ (k0 + 1)), .int s15.2, .int i2] [.int (s15.1 + ((v19 - v20) * (v21 - v22)))] [.int v23, .int (s15.1 + ((v19 - v20) * (v21 - v22)))] (c_X8_at (q_kr_6_1 hk0) hv23) (fun _ h => h.elim) q_cw_yX8_at q_mn_RX6_57 q_st_yX8_at ⟨⟨Nat.le_of_ble_eq_true rfl, Nat.le_of_ble_eq_true rfl⟩, ⟨Nat.zero_le _, Nat.zero_le _⟩, Nat.le_of_ble_eq_true rfl⟩ rfl rfl rfl dX6_gainOf_253 ?_
            refine Y_aload_n C (pc := 256) 0 2 rfl rfl dX6_gainOf_256 ?_
            refine Y_getR C (pc := 257) hk0 q_fi_RX6_9 (by decide) dX6_gainOf_257 ?_
            refine Y_iload C (pc := 260) 8 rfl dX6_gainOf_260 ?_
            refine Y_iload_n C (pc := 262) 3 5 rfl rfl dX6_gainOf_262 ?_
            obtain ⟨v24, hv24, h⟩ := Option.bind_eq_some_iff.mp h
            refine Y_callSN C [.ref (ρ (k0 + 1)), .int s15.2, .int i3] [.int v23, .int (s15.1 + ((v19 - v20) * (v21 - v22)))] [.int v24, .int v23, .int (s15.1 + ((v19 - v20) * (v21 - v22)))] (c_X8_at (q_kr_6_1 hk0) hv24) (fun _ h => h.elim) q_cw_yX8_at q_mn_RX6_57 q_st_yX8_at ⟨⟨Nat.le_of_ble_eq_true rfl, Nat.le_of_ble_eq_true rfl⟩, ⟨Nat.zero_le _, Nat.zero_le _⟩, Nat.le_of_ble_eq_true rfl⟩ rfl rfl rfl dX6_gainOf_263 ?_
            refine Y_isub C (pc := 266) dX6_gainOf_266 ?_
            refine Y_aload_n C (pc := 267) 0 2 rfl rfl dX6_gainOf_267 ?_
            refine Y_getR C (pc := 268) hk0 q_fi_RX6_15 (by decide) dX6_gainOf_268 ?_
            refine Y_iload C (pc := 271) 1 rfl dX6_gainOf_271 ?_
            refine Y_iload C (pc := 273) 6 rfl dX6_gainOf_273 ?_
            obtain ⟨v25, hv25, h⟩ := Option.bind_eq_some_iff.mp h
            refine Y_callSN C [.ref (ρ (k0 + 2)), .int v18, .int v1] [.int (v23 - v24), .int (s15.1 + ((v19 - v20) * (v21 - v22)))] [.int v25, .int (v23 - v24), .int (s15.1 + ((v19 - v20) * (v21 - v22)))] (c_X8_at (q_kr_6_2 hk0) hv25) (fun _ h => h.elim) q_cw_yX8_at q_mn_RX6_57 q_st_yX8_at ⟨⟨Nat.le_of_ble_eq_true rfl, Nat.le_of_ble_eq_true rfl⟩, ⟨Nat.zero_le _, Nat.zero_le _⟩, Nat.le_of_ble_eq_true rfl⟩ rfl rfl rfl dX6_gainOf_275 ?_
            refine Y_aload_n C (pc := 278) 0 2 rfl rfl dX6_gainOf_278 ?_
            refine Y_getR C (pc := 279) hk0 q_fi_RX6_15 (by decide) dX6_gainOf_279 ?_
            refine Y_iload C (pc := 282) 1 rfl dX6_gainOf_282 ?_
            refine Y_iload C (pc := 284) 7 rfl dX6_gainOf_284 ?_
            obtain ⟨v26, hv26, h⟩ := Option.bind_eq_some_iff.mp h
            refine Y_callSN C [.ref (ρ (k0 + 2)), .int v18, .int v2] [.int v25, .int (v23 - v24), .int (s15.1 + ((v19 - v20) * (v21 - v22)))] [.int v26, .int v25, .int (v23 - v24), .int (s15.1 + ((v19 - v20) * (v21 - v22)))] (c_X8_at (q_kr_6_2 hk0) hv26) (fun _ h => h.elim) q_cw_yX8_at q_mn_RX6_57 q_st_yX8_at ⟨⟨Nat.le_of_ble_eq_true rfl, Nat.le_of_ble_eq_true rfl⟩, ⟨Nat.zero_le _, Nat.zero_le _⟩, Nat.le_of_ble_eq_true rfl⟩ rfl rfl rfl dX6_gainOf_286 ?_
            refine Y_isub C (pc := 289) dX6_gainOf_289 ?_
            refine Y_imul C (pc := 290) dX6_gainOf_290 ?_
            refine Y_iadd C (pc := 291) dX6_gainOf_291 ?_
            refine Y_istore C (pc := 292) (lv' := [(6, .int ((s15.1 + ((v19 - v20) * (v21 - v22))) + ((v23 - v24) * (v25 - v26)))), (8, .int v18), (0, .ref (ρ k0)), (1, .ref (ρ k1)), (2, .int i2), (3, .int i3), (4, .int v1), (5, .int v2), (7, .int s15.2)]) (by decide) rfl dX6_gainOf_292 ?_
            exact Y_sub [2, 3, 4, 5, 6, 7, 0, 8] rfl (hJ294 _ _ h)
    · refine Y_iload C (pc := 300) 0 rfl dX6_gainOf_300 ?_
      cases h
      exact Y_iret C dX6_gainOf_302
  · rw [if_pos c31] at h
    refine Y_iconst C (pc := 5) (v := (0 : Int32)) (by decide) dX6_gainOf_5 ?_
    cases h
    exact Y_iret C dX6_gainOf_6

set_option maxRecDepth 100000 in
set_option maxHeartbeats 4000000 in
theorem c_X6_isLocalOptimum {l : Launch} {D : va_G} {cA ρ : Nat → Nat} {σ : Sg} {τ : Tg} {k0 : Nat} {k1 : Nat} (hk0 : kd k0 = (0, 6)) (hk1 : (kd k1).1 = 1) {r : Int32} (h : f_X6_isLocalOptimum σ k0 k1 = some r) : Ct l yX6_isLocalOptimum cX6_isLocalOptimum 4 (some .boolean) 2 51 D cA ρ A0 [.ref (ρ k0), .ref (ρ k1)] σ τ (some (.int r)) σ τ := by
  refine Ct_of (by decide +kernel) (Nat.le_of_ble_eq_true rfl) (fun p e s m args below meth c C => ?_)
  have C : Ctx p l s m args meth c cX6_isLocalOptimum RX6 4 (some .boolean) D cA ρ A0 := C
  unfold f_X6_isLocalOptimum at h
  refine Y_sub [0, 1] (lv' := [(0, .ref (ρ k0)), (1, .ref (ρ k1))]) rfl ?_
  refine Y_iconst C (pc := 0) (v := (0 : Int32)) (by decide) dX6_isLocalOptimum_0 ?_
  refine Y_istore_n C (pc := 1) (lv' := [(2, .int (0 : Int32)), (0, .ref (ρ k0)), (1, .ref (ρ k1))]) 2 rfl (by decide) rfl dX6_isLocalOptimum_1 ?_
  obtain ⟨e15, he15, h⟩ := Option.bind_eq_some_iff.mp h
  refine Y_sub [1, 2, 0] (lv' := [(0, .ref (ρ k0)), (1, .ref (ρ k1)), (2, .int (0 : Int32))]) rfl ?_
  refine lo_rule (f := (f_X6_isLocalOptimum_L2 σ k0 k1)) (YS := fun s1 => Y p l e (Rm 2 51) s m args below meth c 4 D cA ρ A0 0 0 (MQ below (QC D cA ρ A0 (some (.int r)) σ τ) args s 0 0 A0) σ τ 2 [(0, .ref (ρ k0)), (1, .ref (ρ k1)), (2, .int s1)] []) (YE := fun e15 => (∀ e16, e15 = (.inl e16) → Y p l e (Rm 2 51) s m args below meth c 4 D cA ρ A0 0 0 (MQ below (QC D cA ρ A0 (some (.int r)) σ τ) args s 0 0 A0) σ τ 48 [] []) ∧ (∀ e17, e15 = (.inr e17) → Y p l e (Rm 2 51) s m args below meth c 4 D cA ρ A0 0 0 (MQ below (QC D cA ρ A0 (some (.int r)) σ τ) args s 0 0 A0) σ τ 62 [] [])) ?_ he15 ?_
  · intro s1 x h hLp hE
    have hE0 : ∀ y, x = .inr (.inl y) → _ := fun y q => (hE _ q).1 y rfl
    have hE1 : ∀ y, x = .inr (.inr y) → _ := fun y q => (hE _ q).2 y rfl
    unfold f_X6_isLocalOptimum_L2 at h
    refine Y_iload_n C (pc := 2) 2 2 rfl rfl dX6_isLocalOptimum_2 ?_
    refine Y_aload_n C (pc := 3) 0 0 rfl rfl dX6_isLocalOptimum_3 ?_
    refine Y_getI C (pc := 4) hk0 q_fi_RX6_31 dX6_isLocalOptimum_4 ?_
    refine Y_icmp_ge C (pc := 7) (tgt := 62) dX6_isLocalOptimum_7 (by decide) (fun c14 => ?_) (fun c14 => ?_)
    · rw [if_pos c14] at h
      have h := Option.some.inj h
      exact Y_sub [] rfl (hE1 _ h.symm)
    · rw [if_neg c14] at h
      refine Y_iload_n C (pc := 10) 2 2 rfl rfl dX6_isLocalOptimum_10 ?_
      refine Y_iconst C (pc := 11) (v := (1 : Int32)) (by decide) dX6_isLocalOptimum_11 ?_
      refine Y_iadd C (pc := 12) dX6_isLocalOptimum_12 ?_
      refine Y_istore_n C (pc := 13) (lv' := [(3, .int (s1 + (1 : Int32))), (0, .ref (ρ k0)), (1, .ref (ρ k1)), (2, .int s1)]) 3 rfl (by decide) rfl dX6_isLocalOptimum_13 ?_
      obtain ⟨e11, he11, h⟩ := Option.bind_eq_some_iff.mp h
      refine Y_sub [1, 2, 3, 0] (lv' := [(0, .ref (ρ k0)), (1, .ref (ρ k1)), (2, .int s1), (3, .int (s1 + (1 : Int32)))]) rfl ?_
      refine lo_rule (f := (f_X6_isLocalOptimum_L14 σ k0 s1 k1)) (YS := fun s2 => Y p l e (Rm 2 51) s m args below meth c 4 D cA ρ A0 0 0 (MQ below (QC D cA ρ A0 (some (.int r)) σ τ) args s 0 0 A0) σ τ 14 [(0, .ref (ρ k0)), (1, .ref (ρ k1)), (2, .int s1), (3, .int s2)] []) (YE := fun e11 => (∀ e12, e11 = (.inl e12) → Y p l e (Rm 2 51) s m args below meth c 4 D cA ρ A0 0 0 (MQ below (QC D cA ρ A0 (some (.int r)) σ τ) args s 0 0 A0) σ τ 48 [] []) ∧ (∀ e13, e11 = (.inr e13) → Y p l e (Rm 2 51) s m args below meth c 4 D cA ρ A0 0 0 (MQ below (QC D cA ρ A0 (some (.int r)) σ τ) args s 0 0 A0) σ τ 56 [(0, .ref (ρ k0)), (1, .ref (ρ k1)), (2, .int s1)] [])) ?_ he11 ?_
      · intro s2 x h hLp hE
        have hE0 : ∀ y, x = .inr (.inl y) → _ := fun y q => (hE _ q).1 y rfl
        have hE1 : ∀ y, x = .inr (.inr y) → _ := fun y q => (hE _ q).2 y rfl
        unfold f_X6_isLocalOptimum_L14 at h
        have hJ50 : ∀ (j4 : Int32), f_X6_isLocalOptimum_J50 j4 = some x → Y p l e (Rm 2 51) s m args below meth c 4 D cA ρ A0 0 0 (MQ below (QC D cA ρ A0 (some (.int r)) σ τ) args s 0 0 A0) σ τ 50 [(0, .ref (ρ k0)), (1, .ref (ρ k1)), (2, .int s1), (3, .int j4)] [] := by
          intro j4 h
          unfold f_X6_isLocalOptimum_J50 at h
          refine Y_iinc C (pc := 50) (v := (j4 + 1)) (lv' := [(3, .int (j4 + 1)), (0, .ref (ρ k0)), (1, .ref (ρ k1)), (2, .int s1)]) 3 rfl (congrArg (fun z => j4 + z) (by decide : Int32.ofInt (1) = (1))) (by decide) rfl dX6_isLocalOptimum_50 ?_
          refine Y_goto C (pc := 53) (tgt := 14) dX6_isLocalOptimum_53 (by decide) ?_
          have h := Option.some.inj h
          exact Y_sub [1, 2, 3, 0] rfl (hLp _ h.symm)
        refine Y_iload_n C (pc := 14) 3 3 rfl rfl dX6_isLocalOptimum_14 ?_
        refine Y_aload_n C (pc := 15) 0 0 rfl rfl dX6_isLocalOptimum_15 ?_
        refine Y_getI C (pc := 16) hk0 q_fi_RX6_31 dX6_isLocalOptimum_16 ?_
        refine Y_icmp_ge C (pc := 19) (tgt := 56) dX6_isLocalOptimum_19 (by decide) (fun c10 => ?_) (fun c10 => ?_)
        · rw [if_pos c10] at h
          have h := Option.some.inj h
          exact Y_sub [0, 1, 2] rfl (hE1 _ h.symm)
        · rw [if_neg c10] at h
          refine Y_aload_n C (pc := 22) 0 0 rfl rfl dX6_isLocalOptimum_22 ?_
          refine Y_iload_n C (pc := 23) 2 2 rfl rfl dX6_isLocalOptimum_23 ?_
          obtain ⟨v3, hv3, h⟩ := Option.bind_eq_some_iff.mp h
          refine Y_callV C [.int s1] [] [.int v3] hk0 rfl rfl (c_X6_isFree hk0 hv3) (fun _ h => h.elim) q_cw_yX6_isFree q_ml_RX6_69 ⟨q_im_yX6_isFree, q_se_yX6_isFree⟩ ⟨⟨Nat.le_of_ble_eq_true rfl, Nat.le_of_ble_eq_true rfl⟩, ⟨Nat.zero_le _, Nat.zero_le _⟩, Nat.le_of_ble_eq_true rfl⟩ rfl rfl rfl dX6_isLocalOptimum_24 ?_
          refine Y_if_eq C (pc := 27) (tgt := 50) dX6_isLocalOptimum_27 (by decide) (fun c9 => ?_) (fun c9 => ?_)
          · rw [if_pos c9] at h
            exact Y_sub [0, 1, 2, 3] rfl (hJ50 _ h)
          · rw [if_neg c9] at h
            refine Y_aload_n C (pc := 30) 0 0 rfl rfl dX6_isLocalOptimum_30 ?_
            refine Y_iload_n C (pc := 31) 3 3 rfl rfl dX6_isLocalOptimum_31 ?_
            obtain ⟨v5, hv5, h⟩ := Option.bind_eq_some_iff.mp h
            refine Y_callV C [.int s2] [] [.int v5] hk0 rfl rfl (c_X6_isFree hk0 hv5) (fun _ h => h.elim) q_cw_yX6_isFree q_ml_RX6_69 ⟨q_im_yX6_isFree, q_se_yX6_isFree⟩ ⟨⟨Nat.le_of_ble_eq_true rfl, Nat.le_of_ble_eq_true rfl⟩, ⟨Nat.zero_le _, Nat.zero_le _⟩, Nat.le_of_ble_eq_true rfl⟩ rfl rfl rfl dX6_isLocalOptimum_32 ?_
            refine Y_if_eq C (pc := 35) (tgt := 50) dX6_isLocalOptimum_35 (by decide) (fun c8 => ?_) (fun c8 => ?_)
            · rw [if_pos c8] at h
              exact Y_sub [0, 1, 2, 3] rfl (hJ50 _ h)
            · rw [if_neg c8] at h
              refine Y_aload_n C (pc := 38) 0 0 rfl rfl dX6_isLocalOptimum_38 ?_
              refine Y_aload_n C (pc := 39) 1 1 rfl rfl dX6_isLocalOptimum_39 ?_
              refine Y_iload_n C (pc := 40) 2 2 rfl rfl dX6_isLocalOptimum_40 ?_
              refine Y_iload_n C (pc := 41) 3 3 rfl rfl dX6_isLocalOptimum_41 ?_
              obtain ⟨v6, hv6, h⟩ := Option.bind_eq_some_iff.mp h
              refine Y_callV C [.ref (ρ k1), .int s1, .int s2] [] [.int v6] hk0 rfl rfl (c_X6_gainOf hk0 hk1 hv6) (fun _ h => h.elim) q_cw_yX6_gainOf q_ml_RX6_73 ⟨q_im_yX6_gainOf, q_se_yX6_gainOf⟩ ⟨⟨Nat.le_of_ble_eq_true rfl, Nat.le_of_ble_eq_true rfl⟩, ⟨Nat.zero_le _, Nat.zero_le _⟩, Nat.le_of_ble_eq_true rfl⟩ rfl rfl rfl dX6_isLocalOptimum_42 ?_
              refine Y_if_le C (pc := 45) (tgt := 50) dX6_isLocalOptimum_45 (by decide) (fun c7 => ?_) (fun c7 => ?_)
              · rw [if_pos c7] at h
                exact Y_sub [0, 1, 2, 3] rfl (hJ50 _ h)
              · rw [if_neg c7] at h
                have h := Option.some.inj h
                exact Y_sub [] rfl (hE0 _ h.symm)
      refine ⟨?_, ?_⟩
      · intro e12 q
        subst q
        simp only [Sum.elim_inl, Sum.elim_inr] at h
        have h := Option.some.inj h
        exact Y_sub [] rfl (hE0 _ h.symm)
      · intro e13 q
        subst q
        simp only [Sum.elim_inl, Sum.elim_inr] at h
        refine Y_iinc C (pc := 56) (v := (s1 + 1)) (lv' := [(2, .int (s1 + 1)), (0, .ref (ρ k0)), (1, .ref (ρ k1))]) 2 rfl (congrArg (fun z => s1 + z) (by decide : Int32.ofInt (1) = (1))) (by decide) rfl dX6_isLocalOptimum_56 ?_
        refine Y_goto C (pc := 59) (tgt := 2) dX6_isLocalOptimum_59 (by decide) ?_
        have h := Option.some.inj h
        exact Y_sub [1, 2, 0] rfl (hLp _ h.symm)
  refine ⟨?_, ?_⟩
  · intro e16 q
    subst q
    simp only [Sum.elim_inl, Sum.elim_inr] at h
    refine Y_iconst C (pc := 48) (v := (0 : Int32)) (by decide) dX6_isLocalOptimum_48 ?_
    cases h
    exact Y_zret (by decide) C dX6_isLocalOptimum_49
  · intro e17 q
    subst q
    simp only [Sum.elim_inl, Sum.elim_inr] at h
    refine Y_iconst C (pc := 62) (v := (1 : Int32)) (by decide) dX6_isLocalOptimum_62 ?_
    cases h
    exact Y_zret (by decide) C dX6_isLocalOptimum_63

