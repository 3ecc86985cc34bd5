set_option maxRecDepth 100000 in
set_option maxHeartbeats 4000000 in
theorem c_X0_countLocalOptima {l : Launch} {D : va_G} {cA ρ : Nat → Nat} {σ : Sg} {τ : Tg} {k0 : Nat} {k1 : Nat} (hI : Inj ρ) (hk0 : kd k0 = (0, 0)) (hk1 : kd k1 = (0, 6)) {r : Int32 × Sg} (h : f_X0_countLocalOptima σ k0 k1 = some r) : Ct l yX0_countLocalOptima cX0_countLocalOptima 4 (some .int) 3 74 D cA ρ (Aw ρ) [.ref (ρ k0), .ref (ρ k1)] σ τ (some (.int r.1)) r.2 τ := by
  refine Ct_of (by decide +kernel) (Nat.le_of_ble_eq_true rfl) (fun p e s m args below meth c C => ?_)
  have C : Ctx p l s m args meth c cX0_countLocalOptima RX0 4 (some .int) D cA ρ (Aw ρ) := C
  have hW : Wr ρ (Aw ρ) := ⟨hI, fun k hk => ⟨k, hk, rfl⟩⟩
  unfold f_X0_countLocalOptima at h
  refine Y_sub [0, 1] (lv' := [(0, .ref (ρ k0)), (1, .ref (ρ k1))]) rfl ?_
  refine Y_aload_n C (pc := 0) 0 0 rfl rfl dX0_countLocalOptima_0 ?_
  refine Y_aload_n C (pc := 1) 1 1 rfl rfl dX0_countLocalOptima_1 ?_
  refine Y_getI C (pc := 2) hk1 q_fi_RX0_18 dX0_countLocalOptima_2 ?_
  obtain ⟨v1, hv1, h⟩ := Option.bind_eq_some_iff.mp h
  refine Y_callV C [.int (σ k1 0)] [] [] hk0 rfl rfl (c_X0_restart hI hk0 hv1) (fun _ h => h) q_cw_yX0_restart q_ml_RX0_24 ⟨q_im_yX0_restart, q_se_yX0_restart⟩ ⟨⟨Nat.le_of_ble_eq_true rfl, Nat.le_of_ble_eq_true rfl⟩, ⟨Nat.zero_le _, Nat.zero_le _⟩, Nat.le_of_ble_eq_true rfl⟩ rfl rfl rfl dX0_countLocalOptima_5 ?_
  refine Y_iconst C (pc := 8) (v := (0 : Int32)) (by decide) dX0_countLocalOptima_8 ?_
  refine Y_istore_n C (pc := 9) (lv' := [(2, .int (0 : Int32)), (0, .ref (ρ k0)), (1, .ref (ρ k1))]) 2 rfl (by decide) rfl dX0_countLocalOptima_9 ?_
  refine Y_iconst C (pc := 10) (v := (0 : Int32)) (by decide) dX0_countLocalOptima_10 ?_
  refine Y_istore_n C (pc := 11) (lv' := [(3, .int (0 : Int32)), (2, .int (0 : Int32)), (0, .ref (ρ k0)), (1, .ref (ρ k1))]) 3 rfl (by decide) rfl dX0_countLocalOptima_11 ?_
  obtain ⟨e12, he12, h⟩ := Option.bind_eq_some_iff.mp h
  refine Y_sub [2, 3, 1, 0] (lv' := [(0, .ref (ρ k0)), (1, .ref (ρ k1)), (2, .int (0 : Int32)), (3, .int (0 : Int32))]) rfl ?_
  refine lo_rule (f := (f_X0_countLocalOptima_L12 k0 k1)) (YS := fun s2 => Y p l e (Rm 3 74) s m args below meth c 4 D cA ρ (Aw ρ) 0 0 (MQ below (QC D cA ρ (Aw ρ) (some (.int r.1)) r.2 τ) args s 0 0 (Aw ρ)) s2.2.2 τ 12 [(0, .ref (ρ k0)), (1, .ref (ρ k1)), (2, .int s2.1), (3, .int s2.2.1)] []) (YE := fun e12 => Y p l e (Rm 3 74) s m args below meth c 4 D cA ρ (Aw ρ) 0 0 (MQ below (QC D cA ρ (Aw ρ) (some (.int r.1)) r.2 τ) args s 0 0 (Aw ρ)) e12.2 τ 62 [(2, .int e12.1)] []) ?_ he12 ?_
  · intro s2 x h hLp hE
    unfold f_X0_countLocalOptima_L12 at h
    have hJ45 : ∀ (j4 : Int32) (j5 : Int32) (sj6 : Sg), f_X0_countLocalOptima_J45 k0 k1 j4 j5 sj6 = some x → Y p l e (Rm 3 74) s m args below meth c 4 D cA ρ (Aw ρ) 0 0 (MQ below (QC D cA ρ (Aw ρ) (some (.int r.1)) r.2 τ) args s 0 0 (Aw ρ)) sj6 τ 45 [(0, .ref (ρ k0)), (1, .ref (ρ k1)), (2, .int j4), (3, .int j5)] [] := by
      intro j4 j5 sj6 h
      unfold f_X0_countLocalOptima_J45 at h
      refine Y_aload_n C (pc := 45) 0 0 rfl rfl dX0_countLocalOptima_45 ?_
      refine Y_getR C (pc := 46) hk0 q_fi_RX0_15 (by decide) dX0_countLocalOptima_46 ?_
      refine Y_aload_n C (pc := 49) 1 1 rfl rfl dX0_countLocalOptima_49 ?_
      refine Y_getI C (pc := 50) hk1 q_fi_RX0_18 dX0_countLocalOptima_50 ?_
      obtain ⟨v7, hv7, h⟩ := Option.bind_eq_some_iff.mp h
      refine Y_callSN C [.ref (ρ (k0 + 2)), .int (sj6 k1 0)] [] [] (c_X8_advance hI (q_kr_0_5 hk0) (q_lr_0_5 hk0) hv7) (fun _ h => h) q_cw_yX8_advance q_mn_RX0_59 q_st_yX8_advance ⟨⟨Nat.le_of_ble_eq_true rfl, Nat.le_of_ble_eq_true rfl⟩, ⟨Nat.zero_le _, Nat.zero_le _⟩, Nat.le_of_ble_eq_true rfl⟩ rfl rfl rfl dX0_countLocalOptima_53 ?_
      refine Y_iinc C (pc := 56) (v := (j5 + 1)) (lv' := [(3, .int (j5 + 1)), (0, .ref (ρ k0)), (1, .ref (ρ k1)), (2, .int j4)]) 3 rfl (congrArg (fun z => j5 + z) (by decide : Int32.ofInt (1) = (1))) (by decide) rfl dX0_countLocalOptima_56 ?_
      refine Y_goto C (pc := 59) (tgt := 12) dX0_countLocalOptima_59 (by decide) ?_
      have h := Option.some.inj h
      exact Y_sub [1, 2, 3, 0] rfl (hLp _ h.symm)
    refine Y_iload_n C (pc := 12) 3 3 rfl rfl dX0_countLocalOptima_12 ?_
    refine Y_aload_n C (pc := 13) 0 0 rfl rfl dX0_countLocalOptima_13 ?_
    refine Y_getI C (pc := 14) hk0 q_fi_RX0_38 dX0_countLocalOptima_14 ?_
    refine Y_icmp_ge C (pc := 17) (tgt := 62) dX0_countLocalOptima_17 (by decide) (fun c11 => ?_) (fun c11 => ?_)
    · rw [if_pos c11] at h
      have h := Option.some.inj h
      exact Y_sub [2] rfl (hE _ h.symm)
    · rw [if_neg c11] at h
      refine Y_aload_n C (pc := 20) 1 1 rfl rfl dX0_countLocalOptima_20 ?_
      refine Y_aload_n C (pc := 21) 0 0 rfl rfl dX0_countLocalOptima_21 ?_
      refine Y_getR C (pc := 22) hk0 q_fi_RX0_15 (by decide) dX0_countLocalOptima_22 ?_
      obtain ⟨v3, hv3, h⟩ := Option.bind_eq_some_iff.mp h
      refine Y_callV C [.ref (ρ (k0 + 2))] [] [.int v3] hk1 rfl rfl (c_X6_agrees hk1 (q_kr_0_5 hk0) hv3) (fun _ h => h.elim) q_cw_yX6_agrees q_ml_RX0_41 ⟨q_im_yX6_agrees, q_se_yX6_agrees⟩ ⟨⟨Nat.le_of_ble_eq_true rfl, Nat.le_of_ble_eq_true rfl⟩, ⟨Nat.zero_le _, Nat.zero_le _⟩, Nat.le_of_ble_eq_true rfl⟩ rfl rfl rfl dX0_countLocalOptima_25 ?_
      refine Y_if_eq C (pc := 28) (tgt := 45) dX0_countLocalOptima_28 (by decide) (fun c10 => ?_) (fun c10 => ?_)
      · rw [if_pos c10] at h
        exact Y_sub [0, 1, 2, 3] rfl (hJ45 _ _ _ h)
      · rw [if_neg c10] at h
        refine Y_aload_n C (pc := 31) 1 1 rfl rfl dX0_countLocalOptima_31 ?_
        refine Y_aload_n C (pc := 32) 0 0 rfl rfl dX0_countLocalOptima_32 ?_
        refine Y_getR C (pc := 33) hk0 q_fi_RX0_15 (by decide) dX0_countLocalOptima_33 ?_
        obtain ⟨v8, hv8, h⟩ := Option.bind_eq_some_iff.mp h
        refine Y_callV C [.ref (ρ (k0 + 2))] [] [.int v8] hk1 rfl rfl (c_X6_isLocalOptimum hk1 (q_kr_0_5 hk0) hv8) (fun _ h => h.elim) q_cw_yX6_isLocalOptimum q_ml_RX0_71 ⟨q_im_yX6_isLocalOptimum, q_se_yX6_isLocalOptimum⟩ ⟨⟨Nat.le_of_ble_eq_true rfl, Nat.le_of_ble_eq_true rfl⟩, ⟨Nat.zero_le _, Nat.zero_le _⟩, Nat.le_of_ble_eq_true rfl⟩ rfl rfl rfl dX0_countLocalOptima_36 ?_
        refine Y_if_eq C (pc := 39) (tgt := 45) dX0_countLocalOptima_39 (by decide) (fun c9 => ?_) (fun c9 => ?_)
        · rw [if_pos c9] at h
          exact Y_sub [0, 1, 2, 3] rfl (hJ45 _ _ _ h)
        · rw [if_neg c9] at h
          refine Y_iinc C (pc := 42) (v := (s2.1 + 1)) (lv' := [(2, .int (s2.1 + 1)), (0, .ref (ρ k0)), (1, .ref (ρ k1)), (3, .int s2.2.1)]) 2 rfl (congrArg (fun z => s2.1 + z) (by decide : Int32.ofInt (1) = (1))) (by decide) rfl dX0_countLocalOptima_42 ?_
          exact Y_sub [1, 2, 0, 3] rfl (hJ45 _ _ _ h)
  · refine Y_iload_n C (pc := 62) 2 0 rfl rfl dX0_countLocalOptima_62 ?_
    cases h
    exact Y_iret C dX0_countLocalOptima_63

set_option maxRecDepth 100000 in
set_option maxHeartbeats 4000000 in
theorem c_X8_takenBy {l : Launch} {D : va_G} {cA ρ : Nat → Nat} {σ : Sg} {τ : Tg} {k0 : Nat} (hk0 : (kd k0).1 = 1) {r : Int32} (h : f_X8_takenBy σ k0 = some r) : Ct l yX8_takenBy cX8_takenBy 6 (some .int) 0 0 D cA ρ A0 [.ref (ρ k0)] σ τ (some (.int r)) σ τ := by
  refine Ct_of (by decide +kernel) (Nat.le_of_ble_eq_true rfl) (fun p e s m args below meth c C => ?_)
  have C : Ctx p l s m args meth c cX8_takenBy RX8 6 (some .int) D cA ρ A0 := C
  unfold f_X8_takenBy at h
  refine Y_sub [0] (lv' := [(0, .ref (ρ k0))]) rfl ?_
  refine Y_iconst C (pc := 0) (v := (0 : Int32)) (by decide) dX8_takenBy_0 ?_
  refine Y_istore_n C (pc := 1) (lv' := [(1, .int (0 : Int32)), (0, .ref (ρ k0))]) 1 rfl (by decide) rfl dX8_takenBy_1 ?_
  refine Y_aload_n C (pc := 2) 0 1 rfl rfl dX8_takenBy_2 ?_
  refine Y_astore_n C (pc := 3) (lv' := [(2, .ref (ρ k0)), (1, .int (0 : Int32)), (0, .ref (ρ k0))]) 2 rfl (by decide) rfl dX8_takenBy_3 ?_
  refine Y_aload_n C (pc := 4) 2 0 rfl rfl dX8_takenBy_4 ?_
  refine Y_alen1 C (pc := 5) hk0 dX8_takenBy_5 ?_
  refine Y_istore_n C (pc := 6) (lv' := [(3, .int (Int32.ofNat (ln k0))), (2, .ref (ρ k0)), (1, .int (0 : Int32)), (0, .ref (ρ k0))]) 3 rfl (by decide) rfl dX8_takenBy_6 ?_
  refine Y_iconst C (pc := 7) (v := (0 : Int32)) (by decide) dX8_takenBy_7 ?_
  refine Y_istore C (pc := 8) (lv' := [(4, .int (0 : Int32)), (3, .int (Int32.ofNat (ln k0))), (2, .ref (ρ k0)), (1, .int (0 : Int32)), (0, .ref (ρ k0))]) (by decide) rfl dX8_takenBy_8 ?_
  obtain ⟨e7, he7, h⟩ := Option.bind_eq_some_iff.mp h
  refine Y_sub [3, 2, 1, 0] (lv' := [(1, .int (0 : Int32)), (2, .ref (ρ k0)), (3, .int (Int32.ofNat (ln k0))), (4, .int (0 : Int32))]) rfl ?_
  refine lo_rule (f := (f_X8_takenBy_L10 k0 σ)) (YS := fun s1 => Y p l e (Rm 0 0) s m args below meth c 6 D cA ρ A0 0 0 (MQ below (QC D cA ρ A0 (some (.int r)) σ τ) args s 0 0 A0) σ τ 10 [(1, .int s1.1), (2, .ref (ρ k0)), (3, .int (Int32.ofNat (ln k0))), (4, .int s1.2)] []) (YE := fun e7 => Y p l e (Rm 0 0) s m args below meth c 6 D cA ρ A0 0 0 (MQ below (QC D cA ρ A0 (some (.int r)) σ τ) args s 0 0 A0) σ τ 41 [(1, .int e7)] []) ?_ he7 ?_
  · intro s1 x h hLp hE
    unfold f_X8_takenBy_L10 at h
    have hJ35 : ∀ (j3 : Int32) (j4 : Int32), f_X8_takenBy_J35 j3 j4 = some x → Y p l e (Rm 0 0) s m args below meth c 6 D cA ρ A0 0 0 (MQ below (QC D cA ρ A0 (some (.int r)) σ τ) args s 0 0 A0) σ τ 35 [(1, .int j3), (2, .ref (ρ k0)), (3, .int (Int32.ofNat (ln k0))), (4, .int j4)] [] := by
      intro j3 j4 h
      unfold f_X8_takenBy_J35 at h
      refine Y_iinc C (pc := 35) (v := (j4 + 1)) (lv' := [(4, .int (j4 + 1)), (1, .int j3), (2, .ref (ρ k0)), (3, .int (Int32.ofNat (ln k0)))]) 3 rfl (congrArg (fun z => j4 + z) (by decide : Int32.ofInt (1) = (1))) (by decide) rfl dX8_takenBy_35 ?_
      refine Y_goto C (pc := 38) (tgt := 10) dX8_takenBy_38 (by decide) ?_
      have h := Option.some.inj h
      exact Y_sub [1, 2, 3, 0] rfl (hLp _ h.symm)
    refine Y_iload C (pc := 10) 3 rfl dX8_takenBy_10 ?_
    refine Y_iload_n C (pc := 12) 3 2 rfl rfl dX8_takenBy_12 ?_
    refine Y_icmp_ge C (pc := 13) (tgt := 41) dX8_takenBy_13 (by decide) (fun c6 => ?_) (fun c6 => ?_)
    · rw [if_pos c6] at h
      have h := Option.some.inj h
      exact Y_sub [0] rfl (hE _ h.symm)
    · rw [if_neg c6] at h
      refine Y_aload_n C (pc := 16) 2 1 rfl rfl dX8_takenBy_16 ?_
      refine Y_iload C (pc := 17) 3 rfl dX8_takenBy_17 ?_
      obtain ⟨v2, hv2, h⟩ := Option.bind_eq_some_iff.mp h
      refine Y_iald C (pc := 19) hk0 hv2 dX8_takenBy_19 ?_
      refine Y_istore C (pc := 20) (lv' := [(5, .int v2), (1, .int s1.1), (2, .ref (ρ k0)), (3, .int (Int32.ofNat (ln k0))), (4, .int s1.2)]) (by decide) rfl dX8_takenBy_20 ?_
      refine Y_iload C (pc := 22) 0 rfl dX8_takenBy_22 ?_
      refine Y_iconst C (pc := 24) (v := (-1 : Int32)) (by decide) dX8_takenBy_24 ?_
      refine Y_icmp_eq C (pc := 25) (tgt := 35) dX8_takenBy_25 (by decide) (fun c5 => ?_) (fun c5 => ?_)
      · rw [if_pos c5] at h
        exact Y_sub [1, 2, 3, 4] rfl (hJ35 _ _ h)
      · rw [if_neg c5] at h
        refine Y_iload_n C (pc := 28) 1 1 rfl rfl dX8_takenBy_28 ?_
        refine Y_iconst C (pc := 29) (v := (1 : Int32)) (by decide) dX8_takenBy_29 ?_
        refine Y_iload C (pc := 30) 0 rfl dX8_takenBy_30 ?_
        refine Y_ishl C (pc := 32) dX8_takenBy_32 ?_
        refine Y_ior C (pc := 33) dX8_takenBy_33 ?_
        refine Y_istore_n C (pc := 34) (lv' := [(1, .int (s1.1 ||| ((1 : Int32) <<< (v2 &&& 31)))), (5, .int v2), (2, .ref (ρ k0)), (3, .int (Int32.ofNat (ln k0))), (4, .int s1.2)]) 1 rfl (by decide) rfl dX8_takenBy_34 ?_
        exact Y_sub [0, 2, 3, 4] rfl (hJ35 _ _ h)
  · refine Y_iload_n C (pc := 41) 1 0 rfl rfl dX8_takenBy_41 ?_
    cases h
    exact Y_iret C dX8_takenBy_42

set_option maxRecDepth 100000 in
set_option maxHeartbeats 4000000 in
theorem c_X1_collectFree {l : Launch} {D : va_G} {cA ρ : Nat → Nat} {σ : Sg} {τ : Tg} {k0 : Nat} {k1 : Nat} (hI : Inj ρ) (hk0 : kd k0 = (0, 1)) (hk1 : (kd k1).1 = 1) {r : Sg} (h : f_X1_collectFree σ k0 k1 = some r) : Ct l yX1_collectFree cX1_collectFree 3 none 1 25 D cA ρ (Aw ρ) [.ref (ρ k0), .ref (ρ k1)] σ τ none r τ := by
  refine Ct_of (by decide +kernel) (Nat.le_of_ble_eq_true rfl) (fun p e s m args below meth c C => ?_)
  have C : Ctx p l s m args meth c cX1_collectFree RX1 3 none D cA ρ (Aw ρ) := C
  have hW : Wr ρ (Aw ρ) := ⟨hI, fun k hk => ⟨k, hk, rfl⟩⟩
  unfold f_X1_collectFree at h
  refine Y_sub [0, 1] (lv' := [(0, .ref (ρ k0)), (1, .ref (ρ k1))]) rfl ?_
  refine Y_aload_n C (pc := 0) 0 0 rfl rfl dX1_collectFree_0 ?_
  refine Y_iconst C (pc := 1) (v := (1 : Int32)) (by decide) dX1_collectFree_1 ?_
  refine Y_aload_n C (pc := 2) 0 0 rfl rfl dX1_collectFree_2 ?_
  refine Y_getI C (pc := 3) hk0 q_fi_RX1_33 dX1_collectFree_3 ?_
  refine Y_ishl C (pc := 6) dX1_collectFree_6 ?_
  refine Y_iconst C (pc := 7) (v := (1 : Int32)) (by decide) dX1_collectFree_7 ?_
  refine Y_isub C (pc := 8) dX1_collectFree_8 ?_
  refine Y_aload_n C (pc := 9) 1 1 rfl rfl dX1_collectFree_9 ?_
  obtain ⟨v1, hv1, h⟩ := Option.bind_eq_some_iff.mp h
  refine Y_callSN C [.ref (ρ k1)] [.int (((1 : Int32) <<< ((σ k0 2) &&& 31)) - (1 : Int32)), .ref (ρ k0)] [.int v1, .int (((1 : Int32) <<< ((σ k0 2) &&& 31)) - (1 : Int32)), .ref (ρ k0)] (c_X8_takenBy hk1 hv1) (fun _ h => h.elim) q_cw_yX8_takenBy q_mn_RX1_77 q_st_yX8_takenBy ⟨⟨Nat.le_of_ble_eq_true rfl, Nat.le_of_ble_eq_true rfl⟩, ⟨Nat.zero_le _, Nat.zero_le _⟩, Nat.le_of_ble_eq_true rfl⟩ rfl rfl rfl dX1_collectFree_10 ?_
  refine Y_iconst C (pc := 13) (v := (-1 : Int32)) (by decide) dX1_collectFree_13 ?_
  refine Y_ixor C (pc := 14) dX1_collectFree_14 ?_
  refine Y_iand C (pc := 15) dX1_collectFree_15 ?_
  refine Y_putI C (pc := 16) hW hk0 (q_lo_1 hk0) q_fp_RX1_58 dX1_collectFree_16 ?_
  refine Y_aload_n C (pc := 19) 0 0 rfl rfl dX1_collectFree_19 ?_
  refine Y_iconst C (pc := 20) (v := (0 : Int32)) (by decide) dX1_collectFree_20 ?_
  refine Y_putI C (pc := 21) hW hk0 (q_lo_1 hk0) q_fp_RX1_48 dX1_collectFree_21 ?_
  refine Y_aload_n C (pc := 24) 0 0 rfl rfl dX1_collectFree_24 ?_
  refine Y_iconst C (pc := 25) (v := (0 : Int32)) (by decide) dX1_collectFree_25 ?_
  refine Y_putI C (pc := 26) hW hk0 (q_lo_1 hk0) q_fp_RX1_80 dX1_collectFree_26 ?_
  refine Y_iconst C (pc := 29) (v := (0 : Int32)) (by decide) dX1_collectFree_29 ?_
  refine Y_istore_n C (pc := 30) (lv' := [(2, .int (0 : Int32)), (0, .ref (ρ k0)), (1, .ref (ρ k1))]) 2 rfl (by decide) rfl dX1_collectFree_30 ?_
  obtain ⟨e9, he9, h⟩ := Option.bind_eq_some_iff.mp h
  refine Y_sub [1, 2, 0] (lv' := [(0, .ref (ρ k0)), (1, .ref (ρ k1)), (2, .int (0 : Int32))]) rfl ?_
  refine lo_rule (f := (f_X1_collectFree_L31 k0 k1)) (YS := fun s2 => Y p l e (Rm 1 25) s m args below meth c 3 D cA ρ (Aw ρ) 0 0 (MQ below (QC D cA ρ (Aw ρ) none r τ) args s 0 0 (Aw ρ)) s2.2 τ 31 [(0, .ref (ρ k0)), (1, .ref (ρ k1)), (2, .int s2.1)] []) (YE := fun e9 => Y p l e (Rm 1 25) s m args below meth c 3 D cA ρ (Aw ρ) 0 0 (MQ below (QC D cA ρ (Aw ρ) none r τ) args s 0 0 (Aw ρ)) e9 τ 88 [] []) ?_ he9 ?_
  · intro s2 x h hLp hE
    unfold f_X1_collectFree_L31 at h
    have hJ82 : ∀ (j4 : Int32) (sj5 : Sg), f_X1_collectFree_J82 j4 sj5 = some x → Y p l e (Rm 1 25) s m args below meth c 3 D cA ρ (Aw ρ) 0 0 (MQ below (QC D cA ρ (Aw ρ) none r τ) args s 0 0 (Aw ρ)) sj5 τ 82 [(0, .ref (ρ k0)), (1, .ref (ρ k1)), (2, .int j4)] [] := by
      intro j4 sj5 h
      unfold f_X1_collectFree_J82 at h
      refine Y_iinc C (pc := 82) (v := (j4 + 1)) (lv' := [(2, .int (j4 + 1)), (0, .ref (ρ k0)), (1, .ref (ρ k1))]) 2 rfl (congrArg (fun z => j4 + z) (by decide : Int32.ofInt (1) = (1))) (by decide) rfl dX1_collectFree_82 ?_
      refine Y_goto C (pc := 85) (tgt := 31) dX1_collectFree_85 (by decide) ?_
      have h := Option.some.inj h
      exact Y_sub [1, 2, 0] rfl (hLp _ h.symm)
    refine Y_iload_n C (pc := 31) 2 2 rfl rfl dX1_collectFree_31 ?_
    refine Y_aload_n C (pc := 32) 0 0 rfl rfl dX1_collectFree_32 ?_
    refine Y_getI C (pc := 33) hk0 q_fi_RX1_33 dX1_collectFree_33 ?_
    refine Y_icmp_ge C (pc := 36) (tgt := 88) dX1_collectFree_36 (by decide) (fun c8 => ?_) (fun c8 => ?_)
    · rw [if_pos c8] at h
      have h := Option.some.inj h
      exact Y_sub [] rfl (hE _ h.symm)
    · rw [if_neg c8] at h
      refine Y_aload_n C (pc := 39) 1 1 rfl rfl dX1_collectFree_39 ?_
      refine Y_iload_n C (pc := 40) 2 2 rfl rfl dX1_collectFree_40 ?_
      obtain ⟨v3, hv3, h⟩ := Option.bind_eq_some_iff.mp h
      refine Y_callSN C [.ref (ρ k1), .int s2.1] [] [.int v3] (c_X8_item hk1 hv3) (fun _ h => h.elim) q_cw_yX8_item q_mn_RX1_83 q_st_yX8_item ⟨⟨Nat.le_of_ble_eq_true rfl, Nat.le_of_ble_eq_true rfl⟩, ⟨Nat.zero_le _, Nat.zero_le _⟩, Nat.le_of_ble_eq_true rfl⟩ rfl rfl rfl dX1_collectFree_41 ?_
      refine Y_iconst C (pc := 44) (v := (-1 : Int32)) (by decide) dX1_collectFree_44 ?_
      refine Y_icmp_ne C (pc := 45) (tgt := 82) dX1_collectFree_45 (by decide) (fun c7 => ?_) (fun c7 => ?_)
      · rw [if_neg c7] at h
        exact Y_sub [0, 1, 2] rfl (hJ82 _ _ h)
      · rw [if_pos c7] at h
        refine Y_aload_n C (pc := 48) 0 0 rfl rfl dX1_collectFree_48 ?_
        refine Y_dup C (pc := 49) rfl dX1_collectFree_49 ?_
        refine Y_getI C (pc := 50) hk0 q_fi_RX1_48 dX1_collectFree_50 ?_
        refine Y_iconst C (pc := 53) (v := (1 : Int32)) (by decide) dX1_collectFree_53 ?_
        refine Y_iload_n C (pc := 54) 2 2 rfl rfl dX1_collectFree_54 ?_
        refine Y_ishl C (pc := 55) dX1_collectFree_55 ?_
        refine Y_ior C (pc := 56) dX1_collectFree_56 ?_
        refine Y_putI C (pc := 57) hW hk0 (q_lo_1 hk0) q_fp_RX1_48 dX1_collectFree_57 ?_
        refine Y_aload_n C (pc := 60) 0 0 rfl rfl dX1_collectFree_60 ?_
        refine Y_getR C (pc := 61) hk0 q_fi_RX1_15 (by decide) dX1_collectFree_61 ?_
        refine Y_aload_n C (pc := 64) 0 0 rfl rfl dX1_collectFree_64 ?_
        refine Y_getI C (pc := 65) hk0 q_fi_RX1_80 dX1_collectFree_65 ?_
        refine Y_iload_n C (pc := 68) 2 2 rfl rfl dX1_collectFree_68 ?_
        obtain ⟨v6, hv6, h⟩ := Option.bind_eq_some_iff.mp h
        refine Y_callSN C [.ref (ρ (k0 + 2)), .int (((si s2.2 k0 5 ((s2.2 k0 5) ||| ((1 : Int32) <<< (s2.1 &&& 31))))) k0 0), .int s2.1] [] [] (c_X8_setItem hI (q_kr_1_6 hk0) (q_lr_1_6 hk0) hv6) (fun _ h => h) q_cw_yX8_setItem q_mn_RX1_87 q_st_yX8_setItem ⟨⟨Nat.le_of_ble_eq_true rfl, Nat.le_of_ble_eq_true rfl⟩, ⟨Nat.zero_le _, Nat.zero_le _⟩, Nat.le_of_ble_eq_true rfl⟩ rfl rfl rfl dX1_collectFree_69 ?_
        refine Y_aload_n C (pc := 72) 0 0 rfl rfl dX1_collectFree_72 ?_
        refine Y_dup C (pc := 73) rfl dX1_collectFree_73 ?_
        refine Y_getI C (pc := 74) hk0 q_fi_RX1_80 dX1_collectFree_74 ?_
        refine Y_iconst C (pc := 77) (v := (1 : Int32)) (by decide) dX1_collectFree_77 ?_
        refine Y_iadd C (pc := 78) dX1_collectFree_78 ?_
        refine Y_putI C (pc := 79) hW hk0 (q_lo_1 hk0) q_fp_RX1_80 dX1_collectFree_79 ?_
        exact Y_sub [0, 1, 2] rfl (hJ82 _ _ h)
  · cases h
    exact Y_vret C dX1_collectFree_88

set_option maxRecDepth 100000 in
set_option maxHeartbeats 4000000 in
theorem c_X8_has {l : Launch} {D : va_G} {cA ρ : Nat → Nat} {σ : Sg} {τ : Tg} {i0 : Int32} {i1 : Int32}  {r : Int32} (h : f_X8_has i0 i1 = some r) : Ct l yX8_has cX8_has 2 (some .boolean) 0 0 D cA ρ A0 [.int i0, .int i1] σ τ (some (.int r)) σ τ := by
  refine Ct_of (by decide +kernel) (Nat.le_of_ble_eq_true rfl) (fun p e s m args below meth c C => ?_)
  have C : Ctx p l s m args meth c cX8_has RX8 2 (some .boolean) D cA ρ A0 := C
  unfold f_X8_has at h
  refine Y_sub [0, 1] (lv' := [(0, .int i0), (1, .int i1)]) rfl ?_
  refine Y_iload_n C (pc := 0) 0 0 rfl rfl dX8_has_0 ?_
  refine Y_iload_n C (pc := 1) 1 1 rfl rfl dX8_has_1 ?_
  refine Y_ishr C (pc := 2) dX8_has_2 ?_
  refine Y_iconst C (pc := 3) (v := (1 : Int32)) (by decide) dX8_has_3 ?_
  refine Y_iand C (pc := 4) dX8_has_4 ?_
  refine Y_iconst C (pc := 5) (v := (1 : Int32)) (by decide) dX8_has_5 ?_
  refine Y_icmp_ne C (pc := 6) (tgt := 13) dX8_has_6 (by decide) (fun c1 => ?_) (fun c1 => ?_)
  · rw [if_neg c1] at h
    refine Y_iconst C (pc := 13) (v := (0 : Int32)) (by decide) dX8_has_13 ?_
    cases h
    exact Y_zret (by decide) C dX8_has_14
  · rw [if_pos c1] at h
    refine Y_iconst C (pc := 9) (v := (1 : Int32)) (by decide) dX8_has_9 ?_
    refine Y_goto C (pc := 10) (tgt := 14) dX8_has_10 (by decide) ?_
    cases h
    exact Y_zret (by decide) C dX8_has_14

set_option maxRecDepth 100000 in
set_option maxHeartbeats 4000000 in
theorem c_X8_put {l : Launch} {D : va_G} {cA ρ : Nat → Nat} {σ : Sg} {τ : Tg} {k0 : Nat} {i1 : Int32} {i2 : Int32} {i3 : Int32} (hI : Inj ρ) (hk0 : (kd k0).1 = 1) (hn0 : k0 < 97) {r : Sg} (h : f_X8_put σ k0 i1 i2 i3 = some r) : Ct l yX8_put cX8_put 5 none 0 0 D cA ρ (Aw ρ) [.ref (ρ k0), .int i1, .int i2, .int i3] σ τ none r τ := by
  refine Ct_of (by decide +kernel) (Nat.le_of_ble_eq_true rfl) (fun p e s m args below meth c C => ?_)
  have C : Ctx p l s m args meth c cX8_put RX8 5 none D cA ρ (Aw ρ) := C
  have hW : Wr ρ (Aw ρ) := ⟨hI, fun k hk => ⟨k, hk, rfl⟩⟩
  unfold f_X8_put at h
  refine Y_sub [0, 1, 2, 3] (lv' := [(0, .ref (ρ k0)), (1, .int i1), (2, .int i2), (3, .int i3)]) rfl ?_
  refine Y_iload_n C (pc := 0) 1 1 rfl rfl dX8_put_0 ?_
  refine Y_bipush C (pc := 1) (v := (6 : Int32)) (by decide) dX8_put_1 ?_
  refine Y_imul C (pc := 3) dX8_put_3 ?_
  refine Y_iload_n C (pc := 4) 2 2 rfl rfl dX8_put_4 ?_
  refine Y_iadd C (pc := 5) dX8_put_5 ?_
  refine Y_istore C (pc := 6) (lv' := [(4, .int ((i1 * (6 : Int32)) + i2)), (0, .ref (ρ k0)), (1, .int i1), (2, .int i2), (3, .int i3)]) (by decide) rfl dX8_put_6 ?_
  refine Y_iload C (pc := 8) 0 rfl dX8_put_8 ?_
  refine Y_if_lt C (pc := 10) (tgt := 25) dX8_put_10 (by decide) (fun c3 => ?_) (fun c3 => ?_)
  · rw [if_pos c3] at h
    cases h
    exact Y_vret C dX8_put_25
  · rw [if_neg c3] at h
    refine Y_iload C (pc := 13) 0 rfl dX8_put_13 ?_
    refine Y_aload_n C (pc := 15) 0 1 rfl rfl dX8_put_15 ?_
    refine Y_alen1 C (pc := 16) hk0 dX8_put_16 ?_
    refine Y_icmp_ge C (pc := 17) (tgt := 25) dX8_put_17 (by decide) (fun c2 => ?_) (fun c2 => ?_)
    · rw [if_pos c2] at h
      cases h
      exact Y_vret C dX8_put_25
    · rw [if_neg c2] at h
      refine Y_aload_n C (pc := 20) 0 1 rfl rfl dX8_put_20 ?_
      refine Y_iload C (pc := 21) 0 rfl dX8_put_21 ?_
      refine Y_iload_n C (pc := 23) 3 4 rfl rfl dX8_put_23 ?_
      obtain ⟨s1, hs1, h⟩ := Option.bind_eq_some_iff.mp h
      refine Y_iast C (pc := 24) hW hk0 hn0 hs1 dX8_put_24 ?_
      cases h
      exact Y_vret C dX8_put_25

set_option maxRecDepth 100000 in
set_option maxHeartbeats 4000000 in
theorem c_X1_sortRow {l : Launch} {D : va_G} {cA ρ : Nat → Nat} {σ : Sg} {τ : Tg} {k0 : Nat} {k1 : Nat} {i2 : Int32} {i3 : Int32} {k4 : Nat} (hI : Inj ρ) (hk0 : kd k0 = (0, 1)) (hk1 : (kd k1).1 = 1) (hk4 : (kd k4).1 = 1) (hn4 : k4 < 97) {r : Sg} (h : f_X1_sortRow σ k0 k1 i2 i3 k4 = some r) : Ct l yX1_sortRow cX1_sortRow 9 none 1 24 D cA ρ (Aw ρ) [.ref (ρ k0), .ref (ρ k1), .int i2, .int i3, .ref (ρ k4)] σ τ none r τ := by
  refine Ct_of (by decide +kernel) (Nat.le_of_ble_eq_true rfl) (fun p e s m args below meth c C => ?_)
  have C : Ctx p l s m args meth c cX1_sortRow RX1 9 none D cA ρ (Aw ρ) := C
  have hW : Wr ρ (Aw ρ) := ⟨hI, fun k hk => ⟨k, hk, rfl⟩⟩
  unfold f_X1_sortRow at h
  refine Y_sub [0, 1, 2, 3, 4] (lv' := [(0, .ref (ρ k0)), (1, .ref (ρ k1)), (2, .int i2), (3, .int i3), (4, .ref (ρ k4))]) rfl ?_
  refine Y_iload_n C (pc := 0) 3 3 rfl rfl dX1_sortRow_0 ?_
  refine Y_iload_n C (pc := 1) 2 2 rfl rfl dX1_sortRow_1 ?_
  obtain ⟨v1, hv1, h⟩ := Option.bind_eq_some_iff.mp h
  refine Y_callSN C [.int i3, .int i2] [] [.int v1] (c_X8_has  hv1) (fun _ h => h.elim) q_cw_yX8_has q_mn_RX1_61 q_st_yX8_has ⟨⟨Nat.le_of_ble_eq_true rfl, Nat.le_of_ble_eq_true rfl⟩, ⟨Nat.zero_le _, Nat.zero_le _⟩, Nat.le_of_ble_eq_true rfl⟩ rfl rfl rfl dX1_sortRow_2 ?_
  refine Y_if_ne C (pc := 5) (tgt := 9) dX1_sortRow_5 (by decide) (fun c20 => ?_) (fun c20 => ?_)
  · rw [if_neg c20] at h
    refine Y_iconst C (pc := 9) (v := (0 : Int32)) (by decide) dX1_sortRow_9 ?_
    refine Y_istore C (pc := 10) (lv' := [(5, .int (0 : Int32)), (0, .ref (ρ k0)), (1, .ref (ρ k1)), (2, .int i2), (3, .int i3), (4, .ref (ρ k4))]) (by decide) rfl dX1_sortRow_10 ?_
    refine Y_iconst C (pc := 12) (v := (0 : Int32)) (by decide) dX1_sortRow_12 ?_
    refine Y_istore C (pc := 13) (lv' := [(6, .int (0 : Int32)), (5, .int (0 : Int32)), (0, .ref (ρ k0)), (1, .ref (ρ k1)), (2, .int i2), (3, .int i3), (4, .ref (ρ k4))]) (by decide) rfl dX1_sortRow_13 ?_
    obtain ⟨e19, he19, h⟩ := Option.bind_eq_some_iff.mp h
    refine Y_sub [2, 3, 4, 5, 6, 1, 0] (lv' := [(0, .ref (ρ k0)), (1, .ref (ρ k1)), (2, .int i2), (3, .int i3), (4, .ref (ρ k4)), (5, .int (0 : Int32)), (6, .int (0 : Int32))]) rfl ?_
    refine lo_rule (f := (f_X1_sortRow_L15 k0 i2 i3 k1 k4)) (YS := fun s2 => Y p l e (Rm 1 24) s m args below meth c 9 D cA ρ (Aw ρ) 0 0 (MQ below (QC D cA ρ (Aw ρ) none r τ) args s 0 0 (Aw ρ)) s2.2.2 τ 15 [(0, .ref (ρ k0)), (1, .ref (ρ k1)), (2, .int i2), (3, .int i3), (4, .ref (ρ k4)), (5, .int s2.1), (6, .int s2.2.1)] []) (YE := fun e19 => Y p l e (Rm 1 24) s m args below meth c 9 D cA ρ (Aw ρ) 0 0 (MQ below (QC D cA ρ (Aw ρ) none r τ) args s 0 0 (Aw ρ)) e19 τ 118 [] []) ?_ he19 ?_
    · intro s2 x h hLp hE
      unfold f_X1_sortRow_L15 at h
      have hJ112 : ∀ (j3 : Int32) (j4 : Int32) (sj5 : Sg), f_X1_sortRow_J112 j3 j4 sj5 = some x → Y p l e (Rm 1 24) s m args below meth c 9 D cA ρ (Aw ρ) 0 0 (MQ below (QC D cA ρ (Aw ρ) none r τ) args s 0 0 (Aw ρ)) sj5 τ 112 [(0, .ref (ρ k0)), (1, .ref (ρ k1)), (2, .int i2), (3, .int i3), (4, .ref (ρ k4)), (5, .int j3), (6, .int j4)] [] := by
        intro j3 j4 sj5 h
        unfold f_X1_sortRow_J112 at h
        refine Y_iinc C (pc := 112) (v := (j4 + 1)) (lv' := [(6, .int (j4 + 1)), (0, .ref (ρ k0)), (1, .ref (ρ k1)), (2, .int i2), (3, .int i3), (4, .ref (ρ k4)), (5, .int j3)]) 6 rfl (congrArg (fun z => j4 + z) (by decide : Int32.ofInt (1) = (1))) (by decide) rfl dX1_sortRow_112 ?_
        refine Y_goto C (pc := 115) (tgt := 15) dX1_sortRow_115 (by decide) ?_
        have h := Option.some.inj h
        exact Y_sub [1, 2, 3, 4, 5, 6, 0] rfl (hLp _ h.symm)
      refine Y_iload C (pc := 15) 6 rfl dX1_sortRow_15 ?_
      refine Y_aload_n C (pc := 17) 0 0 rfl rfl dX1_sortRow_17 ?_
      refine Y_getI C (pc := 18) hk0 q_fi_RX1_33 dX1_sortRow_18 ?_
      refine Y_icmp_ge C (pc := 21) (tgt := 118) dX1_sortRow_21 (by decide) (fun c18 => ?_) (fun c18 => ?_)
      · rw [if_pos c18] at h
        have h := Option.some.inj h
        exact Y_sub [] rfl (hE _ h.symm)
      · rw [if_neg c18] at h
        refine Y_iload C (pc := 24) 6 rfl dX1_sortRow_24 ?_
        refine Y_iload_n C (pc := 26) 2 2 rfl rfl dX1_sortRow_26 ?_
        refine Y_icmp_eq C (pc := 27) (tgt := 112) dX1_sortRow_27 (by decide) (fun c17 => ?_) (fun c17 => ?_)
        · rw [if_pos c17] at h
          exact Y_sub [0, 1, 2, 3, 4, 5, 6] rfl (hJ112 _ _ _ h)
        · rw [if_neg c17] at h
          refine Y_iload_n C (pc := 30) 3 3 rfl rfl dX1_sortRow_30 ?_
          refine Y_iload C (pc := 31) 6 rfl dX1_sortRow_31 ?_
          obtain ⟨v6, hv6, h⟩ := Option.bind_eq_some_iff.mp h
          refine Y_callSN C [.int i3, .int s2.2.1] [] [.int v6] (c_X8_has  hv6) (fun _ h => h.elim) q_cw_yX8_has q_mn_RX1_61 q_st_yX8_has ⟨⟨Nat.le_of_ble_eq_true rfl, Nat.le_of_ble_eq_true rfl⟩, ⟨Nat.zero_le _, Nat.zero_le _⟩, Nat.le_of_ble_eq_true rfl⟩ rfl rfl rfl dX1_sortRow_33 ?_
          refine Y_if_ne C (pc := 36) (tgt := 42) dX1_sortRow_36 (by decide) (fun c16 => ?_) (fun c16 => ?_)
          · rw [if_neg c16] at h
            refine Y_aload_n C (pc := 42) 1 1 rfl rfl dX1_sortRow_42 ?_
            refine Y_iload_n C (pc := 43) 2 2 rfl rfl dX1_sortRow_43 ?_
            refine Y_iload C (pc := 44) 6 rfl dX1_sortRow_44 ?_
            obtain ⟨v7, hv7, h⟩ := Option.bind_eq_some_iff.mp h
            refine Y_callSN C [.ref (ρ k1), .int i2, .int s2.2.1] [] [.int v7] (c_X8_at hk1 hv7) (fun _ h => h.elim) q_cw_yX8_at q_mn_RX1_91 q_st_yX8_at ⟨⟨Nat.le_of_ble_eq_true rfl, Nat.le_of_ble_eq_true rfl⟩, ⟨Nat.zero_le _, Nat.zero_le _⟩, Nat.le_of_ble_eq_true rfl⟩ rfl rfl rfl dX1_sortRow_46 ?_
            refine Y_istore C (pc := 49) (lv' := [(7, .int v7), (0, .ref (ρ k0)), (1, .ref (ρ k1)), (2, .int i2), (3, .int i3), (4, .ref (ρ k4)), (5, .int s2.1), (6, .int s2.2.1)]) (by decide) rfl dX1_sortRow_49 ?_
            refine Y_iload C (pc := 51) 6 rfl dX1_sortRow_51 ?_
            refine Y_istore C (pc := 53) (lv' := [(8, .int s2.1), (7, .int v7), (0, .ref (ρ k0)), (1, .ref (ρ k1)), (2, .int i2), (3, .int i3), (4, .ref (ρ k4)), (5, .int s2.1), (6, .int s2.2.1)]) (by decide) rfl dX1_sortRow_53 ?_
            obtain ⟨e14, he14, h⟩ := Option.bind_eq_some_iff.mp h
            refine Y_sub [2, 3, 4, 5, 6, 7, 8, 1, 0] (lv' := [(0, .ref (ρ k0)), (1, .ref (ρ k1)), (2, .int i2), (3, .int i3), (4, .ref (ρ k4)), (5, .int s2.1), (6, .int s2.2.1), (7, .int v7), (8, .int s2.1)]) rfl ?_
            refine lo_rule (f := (f_X1_sortRow_L55 k4 i2 v7)) (YS := fun s8 => Y p l e (Rm 1 24) s m args below meth c 9 D cA ρ (Aw ρ) 0 0 (MQ below (QC D cA ρ (Aw ρ) none r τ) args s 0 0 (Aw ρ)) s8.2 τ 55 [(0, .ref (ρ k0)), (1, .ref (ρ k1)), (2, .int i2), (3, .int i3), (4, .ref (ρ k4)), (5, .int s2.1), (6, .int s2.2.1), (7, .int v7), (8, .int s8.1)] []) (YE := fun e14 => Y p l e (Rm 1 24) s m args below meth c 9 D cA ρ (Aw ρ) 0 0 (MQ below (QC D cA ρ (Aw ρ) none r τ) args s 0 0 (Aw ρ)) e14.2 τ 99 [(0, .ref (ρ k0)), (1, .ref (ρ k1)), (2, .int i2), (3, .int i3), (4, .ref (ρ k4)), (5, .int s2.1), (6, .int s2.2.1), (7, .int v7), (8, .int e14.1)] []) ?_ he14 ?_
            · intro s8 x h hLp hE
              unfold f_X1_sortRow_L55 at h
              refine Y_iload C (pc := 55) 8 rfl dX1_sortRow_55 ?_
              refine Y_if_le C (pc := 57) (tgt := 99) dX1_sortRow_57 (by decide) (fun c13 => ?_) (fun c13 => ?_)
              · rw [if_pos c13] at h
                have h := Option.some.inj h
                exact Y_sub [0, 1, 2, 3, 4, 5, 6, 7, 8] rfl (hE _ h.symm)
              · rw [if_neg c13] at h
                refine Y_aload C (pc := 60) 4 rfl dX1_sortRow_60 ?_
                refine Y_iload_n C (pc := 62) 2 2 rfl rfl dX1_sortRow_62 ?_
                refine Y_iload C (pc := 63) 8 rfl dX1_sortRow_63 ?_
                refine Y_iconst C (pc := 65) (v := (1 : Int32)) (by decide) dX1_sortRow_65 ?_
                refine Y_isub C (pc := 66) dX1_sortRow_66 ?_
                obtain ⟨v9, hv9, h⟩ := Option.bind_eq_some_iff.mp h
                refine Y_callSN C [.ref (ρ k4), .int i2, .int (s8.1 - (1 : Int32))] [] [.int v9] (c_X8_at hk4 hv9) (fun _ h => h.elim) q_cw_yX8_at q_mn_RX1_91 q_st_yX8_at ⟨⟨Nat.le_of_ble_eq_true rfl, Nat.le_of_ble_eq_true rfl⟩, ⟨Nat.zero_le _, Nat.zero_le _⟩, Nat.le_of_ble_eq_true rfl⟩ rfl rfl rfl dX1_sortRow_67 ?_
                refine Y_iload C (pc := 70) 7 rfl dX1_sortRow_70 ?_
                refine Y_icmp_le C (pc := 72) (tgt := 99) dX1_sortRow_72 (by decide) (fun c12 => ?_) (fun c12 => ?_)
                · rw [if_pos c12] at h
                  have h := Option.some.inj h
                  exact Y_sub [0, 1, 2, 3, 4, 5, 6, 7, 8] rfl (hE _ h.symm)
                · rw [if_neg c12] at h
                  refine Y_aload C (pc := 75) 4 rfl dX1_sortRow_75 ?_
                  refine Y_iload_n C (pc := 77) 2 2 rfl rfl dX1_sortRow_77 ?_
                  refine Y_iload C (pc := 78) 8 rfl dX1_sortRow_78 ?_
                  refine Y_aload C (pc := 80) 4 rfl dX1_sortRow_80 ?_
                  refine Y_iload_n C (pc := 82) 2 2 rfl rfl dX1_sortRow_82 ?_
                  refine Y_iload C (pc := 83) 8 rfl dX1_sortRow_83 ?_
                  refine Y_iconst C (pc := 85) (v := (1 : Int32)) (by decide) dX1_sortRow_85 ?_
                  refine Y_isub C (pc := 86) dX1_sortRow_86 ?_
                  obtain ⟨v10, hv10, h⟩ := Option.bind_eq_some_iff.mp h
                  refine Y_callSN C [.ref (ρ k4), .int i2, .int (s8.1 - (1 : Int32))] [.int s8.1, .int i2, .ref (ρ k4)] [.int v10, .int s8.1, .int i2, .ref (ρ k4)] (c_X8_at hk4 hv10) (fun _ h => h.elim) q_cw_yX8_at q_mn_RX1_91 q_st_yX8_at ⟨⟨Nat.le_of_ble_eq_true rfl, Nat.le_of_ble_eq_true rfl⟩, ⟨Nat.zero_le _, Nat.zero_le _⟩, Nat.le_of_ble_eq_true rfl⟩ rfl rfl rfl dX1_sortRow_87 ?_
                  obtain ⟨v11, hv11, h⟩ := Option.bind_eq_some_iff.mp h
                  refine Y_callSN C [.ref (ρ k4), .int i2, .int s8.1, .int v10] [] [] (c_X8_put hI hk4 hn4 hv11) (fun _ h => h) q_cw_yX8_put q_mn_RX1_73 q_st_yX8_put ⟨⟨Nat.le_of_ble_eq_true rfl, Nat.le_of_ble_eq_true rfl⟩, ⟨Nat.zero_le _, Nat.zero_le _⟩, Nat.le_of_ble_eq_true rfl⟩ rfl rfl rfl dX1_sortRow_90 ?_
                  refine Y_iinc C (pc := 93) (v := (s8.1 + (-1))) (lv' := [(8, .int (s8.1 + (-1))), (0, .ref (ρ k0)), (1, .ref (ρ k1)), (2, .int i2), (3, .int i3), (4, .ref (ρ k4)), (5, .int s2.1), (6, .int s2.2.1), (7, .int v7)]) 8 rfl (congrArg (fun z => s8.1 + z) (by decide : Int32.ofInt (-1) = (-1))) (by decide) rfl dX1_sortRow_93 ?_
                  refine Y_goto C (pc := 96) (tgt := 55) dX1_sortRow_96 (by decide) ?_
                  have h := Option.some.inj h
                  exact Y_sub [1, 2, 3, 4, 5, 6, 7, 8, 0] rfl (hLp _ h.symm)
            · refine Y_aload C (pc := 99) 4 rfl dX1_sortRow_99 ?_
              refine Y_iload_n C (pc := 101) 2 2 rfl rfl dX1_sortRow_101 ?_
              refine Y_iload C (pc := 102) 8 rfl dX1_sortRow_102 ?_
              refine Y_iload C (pc := 104) 7 rfl dX1_sortRow_104 ?_
              obtain ⟨v15, hv15, h⟩ := Option.bind_eq_some_iff.mp h
              refine Y_callSN C [.ref (ρ k4), .int i2, .int e14.1, .int v7] [] [] (c_X8_put hI hk4 hn4 hv15) (fun _ h => h) q_cw_yX8_put q_mn_RX1_73 q_st_yX8_put ⟨⟨Nat.le_of_ble_eq_true rfl, Nat.le_of_ble_eq_true rfl⟩, ⟨Nat.zero_le _, Nat.zero_le _⟩, Nat.le_of_ble_eq_true rfl⟩ rfl rfl rfl dX1_sortRow_106 ?_
              refine Y_iinc C (pc := 109) (v := (s2.1 + 1)) (lv' := [(5, .int (s2.1 + 1)), (0, .ref (ρ k0)), (1, .ref (ρ k1)), (2, .int i2), (3, .int i3), (4, .ref (ρ k4)), (6, .int s2.2.1), (7, .int v7), (8, .int e14.1)]) 5 rfl (congrArg (fun z => s2.1 + z) (by decide : Int32.ofInt (1) = (1))) (by decide) rfl dX1_sortRow_109 ?_
              exact Y_sub [1, 2, 3, 4, 5, 0, 6] rfl (hJ112 _ _ _ h)
          · rw [if_pos c16] at h
            refine Y_goto C (pc := 39) (tgt := 112) dX1_sortRow_39 (by decide) ?_
            exact Y_sub [0, 1, 2, 3, 4, 5, 6] rfl (hJ112 _ _ _ h)
    · cases h
      exact Y_vret C dX1_sortRow_118
  · rw [if_pos c20] at h
    cases h
    exact Y_vret C dX1_sortRow_8

set_option maxRecDepth 100000 in
set_option maxHeartbeats 4000000 in
theorem c_X1_linear {l : Launch} {D : va_G} {cA ρ : Nat → Nat} {σ : Sg} {τ : Tg} {k0 : Nat} {k1 : Nat} {k2 : Nat} {i3 : Int32} {i4 : Int32} (hk0 : kd k0 = (0, 1)) (hk1 : kd k1 = (0, 6)) (hk2 : (kd k2).1 = 1) {r : Int32} (h : f_X1_linear σ k0 k1 k2 i3 i4 = some r) : Ct l yX1_linear cX1_linear 8 (some .int) 1 23 D cA ρ A0 [.ref (ρ k0), .ref (ρ k1), .ref (ρ k2), .int i3, .int i4] σ τ (some (.int r)) σ τ := by
  refine Ct_of (by decide +kernel) (Nat.le_of_ble_eq_true rfl) (fun p e s m args below meth c C => ?_)
  have C : Ctx p l s m args meth c cX1_linear RX1 8 (some .int) D cA ρ A0 := C
  unfold f_X1_linear at h
  refine Y_sub [0, 1, 2, 3, 4] (lv' := [(0, .ref (ρ k0)), (1, .ref (ρ k1)), (2, .ref (ρ k2)), (3, .int i3), (4, .int i4)]) rfl ?_
  refine Y_aload_n C (pc := 0) 1 1 rfl rfl dX1_linear_0 ?_
  refine Y_getR C (pc := 1) hk1 q_fi_RX1_95 (by decide) dX1_linear_1 ?_
  refine Y_iload_n C (pc := 4) 3 3 rfl rfl dX1_linear_4 ?_
  refine Y_iload C (pc := 5) 4 rfl dX1_linear_5 ?_
  obtain ⟨v1, hv1, h⟩ := Option.bind_eq_some_iff.mp h
  refine Y_callSN C [.ref (ρ (k1 + 3)), .int i3, .int i4] [] [.int v1] (c_X8_at (q_kr_6_3 hk1) hv1) (fun _ h => h.elim) q_cw_yX8_at q_mn_RX1_91 q_st_yX8_at ⟨⟨Nat.le_of_ble_eq_true rfl, Nat.le_of_ble_eq_true rfl⟩, ⟨Nat.zero_le _, Nat.zero_le _⟩, Nat.le_of_ble_eq_true rfl⟩ rfl rfl rfl dX1_linear_7 ?_
  refine Y_aload_n C (pc := 10) 1 1 rfl rfl dX1_linear_10 ?_
  refine Y_getR C (pc := 11) hk1 q_fi_RX1_45 (by decide) dX1_linear_11 ?_
  refine Y_iload_n C (pc := 14) 3 3 rfl rfl dX1_linear_14 ?_
  refine Y_iload_n C (pc := 15) 3 3 rfl rfl dX1_linear_15 ?_
  obtain ⟨v2, hv2, h⟩ := Option.bind_eq_some_iff.mp h
  refine Y_callSN C [.ref (ρ (k1 + 1)), .int i3, .int i3] [.int v1] [.int v2, .int v1] (c_X8_at (q_kr_6_1 hk1) hv2) (fun _ h => h.elim) q_cw_yX8_at q_mn_RX1_91 q_st_yX8_at ⟨⟨Nat.le_of_ble_eq_true rfl, Nat.le_of_ble_eq_true rfl⟩, ⟨Nat.zero_le _, Nat.zero_le _⟩, Nat.le_of_ble_eq_true rfl⟩ rfl rfl rfl dX1_linear_16 ?_
  refine Y_aload_n C (pc := 19) 1 1 rfl rfl dX1_linear_19 ?_
  refine Y_getR C (pc := 20) hk1 q_fi_RX1_55 (by decide) dX1_linear_20 ?_
  refine Y_iload C (pc := 23) 4 rfl dX1_linear_23 ?_
  refine Y_iload C (pc := 25) 4 rfl dX1_linear_25 ?_
  obtain ⟨v3, hv3, h⟩ := Option.bind_eq_some_iff.mp h
  refine Y_callSN C [.ref (ρ (k1 + 2)), .int i4, .int i4] [.int v2, .int v1] [.int v3, .int v2, .int v1] (c_X8_at (q_kr_6_2 hk1) hv3) (fun _ h => h.elim) q_cw_yX8_at q_mn_RX1_91 q_st_yX8_at ⟨⟨Nat.le_of_ble_eq_true rfl, Nat.le_of_ble_eq_true rfl⟩, ⟨Nat.zero_le _, Nat.zero_le _⟩, Nat.le_of_ble_eq_true rfl⟩ rfl rfl rfl dX1_linear_27 ?_
  refine Y_imul C (pc := 30) dX1_linear_30 ?_
  refine Y_iadd C (pc := 31) dX1_linear_31 ?_
  refine Y_istore C (pc := 32) (lv' := [(5, .int (v1 + (v2 * v3))), (0, .ref (ρ k0)), (1, .ref (ρ k1)), (2, .ref (ρ k2)), (3, .int i3), (4, .int i4)]) (by decide) rfl dX1_linear_32 ?_
  refine Y_iconst C (pc := 34) (v := (0 : Int32)) (by decide) dX1_linear_34 ?_
  refine Y_istore C (pc := 35) (lv' := [(6, .int (0 : Int32)), (5, .int (v1 + (v2 * v3))), (0, .ref (ρ k0)), (1, .ref (ρ k1)), (2, .ref (ρ k2)), (3, .int i3), (4, .int i4)]) (by decide) rfl dX1_linear_35 ?_
  obtain ⟨e14, he14, h⟩ := Option.bind_eq_some_iff.mp h
  refine Y_sub [2, 3, 4, 5, 6, 1, 0] (lv' := [(0, .ref (ρ k0)), (1, .ref (ρ k1)), (2, .ref (ρ k2)), (3, .int i3), (4, .int i4), (5, .int (v1 + (v2 * v3))), (6, .int (0 : Int32))]) rfl ?_
  refine lo_rule (f := (f_X1_linear_L37 σ k0 k2 k1 i3 i4)) (YS := fun s4 => Y p l e (Rm 1 23) s m args below meth c 8 D cA ρ A0 0 0 (MQ below (QC D cA ρ A0 (some (.int r)) σ τ) args s 0 0 A0) σ τ 37 [(0, .ref (ρ k0)), (1, .ref (ρ k1)), (2, .ref (ρ k2)), (3, .int i3), (4, .int i4), (5, .int s4.1), (6, .int s4.2)] []) (YE := fun e14 => Y p l e (Rm 1 23) s m args below meth c 8 D cA ρ A0 0 0 (MQ below (QC D cA ρ A0 (some (.int r)) σ τ) args s 0 0 A0) σ τ 120 [(5, .int e14)] []) ?_ he14 ?_
  · intro s4 x h hLp hE
    unfold f_X1_linear_L37 at h
    have hJ114 : ∀ (j6 : Int32) (j7 : Int32), f_X1_linear_J114 j6 j7 = some x → Y p l e (Rm 1 23) s m args below meth c 8 D cA ρ A0 0 0 (MQ below (QC D cA ρ A0 (some (.int r)) σ τ) args s 0 0 A0) σ τ 114 [(0, .ref (ρ k0)), (1, .ref (ρ k1)), (2, .ref (ρ k2)), (3, .int i3), (4, .int i4), (5, .int j6), (6, .int j7)] [] := by
      intro j6 j7 h
      unfold f_X1_linear_J114 at h
      refine Y_iinc C (pc := 114) (v := (j7 + 1)) (lv' := [(6, .int (j7 + 1)), (0, .ref (ρ k0)), (1, .ref (ρ k1)), (2, .ref (ρ k2)), (3, .int i3), (4, .int i4), (5, .int j6)]) 6 rfl (congrArg (fun z => j7 + z) (by decide : Int32.ofInt (1) = (1))) (by decide) rfl dX1_linear_114 ?_
      refine Y_goto C (pc := 117) (tgt := 37) dX1_linear_117 (by decide) ?_
      have h := Option.some.inj h
      exact Y_sub [1, 2, 3, 4, 5, 6, 0] rfl (hLp _ h.symm)
    refine Y_iload C (pc := 37) 6 rfl dX1_linear_37 ?_
    refine Y_aload_n C (pc := 39) 0 0 rfl rfl dX1_linear_39 ?_
    refine Y_getI C (pc := 40) hk0 q_fi_RX1_33 dX1_linear_40 ?_
    refine Y_icmp_ge C (pc := 43) (tgt := 120) dX1_linear_43 (by decide) (fun c13 => ?_) (fun c13 => ?_)
    · rw [if_pos c13] at h
      have h := Option.some.inj h
      exact Y_sub [5] rfl (hE _ h.symm)
    · rw [if_neg c13] at h
      refine Y_aload_n C (pc := 46) 2 2 rfl rfl dX1_linear_46 ?_
      refine Y_iload C (pc := 47) 6 rfl dX1_linear_47 ?_
      obtain ⟨v5, hv5, h⟩ := Option.bind_eq_some_iff.mp h
      refine Y_callSN C [.ref (ρ k2), .int s4.2] [] [.int v5] (c_X8_item hk2 hv5) (fun _ h => h.elim) q_cw_yX8_item q_mn_RX1_83 q_st_yX8_item ⟨⟨Nat.le_of_ble_eq_true rfl, Nat.le_of_ble_eq_true rfl⟩, ⟨Nat.zero_le _, Nat.zero_le _⟩, Nat.le_of_ble_eq_true rfl⟩ rfl rfl rfl dX1_linear_49 ?_
      refine Y_istore C (pc := 52) (lv' := [(7, .int v5), (0, .ref (ρ k0)), (1, .ref (ρ k1)), (2, .ref (ρ k2)), (3, .int i3), (4, .int i4), (5, .int s4.1), (6, .int s4.2)]) (by decide) rfl dX1_linear_52 ?_
      refine Y_iload C (pc := 54) 0 rfl dX1_linear_54 ?_
      refine Y_iconst C (pc := 56) (v := (-1 : Int32)) (by decide) dX1_linear_56 ?_
      refine Y_icmp_eq C (pc := 57) (tgt := 114) dX1_linear_57 (by decide) (fun c12 => ?_) (fun c12 => ?_)
      · rw [if_pos c12] at h
        exact Y_sub [1, 2, 3, 4, 5, 6, 7] rfl (hJ114 _ _ h)
      · rw [if_neg c12] at h
        refine Y_iload C (pc := 60) 6 rfl dX1_linear_60 ?_
        refine Y_aload_n C (pc := 62) 1 2 rfl rfl dX1_linear_62 ?_
        refine Y_getR C (pc := 63) hk1 q_fi_RX1_45 (by decide) dX1_linear_63 ?_
        refine Y_iload_n C (pc := 66) 3 4 rfl rfl dX1_linear_66 ?_
        refine Y_iload C (pc := 67) 7 rfl dX1_linear_67 ?_
        obtain ⟨v8, hv8, h⟩ := Option.bind_eq_some_iff.mp h
        refine Y_callSN C [.ref (ρ (k1 + 1)), .int i3, .int s4.2] [.int s4.1] [.int v8, .int s4.1] (c_X8_at (q_kr_6_1 hk1) hv8) (fun _ h => h.elim) q_cw_yX8_at q_mn_RX1_91 q_st_yX8_at ⟨⟨Nat.le_of_ble_eq_true rfl, Nat.le_of_ble_eq_true rfl⟩, ⟨Nat.zero_le _, Nat.zero_le _⟩, Nat.le_of_ble_eq_true rfl⟩ rfl rfl rfl dX1_linear_69 ?_
        refine Y_aload_n C (pc := 72) 1 2 rfl rfl dX1_linear_72 ?_
        refine Y_getR C (pc := 73) hk1 q_fi_RX1_55 (by decide) dX1_linear_73 ?_
        refine Y_iload C (pc := 76) 5 rfl dX1_linear_76 ?_
        refine Y_iload C (pc := 78) 0 rfl dX1_linear_78 ?_
        obtain ⟨v9, hv9, h⟩ := Option.bind_eq_some_iff.mp h
        refine Y_callSN C [.ref (ρ (k1 + 2)), .int i4, .int v5] [.int v8, .int s4.1] [.int v9, .int v8, .int s4.1] (c_X8_at (q_kr_6_2 hk1) hv9) (fun _ h => h.elim) q_cw_yX8_at q_mn_RX1_91 q_st_yX8_at ⟨⟨Nat.le_of_ble_eq_true rfl, Nat.le_of_ble_eq_true rfl⟩, ⟨Nat.zero_le _, Nat.zero_le _⟩, Nat.le_of_ble_eq_true rfl⟩ rfl rfl rfl dX1_linear_80 ?_
        refine Y_imul C (pc := 83) dX1_linear_83 ?_
        refine Y_iadd C (pc := 84) dX1_linear_84 ?_
        refine Y_istore C (pc := 85) (lv' := [(5, .int (s4.1 + (v8 * v9))), (7, .int v5), (0, .ref (ρ k0)), (1, .ref (ρ k1)), (2, .ref (ρ k2)), (3, .int i3), (4, .int i4), (6, .int s4.2)]) (by decide) rfl dX1_linear_85 ?_
        refine Y_iload C (pc := 87) 0 rfl dX1_linear_87 ?_
        refine Y_aload_n C (pc := 89) 1 3 rfl rfl dX1_linear_89 ?_
        refine Y_getR C (pc := 90) hk1 q_fi_RX1_45 (by decide) dX1_linear_90 ?_
        refine Y_iload C (pc := 93) 7 rfl dX1_linear_93 ?_
        refine Y_iload_n C (pc := 95) 3 5 rfl rfl dX1_linear_95 ?_
        obtain ⟨v10, hv10, h⟩ := Option.bind_eq_some_iff.mp h
        refine Y_callSN C [.ref (ρ (k1 + 1)), .int s4.2, .int i3] [.int (s4.1 + (v8 * v9))] [.int v10, .int (s4.1 + (v8 * v9))] (c_X8_at (q_kr_6_1 hk1) hv10) (fun _ h => h.elim) q_cw_yX8_at q_mn_RX1_91 q_st_yX8_at ⟨⟨Nat.le_of_ble_eq_true rfl, Nat.le_of_ble_eq_true rfl⟩, ⟨Nat.zero_le _, Nat.zero_le _⟩, Nat.le_of_ble_eq_true rfl⟩ rfl rfl rfl dX1_linear_96 ?_
        refine Y_aload_n C (pc := 99) 1 3 rfl rfl dX1_linear_99 ?_
        refine Y_getR C (pc := 100) hk1 q_fi_RX1_55 (by decide) dX1_linear_100 ?_
        refine Y_iload C (pc := 103) 1 rfl dX1_linear_103 ?_
        refine Y_iload C (pc := 105) 6 rfl dX1_linear_105 ?_
        obtain ⟨v11, hv11, h⟩ := Option.bind_eq_some_iff.mp h
        refine Y_callSN C [.ref (ρ (k1 + 2)), .int v5, .int i4] [.int v10, .int (s4.1 + (v8 * v9))] [.int v11, .int v10, .int (s4.1 + (v8 * v9))] (c_X8_at (q_kr_6_2 hk1) hv11) (fun _ h => h.elim) q_cw_yX8_at q_mn_RX1_91 q_st_yX8_at ⟨⟨Nat.le_of_ble_eq_true rfl, Nat.le_of_ble_eq_true rfl⟩, ⟨Nat.zero_le _, Nat.zero_le _⟩, Nat.le_of_ble_eq_true rfl⟩ rfl rfl rfl dX1_linear_107 ?_
        refine Y_imul C (pc := 110) dX1_linear_110 ?_
        refine Y_iadd C (pc := 111) dX1_linear_111 ?_
        refine Y_istore C (pc := 112) (lv' := [(5, .int ((s4.1 + (v8 * v9)) + (v10 * v11))), (7, .int v5), (0, .ref (ρ k0)), (1, .ref (ρ k1)), (2, .ref (ρ k2)), (3, .int i3), (4, .int i4), (6, .int s4.2)]) (by decide) rfl dX1_linear_112 ?_
        exact Y_sub [2, 3, 4, 5, 6, 0, 7] rfl (hJ114 _ _ h)
  · refine Y_iload C (pc := 120) 0 rfl dX1_linear_120 ?_
    cases h
    exact Y_iret C dX1_linear_122

set_option maxRecDepth 100000 in
set_option maxHeartbeats 4000000 in
theorem c_X1_leastProduct {l : Launch} {D : va_G} {cA ρ : Nat → Nat} {σ : Sg} {τ : Tg} {k0 : Nat} {i1 : Int32} {i2 : Int32} (hk0 : kd k0 = (0, 1)) {r : Int32} (h : f_X1_leastProduct σ k0 i1 i2 = some r) : Ct l yX1_leastProduct cX1_leastProduct 5 (some .int) 1 23 D cA ρ A0 [.ref (ρ k0), .int i1, .int i2] σ τ (some (.int r)) σ τ := by
  refine Ct_of (by decide +kernel) (Nat.le_of_ble_eq_true rfl) (fun p e s m args below meth c C => ?_)
  have C : Ctx p l s m args meth c cX1_leastProduct RX1 5 (some .int) D cA ρ A0 := C
  unfold f_X1_leastProduct at h
  refine Y_sub [0, 1, 2] (lv' := [(0, .ref (ρ k0)), (1, .int i1), (2, .int i2)]) rfl ?_
  refine Y_iconst C (pc := 0) (v := (0 : Int32)) (by decide) dX1_leastProduct_0 ?_
  refine Y_istore_n C (pc := 1) (lv' := [(3, .int (0 : Int32)), (0, .ref (ρ k0)), (1, .int i1), (2, .int i2)]) 3 rfl (by decide) rfl dX1_leastProduct_1 ?_
  refine Y_iconst C (pc := 2) (v := (0 : Int32)) (by decide) dX1_leastProduct_2 ?_
  refine Y_istore C (pc := 3) (lv' := [(4, .int (0 : Int32)), (3, .int (0 : Int32)), (0, .ref (ρ k0)), (1, .int i1), (2, .int i2)]) (by decide) rfl dX1_leastProduct_3 ?_
  obtain ⟨e5, he5, h⟩ := Option.bind_eq_some_iff.mp h
  refine Y_sub [2, 3, 4, 1, 0] (lv' := [(0, .ref (ρ k0)), (1, .int i1), (2, .int i2), (3, .int (0 : Int32)), (4, .int (0 : Int32))]) rfl ?_
  refine lo_rule (f := (f_X1_leastProduct_L5 σ k0 i1 i2)) (YS := fun s1 => Y p l e (Rm 1 23) s m args below meth c 5 D cA ρ A0 0 0 (MQ below (QC D cA ρ A0 (some (.int r)) σ τ) args s 0 0 A0) σ τ 5 [(0, .ref (ρ k0)), (1, .int i1), (2, .int i2), (3, .int s1.1), (4, .int s1.2)] []) (YE := fun e5 => Y p l e (Rm 1 23) s m args below meth c 5 D cA ρ A0 0 0 (MQ below (QC D cA ρ A0 (some (.int r)) σ τ) args s 0 0 A0) σ τ 53 [(3, .int e5)] []) ?_ he5 ?_
  · intro s1 x h hLp hE
    unfold f_X1_leastProduct_L5 at h
    refine Y_iload C (pc := 5) 4 rfl dX1_leastProduct_5 ?_
    refine Y_aload_n C (pc := 7) 0 0 rfl rfl dX1_leastProduct_7 ?_
    refine Y_getI C (pc := 8) hk0 q_fi_RX1_80 dX1_leastProduct_8 ?_
    refine Y_iconst C (pc := 11) (v := (1 : Int32)) (by decide) dX1_leastProduct_11 ?_
    refine Y_isub C (pc := 12) dX1_leastProduct_12 ?_
    refine Y_icmp_ge C (pc := 13) (tgt := 53) dX1_leastProduct_13 (by decide) (fun c4 => ?_) (fun c4 => ?_)
    · rw [if_pos c4] at h
      have h := Option.some.inj h
      exact Y_sub [3] rfl (hE _ h.symm)
    · rw [if_neg c4] at h
      refine Y_iload_n C (pc := 16) 3 3 rfl rfl dX1_leastProduct_16 ?_
      refine Y_aload_n C (pc := 17) 0 0 rfl rfl dX1_leastProduct_17 ?_
      refine Y_getR C (pc := 18) hk0 q_fi_RX1_18 (by decide) dX1_leastProduct_18 ?_
      refine Y_iload_n C (pc := 21) 1 1 rfl rfl dX1_leastProduct_21 ?_
      refine Y_iload C (pc := 22) 4 rfl dX1_leastProduct_22 ?_
      obtain ⟨v2, hv2, h⟩ := Option.bind_eq_some_iff.mp h
      refine Y_callSN C [.ref (ρ (k0 + 3)), .int i1, .int s1.2] [.int s1.1] [.int v2, .int s1.1] (c_X8_at (q_kr_1_7 hk0) hv2) (fun _ h => h.elim) q_cw_yX8_at q_mn_RX1_91 q_st_yX8_at ⟨⟨Nat.le_of_ble_eq_true rfl, Nat.le_of_ble_eq_true rfl⟩, ⟨Nat.zero_le _, Nat.zero_le _⟩, Nat.le_of_ble_eq_true rfl⟩ rfl rfl rfl dX1_leastProduct_24 ?_
      refine Y_aload_n C (pc := 27) 0 0 rfl rfl dX1_leastProduct_27 ?_
      refine Y_getR C (pc := 28) hk0 q_fi_RX1_21 (by decide) dX1_leastProduct_28 ?_
      refine Y_iload_n C (pc := 31) 2 2 rfl rfl dX1_leastProduct_31 ?_
      refine Y_aload_n C (pc := 32) 0 0 rfl rfl dX1_leastProduct_32 ?_
      refine Y_getI C (pc := 33) hk0 q_fi_RX1_80 dX1_leastProduct_33 ?_
      refine Y_iconst C (pc := 36) (v := (2 : Int32)) (by decide) dX1_leastProduct_36 ?_
      refine Y_isub C (pc := 37) dX1_leastProduct_37 ?_
      refine Y_iload C (pc := 38) 4 rfl dX1_leastProduct_38 ?_
      refine Y_isub C (pc := 40) dX1_leastProduct_40 ?_
      obtain ⟨v3, hv3, h⟩ := Option.bind_eq_some_iff.mp h
      refine Y_callSN C [.ref (ρ (k0 + 4)), .int i2, .int (((σ k0 0) - (2 : Int32)) - s1.2)] [.int v2, .int s1.1] [.int v3, .int v2, .int s1.1] (c_X8_at (q_kr_1_8 hk0) hv3) (fun _ h => h.elim) q_cw_yX8_at q_mn_RX1_91 q_st_yX8_at ⟨⟨Nat.le_of_ble_eq_true rfl, Nat.le_of_ble_eq_true rfl⟩, ⟨Nat.zero_le _, Nat.zero_le _⟩, Nat.le_of_ble_eq_true rfl⟩ rfl rfl rfl dX1_leastProduct_41 ?_
      refine Y_imul C (pc := 44) dX1_leastProduct_44 ?_
      refine Y_iadd C (pc := 45) dX1_leastProduct_45 ?_
      refine Y_istore_n C (pc := 46) (lv' := [(3, .int (s1.1 + (v2 * v3))), (0, .ref (ρ k0)), (1, .int i1), (2, .int i2), (4, .int s1.2)]) 3 rfl (by decide) rfl dX1_leastProduct_46 ?_
      refine Y_iinc C (pc := 47) (v := (s1.2 + 1)) (lv' := [(4, .int (s1.2 + 1)), (3, .int (s1.1 + (v2 * v3))), (0, .ref (ρ k0)), (1, .int i1), (2, .int i2)]) 4 rfl (congrArg (fun z => s1.2 + z) (by decide : Int32.ofInt (1) = (1))) (by decide) rfl dX1_leastProduct_47 ?_
      refine Y_goto C (pc := 50) (tgt := 5) dX1_leastProduct_50 (by decide) ?_
      have h := Option.some.inj h
      exact Y_sub [2, 3, 4, 1, 0] rfl (hLp _ h.symm)
  · refine Y_iload_n C (pc := 53) 3 0 rfl rfl dX1_leastProduct_53 ?_
    cases h
    exact Y_iret C dX1_leastProduct_54

set_option maxRecDepth 100000 in
set_option maxHeartbeats 4000000 in
theorem c_X1_load {l : Launch} {D : va_G} {cA ρ : Nat → Nat} {σ : Sg} {τ : Tg} {k0 : Nat} {k1 : Nat} {k2 : Nat} (hI : Inj ρ) (hk0 : kd k0 = (0, 1)) (hk1 : kd k1 = (0, 6)) (hk2 : (kd k2).1 = 1) (hn2 : k2 < 97) {r : Sg} (h : f_X1_load σ k0 k1 k2 = some r) : Ct l yX1_load cX1_load 5 none 2 52 D cA ρ (Aw ρ) [.ref (ρ k0), .ref (ρ k1), .ref (ρ k2)] σ τ none r τ := by
  refine Ct_of (by decide +kernel) (Nat.le_of_ble_eq_true rfl) (fun p e s m args below meth c C => ?_)
  have C : Ctx p l s m args meth c cX1_load RX1 5 none D cA ρ (Aw ρ) := C
  have hW : Wr ρ (Aw ρ) := ⟨hI, fun k hk => ⟨k, hk, rfl⟩⟩
  unfold f_X1_load at h
  refine Y_sub [0, 1, 2] (lv' := [(0, .ref (ρ k0)), (1, .ref (ρ k1)), (2, .ref (ρ k2))]) rfl ?_
  refine Y_aload_n C (pc := 0) 0 0 rfl rfl dX1_load_0 ?_
  refine Y_aload_n C (pc := 1) 1 1 rfl rfl dX1_load_1 ?_
  refine Y_getI C (pc := 2) hk1 q_fi_RX1_27 dX1_load_2 ?_
  refine Y_putI C (pc := 5) hW hk0 (q_lo_1 hk0) q_fp_RX1_33 dX1_load_5 ?_
  refine Y_aload_n C (pc := 8) 0 0 rfl rfl dX1_load_8 ?_
  refine Y_aload_n C (pc := 9) 1 1 rfl rfl dX1_load_9 ?_
  refine Y_aload_n C (pc := 10) 2 2 rfl rfl dX1_load_10 ?_
  obtain ⟨v1, hv1, h⟩ := Option.bind_eq_some_iff.mp h
  refine Y_callV C [.ref (ρ k2)] [.ref (ρ k0)] [.int v1, .ref (ρ k0)] hk1 rfl rfl (c_X6_partCost hk1 hk2 hv1) (fun _ h => h.elim) q_cw_yX6_partCost q_ml_RX1_34 ⟨q_im_yX6_partCost, q_se_yX6_partCost⟩ ⟨⟨Nat.le_of_ble_eq_true rfl, Nat.le_of_ble_eq_true rfl⟩, ⟨Nat.zero_le _, Nat.zero_le _⟩, Nat.le_of_ble_eq_true rfl⟩ rfl rfl rfl dX1_load_11 ?_
  refine Y_putI C (pc := 14) hW hk0 (q_lo_1 hk0) q_fp_RX1_38 dX1_load_14 ?_
  refine Y_aload_n C (pc := 17) 0 0 rfl rfl dX1_load_17 ?_
  refine Y_aload_n C (pc := 18) 2 2 rfl rfl dX1_load_18 ?_
  obtain ⟨v2, hv2, h⟩ := Option.bind_eq_some_iff.mp h
  refine Y_callV C [.ref (ρ k2)] [] [] hk0 rfl rfl (c_X1_collectFree hI hk0 hk2 hv2) (fun _ h => h) q_cw_yX1_collectFree q_ml_RX1_41 ⟨q_im_yX1_collectFree, q_se_yX1_collectFree⟩ ⟨⟨Nat.le_of_ble_eq_true rfl, Nat.le_of_ble_eq_true rfl⟩, ⟨Nat.zero_le _, Nat.zero_le _⟩, Nat.le_of_ble_eq_true rfl⟩ rfl rfl rfl dX1_load_19 ?_
  refine Y_iconst C (pc := 22) (v := (0 : Int32)) (by decide) dX1_load_22 ?_
  refine Y_istore_n C (pc := 23) (lv' := [(3, .int (0 : Int32)), (0, .ref (ρ k0)), (1, .ref (ρ k1)), (2, .ref (ρ k2))]) 3 rfl (by decide) rfl dX1_load_23 ?_
  obtain ⟨e7, he7, h⟩ := Option.bind_eq_some_iff.mp h
  refine Y_sub [1, 2, 3, 0] (lv' := [(0, .ref (ρ k0)), (1, .ref (ρ k1)), (2, .ref (ρ k2)), (3, .int (0 : Int32))]) rfl ?_
  refine lo_rule (f := (f_X1_load_L24 k0 k1)) (YS := fun s3 => Y p l e (Rm 2 52) s m args below meth c 5 D cA ρ (Aw ρ) 0 0 (MQ below (QC D cA ρ (Aw ρ) none r τ) args s 0 0 (Aw ρ)) s3.2 τ 24 [(0, .ref (ρ k0)), (1, .ref (ρ k1)), (2, .ref (ρ k2)), (3, .int s3.1)] []) (YE := fun e7 => Y p l e (Rm 2 52) s m args below meth c 5 D cA ρ (Aw ρ) 0 0 (MQ below (QC D cA ρ (Aw ρ) none r τ) args s 0 0 (Aw ρ)) e7 τ 72 [(0, .ref (ρ k0)), (1, .ref (ρ k1)), (2, .ref (ρ k2))] []) ?_ he7 ?_
  · intro s3 x h hLp hE
    unfold f_X1_load_L24 at h
    refine Y_iload_n C (pc := 24) 3 3 rfl rfl dX1_load_24 ?_
    refine Y_aload_n C (pc := 25) 0 0 rfl rfl dX1_load_25 ?_
    refine Y_getI C (pc := 26) hk0 q_fi_RX1_33 dX1_load_26 ?_
    refine Y_icmp_ge C (pc := 29) (tgt := 72) dX1_load_29 (by decide) (fun c6 => ?_) (fun c6 => ?_)
    · rw [if_pos c6] at h
      have h := Option.some.inj h
      exact Y_sub [0, 1, 2] rfl (hE _ h.symm)
    · rw [if_neg c6] at h
      refine Y_aload_n C (pc := 32) 0 0 rfl rfl dX1_load_32 ?_
      refine Y_aload_n C (pc := 33) 1 1 rfl rfl dX1_load_33 ?_
      refine Y_getR C (pc := 34) hk1 q_fi_RX1_45 (by decide) dX1_load_34 ?_
      refine Y_iload_n C (pc := 37) 3 3 rfl rfl dX1_load_37 ?_
      refine Y_aload_n C (pc := 38) 0 0 rfl rfl dX1_load_38 ?_
      refine Y_getI C (pc := 39) hk0 q_fi_RX1_48 dX1_load_39 ?_
      refine Y_aload_n C (pc := 42) 0 0 rfl rfl dX1_load_42 ?_
      refine Y_getR C (pc := 43) hk0 q_fi_RX1_18 (by decide) dX1_load_43 ?_
      obtain ⟨v4, hv4, h⟩ := Option.bind_eq_some_iff.mp h
      refine Y_callV C [.ref (ρ (k1 + 1)), .int s3.1, .int (s3.2 k0 5), .ref (ρ (k0 + 3))] [] [] hk0 rfl rfl (c_X1_sortRow hI hk0 (q_kr_6_1 hk1) (q_kr_1_7 hk0) (q_lr_1_7 hk0) hv4) (fun _ h => h) q_cw_yX1_sortRow q_ml_RX1_51 ⟨q_im_yX1_sortRow, q_se_yX1_sortRow⟩ ⟨⟨Nat.le_of_ble_eq_true rfl, Nat.le_of_ble_eq_true rfl⟩, ⟨Nat.zero_le _, Nat.zero_le _⟩, Nat.le_of_ble_eq_true rfl⟩ rfl rfl rfl dX1_load_46 ?_
      refine Y_aload_n C (pc := 49) 0 0 rfl rfl dX1_load_49 ?_
      refine Y_aload_n C (pc := 50) 1 1 rfl rfl dX1_load_50 ?_
      refine Y_getR C (pc := 51) hk1 q_fi_RX1_55 (by decide) dX1_load_51 ?_
      refine Y_iload_n C (pc := 54) 3 3 rfl rfl dX1_load_54 ?_
      refine Y_aload_n C (pc := 55) 0 0 rfl rfl dX1_load_55 ?_
      refine Y_getI C (pc := 56) hk0 q_fi_RX1_58 dX1_load_56 ?_
      refine Y_aload_n C (pc := 59) 0 0 rfl rfl dX1_load_59 ?_
      refine Y_getR C (pc := 60) hk0 q_fi_RX1_21 (by decide) dX1_load_60 ?_
      obtain ⟨v5, hv5, h⟩ := Option.bind_eq_some_iff.mp h
      refine Y_callV C [.ref (ρ (k1 + 2)), .int s3.1, .int (v4 k0 4), .ref (ρ (k0 + 4))] [] [] hk0 rfl rfl (c_X1_sortRow hI hk0 (q_kr_6_2 hk1) (q_kr_1_8 hk0) (q_lr_1_8 hk0) hv5) (fun _ h => h) q_cw_yX1_sortRow q_ml_RX1_51 ⟨q_im_yX1_sortRow, q_se_yX1_sortRow⟩ ⟨⟨Nat.le_of_ble_eq_true rfl, Nat.le_of_ble_eq_true rfl⟩, ⟨Nat.zero_le _, Nat.zero_le _⟩, Nat.le_of_ble_eq_true rfl⟩ rfl rfl rfl dX1_load_63 ?_
      refine Y_iinc C (pc := 66) (v := (s3.1 + 1)) (lv' := [(3, .int (s3.1 + 1)), (0, .ref (ρ k0)), (1, .ref (ρ k1)), (2, .ref (ρ k2))]) 3 rfl (congrArg (fun z => s3.1 + z) (by decide : Int32.ofInt (1) = (1))) (by decide) rfl dX1_load_66 ?_
      refine Y_goto C (pc := 69) (tgt := 24) dX1_load_69 (by decide) ?_
      have h := Option.some.inj h
      exact Y_sub [1, 2, 3, 0] rfl (hLp _ h.symm)
  · refine Y_iconst C (pc := 72) (v := (0 : Int32)) (by decide) dX1_load_72 ?_
    refine Y_istore_n C (pc := 73) (lv' := [(3, .int (0 : Int32)), (0, .ref (ρ k0)), (1, .ref (ρ k1)), (2, .ref (ρ k2))]) 3 rfl (by decide) rfl dX1_load_73 ?_
    obtain ⟨e22, he22, h⟩ := Option.bind_eq_some_iff.mp h
    refine Y_sub [1, 2, 3, 0] (lv' := [(0, .ref (ρ k0)), (1, .ref (ρ k1)), (2, .ref (ρ k2)), (3, .int (0 : Int32))]) rfl ?_
    refine lo_rule (f := (f_X1_load_L74 k0 k1 k2)) (YS := fun s8 => Y p l e (Rm 2 52) s m args below meth c 5 D cA ρ (Aw ρ) 0 0 (MQ below (QC D cA ρ (Aw ρ) none r τ) args s 0 0 (Aw ρ)) s8.2 τ 74 [(0, .ref (ρ k0)), (1, .ref (ρ k1)), (2, .ref (ρ k2)), (3, .int s8.1)] []) (YE := fun e22 => Y p l e (Rm 2 52) s m args below meth c 5 D cA ρ (Aw ρ) 0 0 (MQ below (QC D cA ρ (Aw ρ) none r τ) args s 0 0 (Aw ρ)) e22 τ 156 [] []) ?_ he22 ?_
    · intro s8 x h hLp hE
      unfold f_X1_load_L74 at h
      refine Y_iload_n C (pc := 74) 3 3 rfl rfl dX1_load_74 ?_
      refine Y_aload_n C (pc := 75) 0 0 rfl rfl dX1_load_75 ?_
      refine Y_getI C (pc := 76) hk0 q_fi_RX1_33 dX1_load_76 ?_
      refine Y_icmp_ge C (pc := 79) (tgt := 156) dX1_load_79 (by decide) (fun c21 => ?_) (fun c21 => ?_)
      · rw [if_pos c21] at h
        have h := Option.some.inj h
        exact Y_sub [] rfl (hE _ h.symm)
      · rw [if_neg c21] at h
        refine Y_iconst C (pc := 82) (v := (0 : Int32)) (by decide) dX1_load_82 ?_
        refine Y_istore C (pc := 83) (lv' := [(4, .int (0 : Int32)), (0, .ref (ρ k0)), (1, .ref (ρ k1)), (2, .ref (ρ k2)), (3, .int s8.1)]) (by decide) rfl dX1_load_83 ?_
        obtain ⟨e20, he20, h⟩ := Option.bind_eq_some_iff.mp h
        refine Y_sub [1, 2, 3, 4, 0] (lv' := [(0, .ref (ρ k0)), (1, .ref (ρ k1)), (2, .ref (ρ k2)), (3, .int s8.1), (4, .int (0 : Int32))]) rfl ?_
        refine lo_rule (f := (f_X1_load_L85 k0 s8 k1 k2)) (YS := fun s9 => Y p l e (Rm 2 52) s m args below meth c 5 D cA ρ (Aw ρ) 0 0 (MQ below (QC D cA ρ (Aw ρ) none r τ) args s 0 0 (Aw ρ)) s9.2 τ 85 [(0, .ref (ρ k0)), (1, .ref (ρ k1)), (2, .ref (ρ k2)), (3, .int s8.1), (4, .int s9.1)] []) (YE := fun e20 => Y p l e (Rm 2 52) s m args below meth c 5 D cA ρ (Aw ρ) 0 0 (MQ below (QC D cA ρ (Aw ρ) none r τ) args s 0 0 (Aw ρ)) e20 τ 150 [(0, .ref (ρ k0)), (1, .ref (ρ k1)), (2, .ref (ρ k2)), (3, .int s8.1)] []) ?_ he20 ?_
        · intro s9 x h hLp hE
          unfold f_X1_load_L85 at h
          have hJ144 : ∀ (j11 : Int32) (sj12 : Sg), f_X1_load_J144 j11 sj12 = some x → Y p l e (Rm 2 52) s m args below meth c 5 D cA ρ (Aw ρ) 0 0 (MQ below (QC D cA ρ (Aw ρ) none r τ) args s 0 0 (Aw ρ)) sj12 τ 144 [(0, .ref (ρ k0)), (1, .ref (ρ k1)), (2, .ref (ρ k2)), (3, .int s8.1), (4, .int j11)] [] := by
            intro j11 sj12 h
            unfold f_X1_load_J144 at h
            refine Y_iinc C (pc := 144) (v := (j11 + 1)) (lv' := [(4, .int (j11 + 1)), (0, .ref (ρ k0)), (1, .ref (ρ k1)), (2, .ref (ρ k2)), (3, .int s8.1)]) 4 rfl (congrArg (fun z => j11 + z) (by decide : Int32.ofInt (1) = (1))) (by decide) rfl dX1_load_144 ?_
            refine Y_goto C (pc := 147) (tgt := 85) dX1_load_147 (by decide) ?_
            have h := Option.some.inj h
            exact Y_sub [1, 2, 3, 4, 0] rfl (hLp _ h.symm)
          refine Y_iload C (pc := 85) 4 rfl dX1_load_85 ?_
          refine Y_aload_n C (pc := 87) 0 0 rfl rfl dX1_load_87 ?_
          refine Y_getI C (pc := 88) hk0 q_fi_RX1_33 dX1_load_88 ?_
          refine Y_icmp_ge C (pc := 91) (tgt := 150) dX1_load_91 (by decide) (fun c19 => ?_) (fun c19 => ?_)
          · rw [if_pos c19] at h
            have h := Option.some.inj h
            exact Y_sub [0, 1, 2, 3] rfl (hE _ h.symm)
          · rw [if_neg c19] at h
            refine Y_aload_n C (pc := 94) 0 0 rfl rfl dX1_load_94 ?_
            refine Y_getI C (pc := 95) hk0 q_fi_RX1_48 dX1_load_95 ?_
            refine Y_iload_n C (pc := 98) 3 3 rfl rfl dX1_load_98 ?_
            obtain ⟨v10, hv10, h⟩ := Option.bind_eq_some_iff.mp h
            refine Y_callSN C [.int (s9.2 k0 5), .int s8.1] [] [.int v10] (c_X8_has  hv10) (fun _ h => h.elim) q_cw_yX8_has q_mn_RX1_61 q_st_yX8_has ⟨⟨Nat.le_of_ble_eq_true rfl, Nat.le_of_ble_eq_true rfl⟩, ⟨Nat.zero_le _, Nat.zero_le _⟩, Nat.le_of_ble_eq_true rfl⟩ rfl rfl rfl dX1_load_99 ?_
            refine Y_if_eq C (pc := 102) (tgt := 144) dX1_load_102 (by decide) (fun c18 => ?_) (fun c18 => ?_)
            · rw [if_pos c18] at h
              exact Y_sub [0, 1, 2, 3, 4] rfl (hJ144 _ _ h)
            · rw [if_neg c18] at h
              refine Y_aload_n C (pc := 105) 0 0 rfl rfl dX1_load_105 ?_
              refine Y_getI C (pc := 106) hk0 q_fi_RX1_58 dX1_load_106 ?_
              refine Y_iload C (pc := 109) 4 rfl dX1_load_109 ?_
              obtain ⟨v13, hv13, h⟩ := Option.bind_eq_some_iff.mp h
              refine Y_callSN C [.int (s9.2 k0 4), .int s9.1] [] [.int v13] (c_X8_has  hv13) (fun _ h => h.elim) q_cw_yX8_has q_mn_RX1_61 q_st_yX8_has ⟨⟨Nat.le_of_ble_eq_true rfl, Nat.le_of_ble_eq_true rfl⟩, ⟨Nat.zero_le _, Nat.zero_le _⟩, Nat.le_of_ble_eq_true rfl⟩ rfl rfl rfl dX1_load_111 ?_
              refine Y_if_eq C (pc := 114) (tgt := 144) dX1_load_114 (by decide) (fun c17 => ?_) (fun c17 => ?_)
              · rw [if_pos c17] at h
                exact Y_sub [0, 1, 2, 3, 4] rfl (hJ144 _ _ h)
              · rw [if_neg c17] at h
                refine Y_aload_n C (pc := 117) 0 0 rfl rfl dX1_load_117 ?_
                refine Y_getR C (pc := 118) hk0 q_fi_RX1_9 (by decide) dX1_load_118 ?_
                refine Y_iload_n C (pc := 121) 3 3 rfl rfl dX1_load_121 ?_
                refine Y_iload C (pc := 122) 4 rfl dX1_load_122 ?_
                refine Y_aload_n C (pc := 124) 0 0 rfl rfl dX1_load_124 ?_
                refine Y_aload_n C (pc := 125) 1 1 rfl rfl dX1_load_125 ?_
                refine Y_aload_n C (pc := 126) 2 2 rfl rfl dX1_load_126 ?_
                refine Y_iload_n C (pc := 127) 3 3 rfl rfl dX1_load_127 ?_
                refine Y_iload C (pc := 128) 4 rfl dX1_load_128 ?_
                obtain ⟨v14, hv14, h⟩ := Option.bind_eq_some_iff.mp h
                refine Y_callV C [.ref (ρ k1), .ref (ρ k2), .int s8.1, .int s9.1] [.int s9.1, .int s8.1, .ref (ρ (k0 + 1))] [.int v14, .int s9.1, .int s8.1, .ref (ρ (k0 + 1))] hk0 rfl rfl (c_X1_linear hk0 hk1 hk2 hv14) (fun _ h => h.elim) q_cw_yX1_linear q_ml_RX1_65 ⟨q_im_yX1_linear, q_se_yX1_linear⟩ ⟨⟨Nat.le_of_ble_eq_true rfl, Nat.le_of_ble_eq_true rfl⟩, ⟨Nat.zero_le _, Nat.zero_le _⟩, Nat.le_of_ble_eq_true rfl⟩ rfl rfl rfl dX1_load_130 ?_
                refine Y_aload_n C (pc := 133) 0 0 rfl rfl dX1_load_133 ?_
                refine Y_iload_n C (pc := 134) 3 3 rfl rfl dX1_load_134 ?_
                refine Y_iload C (pc := 135) 4 rfl dX1_load_135 ?_
                obtain ⟨v15, hv15, h⟩ := Option.bind_eq_some_iff.mp h
                refine Y_callV C [.int s8.1, .int s9.1] [.int v14, .int s9.1, .int s8.1, .ref (ρ (k0 + 1))] [.int v15, .int v14, .int s9.1, .int s8.1, .ref (ρ (k0 + 1))] hk0 rfl rfl (c_X1_leastProduct hk0 hv15) (fun _ h => h.elim) q_cw_yX1_leastProduct q_ml_RX1_69 ⟨q_im_yX1_leastProduct, q_se_yX1_leastProduct⟩ ⟨⟨Nat.le_of_ble_eq_true rfl, Nat.le_of_ble_eq_true rfl⟩, ⟨Nat.zero_le _, Nat.zero_le _⟩, Nat.le_of_ble_eq_true rfl⟩ rfl rfl rfl dX1_load_137 ?_
                refine Y_iadd C (pc := 140) dX1_load_140 ?_
                obtain ⟨v16, hv16, h⟩ := Option.bind_eq_some_iff.mp h
                refine Y_callSN C [.ref (ρ (k0 + 1)), .int s8.1, .int s9.1, .int (v14 + v15)] [] [] (c_X8_put hI (q_kr_1_1 hk0) (q_lr_1_1 hk0) hv16) (fun _ h => h) q_cw_yX8_put q_mn_RX1_73 q_st_yX8_put ⟨⟨Nat.le_of_ble_eq_true rfl, Nat.le_of_ble_eq_true rfl⟩, ⟨Nat.zero_le _, Nat.zero_le _⟩, Nat.le_of_ble_eq_true rfl⟩ rfl rfl rfl dX1_load_141 ?_
                exact Y_sub [0, 1, 2, 3, 4] rfl (hJ144 _ _ h)
        · refine Y_iinc C (pc := 150) (v := (s8.1 + 1)) (lv' := [(3, .int (s8.1 + 1)), (0, .ref (ρ k0)), (1, .ref (ρ k1)), (2, .ref (ρ k2))]) 3 rfl (congrArg (fun z => s8.1 + z) (by decide : Int32.ofInt (1) = (1))) (by decide) rfl dX1_load_150 ?_
          refine Y_goto C (pc := 153) (tgt := 74) dX1_load_153 (by decide) ?_
          have h := Option.some.inj h
          exact Y_sub [1, 2, 3, 0] rfl (hLp _ h.symm)
    · cases h
      exact Y_vret C dX1_load_156

set_option maxRecDepth 100000 in
set_option maxHeartbeats 4000000 in
theorem c_J6_bitCount_0f7a4 {l : Launch} {D : va_G} {cA ρ : Nat → Nat} {σ : Sg} {τ : Tg} {i0 : Int32}  {r : Int32} (h : f_J6_bitCount_0f7a4 i0 = some r) : Ct l yJ6_bitCount_0f7a4 cJ6_bitCount_0f7a4 1 (some .int) 0 0 D cA ρ A0 [.int i0] σ τ (some (.int r)) σ τ := by
  refine Ct_of (by decide +kernel) (Nat.le_of_ble_eq_true rfl) (fun p e s m args below meth c C => ?_)
  have C : Ctx p l s m args meth c cJ6_bitCount_0f7a4 RJ6 1 (some .int) D cA ρ A0 := C
  unfold f_J6_bitCount_0f7a4 at h
  refine Y_sub [0] (lv' := [(0, .int i0)]) rfl ?_
  refine Y_iload_n C (pc := 0) 0 0 rfl rfl dJ6_bitCount_0f7a4_0 ?_
  refine Y_iload_n C (pc := 1) 0 0 rfl rfl dJ6_bitCount_0f7a4_1 ?_
  refine Y_iconst C (pc := 2) (v := (1 : Int32)) (by decide) dJ6_bitCount_0f7a4_2 ?_
  refine Y_iushr C (pc := 3) dJ6_bitCount_0f7a4_3 ?_
  refine Y_ldcw C q_ct_RJ6_265 dJ6_bitCount_0f7a4_4 ?_
  refine Y_iand C (pc := 7) dJ6_bitCount_0f7a4_7 ?_
  refine Y_isub C (pc := 8) dJ6_bitCount_0f7a4_8 ?_
  refine Y_istore_n C (pc := 9) (lv' := [(0, .int (i0 - ((Int32.toUInt32 i0 >>> (Int32.toUInt32 (1 : Int32) &&& Int32.toUInt32 31)).toInt32 &&& (1431655765 : Int32))))]) 0 rfl (by decide) rfl dJ6_bitCount_0f7a4_9 ?_
  refine Y_iload_n C (pc := 10) 0 0 rfl rfl dJ6_bitCount_0f7a4_10 ?_
  refine Y_ldcw C q_ct_RJ6_266 dJ6_bitCount_0f7a4_11 ?_
  refine Y_iand C (pc := 14) dJ6_bitCount_0f7a4_14 ?_
  refine Y_iload_n C (pc := 15) 0 0 rfl rfl dJ6_bitCount_0f7a4_15 ?_
  refine Y_iconst C (pc := 16) (v := (2 : Int32)) (by decide) dJ6_bitCount_0f7a4_16 ?_
  refine Y_iushr C (pc := 17) dJ6_bitCount_0f7a4_17 ?_
  refine Y_ldcw C q_ct_RJ6_266 dJ6_bitCount_0f7a4_18 ?_
  refine Y_iand C (pc := 21) dJ6_bitCount_0f7a4_21 ?_
  refine Y_iadd C (pc := 22) dJ6_bitCount_0f7a4_22 ?_
  refine Y_istore_n C (pc := 23) (lv' := [(0, .int (((i0 - ((Int32.toUInt32 i0 >>> (Int32.toUInt32 (1 : Int32) &&& Int32.toUInt32 31)).toInt32 &&& (1431655765 : Int32))) &&& (858993459 : Int32)) + ((Int32.toUInt32 (i0 - ((Int32.toUInt32 i0 >>> (Int32.toUInt32 (1 : Int32) &&& Int32.toUInt32 31)).toInt32 &&& (1431655765 : Int32))) >>> (Int32.toUInt32 (2 : Int32) &&& Int32.toUInt32 31)).toInt32 &&& (858993459 : Int32))))]) 0 rfl (by decide) rfl dJ6_bitCount_0f7a4_23 ?_
  refine Y_iload_n C (pc := 24) 0 0 rfl rfl dJ6_bitCount_0f7a4_24 ?_
  refine Y_iload_n C (pc := 25) 0 0 rfl rfl dJ6_bitCount_0f7a4_25 ?_
  refine Y_iconst C (pc := 26) (v := (4 : Int32)) (by decide) dJ6_bitCount_0f7a4_26 ?_
  refine Y_iushr C (pc := 27) dJ6_bitCount_0f7a4_27 ?_
  refine Y_iadd C (pc := 28) dJ6_bitCount_0f7a4_28 ?_
  refine Y_ldcw C q_ct_RJ6_267 dJ6_bitCount_0f7a4_29 ?_
  refine Y_iand C (pc := 32) dJ6_bitCount_0f7a4_32 ?_
  refine Y_istore_n C (pc := 33) (lv' := [(0, .int (((((i0 - ((Int32.toUInt32 i0 >>> (Int32.toUInt32 (1 : Int32) &&& Int32.toUInt32 31)).toInt32 &&& (1431655765 : Int32))) &&& (858993459 : Int32)) + ((Int32.toUInt32 (i0 - ((Int32.toUInt32 i0 >>> (Int32.toUInt32 (1 : Int32) &&& Int32.toUInt32 31)).toInt32 &&& (1431655765 : Int32))) >>> (Int32.toUInt32 (2 : Int32) &&& Int32.toUInt32 31)).toInt32 &&& (858993459 : Int32))) + (Int32.toUInt32 (((i0 - ((Int32.toUInt32 i0 >>> (Int32.toUInt32 (1 : Int32) &&& Int32.toUInt32 31)).toInt32 &&& (1431655765 : Int32))) &&& (858993459 : Int32)) + ((Int32.toUInt32 (i0 - ((Int32.toUInt32 i0 >>> (Int32.toUInt32 (1 : Int32) &&& Int32.toUInt32 31)).toInt32 &&& (1431655765 : Int32))) >>> (Int32.toUInt32 (2 : Int32) &&& Int32.toUInt32 31)).toInt32 &&& (858993459 : Int32))) >>> (Int32.toUInt32 (4 : Int32) &&& Int32.toUInt32 31)).toInt32) &&& (252645135 : Int32)))]) 0 rfl (by decide) rfl dJ6_bitCount_0f7a4_33 ?_
  refine Y_iload_n C (pc := 34) 0 0 rfl rfl dJ6_bitCount_0f7a4_34 ?_
  refine Y_iload_n C (pc := 35) 0 0 rfl rfl dJ6_bitCount_0f7a4_35 ?_
  refine Y_bipush C (pc := 36) (v := (8 : Int32)) (by decide) dJ6_bitCount_0f7a4_36 ?_
  refine Y_iushr C (pc := 38) dJ6_bitCount_0f7a4_38 ?_
  refine Y_iadd C (pc := 39) dJ6_bitCount_0f7a4_39 ?_
  refine Y_istore_n C (pc := 40) (lv' := [(0, .int ((((((i0 - ((Int32.toUInt32 i0 >>> (Int32.toUInt32 (1 : Int32) &&& Int32.toUInt32 31)).toInt32 &&& (1431655765 : Int32))) &&& (858993459 : Int32)) + ((Int32.toUInt32 (i0 - ((Int32.toUInt32 i0 >>> (Int32.toUInt32 (1 : Int32) &&& Int32.toUInt32 31)).toInt32 &&& (1431655765 : Int32))) >>> (Int32.toUInt32 (2 : Int32) &&& Int32.toUInt32 31)).toInt32 &&& (858993459 : Int32))) + (Int32.toUInt32 (((i0 - ((Int32.toUInt32 i0 >>> (Int32.toUInt32 (1 : Int32) &&& Int32.toUInt32 31)).toInt32 &&& (1431655765 : Int32))) &&& (858993459 : Int32)) + ((Int32.toUInt32 (i0 - ((Int32.toUInt32 i0 >>> (Int32.toUInt32 (1 : Int32) &&& Int32.toUInt32 31)).toInt32 &&& (1431655765 : Int32))) >>> (Int32.toUInt32 (2 : Int32) &&& Int32.toUInt32 31)).toInt32 &&& (858993459 : Int32))) >>> (Int32.toUInt32 (4 : Int32) &&& Int32.toUInt32 31)).toInt32) &&& (252645135 : Int32)) + (Int32.toUInt32 (((((i0 - ((Int32.toUInt32 i0 >>> (Int32.toUInt32 (1 : Int32) &&& Int32.toUInt32 31)).toInt32 &&& (1431655765 : Int32))) &&& (858993459 : Int32)) + ((Int32.toUInt32 (i0 - ((Int32.toUInt32 i0 >>> (Int32.toUInt32 (1 : Int32) &&& Int32.toUInt32 31)).toInt32 &&& (1431655765 : Int32))) >>> (Int32.toUInt32 (2 : Int32) &&& Int32.toUInt32 31)).toInt32 &&& (858993459 : Int32))) + (Int32.toUInt32 (((i0 - ((Int32.toUInt32 i0 >>> (Int32.toUInt32 (1 : Int32) &&& Int32.toUInt32 31)).toInt32 &&& (1431655765 : Int32))) &&& (858993459 : Int32)) + ((Int32.toUInt32 (i0 - ((Int32.toUInt32 i0 >>> (Int32.toUInt32 (1 : Int32) &&& Int32.toUInt32 31)).toInt32 &&& (1431655765 : Int32))) >>> (Int32.toUInt32 (2 : Int32) &&& Int32.toUInt32 31)).toInt32 &&& (858993459 : Int32))) >>> (Int32.toUInt32 (4 : Int32) &&& Int32.toUInt32 31)).toInt32) &&& (252645135 : Int32)) >>> (Int32.toUInt32 (8 : Int32) &&& Int32.toUInt32 31)).toInt32))]) 0 rfl (by decide) rfl dJ6_bitCount_0f7a4_40 ?_
  refine Y_iload_n C (pc := 41) 0 0 rfl rfl dJ6_bitCount_0f7a4_41 ?_
  refine Y_iload_n C (pc := 42) 0 0 rfl rfl dJ6_bitCount_0f7a4_42 ?_
  refine Y_bipush C (pc := 43) (v := (16 : Int32)) (by decide) dJ6_bitCount_0f7a4_43 ?_
  refine Y_iushr C (pc := 45) dJ6_bitCount_0f7a4_45 ?_
  refine Y_iadd C (pc := 46) dJ6_bitCount_0f7a4_46 ?_
  refine Y_istore_n C (pc := 47) (lv' := [(0, .int (((((((i0 - ((Int32.toUInt32 i0 >>> (Int32.toUInt32 (1 : Int32) &&& Int32.toUInt32 31)).toInt32 &&& (1431655765 : Int32))) &&& (858993459 : Int32)) + ((Int32.toUInt32 (i0 - ((Int32.toUInt32 i0 >>> (Int32.toUInt32 (1 : Int32) &&& Int32.toUInt32 31)).toInt32 &&& (1431655765 : Int32))) >>> (Int32.toUInt32 (2 : Int32) &&& Int32.toUInt32 31)).toInt32 &&& (858993459 : Int32))) + (Int32.toUInt32 (((i0 - ((Int32.toUInt32 i0 >>> (Int32.toUInt32 (1 : Int32) &&& Int32.toUInt32 31)).toInt32 &&& (1431655765 : Int32))) &&& (858993459 : Int32)) + ((Int32.toUInt32 (i0 - ((Int32.toUInt32 i0 >>> (Int32.toUInt32 (1 : Int32) &&& Int32.toUInt32 31)).toInt32 &&& (1431655765 : Int32))) >>> (Int32.toUInt32 (2 : Int32) &&& Int32.toUInt32 31)).toInt32 &&& (858993459 : Int32))) >>> (Int32.toUInt32 (4 : Int32) &&& Int32.toUInt32 31)).toInt32) &&& (252645135 : Int32)) + (Int32.toUInt32 (((((i0 - ((Int32.toUInt32 i0 >>> (Int32.toUInt32 (1 : Int32) &&& Int32.toUInt32 31)).toInt32 &&& (1431655765 : Int32))) &&& (858993459 : Int32)) + ((Int32.toUInt32 (i0 - ((Int32.toUInt32 i0 >>> (Int32.toUInt32 (1 : Int32) &&& Int32.toUInt32 31)).toInt32 &&& (1431655765 : Int32))) >>> (Int32.toUInt32 (2 : Int32) &&& Int32.toUInt32 31)).toInt32 &&& (858993459 : Int32))) + (Int32.toUInt32 (((i0 - ((Int32.toUInt32 i0 >>> (Int32.toUInt32 (1 : Int32) &&& Int32.toUInt32 31)).toInt32 &&& (1431655765 : Int32))) &&& (858993459 : Int32)) + ((Int32.toUInt32 (i0 - ((Int32.toUInt32 i0 >>> (Int32.toUInt32 (1 : Int32) &&& Int32.toUInt32 31)).toInt32 &&& (1431655765 : Int32))) >>> (Int32.toUInt32 (2 : Int32) &&& Int32.toUInt32 31)).toInt32 &&& (858993459 : Int32))) >>> (Int32.toUInt32 (4 : Int32) &&& Int32.toUInt32 31)).toInt32) &&& (252645135 : Int32)) >>> (Int32.toUInt32 (8 : Int32) &&& Int32.toUInt32 31)).toInt32) + (Int32.toUInt32 ((((((i0 - ((Int32.toUInt32 i0 >>> (Int32.toUInt32 (1 : Int32) &&& Int32.toUInt32 31)).toInt32 &&& (1431655765 : Int32))) &&& (858993459 : Int32)) + ((Int32.toUInt32 (i0 - ((Int32.toUInt32 i0 >>> (Int32.toUInt32 (1 : Int32) &&& Int32.toUInt32 31)).toInt32 &&& (1431655765 : Int32))) >>> (Int32.toUInt32 (2 : Int32) &&& Int32.toUInt32 31)).toInt32 &&& (858993459 : Int32))) + (Int32.toUInt32 (((i0 - ((Int32.toUInt32 i0 >>> (Int32.toUInt32 (1 : Int32) &&& Int32.toUInt32 31)).toInt32 &&& (1431655765 : Int32))) &&& (858993459 : Int32)) + ((Int32.toUInt32 (i0 - ((Int32.toUInt32 i0 >>> (Int32.toUInt32 (1 : Int32) &&& Int32.toUInt32 31)).toInt32 &&& (1431655765 : Int32))) >>> (Int32.toUInt32 (2 : Int32) &&& Int32.toUInt32 31)).toInt32 &&& (858993459 : Int32))) >>> (Int32.toUInt32 (4 : Int32) &&& Int32.toUInt32 31)).toInt32) &&& (252645135 : Int32)) + (Int32.toUInt32 (((((i0 - ((Int32.toUInt32 i0 >>> (Int32.toUInt32 (1 : Int32) &&& Int32.toUInt32 31)).toInt32 &&& (1431655765 : Int32))) &&& (858993459 : Int32)) + ((Int32.toUInt32 (i0 - ((Int32.toUInt32 i0 >>> (Int32.toUInt32 (1 : Int32) &&& Int32.toUInt32 31)).toInt32 &&& (1431655765 : Int32))) >>> (Int32.toUInt32 (2 : Int32) &&& Int32.toUInt32 31)).toInt32 &&& (858993459 : Int32))) + (Int32.toUInt32 (((i0 - ((Int32.toUInt32 i0 >>> (Int32.toUInt32 (1 : Int32) &&& Int32.toUInt32 31)).toInt32 &&& (1431655765 : Int32))) &&& (858993459 : Int32)) + ((Int32.toUInt32 (i0 - ((Int32.toUInt32 i0 >>> (Int32.toUInt32 (1 : Int32) &&& Int32.toUInt32 31)).toInt32 &&& (1431655765 : Int32))) >>> (Int32.toUInt32 (2 : Int32) &&& Int32.toUInt32 31)).toInt32 &&& (858993459 : Int32))) >>> (Int32.toUInt32 (4 : Int32) &&& Int32.toUInt32 31)).toInt32) &&& (252645135 : Int32)) >>> (Int32.toUInt32 (8 : Int32) &&& Int32.toUInt32 31)).toInt32) >>> (Int32.toUInt32 (16 : Int32) &&& Int32.toUInt32 31)).toInt32))]) 0 rfl (by decide) rfl dJ6_bitCount_0f7a4_47 ?_
  refine Y_iload_n C (pc := 48) 0 0 rfl rfl dJ6_bitCount_0f7a4_48 ?_
  refine Y_bipush C (pc := 49) (v := (63 : Int32)) (by decide) dJ6_bitCount_0f7a4_49 ?_
  refine Y_iand C (pc := 51) dJ6_bitCount_0f7a4_51 ?_
  cases h
  exact Y_iret C dJ6_bitCount_0f7a4_52

set_option maxRecDepth 100000 in
set_option maxHeartbeats 4000000 in
theorem c_X1_leastSum {l : Launch} {D : va_G} {cA ρ : Nat → Nat} {σ : Sg} {τ : Tg} {k0 : Nat} {i1 : Int32} (hk0 : kd k0 = (0, 1)) {r : Int32} (h : f_X1_leastSum σ k0 i1 = some r) : Ct l yX1_leastSum cX1_leastSum 5 (some .int) 1 23 D cA ρ A0 [.ref (ρ k0), .int i1] σ τ (some (.int r)) σ τ := by
  refine Ct_of (by decide +kernel) (Nat.le_of_ble_eq_true rfl) (fun p e s m args below meth c C => ?_)
  have C : Ctx p l s m args meth c cX1_leastSum RX1 5 (some .int) D cA ρ A0 := C
  unfold f_X1_leastSum at h
  refine Y_sub [0, 1] (lv' := [(0, .ref (ρ k0)), (1, .int i1)]) rfl ?_
  refine Y_aload_n C (pc := 0) 0 0 rfl rfl dX1_leastSum_0 ?_
  refine Y_getR C (pc := 1) hk0 q_fi_RX1_15 (by decide) dX1_leastSum_1 ?_
  refine Y_iload_n C (pc := 4) 1 1 rfl rfl dX1_leastSum_4 ?_
  obtain ⟨v1, hv1, h⟩ := Option.bind_eq_some_iff.mp h
  refine Y_callS C [.int i1] [.ref (ρ (k0 + 2))] [.int v1, .ref (ρ (k0 + 2))] (c_J6_bitCount_0f7a4  hv1) (fun _ h => h.elim) q_cw_yJ6_bitCount_0f7a4 q_ml_RX1_102 q_st_yJ6_bitCount_0f7a4 ⟨⟨Nat.le_of_ble_eq_true rfl, Nat.le_of_ble_eq_true rfl⟩, ⟨Nat.zero_le _, Nat.zero_le _⟩, Nat.le_of_ble_eq_true rfl⟩ rfl rfl rfl dX1_leastSum_5 ?_
  refine Y_iconst C (pc := 8) (v := (1 : Int32)) (by decide) dX1_leastSum_8 ?_
  refine Y_isub C (pc := 9) dX1_leastSum_9 ?_
  obtain ⟨v2, hv2, h⟩ := Option.bind_eq_some_iff.mp h
  refine Y_callSN C [.ref (ρ (k0 + 2)), .int (v1 - (1 : Int32))] [] [.int v2] (c_X8_item (q_kr_1_6 hk0) hv2) (fun _ h => h.elim) q_cw_yX8_item q_mn_RX1_83 q_st_yX8_item ⟨⟨Nat.le_of_ble_eq_true rfl, Nat.le_of_ble_eq_true rfl⟩, ⟨Nat.zero_le _, Nat.zero_le _⟩, Nat.le_of_ble_eq_true rfl⟩ rfl rfl rfl dX1_leastSum_10 ?_
  refine Y_istore_n C (pc := 13) (lv' := [(2, .int v2), (0, .ref (ρ k0)), (1, .int i1)]) 2 rfl (by decide) rfl dX1_leastSum_13 ?_
  refine Y_ldc C q_ct_RX1_107 dX1_leastSum_14 ?_
  refine Y_istore_n C (pc := 16) (lv' := [(3, .int (1000000 : Int32)), (2, .int v2), (0, .ref (ρ k0)), (1, .int i1)]) 3 rfl (by decide) rfl dX1_leastSum_16 ?_
  refine Y_iconst C (pc := 17) (v := (0 : Int32)) (by decide) dX1_leastSum_17 ?_
  refine Y_istore C (pc := 18) (lv' := [(4, .int (0 : Int32)), (3, .int (1000000 : Int32)), (2, .int v2), (0, .ref (ρ k0)), (1, .int i1)]) (by decide) rfl dX1_leastSum_18 ?_
  obtain ⟨e11, he11, h⟩ := Option.bind_eq_some_iff.mp h
  refine Y_sub [3, 4, 2, 1, 0] (lv' := [(0, .ref (ρ k0)), (1, .int i1), (2, .int v2), (3, .int (1000000 : Int32)), (4, .int (0 : Int32))]) rfl ?_
  refine lo_rule (f := (f_X1_leastSum_L20 σ k0 i1 v2)) (YS := fun s3 => Y p l e (Rm 1 23) s m args below meth c 5 D cA ρ A0 0 0 (MQ below (QC D cA ρ A0 (some (.int r)) σ τ) args s 0 0 A0) σ τ 20 [(0, .ref (ρ k0)), (1, .int i1), (2, .int v2), (3, .int s3.1), (4, .int s3.2)] []) (YE := fun e11 => Y p l e (Rm 1 23) s m args below meth c 5 D cA ρ A0 0 0 (MQ below (QC D cA ρ A0 (some (.int r)) σ τ) args s 0 0 A0) σ τ 73 [(3, .int e11)] []) ?_ he11 ?_
  · intro s3 x h hLp hE
    unfold f_X1_leastSum_L20 at h
    have hJ67 : ∀ (j5 : Int32) (j6 : Int32), f_X1_leastSum_J67 j5 j6 = some x → Y p l e (Rm 1 23) s m args below meth c 5 D cA ρ A0 0 0 (MQ below (QC D cA ρ A0 (some (.int r)) σ τ) args s 0 0 A0) σ τ 67 [(0, .ref (ρ k0)), (1, .int i1), (2, .int v2), (3, .int j5), (4, .int j6)] [] := by
      intro j5 j6 h
      unfold f_X1_leastSum_J67 at h
      refine Y_iinc C (pc := 67) (v := (j6 + 1)) (lv' := [(4, .int (j6 + 1)), (0, .ref (ρ k0)), (1, .int i1), (2, .int v2), (3, .int j5)]) 4 rfl (congrArg (fun z => j6 + z) (by decide : Int32.ofInt (1) = (1))) (by decide) rfl dX1_leastSum_67 ?_
      refine Y_goto C (pc := 70) (tgt := 20) dX1_leastSum_70 (by decide) ?_
      have h := Option.some.inj h
      exact Y_sub [1, 2, 3, 4, 0] rfl (hLp _ h.symm)
    refine Y_iload C (pc := 20) 4 rfl dX1_leastSum_20 ?_
    refine Y_aload_n C (pc := 22) 0 0 rfl rfl dX1_leastSum_22 ?_
    refine Y_getI C (pc := 23) hk0 q_fi_RX1_33 dX1_leastSum_23 ?_
    refine Y_icmp_ge C (pc := 26) (tgt := 73) dX1_leastSum_26 (by decide) (fun c10 => ?_) (fun c10 => ?_)
    · rw [if_pos c10] at h
      have h := Option.some.inj h
      exact Y_sub [3] rfl (hE _ h.symm)
    · rw [if_neg c10] at h
      refine Y_iload_n C (pc := 29) 1 1 rfl rfl dX1_leastSum_29 ?_
      refine Y_iload C (pc := 30) 4 rfl dX1_leastSum_30 ?_
      obtain ⟨v4, hv4, h⟩ := Option.bind_eq_some_iff.mp h
      refine Y_callSN C [.int i1, .int s3.2] [] [.int v4] (c_X8_has  hv4) (fun _ h => h.elim) q_cw_yX8_has q_mn_RX1_61 q_st_yX8_has ⟨⟨Nat.le_of_ble_eq_true rfl, Nat.le_of_ble_eq_true rfl⟩, ⟨Nat.zero_le _, Nat.zero_le _⟩, Nat.le_of_ble_eq_true rfl⟩ rfl rfl rfl dX1_leastSum_32 ?_
      refine Y_if_eq C (pc := 35) (tgt := 67) dX1_leastSum_35 (by decide) (fun c9 => ?_) (fun c9 => ?_)
      · rw [if_pos c9] at h
        exact Y_sub [0, 1, 2, 3, 4] rfl (hJ67 _ _ h)
      · rw [if_neg c9] at h
        refine Y_iload_n C (pc := 38) 3 3 rfl rfl dX1_leastSum_38 ?_
        refine Y_aload_n C (pc := 39) 0 0 rfl rfl dX1_leastSum_39 ?_
        refine Y_getR C (pc := 40) hk0 q_fi_RX1_24 (by decide) dX1_leastSum_40 ?_
        refine Y_iload_n C (pc := 43) 1 1 rfl rfl dX1_leastSum_43 ?_
        refine Y_iconst C (pc := 44) (v := (1 : Int32)) (by decide) dX1_leastSum_44 ?_
        refine Y_iload C (pc := 45) 4 rfl dX1_leastSum_45 ?_
        refine Y_ishl C (pc := 47) dX1_leastSum_47 ?_
        refine Y_ixor C (pc := 48) dX1_leastSum_48 ?_
        obtain ⟨v7, hv7, h⟩ := Option.bind_eq_some_iff.mp h
        refine Y_callSN C [.ref (ρ (k0 + 5)), .int (i1 ^^^ ((1 : Int32) <<< (s3.2 &&& 31)))] [.int s3.1] [.int v7, .int s3.1] (c_X8_item (q_kr_1_9 hk0) hv7) (fun _ h => h.elim) q_cw_yX8_item q_mn_RX1_83 q_st_yX8_item ⟨⟨Nat.le_of_ble_eq_true rfl, Nat.le_of_ble_eq_true rfl⟩, ⟨Nat.zero_le _, Nat.zero_le _⟩, Nat.le_of_ble_eq_true rfl⟩ rfl rfl rfl dX1_leastSum_49 ?_
        refine Y_aload_n C (pc := 52) 0 0 rfl rfl dX1_leastSum_52 ?_
        refine Y_getR C (pc := 53) hk0 q_fi_RX1_9 (by decide) dX1_leastSum_53 ?_
        refine Y_iload_n C (pc := 56) 2 2 rfl rfl dX1_leastSum_56 ?_
        refine Y_iload C (pc := 57) 4 rfl dX1_leastSum_57 ?_
        obtain ⟨v8, hv8, h⟩ := Option.bind_eq_some_iff.mp h
        refine Y_callSN C [.ref (ρ (k0 + 1)), .int v2, .int s3.2] [.int v7, .int s3.1] [.int v8, .int v7, .int s3.1] (c_X8_at (q_kr_1_1 hk0) hv8) (fun _ h => h.elim) q_cw_yX8_at q_mn_RX1_91 q_st_yX8_at ⟨⟨Nat.le_of_ble_eq_true rfl, Nat.le_of_ble_eq_true rfl⟩, ⟨Nat.zero_le _, Nat.zero_le _⟩, Nat.le_of_ble_eq_true rfl⟩ rfl rfl rfl dX1_leastSum_59 ?_
        refine Y_iadd C (pc := 62) dX1_leastSum_62 ?_
        refine Y_min C (pc := 63) q_ml_RX1_108 ⟨q_st_min, q_in_Math, q_cd_min⟩ ⟨Nat.le_of_ble_eq_true rfl, Nat.le_of_ble_eq_true rfl, Nat.zero_le _, Nat.zero_le _⟩ dX1_leastSum_63 ?_
        refine Y_istore_n C (pc := 66) (lv' := [(3, .int (mn s3.1 (v7 + v8))), (0, .ref (ρ k0)), (1, .int i1), (2, .int v2), (4, .int s3.2)]) 3 rfl (by decide) rfl dX1_leastSum_66 ?_
        exact Y_sub [1, 2, 3, 0, 4] rfl (hJ67 _ _ h)
  · refine Y_iload_n C (pc := 73) 3 0 rfl rfl dX1_leastSum_73 ?_
    cases h
    exact Y_iret C dX1_leastSum_74

set_option maxRecDepth 100000 in
set_option maxHeartbeats 4000000 in
theorem c_X1_lowest {l : Launch} {D : va_G} {cA ρ : Nat → Nat} {σ : Sg} {τ : Tg} {k0 : Nat} (hI : Inj ρ) (hk0 : kd k0 = (0, 1)) {r : Int32 × Sg} (h : f_X1_lowest σ k0 = some r) : Ct l yX1_lowest cX1_lowest 2 (some .int) 2 47 D cA ρ (Aw ρ) [.ref (ρ k0)] σ τ (some (.int r.1)) r.2 τ := by
  refine Ct_of (by decide +kernel) (Nat.le_of_ble_eq_true rfl) (fun p e s m args below meth c C => ?_)
  have C : Ctx p l s m args meth c cX1_lowest RX1 2 (some .int) D cA ρ (Aw ρ) := C
  have hW : Wr ρ (Aw ρ) := ⟨hI, fun k hk => ⟨k, hk, rfl⟩⟩
  unfold f_X1_lowest at h
  refine Y_sub [0] (lv' := [(0, .ref (ρ k0))]) rfl ?_
  refine Y_aload_n C (pc := 0) 0 0 rfl rfl dX1_lowest_0 ?_
  refine Y_getR C (pc := 1) hk0 q_fi_RX1_24 (by decide) dX1_lowest_1 ?_
  refine Y_iconst C (pc := 4) (v := (0 : Int32)) (by decide) dX1_lowest_4 ?_
  refine Y_iconst C (pc := 5) (v := (0 : Int32)) (by decide) dX1_lowest_5 ?_
  obtain ⟨v1, hv1, h⟩ := Option.bind_eq_some_iff.mp h
  refine Y_callSN C [.ref (ρ (k0 + 5)), .int (0 : Int32), .int (0 : Int32)] [] [] (c_X8_setItem hI (q_kr_1_9 hk0) (q_lr_1_9 hk0) hv1) (fun _ h => h) q_cw_yX8_setItem q_mn_RX1_87 q_st_yX8_setItem ⟨⟨Nat.le_of_ble_eq_true rfl, Nat.le_of_ble_eq_true rfl⟩, ⟨Nat.zero_le _, Nat.zero_le _⟩, Nat.le_of_ble_eq_true rfl⟩ rfl rfl rfl dX1_lowest_6 ?_
  refine Y_iconst C (pc := 9) (v := (1 : Int32)) (by decide) dX1_lowest_9 ?_
  refine Y_istore_n C (pc := 10) (lv' := [(1, .int (1 : Int32)), (0, .ref (ρ k0))]) 1 rfl (by decide) rfl dX1_lowest_10 ?_
  obtain ⟨e9, he9, h⟩ := Option.bind_eq_some_iff.mp h
  refine Y_sub [1, 0] (lv' := [(0, .ref (ρ k0)), (1, .int (1 : Int32))]) rfl ?_
  refine lo_rule (f := (f_X1_lowest_L11 k0)) (YS := fun s2 => Y p l e (Rm 2 47) s m args below meth c 2 D cA ρ (Aw ρ) 0 0 (MQ below (QC D cA ρ (Aw ρ) (some (.int r.1)) r.2 τ) args s 0 0 (Aw ρ)) s2.2 τ 11 [(0, .ref (ρ k0)), (1, .int s2.1)] []) (YE := fun e9 => Y p l e (Rm 2 47) s m args below meth c 2 D cA ρ (Aw ρ) 0 0 (MQ below (QC D cA ρ (Aw ρ) (some (.int r.1)) r.2 τ) args s 0 0 (Aw ρ)) e9 τ 49 [(0, .ref (ρ k0))] []) ?_ he9 ?_
  · intro s2 x h hLp hE
    unfold f_X1_lowest_L11 at h
    have hJ43 : ∀ (j3 : Int32) (sj4 : Sg), f_X1_lowest_J43 j3 sj4 = some x → Y p l e (Rm 2 47) s m args below meth c 2 D cA ρ (Aw ρ) 0 0 (MQ below (QC D cA ρ (Aw ρ) (some (.int r.1)) r.2 τ) args s 0 0 (Aw ρ)) sj4 τ 43 [(0, .ref (ρ k0)), (1, .int j3)] [] := by
      intro j3 sj4 h
      unfold f_X1_lowest_J43 at h
      refine Y_iinc C (pc := 43) (v := (j3 + 1)) (lv' := [(1, .int (j3 + 1)), (0, .ref (ρ k0))]) 1 rfl (congrArg (fun z => j3 + z) (by decide : Int32.ofInt (1) = (1))) (by decide) rfl dX1_lowest_43 ?_
      refine Y_goto C (pc := 46) (tgt := 11) dX1_lowest_46 (by decide) ?_
      have h := Option.some.inj h
      exact Y_sub [1, 0] rfl (hLp _ h.symm)
    refine Y_iload_n C (pc := 11) 1 1 rfl rfl dX1_lowest_11 ?_
    refine Y_aload_n C (pc := 12) 0 0 rfl rfl dX1_lowest_12 ?_
    refine Y_getI C (pc := 13) hk0 q_fi_RX1_58 dX1_lowest_13 ?_
    refine Y_icmp_gt C (pc := 16) (tgt := 49) dX1_lowest_16 (by decide) (fun c8 => ?_) (fun c8 => ?_)
    · rw [if_pos c8] at h
      have h := Option.some.inj h
      exact Y_sub [0] rfl (hE _ h.symm)
    · rw [if_neg c8] at h
      refine Y_iload_n C (pc := 19) 1 1 rfl rfl dX1_lowest_19 ?_
      refine Y_aload_n C (pc := 20) 0 0 rfl rfl dX1_lowest_20 ?_
      refine Y_getI C (pc := 21) hk0 q_fi_RX1_58 dX1_lowest_21 ?_
      refine Y_iconst C (pc := 24) (v := (-1 : Int32)) (by decide) dX1_lowest_24 ?_
      refine Y_ixor C (pc := 25) dX1_lowest_25 ?_
      refine Y_iand C (pc := 26) dX1_lowest_26 ?_
      refine Y_if_ne C (pc := 27) (tgt := 43) dX1_lowest_27 (by decide) (fun c7 => ?_) (fun c7 => ?_)
      · rw [if_neg c7] at h
        exact Y_sub [0, 1] rfl (hJ43 _ _ h)
      · rw [if_pos c7] at h
        refine Y_aload_n C (pc := 30) 0 0 rfl rfl dX1_lowest_30 ?_
        refine Y_getR C (pc := 31) hk0 q_fi_RX1_24 (by decide) dX1_lowest_31 ?_
        refine Y_iload_n C (pc := 34) 1 1 rfl rfl dX1_lowest_34 ?_
        refine Y_aload_n C (pc := 35) 0 0 rfl rfl dX1_lowest_35 ?_
        refine Y_iload_n C (pc := 36) 1 1 rfl rfl dX1_lowest_36 ?_
        obtain ⟨v5, hv5, h⟩ := Option.bind_eq_some_iff.mp h
        refine Y_callV C [.int s2.1] [.int s2.1, .ref (ρ (k0 + 5))] [.int v5, .int s2.1, .ref (ρ (k0 + 5))] hk0 rfl rfl (c_X1_leastSum hk0 hv5) (fun _ h => h.elim) q_cw_yX1_leastSum q_ml_RX1_98 ⟨q_im_yX1_leastSum, q_se_yX1_leastSum⟩ ⟨⟨Nat.le_of_ble_eq_true rfl, Nat.le_of_ble_eq_true rfl⟩, ⟨Nat.zero_le _, Nat.zero_le _⟩, Nat.le_of_ble_eq_true rfl⟩ rfl rfl rfl dX1_lowest_37 ?_
        obtain ⟨v6, hv6, h⟩ := Option.bind_eq_some_iff.mp h
        refine Y_callSN C [.ref (ρ (k0 + 5)), .int s2.1, .int v5] [] [] (c_X8_setItem hI (q_kr_1_9 hk0) (q_lr_1_9 hk0) hv6) (fun _ h => h) q_cw_yX8_setItem q_mn_RX1_87 q_st_yX8_setItem ⟨⟨Nat.le_of_ble_eq_true rfl, Nat.le_of_ble_eq_true rfl⟩, ⟨Nat.zero_le _, Nat.zero_le _⟩, Nat.le_of_ble_eq_true rfl⟩ rfl rfl rfl dX1_lowest_40 ?_
        exact Y_sub [0, 1] rfl (hJ43 _ _ h)
  · refine Y_aload_n C (pc := 49) 0 0 rfl rfl dX1_lowest_49 ?_
    refine Y_getI C (pc := 50) hk0 q_fi_RX1_38 dX1_lowest_50 ?_
    refine Y_aload_n C (pc := 53) 0 0 rfl rfl dX1_lowest_53 ?_
    refine Y_getR C (pc := 54) hk0 q_fi_RX1_24 (by decide) dX1_lowest_54 ?_
    refine Y_aload_n C (pc := 57) 0 0 rfl rfl dX1_lowest_57 ?_
    refine Y_getI C (pc := 58) hk0 q_fi_RX1_58 dX1_lowest_58 ?_
    obtain ⟨v10, hv10, h⟩ := Option.bind_eq_some_iff.mp h
    refine Y_callSN C [.ref (ρ (k0 + 5)), .int (e9 k0 4)] [.int (e9 k0 3)] [.int v10, .int (e9 k0 3)] (c_X8_item (q_kr_1_9 hk0) hv10) (fun _ h => h.elim) q_cw_yX8_item q_mn_RX1_83 q_st_yX8_item ⟨⟨Nat.le_of_ble_eq_true rfl, Nat.le_of_ble_eq_true rfl⟩, ⟨Nat.zero_le _, Nat.zero_le _⟩, Nat.le_of_ble_eq_true rfl⟩ rfl rfl rfl dX1_lowest_61 ?_
    refine Y_iadd C (pc := 64) dX1_lowest_64 ?_
    cases h
    exact Y_iret C dX1_lowest_65

