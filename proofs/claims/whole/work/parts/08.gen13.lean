set_option maxRecDepth 100000 in
set_option maxHeartbeats 4000000 in
theorem c_X9_undo {l : Launch} {D : va_G} {cA ρ : Nat → Nat} {σ : Sg} {τ : Tg} {k0 : Nat} (hI : Inj ρ) (hk0 : kd k0 = (0, 9)) {r : Int32 × Sg} (h : f_X9_undo σ k0 = some r) : Ct l yX9_undo cX9_undo 2 (some .int) 1 21 D cA ρ (Aw ρ) [.ref (ρ k0)] σ τ (some (.int r.1)) r.2 τ := by
  refine Ct_of (by decide +kernel) (Nat.le_of_ble_eq_true rfl) (fun p e s m args below meth c C => ?_)
  have C : Ctx p l s m args meth c cX9_undo RX9 2 (some .int) D cA ρ (Aw ρ) := C
  have hW : Wr ρ (Aw ρ) := ⟨hI, fun k hk => ⟨k, hk, rfl⟩⟩
  unfold f_X9_undo at h
  refine Y_sub [0] (lv' := [(0, .ref (ρ k0))]) rfl ?_
  refine Y_aload_n C (pc := 0) 0 0 rfl rfl dX9_undo_0 ?_
  refine Y_getI C (pc := 1) hk0 q_fi_RX9_79 dX9_undo_1 ?_
  refine Y_if_ne C (pc := 4) (tgt := 13) dX9_undo_4 (by decide) (fun c8 => ?_) (fun c8 => ?_)
  · rw [if_neg c8] at h
    refine Y_aload_n C (pc := 13) 0 0 rfl rfl dX9_undo_13 ?_
    refine Y_dup C (pc := 14) rfl dX9_undo_14 ?_
    refine Y_getI C (pc := 15) hk0 q_fi_RX9_79 dX9_undo_15 ?_
    refine Y_iconst C (pc := 18) (v := (1 : Int32)) (by decide) dX9_undo_18 ?_
    refine Y_isub C (pc := 19) dX9_undo_19 ?_
    refine Y_putI C (pc := 20) hW hk0 (q_lo_9 hk0) q_fp_RX9_79 dX9_undo_20 ?_
    refine Y_iconst C (pc := 23) (v := (0 : Int32)) (by decide) dX9_undo_23 ?_
    refine Y_istore_n C (pc := 24) (lv' := [(1, .int (0 : Int32)), (0, .ref (ρ k0))]) 1 rfl (by decide) rfl dX9_undo_24 ?_
    obtain ⟨e5, he5, h⟩ := Option.bind_eq_some_iff.mp h
    refine Y_sub [1, 0] (lv' := [(0, .ref (ρ k0)), (1, .int (0 : Int32))]) rfl ?_
    refine lo_rule (f := (f_X9_undo_L25 k0)) (YS := fun s1 => Y p l e (Rm 1 21) s m args below meth c 2 D cA ρ (Aw ρ) 0 0 (MQ below (QC D cA ρ (Aw ρ) (some (.int r.1)) r.2 τ) args s 0 0 (Aw ρ)) s1.2 τ 25 [(0, .ref (ρ k0)), (1, .int s1.1)] []) (YE := fun e5 => Y p l e (Rm 1 21) s m args below meth c 2 D cA ρ (Aw ρ) 0 0 (MQ below (QC D cA ρ (Aw ρ) (some (.int r.1)) r.2 τ) args s 0 0 (Aw ρ)) e5 τ 57 [(0, .ref (ρ k0))] []) ?_ he5 ?_
    · intro s1 x h hLp hE
      unfold f_X9_undo_L25 at h
      refine Y_iload_n C (pc := 25) 1 1 rfl rfl dX9_undo_25 ?_
      refine Y_bipush C (pc := 26) (v := (121 : Int32)) (by decide) dX9_undo_26 ?_
      refine Y_icmp_ge C (pc := 28) (tgt := 57) dX9_undo_28 (by decide) (fun c4 => ?_) (fun c4 => ?_)
      · rw [if_pos c4] at h
        have h := Option.some.inj h
        exact Y_sub [0] rfl (hE _ h.symm)
      · rw [if_neg c4] at h
        refine Y_aload_n C (pc := 31) 0 0 rfl rfl dX9_undo_31 ?_
        refine Y_getR C (pc := 32) hk0 q_fi_RX9_7 (by decide) dX9_undo_32 ?_
        refine Y_iload_n C (pc := 35) 1 1 rfl rfl dX9_undo_35 ?_
        refine Y_aload_n C (pc := 36) 0 0 rfl rfl dX9_undo_36 ?_
        refine Y_getR C (pc := 37) hk0 q_fi_RX9_13 (by decide) dX9_undo_37 ?_
        refine Y_bipush C (pc := 40) (v := (121 : Int32)) (by decide) dX9_undo_40 ?_
        refine Y_aload_n C (pc := 42) 0 0 rfl rfl dX9_undo_42 ?_
        refine Y_getI C (pc := 43) hk0 q_fi_RX9_79 dX9_undo_43 ?_
        refine Y_imul C (pc := 46) dX9_undo_46 ?_
        refine Y_iload_n C (pc := 47) 1 1 rfl rfl dX9_undo_47 ?_
        refine Y_iadd C (pc := 48) dX9_undo_48 ?_
        obtain ⟨v2, hv2, h⟩ := Option.bind_eq_some_iff.mp h
        refine Y_iald C (pc := 49) (q_kr_9_1 hk0) hv2 dX9_undo_49 ?_
        obtain ⟨s3, hs3, h⟩ := Option.bind_eq_some_iff.mp h
        refine Y_iast C (pc := 50) hW (q_kr_9_0 hk0) (q_lr_9_0 hk0) hs3 dX9_undo_50 ?_
        refine Y_iinc C (pc := 51) (v := (s1.1 + 1)) (lv' := [(1, .int (s1.1 + 1)), (0, .ref (ρ k0))]) 1 rfl (congrArg (fun z => s1.1 + z) (by decide : Int32.ofInt (1) = (1))) (by decide) rfl dX9_undo_51 ?_
        refine Y_goto C (pc := 54) (tgt := 25) dX9_undo_54 (by decide) ?_
        have h := Option.some.inj h
        exact Y_sub [1, 0] rfl (hLp _ h.symm)
    · refine Y_aload_n C (pc := 57) 0 0 rfl rfl dX9_undo_57 ?_
      refine Y_aload_n C (pc := 58) 0 0 rfl rfl dX9_undo_58 ?_
      refine Y_getI C (pc := 59) hk0 q_fi_RX9_79 dX9_undo_59 ?_
      obtain ⟨v6, hv6, h⟩ := Option.bind_eq_some_iff.mp h
      refine Y_callV C [.int (e5 k0 3)] [] [.int v6.1] hk0 rfl rfl (c_X9_tells hI hk0 hv6) (fun _ h => h) q_cw_yX9_tells q_ml_RX9_82 ⟨q_im_yX9_tells, q_se_yX9_tells⟩ ⟨⟨Nat.le_of_ble_eq_true rfl, Nat.le_of_ble_eq_true rfl⟩, ⟨Nat.zero_le _, Nat.zero_le _⟩, Nat.le_of_ble_eq_true rfl⟩ rfl rfl rfl dX9_undo_62 ?_
      cases h
      exact Y_iret C dX9_undo_65
  · rw [if_pos c8] at h
    refine Y_aload_n C (pc := 7) 0 0 rfl rfl dX9_undo_7 ?_
    refine Y_iconst C (pc := 8) (v := (1 : Int32)) (by decide) dX9_undo_8 ?_
    obtain ⟨v7, hv7, h⟩ := Option.bind_eq_some_iff.mp h
    refine Y_callV C [.int (1 : Int32)] [] [.int v7.1] hk0 rfl rfl (c_X9_fails hI hk0 hv7) (fun _ h => h) q_cw_yX9_fails q_ml_RX9_94 ⟨q_im_yX9_fails, q_se_yX9_fails⟩ ⟨⟨Nat.le_of_ble_eq_true rfl, Nat.le_of_ble_eq_true rfl⟩, ⟨Nat.zero_le _, Nat.zero_le _⟩, Nat.le_of_ble_eq_true rfl⟩ rfl rfl rfl dX9_undo_9 ?_
    cases h
    exact Y_iret C dX9_undo_12

set_option maxRecDepth 100000 in
set_option maxHeartbeats 4000000 in
theorem c_X9_mix {l : Launch} {D : va_G} {cA ρ : Nat → Nat} {σ : Sg} {τ : Tg} {k0 : Nat} {i1 : Int32} (hI : Inj ρ) (hk0 : kd k0 = (0, 9)) {r : Tg} (h : f_X9_mix τ k0 i1 = some r) : Ct l yX9_mix cX9_mix 2 none 0 0 D cA ρ (Aw ρ) [.ref (ρ k0), .int i1] σ τ none σ r := by
  refine Ct_of (by decide +kernel) (Nat.le_of_ble_eq_true rfl) (fun p e s m args below meth c C => ?_)
  have C : Ctx p l s m args meth c cX9_mix RX9 2 none D cA ρ (Aw ρ) := C
  have hW : Wr ρ (Aw ρ) := ⟨hI, fun k hk => ⟨k, hk, rfl⟩⟩
  unfold f_X9_mix at h
  refine Y_sub [0, 1] (lv' := [(0, .ref (ρ k0)), (1, .int i1)]) rfl ?_
  refine Y_aload_n C (pc := 0) 0 0 rfl rfl dX9_mix_0 ?_
  refine Y_ldc2 C (pc := 1) q_ct_RX9_290 dX9_mix_1 ?_
  refine Y_aload_n C (pc := 4) 0 0 rfl rfl dX9_mix_4 ?_
  refine Y_getL C (pc := 5) hk0 q_fi_RX9_292 dX9_mix_5 ?_
  refine Y_lmul C (pc := 8) dX9_mix_8 ?_
  refine Y_iload_n C (pc := 9) 1 1 rfl rfl dX9_mix_9 ?_
  refine Y_i2l C (pc := 10) dX9_mix_10 ?_
  refine Y_ladd C (pc := 11) dX9_mix_11 ?_
  refine Y_putL C (pc := 12) hW hk0 (q_lo_9 hk0) q_fp_RX9_292 dX9_mix_12 ?_
  cases h
  exact Y_vret C dX9_mix_15

set_option maxRecDepth 100000 in
set_option maxHeartbeats 4000000 in
theorem c_X9_checksum {l : Launch} {D : va_G} {cA ρ : Nat → Nat} {σ : Sg} {τ : Tg} {k0 : Nat} (hI : Inj ρ) (hk0 : kd k0 = (0, 9)) {r : Int64 × Sg × Tg} (h : f_X9_checksum σ τ k0 = some r) : Ct l yX9_checksum cX9_checksum 3 (some .long) 6 144 D cA ρ (Aw ρ) [.ref (ρ k0)] σ τ (some (.long r.1)) r.2.1 r.2.2 := by
  refine Ct_of (by decide +kernel) (Nat.le_of_ble_eq_true rfl) (fun p e s m args below meth c C => ?_)
  have C : Ctx p l s m args meth c cX9_checksum RX9 3 (some .long) D cA ρ (Aw ρ) := C
  have hW : Wr ρ (Aw ρ) := ⟨hI, fun k hk => ⟨k, hk, rfl⟩⟩
  unfold f_X9_checksum at h
  refine Y_sub [0] (lv' := [(0, .ref (ρ k0))]) rfl ?_
  refine Y_aload_n C (pc := 0) 0 0 rfl rfl dX9_checksum_0 ?_
  refine Y_iconst C (pc := 1) (v := (0 : Int32)) (by decide) dX9_checksum_1 ?_
  refine Y_putI C (pc := 2) hW hk0 (q_lo_9 hk0) q_fp_RX9_75 dX9_checksum_2 ?_
  refine Y_aload_n C (pc := 5) 0 0 rfl rfl dX9_checksum_5 ?_
  refine Y_ldc2 C (pc := 6) q_ct_RX9_296 dX9_checksum_6 ?_
  refine Y_putL C (pc := 9) hW hk0 (q_lo_9 hk0) q_fp_RX9_292 dX9_checksum_9 ?_
  refine Y_aload_n C (pc := 12) 0 0 rfl rfl dX9_checksum_12 ?_
  refine Y_aload_n C (pc := 13) 0 0 rfl rfl dX9_checksum_13 ?_
  refine Y_getR C (pc := 14) hk0 q_fi_RX9_7 (by decide) dX9_checksum_14 ?_
  refine Y_iconst C (pc := 17) (v := (0 : Int32)) (by decide) dX9_checksum_17 ?_
  obtain ⟨v1, hv1, h⟩ := Option.bind_eq_some_iff.mp h
  refine Y_iald C (pc := 18) (q_kr_9_0 hk0) hv1 dX9_checksum_18 ?_
  obtain ⟨v2, hv2, h⟩ := Option.bind_eq_some_iff.mp h
  refine Y_callV C [.int v1] [] [] hk0 rfl rfl (c_X9_mix hI hk0 hv2) (fun _ h => h) q_cw_yX9_mix q_ml_RX9_298 ⟨q_im_yX9_mix, q_se_yX9_mix⟩ ⟨⟨Nat.le_of_ble_eq_true rfl, Nat.le_of_ble_eq_true rfl⟩, ⟨Nat.zero_le _, Nat.zero_le _⟩, Nat.le_of_ble_eq_true rfl⟩ rfl rfl rfl dX9_checksum_19 ?_
  refine Y_iconst C (pc := 22) (v := (0 : Int32)) (by decide) dX9_checksum_22 ?_
  refine Y_istore_n C (pc := 23) (lv' := [(1, .int (0 : Int32)), (0, .ref (ρ k0))]) 1 rfl (by decide) rfl dX9_checksum_23 ?_
  obtain ⟨e17, he17, h⟩ := Option.bind_eq_some_iff.mp h
  refine Y_sub [1, 0] (lv' := [(0, .ref (ρ k0)), (1, .int (0 : Int32))]) rfl ?_
  refine lo_rule (s := ((0 : Int32), v2)) (f := (f_X9_checksum_L24 σ k0)) (YS := fun s3 => Y p l e (Rm 6 144) s m args below meth c 3 D cA ρ (Aw ρ) 0 0 (MQ below (QC D cA ρ (Aw ρ) (some (.long r.1)) r.2.1 r.2.2) args s 0 0 (Aw ρ)) ((si σ k0 6 (0 : Int32))) s3.2 24 [(0, .ref (ρ k0)), (1, .int s3.1)] []) (YE := fun e17 => Y p l e (Rm 6 144) s m args below meth c 3 D cA ρ (Aw ρ) 0 0 (MQ below (QC D cA ρ (Aw ρ) (some (.long r.1)) r.2.1 r.2.2) args s 0 0 (Aw ρ)) ((si σ k0 6 (0 : Int32))) e17 89 [(0, .ref (ρ k0))] []) ?_ he17 ?_
  · intro s3 x h hLp hE
    unfold f_X9_checksum_L24 at h
    refine Y_iload_n C (pc := 24) 1 1 rfl rfl dX9_checksum_24 ?_
    refine Y_iconst C (pc := 25) (v := (3 : Int32)) (by decide) dX9_checksum_25 ?_
    refine Y_icmp_ge C (pc := 26) (tgt := 89) dX9_checksum_26 (by decide) (fun c16 => ?_) (fun c16 => ?_)
    · rw [if_pos c16] at h
      have h := Option.some.inj h
      exact Y_sub [0] rfl (hE _ h.symm)
    · rw [if_neg c16] at h
      refine Y_iconst C (pc := 29) (v := (0 : Int32)) (by decide) dX9_checksum_29 ?_
      refine Y_istore_n C (pc := 30) (lv' := [(2, .int (0 : Int32)), (0, .ref (ρ k0)), (1, .int s3.1)]) 2 rfl (by decide) rfl dX9_checksum_30 ?_
      obtain ⟨e15, he15, h⟩ := Option.bind_eq_some_iff.mp h
      refine Y_sub [1, 2, 0] (lv' := [(0, .ref (ρ k0)), (1, .int s3.1), (2, .int (0 : Int32))]) rfl ?_
      refine lo_rule (s := ((0 : Int32), s3.2)) (f := (f_X9_checksum_L31 σ k0 s3)) (YS := fun s4 => Y p l e (Rm 6 144) s m args below meth c 3 D cA ρ (Aw ρ) 0 0 (MQ below (QC D cA ρ (Aw ρ) (some (.long r.1)) r.2.1 r.2.2) args s 0 0 (Aw ρ)) ((si σ k0 6 (0 : Int32))) s4.2 31 [(0, .ref (ρ k0)), (1, .int s3.1), (2, .int s4.1)] []) (YE := fun e15 => Y p l e (Rm 6 144) s m args below meth c 3 D cA ρ (Aw ρ) 0 0 (MQ below (QC D cA ρ (Aw ρ) (some (.long r.1)) r.2.1 r.2.2) args s 0 0 (Aw ρ)) ((si σ k0 6 (0 : Int32))) e15 83 [(0, .ref (ρ k0)), (1, .int s3.1)] []) ?_ he15 ?_
      · intro s4 x h hLp hE
        unfold f_X9_checksum_L31 at h
        refine Y_iload_n C (pc := 31) 2 2 rfl rfl dX9_checksum_31 ?_
        refine Y_aload_n C (pc := 32) 0 0 rfl rfl dX9_checksum_32 ?_
        refine Y_getR C (pc := 33) hk0 q_fi_RX9_7 (by decide) dX9_checksum_33 ?_
        refine Y_iconst C (pc := 36) (v := (0 : Int32)) (by decide) dX9_checksum_36 ?_
        obtain ⟨v5, hv5, h⟩ := Option.bind_eq_some_iff.mp h
        refine Y_iald C (pc := 37) (q_kr_9_0 hk0) hv5 dX9_checksum_37 ?_
        refine Y_aload_n C (pc := 38) 0 0 rfl rfl dX9_checksum_38 ?_
        refine Y_getR C (pc := 39) hk0 q_fi_RX9_7 (by decide) dX9_checksum_39 ?_
        refine Y_iconst C (pc := 42) (v := (0 : Int32)) (by decide) dX9_checksum_42 ?_
        obtain ⟨v6, hv6, h⟩ := Option.bind_eq_some_iff.mp h
        refine Y_iald C (pc := 43) (q_kr_9_0 hk0) hv6 dX9_checksum_43 ?_
        refine Y_imul C (pc := 44) dX9_checksum_44 ?_
        refine Y_icmp_ge C (pc := 45) (tgt := 83) dX9_checksum_45 (by decide) (fun c14 => ?_) (fun c14 => ?_)
        · rw [if_pos c14] at h
          have h := Option.some.inj h
          exact Y_sub [0, 1] rfl (hE _ h.symm)
        · rw [if_neg c14] at h
          refine Y_aload_n C (pc := 48) 0 0 rfl rfl dX9_checksum_48 ?_
          refine Y_aload_n C (pc := 49) 0 0 rfl rfl dX9_checksum_49 ?_
          refine Y_getR C (pc := 50) hk0 q_fi_RX9_7 (by decide) dX9_checksum_50 ?_
          refine Y_iload_n C (pc := 53) 1 1 rfl rfl dX9_checksum_53 ?_
          refine Y_iload_n C (pc := 54) 2 2 rfl rfl dX9_checksum_54 ?_
          refine Y_aload_n C (pc := 55) 0 0 rfl rfl dX9_checksum_55 ?_
          refine Y_getR C (pc := 56) hk0 q_fi_RX9_7 (by decide) dX9_checksum_56 ?_
          refine Y_iconst C (pc := 59) (v := (0 : Int32)) (by decide) dX9_checksum_59 ?_
          obtain ⟨v7, hv7, h⟩ := Option.bind_eq_some_iff.mp h
          refine Y_iald C (pc := 60) (q_kr_9_0 hk0) hv7 dX9_checksum_60 ?_
          obtain ⟨v8, hv8, h⟩ := Option.bind_eq_some_iff.mp h
          refine Y_idiv C (pc := 61) hv8 dX9_checksum_61 ?_
          refine Y_iload_n C (pc := 62) 2 2 rfl rfl dX9_checksum_62 ?_
          refine Y_aload_n C (pc := 63) 0 0 rfl rfl dX9_checksum_63 ?_
          refine Y_getR C (pc := 64) hk0 q_fi_RX9_7 (by decide) dX9_checksum_64 ?_
          refine Y_iconst C (pc := 67) (v := (0 : Int32)) (by decide) dX9_checksum_67 ?_
          obtain ⟨v9, hv9, h⟩ := Option.bind_eq_some_iff.mp h
          refine Y_iald C (pc := 68) (q_kr_9_0 hk0) hv9 dX9_checksum_68 ?_
          obtain ⟨v10, hv10, h⟩ := Option.bind_eq_some_iff.mp h
          refine Y_irem C (pc := 69) hv10 dX9_checksum_69 ?_
          obtain ⟨v11, hv11, h⟩ := Option.bind_eq_some_iff.mp h
          refine Y_callS C [.int s3.1, .int v8, .int v10] [.ref (ρ (k0 + 1)), .ref (ρ k0)] [.int v11, .ref (ρ (k0 + 1)), .ref (ρ k0)] (c_X9_placeOf  hv11) (fun _ h => h.elim) q_cw_yX9_placeOf q_ml_RX9_90 q_st_yX9_placeOf ⟨⟨Nat.le_of_ble_eq_true rfl, Nat.le_of_ble_eq_true rfl⟩, ⟨Nat.zero_le _, Nat.zero_le _⟩, Nat.le_of_ble_eq_true rfl⟩ rfl rfl rfl dX9_checksum_70 ?_
          obtain ⟨v12, hv12, h⟩ := Option.bind_eq_some_iff.mp h
          refine Y_iald C (pc := 73) (q_kr_9_0 hk0) hv12 dX9_checksum_73 ?_
          obtain ⟨v13, hv13, h⟩ := Option.bind_eq_some_iff.mp h
          refine Y_callV C [.int v12] [] [] hk0 rfl rfl (c_X9_mix hI hk0 hv13) (fun _ h => h) q_cw_yX9_mix q_ml_RX9_298 ⟨q_im_yX9_mix, q_se_yX9_mix⟩ ⟨⟨Nat.le_of_ble_eq_true rfl, Nat.le_of_ble_eq_true rfl⟩, ⟨Nat.zero_le _, Nat.zero_le _⟩, Nat.le_of_ble_eq_true rfl⟩ rfl rfl rfl dX9_checksum_74 ?_
          refine Y_iinc C (pc := 77) (v := (s4.1 + 1)) (lv' := [(2, .int (s4.1 + 1)), (0, .ref (ρ k0)), (1, .int s3.1)]) 2 rfl (congrArg (fun z => s4.1 + z) (by decide : Int32.ofInt (1) = (1))) (by decide) rfl dX9_checksum_77 ?_
          refine Y_goto C (pc := 80) (tgt := 31) dX9_checksum_80 (by decide) ?_
          have h := Option.some.inj h
          have hx := hLp _ h.symm
          exact Y_sub [1, 2, 0] rfl hx
      · refine Y_iinc C (pc := 83) (v := (s3.1 + 1)) (lv' := [(1, .int (s3.1 + 1)), (0, .ref (ρ k0))]) 1 rfl (congrArg (fun z => s3.1 + z) (by decide : Int32.ofInt (1) = (1))) (by decide) rfl dX9_checksum_83 ?_
        refine Y_goto C (pc := 86) (tgt := 24) dX9_checksum_86 (by decide) ?_
        have h := Option.some.inj h
        have hx := hLp _ h.symm
        exact Y_sub [1, 0] rfl hx
  · refine Y_iconst C (pc := 89) (v := (0 : Int32)) (by decide) dX9_checksum_89 ?_
    refine Y_istore_n C (pc := 90) (lv' := [(1, .int (0 : Int32)), (0, .ref (ρ k0))]) 1 rfl (by decide) rfl dX9_checksum_90 ?_
    obtain ⟨e23, he23, h⟩ := Option.bind_eq_some_iff.mp h
    refine Y_sub [1, 0] (lv' := [(0, .ref (ρ k0)), (1, .int (0 : Int32))]) rfl ?_
    refine lo_rule (s := ((0 : Int32), e17)) (f := (f_X9_checksum_L91 σ k0)) (YS := fun s18 => Y p l e (Rm 6 144) s m args below meth c 3 D cA ρ (Aw ρ) 0 0 (MQ below (QC D cA ρ (Aw ρ) (some (.long r.1)) r.2.1 r.2.2) args s 0 0 (Aw ρ)) ((si σ k0 6 (0 : Int32))) s18.2 91 [(0, .ref (ρ k0)), (1, .int s18.1)] []) (YE := fun e23 => Y p l e (Rm 6 144) s m args below meth c 3 D cA ρ (Aw ρ) 0 0 (MQ below (QC D cA ρ (Aw ρ) (some (.long r.1)) r.2.1 r.2.2) args s 0 0 (Aw ρ)) ((si σ k0 6 (0 : Int32))) e23 120 [(0, .ref (ρ k0))] []) ?_ he23 ?_
    · intro s18 x h hLp hE
      unfold f_X9_checksum_L91 at h
      refine Y_iload_n C (pc := 91) 1 1 rfl rfl dX9_checksum_91 ?_
      refine Y_aload_n C (pc := 92) 0 0 rfl rfl dX9_checksum_92 ?_
      refine Y_getR C (pc := 93) hk0 q_fi_RX9_7 (by decide) dX9_checksum_93 ?_
      refine Y_iconst C (pc := 96) (v := (0 : Int32)) (by decide) dX9_checksum_96 ?_
      obtain ⟨v19, hv19, h⟩ := Option.bind_eq_some_iff.mp h
      refine Y_iald C (pc := 97) (q_kr_9_0 hk0) hv19 dX9_checksum_97 ?_
      refine Y_icmp_ge C (pc := 98) (tgt := 120) dX9_checksum_98 (by decide) (fun c22 => ?_) (fun c22 => ?_)
      · rw [if_pos c22] at h
        have h := Option.some.inj h
        exact Y_sub [0] rfl (hE _ h.symm)
      · rw [if_neg c22] at h
        refine Y_aload_n C (pc := 101) 0 0 rfl rfl dX9_checksum_101 ?_
        refine Y_aload_n C (pc := 102) 0 0 rfl rfl dX9_checksum_102 ?_
        refine Y_getR C (pc := 103) hk0 q_fi_RX9_7 (by decide) dX9_checksum_103 ?_
        refine Y_bipush C (pc := 106) (v := (109 : Int32)) (by decide) dX9_checksum_106 ?_
        refine Y_iload_n C (pc := 108) 1 1 rfl rfl dX9_checksum_108 ?_
        refine Y_iadd C (pc := 109) dX9_checksum_109 ?_
        obtain ⟨v20, hv20, h⟩ := Option.bind_eq_some_iff.mp h
        refine Y_iald C (pc := 110) (q_kr_9_0 hk0) hv20 dX9_checksum_110 ?_
        obtain ⟨v21, hv21, h⟩ := Option.bind_eq_some_iff.mp h
        refine Y_callV C [.int v20] [] [] hk0 rfl rfl (c_X9_mix hI hk0 hv21) (fun _ h => h) q_cw_yX9_mix q_ml_RX9_298 ⟨q_im_yX9_mix, q_se_yX9_mix⟩ ⟨⟨Nat.le_of_ble_eq_true rfl, Nat.le_of_ble_eq_true rfl⟩, ⟨Nat.zero_le _, Nat.zero_le _⟩, Nat.le_of_ble_eq_true rfl⟩ rfl rfl rfl dX9_checksum_111 ?_
        refine Y_iinc C (pc := 114) (v := (s18.1 + 1)) (lv' := [(1, .int (s18.1 + 1)), (0, .ref (ρ k0))]) 1 rfl (congrArg (fun z => s18.1 + z) (by decide : Int32.ofInt (1) = (1))) (by decide) rfl dX9_checksum_114 ?_
        refine Y_goto C (pc := 117) (tgt := 91) dX9_checksum_117 (by decide) ?_
        have h := Option.some.inj h
        have hx := hLp _ h.symm
        exact Y_sub [1, 0] rfl hx
    · refine Y_iconst C (pc := 120) (v := (0 : Int32)) (by decide) dX9_checksum_120 ?_
      refine Y_istore_n C (pc := 121) (lv' := [(1, .int (0 : Int32)), (0, .ref (ρ k0))]) 1 rfl (by decide) rfl dX9_checksum_121 ?_
      obtain ⟨e29, he29, h⟩ := Option.bind_eq_some_iff.mp h
      refine Y_sub [1, 0] (lv' := [(0, .ref (ρ k0)), (1, .int (0 : Int32))]) rfl ?_
      refine lo_rule (s := ((0 : Int32), e23)) (f := (f_X9_checksum_L122 σ k0)) (YS := fun s24 => Y p l e (Rm 6 144) s m args below meth c 3 D cA ρ (Aw ρ) 0 0 (MQ below (QC D cA ρ (Aw ρ) (some (.long r.1)) r.2.1 r.2.2) args s 0 0 (Aw ρ)) ((si σ k0 6 (0 : Int32))) s24.2 122 [(0, .ref (ρ k0)), (1, .int s24.1)] []) (YE := fun e29 => Y p l e (Rm 6 144) s m args below meth c 3 D cA ρ (Aw ρ) 0 0 (MQ below (QC D cA ρ (Aw ρ) (some (.long r.1)) r.2.1 r.2.2) args s 0 0 (Aw ρ)) ((si σ k0 6 (0 : Int32))) e29 151 [(0, .ref (ρ k0))] []) ?_ he29 ?_
      · intro s24 x h hLp hE
        unfold f_X9_checksum_L122 at h
        refine Y_iload_n C (pc := 122) 1 1 rfl rfl dX9_checksum_122 ?_
        refine Y_aload_n C (pc := 123) 0 0 rfl rfl dX9_checksum_123 ?_
        refine Y_getR C (pc := 124) hk0 q_fi_RX9_7 (by decide) dX9_checksum_124 ?_
        refine Y_iconst C (pc := 127) (v := (0 : Int32)) (by decide) dX9_checksum_127 ?_
        obtain ⟨v25, hv25, h⟩ := Option.bind_eq_some_iff.mp h
        refine Y_iald C (pc := 128) (q_kr_9_0 hk0) hv25 dX9_checksum_128 ?_
        refine Y_icmp_ge C (pc := 129) (tgt := 151) dX9_checksum_129 (by decide) (fun c28 => ?_) (fun c28 => ?_)
        · rw [if_pos c28] at h
          have h := Option.some.inj h
          exact Y_sub [0] rfl (hE _ h.symm)
        · rw [if_neg c28] at h
          refine Y_aload_n C (pc := 132) 0 0 rfl rfl dX9_checksum_132 ?_
          refine Y_aload_n C (pc := 133) 0 0 rfl rfl dX9_checksum_133 ?_
          refine Y_getR C (pc := 134) hk0 q_fi_RX9_7 (by decide) dX9_checksum_134 ?_
          refine Y_bipush C (pc := 137) (v := (115 : Int32)) (by decide) dX9_checksum_137 ?_
          refine Y_iload_n C (pc := 139) 1 1 rfl rfl dX9_checksum_139 ?_
          refine Y_iadd C (pc := 140) dX9_checksum_140 ?_
          obtain ⟨v26, hv26, h⟩ := Option.bind_eq_some_iff.mp h
          refine Y_iald C (pc := 141) (q_kr_9_0 hk0) hv26 dX9_checksum_141 ?_
          obtain ⟨v27, hv27, h⟩ := Option.bind_eq_some_iff.mp h
          refine Y_callV C [.int v26] [] [] hk0 rfl rfl (c_X9_mix hI hk0 hv27) (fun _ h => h) q_cw_yX9_mix q_ml_RX9_298 ⟨q_im_yX9_mix, q_se_yX9_mix⟩ ⟨⟨Nat.le_of_ble_eq_true rfl, Nat.le_of_ble_eq_true rfl⟩, ⟨Nat.zero_le _, Nat.zero_le _⟩, Nat.le_of_ble_eq_true rfl⟩ rfl rfl rfl dX9_checksum_142 ?_
          refine Y_iinc C (pc := 145) (v := (s24.1 + 1)) (lv' := [(1, .int (s24.1 + 1)), (0, .ref (ρ k0))]) 1 rfl (congrArg (fun z => s24.1 + z) (by decide : Int32.ofInt (1) = (1))) (by decide) rfl dX9_checksum_145 ?_
          refine Y_goto C (pc := 148) (tgt := 122) dX9_checksum_148 (by decide) ?_
          have h := Option.some.inj h
          have hx := hLp _ h.symm
          exact Y_sub [1, 0] rfl hx
      · refine Y_aload_n C (pc := 151) 0 0 rfl rfl dX9_checksum_151 ?_
        refine Y_aload_n C (pc := 152) 0 0 rfl rfl dX9_checksum_152 ?_
        obtain ⟨v30, hv30, h⟩ := Option.bind_eq_some_iff.mp h
        refine Y_callV C [] [.ref (ρ k0)] [.int v30.1, .ref (ρ k0)] hk0 rfl rfl (c_X9_presentCost hI hk0 hv30) (fun _ h => h) q_cw_yX9_presentCost q_ml_RX9_136 ⟨q_im_yX9_presentCost, q_se_yX9_presentCost⟩ ⟨⟨Nat.le_of_ble_eq_true rfl, Nat.le_of_ble_eq_true rfl⟩, ⟨Nat.zero_le _, Nat.zero_le _⟩, Nat.le_of_ble_eq_true rfl⟩ rfl rfl rfl dX9_checksum_153 ?_
        obtain ⟨v31, hv31, h⟩ := Option.bind_eq_some_iff.mp h
        refine Y_callV C [.int v30.1] [] [] hk0 rfl rfl (c_X9_mix hI hk0 hv31) (fun _ h => h) q_cw_yX9_mix q_ml_RX9_298 ⟨q_im_yX9_mix, q_se_yX9_mix⟩ ⟨⟨Nat.le_of_ble_eq_true rfl, Nat.le_of_ble_eq_true rfl⟩, ⟨Nat.zero_le _, Nat.zero_le _⟩, Nat.le_of_ble_eq_true rfl⟩ rfl rfl rfl dX9_checksum_156 ?_
        refine Y_aload_n C (pc := 159) 0 0 rfl rfl dX9_checksum_159 ?_
        obtain ⟨v32, hv32, h⟩ := Option.bind_eq_some_iff.mp h
        refine Y_callV C [] [] [] hk0 rfl rfl (c_X9_looks hI hk0 hv32) (fun _ h => h) q_cw_yX9_looks q_ml_RX9_177 ⟨q_im_yX9_looks, q_se_yX9_looks⟩ ⟨⟨Nat.le_of_ble_eq_true rfl, Nat.le_of_ble_eq_true rfl⟩, ⟨Nat.zero_le _, Nat.zero_le _⟩, Nat.le_of_ble_eq_true rfl⟩ rfl rfl rfl dX9_checksum_160 ?_
        refine Y_aload_n C (pc := 163) 0 0 rfl rfl dX9_checksum_163 ?_
        refine Y_aload_n C (pc := 164) 0 0 rfl rfl dX9_checksum_164 ?_
        obtain ⟨v33, hv33, h⟩ := Option.bind_eq_some_iff.mp h
        refine Y_callV C [] [.ref (ρ k0)] [.int v33.1, .ref (ρ k0)] hk0 rfl rfl (c_X9_boundOf hI hk0 hv33) (fun _ h => h) q_cw_yX9_boundOf q_ml_RX9_206 ⟨q_im_yX9_boundOf, q_se_yX9_boundOf⟩ ⟨⟨Nat.le_of_ble_eq_true rfl, Nat.le_of_ble_eq_true rfl⟩, ⟨Nat.zero_le _, Nat.zero_le _⟩, Nat.le_of_ble_eq_true rfl⟩ rfl rfl rfl dX9_checksum_165 ?_
        obtain ⟨v34, hv34, h⟩ := Option.bind_eq_some_iff.mp h
        refine Y_callV C [.int v33.1] [] [] hk0 rfl rfl (c_X9_mix hI hk0 hv34) (fun _ h => h) q_cw_yX9_mix q_ml_RX9_298 ⟨q_im_yX9_mix, q_se_yX9_mix⟩ ⟨⟨Nat.le_of_ble_eq_true rfl, Nat.le_of_ble_eq_true rfl⟩, ⟨Nat.zero_le _, Nat.zero_le _⟩, Nat.le_of_ble_eq_true rfl⟩ rfl rfl rfl dX9_checksum_168 ?_
        refine Y_aload_n C (pc := 171) 0 0 rfl rfl dX9_checksum_171 ?_
        refine Y_aload_n C (pc := 172) 0 0 rfl rfl dX9_checksum_172 ?_
        obtain ⟨v35, hv35, h⟩ := Option.bind_eq_some_iff.mp h
        refine Y_callV C [] [.ref (ρ k0)] [.int v35.1, .ref (ρ k0)] hk0 rfl rfl (c_X9_branch hI hk0 hv35) (fun _ h => h) q_cw_yX9_branch q_ml_RX9_212 ⟨q_im_yX9_branch, q_se_yX9_branch⟩ ⟨⟨Nat.le_of_ble_eq_true rfl, Nat.le_of_ble_eq_true rfl⟩, ⟨Nat.zero_le _, Nat.zero_le _⟩, Nat.le_of_ble_eq_true rfl⟩ rfl rfl rfl dX9_checksum_173 ?_
        obtain ⟨v36, hv36, h⟩ := Option.bind_eq_some_iff.mp h
        refine Y_callV C [.int v35.1] [] [] hk0 rfl rfl (c_X9_mix hI hk0 hv36) (fun _ h => h) q_cw_yX9_mix q_ml_RX9_298 ⟨q_im_yX9_mix, q_se_yX9_mix⟩ ⟨⟨Nat.le_of_ble_eq_true rfl, Nat.le_of_ble_eq_true rfl⟩, ⟨Nat.zero_le _, Nat.zero_le _⟩, Nat.le_of_ble_eq_true rfl⟩ rfl rfl rfl dX9_checksum_176 ?_
        refine Y_aload_n C (pc := 179) 0 0 rfl rfl dX9_checksum_179 ?_
        refine Y_aload_n C (pc := 180) 0 0 rfl rfl dX9_checksum_180 ?_
        obtain ⟨v37, hv37, h⟩ := Option.bind_eq_some_iff.mp h
        refine Y_callV C [] [.ref (ρ k0)] [.int v37.1, .ref (ρ k0)] hk0 rfl rfl (c_X9_keptTurns hI hk0 hv37) (fun _ h => h) q_cw_yX9_keptTurns q_ml_RX9_227 ⟨q_im_yX9_keptTurns, q_se_yX9_keptTurns⟩ ⟨⟨Nat.le_of_ble_eq_true rfl, Nat.le_of_ble_eq_true rfl⟩, ⟨Nat.zero_le _, Nat.zero_le _⟩, Nat.le_of_ble_eq_true rfl⟩ rfl rfl rfl dX9_checksum_181 ?_
        obtain ⟨v38, hv38, h⟩ := Option.bind_eq_some_iff.mp h
        refine Y_callV C [.int v37.1] [] [] hk0 rfl rfl (c_X9_mix hI hk0 hv38) (fun _ h => h) q_cw_yX9_mix q_ml_RX9_298 ⟨q_im_yX9_mix, q_se_yX9_mix⟩ ⟨⟨Nat.le_of_ble_eq_true rfl, Nat.le_of_ble_eq_true rfl⟩, ⟨Nat.zero_le _, Nat.zero_le _⟩, Nat.le_of_ble_eq_true rfl⟩ rfl rfl rfl dX9_checksum_184 ?_
        refine Y_iconst C (pc := 187) (v := (0 : Int32)) (by decide) dX9_checksum_187 ?_
        refine Y_istore_n C (pc := 188) (lv' := [(1, .int (0 : Int32)), (0, .ref (ρ k0))]) 1 rfl (by decide) rfl dX9_checksum_188 ?_
        obtain ⟨e43, he43, h⟩ := Option.bind_eq_some_iff.mp h
        refine Y_sub [1, 0] (lv' := [(0, .ref (ρ k0)), (1, .int (0 : Int32))]) rfl ?_
        refine lo_rule (s := ((0 : Int32), v38)) (f := (f_X9_checksum_L189 v37 k0)) (YS := fun s39 => Y p l e (Rm 6 144) s m args below meth c 3 D cA ρ (Aw ρ) 0 0 (MQ below (QC D cA ρ (Aw ρ) (some (.long r.1)) r.2.1 r.2.2) args s 0 0 (Aw ρ)) v37.2 s39.2 189 [(0, .ref (ρ k0)), (1, .int s39.1)] []) (YE := fun e43 => Y p l e (Rm 6 144) s m args below meth c 3 D cA ρ (Aw ρ) 0 0 (MQ below (QC D cA ρ (Aw ρ) (some (.long r.1)) r.2.1 r.2.2) args s 0 0 (Aw ρ)) v37.2 e43 210 [(0, .ref (ρ k0))] []) ?_ he43 ?_
        · intro s39 x h hLp hE
          unfold f_X9_checksum_L189 at h
          refine Y_iload_n C (pc := 189) 1 1 rfl rfl dX9_checksum_189 ?_
          refine Y_bipush C (pc := 190) (v := (7 : Int32)) (by decide) dX9_checksum_190 ?_
          refine Y_icmp_ge C (pc := 192) (tgt := 210) dX9_checksum_192 (by decide) (fun c42 => ?_) (fun c42 => ?_)
          · rw [if_pos c42] at h
            have h := Option.some.inj h
            exact Y_sub [0] rfl (hE _ h.symm)
          · rw [if_neg c42] at h
            refine Y_aload_n C (pc := 195) 0 0 rfl rfl dX9_checksum_195 ?_
            refine Y_aload_n C (pc := 196) 0 0 rfl rfl dX9_checksum_196 ?_
            refine Y_iload_n C (pc := 197) 1 1 rfl rfl dX9_checksum_197 ?_
            obtain ⟨v40, hv40, h⟩ := Option.bind_eq_some_iff.mp h
            refine Y_callV C [.int s39.1] [.ref (ρ k0)] [.int v40, .ref (ρ k0)] hk0 rfl rfl (c_X9_result hk0 hv40) (fun _ h => h.elim) q_cw_yX9_result q_ml_RX9_263 ⟨q_im_yX9_result, q_se_yX9_result⟩ ⟨⟨Nat.le_of_ble_eq_true rfl, Nat.le_of_ble_eq_true rfl⟩, ⟨Nat.zero_le _, Nat.zero_le _⟩, Nat.le_of_ble_eq_true rfl⟩ rfl rfl rfl dX9_checksum_198 ?_
            obtain ⟨v41, hv41, h⟩ := Option.bind_eq_some_iff.mp h
            refine Y_callV C [.int v40] [] [] hk0 rfl rfl (c_X9_mix hI hk0 hv41) (fun _ h => h) q_cw_yX9_mix q_ml_RX9_298 ⟨q_im_yX9_mix, q_se_yX9_mix⟩ ⟨⟨Nat.le_of_ble_eq_true rfl, Nat.le_of_ble_eq_true rfl⟩, ⟨Nat.zero_le _, Nat.zero_le _⟩, Nat.le_of_ble_eq_true rfl⟩ rfl rfl rfl dX9_checksum_201 ?_
            refine Y_iinc C (pc := 204) (v := (s39.1 + 1)) (lv' := [(1, .int (s39.1 + 1)), (0, .ref (ρ k0))]) 1 rfl (congrArg (fun z => s39.1 + z) (by decide : Int32.ofInt (1) = (1))) (by decide) rfl dX9_checksum_204 ?_
            refine Y_goto C (pc := 207) (tgt := 189) dX9_checksum_207 (by decide) ?_
            have h := Option.some.inj h
            have hx := hLp _ h.symm
            exact Y_sub [1, 0] rfl hx
        · refine Y_aload_n C (pc := 210) 0 0 rfl rfl dX9_checksum_210 ?_
          refine Y_aload_n C (pc := 211) 0 0 rfl rfl dX9_checksum_211 ?_
          refine Y_getI C (pc := 212) hk0 q_fi_RX9_266 dX9_checksum_212 ?_
          obtain ⟨v44, hv44, h⟩ := Option.bind_eq_some_iff.mp h
          refine Y_callV C [.int (v37.2 k0 5)] [] [] hk0 rfl rfl (c_X9_mix hI hk0 hv44) (fun _ h => h) q_cw_yX9_mix q_ml_RX9_298 ⟨q_im_yX9_mix, q_se_yX9_mix⟩ ⟨⟨Nat.le_of_ble_eq_true rfl, Nat.le_of_ble_eq_true rfl⟩, ⟨Nat.zero_le _, Nat.zero_le _⟩, Nat.le_of_ble_eq_true rfl⟩ rfl rfl rfl dX9_checksum_215 ?_
          refine Y_aload_n C (pc := 218) 0 0 rfl rfl dX9_checksum_218 ?_
          refine Y_aload_n C (pc := 219) 0 0 rfl rfl dX9_checksum_219 ?_
          refine Y_getI C (pc := 220) hk0 q_fi_RX9_79 dX9_checksum_220 ?_
          obtain ⟨v45, hv45, h⟩ := Option.bind_eq_some_iff.mp h
          refine Y_callV C [.int (v37.2 k0 3)] [] [] hk0 rfl rfl (c_X9_mix hI hk0 hv45) (fun _ h => h) q_cw_yX9_mix q_ml_RX9_298 ⟨q_im_yX9_mix, q_se_yX9_mix⟩ ⟨⟨Nat.le_of_ble_eq_true rfl, Nat.le_of_ble_eq_true rfl⟩, ⟨Nat.zero_le _, Nat.zero_le _⟩, Nat.le_of_ble_eq_true rfl⟩ rfl rfl rfl dX9_checksum_223 ?_
          refine Y_aload_n C (pc := 226) 0 0 rfl rfl dX9_checksum_226 ?_
          refine Y_getL C (pc := 227) hk0 q_fi_RX9_292 dX9_checksum_227 ?_
          cases h
          exact Y_lret C dX9_checksum_230

