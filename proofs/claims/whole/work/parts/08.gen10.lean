set_option maxRecDepth 100000 in
set_option maxHeartbeats 4000000 in
theorem c_X9_fixed {l : Launch} {D : va_G} {cA ρ : Nat → Nat} {σ : Sg} {τ : Tg} {k0 : Nat} {i1 : Int32} (hI : Inj ρ) (hk0 : kd k0 = (0, 9)) {r : Int32 × Sg} (h : f_X9_fixed σ k0 i1 = some r) : Ct l yX9_fixed cX9_fixed 2 (some .int) 2 43 D cA ρ (Aw ρ) [.ref (ρ k0), .int i1] σ τ (some (.int r.1)) r.2 τ := by
  refine Ct_of (by decide +kernel) (Nat.le_of_ble_eq_true rfl) (fun p e s m args below meth c C => ?_)
  have C : Ctx p l s m args meth c cX9_fixed RX9 2 (some .int) D cA ρ (Aw ρ) := C
  have hW : Wr ρ (Aw ρ) := ⟨hI, fun k hk => ⟨k, hk, rfl⟩⟩
  unfold f_X9_fixed at h
  refine Y_sub [0, 1] (lv' := [(0, .ref (ρ k0)), (1, .int i1)]) rfl ?_
  refine Y_aload_n C (pc := 0) 0 0 rfl rfl dX9_fixed_0 ?_
  refine Y_iload_n C (pc := 1) 1 1 rfl rfl dX9_fixed_1 ?_
  obtain ⟨v1, hv1, h⟩ := Option.bind_eq_some_iff.mp h
  refine Y_callV C [.int i1] [] [.int v1] hk0 rfl rfl (c_X9_isOne hk0 hv1) (fun _ h => h.elim) q_cw_yX9_isOne q_ml_RX9_103 ⟨q_im_yX9_isOne, q_se_yX9_isOne⟩ ⟨⟨Nat.le_of_ble_eq_true rfl, Nat.le_of_ble_eq_true rfl⟩, ⟨Nat.zero_le _, Nat.zero_le _⟩, Nat.le_of_ble_eq_true rfl⟩ rfl rfl rfl dX9_fixed_2 ?_
  refine Y_if_eq C (pc := 5) (tgt := 24) dX9_fixed_5 (by decide) (fun c5 => ?_) (fun c5 => ?_)
  · rw [if_pos c5] at h
    refine Y_aload_n C (pc := 24) 0 0 rfl rfl dX9_fixed_24 ?_
    refine Y_iconst C (pc := 25) (v := (1 : Int32)) (by decide) dX9_fixed_25 ?_
    obtain ⟨v2, hv2, h⟩ := Option.bind_eq_some_iff.mp h
    refine Y_callV C [.int (1 : Int32)] [] [.int v2.1] hk0 rfl rfl (c_X9_fails hI hk0 hv2) (fun _ h => h) q_cw_yX9_fails q_ml_RX9_94 ⟨q_im_yX9_fails, q_se_yX9_fails⟩ ⟨⟨Nat.le_of_ble_eq_true rfl, Nat.le_of_ble_eq_true rfl⟩, ⟨Nat.zero_le _, Nat.zero_le _⟩, Nat.le_of_ble_eq_true rfl⟩ rfl rfl rfl dX9_fixed_26 ?_
    cases h
    exact Y_iret C dX9_fixed_29
  · rw [if_neg c5] at h
    refine Y_aload_n C (pc := 8) 0 0 rfl rfl dX9_fixed_8 ?_
    refine Y_aload_n C (pc := 9) 0 0 rfl rfl dX9_fixed_9 ?_
    refine Y_getR C (pc := 10) hk0 q_fi_RX9_7 (by decide) dX9_fixed_10 ?_
    refine Y_bipush C (pc := 13) (v := (115 : Int32)) (by decide) dX9_fixed_13 ?_
    refine Y_iload_n C (pc := 15) 1 1 rfl rfl dX9_fixed_15 ?_
    refine Y_iadd C (pc := 16) dX9_fixed_16 ?_
    obtain ⟨v3, hv3, h⟩ := Option.bind_eq_some_iff.mp h
    refine Y_iald C (pc := 17) (q_kr_9_0 hk0) hv3 dX9_fixed_17 ?_
    obtain ⟨v4, hv4, h⟩ := Option.bind_eq_some_iff.mp h
    refine Y_callV C [.int v3] [] [.int v4.1] hk0 rfl rfl (c_X9_tells hI hk0 hv4) (fun _ h => h) q_cw_yX9_tells q_ml_RX9_82 ⟨q_im_yX9_tells, q_se_yX9_tells⟩ ⟨⟨Nat.le_of_ble_eq_true rfl, Nat.le_of_ble_eq_true rfl⟩, ⟨Nat.zero_le _, Nat.zero_le _⟩, Nat.le_of_ble_eq_true rfl⟩ rfl rfl rfl dX9_fixed_18 ?_
    refine Y_goto C (pc := 21) (tgt := 29) dX9_fixed_21 (by decide) ?_
    cases h
    exact Y_iret C dX9_fixed_29

set_option maxRecDepth 100000 in
set_option maxHeartbeats 4000000 in
theorem c_X9_fixedPart {l : Launch} {D : va_G} {cA ρ : Nat → Nat} {σ : Sg} {τ : Tg} {k0 : Nat} (hk0 : kd k0 = (0, 9)) {r : Int32} (h : f_X9_fixedPart σ k0 = some r) : Ct l yX9_fixedPart cX9_fixedPart 4 (some .int) 2 44 D cA ρ A0 [.ref (ρ k0)] σ τ (some (.int r)) σ τ := by
  refine Ct_of (by decide +kernel) (Nat.le_of_ble_eq_true rfl) (fun p e s m args below meth c C => ?_)
  have C : Ctx p l s m args meth c cX9_fixedPart RX9 4 (some .int) D cA ρ A0 := C
  unfold f_X9_fixedPart at h
  refine Y_sub [0] (lv' := [(0, .ref (ρ k0))]) rfl ?_
  refine Y_iconst C (pc := 0) (v := (0 : Int32)) (by decide) dX9_fixedPart_0 ?_
  refine Y_istore_n C (pc := 1) (lv' := [(1, .int (0 : Int32)), (0, .ref (ρ k0))]) 1 rfl (by decide) rfl dX9_fixedPart_1 ?_
  refine Y_iconst C (pc := 2) (v := (0 : Int32)) (by decide) dX9_fixedPart_2 ?_
  refine Y_istore_n C (pc := 3) (lv' := [(2, .int (0 : Int32)), (1, .int (0 : Int32)), (0, .ref (ρ k0))]) 2 rfl (by decide) rfl dX9_fixedPart_3 ?_
  obtain ⟨e28, he28, h⟩ := Option.bind_eq_some_iff.mp h
  refine Y_sub [2, 1, 0] (lv' := [(0, .ref (ρ k0)), (1, .int (0 : Int32)), (2, .int (0 : Int32))]) rfl ?_
  refine lo_rule (f := (f_X9_fixedPart_L4 σ k0)) (YS := fun s1 => Y p l e (Rm 2 44) s m args below meth c 4 D cA ρ A0 0 0 (MQ below (QC D cA ρ A0 (some (.int r)) σ τ) args s 0 0 A0) σ τ 4 [(0, .ref (ρ k0)), (1, .int s1.1), (2, .int s1.2)] []) (YE := fun e28 => Y p l e (Rm 2 44) s m args below meth c 4 D cA ρ A0 0 0 (MQ below (QC D cA ρ A0 (some (.int r)) σ τ) args s 0 0 A0) σ τ 116 [(1, .int e28)] []) ?_ he28 ?_
  · intro s1 x h hLp hE
    unfold f_X9_fixedPart_L4 at h
    have hJ40 : ∀ (j6 : Int32) (j7 : Int32) (j8 : Int32), f_X9_fixedPart_J40 σ k0 j6 j7 j8 = some x → Y p l e (Rm 2 44) s m args below meth c 4 D cA ρ A0 0 0 (MQ below (QC D cA ρ A0 (some (.int r)) σ τ) args s 0 0 A0) σ τ 40 [(0, .ref (ρ k0)), (2, .int j6)] [.int j7, .int j8] := by
      intro j6 j7 j8 h
      unfold f_X9_fixedPart_J40 at h
      refine Y_iadd C (pc := 40) dX9_fixedPart_40 ?_
      refine Y_istore_n C (pc := 41) (lv' := [(1, .int (j8 + j7)), (0, .ref (ρ k0)), (2, .int j6)]) 1 rfl (by decide) rfl dX9_fixedPart_41 ?_
      refine Y_iconst C (pc := 42) (v := (0 : Int32)) (by decide) dX9_fixedPart_42 ?_
      refine Y_istore_n C (pc := 43) (lv' := [(3, .int (0 : Int32)), (1, .int (j8 + j7)), (0, .ref (ρ k0)), (2, .int j6)]) 3 rfl (by decide) rfl dX9_fixedPart_43 ?_
      obtain ⟨e25, he25, h⟩ := Option.bind_eq_some_iff.mp h
      refine Y_sub [2, 1, 3, 0] (lv' := [(0, .ref (ρ k0)), (1, .int (j8 + j7)), (2, .int j6), (3, .int (0 : Int32))]) rfl ?_
      refine lo_rule (f := (f_X9_fixedPart_L44 σ k0 j6)) (YS := fun s9 => Y p l e (Rm 2 44) s m args below meth c 4 D cA ρ A0 0 0 (MQ below (QC D cA ρ A0 (some (.int r)) σ τ) args s 0 0 A0) σ τ 44 [(0, .ref (ρ k0)), (1, .int s9.1), (2, .int j6), (3, .int s9.2)] []) (YE := fun e25 => Y p l e (Rm 2 44) s m args below meth c 4 D cA ρ A0 0 0 (MQ below (QC D cA ρ A0 (some (.int r)) σ τ) args s 0 0 A0) σ τ 110 [(0, .ref (ρ k0)), (1, .int e25), (2, .int j6)] []) ?_ he25 ?_
      · intro s9 x h hLp hE
        unfold f_X9_fixedPart_L44 at h
        have hJ102 : ∀ (j14 : Int32) (j15 : Int32) (j16 : Int32), f_X9_fixedPart_J102 j14 j15 j16 = some x → Y p l e (Rm 2 44) s m args below meth c 4 D cA ρ A0 0 0 (MQ below (QC D cA ρ A0 (some (.int r)) σ τ) args s 0 0 A0) σ τ 102 [(0, .ref (ρ k0)), (2, .int j6), (3, .int j14)] [.int j15, .int j16] := by
          intro j14 j15 j16 h
          unfold f_X9_fixedPart_J102 at h
          refine Y_iadd C (pc := 102) dX9_fixedPart_102 ?_
          refine Y_istore_n C (pc := 103) (lv' := [(1, .int (j16 + j15)), (0, .ref (ρ k0)), (2, .int j6), (3, .int j14)]) 1 rfl (by decide) rfl dX9_fixedPart_103 ?_
          refine Y_iinc C (pc := 104) (v := (j14 + 1)) (lv' := [(3, .int (j14 + 1)), (1, .int (j16 + j15)), (0, .ref (ρ k0)), (2, .int j6)]) 3 rfl (congrArg (fun z => j14 + z) (by decide : Int32.ofInt (1) = (1))) (by decide) rfl dX9_fixedPart_104 ?_
          refine Y_goto C (pc := 107) (tgt := 44) dX9_fixedPart_107 (by decide) ?_
          have h := Option.some.inj h
          exact Y_sub [2, 1, 3, 0] rfl (hLp _ h.symm)
        have hJ75 : ∀ (j12 : Int32) (j13 : Int32), f_X9_fixedPart_J75 j12 j13 = some x → Y p l e (Rm 2 44) s m args below meth c 4 D cA ρ A0 0 0 (MQ below (QC D cA ρ A0 (some (.int r)) σ τ) args s 0 0 A0) σ τ 75 [(0, .ref (ρ k0)), (2, .int j6), (3, .int j12)] [.int j13] := by
          intro j12 j13 h
          unfold f_X9_fixedPart_J75 at h
          refine Y_iconst C (pc := 75) (v := (0 : Int32)) (by decide) dX9_fixedPart_75 ?_
          refine Y_goto C (pc := 76) (tgt := 102) dX9_fixedPart_76 (by decide) ?_
          exact Y_sub [0, 1, 2] rfl (hJ102 _ _ _ h)
        refine Y_iload_n C (pc := 44) 3 3 rfl rfl dX9_fixedPart_44 ?_
        refine Y_aload_n C (pc := 45) 0 0 rfl rfl dX9_fixedPart_45 ?_
        refine Y_getR C (pc := 46) hk0 q_fi_RX9_7 (by decide) dX9_fixedPart_46 ?_
        refine Y_iconst C (pc := 49) (v := (0 : Int32)) (by decide) dX9_fixedPart_49 ?_
        obtain ⟨v10, hv10, h⟩ := Option.bind_eq_some_iff.mp h
        refine Y_iald C (pc := 50) (q_kr_9_0 hk0) hv10 dX9_fixedPart_50 ?_
        refine Y_icmp_ge C (pc := 51) (tgt := 110) dX9_fixedPart_51 (by decide) (fun c24 => ?_) (fun c24 => ?_)
        · rw [if_pos c24] at h
          have h := Option.some.inj h
          exact Y_sub [0, 1, 2] rfl (hE _ h.symm)
        · rw [if_neg c24] at h
          refine Y_iload_n C (pc := 54) 1 1 rfl rfl dX9_fixedPart_54 ?_
          refine Y_aload_n C (pc := 55) 0 0 rfl rfl dX9_fixedPart_55 ?_
          refine Y_getR C (pc := 56) hk0 q_fi_RX9_25 (by decide) dX9_fixedPart_56 ?_
          refine Y_iload_n C (pc := 59) 2 2 rfl rfl dX9_fixedPart_59 ?_
          obtain ⟨v11, hv11, h⟩ := Option.bind_eq_some_iff.mp h
          refine Y_iald C (pc := 60) (q_kr_9_8 hk0) hv11 dX9_fixedPart_60 ?_
          refine Y_iconst C (pc := 61) (v := (-1 : Int32)) (by decide) dX9_fixedPart_61 ?_
          refine Y_icmp_eq C (pc := 62) (tgt := 75) dX9_fixedPart_62 (by decide) (fun c23 => ?_) (fun c23 => ?_)
          · rw [if_pos c23] at h
            exact Y_sub [0, 2, 3] rfl (hJ75 _ _ h)
          · rw [if_neg c23] at h
            refine Y_aload_n C (pc := 65) 0 0 rfl rfl dX9_fixedPart_65 ?_
            refine Y_getR C (pc := 66) hk0 q_fi_RX9_25 (by decide) dX9_fixedPart_66 ?_
            refine Y_iload_n C (pc := 69) 3 3 rfl rfl dX9_fixedPart_69 ?_
            obtain ⟨v17, hv17, h⟩ := Option.bind_eq_some_iff.mp h
            refine Y_iald C (pc := 70) (q_kr_9_8 hk0) hv17 dX9_fixedPart_70 ?_
            refine Y_iconst C (pc := 71) (v := (-1 : Int32)) (by decide) dX9_fixedPart_71 ?_
            refine Y_icmp_ne C (pc := 72) (tgt := 79) dX9_fixedPart_72 (by decide) (fun c22 => ?_) (fun c22 => ?_)
            · rw [if_neg c22] at h
              refine Y_aload_n C (pc := 79) 0 0 rfl rfl dX9_fixedPart_79 ?_
              refine Y_iload_n C (pc := 80) 2 2 rfl rfl dX9_fixedPart_80 ?_
              refine Y_iload_n C (pc := 81) 3 3 rfl rfl dX9_fixedPart_81 ?_
              obtain ⟨v18, hv18, h⟩ := Option.bind_eq_some_iff.mp h
              refine Y_callV C [.int j6, .int s9.2] [.int s9.1] [.int v18, .int s9.1] hk0 rfl rfl (c_X9_flow hk0 hv18) (fun _ h => h.elim) q_cw_yX9_flow q_ml_RX9_123 ⟨q_im_yX9_flow, q_se_yX9_flow⟩ ⟨⟨Nat.le_of_ble_eq_true rfl, Nat.le_of_ble_eq_true rfl⟩, ⟨Nat.zero_le _, Nat.zero_le _⟩, Nat.le_of_ble_eq_true rfl⟩ rfl rfl rfl dX9_fixedPart_82 ?_
              refine Y_aload_n C (pc := 85) 0 0 rfl rfl dX9_fixedPart_85 ?_
              refine Y_aload_n C (pc := 86) 0 0 rfl rfl dX9_fixedPart_86 ?_
              refine Y_getR C (pc := 87) hk0 q_fi_RX9_25 (by decide) dX9_fixedPart_87 ?_
              refine Y_iload_n C (pc := 90) 2 2 rfl rfl dX9_fixedPart_90 ?_
              obtain ⟨v19, hv19, h⟩ := Option.bind_eq_some_iff.mp h
              refine Y_iald C (pc := 91) (q_kr_9_8 hk0) hv19 dX9_fixedPart_91 ?_
              refine Y_aload_n C (pc := 92) 0 0 rfl rfl dX9_fixedPart_92 ?_
              refine Y_getR C (pc := 93) hk0 q_fi_RX9_25 (by decide) dX9_fixedPart_93 ?_
              refine Y_iload_n C (pc := 96) 3 3 rfl rfl dX9_fixedPart_96 ?_
              obtain ⟨v20, hv20, h⟩ := Option.bind_eq_some_iff.mp h
              refine Y_iald C (pc := 97) (q_kr_9_8 hk0) hv20 dX9_fixedPart_97 ?_
              obtain ⟨v21, hv21, h⟩ := Option.bind_eq_some_iff.mp h
              refine Y_callV C [.int v19, .int v20] [.int v18, .int s9.1] [.int v21, .int v18, .int s9.1] hk0 rfl rfl (c_X9_far hk0 hv21) (fun _ h => h.elim) q_cw_yX9_far q_ml_RX9_126 ⟨q_im_yX9_far, q_se_yX9_far⟩ ⟨⟨Nat.le_of_ble_eq_true rfl, Nat.le_of_ble_eq_true rfl⟩, ⟨Nat.zero_le _, Nat.zero_le _⟩, Nat.le_of_ble_eq_true rfl⟩ rfl rfl rfl dX9_fixedPart_98 ?_
              refine Y_imul C (pc := 101) dX9_fixedPart_101 ?_
              exact Y_sub [0, 2, 3] rfl (hJ102 _ _ _ h)
            · rw [if_pos c22] at h
              exact Y_sub [0, 2, 3] rfl (hJ75 _ _ h)
      · refine Y_iinc C (pc := 110) (v := (j6 + 1)) (lv' := [(2, .int (j6 + 1)), (0, .ref (ρ k0)), (1, .int e25)]) 2 rfl (congrArg (fun z => j6 + z) (by decide : Int32.ofInt (1) = (1))) (by decide) rfl dX9_fixedPart_110 ?_
        refine Y_goto C (pc := 113) (tgt := 4) dX9_fixedPart_113 (by decide) ?_
        have h := Option.some.inj h
        exact Y_sub [1, 2, 0] rfl (hLp _ h.symm)
    refine Y_iload_n C (pc := 4) 2 2 rfl rfl dX9_fixedPart_4 ?_
    refine Y_aload_n C (pc := 5) 0 0 rfl rfl dX9_fixedPart_5 ?_
    refine Y_getR C (pc := 6) hk0 q_fi_RX9_7 (by decide) dX9_fixedPart_6 ?_
    refine Y_iconst C (pc := 9) (v := (0 : Int32)) (by decide) dX9_fixedPart_9 ?_
    obtain ⟨v2, hv2, h⟩ := Option.bind_eq_some_iff.mp h
    refine Y_iald C (pc := 10) (q_kr_9_0 hk0) hv2 dX9_fixedPart_10 ?_
    refine Y_icmp_ge C (pc := 11) (tgt := 116) dX9_fixedPart_11 (by decide) (fun c27 => ?_) (fun c27 => ?_)
    · rw [if_pos c27] at h
      have h := Option.some.inj h
      exact Y_sub [1] rfl (hE _ h.symm)
    · rw [if_neg c27] at h
      refine Y_iload_n C (pc := 14) 1 1 rfl rfl dX9_fixedPart_14 ?_
      refine Y_aload_n C (pc := 15) 0 0 rfl rfl dX9_fixedPart_15 ?_
      refine Y_getR C (pc := 16) hk0 q_fi_RX9_25 (by decide) dX9_fixedPart_16 ?_
      refine Y_iload_n C (pc := 19) 2 2 rfl rfl dX9_fixedPart_19 ?_
      obtain ⟨v3, hv3, h⟩ := Option.bind_eq_some_iff.mp h
      refine Y_iald C (pc := 20) (q_kr_9_8 hk0) hv3 dX9_fixedPart_20 ?_
      refine Y_iconst C (pc := 21) (v := (-1 : Int32)) (by decide) dX9_fixedPart_21 ?_
      refine Y_icmp_ne C (pc := 22) (tgt := 29) dX9_fixedPart_22 (by decide) (fun c26 => ?_) (fun c26 => ?_)
      · rw [if_neg c26] at h
        refine Y_aload_n C (pc := 29) 0 0 rfl rfl dX9_fixedPart_29 ?_
        refine Y_iload_n C (pc := 30) 2 2 rfl rfl dX9_fixedPart_30 ?_
        refine Y_aload_n C (pc := 31) 0 0 rfl rfl dX9_fixedPart_31 ?_
        refine Y_getR C (pc := 32) hk0 q_fi_RX9_25 (by decide) dX9_fixedPart_32 ?_
        refine Y_iload_n C (pc := 35) 2 2 rfl rfl dX9_fixedPart_35 ?_
        obtain ⟨v4, hv4, h⟩ := Option.bind_eq_some_iff.mp h
        refine Y_iald C (pc := 36) (q_kr_9_8 hk0) hv4 dX9_fixedPart_36 ?_
        obtain ⟨v5, hv5, h⟩ := Option.bind_eq_some_iff.mp h
        refine Y_callV C [.int s1.2, .int v4] [.int s1.1] [.int v5, .int s1.1] hk0 rfl rfl (c_X9_price hk0 hv5) (fun _ h => h.elim) q_cw_yX9_price q_ml_RX9_119 ⟨q_im_yX9_price, q_se_yX9_price⟩ ⟨⟨Nat.le_of_ble_eq_true rfl, Nat.le_of_ble_eq_true rfl⟩, ⟨Nat.zero_le _, Nat.zero_le _⟩, Nat.le_of_ble_eq_true rfl⟩ rfl rfl rfl dX9_fixedPart_37 ?_
        exact Y_sub [0, 2] rfl (hJ40 _ _ _ h)
      · rw [if_pos c26] at h
        refine Y_iconst C (pc := 25) (v := (0 : Int32)) (by decide) dX9_fixedPart_25 ?_
        refine Y_goto C (pc := 26) (tgt := 40) dX9_fixedPart_26 (by decide) ?_
        exact Y_sub [0, 2] rfl (hJ40 _ _ _ h)
  · refine Y_iload_n C (pc := 116) 1 0 rfl rfl dX9_fixedPart_116 ?_
    cases h
    exact Y_iret C dX9_fixedPart_117

set_option maxRecDepth 100000 in
set_option maxHeartbeats 4000000 in
theorem c_X9_fixedCost {l : Launch} {D : va_G} {cA ρ : Nat → Nat} {σ : Sg} {τ : Tg} {k0 : Nat} (hI : Inj ρ) (hk0 : kd k0 = (0, 9)) {r : Int32 × Sg} (h : f_X9_fixedCost σ k0 = some r) : Ct l yX9_fixedCost cX9_fixedCost 1 (some .int) 3 67 D cA ρ (Aw ρ) [.ref (ρ k0)] σ τ (some (.int r.1)) r.2 τ := by
  refine Ct_of (by decide +kernel) (Nat.le_of_ble_eq_true rfl) (fun p e s m args below meth c C => ?_)
  have C : Ctx p l s m args meth c cX9_fixedCost RX9 1 (some .int) D cA ρ (Aw ρ) := C
  have hW : Wr ρ (Aw ρ) := ⟨hI, fun k hk => ⟨k, hk, rfl⟩⟩
  unfold f_X9_fixedCost at h
  refine Y_sub [0] (lv' := [(0, .ref (ρ k0))]) rfl ?_
  refine Y_aload_n C (pc := 0) 0 0 rfl rfl dX9_fixedCost_0 ?_
  obtain ⟨v1, hv1, h⟩ := Option.bind_eq_some_iff.mp h
  refine Y_callV C [] [] [] hk0 rfl rfl (c_X9_looks hI hk0 hv1) (fun _ h => h) q_cw_yX9_looks q_ml_RX9_177 ⟨q_im_yX9_looks, q_se_yX9_looks⟩ ⟨⟨Nat.le_of_ble_eq_true rfl, Nat.le_of_ble_eq_true rfl⟩, ⟨Nat.zero_le _, Nat.zero_le _⟩, Nat.le_of_ble_eq_true rfl⟩ rfl rfl rfl dX9_fixedCost_1 ?_
  refine Y_aload_n C (pc := 4) 0 0 rfl rfl dX9_fixedCost_4 ?_
  refine Y_aload_n C (pc := 5) 0 0 rfl rfl dX9_fixedCost_5 ?_
  obtain ⟨v2, hv2, h⟩ := Option.bind_eq_some_iff.mp h
  refine Y_callV C [] [.ref (ρ k0)] [.int v2, .ref (ρ k0)] hk0 rfl rfl (c_X9_fixedPart hk0 hv2) (fun _ h => h.elim) q_cw_yX9_fixedPart q_ml_RX9_190 ⟨q_im_yX9_fixedPart, q_se_yX9_fixedPart⟩ ⟨⟨Nat.le_of_ble_eq_true rfl, Nat.le_of_ble_eq_true rfl⟩, ⟨Nat.zero_le _, Nat.zero_le _⟩, Nat.le_of_ble_eq_true rfl⟩ rfl rfl rfl dX9_fixedCost_6 ?_
  obtain ⟨v3, hv3, h⟩ := Option.bind_eq_some_iff.mp h
  refine Y_callV C [.int v2] [] [.int v3.1] hk0 rfl rfl (c_X9_tells hI hk0 hv3) (fun _ h => h) q_cw_yX9_tells q_ml_RX9_82 ⟨q_im_yX9_tells, q_se_yX9_tells⟩ ⟨⟨Nat.le_of_ble_eq_true rfl, Nat.le_of_ble_eq_true rfl⟩, ⟨Nat.zero_le _, Nat.zero_le _⟩, Nat.le_of_ble_eq_true rfl⟩ rfl rfl rfl dX9_fixedCost_9 ?_
  cases h
  exact Y_iret C dX9_fixedCost_12

set_option maxRecDepth 100000 in
set_option maxHeartbeats 4000000 in
theorem c_X9_sorts {l : Launch} {D : va_G} {cA ρ : Nat → Nat} {σ : Sg} {τ : Tg} {k0 : Nat} {i1 : Int32} (hI : Inj ρ) (hk0 : (kd k0).1 = 1) (hn0 : k0 < 97) {r : Sg} (h : f_X9_sorts σ k0 i1 = some r) : Ct l yX9_sorts cX9_sorts 5 none 0 0 D cA ρ (Aw ρ) [.ref (ρ k0), .int i1] σ τ none r τ := by
  refine Ct_of (by decide +kernel) (Nat.le_of_ble_eq_true rfl) (fun p e s m args below meth c C => ?_)
  have C : Ctx p l s m args meth c cX9_sorts RX9 5 none D cA ρ (Aw ρ) := C
  have hW : Wr ρ (Aw ρ) := ⟨hI, fun k hk => ⟨k, hk, rfl⟩⟩
  unfold f_X9_sorts at h
  refine Y_sub [0, 1] (lv' := [(0, .ref (ρ k0)), (1, .int i1)]) rfl ?_
  refine Y_iconst C (pc := 0) (v := (1 : Int32)) (by decide) dX9_sorts_0 ?_
  refine Y_istore_n C (pc := 1) (lv' := [(2, .int (1 : Int32)), (0, .ref (ρ k0)), (1, .int i1)]) 2 rfl (by decide) rfl dX9_sorts_1 ?_
  obtain ⟨e13, he13, h⟩ := Option.bind_eq_some_iff.mp h
  refine Y_sub [1, 2, 0] (lv' := [(0, .ref (ρ k0)), (1, .int i1), (2, .int (1 : Int32))]) rfl ?_
  refine lo_rule (f := (f_X9_sorts_L2 i1 k0)) (YS := fun s1 => Y p l e (Rm 0 0) s m args below meth c 5 D cA ρ (Aw ρ) 0 0 (MQ below (QC D cA ρ (Aw ρ) none r τ) args s 0 0 (Aw ρ)) s1.2 τ 2 [(0, .ref (ρ k0)), (1, .int i1), (2, .int s1.1)] []) (YE := fun e13 => Y p l e (Rm 0 0) s m args below meth c 5 D cA ρ (Aw ρ) 0 0 (MQ below (QC D cA ρ (Aw ρ) none r τ) args s 0 0 (Aw ρ)) e13 τ 56 [] []) ?_ he13 ?_
  · intro s1 x h hLp hE
    unfold f_X9_sorts_L2 at h
    refine Y_iload_n C (pc := 2) 2 2 rfl rfl dX9_sorts_2 ?_
    refine Y_iload_n C (pc := 3) 1 1 rfl rfl dX9_sorts_3 ?_
    refine Y_icmp_ge C (pc := 4) (tgt := 56) dX9_sorts_4 (by decide) (fun c12 => ?_) (fun c12 => ?_)
    · rw [if_pos c12] at h
      have h := Option.some.inj h
      exact Y_sub [] rfl (hE _ h.symm)
    · rw [if_neg c12] at h
      refine Y_iload_n C (pc := 7) 2 2 rfl rfl dX9_sorts_7 ?_
      refine Y_istore_n C (pc := 8) (lv' := [(3, .int s1.1), (0, .ref (ρ k0)), (1, .int i1), (2, .int s1.1)]) 3 rfl (by decide) rfl dX9_sorts_8 ?_
      obtain ⟨e11, he11, h⟩ := Option.bind_eq_some_iff.mp h
      refine Y_sub [1, 2, 3, 0] (lv' := [(0, .ref (ρ k0)), (1, .int i1), (2, .int s1.1), (3, .int s1.1)]) rfl ?_
      refine lo_rule (f := (f_X9_sorts_L9 k0)) (YS := fun s2 => Y p l e (Rm 0 0) s m args below meth c 5 D cA ρ (Aw ρ) 0 0 (MQ below (QC D cA ρ (Aw ρ) none r τ) args s 0 0 (Aw ρ)) s2.2 τ 9 [(0, .ref (ρ k0)), (1, .int i1), (2, .int s1.1), (3, .int s2.1)] []) (YE := fun e11 => Y p l e (Rm 0 0) s m args below meth c 5 D cA ρ (Aw ρ) 0 0 (MQ below (QC D cA ρ (Aw ρ) none r τ) args s 0 0 (Aw ρ)) e11 τ 50 [(0, .ref (ρ k0)), (1, .int i1), (2, .int s1.1)] []) ?_ he11 ?_
      · intro s2 x h hLp hE
        unfold f_X9_sorts_L9 at h
        refine Y_iload_n C (pc := 9) 3 3 rfl rfl dX9_sorts_9 ?_
        refine Y_if_le C (pc := 10) (tgt := 50) dX9_sorts_10 (by decide) (fun c10 => ?_) (fun c10 => ?_)
        · rw [if_pos c10] at h
          have h := Option.some.inj h
          exact Y_sub [0, 1, 2] rfl (hE _ h.symm)
        · rw [if_neg c10] at h
          refine Y_aload_n C (pc := 13) 0 0 rfl rfl dX9_sorts_13 ?_
          refine Y_iload_n C (pc := 14) 3 3 rfl rfl dX9_sorts_14 ?_
          obtain ⟨v3, hv3, h⟩ := Option.bind_eq_some_iff.mp h
          refine Y_iald C (pc := 15) hk0 hv3 dX9_sorts_15 ?_
          refine Y_aload_n C (pc := 16) 0 0 rfl rfl dX9_sorts_16 ?_
          refine Y_iload_n C (pc := 17) 3 3 rfl rfl dX9_sorts_17 ?_
          refine Y_iconst C (pc := 18) (v := (1 : Int32)) (by decide) dX9_sorts_18 ?_
          refine Y_isub C (pc := 19) dX9_sorts_19 ?_
          obtain ⟨v4, hv4, h⟩ := Option.bind_eq_some_iff.mp h
          refine Y_iald C (pc := 20) hk0 hv4 dX9_sorts_20 ?_
          refine Y_icmp_ge C (pc := 21) (tgt := 50) dX9_sorts_21 (by decide) (fun c9 => ?_) (fun c9 => ?_)
          · rw [if_pos c9] at h
            have h := Option.some.inj h
            exact Y_sub [0, 1, 2] rfl (hE _ h.symm)
          · rw [if_neg c9] at h
            refine Y_aload_n C (pc := 24) 0 0 rfl rfl dX9_sorts_24 ?_
            refine Y_iload_n C (pc := 25) 3 3 rfl rfl dX9_sorts_25 ?_
            obtain ⟨v5, hv5, h⟩ := Option.bind_eq_some_iff.mp h
            refine Y_iald C (pc := 26) hk0 hv5 dX9_sorts_26 ?_
            refine Y_istore C (pc := 27) (lv' := [(4, .int v5), (0, .ref (ρ k0)), (1, .int i1), (2, .int s1.1), (3, .int s2.1)]) (by decide) rfl dX9_sorts_27 ?_
            refine Y_aload_n C (pc := 29) 0 1 rfl rfl dX9_sorts_29 ?_
            refine Y_iload_n C (pc := 30) 3 4 rfl rfl dX9_sorts_30 ?_
            refine Y_aload_n C (pc := 31) 0 1 rfl rfl dX9_sorts_31 ?_
            refine Y_iload_n C (pc := 32) 3 4 rfl rfl dX9_sorts_32 ?_
            refine Y_iconst C (pc := 33) (v := (1 : Int32)) (by decide) dX9_sorts_33 ?_
            refine Y_isub C (pc := 34) dX9_sorts_34 ?_
            obtain ⟨v6, hv6, h⟩ := Option.bind_eq_some_iff.mp h
            refine Y_iald C (pc := 35) hk0 hv6 dX9_sorts_35 ?_
            obtain ⟨s7, hs7, h⟩ := Option.bind_eq_some_iff.mp h
            refine Y_iast C (pc := 36) hW hk0 hn0 hs7 dX9_sorts_36 ?_
            refine Y_aload_n C (pc := 37) 0 1 rfl rfl dX9_sorts_37 ?_
            refine Y_iload_n C (pc := 38) 3 4 rfl rfl dX9_sorts_38 ?_
            refine Y_iconst C (pc := 39) (v := (1 : Int32)) (by decide) dX9_sorts_39 ?_
            refine Y_isub C (pc := 40) dX9_sorts_40 ?_
            refine Y_iload C (pc := 41) 0 rfl dX9_sorts_41 ?_
            obtain ⟨s8, hs8, h⟩ := Option.bind_eq_some_iff.mp h
            refine Y_iast C (pc := 43) hW hk0 hn0 hs8 dX9_sorts_43 ?_
            refine Y_iinc C (pc := 44) (v := (s2.1 + (-1))) (lv' := [(3, .int (s2.1 + (-1))), (4, .int v5), (0, .ref (ρ k0)), (1, .int i1), (2, .int s1.1)]) 4 rfl (congrArg (fun z => s2.1 + z) (by decide : Int32.ofInt (-1) = (-1))) (by decide) rfl dX9_sorts_44 ?_
            refine Y_goto C (pc := 47) (tgt := 9) dX9_sorts_47 (by decide) ?_
            have h := Option.some.inj h
            exact Y_sub [2, 3, 4, 0] rfl (hLp _ h.symm)
      · refine Y_iinc C (pc := 50) (v := (s1.1 + 1)) (lv' := [(2, .int (s1.1 + 1)), (0, .ref (ρ k0)), (1, .int i1)]) 2 rfl (congrArg (fun z => s1.1 + z) (by decide : Int32.ofInt (1) = (1))) (by decide) rfl dX9_sorts_50 ?_
        refine Y_goto C (pc := 53) (tgt := 2) dX9_sorts_53 (by decide) ?_
        have h := Option.some.inj h
        exact Y_sub [1, 2, 0] rfl (hLp _ h.symm)
  · cases h
    exact Y_vret C dX9_sorts_56

set_option maxRecDepth 100000 in
set_option maxHeartbeats 4000000 in
theorem c_X9_leastProduct {l : Launch} {D : va_G} {cA ρ : Nat → Nat} {σ : Sg} {τ : Tg} {k0 : Nat} {i1 : Int32} {i2 : Int32} (hI : Inj ρ) (hk0 : kd k0 = (0, 9)) {r : Int32 × Sg} (h : f_X9_leastProduct σ k0 i1 i2 = some r) : Ct l yX9_leastProduct cX9_leastProduct 7 (some .int) 2 44 D cA ρ (Aw ρ) [.ref (ρ k0), .int i1, .int i2] σ τ (some (.int r.1)) r.2 τ := by
  refine Ct_of (by decide +kernel) (Nat.le_of_ble_eq_true rfl) (fun p e s m args below meth c C => ?_)
  have C : Ctx p l s m args meth c cX9_leastProduct RX9 7 (some .int) D cA ρ (Aw ρ) := C
  have hW : Wr ρ (Aw ρ) := ⟨hI, fun k hk => ⟨k, hk, rfl⟩⟩
  unfold f_X9_leastProduct at h
  refine Y_sub [0, 1, 2] (lv' := [(0, .ref (ρ k0)), (1, .int i1), (2, .int i2)]) rfl ?_
  refine Y_iconst C (pc := 0) (v := (0 : Int32)) (by decide) dX9_leastProduct_0 ?_
  refine Y_istore_n C (pc := 1) (lv' := [(3, .int (0 : Int32)), (0, .ref (ρ k0)), (1, .int i1), (2, .int i2)]) 3 rfl (by decide) rfl dX9_leastProduct_1 ?_
  refine Y_iconst C (pc := 2) (v := (0 : Int32)) (by decide) dX9_leastProduct_2 ?_
  refine Y_istore C (pc := 3) (lv' := [(4, .int (0 : Int32)), (3, .int (0 : Int32)), (0, .ref (ρ k0)), (1, .int i1), (2, .int i2)]) (by decide) rfl dX9_leastProduct_3 ?_
  obtain ⟨e12, he12, h⟩ := Option.bind_eq_some_iff.mp h
  refine Y_sub [2, 3, 4, 1, 0] (lv' := [(0, .ref (ρ k0)), (1, .int i1), (2, .int i2), (3, .int (0 : Int32)), (4, .int (0 : Int32))]) rfl ?_
  refine lo_rule (f := (f_X9_leastProduct_L5 k0 i1)) (YS := fun s1 => Y p l e (Rm 2 44) s m args below meth c 7 D cA ρ (Aw ρ) 0 0 (MQ below (QC D cA ρ (Aw ρ) (some (.int r.1)) r.2 τ) args s 0 0 (Aw ρ)) s1.2.2 τ 5 [(0, .ref (ρ k0)), (1, .int i1), (2, .int i2), (3, .int s1.1), (4, .int s1.2.1)] []) (YE := fun e12 => Y p l e (Rm 2 44) s m args below meth c 7 D cA ρ (Aw ρ) 0 0 (MQ below (QC D cA ρ (Aw ρ) (some (.int r.1)) r.2 τ) args s 0 0 (Aw ρ)) e12.2 τ 55 [(0, .ref (ρ k0)), (2, .int i2), (3, .int e12.1)] []) ?_ he12 ?_
  · intro s1 x h hLp hE
    unfold f_X9_leastProduct_L5 at h
    have hJ49 : ∀ (j3 : Int32) (j4 : Int32) (sj5 : Sg), f_X9_leastProduct_J49 j3 j4 sj5 = some x → Y p l e (Rm 2 44) s m args below meth c 7 D cA ρ (Aw ρ) 0 0 (MQ below (QC D cA ρ (Aw ρ) (some (.int r.1)) r.2 τ) args s 0 0 (Aw ρ)) sj5 τ 49 [(0, .ref (ρ k0)), (1, .int i1), (2, .int i2), (3, .int j3), (4, .int j4)] [] := by
      intro j3 j4 sj5 h
      unfold f_X9_leastProduct_J49 at h
      refine Y_iinc C (pc := 49) (v := (j4 + 1)) (lv' := [(4, .int (j4 + 1)), (0, .ref (ρ k0)), (1, .int i1), (2, .int i2), (3, .int j3)]) 4 rfl (congrArg (fun z => j4 + z) (by decide : Int32.ofInt (1) = (1))) (by decide) rfl dX9_leastProduct_49 ?_
      refine Y_goto C (pc := 52) (tgt := 5) dX9_leastProduct_52 (by decide) ?_
      have h := Option.some.inj h
      exact Y_sub [1, 2, 3, 4, 0] rfl (hLp _ h.symm)
    refine Y_iload C (pc := 5) 4 rfl dX9_leastProduct_5 ?_
    refine Y_aload_n C (pc := 7) 0 0 rfl rfl dX9_leastProduct_7 ?_
    refine Y_getR C (pc := 8) hk0 q_fi_RX9_7 (by decide) dX9_leastProduct_8 ?_
    refine Y_iconst C (pc := 11) (v := (0 : Int32)) (by decide) dX9_leastProduct_11 ?_
    obtain ⟨v2, hv2, h⟩ := Option.bind_eq_some_iff.mp h
    refine Y_iald C (pc := 12) (q_kr_9_0 hk0) hv2 dX9_leastProduct_12 ?_
    refine Y_icmp_ge C (pc := 13) (tgt := 55) dX9_leastProduct_13 (by decide) (fun c11 => ?_) (fun c11 => ?_)
    · rw [if_pos c11] at h
      have h := Option.some.inj h
      exact Y_sub [0, 2, 3] rfl (hE _ h.symm)
    · rw [if_neg c11] at h
      refine Y_iload C (pc := 16) 4 rfl dX9_leastProduct_16 ?_
      refine Y_iload_n C (pc := 18) 1 1 rfl rfl dX9_leastProduct_18 ?_
      refine Y_icmp_eq C (pc := 19) (tgt := 49) dX9_leastProduct_19 (by decide) (fun c10 => ?_) (fun c10 => ?_)
      · rw [if_pos c10] at h
        exact Y_sub [0, 1, 2, 3, 4] rfl (hJ49 _ _ _ h)
      · rw [if_neg c10] at h
        refine Y_aload_n C (pc := 22) 0 0 rfl rfl dX9_leastProduct_22 ?_
        refine Y_getR C (pc := 23) hk0 q_fi_RX9_25 (by decide) dX9_leastProduct_23 ?_
        refine Y_iload C (pc := 26) 4 rfl dX9_leastProduct_26 ?_
        obtain ⟨v6, hv6, h⟩ := Option.bind_eq_some_iff.mp h
        refine Y_iald C (pc := 28) (q_kr_9_8 hk0) hv6 dX9_leastProduct_28 ?_
        refine Y_iconst C (pc := 29) (v := (-1 : Int32)) (by decide) dX9_leastProduct_29 ?_
        refine Y_icmp_ne C (pc := 30) (tgt := 49) dX9_leastProduct_30 (by decide) (fun c9 => ?_) (fun c9 => ?_)
        · rw [if_neg c9] at h
          exact Y_sub [0, 1, 2, 3, 4] rfl (hJ49 _ _ _ h)
        · rw [if_pos c9] at h
          refine Y_aload_n C (pc := 33) 0 0 rfl rfl dX9_leastProduct_33 ?_
          refine Y_getR C (pc := 34) hk0 q_fi_RX9_28 (by decide) dX9_leastProduct_34 ?_
          refine Y_iload_n C (pc := 37) 3 3 rfl rfl dX9_leastProduct_37 ?_
          refine Y_aload_n C (pc := 38) 0 0 rfl rfl dX9_leastProduct_38 ?_
          refine Y_iload_n C (pc := 39) 1 1 rfl rfl dX9_leastProduct_39 ?_
          refine Y_iload C (pc := 40) 4 rfl dX9_leastProduct_40 ?_
          obtain ⟨v7, hv7, h⟩ := Option.bind_eq_some_iff.mp h
          refine Y_callV C [.int i1, .int s1.2.1] [.int s1.1, .ref (ρ (k0 + 7))] [.int v7, .int s1.1, .ref (ρ (k0 + 7))] hk0 rfl rfl (c_X9_flow hk0 hv7) (fun _ h => h.elim) q_cw_yX9_flow q_ml_RX9_123 ⟨q_im_yX9_flow, q_se_yX9_flow⟩ ⟨⟨Nat.le_of_ble_eq_true rfl, Nat.le_of_ble_eq_true rfl⟩, ⟨Nat.zero_le _, Nat.zero_le _⟩, Nat.le_of_ble_eq_true rfl⟩ rfl rfl rfl dX9_leastProduct_42 ?_
          obtain ⟨s8, hs8, h⟩ := Option.bind_eq_some_iff.mp h
          refine Y_iast C (pc := 45) hW (q_kr_9_9 hk0) (q_lr_9_9 hk0) hs8 dX9_leastProduct_45 ?_
          refine Y_iinc C (pc := 46) (v := (s1.1 + 1)) (lv' := [(3, .int (s1.1 + 1)), (0, .ref (ρ k0)), (1, .int i1), (2, .int i2), (4, .int s1.2.1)]) 3 rfl (congrArg (fun z => s1.1 + z) (by decide : Int32.ofInt (1) = (1))) (by decide) rfl dX9_leastProduct_46 ?_
          exact Y_sub [1, 2, 3, 0, 4] rfl (hJ49 _ _ _ h)
  · refine Y_iconst C (pc := 55) (v := (0 : Int32)) (by decide) dX9_leastProduct_55 ?_
    refine Y_istore C (pc := 56) (lv' := [(4, .int (0 : Int32)), (0, .ref (ρ k0)), (2, .int i2), (3, .int e12.1)]) (by decide) rfl dX9_leastProduct_56 ?_
    refine Y_iconst C (pc := 58) (v := (0 : Int32)) (by decide) dX9_leastProduct_58 ?_
    refine Y_istore C (pc := 59) (lv' := [(5, .int (0 : Int32)), (4, .int (0 : Int32)), (0, .ref (ρ k0)), (2, .int i2), (3, .int e12.1)]) (by decide) rfl dX9_leastProduct_59 ?_
    obtain ⟨e24, he24, h⟩ := Option.bind_eq_some_iff.mp h
    refine Y_sub [2, 3, 4, 1, 0] (lv' := [(0, .ref (ρ k0)), (2, .int i2), (3, .int e12.1), (4, .int (0 : Int32)), (5, .int (0 : Int32))]) rfl ?_
    refine lo_rule (f := (f_X9_leastProduct_L61 k0 i2)) (YS := fun s13 => Y p l e (Rm 2 44) s m args below meth c 7 D cA ρ (Aw ρ) 0 0 (MQ below (QC D cA ρ (Aw ρ) (some (.int r.1)) r.2 τ) args s 0 0 (Aw ρ)) s13.2.2 τ 61 [(0, .ref (ρ k0)), (2, .int i2), (3, .int e12.1), (4, .int s13.1), (5, .int s13.2.1)] []) (YE := fun e24 => Y p l e (Rm 2 44) s m args below meth c 7 D cA ρ (Aw ρ) 0 0 (MQ below (QC D cA ρ (Aw ρ) (some (.int r.1)) r.2 τ) args s 0 0 (Aw ρ)) e24.2 τ 110 [(0, .ref (ρ k0)), (3, .int e12.1), (4, .int e24.1)] []) ?_ he24 ?_
    · intro s13 x h hLp hE
      unfold f_X9_leastProduct_L61 at h
      have hJ104 : ∀ (j15 : Int32) (j16 : Int32) (sj17 : Sg), f_X9_leastProduct_J104 j15 j16 sj17 = some x → Y p l e (Rm 2 44) s m args below meth c 7 D cA ρ (Aw ρ) 0 0 (MQ below (QC D cA ρ (Aw ρ) (some (.int r.1)) r.2 τ) args s 0 0 (Aw ρ)) sj17 τ 104 [(0, .ref (ρ k0)), (2, .int i2), (3, .int e12.1), (4, .int j15), (5, .int j16)] [] := by
        intro j15 j16 sj17 h
        unfold f_X9_leastProduct_J104 at h
        refine Y_iinc C (pc := 104) (v := (j16 + 1)) (lv' := [(5, .int (j16 + 1)), (0, .ref (ρ k0)), (2, .int i2), (3, .int e12.1), (4, .int j15)]) 4 rfl (congrArg (fun z => j16 + z) (by decide : Int32.ofInt (1) = (1))) (by decide) rfl dX9_leastProduct_104 ?_
        refine Y_goto C (pc := 107) (tgt := 61) dX9_leastProduct_107 (by decide) ?_
        have h := Option.some.inj h
        exact Y_sub [1, 2, 3, 4, 0] rfl (hLp _ h.symm)
      refine Y_iload C (pc := 61) 4 rfl dX9_leastProduct_61 ?_
      refine Y_aload_n C (pc := 63) 0 0 rfl rfl dX9_leastProduct_63 ?_
      refine Y_getR C (pc := 64) hk0 q_fi_RX9_7 (by decide) dX9_leastProduct_64 ?_
      refine Y_iconst C (pc := 67) (v := (0 : Int32)) (by decide) dX9_leastProduct_67 ?_
      obtain ⟨v14, hv14, h⟩ := Option.bind_eq_some_iff.mp h
      refine Y_iald C (pc := 68) (q_kr_9_0 hk0) hv14 dX9_leastProduct_68 ?_
      refine Y_icmp_ge C (pc := 69) (tgt := 110) dX9_leastProduct_69 (by decide) (fun c23 => ?_) (fun c23 => ?_)
      · rw [if_pos c23] at h
        have h := Option.some.inj h
        exact Y_sub [0, 2, 3] rfl (hE _ h.symm)
      · rw [if_neg c23] at h
        refine Y_iload C (pc := 72) 4 rfl dX9_leastProduct_72 ?_
        refine Y_iload_n C (pc := 74) 2 1 rfl rfl dX9_leastProduct_74 ?_
        refine Y_icmp_eq C (pc := 75) (tgt := 104) dX9_leastProduct_75 (by decide) (fun c22 => ?_) (fun c22 => ?_)
        · rw [if_pos c22] at h
          exact Y_sub [0, 1, 2, 3, 4] rfl (hJ104 _ _ _ h)
        · rw [if_neg c22] at h
          refine Y_aload_n C (pc := 78) 0 0 rfl rfl dX9_leastProduct_78 ?_
          refine Y_iload C (pc := 79) 4 rfl dX9_leastProduct_79 ?_
          obtain ⟨v18, hv18, h⟩ := Option.bind_eq_some_iff.mp h
          refine Y_callV C [.int s13.2.1] [] [.int v18] hk0 rfl rfl (c_X9_isTaken hk0 hv18) (fun _ h => h.elim) q_cw_yX9_isTaken q_ml_RX9_180 ⟨q_im_yX9_isTaken, q_se_yX9_isTaken⟩ ⟨⟨Nat.le_of_ble_eq_true rfl, Nat.le_of_ble_eq_true rfl⟩, ⟨Nat.zero_le _, Nat.zero_le _⟩, Nat.le_of_ble_eq_true rfl⟩ rfl rfl rfl dX9_leastProduct_81 ?_
          refine Y_if_ne C (pc := 84) (tgt := 104) dX9_leastProduct_84 (by decide) (fun c21 => ?_) (fun c21 => ?_)
          · rw [if_neg c21] at h
            exact Y_sub [0, 1, 2, 3, 4] rfl (hJ104 _ _ _ h)
          · rw [if_pos c21] at h
            refine Y_aload_n C (pc := 87) 0 0 rfl rfl dX9_leastProduct_87 ?_
            refine Y_getR C (pc := 88) hk0 q_fi_RX9_31 (by decide) dX9_leastProduct_88 ?_
            refine Y_iload C (pc := 91) 3 rfl dX9_leastProduct_91 ?_
            refine Y_aload_n C (pc := 93) 0 0 rfl rfl dX9_leastProduct_93 ?_
            refine Y_iload_n C (pc := 94) 2 1 rfl rfl dX9_leastProduct_94 ?_
            refine Y_iload C (pc := 95) 4 rfl dX9_leastProduct_95 ?_
            obtain ⟨v19, hv19, h⟩ := Option.bind_eq_some_iff.mp h
            refine Y_callV C [.int i2, .int s13.2.1] [.int s13.1, .ref (ρ (k0 + 8))] [.int v19, .int s13.1, .ref (ρ (k0 + 8))] hk0 rfl rfl (c_X9_far hk0 hv19) (fun _ h => h.elim) q_cw_yX9_far q_ml_RX9_126 ⟨q_im_yX9_far, q_se_yX9_far⟩ ⟨⟨Nat.le_of_ble_eq_true rfl, Nat.le_of_ble_eq_true rfl⟩, ⟨Nat.zero_le _, Nat.zero_le _⟩, Nat.le_of_ble_eq_true rfl⟩ rfl rfl rfl dX9_leastProduct_97 ?_
            obtain ⟨s20, hs20, h⟩ := Option.bind_eq_some_iff.mp h
            refine Y_iast C (pc := 100) hW (q_kr_9_10 hk0) (q_lr_9_10 hk0) hs20 dX9_leastProduct_100 ?_
            refine Y_iinc C (pc := 101) (v := (s13.1 + 1)) (lv' := [(4, .int (s13.1 + 1)), (0, .ref (ρ k0)), (2, .int i2), (3, .int e12.1), (5, .int s13.2.1)]) 3 rfl (congrArg (fun z => s13.1 + z) (by decide : Int32.ofInt (1) = (1))) (by decide) rfl dX9_leastProduct_101 ?_
            exact Y_sub [1, 2, 3, 0, 4] rfl (hJ104 _ _ _ h)
    · refine Y_aload_n C (pc := 110) 0 0 rfl rfl dX9_leastProduct_110 ?_
      refine Y_getR C (pc := 111) hk0 q_fi_RX9_28 (by decide) dX9_leastProduct_111 ?_
      refine Y_iload_n C (pc := 114) 3 1 rfl rfl dX9_leastProduct_114 ?_
      obtain ⟨v25, hv25, h⟩ := Option.bind_eq_some_iff.mp h
      refine Y_callS C [.ref (ρ (k0 + 7)), .int e12.1] [] [] (c_X9_sorts hI (q_kr_9_9 hk0) (q_lr_9_9 hk0) hv25) (fun _ h => h) q_cw_yX9_sorts q_ml_RX9_193 q_st_yX9_sorts ⟨⟨Nat.le_of_ble_eq_true rfl, Nat.le_of_ble_eq_true rfl⟩, ⟨Nat.zero_le _, Nat.zero_le _⟩, Nat.le_of_ble_eq_true rfl⟩ rfl rfl rfl dX9_leastProduct_115 ?_
      refine Y_aload_n C (pc := 118) 0 0 rfl rfl dX9_leastProduct_118 ?_
      refine Y_getR C (pc := 119) hk0 q_fi_RX9_31 (by decide) dX9_leastProduct_119 ?_
      refine Y_iload C (pc := 122) 2 rfl dX9_leastProduct_122 ?_
      obtain ⟨v26, hv26, h⟩ := Option.bind_eq_some_iff.mp h
      refine Y_callS C [.ref (ρ (k0 + 8)), .int e24.1] [] [] (c_X9_sorts hI (q_kr_9_10 hk0) (q_lr_9_10 hk0) hv26) (fun _ h => h) q_cw_yX9_sorts q_ml_RX9_193 q_st_yX9_sorts ⟨⟨Nat.le_of_ble_eq_true rfl, Nat.le_of_ble_eq_true rfl⟩, ⟨Nat.zero_le _, Nat.zero_le _⟩, Nat.le_of_ble_eq_true rfl⟩ rfl rfl rfl dX9_leastProduct_124 ?_
      refine Y_iconst C (pc := 127) (v := (0 : Int32)) (by decide) dX9_leastProduct_127 ?_
      refine Y_istore C (pc := 128) (lv' := [(5, .int (0 : Int32)), (0, .ref (ρ k0)), (3, .int e12.1), (4, .int e24.1)]) (by decide) rfl dX9_leastProduct_128 ?_
      refine Y_iconst C (pc := 130) (v := (0 : Int32)) (by decide) dX9_leastProduct_130 ?_
      refine Y_istore C (pc := 131) (lv' := [(6, .int (0 : Int32)), (5, .int (0 : Int32)), (0, .ref (ρ k0)), (3, .int e12.1), (4, .int e24.1)]) (by decide) rfl dX9_leastProduct_131 ?_
      obtain ⟨e31, he31, h⟩ := Option.bind_eq_some_iff.mp h
      refine Y_sub [2, 3, 1, 0] (lv' := [(0, .ref (ρ k0)), (3, .int e12.1), (5, .int (0 : Int32)), (6, .int (0 : Int32))]) rfl ?_
      refine lo_rule (f := (f_X9_leastProduct_L133 e12 v26 k0)) (YS := fun s27 => Y p l e (Rm 2 44) s m args below meth c 7 D cA ρ (Aw ρ) 0 0 (MQ below (QC D cA ρ (Aw ρ) (some (.int r.1)) r.2 τ) args s 0 0 (Aw ρ)) v26 τ 133 [(0, .ref (ρ k0)), (3, .int e12.1), (5, .int s27.1), (6, .int s27.2)] []) (YE := fun e31 => Y p l e (Rm 2 44) s m args below meth c 7 D cA ρ (Aw ρ) 0 0 (MQ below (QC D cA ρ (Aw ρ) (some (.int r.1)) r.2 τ) args s 0 0 (Aw ρ)) v26 τ 169 [(5, .int e31)] []) ?_ he31 ?_
      · intro s27 x h hLp hE
        unfold f_X9_leastProduct_L133 at h
        refine Y_iload C (pc := 133) 3 rfl dX9_leastProduct_133 ?_
        refine Y_iload_n C (pc := 135) 3 1 rfl rfl dX9_leastProduct_135 ?_
        refine Y_icmp_ge C (pc := 136) (tgt := 169) dX9_leastProduct_136 (by decide) (fun c30 => ?_) (fun c30 => ?_)
        · rw [if_pos c30] at h
          have h := Option.some.inj h
          exact Y_sub [2] rfl (hE _ h.symm)
        · rw [if_neg c30] at h
          refine Y_iload C (pc := 139) 2 rfl dX9_leastProduct_139 ?_
          refine Y_aload_n C (pc := 141) 0 0 rfl rfl dX9_leastProduct_141 ?_
          refine Y_getR C (pc := 142) hk0 q_fi_RX9_28 (by decide) dX9_leastProduct_142 ?_
          refine Y_iload C (pc := 145) 3 rfl dX9_leastProduct_145 ?_
          obtain ⟨v28, hv28, h⟩ := Option.bind_eq_some_iff.mp h
          refine Y_iald C (pc := 147) (q_kr_9_9 hk0) hv28 dX9_leastProduct_147 ?_
          refine Y_aload_n C (pc := 148) 0 0 rfl rfl dX9_leastProduct_148 ?_
          refine Y_getR C (pc := 149) hk0 q_fi_RX9_31 (by decide) dX9_leastProduct_149 ?_
          refine Y_iload_n C (pc := 152) 3 1 rfl rfl dX9_leastProduct_152 ?_
          refine Y_iconst C (pc := 153) (v := (1 : Int32)) (by decide) dX9_leastProduct_153 ?_
          refine Y_isub C (pc := 154) dX9_leastProduct_154 ?_
          refine Y_iload C (pc := 155) 3 rfl dX9_leastProduct_155 ?_
          refine Y_isub C (pc := 157) dX9_leastProduct_157 ?_
          obtain ⟨v29, hv29, h⟩ := Option.bind_eq_some_iff.mp h
          refine Y_iald C (pc := 158) (q_kr_9_10 hk0) hv29 dX9_leastProduct_158 ?_
          refine Y_imul C (pc := 159) dX9_leastProduct_159 ?_
          refine Y_iadd C (pc := 160) dX9_leastProduct_160 ?_
          refine Y_istore C (pc := 161) (lv' := [(5, .int (s27.1 + (v28 * v29))), (0, .ref (ρ k0)), (3, .int e12.1), (6, .int s27.2)]) (by decide) rfl dX9_leastProduct_161 ?_
          refine Y_iinc C (pc := 163) (v := (s27.2 + 1)) (lv' := [(6, .int (s27.2 + 1)), (5, .int (s27.1 + (v28 * v29))), (0, .ref (ρ k0)), (3, .int e12.1)]) 3 rfl (congrArg (fun z => s27.2 + z) (by decide : Int32.ofInt (1) = (1))) (by decide) rfl dX9_leastProduct_163 ?_
          refine Y_goto C (pc := 166) (tgt := 133) dX9_leastProduct_166 (by decide) ?_
          have h := Option.some.inj h
          exact Y_sub [2, 3, 1, 0] rfl (hLp _ h.symm)
      · refine Y_iload C (pc := 169) 0 rfl dX9_leastProduct_169 ?_
        cases h
        exact Y_iret C dX9_leastProduct_171

set_option maxRecDepth 100000 in
set_option maxHeartbeats 4000000 in
theorem c_X9_entryOf {l : Launch} {D : va_G} {cA ρ : Nat → Nat} {σ : Sg} {τ : Tg} {k0 : Nat} {i1 : Int32} {i2 : Int32} (hI : Inj ρ) (hk0 : kd k0 = (0, 9)) {r : Int32 × Sg} (h : f_X9_entryOf σ k0 i1 i2 = some r) : Ct l yX9_entryOf cX9_entryOf 5 (some .int) 3 70 D cA ρ (Aw ρ) [.ref (ρ k0), .int i1, .int i2] σ τ (some (.int r.1)) r.2 τ := by
  refine Ct_of (by decide +kernel) (Nat.le_of_ble_eq_true rfl) (fun p e s m args below meth c C => ?_)
  have C : Ctx p l s m args meth c cX9_entryOf RX9 5 (some .int) D cA ρ (Aw ρ) := C
  have hW : Wr ρ (Aw ρ) := ⟨hI, fun k hk => ⟨k, hk, rfl⟩⟩
  unfold f_X9_entryOf at h
  refine Y_sub [0, 1, 2] (lv' := [(0, .ref (ρ k0)), (1, .int i1), (2, .int i2)]) rfl ?_
  refine Y_aload_n C (pc := 0) 0 0 rfl rfl dX9_entryOf_0 ?_
  refine Y_iload_n C (pc := 1) 1 1 rfl rfl dX9_entryOf_1 ?_
  refine Y_iload_n C (pc := 2) 2 2 rfl rfl dX9_entryOf_2 ?_
  obtain ⟨v1, hv1, h⟩ := Option.bind_eq_some_iff.mp h
  refine Y_callV C [.int i1, .int i2] [] [.int v1] hk0 rfl rfl (c_X9_price hk0 hv1) (fun _ h => h.elim) q_cw_yX9_price q_ml_RX9_119 ⟨q_im_yX9_price, q_se_yX9_price⟩ ⟨⟨Nat.le_of_ble_eq_true rfl, Nat.le_of_ble_eq_true rfl⟩, ⟨Nat.zero_le _, Nat.zero_le _⟩, Nat.le_of_ble_eq_true rfl⟩ rfl rfl rfl dX9_entryOf_3 ?_
  refine Y_aload_n C (pc := 6) 0 0 rfl rfl dX9_entryOf_6 ?_
  refine Y_iload_n C (pc := 7) 1 1 rfl rfl dX9_entryOf_7 ?_
  refine Y_iload_n C (pc := 8) 1 1 rfl rfl dX9_entryOf_8 ?_
  obtain ⟨v2, hv2, h⟩ := Option.bind_eq_some_iff.mp h
  refine Y_callV C [.int i1, .int i1] [.int v1] [.int v2, .int v1] hk0 rfl rfl (c_X9_flow hk0 hv2) (fun _ h => h.elim) q_cw_yX9_flow q_ml_RX9_123 ⟨q_im_yX9_flow, q_se_yX9_flow⟩ ⟨⟨Nat.le_of_ble_eq_true rfl, Nat.le_of_ble_eq_true rfl⟩, ⟨Nat.zero_le _, Nat.zero_le _⟩, Nat.le_of_ble_eq_true rfl⟩ rfl rfl rfl dX9_entryOf_9 ?_
  refine Y_aload_n C (pc := 12) 0 0 rfl rfl dX9_entryOf_12 ?_
  refine Y_iload_n C (pc := 13) 2 2 rfl rfl dX9_entryOf_13 ?_
  refine Y_iload_n C (pc := 14) 2 2 rfl rfl dX9_entryOf_14 ?_
  obtain ⟨v3, hv3, h⟩ := Option.bind_eq_some_iff.mp h
  refine Y_callV C [.int i2, .int i2] [.int v2, .int v1] [.int v3, .int v2, .int v1] hk0 rfl rfl (c_X9_far hk0 hv3) (fun _ h => h.elim) q_cw_yX9_far q_ml_RX9_126 ⟨q_im_yX9_far, q_se_yX9_far⟩ ⟨⟨Nat.le_of_ble_eq_true rfl, Nat.le_of_ble_eq_true rfl⟩, ⟨Nat.zero_le _, Nat.zero_le _⟩, Nat.le_of_ble_eq_true rfl⟩ rfl rfl rfl dX9_entryOf_15 ?_
  refine Y_imul C (pc := 18) dX9_entryOf_18 ?_
  refine Y_iadd C (pc := 19) dX9_entryOf_19 ?_
  refine Y_istore_n C (pc := 20) (lv' := [(3, .int (v1 + (v2 * v3))), (0, .ref (ρ k0)), (1, .int i1), (2, .int i2)]) 3 rfl (by decide) rfl dX9_entryOf_20 ?_
  refine Y_iconst C (pc := 21) (v := (0 : Int32)) (by decide) dX9_entryOf_21 ?_
  refine Y_istore C (pc := 22) (lv' := [(4, .int (0 : Int32)), (3, .int (v1 + (v2 * v3))), (0, .ref (ρ k0)), (1, .int i1), (2, .int i2)]) (by decide) rfl dX9_entryOf_22 ?_
  obtain ⟨e18, he18, h⟩ := Option.bind_eq_some_iff.mp h
  refine Y_sub [2, 3, 4, 1, 0] (lv' := [(0, .ref (ρ k0)), (1, .int i1), (2, .int i2), (3, .int (v1 + (v2 * v3))), (4, .int (0 : Int32))]) rfl ?_
  refine lo_rule (f := (f_X9_entryOf_L24 σ k0 i1 i2)) (YS := fun s4 => Y p l e (Rm 3 70) s m args below meth c 5 D cA ρ (Aw ρ) 0 0 (MQ below (QC D cA ρ (Aw ρ) (some (.int r.1)) r.2 τ) args s 0 0 (Aw ρ)) σ τ 24 [(0, .ref (ρ k0)), (1, .int i1), (2, .int i2), (3, .int s4.1), (4, .int s4.2)] []) (YE := fun e18 => Y p l e (Rm 3 70) s m args below meth c 5 D cA ρ (Aw ρ) 0 0 (MQ below (QC D cA ρ (Aw ρ) (some (.int r.1)) r.2 τ) args s 0 0 (Aw ρ)) σ τ 100 [(0, .ref (ρ k0)), (1, .int i1), (2, .int i2), (3, .int e18)] []) ?_ he18 ?_
  · intro s4 x h hLp hE
    unfold f_X9_entryOf_L24 at h
    have hJ92 : ∀ (j13 : Int32) (j14 : Int32) (j15 : Int32), f_X9_entryOf_J92 j13 j14 j15 = some x → Y p l e (Rm 3 70) s m args below meth c 5 D cA ρ (Aw ρ) 0 0 (MQ below (QC D cA ρ (Aw ρ) (some (.int r.1)) r.2 τ) args s 0 0 (Aw ρ)) σ τ 92 [(0, .ref (ρ k0)), (1, .int i1), (2, .int i2), (4, .int j13)] [.int j14, .int j15] := by
      intro j13 j14 j15 h
      unfold f_X9_entryOf_J92 at h
      refine Y_iadd C (pc := 92) dX9_entryOf_92 ?_
      refine Y_istore_n C (pc := 93) (lv' := [(3, .int (j15 + j14)), (0, .ref (ρ k0)), (1, .int i1), (2, .int i2), (4, .int j13)]) 3 rfl (by decide) rfl dX9_entryOf_93 ?_
      refine Y_iinc C (pc := 94) (v := (j13 + 1)) (lv' := [(4, .int (j13 + 1)), (3, .int (j15 + j14)), (0, .ref (ρ k0)), (1, .int i1), (2, .int i2)]) 4 rfl (congrArg (fun z => j13 + z) (by decide : Int32.ofInt (1) = (1))) (by decide) rfl dX9_entryOf_94 ?_
      refine Y_goto C (pc := 97) (tgt := 24) dX9_entryOf_97 (by decide) ?_
      have h := Option.some.inj h
      exact Y_sub [2, 3, 4, 1, 0] rfl (hLp _ h.symm)
    refine Y_iload C (pc := 24) 4 rfl dX9_entryOf_24 ?_
    refine Y_aload_n C (pc := 26) 0 0 rfl rfl dX9_entryOf_26 ?_
    refine Y_getR C (pc := 27) hk0 q_fi_RX9_7 (by decide) dX9_entryOf_27 ?_
    refine Y_iconst C (pc := 30) (v := (0 : Int32)) (by decide) dX9_entryOf_30 ?_
    obtain ⟨v5, hv5, h⟩ := Option.bind_eq_some_iff.mp h
    refine Y_iald C (pc := 31) (q_kr_9_0 hk0) hv5 dX9_entryOf_31 ?_
    refine Y_icmp_ge C (pc := 32) (tgt := 100) dX9_entryOf_32 (by decide) (fun c17 => ?_) (fun c17 => ?_)
    · rw [if_pos c17] at h
      have h := Option.some.inj h
      exact Y_sub [0, 1, 2, 3] rfl (hE _ h.symm)
    · rw [if_neg c17] at h
      refine Y_iload_n C (pc := 35) 3 3 rfl rfl dX9_entryOf_35 ?_
      refine Y_aload_n C (pc := 36) 0 0 rfl rfl dX9_entryOf_36 ?_
      refine Y_getR C (pc := 37) hk0 q_fi_RX9_25 (by decide) dX9_entryOf_37 ?_
      refine Y_iload C (pc := 40) 4 rfl dX9_entryOf_40 ?_
      obtain ⟨v6, hv6, h⟩ := Option.bind_eq_some_iff.mp h
      refine Y_iald C (pc := 42) (q_kr_9_8 hk0) hv6 dX9_entryOf_42 ?_
      refine Y_iconst C (pc := 43) (v := (-1 : Int32)) (by decide) dX9_entryOf_43 ?_
      refine Y_icmp_ne C (pc := 44) (tgt := 51) dX9_entryOf_44 (by decide) (fun c16 => ?_) (fun c16 => ?_)
      · rw [if_neg c16] at h
        refine Y_aload_n C (pc := 51) 0 0 rfl rfl dX9_entryOf_51 ?_
        refine Y_iload_n C (pc := 52) 1 1 rfl rfl dX9_entryOf_52 ?_
        refine Y_iload C (pc := 53) 4 rfl dX9_entryOf_53 ?_
        obtain ⟨v7, hv7, h⟩ := Option.bind_eq_some_iff.mp h
        refine Y_callV C [.int i1, .int s4.2] [.int s4.1] [.int v7, .int s4.1] hk0 rfl rfl (c_X9_flow hk0 hv7) (fun _ h => h.elim) q_cw_yX9_flow q_ml_RX9_123 ⟨q_im_yX9_flow, q_se_yX9_flow⟩ ⟨⟨Nat.le_of_ble_eq_true rfl, Nat.le_of_ble_eq_true rfl⟩, ⟨Nat.zero_le _, Nat.zero_le _⟩, Nat.le_of_ble_eq_true rfl⟩ rfl rfl rfl dX9_entryOf_55 ?_
        refine Y_aload_n C (pc := 58) 0 0 rfl rfl dX9_entryOf_58 ?_
        refine Y_iload_n C (pc := 59) 2 2 rfl rfl dX9_entryOf_59 ?_
        refine Y_aload_n C (pc := 60) 0 0 rfl rfl dX9_entryOf_60 ?_
        refine Y_getR C (pc := 61) hk0 q_fi_RX9_25 (by decide) dX9_entryOf_61 ?_
        refine Y_iload C (pc := 64) 4 rfl dX9_entryOf_64 ?_
        obtain ⟨v8, hv8, h⟩ := Option.bind_eq_some_iff.mp h
        refine Y_iald C (pc := 66) (q_kr_9_8 hk0) hv8 dX9_entryOf_66 ?_
        obtain ⟨v9, hv9, h⟩ := Option.bind_eq_some_iff.mp h
        refine Y_callV C [.int i2, .int v8] [.int v7, .int s4.1] [.int v9, .int v7, .int s4.1] hk0 rfl rfl (c_X9_far hk0 hv9) (fun _ h => h.elim) q_cw_yX9_far q_ml_RX9_126 ⟨q_im_yX9_far, q_se_yX9_far⟩ ⟨⟨Nat.le_of_ble_eq_true rfl, Nat.le_of_ble_eq_true rfl⟩, ⟨Nat.zero_le _, Nat.zero_le _⟩, Nat.le_of_ble_eq_true rfl⟩ rfl rfl rfl dX9_entryOf_67 ?_
        refine Y_imul C (pc := 70) dX9_entryOf_70 ?_
        refine Y_aload_n C (pc := 71) 0 0 rfl rfl dX9_entryOf_71 ?_
        refine Y_iload C (pc := 72) 4 rfl dX9_entryOf_72 ?_
        refine Y_iload_n C (pc := 74) 1 1 rfl rfl dX9_entryOf_74 ?_
        obtain ⟨v10, hv10, h⟩ := Option.bind_eq_some_iff.mp h
        refine Y_callV C [.int s4.2, .int i1] [.int (v7 * v9), .int s4.1] [.int v10, .int (v7 * v9), .int s4.1] hk0 rfl rfl (c_X9_flow hk0 hv10) (fun _ h => h.elim) q_cw_yX9_flow q_ml_RX9_123 ⟨q_im_yX9_flow, q_se_yX9_flow⟩ ⟨⟨Nat.le_of_ble_eq_true rfl, Nat.le_of_ble_eq_true rfl⟩, ⟨Nat.zero_le _, Nat.zero_le _⟩, Nat.le_of_ble_eq_true rfl⟩ rfl rfl rfl dX9_entryOf_75 ?_
        refine Y_aload_n C (pc := 78) 0 0 rfl rfl dX9_entryOf_78 ?_
        refine Y_aload_n C (pc := 79) 0 0 rfl rfl dX9_entryOf_79 ?_
        refine Y_getR C (pc := 80) hk0 q_fi_RX9_25 (by decide) dX9_entryOf_80 ?_
        refine Y_iload C (pc := 83) 4 rfl dX9_entryOf_83 ?_
        obtain ⟨v11, hv11, h⟩ := Option.bind_eq_some_iff.mp h
        refine Y_iald C (pc := 85) (q_kr_9_8 hk0) hv11 dX9_entryOf_85 ?_
        refine Y_iload_n C (pc := 86) 2 2 rfl rfl dX9_entryOf_86 ?_
        obtain ⟨v12, hv12, h⟩ := Option.bind_eq_some_iff.mp h
        refine Y_callV C [.int v11, .int i2] [.int v10, .int (v7 * v9), .int s4.1] [.int v12, .int v10, .int (v7 * v9), .int s4.1] hk0 rfl rfl (c_X9_far hk0 hv12) (fun _ h => h.elim) q_cw_yX9_far q_ml_RX9_126 ⟨q_im_yX9_far, q_se_yX9_far⟩ ⟨⟨Nat.le_of_ble_eq_true rfl, Nat.le_of_ble_eq_true rfl⟩, ⟨Nat.zero_le _, Nat.zero_le _⟩, Nat.le_of_ble_eq_true rfl⟩ rfl rfl rfl dX9_entryOf_87 ?_
        refine Y_imul C (pc := 90) dX9_entryOf_90 ?_
        refine Y_iadd C (pc := 91) dX9_entryOf_91 ?_
        exact Y_sub [0, 1, 2, 4] rfl (hJ92 _ _ _ h)
      · rw [if_pos c16] at h
        refine Y_iconst C (pc := 47) (v := (0 : Int32)) (by decide) dX9_entryOf_47 ?_
        refine Y_goto C (pc := 48) (tgt := 92) dX9_entryOf_48 (by decide) ?_
        exact Y_sub [0, 1, 2, 4] rfl (hJ92 _ _ _ h)
  · refine Y_iload_n C (pc := 100) 3 3 rfl rfl dX9_entryOf_100 ?_
    refine Y_aload_n C (pc := 101) 0 0 rfl rfl dX9_entryOf_101 ?_
    refine Y_iload_n C (pc := 102) 1 1 rfl rfl dX9_entryOf_102 ?_
    refine Y_iload_n C (pc := 103) 2 2 rfl rfl dX9_entryOf_103 ?_
    obtain ⟨v19, hv19, h⟩ := Option.bind_eq_some_iff.mp h
    refine Y_callV C [.int i1, .int i2] [.int e18] [.int v19.1, .int e18] hk0 rfl rfl (c_X9_leastProduct hI hk0 hv19) (fun _ h => h) q_cw_yX9_leastProduct q_ml_RX9_197 ⟨q_im_yX9_leastProduct, q_se_yX9_leastProduct⟩ ⟨⟨Nat.le_of_ble_eq_true rfl, Nat.le_of_ble_eq_true rfl⟩, ⟨Nat.zero_le _, Nat.zero_le _⟩, Nat.le_of_ble_eq_true rfl⟩ rfl rfl rfl dX9_entryOf_104 ?_
    refine Y_iadd C (pc := 107) dX9_entryOf_107 ?_
    cases h
    exact Y_iret C dX9_entryOf_108

set_option maxRecDepth 100000 in
set_option maxHeartbeats 4000000 in
theorem c_X9_entry {l : Launch} {D : va_G} {cA ρ : Nat → Nat} {σ : Sg} {τ : Tg} {k0 : Nat} {i1 : Int32} {i2 : Int32} (hI : Inj ρ) (hk0 : kd k0 = (0, 9)) {r : Int32 × Sg} (h : f_X9_entry σ k0 i1 i2 = some r) : Ct l yX9_entry cX9_entry 3 (some .int) 4 94 D cA ρ (Aw ρ) [.ref (ρ k0), .int i1, .int i2] σ τ (some (.int r.1)) r.2 τ := by
  refine Ct_of (by decide +kernel) (Nat.le_of_ble_eq_true rfl) (fun p e s m args below meth c C => ?_)
  have C : Ctx p l s m args meth c cX9_entry RX9 3 (some .int) D cA ρ (Aw ρ) := C
  have hW : Wr ρ (Aw ρ) := ⟨hI, fun k hk => ⟨k, hk, rfl⟩⟩
  unfold f_X9_entry at h
  refine Y_sub [0, 1, 2] (lv' := [(0, .ref (ρ k0)), (1, .int i1), (2, .int i2)]) rfl ?_
  have hJ16 : ∀ (sj2 : Sg), f_X9_entry_J16 k0 sj2 = some r → Y p l e (Rm 4 94) s m args below meth c 3 D cA ρ (Aw ρ) 0 0 (MQ below (QC D cA ρ (Aw ρ) (some (.int r.1)) r.2 τ) args s 0 0 (Aw ρ)) sj2 τ 16 [(0, .ref (ρ k0))] [] := by
    intro sj2 h
    unfold f_X9_entry_J16 at h
    refine Y_aload_n C (pc := 16) 0 0 rfl rfl dX9_entry_16 ?_
    refine Y_iconst C (pc := 17) (v := (1 : Int32)) (by decide) dX9_entry_17 ?_
    obtain ⟨v3, hv3, h⟩ := Option.bind_eq_some_iff.mp h
    refine Y_callV C [.int (1 : Int32)] [] [.int v3.1] hk0 rfl rfl (c_X9_fails hI hk0 hv3) (fun _ h => h) q_cw_yX9_fails q_ml_RX9_94 ⟨q_im_yX9_fails, q_se_yX9_fails⟩ ⟨⟨Nat.le_of_ble_eq_true rfl, Nat.le_of_ble_eq_true rfl⟩, ⟨Nat.zero_le _, Nat.zero_le _⟩, Nat.le_of_ble_eq_true rfl⟩ rfl rfl rfl dX9_entry_18 ?_
    cases h
    exact Y_iret C dX9_entry_21
  refine Y_aload_n C (pc := 0) 0 0 rfl rfl dX9_entry_0 ?_
  refine Y_iload_n C (pc := 1) 1 1 rfl rfl dX9_entry_1 ?_
  obtain ⟨v1, hv1, h⟩ := Option.bind_eq_some_iff.mp h
  refine Y_callV C [.int i1] [] [.int v1] hk0 rfl rfl (c_X9_isOne hk0 hv1) (fun _ h => h.elim) q_cw_yX9_isOne q_ml_RX9_103 ⟨q_im_yX9_isOne, q_se_yX9_isOne⟩ ⟨⟨Nat.le_of_ble_eq_true rfl, Nat.le_of_ble_eq_true rfl⟩, ⟨Nat.zero_le _, Nat.zero_le _⟩, Nat.le_of_ble_eq_true rfl⟩ rfl rfl rfl dX9_entry_2 ?_
  refine Y_if_eq C (pc := 5) (tgt := 16) dX9_entry_5 (by decide) (fun c11 => ?_) (fun c11 => ?_)
  · rw [if_pos c11] at h
    exact Y_sub [0] rfl (hJ16 _ h)
  · rw [if_neg c11] at h
    refine Y_aload_n C (pc := 8) 0 0 rfl rfl dX9_entry_8 ?_
    refine Y_iload_n C (pc := 9) 2 2 rfl rfl dX9_entry_9 ?_
    obtain ⟨v4, hv4, h⟩ := Option.bind_eq_some_iff.mp h
    refine Y_callV C [.int i2] [] [.int v4] hk0 rfl rfl (c_X9_isOne hk0 hv4) (fun _ h => h.elim) q_cw_yX9_isOne q_ml_RX9_103 ⟨q_im_yX9_isOne, q_se_yX9_isOne⟩ ⟨⟨Nat.le_of_ble_eq_true rfl, Nat.le_of_ble_eq_true rfl⟩, ⟨Nat.zero_le _, Nat.zero_le _⟩, Nat.le_of_ble_eq_true rfl⟩ rfl rfl rfl dX9_entry_10 ?_
    refine Y_if_ne C (pc := 13) (tgt := 22) dX9_entry_13 (by decide) (fun c10 => ?_) (fun c10 => ?_)
    · rw [if_neg c10] at h
      refine Y_aload_n C (pc := 22) 0 0 rfl rfl dX9_entry_22 ?_
      refine Y_iload_n C (pc := 23) 1 1 rfl rfl dX9_entry_23 ?_
      refine Y_iload_n C (pc := 24) 2 2 rfl rfl dX9_entry_24 ?_
      obtain ⟨v5, hv5, h⟩ := Option.bind_eq_some_iff.mp h
      refine Y_callV C [.int i1, .int i2] [] [.int v5.1] hk0 rfl rfl (c_X9_areFree hI hk0 hv5) (fun _ h => h) q_cw_yX9_areFree q_ml_RX9_183 ⟨q_im_yX9_areFree, q_se_yX9_areFree⟩ ⟨⟨Nat.le_of_ble_eq_true rfl, Nat.le_of_ble_eq_true rfl⟩, ⟨Nat.zero_le _, Nat.zero_le _⟩, Nat.le_of_ble_eq_true rfl⟩ rfl rfl rfl dX9_entry_25 ?_
      refine Y_if_eq C (pc := 28) (tgt := 44) dX9_entry_28 (by decide) (fun c9 => ?_) (fun c9 => ?_)
      · rw [if_pos c9] at h
        refine Y_aload_n C (pc := 44) 0 0 rfl rfl dX9_entry_44 ?_
        refine Y_iconst C (pc := 45) (v := (2 : Int32)) (by decide) dX9_entry_45 ?_
        obtain ⟨v6, hv6, h⟩ := Option.bind_eq_some_iff.mp h
        refine Y_callV C [.int (2 : Int32)] [] [.int v6.1] hk0 rfl rfl (c_X9_fails hI hk0 hv6) (fun _ h => h) q_cw_yX9_fails q_ml_RX9_94 ⟨q_im_yX9_fails, q_se_yX9_fails⟩ ⟨⟨Nat.le_of_ble_eq_true rfl, Nat.le_of_ble_eq_true rfl⟩, ⟨Nat.zero_le _, Nat.zero_le _⟩, Nat.le_of_ble_eq_true rfl⟩ rfl rfl rfl dX9_entry_46 ?_
        cases h
        exact Y_iret C dX9_entry_49
      · rw [if_neg c9] at h
        refine Y_aload_n C (pc := 31) 0 0 rfl rfl dX9_entry_31 ?_
        refine Y_aload_n C (pc := 32) 0 0 rfl rfl dX9_entry_32 ?_
        refine Y_iload_n C (pc := 33) 1 1 rfl rfl dX9_entry_33 ?_
        refine Y_iload_n C (pc := 34) 2 2 rfl rfl dX9_entry_34 ?_
        obtain ⟨v7, hv7, h⟩ := Option.bind_eq_some_iff.mp h
        refine Y_callV C [.int i1, .int i2] [.ref (ρ k0)] [.int v7.1, .ref (ρ k0)] hk0 rfl rfl (c_X9_entryOf hI hk0 hv7) (fun _ h => h) q_cw_yX9_entryOf q_ml_RX9_200 ⟨q_im_yX9_entryOf, q_se_yX9_entryOf⟩ ⟨⟨Nat.le_of_ble_eq_true rfl, Nat.le_of_ble_eq_true rfl⟩, ⟨Nat.zero_le _, Nat.zero_le _⟩, Nat.le_of_ble_eq_true rfl⟩ rfl rfl rfl dX9_entry_35 ?_
        obtain ⟨v8, hv8, h⟩ := Option.bind_eq_some_iff.mp h
        refine Y_callV C [.int v7.1] [] [.int v8.1] hk0 rfl rfl (c_X9_tells hI hk0 hv8) (fun _ h => h) q_cw_yX9_tells q_ml_RX9_82 ⟨q_im_yX9_tells, q_se_yX9_tells⟩ ⟨⟨Nat.le_of_ble_eq_true rfl, Nat.le_of_ble_eq_true rfl⟩, ⟨Nat.zero_le _, Nat.zero_le _⟩, Nat.le_of_ble_eq_true rfl⟩ rfl rfl rfl dX9_entry_38 ?_
        refine Y_goto C (pc := 41) (tgt := 49) dX9_entry_41 (by decide) ?_
        cases h
        exact Y_iret C dX9_entry_49
    · rw [if_pos c10] at h
      exact Y_sub [0] rfl (hJ16 _ h)

set_option maxRecDepth 100000 in
set_option maxHeartbeats 4000000 in
theorem c_X9_addsFacility {l : Launch} {D : va_G} {cA ρ : Nat → Nat} {σ : Sg} {τ : Tg} {k0 : Nat} {i1 : Int32} (hI : Inj ρ) (hk0 : kd k0 = (0, 9)) {r : Sg} (h : f_X9_addsFacility σ k0 i1 = some r) : Ct l yX9_addsFacility cX9_addsFacility 6 none 4 94 D cA ρ (Aw ρ) [.ref (ρ k0), .int i1] σ τ none r τ := by
  refine Ct_of (by decide +kernel) (Nat.le_of_ble_eq_true rfl) (fun p e s m args below meth c C => ?_)
  have C : Ctx p l s m args meth c cX9_addsFacility RX9 6 none D cA ρ (Aw ρ) := C
  have hW : Wr ρ (Aw ρ) := ⟨hI, fun k hk => ⟨k, hk, rfl⟩⟩
  unfold f_X9_addsFacility at h
  refine Y_sub [0, 1] (lv' := [(0, .ref (ρ k0)), (1, .int i1)]) rfl ?_
  refine Y_iconst C (pc := 0) (v := (0 : Int32)) (by decide) dX9_addsFacility_0 ?_
  refine Y_istore_n C (pc := 1) (lv' := [(2, .int (0 : Int32)), (0, .ref (ρ k0)), (1, .int i1)]) 2 rfl (by decide) rfl dX9_addsFacility_1 ?_
  obtain ⟨e12, he12, h⟩ := Option.bind_eq_some_iff.mp h
  refine Y_sub [1, 2, 0] (lv' := [(0, .ref (ρ k0)), (1, .int i1), (2, .int (0 : Int32))]) rfl ?_
  refine lo_rule (f := (f_X9_addsFacility_L2 k0 i1)) (YS := fun s1 => Y p l e (Rm 4 94) s m args below meth c 6 D cA ρ (Aw ρ) 0 0 (MQ below (QC D cA ρ (Aw ρ) none r τ) args s 0 0 (Aw ρ)) s1.2 τ 2 [(0, .ref (ρ k0)), (1, .int i1), (2, .int s1.1)] []) (YE := fun e12 => Y p l e (Rm 4 94) s m args below meth c 6 D cA ρ (Aw ρ) 0 0 (MQ below (QC D cA ρ (Aw ρ) none r τ) args s 0 0 (Aw ρ)) e12 τ 43 [(0, .ref (ρ k0))] []) ?_ he12 ?_
  · intro s1 x h hLp hE
    unfold f_X9_addsFacility_L2 at h
    have hJ36 : ∀ (j5 : Int32) (j6 : Int32) (j7 : Int32) (sj8 : Sg), f_X9_addsFacility_J36 k0 j5 j6 j7 sj8 = some x → Y p l e (Rm 4 94) s m args below meth c 6 D cA ρ (Aw ρ) 0 0 (MQ below (QC D cA ρ (Aw ρ) none r τ) args s 0 0 (Aw ρ)) sj8 τ 36 [(0, .ref (ρ k0)), (1, .int i1), (2, .int j5)] [.int j6, .int j7, .ref (ρ (k0 + 10))] := by
      intro j5 j6 j7 sj8 h
      unfold f_X9_addsFacility_J36 at h
      obtain ⟨s9, hs9, h⟩ := Option.bind_eq_some_iff.mp h
      refine Y_iast C (pc := 36) hW (q_kr_9_12 hk0) (q_lr_9_12 hk0) hs9 dX9_addsFacility_36 ?_
      refine Y_iinc C (pc := 37) (v := (j5 + 1)) (lv' := [(2, .int (j5 + 1)), (0, .ref (ρ k0)), (1, .int i1)]) 2 rfl (congrArg (fun z => j5 + z) (by decide : Int32.ofInt (1) = (1))) (by decide) rfl dX9_addsFacility_37 ?_
      refine Y_goto C (pc := 40) (tgt := 2) dX9_addsFacility_40 (by decide) ?_
      have h := Option.some.inj h
      exact Y_sub [1, 2, 0] rfl (hLp _ h.symm)
    refine Y_iload_n C (pc := 2) 2 2 rfl rfl dX9_addsFacility_2 ?_
    refine Y_aload_n C (pc := 3) 0 0 rfl rfl dX9_addsFacility_3 ?_
    refine Y_getR C (pc := 4) hk0 q_fi_RX9_7 (by decide) dX9_addsFacility_4 ?_
    refine Y_iconst C (pc := 7) (v := (0 : Int32)) (by decide) dX9_addsFacility_7 ?_
    obtain ⟨v2, hv2, h⟩ := Option.bind_eq_some_iff.mp h
    refine Y_iald C (pc := 8) (q_kr_9_0 hk0) hv2 dX9_addsFacility_8 ?_
    refine Y_icmp_ge C (pc := 9) (tgt := 43) dX9_addsFacility_9 (by decide) (fun c11 => ?_) (fun c11 => ?_)
    · rw [if_pos c11] at h
      have h := Option.some.inj h
      exact Y_sub [0] rfl (hE _ h.symm)
    · rw [if_neg c11] at h
      refine Y_aload_n C (pc := 12) 0 0 rfl rfl dX9_addsFacility_12 ?_
      refine Y_getR C (pc := 13) hk0 q_fi_RX9_37 (by decide) dX9_addsFacility_13 ?_
      refine Y_iload_n C (pc := 16) 2 2 rfl rfl dX9_addsFacility_16 ?_
      refine Y_aload_n C (pc := 17) 0 0 rfl rfl dX9_addsFacility_17 ?_
      refine Y_iload_n C (pc := 18) 2 2 rfl rfl dX9_addsFacility_18 ?_
      obtain ⟨v3, hv3, h⟩ := Option.bind_eq_some_iff.mp h
      refine Y_callV C [.int s1.1] [.int s1.1, .ref (ρ (k0 + 10))] [.int v3, .int s1.1, .ref (ρ (k0 + 10))] hk0 rfl rfl (c_X9_isTaken hk0 hv3) (fun _ h => h.elim) q_cw_yX9_isTaken q_ml_RX9_180 ⟨q_im_yX9_isTaken, q_se_yX9_isTaken⟩ ⟨⟨Nat.le_of_ble_eq_true rfl, Nat.le_of_ble_eq_true rfl⟩, ⟨Nat.zero_le _, Nat.zero_le _⟩, Nat.le_of_ble_eq_true rfl⟩ rfl rfl rfl dX9_addsFacility_19 ?_
      refine Y_if_eq C (pc := 22) (tgt := 30) dX9_addsFacility_22 (by decide) (fun c10 => ?_) (fun c10 => ?_)
      · rw [if_pos c10] at h
        refine Y_aload_n C (pc := 30) 0 0 rfl rfl dX9_addsFacility_30 ?_
        refine Y_iload_n C (pc := 31) 1 1 rfl rfl dX9_addsFacility_31 ?_
        refine Y_iload_n C (pc := 32) 2 2 rfl rfl dX9_addsFacility_32 ?_
        obtain ⟨v4, hv4, h⟩ := Option.bind_eq_some_iff.mp h
        refine Y_callV C [.int i1, .int s1.1] [.int s1.1, .ref (ρ (k0 + 10))] [.int v4.1, .int s1.1, .ref (ρ (k0 + 10))] hk0 rfl rfl (c_X9_entryOf hI hk0 hv4) (fun _ h => h) q_cw_yX9_entryOf q_ml_RX9_200 ⟨q_im_yX9_entryOf, q_se_yX9_entryOf⟩ ⟨⟨Nat.le_of_ble_eq_true rfl, Nat.le_of_ble_eq_true rfl⟩, ⟨Nat.zero_le _, Nat.zero_le _⟩, Nat.le_of_ble_eq_true rfl⟩ rfl rfl rfl dX9_addsFacility_33 ?_
        exact Y_sub [0, 1, 2] rfl (hJ36 _ _ _ _ h)
      · rw [if_neg c10] at h
        refine Y_ldc C q_ct_RX9_167 dX9_addsFacility_25 ?_
        refine Y_goto C (pc := 27) (tgt := 36) dX9_addsFacility_27 (by decide) ?_
        exact Y_sub [0, 1, 2] rfl (hJ36 _ _ _ _ h)
  · refine Y_bipush C (pc := 43) (v := (63 : Int32)) (by decide) dX9_addsFacility_43 ?_
    refine Y_istore_n C (pc := 45) (lv' := [(2, .int (63 : Int32)), (0, .ref (ρ k0))]) 2 rfl (by decide) rfl dX9_addsFacility_45 ?_
    obtain ⟨e32, he32, h⟩ := Option.bind_eq_some_iff.mp h
    refine Y_sub [1, 0] (lv' := [(0, .ref (ρ k0)), (2, .int (63 : Int32))]) rfl ?_
    refine lo_rule (f := (f_X9_addsFacility_L46 k0)) (YS := fun s13 => Y p l e (Rm 4 94) s m args below meth c 6 D cA ρ (Aw ρ) 0 0 (MQ below (QC D cA ρ (Aw ρ) none r τ) args s 0 0 (Aw ρ)) s13.2 τ 46 [(0, .ref (ρ k0)), (2, .int s13.1)] []) (YE := fun e32 => Y p l e (Rm 4 94) s m args below meth c 6 D cA ρ (Aw ρ) 0 0 (MQ below (QC D cA ρ (Aw ρ) none r τ) args s 0 0 (Aw ρ)) e32 τ 162 [] []) ?_ he32 ?_
    · intro s13 x h hLp hE
      unfold f_X9_addsFacility_L46 at h
      refine Y_iload_n C (pc := 46) 2 1 rfl rfl dX9_addsFacility_46 ?_
      refine Y_if_lt C (pc := 47) (tgt := 162) dX9_addsFacility_47 (by decide) (fun c31 => ?_) (fun c31 => ?_)
      · rw [if_pos c31] at h
        have h := Option.some.inj h
        exact Y_sub [] rfl (hE _ h.symm)
      · rw [if_neg c31] at h
        refine Y_ldc C q_ct_RX9_167 dX9_addsFacility_50 ?_
        refine Y_istore_n C (pc := 52) (lv' := [(3, .int (1000000 : Int32)), (0, .ref (ρ k0)), (2, .int s13.1)]) 3 rfl (by decide) rfl dX9_addsFacility_52 ?_
        refine Y_iconst C (pc := 53) (v := (0 : Int32)) (by decide) dX9_addsFacility_53 ?_
        refine Y_istore C (pc := 54) (lv' := [(4, .int (0 : Int32)), (3, .int (1000000 : Int32)), (0, .ref (ρ k0)), (2, .int s13.1)]) (by decide) rfl dX9_addsFacility_54 ?_
        obtain ⟨e29, he29, h⟩ := Option.bind_eq_some_iff.mp h
        refine Y_sub [2, 3, 1, 0] (lv' := [(0, .ref (ρ k0)), (2, .int s13.1), (3, .int (1000000 : Int32)), (4, .int (0 : Int32))]) rfl ?_
        refine lo_rule (f := (f_X9_addsFacility_L56 s13 k0)) (YS := fun s14 => Y p l e (Rm 4 94) s m args below meth c 6 D cA ρ (Aw ρ) 0 0 (MQ below (QC D cA ρ (Aw ρ) none r τ) args s 0 0 (Aw ρ)) s13.2 τ 56 [(0, .ref (ρ k0)), (2, .int s13.1), (3, .int s14.1), (4, .int s14.2)] []) (YE := fun e29 => Y p l e (Rm 4 94) s m args below meth c 6 D cA ρ (Aw ρ) 0 0 (MQ below (QC D cA ρ (Aw ρ) none r τ) args s 0 0 (Aw ρ)) s13.2 τ 149 [(0, .ref (ρ k0)), (2, .int s13.1), (3, .int e29)] []) ?_ he29 ?_
        · intro s14 x h hLp hE
          unfold f_X9_addsFacility_L56 at h
          have hJ143 : ∀ (j16 : Int32) (j17 : Int32), f_X9_addsFacility_J143 j16 j17 = some x → Y p l e (Rm 4 94) s m args below meth c 6 D cA ρ (Aw ρ) 0 0 (MQ below (QC D cA ρ (Aw ρ) none r τ) args s 0 0 (Aw ρ)) s13.2 τ 143 [(0, .ref (ρ k0)), (2, .int s13.1), (3, .int j16), (4, .int j17)] [] := by
            intro j16 j17 h
            unfold f_X9_addsFacility_J143 at h
            refine Y_iinc C (pc := 143) (v := (j17 + 1)) (lv' := [(4, .int (j17 + 1)), (0, .ref (ρ k0)), (2, .int s13.1), (3, .int j16)]) 3 rfl (congrArg (fun z => j17 + z) (by decide : Int32.ofInt (1) = (1))) (by decide) rfl dX9_addsFacility_143 ?_
            refine Y_goto C (pc := 146) (tgt := 56) dX9_addsFacility_146 (by decide) ?_
            have h := Option.some.inj h
            exact Y_sub [1, 2, 3, 0] rfl (hLp _ h.symm)
          have hJ142 : ∀ (j22 : Int32) (j23 : Int32), f_X9_addsFacility_J142 j22 j23 = some x → Y p l e (Rm 4 94) s m args below meth c 6 D cA ρ (Aw ρ) 0 0 (MQ below (QC D cA ρ (Aw ρ) none r τ) args s 0 0 (Aw ρ)) s13.2 τ 142 [(0, .ref (ρ k0)), (2, .int s13.1), (4, .int j22)] [.int j23] := by
            intro j22 j23 h
            unfold f_X9_addsFacility_J142 at h
            refine Y_istore_n C (pc := 142) (lv' := [(3, .int j23), (0, .ref (ρ k0)), (2, .int s13.1), (4, .int j22)]) 3 rfl (by decide) rfl dX9_addsFacility_142 ?_
            exact Y_sub [1, 2, 0, 3] rfl (hJ143 _ _ h)
          refine Y_iload C (pc := 56) 3 rfl dX9_addsFacility_56 ?_
          refine Y_aload_n C (pc := 58) 0 0 rfl rfl dX9_addsFacility_58 ?_
          refine Y_getR C (pc := 59) hk0 q_fi_RX9_7 (by decide) dX9_addsFacility_59 ?_
          refine Y_iconst C (pc := 62) (v := (0 : Int32)) (by decide) dX9_addsFacility_62 ?_
          obtain ⟨v15, hv15, h⟩ := Option.bind_eq_some_iff.mp h
          refine Y_iald C (pc := 63) (q_kr_9_0 hk0) hv15 dX9_addsFacility_63 ?_
          refine Y_icmp_ge C (pc := 64) (tgt := 149) dX9_addsFacility_64 (by decide) (fun c28 => ?_) (fun c28 => ?_)
          · rw [if_pos c28] at h
            have h := Option.some.inj h
            exact Y_sub [0, 1, 2] rfl (hE _ h.symm)
          · rw [if_neg c28] at h
            refine Y_iload_n C (pc := 67) 2 1 rfl rfl dX9_addsFacility_67 ?_
            refine Y_iload C (pc := 68) 3 rfl dX9_addsFacility_68 ?_
            refine Y_ishr C (pc := 70) dX9_addsFacility_70 ?_
            refine Y_iconst C (pc := 71) (v := (1 : Int32)) (by decide) dX9_addsFacility_71 ?_
            refine Y_iand C (pc := 72) dX9_addsFacility_72 ?_
            refine Y_iconst C (pc := 73) (v := (1 : Int32)) (by decide) dX9_addsFacility_73 ?_
            refine Y_icmp_ne C (pc := 74) (tgt := 143) dX9_addsFacility_74 (by decide) (fun c27 => ?_) (fun c27 => ?_)
            · rw [if_neg c27] at h
              exact Y_sub [0, 1, 2, 3] rfl (hJ143 _ _ h)
            · rw [if_pos c27] at h
              refine Y_aload_n C (pc := 77) 0 0 rfl rfl dX9_addsFacility_77 ?_
              refine Y_getR C (pc := 78) hk0 q_fi_RX9_37 (by decide) dX9_addsFacility_78 ?_
              refine Y_iload C (pc := 81) 3 rfl dX9_addsFacility_81 ?_
              obtain ⟨v18, hv18, h⟩ := Option.bind_eq_some_iff.mp h
              refine Y_iald C (pc := 83) (q_kr_9_12 hk0) hv18 dX9_addsFacility_83 ?_
              refine Y_ldc C q_ct_RX9_167 dX9_addsFacility_84 ?_
              refine Y_icmp_ge C (pc := 86) (tgt := 143) dX9_addsFacility_86 (by decide) (fun c26 => ?_) (fun c26 => ?_)
              · rw [if_pos c26] at h
                exact Y_sub [0, 1, 2, 3] rfl (hJ143 _ _ h)
              · rw [if_neg c26] at h
                refine Y_aload_n C (pc := 89) 0 0 rfl rfl dX9_addsFacility_89 ?_
                refine Y_getR C (pc := 90) hk0 q_fi_RX9_34 (by decide) dX9_addsFacility_90 ?_
                refine Y_iload_n C (pc := 93) 2 1 rfl rfl dX9_addsFacility_93 ?_
                refine Y_iconst C (pc := 94) (v := (1 : Int32)) (by decide) dX9_addsFacility_94 ?_
                refine Y_iload C (pc := 95) 3 rfl dX9_addsFacility_95 ?_
                refine Y_ishl C (pc := 97) dX9_addsFacility_97 ?_
                refine Y_iconst C (pc := 98) (v := (-1 : Int32)) (by decide) dX9_addsFacility_98 ?_
                refine Y_ixor C (pc := 99) dX9_addsFacility_99 ?_
                refine Y_iand C (pc := 100) dX9_addsFacility_100 ?_
                obtain ⟨v19, hv19, h⟩ := Option.bind_eq_some_iff.mp h
                refine Y_iald C (pc := 101) (q_kr_9_11 hk0) hv19 dX9_addsFacility_101 ?_
                refine Y_ldc C q_ct_RX9_167 dX9_addsFacility_102 ?_
                refine Y_icmp_ge C (pc := 104) (tgt := 143) dX9_addsFacility_104 (by decide) (fun c25 => ?_) (fun c25 => ?_)
                · rw [if_pos c25] at h
                  exact Y_sub [0, 1, 2, 3] rfl (hJ143 _ _ h)
                · rw [if_neg c25] at h
                  refine Y_aload_n C (pc := 107) 0 0 rfl rfl dX9_addsFacility_107 ?_
                  refine Y_getR C (pc := 108) hk0 q_fi_RX9_34 (by decide) dX9_addsFacility_108 ?_
                  refine Y_iload_n C (pc := 111) 2 1 rfl rfl dX9_addsFacility_111 ?_
                  refine Y_iconst C (pc := 112) (v := (1 : Int32)) (by decide) dX9_addsFacility_112 ?_
                  refine Y_iload C (pc := 113) 3 rfl dX9_addsFacility_113 ?_
                  refine Y_ishl C (pc := 115) dX9_addsFacility_115 ?_
                  refine Y_iconst C (pc := 116) (v := (-1 : Int32)) (by decide) dX9_addsFacility_116 ?_
                  refine Y_ixor C (pc := 117) dX9_addsFacility_117 ?_
                  refine Y_iand C (pc := 118) dX9_addsFacility_118 ?_
                  obtain ⟨v20, hv20, h⟩ := Option.bind_eq_some_iff.mp h
                  refine Y_iald C (pc := 119) (q_kr_9_11 hk0) hv20 dX9_addsFacility_119 ?_
                  refine Y_aload_n C (pc := 120) 0 0 rfl rfl dX9_addsFacility_120 ?_
                  refine Y_getR C (pc := 121) hk0 q_fi_RX9_37 (by decide) dX9_addsFacility_121 ?_
                  refine Y_iload C (pc := 124) 3 rfl dX9_addsFacility_124 ?_
                  obtain ⟨v21, hv21, h⟩ := Option.bind_eq_some_iff.mp h
                  refine Y_iald C (pc := 126) (q_kr_9_12 hk0) hv21 dX9_addsFacility_126 ?_
                  refine Y_iadd C (pc := 127) dX9_addsFacility_127 ?_
                  refine Y_istore C (pc := 128) (lv' := [(5, .int (v20 + v21)), (0, .ref (ρ k0)), (2, .int s13.1), (3, .int s14.1), (4, .int s14.2)]) (by decide) rfl dX9_addsFacility_128 ?_
                  refine Y_iload C (pc := 130) 0 rfl dX9_addsFacility_130 ?_
                  refine Y_iload_n C (pc := 132) 3 3 rfl rfl dX9_addsFacility_132 ?_
                  refine Y_icmp_ge C (pc := 133) (tgt := 141) dX9_addsFacility_133 (by decide) (fun c24 => ?_) (fun c24 => ?_)
                  · rw [if_pos c24] at h
                    refine Y_iload_n C (pc := 141) 3 3 rfl rfl dX9_addsFacility_141 ?_
                    exact Y_sub [1, 2, 4] rfl (hJ142 _ _ h)
                  · rw [if_neg c24] at h
                    refine Y_iload C (pc := 136) 0 rfl dX9_addsFacility_136 ?_
                    refine Y_goto C (pc := 138) (tgt := 142) dX9_addsFacility_138 (by decide) ?_
                    exact Y_sub [1, 2, 4] rfl (hJ142 _ _ h)
        · refine Y_aload_n C (pc := 149) 0 0 rfl rfl dX9_addsFacility_149 ?_
          refine Y_getR C (pc := 150) hk0 q_fi_RX9_34 (by decide) dX9_addsFacility_150 ?_
          refine Y_iload_n C (pc := 153) 2 1 rfl rfl dX9_addsFacility_153 ?_
          refine Y_iload_n C (pc := 154) 3 2 rfl rfl dX9_addsFacility_154 ?_
          obtain ⟨s30, hs30, h⟩ := Option.bind_eq_some_iff.mp h
          refine Y_iast C (pc := 155) hW (q_kr_9_11 hk0) (q_lr_9_11 hk0) hs30 dX9_addsFacility_155 ?_
          refine Y_iinc C (pc := 156) (v := (s13.1 + (-1))) (lv' := [(2, .int (s13.1 + (-1))), (0, .ref (ρ k0)), (3, .int e29)]) 1 rfl (congrArg (fun z => s13.1 + z) (by decide : Int32.ofInt (-1) = (-1))) (by decide) rfl dX9_addsFacility_156 ?_
          refine Y_goto C (pc := 159) (tgt := 46) dX9_addsFacility_159 (by decide) ?_
          have h := Option.some.inj h
          exact Y_sub [1, 0] rfl (hLp _ h.symm)
    · cases h
      exact Y_vret C dX9_addsFacility_162

set_option maxRecDepth 100000 in
set_option maxHeartbeats 4000000 in
theorem c_X9_boundOf {l : Launch} {D : va_G} {cA ρ : Nat → Nat} {σ : Sg} {τ : Tg} {k0 : Nat} (hI : Inj ρ) (hk0 : kd k0 = (0, 9)) {r : Int32 × Sg} (h : f_X9_boundOf σ k0 = some r) : Ct l yX9_boundOf cX9_boundOf 3 (some .int) 5 119 D cA ρ (Aw ρ) [.ref (ρ k0)] σ τ (some (.int r.1)) r.2 τ := by
  refine Ct_of (by decide +kernel) (Nat.le_of_ble_eq_true rfl) (fun p e s m args below meth c C => ?_)
  have C : Ctx p l s m args meth c cX9_boundOf RX9 3 (some .int) D cA ρ (Aw ρ) := C
  have hW : Wr ρ (Aw ρ) := ⟨hI, fun k hk => ⟨k, hk, rfl⟩⟩
  unfold f_X9_boundOf at h
  refine Y_sub [0] (lv' := [(0, .ref (ρ k0))]) rfl ?_
  refine Y_iconst C (pc := 0) (v := (0 : Int32)) (by decide) dX9_boundOf_0 ?_
  refine Y_istore_n C (pc := 1) (lv' := [(1, .int (0 : Int32)), (0, .ref (ρ k0))]) 1 rfl (by decide) rfl dX9_boundOf_1 ?_
  obtain ⟨e9, he9, h⟩ := Option.bind_eq_some_iff.mp h
  refine Y_sub [1, 0] (lv' := [(0, .ref (ρ k0)), (1, .int (0 : Int32))]) rfl ?_
  refine lo_rule (f := (f_X9_boundOf_L2 k0)) (YS := fun s1 => Y p l e (Rm 5 119) s m args below meth c 3 D cA ρ (Aw ρ) 0 0 (MQ below (QC D cA ρ (Aw ρ) (some (.int r.1)) r.2 τ) args s 0 0 (Aw ρ)) s1.2 τ 2 [(0, .ref (ρ k0)), (1, .int s1.1)] []) (YE := fun e9 => Y p l e (Rm 5 119) s m args below meth c 3 D cA ρ (Aw ρ) 0 0 (MQ below (QC D cA ρ (Aw ρ) (some (.int r.1)) r.2 τ) args s 0 0 (Aw ρ)) e9 τ 30 [(0, .ref (ρ k0))] []) ?_ he9 ?_
  · intro s1 x h hLp hE
    unfold f_X9_boundOf_L2 at h
    have hJ23 : ∀ (j2 : Int32) (j3 : Int32) (j4 : Int32) (sj5 : Sg), f_X9_boundOf_J23 k0 j2 j3 j4 sj5 = some x → Y p l e (Rm 5 119) s m args below meth c 3 D cA ρ (Aw ρ) 0 0 (MQ below (QC D cA ρ (Aw ρ) (some (.int r.1)) r.2 τ) args s 0 0 (Aw ρ)) sj5 τ 23 [(0, .ref (ρ k0)), (1, .int j2)] [.int j3, .int j4, .ref (ρ (k0 + 9))] := by
      intro j2 j3 j4 sj5 h
      unfold f_X9_boundOf_J23 at h
      obtain ⟨s6, hs6, h⟩ := Option.bind_eq_some_iff.mp h
      refine Y_iast C (pc := 23) hW (q_kr_9_11 hk0) (q_lr_9_11 hk0) hs6 dX9_boundOf_23 ?_
      refine Y_iinc C (pc := 24) (v := (j2 + 1)) (lv' := [(1, .int (j2 + 1)), (0, .ref (ρ k0))]) 1 rfl (congrArg (fun z => j2 + z) (by decide : Int32.ofInt (1) = (1))) (by decide) rfl dX9_boundOf_24 ?_
      refine Y_goto C (pc := 27) (tgt := 2) dX9_boundOf_27 (by decide) ?_
      have h := Option.some.inj h
      exact Y_sub [1, 0] rfl (hLp _ h.symm)
    refine Y_iload_n C (pc := 2) 1 1 rfl rfl dX9_boundOf_2 ?_
    refine Y_bipush C (pc := 3) (v := (64 : Int32)) (by decide) dX9_boundOf_3 ?_
    refine Y_icmp_ge C (pc := 5) (tgt := 30) dX9_boundOf_5 (by decide) (fun c8 => ?_) (fun c8 => ?_)
    · rw [if_pos c8] at h
      have h := Option.some.inj h
      exact Y_sub [0] rfl (hE _ h.symm)
    · rw [if_neg c8] at h
      refine Y_aload_n C (pc := 8) 0 0 rfl rfl dX9_boundOf_8 ?_
      refine Y_getR C (pc := 9) hk0 q_fi_RX9_34 (by decide) dX9_boundOf_9 ?_
      refine Y_iload_n C (pc := 12) 1 1 rfl rfl dX9_boundOf_12 ?_
      refine Y_iload_n C (pc := 13) 1 1 rfl rfl dX9_boundOf_13 ?_
      refine Y_if_ne C (pc := 14) (tgt := 21) dX9_boundOf_14 (by decide) (fun c7 => ?_) (fun c7 => ?_)
      · rw [if_neg c7] at h
        refine Y_ldc C q_ct_RX9_167 dX9_boundOf_21 ?_
        exact Y_sub [0, 1] rfl (hJ23 _ _ _ _ h)
      · rw [if_pos c7] at h
        refine Y_iconst C (pc := 17) (v := (0 : Int32)) (by decide) dX9_boundOf_17 ?_
        refine Y_goto C (pc := 18) (tgt := 23) dX9_boundOf_18 (by decide) ?_
        exact Y_sub [0, 1] rfl (hJ23 _ _ _ _ h)
  · refine Y_iconst C (pc := 30) (v := (0 : Int32)) (by decide) dX9_boundOf_30 ?_
    refine Y_istore_n C (pc := 31) (lv' := [(1, .int (0 : Int32)), (0, .ref (ρ k0))]) 1 rfl (by decide) rfl dX9_boundOf_31 ?_
    obtain ⟨e18, he18, h⟩ := Option.bind_eq_some_iff.mp h
    refine Y_sub [1, 0] (lv' := [(0, .ref (ρ k0)), (1, .int (0 : Int32))]) rfl ?_
    refine lo_rule (f := (f_X9_boundOf_L32 k0)) (YS := fun s10 => Y p l e (Rm 5 119) s m args below meth c 3 D cA ρ (Aw ρ) 0 0 (MQ below (QC D cA ρ (Aw ρ) (some (.int r.1)) r.2 τ) args s 0 0 (Aw ρ)) s10.2 τ 32 [(0, .ref (ρ k0)), (1, .int s10.1)] []) (YE := fun e18 => Y p l e (Rm 5 119) s m args below meth c 3 D cA ρ (Aw ρ) 0 0 (MQ below (QC D cA ρ (Aw ρ) (some (.int r.1)) r.2 τ) args s 0 0 (Aw ρ)) e18 τ 63 [(0, .ref (ρ k0))] []) ?_ he18 ?_
    · intro s10 x h hLp hE
      unfold f_X9_boundOf_L32 at h
      have hJ57 : ∀ (j13 : Int32) (sj14 : Sg), f_X9_boundOf_J57 j13 sj14 = some x → Y p l e (Rm 5 119) s m args below meth c 3 D cA ρ (Aw ρ) 0 0 (MQ below (QC D cA ρ (Aw ρ) (some (.int r.1)) r.2 τ) args s 0 0 (Aw ρ)) sj14 τ 57 [(0, .ref (ρ k0)), (1, .int j13)] [] := by
        intro j13 sj14 h
        unfold f_X9_boundOf_J57 at h
        refine Y_iinc C (pc := 57) (v := (j13 + 1)) (lv' := [(1, .int (j13 + 1)), (0, .ref (ρ k0))]) 1 rfl (congrArg (fun z => j13 + z) (by decide : Int32.ofInt (1) = (1))) (by decide) rfl dX9_boundOf_57 ?_
        refine Y_goto C (pc := 60) (tgt := 32) dX9_boundOf_60 (by decide) ?_
        have h := Option.some.inj h
        exact Y_sub [1, 0] rfl (hLp _ h.symm)
      refine Y_iload_n C (pc := 32) 1 1 rfl rfl dX9_boundOf_32 ?_
      refine Y_aload_n C (pc := 33) 0 0 rfl rfl dX9_boundOf_33 ?_
      refine Y_getR C (pc := 34) hk0 q_fi_RX9_7 (by decide) dX9_boundOf_34 ?_
      refine Y_iconst C (pc := 37) (v := (0 : Int32)) (by decide) dX9_boundOf_37 ?_
      obtain ⟨v11, hv11, h⟩ := Option.bind_eq_some_iff.mp h
      refine Y_iald C (pc := 38) (q_kr_9_0 hk0) hv11 dX9_boundOf_38 ?_
      refine Y_icmp_ge C (pc := 39) (tgt := 63) dX9_boundOf_39 (by decide) (fun c17 => ?_) (fun c17 => ?_)
      · rw [if_pos c17] at h
        have h := Option.some.inj h
        exact Y_sub [0] rfl (hE _ h.symm)
      · rw [if_neg c17] at h
        refine Y_aload_n C (pc := 42) 0 0 rfl rfl dX9_boundOf_42 ?_
        refine Y_getR C (pc := 43) hk0 q_fi_RX9_25 (by decide) dX9_boundOf_43 ?_
        refine Y_iload_n C (pc := 46) 1 1 rfl rfl dX9_boundOf_46 ?_
        obtain ⟨v12, hv12, h⟩ := Option.bind_eq_some_iff.mp h
        refine Y_iald C (pc := 47) (q_kr_9_8 hk0) hv12 dX9_boundOf_47 ?_
        refine Y_iconst C (pc := 48) (v := (-1 : Int32)) (by decide) dX9_boundOf_48 ?_
        refine Y_icmp_ne C (pc := 49) (tgt := 57) dX9_boundOf_49 (by decide) (fun c16 => ?_) (fun c16 => ?_)
        · rw [if_neg c16] at h
          exact Y_sub [0, 1] rfl (hJ57 _ _ h)
        · rw [if_pos c16] at h
          refine Y_aload_n C (pc := 52) 0 0 rfl rfl dX9_boundOf_52 ?_
          refine Y_iload_n C (pc := 53) 1 1 rfl rfl dX9_boundOf_53 ?_
          obtain ⟨v15, hv15, h⟩ := Option.bind_eq_some_iff.mp h
          refine Y_callV C [.int s10.1] [] [] hk0 rfl rfl (c_X9_addsFacility hI hk0 hv15) (fun _ h => h) q_cw_yX9_addsFacility q_ml_RX9_203 ⟨q_im_yX9_addsFacility, q_se_yX9_addsFacility⟩ ⟨⟨Nat.le_of_ble_eq_true rfl, Nat.le_of_ble_eq_true rfl⟩, ⟨Nat.zero_le _, Nat.zero_le _⟩, Nat.le_of_ble_eq_true rfl⟩ rfl rfl rfl dX9_boundOf_54 ?_
          exact Y_sub [0, 1] rfl (hJ57 _ _ h)
    · refine Y_ldc C q_ct_RX9_167 dX9_boundOf_63 ?_
      refine Y_istore_n C (pc := 65) (lv' := [(1, .int (1000000 : Int32)), (0, .ref (ρ k0))]) 1 rfl (by decide) rfl dX9_boundOf_65 ?_
      refine Y_iconst C (pc := 66) (v := (0 : Int32)) (by decide) dX9_boundOf_66 ?_
      refine Y_istore_n C (pc := 67) (lv' := [(2, .int (0 : Int32)), (1, .int (1000000 : Int32)), (0, .ref (ρ k0))]) 2 rfl (by decide) rfl dX9_boundOf_67 ?_
      obtain ⟨e26, he26, h⟩ := Option.bind_eq_some_iff.mp h
      refine Y_sub [2, 1, 0] (lv' := [(0, .ref (ρ k0)), (1, .int (1000000 : Int32)), (2, .int (0 : Int32))]) rfl ?_
      refine lo_rule (f := (f_X9_boundOf_L68 e18 k0)) (YS := fun s19 => Y p l e (Rm 5 119) s m args below meth c 3 D cA ρ (Aw ρ) 0 0 (MQ below (QC D cA ρ (Aw ρ) (some (.int r.1)) r.2 τ) args s 0 0 (Aw ρ)) e18 τ 68 [(0, .ref (ρ k0)), (1, .int s19.1), (2, .int s19.2)] []) (YE := fun e26 => Y p l e (Rm 5 119) s m args below meth c 3 D cA ρ (Aw ρ) 0 0 (MQ below (QC D cA ρ (Aw ρ) (some (.int r.1)) r.2 τ) args s 0 0 (Aw ρ)) e18 τ 101 [(0, .ref (ρ k0)), (1, .int e26)] []) ?_ he26 ?_
      · intro s19 x h hLp hE
        unfold f_X9_boundOf_L68 at h
        have hJ94 : ∀ (j21 : Int32) (j22 : Int32), f_X9_boundOf_J94 j21 j22 = some x → Y p l e (Rm 5 119) s m args below meth c 3 D cA ρ (Aw ρ) 0 0 (MQ below (QC D cA ρ (Aw ρ) (some (.int r.1)) r.2 τ) args s 0 0 (Aw ρ)) e18 τ 94 [(0, .ref (ρ k0)), (2, .int j21)] [.int j22] := by
          intro j21 j22 h
          unfold f_X9_boundOf_J94 at h
          refine Y_istore_n C (pc := 94) (lv' := [(1, .int j22), (0, .ref (ρ k0)), (2, .int j21)]) 1 rfl (by decide) rfl dX9_boundOf_94 ?_
          refine Y_iinc C (pc := 95) (v := (j21 + 1)) (lv' := [(2, .int (j21 + 1)), (1, .int j22), (0, .ref (ρ k0))]) 2 rfl (congrArg (fun z => j21 + z) (by decide : Int32.ofInt (1) = (1))) (by decide) rfl dX9_boundOf_95 ?_
          refine Y_goto C (pc := 98) (tgt := 68) dX9_boundOf_98 (by decide) ?_
          have h := Option.some.inj h
          exact Y_sub [2, 1, 0] rfl (hLp _ h.symm)
        refine Y_iload_n C (pc := 68) 2 2 rfl rfl dX9_boundOf_68 ?_
        refine Y_bipush C (pc := 69) (v := (64 : Int32)) (by decide) dX9_boundOf_69 ?_
        refine Y_icmp_ge C (pc := 71) (tgt := 101) dX9_boundOf_71 (by decide) (fun c25 => ?_) (fun c25 => ?_)
        · rw [if_pos c25] at h
          have h := Option.some.inj h
          exact Y_sub [0, 1] rfl (hE _ h.symm)
        · rw [if_neg c25] at h
          refine Y_aload_n C (pc := 74) 0 0 rfl rfl dX9_boundOf_74 ?_
          refine Y_getR C (pc := 75) hk0 q_fi_RX9_34 (by decide) dX9_boundOf_75 ?_
          refine Y_iload_n C (pc := 78) 2 2 rfl rfl dX9_boundOf_78 ?_
          obtain ⟨v20, hv20, h⟩ := Option.bind_eq_some_iff.mp h
          refine Y_iald C (pc := 79) (q_kr_9_11 hk0) hv20 dX9_boundOf_79 ?_
          refine Y_iload_n C (pc := 80) 1 1 rfl rfl dX9_boundOf_80 ?_
          refine Y_icmp_ge C (pc := 81) (tgt := 93) dX9_boundOf_81 (by decide) (fun c24 => ?_) (fun c24 => ?_)
          · rw [if_pos c24] at h
            refine Y_iload_n C (pc := 93) 1 1 rfl rfl dX9_boundOf_93 ?_
            exact Y_sub [0, 2] rfl (hJ94 _ _ h)
          · rw [if_neg c24] at h
            refine Y_aload_n C (pc := 84) 0 0 rfl rfl dX9_boundOf_84 ?_
            refine Y_getR C (pc := 85) hk0 q_fi_RX9_34 (by decide) dX9_boundOf_85 ?_
            refine Y_iload_n C (pc := 88) 2 2 rfl rfl dX9_boundOf_88 ?_
            obtain ⟨v23, hv23, h⟩ := Option.bind_eq_some_iff.mp h
            refine Y_iald C (pc := 89) (q_kr_9_11 hk0) hv23 dX9_boundOf_89 ?_
            refine Y_goto C (pc := 90) (tgt := 94) dX9_boundOf_90 (by decide) ?_
            exact Y_sub [0, 2] rfl (hJ94 _ _ h)
      · refine Y_aload_n C (pc := 101) 0 0 rfl rfl dX9_boundOf_101 ?_
        obtain ⟨v27, hv27, h⟩ := Option.bind_eq_some_iff.mp h
        refine Y_callV C [] [] [.int v27] hk0 rfl rfl (c_X9_fixedPart hk0 hv27) (fun _ h => h.elim) q_cw_yX9_fixedPart q_ml_RX9_190 ⟨q_im_yX9_fixedPart, q_se_yX9_fixedPart⟩ ⟨⟨Nat.le_of_ble_eq_true rfl, Nat.le_of_ble_eq_true rfl⟩, ⟨Nat.zero_le _, Nat.zero_le _⟩, Nat.le_of_ble_eq_true rfl⟩ rfl rfl rfl dX9_boundOf_102 ?_
        refine Y_iload_n C (pc := 105) 1 1 rfl rfl dX9_boundOf_105 ?_
        refine Y_iadd C (pc := 106) dX9_boundOf_106 ?_
        cases h
        exact Y_iret C dX9_boundOf_107

set_option maxRecDepth 100000 in
set_option maxHeartbeats 4000000 in
theorem c_X9_bound {l : Launch} {D : va_G} {cA ρ : Nat → Nat} {σ : Sg} {τ : Tg} {k0 : Nat} (hI : Inj ρ) (hk0 : kd k0 = (0, 9)) {r : Int32 × Sg} (h : f_X9_bound σ k0 = some r) : Ct l yX9_bound cX9_bound 1 (some .int) 6 141 D cA ρ (Aw ρ) [.ref (ρ k0)] σ τ (some (.int r.1)) r.2 τ := by
  refine Ct_of (by decide +kernel) (Nat.le_of_ble_eq_true rfl) (fun p e s m args below meth c C => ?_)
  have C : Ctx p l s m args meth c cX9_bound RX9 1 (some .int) D cA ρ (Aw ρ) := C
  have hW : Wr ρ (Aw ρ) := ⟨hI, fun k hk => ⟨k, hk, rfl⟩⟩
  unfold f_X9_bound at h
  refine Y_sub [0] (lv' := [(0, .ref (ρ k0))]) rfl ?_
  refine Y_aload_n C (pc := 0) 0 0 rfl rfl dX9_bound_0 ?_
  obtain ⟨v1, hv1, h⟩ := Option.bind_eq_some_iff.mp h
  refine Y_callV C [] [] [] hk0 rfl rfl (c_X9_looks hI hk0 hv1) (fun _ h => h) q_cw_yX9_looks q_ml_RX9_177 ⟨q_im_yX9_looks, q_se_yX9_looks⟩ ⟨⟨Nat.le_of_ble_eq_true rfl, Nat.le_of_ble_eq_true rfl⟩, ⟨Nat.zero_le _, Nat.zero_le _⟩, Nat.le_of_ble_eq_true rfl⟩ rfl rfl rfl dX9_bound_1 ?_
  refine Y_aload_n C (pc := 4) 0 0 rfl rfl dX9_bound_4 ?_
  refine Y_aload_n C (pc := 5) 0 0 rfl rfl dX9_bound_5 ?_
  obtain ⟨v2, hv2, h⟩ := Option.bind_eq_some_iff.mp h
  refine Y_callV C [] [.ref (ρ k0)] [.int v2.1, .ref (ρ k0)] hk0 rfl rfl (c_X9_boundOf hI hk0 hv2) (fun _ h => h) q_cw_yX9_boundOf q_ml_RX9_206 ⟨q_im_yX9_boundOf, q_se_yX9_boundOf⟩ ⟨⟨Nat.le_of_ble_eq_true rfl, Nat.le_of_ble_eq_true rfl⟩, ⟨Nat.zero_le _, Nat.zero_le _⟩, Nat.le_of_ble_eq_true rfl⟩ rfl rfl rfl dX9_bound_6 ?_
  obtain ⟨v3, hv3, h⟩ := Option.bind_eq_some_iff.mp h
  refine Y_callV C [.int v2.1] [] [.int v3.1] hk0 rfl rfl (c_X9_tells hI hk0 hv3) (fun _ h => h) q_cw_yX9_tells q_ml_RX9_82 ⟨q_im_yX9_tells, q_se_yX9_tells⟩ ⟨⟨Nat.le_of_ble_eq_true rfl, Nat.le_of_ble_eq_true rfl⟩, ⟨Nat.zero_le _, Nat.zero_le _⟩, Nat.le_of_ble_eq_true rfl⟩ rfl rfl rfl dX9_bound_9 ?_
  cases h
  exact Y_iret C dX9_bound_12

set_option maxRecDepth 100000 in
set_option maxHeartbeats 4000000 in
theorem c_X9_boundWith {l : Launch} {D : va_G} {cA ρ : Nat → Nat} {σ : Sg} {τ : Tg} {k0 : Nat} {i1 : Int32} {i2 : Int32} (hI : Inj ρ) (hk0 : kd k0 = (0, 9)) {r : Int32 × Sg} (h : f_X9_boundWith σ k0 i1 i2 = some r) : Ct l yX9_boundWith cX9_boundWith 3 (some .int) 6 141 D cA ρ (Aw ρ) [.ref (ρ k0), .int i1, .int i2] σ τ (some (.int r.1)) r.2 τ := by
  refine Ct_of (by decide +kernel) (Nat.le_of_ble_eq_true rfl) (fun p e s m args below meth c C => ?_)
  have C : Ctx p l s m args meth c cX9_boundWith RX9 3 (some .int) D cA ρ (Aw ρ) := C
  have hW : Wr ρ (Aw ρ) := ⟨hI, fun k hk => ⟨k, hk, rfl⟩⟩
  unfold f_X9_boundWith at h
  refine Y_sub [0, 1, 2] (lv' := [(0, .ref (ρ k0)), (1, .int i1), (2, .int i2)]) rfl ?_
  have hJ16 : ∀ (sj2 : Sg), f_X9_boundWith_J16 k0 sj2 = some r → Y p l e (Rm 6 141) s m args below meth c 3 D cA ρ (Aw ρ) 0 0 (MQ below (QC D cA ρ (Aw ρ) (some (.int r.1)) r.2 τ) args s 0 0 (Aw ρ)) sj2 τ 16 [(0, .ref (ρ k0))] [] := by
    intro sj2 h
    unfold f_X9_boundWith_J16 at h
    refine Y_aload_n C (pc := 16) 0 0 rfl rfl dX9_boundWith_16 ?_
    refine Y_iconst C (pc := 17) (v := (1 : Int32)) (by decide) dX9_boundWith_17 ?_
    obtain ⟨v3, hv3, h⟩ := Option.bind_eq_some_iff.mp h
    refine Y_callV C [.int (1 : Int32)] [] [.int v3.1] hk0 rfl rfl (c_X9_fails hI hk0 hv3) (fun _ h => h) q_cw_yX9_fails q_ml_RX9_94 ⟨q_im_yX9_fails, q_se_yX9_fails⟩ ⟨⟨Nat.le_of_ble_eq_true rfl, Nat.le_of_ble_eq_true rfl⟩, ⟨Nat.zero_le _, Nat.zero_le _⟩, Nat.le_of_ble_eq_true rfl⟩ rfl rfl rfl dX9_boundWith_18 ?_
    cases h
    exact Y_iret C dX9_boundWith_21
  refine Y_aload_n C (pc := 0) 0 0 rfl rfl dX9_boundWith_0 ?_
  refine Y_iload_n C (pc := 1) 1 1 rfl rfl dX9_boundWith_1 ?_
  obtain ⟨v1, hv1, h⟩ := Option.bind_eq_some_iff.mp h
  refine Y_callV C [.int i1] [] [.int v1] hk0 rfl rfl (c_X9_isOne hk0 hv1) (fun _ h => h.elim) q_cw_yX9_isOne q_ml_RX9_103 ⟨q_im_yX9_isOne, q_se_yX9_isOne⟩ ⟨⟨Nat.le_of_ble_eq_true rfl, Nat.le_of_ble_eq_true rfl⟩, ⟨Nat.zero_le _, Nat.zero_le _⟩, Nat.le_of_ble_eq_true rfl⟩ rfl rfl rfl dX9_boundWith_2 ?_
  refine Y_if_eq C (pc := 5) (tgt := 16) dX9_boundWith_5 (by decide) (fun c12 => ?_) (fun c12 => ?_)
  · rw [if_pos c12] at h
    exact Y_sub [0] rfl (hJ16 _ h)
  · rw [if_neg c12] at h
    refine Y_aload_n C (pc := 8) 0 0 rfl rfl dX9_boundWith_8 ?_
    refine Y_iload_n C (pc := 9) 2 2 rfl rfl dX9_boundWith_9 ?_
    obtain ⟨v4, hv4, h⟩ := Option.bind_eq_some_iff.mp h
    refine Y_callV C [.int i2] [] [.int v4] hk0 rfl rfl (c_X9_isOne hk0 hv4) (fun _ h => h.elim) q_cw_yX9_isOne q_ml_RX9_103 ⟨q_im_yX9_isOne, q_se_yX9_isOne⟩ ⟨⟨Nat.le_of_ble_eq_true rfl, Nat.le_of_ble_eq_true rfl⟩, ⟨Nat.zero_le _, Nat.zero_le _⟩, Nat.le_of_ble_eq_true rfl⟩ rfl rfl rfl dX9_boundWith_10 ?_
    refine Y_if_ne C (pc := 13) (tgt := 22) dX9_boundWith_13 (by decide) (fun c11 => ?_) (fun c11 => ?_)
    · rw [if_neg c11] at h
      refine Y_aload_n C (pc := 22) 0 0 rfl rfl dX9_boundWith_22 ?_
      refine Y_iload_n C (pc := 23) 1 1 rfl rfl dX9_boundWith_23 ?_
      refine Y_iload_n C (pc := 24) 2 2 rfl rfl dX9_boundWith_24 ?_
      obtain ⟨v5, hv5, h⟩ := Option.bind_eq_some_iff.mp h
      refine Y_callV C [.int i1, .int i2] [] [.int v5.1] hk0 rfl rfl (c_X9_areFree hI hk0 hv5) (fun _ h => h) q_cw_yX9_areFree q_ml_RX9_183 ⟨q_im_yX9_areFree, q_se_yX9_areFree⟩ ⟨⟨Nat.le_of_ble_eq_true rfl, Nat.le_of_ble_eq_true rfl⟩, ⟨Nat.zero_le _, Nat.zero_le _⟩, Nat.le_of_ble_eq_true rfl⟩ rfl rfl rfl dX9_boundWith_25 ?_
      refine Y_if_ne C (pc := 28) (tgt := 37) dX9_boundWith_28 (by decide) (fun c10 => ?_) (fun c10 => ?_)
      · rw [if_neg c10] at h
        refine Y_aload_n C (pc := 37) 0 0 rfl rfl dX9_boundWith_37 ?_
        refine Y_getR C (pc := 38) hk0 q_fi_RX9_25 (by decide) dX9_boundWith_38 ?_
        refine Y_iload_n C (pc := 41) 1 1 rfl rfl dX9_boundWith_41 ?_
        refine Y_iload_n C (pc := 42) 2 2 rfl rfl dX9_boundWith_42 ?_
        obtain ⟨s6, hs6, h⟩ := Option.bind_eq_some_iff.mp h
        refine Y_iast C (pc := 43) hW (q_kr_9_8 hk0) (q_lr_9_8 hk0) hs6 dX9_boundWith_43 ?_
        refine Y_aload_n C (pc := 44) 0 0 rfl rfl dX9_boundWith_44 ?_
        refine Y_aload_n C (pc := 45) 0 0 rfl rfl dX9_boundWith_45 ?_
        obtain ⟨v7, hv7, h⟩ := Option.bind_eq_some_iff.mp h
        refine Y_callV C [] [.ref (ρ k0)] [.int v7.1, .ref (ρ k0)] hk0 rfl rfl (c_X9_boundOf hI hk0 hv7) (fun _ h => h) q_cw_yX9_boundOf q_ml_RX9_206 ⟨q_im_yX9_boundOf, q_se_yX9_boundOf⟩ ⟨⟨Nat.le_of_ble_eq_true rfl, Nat.le_of_ble_eq_true rfl⟩, ⟨Nat.zero_le _, Nat.zero_le _⟩, Nat.le_of_ble_eq_true rfl⟩ rfl rfl rfl dX9_boundWith_46 ?_
        obtain ⟨v8, hv8, h⟩ := Option.bind_eq_some_iff.mp h
        refine Y_callV C [.int v7.1] [] [.int v8.1] hk0 rfl rfl (c_X9_tells hI hk0 hv8) (fun _ h => h) q_cw_yX9_tells q_ml_RX9_82 ⟨q_im_yX9_tells, q_se_yX9_tells⟩ ⟨⟨Nat.le_of_ble_eq_true rfl, Nat.le_of_ble_eq_true rfl⟩, ⟨Nat.zero_le _, Nat.zero_le _⟩, Nat.le_of_ble_eq_true rfl⟩ rfl rfl rfl dX9_boundWith_49 ?_
        cases h
        exact Y_iret C dX9_boundWith_52
      · rw [if_pos c10] at h
        refine Y_aload_n C (pc := 31) 0 0 rfl rfl dX9_boundWith_31 ?_
        refine Y_iconst C (pc := 32) (v := (2 : Int32)) (by decide) dX9_boundWith_32 ?_
        obtain ⟨v9, hv9, h⟩ := Option.bind_eq_some_iff.mp h
        refine Y_callV C [.int (2 : Int32)] [] [.int v9.1] hk0 rfl rfl (c_X9_fails hI hk0 hv9) (fun _ h => h) q_cw_yX9_fails q_ml_RX9_94 ⟨q_im_yX9_fails, q_se_yX9_fails⟩ ⟨⟨Nat.le_of_ble_eq_true rfl, Nat.le_of_ble_eq_true rfl⟩, ⟨Nat.zero_le _, Nat.zero_le _⟩, Nat.le_of_ble_eq_true rfl⟩ rfl rfl rfl dX9_boundWith_33 ?_
        cases h
        exact Y_iret C dX9_boundWith_36
    · rw [if_pos c11] at h
      exact Y_sub [0] rfl (hJ16 _ h)

