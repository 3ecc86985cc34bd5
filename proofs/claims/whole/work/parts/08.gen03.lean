set_option maxRecDepth 100000 in
set_option maxHeartbeats 4000000 in
theorem c_X4_readEnd {l : Launch} {D : va_G} {cA ρ : Nat → Nat} {σ : Sg} {τ : Tg} {k0 : Nat} (hI : Inj ρ) (hk0 : kd k0 = (0, 4)) {r : Int32 × Sg} (h : f_X4_readEnd σ k0 = some r) : Ct l yX4_readEnd cX4_readEnd 1 (some .boolean) 2 40 D cA ρ (Aw ρ) [.ref (ρ k0)] σ τ (some (.int r.1)) r.2 τ := by
  refine Ct_of (by decide +kernel) (Nat.le_of_ble_eq_true rfl) (fun p e s m args below meth c C => ?_)
  have C : Ctx p l s m args meth c cX4_readEnd RX4 1 (some .boolean) D cA ρ (Aw ρ) := C
  have hW : Wr ρ (Aw ρ) := ⟨hI, fun k hk => ⟨k, hk, rfl⟩⟩
  unfold f_X4_readEnd at h
  refine Y_sub [0] (lv' := [(0, .ref (ρ k0))]) rfl ?_
  refine Y_aload_n C (pc := 0) 0 0 rfl rfl dX4_readEnd_0 ?_
  obtain ⟨v1, hv1, h⟩ := Option.bind_eq_some_iff.mp h
  refine Y_callV C [] [] [] hk0 rfl rfl (c_X4_skipSpaces hI hk0 hv1) (fun _ h => h) q_cw_yX4_skipSpaces q_ml_RX4_33 ⟨q_im_yX4_skipSpaces, q_se_yX4_skipSpaces⟩ ⟨⟨Nat.le_of_ble_eq_true rfl, Nat.le_of_ble_eq_true rfl⟩, ⟨Nat.zero_le _, Nat.zero_le _⟩, Nat.le_of_ble_eq_true rfl⟩ rfl rfl rfl dX4_readEnd_1 ?_
  refine Y_aload_n C (pc := 4) 0 0 rfl rfl dX4_readEnd_4 ?_
  obtain ⟨v2, hv2, h⟩ := Option.bind_eq_some_iff.mp h
  refine Y_callV C [] [] [.int v2] hk0 rfl rfl (c_X4_here hk0 hv2) (fun _ h => h.elim) q_cw_yX4_here q_ml_RX4_61 ⟨q_im_yX4_here, q_se_yX4_here⟩ ⟨⟨Nat.le_of_ble_eq_true rfl, Nat.le_of_ble_eq_true rfl⟩, ⟨Nat.zero_le _, Nat.zero_le _⟩, Nat.le_of_ble_eq_true rfl⟩ rfl rfl rfl dX4_readEnd_5 ?_
  refine Y_bipush C (pc := 8) (v := (59 : Int32)) (by decide) dX4_readEnd_8 ?_
  refine Y_icmp_eq C (pc := 10) (tgt := 15) dX4_readEnd_10 (by decide) (fun c3 => ?_) (fun c3 => ?_)
  · rw [if_pos c3] at h
    refine Y_aload_n C (pc := 15) 0 0 rfl rfl dX4_readEnd_15 ?_
    refine Y_dup C (pc := 16) rfl dX4_readEnd_16 ?_
    refine Y_getI C (pc := 17) hk0 q_fi_RX4_19 dX4_readEnd_17 ?_
    refine Y_iconst C (pc := 20) (v := (1 : Int32)) (by decide) dX4_readEnd_20 ?_
    refine Y_iadd C (pc := 21) dX4_readEnd_21 ?_
    refine Y_putI C (pc := 22) hW hk0 (q_lo_4 hk0) q_fp_RX4_19 dX4_readEnd_22 ?_
    refine Y_iconst C (pc := 25) (v := (1 : Int32)) (by decide) dX4_readEnd_25 ?_
    cases h
    exact Y_zret (x := (1 : Int32)) (by decide) C dX4_readEnd_26
  · rw [if_neg c3] at h
    refine Y_iconst C (pc := 13) (v := (0 : Int32)) (by decide) dX4_readEnd_13 ?_
    cases h
    exact Y_zret (x := (0 : Int32)) (by decide) C dX4_readEnd_14

set_option maxRecDepth 100000 in
set_option maxHeartbeats 4000000 in
theorem c_X4_readCommand {l : Launch} {D : va_G} {cA ρ : Nat → Nat} {σ : Sg} {τ : Tg} {k0 : Nat} (hI : Inj ρ) (hk0 : kd k0 = (0, 4)) {r : Int32 × Sg} (h : f_X4_readCommand σ k0 = some r) : Ct l yX4_readCommand cX4_readCommand 1 (some .boolean) 3 61 D cA ρ (Aw ρ) [.ref (ρ k0)] σ τ (some (.int r.1)) r.2 τ := by
  refine Ct_of (by decide +kernel) (Nat.le_of_ble_eq_true rfl) (fun p e s m args below meth c C => ?_)
  have C : Ctx p l s m args meth c cX4_readCommand RX4 1 (some .boolean) D cA ρ (Aw ρ) := C
  have hW : Wr ρ (Aw ρ) := ⟨hI, fun k hk => ⟨k, hk, rfl⟩⟩
  unfold f_X4_readCommand at h
  refine Y_sub [0] (lv' := [(0, .ref (ρ k0))]) rfl ?_
  have hJ65 : ∀ (j9 : Int32) (sj10 : Sg), f_X4_readCommand_J65 k0 j9 sj10 = some r → Y p l e (Rm 3 61) s m args below meth c 1 D cA ρ (Aw ρ) 0 0 (MQ below (QC D cA ρ (Aw ρ) (some (.int r.1)) r.2 τ) args s 0 0 (Aw ρ)) sj10 τ 65 [(0, .ref (ρ k0))] [.int j9, .ref (ρ k0)] := by
    intro j9 sj10 h
    unfold f_X4_readCommand_J65 at h
    refine Y_putI C (pc := 65) hW hk0 (q_lo_4 hk0) q_fp_RX4_55 dX4_readCommand_65 ?_
    refine Y_aload_n C (pc := 68) 0 0 rfl rfl dX4_readCommand_68 ?_
    refine Y_getI C (pc := 69) hk0 q_fi_RX4_55 dX4_readCommand_69 ?_
    refine Y_iconst C (pc := 72) (v := (-1 : Int32)) (by decide) dX4_readCommand_72 ?_
    refine Y_icmp_eq C (pc := 73) (tgt := 87) dX4_readCommand_73 (by decide) (fun c13 => ?_) (fun c13 => ?_)
    · rw [if_pos c13] at h
      refine Y_iconst C (pc := 87) (v := (0 : Int32)) (by decide) dX4_readCommand_87 ?_
      cases h
      exact Y_zret (x := (0 : Int32)) (by decide) C dX4_readCommand_88
    · rw [if_neg c13] at h
      refine Y_aload_n C (pc := 76) 0 0 rfl rfl dX4_readCommand_76 ?_
      obtain ⟨v11, hv11, h⟩ := Option.bind_eq_some_iff.mp h
      refine Y_callV C [] [] [.int v11.1] hk0 rfl rfl (c_X4_readEnd hI hk0 hv11) (fun _ h => h) q_cw_yX4_readEnd q_ml_RX4_58 ⟨q_im_yX4_readEnd, q_se_yX4_readEnd⟩ ⟨⟨Nat.le_of_ble_eq_true rfl, Nat.le_of_ble_eq_true rfl⟩, ⟨Nat.zero_le _, Nat.zero_le _⟩, Nat.le_of_ble_eq_true rfl⟩ rfl rfl rfl dX4_readCommand_77 ?_
      refine Y_if_eq C (pc := 80) (tgt := 87) dX4_readCommand_80 (by decide) (fun c12 => ?_) (fun c12 => ?_)
      · rw [if_pos c12] at h
        refine Y_iconst C (pc := 87) (v := (0 : Int32)) (by decide) dX4_readCommand_87 ?_
        cases h
        exact Y_zret (x := (0 : Int32)) (by decide) C dX4_readCommand_88
      · rw [if_neg c12] at h
        refine Y_iconst C (pc := 83) (v := (1 : Int32)) (by decide) dX4_readCommand_83 ?_
        refine Y_goto C (pc := 84) (tgt := 88) dX4_readCommand_84 (by decide) ?_
        cases h
        exact Y_zret (x := (1 : Int32)) (by decide) C dX4_readCommand_88
  have hJ45 : ∀ (j6 : Int32) (sj7 : Sg), f_X4_readCommand_J45 k0 j6 sj7 = some r → Y p l e (Rm 3 61) s m args below meth c 1 D cA ρ (Aw ρ) 0 0 (MQ below (QC D cA ρ (Aw ρ) (some (.int r.1)) r.2 τ) args s 0 0 (Aw ρ)) sj7 τ 45 [(0, .ref (ρ k0))] [.int j6, .ref (ρ k0)] := by
    intro j6 sj7 h
    unfold f_X4_readCommand_J45 at h
    refine Y_putI C (pc := 45) hW hk0 (q_lo_4 hk0) q_fp_RX4_52 dX4_readCommand_45 ?_
    refine Y_aload_n C (pc := 48) 0 0 rfl rfl dX4_readCommand_48 ?_
    refine Y_aload_n C (pc := 49) 0 0 rfl rfl dX4_readCommand_49 ?_
    refine Y_getI C (pc := 50) hk0 q_fi_RX4_52 dX4_readCommand_50 ?_
    refine Y_iconst C (pc := 53) (v := (-1 : Int32)) (by decide) dX4_readCommand_53 ?_
    refine Y_icmp_ne C (pc := 54) (tgt := 61) dX4_readCommand_54 (by decide) (fun c14 => ?_) (fun c14 => ?_)
    · rw [if_neg c14] at h
      refine Y_aload_n C (pc := 61) 0 0 rfl rfl dX4_readCommand_61 ?_
      obtain ⟨v8, hv8, h⟩ := Option.bind_eq_some_iff.mp h
      refine Y_callV C [] [.ref (ρ k0)] [.int v8.1, .ref (ρ k0)] hk0 rfl rfl (c_X4_readNumber hI hk0 hv8) (fun _ h => h) q_cw_yX4_readNumber q_ml_RX4_46 ⟨q_im_yX4_readNumber, q_se_yX4_readNumber⟩ ⟨⟨Nat.le_of_ble_eq_true rfl, Nat.le_of_ble_eq_true rfl⟩, ⟨Nat.zero_le _, Nat.zero_le _⟩, Nat.le_of_ble_eq_true rfl⟩ rfl rfl rfl dX4_readCommand_62 ?_
      exact Y_sub [0] rfl (hJ65 _ _ h)
    · rw [if_pos c14] at h
      refine Y_iconst C (pc := 57) (v := (-1 : Int32)) (by decide) dX4_readCommand_57 ?_
      refine Y_goto C (pc := 58) (tgt := 65) dX4_readCommand_58 (by decide) ?_
      exact Y_sub [0] rfl (hJ65 _ _ h)
  have hJ25 : ∀ (j3 : Int32) (sj4 : Sg), f_X4_readCommand_J25 k0 j3 sj4 = some r → Y p l e (Rm 3 61) s m args below meth c 1 D cA ρ (Aw ρ) 0 0 (MQ below (QC D cA ρ (Aw ρ) (some (.int r.1)) r.2 τ) args s 0 0 (Aw ρ)) sj4 τ 25 [(0, .ref (ρ k0))] [.int j3, .ref (ρ k0)] := by
    intro j3 sj4 h
    unfold f_X4_readCommand_J25 at h
    refine Y_putI C (pc := 25) hW hk0 (q_lo_4 hk0) q_fp_RX4_49 dX4_readCommand_25 ?_
    refine Y_aload_n C (pc := 28) 0 0 rfl rfl dX4_readCommand_28 ?_
    refine Y_aload_n C (pc := 29) 0 0 rfl rfl dX4_readCommand_29 ?_
    refine Y_getI C (pc := 30) hk0 q_fi_RX4_49 dX4_readCommand_30 ?_
    refine Y_iconst C (pc := 33) (v := (-1 : Int32)) (by decide) dX4_readCommand_33 ?_
    refine Y_icmp_ne C (pc := 34) (tgt := 41) dX4_readCommand_34 (by decide) (fun c15 => ?_) (fun c15 => ?_)
    · rw [if_neg c15] at h
      refine Y_aload_n C (pc := 41) 0 0 rfl rfl dX4_readCommand_41 ?_
      obtain ⟨v5, hv5, h⟩ := Option.bind_eq_some_iff.mp h
      refine Y_callV C [] [.ref (ρ k0)] [.int v5.1, .ref (ρ k0)] hk0 rfl rfl (c_X4_readNumber hI hk0 hv5) (fun _ h => h) q_cw_yX4_readNumber q_ml_RX4_46 ⟨q_im_yX4_readNumber, q_se_yX4_readNumber⟩ ⟨⟨Nat.le_of_ble_eq_true rfl, Nat.le_of_ble_eq_true rfl⟩, ⟨Nat.zero_le _, Nat.zero_le _⟩, Nat.le_of_ble_eq_true rfl⟩ rfl rfl rfl dX4_readCommand_42 ?_
      exact Y_sub [0] rfl (hJ45 _ _ h)
    · rw [if_pos c15] at h
      refine Y_iconst C (pc := 37) (v := (-1 : Int32)) (by decide) dX4_readCommand_37 ?_
      refine Y_goto C (pc := 38) (tgt := 45) dX4_readCommand_38 (by decide) ?_
      exact Y_sub [0] rfl (hJ45 _ _ h)
  refine Y_aload_n C (pc := 0) 0 0 rfl rfl dX4_readCommand_0 ?_
  refine Y_aload_n C (pc := 1) 0 0 rfl rfl dX4_readCommand_1 ?_
  obtain ⟨v1, hv1, h⟩ := Option.bind_eq_some_iff.mp h
  refine Y_callV C [] [.ref (ρ k0)] [.int v1.1, .ref (ρ k0)] hk0 rfl rfl (c_X4_readLetter hI hk0 hv1) (fun _ h => h) q_cw_yX4_readLetter q_ml_RX4_39 ⟨q_im_yX4_readLetter, q_se_yX4_readLetter⟩ ⟨⟨Nat.le_of_ble_eq_true rfl, Nat.le_of_ble_eq_true rfl⟩, ⟨Nat.zero_le _, Nat.zero_le _⟩, Nat.le_of_ble_eq_true rfl⟩ rfl rfl rfl dX4_readCommand_2 ?_
  refine Y_putI C (pc := 5) hW hk0 (q_lo_4 hk0) q_fp_RX4_43 dX4_readCommand_5 ?_
  refine Y_aload_n C (pc := 8) 0 0 rfl rfl dX4_readCommand_8 ?_
  refine Y_aload_n C (pc := 9) 0 0 rfl rfl dX4_readCommand_9 ?_
  refine Y_getI C (pc := 10) hk0 q_fi_RX4_43 dX4_readCommand_10 ?_
  refine Y_iconst C (pc := 13) (v := (-1 : Int32)) (by decide) dX4_readCommand_13 ?_
  refine Y_icmp_ne C (pc := 14) (tgt := 21) dX4_readCommand_14 (by decide) (fun c16 => ?_) (fun c16 => ?_)
  · rw [if_neg c16] at h
    refine Y_aload_n C (pc := 21) 0 0 rfl rfl dX4_readCommand_21 ?_
    obtain ⟨v2, hv2, h⟩ := Option.bind_eq_some_iff.mp h
    refine Y_callV C [] [.ref (ρ k0)] [.int v2.1, .ref (ρ k0)] hk0 rfl rfl (c_X4_readNumber hI hk0 hv2) (fun _ h => h) q_cw_yX4_readNumber q_ml_RX4_46 ⟨q_im_yX4_readNumber, q_se_yX4_readNumber⟩ ⟨⟨Nat.le_of_ble_eq_true rfl, Nat.le_of_ble_eq_true rfl⟩, ⟨Nat.zero_le _, Nat.zero_le _⟩, Nat.le_of_ble_eq_true rfl⟩ rfl rfl rfl dX4_readCommand_22 ?_
    exact Y_sub [0] rfl (hJ25 _ _ h)
  · rw [if_pos c16] at h
    refine Y_iconst C (pc := 17) (v := (-1 : Int32)) (by decide) dX4_readCommand_17 ?_
    refine Y_goto C (pc := 18) (tgt := 25) dX4_readCommand_18 (by decide) ?_
    exact Y_sub [0] rfl (hJ25 _ _ h)

set_option maxRecDepth 100000 in
set_option maxHeartbeats 4000000 in
theorem c_X4_nextCommand {l : Launch} {D : va_G} {cA ρ : Nat → Nat} {σ : Sg} {τ : Tg} {k0 : Nat} (hI : Inj ρ) (hk0 : kd k0 = (0, 4)) {r : Int32 × Sg} (h : f_X4_nextCommand σ k0 = some r) : Ct l yX4_nextCommand cX4_nextCommand 1 (some .boolean) 4 81 D cA ρ (Aw ρ) [.ref (ρ k0)] σ τ (some (.int r.1)) r.2 τ := by
  refine Ct_of (by decide +kernel) (Nat.le_of_ble_eq_true rfl) (fun p e s m args below meth c C => ?_)
  have C : Ctx p l s m args meth c cX4_nextCommand RX4 1 (some .boolean) D cA ρ (Aw ρ) := C
  have hW : Wr ρ (Aw ρ) := ⟨hI, fun k hk => ⟨k, hk, rfl⟩⟩
  unfold f_X4_nextCommand at h
  refine Y_sub [0] (lv' := [(0, .ref (ρ k0))]) rfl ?_
  have hJ30 : ∀ (j3 : Int32) (sj4 : Sg), f_X4_nextCommand_J30 k0 j3 sj4 = some r → Y p l e (Rm 4 81) s m args below meth c 1 D cA ρ (Aw ρ) 0 0 (MQ below (QC D cA ρ (Aw ρ) (some (.int r.1)) r.2 τ) args s 0 0 (Aw ρ)) sj4 τ 30 [(0, .ref (ρ k0))] [.int j3, .ref (ρ k0)] := by
    intro j3 sj4 h
    unfold f_X4_nextCommand_J30 at h
    obtain ⟨v5, hv5, h⟩ := Option.bind_eq_some_iff.mp h
    obtain ⟨gv5, ev5⟩ := gb_in hv5
    subst v5
    refine Y_putZ C (pc := 30) hW gv5 hk0 (q_lo_4 hk0) q_fp_RX4_22 dX4_nextCommand_30 ?_
    refine Y_aload_n C (pc := 33) 0 0 rfl rfl dX4_nextCommand_33 ?_
    refine Y_getI C (pc := 34) hk0 q_fi_RX4_22 dX4_nextCommand_34 ?_
    refine Y_if_ne C (pc := 37) (tgt := 44) dX4_nextCommand_37 (by decide) (fun c6 => ?_) (fun c6 => ?_)
    · rw [if_neg c6] at h
      refine Y_iconst C (pc := 44) (v := (0 : Int32)) (by decide) dX4_nextCommand_44 ?_
      cases h
      exact Y_zret (x := (0 : Int32)) (by decide) C dX4_nextCommand_45
    · rw [if_pos c6] at h
      refine Y_iconst C (pc := 40) (v := (1 : Int32)) (by decide) dX4_nextCommand_40 ?_
      refine Y_goto C (pc := 41) (tgt := 45) dX4_nextCommand_41 (by decide) ?_
      cases h
      exact Y_zret (x := (1 : Int32)) (by decide) C dX4_nextCommand_45
  refine Y_aload_n C (pc := 0) 0 0 rfl rfl dX4_nextCommand_0 ?_
  obtain ⟨v1, hv1, h⟩ := Option.bind_eq_some_iff.mp h
  refine Y_callV C [] [] [] hk0 rfl rfl (c_X4_skipSpaces hI hk0 hv1) (fun _ h => h) q_cw_yX4_skipSpaces q_ml_RX4_33 ⟨q_im_yX4_skipSpaces, q_se_yX4_skipSpaces⟩ ⟨⟨Nat.le_of_ble_eq_true rfl, Nat.le_of_ble_eq_true rfl⟩, ⟨Nat.zero_le _, Nat.zero_le _⟩, Nat.le_of_ble_eq_true rfl⟩ rfl rfl rfl dX4_nextCommand_1 ?_
  refine Y_aload_n C (pc := 4) 0 0 rfl rfl dX4_nextCommand_4 ?_
  refine Y_getI C (pc := 5) hk0 q_fi_RX4_19 dX4_nextCommand_5 ?_
  refine Y_aload_n C (pc := 8) 0 0 rfl rfl dX4_nextCommand_8 ?_
  refine Y_getI C (pc := 9) hk0 q_fi_RX4_15 dX4_nextCommand_9 ?_
  refine Y_icmp_lt C (pc := 12) (tgt := 17) dX4_nextCommand_12 (by decide) (fun c8 => ?_) (fun c8 => ?_)
  · rw [if_pos c8] at h
    refine Y_aload_n C (pc := 17) 0 0 rfl rfl dX4_nextCommand_17 ?_
    refine Y_aload_n C (pc := 18) 0 0 rfl rfl dX4_nextCommand_18 ?_
    obtain ⟨v2, hv2, h⟩ := Option.bind_eq_some_iff.mp h
    refine Y_callV C [] [.ref (ρ k0)] [.int v2.1, .ref (ρ k0)] hk0 rfl rfl (c_X4_readCommand hI hk0 hv2) (fun _ h => h) q_cw_yX4_readCommand q_ml_RX4_36 ⟨q_im_yX4_readCommand, q_se_yX4_readCommand⟩ ⟨⟨Nat.le_of_ble_eq_true rfl, Nat.le_of_ble_eq_true rfl⟩, ⟨Nat.zero_le _, Nat.zero_le _⟩, Nat.le_of_ble_eq_true rfl⟩ rfl rfl rfl dX4_nextCommand_19 ?_
    refine Y_if_ne C (pc := 22) (tgt := 29) dX4_nextCommand_22 (by decide) (fun c7 => ?_) (fun c7 => ?_)
    · rw [if_neg c7] at h
      refine Y_iconst C (pc := 29) (v := (0 : Int32)) (by decide) dX4_nextCommand_29 ?_
      exact Y_sub [0] rfl (hJ30 _ _ h)
    · rw [if_pos c7] at h
      refine Y_iconst C (pc := 25) (v := (1 : Int32)) (by decide) dX4_nextCommand_25 ?_
      refine Y_goto C (pc := 26) (tgt := 30) dX4_nextCommand_26 (by decide) ?_
      exact Y_sub [0] rfl (hJ30 _ _ h)
  · rw [if_neg c8] at h
    refine Y_iconst C (pc := 15) (v := (0 : Int32)) (by decide) dX4_nextCommand_15 ?_
    cases h
    exact Y_zret (x := (0 : Int32)) (by decide) C dX4_nextCommand_16

set_option maxRecDepth 100000 in
set_option maxHeartbeats 4000000 in
theorem c_X4_firstFault {l : Launch} {D : va_G} {cA ρ : Nat → Nat} {σ : Sg} {τ : Tg} {k0 : Nat} (hI : Inj ρ) (hk0 : kd k0 = (0, 4)) {r : Int32 × Sg} (h : f_X4_firstFault σ k0 = some r) : Ct l yX4_firstFault cX4_firstFault 2 (some .int) 5 101 D cA ρ (Aw ρ) [.ref (ρ k0)] σ τ (some (.int r.1)) r.2 τ := by
  refine Ct_of (by decide +kernel) (Nat.le_of_ble_eq_true rfl) (fun p e s m args below meth c C => ?_)
  have C : Ctx p l s m args meth c cX4_firstFault RX4 2 (some .int) D cA ρ (Aw ρ) := C
  have hW : Wr ρ (Aw ρ) := ⟨hI, fun k hk => ⟨k, hk, rfl⟩⟩
  unfold f_X4_firstFault at h
  refine Y_sub [0] (lv' := [(0, .ref (ρ k0))]) rfl ?_
  have hJ28 : ∀ (sj9 : Sg), f_X4_firstFault_J28 k0 sj9 = some r → Y p l e (Rm 5 101) s m args below meth c 2 D cA ρ (Aw ρ) 0 0 (MQ below (QC D cA ρ (Aw ρ) (some (.int r.1)) r.2 τ) args s 0 0 (Aw ρ)) sj9 τ 28 [(0, .ref (ρ k0))] [] := by
    intro sj9 h
    unfold f_X4_firstFault_J28 at h
    refine Y_aload_n C (pc := 28) 0 0 rfl rfl dX4_firstFault_28 ?_
    refine Y_getI C (pc := 29) hk0 q_fi_RX4_22 dX4_firstFault_29 ?_
    refine Y_if_eq C (pc := 32) (tgt := 42) dX4_firstFault_32 (by decide) (fun c10 => ?_) (fun c10 => ?_)
    · rw [if_pos c10] at h
      refine Y_iconst C (pc := 42) (v := (-1 : Int32)) (by decide) dX4_firstFault_42 ?_
      cases h
      exact Y_iret C dX4_firstFault_43
    · rw [if_neg c10] at h
      refine Y_aload_n C (pc := 35) 0 0 rfl rfl dX4_firstFault_35 ?_
      refine Y_getI C (pc := 36) hk0 q_fi_RX4_19 dX4_firstFault_36 ?_
      refine Y_goto C (pc := 39) (tgt := 43) dX4_firstFault_39 (by decide) ?_
      cases h
      exact Y_iret C dX4_firstFault_43
  refine Y_aload_n C (pc := 0) 0 0 rfl rfl dX4_firstFault_0 ?_
  obtain ⟨v1, hv1, h⟩ := Option.bind_eq_some_iff.mp h
  refine Y_callV C [] [] [] hk0 rfl rfl (c_X4_rewind hI hk0 hv1) (fun _ h => h) q_cw_yX4_rewind q_ml_RX4_26 ⟨q_im_yX4_rewind, q_se_yX4_rewind⟩ ⟨⟨Nat.le_of_ble_eq_true rfl, Nat.le_of_ble_eq_true rfl⟩, ⟨Nat.zero_le _, Nat.zero_le _⟩, Nat.le_of_ble_eq_true rfl⟩ rfl rfl rfl dX4_firstFault_1 ?_
  refine Y_iconst C (pc := 4) (v := (0 : Int32)) (by decide) dX4_firstFault_4 ?_
  refine Y_istore_n C (pc := 5) (lv' := [(1, .int (0 : Int32)), (0, .ref (ρ k0))]) 1 rfl (by decide) rfl dX4_firstFault_5 ?_
  obtain ⟨e6, he6, h⟩ := Option.bind_eq_some_iff.mp h
  refine Y_sub [1, 0] (lv' := [(0, .ref (ρ k0)), (1, .int (0 : Int32))]) rfl ?_
  refine lo_rule (f := (f_X4_firstFault_L6 k0)) (YS := fun s2 => Y p l e (Rm 5 101) s m args below meth c 2 D cA ρ (Aw ρ) 0 0 (MQ below (QC D cA ρ (Aw ρ) (some (.int r.1)) r.2 τ) args s 0 0 (Aw ρ)) s2.2 τ 6 [(0, .ref (ρ k0)), (1, .int s2.1)] []) (YE := fun e6 => (∀ e7, e6 = (.inl e7) → Y p l e (Rm 5 101) s m args below meth c 2 D cA ρ (Aw ρ) 0 0 (MQ below (QC D cA ρ (Aw ρ) (some (.int r.1)) r.2 τ) args s 0 0 (Aw ρ)) e7 τ 19 [(0, .ref (ρ k0))] []) ∧ (∀ e8, e6 = (.inr e8) → Y p l e (Rm 5 101) s m args below meth c 2 D cA ρ (Aw ρ) 0 0 (MQ below (QC D cA ρ (Aw ρ) (some (.int r.1)) r.2 τ) args s 0 0 (Aw ρ)) e8 τ 28 [(0, .ref (ρ k0))] [])) ?_ he6 ?_
  · intro s2 x h hLp hE
    have hE0 : ∀ y, x = .inr (.inl y) → _ := fun y q => (hE _ q).1 y rfl
    have hE1 : ∀ y, x = .inr (.inr y) → _ := fun y q => (hE _ q).2 y rfl
    unfold f_X4_firstFault_L6 at h
    refine Y_iload_n C (pc := 6) 1 1 rfl rfl dX4_firstFault_6 ?_
    refine Y_bipush C (pc := 7) (v := (120 : Int32)) (by decide) dX4_firstFault_7 ?_
    refine Y_icmp_ge C (pc := 9) (tgt := 28) dX4_firstFault_9 (by decide) (fun c5 => ?_) (fun c5 => ?_)
    · rw [if_pos c5] at h
      have h := Option.some.inj h
      exact Y_sub [0] rfl (hE1 _ h.symm)
    · rw [if_neg c5] at h
      refine Y_aload_n C (pc := 12) 0 0 rfl rfl dX4_firstFault_12 ?_
      obtain ⟨v3, hv3, h⟩ := Option.bind_eq_some_iff.mp h
      refine Y_callV C [] [] [.int v3.1] hk0 rfl rfl (c_X4_nextCommand hI hk0 hv3) (fun _ h => h) q_cw_yX4_nextCommand q_ml_RX4_29 ⟨q_im_yX4_nextCommand, q_se_yX4_nextCommand⟩ ⟨⟨Nat.le_of_ble_eq_true rfl, Nat.le_of_ble_eq_true rfl⟩, ⟨Nat.zero_le _, Nat.zero_le _⟩, Nat.le_of_ble_eq_true rfl⟩ rfl rfl rfl dX4_firstFault_13 ?_
      refine Y_if_ne C (pc := 16) (tgt := 22) dX4_firstFault_16 (by decide) (fun c4 => ?_) (fun c4 => ?_)
      · rw [if_neg c4] at h
        refine Y_iinc C (pc := 22) (v := (s2.1 + 1)) (lv' := [(1, .int (s2.1 + 1)), (0, .ref (ρ k0))]) 1 rfl (congrArg (fun z => s2.1 + z) (by decide : Int32.ofInt (1) = (1))) (by decide) rfl dX4_firstFault_22 ?_
        refine Y_goto C (pc := 25) (tgt := 6) dX4_firstFault_25 (by decide) ?_
        have h := Option.some.inj h
        exact Y_sub [1, 0] rfl (hLp _ h.symm)
      · rw [if_pos c4] at h
        have h := Option.some.inj h
        exact Y_sub [0] rfl (hE0 _ h.symm)
  refine ⟨?_, ?_⟩
  · intro e7 q
    subst q
    simp only [Sum.elim_inl, Sum.elim_inr] at h
    refine Y_goto C (pc := 19) (tgt := 28) dX4_firstFault_19 (by decide) ?_
    exact Y_sub [0] rfl (hJ28 _ h)
  · intro e8 q
    subst q
    simp only [Sum.elim_inl, Sum.elim_inr] at h
    exact Y_sub [0] rfl (hJ28 _ h)

set_option maxRecDepth 100000 in
set_option maxHeartbeats 4000000 in
theorem c_X5_result {l : Launch} {D : va_G} {cA ρ : Nat → Nat} {σ : Sg} {τ : Tg} {k0 : Nat} {i1 : Int32} (hk0 : kd k0 = (0, 5)) {r : Int32} (h : f_X5_result σ k0 i1 = some r) : Ct l yX5_result cX5_result 2 (some .int) 0 0 D cA ρ A0 [.ref (ρ k0), .int i1] σ τ (some (.int r)) σ τ := by
  refine Ct_of (by decide +kernel) (Nat.le_of_ble_eq_true rfl) (fun p e s m args below meth c C => ?_)
  have C : Ctx p l s m args meth c cX5_result RX5 2 (some .int) D cA ρ A0 := C
  unfold f_X5_result at h
  refine Y_sub [0, 1] (lv' := [(0, .ref (ρ k0)), (1, .int i1)]) rfl ?_
  refine Y_aload_n C (pc := 0) 0 0 rfl rfl dX5_result_0 ?_
  refine Y_getI C (pc := 1) hk0 q_fi_RX5_42 dX5_result_1 ?_
  refine Y_if_ne C (pc := 4) (tgt := 9) dX5_result_4 (by decide) (fun c1 => ?_) (fun c1 => ?_)
  · rw [if_neg c1] at h
    refine Y_iload_n C (pc := 9) 1 1 rfl rfl dX5_result_9 ?_
    by_cases w0 : i1 = (0 : Int32)
    · rw [if_pos w0] at h
      refine Y_tableIn C (pc := 10) dX5_result_10 (by rw [w0]; decide) (by rw [w0]; decide) (off := 38) (tgt := 48) (by rw [w0]; rfl) (by decide) ?_
      refine Y_aload_n C (pc := 48) 0 0 rfl rfl dX5_result_48 ?_
      refine Y_getI C (pc := 49) hk0 q_fi_RX5_46 dX5_result_49 ?_
      cases h
      exact Y_iret C dX5_result_52
    · rw [if_neg w0] at h
      by_cases w1 : i1 = (1 : Int32)
      · rw [if_pos w1] at h
        refine Y_tableIn C (pc := 10) dX5_result_10 (by rw [w1]; decide) (by rw [w1]; decide) (off := 43) (tgt := 53) (by rw [w1]; rfl) (by decide) ?_
        refine Y_aload_n C (pc := 53) 0 0 rfl rfl dX5_result_53 ?_
        refine Y_getI C (pc := 54) hk0 q_fi_RX5_50 dX5_result_54 ?_
        cases h
        exact Y_iret C dX5_result_57
      · rw [if_neg w1] at h
        by_cases w2 : i1 = (2 : Int32)
        · rw [if_pos w2] at h
          refine Y_tableIn C (pc := 10) dX5_result_10 (by rw [w2]; decide) (by rw [w2]; decide) (off := 48) (tgt := 58) (by rw [w2]; rfl) (by decide) ?_
          refine Y_aload_n C (pc := 58) 0 0 rfl rfl dX5_result_58 ?_
          refine Y_getI C (pc := 59) hk0 q_fi_RX5_53 dX5_result_59 ?_
          cases h
          exact Y_iret C dX5_result_62
        · rw [if_neg w2] at h
          by_cases w3 : i1 = (3 : Int32)
          · rw [if_pos w3] at h
            refine Y_tableIn C (pc := 10) dX5_result_10 (by rw [w3]; decide) (by rw [w3]; decide) (off := 53) (tgt := 63) (by rw [w3]; rfl) (by decide) ?_
            refine Y_aload_n C (pc := 63) 0 0 rfl rfl dX5_result_63 ?_
            refine Y_getI C (pc := 64) hk0 q_fi_RX5_56 dX5_result_64 ?_
            cases h
            exact Y_iret C dX5_result_67
          · rw [if_neg w3] at h
            by_cases w4 : i1 = (4 : Int32)
            · rw [if_pos w4] at h
              refine Y_tableIn C (pc := 10) dX5_result_10 (by rw [w4]; decide) (by rw [w4]; decide) (off := 58) (tgt := 68) (by rw [w4]; rfl) (by decide) ?_
              refine Y_aload_n C (pc := 68) 0 0 rfl rfl dX5_result_68 ?_
              refine Y_getI C (pc := 69) hk0 q_fi_RX5_59 dX5_result_69 ?_
              cases h
              exact Y_iret C dX5_result_72
            · rw [if_neg w4] at h
              by_cases w5 : i1 = (5 : Int32)
              · rw [if_pos w5] at h
                refine Y_tableIn C (pc := 10) dX5_result_10 (by rw [w5]; decide) (by rw [w5]; decide) (off := 63) (tgt := 73) (by rw [w5]; rfl) (by decide) ?_
                refine Y_aload_n C (pc := 73) 0 0 rfl rfl dX5_result_73 ?_
                refine Y_getI C (pc := 74) hk0 q_fi_RX5_62 dX5_result_74 ?_
                cases h
                exact Y_iret C dX5_result_77
              · rw [if_neg w5] at h
                have n0 : i1.toInt ≠ 0 := fun q => w0 (Int32.toInt_inj.mp (q.trans (by decide)))
                have n1 : i1.toInt ≠ 1 := fun q => w1 (Int32.toInt_inj.mp (q.trans (by decide)))
                have n2 : i1.toInt ≠ 2 := fun q => w2 (Int32.toInt_inj.mp (q.trans (by decide)))
                have n3 : i1.toInt ≠ 3 := fun q => w3 (Int32.toInt_inj.mp (q.trans (by decide)))
                have n4 : i1.toInt ≠ 4 := fun q => w4 (Int32.toInt_inj.mp (q.trans (by decide)))
                have n5 : i1.toInt ≠ 5 := fun q => w5 (Int32.toInt_inj.mp (q.trans (by decide)))
                refine Y_tableOut C (pc := 10) dX5_result_10 (by omega) (tgt := 78) (by decide) ?_
                refine Y_aload_n C (pc := 78) 0 0 rfl rfl dX5_result_78 ?_
                refine Y_getI C (pc := 79) hk0 q_fi_RX5_65 dX5_result_79 ?_
                cases h
                exact Y_iret C dX5_result_82
  · rw [if_pos c1] at h
    refine Y_iconst C (pc := 7) (v := (-1 : Int32)) (by decide) dX5_result_7 ?_
    cases h
    exact Y_iret C dX5_result_8

set_option maxRecDepth 100000 in
set_option maxHeartbeats 4000000 in
theorem c_X5_begin {l : Launch} {D : va_G} {cA ρ : Nat → Nat} {σ : Sg} {τ : Tg} {k0 : Nat} {k1 : Nat} {i2 : Int32} {i3 : Int32} (hI : Inj ρ) (hk0 : kd k0 = (0, 5)) (hk1 : kd k1 = (0, 6)) {r : Sg} (h : f_X5_begin σ k0 k1 i2 i3 = some r) : Ct l yX5_begin cX5_begin 5 none 1 32 D cA ρ (Aw ρ) [.ref (ρ k0), .ref (ρ k1), .int i2, .int i3] σ τ none r τ := by
  refine Ct_of (by decide +kernel) (Nat.le_of_ble_eq_true rfl) (fun p e s m args below meth c C => ?_)
  have C : Ctx p l s m args meth c cX5_begin RX5 5 none D cA ρ (Aw ρ) := C
  have hW : Wr ρ (Aw ρ) := ⟨hI, fun k hk => ⟨k, hk, rfl⟩⟩
  unfold f_X5_begin at h
  refine Y_sub [0, 1, 2, 3] (lv' := [(0, .ref (ρ k0)), (1, .ref (ρ k1)), (2, .int i2), (3, .int i3)]) rfl ?_
  refine Y_aload_n C (pc := 0) 0 0 rfl rfl dX5_begin_0 ?_
  refine Y_iconst C (pc := 1) (v := (1 : Int32)) (by decide) dX5_begin_1 ?_
  refine Y_putZ C (pc := 2) hW (by decide) hk0 (q_lo_5 hk0) q_fp_RX5_42 dX5_begin_2 ?_
  refine Y_aload_n C (pc := 5) 0 0 rfl rfl dX5_begin_5 ?_
  refine Y_iload_n C (pc := 6) 2 2 rfl rfl dX5_begin_6 ?_
  obtain ⟨v1, hv1, h⟩ := Option.bind_eq_some_iff.mp h
  obtain ⟨gv1, ev1⟩ := gb_in hv1
  subst v1
  refine Y_putZ C (pc := 7) hW gv1 hk0 (q_lo_5 hk0) q_fp_RX5_79 dX5_begin_7 ?_
  refine Y_aload_n C (pc := 10) 0 0 rfl rfl dX5_begin_10 ?_
  refine Y_iload_n C (pc := 11) 3 3 rfl rfl dX5_begin_11 ?_
  obtain ⟨v2, hv2, h⟩ := Option.bind_eq_some_iff.mp h
  obtain ⟨gv2, ev2⟩ := gb_in hv2
  subst v2
  refine Y_putZ C (pc := 12) hW gv2 hk0 (q_lo_5 hk0) q_fp_RX5_103 dX5_begin_12 ?_
  refine Y_aload_n C (pc := 15) 0 0 rfl rfl dX5_begin_15 ?_
  refine Y_aload_n C (pc := 16) 1 1 rfl rfl dX5_begin_16 ?_
  refine Y_getI C (pc := 17) hk1 q_fi_RX5_106 dX5_begin_17 ?_
  refine Y_putI C (pc := 20) hW hk0 (q_lo_5 hk0) q_fp_RX5_65 dX5_begin_20 ?_
  refine Y_aload_n C (pc := 23) 0 0 rfl rfl dX5_begin_23 ?_
  refine Y_ldc C q_ct_RX5_111 dX5_begin_24 ?_
  refine Y_putI C (pc := 26) hW hk0 (q_lo_5 hk0) q_fp_RX5_46 dX5_begin_26 ?_
  refine Y_aload_n C (pc := 29) 0 0 rfl rfl dX5_begin_29 ?_
  refine Y_iconst C (pc := 30) (v := (-1 : Int32)) (by decide) dX5_begin_30 ?_
  refine Y_putI C (pc := 31) hW hk0 (q_lo_5 hk0) q_fp_RX5_50 dX5_begin_31 ?_
  refine Y_aload_n C (pc := 34) 0 0 rfl rfl dX5_begin_34 ?_
  refine Y_iconst C (pc := 35) (v := (0 : Int32)) (by decide) dX5_begin_35 ?_
  refine Y_putI C (pc := 36) hW hk0 (q_lo_5 hk0) q_fp_RX5_53 dX5_begin_36 ?_
  refine Y_aload_n C (pc := 39) 0 0 rfl rfl dX5_begin_39 ?_
  refine Y_iconst C (pc := 40) (v := (0 : Int32)) (by decide) dX5_begin_40 ?_
  refine Y_putI C (pc := 41) hW hk0 (q_lo_5 hk0) q_fp_RX5_56 dX5_begin_41 ?_
  refine Y_aload_n C (pc := 44) 0 0 rfl rfl dX5_begin_44 ?_
  refine Y_iconst C (pc := 45) (v := (0 : Int32)) (by decide) dX5_begin_45 ?_
  refine Y_putI C (pc := 46) hW hk0 (q_lo_5 hk0) q_fp_RX5_59 dX5_begin_46 ?_
  refine Y_aload_n C (pc := 49) 0 0 rfl rfl dX5_begin_49 ?_
  refine Y_iconst C (pc := 50) (v := (0 : Int32)) (by decide) dX5_begin_50 ?_
  refine Y_putI C (pc := 51) hW hk0 (q_lo_5 hk0) q_fp_RX5_112 dX5_begin_51 ?_
  refine Y_aload_n C (pc := 54) 0 0 rfl rfl dX5_begin_54 ?_
  refine Y_getR C (pc := 55) hk0 q_fi_RX5_18 (by decide) dX5_begin_55 ?_
  obtain ⟨v3, hv3, h⟩ := Option.bind_eq_some_iff.mp h
  refine Y_callV C [] [] [] (q_kr_5_12 hk0) rfl rfl (c_X3_clear hI (q_kr_5_12 hk0) hv3) (fun _ h => h) q_cw_yX3_clear q_ml_RX5_115 ⟨q_im_yX3_clear, q_se_yX3_clear⟩ ⟨⟨Nat.le_of_ble_eq_true rfl, Nat.le_of_ble_eq_true rfl⟩, ⟨Nat.zero_le _, Nat.zero_le _⟩, Nat.le_of_ble_eq_true rfl⟩ rfl rfl rfl dX5_begin_58 ?_
  refine Y_iconst C (pc := 61) (v := (0 : Int32)) (by decide) dX5_begin_61 ?_
  refine Y_istore C (pc := 62) (lv' := [(4, .int (0 : Int32)), (0, .ref (ρ k0)), (1, .ref (ρ k1)), (2, .int i2), (3, .int i3)]) (by decide) rfl dX5_begin_62 ?_
  obtain ⟨e7, he7, h⟩ := Option.bind_eq_some_iff.mp h
  refine Y_sub [1, 2, 0] (lv' := [(0, .ref (ρ k0)), (1, .ref (ρ k1)), (4, .int (0 : Int32))]) rfl ?_
  refine lo_rule (f := (f_X5_begin_L64 k0)) (YS := fun s4 => Y p l e (Rm 1 32) s m args below meth c 5 D cA ρ (Aw ρ) 0 0 (MQ below (QC D cA ρ (Aw ρ) none r τ) args s 0 0 (Aw ρ)) s4.2 τ 64 [(0, .ref (ρ k0)), (1, .ref (ρ k1)), (4, .int s4.1)] []) (YE := fun e7 => Y p l e (Rm 1 32) s m args below meth c 5 D cA ρ (Aw ρ) 0 0 (MQ below (QC D cA ρ (Aw ρ) none r τ) args s 0 0 (Aw ρ)) e7 τ 85 [(0, .ref (ρ k0)), (1, .ref (ρ k1))] []) ?_ he7 ?_
  · intro s4 x h hLp hE
    unfold f_X5_begin_L64 at h
    refine Y_iload C (pc := 64) 2 rfl dX5_begin_64 ?_
    refine Y_bipush C (pc := 66) (v := (6 : Int32)) (by decide) dX5_begin_66 ?_
    refine Y_icmp_gt C (pc := 68) (tgt := 85) dX5_begin_68 (by decide) (fun c6 => ?_) (fun c6 => ?_)
    · rw [if_pos c6] at h
      have h := Option.some.inj h
      exact Y_sub [0, 1] rfl (hE _ h.symm)
    · rw [if_neg c6] at h
      refine Y_aload_n C (pc := 71) 0 0 rfl rfl dX5_begin_71 ?_
      refine Y_getR C (pc := 72) hk0 q_fi_RX5_9 (by decide) dX5_begin_72 ?_
      refine Y_iload C (pc := 75) 2 rfl dX5_begin_75 ?_
      refine Y_iconst C (pc := 77) (v := (0 : Int32)) (by decide) dX5_begin_77 ?_
      obtain ⟨s5, hs5, h⟩ := Option.bind_eq_some_iff.mp h
      refine Y_iast C (pc := 78) hW (q_kr_5_2 hk0) (q_lr_5_2 hk0) hs5 dX5_begin_78 ?_
      refine Y_iinc C (pc := 79) (v := (s4.1 + 1)) (lv' := [(4, .int (s4.1 + 1)), (0, .ref (ρ k0)), (1, .ref (ρ k1))]) 2 rfl (congrArg (fun z => s4.1 + z) (by decide : Int32.ofInt (1) = (1))) (by decide) rfl dX5_begin_79 ?_
      refine Y_goto C (pc := 82) (tgt := 64) dX5_begin_82 (by decide) ?_
      have h := Option.some.inj h
      exact Y_sub [1, 2, 0] rfl (hLp _ h.symm)
  · refine Y_aload_n C (pc := 85) 1 1 rfl rfl dX5_begin_85 ?_
    refine Y_getR C (pc := 86) hk1 q_fi_RX5_118 (by decide) dX5_begin_86 ?_
    refine Y_iconst C (pc := 89) (v := (0 : Int32)) (by decide) dX5_begin_89 ?_
    refine Y_aload_n C (pc := 90) 0 0 rfl rfl dX5_begin_90 ?_
    refine Y_getR C (pc := 91) hk0 q_fi_RX5_36 (by decide) dX5_begin_91 ?_
    refine Y_iconst C (pc := 94) (v := (0 : Int32)) (by decide) dX5_begin_94 ?_
    refine Y_bipush C (pc := 95) (v := (6 : Int32)) (by decide) dX5_begin_95 ?_
    obtain ⟨s8, hs8, h⟩ := Option.bind_eq_some_iff.mp h
    refine Y_acp C (pc := 97) hW q_ml_RX5_119 ⟨q_nat_ac, q_st_ac, q_in_System⟩ (q_kr_6_5 hk1) (q_lr_6_5 hk1) (q_kr_5_15 hk0) (q_lr_5_15 hk0) hs8 ⟨Nat.le_of_ble_eq_true rfl, Nat.le_of_ble_eq_true rfl⟩ dX5_begin_97 ?_
    cases h
    exact Y_vret C dX5_begin_100

set_option maxRecDepth 100000 in
set_option maxHeartbeats 4000000 in
theorem c_X5_pack {l : Launch} {D : va_G} {cA ρ : Nat → Nat} {σ : Sg} {τ : Tg} {k0 : Nat} (hk0 : kd k0 = (0, 5)) {r : Int64} (h : f_X5_pack σ k0 = some r) : Ct l yX5_pack cX5_pack 6 (some .long) 0 0 D cA ρ A0 [.ref (ρ k0)] σ τ (some (.long r)) σ τ := by
  refine Ct_of (by decide +kernel) (Nat.le_of_ble_eq_true rfl) (fun p e s m args below meth c C => ?_)
  have C : Ctx p l s m args meth c cX5_pack RX5 6 (some .long) D cA ρ A0 := C
  unfold f_X5_pack at h
  refine Y_sub [0] (lv' := [(0, .ref (ρ k0))]) rfl ?_
  refine Y_lconst C (pc := 0) (v := (0 : Int64)) (by decide) dX5_pack_0 ?_
  refine Y_lstore_n C (pc := 1) (lv' := [(1, .long (0 : Int64)), (0, .ref (ρ k0))]) 1 rfl (by decide) rfl dX5_pack_1 ?_
  refine Y_iconst C (pc := 2) (v := (0 : Int32)) (by decide) dX5_pack_2 ?_
  refine Y_istore_n C (pc := 3) (lv' := [(3, .int (0 : Int32)), (1, .long (0 : Int64)), (0, .ref (ρ k0))]) 3 rfl (by decide) rfl dX5_pack_3 ?_
  obtain ⟨e9, he9, h⟩ := Option.bind_eq_some_iff.mp h
  refine Y_sub [2, 1, 0] (lv' := [(0, .ref (ρ k0)), (1, .long (0 : Int64)), (3, .int (0 : Int32))]) rfl ?_
  refine lo_rule (f := (f_X5_pack_L4 σ k0)) (YS := fun s1 => Y p l e (Rm 0 0) s m args below meth c 6 D cA ρ A0 0 0 (MQ below (QC D cA ρ A0 (some (.long r)) σ τ) args s 0 0 A0) σ τ 4 [(0, .ref (ρ k0)), (1, .long s1.1), (3, .int s1.2)] []) (YE := fun e9 => Y p l e (Rm 0 0) s m args below meth c 6 D cA ρ A0 0 0 (MQ below (QC D cA ρ A0 (some (.long r)) σ τ) args s 0 0 A0) σ τ 50 [(1, .long e9)] []) ?_ he9 ?_
  · intro s1 x h hLp hE
    unfold f_X5_pack_L4 at h
    have hJ33 : ∀ (j4 : Int64) (j5 : Int32) (j6 : Int64), f_X5_pack_J33 j4 j5 j6 = some x → Y p l e (Rm 0 0) s m args below meth c 6 D cA ρ A0 0 0 (MQ below (QC D cA ρ A0 (some (.long r)) σ τ) args s 0 0 A0) σ τ 33 [(0, .ref (ρ k0)), (1, .long j4), (3, .int j5)] [.long j6] := by
      intro j4 j5 j6 h
      unfold f_X5_pack_J33 at h
      refine Y_lstore C (pc := 33) (lv' := [(4, .long j6), (0, .ref (ρ k0)), (1, .long j4), (3, .int j5)]) (by decide) rfl dX5_pack_33 ?_
      refine Y_lload_n C (pc := 35) 1 2 rfl rfl dX5_pack_35 ?_
      refine Y_lload C (pc := 36) 0 rfl dX5_pack_36 ?_
      refine Y_iconst C (pc := 38) (v := (3 : Int32)) (by decide) dX5_pack_38 ?_
      refine Y_iload_n C (pc := 39) 3 3 rfl rfl dX5_pack_39 ?_
      refine Y_imul C (pc := 40) dX5_pack_40 ?_
      refine Y_lshl C (pc := 41) dX5_pack_41 ?_
      refine Y_lor C (pc := 42) dX5_pack_42 ?_
      refine Y_lstore_n C (pc := 43) (lv' := [(1, .long (j4 ||| (j6 <<< (Int32.toInt64 ((3 : Int32) * j5) &&& 63)))), (4, .long j6), (0, .ref (ρ k0)), (3, .int j5)]) 1 rfl (by decide) rfl dX5_pack_43 ?_
      refine Y_iinc C (pc := 44) (v := (j5 + 1)) (lv' := [(3, .int (j5 + 1)), (1, .long (j4 ||| (j6 <<< (Int32.toInt64 ((3 : Int32) * j5) &&& 63)))), (4, .long j6), (0, .ref (ρ k0))]) 3 rfl (congrArg (fun z => j5 + z) (by decide : Int32.ofInt (1) = (1))) (by decide) rfl dX5_pack_44 ?_
      refine Y_goto C (pc := 47) (tgt := 4) dX5_pack_47 (by decide) ?_
      have h := Option.some.inj h
      exact Y_sub [3, 1, 0] rfl (hLp _ h.symm)
    refine Y_iload_n C (pc := 4) 3 2 rfl rfl dX5_pack_4 ?_
    refine Y_bipush C (pc := 5) (v := (6 : Int32)) (by decide) dX5_pack_5 ?_
    refine Y_icmp_ge C (pc := 7) (tgt := 50) dX5_pack_7 (by decide) (fun c8 => ?_) (fun c8 => ?_)
    · rw [if_pos c8] at h
      have h := Option.some.inj h
      exact Y_sub [1] rfl (hE _ h.symm)
    · rw [if_neg c8] at h
      refine Y_aload_n C (pc := 10) 0 0 rfl rfl dX5_pack_10 ?_
      refine Y_getR C (pc := 11) hk0 q_fi_RX5_36 (by decide) dX5_pack_11 ?_
      refine Y_iload_n C (pc := 14) 3 2 rfl rfl dX5_pack_14 ?_
      obtain ⟨v2, hv2, h⟩ := Option.bind_eq_some_iff.mp h
      refine Y_iald C (pc := 15) (q_kr_5_15 hk0) hv2 dX5_pack_15 ?_
      refine Y_iconst C (pc := 16) (v := (-1 : Int32)) (by decide) dX5_pack_16 ?_
      refine Y_icmp_ne C (pc := 17) (tgt := 26) dX5_pack_17 (by decide) (fun c7 => ?_) (fun c7 => ?_)
      · rw [if_neg c7] at h
        refine Y_aload_n C (pc := 26) 0 0 rfl rfl dX5_pack_26 ?_
        refine Y_getR C (pc := 27) hk0 q_fi_RX5_36 (by decide) dX5_pack_27 ?_
        refine Y_iload_n C (pc := 30) 3 2 rfl rfl dX5_pack_30 ?_
        obtain ⟨v3, hv3, h⟩ := Option.bind_eq_some_iff.mp h
        refine Y_iald C (pc := 31) (q_kr_5_15 hk0) hv3 dX5_pack_31 ?_
        refine Y_i2l C (pc := 32) dX5_pack_32 ?_
        exact Y_sub [0, 1, 2] rfl (hJ33 _ _ _ h)
      · rw [if_pos c7] at h
        refine Y_ldc2 C (pc := 20) q_ct_RX5_145 dX5_pack_20 ?_
        refine Y_goto C (pc := 23) (tgt := 33) dX5_pack_23 (by decide) ?_
        exact Y_sub [0, 1, 2] rfl (hJ33 _ _ _ h)
  · refine Y_lload_n C (pc := 50) 1 0 rfl rfl dX5_pack_50 ?_
    cases h
    exact Y_lret C dX5_pack_51

set_option maxRecDepth 100000 in
set_option maxHeartbeats 4000000 in
theorem c_X5_admit {l : Launch} {D : va_G} {cA ρ : Nat → Nat} {σ : Sg} {τ : Tg} {k0 : Nat} {k1 : Nat} (hI : Inj ρ) (hk0 : kd k0 = (0, 5)) (hk1 : kd k1 = (0, 6)) {r : Sg × Tg} (h : f_X5_admit σ τ k0 k1 = some r) : Ct l yX5_admit cX5_admit 4 none 3 76 D cA ρ (Aw ρ) [.ref (ρ k0), .ref (ρ k1)] σ τ none r.1 r.2 := by
  refine Ct_of (by decide +kernel) (Nat.le_of_ble_eq_true rfl) (fun p e s m args below meth c C => ?_)
  have C : Ctx p l s m args meth c cX5_admit RX5 4 none D cA ρ (Aw ρ) := C
  have hW : Wr ρ (Aw ρ) := ⟨hI, fun k hk => ⟨k, hk, rfl⟩⟩
  unfold f_X5_admit at h
  refine Y_sub [0, 1] (lv' := [(0, .ref (ρ k0)), (1, .ref (ρ k1))]) rfl ?_
  refine Y_aload_n C (pc := 0) 0 0 rfl rfl dX5_admit_0 ?_
  refine Y_getI C (pc := 1) hk0 q_fi_RX5_79 dX5_admit_1 ?_
  refine Y_if_ne C (pc := 4) (tgt := 19) dX5_admit_4 (by decide) (fun c7 => ?_) (fun c7 => ?_)
  · rw [if_neg c7] at h
    refine Y_aload_n C (pc := 19) 0 0 rfl rfl dX5_admit_19 ?_
    refine Y_getR C (pc := 20) hk0 q_fi_RX5_25 (by decide) dX5_admit_20 ?_
    refine Y_aload_n C (pc := 23) 1 1 rfl rfl dX5_admit_23 ?_
    refine Y_aload_n C (pc := 24) 0 0 rfl rfl dX5_admit_24 ?_
    refine Y_getR C (pc := 25) hk0 q_fi_RX5_36 (by decide) dX5_admit_25 ?_
    obtain ⟨v1, hv1, h⟩ := Option.bind_eq_some_iff.mp h
    refine Y_callV C [.ref (ρ k1), .ref (ρ (k0 + 13))] [] [] (q_kr_5_13 hk0) rfl rfl (c_X1_load hI (q_kr_5_13 hk0) hk1 (q_kr_5_15 hk0) (q_lr_5_15 hk0) hv1) (fun _ h => h) q_cw_yX1_load q_ml_RX5_131 ⟨q_im_yX1_load, q_se_yX1_load⟩ ⟨⟨Nat.le_of_ble_eq_true rfl, Nat.le_of_ble_eq_true rfl⟩, ⟨Nat.zero_le _, Nat.zero_le _⟩, Nat.le_of_ble_eq_true rfl⟩ rfl rfl rfl dX5_admit_28 ?_
    refine Y_aload_n C (pc := 31) 0 0 rfl rfl dX5_admit_31 ?_
    refine Y_getR C (pc := 32) hk0 q_fi_RX5_25 (by decide) dX5_admit_32 ?_
    obtain ⟨v2, hv2, h⟩ := Option.bind_eq_some_iff.mp h
    refine Y_callV C [] [] [.int v2.1] (q_kr_5_13 hk0) rfl rfl (c_X1_lowest hI (q_kr_5_13 hk0) hv2) (fun _ h => h) q_cw_yX1_lowest q_ml_RX5_135 ⟨q_im_yX1_lowest, q_se_yX1_lowest⟩ ⟨⟨Nat.le_of_ble_eq_true rfl, Nat.le_of_ble_eq_true rfl⟩, ⟨Nat.zero_le _, Nat.zero_le _⟩, Nat.le_of_ble_eq_true rfl⟩ rfl rfl rfl dX5_admit_35 ?_
    refine Y_i2l C (pc := 38) dX5_admit_38 ?_
    refine Y_lstore_n C (pc := 39) (lv' := [(2, .long (Int32.toInt64 v2.1)), (0, .ref (ρ k0)), (1, .ref (ρ k1))]) 2 rfl (by decide) rfl dX5_admit_39 ?_
    refine Y_aload_n C (pc := 40) 0 1 rfl rfl dX5_admit_40 ?_
    refine Y_getR C (pc := 41) hk0 q_fi_RX5_18 (by decide) dX5_admit_41 ?_
    refine Y_lload_n C (pc := 44) 2 0 rfl rfl dX5_admit_44 ?_
    refine Y_bipush C (pc := 45) (v := (32 : Int32)) (by decide) dX5_admit_45 ?_
    refine Y_lshl C (pc := 47) dX5_admit_47 ?_
    refine Y_aload_n C (pc := 48) 0 1 rfl rfl dX5_admit_48 ?_
    refine Y_getR C (pc := 49) hk0 q_fi_RX5_25 (by decide) dX5_admit_49 ?_
    refine Y_getI C (pc := 52) (q_kr_5_13 hk0) q_fi_RX5_139 dX5_admit_52 ?_
    refine Y_i2l C (pc := 55) dX5_admit_55 ?_
    refine Y_bipush C (pc := 56) (v := (29 : Int32)) (by decide) dX5_admit_56 ?_
    refine Y_lshl C (pc := 58) dX5_admit_58 ?_
    refine Y_lor C (pc := 59) dX5_admit_59 ?_
    refine Y_aload_n C (pc := 60) 0 1 rfl rfl dX5_admit_60 ?_
    refine Y_getI C (pc := 61) hk0 q_fi_RX5_112 dX5_admit_61 ?_
    refine Y_i2l C (pc := 64) dX5_admit_64 ?_
    refine Y_bipush C (pc := 65) (v := (18 : Int32)) (by decide) dX5_admit_65 ?_
    refine Y_lshl C (pc := 67) dX5_admit_67 ?_
    refine Y_lor C (pc := 68) dX5_admit_68 ?_
    refine Y_aload_n C (pc := 69) 0 1 rfl rfl dX5_admit_69 ?_
    obtain ⟨v3, hv3, h⟩ := Option.bind_eq_some_iff.mp h
    refine Y_callV C [] [.long ((((Int32.toInt64 v2.1) <<< (Int32.toInt64 (32 : Int32) &&& 63)) ||| ((Int32.toInt64 (v2.2 (k0 + 4) 0)) <<< (Int32.toInt64 (29 : Int32) &&& 63))) ||| ((Int32.toInt64 (v2.2 k0 11)) <<< (Int32.toInt64 (18 : Int32) &&& 63))), .ref (ρ (k0 + 2))] [.long v3, .long ((((Int32.toInt64 v2.1) <<< (Int32.toInt64 (32 : Int32) &&& 63)) ||| ((Int32.toInt64 (v2.2 (k0 + 4) 0)) <<< (Int32.toInt64 (29 : Int32) &&& 63))) ||| ((Int32.toInt64 (v2.2 k0 11)) <<< (Int32.toInt64 (18 : Int32) &&& 63))), .ref (ρ (k0 + 2))] hk0 rfl rfl (c_X5_pack hk0 hv3) (fun _ h => h.elim) q_cw_yX5_pack q_ml_RX5_125 ⟨q_im_yX5_pack, q_se_yX5_pack⟩ ⟨⟨Nat.le_of_ble_eq_true rfl, Nat.le_of_ble_eq_true rfl⟩, ⟨Nat.zero_le _, Nat.zero_le _⟩, Nat.le_of_ble_eq_true rfl⟩ rfl rfl rfl dX5_admit_70 ?_
    refine Y_lor C (pc := 73) dX5_admit_73 ?_
    obtain ⟨v4, hv4, h⟩ := Option.bind_eq_some_iff.mp h
    refine Y_callV C [.long (((((Int32.toInt64 v2.1) <<< (Int32.toInt64 (32 : Int32) &&& 63)) ||| ((Int32.toInt64 (v2.2 (k0 + 4) 0)) <<< (Int32.toInt64 (29 : Int32) &&& 63))) ||| ((Int32.toInt64 (v2.2 k0 11)) <<< (Int32.toInt64 (18 : Int32) &&& 63))) ||| v3)] [] [] (q_kr_5_12 hk0) rfl rfl (c_X3_addOrdered hI (q_kr_5_12 hk0) hv4) (fun _ h => h) q_cw_yX3_addOrdered q_ml_RX5_142 ⟨q_im_yX3_addOrdered, q_se_yX3_addOrdered⟩ ⟨⟨Nat.le_of_ble_eq_true rfl, Nat.le_of_ble_eq_true rfl⟩, ⟨Nat.zero_le _, Nat.zero_le _⟩, Nat.le_of_ble_eq_true rfl⟩ rfl rfl rfl dX5_admit_74 ?_
    refine Y_aload_n C (pc := 77) 0 1 rfl rfl dX5_admit_77 ?_
    refine Y_dup C (pc := 78) rfl dX5_admit_78 ?_
    refine Y_getI C (pc := 79) hk0 q_fi_RX5_112 dX5_admit_79 ?_
    refine Y_iconst C (pc := 82) (v := (1 : Int32)) (by decide) dX5_admit_82 ?_
    refine Y_iadd C (pc := 83) dX5_admit_83 ?_
    refine Y_putI C (pc := 84) hW hk0 (q_lo_5 hk0) q_fp_RX5_112 dX5_admit_84 ?_
    cases h
    exact Y_vret C dX5_admit_87
  · rw [if_pos c7] at h
    refine Y_aload_n C (pc := 7) 0 0 rfl rfl dX5_admit_7 ?_
    refine Y_getR C (pc := 8) hk0 q_fi_RX5_18 (by decide) dX5_admit_8 ?_
    refine Y_aload_n C (pc := 11) 0 0 rfl rfl dX5_admit_11 ?_
    obtain ⟨v5, hv5, h⟩ := Option.bind_eq_some_iff.mp h
    refine Y_callV C [] [.ref (ρ (k0 + 2))] [.long v5, .ref (ρ (k0 + 2))] hk0 rfl rfl (c_X5_pack hk0 hv5) (fun _ h => h.elim) q_cw_yX5_pack q_ml_RX5_125 ⟨q_im_yX5_pack, q_se_yX5_pack⟩ ⟨⟨Nat.le_of_ble_eq_true rfl, Nat.le_of_ble_eq_true rfl⟩, ⟨Nat.zero_le _, Nat.zero_le _⟩, Nat.le_of_ble_eq_true rfl⟩ rfl rfl rfl dX5_admit_12 ?_
    obtain ⟨v6, hv6, h⟩ := Option.bind_eq_some_iff.mp h
    refine Y_callV C [.long v5] [] [] (q_kr_5_12 hk0) rfl rfl (c_X3_addLast hI (q_kr_5_12 hk0) hv6) (fun _ h => h) q_cw_yX3_addLast q_ml_RX5_128 ⟨q_im_yX3_addLast, q_se_yX3_addLast⟩ ⟨⟨Nat.le_of_ble_eq_true rfl, Nat.le_of_ble_eq_true rfl⟩, ⟨Nat.zero_le _, Nat.zero_le _⟩, Nat.le_of_ble_eq_true rfl⟩ rfl rfl rfl dX5_admit_15 ?_
    cases h
    exact Y_vret C dX5_admit_18

set_option maxRecDepth 100000 in
set_option maxHeartbeats 4000000 in
theorem c_X5_unpack {l : Launch} {D : va_G} {cA ρ : Nat → Nat} {σ : Sg} {τ : Tg} {k0 : Nat} {l1 : Int64} (hI : Inj ρ) (hk0 : kd k0 = (0, 5)) {r : Sg} (h : f_X5_unpack σ k0 l1 = some r) : Ct l yX5_unpack cX5_unpack 5 none 0 0 D cA ρ (Aw ρ) [.ref (ρ k0), .long l1] σ τ none r τ := by
  refine Ct_of (by decide +kernel) (Nat.le_of_ble_eq_true rfl) (fun p e s m args below meth c C => ?_)
  have C : Ctx p l s m args meth c cX5_unpack RX5 5 none D cA ρ (Aw ρ) := C
  have hW : Wr ρ (Aw ρ) := ⟨hI, fun k hk => ⟨k, hk, rfl⟩⟩
  unfold f_X5_unpack at h
  refine Y_sub [0, 1] (lv' := [(0, .ref (ρ k0)), (1, .long l1)]) rfl ?_
  refine Y_iconst C (pc := 0) (v := (0 : Int32)) (by decide) dX5_unpack_0 ?_
  refine Y_istore_n C (pc := 1) (lv' := [(3, .int (0 : Int32)), (0, .ref (ρ k0)), (1, .long l1)]) 3 rfl (by decide) rfl dX5_unpack_1 ?_
  obtain ⟨e9, he9, h⟩ := Option.bind_eq_some_iff.mp h
  refine Y_sub [1, 2, 0] (lv' := [(0, .ref (ρ k0)), (1, .long l1), (3, .int (0 : Int32))]) rfl ?_
  refine lo_rule (f := (f_X5_unpack_L2 l1 k0)) (YS := fun s1 => Y p l e (Rm 0 0) s m args below meth c 5 D cA ρ (Aw ρ) 0 0 (MQ below (QC D cA ρ (Aw ρ) none r τ) args s 0 0 (Aw ρ)) s1.2 τ 2 [(0, .ref (ρ k0)), (1, .long l1), (3, .int s1.1)] []) (YE := fun e9 => Y p l e (Rm 0 0) s m args below meth c 5 D cA ρ (Aw ρ) 0 0 (MQ below (QC D cA ρ (Aw ρ) none r τ) args s 0 0 (Aw ρ)) e9 τ 45 [] []) ?_ he9 ?_
  · intro s1 x h hLp hE
    unfold f_X5_unpack_L2 at h
    have hJ38 : ∀ (j2 : Int32) (j3 : Int32) (j4 : Int32) (sj5 : Sg), f_X5_unpack_J38 k0 j2 j3 j4 sj5 = some x → Y p l e (Rm 0 0) s m args below meth c 5 D cA ρ (Aw ρ) 0 0 (MQ below (QC D cA ρ (Aw ρ) none r τ) args s 0 0 (Aw ρ)) sj5 τ 38 [(0, .ref (ρ k0)), (1, .long l1), (3, .int j2)] [.int j3, .int j4, .ref (ρ (k0 + 13))] := by
      intro j2 j3 j4 sj5 h
      unfold f_X5_unpack_J38 at h
      obtain ⟨s6, hs6, h⟩ := Option.bind_eq_some_iff.mp h
      refine Y_iast C (pc := 38) hW (q_kr_5_15 hk0) (q_lr_5_15 hk0) hs6 dX5_unpack_38 ?_
      refine Y_iinc C (pc := 39) (v := (j2 + 1)) (lv' := [(3, .int (j2 + 1)), (0, .ref (ρ k0)), (1, .long l1)]) 2 rfl (congrArg (fun z => j2 + z) (by decide : Int32.ofInt (1) = (1))) (by decide) rfl dX5_unpack_39 ?_
      refine Y_goto C (pc := 42) (tgt := 2) dX5_unpack_42 (by decide) ?_
      have h := Option.some.inj h
      exact Y_sub [1, 2, 0] rfl (hLp _ h.symm)
    refine Y_iload_n C (pc := 2) 3 2 rfl rfl dX5_unpack_2 ?_
    refine Y_bipush C (pc := 3) (v := (6 : Int32)) (by decide) dX5_unpack_3 ?_
    refine Y_icmp_ge C (pc := 5) (tgt := 45) dX5_unpack_5 (by decide) (fun c8 => ?_) (fun c8 => ?_)
    · rw [if_pos c8] at h
      have h := Option.some.inj h
      exact Y_sub [] rfl (hE _ h.symm)
    · rw [if_neg c8] at h
      refine Y_lload_n C (pc := 8) 1 1 rfl rfl dX5_unpack_8 ?_
      refine Y_iconst C (pc := 9) (v := (3 : Int32)) (by decide) dX5_unpack_9 ?_
      refine Y_iload_n C (pc := 10) 3 2 rfl rfl dX5_unpack_10 ?_
      refine Y_imul C (pc := 11) dX5_unpack_11 ?_
      refine Y_lshr C (pc := 12) dX5_unpack_12 ?_
      refine Y_ldc2 C (pc := 13) q_ct_RX5_145 dX5_unpack_13 ?_
      refine Y_land C (pc := 16) dX5_unpack_16 ?_
      refine Y_l2i C (pc := 17) dX5_unpack_17 ?_
      refine Y_istore C (pc := 18) (lv' := [(4, .int (Int64.toInt32 ((l1 >>> (Int32.toInt64 ((3 : Int32) * s1.1) &&& 63)) &&& (7 : Int64)))), (0, .ref (ρ k0)), (1, .long l1), (3, .int s1.1)]) (by decide) rfl dX5_unpack_18 ?_
      refine Y_aload_n C (pc := 20) 0 1 rfl rfl dX5_unpack_20 ?_
      refine Y_getR C (pc := 21) hk0 q_fi_RX5_36 (by decide) dX5_unpack_21 ?_
      refine Y_iload_n C (pc := 24) 3 3 rfl rfl dX5_unpack_24 ?_
      refine Y_iload C (pc := 25) 0 rfl dX5_unpack_25 ?_
      refine Y_bipush C (pc := 27) (v := (7 : Int32)) (by decide) dX5_unpack_27 ?_
      refine Y_icmp_ne C (pc := 29) (tgt := 36) dX5_unpack_29 (by decide) (fun c7 => ?_) (fun c7 => ?_)
      · rw [if_neg c7] at h
        refine Y_iload C (pc := 36) 0 rfl dX5_unpack_36 ?_
        exact Y_sub [1, 2, 3] rfl (hJ38 _ _ _ _ h)
      · rw [if_pos c7] at h
        refine Y_iconst C (pc := 32) (v := (-1 : Int32)) (by decide) dX5_unpack_32 ?_
        refine Y_goto C (pc := 33) (tgt := 38) dX5_unpack_33 (by decide) ?_
        exact Y_sub [1, 2, 3] rfl (hJ38 _ _ _ _ h)
  · cases h
    exact Y_vret C dX5_unpack_45

set_option maxRecDepth 100000 in
set_option maxHeartbeats 4000000 in
theorem c_X8_numberOf {l : Launch} {D : va_G} {cA ρ : Nat → Nat} {σ : Sg} {τ : Tg} {k0 : Nat} {i1 : Int32} (hk0 : (kd k0).1 = 1) {r : Int32} (h : f_X8_numberOf σ k0 i1 = some r) : Ct l yX8_numberOf cX8_numberOf 6 (some .int) 2 41 D cA ρ A0 [.ref (ρ k0), .int i1] σ τ (some (.int r)) σ τ := by
  refine Ct_of (by decide +kernel) (Nat.le_of_ble_eq_true rfl) (fun p e s m args below meth c C => ?_)
  have C : Ctx p l s m args meth c cX8_numberOf RX8 6 (some .int) D cA ρ A0 := C
  unfold f_X8_numberOf at h
  refine Y_sub [0, 1] (lv' := [(0, .ref (ρ k0)), (1, .int i1)]) rfl ?_
  refine Y_iconst C (pc := 0) (v := (0 : Int32)) (by decide) dX8_numberOf_0 ?_
  refine Y_istore_n C (pc := 1) (lv' := [(2, .int (0 : Int32)), (0, .ref (ρ k0)), (1, .int i1)]) 2 rfl (by decide) rfl dX8_numberOf_1 ?_
  refine Y_iconst C (pc := 2) (v := (0 : Int32)) (by decide) dX8_numberOf_2 ?_
  refine Y_istore_n C (pc := 3) (lv' := [(3, .int (0 : Int32)), (2, .int (0 : Int32)), (0, .ref (ρ k0)), (1, .int i1)]) 3 rfl (by decide) rfl dX8_numberOf_3 ?_
  obtain ⟨e12, he12, h⟩ := Option.bind_eq_some_iff.mp h
  refine Y_sub [2, 3, 1, 0] (lv' := [(0, .ref (ρ k0)), (1, .int i1), (2, .int (0 : Int32)), (3, .int (0 : Int32))]) rfl ?_
  refine lo_rule (f := (f_X8_numberOf_L4 i1 σ k0)) (YS := fun s1 => Y p l e (Rm 2 41) s m args below meth c 6 D cA ρ A0 0 0 (MQ below (QC D cA ρ A0 (some (.int r)) σ τ) args s 0 0 A0) σ τ 4 [(0, .ref (ρ k0)), (1, .int i1), (2, .int s1.1), (3, .int s1.2)] []) (YE := fun e12 => Y p l e (Rm 2 41) s m args below meth c 6 D cA ρ A0 0 0 (MQ below (QC D cA ρ A0 (some (.int r)) σ τ) args s 0 0 A0) σ τ 66 [(2, .int e12)] []) ?_ he12 ?_
  · intro s1 x h hLp hE
    unfold f_X8_numberOf_L4 at h
    refine Y_iload_n C (pc := 4) 3 3 rfl rfl dX8_numberOf_4 ?_
    refine Y_iload_n C (pc := 5) 1 1 rfl rfl dX8_numberOf_5 ?_
    refine Y_icmp_ge C (pc := 6) (tgt := 66) dX8_numberOf_6 (by decide) (fun c11 => ?_) (fun c11 => ?_)
    · rw [if_pos c11] at h
      have h := Option.some.inj h
      exact Y_sub [2] rfl (hE _ h.symm)
    · rw [if_neg c11] at h
      refine Y_iconst C (pc := 9) (v := (0 : Int32)) (by decide) dX8_numberOf_9 ?_
      refine Y_istore C (pc := 10) (lv' := [(4, .int (0 : Int32)), (0, .ref (ρ k0)), (1, .int i1), (2, .int s1.1), (3, .int s1.2)]) (by decide) rfl dX8_numberOf_10 ?_
      refine Y_iload_n C (pc := 12) 3 4 rfl rfl dX8_numberOf_12 ?_
      refine Y_iconst C (pc := 13) (v := (1 : Int32)) (by decide) dX8_numberOf_13 ?_
      refine Y_iadd C (pc := 14) dX8_numberOf_14 ?_
      refine Y_istore C (pc := 15) (lv' := [(5, .int (s1.2 + (1 : Int32))), (4, .int (0 : Int32)), (0, .ref (ρ k0)), (1, .int i1), (2, .int s1.1), (3, .int s1.2)]) (by decide) rfl dX8_numberOf_15 ?_
      obtain ⟨e9, he9, h⟩ := Option.bind_eq_some_iff.mp h
      refine Y_sub [2, 3, 4, 5, 1, 0] (lv' := [(0, .ref (ρ k0)), (1, .int i1), (2, .int s1.1), (3, .int s1.2), (4, .int (0 : Int32)), (5, .int (s1.2 + (1 : Int32)))]) rfl ?_
      refine lo_rule (f := (f_X8_numberOf_L17 i1 σ k0 s1)) (YS := fun s2 => Y p l e (Rm 2 41) s m args below meth c 6 D cA ρ A0 0 0 (MQ below (QC D cA ρ A0 (some (.int r)) σ τ) args s 0 0 A0) σ τ 17 [(0, .ref (ρ k0)), (1, .int i1), (2, .int s1.1), (3, .int s1.2), (4, .int s2.1), (5, .int s2.2)] []) (YE := fun e9 => Y p l e (Rm 2 41) s m args below meth c 6 D cA ρ A0 0 0 (MQ below (QC D cA ρ A0 (some (.int r)) σ τ) args s 0 0 A0) σ τ 46 [(0, .ref (ρ k0)), (1, .int i1), (2, .int s1.1), (3, .int s1.2), (4, .int e9)] []) ?_ he9 ?_
      · intro s2 x h hLp hE
        unfold f_X8_numberOf_L17 at h
        have hJ40 : ∀ (j5 : Int32) (j6 : Int32), f_X8_numberOf_J40 j5 j6 = some x → Y p l e (Rm 2 41) s m args below meth c 6 D cA ρ A0 0 0 (MQ below (QC D cA ρ A0 (some (.int r)) σ τ) args s 0 0 A0) σ τ 40 [(0, .ref (ρ k0)), (1, .int i1), (2, .int s1.1), (3, .int s1.2), (4, .int j5), (5, .int j6)] [] := by
          intro j5 j6 h
          unfold f_X8_numberOf_J40 at h
          refine Y_iinc C (pc := 40) (v := (j6 + 1)) (lv' := [(5, .int (j6 + 1)), (0, .ref (ρ k0)), (1, .int i1), (2, .int s1.1), (3, .int s1.2), (4, .int j5)]) 5 rfl (congrArg (fun z => j6 + z) (by decide : Int32.ofInt (1) = (1))) (by decide) rfl dX8_numberOf_40 ?_
          refine Y_goto C (pc := 43) (tgt := 17) dX8_numberOf_43 (by decide) ?_
          have h := Option.some.inj h
          exact Y_sub [1, 2, 3, 4, 5, 0] rfl (hLp _ h.symm)
        refine Y_iload C (pc := 17) 5 rfl dX8_numberOf_17 ?_
        refine Y_iload_n C (pc := 19) 1 1 rfl rfl dX8_numberOf_19 ?_
        refine Y_icmp_ge C (pc := 20) (tgt := 46) dX8_numberOf_20 (by decide) (fun c8 => ?_) (fun c8 => ?_)
        · rw [if_pos c8] at h
          have h := Option.some.inj h
          exact Y_sub [0, 1, 2, 3, 4] rfl (hE _ h.symm)
        · rw [if_neg c8] at h
          refine Y_aload_n C (pc := 23) 0 0 rfl rfl dX8_numberOf_23 ?_
          refine Y_iload C (pc := 24) 5 rfl dX8_numberOf_24 ?_
          obtain ⟨v3, hv3, h⟩ := Option.bind_eq_some_iff.mp h
          refine Y_callS C [.ref (ρ k0), .int s2.2] [] [.int v3] (c_X8_item hk0 hv3) (fun _ h => h.elim) q_cw_yX8_item q_ml_RX8_119 q_st_yX8_item ⟨⟨Nat.le_of_ble_eq_true rfl, Nat.le_of_ble_eq_true rfl⟩, ⟨Nat.zero_le _, Nat.zero_le _⟩, Nat.le_of_ble_eq_true rfl⟩ rfl rfl rfl dX8_numberOf_26 ?_
          refine Y_aload_n C (pc := 29) 0 0 rfl rfl dX8_numberOf_29 ?_
          refine Y_iload_n C (pc := 30) 3 3 rfl rfl dX8_numberOf_30 ?_
          obtain ⟨v4, hv4, h⟩ := Option.bind_eq_some_iff.mp h
          refine Y_callS C [.ref (ρ k0), .int s1.2] [.int v3] [.int v4, .int v3] (c_X8_item hk0 hv4) (fun _ h => h.elim) q_cw_yX8_item q_ml_RX8_119 q_st_yX8_item ⟨⟨Nat.le_of_ble_eq_true rfl, Nat.le_of_ble_eq_true rfl⟩, ⟨Nat.zero_le _, Nat.zero_le _⟩, Nat.le_of_ble_eq_true rfl⟩ rfl rfl rfl dX8_numberOf_31 ?_
          refine Y_icmp_ge C (pc := 34) (tgt := 40) dX8_numberOf_34 (by decide) (fun c7 => ?_) (fun c7 => ?_)
          · rw [if_pos c7] at h
            exact Y_sub [0, 1, 2, 3, 4, 5] rfl (hJ40 _ _ h)
          · rw [if_neg c7] at h
            refine Y_iinc C (pc := 37) (v := (s2.1 + 1)) (lv' := [(4, .int (s2.1 + 1)), (0, .ref (ρ k0)), (1, .int i1), (2, .int s1.1), (3, .int s1.2), (5, .int s2.2)]) 4 rfl (congrArg (fun z => s2.1 + z) (by decide : Int32.ofInt (1) = (1))) (by decide) rfl dX8_numberOf_37 ?_
            exact Y_sub [1, 2, 3, 4, 0, 5] rfl (hJ40 _ _ h)
      · refine Y_iload_n C (pc := 46) 2 2 rfl rfl dX8_numberOf_46 ?_
        refine Y_iload C (pc := 47) 4 rfl dX8_numberOf_47 ?_
        refine Y_iload_n C (pc := 49) 1 1 rfl rfl dX8_numberOf_49 ?_
        refine Y_iconst C (pc := 50) (v := (1 : Int32)) (by decide) dX8_numberOf_50 ?_
        refine Y_isub C (pc := 51) dX8_numberOf_51 ?_
        refine Y_iload_n C (pc := 52) 3 3 rfl rfl dX8_numberOf_52 ?_
        refine Y_isub C (pc := 53) dX8_numberOf_53 ?_
        obtain ⟨v10, hv10, h⟩ := Option.bind_eq_some_iff.mp h
        refine Y_callS C [.int ((i1 - (1 : Int32)) - s1.2)] [.int e9, .int s1.1] [.int v10, .int e9, .int s1.1] (c_X8_factorial  hv10) (fun _ h => h.elim) q_cw_yX8_factorial q_ml_RX8_126 q_st_yX8_factorial ⟨⟨Nat.le_of_ble_eq_true rfl, Nat.le_of_ble_eq_true rfl⟩, ⟨Nat.zero_le _, Nat.zero_le _⟩, Nat.le_of_ble_eq_true rfl⟩ rfl rfl rfl dX8_numberOf_54 ?_
        refine Y_imul C (pc := 57) dX8_numberOf_57 ?_
        refine Y_iadd C (pc := 58) dX8_numberOf_58 ?_
        refine Y_istore_n C (pc := 59) (lv' := [(2, .int (s1.1 + (e9 * v10))), (0, .ref (ρ k0)), (1, .int i1), (3, .int s1.2), (4, .int e9)]) 2 rfl (by decide) rfl dX8_numberOf_59 ?_
        refine Y_iinc C (pc := 60) (v := (s1.2 + 1)) (lv' := [(3, .int (s1.2 + 1)), (2, .int (s1.1 + (e9 * v10))), (0, .ref (ρ k0)), (1, .int i1), (4, .int e9)]) 3 rfl (congrArg (fun z => s1.2 + z) (by decide : Int32.ofInt (1) = (1))) (by decide) rfl dX8_numberOf_60 ?_
        refine Y_goto C (pc := 63) (tgt := 4) dX8_numberOf_63 (by decide) ?_
        have h := Option.some.inj h
        exact Y_sub [2, 3, 1, 0] rfl (hLp _ h.symm)
  · refine Y_iload_n C (pc := 66) 2 0 rfl rfl dX8_numberOf_66 ?_
    cases h
    exact Y_iret C dX8_numberOf_67

set_option maxRecDepth 100000 in
set_option maxHeartbeats 4000000 in
theorem c_X5_visit {l : Launch} {D : va_G} {cA ρ : Nat → Nat} {σ : Sg} {τ : Tg} {k0 : Nat} {k1 : Nat} (hI : Inj ρ) (hk0 : kd k0 = (0, 5)) (hk1 : kd k1 = (0, 6)) {r : Int32 × Sg} (h : f_X5_visit σ k0 k1 = some r) : Ct l yX5_visit cX5_visit 4 (some .boolean) 3 76 D cA ρ (Aw ρ) [.ref (ρ k0), .ref (ρ k1)] σ τ (some (.int r.1)) r.2 τ := by
  refine Ct_of (by decide +kernel) (Nat.le_of_ble_eq_true rfl) (fun p e s m args below meth c C => ?_)
  have C : Ctx p l s m args meth c cX5_visit RX5 4 (some .boolean) D cA ρ (Aw ρ) := C
  have hW : Wr ρ (Aw ρ) := ⟨hI, fun k hk => ⟨k, hk, rfl⟩⟩
  unfold f_X5_visit at h
  refine Y_sub [0, 1] (lv' := [(0, .ref (ρ k0)), (1, .ref (ρ k1))]) rfl ?_
  refine Y_aload_n C (pc := 0) 0 0 rfl rfl dX5_visit_0 ?_
  refine Y_getR C (pc := 1) hk0 q_fi_RX5_25 (by decide) dX5_visit_1 ?_
  refine Y_aload_n C (pc := 4) 1 1 rfl rfl dX5_visit_4 ?_
  refine Y_aload_n C (pc := 5) 0 0 rfl rfl dX5_visit_5 ?_
  refine Y_getR C (pc := 6) hk0 q_fi_RX5_36 (by decide) dX5_visit_6 ?_
  obtain ⟨v1, hv1, h⟩ := Option.bind_eq_some_iff.mp h
  refine Y_callV C [.ref (ρ k1), .ref (ρ (k0 + 13))] [] [] (q_kr_5_13 hk0) rfl rfl (c_X1_load hI (q_kr_5_13 hk0) hk1 (q_kr_5_15 hk0) (q_lr_5_15 hk0) hv1) (fun _ h => h) q_cw_yX1_load q_ml_RX5_131 ⟨q_im_yX1_load, q_se_yX1_load⟩ ⟨⟨Nat.le_of_ble_eq_true rfl, Nat.le_of_ble_eq_true rfl⟩, ⟨Nat.zero_le _, Nat.zero_le _⟩, Nat.le_of_ble_eq_true rfl⟩ rfl rfl rfl dX5_visit_9 ?_
  refine Y_aload_n C (pc := 12) 0 0 rfl rfl dX5_visit_12 ?_
  refine Y_getR C (pc := 13) hk0 q_fi_RX5_25 (by decide) dX5_visit_13 ?_
  obtain ⟨v2, hv2, h⟩ := Option.bind_eq_some_iff.mp h
  refine Y_callV C [] [] [.int v2.1] (q_kr_5_13 hk0) rfl rfl (c_X1_lowest hI (q_kr_5_13 hk0) hv2) (fun _ h => h) q_cw_yX1_lowest q_ml_RX5_135 ⟨q_im_yX1_lowest, q_se_yX1_lowest⟩ ⟨⟨Nat.le_of_ble_eq_true rfl, Nat.le_of_ble_eq_true rfl⟩, ⟨Nat.zero_le _, Nat.zero_le _⟩, Nat.le_of_ble_eq_true rfl⟩ rfl rfl rfl dX5_visit_16 ?_
  refine Y_istore_n C (pc := 19) (lv' := [(2, .int v2.1), (0, .ref (ρ k0)), (1, .ref (ρ k1))]) 2 rfl (by decide) rfl dX5_visit_19 ?_
  refine Y_aload_n C (pc := 20) 1 2 rfl rfl dX5_visit_20 ?_
  refine Y_getI C (pc := 21) hk1 q_fi_RX5_106 dX5_visit_21 ?_
  refine Y_aload_n C (pc := 24) 0 1 rfl rfl dX5_visit_24 ?_
  refine Y_getR C (pc := 25) hk0 q_fi_RX5_25 (by decide) dX5_visit_25 ?_
  refine Y_getI C (pc := 28) (q_kr_5_13 hk0) q_fi_RX5_139 dX5_visit_28 ?_
  refine Y_isub C (pc := 31) dX5_visit_31 ?_
  refine Y_istore_n C (pc := 32) (lv' := [(3, .int ((v2.2 k1 0) - (v2.2 (k0 + 4) 0))), (2, .int v2.1), (0, .ref (ρ k0)), (1, .ref (ρ k1))]) 3 rfl (by decide) rfl dX5_visit_32 ?_
  refine Y_aload_n C (pc := 33) 0 2 rfl rfl dX5_visit_33 ?_
  refine Y_dup C (pc := 34) rfl dX5_visit_34 ?_
  refine Y_getI C (pc := 35) hk0 q_fi_RX5_53 dX5_visit_35 ?_
  refine Y_iconst C (pc := 38) (v := (1 : Int32)) (by decide) dX5_visit_38 ?_
  refine Y_iadd C (pc := 39) dX5_visit_39 ?_
  refine Y_putI C (pc := 40) hW hk0 (q_lo_5 hk0) q_fp_RX5_53 dX5_visit_40 ?_
  refine Y_aload_n C (pc := 43) 0 2 rfl rfl dX5_visit_43 ?_
  refine Y_getR C (pc := 44) hk0 q_fi_RX5_9 (by decide) dX5_visit_44 ?_
  refine Y_iload_n C (pc := 47) 3 0 rfl rfl dX5_visit_47 ?_
  refine Y_aload_n C (pc := 48) 0 2 rfl rfl dX5_visit_48 ?_
  refine Y_getR C (pc := 49) hk0 q_fi_RX5_9 (by decide) dX5_visit_49 ?_
  refine Y_iload_n C (pc := 52) 3 0 rfl rfl dX5_visit_52 ?_
  obtain ⟨v3, hv3, h⟩ := Option.bind_eq_some_iff.mp h
  refine Y_callSN C [.ref (ρ (k0 + 1)), .int ((v2.2 k1 0) - (v2.2 (k0 + 4) 0))] [.int ((v2.2 k1 0) - (v2.2 (k0 + 4) 0)), .ref (ρ (k0 + 1))] [.int v3, .int ((v2.2 k1 0) - (v2.2 (k0 + 4) 0)), .ref (ρ (k0 + 1))] (c_X8_item (q_kr_5_2 hk0) hv3) (fun _ h => h.elim) q_cw_yX8_item q_mn_RX5_147 q_st_yX8_item ⟨⟨Nat.le_of_ble_eq_true rfl, Nat.le_of_ble_eq_true rfl⟩, ⟨Nat.zero_le _, Nat.zero_le _⟩, Nat.le_of_ble_eq_true rfl⟩ rfl rfl rfl dX5_visit_53 ?_
  refine Y_iconst C (pc := 56) (v := (1 : Int32)) (by decide) dX5_visit_56 ?_
  refine Y_iadd C (pc := 57) dX5_visit_57 ?_
  obtain ⟨v4, hv4, h⟩ := Option.bind_eq_some_iff.mp h
  refine Y_callSN C [.ref (ρ (k0 + 1)), .int ((v2.2 k1 0) - (v2.2 (k0 + 4) 0)), .int (v3 + (1 : Int32))] [] [] (c_X8_setItem hI (q_kr_5_2 hk0) (q_lr_5_2 hk0) hv4) (fun _ h => h) q_cw_yX8_setItem q_mn_RX5_151 q_st_yX8_setItem ⟨⟨Nat.le_of_ble_eq_true rfl, Nat.le_of_ble_eq_true rfl⟩, ⟨Nat.zero_le _, Nat.zero_le _⟩, Nat.le_of_ble_eq_true rfl⟩ rfl rfl rfl dX5_visit_58 ?_
  refine Y_iload_n C (pc := 61) 2 1 rfl rfl dX5_visit_61 ?_
  refine Y_aload_n C (pc := 62) 0 2 rfl rfl dX5_visit_62 ?_
  refine Y_getI C (pc := 63) hk0 q_fi_RX5_46 dX5_visit_63 ?_
  refine Y_icmp_lt C (pc := 66) (tgt := 81) dX5_visit_66 (by decide) (fun c7 => ?_) (fun c7 => ?_)
  · rw [if_pos c7] at h
    refine Y_aload_n C (pc := 81) 0 2 rfl rfl dX5_visit_81 ?_
    refine Y_getR C (pc := 82) hk0 q_fi_RX5_25 (by decide) dX5_visit_82 ?_
    refine Y_getI C (pc := 85) (q_kr_5_13 hk0) q_fi_RX5_139 dX5_visit_85 ?_
    refine Y_if_le C (pc := 88) (tgt := 93) dX5_visit_88 (by decide) (fun c6 => ?_) (fun c6 => ?_)
    · rw [if_pos c6] at h
      refine Y_aload_n C (pc := 93) 0 2 rfl rfl dX5_visit_93 ?_
      refine Y_iload_n C (pc := 94) 2 1 rfl rfl dX5_visit_94 ?_
      refine Y_putI C (pc := 95) hW hk0 (q_lo_5 hk0) q_fp_RX5_46 dX5_visit_95 ?_
      refine Y_aload_n C (pc := 98) 0 2 rfl rfl dX5_visit_98 ?_
      refine Y_aload_n C (pc := 99) 0 2 rfl rfl dX5_visit_99 ?_
      refine Y_getR C (pc := 100) hk0 q_fi_RX5_36 (by decide) dX5_visit_100 ?_
      refine Y_aload_n C (pc := 103) 1 3 rfl rfl dX5_visit_103 ?_
      refine Y_getI C (pc := 104) hk1 q_fi_RX5_106 dX5_visit_104 ?_
      obtain ⟨v5, hv5, h⟩ := Option.bind_eq_some_iff.mp h
      refine Y_callSN C [.ref (ρ (k0 + 13)), .int (((si v4 k0 3 v2.1)) k1 0)] [.ref (ρ k0)] [.int v5, .ref (ρ k0)] (c_X8_numberOf (q_kr_5_15 hk0) hv5) (fun _ h => h.elim) q_cw_yX8_numberOf q_mn_RX5_155 q_st_yX8_numberOf ⟨⟨Nat.le_of_ble_eq_true rfl, Nat.le_of_ble_eq_true rfl⟩, ⟨Nat.zero_le _, Nat.zero_le _⟩, Nat.le_of_ble_eq_true rfl⟩ rfl rfl rfl dX5_visit_107 ?_
      refine Y_putI C (pc := 110) hW hk0 (q_lo_5 hk0) q_fp_RX5_50 dX5_visit_110 ?_
      refine Y_aload_n C (pc := 113) 0 2 rfl rfl dX5_visit_113 ?_
      refine Y_dup C (pc := 114) rfl dX5_visit_114 ?_
      refine Y_getI C (pc := 115) hk0 q_fi_RX5_59 dX5_visit_115 ?_
      refine Y_iconst C (pc := 118) (v := (1 : Int32)) (by decide) dX5_visit_118 ?_
      refine Y_iadd C (pc := 119) dX5_visit_119 ?_
      refine Y_putI C (pc := 120) hW hk0 (q_lo_5 hk0) q_fp_RX5_59 dX5_visit_120 ?_
      refine Y_iconst C (pc := 123) (v := (0 : Int32)) (by decide) dX5_visit_123 ?_
      cases h
      exact Y_zret (x := (0 : Int32)) (by decide) C dX5_visit_124
    · rw [if_neg c6] at h
      refine Y_iconst C (pc := 91) (v := (1 : Int32)) (by decide) dX5_visit_91 ?_
      cases h
      exact Y_zret (x := (1 : Int32)) (by decide) C dX5_visit_92
  · rw [if_neg c7] at h
    refine Y_aload_n C (pc := 69) 0 2 rfl rfl dX5_visit_69 ?_
    refine Y_dup C (pc := 70) rfl dX5_visit_70 ?_
    refine Y_getI C (pc := 71) hk0 q_fi_RX5_56 dX5_visit_71 ?_
    refine Y_iconst C (pc := 74) (v := (1 : Int32)) (by decide) dX5_visit_74 ?_
    refine Y_iadd C (pc := 75) dX5_visit_75 ?_
    refine Y_putI C (pc := 76) hW hk0 (q_lo_5 hk0) q_fp_RX5_56 dX5_visit_76 ?_
    refine Y_iconst C (pc := 79) (v := (0 : Int32)) (by decide) dX5_visit_79 ?_
    cases h
    exact Y_zret (x := (0 : Int32)) (by decide) C dX5_visit_80

set_option maxRecDepth 100000 in
set_option maxHeartbeats 4000000 in
theorem c_X7_suits {l : Launch} {D : va_G} {cA ρ : Nat → Nat} {σ : Sg} {τ : Tg} {k0 : Nat} {k1 : Nat} {i2 : Int32} {i3 : Int32} (hk0 : kd k0 = (0, 7)) (hk1 : kd k1 = (0, 6)) {r : Int32} (h : f_X7_suits σ k0 k1 i2 i3 = some r) : Ct l yX7_suits cX7_suits 7 (some .boolean) 1 23 D cA ρ A0 [.ref (ρ k0), .ref (ρ k1), .int i2, .int i3] σ τ (some (.int r)) σ τ := by
  refine Ct_of (by decide +kernel) (Nat.le_of_ble_eq_true rfl) (fun p e s m args below meth c C => ?_)
  have C : Ctx p l s m args meth c cX7_suits RX7 7 (some .boolean) D cA ρ A0 := C
  unfold f_X7_suits at h
  refine Y_sub [0, 1, 2, 3] (lv' := [(0, .ref (ρ k0)), (1, .ref (ρ k1)), (2, .int i2), (3, .int i3)]) rfl ?_
  have hJ29 : f_X7_suits_J29 σ k0 k1 i2 i3 = some r → Y p l e (Rm 1 23) s m args below meth c 7 D cA ρ A0 0 0 (MQ below (QC D cA ρ A0 (some (.int r)) σ τ) args s 0 0 A0) σ τ 29 [(0, .ref (ρ k0)), (1, .ref (ρ k1)), (2, .int i2), (3, .int i3)] [] := by
    intro  h
    unfold f_X7_suits_J29 at h
    refine Y_iconst C (pc := 29) (v := (0 : Int32)) (by decide) dX7_suits_29 ?_
    refine Y_istore C (pc := 30) (lv' := [(4, .int (0 : Int32)), (0, .ref (ρ k0)), (1, .ref (ρ k1)), (2, .int i2), (3, .int i3)]) (by decide) rfl dX7_suits_30 ?_
    obtain ⟨e6, he6, h⟩ := Option.bind_eq_some_iff.mp h
    refine Y_sub [1, 2, 3, 4, 0] (lv' := [(0, .ref (ρ k0)), (1, .ref (ρ k1)), (2, .int i2), (3, .int i3), (4, .int (0 : Int32))]) rfl ?_
    refine lo_rule (f := (f_X7_suits_L32 σ k0 k1 i2 i3)) (YS := fun s1 => Y p l e (Rm 1 23) s m args below meth c 7 D cA ρ A0 0 0 (MQ below (QC D cA ρ A0 (some (.int r)) σ τ) args s 0 0 A0) σ τ 32 [(0, .ref (ρ k0)), (1, .ref (ρ k1)), (2, .int i2), (3, .int i3), (4, .int s1)] []) (YE := fun e6 => (∀ e7, e6 = (.inl e7) → Y p l e (Rm 1 23) s m args below meth c 7 D cA ρ A0 0 0 (MQ below (QC D cA ρ A0 (some (.int r)) σ τ) args s 0 0 A0) σ τ 64 [] []) ∧ (∀ e8, e6 = (.inr e8) → Y p l e (Rm 1 23) s m args below meth c 7 D cA ρ A0 0 0 (MQ below (QC D cA ρ A0 (some (.int r)) σ τ) args s 0 0 A0) σ τ 72 [(0, .ref (ρ k0)), (1, .ref (ρ k1)), (2, .int i2), (3, .int i3)] [])) ?_ he6 ?_
    · intro s1 x h hLp hE
      have hE0 : ∀ y, x = .inr (.inl y) → _ := fun y q => (hE _ q).1 y rfl
      have hE1 : ∀ y, x = .inr (.inr y) → _ := fun y q => (hE _ q).2 y rfl
      unfold f_X7_suits_L32 at h
      refine Y_iload C (pc := 32) 4 rfl dX7_suits_32 ?_
      refine Y_aload_n C (pc := 34) 0 0 rfl rfl dX7_suits_34 ?_
      refine Y_getI C (pc := 35) hk0 q_fi_RX7_24 dX7_suits_35 ?_
      refine Y_icmp_ge C (pc := 38) (tgt := 72) dX7_suits_38 (by decide) (fun c5 => ?_) (fun c5 => ?_)
      · rw [if_pos c5] at h
        have h := Option.some.inj h
        exact Y_sub [0, 1, 2, 3] rfl (hE1 _ h.symm)
      · rw [if_neg c5] at h
        refine Y_aload_n C (pc := 41) 1 1 rfl rfl dX7_suits_41 ?_
        refine Y_getR C (pc := 42) hk1 q_fi_RX7_65 (by decide) dX7_suits_42 ?_
        refine Y_iload C (pc := 45) 4 rfl dX7_suits_45 ?_
        refine Y_iload_n C (pc := 47) 2 2 rfl rfl dX7_suits_47 ?_
        obtain ⟨v2, hv2, h⟩ := Option.bind_eq_some_iff.mp h
        refine Y_callSN C [.ref (ρ (k1 + 3)), .int s1, .int i2] [] [.int v2] (c_X8_at (q_kr_6_3 hk1) hv2) (fun _ h => h.elim) q_cw_yX8_at q_mn_RX7_68 q_st_yX8_at ⟨⟨Nat.le_of_ble_eq_true rfl, Nat.le_of_ble_eq_true rfl⟩, ⟨Nat.zero_le _, Nat.zero_le _⟩, Nat.le_of_ble_eq_true rfl⟩ rfl rfl rfl dX7_suits_48 ?_
        refine Y_aload_n C (pc := 51) 1 1 rfl rfl dX7_suits_51 ?_
        refine Y_getR C (pc := 52) hk1 q_fi_RX7_65 (by decide) dX7_suits_52 ?_
        refine Y_iload C (pc := 55) 4 rfl dX7_suits_55 ?_
        refine Y_iload_n C (pc := 57) 3 3 rfl rfl dX7_suits_57 ?_
        obtain ⟨v3, hv3, h⟩ := Option.bind_eq_some_iff.mp h
        refine Y_callSN C [.ref (ρ (k1 + 3)), .int s1, .int i3] [.int v2] [.int v3, .int v2] (c_X8_at (q_kr_6_3 hk1) hv3) (fun _ h => h.elim) q_cw_yX8_at q_mn_RX7_68 q_st_yX8_at ⟨⟨Nat.le_of_ble_eq_true rfl, Nat.le_of_ble_eq_true rfl⟩, ⟨Nat.zero_le _, Nat.zero_le _⟩, Nat.le_of_ble_eq_true rfl⟩ rfl rfl rfl dX7_suits_58 ?_
        refine Y_icmp_eq C (pc := 61) (tgt := 66) dX7_suits_61 (by decide) (fun c4 => ?_) (fun c4 => ?_)
        · rw [if_pos c4] at h
          refine Y_iinc C (pc := 66) (v := (s1 + 1)) (lv' := [(4, .int (s1 + 1)), (0, .ref (ρ k0)), (1, .ref (ρ k1)), (2, .int i2), (3, .int i3)]) 4 rfl (congrArg (fun z => s1 + z) (by decide : Int32.ofInt (1) = (1))) (by decide) rfl dX7_suits_66 ?_
          refine Y_goto C (pc := 69) (tgt := 32) dX7_suits_69 (by decide) ?_
          have h := Option.some.inj h
          exact Y_sub [1, 2, 3, 4, 0] rfl (hLp _ h.symm)
        · rw [if_neg c4] at h
          have h := Option.some.inj h
          exact Y_sub [] rfl (hE0 _ h.symm)
    refine ⟨?_, ?_⟩
    · intro e7 q
      subst q
      simp only [Sum.elim_inl, Sum.elim_inr] at h
      refine Y_iconst C (pc := 64) (v := (0 : Int32)) (by decide) dX7_suits_64 ?_
      cases h
      exact Y_zret (by decide) C dX7_suits_65
    · intro e8 q
      subst q
      simp only [Sum.elim_inl, Sum.elim_inr] at h
      refine Y_aload_n C (pc := 72) 1 1 rfl rfl dX7_suits_72 ?_
      refine Y_getR C (pc := 73) hk1 q_fi_RX7_72 (by decide) dX7_suits_73 ?_
      refine Y_astore C (pc := 76) (lv' := [(4, .ref (ρ (k1 + 2))), (0, .ref (ρ k0)), (1, .ref (ρ k1)), (2, .int i2), (3, .int i3)]) (by decide) rfl dX7_suits_76 ?_
      refine Y_iconst C (pc := 78) (v := (0 : Int32)) (by decide) dX7_suits_78 ?_
      refine Y_istore C (pc := 79) (lv' := [(5, .int (0 : Int32)), (4, .ref (ρ (k1 + 2))), (0, .ref (ρ k0)), (1, .ref (ρ k1)), (2, .int i2), (3, .int i3)]) (by decide) rfl dX7_suits_79 ?_
      obtain ⟨e19, he19, h⟩ := Option.bind_eq_some_iff.mp h
      refine Y_sub [2, 4, 5, 1, 0] (lv' := [(0, .ref (ρ k0)), (2, .int i2), (3, .int i3), (4, .ref (ρ (k1 + 2))), (5, .int (0 : Int32))]) rfl ?_
      refine lo_rule (f := (f_X7_suits_L81 i2 σ k0 i3 k1)) (YS := fun s9 => Y p l e (Rm 1 23) s m args below meth c 7 D cA ρ A0 0 0 (MQ below (QC D cA ρ A0 (some (.int r)) σ τ) args s 0 0 A0) σ τ 81 [(0, .ref (ρ k0)), (2, .int i2), (3, .int i3), (4, .ref (ρ (k1 + 2))), (5, .int s9)] []) (YE := fun e19 => (∀ e20, e19 = (.inl e20) → Y p l e (Rm 1 23) s m args below meth c 7 D cA ρ A0 0 0 (MQ below (QC D cA ρ A0 (some (.int r)) σ τ) args s 0 0 A0) σ τ 142 [] []) ∧ (∀ e21, e19 = (.inr e21) → Y p l e (Rm 1 23) s m args below meth c 7 D cA ρ A0 0 0 (MQ below (QC D cA ρ A0 (some (.int r)) σ τ) args s 0 0 A0) σ τ 150 [(2, .int i2), (3, .int i3), (4, .ref (ρ (k1 + 2)))] [])) ?_ he19 ?_
      · intro s9 x h hLp hE
        have hE0 : ∀ y, x = .inr (.inl y) → _ := fun y q => (hE _ q).1 y rfl
        have hE1 : ∀ y, x = .inr (.inr y) → _ := fun y q => (hE _ q).2 y rfl
        unfold f_X7_suits_L81 at h
        refine Y_iload C (pc := 81) 4 rfl dX7_suits_81 ?_
        refine Y_iload_n C (pc := 83) 2 1 rfl rfl dX7_suits_83 ?_
        refine Y_icmp_ge C (pc := 84) (tgt := 150) dX7_suits_84 (by decide) (fun c18 => ?_) (fun c18 => ?_)
        · rw [if_pos c18] at h
          have h := Option.some.inj h
          exact Y_sub [1, 2, 3] rfl (hE1 _ h.symm)
        · rw [if_neg c18] at h
          refine Y_aload_n C (pc := 87) 0 0 rfl rfl dX7_suits_87 ?_
          refine Y_getR C (pc := 88) hk0 q_fi_RX7_15 (by decide) dX7_suits_88 ?_
          refine Y_iload C (pc := 91) 4 rfl dX7_suits_91 ?_
          obtain ⟨v10, hv10, h⟩ := Option.bind_eq_some_iff.mp h
          refine Y_callSN C [.ref (ρ (k0 + 2)), .int s9] [] [.int v10] (c_X8_item (q_kr_7_4 hk0) hv10) (fun _ h => h.elim) q_cw_yX8_item q_mn_RX7_36 q_st_yX8_item ⟨⟨Nat.le_of_ble_eq_true rfl, Nat.le_of_ble_eq_true rfl⟩, ⟨Nat.zero_le _, Nat.zero_le _⟩, Nat.le_of_ble_eq_true rfl⟩ rfl rfl rfl dX7_suits_93 ?_
          refine Y_istore C (pc := 96) (lv' := [(6, .int v10), (0, .ref (ρ k0)), (2, .int i2), (3, .int i3), (4, .ref (ρ (k1 + 2))), (5, .int s9)]) (by decide) rfl dX7_suits_96 ?_
          refine Y_iload C (pc := 98) 0 rfl dX7_suits_98 ?_
          refine Y_iload_n C (pc := 100) 3 3 rfl rfl dX7_suits_100 ?_
          refine Y_icmp_eq C (pc := 101) (tgt := 142) dX7_suits_101 (by decide) (fun c17 => ?_) (fun c17 => ?_)
          · rw [if_pos c17] at h
            have h := Option.some.inj h
            exact Y_sub [] rfl (hE0 _ h.symm)
          · rw [if_neg c17] at h
            refine Y_aload C (pc := 104) 4 rfl dX7_suits_104 ?_
            refine Y_iload_n C (pc := 106) 2 2 rfl rfl dX7_suits_106 ?_
            refine Y_iload C (pc := 107) 5 rfl dX7_suits_107 ?_
            obtain ⟨v11, hv11, h⟩ := Option.bind_eq_some_iff.mp h
            refine Y_callSN C [.ref (ρ (k1 + 2)), .int i2, .int s9] [] [.int v11] (c_X8_at (q_kr_6_2 hk1) hv11) (fun _ h => h.elim) q_cw_yX8_at q_mn_RX7_68 q_st_yX8_at ⟨⟨Nat.le_of_ble_eq_true rfl, Nat.le_of_ble_eq_true rfl⟩, ⟨Nat.zero_le _, Nat.zero_le _⟩, Nat.le_of_ble_eq_true rfl⟩ rfl rfl rfl dX7_suits_109 ?_
            refine Y_aload C (pc := 112) 4 rfl dX7_suits_112 ?_
            refine Y_iload_n C (pc := 114) 3 3 rfl rfl dX7_suits_114 ?_
            refine Y_iload C (pc := 115) 0 rfl dX7_suits_115 ?_
            obtain ⟨v12, hv12, h⟩ := Option.bind_eq_some_iff.mp h
            refine Y_callSN C [.ref (ρ (k1 + 2)), .int i3, .int v10] [.int v11] [.int v12, .int v11] (c_X8_at (q_kr_6_2 hk1) hv12) (fun _ h => h.elim) q_cw_yX8_at q_mn_RX7_68 q_st_yX8_at ⟨⟨Nat.le_of_ble_eq_true rfl, Nat.le_of_ble_eq_true rfl⟩, ⟨Nat.zero_le _, Nat.zero_le _⟩, Nat.le_of_ble_eq_true rfl⟩ rfl rfl rfl dX7_suits_117 ?_
            refine Y_icmp_ne C (pc := 120) (tgt := 142) dX7_suits_120 (by decide) (fun c16 => ?_) (fun c16 => ?_)
            · rw [if_neg c16] at h
              have h := Option.some.inj h
              exact Y_sub [] rfl (hE0 _ h.symm)
            · rw [if_pos c16] at h
              refine Y_aload C (pc := 123) 4 rfl dX7_suits_123 ?_
              refine Y_iload C (pc := 125) 5 rfl dX7_suits_125 ?_
              refine Y_iload_n C (pc := 127) 2 2 rfl rfl dX7_suits_127 ?_
              obtain ⟨v13, hv13, h⟩ := Option.bind_eq_some_iff.mp h
              refine Y_callSN C [.ref (ρ (k1 + 2)), .int s9, .int i2] [] [.int v13] (c_X8_at (q_kr_6_2 hk1) hv13) (fun _ h => h.elim) q_cw_yX8_at q_mn_RX7_68 q_st_yX8_at ⟨⟨Nat.le_of_ble_eq_true rfl, Nat.le_of_ble_eq_true rfl⟩, ⟨Nat.zero_le _, Nat.zero_le _⟩, Nat.le_of_ble_eq_true rfl⟩ rfl rfl rfl dX7_suits_128 ?_
              refine Y_aload C (pc := 131) 4 rfl dX7_suits_131 ?_
              refine Y_iload C (pc := 133) 0 rfl dX7_suits_133 ?_
              refine Y_iload_n C (pc := 135) 3 3 rfl rfl dX7_suits_135 ?_
              obtain ⟨v14, hv14, h⟩ := Option.bind_eq_some_iff.mp h
              refine Y_callSN C [.ref (ρ (k1 + 2)), .int v10, .int i3] [.int v13] [.int v14, .int v13] (c_X8_at (q_kr_6_2 hk1) hv14) (fun _ h => h.elim) q_cw_yX8_at q_mn_RX7_68 q_st_yX8_at ⟨⟨Nat.le_of_ble_eq_true rfl, Nat.le_of_ble_eq_true rfl⟩, ⟨Nat.zero_le _, Nat.zero_le _⟩, Nat.le_of_ble_eq_true rfl⟩ rfl rfl rfl dX7_suits_136 ?_
              refine Y_icmp_eq C (pc := 139) (tgt := 144) dX7_suits_139 (by decide) (fun c15 => ?_) (fun c15 => ?_)
              · rw [if_pos c15] at h
                refine Y_iinc C (pc := 144) (v := (s9 + 1)) (lv' := [(5, .int (s9 + 1)), (6, .int v10), (0, .ref (ρ k0)), (2, .int i2), (3, .int i3), (4, .ref (ρ (k1 + 2)))]) 5 rfl (congrArg (fun z => s9 + z) (by decide : Int32.ofInt (1) = (1))) (by decide) rfl dX7_suits_144 ?_
                refine Y_goto C (pc := 147) (tgt := 81) dX7_suits_147 (by decide) ?_
                have h := Option.some.inj h
                exact Y_sub [2, 3, 4, 5, 0] rfl (hLp _ h.symm)
              · rw [if_neg c15] at h
                have h := Option.some.inj h
                exact Y_sub [] rfl (hE0 _ h.symm)
      refine ⟨?_, ?_⟩
      · intro e20 q
        subst q
        simp only [Sum.elim_inl, Sum.elim_inr] at h
        refine Y_iconst C (pc := 142) (v := (0 : Int32)) (by decide) dX7_suits_142 ?_
        cases h
        exact Y_zret (by decide) C dX7_suits_143
      · intro e21 q
        subst q
        simp only [Sum.elim_inl, Sum.elim_inr] at h
        refine Y_aload C (pc := 150) 2 rfl dX7_suits_150 ?_
        refine Y_iload_n C (pc := 152) 2 0 rfl rfl dX7_suits_152 ?_
        refine Y_iload_n C (pc := 153) 2 0 rfl rfl dX7_suits_153 ?_
        obtain ⟨v22, hv22, h⟩ := Option.bind_eq_some_iff.mp h
        refine Y_callSN C [.ref (ρ (k1 + 2)), .int i2, .int i2] [] [.int v22] (c_X8_at (q_kr_6_2 hk1) hv22) (fun _ h => h.elim) q_cw_yX8_at q_mn_RX7_68 q_st_yX8_at ⟨⟨Nat.le_of_ble_eq_true rfl, Nat.le_of_ble_eq_true rfl⟩, ⟨Nat.zero_le _, Nat.zero_le _⟩, Nat.le_of_ble_eq_true rfl⟩ rfl rfl rfl dX7_suits_154 ?_
        refine Y_aload C (pc := 157) 2 rfl dX7_suits_157 ?_
        refine Y_iload_n C (pc := 159) 3 1 rfl rfl dX7_suits_159 ?_
        refine Y_iload_n C (pc := 160) 3 1 rfl rfl dX7_suits_160 ?_
        obtain ⟨v23, hv23, h⟩ := Option.bind_eq_some_iff.mp h
        refine Y_callSN C [.ref (ρ (k1 + 2)), .int i3, .int i3] [.int v22] [.int v23, .int v22] (c_X8_at (q_kr_6_2 hk1) hv23) (fun _ h => h.elim) q_cw_yX8_at q_mn_RX7_68 q_st_yX8_at ⟨⟨Nat.le_of_ble_eq_true rfl, Nat.le_of_ble_eq_true rfl⟩, ⟨Nat.zero_le _, Nat.zero_le _⟩, Nat.le_of_ble_eq_true rfl⟩ rfl rfl rfl dX7_suits_161 ?_
        refine Y_icmp_ne C (pc := 164) (tgt := 171) dX7_suits_164 (by decide) (fun c24 => ?_) (fun c24 => ?_)
        · rw [if_neg c24] at h
          refine Y_iconst C (pc := 171) (v := (0 : Int32)) (by decide) dX7_suits_171 ?_
          cases h
          exact Y_zret (by decide) C dX7_suits_172
        · rw [if_pos c24] at h
          refine Y_iconst C (pc := 167) (v := (1 : Int32)) (by decide) dX7_suits_167 ?_
          refine Y_goto C (pc := 168) (tgt := 172) dX7_suits_168 (by decide) ?_
          cases h
          exact Y_zret (by decide) C dX7_suits_172
  refine Y_iload_n C (pc := 0) 2 2 rfl rfl dX7_suits_0 ?_
  refine Y_iload_n C (pc := 1) 3 3 rfl rfl dX7_suits_1 ?_
  refine Y_icmp_eq C (pc := 2) (tgt := 29) dX7_suits_2 (by decide) (fun c29 => ?_) (fun c29 => ?_)
  · rw [if_pos c29] at h
    exact Y_sub [0, 1, 2, 3] rfl (hJ29  h)
  · rw [if_neg c29] at h
    refine Y_aload_n C (pc := 5) 0 0 rfl rfl dX7_suits_5 ?_
    refine Y_getI C (pc := 6) hk0 q_fi_RX7_32 dX7_suits_6 ?_
    refine Y_iload_n C (pc := 9) 2 2 rfl rfl dX7_suits_9 ?_
    obtain ⟨v25, hv25, h⟩ := Option.bind_eq_some_iff.mp h
    refine Y_callSN C [.int (σ k0 3), .int i2] [] [.int v25] (c_X8_has  hv25) (fun _ h => h.elim) q_cw_yX8_has q_mn_RX7_61 q_st_yX8_has ⟨⟨Nat.le_of_ble_eq_true rfl, Nat.le_of_ble_eq_true rfl⟩, ⟨Nat.zero_le _, Nat.zero_le _⟩, Nat.le_of_ble_eq_true rfl⟩ rfl rfl rfl dX7_suits_10 ?_
    refine Y_if_ne C (pc := 13) (tgt := 27) dX7_suits_13 (by decide) (fun c28 => ?_) (fun c28 => ?_)
    · rw [if_neg c28] at h
      refine Y_iconst C (pc := 27) (v := (0 : Int32)) (by decide) dX7_suits_27 ?_
      cases h
      exact Y_zret (by decide) C dX7_suits_28
    · rw [if_pos c28] at h
      refine Y_aload_n C (pc := 16) 0 0 rfl rfl dX7_suits_16 ?_
      refine Y_getI C (pc := 17) hk0 q_fi_RX7_32 dX7_suits_17 ?_
      refine Y_iload_n C (pc := 20) 3 3 rfl rfl dX7_suits_20 ?_
      obtain ⟨v26, hv26, h⟩ := Option.bind_eq_some_iff.mp h
      refine Y_callSN C [.int (σ k0 3), .int i3] [] [.int v26] (c_X8_has  hv26) (fun _ h => h.elim) q_cw_yX8_has q_mn_RX7_61 q_st_yX8_has ⟨⟨Nat.le_of_ble_eq_true rfl, Nat.le_of_ble_eq_true rfl⟩, ⟨Nat.zero_le _, Nat.zero_le _⟩, Nat.le_of_ble_eq_true rfl⟩ rfl rfl rfl dX7_suits_21 ?_
      refine Y_if_eq C (pc := 24) (tgt := 29) dX7_suits_24 (by decide) (fun c27 => ?_) (fun c27 => ?_)
      · rw [if_pos c27] at h
        exact Y_sub [0, 1, 2, 3] rfl (hJ29  h)
      · rw [if_neg c27] at h
        refine Y_iconst C (pc := 27) (v := (0 : Int32)) (by decide) dX7_suits_27 ?_
        cases h
        exact Y_zret (by decide) C dX7_suits_28

set_option maxRecDepth 100000 in
set_option maxHeartbeats 4000000 in
theorem c_X7_nextImage {l : Launch} {D : va_G} {cA ρ : Nat → Nat} {σ : Sg} {τ : Tg} {k0 : Nat} {k1 : Nat} {i2 : Int32} {i3 : Int32} (hk0 : kd k0 = (0, 7)) (hk1 : kd k1 = (0, 6)) {r : Int32} (h : f_X7_nextImage σ k0 k1 i2 i3 = some r) : Ct l yX7_nextImage cX7_nextImage 5 (some .int) 2 49 D cA ρ A0 [.ref (ρ k0), .ref (ρ k1), .int i2, .int i3] σ τ (some (.int r)) σ τ := by
  refine Ct_of (by decide +kernel) (Nat.le_of_ble_eq_true rfl) (fun p e s m args below meth c C => ?_)
  have C : Ctx p l s m args meth c cX7_nextImage RX7 5 (some .int) D cA ρ A0 := C
  unfold f_X7_nextImage at h
  refine Y_sub [0, 1, 2, 3] (lv' := [(0, .ref (ρ k0)), (1, .ref (ρ k1)), (2, .int i2), (3, .int i3)]) rfl ?_
  refine Y_iconst C (pc := 0) (v := (0 : Int32)) (by decide) dX7_nextImage_0 ?_
  refine Y_iload_n C (pc := 1) 3 3 rfl rfl dX7_nextImage_1 ?_
  refine Y_max C (pc := 2) q_ml_RX7_51 ⟨q_st_max, q_in_Math, q_cd_max⟩ ⟨Nat.le_of_ble_eq_true rfl, Nat.le_of_ble_eq_true rfl, Nat.zero_le _, Nat.zero_le _⟩ dX7_nextImage_2 ?_
  refine Y_istore C (pc := 5) (lv' := [(4, .int (mx (0 : Int32) i3)), (0, .ref (ρ k0)), (1, .ref (ρ k1)), (2, .int i2), (3, .int i3)]) (by decide) rfl dX7_nextImage_5 ?_
  obtain ⟨e5, he5, h⟩ := Option.bind_eq_some_iff.mp h
  refine Y_sub [1, 2, 3, 0] (lv' := [(0, .ref (ρ k0)), (1, .ref (ρ k1)), (2, .int i2), (4, .int (mx (0 : Int32) i3))]) rfl ?_
  refine lo_rule (f := (f_X7_nextImage_L7 σ k0 k1 i2)) (YS := fun s1 => Y p l e (Rm 2 49) s m args below meth c 5 D cA ρ A0 0 0 (MQ below (QC D cA ρ A0 (some (.int r)) σ τ) args s 0 0 A0) σ τ 7 [(0, .ref (ρ k0)), (1, .ref (ρ k1)), (2, .int i2), (4, .int s1)] []) (YE := fun e5 => (∀ e6, e5 = (.inl e6) → Y p l e (Rm 2 49) s m args below meth c 5 D cA ρ A0 0 0 (MQ below (QC D cA ρ A0 (some (.int r)) σ τ) args s 0 0 A0) σ τ 27 [(4, .int e6)] []) ∧ (∀ e7, e5 = (.inr e7) → Y p l e (Rm 2 49) s m args below meth c 5 D cA ρ A0 0 0 (MQ below (QC D cA ρ A0 (some (.int r)) σ τ) args s 0 0 A0) σ τ 36 [] [])) ?_ he5 ?_
  · intro s1 x h hLp hE
    have hE0 : ∀ y, x = .inr (.inl y) → _ := fun y q => (hE _ q).1 y rfl
    have hE1 : ∀ y, x = .inr (.inr y) → _ := fun y q => (hE _ q).2 y rfl
    unfold f_X7_nextImage_L7 at h
    refine Y_iload C (pc := 7) 3 rfl dX7_nextImage_7 ?_
    refine Y_aload_n C (pc := 9) 0 0 rfl rfl dX7_nextImage_9 ?_
    refine Y_getI C (pc := 10) hk0 q_fi_RX7_24 dX7_nextImage_10 ?_
    refine Y_icmp_ge C (pc := 13) (tgt := 36) dX7_nextImage_13 (by decide) (fun c4 => ?_) (fun c4 => ?_)
    · rw [if_pos c4] at h
      have h := Option.some.inj h
      exact Y_sub [] rfl (hE1 _ h.symm)
    · rw [if_neg c4] at h
      refine Y_aload_n C (pc := 16) 0 0 rfl rfl dX7_nextImage_16 ?_
      refine Y_aload_n C (pc := 17) 1 1 rfl rfl dX7_nextImage_17 ?_
      refine Y_iload_n C (pc := 18) 2 2 rfl rfl dX7_nextImage_18 ?_
      refine Y_iload C (pc := 19) 3 rfl dX7_nextImage_19 ?_
      obtain ⟨v2, hv2, h⟩ := Option.bind_eq_some_iff.mp h
      refine Y_callV C [.ref (ρ k1), .int i2, .int s1] [] [.int v2] hk0 rfl rfl (c_X7_suits hk0 hk1 hv2) (fun _ h => h.elim) q_cw_yX7_suits q_ml_RX7_57 ⟨q_im_yX7_suits, q_se_yX7_suits⟩ ⟨⟨Nat.le_of_ble_eq_true rfl, Nat.le_of_ble_eq_true rfl⟩, ⟨Nat.zero_le _, Nat.zero_le _⟩, Nat.le_of_ble_eq_true rfl⟩ rfl rfl rfl dX7_nextImage_21 ?_
      refine Y_if_eq C (pc := 24) (tgt := 30) dX7_nextImage_24 (by decide) (fun c3 => ?_) (fun c3 => ?_)
      · rw [if_pos c3] at h
        refine Y_iinc C (pc := 30) (v := (s1 + 1)) (lv' := [(4, .int (s1 + 1)), (0, .ref (ρ k0)), (1, .ref (ρ k1)), (2, .int i2)]) 3 rfl (congrArg (fun z => s1 + z) (by decide : Int32.ofInt (1) = (1))) (by decide) rfl dX7_nextImage_30 ?_
        refine Y_goto C (pc := 33) (tgt := 7) dX7_nextImage_33 (by decide) ?_
        have h := Option.some.inj h
        exact Y_sub [1, 2, 3, 0] rfl (hLp _ h.symm)
      · rw [if_neg c3] at h
        have h := Option.some.inj h
        exact Y_sub [3] rfl (hE0 _ h.symm)
  refine ⟨?_, ?_⟩
  · intro e6 q
    subst q
    simp only [Sum.elim_inl, Sum.elim_inr] at h
    refine Y_iload C (pc := 27) 0 rfl dX7_nextImage_27 ?_
    cases h
    exact Y_iret C dX7_nextImage_29
  · intro e7 q
    subst q
    simp only [Sum.elim_inl, Sum.elim_inr] at h
    refine Y_iconst C (pc := 36) (v := (-1 : Int32)) (by decide) dX7_nextImage_36 ?_
    cases h
    exact Y_iret C dX7_nextImage_37

set_option maxRecDepth 100000 in
set_option maxHeartbeats 4000000 in
theorem c_X7_note {l : Launch} {D : va_G} {cA ρ : Nat → Nat} {σ : Sg} {τ : Tg} {k0 : Nat} (hI : Inj ρ) (hk0 : kd k0 = (0, 7)) {r : Sg} (h : f_X7_note σ k0 = some r) : Ct l yX7_note cX7_note 2 none 1 22 D cA ρ (Aw ρ) [.ref (ρ k0)] σ τ none r τ := by
  refine Ct_of (by decide +kernel) (Nat.le_of_ble_eq_true rfl) (fun p e s m args below meth c C => ?_)
  have C : Ctx p l s m args meth c cX7_note RX7 2 none D cA ρ (Aw ρ) := C
  have hW : Wr ρ (Aw ρ) := ⟨hI, fun k hk => ⟨k, hk, rfl⟩⟩
  unfold f_X7_note at h
  refine Y_sub [0] (lv' := [(0, .ref (ρ k0))]) rfl ?_
  refine Y_aload_n C (pc := 0) 0 0 rfl rfl dX7_note_0 ?_
  refine Y_dup C (pc := 1) rfl dX7_note_1 ?_
  refine Y_getI C (pc := 2) hk0 q_fi_RX7_25 dX7_note_2 ?_
  refine Y_iconst C (pc := 5) (v := (1 : Int32)) (by decide) dX7_note_5 ?_
  refine Y_iadd C (pc := 6) dX7_note_6 ?_
  refine Y_putI C (pc := 7) hW hk0 (q_lo_7 hk0) q_fp_RX7_25 dX7_note_7 ?_
  refine Y_iconst C (pc := 10) (v := (0 : Int32)) (by decide) dX7_note_10 ?_
  refine Y_istore_n C (pc := 11) (lv' := [(1, .int (0 : Int32)), (0, .ref (ρ k0))]) 1 rfl (by decide) rfl dX7_note_11 ?_
  obtain ⟨e6, he6, h⟩ := Option.bind_eq_some_iff.mp h
  refine Y_sub [1, 0] (lv' := [(0, .ref (ρ k0)), (1, .int (0 : Int32))]) rfl ?_
  refine lo_rule (f := (f_X7_note_L12 k0)) (YS := fun s1 => Y p l e (Rm 1 22) s m args below meth c 2 D cA ρ (Aw ρ) 0 0 (MQ below (QC D cA ρ (Aw ρ) none r τ) args s 0 0 (Aw ρ)) s1.2 τ 12 [(0, .ref (ρ k0)), (1, .int s1.1)] []) (YE := fun e6 => Y p l e (Rm 1 22) s m args below meth c 2 D cA ρ (Aw ρ) 0 0 (MQ below (QC D cA ρ (Aw ρ) none r τ) args s 0 0 (Aw ρ)) e6 τ 53 [] []) ?_ he6 ?_
  · intro s1 x h hLp hE
    unfold f_X7_note_L12 at h
    refine Y_iload_n C (pc := 12) 1 1 rfl rfl dX7_note_12 ?_
    refine Y_aload_n C (pc := 13) 0 0 rfl rfl dX7_note_13 ?_
    refine Y_getI C (pc := 14) hk0 q_fi_RX7_24 dX7_note_14 ?_
    refine Y_icmp_ge C (pc := 17) (tgt := 53) dX7_note_17 (by decide) (fun c5 => ?_) (fun c5 => ?_)
    · rw [if_pos c5] at h
      have h := Option.some.inj h
      exact Y_sub [] rfl (hE _ h.symm)
    · rw [if_neg c5] at h
      refine Y_aload_n C (pc := 20) 0 0 rfl rfl dX7_note_20 ?_
      refine Y_getR C (pc := 21) hk0 q_fi_RX7_9 (by decide) dX7_note_21 ?_
      refine Y_iload_n C (pc := 24) 1 1 rfl rfl dX7_note_24 ?_
      refine Y_aload_n C (pc := 25) 0 0 rfl rfl dX7_note_25 ?_
      refine Y_getR C (pc := 26) hk0 q_fi_RX7_9 (by decide) dX7_note_26 ?_
      refine Y_iload_n C (pc := 29) 1 1 rfl rfl dX7_note_29 ?_
      obtain ⟨v2, hv2, h⟩ := Option.bind_eq_some_iff.mp h
      refine Y_callSN C [.ref (ρ (k0 + 1)), .int s1.1] [.int s1.1, .ref (ρ (k0 + 1))] [.int v2, .int s1.1, .ref (ρ (k0 + 1))] (c_X8_item (q_kr_7_1 hk0) hv2) (fun _ h => h.elim) q_cw_yX8_item q_mn_RX7_36 q_st_yX8_item ⟨⟨Nat.le_of_ble_eq_true rfl, Nat.le_of_ble_eq_true rfl⟩, ⟨Nat.zero_le _, Nat.zero_le _⟩, Nat.le_of_ble_eq_true rfl⟩ rfl rfl rfl dX7_note_30 ?_
      refine Y_aload_n C (pc := 33) 0 0 rfl rfl dX7_note_33 ?_
      refine Y_getR C (pc := 34) hk0 q_fi_RX7_15 (by decide) dX7_note_34 ?_
      refine Y_iload_n C (pc := 37) 1 1 rfl rfl dX7_note_37 ?_
      obtain ⟨v3, hv3, h⟩ := Option.bind_eq_some_iff.mp h
      refine Y_callSN C [.ref (ρ (k0 + 2)), .int s1.1] [.int v2, .int s1.1, .ref (ρ (k0 + 1))] [.int v3, .int v2, .int s1.1, .ref (ρ (k0 + 1))] (c_X8_item (q_kr_7_4 hk0) hv3) (fun _ h => h.elim) q_cw_yX8_item q_mn_RX7_36 q_st_yX8_item ⟨⟨Nat.le_of_ble_eq_true rfl, Nat.le_of_ble_eq_true rfl⟩, ⟨Nat.zero_le _, Nat.zero_le _⟩, Nat.le_of_ble_eq_true rfl⟩ rfl rfl rfl dX7_note_38 ?_
      refine Y_min C (pc := 41) q_ml_RX7_75 ⟨q_st_min, q_in_Math, q_cd_min⟩ ⟨Nat.le_of_ble_eq_true rfl, Nat.le_of_ble_eq_true rfl, Nat.zero_le _, Nat.zero_le _⟩ dX7_note_41 ?_
      obtain ⟨v4, hv4, h⟩ := Option.bind_eq_some_iff.mp h
      refine Y_callSN C [.ref (ρ (k0 + 1)), .int s1.1, .int (mn v2 v3)] [] [] (c_X8_setItem hI (q_kr_7_1 hk0) (q_lr_7_1 hk0) hv4) (fun _ h => h) q_cw_yX8_setItem q_mn_RX7_44 q_st_yX8_setItem ⟨⟨Nat.le_of_ble_eq_true rfl, Nat.le_of_ble_eq_true rfl⟩, ⟨Nat.zero_le _, Nat.zero_le _⟩, Nat.le_of_ble_eq_true rfl⟩ rfl rfl rfl dX7_note_44 ?_
      refine Y_iinc C (pc := 47) (v := (s1.1 + 1)) (lv' := [(1, .int (s1.1 + 1)), (0, .ref (ρ k0))]) 1 rfl (congrArg (fun z => s1.1 + z) (by decide : Int32.ofInt (1) = (1))) (by decide) rfl dX7_note_47 ?_
      refine Y_goto C (pc := 50) (tgt := 12) dX7_note_50 (by decide) ?_
      have h := Option.some.inj h
      exact Y_sub [1, 0] rfl (hLp _ h.symm)
  · cases h
    exact Y_vret C dX7_note_53

set_option maxRecDepth 100000 in
set_option maxHeartbeats 4000000 in
theorem c_X7_load {l : Launch} {D : va_G} {cA ρ : Nat → Nat} {σ : Sg} {τ : Tg} {k0 : Nat} {k1 : Nat} {k2 : Nat} (hI : Inj ρ) (hk0 : kd k0 = (0, 7)) (hk1 : kd k1 = (0, 6)) (hk2 : (kd k2).1 = 1) {r : Sg} (h : f_X7_load σ k0 k1 k2 = some r) : Ct l yX7_load cX7_load 6 none 3 73 D cA ρ (Aw ρ) [.ref (ρ k0), .ref (ρ k1), .ref (ρ k2)] σ τ none r τ := by
  refine Ct_of (by decide +kernel) (Nat.le_of_ble_eq_true rfl) (fun p e s m args below meth c C => ?_)
  have C : Ctx p l s m args meth c cX7_load RX7 6 none D cA ρ (Aw ρ) := C
  have hW : Wr ρ (Aw ρ) := ⟨hI, fun k hk => ⟨k, hk, rfl⟩⟩
  unfold f_X7_load at h
  refine Y_sub [0, 1, 2] (lv' := [(0, .ref (ρ k0)), (1, .ref (ρ k1)), (2, .ref (ρ k2))]) rfl ?_
  refine Y_aload_n C (pc := 0) 0 0 rfl rfl dX7_load_0 ?_
  refine Y_aload_n C (pc := 1) 1 1 rfl rfl dX7_load_1 ?_
  refine Y_getI C (pc := 2) hk1 q_fi_RX7_18 dX7_load_2 ?_
  refine Y_putI C (pc := 5) hW hk0 (q_lo_7 hk0) q_fp_RX7_24 dX7_load_5 ?_
  refine Y_aload_n C (pc := 8) 0 0 rfl rfl dX7_load_8 ?_
  refine Y_iconst C (pc := 9) (v := (0 : Int32)) (by decide) dX7_load_9 ?_
  refine Y_putI C (pc := 10) hW hk0 (q_lo_7 hk0) q_fp_RX7_25 dX7_load_10 ?_
  refine Y_aload_n C (pc := 13) 0 0 rfl rfl dX7_load_13 ?_
  refine Y_aload_n C (pc := 14) 2 2 rfl rfl dX7_load_14 ?_
  obtain ⟨v1, hv1, h⟩ := Option.bind_eq_some_iff.mp h
  refine Y_callSN C [.ref (ρ k2)] [.ref (ρ k0)] [.int v1, .ref (ρ k0)] (c_X8_takenBy hk2 hv1) (fun _ h => h.elim) q_cw_yX8_takenBy q_mn_RX7_28 q_st_yX8_takenBy ⟨⟨Nat.le_of_ble_eq_true rfl, Nat.le_of_ble_eq_true rfl⟩, ⟨Nat.zero_le _, Nat.zero_le _⟩, Nat.le_of_ble_eq_true rfl⟩ rfl rfl rfl dX7_load_15 ?_
  refine Y_putI C (pc := 18) hW hk0 (q_lo_7 hk0) q_fp_RX7_32 dX7_load_18 ?_
  refine Y_iconst C (pc := 21) (v := (0 : Int32)) (by decide) dX7_load_21 ?_
  refine Y_istore_n C (pc := 22) (lv' := [(3, .int (0 : Int32)), (0, .ref (ρ k0)), (1, .ref (ρ k1)), (2, .ref (ρ k2))]) 3 rfl (by decide) rfl dX7_load_22 ?_
  obtain ⟨e6, he6, h⟩ := Option.bind_eq_some_iff.mp h
  refine Y_sub [1, 2, 0] (lv' := [(0, .ref (ρ k0)), (1, .ref (ρ k1)), (3, .int (0 : Int32))]) rfl ?_
  refine lo_rule (f := (f_X7_load_L23 k0)) (YS := fun s2 => Y p l e (Rm 3 73) s m args below meth c 6 D cA ρ (Aw ρ) 0 0 (MQ below (QC D cA ρ (Aw ρ) none r τ) args s 0 0 (Aw ρ)) s2.2 τ 23 [(0, .ref (ρ k0)), (1, .ref (ρ k1)), (3, .int s2.1)] []) (YE := fun e6 => Y p l e (Rm 3 73) s m args below meth c 6 D cA ρ (Aw ρ) 0 0 (MQ below (QC D cA ρ (Aw ρ) none r τ) args s 0 0 (Aw ρ)) e6 τ 49 [(0, .ref (ρ k0)), (1, .ref (ρ k1))] []) ?_ he6 ?_
  · intro s2 x h hLp hE
    unfold f_X7_load_L23 at h
    refine Y_iload_n C (pc := 23) 3 2 rfl rfl dX7_load_23 ?_
    refine Y_bipush C (pc := 24) (v := (6 : Int32)) (by decide) dX7_load_24 ?_
    refine Y_icmp_ge C (pc := 26) (tgt := 49) dX7_load_26 (by decide) (fun c5 => ?_) (fun c5 => ?_)
    · rw [if_pos c5] at h
      have h := Option.some.inj h
      exact Y_sub [0, 1] rfl (hE _ h.symm)
    · rw [if_neg c5] at h
      refine Y_aload_n C (pc := 29) 0 0 rfl rfl dX7_load_29 ?_
      refine Y_getR C (pc := 30) hk0 q_fi_RX7_9 (by decide) dX7_load_30 ?_
      refine Y_iload_n C (pc := 33) 3 2 rfl rfl dX7_load_33 ?_
      refine Y_iload_n C (pc := 34) 3 2 rfl rfl dX7_load_34 ?_
      obtain ⟨s3, hs3, h⟩ := Option.bind_eq_some_iff.mp h
      refine Y_iast C (pc := 35) hW (q_kr_7_1 hk0) (q_lr_7_1 hk0) hs3 dX7_load_35 ?_
      refine Y_aload_n C (pc := 36) 0 0 rfl rfl dX7_load_36 ?_
      refine Y_getR C (pc := 37) hk0 q_fi_RX7_15 (by decide) dX7_load_37 ?_
      refine Y_iload_n C (pc := 40) 3 2 rfl rfl dX7_load_40 ?_
      refine Y_iconst C (pc := 41) (v := (-1 : Int32)) (by decide) dX7_load_41 ?_
      obtain ⟨s4, hs4, h⟩ := Option.bind_eq_some_iff.mp h
      refine Y_iast C (pc := 42) hW (q_kr_7_4 hk0) (q_lr_7_4 hk0) hs4 dX7_load_42 ?_
      refine Y_iinc C (pc := 43) (v := (s2.1 + 1)) (lv' := [(3, .int (s2.1 + 1)), (0, .ref (ρ k0)), (1, .ref (ρ k1))]) 2 rfl (congrArg (fun z => s2.1 + z) (by decide : Int32.ofInt (1) = (1))) (by decide) rfl dX7_load_43 ?_
      refine Y_goto C (pc := 46) (tgt := 23) dX7_load_46 (by decide) ?_
      have h := Option.some.inj h
      exact Y_sub [1, 2, 0] rfl (hLp _ h.symm)
  · refine Y_iconst C (pc := 49) (v := (0 : Int32)) (by decide) dX7_load_49 ?_
    refine Y_istore_n C (pc := 50) (lv' := [(3, .int (0 : Int32)), (0, .ref (ρ k0)), (1, .ref (ρ k1))]) 3 rfl (by decide) rfl dX7_load_50 ?_
    refine Y_iconst C (pc := 51) (v := (0 : Int32)) (by decide) dX7_load_51 ?_
    refine Y_istore C (pc := 52) (lv' := [(4, .int (0 : Int32)), (3, .int (0 : Int32)), (0, .ref (ρ k0)), (1, .ref (ρ k1))]) (by decide) rfl dX7_load_52 ?_
    obtain ⟨e19, he19, h⟩ := Option.bind_eq_some_iff.mp h
    refine Y_sub [2, 3, 1, 0] (lv' := [(0, .ref (ρ k0)), (1, .ref (ρ k1)), (3, .int (0 : Int32)), (4, .int (0 : Int32))]) rfl ?_
    refine lo_rule (f := (f_X7_load_L54 k0 k1)) (YS := fun s7 => Y p l e (Rm 3 73) s m args below meth c 6 D cA ρ (Aw ρ) 0 0 (MQ below (QC D cA ρ (Aw ρ) none r τ) args s 0 0 (Aw ρ)) s7.2.2 τ 54 [(0, .ref (ρ k0)), (1, .ref (ρ k1)), (3, .int s7.1), (4, .int s7.2.1)] []) (YE := fun e19 => Y p l e (Rm 3 73) s m args below meth c 6 D cA ρ (Aw ρ) 0 0 (MQ below (QC D cA ρ (Aw ρ) none r τ) args s 0 0 (Aw ρ)) e19 τ 131 [] []) ?_ he19 ?_
    · intro s7 x h hLp hE
      unfold f_X7_load_L54 at h
      have hJ125 : ∀ (j11 : Int32) (j12 : Int32) (sj13 : Sg), f_X7_load_J125 j11 j12 sj13 = some x → Y p l e (Rm 3 73) s m args below meth c 6 D cA ρ (Aw ρ) 0 0 (MQ below (QC D cA ρ (Aw ρ) none r τ) args s 0 0 (Aw ρ)) sj13 τ 125 [(0, .ref (ρ k0)), (1, .ref (ρ k1)), (3, .int j11), (4, .int j12)] [] := by
        intro j11 j12 sj13 h
        unfold f_X7_load_J125 at h
        refine Y_iinc C (pc := 125) (v := (j12 + 1)) (lv' := [(4, .int (j12 + 1)), (0, .ref (ρ k0)), (1, .ref (ρ k1)), (3, .int j11)]) 3 rfl (congrArg (fun z => j12 + z) (by decide : Int32.ofInt (1) = (1))) (by decide) rfl dX7_load_125 ?_
        refine Y_goto C (pc := 128) (tgt := 54) dX7_load_128 (by decide) ?_
        have h := Option.some.inj h
        exact Y_sub [1, 2, 3, 0] rfl (hLp _ h.symm)
      refine Y_iload C (pc := 54) 3 rfl dX7_load_54 ?_
      refine Y_ldc C q_ct_RX7_35 dX7_load_56 ?_
      refine Y_icmp_ge C (pc := 58) (tgt := 131) dX7_load_58 (by decide) (fun c18 => ?_) (fun c18 => ?_)
      · rw [if_pos c18] at h
        have h := Option.some.inj h
        exact Y_sub [] rfl (hE _ h.symm)
      · rw [if_neg c18] at h
        refine Y_iload_n C (pc := 61) 3 2 rfl rfl dX7_load_61 ?_
        refine Y_if_lt C (pc := 62) (tgt := 131) dX7_load_62 (by decide) (fun c17 => ?_) (fun c17 => ?_)
        · rw [if_pos c17] at h
          have h := Option.some.inj h
          exact Y_sub [] rfl (hE _ h.symm)
        · rw [if_neg c17] at h
          refine Y_aload_n C (pc := 65) 0 0 rfl rfl dX7_load_65 ?_
          refine Y_aload_n C (pc := 66) 1 1 rfl rfl dX7_load_66 ?_
          refine Y_iload_n C (pc := 67) 3 2 rfl rfl dX7_load_67 ?_
          refine Y_aload_n C (pc := 68) 0 0 rfl rfl dX7_load_68 ?_
          refine Y_getR C (pc := 69) hk0 q_fi_RX7_15 (by decide) dX7_load_69 ?_
          refine Y_iload_n C (pc := 72) 3 2 rfl rfl dX7_load_72 ?_
          obtain ⟨v8, hv8, h⟩ := Option.bind_eq_some_iff.mp h
          refine Y_callSN C [.ref (ρ (k0 + 2)), .int s7.1] [.int s7.1, .ref (ρ k1), .ref (ρ k0)] [.int v8, .int s7.1, .ref (ρ k1), .ref (ρ k0)] (c_X8_item (q_kr_7_4 hk0) hv8) (fun _ h => h.elim) q_cw_yX8_item q_mn_RX7_36 q_st_yX8_item ⟨⟨Nat.le_of_ble_eq_true rfl, Nat.le_of_ble_eq_true rfl⟩, ⟨Nat.zero_le _, Nat.zero_le _⟩, Nat.le_of_ble_eq_true rfl⟩ rfl rfl rfl dX7_load_73 ?_
          refine Y_iconst C (pc := 76) (v := (1 : Int32)) (by decide) dX7_load_76 ?_
          refine Y_iadd C (pc := 77) dX7_load_77 ?_
          obtain ⟨v9, hv9, h⟩ := Option.bind_eq_some_iff.mp h
          refine Y_callV C [.ref (ρ k1), .int s7.1, .int (v8 + (1 : Int32))] [] [.int v9] hk0 rfl rfl (c_X7_nextImage hk0 hk1 hv9) (fun _ h => h.elim) q_cw_yX7_nextImage q_ml_RX7_40 ⟨q_im_yX7_nextImage, q_se_yX7_nextImage⟩ ⟨⟨Nat.le_of_ble_eq_true rfl, Nat.le_of_ble_eq_true rfl⟩, ⟨Nat.zero_le _, Nat.zero_le _⟩, Nat.le_of_ble_eq_true rfl⟩ rfl rfl rfl dX7_load_78 ?_
          refine Y_istore C (pc := 81) (lv' := [(5, .int v9), (0, .ref (ρ k0)), (1, .ref (ρ k1)), (3, .int s7.1), (4, .int s7.2.1)]) (by decide) rfl dX7_load_81 ?_
          refine Y_aload_n C (pc := 83) 0 1 rfl rfl dX7_load_83 ?_
          refine Y_getR C (pc := 84) hk0 q_fi_RX7_15 (by decide) dX7_load_84 ?_
          refine Y_iload_n C (pc := 87) 3 3 rfl rfl dX7_load_87 ?_
          refine Y_iload C (pc := 88) 0 rfl dX7_load_88 ?_
          obtain ⟨v10, hv10, h⟩ := Option.bind_eq_some_iff.mp h
          refine Y_callSN C [.ref (ρ (k0 + 2)), .int s7.1, .int v9] [] [] (c_X8_setItem hI (q_kr_7_4 hk0) (q_lr_7_4 hk0) hv10) (fun _ h => h) q_cw_yX8_setItem q_mn_RX7_44 q_st_yX8_setItem ⟨⟨Nat.le_of_ble_eq_true rfl, Nat.le_of_ble_eq_true rfl⟩, ⟨Nat.zero_le _, Nat.zero_le _⟩, Nat.le_of_ble_eq_true rfl⟩ rfl rfl rfl dX7_load_90 ?_
          refine Y_iload C (pc := 93) 0 rfl dX7_load_93 ?_
          refine Y_iconst C (pc := 95) (v := (-1 : Int32)) (by decide) dX7_load_95 ?_
          refine Y_icmp_ne C (pc := 96) (tgt := 105) dX7_load_96 (by decide) (fun c16 => ?_) (fun c16 => ?_)
          · rw [if_neg c16] at h
            refine Y_iload_n C (pc := 105) 3 3 rfl rfl dX7_load_105 ?_
            refine Y_aload_n C (pc := 106) 0 1 rfl rfl dX7_load_106 ?_
            refine Y_getI C (pc := 107) hk0 q_fi_RX7_24 dX7_load_107 ?_
            refine Y_iconst C (pc := 110) (v := (1 : Int32)) (by decide) dX7_load_110 ?_
            refine Y_isub C (pc := 111) dX7_load_111 ?_
            refine Y_icmp_ne C (pc := 112) (tgt := 122) dX7_load_112 (by decide) (fun c15 => ?_) (fun c15 => ?_)
            · rw [if_neg c15] at h
              refine Y_iinc C (pc := 122) (v := (s7.1 + 1)) (lv' := [(3, .int (s7.1 + 1)), (5, .int v9), (0, .ref (ρ k0)), (1, .ref (ρ k1)), (4, .int s7.2.1)]) 3 rfl (congrArg (fun z => s7.1 + z) (by decide : Int32.ofInt (1) = (1))) (by decide) rfl dX7_load_122 ?_
              exact Y_sub [2, 3, 0, 4] rfl (hJ125 _ _ _ h)
            · rw [if_pos c15] at h
              refine Y_aload_n C (pc := 115) 0 1 rfl rfl dX7_load_115 ?_
              obtain ⟨v14, hv14, h⟩ := Option.bind_eq_some_iff.mp h
              refine Y_callV C [] [] [] hk0 rfl rfl (c_X7_note hI hk0 hv14) (fun _ h => h) q_cw_yX7_note q_ml_RX7_48 ⟨q_im_yX7_note, q_se_yX7_note⟩ ⟨⟨Nat.le_of_ble_eq_true rfl, Nat.le_of_ble_eq_true rfl⟩, ⟨Nat.zero_le _, Nat.zero_le _⟩, Nat.le_of_ble_eq_true rfl⟩ rfl rfl rfl dX7_load_116 ?_
              refine Y_goto C (pc := 119) (tgt := 125) dX7_load_119 (by decide) ?_
              exact Y_sub [1, 2, 3, 4] rfl (hJ125 _ _ _ h)
          · rw [if_pos c16] at h
            refine Y_iinc C (pc := 99) (v := (s7.1 + (-1))) (lv' := [(3, .int (s7.1 + (-1))), (5, .int v9), (0, .ref (ρ k0)), (1, .ref (ρ k1)), (4, .int s7.2.1)]) 3 rfl (congrArg (fun z => s7.1 + z) (by decide : Int32.ofInt (-1) = (-1))) (by decide) rfl dX7_load_99 ?_
            refine Y_goto C (pc := 102) (tgt := 125) dX7_load_102 (by decide) ?_
            exact Y_sub [2, 3, 0, 4] rfl (hJ125 _ _ _ h)
    · cases h
      exact Y_vret C dX7_load_131

