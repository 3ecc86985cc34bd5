set_option maxRecDepth 100000 in
set_option maxHeartbeats 4000000 in
theorem c_X5_keepRepresentatives {l : Launch} {D : va_G} {cA ρ : Nat → Nat} {σ : Sg} {τ : Tg} {k0 : Nat} {i1 : Int32} (hI : Inj ρ) (hk0 : kd k0 = (0, 5)) {r : Int32 × Sg} (h : f_X5_keepRepresentatives σ k0 i1 = some r) : Ct l yX5_keepRepresentatives cX5_keepRepresentatives 5 (some .int) 1 22 D cA ρ (Aw ρ) [.ref (ρ k0), .int i1] σ τ (some (.int r.1)) r.2 τ := by
  refine Ct_of (by decide +kernel) (Nat.le_of_ble_eq_true rfl) (fun p e s m args below meth c C => ?_)
  have C : Ctx p l s m args meth c cX5_keepRepresentatives RX5 5 (some .int) D cA ρ (Aw ρ) := C
  have hW : Wr ρ (Aw ρ) := ⟨hI, fun k hk => ⟨k, hk, rfl⟩⟩
  unfold f_X5_keepRepresentatives at h
  refine Y_sub [0, 1] (lv' := [(0, .ref (ρ k0)), (1, .int i1)]) rfl ?_
  refine Y_iconst C (pc := 0) (v := (0 : Int32)) (by decide) dX5_keepRepresentatives_0 ?_
  refine Y_istore_n C (pc := 1) (lv' := [(2, .int (0 : Int32)), (0, .ref (ρ k0)), (1, .int i1)]) 2 rfl (by decide) rfl dX5_keepRepresentatives_1 ?_
  refine Y_iconst C (pc := 2) (v := (0 : Int32)) (by decide) dX5_keepRepresentatives_2 ?_
  refine Y_istore_n C (pc := 3) (lv' := [(3, .int (0 : Int32)), (2, .int (0 : Int32)), (0, .ref (ρ k0)), (1, .int i1)]) 3 rfl (by decide) rfl dX5_keepRepresentatives_3 ?_
  obtain ⟨e10, he10, h⟩ := Option.bind_eq_some_iff.mp h
  refine Y_sub [2, 3, 1, 0] (lv' := [(0, .ref (ρ k0)), (1, .int i1), (2, .int (0 : Int32)), (3, .int (0 : Int32))]) rfl ?_
  refine lo_rule (f := (f_X5_keepRepresentatives_L4 i1 k0)) (YS := fun s1 => Y p l e (Rm 1 22) s m args below meth c 5 D cA ρ (Aw ρ) 0 0 (MQ below (QC D cA ρ (Aw ρ) (some (.int r.1)) r.2 τ) args s 0 0 (Aw ρ)) s1.2.2 τ 4 [(0, .ref (ρ k0)), (1, .int i1), (2, .int s1.1), (3, .int s1.2.1)] []) (YE := fun e10 => Y p l e (Rm 1 22) s m args below meth c 5 D cA ρ (Aw ρ) 0 0 (MQ below (QC D cA ρ (Aw ρ) (some (.int r.1)) r.2 τ) args s 0 0 (Aw ρ)) e10.2 τ 55 [(2, .int e10.1)] []) ?_ he10 ?_
  · intro s1 x h hLp hE
    unfold f_X5_keepRepresentatives_L4 at h
    have hJ49 : ∀ (j4 : Int32) (j5 : Int32) (sj6 : Sg), f_X5_keepRepresentatives_J49 j4 j5 sj6 = some x → Y p l e (Rm 1 22) s m args below meth c 5 D cA ρ (Aw ρ) 0 0 (MQ below (QC D cA ρ (Aw ρ) (some (.int r.1)) r.2 τ) args s 0 0 (Aw ρ)) sj6 τ 49 [(0, .ref (ρ k0)), (1, .int i1), (2, .int j4), (3, .int j5)] [] := by
      intro j4 j5 sj6 h
      unfold f_X5_keepRepresentatives_J49 at h
      refine Y_iinc C (pc := 49) (v := (j5 + 1)) (lv' := [(3, .int (j5 + 1)), (0, .ref (ρ k0)), (1, .int i1), (2, .int j4)]) 3 rfl (congrArg (fun z => j5 + z) (by decide : Int32.ofInt (1) = (1))) (by decide) rfl dX5_keepRepresentatives_49 ?_
      refine Y_goto C (pc := 52) (tgt := 4) dX5_keepRepresentatives_52 (by decide) ?_
      have h := Option.some.inj h
      exact Y_sub [1, 2, 3, 0] rfl (hLp _ h.symm)
    refine Y_iload_n C (pc := 4) 3 3 rfl rfl dX5_keepRepresentatives_4 ?_
    refine Y_iload_n C (pc := 5) 1 1 rfl rfl dX5_keepRepresentatives_5 ?_
    refine Y_icmp_ge C (pc := 6) (tgt := 55) dX5_keepRepresentatives_6 (by decide) (fun c9 => ?_) (fun c9 => ?_)
    · rw [if_pos c9] at h
      have h := Option.some.inj h
      exact Y_sub [2] rfl (hE _ h.symm)
    · rw [if_neg c9] at h
      refine Y_aload_n C (pc := 9) 0 0 rfl rfl dX5_keepRepresentatives_9 ?_
      refine Y_getR C (pc := 10) hk0 q_fi_RX5_39 (by decide) dX5_keepRepresentatives_10 ?_
      refine Y_iload_n C (pc := 13) 3 3 rfl rfl dX5_keepRepresentatives_13 ?_
      obtain ⟨v2, hv2, h⟩ := Option.bind_eq_some_iff.mp h
      refine Y_callSN C [.ref (ρ (k0 + 14)), .int s1.2.1] [] [.int v2] (c_X8_item (q_kr_5_16 hk0) hv2) (fun _ h => h.elim) q_cw_yX8_item q_mn_RX5_147 q_st_yX8_item ⟨⟨Nat.le_of_ble_eq_true rfl, Nat.le_of_ble_eq_true rfl⟩, ⟨Nat.zero_le _, Nat.zero_le _⟩, Nat.le_of_ble_eq_true rfl⟩ rfl rfl rfl dX5_keepRepresentatives_14 ?_
      refine Y_istore C (pc := 17) (lv' := [(4, .int v2), (0, .ref (ρ k0)), (1, .int i1), (2, .int s1.1), (3, .int s1.2.1)]) (by decide) rfl dX5_keepRepresentatives_17 ?_
      refine Y_aload_n C (pc := 19) 0 1 rfl rfl dX5_keepRepresentatives_19 ?_
      refine Y_getR C (pc := 20) hk0 q_fi_RX5_32 (by decide) dX5_keepRepresentatives_20 ?_
      refine Y_getR C (pc := 23) (q_kr_5_14 hk0) q_fi_RX5_170 (by decide) dX5_keepRepresentatives_23 ?_
      refine Y_iload C (pc := 26) 0 rfl dX5_keepRepresentatives_26 ?_
      obtain ⟨v3, hv3, h⟩ := Option.bind_eq_some_iff.mp h
      refine Y_callSN C [.ref (ρ ((k0 + 10) + 1)), .int v2] [] [.int v3] (c_X8_item (q_kr_7_1 (q_kr_5_14 hk0)) hv3) (fun _ h => h.elim) q_cw_yX8_item q_mn_RX5_147 q_st_yX8_item ⟨⟨Nat.le_of_ble_eq_true rfl, Nat.le_of_ble_eq_true rfl⟩, ⟨Nat.zero_le _, Nat.zero_le _⟩, Nat.le_of_ble_eq_true rfl⟩ rfl rfl rfl dX5_keepRepresentatives_28 ?_
      refine Y_iload C (pc := 31) 0 rfl dX5_keepRepresentatives_31 ?_
      refine Y_icmp_ne C (pc := 33) (tgt := 49) dX5_keepRepresentatives_33 (by decide) (fun c8 => ?_) (fun c8 => ?_)
      · rw [if_neg c8] at h
        exact Y_sub [1, 2, 3, 4] rfl (hJ49 _ _ _ h)
      · rw [if_pos c8] at h
        refine Y_aload_n C (pc := 36) 0 1 rfl rfl dX5_keepRepresentatives_36 ?_
        refine Y_getR C (pc := 37) hk0 q_fi_RX5_39 (by decide) dX5_keepRepresentatives_37 ?_
        refine Y_iload_n C (pc := 40) 2 3 rfl rfl dX5_keepRepresentatives_40 ?_
        refine Y_iload C (pc := 41) 0 rfl dX5_keepRepresentatives_41 ?_
        obtain ⟨v7, hv7, h⟩ := Option.bind_eq_some_iff.mp h
        refine Y_callSN C [.ref (ρ (k0 + 14)), .int s1.1, .int v2] [] [] (c_X8_setItem hI (q_kr_5_16 hk0) (q_lr_5_16 hk0) hv7) (fun _ h => h) q_cw_yX8_setItem q_mn_RX5_151 q_st_yX8_setItem ⟨⟨Nat.le_of_ble_eq_true rfl, Nat.le_of_ble_eq_true rfl⟩, ⟨Nat.zero_le _, Nat.zero_le _⟩, Nat.le_of_ble_eq_true rfl⟩ rfl rfl rfl dX5_keepRepresentatives_43 ?_
        refine Y_iinc C (pc := 46) (v := (s1.1 + 1)) (lv' := [(2, .int (s1.1 + 1)), (4, .int v2), (0, .ref (ρ k0)), (1, .int i1), (3, .int s1.2.1)]) 3 rfl (congrArg (fun z => s1.1 + z) (by decide : Int32.ofInt (1) = (1))) (by decide) rfl dX5_keepRepresentatives_46 ?_
        exact Y_sub [2, 3, 0, 4] rfl (hJ49 _ _ _ h)
  · refine Y_iload_n C (pc := 55) 2 0 rfl rfl dX5_keepRepresentatives_55 ?_
    cases h
    exact Y_iret C dX5_keepRepresentatives_56

set_option maxRecDepth 100000 in
set_option maxHeartbeats 4000000 in
theorem c_X5_expand {l : Launch} {D : va_G} {cA ρ : Nat → Nat} {σ : Sg} {τ : Tg} {k0 : Nat} {k1 : Nat} (hI : Inj ρ) (hk0 : kd k0 = (0, 5)) (hk1 : kd k1 = (0, 6)) {r : Sg × Tg} (h : f_X5_expand σ τ k0 k1 = some r) : Ct l yX5_expand cX5_expand 6 none 4 99 D cA ρ (Aw ρ) [.ref (ρ k0), .ref (ρ k1)] σ τ none r.1 r.2 := by
  refine Ct_of (by decide +kernel) (Nat.le_of_ble_eq_true rfl) (fun p e s m args below meth c C => ?_)
  have C : Ctx p l s m args meth c cX5_expand RX5 6 none D cA ρ (Aw ρ) := C
  have hW : Wr ρ (Aw ρ) := ⟨hI, fun k hk => ⟨k, hk, rfl⟩⟩
  unfold f_X5_expand at h
  refine Y_sub [0, 1] (lv' := [(0, .ref (ρ k0)), (1, .ref (ρ k1))]) rfl ?_
  have hJ46 : ∀ (j3 : Int32) (j4 : Int32) (sj5 : Sg) (tj6 : Tg), f_X5_expand_J46 k0 k1 j3 j4 sj5 tj6 = some r → Y p l e (Rm 4 99) s m args below meth c 6 D cA ρ (Aw ρ) 0 0 (MQ below (QC D cA ρ (Aw ρ) none r.1 r.2) args s 0 0 (Aw ρ)) sj5 tj6 46 [(0, .ref (ρ k0)), (1, .ref (ρ k1)), (2, .int j3), (3, .int j4)] [] := by
    intro j3 j4 sj5 tj6 h
    unfold f_X5_expand_J46 at h
    refine Y_iconst C (pc := 46) (v := (0 : Int32)) (by decide) dX5_expand_46 ?_
    refine Y_istore C (pc := 47) (lv' := [(4, .int (0 : Int32)), (0, .ref (ρ k0)), (1, .ref (ρ k1)), (2, .int j3), (3, .int j4)]) (by decide) rfl dX5_expand_47 ?_
    obtain ⟨e17, he17, h⟩ := Option.bind_eq_some_iff.mp h
    refine Y_sub [1, 2, 3, 4, 0] (lv' := [(0, .ref (ρ k0)), (1, .ref (ρ k1)), (2, .int j3), (3, .int j4), (4, .int (0 : Int32))]) rfl ?_
    refine lo_rule (f := (f_X5_expand_L49 j4 k0 j3 k1)) (YS := fun s7 => Y p l e (Rm 4 99) s m args below meth c 6 D cA ρ (Aw ρ) 0 0 (MQ below (QC D cA ρ (Aw ρ) none r.1 r.2) args s 0 0 (Aw ρ)) s7.2.1 s7.2.2 49 [(0, .ref (ρ k0)), (1, .ref (ρ k1)), (2, .int j3), (3, .int j4), (4, .int s7.1)] []) (YE := fun e17 => Y p l e (Rm 4 99) s m args below meth c 6 D cA ρ (Aw ρ) 0 0 (MQ below (QC D cA ρ (Aw ρ) none r.1 r.2) args s 0 0 (Aw ρ)) e17.1 e17.2 103 [(0, .ref (ρ k0)), (2, .int j3)] []) ?_ he17 ?_
    · intro s7 x h hLp hE
      unfold f_X5_expand_L49 at h
      have hJ77 : ∀ (j8 : Int32) (j9 : Int32) (sj10 : Sg) (tj11 : Tg), f_X5_expand_J77 k0 j3 k1 j8 j9 sj10 tj11 = some x → Y p l e (Rm 4 99) s m args below meth c 6 D cA ρ (Aw ρ) 0 0 (MQ below (QC D cA ρ (Aw ρ) none r.1 r.2) args s 0 0 (Aw ρ)) sj10 tj11 77 [(0, .ref (ρ k0)), (1, .ref (ρ k1)), (2, .int j3), (3, .int j4), (4, .int j8)] [.int j9, .ref (ρ (k0 + 14))] := by
        intro j8 j9 sj10 tj11 h
        unfold f_X5_expand_J77 at h
        obtain ⟨v12, hv12, h⟩ := Option.bind_eq_some_iff.mp h
        refine Y_callSN C [.ref (ρ (k0 + 14)), .int j9] [] [.int v12] (c_X8_item (q_kr_5_16 hk0) hv12) (fun _ h => h.elim) q_cw_yX8_item q_mn_RX5_147 q_st_yX8_item ⟨⟨Nat.le_of_ble_eq_true rfl, Nat.le_of_ble_eq_true rfl⟩, ⟨Nat.zero_le _, Nat.zero_le _⟩, Nat.le_of_ble_eq_true rfl⟩ rfl rfl rfl dX5_expand_77 ?_
        refine Y_istore C (pc := 80) (lv' := [(5, .int v12), (0, .ref (ρ k0)), (1, .ref (ρ k1)), (2, .int j3), (3, .int j4), (4, .int j8)]) (by decide) rfl dX5_expand_80 ?_
        refine Y_aload_n C (pc := 82) 0 1 rfl rfl dX5_expand_82 ?_
        refine Y_getR C (pc := 83) hk0 q_fi_RX5_36 (by decide) dX5_expand_83 ?_
        refine Y_iload_n C (pc := 86) 2 3 rfl rfl dX5_expand_86 ?_
        refine Y_iload C (pc := 87) 0 rfl dX5_expand_87 ?_
        obtain ⟨v13, hv13, h⟩ := Option.bind_eq_some_iff.mp h
        refine Y_callSN C [.ref (ρ (k0 + 13)), .int j3, .int v12] [] [] (c_X8_setItem hI (q_kr_5_15 hk0) (q_lr_5_15 hk0) hv13) (fun _ h => h) q_cw_yX8_setItem q_mn_RX5_151 q_st_yX8_setItem ⟨⟨Nat.le_of_ble_eq_true rfl, Nat.le_of_ble_eq_true rfl⟩, ⟨Nat.zero_le _, Nat.zero_le _⟩, Nat.le_of_ble_eq_true rfl⟩ rfl rfl rfl dX5_expand_89 ?_
        refine Y_aload_n C (pc := 92) 0 1 rfl rfl dX5_expand_92 ?_
        refine Y_aload_n C (pc := 93) 1 2 rfl rfl dX5_expand_93 ?_
        obtain ⟨v14, hv14, h⟩ := Option.bind_eq_some_iff.mp h
        refine Y_callV C [.ref (ρ k1)] [] [] hk0 rfl rfl (c_X5_admit hI hk0 hk1 hv14) (fun _ h => h) q_cw_yX5_admit q_ml_RX5_72 ⟨q_im_yX5_admit, q_se_yX5_admit⟩ ⟨⟨Nat.le_of_ble_eq_true rfl, Nat.le_of_ble_eq_true rfl⟩, ⟨Nat.zero_le _, Nat.zero_le _⟩, Nat.le_of_ble_eq_true rfl⟩ rfl rfl rfl dX5_expand_94 ?_
        refine Y_iinc C (pc := 97) (v := (j8 + 1)) (lv' := [(4, .int (j8 + 1)), (5, .int v12), (0, .ref (ρ k0)), (1, .ref (ρ k1)), (2, .int j3), (3, .int j4)]) 5 rfl (congrArg (fun z => j8 + z) (by decide : Int32.ofInt (1) = (1))) (by decide) rfl dX5_expand_97 ?_
        refine Y_goto C (pc := 100) (tgt := 49) dX5_expand_100 (by decide) ?_
        have h := Option.some.inj h
        exact Y_sub [2, 3, 4, 5, 0] rfl (hLp _ h.symm)
      refine Y_iload C (pc := 49) 4 rfl dX5_expand_49 ?_
      refine Y_iload_n C (pc := 51) 3 3 rfl rfl dX5_expand_51 ?_
      refine Y_icmp_ge C (pc := 52) (tgt := 103) dX5_expand_52 (by decide) (fun c16 => ?_) (fun c16 => ?_)
      · rw [if_pos c16] at h
        have h := Option.some.inj h
        exact Y_sub [0, 2] rfl (hE _ h.symm)
      · rw [if_neg c16] at h
        refine Y_aload_n C (pc := 55) 0 0 rfl rfl dX5_expand_55 ?_
        refine Y_getR C (pc := 56) hk0 q_fi_RX5_39 (by decide) dX5_expand_56 ?_
        refine Y_aload_n C (pc := 59) 0 0 rfl rfl dX5_expand_59 ?_
        refine Y_getI C (pc := 60) hk0 q_fi_RX5_79 dX5_expand_60 ?_
        refine Y_if_eq C (pc := 63) (tgt := 71) dX5_expand_63 (by decide) (fun c15 => ?_) (fun c15 => ?_)
        · rw [if_pos c15] at h
          refine Y_iload_n C (pc := 71) 3 3 rfl rfl dX5_expand_71 ?_
          refine Y_iconst C (pc := 72) (v := (1 : Int32)) (by decide) dX5_expand_72 ?_
          refine Y_isub C (pc := 73) dX5_expand_73 ?_
          refine Y_iload C (pc := 74) 4 rfl dX5_expand_74 ?_
          refine Y_isub C (pc := 76) dX5_expand_76 ?_
          exact Y_sub [0, 1, 2, 3, 4] rfl (hJ77 _ _ _ _ h)
        · rw [if_neg c15] at h
          refine Y_iload C (pc := 66) 4 rfl dX5_expand_66 ?_
          refine Y_goto C (pc := 68) (tgt := 77) dX5_expand_68 (by decide) ?_
          exact Y_sub [0, 1, 2, 3, 4] rfl (hJ77 _ _ _ _ h)
    · refine Y_aload_n C (pc := 103) 0 0 rfl rfl dX5_expand_103 ?_
      refine Y_getR C (pc := 104) hk0 q_fi_RX5_36 (by decide) dX5_expand_104 ?_
      refine Y_iload_n C (pc := 107) 2 1 rfl rfl dX5_expand_107 ?_
      refine Y_iconst C (pc := 108) (v := (-1 : Int32)) (by decide) dX5_expand_108 ?_
      obtain ⟨v18, hv18, h⟩ := Option.bind_eq_some_iff.mp h
      refine Y_callSN C [.ref (ρ (k0 + 13)), .int j3, .int (-1 : Int32)] [] [] (c_X8_setItem hI (q_kr_5_15 hk0) (q_lr_5_15 hk0) hv18) (fun _ h => h) q_cw_yX8_setItem q_mn_RX5_151 q_st_yX8_setItem ⟨⟨Nat.le_of_ble_eq_true rfl, Nat.le_of_ble_eq_true rfl⟩, ⟨Nat.zero_le _, Nat.zero_le _⟩, Nat.le_of_ble_eq_true rfl⟩ rfl rfl rfl dX5_expand_109 ?_
      cases h
      exact Y_vret C dX5_expand_112
  refine Y_aload_n C (pc := 0) 0 0 rfl rfl dX5_expand_0 ?_
  refine Y_getR C (pc := 1) hk0 q_fi_RX5_25 (by decide) dX5_expand_1 ?_
  obtain ⟨v1, hv1, h⟩ := Option.bind_eq_some_iff.mp h
  refine Y_callV C [] [] [.int v1] (q_kr_5_13 hk0) rfl rfl (c_X1_mostRegretted (q_kr_5_13 hk0) hv1) (fun _ h => h.elim) q_cw_yX1_mostRegretted q_ml_RX5_158 ⟨q_im_yX1_mostRegretted, q_se_yX1_mostRegretted⟩ ⟨⟨Nat.le_of_ble_eq_true rfl, Nat.le_of_ble_eq_true rfl⟩, ⟨Nat.zero_le _, Nat.zero_le _⟩, Nat.le_of_ble_eq_true rfl⟩ rfl rfl rfl dX5_expand_4 ?_
  refine Y_istore_n C (pc := 7) (lv' := [(2, .int v1), (0, .ref (ρ k0)), (1, .ref (ρ k1))]) 2 rfl (by decide) rfl dX5_expand_7 ?_
  refine Y_aload_n C (pc := 8) 0 1 rfl rfl dX5_expand_8 ?_
  refine Y_getR C (pc := 9) hk0 q_fi_RX5_25 (by decide) dX5_expand_9 ?_
  refine Y_iload_n C (pc := 12) 2 0 rfl rfl dX5_expand_12 ?_
  refine Y_aload_n C (pc := 13) 0 1 rfl rfl dX5_expand_13 ?_
  refine Y_getR C (pc := 14) hk0 q_fi_RX5_39 (by decide) dX5_expand_14 ?_
  obtain ⟨v2, hv2, h⟩ := Option.bind_eq_some_iff.mp h
  refine Y_callV C [.int v1, .ref (ρ (k0 + 14))] [] [.int v2.1] (q_kr_5_13 hk0) rfl rfl (c_X1_orderLocations hI (q_kr_5_13 hk0) (q_kr_5_16 hk0) (q_lr_5_16 hk0) hv2) (fun _ h => h) q_cw_yX1_orderLocations q_ml_RX5_161 ⟨q_im_yX1_orderLocations, q_se_yX1_orderLocations⟩ ⟨⟨Nat.le_of_ble_eq_true rfl, Nat.le_of_ble_eq_true rfl⟩, ⟨Nat.zero_le _, Nat.zero_le _⟩, Nat.le_of_ble_eq_true rfl⟩ rfl rfl rfl dX5_expand_17 ?_
  refine Y_istore_n C (pc := 20) (lv' := [(3, .int v2.1), (2, .int v1), (0, .ref (ρ k0)), (1, .ref (ρ k1))]) 3 rfl (by decide) rfl dX5_expand_20 ?_
  refine Y_aload_n C (pc := 21) 0 2 rfl rfl dX5_expand_21 ?_
  refine Y_getI C (pc := 22) hk0 q_fi_RX5_103 dX5_expand_22 ?_
  refine Y_if_eq C (pc := 25) (tgt := 46) dX5_expand_25 (by decide) (fun c21 => ?_) (fun c21 => ?_)
  · rw [if_pos c21] at h
    exact Y_sub [2, 3, 1, 0] rfl (hJ46 _ _ _ _ h)
  · rw [if_neg c21] at h
    refine Y_aload_n C (pc := 28) 0 2 rfl rfl dX5_expand_28 ?_
    refine Y_getR C (pc := 29) hk0 q_fi_RX5_32 (by decide) dX5_expand_29 ?_
    refine Y_aload_n C (pc := 32) 1 3 rfl rfl dX5_expand_32 ?_
    refine Y_aload_n C (pc := 33) 0 2 rfl rfl dX5_expand_33 ?_
    refine Y_getR C (pc := 34) hk0 q_fi_RX5_36 (by decide) dX5_expand_34 ?_
    obtain ⟨v19, hv19, h⟩ := Option.bind_eq_some_iff.mp h
    refine Y_callV C [.ref (ρ k1), .ref (ρ (k0 + 13))] [] [] (q_kr_5_14 hk0) rfl rfl (c_X7_load hI (q_kr_5_14 hk0) hk1 (q_kr_5_15 hk0) hv19) (fun _ h => h) q_cw_yX7_load q_ml_RX5_165 ⟨q_im_yX7_load, q_se_yX7_load⟩ ⟨⟨Nat.le_of_ble_eq_true rfl, Nat.le_of_ble_eq_true rfl⟩, ⟨Nat.zero_le _, Nat.zero_le _⟩, Nat.le_of_ble_eq_true rfl⟩ rfl rfl rfl dX5_expand_37 ?_
    refine Y_aload_n C (pc := 40) 0 2 rfl rfl dX5_expand_40 ?_
    refine Y_iload_n C (pc := 41) 3 0 rfl rfl dX5_expand_41 ?_
    obtain ⟨v20, hv20, h⟩ := Option.bind_eq_some_iff.mp h
    refine Y_callV C [.int v2.1] [] [.int v20.1] hk0 rfl rfl (c_X5_keepRepresentatives hI hk0 hv20) (fun _ h => h) q_cw_yX5_keepRepresentatives q_ml_RX5_166 ⟨q_im_yX5_keepRepresentatives, q_se_yX5_keepRepresentatives⟩ ⟨⟨Nat.le_of_ble_eq_true rfl, Nat.le_of_ble_eq_true rfl⟩, ⟨Nat.zero_le _, Nat.zero_le _⟩, Nat.le_of_ble_eq_true rfl⟩ rfl rfl rfl dX5_expand_42 ?_
    refine Y_istore_n C (pc := 45) (lv' := [(3, .int v20.1), (2, .int v1), (0, .ref (ρ k0)), (1, .ref (ρ k1))]) 3 rfl (by decide) rfl dX5_expand_45 ?_
    exact Y_sub [2, 3, 1, 0] rfl (hJ46 _ _ _ _ h)

set_option maxRecDepth 100000 in
set_option maxHeartbeats 4000000 in
theorem c_X5_make {l : Launch} {D : va_G} {cA ρ : Nat → Nat} {σ : Sg} {τ : Tg} {k0 : Nat} {k1 : Nat} {i2 : Int32} {i3 : Int32} (hI : Inj ρ) (hk0 : kd k0 = (0, 5)) (hk1 : kd k1 = (0, 6)) {r : Sg × Tg} (h : f_X5_make σ τ k0 k1 i2 i3 = some r) : Ct l yX5_make cX5_make 5 none 5 124 D cA ρ (Aw ρ) [.ref (ρ k0), .ref (ρ k1), .int i2, .int i3] σ τ none r.1 r.2 := by
  refine Ct_of (by decide +kernel) (Nat.le_of_ble_eq_true rfl) (fun p e s m args below meth c C => ?_)
  have C : Ctx p l s m args meth c cX5_make RX5 5 none D cA ρ (Aw ρ) := C
  have hW : Wr ρ (Aw ρ) := ⟨hI, fun k hk => ⟨k, hk, rfl⟩⟩
  unfold f_X5_make at h
  refine Y_sub [0, 1, 2, 3] (lv' := [(0, .ref (ρ k0)), (1, .ref (ρ k1)), (2, .int i2), (3, .int i3)]) rfl ?_
  refine Y_aload_n C (pc := 0) 0 0 rfl rfl dX5_make_0 ?_
  refine Y_aload_n C (pc := 1) 1 1 rfl rfl dX5_make_1 ?_
  refine Y_iload_n C (pc := 2) 2 2 rfl rfl dX5_make_2 ?_
  refine Y_iload_n C (pc := 3) 3 3 rfl rfl dX5_make_3 ?_
  obtain ⟨v1, hv1, h⟩ := Option.bind_eq_some_iff.mp h
  refine Y_callV C [.ref (ρ k1), .int i2, .int i3] [] [] hk0 rfl rfl (c_X5_begin hI hk0 hk1 hv1) (fun _ h => h) q_cw_yX5_begin q_ml_RX5_68 ⟨q_im_yX5_begin, q_se_yX5_begin⟩ ⟨⟨Nat.le_of_ble_eq_true rfl, Nat.le_of_ble_eq_true rfl⟩, ⟨Nat.zero_le _, Nat.zero_le _⟩, Nat.le_of_ble_eq_true rfl⟩ rfl rfl rfl dX5_make_4 ?_
  refine Y_aload_n C (pc := 7) 0 0 rfl rfl dX5_make_7 ?_
  refine Y_aload_n C (pc := 8) 1 1 rfl rfl dX5_make_8 ?_
  obtain ⟨v2, hv2, h⟩ := Option.bind_eq_some_iff.mp h
  refine Y_callV C [.ref (ρ k1)] [] [] hk0 rfl rfl (c_X5_admit hI hk0 hk1 hv2) (fun _ h => h) q_cw_yX5_admit q_ml_RX5_72 ⟨q_im_yX5_admit, q_se_yX5_admit⟩ ⟨⟨Nat.le_of_ble_eq_true rfl, Nat.le_of_ble_eq_true rfl⟩, ⟨Nat.zero_le _, Nat.zero_le _⟩, Nat.le_of_ble_eq_true rfl⟩ rfl rfl rfl dX5_make_9 ?_
  refine Y_iconst C (pc := 12) (v := (0 : Int32)) (by decide) dX5_make_12 ?_
  refine Y_istore C (pc := 13) (lv' := [(4, .int (0 : Int32)), (0, .ref (ρ k0)), (1, .ref (ρ k1)), (2, .int i2), (3, .int i3)]) (by decide) rfl dX5_make_13 ?_
  obtain ⟨e20, he20, h⟩ := Option.bind_eq_some_iff.mp h
  refine Y_sub [1, 2, 0] (lv' := [(0, .ref (ρ k0)), (1, .ref (ρ k1)), (4, .int (0 : Int32))]) rfl ?_
  refine lo_rule (f := (f_X5_make_L15 k0 k1)) (YS := fun s3 => Y p l e (Rm 5 124) s m args below meth c 5 D cA ρ (Aw ρ) 0 0 (MQ below (QC D cA ρ (Aw ρ) none r.1 r.2) args s 0 0 (Aw ρ)) s3.2.1 s3.2.2 15 [(0, .ref (ρ k0)), (1, .ref (ρ k1)), (4, .int s3.1)] []) (YE := fun e20 => Y p l e (Rm 5 124) s m args below meth c 5 D cA ρ (Aw ρ) 0 0 (MQ below (QC D cA ρ (Aw ρ) none r.1 r.2) args s 0 0 (Aw ρ)) e20.1 e20.2 80 [(0, .ref (ρ k0))] []) ?_ he20 ?_
  · intro s3 x h hLp hE
    unfold f_X5_make_L15 at h
    have hJ74 : ∀ (j11 : Int32) (sj12 : Sg) (tj13 : Tg), f_X5_make_J74 j11 sj12 tj13 = some x → Y p l e (Rm 5 124) s m args below meth c 5 D cA ρ (Aw ρ) 0 0 (MQ below (QC D cA ρ (Aw ρ) none r.1 r.2) args s 0 0 (Aw ρ)) sj12 tj13 74 [(0, .ref (ρ k0)), (1, .ref (ρ k1)), (4, .int j11)] [] := by
      intro j11 sj12 tj13 h
      unfold f_X5_make_J74 at h
      refine Y_iinc C (pc := 74) (v := (j11 + 1)) (lv' := [(4, .int (j11 + 1)), (0, .ref (ρ k0)), (1, .ref (ρ k1))]) 2 rfl (congrArg (fun z => j11 + z) (by decide : Int32.ofInt (1) = (1))) (by decide) rfl dX5_make_74 ?_
      refine Y_goto C (pc := 77) (tgt := 15) dX5_make_77 (by decide) ?_
      have h := Option.some.inj h
      exact Y_sub [1, 2, 0] rfl (hLp _ h.symm)
    have hJ58 : ∀ (j5 : Int32) (j6 : Int64) (sj7 : Sg) (tj8 : Tg), f_X5_make_J58 k0 k1 j5 j6 sj7 tj8 = some x → Y p l e (Rm 5 124) s m args below meth c 5 D cA ρ (Aw ρ) 0 0 (MQ below (QC D cA ρ (Aw ρ) none r.1 r.2) args s 0 0 (Aw ρ)) sj7 tj8 58 [(0, .ref (ρ k0)), (1, .ref (ρ k1)), (4, .int j5)] [.long j6, .ref (ρ k0)] := by
      intro j5 j6 sj7 tj8 h
      unfold f_X5_make_J58 at h
      obtain ⟨v9, hv9, h⟩ := Option.bind_eq_some_iff.mp h
      refine Y_callV C [.long j6] [] [] hk0 rfl rfl (c_X5_unpack hI hk0 hv9) (fun _ h => h) q_cw_yX5_unpack q_ml_RX5_89 ⟨q_im_yX5_unpack, q_se_yX5_unpack⟩ ⟨⟨Nat.le_of_ble_eq_true rfl, Nat.le_of_ble_eq_true rfl⟩, ⟨Nat.zero_le _, Nat.zero_le _⟩, Nat.le_of_ble_eq_true rfl⟩ rfl rfl rfl dX5_make_58 ?_
      refine Y_aload_n C (pc := 61) 0 0 rfl rfl dX5_make_61 ?_
      refine Y_aload_n C (pc := 62) 1 1 rfl rfl dX5_make_62 ?_
      obtain ⟨v10, hv10, h⟩ := Option.bind_eq_some_iff.mp h
      refine Y_callV C [.ref (ρ k1)] [] [.int v10.1] hk0 rfl rfl (c_X5_visit hI hk0 hk1 hv10) (fun _ h => h) q_cw_yX5_visit q_ml_RX5_93 ⟨q_im_yX5_visit, q_se_yX5_visit⟩ ⟨⟨Nat.le_of_ble_eq_true rfl, Nat.le_of_ble_eq_true rfl⟩, ⟨Nat.zero_le _, Nat.zero_le _⟩, Nat.le_of_ble_eq_true rfl⟩ rfl rfl rfl dX5_make_63 ?_
      refine Y_if_eq C (pc := 66) (tgt := 74) dX5_make_66 (by decide) (fun c15 => ?_) (fun c15 => ?_)
      · rw [if_pos c15] at h
        exact Y_sub [0, 1, 2] rfl (hJ74 _ _ _ h)
      · rw [if_neg c15] at h
        refine Y_aload_n C (pc := 69) 0 0 rfl rfl dX5_make_69 ?_
        refine Y_aload_n C (pc := 70) 1 1 rfl rfl dX5_make_70 ?_
        obtain ⟨v14, hv14, h⟩ := Option.bind_eq_some_iff.mp h
        refine Y_callV C [.ref (ρ k1)] [] [] hk0 rfl rfl (c_X5_expand hI hk0 hk1 hv14) (fun _ h => h) q_cw_yX5_expand q_ml_RX5_97 ⟨q_im_yX5_expand, q_se_yX5_expand⟩ ⟨⟨Nat.le_of_ble_eq_true rfl, Nat.le_of_ble_eq_true rfl⟩, ⟨Nat.zero_le _, Nat.zero_le _⟩, Nat.le_of_ble_eq_true rfl⟩ rfl rfl rfl dX5_make_71 ?_
        exact Y_sub [0, 1, 2] rfl (hJ74 _ _ _ h)
    refine Y_iload C (pc := 15) 2 rfl dX5_make_15 ?_
    refine Y_sipush C (pc := 17) (v := (1957 : Int32)) (by decide) dX5_make_17 ?_
    refine Y_icmp_ge C (pc := 20) (tgt := 80) dX5_make_20 (by decide) (fun c19 => ?_) (fun c19 => ?_)
    · rw [if_pos c19] at h
      have h := Option.some.inj h
      exact Y_sub [0] rfl (hE _ h.symm)
    · rw [if_neg c19] at h
      refine Y_aload_n C (pc := 23) 0 0 rfl rfl dX5_make_23 ?_
      refine Y_getR C (pc := 24) hk0 q_fi_RX5_18 (by decide) dX5_make_24 ?_
      refine Y_getI C (pc := 27) (q_kr_5_12 hk0) q_fi_RX5_76 dX5_make_27 ?_
      refine Y_if_le C (pc := 30) (tgt := 80) dX5_make_30 (by decide) (fun c18 => ?_) (fun c18 => ?_)
      · rw [if_pos c18] at h
        have h := Option.some.inj h
        exact Y_sub [0] rfl (hE _ h.symm)
      · rw [if_neg c18] at h
        refine Y_aload_n C (pc := 33) 0 0 rfl rfl dX5_make_33 ?_
        refine Y_aload_n C (pc := 34) 0 0 rfl rfl dX5_make_34 ?_
        refine Y_getI C (pc := 35) hk0 q_fi_RX5_79 dX5_make_35 ?_
        refine Y_if_eq C (pc := 38) (tgt := 51) dX5_make_38 (by decide) (fun c17 => ?_) (fun c17 => ?_)
        · rw [if_pos c17] at h
          refine Y_aload_n C (pc := 51) 0 0 rfl rfl dX5_make_51 ?_
          refine Y_getR C (pc := 52) hk0 q_fi_RX5_18 (by decide) dX5_make_52 ?_
          obtain ⟨v4, hv4, h⟩ := Option.bind_eq_some_iff.mp h
          refine Y_callV C [] [.ref (ρ k0)] [.long v4.1, .ref (ρ k0)] (q_kr_5_12 hk0) rfl rfl (c_X3_takeLast hI (q_kr_5_12 hk0) hv4) (fun _ h => h) q_cw_yX3_takeLast q_ml_RX5_86 ⟨q_im_yX3_takeLast, q_se_yX3_takeLast⟩ ⟨⟨Nat.le_of_ble_eq_true rfl, Nat.le_of_ble_eq_true rfl⟩, ⟨Nat.zero_le _, Nat.zero_le _⟩, Nat.le_of_ble_eq_true rfl⟩ rfl rfl rfl dX5_make_55 ?_
          exact Y_sub [0, 1, 2] rfl (hJ58 _ _ _ _ h)
        · rw [if_neg c17] at h
          refine Y_aload_n C (pc := 41) 0 0 rfl rfl dX5_make_41 ?_
          refine Y_getR C (pc := 42) hk0 q_fi_RX5_18 (by decide) dX5_make_42 ?_
          obtain ⟨v16, hv16, h⟩ := Option.bind_eq_some_iff.mp h
          refine Y_callV C [] [.ref (ρ k0)] [.long v16.1, .ref (ρ k0)] (q_kr_5_12 hk0) rfl rfl (c_X3_takeLeast hI (q_kr_5_12 hk0) hv16) (fun _ h => h) q_cw_yX3_takeLeast q_ml_RX5_82 ⟨q_im_yX3_takeLeast, q_se_yX3_takeLeast⟩ ⟨⟨Nat.le_of_ble_eq_true rfl, Nat.le_of_ble_eq_true rfl⟩, ⟨Nat.zero_le _, Nat.zero_le _⟩, Nat.le_of_ble_eq_true rfl⟩ rfl rfl rfl dX5_make_45 ?_
          refine Y_goto C (pc := 48) (tgt := 58) dX5_make_48 (by decide) ?_
          exact Y_sub [0, 1, 2] rfl (hJ58 _ _ _ _ h)
  · refine Y_aload_n C (pc := 80) 0 0 rfl rfl dX5_make_80 ?_
    refine Y_aload_n C (pc := 81) 0 0 rfl rfl dX5_make_81 ?_
    refine Y_getR C (pc := 82) hk0 q_fi_RX5_18 (by decide) dX5_make_82 ?_
    refine Y_getI C (pc := 85) (q_kr_5_12 hk0) q_fi_RX5_100 dX5_make_85 ?_
    refine Y_putI C (pc := 88) hW hk0 (q_lo_5 hk0) q_fp_RX5_62 dX5_make_88 ?_
    cases h
    exact Y_vret C dX5_make_91

set_option maxRecDepth 100000 in
set_option maxHeartbeats 4000000 in
theorem c_X6_reset {l : Launch} {D : va_G} {cA ρ : Nat → Nat} {σ : Sg} {τ : Tg} {k0 : Nat} {i1 : Int32} (hI : Inj ρ) (hk0 : kd k0 = (0, 6)) {r : Sg} (h : f_X6_reset σ k0 i1 = some r) : Ct l yX6_reset cX6_reset 3 none 0 0 D cA ρ (Aw ρ) [.ref (ρ k0), .int i1] σ τ none r τ := by
  refine Ct_of (by decide +kernel) (Nat.le_of_ble_eq_true rfl) (fun p e s m args below meth c C => ?_)
  have C : Ctx p l s m args meth c cX6_reset RX6 3 none D cA ρ (Aw ρ) := C
  have hW : Wr ρ (Aw ρ) := ⟨hI, fun k hk => ⟨k, hk, rfl⟩⟩
  unfold f_X6_reset at h
  refine Y_sub [0, 1] (lv' := [(0, .ref (ρ k0)), (1, .int i1)]) rfl ?_
  refine Y_aload_n C (pc := 0) 0 0 rfl rfl dX6_reset_0 ?_
  refine Y_iload_n C (pc := 1) 1 1 rfl rfl dX6_reset_1 ?_
  refine Y_putI C (pc := 2) hW hk0 (q_lo_6 hk0) q_fp_RX6_31 dX6_reset_2 ?_
  refine Y_iconst C (pc := 5) (v := (0 : Int32)) (by decide) dX6_reset_5 ?_
  refine Y_istore_n C (pc := 6) (lv' := [(2, .int (0 : Int32)), (0, .ref (ρ k0)), (1, .int i1)]) 2 rfl (by decide) rfl dX6_reset_6 ?_
  obtain ⟨e6, he6, h⟩ := Option.bind_eq_some_iff.mp h
  refine Y_sub [1, 0] (lv' := [(0, .ref (ρ k0)), (2, .int (0 : Int32))]) rfl ?_
  refine lo_rule (f := (f_X6_reset_L7 k0)) (YS := fun s1 => Y p l e (Rm 0 0) s m args below meth c 3 D cA ρ (Aw ρ) 0 0 (MQ below (QC D cA ρ (Aw ρ) none r τ) args s 0 0 (Aw ρ)) s1.2 τ 7 [(0, .ref (ρ k0)), (2, .int s1.1)] []) (YE := fun e6 => Y p l e (Rm 0 0) s m args below meth c 3 D cA ρ (Aw ρ) 0 0 (MQ below (QC D cA ρ (Aw ρ) none r τ) args s 0 0 (Aw ρ)) e6 τ 40 [(0, .ref (ρ k0))] []) ?_ he6 ?_
  · intro s1 x h hLp hE
    unfold f_X6_reset_L7 at h
    refine Y_iload_n C (pc := 7) 2 1 rfl rfl dX6_reset_7 ?_
    refine Y_bipush C (pc := 8) (v := (36 : Int32)) (by decide) dX6_reset_8 ?_
    refine Y_icmp_ge C (pc := 10) (tgt := 40) dX6_reset_10 (by decide) (fun c5 => ?_) (fun c5 => ?_)
    · rw [if_pos c5] at h
      have h := Option.some.inj h
      exact Y_sub [0] rfl (hE _ h.symm)
    · rw [if_neg c5] at h
      refine Y_aload_n C (pc := 13) 0 0 rfl rfl dX6_reset_13 ?_
      refine Y_getR C (pc := 14) hk0 q_fi_RX6_9 (by decide) dX6_reset_14 ?_
      refine Y_iload_n C (pc := 17) 2 1 rfl rfl dX6_reset_17 ?_
      refine Y_iconst C (pc := 18) (v := (0 : Int32)) (by decide) dX6_reset_18 ?_
      obtain ⟨s2, hs2, h⟩ := Option.bind_eq_some_iff.mp h
      refine Y_iast C (pc := 19) hW (q_kr_6_1 hk0) (q_lr_6_1 hk0) hs2 dX6_reset_19 ?_
      refine Y_aload_n C (pc := 20) 0 0 rfl rfl dX6_reset_20 ?_
      refine Y_getR C (pc := 21) hk0 q_fi_RX6_15 (by decide) dX6_reset_21 ?_
      refine Y_iload_n C (pc := 24) 2 1 rfl rfl dX6_reset_24 ?_
      refine Y_iconst C (pc := 25) (v := (0 : Int32)) (by decide) dX6_reset_25 ?_
      obtain ⟨s3, hs3, h⟩ := Option.bind_eq_some_iff.mp h
      refine Y_iast C (pc := 26) hW (q_kr_6_2 hk0) (q_lr_6_2 hk0) hs3 dX6_reset_26 ?_
      refine Y_aload_n C (pc := 27) 0 0 rfl rfl dX6_reset_27 ?_
      refine Y_getR C (pc := 28) hk0 q_fi_RX6_18 (by decide) dX6_reset_28 ?_
      refine Y_iload_n C (pc := 31) 2 1 rfl rfl dX6_reset_31 ?_
      refine Y_iconst C (pc := 32) (v := (0 : Int32)) (by decide) dX6_reset_32 ?_
      obtain ⟨s4, hs4, h⟩ := Option.bind_eq_some_iff.mp h
      refine Y_iast C (pc := 33) hW (q_kr_6_3 hk0) (q_lr_6_3 hk0) hs4 dX6_reset_33 ?_
      refine Y_iinc C (pc := 34) (v := (s1.1 + 1)) (lv' := [(2, .int (s1.1 + 1)), (0, .ref (ρ k0))]) 1 rfl (congrArg (fun z => s1.1 + z) (by decide : Int32.ofInt (1) = (1))) (by decide) rfl dX6_reset_34 ?_
      refine Y_goto C (pc := 37) (tgt := 7) dX6_reset_37 (by decide) ?_
      have h := Option.some.inj h
      exact Y_sub [1, 0] rfl (hLp _ h.symm)
  · refine Y_iconst C (pc := 40) (v := (0 : Int32)) (by decide) dX6_reset_40 ?_
    refine Y_istore_n C (pc := 41) (lv' := [(2, .int (0 : Int32)), (0, .ref (ρ k0))]) 2 rfl (by decide) rfl dX6_reset_41 ?_
    obtain ⟨e11, he11, h⟩ := Option.bind_eq_some_iff.mp h
    refine Y_sub [1, 0] (lv' := [(0, .ref (ρ k0)), (2, .int (0 : Int32))]) rfl ?_
    refine lo_rule (f := (f_X6_reset_L42 k0)) (YS := fun s7 => Y p l e (Rm 0 0) s m args below meth c 3 D cA ρ (Aw ρ) 0 0 (MQ below (QC D cA ρ (Aw ρ) none r τ) args s 0 0 (Aw ρ)) s7.2 τ 42 [(0, .ref (ρ k0)), (2, .int s7.1)] []) (YE := fun e11 => Y p l e (Rm 0 0) s m args below meth c 3 D cA ρ (Aw ρ) 0 0 (MQ below (QC D cA ρ (Aw ρ) none r τ) args s 0 0 (Aw ρ)) e11 τ 68 [] []) ?_ he11 ?_
    · intro s7 x h hLp hE
      unfold f_X6_reset_L42 at h
      refine Y_iload_n C (pc := 42) 2 1 rfl rfl dX6_reset_42 ?_
      refine Y_bipush C (pc := 43) (v := (6 : Int32)) (by decide) dX6_reset_43 ?_
      refine Y_icmp_ge C (pc := 45) (tgt := 68) dX6_reset_45 (by decide) (fun c10 => ?_) (fun c10 => ?_)
      · rw [if_pos c10] at h
        have h := Option.some.inj h
        exact Y_sub [] rfl (hE _ h.symm)
      · rw [if_neg c10] at h
        refine Y_aload_n C (pc := 48) 0 0 rfl rfl dX6_reset_48 ?_
        refine Y_getR C (pc := 49) hk0 q_fi_RX6_21 (by decide) dX6_reset_49 ?_
        refine Y_iload_n C (pc := 52) 2 1 rfl rfl dX6_reset_52 ?_
        refine Y_iload_n C (pc := 53) 2 1 rfl rfl dX6_reset_53 ?_
        obtain ⟨s8, hs8, h⟩ := Option.bind_eq_some_iff.mp h
        refine Y_iast C (pc := 54) hW (q_kr_6_4 hk0) (q_lr_6_4 hk0) hs8 dX6_reset_54 ?_
        refine Y_aload_n C (pc := 55) 0 0 rfl rfl dX6_reset_55 ?_
        refine Y_getR C (pc := 56) hk0 q_fi_RX6_24 (by decide) dX6_reset_56 ?_
        refine Y_iload_n C (pc := 59) 2 1 rfl rfl dX6_reset_59 ?_
        refine Y_iconst C (pc := 60) (v := (-1 : Int32)) (by decide) dX6_reset_60 ?_
        obtain ⟨s9, hs9, h⟩ := Option.bind_eq_some_iff.mp h
        refine Y_iast C (pc := 61) hW (q_kr_6_5 hk0) (q_lr_6_5 hk0) hs9 dX6_reset_61 ?_
        refine Y_iinc C (pc := 62) (v := (s7.1 + 1)) (lv' := [(2, .int (s7.1 + 1)), (0, .ref (ρ k0))]) 1 rfl (congrArg (fun z => s7.1 + z) (by decide : Int32.ofInt (1) = (1))) (by decide) rfl dX6_reset_62 ?_
        refine Y_goto C (pc := 65) (tgt := 42) dX6_reset_65 (by decide) ?_
        have h := Option.some.inj h
        exact Y_sub [1, 0] rfl (hLp _ h.symm)
    · cases h
      exact Y_vret C dX6_reset_68

set_option maxRecDepth 100000 in
set_option maxHeartbeats 4000000 in
theorem c_X6_tableOf {l : Launch} {D : va_G} {cA ρ : Nat → Nat} {σ : Sg} {τ : Tg} {k0 : Nat} {i1 : Int32} (hk0 : kd k0 = (0, 6)) {r : Nat} (h : f_X6_tableOf k0 i1 = some r) : Ct l yX6_tableOf cX6_tableOf 2 (some (.array .int)) 0 0 D cA ρ A0 [.ref (ρ k0), .int i1] σ τ (some (.ref (ρ r))) σ τ := by
  refine Ct_of (by decide +kernel) (Nat.le_of_ble_eq_true rfl) (fun p e s m args below meth c C => ?_)
  have C : Ctx p l s m args meth c cX6_tableOf RX6 2 (some (.array .int)) D cA ρ A0 := C
  unfold f_X6_tableOf at h
  refine Y_sub [0, 1] (lv' := [(0, .ref (ρ k0)), (1, .int i1)]) rfl ?_
  refine Y_iload_n C (pc := 0) 1 1 rfl rfl dX6_tableOf_0 ?_
  refine Y_if_ne C (pc := 1) (tgt := 9) dX6_tableOf_1 (by decide) (fun c2 => ?_) (fun c2 => ?_)
  · rw [if_neg c2] at h
    refine Y_iload_n C (pc := 9) 1 1 rfl rfl dX6_tableOf_9 ?_
    refine Y_iconst C (pc := 10) (v := (1 : Int32)) (by decide) dX6_tableOf_10 ?_
    refine Y_icmp_ne C (pc := 11) (tgt := 21) dX6_tableOf_11 (by decide) (fun c1 => ?_) (fun c1 => ?_)
    · rw [if_neg c1] at h
      refine Y_aload_n C (pc := 21) 0 0 rfl rfl dX6_tableOf_21 ?_
      refine Y_getR C (pc := 22) hk0 q_fi_RX6_18 (by decide) dX6_tableOf_22 ?_
      cases h
      exact Y_aretA C dX6_tableOf_25
    · rw [if_pos c1] at h
      refine Y_aload_n C (pc := 14) 0 0 rfl rfl dX6_tableOf_14 ?_
      refine Y_getR C (pc := 15) hk0 q_fi_RX6_15 (by decide) dX6_tableOf_15 ?_
      refine Y_goto C (pc := 18) (tgt := 25) dX6_tableOf_18 (by decide) ?_
      cases h
      exact Y_aretA C dX6_tableOf_25
  · rw [if_pos c2] at h
    refine Y_aload_n C (pc := 4) 0 0 rfl rfl dX6_tableOf_4 ?_
    refine Y_getR C (pc := 5) hk0 q_fi_RX6_9 (by decide) dX6_tableOf_5 ?_
    cases h
    exact Y_aretA C dX6_tableOf_8
theorem rk_X6_tableOf {k0 : Nat} {i1 : Int32} {r : Nat} (hk0 : kd k0 = (0, 6)) (h : f_X6_tableOf k0 i1 = some r) : (kd r).1 = 1 ∧ r < 97 := by
  unfold f_X6_tableOf at h
  split at h
  · cases h
    exact ⟨q_kr_6_1 hk0, q_lr_6_1 hk0⟩
  · split at h
    · cases h
      exact ⟨q_kr_6_2 hk0, q_lr_6_2 hk0⟩
    · cases h
      exact ⟨q_kr_6_3 hk0, q_lr_6_3 hk0⟩

set_option maxRecDepth 100000 in
set_option maxHeartbeats 4000000 in
theorem c_X6_scatter {l : Launch} {D : va_G} {cA ρ : Nat → Nat} {σ : Sg} {τ : Tg} {k0 : Nat} {k1 : Nat} {i2 : Int32} {i3 : Int32} (hI : Inj ρ) (hk0 : kd k0 = (0, 6)) (hk1 : (kd k1).1 = 1) (hn1 : k1 < 97) {r : Sg} (h : f_X6_scatter σ k0 k1 i2 i3 = some r) : Ct l yX6_scatter cX6_scatter 9 none 1 24 D cA ρ (Aw ρ) [.ref (ρ k0), .ref (ρ k1), .int i2, .int i3] σ τ none r τ := by
  refine Ct_of (by decide +kernel) (Nat.le_of_ble_eq_true rfl) (fun p e s m args below meth c C => ?_)
  have C : Ctx p l s m args meth c cX6_scatter RX6 9 none D cA ρ (Aw ρ) := C
  have hW : Wr ρ (Aw ρ) := ⟨hI, fun k hk => ⟨k, hk, rfl⟩⟩
  unfold f_X6_scatter at h
  refine Y_sub [0, 1, 2, 3] (lv' := [(0, .ref (ρ k0)), (1, .ref (ρ k1)), (2, .int i2), (3, .int i3)]) rfl ?_
  refine Y_iconst C (pc := 0) (v := (1 : Int32)) (by decide) dX6_scatter_0 ?_
  refine Y_iload_n C (pc := 1) 3 3 rfl rfl dX6_scatter_1 ?_
  refine Y_iconst C (pc := 2) (v := (1 : Int32)) (by decide) dX6_scatter_2 ?_
  refine Y_iadd C (pc := 3) dX6_scatter_3 ?_
  refine Y_max C (pc := 4) q_ml_RX6_41 ⟨q_st_max, q_in_Math, q_cd_max⟩ ⟨Nat.le_of_ble_eq_true rfl, Nat.le_of_ble_eq_true rfl, Nat.zero_le _, Nat.zero_le _⟩ dX6_scatter_4 ?_
  refine Y_istore C (pc := 7) (lv' := [(4, .int (mx (1 : Int32) (i3 + (1 : Int32)))), (0, .ref (ρ k0)), (1, .ref (ρ k1)), (2, .int i2), (3, .int i3)]) (by decide) rfl dX6_scatter_7 ?_
  refine Y_iload_n C (pc := 9) 2 3 rfl rfl dX6_scatter_9 ?_
  refine Y_i2l C (pc := 10) dX6_scatter_10 ?_
  refine Y_lstore C (pc := 11) (lv' := [(5, .long (Int32.toInt64 i2)), (4, .int (mx (1 : Int32) (i3 + (1 : Int32)))), (0, .ref (ρ k0)), (1, .ref (ρ k1)), (2, .int i2), (3, .int i3)]) (by decide) rfl dX6_scatter_11 ?_
  refine Y_iconst C (pc := 13) (v := (0 : Int32)) (by decide) dX6_scatter_13 ?_
  refine Y_istore C (pc := 14) (lv' := [(7, .int (0 : Int32)), (5, .long (Int32.toInt64 i2)), (4, .int (mx (1 : Int32) (i3 + (1 : Int32)))), (0, .ref (ρ k0)), (1, .ref (ρ k1)), (2, .int i2), (3, .int i3)]) (by decide) rfl dX6_scatter_14 ?_
  obtain ⟨e8, he8, h⟩ := Option.bind_eq_some_iff.mp h
  refine Y_sub [3, 4, 2, 1, 0] (lv' := [(0, .ref (ρ k0)), (1, .ref (ρ k1)), (4, .int (mx (1 : Int32) (i3 + (1 : Int32)))), (5, .long (Int32.toInt64 i2)), (7, .int (0 : Int32))]) rfl ?_
  refine lo_rule (f := (f_X6_scatter_L16 k0 i3 k1)) (YS := fun s1 => Y p l e (Rm 1 24) s m args below meth c 9 D cA ρ (Aw ρ) 0 0 (MQ below (QC D cA ρ (Aw ρ) none r τ) args s 0 0 (Aw ρ)) s1.2.2 τ 16 [(0, .ref (ρ k0)), (1, .ref (ρ k1)), (4, .int (mx (1 : Int32) (i3 + (1 : Int32)))), (5, .long s1.1), (7, .int s1.2.1)] []) (YE := fun e8 => Y p l e (Rm 1 24) s m args below meth c 9 D cA ρ (Aw ρ) 0 0 (MQ below (QC D cA ρ (Aw ρ) none r τ) args s 0 0 (Aw ρ)) e8 τ 83 [] []) ?_ he8 ?_
  · intro s1 x h hLp hE
    unfold f_X6_scatter_L16 at h
    refine Y_iload C (pc := 16) 4 rfl dX6_scatter_16 ?_
    refine Y_aload_n C (pc := 18) 0 0 rfl rfl dX6_scatter_18 ?_
    refine Y_getI C (pc := 19) hk0 q_fi_RX6_31 dX6_scatter_19 ?_
    refine Y_icmp_ge C (pc := 22) (tgt := 83) dX6_scatter_22 (by decide) (fun c7 => ?_) (fun c7 => ?_)
    · rw [if_pos c7] at h
      have h := Option.some.inj h
      exact Y_sub [] rfl (hE _ h.symm)
    · rw [if_neg c7] at h
      refine Y_iconst C (pc := 25) (v := (0 : Int32)) (by decide) dX6_scatter_25 ?_
      refine Y_istore C (pc := 26) (lv' := [(8, .int (0 : Int32)), (0, .ref (ρ k0)), (1, .ref (ρ k1)), (4, .int (mx (1 : Int32) (i3 + (1 : Int32)))), (5, .long s1.1), (7, .int s1.2.1)]) (by decide) rfl dX6_scatter_26 ?_
      obtain ⟨e6, he6, h⟩ := Option.bind_eq_some_iff.mp h
      refine Y_sub [1, 2, 3, 4, 5, 0] (lv' := [(0, .ref (ρ k0)), (1, .ref (ρ k1)), (4, .int (mx (1 : Int32) (i3 + (1 : Int32)))), (5, .long s1.1), (7, .int s1.2.1), (8, .int (0 : Int32))]) rfl ?_
      refine lo_rule (f := (f_X6_scatter_L28 k0 i3 k1 s1)) (YS := fun s2 => Y p l e (Rm 1 24) s m args below meth c 9 D cA ρ (Aw ρ) 0 0 (MQ below (QC D cA ρ (Aw ρ) none r τ) args s 0 0 (Aw ρ)) s2.2.2 τ 28 [(0, .ref (ρ k0)), (1, .ref (ρ k1)), (4, .int (mx (1 : Int32) (i3 + (1 : Int32)))), (5, .long s2.1), (7, .int s1.2.1), (8, .int s2.2.1)] []) (YE := fun e6 => Y p l e (Rm 1 24) s m args below meth c 9 D cA ρ (Aw ρ) 0 0 (MQ below (QC D cA ρ (Aw ρ) none r τ) args s 0 0 (Aw ρ)) e6.2 τ 77 [(0, .ref (ρ k0)), (1, .ref (ρ k1)), (4, .int (mx (1 : Int32) (i3 + (1 : Int32)))), (5, .long e6.1), (7, .int s1.2.1)] []) ?_ he6 ?_
      · intro s2 x h hLp hE
        unfold f_X6_scatter_L28 at h
        refine Y_iload C (pc := 28) 5 rfl dX6_scatter_28 ?_
        refine Y_aload_n C (pc := 30) 0 0 rfl rfl dX6_scatter_30 ?_
        refine Y_getI C (pc := 31) hk0 q_fi_RX6_31 dX6_scatter_31 ?_
        refine Y_icmp_ge C (pc := 34) (tgt := 77) dX6_scatter_34 (by decide) (fun c5 => ?_) (fun c5 => ?_)
        · rw [if_pos c5] at h
          have h := Option.some.inj h
          exact Y_sub [0, 1, 2, 3, 4] rfl (hE _ h.symm)
        · rw [if_neg c5] at h
          refine Y_ldc2 C (pc := 37) q_ct_RX6_47 dX6_scatter_37 ?_
          refine Y_lload C (pc := 40) 3 rfl dX6_scatter_40 ?_
          refine Y_lmul C (pc := 42) dX6_scatter_42 ?_
          refine Y_ldc2 C (pc := 43) q_ct_RX6_49 dX6_scatter_43 ?_
          refine Y_ladd C (pc := 46) dX6_scatter_46 ?_
          refine Y_ldc2 C (pc := 47) q_ct_RX6_51 dX6_scatter_47 ?_
          refine Y_land C (pc := 50) dX6_scatter_50 ?_
          refine Y_lstore C (pc := 51) (lv' := [(5, .long ((((1103515245 : Int64) * s2.1) + (12345 : Int64)) &&& (2147483647 : Int64))), (0, .ref (ρ k0)), (1, .ref (ρ k1)), (4, .int (mx (1 : Int32) (i3 + (1 : Int32)))), (7, .int s1.2.1), (8, .int s2.2.1)]) (by decide) rfl dX6_scatter_51 ?_
          refine Y_aload_n C (pc := 53) 1 2 rfl rfl dX6_scatter_53 ?_
          refine Y_iload C (pc := 54) 4 rfl dX6_scatter_54 ?_
          refine Y_iload C (pc := 56) 5 rfl dX6_scatter_56 ?_
          refine Y_lload C (pc := 58) 0 rfl dX6_scatter_58 ?_
          refine Y_bipush C (pc := 60) (v := (16 : Int32)) (by decide) dX6_scatter_60 ?_
          refine Y_lshr C (pc := 62) dX6_scatter_62 ?_
          refine Y_iload C (pc := 63) 3 rfl dX6_scatter_63 ?_
          refine Y_i2l C (pc := 65) dX6_scatter_65 ?_
          obtain ⟨v3, hv3, h⟩ := Option.bind_eq_some_iff.mp h
          refine Y_lrem' C (pc := 66) hv3 dX6_scatter_66 ?_
          refine Y_l2i C (pc := 67) dX6_scatter_67 ?_
          obtain ⟨v4, hv4, h⟩ := Option.bind_eq_some_iff.mp h
          refine Y_callSN C [.ref (ρ k1), .int s1.2.1, .int s2.2.1, .int (Int64.toInt32 v3)] [] [] (c_X8_put hI hk1 hn1 hv4) (fun _ h => h) q_cw_yX8_put q_mn_RX6_53 q_st_yX8_put ⟨⟨Nat.le_of_ble_eq_true rfl, Nat.le_of_ble_eq_true rfl⟩, ⟨Nat.zero_le _, Nat.zero_le _⟩, Nat.le_of_ble_eq_true rfl⟩ rfl rfl rfl dX6_scatter_68 ?_
          refine Y_iinc C (pc := 71) (v := (s2.2.1 + 1)) (lv' := [(8, .int (s2.2.1 + 1)), (5, .long ((((1103515245 : Int64) * s2.1) + (12345 : Int64)) &&& (2147483647 : Int64))), (0, .ref (ρ k0)), (1, .ref (ρ k1)), (4, .int (mx (1 : Int32) (i3 + (1 : Int32)))), (7, .int s1.2.1)]) 5 rfl (congrArg (fun z => s2.2.1 + z) (by decide : Int32.ofInt (1) = (1))) (by decide) rfl dX6_scatter_71 ?_
          refine Y_goto C (pc := 74) (tgt := 28) dX6_scatter_74 (by decide) ?_
          have h := Option.some.inj h
          exact Y_sub [2, 3, 4, 1, 5, 0] rfl (hLp _ h.symm)
      · refine Y_iinc C (pc := 77) (v := (s1.2.1 + 1)) (lv' := [(7, .int (s1.2.1 + 1)), (0, .ref (ρ k0)), (1, .ref (ρ k1)), (4, .int (mx (1 : Int32) (i3 + (1 : Int32)))), (5, .long e6.1)]) 4 rfl (congrArg (fun z => s1.2.1 + z) (by decide : Int32.ofInt (1) = (1))) (by decide) rfl dX6_scatter_77 ?_
        refine Y_goto C (pc := 80) (tgt := 16) dX6_scatter_80 (by decide) ?_
        have h := Option.some.inj h
        exact Y_sub [1, 2, 3, 4, 0] rfl (hLp _ h.symm)
  · cases h
    exact Y_vret C dX6_scatter_83

set_option maxRecDepth 100000 in
set_option maxHeartbeats 4000000 in
theorem c_X6_mirror {l : Launch} {D : va_G} {cA ρ : Nat → Nat} {σ : Sg} {τ : Tg} {k0 : Nat} {k1 : Nat} (hI : Inj ρ) (hk0 : kd k0 = (0, 6)) (hk1 : (kd k1).1 = 1) (hn1 : k1 < 97) {r : Sg} (h : f_X6_mirror σ k0 k1 = some r) : Ct l yX6_mirror cX6_mirror 4 none 1 24 D cA ρ (Aw ρ) [.ref (ρ k0), .ref (ρ k1)] σ τ none r τ := by
  refine Ct_of (by decide +kernel) (Nat.le_of_ble_eq_true rfl) (fun p e s m args below meth c C => ?_)
  have C : Ctx p l s m args meth c cX6_mirror RX6 4 none D cA ρ (Aw ρ) := C
  have hW : Wr ρ (Aw ρ) := ⟨hI, fun k hk => ⟨k, hk, rfl⟩⟩
  unfold f_X6_mirror at h
  refine Y_sub [0, 1] (lv' := [(0, .ref (ρ k0)), (1, .ref (ρ k1))]) rfl ?_
  refine Y_iconst C (pc := 0) (v := (0 : Int32)) (by decide) dX6_mirror_0 ?_
  refine Y_istore_n C (pc := 1) (lv' := [(2, .int (0 : Int32)), (0, .ref (ρ k0)), (1, .ref (ρ k1))]) 2 rfl (by decide) rfl dX6_mirror_1 ?_
  obtain ⟨e9, he9, h⟩ := Option.bind_eq_some_iff.mp h
  refine Y_sub [1, 2, 0] (lv' := [(0, .ref (ρ k0)), (1, .ref (ρ k1)), (2, .int (0 : Int32))]) rfl ?_
  refine lo_rule (f := (f_X6_mirror_L2 k0 k1)) (YS := fun s1 => Y p l e (Rm 1 24) s m args below meth c 4 D cA ρ (Aw ρ) 0 0 (MQ below (QC D cA ρ (Aw ρ) none r τ) args s 0 0 (Aw ρ)) s1.2 τ 2 [(0, .ref (ρ k0)), (1, .ref (ρ k1)), (2, .int s1.1)] []) (YE := fun e9 => Y p l e (Rm 1 24) s m args below meth c 4 D cA ρ (Aw ρ) 0 0 (MQ below (QC D cA ρ (Aw ρ) none r τ) args s 0 0 (Aw ρ)) e9 τ 48 [] []) ?_ he9 ?_
  · intro s1 x h hLp hE
    unfold f_X6_mirror_L2 at h
    refine Y_iload_n C (pc := 2) 2 2 rfl rfl dX6_mirror_2 ?_
    refine Y_aload_n C (pc := 3) 0 0 rfl rfl dX6_mirror_3 ?_
    refine Y_getI C (pc := 4) hk0 q_fi_RX6_31 dX6_mirror_4 ?_
    refine Y_icmp_ge C (pc := 7) (tgt := 48) dX6_mirror_7 (by decide) (fun c8 => ?_) (fun c8 => ?_)
    · rw [if_pos c8] at h
      have h := Option.some.inj h
      exact Y_sub [] rfl (hE _ h.symm)
    · rw [if_neg c8] at h
      refine Y_aload_n C (pc := 10) 1 1 rfl rfl dX6_mirror_10 ?_
      refine Y_iload_n C (pc := 11) 2 2 rfl rfl dX6_mirror_11 ?_
      refine Y_iload_n C (pc := 12) 2 2 rfl rfl dX6_mirror_12 ?_
      refine Y_iconst C (pc := 13) (v := (0 : Int32)) (by decide) dX6_mirror_13 ?_
      obtain ⟨v2, hv2, h⟩ := Option.bind_eq_some_iff.mp h
      refine Y_callSN C [.ref (ρ k1), .int s1.1, .int s1.1, .int (0 : Int32)] [] [] (c_X8_put hI hk1 hn1 hv2) (fun _ h => h) q_cw_yX8_put q_mn_RX6_53 q_st_yX8_put ⟨⟨Nat.le_of_ble_eq_true rfl, Nat.le_of_ble_eq_true rfl⟩, ⟨Nat.zero_le _, Nat.zero_le _⟩, Nat.le_of_ble_eq_true rfl⟩ rfl rfl rfl dX6_mirror_14 ?_
      refine Y_iconst C (pc := 17) (v := (0 : Int32)) (by decide) dX6_mirror_17 ?_
      refine Y_istore_n C (pc := 18) (lv' := [(3, .int (0 : Int32)), (0, .ref (ρ k0)), (1, .ref (ρ k1)), (2, .int s1.1)]) 3 rfl (by decide) rfl dX6_mirror_18 ?_
      obtain ⟨e7, he7, h⟩ := Option.bind_eq_some_iff.mp h
      refine Y_sub [1, 2, 3, 0] (lv' := [(0, .ref (ρ k0)), (1, .ref (ρ k1)), (2, .int s1.1), (3, .int (0 : Int32))]) rfl ?_
      refine lo_rule (f := (f_X6_mirror_L19 s1 k1)) (YS := fun s3 => Y p l e (Rm 1 24) s m args below meth c 4 D cA ρ (Aw ρ) 0 0 (MQ below (QC D cA ρ (Aw ρ) none r τ) args s 0 0 (Aw ρ)) s3.2 τ 19 [(0, .ref (ρ k0)), (1, .ref (ρ k1)), (2, .int s1.1), (3, .int s3.1)] []) (YE := fun e7 => Y p l e (Rm 1 24) s m args below meth c 4 D cA ρ (Aw ρ) 0 0 (MQ below (QC D cA ρ (Aw ρ) none r τ) args s 0 0 (Aw ρ)) e7 τ 42 [(0, .ref (ρ k0)), (1, .ref (ρ k1)), (2, .int s1.1)] []) ?_ he7 ?_
      · intro s3 x h hLp hE
        unfold f_X6_mirror_L19 at h
        refine Y_iload_n C (pc := 19) 3 3 rfl rfl dX6_mirror_19 ?_
        refine Y_iload_n C (pc := 20) 2 2 rfl rfl dX6_mirror_20 ?_
        refine Y_icmp_ge C (pc := 21) (tgt := 42) dX6_mirror_21 (by decide) (fun c6 => ?_) (fun c6 => ?_)
        · rw [if_pos c6] at h
          have h := Option.some.inj h
          exact Y_sub [0, 1, 2] rfl (hE _ h.symm)
        · rw [if_neg c6] at h
          refine Y_aload_n C (pc := 24) 1 1 rfl rfl dX6_mirror_24 ?_
          refine Y_iload_n C (pc := 25) 2 2 rfl rfl dX6_mirror_25 ?_
          refine Y_iload_n C (pc := 26) 3 3 rfl rfl dX6_mirror_26 ?_
          refine Y_aload_n C (pc := 27) 1 1 rfl rfl dX6_mirror_27 ?_
          refine Y_iload_n C (pc := 28) 3 3 rfl rfl dX6_mirror_28 ?_
          refine Y_iload_n C (pc := 29) 2 2 rfl rfl dX6_mirror_29 ?_
          obtain ⟨v4, hv4, h⟩ := Option.bind_eq_some_iff.mp h
          refine Y_callSN C [.ref (ρ k1), .int s3.1, .int s1.1] [.int s3.1, .int s1.1, .ref (ρ k1)] [.int v4, .int s3.1, .int s1.1, .ref (ρ k1)] (c_X8_at hk1 hv4) (fun _ h => h.elim) q_cw_yX8_at q_mn_RX6_57 q_st_yX8_at ⟨⟨Nat.le_of_ble_eq_true rfl, Nat.le_of_ble_eq_true rfl⟩, ⟨Nat.zero_le _, Nat.zero_le _⟩, Nat.le_of_ble_eq_true rfl⟩ rfl rfl rfl dX6_mirror_30 ?_
          obtain ⟨v5, hv5, h⟩ := Option.bind_eq_some_iff.mp h
          refine Y_callSN C [.ref (ρ k1), .int s1.1, .int s3.1, .int v4] [] [] (c_X8_put hI hk1 hn1 hv5) (fun _ h => h) q_cw_yX8_put q_mn_RX6_53 q_st_yX8_put ⟨⟨Nat.le_of_ble_eq_true rfl, Nat.le_of_ble_eq_true rfl⟩, ⟨Nat.zero_le _, Nat.zero_le _⟩, Nat.le_of_ble_eq_true rfl⟩ rfl rfl rfl dX6_mirror_33 ?_
          refine Y_iinc C (pc := 36) (v := (s3.1 + 1)) (lv' := [(3, .int (s3.1 + 1)), (0, .ref (ρ k0)), (1, .ref (ρ k1)), (2, .int s1.1)]) 3 rfl (congrArg (fun z => s3.1 + z) (by decide : Int32.ofInt (1) = (1))) (by decide) rfl dX6_mirror_36 ?_
          refine Y_goto C (pc := 39) (tgt := 19) dX6_mirror_39 (by decide) ?_
          have h := Option.some.inj h
          exact Y_sub [1, 2, 3, 0] rfl (hLp _ h.symm)
      · refine Y_iinc C (pc := 42) (v := (s1.1 + 1)) (lv' := [(2, .int (s1.1 + 1)), (0, .ref (ρ k0)), (1, .ref (ρ k1))]) 2 rfl (congrArg (fun z => s1.1 + z) (by decide : Int32.ofInt (1) = (1))) (by decide) rfl dX6_mirror_42 ?_
        refine Y_goto C (pc := 45) (tgt := 2) dX6_mirror_45 (by decide) ?_
        have h := Option.some.inj h
        exact Y_sub [1, 2, 0] rfl (hLp _ h.symm)
  · cases h
    exact Y_vret C dX6_mirror_48

set_option maxRecDepth 100000 in
set_option maxHeartbeats 4000000 in
theorem c_X6_sumOf {l : Launch} {D : va_G} {cA ρ : Nat → Nat} {σ : Sg} {τ : Tg} {k0 : Nat} {k1 : Nat} (hk0 : kd k0 = (0, 6)) (hk1 : (kd k1).1 = 1) {r : Int32} (h : f_X6_sumOf σ k0 k1 = some r) : Ct l yX6_sumOf cX6_sumOf 5 (some .int) 1 23 D cA ρ A0 [.ref (ρ k0), .ref (ρ k1)] σ τ (some (.int r)) σ τ := by
  refine Ct_of (by decide +kernel) (Nat.le_of_ble_eq_true rfl) (fun p e s m args below meth c C => ?_)
  have C : Ctx p l s m args meth c cX6_sumOf RX6 5 (some .int) D cA ρ A0 := C
  unfold f_X6_sumOf at h
  refine Y_sub [0, 1] (lv' := [(0, .ref (ρ k0)), (1, .ref (ρ k1))]) rfl ?_
  refine Y_iconst C (pc := 0) (v := (0 : Int32)) (by decide) dX6_sumOf_0 ?_
  refine Y_istore_n C (pc := 1) (lv' := [(2, .int (0 : Int32)), (0, .ref (ρ k0)), (1, .ref (ρ k1))]) 2 rfl (by decide) rfl dX6_sumOf_1 ?_
  refine Y_iconst C (pc := 2) (v := (0 : Int32)) (by decide) dX6_sumOf_2 ?_
  refine Y_istore_n C (pc := 3) (lv' := [(3, .int (0 : Int32)), (2, .int (0 : Int32)), (0, .ref (ρ k0)), (1, .ref (ρ k1))]) 3 rfl (by decide) rfl dX6_sumOf_3 ?_
  obtain ⟨e7, he7, h⟩ := Option.bind_eq_some_iff.mp h
  refine Y_sub [2, 3, 1, 0] (lv' := [(0, .ref (ρ k0)), (1, .ref (ρ k1)), (2, .int (0 : Int32)), (3, .int (0 : Int32))]) rfl ?_
  refine lo_rule (f := (f_X6_sumOf_L4 σ k0 k1)) (YS := fun s1 => Y p l e (Rm 1 23) s m args below meth c 5 D cA ρ A0 0 0 (MQ below (QC D cA ρ A0 (some (.int r)) σ τ) args s 0 0 A0) σ τ 4 [(0, .ref (ρ k0)), (1, .ref (ρ k1)), (2, .int s1.1), (3, .int s1.2)] []) (YE := fun e7 => Y p l e (Rm 1 23) s m args below meth c 5 D cA ρ A0 0 0 (MQ below (QC D cA ρ A0 (some (.int r)) σ τ) args s 0 0 A0) σ τ 46 [(2, .int e7)] []) ?_ he7 ?_
  · intro s1 x h hLp hE
    unfold f_X6_sumOf_L4 at h
    refine Y_iload_n C (pc := 4) 3 3 rfl rfl dX6_sumOf_4 ?_
    refine Y_aload_n C (pc := 5) 0 0 rfl rfl dX6_sumOf_5 ?_
    refine Y_getI C (pc := 6) hk0 q_fi_RX6_31 dX6_sumOf_6 ?_
    refine Y_icmp_ge C (pc := 9) (tgt := 46) dX6_sumOf_9 (by decide) (fun c6 => ?_) (fun c6 => ?_)
    · rw [if_pos c6] at h
      have h := Option.some.inj h
      exact Y_sub [2] rfl (hE _ h.symm)
    · rw [if_neg c6] at h
      refine Y_iconst C (pc := 12) (v := (0 : Int32)) (by decide) dX6_sumOf_12 ?_
      refine Y_istore C (pc := 13) (lv' := [(4, .int (0 : Int32)), (0, .ref (ρ k0)), (1, .ref (ρ k1)), (2, .int s1.1), (3, .int s1.2)]) (by decide) rfl dX6_sumOf_13 ?_
      obtain ⟨e5, he5, h⟩ := Option.bind_eq_some_iff.mp h
      refine Y_sub [1, 2, 3, 4, 0] (lv' := [(0, .ref (ρ k0)), (1, .ref (ρ k1)), (2, .int s1.1), (3, .int s1.2), (4, .int (0 : Int32))]) rfl ?_
      refine lo_rule (f := (f_X6_sumOf_L15 σ k0 k1 s1)) (YS := fun s2 => Y p l e (Rm 1 23) s m args below meth c 5 D cA ρ A0 0 0 (MQ below (QC D cA ρ A0 (some (.int r)) σ τ) args s 0 0 A0) σ τ 15 [(0, .ref (ρ k0)), (1, .ref (ρ k1)), (2, .int s2.1), (3, .int s1.2), (4, .int s2.2)] []) (YE := fun e5 => Y p l e (Rm 1 23) s m args below meth c 5 D cA ρ A0 0 0 (MQ below (QC D cA ρ A0 (some (.int r)) σ τ) args s 0 0 A0) σ τ 40 [(0, .ref (ρ k0)), (1, .ref (ρ k1)), (2, .int e5), (3, .int s1.2)] []) ?_ he5 ?_
      · intro s2 x h hLp hE
        unfold f_X6_sumOf_L15 at h
        refine Y_iload C (pc := 15) 4 rfl dX6_sumOf_15 ?_
        refine Y_aload_n C (pc := 17) 0 0 rfl rfl dX6_sumOf_17 ?_
        refine Y_getI C (pc := 18) hk0 q_fi_RX6_31 dX6_sumOf_18 ?_
        refine Y_icmp_ge C (pc := 21) (tgt := 40) dX6_sumOf_21 (by decide) (fun c4 => ?_) (fun c4 => ?_)
        · rw [if_pos c4] at h
          have h := Option.some.inj h
          exact Y_sub [0, 1, 2, 3] rfl (hE _ h.symm)
        · rw [if_neg c4] at h
          refine Y_iload_n C (pc := 24) 2 2 rfl rfl dX6_sumOf_24 ?_
          refine Y_aload_n C (pc := 25) 1 1 rfl rfl dX6_sumOf_25 ?_
          refine Y_iload_n C (pc := 26) 3 3 rfl rfl dX6_sumOf_26 ?_
          refine Y_iload C (pc := 27) 4 rfl dX6_sumOf_27 ?_
          obtain ⟨v3, hv3, h⟩ := Option.bind_eq_some_iff.mp h
          refine Y_callSN C [.ref (ρ k1), .int s1.2, .int s2.2] [.int s2.1] [.int v3, .int s2.1] (c_X8_at hk1 hv3) (fun _ h => h.elim) q_cw_yX8_at q_mn_RX6_57 q_st_yX8_at ⟨⟨Nat.le_of_ble_eq_true rfl, Nat.le_of_ble_eq_true rfl⟩, ⟨Nat.zero_le _, Nat.zero_le _⟩, Nat.le_of_ble_eq_true rfl⟩ rfl rfl rfl dX6_sumOf_29 ?_
          refine Y_iadd C (pc := 32) dX6_sumOf_32 ?_
          refine Y_istore_n C (pc := 33) (lv' := [(2, .int (s2.1 + v3)), (0, .ref (ρ k0)), (1, .ref (ρ k1)), (3, .int s1.2), (4, .int s2.2)]) 2 rfl (by decide) rfl dX6_sumOf_33 ?_
          refine Y_iinc C (pc := 34) (v := (s2.2 + 1)) (lv' := [(4, .int (s2.2 + 1)), (2, .int (s2.1 + v3)), (0, .ref (ρ k0)), (1, .ref (ρ k1)), (3, .int s1.2)]) 4 rfl (congrArg (fun z => s2.2 + z) (by decide : Int32.ofInt (1) = (1))) (by decide) rfl dX6_sumOf_34 ?_
          refine Y_goto C (pc := 37) (tgt := 15) dX6_sumOf_37 (by decide) ?_
          have h := Option.some.inj h
          exact Y_sub [2, 3, 1, 4, 0] rfl (hLp _ h.symm)
      · refine Y_iinc C (pc := 40) (v := (s1.2 + 1)) (lv' := [(3, .int (s1.2 + 1)), (0, .ref (ρ k0)), (1, .ref (ρ k1)), (2, .int e5)]) 3 rfl (congrArg (fun z => s1.2 + z) (by decide : Int32.ofInt (1) = (1))) (by decide) rfl dX6_sumOf_40 ?_
        refine Y_goto C (pc := 43) (tgt := 4) dX6_sumOf_43 (by decide) ?_
        have h := Option.some.inj h
        exact Y_sub [1, 2, 3, 0] rfl (hLp _ h.symm)
  · refine Y_iload_n C (pc := 46) 2 0 rfl rfl dX6_sumOf_46 ?_
    cases h
    exact Y_iret C dX6_sumOf_47

set_option maxRecDepth 100000 in
set_option maxHeartbeats 4000000 in
theorem c_X6_freeCount {l : Launch} {D : va_G} {cA ρ : Nat → Nat} {σ : Sg} {τ : Tg} {k0 : Nat} (hk0 : kd k0 = (0, 6)) {r : Int32} (h : f_X6_freeCount σ k0 = some r) : Ct l yX6_freeCount cX6_freeCount 3 (some .int) 2 42 D cA ρ A0 [.ref (ρ k0)] σ τ (some (.int r)) σ τ := by
  refine Ct_of (by decide +kernel) (Nat.le_of_ble_eq_true rfl) (fun p e s m args below meth c C => ?_)
  have C : Ctx p l s m args meth c cX6_freeCount RX6 3 (some .int) D cA ρ A0 := C
  unfold f_X6_freeCount at h
  refine Y_sub [0] (lv' := [(0, .ref (ρ k0))]) rfl ?_
  refine Y_iconst C (pc := 0) (v := (0 : Int32)) (by decide) dX6_freeCount_0 ?_
  refine Y_istore_n C (pc := 1) (lv' := [(1, .int (0 : Int32)), (0, .ref (ρ k0))]) 1 rfl (by decide) rfl dX6_freeCount_1 ?_
  refine Y_iconst C (pc := 2) (v := (0 : Int32)) (by decide) dX6_freeCount_2 ?_
  refine Y_istore_n C (pc := 3) (lv' := [(2, .int (0 : Int32)), (1, .int (0 : Int32)), (0, .ref (ρ k0))]) 2 rfl (by decide) rfl dX6_freeCount_3 ?_
  obtain ⟨e7, he7, h⟩ := Option.bind_eq_some_iff.mp h
  refine Y_sub [2, 1, 0] (lv' := [(0, .ref (ρ k0)), (1, .int (0 : Int32)), (2, .int (0 : Int32))]) rfl ?_
  refine lo_rule (f := (f_X6_freeCount_L4 σ k0)) (YS := fun s1 => Y p l e (Rm 2 42) s m args below meth c 3 D cA ρ A0 0 0 (MQ below (QC D cA ρ A0 (some (.int r)) σ τ) args s 0 0 A0) σ τ 4 [(0, .ref (ρ k0)), (1, .int s1.1), (2, .int s1.2)] []) (YE := fun e7 => Y p l e (Rm 2 42) s m args below meth c 3 D cA ρ A0 0 0 (MQ below (QC D cA ρ A0 (some (.int r)) σ τ) args s 0 0 A0) σ τ 29 [(1, .int e7)] []) ?_ he7 ?_
  · intro s1 x h hLp hE
    unfold f_X6_freeCount_L4 at h
    have hJ23 : ∀ (j3 : Int32) (j4 : Int32), f_X6_freeCount_J23 j3 j4 = some x → Y p l e (Rm 2 42) s m args below meth c 3 D cA ρ A0 0 0 (MQ below (QC D cA ρ A0 (some (.int r)) σ τ) args s 0 0 A0) σ τ 23 [(0, .ref (ρ k0)), (1, .int j3), (2, .int j4)] [] := by
      intro j3 j4 h
      unfold f_X6_freeCount_J23 at h
      refine Y_iinc C (pc := 23) (v := (j4 + 1)) (lv' := [(2, .int (j4 + 1)), (0, .ref (ρ k0)), (1, .int j3)]) 2 rfl (congrArg (fun z => j4 + z) (by decide : Int32.ofInt (1) = (1))) (by decide) rfl dX6_freeCount_23 ?_
      refine Y_goto C (pc := 26) (tgt := 4) dX6_freeCount_26 (by decide) ?_
      have h := Option.some.inj h
      exact Y_sub [1, 2, 0] rfl (hLp _ h.symm)
    refine Y_iload_n C (pc := 4) 2 2 rfl rfl dX6_freeCount_4 ?_
    refine Y_aload_n C (pc := 5) 0 0 rfl rfl dX6_freeCount_5 ?_
    refine Y_getI C (pc := 6) hk0 q_fi_RX6_31 dX6_freeCount_6 ?_
    refine Y_icmp_ge C (pc := 9) (tgt := 29) dX6_freeCount_9 (by decide) (fun c6 => ?_) (fun c6 => ?_)
    · rw [if_pos c6] at h
      have h := Option.some.inj h
      exact Y_sub [1] rfl (hE _ h.symm)
    · rw [if_neg c6] at h
      refine Y_aload_n C (pc := 12) 0 0 rfl rfl dX6_freeCount_12 ?_
      refine Y_iload_n C (pc := 13) 2 2 rfl rfl dX6_freeCount_13 ?_
      obtain ⟨v2, hv2, h⟩ := Option.bind_eq_some_iff.mp h
      refine Y_callV C [.int s1.2] [] [.int v2] hk0 rfl rfl (c_X6_isFree hk0 hv2) (fun _ h => h.elim) q_cw_yX6_isFree q_ml_RX6_69 ⟨q_im_yX6_isFree, q_se_yX6_isFree⟩ ⟨⟨Nat.le_of_ble_eq_true rfl, Nat.le_of_ble_eq_true rfl⟩, ⟨Nat.zero_le _, Nat.zero_le _⟩, Nat.le_of_ble_eq_true rfl⟩ rfl rfl rfl dX6_freeCount_14 ?_
      refine Y_if_eq C (pc := 17) (tgt := 23) dX6_freeCount_17 (by decide) (fun c5 => ?_) (fun c5 => ?_)
      · rw [if_pos c5] at h
        exact Y_sub [0, 1, 2] rfl (hJ23 _ _ h)
      · rw [if_neg c5] at h
        refine Y_iinc C (pc := 20) (v := (s1.1 + 1)) (lv' := [(1, .int (s1.1 + 1)), (0, .ref (ρ k0)), (2, .int s1.2)]) 1 rfl (congrArg (fun z => s1.1 + z) (by decide : Int32.ofInt (1) = (1))) (by decide) rfl dX6_freeCount_20 ?_
        exact Y_sub [1, 0, 2] rfl (hJ23 _ _ h)
  · refine Y_iload_n C (pc := 29) 1 0 rfl rfl dX6_freeCount_29 ?_
    cases h
    exact Y_iret C dX6_freeCount_30

set_option maxRecDepth 100000 in
set_option maxHeartbeats 4000000 in
theorem c_X6_bestPair {l : Launch} {D : va_G} {cA ρ : Nat → Nat} {σ : Sg} {τ : Tg} {k0 : Nat} (hk0 : kd k0 = (0, 6)) {r : Int32} (h : f_X6_bestPair σ k0 = some r) : Ct l yX6_bestPair cX6_bestPair 6 (some .int) 2 51 D cA ρ A0 [.ref (ρ k0)] σ τ (some (.int r)) σ τ := by
  refine Ct_of (by decide +kernel) (Nat.le_of_ble_eq_true rfl) (fun p e s m args below meth c C => ?_)
  have C : Ctx p l s m args meth c cX6_bestPair RX6 6 (some .int) D cA ρ A0 := C
  unfold f_X6_bestPair at h
  refine Y_sub [0] (lv' := [(0, .ref (ρ k0))]) rfl ?_
  refine Y_iconst C (pc := 0) (v := (-1 : Int32)) (by decide) dX6_bestPair_0 ?_
  refine Y_istore_n C (pc := 1) (lv' := [(1, .int (-1 : Int32)), (0, .ref (ρ k0))]) 1 rfl (by decide) rfl dX6_bestPair_1 ?_
  refine Y_iconst C (pc := 2) (v := (0 : Int32)) (by decide) dX6_bestPair_2 ?_
  refine Y_istore_n C (pc := 3) (lv' := [(2, .int (0 : Int32)), (1, .int (-1 : Int32)), (0, .ref (ρ k0))]) 2 rfl (by decide) rfl dX6_bestPair_3 ?_
  refine Y_iconst C (pc := 4) (v := (0 : Int32)) (by decide) dX6_bestPair_4 ?_
  refine Y_istore_n C (pc := 5) (lv' := [(3, .int (0 : Int32)), (2, .int (0 : Int32)), (1, .int (-1 : Int32)), (0, .ref (ρ k0))]) 3 rfl (by decide) rfl dX6_bestPair_5 ?_
  obtain ⟨e18, he18, h⟩ := Option.bind_eq_some_iff.mp h
  refine Y_sub [3, 2, 1, 0] (lv' := [(0, .ref (ρ k0)), (1, .int (-1 : Int32)), (2, .int (0 : Int32)), (3, .int (0 : Int32))]) rfl ?_
  refine lo_rule (f := (f_X6_bestPair_L6 σ k0)) (YS := fun s1 => Y p l e (Rm 2 51) s m args below meth c 6 D cA ρ A0 0 0 (MQ below (QC D cA ρ A0 (some (.int r)) σ τ) args s 0 0 A0) σ τ 6 [(0, .ref (ρ k0)), (1, .int s1.1), (2, .int s1.2.1), (3, .int s1.2.2)] []) (YE := fun e18 => Y p l e (Rm 2 51) s m args below meth c 6 D cA ρ A0 0 0 (MQ below (QC D cA ρ A0 (some (.int r)) σ τ) args s 0 0 A0) σ τ 95 [(1, .int e18)] []) ?_ he18 ?_
  · intro s1 x h hLp hE
    unfold f_X6_bestPair_L6 at h
    refine Y_iload_n C (pc := 6) 3 3 rfl rfl dX6_bestPair_6 ?_
    refine Y_aload_n C (pc := 7) 0 0 rfl rfl dX6_bestPair_7 ?_
    refine Y_getI C (pc := 8) hk0 q_fi_RX6_31 dX6_bestPair_8 ?_
    refine Y_icmp_ge C (pc := 11) (tgt := 95) dX6_bestPair_11 (by decide) (fun c17 => ?_) (fun c17 => ?_)
    · rw [if_pos c17] at h
      have h := Option.some.inj h
      exact Y_sub [1] rfl (hE _ h.symm)
    · rw [if_neg c17] at h
      refine Y_iload_n C (pc := 14) 3 3 rfl rfl dX6_bestPair_14 ?_
      refine Y_iconst C (pc := 15) (v := (1 : Int32)) (by decide) dX6_bestPair_15 ?_
      refine Y_iadd C (pc := 16) dX6_bestPair_16 ?_
      refine Y_istore C (pc := 17) (lv' := [(4, .int (s1.2.2 + (1 : Int32))), (0, .ref (ρ k0)), (1, .int s1.1), (2, .int s1.2.1), (3, .int s1.2.2)]) (by decide) rfl dX6_bestPair_17 ?_
      obtain ⟨e16, he16, h⟩ := Option.bind_eq_some_iff.mp h
      refine Y_sub [1, 2, 3, 4, 0] (lv' := [(0, .ref (ρ k0)), (1, .int s1.1), (2, .int s1.2.1), (3, .int s1.2.2), (4, .int (s1.2.2 + (1 : Int32)))]) rfl ?_
      refine lo_rule (f := (f_X6_bestPair_L19 σ k0 s1)) (YS := fun s2 => Y p l e (Rm 2 51) s m args below meth c 6 D cA ρ A0 0 0 (MQ below (QC D cA ρ A0 (some (.int r)) σ τ) args s 0 0 A0) σ τ 19 [(0, .ref (ρ k0)), (1, .int s2.1), (2, .int s2.2.1), (3, .int s1.2.2), (4, .int s2.2.2)] []) (YE := fun e16 => Y p l e (Rm 2 51) s m args below meth c 6 D cA ρ A0 0 0 (MQ below (QC D cA ρ A0 (some (.int r)) σ τ) args s 0 0 A0) σ τ 89 [(0, .ref (ρ k0)), (1, .int e16.1), (2, .int e16.2), (3, .int s1.2.2)] []) ?_ he16 ?_
      · intro s2 x h hLp hE
        unfold f_X6_bestPair_L19 at h
        have hJ83 : ∀ (j4 : Int32) (j5 : Int32) (j6 : Int32), f_X6_bestPair_J83 j4 j5 j6 = some x → Y p l e (Rm 2 51) s m args below meth c 6 D cA ρ A0 0 0 (MQ below (QC D cA ρ A0 (some (.int r)) σ τ) args s 0 0 A0) σ τ 83 [(0, .ref (ρ k0)), (1, .int j4), (2, .int j5), (3, .int s1.2.2), (4, .int j6)] [] := by
          intro j4 j5 j6 h
          unfold f_X6_bestPair_J83 at h
          refine Y_iinc C (pc := 83) (v := (j6 + 1)) (lv' := [(4, .int (j6 + 1)), (0, .ref (ρ k0)), (1, .int j4), (2, .int j5), (3, .int s1.2.2)]) 4 rfl (congrArg (fun z => j6 + z) (by decide : Int32.ofInt (1) = (1))) (by decide) rfl dX6_bestPair_83 ?_
          refine Y_goto C (pc := 86) (tgt := 19) dX6_bestPair_86 (by decide) ?_
          have h := Option.some.inj h
          exact Y_sub [1, 2, 3, 4, 0] rfl (hLp _ h.symm)
        have hJ72 : ∀ (j9 : Int32) (j10 : Int32), f_X6_bestPair_J72 s1 j9 j10 = some x → Y p l e (Rm 2 51) s m args below meth c 6 D cA ρ A0 0 0 (MQ below (QC D cA ρ A0 (some (.int r)) σ τ) args s 0 0 A0) σ τ 72 [(0, .ref (ρ k0)), (3, .int s1.2.2), (4, .int j9), (5, .int j10)] [] := by
          intro j9 j10 h
          unfold f_X6_bestPair_J72 at h
          refine Y_bipush C (pc := 72) (v := (10 : Int32)) (by decide) dX6_bestPair_72 ?_
          refine Y_iload_n C (pc := 74) 3 1 rfl rfl dX6_bestPair_74 ?_
          refine Y_imul C (pc := 75) dX6_bestPair_75 ?_
          refine Y_iload C (pc := 76) 2 rfl dX6_bestPair_76 ?_
          refine Y_iadd C (pc := 78) dX6_bestPair_78 ?_
          refine Y_istore_n C (pc := 79) (lv' := [(1, .int (((10 : Int32) * s1.2.2) + j9)), (0, .ref (ρ k0)), (3, .int s1.2.2), (4, .int j9), (5, .int j10)]) 1 rfl (by decide) rfl dX6_bestPair_79 ?_
          refine Y_iload C (pc := 80) 4 rfl dX6_bestPair_80 ?_
          refine Y_istore_n C (pc := 82) (lv' := [(2, .int j10), (1, .int (((10 : Int32) * s1.2.2) + j9)), (0, .ref (ρ k0)), (3, .int s1.2.2), (4, .int j9), (5, .int j10)]) 2 rfl (by decide) rfl dX6_bestPair_82 ?_
          exact Y_sub [2, 1, 0, 3, 4] rfl (hJ83 _ _ _ h)
        refine Y_iload C (pc := 19) 4 rfl dX6_bestPair_19 ?_
        refine Y_aload_n C (pc := 21) 0 0 rfl rfl dX6_bestPair_21 ?_
        refine Y_getI C (pc := 22) hk0 q_fi_RX6_31 dX6_bestPair_22 ?_
        refine Y_icmp_ge C (pc := 25) (tgt := 89) dX6_bestPair_25 (by decide) (fun c15 => ?_) (fun c15 => ?_)
        · rw [if_pos c15] at h
          have h := Option.some.inj h
          exact Y_sub [0, 1, 2, 3] rfl (hE _ h.symm)
        · rw [if_neg c15] at h
          refine Y_aload_n C (pc := 28) 0 0 rfl rfl dX6_bestPair_28 ?_
          refine Y_iload_n C (pc := 29) 3 3 rfl rfl dX6_bestPair_29 ?_
          obtain ⟨v3, hv3, h⟩ := Option.bind_eq_some_iff.mp h
          refine Y_callV C [.int s1.2.2] [] [.int v3] hk0 rfl rfl (c_X6_isFree hk0 hv3) (fun _ h => h.elim) q_cw_yX6_isFree q_ml_RX6_69 ⟨q_im_yX6_isFree, q_se_yX6_isFree⟩ ⟨⟨Nat.le_of_ble_eq_true rfl, Nat.le_of_ble_eq_true rfl⟩, ⟨Nat.zero_le _, Nat.zero_le _⟩, Nat.le_of_ble_eq_true rfl⟩ rfl rfl rfl dX6_bestPair_30 ?_
          refine Y_if_eq C (pc := 33) (tgt := 83) dX6_bestPair_33 (by decide) (fun c14 => ?_) (fun c14 => ?_)
          · rw [if_pos c14] at h
            exact Y_sub [0, 1, 2, 3, 4] rfl (hJ83 _ _ _ h)
          · rw [if_neg c14] at h
            refine Y_aload_n C (pc := 36) 0 0 rfl rfl dX6_bestPair_36 ?_
            refine Y_iload C (pc := 37) 4 rfl dX6_bestPair_37 ?_
            obtain ⟨v7, hv7, h⟩ := Option.bind_eq_some_iff.mp h
            refine Y_callV C [.int s2.2.2] [] [.int v7] hk0 rfl rfl (c_X6_isFree hk0 hv7) (fun _ h => h.elim) q_cw_yX6_isFree q_ml_RX6_69 ⟨q_im_yX6_isFree, q_se_yX6_isFree⟩ ⟨⟨Nat.le_of_ble_eq_true rfl, Nat.le_of_ble_eq_true rfl⟩, ⟨Nat.zero_le _, Nat.zero_le _⟩, Nat.le_of_ble_eq_true rfl⟩ rfl rfl rfl dX6_bestPair_39 ?_
            refine Y_if_ne C (pc := 42) (tgt := 48) dX6_bestPair_42 (by decide) (fun c13 => ?_) (fun c13 => ?_)
            · rw [if_neg c13] at h
              refine Y_aload_n C (pc := 48) 0 0 rfl rfl dX6_bestPair_48 ?_
              refine Y_aload_n C (pc := 49) 0 0 rfl rfl dX6_bestPair_49 ?_
              refine Y_getR C (pc := 50) hk0 q_fi_RX6_21 (by decide) dX6_bestPair_50 ?_
              refine Y_iload_n C (pc := 53) 3 3 rfl rfl dX6_bestPair_53 ?_
              refine Y_iload C (pc := 54) 4 rfl dX6_bestPair_54 ?_
              obtain ⟨v8, hv8, h⟩ := Option.bind_eq_some_iff.mp h
              refine Y_callV C [.ref (ρ (k0 + 4)), .int s1.2.2, .int s2.2.2] [] [.int v8] hk0 rfl rfl (c_X6_gainOf hk0 (q_kr_6_4 hk0) hv8) (fun _ h => h.elim) q_cw_yX6_gainOf q_ml_RX6_73 ⟨q_im_yX6_gainOf, q_se_yX6_gainOf⟩ ⟨⟨Nat.le_of_ble_eq_true rfl, Nat.le_of_ble_eq_true rfl⟩, ⟨Nat.zero_le _, Nat.zero_le _⟩, Nat.le_of_ble_eq_true rfl⟩ rfl rfl rfl dX6_bestPair_56 ?_
              refine Y_istore C (pc := 59) (lv' := [(5, .int v8), (0, .ref (ρ k0)), (1, .int s2.1), (2, .int s2.2.1), (3, .int s1.2.2), (4, .int s2.2.2)]) (by decide) rfl dX6_bestPair_59 ?_
              refine Y_iload_n C (pc := 61) 1 2 rfl rfl dX6_bestPair_61 ?_
              refine Y_iconst C (pc := 62) (v := (-1 : Int32)) (by decide) dX6_bestPair_62 ?_
              refine Y_icmp_eq C (pc := 63) (tgt := 72) dX6_bestPair_63 (by decide) (fun c12 => ?_) (fun c12 => ?_)
              · rw [if_pos c12] at h
                exact Y_sub [1, 4, 5, 0] rfl (hJ72 _ _ h)
              · rw [if_neg c12] at h
                refine Y_iload C (pc := 66) 0 rfl dX6_bestPair_66 ?_
                refine Y_iload_n C (pc := 68) 2 3 rfl rfl dX6_bestPair_68 ?_
                refine Y_icmp_le C (pc := 69) (tgt := 83) dX6_bestPair_69 (by decide) (fun c11 => ?_) (fun c11 => ?_)
                · rw [if_pos c11] at h
                  exact Y_sub [1, 2, 3, 4, 5] rfl (hJ83 _ _ _ h)
                · rw [if_neg c11] at h
                  exact Y_sub [1, 4, 5, 0] rfl (hJ72 _ _ h)
            · rw [if_pos c13] at h
              refine Y_goto C (pc := 45) (tgt := 83) dX6_bestPair_45 (by decide) ?_
              exact Y_sub [0, 1, 2, 3, 4] rfl (hJ83 _ _ _ h)
      · refine Y_iinc C (pc := 89) (v := (s1.2.2 + 1)) (lv' := [(3, .int (s1.2.2 + 1)), (0, .ref (ρ k0)), (1, .int e16.1), (2, .int e16.2)]) 3 rfl (congrArg (fun z => s1.2.2 + z) (by decide : Int32.ofInt (1) = (1))) (by decide) rfl dX6_bestPair_89 ?_
        refine Y_goto C (pc := 92) (tgt := 6) dX6_bestPair_92 (by decide) ?_
        have h := Option.some.inj h
        exact Y_sub [1, 2, 3, 0] rfl (hLp _ h.symm)
  · refine Y_iload_n C (pc := 95) 1 0 rfl rfl dX6_bestPair_95 ?_
    cases h
    exact Y_iret C dX6_bestPair_96

set_option maxRecDepth 100000 in
set_option maxHeartbeats 4000000 in
theorem c_X8_resize {l : Launch} {D : va_G} {cA ρ : Nat → Nat} {σ : Sg} {τ : Tg} {k0 : Nat} {i1 : Int32} (hI : Inj ρ) (hk0 : kd k0 = (0, 8)) {r : Int32 × Sg} (h : f_X8_resize σ k0 i1 = some (.inr r)) : Ct l yX8_resize cX8_resize 3 (some .int) 3 75 D cA ρ (Aw ρ) [.ref (ρ k0), .int i1] σ τ (some (.int r.1)) r.2 τ := by
  refine Ct_of (by decide +kernel) (Nat.le_of_ble_eq_true rfl) (fun p e s m args below meth c C => ?_)
  have C : Ctx p l s m args meth c cX8_resize RX8 3 (some .int) D cA ρ (Aw ρ) := C
  have hW : Wr ρ (Aw ρ) := ⟨hI, fun k hk => ⟨k, hk, rfl⟩⟩
  unfold f_X8_resize at h
  refine Y_sub [0, 1] (lv' := [(0, .ref (ρ k0)), (1, .int i1)]) rfl ?_
  refine Y_iload_n C (pc := 0) 1 1 rfl rfl dX8_resize_0 ?_
  refine Y_iconst C (pc := 1) (v := (1 : Int32)) (by decide) dX8_resize_1 ?_
  refine Y_icmp_lt C (pc := 2) (tgt := 11) dX8_resize_2 (by decide) (fun c4 => ?_) (fun c4 => ?_)
  · rw [if_pos c4] at h
    cases h
  · rw [if_neg c4] at h
    refine Y_iload_n C (pc := 5) 1 1 rfl rfl dX8_resize_5 ?_
    refine Y_bipush C (pc := 6) (v := (6 : Int32)) (by decide) dX8_resize_6 ?_
    refine Y_icmp_le C (pc := 8) (tgt := 21) dX8_resize_8 (by decide) (fun c3 => ?_) (fun c3 => ?_)
    · rw [if_pos c3] at h
      refine Y_aload_n C (pc := 21) 0 0 rfl rfl dX8_resize_21 ?_
      refine Y_getR C (pc := 22) hk0 q_fi_RX8_12 (by decide) dX8_resize_22 ?_
      refine Y_getI C (pc := 25) (q_kr_8_0 hk0) q_fi_RX8_69 dX8_resize_25 ?_
      refine Y_istore_n C (pc := 28) (lv' := [(2, .int (σ (k0 + 1) 0)), (0, .ref (ρ k0)), (1, .int i1)]) 2 rfl (by decide) rfl dX8_resize_28 ?_
      refine Y_aload_n C (pc := 29) 0 1 rfl rfl dX8_resize_29 ?_
      refine Y_getR C (pc := 30) hk0 q_fi_RX8_19 (by decide) dX8_resize_30 ?_
      refine Y_aload_n C (pc := 33) 0 1 rfl rfl dX8_resize_33 ?_
      refine Y_getR C (pc := 34) hk0 q_fi_RX8_12 (by decide) dX8_resize_34 ?_
      obtain ⟨v1, hv1, h⟩ := Option.bind_eq_some_iff.mp h
      refine Y_callV C [.ref (ρ (k0 + 1))] [] [] (q_kr_8_1 hk0) rfl rfl (c_X2_push hI (q_kr_8_1 hk0) (q_kr_8_0 hk0) hv1) (fun _ h => h) q_cw_yX2_push q_ml_RX8_73 ⟨q_im_yX2_push, q_se_yX2_push⟩ ⟨⟨Nat.le_of_ble_eq_true rfl, Nat.le_of_ble_eq_true rfl⟩, ⟨Nat.zero_le _, Nat.zero_le _⟩, Nat.le_of_ble_eq_true rfl⟩ rfl rfl rfl dX8_resize_37 ?_
      refine Y_aload_n C (pc := 40) 0 1 rfl rfl dX8_resize_40 ?_
      refine Y_getR C (pc := 41) hk0 q_fi_RX8_12 (by decide) dX8_resize_41 ?_
      refine Y_iload_n C (pc := 44) 1 2 rfl rfl dX8_resize_44 ?_
      obtain ⟨v2, hv2, h⟩ := Option.bind_eq_some_iff.mp h
      refine Y_callV C [.int i1] [] [] (q_kr_8_0 hk0) rfl rfl (c_X6_reset hI (q_kr_8_0 hk0) hv2) (fun _ h => h) q_cw_yX6_reset q_ml_RX8_77 ⟨q_im_yX6_reset, q_se_yX6_reset⟩ ⟨⟨Nat.le_of_ble_eq_true rfl, Nat.le_of_ble_eq_true rfl⟩, ⟨Nat.zero_le _, Nat.zero_le _⟩, Nat.le_of_ble_eq_true rfl⟩ rfl rfl rfl dX8_resize_45 ?_
      refine Y_iload_n C (pc := 48) 2 0 rfl rfl dX8_resize_48 ?_
      cases h
      exact Y_iret C dX8_resize_49
    · rw [if_neg c3] at h
      cases h
set_option maxRecDepth 100000 in
set_option maxHeartbeats 4000000 in
theorem t_X8_resize {l : Launch} {D : va_G} {cA ρ : Nat → Nat} {σ : Sg} {τ : Tg} {k0 : Nat} {i1 : Int32} (hI : Inj ρ) (hk0 : kd k0 = (0, 8)) {r : Nat × Sg} (h : f_X8_resize σ k0 i1 = some (.inl r)) : CtT l yX8_resize cX8_resize 3 (some .int) 6 90 D cA ρ [.ref (ρ k0), .int i1] σ τ (xn r.1) r.2 τ := by
  refine CtT_of (by decide +kernel) (Nat.le_of_ble_eq_true rfl) (fun p e s m args below meth c C X hno => ?_)
  have C : Ctx p l s m args meth c cX8_resize RX8 3 (some .int) D cA ρ (Ax ρ s.heap.size) := C
  have hW : Wr ρ (Ax ρ s.heap.size) := ⟨hI, fun k hk => Or.inl ⟨k, hk, rfl⟩⟩
  unfold f_X8_resize at h
  refine Y_sub [0, 1] (lv' := [(0, .ref (ρ k0)), (1, .int i1)]) rfl ?_
  refine Y_iload_n C (pc := 0) 1 1 rfl rfl dX8_resize_0 ?_
  refine Y_iconst C (pc := 1) (v := (1 : Int32)) (by decide) dX8_resize_1 ?_
  refine Y_icmp_lt C (pc := 2) (tgt := 11) dX8_resize_2 (by decide) (fun c4 => ?_) (fun c4 => ?_)
  · rw [if_pos c4] at h
    cases h
    exact Y_throw (σ0 := σ) (τ0 := τ) (E := "java/lang/IllegalArgumentException") (pc := 11) C X hno (by decide +kernel) q_cl_RX8_62 q_ix_0 q_sr_RX8_64 q_at_RX8_66 dX8_resize_11 dX8_resize_14 dX8_resize_15 dX8_resize_17 dX8_resize_20 ⟨Nat.le_of_ble_eq_true rfl, Nat.le_of_ble_eq_true rfl, Nat.le_of_ble_eq_true rfl, Nat.le_of_ble_eq_true rfl⟩ (fun _ h => Or.inr h)
  · rw [if_neg c4] at h
    refine Y_iload_n C (pc := 5) 1 1 rfl rfl dX8_resize_5 ?_
    refine Y_bipush C (pc := 6) (v := (6 : Int32)) (by decide) dX8_resize_6 ?_
    refine Y_icmp_le C (pc := 8) (tgt := 21) dX8_resize_8 (by decide) (fun c3 => ?_) (fun c3 => ?_)
    · rw [if_pos c3] at h
      refine Y_aload_n C (pc := 21) 0 0 rfl rfl dX8_resize_21 ?_
      refine Y_getR C (pc := 22) hk0 q_fi_RX8_12 (by decide) dX8_resize_22 ?_
      refine Y_getI C (pc := 25) (q_kr_8_0 hk0) q_fi_RX8_69 dX8_resize_25 ?_
      refine Y_istore_n C (pc := 28) (lv' := [(2, .int (σ (k0 + 1) 0)), (0, .ref (ρ k0)), (1, .int i1)]) 2 rfl (by decide) rfl dX8_resize_28 ?_
      refine Y_aload_n C (pc := 29) 0 1 rfl rfl dX8_resize_29 ?_
      refine Y_getR C (pc := 30) hk0 q_fi_RX8_19 (by decide) dX8_resize_30 ?_
      refine Y_aload_n C (pc := 33) 0 1 rfl rfl dX8_resize_33 ?_
      refine Y_getR C (pc := 34) hk0 q_fi_RX8_12 (by decide) dX8_resize_34 ?_
      obtain ⟨v1, hv1, h⟩ := Option.bind_eq_some_iff.mp h
      refine Y_callV C [.ref (ρ (k0 + 1))] [] [] (q_kr_8_1 hk0) rfl rfl (c_X2_push hI (q_kr_8_1 hk0) (q_kr_8_0 hk0) hv1) (fun _ h => Or.inl h) q_cw_yX2_push q_ml_RX8_73 ⟨q_im_yX2_push, q_se_yX2_push⟩ ⟨⟨Nat.le_of_ble_eq_true rfl, Nat.le_of_ble_eq_true rfl⟩, ⟨Nat.zero_le _, Nat.zero_le _⟩, Nat.le_of_ble_eq_true rfl⟩ rfl rfl rfl dX8_resize_37 ?_
      refine Y_aload_n C (pc := 40) 0 1 rfl rfl dX8_resize_40 ?_
      refine Y_getR C (pc := 41) hk0 q_fi_RX8_12 (by decide) dX8_resize_41 ?_
      refine Y_iload_n C (pc := 44) 1 2 rfl rfl dX8_resize_44 ?_
      obtain ⟨v2, hv2, h⟩ := Option.bind_eq_some_iff.mp h
      refine Y_callV C [.int i1] [] [] (q_kr_8_0 hk0) rfl rfl (c_X6_reset hI (q_kr_8_0 hk0) hv2) (fun _ h => Or.inl h) q_cw_yX6_reset q_ml_RX8_77 ⟨q_im_yX6_reset, q_se_yX6_reset⟩ ⟨⟨Nat.le_of_ble_eq_true rfl, Nat.le_of_ble_eq_true rfl⟩, ⟨Nat.zero_le _, Nat.zero_le _⟩, Nat.le_of_ble_eq_true rfl⟩ rfl rfl rfl dX8_resize_45 ?_
      refine Y_iload_n C (pc := 48) 2 0 rfl rfl dX8_resize_48 ?_
      cases h
    · rw [if_neg c3] at h
      cases h
      exact Y_throw (σ0 := σ) (τ0 := τ) (E := "java/lang/IllegalArgumentException") (pc := 11) C X hno (by decide +kernel) q_cl_RX8_62 q_ix_0 q_sr_RX8_64 q_at_RX8_66 dX8_resize_11 dX8_resize_14 dX8_resize_15 dX8_resize_17 dX8_resize_20 ⟨Nat.le_of_ble_eq_true rfl, Nat.le_of_ble_eq_true rfl, Nat.le_of_ble_eq_true rfl, Nat.le_of_ble_eq_true rfl⟩ (fun _ h => Or.inr h)

set_option maxRecDepth 100000 in
set_option maxHeartbeats 4000000 in
theorem c_X8_size {l : Launch} {D : va_G} {cA ρ : Nat → Nat} {σ : Sg} {τ : Tg} {k0 : Nat} (hk0 : kd k0 = (0, 8)) {r : Int32} (h : f_X8_size σ k0 = some r) : Ct l yX8_size cX8_size 1 (some .int) 0 0 D cA ρ A0 [.ref (ρ k0)] σ τ (some (.int r)) σ τ := by
  refine Ct_of (by decide +kernel) (Nat.le_of_ble_eq_true rfl) (fun p e s m args below meth c C => ?_)
  have C : Ctx p l s m args meth c cX8_size RX8 1 (some .int) D cA ρ A0 := C
  unfold f_X8_size at h
  refine Y_sub [0] (lv' := [(0, .ref (ρ k0))]) rfl ?_
  refine Y_aload_n C (pc := 0) 0 0 rfl rfl dX8_size_0 ?_
  refine Y_getR C (pc := 1) hk0 q_fi_RX8_12 (by decide) dX8_size_1 ?_
  refine Y_getI C (pc := 4) (q_kr_8_0 hk0) q_fi_RX8_69 dX8_size_4 ?_
  cases h
  exact Y_iret C dX8_size_7

set_option maxRecDepth 100000 in
set_option maxHeartbeats 4000000 in
theorem c_X8_requireIndex {l : Launch} {D : va_G} {cA ρ : Nat → Nat} {σ : Sg} {τ : Tg} {k0 : Nat} {i1 : Int32} (hk0 : kd k0 = (0, 8)) {r : Unit} (h : f_X8_requireIndex σ k0 i1 = some (.inr r)) : Ct l yX8_requireIndex cX8_requireIndex 2 none 0 0 D cA ρ A0 [.ref (ρ k0), .int i1] σ τ none σ τ := by
  refine Ct_of (by decide +kernel) (Nat.le_of_ble_eq_true rfl) (fun p e s m args below meth c C => ?_)
  have C : Ctx p l s m args meth c cX8_requireIndex RX8 2 none D cA ρ A0 := C
  unfold f_X8_requireIndex at h
  refine Y_sub [0, 1] (lv' := [(0, .ref (ρ k0)), (1, .int i1)]) rfl ?_
  refine Y_iload_n C (pc := 0) 1 1 rfl rfl dX8_requireIndex_0 ?_
  refine Y_if_lt C (pc := 1) (tgt := 15) dX8_requireIndex_1 (by decide) (fun c2 => ?_) (fun c2 => ?_)
  · rw [if_pos c2] at h
    cases h
  · rw [if_neg c2] at h
    refine Y_iload_n C (pc := 4) 1 1 rfl rfl dX8_requireIndex_4 ?_
    refine Y_aload_n C (pc := 5) 0 0 rfl rfl dX8_requireIndex_5 ?_
    refine Y_getR C (pc := 6) hk0 q_fi_RX8_12 (by decide) dX8_requireIndex_6 ?_
    refine Y_getI C (pc := 9) (q_kr_8_0 hk0) q_fi_RX8_69 dX8_requireIndex_9 ?_
    refine Y_icmp_lt C (pc := 12) (tgt := 26) dX8_requireIndex_12 (by decide) (fun c1 => ?_) (fun c1 => ?_)
    · rw [if_pos c1] at h
      cases h
      exact Y_vret C dX8_requireIndex_26
    · rw [if_neg c1] at h
      cases h
set_option maxRecDepth 100000 in
set_option maxHeartbeats 4000000 in
theorem t_X8_requireIndex {l : Launch} {D : va_G} {cA ρ : Nat → Nat} {σ : Sg} {τ : Tg} {k0 : Nat} {i1 : Int32} (hk0 : kd k0 = (0, 8)) {r : Nat} (h : f_X8_requireIndex σ k0 i1 = some (.inl r)) : CtT l yX8_requireIndex cX8_requireIndex 2 none 6 90 D cA ρ [.ref (ρ k0), .int i1] σ τ (xn r) σ τ := by
  refine CtT_of (by decide +kernel) (Nat.le_of_ble_eq_true rfl) (fun p e s m args below meth c C X hno => ?_)
  have C : Ctx p l s m args meth c cX8_requireIndex RX8 2 none D cA ρ (Ax ρ s.heap.size) := C
  unfold f_X8_requireIndex at h
  refine Y_sub [0, 1] (lv' := [(0, .ref (ρ k0)), (1, .int i1)]) rfl ?_
  refine Y_iload_n C (pc := 0) 1 1 rfl rfl dX8_requireIndex_0 ?_
  refine Y_if_lt C (pc := 1) (tgt := 15) dX8_requireIndex_1 (by decide) (fun c2 => ?_) (fun c2 => ?_)
  · rw [if_pos c2] at h
    cases h
    exact Y_throwW (σ0 := σ) (τ0 := τ) (E := "java/lang/IndexOutOfBoundsException") (pc := 15) C X hno (by decide +kernel) q_cl_RX8_130 q_ix_2 q_sr_RX8_315 q_at_RX8_134 dX8_requireIndex_15 dX8_requireIndex_18 dX8_requireIndex_19 dX8_requireIndex_22 dX8_requireIndex_25 ⟨Nat.le_of_ble_eq_true rfl, Nat.le_of_ble_eq_true rfl, Nat.le_of_ble_eq_true rfl, Nat.le_of_ble_eq_true rfl⟩ (fun _ h => Or.inr h)
  · rw [if_neg c2] at h
    refine Y_iload_n C (pc := 4) 1 1 rfl rfl dX8_requireIndex_4 ?_
    refine Y_aload_n C (pc := 5) 0 0 rfl rfl dX8_requireIndex_5 ?_
    refine Y_getR C (pc := 6) hk0 q_fi_RX8_12 (by decide) dX8_requireIndex_6 ?_
    refine Y_getI C (pc := 9) (q_kr_8_0 hk0) q_fi_RX8_69 dX8_requireIndex_9 ?_
    refine Y_icmp_lt C (pc := 12) (tgt := 26) dX8_requireIndex_12 (by decide) (fun c1 => ?_) (fun c1 => ?_)
    · rw [if_pos c1] at h
      cases h
    · rw [if_neg c1] at h
      cases h
      exact Y_throwW (σ0 := σ) (τ0 := τ) (E := "java/lang/IndexOutOfBoundsException") (pc := 15) C X hno (by decide +kernel) q_cl_RX8_130 q_ix_2 q_sr_RX8_315 q_at_RX8_134 dX8_requireIndex_15 dX8_requireIndex_18 dX8_requireIndex_19 dX8_requireIndex_22 dX8_requireIndex_25 ⟨Nat.le_of_ble_eq_true rfl, Nat.le_of_ble_eq_true rfl, Nat.le_of_ble_eq_true rfl, Nat.le_of_ble_eq_true rfl⟩ (fun _ h => Or.inr h)

set_option maxRecDepth 100000 in
set_option maxHeartbeats 4000000 in
theorem c_X8_requireTable {l : Launch} {D : va_G} {cA ρ : Nat → Nat} {σ : Sg} {τ : Tg} {i0 : Int32}  {r : Unit} (h : f_X8_requireTable i0 = some (.inr r)) : Ct l yX8_requireTable cX8_requireTable 1 none 0 0 D cA ρ A0 [.int i0] σ τ none σ τ := by
  refine Ct_of (by decide +kernel) (Nat.le_of_ble_eq_true rfl) (fun p e s m args below meth c C => ?_)
  have C : Ctx p l s m args meth c cX8_requireTable RX8 1 none D cA ρ A0 := C
  unfold f_X8_requireTable at h
  refine Y_sub [0] (lv' := [(0, .int i0)]) rfl ?_
  refine Y_iload_n C (pc := 0) 0 0 rfl rfl dX8_requireTable_0 ?_
  refine Y_if_lt C (pc := 1) (tgt := 9) dX8_requireTable_1 (by decide) (fun c2 => ?_) (fun c2 => ?_)
  · rw [if_pos c2] at h
    cases h
  · rw [if_neg c2] at h
    refine Y_iload_n C (pc := 4) 0 0 rfl rfl dX8_requireTable_4 ?_
    refine Y_iconst C (pc := 5) (v := (2 : Int32)) (by decide) dX8_requireTable_5 ?_
    refine Y_icmp_le C (pc := 6) (tgt := 20) dX8_requireTable_6 (by decide) (fun c1 => ?_) (fun c1 => ?_)
    · rw [if_pos c1] at h
      cases h
      exact Y_vret C dX8_requireTable_20
    · rw [if_neg c1] at h
      cases h
set_option maxRecDepth 100000 in
set_option maxHeartbeats 4000000 in
theorem t_X8_requireTable {l : Launch} {D : va_G} {cA ρ : Nat → Nat} {σ : Sg} {τ : Tg} {i0 : Int32}  {r : Nat} (h : f_X8_requireTable i0 = some (.inl r)) : CtT l yX8_requireTable cX8_requireTable 1 none 6 90 D cA ρ [.int i0] σ τ (xn r) σ τ := by
  refine CtT_of (by decide +kernel) (Nat.le_of_ble_eq_true rfl) (fun p e s m args below meth c C X hno => ?_)
  have C : Ctx p l s m args meth c cX8_requireTable RX8 1 none D cA ρ (Ax ρ s.heap.size) := C
  unfold f_X8_requireTable at h
  refine Y_sub [0] (lv' := [(0, .int i0)]) rfl ?_
  refine Y_iload_n C (pc := 0) 0 0 rfl rfl dX8_requireTable_0 ?_
  refine Y_if_lt C (pc := 1) (tgt := 9) dX8_requireTable_1 (by decide) (fun c2 => ?_) (fun c2 => ?_)
  · rw [if_pos c2] at h
    cases h
    exact Y_throwW (σ0 := σ) (τ0 := τ) (E := "java/lang/IllegalArgumentException") (pc := 9) C X hno (by decide +kernel) q_cl_RX8_62 q_ix_0 q_sr_RX8_326 q_at_RX8_66 dX8_requireTable_9 dX8_requireTable_12 dX8_requireTable_13 dX8_requireTable_16 dX8_requireTable_19 ⟨Nat.le_of_ble_eq_true rfl, Nat.le_of_ble_eq_true rfl, Nat.le_of_ble_eq_true rfl, Nat.le_of_ble_eq_true rfl⟩ (fun _ h => Or.inr h)
  · rw [if_neg c2] at h
    refine Y_iload_n C (pc := 4) 0 0 rfl rfl dX8_requireTable_4 ?_
    refine Y_iconst C (pc := 5) (v := (2 : Int32)) (by decide) dX8_requireTable_5 ?_
    refine Y_icmp_le C (pc := 6) (tgt := 20) dX8_requireTable_6 (by decide) (fun c1 => ?_) (fun c1 => ?_)
    · rw [if_pos c1] at h
      cases h
    · rw [if_neg c1] at h
      cases h
      exact Y_throwW (σ0 := σ) (τ0 := τ) (E := "java/lang/IllegalArgumentException") (pc := 9) C X hno (by decide +kernel) q_cl_RX8_62 q_ix_0 q_sr_RX8_326 q_at_RX8_66 dX8_requireTable_9 dX8_requireTable_12 dX8_requireTable_13 dX8_requireTable_16 dX8_requireTable_19 ⟨Nat.le_of_ble_eq_true rfl, Nat.le_of_ble_eq_true rfl, Nat.le_of_ble_eq_true rfl, Nat.le_of_ble_eq_true rfl⟩ (fun _ h => Or.inr h)

set_option maxRecDepth 100000 in
set_option maxHeartbeats 4000000 in
theorem c_X8_requireValue {l : Launch} {D : va_G} {cA ρ : Nat → Nat} {σ : Sg} {τ : Tg} {i0 : Int32}  {r : Unit} (h : f_X8_requireValue i0 = some (.inr r)) : Ct l yX8_requireValue cX8_requireValue 1 none 0 0 D cA ρ A0 [.int i0] σ τ none σ τ := by
  refine Ct_of (by decide +kernel) (Nat.le_of_ble_eq_true rfl) (fun p e s m args below meth c C => ?_)
  have C : Ctx p l s m args meth c cX8_requireValue RX8 1 none D cA ρ A0 := C
  unfold f_X8_requireValue at h
  refine Y_sub [0] (lv' := [(0, .int i0)]) rfl ?_
  refine Y_iload_n C (pc := 0) 0 0 rfl rfl dX8_requireValue_0 ?_
  refine Y_if_lt C (pc := 1) (tgt := 10) dX8_requireValue_1 (by decide) (fun c2 => ?_) (fun c2 => ?_)
  · rw [if_pos c2] at h
    cases h
  · rw [if_neg c2] at h
    refine Y_iload_n C (pc := 4) 0 0 rfl rfl dX8_requireValue_4 ?_
    refine Y_bipush C (pc := 5) (v := (99 : Int32)) (by decide) dX8_requireValue_5 ?_
    refine Y_icmp_le C (pc := 7) (tgt := 21) dX8_requireValue_7 (by decide) (fun c1 => ?_) (fun c1 => ?_)
    · rw [if_pos c1] at h
      cases h
      exact Y_vret C dX8_requireValue_21
    · rw [if_neg c1] at h
      cases h
set_option maxRecDepth 100000 in
set_option maxHeartbeats 4000000 in
theorem t_X8_requireValue {l : Launch} {D : va_G} {cA ρ : Nat → Nat} {σ : Sg} {τ : Tg} {i0 : Int32}  {r : Nat} (h : f_X8_requireValue i0 = some (.inl r)) : CtT l yX8_requireValue cX8_requireValue 1 none 6 90 D cA ρ [.int i0] σ τ (xn r) σ τ := by
  refine CtT_of (by decide +kernel) (Nat.le_of_ble_eq_true rfl) (fun p e s m args below meth c C X hno => ?_)
  have C : Ctx p l s m args meth c cX8_requireValue RX8 1 none D cA ρ (Ax ρ s.heap.size) := C
  unfold f_X8_requireValue at h
  refine Y_sub [0] (lv' := [(0, .int i0)]) rfl ?_
  refine Y_iload_n C (pc := 0) 0 0 rfl rfl dX8_requireValue_0 ?_
  refine Y_if_lt C (pc := 1) (tgt := 10) dX8_requireValue_1 (by decide) (fun c2 => ?_) (fun c2 => ?_)
  · rw [if_pos c2] at h
    cases h
    exact Y_throwW (σ0 := σ) (τ0 := τ) (E := "java/lang/IllegalArgumentException") (pc := 10) C X hno (by decide +kernel) q_cl_RX8_62 q_ix_0 q_sr_RX8_328 q_at_RX8_66 dX8_requireValue_10 dX8_requireValue_13 dX8_requireValue_14 dX8_requireValue_17 dX8_requireValue_20 ⟨Nat.le_of_ble_eq_true rfl, Nat.le_of_ble_eq_true rfl, Nat.le_of_ble_eq_true rfl, Nat.le_of_ble_eq_true rfl⟩ (fun _ h => Or.inr h)
  · rw [if_neg c2] at h
    refine Y_iload_n C (pc := 4) 0 0 rfl rfl dX8_requireValue_4 ?_
    refine Y_bipush C (pc := 5) (v := (99 : Int32)) (by decide) dX8_requireValue_5 ?_
    refine Y_icmp_le C (pc := 7) (tgt := 21) dX8_requireValue_7 (by decide) (fun c1 => ?_) (fun c1 => ?_)
    · rw [if_pos c1] at h
      cases h
    · rw [if_neg c1] at h
      cases h
      exact Y_throwW (σ0 := σ) (τ0 := τ) (E := "java/lang/IllegalArgumentException") (pc := 10) C X hno (by decide +kernel) q_cl_RX8_62 q_ix_0 q_sr_RX8_328 q_at_RX8_66 dX8_requireValue_10 dX8_requireValue_13 dX8_requireValue_14 dX8_requireValue_17 dX8_requireValue_20 ⟨Nat.le_of_ble_eq_true rfl, Nat.le_of_ble_eq_true rfl, Nat.le_of_ble_eq_true rfl, Nat.le_of_ble_eq_true rfl⟩ (fun _ h => Or.inr h)

set_option maxRecDepth 100000 in
set_option maxHeartbeats 4000000 in
theorem c_X8_set {l : Launch} {D : va_G} {cA ρ : Nat → Nat} {σ : Sg} {τ : Tg} {k0 : Nat} {i1 : Int32} {i2 : Int32} {i3 : Int32} {i4 : Int32} (hI : Inj ρ) (hk0 : kd k0 = (0, 8)) {r : Int32 × Sg} (h : f_X8_set σ k0 i1 i2 i3 i4 = some (.inr r)) : Ct l yX8_set cX8_set 6 (some .int) 3 75 D cA ρ (Aw ρ) [.ref (ρ k0), .int i1, .int i2, .int i3, .int i4] σ τ (some (.int r.1)) r.2 τ := by
  refine Ct_of (by decide +kernel) (Nat.le_of_ble_eq_true rfl) (fun p e s m args below meth c C => ?_)
  have C : Ctx p l s m args meth c cX8_set RX8 6 (some .int) D cA ρ (Aw ρ) := C
  have hW : Wr ρ (Aw ρ) := ⟨hI, fun k hk => ⟨k, hk, rfl⟩⟩
  unfold f_X8_set at h
  refine Y_sub [0, 1, 2, 3, 4] (lv' := [(0, .ref (ρ k0)), (1, .int i1), (2, .int i2), (3, .int i3), (4, .int i4)]) rfl ?_
  refine Y_aload_n C (pc := 0) 0 0 rfl rfl dX8_set_0 ?_
  refine Y_iload_n C (pc := 1) 2 2 rfl rfl dX8_set_1 ?_
  obtain ⟨v1, hv1, h⟩ := Option.bind_eq_some_iff.mp h
  rcases v1 with n2 | w3
  · simp only [Sum.elim_inl] at h
    cases h
  simp only [Sum.elim_inr] at h
  refine Y_callV C [.int i2] [] [] hk0 rfl rfl (c_X8_requireIndex hk0 hv1) (fun _ h => h.elim) q_cw_yX8_requireIndex q_ml_RX8_81 ⟨q_im_yX8_requireIndex, q_se_yX8_requireIndex⟩ ⟨⟨Nat.le_of_ble_eq_true rfl, Nat.le_of_ble_eq_true rfl⟩, ⟨Nat.zero_le _, Nat.zero_le _⟩, Nat.le_of_ble_eq_true rfl⟩ rfl rfl rfl dX8_set_2 ?_
  refine Y_aload_n C (pc := 5) 0 0 rfl rfl dX8_set_5 ?_
  refine Y_iload_n C (pc := 6) 3 3 rfl rfl dX8_set_6 ?_
  obtain ⟨v4, hv4, h⟩ := Option.bind_eq_some_iff.mp h
  rcases v4 with n5 | w6
  · simp only [Sum.elim_inl] at h
    cases h
  simp only [Sum.elim_inr] at h
  refine Y_callV C [.int i3] [] [] hk0 rfl rfl (c_X8_requireIndex hk0 hv4) (fun _ h => h.elim) q_cw_yX8_requireIndex q_ml_RX8_81 ⟨q_im_yX8_requireIndex, q_se_yX8_requireIndex⟩ ⟨⟨Nat.le_of_ble_eq_true rfl, Nat.le_of_ble_eq_true rfl⟩, ⟨Nat.zero_le _, Nat.zero_le _⟩, Nat.le_of_ble_eq_true rfl⟩ rfl rfl rfl dX8_set_7 ?_
  refine Y_iload_n C (pc := 10) 1 1 rfl rfl dX8_set_10 ?_
  obtain ⟨v7, hv7, h⟩ := Option.bind_eq_some_iff.mp h
  rcases v7 with n8 | w9
  · simp only [Sum.elim_inl] at h
    cases h
  simp only [Sum.elim_inr] at h
  refine Y_callS C [.int i1] [] [] (c_X8_requireTable  hv7) (fun _ h => h.elim) q_cw_yX8_requireTable q_ml_RX8_84 q_st_yX8_requireTable ⟨⟨Nat.le_of_ble_eq_true rfl, Nat.le_of_ble_eq_true rfl⟩, ⟨Nat.zero_le _, Nat.zero_le _⟩, Nat.le_of_ble_eq_true rfl⟩ rfl rfl rfl dX8_set_11 ?_
  refine Y_iload C (pc := 14) 4 rfl dX8_set_14 ?_
  obtain ⟨v10, hv10, h⟩ := Option.bind_eq_some_iff.mp h
  rcases v10 with n11 | w12
  · simp only [Sum.elim_inl] at h
    cases h
  simp only [Sum.elim_inr] at h
  refine Y_callS C [.int i4] [] [] (c_X8_requireValue  hv10) (fun _ h => h.elim) q_cw_yX8_requireValue q_ml_RX8_87 q_st_yX8_requireValue ⟨⟨Nat.le_of_ble_eq_true rfl, Nat.le_of_ble_eq_true rfl⟩, ⟨Nat.zero_le _, Nat.zero_le _⟩, Nat.le_of_ble_eq_true rfl⟩ rfl rfl rfl dX8_set_16 ?_
  refine Y_aload_n C (pc := 19) 0 0 rfl rfl dX8_set_19 ?_
  refine Y_getR C (pc := 20) hk0 q_fi_RX8_12 (by decide) dX8_set_20 ?_
  refine Y_iload_n C (pc := 23) 1 1 rfl rfl dX8_set_23 ?_
  obtain ⟨v13, hv13, h⟩ := Option.bind_eq_some_iff.mp h
  refine Y_callV C [.int i1] [] [.ref (ρ v13)] (q_kr_8_0 hk0) rfl rfl (c_X6_tableOf (q_kr_8_0 hk0) hv13) (fun _ h => h.elim) q_cw_yX6_tableOf q_ml_RX8_90 ⟨q_im_yX6_tableOf, q_se_yX6_tableOf⟩ ⟨⟨Nat.le_of_ble_eq_true rfl, Nat.le_of_ble_eq_true rfl⟩, ⟨Nat.zero_le _, Nat.zero_le _⟩, Nat.le_of_ble_eq_true rfl⟩ rfl rfl rfl dX8_set_24 ?_
  refine Y_iload_n C (pc := 27) 2 2 rfl rfl dX8_set_27 ?_
  refine Y_iload_n C (pc := 28) 3 3 rfl rfl dX8_set_28 ?_
  obtain ⟨v14, hv14, h⟩ := Option.bind_eq_some_iff.mp h
  refine Y_callS C [.ref (ρ v13), .int i2, .int i3] [] [.int v14] (c_X8_at (rk_X6_tableOf (q_kr_8_0 hk0) hv13).1 hv14) (fun _ h => h.elim) q_cw_yX8_at q_ml_RX8_94 q_st_yX8_at ⟨⟨Nat.le_of_ble_eq_true rfl, Nat.le_of_ble_eq_true rfl⟩, ⟨Nat.zero_le _, Nat.zero_le _⟩, Nat.le_of_ble_eq_true rfl⟩ rfl rfl rfl dX8_set_29 ?_
  refine Y_istore C (pc := 32) (lv' := [(5, .int v14), (0, .ref (ρ k0)), (1, .int i1), (2, .int i2), (3, .int i3), (4, .int i4)]) (by decide) rfl dX8_set_32 ?_
  refine Y_aload_n C (pc := 34) 0 1 rfl rfl dX8_set_34 ?_
  refine Y_getR C (pc := 35) hk0 q_fi_RX8_19 (by decide) dX8_set_35 ?_
  refine Y_aload_n C (pc := 38) 0 1 rfl rfl dX8_set_38 ?_
  refine Y_getR C (pc := 39) hk0 q_fi_RX8_12 (by decide) dX8_set_39 ?_
  obtain ⟨v15, hv15, h⟩ := Option.bind_eq_some_iff.mp h
  refine Y_callV C [.ref (ρ (k0 + 1))] [] [] (q_kr_8_1 hk0) rfl rfl (c_X2_push hI (q_kr_8_1 hk0) (q_kr_8_0 hk0) hv15) (fun _ h => h) q_cw_yX2_push q_ml_RX8_73 ⟨q_im_yX2_push, q_se_yX2_push⟩ ⟨⟨Nat.le_of_ble_eq_true rfl, Nat.le_of_ble_eq_true rfl⟩, ⟨Nat.zero_le _, Nat.zero_le _⟩, Nat.le_of_ble_eq_true rfl⟩ rfl rfl rfl dX8_set_42 ?_
  refine Y_aload_n C (pc := 45) 0 1 rfl rfl dX8_set_45 ?_
  refine Y_getR C (pc := 46) hk0 q_fi_RX8_12 (by decide) dX8_set_46 ?_
  refine Y_iload_n C (pc := 49) 1 2 rfl rfl dX8_set_49 ?_
  obtain ⟨v16, hv16, h⟩ := Option.bind_eq_some_iff.mp h
  refine Y_callV C [.int i1] [] [.ref (ρ v16)] (q_kr_8_0 hk0) rfl rfl (c_X6_tableOf (q_kr_8_0 hk0) hv16) (fun _ h => h.elim) q_cw_yX6_tableOf q_ml_RX8_90 ⟨q_im_yX6_tableOf, q_se_yX6_tableOf⟩ ⟨⟨Nat.le_of_ble_eq_true rfl, Nat.le_of_ble_eq_true rfl⟩, ⟨Nat.zero_le _, Nat.zero_le _⟩, Nat.le_of_ble_eq_true rfl⟩ rfl rfl rfl dX8_set_50 ?_
  refine Y_iload_n C (pc := 53) 2 3 rfl rfl dX8_set_53 ?_
  refine Y_iload_n C (pc := 54) 3 4 rfl rfl dX8_set_54 ?_
  refine Y_iload C (pc := 55) 5 rfl dX8_set_55 ?_
  obtain ⟨v17, hv17, h⟩ := Option.bind_eq_some_iff.mp h
  refine Y_callS C [.ref (ρ v16), .int i2, .int i3, .int i4] [] [] (c_X8_put hI (rk_X6_tableOf (q_kr_8_0 hk0) hv16).1 (rk_X6_tableOf (q_kr_8_0 hk0) hv16).2 hv17) (fun _ h => h) q_cw_yX8_put q_ml_RX8_98 q_st_yX8_put ⟨⟨Nat.le_of_ble_eq_true rfl, Nat.le_of_ble_eq_true rfl⟩, ⟨Nat.zero_le _, Nat.zero_le _⟩, Nat.le_of_ble_eq_true rfl⟩ rfl rfl rfl dX8_set_57 ?_
  refine Y_iload C (pc := 60) 0 rfl dX8_set_60 ?_
  cases h
  exact Y_iret C dX8_set_62
set_option maxRecDepth 100000 in
set_option maxHeartbeats 4000000 in
theorem t_X8_set {l : Launch} {D : va_G} {cA ρ : Nat → Nat} {σ : Sg} {τ : Tg} {k0 : Nat} {i1 : Int32} {i2 : Int32} {i3 : Int32} {i4 : Int32} (hI : Inj ρ) (hk0 : kd k0 = (0, 8)) {r : Nat × Sg} (h : f_X8_set σ k0 i1 i2 i3 i4 = some (.inl r)) : CtT l yX8_set cX8_set 6 (some .int) 7 111 D cA ρ [.ref (ρ k0), .int i1, .int i2, .int i3, .int i4] σ τ (xn r.1) r.2 τ := by
  refine CtT_of (by decide +kernel) (Nat.le_of_ble_eq_true rfl) (fun p e s m args below meth c C X hno => ?_)
  have C : Ctx p l s m args meth c cX8_set RX8 6 (some .int) D cA ρ (Ax ρ s.heap.size) := C
  have hW : Wr ρ (Ax ρ s.heap.size) := ⟨hI, fun k hk => Or.inl ⟨k, hk, rfl⟩⟩
  unfold f_X8_set at h
  refine Y_sub [0, 1, 2, 3, 4] (lv' := [(0, .ref (ρ k0)), (1, .int i1), (2, .int i2), (3, .int i3), (4, .int i4)]) rfl ?_
  refine Y_aload_n C (pc := 0) 0 0 rfl rfl dX8_set_0 ?_
  refine Y_iload_n C (pc := 1) 2 2 rfl rfl dX8_set_1 ?_
  obtain ⟨v1, hv1, h⟩ := Option.bind_eq_some_iff.mp h
  rcases v1 with n2 | w3
  · simp only [Sum.elim_inl] at h
    cases h
    exact Y_callVT C X hno (pc := 2) [.int i2] [] hk0 rfl rfl (t_X8_requireIndex hk0 hv1) q_cw_yX8_requireIndex q_ml_RX8_81 ⟨q_im_yX8_requireIndex, q_se_yX8_requireIndex⟩ ⟨⟨Nat.le_of_ble_eq_true rfl, Nat.le_of_ble_eq_true rfl⟩, ⟨Nat.le_of_ble_eq_true rfl, Nat.le_of_ble_eq_true rfl⟩, Nat.le_of_ble_eq_true rfl⟩ rfl rfl dX8_set_2
  simp only [Sum.elim_inr] at h
  refine Y_callV C [.int i2] [] [] hk0 rfl rfl (c_X8_requireIndex hk0 hv1) (fun _ h => h.elim) q_cw_yX8_requireIndex q_ml_RX8_81 ⟨q_im_yX8_requireIndex, q_se_yX8_requireIndex⟩ ⟨⟨Nat.le_of_ble_eq_true rfl, Nat.le_of_ble_eq_true rfl⟩, ⟨Nat.zero_le _, Nat.zero_le _⟩, Nat.le_of_ble_eq_true rfl⟩ rfl rfl rfl dX8_set_2 ?_
  refine Y_aload_n C (pc := 5) 0 0 rfl rfl dX8_set_5 ?_
  refine Y_iload_n C (pc := 6) 3 3 rfl rfl dX8_set_6 ?_
  obtain ⟨v4, hv4, h⟩ := Option.bind_eq_some_iff.mp h
  rcases v4 with n5 | w6
  · simp only [Sum.elim_inl] at h
    cases h
    exact Y_callVT C X hno (pc := 7) [.int i3] [] hk0 rfl rfl (t_X8_requireIndex hk0 hv4) q_cw_yX8_requireIndex q_ml_RX8_81 ⟨q_im_yX8_requireIndex, q_se_yX8_requireIndex⟩ ⟨⟨Nat.le_of_ble_eq_true rfl, Nat.le_of_ble_eq_true rfl⟩, ⟨Nat.le_of_ble_eq_true rfl, Nat.le_of_ble_eq_true rfl⟩, Nat.le_of_ble_eq_true rfl⟩ rfl rfl dX8_set_7
  simp only [Sum.elim_inr] at h
  refine Y_callV C [.int i3] [] [] hk0 rfl rfl (c_X8_requireIndex hk0 hv4) (fun _ h => h.elim) q_cw_yX8_requireIndex q_ml_RX8_81 ⟨q_im_yX8_requireIndex, q_se_yX8_requireIndex⟩ ⟨⟨Nat.le_of_ble_eq_true rfl, Nat.le_of_ble_eq_true rfl⟩, ⟨Nat.zero_le _, Nat.zero_le _⟩, Nat.le_of_ble_eq_true rfl⟩ rfl rfl rfl dX8_set_7 ?_
  refine Y_iload_n C (pc := 10) 1 1 rfl rfl dX8_set_10 ?_
  obtain ⟨v7, hv7, h⟩ := Option.bind_eq_some_iff.mp h
  rcases v7 with n8 | w9
  · simp only [Sum.elim_inl] at h
    cases h
    exact Y_callST C X hno (pc := 11) [.int i1] [] (t_X8_requireTable  hv7) q_cw_yX8_requireTable q_ml_RX8_84 q_st_yX8_requireTable ⟨⟨Nat.le_of_ble_eq_true rfl, Nat.le_of_ble_eq_true rfl⟩, ⟨Nat.le_of_ble_eq_true rfl, Nat.le_of_ble_eq_true rfl⟩, Nat.le_of_ble_eq_true rfl⟩ rfl rfl dX8_set_11
  simp only [Sum.elim_inr] at h
  refine Y_callS C [.int i1] [] [] (c_X8_requireTable  hv7) (fun _ h => h.elim) q_cw_yX8_requireTable q_ml_RX8_84 q_st_yX8_requireTable ⟨⟨Nat.le_of_ble_eq_true rfl, Nat.le_of_ble_eq_true rfl⟩, ⟨Nat.zero_le _, Nat.zero_le _⟩, Nat.le_of_ble_eq_true rfl⟩ rfl rfl rfl dX8_set_11 ?_
  refine Y_iload C (pc := 14) 4 rfl dX8_set_14 ?_
  obtain ⟨v10, hv10, h⟩ := Option.bind_eq_some_iff.mp h
  rcases v10 with n11 | w12
  · simp only [Sum.elim_inl] at h
    cases h
    exact Y_callST C X hno (pc := 16) [.int i4] [] (t_X8_requireValue  hv10) q_cw_yX8_requireValue q_ml_RX8_87 q_st_yX8_requireValue ⟨⟨Nat.le_of_ble_eq_true rfl, Nat.le_of_ble_eq_true rfl⟩, ⟨Nat.le_of_ble_eq_true rfl, Nat.le_of_ble_eq_true rfl⟩, Nat.le_of_ble_eq_true rfl⟩ rfl rfl dX8_set_16
  simp only [Sum.elim_inr] at h
  refine Y_callS C [.int i4] [] [] (c_X8_requireValue  hv10) (fun _ h => h.elim) q_cw_yX8_requireValue q_ml_RX8_87 q_st_yX8_requireValue ⟨⟨Nat.le_of_ble_eq_true rfl, Nat.le_of_ble_eq_true rfl⟩, ⟨Nat.zero_le _, Nat.zero_le _⟩, Nat.le_of_ble_eq_true rfl⟩ rfl rfl rfl dX8_set_16 ?_
  refine Y_aload_n C (pc := 19) 0 0 rfl rfl dX8_set_19 ?_
  refine Y_getR C (pc := 20) hk0 q_fi_RX8_12 (by decide) dX8_set_20 ?_
  refine Y_iload_n C (pc := 23) 1 1 rfl rfl dX8_set_23 ?_
  obtain ⟨v13, hv13, h⟩ := Option.bind_eq_some_iff.mp h
  refine Y_callV C [.int i1] [] [.ref (ρ v13)] (q_kr_8_0 hk0) rfl rfl (c_X6_tableOf (q_kr_8_0 hk0) hv13) (fun _ h => h.elim) q_cw_yX6_tableOf q_ml_RX8_90 ⟨q_im_yX6_tableOf, q_se_yX6_tableOf⟩ ⟨⟨Nat.le_of_ble_eq_true rfl, Nat.le_of_ble_eq_true rfl⟩, ⟨Nat.zero_le _, Nat.zero_le _⟩, Nat.le_of_ble_eq_true rfl⟩ rfl rfl rfl dX8_set_24 ?_
  refine Y_iload_n C (pc := 27) 2 2 rfl rfl dX8_set_27 ?_
  refine Y_iload_n C (pc := 28) 3 3 rfl rfl dX8_set_28 ?_
  obtain ⟨v14, hv14, h⟩ := Option.bind_eq_some_iff.mp h
  refine Y_callS C [.ref (ρ v13), .int i2, .int i3] [] [.int v14] (c_X8_at (rk_X6_tableOf (q_kr_8_0 hk0) hv13).1 hv14) (fun _ h => h.elim) q_cw_yX8_at q_ml_RX8_94 q_st_yX8_at ⟨⟨Nat.le_of_ble_eq_true rfl, Nat.le_of_ble_eq_true rfl⟩, ⟨Nat.zero_le _, Nat.zero_le _⟩, Nat.le_of_ble_eq_true rfl⟩ rfl rfl rfl dX8_set_29 ?_
  refine Y_istore C (pc := 32) (lv' := [(5, .int v14), (0, .ref (ρ k0)), (1, .int i1), (2, .int i2), (3, .int i3), (4, .int i4)]) (by decide) rfl dX8_set_32 ?_
  refine Y_aload_n C (pc := 34) 0 1 rfl rfl dX8_set_34 ?_
  refine Y_getR C (pc := 35) hk0 q_fi_RX8_19 (by decide) dX8_set_35 ?_
  refine Y_aload_n C (pc := 38) 0 1 rfl rfl dX8_set_38 ?_
  refine Y_getR C (pc := 39) hk0 q_fi_RX8_12 (by decide) dX8_set_39 ?_
  obtain ⟨v15, hv15, h⟩ := Option.bind_eq_some_iff.mp h
  refine Y_callV C [.ref (ρ (k0 + 1))] [] [] (q_kr_8_1 hk0) rfl rfl (c_X2_push hI (q_kr_8_1 hk0) (q_kr_8_0 hk0) hv15) (fun _ h => Or.inl h) q_cw_yX2_push q_ml_RX8_73 ⟨q_im_yX2_push, q_se_yX2_push⟩ ⟨⟨Nat.le_of_ble_eq_true rfl, Nat.le_of_ble_eq_true rfl⟩, ⟨Nat.zero_le _, Nat.zero_le _⟩, Nat.le_of_ble_eq_true rfl⟩ rfl rfl rfl dX8_set_42 ?_
  refine Y_aload_n C (pc := 45) 0 1 rfl rfl dX8_set_45 ?_
  refine Y_getR C (pc := 46) hk0 q_fi_RX8_12 (by decide) dX8_set_46 ?_
  refine Y_iload_n C (pc := 49) 1 2 rfl rfl dX8_set_49 ?_
  obtain ⟨v16, hv16, h⟩ := Option.bind_eq_some_iff.mp h
  refine Y_callV C [.int i1] [] [.ref (ρ v16)] (q_kr_8_0 hk0) rfl rfl (c_X6_tableOf (q_kr_8_0 hk0) hv16) (fun _ h => h.elim) q_cw_yX6_tableOf q_ml_RX8_90 ⟨q_im_yX6_tableOf, q_se_yX6_tableOf⟩ ⟨⟨Nat.le_of_ble_eq_true rfl, Nat.le_of_ble_eq_true rfl⟩, ⟨Nat.zero_le _, Nat.zero_le _⟩, Nat.le_of_ble_eq_true rfl⟩ rfl rfl rfl dX8_set_50 ?_
  refine Y_iload_n C (pc := 53) 2 3 rfl rfl dX8_set_53 ?_
  refine Y_iload_n C (pc := 54) 3 4 rfl rfl dX8_set_54 ?_
  refine Y_iload C (pc := 55) 5 rfl dX8_set_55 ?_
  obtain ⟨v17, hv17, h⟩ := Option.bind_eq_some_iff.mp h
  refine Y_callS C [.ref (ρ v16), .int i2, .int i3, .int i4] [] [] (c_X8_put hI (rk_X6_tableOf (q_kr_8_0 hk0) hv16).1 (rk_X6_tableOf (q_kr_8_0 hk0) hv16).2 hv17) (fun _ h => Or.inl h) q_cw_yX8_put q_ml_RX8_98 q_st_yX8_put ⟨⟨Nat.le_of_ble_eq_true rfl, Nat.le_of_ble_eq_true rfl⟩, ⟨Nat.zero_le _, Nat.zero_le _⟩, Nat.le_of_ble_eq_true rfl⟩ rfl rfl rfl dX8_set_57 ?_
  refine Y_iload C (pc := 60) 0 rfl dX8_set_60 ?_
  cases h

