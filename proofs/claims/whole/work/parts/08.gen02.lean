set_option maxRecDepth 100000 in
set_option maxHeartbeats 4000000 in
theorem c_X1_regretOf {l : Launch} {D : va_G} {cA ρ : Nat → Nat} {σ : Sg} {τ : Tg} {k0 : Nat} {i1 : Int32} (hk0 : kd k0 = (0, 1)) {r : Int32} (h : f_X1_regretOf σ k0 i1 = some r) : Ct l yX1_regretOf cX1_regretOf 6 (some .int) 1 23 D cA ρ A0 [.ref (ρ k0), .int i1] σ τ (some (.int r)) σ τ := by
  refine Ct_of (by decide +kernel) (Nat.le_of_ble_eq_true rfl) (fun p e s m args below meth c C => ?_)
  have C : Ctx p l s m args meth c cX1_regretOf RX1 6 (some .int) D cA ρ A0 := C
  unfold f_X1_regretOf at h
  refine Y_sub [0, 1] (lv' := [(0, .ref (ρ k0)), (1, .int i1)]) rfl ?_
  refine Y_aload_n C (pc := 0) 0 0 rfl rfl dX1_regretOf_0 ?_
  refine Y_getI C (pc := 1) hk0 q_fi_RX1_80 dX1_regretOf_1 ?_
  refine Y_iconst C (pc := 4) (v := (1 : Int32)) (by decide) dX1_regretOf_4 ?_
  refine Y_icmp_ne C (pc := 5) (tgt := 11) dX1_regretOf_5 (by decide) (fun c10 => ?_) (fun c10 => ?_)
  · rw [if_neg c10] at h
    refine Y_ldc C q_ct_RX1_107 dX1_regretOf_11 ?_
    refine Y_istore_n C (pc := 13) (lv' := [(2, .int (1000000 : Int32)), (0, .ref (ρ k0)), (1, .int i1)]) 2 rfl (by decide) rfl dX1_regretOf_13 ?_
    refine Y_ldc C q_ct_RX1_107 dX1_regretOf_14 ?_
    refine Y_istore_n C (pc := 16) (lv' := [(3, .int (1000000 : Int32)), (2, .int (1000000 : Int32)), (0, .ref (ρ k0)), (1, .int i1)]) 3 rfl (by decide) rfl dX1_regretOf_16 ?_
    refine Y_iconst C (pc := 17) (v := (0 : Int32)) (by decide) dX1_regretOf_17 ?_
    refine Y_istore C (pc := 18) (lv' := [(4, .int (0 : Int32)), (3, .int (1000000 : Int32)), (2, .int (1000000 : Int32)), (0, .ref (ρ k0)), (1, .int i1)]) (by decide) rfl dX1_regretOf_18 ?_
    obtain ⟨e9, he9, h⟩ := Option.bind_eq_some_iff.mp h
    refine Y_sub [3, 4, 2, 1, 0] (lv' := [(0, .ref (ρ k0)), (1, .int i1), (2, .int (1000000 : Int32)), (3, .int (1000000 : Int32)), (4, .int (0 : Int32))]) rfl ?_
    refine lo_rule (f := (f_X1_regretOf_L20 σ k0 i1)) (YS := fun s1 => Y p l e (Rm 1 23) s m args below meth c 6 D cA ρ A0 0 0 (MQ below (QC D cA ρ A0 (some (.int r)) σ τ) args s 0 0 A0) σ τ 20 [(0, .ref (ρ k0)), (1, .int i1), (2, .int s1.1), (3, .int s1.2.1), (4, .int s1.2.2)] []) (YE := fun e9 => Y p l e (Rm 1 23) s m args below meth c 6 D cA ρ A0 0 0 (MQ below (QC D cA ρ A0 (some (.int r)) σ τ) args s 0 0 A0) σ τ 77 [(2, .int e9.1), (3, .int e9.2)] []) ?_ he9 ?_
    · intro s1 x h hLp hE
      unfold f_X1_regretOf_L20 at h
      have hJ71 : ∀ (j3 : Int32) (j4 : Int32) (j5 : Int32), f_X1_regretOf_J71 j3 j4 j5 = some x → Y p l e (Rm 1 23) s m args below meth c 6 D cA ρ A0 0 0 (MQ below (QC D cA ρ A0 (some (.int r)) σ τ) args s 0 0 A0) σ τ 71 [(0, .ref (ρ k0)), (1, .int i1), (2, .int j3), (3, .int j4), (4, .int j5)] [] := by
        intro j3 j4 j5 h
        unfold f_X1_regretOf_J71 at h
        refine Y_iinc C (pc := 71) (v := (j5 + 1)) (lv' := [(4, .int (j5 + 1)), (0, .ref (ρ k0)), (1, .int i1), (2, .int j3), (3, .int j4)]) 4 rfl (congrArg (fun z => j5 + z) (by decide : Int32.ofInt (1) = (1))) (by decide) rfl dX1_regretOf_71 ?_
        refine Y_goto C (pc := 74) (tgt := 20) dX1_regretOf_74 (by decide) ?_
        have h := Option.some.inj h
        exact Y_sub [1, 2, 3, 4, 0] rfl (hLp _ h.symm)
      refine Y_iload C (pc := 20) 4 rfl dX1_regretOf_20 ?_
      refine Y_aload_n C (pc := 22) 0 0 rfl rfl dX1_regretOf_22 ?_
      refine Y_getI C (pc := 23) hk0 q_fi_RX1_33 dX1_regretOf_23 ?_
      refine Y_icmp_ge C (pc := 26) (tgt := 77) dX1_regretOf_26 (by decide) (fun c8 => ?_) (fun c8 => ?_)
      · rw [if_pos c8] at h
        have h := Option.some.inj h
        exact Y_sub [2, 3] rfl (hE _ h.symm)
      · rw [if_neg c8] at h
        refine Y_aload_n C (pc := 29) 0 0 rfl rfl dX1_regretOf_29 ?_
        refine Y_getI C (pc := 30) hk0 q_fi_RX1_58 dX1_regretOf_30 ?_
        refine Y_iload C (pc := 33) 4 rfl dX1_regretOf_33 ?_
        obtain ⟨v2, hv2, h⟩ := Option.bind_eq_some_iff.mp h
        refine Y_callSN C [.int (σ k0 4), .int s1.2.2] [] [.int v2] (c_X8_has  hv2) (fun _ h => h.elim) q_cw_yX8_has q_mn_RX1_61 q_st_yX8_has ⟨⟨Nat.le_of_ble_eq_true rfl, Nat.le_of_ble_eq_true rfl⟩, ⟨Nat.zero_le _, Nat.zero_le _⟩, Nat.le_of_ble_eq_true rfl⟩ rfl rfl rfl dX1_regretOf_35 ?_
        refine Y_if_eq C (pc := 38) (tgt := 71) dX1_regretOf_38 (by decide) (fun c7 => ?_) (fun c7 => ?_)
        · rw [if_pos c7] at h
          exact Y_sub [0, 1, 2, 3, 4] rfl (hJ71 _ _ _ h)
        · rw [if_neg c7] at h
          refine Y_aload_n C (pc := 41) 0 0 rfl rfl dX1_regretOf_41 ?_
          refine Y_getR C (pc := 42) hk0 q_fi_RX1_9 (by decide) dX1_regretOf_42 ?_
          refine Y_iload_n C (pc := 45) 1 1 rfl rfl dX1_regretOf_45 ?_
          refine Y_iload C (pc := 46) 4 rfl dX1_regretOf_46 ?_
          obtain ⟨v6, hv6, h⟩ := Option.bind_eq_some_iff.mp h
          refine Y_callSN C [.ref (ρ (k0 + 1)), .int i1, .int s1.2.2] [] [.int v6] (c_X8_at (q_kr_1_1 hk0) hv6) (fun _ h => h.elim) q_cw_yX8_at q_mn_RX1_91 q_st_yX8_at ⟨⟨Nat.le_of_ble_eq_true rfl, Nat.le_of_ble_eq_true rfl⟩, ⟨Nat.zero_le _, Nat.zero_le _⟩, Nat.le_of_ble_eq_true rfl⟩ rfl rfl rfl dX1_regretOf_48 ?_
          refine Y_istore C (pc := 51) (lv' := [(5, .int v6), (0, .ref (ρ k0)), (1, .int i1), (2, .int s1.1), (3, .int s1.2.1), (4, .int s1.2.2)]) (by decide) rfl dX1_regretOf_51 ?_
          refine Y_iload_n C (pc := 53) 3 4 rfl rfl dX1_regretOf_53 ?_
          refine Y_iload_n C (pc := 54) 2 3 rfl rfl dX1_regretOf_54 ?_
          refine Y_iload C (pc := 55) 0 rfl dX1_regretOf_55 ?_
          refine Y_max C (pc := 57) q_ml_RX1_113 ⟨q_st_max, q_in_Math, q_cd_max⟩ ⟨Nat.le_of_ble_eq_true rfl, Nat.le_of_ble_eq_true rfl, Nat.zero_le _, Nat.zero_le _⟩ dX1_regretOf_57 ?_
          refine Y_min C (pc := 60) q_ml_RX1_108 ⟨q_st_min, q_in_Math, q_cd_min⟩ ⟨Nat.le_of_ble_eq_true rfl, Nat.le_of_ble_eq_true rfl, Nat.zero_le _, Nat.zero_le _⟩ dX1_regretOf_60 ?_
          refine Y_istore_n C (pc := 63) (lv' := [(3, .int (mn s1.2.1 (mx s1.1 v6))), (5, .int v6), (0, .ref (ρ k0)), (1, .int i1), (2, .int s1.1), (4, .int s1.2.2)]) 3 rfl (by decide) rfl dX1_regretOf_63 ?_
          refine Y_iload_n C (pc := 64) 2 4 rfl rfl dX1_regretOf_64 ?_
          refine Y_iload C (pc := 65) 1 rfl dX1_regretOf_65 ?_
          refine Y_min C (pc := 67) q_ml_RX1_108 ⟨q_st_min, q_in_Math, q_cd_min⟩ ⟨Nat.le_of_ble_eq_true rfl, Nat.le_of_ble_eq_true rfl, Nat.zero_le _, Nat.zero_le _⟩ dX1_regretOf_67 ?_
          refine Y_istore_n C (pc := 70) (lv' := [(2, .int (mn s1.1 v6)), (3, .int (mn s1.2.1 (mx s1.1 v6))), (5, .int v6), (0, .ref (ρ k0)), (1, .int i1), (4, .int s1.2.2)]) 2 rfl (by decide) rfl dX1_regretOf_70 ?_
          exact Y_sub [3, 4, 0, 1, 5] rfl (hJ71 _ _ _ h)
    · refine Y_iload_n C (pc := 77) 3 1 rfl rfl dX1_regretOf_77 ?_
      refine Y_iload_n C (pc := 78) 2 0 rfl rfl dX1_regretOf_78 ?_
      refine Y_isub C (pc := 79) dX1_regretOf_79 ?_
      cases h
      exact Y_iret C dX1_regretOf_80
  · rw [if_pos c10] at h
    refine Y_ldc C q_ct_RX1_107 dX1_regretOf_8 ?_
    cases h
    exact Y_iret C dX1_regretOf_10

set_option maxRecDepth 100000 in
set_option maxHeartbeats 4000000 in
theorem c_X1_mostRegretted {l : Launch} {D : va_G} {cA ρ : Nat → Nat} {σ : Sg} {τ : Tg} {k0 : Nat} (hk0 : kd k0 = (0, 1)) {r : Int32} (h : f_X1_mostRegretted σ k0 = some r) : Ct l yX1_mostRegretted cX1_mostRegretted 5 (some .int) 2 48 D cA ρ A0 [.ref (ρ k0)] σ τ (some (.int r)) σ τ := by
  refine Ct_of (by decide +kernel) (Nat.le_of_ble_eq_true rfl) (fun p e s m args below meth c C => ?_)
  have C : Ctx p l s m args meth c cX1_mostRegretted RX1 5 (some .int) D cA ρ A0 := C
  unfold f_X1_mostRegretted at h
  refine Y_sub [0] (lv' := [(0, .ref (ρ k0))]) rfl ?_
  refine Y_iconst C (pc := 0) (v := (-1 : Int32)) (by decide) dX1_mostRegretted_0 ?_
  refine Y_istore_n C (pc := 1) (lv' := [(1, .int (-1 : Int32)), (0, .ref (ρ k0))]) 1 rfl (by decide) rfl dX1_mostRegretted_1 ?_
  refine Y_iconst C (pc := 2) (v := (-1 : Int32)) (by decide) dX1_mostRegretted_2 ?_
  refine Y_istore_n C (pc := 3) (lv' := [(2, .int (-1 : Int32)), (1, .int (-1 : Int32)), (0, .ref (ρ k0))]) 2 rfl (by decide) rfl dX1_mostRegretted_3 ?_
  refine Y_iconst C (pc := 4) (v := (0 : Int32)) (by decide) dX1_mostRegretted_4 ?_
  refine Y_istore_n C (pc := 5) (lv' := [(3, .int (0 : Int32)), (2, .int (-1 : Int32)), (1, .int (-1 : Int32)), (0, .ref (ρ k0))]) 3 rfl (by decide) rfl dX1_mostRegretted_5 ?_
  obtain ⟨e10, he10, h⟩ := Option.bind_eq_some_iff.mp h
  refine Y_sub [3, 2, 1, 0] (lv' := [(0, .ref (ρ k0)), (1, .int (-1 : Int32)), (2, .int (-1 : Int32)), (3, .int (0 : Int32))]) rfl ?_
  refine lo_rule (f := (f_X1_mostRegretted_L6 σ k0)) (YS := fun s1 => Y p l e (Rm 2 48) s m args below meth c 5 D cA ρ A0 0 0 (MQ below (QC D cA ρ A0 (some (.int r)) σ τ) args s 0 0 A0) σ τ 6 [(0, .ref (ρ k0)), (1, .int s1.1), (2, .int s1.2.1), (3, .int s1.2.2)] []) (YE := fun e10 => Y p l e (Rm 2 48) s m args below meth c 5 D cA ρ A0 0 0 (MQ below (QC D cA ρ A0 (some (.int r)) σ τ) args s 0 0 A0) σ τ 52 [(1, .int e10)] []) ?_ he10 ?_
  · intro s1 x h hLp hE
    unfold f_X1_mostRegretted_L6 at h
    have hJ46 : ∀ (j4 : Int32) (j5 : Int32) (j6 : Int32), f_X1_mostRegretted_J46 j4 j5 j6 = some x → Y p l e (Rm 2 48) s m args below meth c 5 D cA ρ A0 0 0 (MQ below (QC D cA ρ A0 (some (.int r)) σ τ) args s 0 0 A0) σ τ 46 [(0, .ref (ρ k0)), (1, .int j4), (2, .int j5), (3, .int j6)] [] := by
      intro j4 j5 j6 h
      unfold f_X1_mostRegretted_J46 at h
      refine Y_iinc C (pc := 46) (v := (j6 + 1)) (lv' := [(3, .int (j6 + 1)), (0, .ref (ρ k0)), (1, .int j4), (2, .int j5)]) 3 rfl (congrArg (fun z => j6 + z) (by decide : Int32.ofInt (1) = (1))) (by decide) rfl dX1_mostRegretted_46 ?_
      refine Y_goto C (pc := 49) (tgt := 6) dX1_mostRegretted_49 (by decide) ?_
      have h := Option.some.inj h
      exact Y_sub [1, 2, 3, 0] rfl (hLp _ h.symm)
    refine Y_iload_n C (pc := 6) 3 3 rfl rfl dX1_mostRegretted_6 ?_
    refine Y_aload_n C (pc := 7) 0 0 rfl rfl dX1_mostRegretted_7 ?_
    refine Y_getI C (pc := 8) hk0 q_fi_RX1_80 dX1_mostRegretted_8 ?_
    refine Y_icmp_ge C (pc := 11) (tgt := 52) dX1_mostRegretted_11 (by decide) (fun c9 => ?_) (fun c9 => ?_)
    · rw [if_pos c9] at h
      have h := Option.some.inj h
      exact Y_sub [1] rfl (hE _ h.symm)
    · rw [if_neg c9] at h
      refine Y_aload_n C (pc := 14) 0 0 rfl rfl dX1_mostRegretted_14 ?_
      refine Y_aload_n C (pc := 15) 0 0 rfl rfl dX1_mostRegretted_15 ?_
      refine Y_getR C (pc := 16) hk0 q_fi_RX1_15 (by decide) dX1_mostRegretted_16 ?_
      refine Y_iload_n C (pc := 19) 3 3 rfl rfl dX1_mostRegretted_19 ?_
      obtain ⟨v2, hv2, h⟩ := Option.bind_eq_some_iff.mp h
      refine Y_callSN C [.ref (ρ (k0 + 2)), .int s1.2.2] [.ref (ρ k0)] [.int v2, .ref (ρ k0)] (c_X8_item (q_kr_1_6 hk0) hv2) (fun _ h => h.elim) q_cw_yX8_item q_mn_RX1_83 q_st_yX8_item ⟨⟨Nat.le_of_ble_eq_true rfl, Nat.le_of_ble_eq_true rfl⟩, ⟨Nat.zero_le _, Nat.zero_le _⟩, Nat.le_of_ble_eq_true rfl⟩ rfl rfl rfl dX1_mostRegretted_20 ?_
      obtain ⟨v3, hv3, h⟩ := Option.bind_eq_some_iff.mp h
      refine Y_callV C [.int v2] [] [.int v3] hk0 rfl rfl (c_X1_regretOf hk0 hv3) (fun _ h => h.elim) q_cw_yX1_regretOf q_ml_RX1_116 ⟨q_im_yX1_regretOf, q_se_yX1_regretOf⟩ ⟨⟨Nat.le_of_ble_eq_true rfl, Nat.le_of_ble_eq_true rfl⟩, ⟨Nat.zero_le _, Nat.zero_le _⟩, Nat.le_of_ble_eq_true rfl⟩ rfl rfl rfl dX1_mostRegretted_23 ?_
      refine Y_istore C (pc := 26) (lv' := [(4, .int v3), (0, .ref (ρ k0)), (1, .int s1.1), (2, .int s1.2.1), (3, .int s1.2.2)]) (by decide) rfl dX1_mostRegretted_26 ?_
      refine Y_iload C (pc := 28) 0 rfl dX1_mostRegretted_28 ?_
      refine Y_iload_n C (pc := 30) 2 3 rfl rfl dX1_mostRegretted_30 ?_
      refine Y_icmp_le C (pc := 31) (tgt := 46) dX1_mostRegretted_31 (by decide) (fun c8 => ?_) (fun c8 => ?_)
      · rw [if_pos c8] at h
        exact Y_sub [1, 2, 3, 4] rfl (hJ46 _ _ _ h)
      · rw [if_neg c8] at h
        refine Y_iload C (pc := 34) 0 rfl dX1_mostRegretted_34 ?_
        refine Y_istore_n C (pc := 36) (lv' := [(2, .int v3), (4, .int v3), (0, .ref (ρ k0)), (1, .int s1.1), (3, .int s1.2.2)]) 2 rfl (by decide) rfl dX1_mostRegretted_36 ?_
        refine Y_aload_n C (pc := 37) 0 2 rfl rfl dX1_mostRegretted_37 ?_
        refine Y_getR C (pc := 38) hk0 q_fi_RX1_15 (by decide) dX1_mostRegretted_38 ?_
        refine Y_iload_n C (pc := 41) 3 4 rfl rfl dX1_mostRegretted_41 ?_
        obtain ⟨v7, hv7, h⟩ := Option.bind_eq_some_iff.mp h
        refine Y_callSN C [.ref (ρ (k0 + 2)), .int s1.2.2] [] [.int v7] (c_X8_item (q_kr_1_6 hk0) hv7) (fun _ h => h.elim) q_cw_yX8_item q_mn_RX1_83 q_st_yX8_item ⟨⟨Nat.le_of_ble_eq_true rfl, Nat.le_of_ble_eq_true rfl⟩, ⟨Nat.zero_le _, Nat.zero_le _⟩, Nat.le_of_ble_eq_true rfl⟩ rfl rfl rfl dX1_mostRegretted_42 ?_
        refine Y_istore_n C (pc := 45) (lv' := [(1, .int v7), (2, .int v3), (4, .int v3), (0, .ref (ρ k0)), (3, .int s1.2.2)]) 1 rfl (by decide) rfl dX1_mostRegretted_45 ?_
        exact Y_sub [3, 0, 1, 4] rfl (hJ46 _ _ _ h)
  · refine Y_iload_n C (pc := 52) 1 0 rfl rfl dX1_mostRegretted_52 ?_
    cases h
    exact Y_iret C dX1_mostRegretted_53

set_option maxRecDepth 100000 in
set_option maxHeartbeats 4000000 in
theorem c_X1_orderLocations {l : Launch} {D : va_G} {cA ρ : Nat → Nat} {σ : Sg} {τ : Tg} {k0 : Nat} {i1 : Int32} {k2 : Nat} (hI : Inj ρ) (hk0 : kd k0 = (0, 1)) (hk2 : (kd k2).1 = 1) (hn2 : k2 < 97) {r : Int32 × Sg} (h : f_X1_orderLocations σ k0 i1 k2 = some r) : Ct l yX1_orderLocations cX1_orderLocations 7 (some .int) 1 23 D cA ρ (Aw ρ) [.ref (ρ k0), .int i1, .ref (ρ k2)] σ τ (some (.int r.1)) r.2 τ := by
  refine Ct_of (by decide +kernel) (Nat.le_of_ble_eq_true rfl) (fun p e s m args below meth c C => ?_)
  have C : Ctx p l s m args meth c cX1_orderLocations RX1 7 (some .int) D cA ρ (Aw ρ) := C
  have hW : Wr ρ (Aw ρ) := ⟨hI, fun k hk => ⟨k, hk, rfl⟩⟩
  unfold f_X1_orderLocations at h
  refine Y_sub [0, 1, 2] (lv' := [(0, .ref (ρ k0)), (1, .int i1), (2, .ref (ρ k2))]) rfl ?_
  refine Y_iconst C (pc := 0) (v := (0 : Int32)) (by decide) dX1_orderLocations_0 ?_
  refine Y_istore_n C (pc := 1) (lv' := [(3, .int (0 : Int32)), (0, .ref (ρ k0)), (1, .int i1), (2, .ref (ρ k2))]) 3 rfl (by decide) rfl dX1_orderLocations_1 ?_
  refine Y_iconst C (pc := 2) (v := (0 : Int32)) (by decide) dX1_orderLocations_2 ?_
  refine Y_istore C (pc := 3) (lv' := [(4, .int (0 : Int32)), (3, .int (0 : Int32)), (0, .ref (ρ k0)), (1, .int i1), (2, .ref (ρ k2))]) (by decide) rfl dX1_orderLocations_3 ?_
  obtain ⟨e18, he18, h⟩ := Option.bind_eq_some_iff.mp h
  refine Y_sub [2, 3, 4, 1, 0] (lv' := [(0, .ref (ρ k0)), (1, .int i1), (2, .ref (ρ k2)), (3, .int (0 : Int32)), (4, .int (0 : Int32))]) rfl ?_
  refine lo_rule (f := (f_X1_orderLocations_L5 k0 i1 k2)) (YS := fun s1 => Y p l e (Rm 1 23) s m args below meth c 7 D cA ρ (Aw ρ) 0 0 (MQ below (QC D cA ρ (Aw ρ) (some (.int r.1)) r.2 τ) args s 0 0 (Aw ρ)) s1.2.2 τ 5 [(0, .ref (ρ k0)), (1, .int i1), (2, .ref (ρ k2)), (3, .int s1.1), (4, .int s1.2.1)] []) (YE := fun e18 => Y p l e (Rm 1 23) s m args below meth c 7 D cA ρ (Aw ρ) 0 0 (MQ below (QC D cA ρ (Aw ρ) (some (.int r.1)) r.2 τ) args s 0 0 (Aw ρ)) e18.2 τ 107 [(3, .int e18.1)] []) ?_ he18 ?_
  · intro s1 x h hLp hE
    unfold f_X1_orderLocations_L5 at h
    have hJ101 : ∀ (j13 : Int32) (j14 : Int32) (sj15 : Sg), f_X1_orderLocations_J101 j13 j14 sj15 = some x → Y p l e (Rm 1 23) s m args below meth c 7 D cA ρ (Aw ρ) 0 0 (MQ below (QC D cA ρ (Aw ρ) (some (.int r.1)) r.2 τ) args s 0 0 (Aw ρ)) sj15 τ 101 [(0, .ref (ρ k0)), (1, .int i1), (2, .ref (ρ k2)), (3, .int j13), (4, .int j14)] [] := by
      intro j13 j14 sj15 h
      unfold f_X1_orderLocations_J101 at h
      refine Y_iinc C (pc := 101) (v := (j14 + 1)) (lv' := [(4, .int (j14 + 1)), (0, .ref (ρ k0)), (1, .int i1), (2, .ref (ρ k2)), (3, .int j13)]) 4 rfl (congrArg (fun z => j14 + z) (by decide : Int32.ofInt (1) = (1))) (by decide) rfl dX1_orderLocations_101 ?_
      refine Y_goto C (pc := 104) (tgt := 5) dX1_orderLocations_104 (by decide) ?_
      have h := Option.some.inj h
      exact Y_sub [1, 2, 3, 4, 0] rfl (hLp _ h.symm)
    refine Y_iload C (pc := 5) 4 rfl dX1_orderLocations_5 ?_
    refine Y_aload_n C (pc := 7) 0 0 rfl rfl dX1_orderLocations_7 ?_
    refine Y_getI C (pc := 8) hk0 q_fi_RX1_33 dX1_orderLocations_8 ?_
    refine Y_icmp_ge C (pc := 11) (tgt := 107) dX1_orderLocations_11 (by decide) (fun c17 => ?_) (fun c17 => ?_)
    · rw [if_pos c17] at h
      have h := Option.some.inj h
      exact Y_sub [3] rfl (hE _ h.symm)
    · rw [if_neg c17] at h
      refine Y_aload_n C (pc := 14) 0 0 rfl rfl dX1_orderLocations_14 ?_
      refine Y_getI C (pc := 15) hk0 q_fi_RX1_58 dX1_orderLocations_15 ?_
      refine Y_iload C (pc := 18) 4 rfl dX1_orderLocations_18 ?_
      obtain ⟨v2, hv2, h⟩ := Option.bind_eq_some_iff.mp h
      refine Y_callSN C [.int (s1.2.2 k0 4), .int s1.2.1] [] [.int v2] (c_X8_has  hv2) (fun _ h => h.elim) q_cw_yX8_has q_mn_RX1_61 q_st_yX8_has ⟨⟨Nat.le_of_ble_eq_true rfl, Nat.le_of_ble_eq_true rfl⟩, ⟨Nat.zero_le _, Nat.zero_le _⟩, Nat.le_of_ble_eq_true rfl⟩ rfl rfl rfl dX1_orderLocations_20 ?_
      refine Y_if_ne C (pc := 23) (tgt := 29) dX1_orderLocations_23 (by decide) (fun c16 => ?_) (fun c16 => ?_)
      · rw [if_neg c16] at h
        refine Y_aload_n C (pc := 29) 0 0 rfl rfl dX1_orderLocations_29 ?_
        refine Y_getR C (pc := 30) hk0 q_fi_RX1_9 (by decide) dX1_orderLocations_30 ?_
        refine Y_iload_n C (pc := 33) 1 1 rfl rfl dX1_orderLocations_33 ?_
        refine Y_iload C (pc := 34) 4 rfl dX1_orderLocations_34 ?_
        obtain ⟨v3, hv3, h⟩ := Option.bind_eq_some_iff.mp h
        refine Y_callSN C [.ref (ρ (k0 + 1)), .int i1, .int s1.2.1] [] [.int v3] (c_X8_at (q_kr_1_1 hk0) hv3) (fun _ h => h.elim) q_cw_yX8_at q_mn_RX1_91 q_st_yX8_at ⟨⟨Nat.le_of_ble_eq_true rfl, Nat.le_of_ble_eq_true rfl⟩, ⟨Nat.zero_le _, Nat.zero_le _⟩, Nat.le_of_ble_eq_true rfl⟩ rfl rfl rfl dX1_orderLocations_36 ?_
        refine Y_istore C (pc := 39) (lv' := [(5, .int v3), (0, .ref (ρ k0)), (1, .int i1), (2, .ref (ρ k2)), (3, .int s1.1), (4, .int s1.2.1)]) (by decide) rfl dX1_orderLocations_39 ?_
        refine Y_iload_n C (pc := 41) 3 4 rfl rfl dX1_orderLocations_41 ?_
        refine Y_istore C (pc := 42) (lv' := [(6, .int s1.1), (5, .int v3), (0, .ref (ρ k0)), (1, .int i1), (2, .ref (ρ k2)), (3, .int s1.1), (4, .int s1.2.1)]) (by decide) rfl dX1_orderLocations_42 ?_
        obtain ⟨e11, he11, h⟩ := Option.bind_eq_some_iff.mp h
        refine Y_sub [2, 3, 4, 5, 6, 1, 0] (lv' := [(0, .ref (ρ k0)), (1, .int i1), (2, .ref (ρ k2)), (3, .int s1.1), (4, .int s1.2.1), (5, .int v3), (6, .int s1.1)]) rfl ?_
        refine lo_rule (f := (f_X1_orderLocations_L44 k2 k0 i1 v3)) (YS := fun s4 => Y p l e (Rm 1 23) s m args below meth c 7 D cA ρ (Aw ρ) 0 0 (MQ below (QC D cA ρ (Aw ρ) (some (.int r.1)) r.2 τ) args s 0 0 (Aw ρ)) s4.2 τ 44 [(0, .ref (ρ k0)), (1, .int i1), (2, .ref (ρ k2)), (3, .int s1.1), (4, .int s1.2.1), (5, .int v3), (6, .int s4.1)] []) (YE := fun e11 => Y p l e (Rm 1 23) s m args below meth c 7 D cA ρ (Aw ρ) 0 0 (MQ below (QC D cA ρ (Aw ρ) (some (.int r.1)) r.2 τ) args s 0 0 (Aw ρ)) e11.2 τ 90 [(0, .ref (ρ k0)), (1, .int i1), (2, .ref (ρ k2)), (3, .int s1.1), (4, .int s1.2.1), (6, .int e11.1)] []) ?_ he11 ?_
        · intro s4 x h hLp hE
          unfold f_X1_orderLocations_L44 at h
          refine Y_iload C (pc := 44) 6 rfl dX1_orderLocations_44 ?_
          refine Y_if_le C (pc := 46) (tgt := 90) dX1_orderLocations_46 (by decide) (fun c10 => ?_) (fun c10 => ?_)
          · rw [if_pos c10] at h
            have h := Option.some.inj h
            exact Y_sub [0, 1, 2, 3, 4, 6] rfl (hE _ h.symm)
          · rw [if_neg c10] at h
            refine Y_aload_n C (pc := 49) 0 0 rfl rfl dX1_orderLocations_49 ?_
            refine Y_getR C (pc := 50) hk0 q_fi_RX1_9 (by decide) dX1_orderLocations_50 ?_
            refine Y_iload_n C (pc := 53) 1 1 rfl rfl dX1_orderLocations_53 ?_
            refine Y_aload_n C (pc := 54) 2 2 rfl rfl dX1_orderLocations_54 ?_
            refine Y_iload C (pc := 55) 6 rfl dX1_orderLocations_55 ?_
            refine Y_iconst C (pc := 57) (v := (1 : Int32)) (by decide) dX1_orderLocations_57 ?_
            refine Y_isub C (pc := 58) dX1_orderLocations_58 ?_
            obtain ⟨v5, hv5, h⟩ := Option.bind_eq_some_iff.mp h
            refine Y_callSN C [.ref (ρ k2), .int (s4.1 - (1 : Int32))] [.int i1, .ref (ρ (k0 + 1))] [.int v5, .int i1, .ref (ρ (k0 + 1))] (c_X8_item hk2 hv5) (fun _ h => h.elim) q_cw_yX8_item q_mn_RX1_83 q_st_yX8_item ⟨⟨Nat.le_of_ble_eq_true rfl, Nat.le_of_ble_eq_true rfl⟩, ⟨Nat.zero_le _, Nat.zero_le _⟩, Nat.le_of_ble_eq_true rfl⟩ rfl rfl rfl dX1_orderLocations_59 ?_
            obtain ⟨v6, hv6, h⟩ := Option.bind_eq_some_iff.mp h
            refine Y_callSN C [.ref (ρ (k0 + 1)), .int i1, .int v5] [] [.int v6] (c_X8_at (q_kr_1_1 hk0) hv6) (fun _ h => h.elim) q_cw_yX8_at q_mn_RX1_91 q_st_yX8_at ⟨⟨Nat.le_of_ble_eq_true rfl, Nat.le_of_ble_eq_true rfl⟩, ⟨Nat.zero_le _, Nat.zero_le _⟩, Nat.le_of_ble_eq_true rfl⟩ rfl rfl rfl dX1_orderLocations_62 ?_
            refine Y_iload C (pc := 65) 5 rfl dX1_orderLocations_65 ?_
            refine Y_icmp_le C (pc := 67) (tgt := 90) dX1_orderLocations_67 (by decide) (fun c9 => ?_) (fun c9 => ?_)
            · rw [if_pos c9] at h
              have h := Option.some.inj h
              exact Y_sub [0, 1, 2, 3, 4, 6] rfl (hE _ h.symm)
            · rw [if_neg c9] at h
              refine Y_aload_n C (pc := 70) 2 2 rfl rfl dX1_orderLocations_70 ?_
              refine Y_iload C (pc := 71) 6 rfl dX1_orderLocations_71 ?_
              refine Y_aload_n C (pc := 73) 2 2 rfl rfl dX1_orderLocations_73 ?_
              refine Y_iload C (pc := 74) 6 rfl dX1_orderLocations_74 ?_
              refine Y_iconst C (pc := 76) (v := (1 : Int32)) (by decide) dX1_orderLocations_76 ?_
              refine Y_isub C (pc := 77) dX1_orderLocations_77 ?_
              obtain ⟨v7, hv7, h⟩ := Option.bind_eq_some_iff.mp h
              refine Y_callSN C [.ref (ρ k2), .int (s4.1 - (1 : Int32))] [.int s4.1, .ref (ρ k2)] [.int v7, .int s4.1, .ref (ρ k2)] (c_X8_item hk2 hv7) (fun _ h => h.elim) q_cw_yX8_item q_mn_RX1_83 q_st_yX8_item ⟨⟨Nat.le_of_ble_eq_true rfl, Nat.le_of_ble_eq_true rfl⟩, ⟨Nat.zero_le _, Nat.zero_le _⟩, Nat.le_of_ble_eq_true rfl⟩ rfl rfl rfl dX1_orderLocations_78 ?_
              obtain ⟨v8, hv8, h⟩ := Option.bind_eq_some_iff.mp h
              refine Y_callSN C [.ref (ρ k2), .int s4.1, .int v7] [] [] (c_X8_setItem hI hk2 hn2 hv8) (fun _ h => h) q_cw_yX8_setItem q_mn_RX1_87 q_st_yX8_setItem ⟨⟨Nat.le_of_ble_eq_true rfl, Nat.le_of_ble_eq_true rfl⟩, ⟨Nat.zero_le _, Nat.zero_le _⟩, Nat.le_of_ble_eq_true rfl⟩ rfl rfl rfl dX1_orderLocations_81 ?_
              refine Y_iinc C (pc := 84) (v := (s4.1 + (-1))) (lv' := [(6, .int (s4.1 + (-1))), (0, .ref (ρ k0)), (1, .int i1), (2, .ref (ρ k2)), (3, .int s1.1), (4, .int s1.2.1), (5, .int v3)]) 6 rfl (congrArg (fun z => s4.1 + z) (by decide : Int32.ofInt (-1) = (-1))) (by decide) rfl dX1_orderLocations_84 ?_
              refine Y_goto C (pc := 87) (tgt := 44) dX1_orderLocations_87 (by decide) ?_
              have h := Option.some.inj h
              exact Y_sub [1, 2, 3, 4, 5, 6, 0] rfl (hLp _ h.symm)
        · refine Y_aload_n C (pc := 90) 2 2 rfl rfl dX1_orderLocations_90 ?_
          refine Y_iload C (pc := 91) 5 rfl dX1_orderLocations_91 ?_
          refine Y_iload C (pc := 93) 4 rfl dX1_orderLocations_93 ?_
          obtain ⟨v12, hv12, h⟩ := Option.bind_eq_some_iff.mp h
          refine Y_callSN C [.ref (ρ k2), .int e11.1, .int s1.2.1] [] [] (c_X8_setItem hI hk2 hn2 hv12) (fun _ h => h) q_cw_yX8_setItem q_mn_RX1_87 q_st_yX8_setItem ⟨⟨Nat.le_of_ble_eq_true rfl, Nat.le_of_ble_eq_true rfl⟩, ⟨Nat.zero_le _, Nat.zero_le _⟩, Nat.le_of_ble_eq_true rfl⟩ rfl rfl rfl dX1_orderLocations_95 ?_
          refine Y_iinc C (pc := 98) (v := (s1.1 + 1)) (lv' := [(3, .int (s1.1 + 1)), (0, .ref (ρ k0)), (1, .int i1), (2, .ref (ρ k2)), (4, .int s1.2.1), (6, .int e11.1)]) 3 rfl (congrArg (fun z => s1.1 + z) (by decide : Int32.ofInt (1) = (1))) (by decide) rfl dX1_orderLocations_98 ?_
          exact Y_sub [1, 2, 3, 0, 4] rfl (hJ101 _ _ _ h)
      · rw [if_pos c16] at h
        refine Y_goto C (pc := 26) (tgt := 101) dX1_orderLocations_26 (by decide) ?_
        exact Y_sub [0, 1, 2, 3, 4] rfl (hJ101 _ _ _ h)
  · refine Y_iload_n C (pc := 107) 3 0 rfl rfl dX1_orderLocations_107 ?_
    cases h
    exact Y_iret C dX1_orderLocations_108

set_option maxRecDepth 100000 in
set_option maxHeartbeats 4000000 in
theorem c_X2_record {l : Launch} {D : va_G} {cA ρ : Nat → Nat} {σ : Sg} {τ : Tg} {k0 : Nat} {i1 : Int32} (hk0 : kd k0 = (0, 2)) {r : Option Nat} (h : f_X2_record k0 i1 = some r) : Ct l yX2_record cX2_record 2 (some (.object "AssignmentWorkbench$State")) 0 0 D cA ρ A0 [.ref (ρ k0), .int i1] σ τ (some (vq ρ r)) σ τ := by
  refine Ct_of (by decide +kernel) (Nat.le_of_ble_eq_true rfl) (fun p e s m args below meth c C => ?_)
  have C : Ctx p l s m args meth c cX2_record RX2 2 (some (.object "AssignmentWorkbench$State")) D cA ρ A0 := C
  unfold f_X2_record at h
  refine Y_sub [0, 1] (lv' := [(0, .ref (ρ k0)), (1, .int i1)]) rfl ?_
  refine Y_iload_n C (pc := 0) 1 1 rfl rfl dX2_record_0 ?_
  refine Y_if_lt C (pc := 1) (tgt := 22) dX2_record_1 (by decide) (fun c3 => ?_) (fun c3 => ?_)
  · rw [if_pos c3] at h
    refine Y_anull C (pc := 22) dX2_record_22 ?_
    cases h
    exact Y_nret C dX2_record_23
  · rw [if_neg c3] at h
    refine Y_iload_n C (pc := 4) 1 1 rfl rfl dX2_record_4 ?_
    refine Y_aload_n C (pc := 5) 0 0 rfl rfl dX2_record_5 ?_
    refine Y_getR C (pc := 6) hk0 q_fi_RX2_11 (by decide) dX2_record_6 ?_
    refine Y_alen5 C (pc := 9) (q_kr_2_2 hk0) dX2_record_9 ?_
    refine Y_icmp_ge C (pc := 10) (tgt := 22) dX2_record_10 (by decide) (fun c2 => ?_) (fun c2 => ?_)
    · rw [if_pos c2] at h
      refine Y_anull C (pc := 22) dX2_record_22 ?_
      cases h
      exact Y_nret C dX2_record_23
    · rw [if_neg c2] at h
      refine Y_aload_n C (pc := 13) 0 0 rfl rfl dX2_record_13 ?_
      refine Y_getR C (pc := 14) hk0 q_fi_RX2_11 (by decide) dX2_record_14 ?_
      refine Y_iload_n C (pc := 17) 1 1 rfl rfl dX2_record_17 ?_
      obtain ⟨v1, hv1, h⟩ := Option.bind_eq_some_iff.mp h
      refine Y_aald C (pc := 18) (q_kr_2_2 hk0) hv1 dX2_record_18 ?_
      refine Y_goto C (pc := 19) (tgt := 23) dX2_record_19 (by decide) ?_
      cases h
      exact Y_aret C dX2_record_23
theorem rk_X2_record {k0 : Nat} {i1 : Int32} {r : Nat} (hk0 : kd k0 = (0, 2)) (h : f_X2_record k0 i1 = some (some r)) : kd r = (0, 6) := by
  unfold f_X2_record at h
  split at h
  · cases h
  · split at h
    · cases h
    · obtain ⟨v, hv, h⟩ := Option.bind_eq_some_iff.mp h
      cases h
      exact q_rr (q_kr_2_2 hk0) hv

set_option maxRecDepth 100000 in
set_option maxHeartbeats 4000000 in
theorem c_X6_copyFrom {l : Launch} {D : va_G} {cA ρ : Nat → Nat} {σ : Sg} {τ : Tg} {k0 : Nat} {k1 : Nat} (hI : Inj ρ) (hk0 : kd k0 = (0, 6)) (hk1 : kd k1 = (0, 6)) {r : Sg} (h : f_X6_copyFrom σ k0 k1 = some r) : Ct l yX6_copyFrom cX6_copyFrom 2 none 1 32 D cA ρ (Aw ρ) [.ref (ρ k0), .ref (ρ k1)] σ τ none r τ := by
  refine Ct_of (by decide +kernel) (Nat.le_of_ble_eq_true rfl) (fun p e s m args below meth c C => ?_)
  have C : Ctx p l s m args meth c cX6_copyFrom RX6 2 none D cA ρ (Aw ρ) := C
  have hW : Wr ρ (Aw ρ) := ⟨hI, fun k hk => ⟨k, hk, rfl⟩⟩
  unfold f_X6_copyFrom at h
  refine Y_sub [0, 1] (lv' := [(0, .ref (ρ k0)), (1, .ref (ρ k1))]) rfl ?_
  refine Y_aload_n C (pc := 0) 0 0 rfl rfl dX6_copyFrom_0 ?_
  refine Y_aload_n C (pc := 1) 1 1 rfl rfl dX6_copyFrom_1 ?_
  refine Y_getI C (pc := 2) hk1 q_fi_RX6_31 dX6_copyFrom_2 ?_
  refine Y_putI C (pc := 5) hW hk0 (q_lo_6 hk0) q_fp_RX6_31 dX6_copyFrom_5 ?_
  refine Y_aload_n C (pc := 8) 1 1 rfl rfl dX6_copyFrom_8 ?_
  refine Y_getR C (pc := 9) hk1 q_fi_RX6_9 (by decide) dX6_copyFrom_9 ?_
  refine Y_iconst C (pc := 12) (v := (0 : Int32)) (by decide) dX6_copyFrom_12 ?_
  refine Y_aload_n C (pc := 13) 0 0 rfl rfl dX6_copyFrom_13 ?_
  refine Y_getR C (pc := 14) hk0 q_fi_RX6_9 (by decide) dX6_copyFrom_14 ?_
  refine Y_iconst C (pc := 17) (v := (0 : Int32)) (by decide) dX6_copyFrom_17 ?_
  refine Y_bipush C (pc := 18) (v := (36 : Int32)) (by decide) dX6_copyFrom_18 ?_
  obtain ⟨s1, hs1, h⟩ := Option.bind_eq_some_iff.mp h
  refine Y_acp C (pc := 20) hW q_ml_RX6_35 ⟨q_nat_ac, q_st_ac, q_in_System⟩ (q_kr_6_1 hk1) (q_lr_6_1 hk1) (q_kr_6_1 hk0) (q_lr_6_1 hk0) hs1 ⟨Nat.le_of_ble_eq_true rfl, Nat.le_of_ble_eq_true rfl⟩ dX6_copyFrom_20 ?_
  refine Y_aload_n C (pc := 23) 1 1 rfl rfl dX6_copyFrom_23 ?_
  refine Y_getR C (pc := 24) hk1 q_fi_RX6_15 (by decide) dX6_copyFrom_24 ?_
  refine Y_iconst C (pc := 27) (v := (0 : Int32)) (by decide) dX6_copyFrom_27 ?_
  refine Y_aload_n C (pc := 28) 0 0 rfl rfl dX6_copyFrom_28 ?_
  refine Y_getR C (pc := 29) hk0 q_fi_RX6_15 (by decide) dX6_copyFrom_29 ?_
  refine Y_iconst C (pc := 32) (v := (0 : Int32)) (by decide) dX6_copyFrom_32 ?_
  refine Y_bipush C (pc := 33) (v := (36 : Int32)) (by decide) dX6_copyFrom_33 ?_
  obtain ⟨s2, hs2, h⟩ := Option.bind_eq_some_iff.mp h
  refine Y_acp C (pc := 35) hW q_ml_RX6_35 ⟨q_nat_ac, q_st_ac, q_in_System⟩ (q_kr_6_2 hk1) (q_lr_6_2 hk1) (q_kr_6_2 hk0) (q_lr_6_2 hk0) hs2 ⟨Nat.le_of_ble_eq_true rfl, Nat.le_of_ble_eq_true rfl⟩ dX6_copyFrom_35 ?_
  refine Y_aload_n C (pc := 38) 1 1 rfl rfl dX6_copyFrom_38 ?_
  refine Y_getR C (pc := 39) hk1 q_fi_RX6_18 (by decide) dX6_copyFrom_39 ?_
  refine Y_iconst C (pc := 42) (v := (0 : Int32)) (by decide) dX6_copyFrom_42 ?_
  refine Y_aload_n C (pc := 43) 0 0 rfl rfl dX6_copyFrom_43 ?_
  refine Y_getR C (pc := 44) hk0 q_fi_RX6_18 (by decide) dX6_copyFrom_44 ?_
  refine Y_iconst C (pc := 47) (v := (0 : Int32)) (by decide) dX6_copyFrom_47 ?_
  refine Y_bipush C (pc := 48) (v := (36 : Int32)) (by decide) dX6_copyFrom_48 ?_
  obtain ⟨s3, hs3, h⟩ := Option.bind_eq_some_iff.mp h
  refine Y_acp C (pc := 50) hW q_ml_RX6_35 ⟨q_nat_ac, q_st_ac, q_in_System⟩ (q_kr_6_3 hk1) (q_lr_6_3 hk1) (q_kr_6_3 hk0) (q_lr_6_3 hk0) hs3 ⟨Nat.le_of_ble_eq_true rfl, Nat.le_of_ble_eq_true rfl⟩ dX6_copyFrom_50 ?_
  refine Y_aload_n C (pc := 53) 1 1 rfl rfl dX6_copyFrom_53 ?_
  refine Y_getR C (pc := 54) hk1 q_fi_RX6_21 (by decide) dX6_copyFrom_54 ?_
  refine Y_iconst C (pc := 57) (v := (0 : Int32)) (by decide) dX6_copyFrom_57 ?_
  refine Y_aload_n C (pc := 58) 0 0 rfl rfl dX6_copyFrom_58 ?_
  refine Y_getR C (pc := 59) hk0 q_fi_RX6_21 (by decide) dX6_copyFrom_59 ?_
  refine Y_iconst C (pc := 62) (v := (0 : Int32)) (by decide) dX6_copyFrom_62 ?_
  refine Y_bipush C (pc := 63) (v := (6 : Int32)) (by decide) dX6_copyFrom_63 ?_
  obtain ⟨s4, hs4, h⟩ := Option.bind_eq_some_iff.mp h
  refine Y_acp C (pc := 65) hW q_ml_RX6_35 ⟨q_nat_ac, q_st_ac, q_in_System⟩ (q_kr_6_4 hk1) (q_lr_6_4 hk1) (q_kr_6_4 hk0) (q_lr_6_4 hk0) hs4 ⟨Nat.le_of_ble_eq_true rfl, Nat.le_of_ble_eq_true rfl⟩ dX6_copyFrom_65 ?_
  refine Y_aload_n C (pc := 68) 1 1 rfl rfl dX6_copyFrom_68 ?_
  refine Y_getR C (pc := 69) hk1 q_fi_RX6_24 (by decide) dX6_copyFrom_69 ?_
  refine Y_iconst C (pc := 72) (v := (0 : Int32)) (by decide) dX6_copyFrom_72 ?_
  refine Y_aload_n C (pc := 73) 0 0 rfl rfl dX6_copyFrom_73 ?_
  refine Y_getR C (pc := 74) hk0 q_fi_RX6_24 (by decide) dX6_copyFrom_74 ?_
  refine Y_iconst C (pc := 77) (v := (0 : Int32)) (by decide) dX6_copyFrom_77 ?_
  refine Y_bipush C (pc := 78) (v := (6 : Int32)) (by decide) dX6_copyFrom_78 ?_
  obtain ⟨s5, hs5, h⟩ := Option.bind_eq_some_iff.mp h
  refine Y_acp C (pc := 80) hW q_ml_RX6_35 ⟨q_nat_ac, q_st_ac, q_in_System⟩ (q_kr_6_5 hk1) (q_lr_6_5 hk1) (q_kr_6_5 hk0) (q_lr_6_5 hk0) hs5 ⟨Nat.le_of_ble_eq_true rfl, Nat.le_of_ble_eq_true rfl⟩ dX6_copyFrom_80 ?_
  cases h
  exact Y_vret C dX6_copyFrom_83

set_option maxRecDepth 100000 in
set_option maxHeartbeats 4000000 in
theorem c_X2_push {l : Launch} {D : va_G} {cA ρ : Nat → Nat} {σ : Sg} {τ : Tg} {k0 : Nat} {k1 : Nat} (hI : Inj ρ) (hk0 : kd k0 = (0, 2)) (hk1 : kd k1 = (0, 6)) {r : Sg} (h : f_X2_push σ k0 k1 = some r) : Ct l yX2_push cX2_push 3 none 2 53 D cA ρ (Aw ρ) [.ref (ρ k0), .ref (ρ k1)] σ τ none r τ := by
  refine Ct_of (by decide +kernel) (Nat.le_of_ble_eq_true rfl) (fun p e s m args below meth c C => ?_)
  have C : Ctx p l s m args meth c cX2_push RX2 3 none D cA ρ (Aw ρ) := C
  have hW : Wr ρ (Aw ρ) := ⟨hI, fun k hk => ⟨k, hk, rfl⟩⟩
  unfold f_X2_push at h
  refine Y_sub [0, 1] (lv' := [(0, .ref (ρ k0)), (1, .ref (ρ k1))]) rfl ?_
  have hJ40 : ∀ (j4 : Int32) (sj5 : Sg), f_X2_push_J40 k0 j4 sj5 = some r → Y p l e (Rm 2 53) s m args below meth c 3 D cA ρ (Aw ρ) 0 0 (MQ below (QC D cA ρ (Aw ρ) none r τ) args s 0 0 (Aw ρ)) sj5 τ 40 [(0, .ref (ρ k0))] [.int j4, .ref (ρ k0)] := by
    intro j4 sj5 h
    unfold f_X2_push_J40 at h
    refine Y_putI C (pc := 40) hW hk0 (q_lo_2 hk0) q_fp_RX2_18 dX2_push_40 ?_
    refine Y_aload_n C (pc := 43) 0 0 rfl rfl dX2_push_43 ?_
    refine Y_bipush C (pc := 44) (v := (6 : Int32)) (by decide) dX2_push_44 ?_
    refine Y_aload_n C (pc := 46) 0 0 rfl rfl dX2_push_46 ?_
    refine Y_getI C (pc := 47) hk0 q_fi_RX2_30 dX2_push_47 ?_
    refine Y_iconst C (pc := 50) (v := (1 : Int32)) (by decide) dX2_push_50 ?_
    refine Y_iadd C (pc := 51) dX2_push_51 ?_
    refine Y_min C (pc := 52) q_ml_RX2_33 ⟨q_st_min, q_in_Math, q_cd_min⟩ ⟨Nat.le_of_ble_eq_true rfl, Nat.le_of_ble_eq_true rfl, Nat.zero_le _, Nat.zero_le _⟩ dX2_push_52 ?_
    refine Y_putI C (pc := 55) hW hk0 (q_lo_2 hk0) q_fp_RX2_30 dX2_push_55 ?_
    cases h
    exact Y_vret C dX2_push_58
  have hJ18 : ∀ (sj3 : Sg), f_X2_push_J18 k0 sj3 = some r → Y p l e (Rm 2 53) s m args below meth c 3 D cA ρ (Aw ρ) 0 0 (MQ below (QC D cA ρ (Aw ρ) none r τ) args s 0 0 (Aw ρ)) sj3 τ 18 [(0, .ref (ρ k0))] [] := by
    intro sj3 h
    unfold f_X2_push_J18 at h
    refine Y_aload_n C (pc := 18) 0 0 rfl rfl dX2_push_18 ?_
    refine Y_aload_n C (pc := 19) 0 0 rfl rfl dX2_push_19 ?_
    refine Y_getI C (pc := 20) hk0 q_fi_RX2_18 dX2_push_20 ?_
    refine Y_iconst C (pc := 23) (v := (1 : Int32)) (by decide) dX2_push_23 ?_
    refine Y_iadd C (pc := 24) dX2_push_24 ?_
    refine Y_bipush C (pc := 25) (v := (6 : Int32)) (by decide) dX2_push_25 ?_
    refine Y_icmp_ge C (pc := 27) (tgt := 39) dX2_push_27 (by decide) (fun c6 => ?_) (fun c6 => ?_)
    · rw [if_pos c6] at h
      refine Y_iconst C (pc := 39) (v := (0 : Int32)) (by decide) dX2_push_39 ?_
      exact Y_sub [0] rfl (hJ40 _ _ h)
    · rw [if_neg c6] at h
      refine Y_aload_n C (pc := 30) 0 0 rfl rfl dX2_push_30 ?_
      refine Y_getI C (pc := 31) hk0 q_fi_RX2_18 dX2_push_31 ?_
      refine Y_iconst C (pc := 34) (v := (1 : Int32)) (by decide) dX2_push_34 ?_
      refine Y_iadd C (pc := 35) dX2_push_35 ?_
      refine Y_goto C (pc := 36) (tgt := 40) dX2_push_36 (by decide) ?_
      exact Y_sub [0] rfl (hJ40 _ _ h)
  refine Y_aload_n C (pc := 0) 0 0 rfl rfl dX2_push_0 ?_
  refine Y_aload_n C (pc := 1) 0 0 rfl rfl dX2_push_1 ?_
  refine Y_getI C (pc := 2) hk0 q_fi_RX2_18 dX2_push_2 ?_
  obtain ⟨v1, hv1, h⟩ := Option.bind_eq_some_iff.mp h
  obtain _ | k2 := v1
  · simp only [Option.elim_none] at h
    refine Y_callV C [.int (σ k0 1)] [] [.null] hk0 rfl rfl (c_X2_record hk0 hv1) (fun _ h => h.elim) q_cw_yX2_record q_ml_RX2_22 ⟨q_im_yX2_record, q_se_yX2_record⟩ ⟨⟨Nat.le_of_ble_eq_true rfl, Nat.le_of_ble_eq_true rfl⟩, ⟨Nat.zero_le _, Nat.zero_le _⟩, Nat.le_of_ble_eq_true rfl⟩ rfl rfl rfl dX2_push_5 ?_
    refine Y_astore_nN C (pc := 8) (lv' := [(2, .null), (0, .ref (ρ k0)), (1, .ref (ρ k1))]) 2 rfl (by decide) rfl dX2_push_8 ?_
    refine Y_aload_nN C (pc := 9) 2 0 rfl rfl dX2_push_9 ?_
    refine Y_ifnullN C (pc := 10) (tgt := 18) dX2_push_10 (by decide) ?_
    exact Y_sub [1] rfl (hJ18 _ h)
  · simp only [Option.elim_some] at h
    refine Y_callV C [.int (σ k0 1)] [] [.ref (ρ k2)] hk0 rfl rfl (c_X2_record hk0 hv1) (fun _ h => h.elim) q_cw_yX2_record q_ml_RX2_22 ⟨q_im_yX2_record, q_se_yX2_record⟩ ⟨⟨Nat.le_of_ble_eq_true rfl, Nat.le_of_ble_eq_true rfl⟩, ⟨Nat.zero_le _, Nat.zero_le _⟩, Nat.le_of_ble_eq_true rfl⟩ rfl rfl rfl dX2_push_5 ?_
    refine Y_astore_n C (pc := 8) (lv' := [(2, .ref (ρ k2)), (0, .ref (ρ k0)), (1, .ref (ρ k1))]) 2 rfl (by decide) rfl dX2_push_8 ?_
    refine Y_aload_n C (pc := 9) 2 0 rfl rfl dX2_push_9 ?_
    refine Y_ifnull C (pc := 10) dX2_push_10 ?_
    refine Y_aload_n C (pc := 13) 2 0 rfl rfl dX2_push_13 ?_
    refine Y_aload_n C (pc := 14) 1 2 rfl rfl dX2_push_14 ?_
    obtain ⟨v7, hv7, h⟩ := Option.bind_eq_some_iff.mp h
    refine Y_callV C [.ref (ρ k1)] [] [] (rk_X2_record hk0 hv1) rfl rfl (c_X6_copyFrom hI (rk_X2_record hk0 hv1) hk1 hv7) (fun _ h => h) q_cw_yX6_copyFrom q_ml_RX2_26 ⟨q_im_yX6_copyFrom, q_se_yX6_copyFrom⟩ ⟨⟨Nat.le_of_ble_eq_true rfl, Nat.le_of_ble_eq_true rfl⟩, ⟨Nat.zero_le _, Nat.zero_le _⟩, Nat.le_of_ble_eq_true rfl⟩ rfl rfl rfl dX2_push_15 ?_
    exact Y_sub [1] rfl (hJ18 _ h)

set_option maxRecDepth 100000 in
set_option maxHeartbeats 4000000 in
theorem c_X2_popInto {l : Launch} {D : va_G} {cA ρ : Nat → Nat} {σ : Sg} {τ : Tg} {k0 : Nat} {k1 : Nat} (hI : Inj ρ) (hk0 : kd k0 = (0, 2)) (hk1 : kd k1 = (0, 6)) {r : Sg} (h : f_X2_popInto σ k0 k1 = some r) : Ct l yX2_popInto cX2_popInto 3 none 2 53 D cA ρ (Aw ρ) [.ref (ρ k0), .ref (ρ k1)] σ τ none r τ := by
  refine Ct_of (by decide +kernel) (Nat.le_of_ble_eq_true rfl) (fun p e s m args below meth c C => ?_)
  have C : Ctx p l s m args meth c cX2_popInto RX2 3 none D cA ρ (Aw ρ) := C
  have hW : Wr ρ (Aw ρ) := ⟨hI, fun k hk => ⟨k, hk, rfl⟩⟩
  unfold f_X2_popInto at h
  refine Y_sub [0, 1] (lv' := [(0, .ref (ρ k0)), (1, .ref (ρ k1))]) rfl ?_
  have hJ39 : ∀ (sj5 : Sg), f_X2_popInto_J39 k0 sj5 = some r → Y p l e (Rm 2 53) s m args below meth c 3 D cA ρ (Aw ρ) 0 0 (MQ below (QC D cA ρ (Aw ρ) none r τ) args s 0 0 (Aw ρ)) sj5 τ 39 [(0, .ref (ρ k0))] [] := by
    intro sj5 h
    unfold f_X2_popInto_J39 at h
    refine Y_aload_n C (pc := 39) 0 0 rfl rfl dX2_popInto_39 ?_
    refine Y_iconst C (pc := 40) (v := (0 : Int32)) (by decide) dX2_popInto_40 ?_
    refine Y_aload_n C (pc := 41) 0 0 rfl rfl dX2_popInto_41 ?_
    refine Y_getI C (pc := 42) hk0 q_fi_RX2_30 dX2_popInto_42 ?_
    refine Y_iconst C (pc := 45) (v := (1 : Int32)) (by decide) dX2_popInto_45 ?_
    refine Y_isub C (pc := 46) dX2_popInto_46 ?_
    refine Y_max C (pc := 47) q_ml_RX2_39 ⟨q_st_max, q_in_Math, q_cd_max⟩ ⟨Nat.le_of_ble_eq_true rfl, Nat.le_of_ble_eq_true rfl, Nat.zero_le _, Nat.zero_le _⟩ dX2_popInto_47 ?_
    refine Y_putI C (pc := 50) hW hk0 (q_lo_2 hk0) q_fp_RX2_30 dX2_popInto_50 ?_
    cases h
    exact Y_vret C dX2_popInto_53
  have hJ18 : ∀ (j1 : Int32) (sj2 : Sg), f_X2_popInto_J18 k0 k1 j1 sj2 = some r → Y p l e (Rm 2 53) s m args below meth c 3 D cA ρ (Aw ρ) 0 0 (MQ below (QC D cA ρ (Aw ρ) none r τ) args s 0 0 (Aw ρ)) sj2 τ 18 [(0, .ref (ρ k0)), (1, .ref (ρ k1))] [.int j1, .ref (ρ k0)] := by
    intro j1 sj2 h
    unfold f_X2_popInto_J18 at h
    refine Y_putI C (pc := 18) hW hk0 (q_lo_2 hk0) q_fp_RX2_18 dX2_popInto_18 ?_
    refine Y_aload_n C (pc := 21) 0 0 rfl rfl dX2_popInto_21 ?_
    refine Y_aload_n C (pc := 22) 0 0 rfl rfl dX2_popInto_22 ?_
    refine Y_getI C (pc := 23) hk0 q_fi_RX2_18 dX2_popInto_23 ?_
    obtain ⟨v3, hv3, h⟩ := Option.bind_eq_some_iff.mp h
    obtain _ | k4 := v3
    · simp only [Option.elim_none] at h
      refine Y_callV C [.int (((si sj2 k0 1 j1)) k0 1)] [] [.null] hk0 rfl rfl (c_X2_record hk0 hv3) (fun _ h => h.elim) q_cw_yX2_record q_ml_RX2_22 ⟨q_im_yX2_record, q_se_yX2_record⟩ ⟨⟨Nat.le_of_ble_eq_true rfl, Nat.le_of_ble_eq_true rfl⟩, ⟨Nat.zero_le _, Nat.zero_le _⟩, Nat.le_of_ble_eq_true rfl⟩ rfl rfl rfl dX2_popInto_26 ?_
      refine Y_astore_nN C (pc := 29) (lv' := [(2, .null), (0, .ref (ρ k0)), (1, .ref (ρ k1))]) 2 rfl (by decide) rfl dX2_popInto_29 ?_
      refine Y_aload_nN C (pc := 30) 2 0 rfl rfl dX2_popInto_30 ?_
      refine Y_ifnullN C (pc := 31) (tgt := 39) dX2_popInto_31 (by decide) ?_
      exact Y_sub [1] rfl (hJ39 _ h)
    · simp only [Option.elim_some] at h
      refine Y_callV C [.int (((si sj2 k0 1 j1)) k0 1)] [] [.ref (ρ k4)] hk0 rfl rfl (c_X2_record hk0 hv3) (fun _ h => h.elim) q_cw_yX2_record q_ml_RX2_22 ⟨q_im_yX2_record, q_se_yX2_record⟩ ⟨⟨Nat.le_of_ble_eq_true rfl, Nat.le_of_ble_eq_true rfl⟩, ⟨Nat.zero_le _, Nat.zero_le _⟩, Nat.le_of_ble_eq_true rfl⟩ rfl rfl rfl dX2_popInto_26 ?_
      refine Y_astore_n C (pc := 29) (lv' := [(2, .ref (ρ k4)), (0, .ref (ρ k0)), (1, .ref (ρ k1))]) 2 rfl (by decide) rfl dX2_popInto_29 ?_
      refine Y_aload_n C (pc := 30) 2 0 rfl rfl dX2_popInto_30 ?_
      refine Y_ifnull C (pc := 31) dX2_popInto_31 ?_
      refine Y_aload_n C (pc := 34) 1 2 rfl rfl dX2_popInto_34 ?_
      refine Y_aload_n C (pc := 35) 2 0 rfl rfl dX2_popInto_35 ?_
      obtain ⟨v6, hv6, h⟩ := Option.bind_eq_some_iff.mp h
      refine Y_callV C [.ref (ρ k4)] [] [] hk1 rfl rfl (c_X6_copyFrom hI hk1 (rk_X2_record hk0 hv3) hv6) (fun _ h => h) q_cw_yX6_copyFrom q_ml_RX2_26 ⟨q_im_yX6_copyFrom, q_se_yX6_copyFrom⟩ ⟨⟨Nat.le_of_ble_eq_true rfl, Nat.le_of_ble_eq_true rfl⟩, ⟨Nat.zero_le _, Nat.zero_le _⟩, Nat.le_of_ble_eq_true rfl⟩ rfl rfl rfl dX2_popInto_36 ?_
      exact Y_sub [1] rfl (hJ39 _ h)
  refine Y_aload_n C (pc := 0) 0 0 rfl rfl dX2_popInto_0 ?_
  refine Y_aload_n C (pc := 1) 0 0 rfl rfl dX2_popInto_1 ?_
  refine Y_getI C (pc := 2) hk0 q_fi_RX2_18 dX2_popInto_2 ?_
  refine Y_if_le C (pc := 5) (tgt := 17) dX2_popInto_5 (by decide) (fun c7 => ?_) (fun c7 => ?_)
  · rw [if_pos c7] at h
    refine Y_iconst C (pc := 17) (v := (5 : Int32)) (by decide) dX2_popInto_17 ?_
    exact Y_sub [0, 1] rfl (hJ18 _ _ h)
  · rw [if_neg c7] at h
    refine Y_aload_n C (pc := 8) 0 0 rfl rfl dX2_popInto_8 ?_
    refine Y_getI C (pc := 9) hk0 q_fi_RX2_18 dX2_popInto_9 ?_
    refine Y_iconst C (pc := 12) (v := (1 : Int32)) (by decide) dX2_popInto_12 ?_
    refine Y_isub C (pc := 13) dX2_popInto_13 ?_
    refine Y_goto C (pc := 14) (tgt := 18) dX2_popInto_14 (by decide) ?_
    exact Y_sub [0, 1] rfl (hJ18 _ _ h)

set_option maxRecDepth 100000 in
set_option maxHeartbeats 4000000 in
theorem c_X3_clear {l : Launch} {D : va_G} {cA ρ : Nat → Nat} {σ : Sg} {τ : Tg} {k0 : Nat} (hI : Inj ρ) (hk0 : kd k0 = (0, 3)) {r : Sg} (h : f_X3_clear σ k0 = some r) : Ct l yX3_clear cX3_clear 1 none 0 0 D cA ρ (Aw ρ) [.ref (ρ k0)] σ τ none r τ := by
  refine Ct_of (by decide +kernel) (Nat.le_of_ble_eq_true rfl) (fun p e s m args below meth c C => ?_)
  have C : Ctx p l s m args meth c cX3_clear RX3 1 none D cA ρ (Aw ρ) := C
  have hW : Wr ρ (Aw ρ) := ⟨hI, fun k hk => ⟨k, hk, rfl⟩⟩
  unfold f_X3_clear at h
  refine Y_sub [0] (lv' := [(0, .ref (ρ k0))]) rfl ?_
  refine Y_aload_n C (pc := 0) 0 0 rfl rfl dX3_clear_0 ?_
  refine Y_iconst C (pc := 1) (v := (0 : Int32)) (by decide) dX3_clear_1 ?_
  refine Y_putI C (pc := 2) hW hk0 (q_lo_3 hk0) q_fp_RX3_15 dX3_clear_2 ?_
  refine Y_aload_n C (pc := 5) 0 0 rfl rfl dX3_clear_5 ?_
  refine Y_iconst C (pc := 6) (v := (0 : Int32)) (by decide) dX3_clear_6 ?_
  refine Y_putI C (pc := 7) hW hk0 (q_lo_3 hk0) q_fp_RX3_19 dX3_clear_7 ?_
  cases h
  exact Y_vret C dX3_clear_10

set_option maxRecDepth 100000 in
set_option maxHeartbeats 4000000 in
theorem c_X3_node {l : Launch} {D : va_G} {cA ρ : Nat → Nat} {σ : Sg} {τ : Tg} {k0 : Nat} {i1 : Int32} (hk0 : kd k0 = (0, 3)) {r : Int64} (h : f_X3_node τ k0 i1 = some r) : Ct l yX3_node cX3_node 2 (some .long) 0 0 D cA ρ A0 [.ref (ρ k0), .int i1] σ τ (some (.long r)) σ τ := by
  refine Ct_of (by decide +kernel) (Nat.le_of_ble_eq_true rfl) (fun p e s m args below meth c C => ?_)
  have C : Ctx p l s m args meth c cX3_node RX3 2 (some .long) D cA ρ A0 := C
  unfold f_X3_node at h
  refine Y_sub [0, 1] (lv' := [(0, .ref (ρ k0)), (1, .int i1)]) rfl ?_
  refine Y_iload_n C (pc := 0) 1 1 rfl rfl dX3_node_0 ?_
  refine Y_if_lt C (pc := 1) (tgt := 22) dX3_node_1 (by decide) (fun c3 => ?_) (fun c3 => ?_)
  · rw [if_pos c3] at h
    refine Y_lconst C (pc := 22) (v := (0 : Int64)) (by decide) dX3_node_22 ?_
    cases h
    exact Y_lret C dX3_node_23
  · rw [if_neg c3] at h
    refine Y_iload_n C (pc := 4) 1 1 rfl rfl dX3_node_4 ?_
    refine Y_aload_n C (pc := 5) 0 0 rfl rfl dX3_node_5 ?_
    refine Y_getR C (pc := 6) hk0 q_fi_RX3_9 (by decide) dX3_node_6 ?_
    refine Y_alen2 C (pc := 9) (q_kr_3_2 hk0) dX3_node_9 ?_
    refine Y_icmp_ge C (pc := 10) (tgt := 22) dX3_node_10 (by decide) (fun c2 => ?_) (fun c2 => ?_)
    · rw [if_pos c2] at h
      refine Y_lconst C (pc := 22) (v := (0 : Int64)) (by decide) dX3_node_22 ?_
      cases h
      exact Y_lret C dX3_node_23
    · rw [if_neg c2] at h
      refine Y_aload_n C (pc := 13) 0 0 rfl rfl dX3_node_13 ?_
      refine Y_getR C (pc := 14) hk0 q_fi_RX3_9 (by decide) dX3_node_14 ?_
      refine Y_iload_n C (pc := 17) 1 1 rfl rfl dX3_node_17 ?_
      obtain ⟨v1, hv1, h⟩ := Option.bind_eq_some_iff.mp h
      refine Y_lald C (pc := 18) (q_kr_3_2 hk0) hv1 dX3_node_18 ?_
      refine Y_goto C (pc := 19) (tgt := 23) dX3_node_19 (by decide) ?_
      cases h
      exact Y_lret C dX3_node_23

set_option maxRecDepth 100000 in
set_option maxHeartbeats 4000000 in
theorem c_X3_setNode {l : Launch} {D : va_G} {cA ρ : Nat → Nat} {σ : Sg} {τ : Tg} {k0 : Nat} {i1 : Int32} {l2 : Int64} (hI : Inj ρ) (hk0 : kd k0 = (0, 3)) {r : Tg} (h : f_X3_setNode τ k0 i1 l2 = some r) : Ct l yX3_setNode cX3_setNode 4 none 0 0 D cA ρ (Aw ρ) [.ref (ρ k0), .int i1, .long l2] σ τ none σ r := by
  refine Ct_of (by decide +kernel) (Nat.le_of_ble_eq_true rfl) (fun p e s m args below meth c C => ?_)
  have C : Ctx p l s m args meth c cX3_setNode RX3 4 none D cA ρ (Aw ρ) := C
  have hW : Wr ρ (Aw ρ) := ⟨hI, fun k hk => ⟨k, hk, rfl⟩⟩
  unfold f_X3_setNode at h
  refine Y_sub [0, 1, 2] (lv' := [(0, .ref (ρ k0)), (1, .int i1), (2, .long l2)]) rfl ?_
  refine Y_iload_n C (pc := 0) 1 1 rfl rfl dX3_setNode_0 ?_
  refine Y_if_lt C (pc := 1) (tgt := 20) dX3_setNode_1 (by decide) (fun c3 => ?_) (fun c3 => ?_)
  · rw [if_pos c3] at h
    cases h
    exact Y_vret C dX3_setNode_20
  · rw [if_neg c3] at h
    refine Y_iload_n C (pc := 4) 1 1 rfl rfl dX3_setNode_4 ?_
    refine Y_aload_n C (pc := 5) 0 0 rfl rfl dX3_setNode_5 ?_
    refine Y_getR C (pc := 6) hk0 q_fi_RX3_9 (by decide) dX3_setNode_6 ?_
    refine Y_alen2 C (pc := 9) (q_kr_3_2 hk0) dX3_setNode_9 ?_
    refine Y_icmp_ge C (pc := 10) (tgt := 20) dX3_setNode_10 (by decide) (fun c2 => ?_) (fun c2 => ?_)
    · rw [if_pos c2] at h
      cases h
      exact Y_vret C dX3_setNode_20
    · rw [if_neg c2] at h
      refine Y_aload_n C (pc := 13) 0 0 rfl rfl dX3_setNode_13 ?_
      refine Y_getR C (pc := 14) hk0 q_fi_RX3_9 (by decide) dX3_setNode_14 ?_
      refine Y_iload_n C (pc := 17) 1 1 rfl rfl dX3_setNode_17 ?_
      refine Y_lload_n C (pc := 18) 2 2 rfl rfl dX3_setNode_18 ?_
      obtain ⟨t1, ht1, h⟩ := Option.bind_eq_some_iff.mp h
      refine Y_last C (pc := 19) hW (q_kr_3_2 hk0) (q_lr_3_2 hk0) ht1 dX3_setNode_19 ?_
      cases h
      exact Y_vret C dX3_setNode_20

set_option maxRecDepth 100000 in
set_option maxHeartbeats 4000000 in
theorem c_X3_addLast {l : Launch} {D : va_G} {cA ρ : Nat → Nat} {σ : Sg} {τ : Tg} {k0 : Nat} {l1 : Int64} (hI : Inj ρ) (hk0 : kd k0 = (0, 3)) {r : Sg × Tg} (h : f_X3_addLast σ τ k0 l1 = some r) : Ct l yX3_addLast cX3_addLast 3 none 1 23 D cA ρ (Aw ρ) [.ref (ρ k0), .long l1] σ τ none r.1 r.2 := by
  refine Ct_of (by decide +kernel) (Nat.le_of_ble_eq_true rfl) (fun p e s m args below meth c C => ?_)
  have C : Ctx p l s m args meth c cX3_addLast RX3 3 none D cA ρ (Aw ρ) := C
  have hW : Wr ρ (Aw ρ) := ⟨hI, fun k hk => ⟨k, hk, rfl⟩⟩
  unfold f_X3_addLast at h
  refine Y_sub [0, 1] (lv' := [(0, .ref (ρ k0)), (1, .long l1)]) rfl ?_
  refine Y_aload_n C (pc := 0) 0 0 rfl rfl dX3_addLast_0 ?_
  refine Y_aload_n C (pc := 1) 0 0 rfl rfl dX3_addLast_1 ?_
  refine Y_getI C (pc := 2) hk0 q_fi_RX3_15 dX3_addLast_2 ?_
  refine Y_lload_n C (pc := 5) 1 1 rfl rfl dX3_addLast_5 ?_
  obtain ⟨v1, hv1, h⟩ := Option.bind_eq_some_iff.mp h
  refine Y_callV C [.int (σ k0 0), .long l1] [] [] hk0 rfl rfl (c_X3_setNode hI hk0 hv1) (fun _ h => h) q_cw_yX3_setNode q_ml_RX3_22 ⟨q_im_yX3_setNode, q_se_yX3_setNode⟩ ⟨⟨Nat.le_of_ble_eq_true rfl, Nat.le_of_ble_eq_true rfl⟩, ⟨Nat.zero_le _, Nat.zero_le _⟩, Nat.le_of_ble_eq_true rfl⟩ rfl rfl rfl dX3_addLast_6 ?_
  refine Y_aload_n C (pc := 9) 0 0 rfl rfl dX3_addLast_9 ?_
  refine Y_dup C (pc := 10) rfl dX3_addLast_10 ?_
  refine Y_getI C (pc := 11) hk0 q_fi_RX3_15 dX3_addLast_11 ?_
  refine Y_iconst C (pc := 14) (v := (1 : Int32)) (by decide) dX3_addLast_14 ?_
  refine Y_iadd C (pc := 15) dX3_addLast_15 ?_
  refine Y_putI C (pc := 16) hW hk0 (q_lo_3 hk0) q_fp_RX3_15 dX3_addLast_16 ?_
  cases h
  exact Y_vret C dX3_addLast_19

set_option maxRecDepth 100000 in
set_option maxHeartbeats 4000000 in
theorem c_X3_takeLast {l : Launch} {D : va_G} {cA ρ : Nat → Nat} {σ : Sg} {τ : Tg} {k0 : Nat} (hI : Inj ρ) (hk0 : kd k0 = (0, 3)) {r : Int64 × Sg} (h : f_X3_takeLast σ τ k0 = some r) : Ct l yX3_takeLast cX3_takeLast 1 (some .long) 1 21 D cA ρ (Aw ρ) [.ref (ρ k0)] σ τ (some (.long r.1)) r.2 τ := by
  refine Ct_of (by decide +kernel) (Nat.le_of_ble_eq_true rfl) (fun p e s m args below meth c C => ?_)
  have C : Ctx p l s m args meth c cX3_takeLast RX3 1 (some .long) D cA ρ (Aw ρ) := C
  have hW : Wr ρ (Aw ρ) := ⟨hI, fun k hk => ⟨k, hk, rfl⟩⟩
  unfold f_X3_takeLast at h
  refine Y_sub [0] (lv' := [(0, .ref (ρ k0))]) rfl ?_
  refine Y_aload_n C (pc := 0) 0 0 rfl rfl dX3_takeLast_0 ?_
  refine Y_iconst C (pc := 1) (v := (0 : Int32)) (by decide) dX3_takeLast_1 ?_
  refine Y_aload_n C (pc := 2) 0 0 rfl rfl dX3_takeLast_2 ?_
  refine Y_getI C (pc := 3) hk0 q_fi_RX3_15 dX3_takeLast_3 ?_
  refine Y_iconst C (pc := 6) (v := (1 : Int32)) (by decide) dX3_takeLast_6 ?_
  refine Y_isub C (pc := 7) dX3_takeLast_7 ?_
  refine Y_max C (pc := 8) q_ml_RX3_26 ⟨q_st_max, q_in_Math, q_cd_max⟩ ⟨Nat.le_of_ble_eq_true rfl, Nat.le_of_ble_eq_true rfl, Nat.zero_le _, Nat.zero_le _⟩ dX3_takeLast_8 ?_
  refine Y_putI C (pc := 11) hW hk0 (q_lo_3 hk0) q_fp_RX3_15 dX3_takeLast_11 ?_
  refine Y_aload_n C (pc := 14) 0 0 rfl rfl dX3_takeLast_14 ?_
  refine Y_aload_n C (pc := 15) 0 0 rfl rfl dX3_takeLast_15 ?_
  refine Y_getI C (pc := 16) hk0 q_fi_RX3_15 dX3_takeLast_16 ?_
  obtain ⟨v1, hv1, h⟩ := Option.bind_eq_some_iff.mp h
  refine Y_callV C [.int (((si σ k0 0 (mx (0 : Int32) ((σ k0 0) - (1 : Int32))))) k0 0)] [] [.long v1] hk0 rfl rfl (c_X3_node hk0 hv1) (fun _ h => h.elim) q_cw_yX3_node q_ml_RX3_32 ⟨q_im_yX3_node, q_se_yX3_node⟩ ⟨⟨Nat.le_of_ble_eq_true rfl, Nat.le_of_ble_eq_true rfl⟩, ⟨Nat.zero_le _, Nat.zero_le _⟩, Nat.le_of_ble_eq_true rfl⟩ rfl rfl rfl dX3_takeLast_19 ?_
  cases h
  exact Y_lret C dX3_takeLast_22

set_option maxRecDepth 100000 in
set_option maxHeartbeats 4000000 in
theorem c_X3_addOrdered {l : Launch} {D : va_G} {cA ρ : Nat → Nat} {σ : Sg} {τ : Tg} {k0 : Nat} {l1 : Int64} (hI : Inj ρ) (hk0 : kd k0 = (0, 3)) {r : Sg × Tg} (h : f_X3_addOrdered σ τ k0 l1 = some r) : Ct l yX3_addOrdered cX3_addOrdered 4 none 1 23 D cA ρ (Aw ρ) [.ref (ρ k0), .long l1] σ τ none r.1 r.2 := by
  refine Ct_of (by decide +kernel) (Nat.le_of_ble_eq_true rfl) (fun p e s m args below meth c C => ?_)
  have C : Ctx p l s m args meth c cX3_addOrdered RX3 4 none D cA ρ (Aw ρ) := C
  have hW : Wr ρ (Aw ρ) := ⟨hI, fun k hk => ⟨k, hk, rfl⟩⟩
  unfold f_X3_addOrdered at h
  refine Y_sub [0, 1] (lv' := [(0, .ref (ρ k0)), (1, .long l1)]) rfl ?_
  refine Y_aload_n C (pc := 0) 0 0 rfl rfl dX3_addOrdered_0 ?_
  refine Y_getI C (pc := 1) hk0 q_fi_RX3_15 dX3_addOrdered_1 ?_
  refine Y_istore_n C (pc := 4) (lv' := [(3, .int (σ k0 0)), (0, .ref (ρ k0)), (1, .long l1)]) 3 rfl (by decide) rfl dX3_addOrdered_4 ?_
  obtain ⟨e10, he10, h⟩ := Option.bind_eq_some_iff.mp h
  refine Y_sub [1, 2, 0] (lv' := [(0, .ref (ρ k0)), (1, .long l1), (3, .int (σ k0 0))]) rfl ?_
  refine lo_rule (f := (f_X3_addOrdered_L5 k0 l1)) (YS := fun s1 => Y p l e (Rm 1 23) s m args below meth c 4 D cA ρ (Aw ρ) 0 0 (MQ below (QC D cA ρ (Aw ρ) none r.1 r.2) args s 0 0 (Aw ρ)) σ s1.2 5 [(0, .ref (ρ k0)), (1, .long l1), (3, .int s1.1)] []) (YE := fun e10 => Y p l e (Rm 1 23) s m args below meth c 4 D cA ρ (Aw ρ) 0 0 (MQ below (QC D cA ρ (Aw ρ) none r.1 r.2) args s 0 0 (Aw ρ)) σ e10.2 46 [(0, .ref (ρ k0)), (1, .long l1), (3, .int e10.1)] []) ?_ he10 ?_
  · intro s1 x h hLp hE
    unfold f_X3_addOrdered_L5 at h
    refine Y_iload_n C (pc := 5) 3 2 rfl rfl dX3_addOrdered_5 ?_
    refine Y_if_le C (pc := 6) (tgt := 46) dX3_addOrdered_6 (by decide) (fun c9 => ?_) (fun c9 => ?_)
    · rw [if_pos c9] at h
      have h := Option.some.inj h
      exact Y_sub [0, 1, 2] rfl (hE _ h.symm)
    · rw [if_neg c9] at h
      refine Y_aload_n C (pc := 9) 0 0 rfl rfl dX3_addOrdered_9 ?_
      refine Y_iload_n C (pc := 10) 3 2 rfl rfl dX3_addOrdered_10 ?_
      refine Y_iconst C (pc := 11) (v := (1 : Int32)) (by decide) dX3_addOrdered_11 ?_
      refine Y_isub C (pc := 12) dX3_addOrdered_12 ?_
      refine Y_iconst C (pc := 13) (v := (2 : Int32)) (by decide) dX3_addOrdered_13 ?_
      obtain ⟨v2, hv2, h⟩ := Option.bind_eq_some_iff.mp h
      refine Y_idiv C (pc := 14) hv2 dX3_addOrdered_14 ?_
      obtain ⟨v3, hv3, h⟩ := Option.bind_eq_some_iff.mp h
      refine Y_callV C [.int v2] [] [.long v3] hk0 rfl rfl (c_X3_node hk0 hv3) (fun _ h => h.elim) q_cw_yX3_node q_ml_RX3_32 ⟨q_im_yX3_node, q_se_yX3_node⟩ ⟨⟨Nat.le_of_ble_eq_true rfl, Nat.le_of_ble_eq_true rfl⟩, ⟨Nat.zero_le _, Nat.zero_le _⟩, Nat.le_of_ble_eq_true rfl⟩ rfl rfl rfl dX3_addOrdered_15 ?_
      refine Y_lload_n C (pc := 18) 1 1 rfl rfl dX3_addOrdered_18 ?_
      refine Y_lcmp C (pc := 19) dX3_addOrdered_19 ?_
      refine Y_if_le C (pc := 20) (tgt := 46) dX3_addOrdered_20 (by decide) (fun c8 => ?_) (fun c8 => ?_)
      · rw [if_pos c8] at h
        have h := Option.some.inj h
        exact Y_sub [0, 1, 2] rfl (hE _ h.symm)
      · rw [if_neg c8] at h
        refine Y_aload_n C (pc := 23) 0 0 rfl rfl dX3_addOrdered_23 ?_
        refine Y_iload_n C (pc := 24) 3 2 rfl rfl dX3_addOrdered_24 ?_
        refine Y_aload_n C (pc := 25) 0 0 rfl rfl dX3_addOrdered_25 ?_
        refine Y_iload_n C (pc := 26) 3 2 rfl rfl dX3_addOrdered_26 ?_
        refine Y_iconst C (pc := 27) (v := (1 : Int32)) (by decide) dX3_addOrdered_27 ?_
        refine Y_isub C (pc := 28) dX3_addOrdered_28 ?_
        refine Y_iconst C (pc := 29) (v := (2 : Int32)) (by decide) dX3_addOrdered_29 ?_
        obtain ⟨v4, hv4, h⟩ := Option.bind_eq_some_iff.mp h
        refine Y_idiv C (pc := 30) hv4 dX3_addOrdered_30 ?_
        obtain ⟨v5, hv5, h⟩ := Option.bind_eq_some_iff.mp h
        refine Y_callV C [.int v4] [.int s1.1, .ref (ρ k0)] [.long v5, .int s1.1, .ref (ρ k0)] hk0 rfl rfl (c_X3_node hk0 hv5) (fun _ h => h.elim) q_cw_yX3_node q_ml_RX3_32 ⟨q_im_yX3_node, q_se_yX3_node⟩ ⟨⟨Nat.le_of_ble_eq_true rfl, Nat.le_of_ble_eq_true rfl⟩, ⟨Nat.zero_le _, Nat.zero_le _⟩, Nat.le_of_ble_eq_true rfl⟩ rfl rfl rfl dX3_addOrdered_31 ?_
        obtain ⟨v6, hv6, h⟩ := Option.bind_eq_some_iff.mp h
        refine Y_callV C [.int s1.1, .long v5] [] [] hk0 rfl rfl (c_X3_setNode hI hk0 hv6) (fun _ h => h) q_cw_yX3_setNode q_ml_RX3_22 ⟨q_im_yX3_setNode, q_se_yX3_setNode⟩ ⟨⟨Nat.le_of_ble_eq_true rfl, Nat.le_of_ble_eq_true rfl⟩, ⟨Nat.zero_le _, Nat.zero_le _⟩, Nat.le_of_ble_eq_true rfl⟩ rfl rfl rfl dX3_addOrdered_34 ?_
        refine Y_iload_n C (pc := 37) 3 2 rfl rfl dX3_addOrdered_37 ?_
        refine Y_iconst C (pc := 38) (v := (1 : Int32)) (by decide) dX3_addOrdered_38 ?_
        refine Y_isub C (pc := 39) dX3_addOrdered_39 ?_
        refine Y_iconst C (pc := 40) (v := (2 : Int32)) (by decide) dX3_addOrdered_40 ?_
        obtain ⟨v7, hv7, h⟩ := Option.bind_eq_some_iff.mp h
        refine Y_idiv C (pc := 41) hv7 dX3_addOrdered_41 ?_
        refine Y_istore_n C (pc := 42) (lv' := [(3, .int v7), (0, .ref (ρ k0)), (1, .long l1)]) 3 rfl (by decide) rfl dX3_addOrdered_42 ?_
        refine Y_goto C (pc := 43) (tgt := 5) dX3_addOrdered_43 (by decide) ?_
        have h := Option.some.inj h
        exact Y_sub [1, 2, 0] rfl (hLp _ h.symm)
  · refine Y_aload_n C (pc := 46) 0 0 rfl rfl dX3_addOrdered_46 ?_
    refine Y_iload_n C (pc := 47) 3 2 rfl rfl dX3_addOrdered_47 ?_
    refine Y_lload_n C (pc := 48) 1 1 rfl rfl dX3_addOrdered_48 ?_
    obtain ⟨v11, hv11, h⟩ := Option.bind_eq_some_iff.mp h
    refine Y_callV C [.int e10.1, .long l1] [] [] hk0 rfl rfl (c_X3_setNode hI hk0 hv11) (fun _ h => h) q_cw_yX3_setNode q_ml_RX3_22 ⟨q_im_yX3_setNode, q_se_yX3_setNode⟩ ⟨⟨Nat.le_of_ble_eq_true rfl, Nat.le_of_ble_eq_true rfl⟩, ⟨Nat.zero_le _, Nat.zero_le _⟩, Nat.le_of_ble_eq_true rfl⟩ rfl rfl rfl dX3_addOrdered_49 ?_
    refine Y_aload_n C (pc := 52) 0 0 rfl rfl dX3_addOrdered_52 ?_
    refine Y_dup C (pc := 53) rfl dX3_addOrdered_53 ?_
    refine Y_getI C (pc := 54) hk0 q_fi_RX3_15 dX3_addOrdered_54 ?_
    refine Y_iconst C (pc := 57) (v := (1 : Int32)) (by decide) dX3_addOrdered_57 ?_
    refine Y_iadd C (pc := 58) dX3_addOrdered_58 ?_
    refine Y_putI C (pc := 59) hW hk0 (q_lo_3 hk0) q_fp_RX3_15 dX3_addOrdered_59 ?_
    refine Y_aload_n C (pc := 62) 0 0 rfl rfl dX3_addOrdered_62 ?_
    refine Y_aload_n C (pc := 63) 0 0 rfl rfl dX3_addOrdered_63 ?_
    refine Y_getI C (pc := 64) hk0 q_fi_RX3_19 dX3_addOrdered_64 ?_
    refine Y_aload_n C (pc := 67) 0 0 rfl rfl dX3_addOrdered_67 ?_
    refine Y_getI C (pc := 68) hk0 q_fi_RX3_15 dX3_addOrdered_68 ?_
    refine Y_max C (pc := 71) q_ml_RX3_26 ⟨q_st_max, q_in_Math, q_cd_max⟩ ⟨Nat.le_of_ble_eq_true rfl, Nat.le_of_ble_eq_true rfl, Nat.zero_le _, Nat.zero_le _⟩ dX3_addOrdered_71 ?_
    refine Y_putI C (pc := 74) hW hk0 (q_lo_3 hk0) q_fp_RX3_19 dX3_addOrdered_74 ?_
    cases h
    exact Y_vret C dX3_addOrdered_77

set_option maxRecDepth 100000 in
set_option maxHeartbeats 4000000 in
theorem c_X3_lesserChild {l : Launch} {D : va_G} {cA ρ : Nat → Nat} {σ : Sg} {τ : Tg} {k0 : Nat} {i1 : Int32} (hk0 : kd k0 = (0, 3)) {r : Int32} (h : f_X3_lesserChild σ τ k0 i1 = some r) : Ct l yX3_lesserChild cX3_lesserChild 3 (some .int) 1 21 D cA ρ A0 [.ref (ρ k0), .int i1] σ τ (some (.int r)) σ τ := by
  refine Ct_of (by decide +kernel) (Nat.le_of_ble_eq_true rfl) (fun p e s m args below meth c C => ?_)
  have C : Ctx p l s m args meth c cX3_lesserChild RX3 3 (some .int) D cA ρ A0 := C
  unfold f_X3_lesserChild at h
  refine Y_sub [0, 1] (lv' := [(0, .ref (ρ k0)), (1, .int i1)]) rfl ?_
  refine Y_iconst C (pc := 0) (v := (2 : Int32)) (by decide) dX3_lesserChild_0 ?_
  refine Y_iload_n C (pc := 1) 1 1 rfl rfl dX3_lesserChild_1 ?_
  refine Y_imul C (pc := 2) dX3_lesserChild_2 ?_
  refine Y_iconst C (pc := 3) (v := (1 : Int32)) (by decide) dX3_lesserChild_3 ?_
  refine Y_iadd C (pc := 4) dX3_lesserChild_4 ?_
  refine Y_istore_n C (pc := 5) (lv' := [(2, .int (((2 : Int32) * i1) + (1 : Int32))), (0, .ref (ρ k0)), (1, .int i1)]) 2 rfl (by decide) rfl dX3_lesserChild_5 ?_
  refine Y_iload_n C (pc := 6) 2 0 rfl rfl dX3_lesserChild_6 ?_
  refine Y_iconst C (pc := 7) (v := (1 : Int32)) (by decide) dX3_lesserChild_7 ?_
  refine Y_iadd C (pc := 8) dX3_lesserChild_8 ?_
  refine Y_aload_n C (pc := 9) 0 1 rfl rfl dX3_lesserChild_9 ?_
  refine Y_getI C (pc := 10) hk0 q_fi_RX3_15 dX3_lesserChild_10 ?_
  refine Y_icmp_ge C (pc := 13) (tgt := 38) dX3_lesserChild_13 (by decide) (fun c4 => ?_) (fun c4 => ?_)
  · rw [if_pos c4] at h
    refine Y_iload_n C (pc := 38) 2 0 rfl rfl dX3_lesserChild_38 ?_
    cases h
    exact Y_iret C dX3_lesserChild_39
  · rw [if_neg c4] at h
    refine Y_aload_n C (pc := 16) 0 1 rfl rfl dX3_lesserChild_16 ?_
    refine Y_iload_n C (pc := 17) 2 0 rfl rfl dX3_lesserChild_17 ?_
    refine Y_iconst C (pc := 18) (v := (1 : Int32)) (by decide) dX3_lesserChild_18 ?_
    refine Y_iadd C (pc := 19) dX3_lesserChild_19 ?_
    obtain ⟨v1, hv1, h⟩ := Option.bind_eq_some_iff.mp h
    refine Y_callV C [.int ((((2 : Int32) * i1) + (1 : Int32)) + (1 : Int32))] [] [.long v1] hk0 rfl rfl (c_X3_node hk0 hv1) (fun _ h => h.elim) q_cw_yX3_node q_ml_RX3_32 ⟨q_im_yX3_node, q_se_yX3_node⟩ ⟨⟨Nat.le_of_ble_eq_true rfl, Nat.le_of_ble_eq_true rfl⟩, ⟨Nat.zero_le _, Nat.zero_le _⟩, Nat.le_of_ble_eq_true rfl⟩ rfl rfl rfl dX3_lesserChild_20 ?_
    refine Y_aload_n C (pc := 23) 0 1 rfl rfl dX3_lesserChild_23 ?_
    refine Y_iload_n C (pc := 24) 2 0 rfl rfl dX3_lesserChild_24 ?_
    obtain ⟨v2, hv2, h⟩ := Option.bind_eq_some_iff.mp h
    refine Y_callV C [.int (((2 : Int32) * i1) + (1 : Int32))] [.long v1] [.long v2, .long v1] hk0 rfl rfl (c_X3_node hk0 hv2) (fun _ h => h.elim) q_cw_yX3_node q_ml_RX3_32 ⟨q_im_yX3_node, q_se_yX3_node⟩ ⟨⟨Nat.le_of_ble_eq_true rfl, Nat.le_of_ble_eq_true rfl⟩, ⟨Nat.zero_le _, Nat.zero_le _⟩, Nat.le_of_ble_eq_true rfl⟩ rfl rfl rfl dX3_lesserChild_25 ?_
    refine Y_lcmp C (pc := 28) dX3_lesserChild_28 ?_
    refine Y_if_ge C (pc := 29) (tgt := 38) dX3_lesserChild_29 (by decide) (fun c3 => ?_) (fun c3 => ?_)
    · rw [if_pos c3] at h
      refine Y_iload_n C (pc := 38) 2 0 rfl rfl dX3_lesserChild_38 ?_
      cases h
      exact Y_iret C dX3_lesserChild_39
    · rw [if_neg c3] at h
      refine Y_iload_n C (pc := 32) 2 0 rfl rfl dX3_lesserChild_32 ?_
      refine Y_iconst C (pc := 33) (v := (1 : Int32)) (by decide) dX3_lesserChild_33 ?_
      refine Y_iadd C (pc := 34) dX3_lesserChild_34 ?_
      refine Y_goto C (pc := 35) (tgt := 39) dX3_lesserChild_35 (by decide) ?_
      cases h
      exact Y_iret C dX3_lesserChild_39

set_option maxRecDepth 100000 in
set_option maxHeartbeats 4000000 in
theorem c_X3_takeLeast {l : Launch} {D : va_G} {cA ρ : Nat → Nat} {σ : Sg} {τ : Tg} {k0 : Nat} (hI : Inj ρ) (hk0 : kd k0 = (0, 3)) {r : Int64 × Sg × Tg} (h : f_X3_takeLeast σ τ k0 = some r) : Ct l yX3_takeLeast cX3_takeLeast 8 (some .long) 2 43 D cA ρ (Aw ρ) [.ref (ρ k0)] σ τ (some (.long r.1)) r.2.1 r.2.2 := by
  refine Ct_of (by decide +kernel) (Nat.le_of_ble_eq_true rfl) (fun p e s m args below meth c C => ?_)
  have C : Ctx p l s m args meth c cX3_takeLeast RX3 8 (some .long) D cA ρ (Aw ρ) := C
  have hW : Wr ρ (Aw ρ) := ⟨hI, fun k hk => ⟨k, hk, rfl⟩⟩
  unfold f_X3_takeLeast at h
  refine Y_sub [0] (lv' := [(0, .ref (ρ k0))]) rfl ?_
  have hJ78 : ∀ (j14 : Int64) (j15 : Int64) (j16 : Int32) (sj17 : Sg) (tj18 : Tg), f_X3_takeLeast_J78 k0 j14 j15 j16 sj17 tj18 = some r → Y p l e (Rm 2 43) s m args below meth c 8 D cA ρ (Aw ρ) 0 0 (MQ below (QC D cA ρ (Aw ρ) (some (.long r.1)) r.2.1 r.2.2) args s 0 0 (Aw ρ)) sj17 tj18 78 [(0, .ref (ρ k0)), (1, .long j14), (3, .long j15), (5, .int j16)] [] := by
    intro j14 j15 j16 sj17 tj18 h
    unfold f_X3_takeLeast_J78 at h
    refine Y_aload_n C (pc := 78) 0 0 rfl rfl dX3_takeLeast_78 ?_
    refine Y_iload C (pc := 79) 3 rfl dX3_takeLeast_79 ?_
    refine Y_lload_n C (pc := 81) 3 2 rfl rfl dX3_takeLeast_81 ?_
    obtain ⟨v19, hv19, h⟩ := Option.bind_eq_some_iff.mp h
    refine Y_callV C [.int j16, .long j15] [] [] hk0 rfl rfl (c_X3_setNode hI hk0 hv19) (fun _ h => h) q_cw_yX3_setNode q_ml_RX3_22 ⟨q_im_yX3_setNode, q_se_yX3_setNode⟩ ⟨⟨Nat.le_of_ble_eq_true rfl, Nat.le_of_ble_eq_true rfl⟩, ⟨Nat.zero_le _, Nat.zero_le _⟩, Nat.le_of_ble_eq_true rfl⟩ rfl rfl rfl dX3_takeLeast_82 ?_
    refine Y_lload_n C (pc := 85) 1 1 rfl rfl dX3_takeLeast_85 ?_
    cases h
    exact Y_lret C dX3_takeLeast_86
  refine Y_aload_n C (pc := 0) 0 0 rfl rfl dX3_takeLeast_0 ?_
  refine Y_iconst C (pc := 1) (v := (0 : Int32)) (by decide) dX3_takeLeast_1 ?_
  obtain ⟨v1, hv1, h⟩ := Option.bind_eq_some_iff.mp h
  refine Y_callV C [.int (0 : Int32)] [] [.long v1] hk0 rfl rfl (c_X3_node hk0 hv1) (fun _ h => h.elim) q_cw_yX3_node q_ml_RX3_32 ⟨q_im_yX3_node, q_se_yX3_node⟩ ⟨⟨Nat.le_of_ble_eq_true rfl, Nat.le_of_ble_eq_true rfl⟩, ⟨Nat.zero_le _, Nat.zero_le _⟩, Nat.le_of_ble_eq_true rfl⟩ rfl rfl rfl dX3_takeLeast_2 ?_
  refine Y_lstore_n C (pc := 5) (lv' := [(1, .long v1), (0, .ref (ρ k0))]) 1 rfl (by decide) rfl dX3_takeLeast_5 ?_
  refine Y_aload_n C (pc := 6) 0 1 rfl rfl dX3_takeLeast_6 ?_
  obtain ⟨v2, hv2, h⟩ := Option.bind_eq_some_iff.mp h
  refine Y_callV C [] [] [.long v2.1] hk0 rfl rfl (c_X3_takeLast hI hk0 hv2) (fun _ h => h) q_cw_yX3_takeLast q_ml_RX3_36 ⟨q_im_yX3_takeLast, q_se_yX3_takeLast⟩ ⟨⟨Nat.le_of_ble_eq_true rfl, Nat.le_of_ble_eq_true rfl⟩, ⟨Nat.zero_le _, Nat.zero_le _⟩, Nat.le_of_ble_eq_true rfl⟩ rfl rfl rfl dX3_takeLeast_7 ?_
  refine Y_lstore_n C (pc := 10) (lv' := [(3, .long v2.1), (1, .long v1), (0, .ref (ρ k0))]) 3 rfl (by decide) rfl dX3_takeLeast_10 ?_
  refine Y_iconst C (pc := 11) (v := (0 : Int32)) (by decide) dX3_takeLeast_11 ?_
  refine Y_istore C (pc := 12) (lv' := [(5, .int (0 : Int32)), (3, .long v2.1), (1, .long v1), (0, .ref (ρ k0))]) (by decide) rfl dX3_takeLeast_12 ?_
  refine Y_iconst C (pc := 14) (v := (0 : Int32)) (by decide) dX3_takeLeast_14 ?_
  refine Y_istore C (pc := 15) (lv' := [(6, .int (0 : Int32)), (5, .int (0 : Int32)), (3, .long v2.1), (1, .long v1), (0, .ref (ρ k0))]) (by decide) rfl dX3_takeLeast_15 ?_
  obtain ⟨e11, he11, h⟩ := Option.bind_eq_some_iff.mp h
  refine Y_sub [4, 3, 2, 1, 0] (lv' := [(0, .ref (ρ k0)), (1, .long v1), (3, .long v2.1), (5, .int (0 : Int32)), (6, .int (0 : Int32))]) rfl ?_
  refine lo_rule (f := (f_X3_takeLeast_L17 v2 k0)) (YS := fun s3 => Y p l e (Rm 2 43) s m args below meth c 8 D cA ρ (Aw ρ) 0 0 (MQ below (QC D cA ρ (Aw ρ) (some (.long r.1)) r.2.1 r.2.2) args s 0 0 (Aw ρ)) v2.2 s3.2.2 17 [(0, .ref (ρ k0)), (1, .long v1), (3, .long v2.1), (5, .int s3.1), (6, .int s3.2.1)] []) (YE := fun e11 => (∀ e12, e11 = (.inl e12) → Y p l e (Rm 2 43) s m args below meth c 8 D cA ρ (Aw ρ) 0 0 (MQ below (QC D cA ρ (Aw ρ) (some (.long r.1)) r.2.1 r.2.2) args s 0 0 (Aw ρ)) v2.2 e12.2 53 [(0, .ref (ρ k0)), (1, .long v1), (3, .long v2.1), (5, .int e12.1)] []) ∧ (∀ e13, e11 = (.inr e13) → Y p l e (Rm 2 43) s m args below meth c 8 D cA ρ (Aw ρ) 0 0 (MQ below (QC D cA ρ (Aw ρ) (some (.long r.1)) r.2.1 r.2.2) args s 0 0 (Aw ρ)) v2.2 e13.2 78 [(0, .ref (ρ k0)), (1, .long v1), (3, .long v2.1), (5, .int e13.1)] [])) ?_ he11 ?_
  · intro s3 x h hLp hE
    have hE0 : ∀ y, x = .inr (.inl y) → _ := fun y q => (hE _ q).1 y rfl
    have hE1 : ∀ y, x = .inr (.inr y) → _ := fun y q => (hE _ q).2 y rfl
    unfold f_X3_takeLeast_L17 at h
    refine Y_iload C (pc := 17) 4 rfl dX3_takeLeast_17 ?_
    refine Y_sipush C (pc := 19) (v := (720 : Int32)) (by decide) dX3_takeLeast_19 ?_
    refine Y_icmp_ge C (pc := 22) (tgt := 78) dX3_takeLeast_22 (by decide) (fun c10 => ?_) (fun c10 => ?_)
    · rw [if_pos c10] at h
      have h := Option.some.inj h
      exact Y_sub [0, 1, 2, 3] rfl (hE1 _ h.symm)
    · rw [if_neg c10] at h
      refine Y_aload_n C (pc := 25) 0 0 rfl rfl dX3_takeLeast_25 ?_
      refine Y_iload C (pc := 26) 3 rfl dX3_takeLeast_26 ?_
      obtain ⟨v4, hv4, h⟩ := Option.bind_eq_some_iff.mp h
      refine Y_callV C [.int s3.1] [] [.int v4] hk0 rfl rfl (c_X3_lesserChild hk0 hv4) (fun _ h => h.elim) q_cw_yX3_lesserChild q_ml_RX3_40 ⟨q_im_yX3_lesserChild, q_se_yX3_lesserChild⟩ ⟨⟨Nat.le_of_ble_eq_true rfl, Nat.le_of_ble_eq_true rfl⟩, ⟨Nat.zero_le _, Nat.zero_le _⟩, Nat.le_of_ble_eq_true rfl⟩ rfl rfl rfl dX3_takeLeast_28 ?_
      refine Y_istore C (pc := 31) (lv' := [(7, .int v4), (0, .ref (ρ k0)), (1, .long v1), (3, .long v2.1), (5, .int s3.1), (6, .int s3.2.1)]) (by decide) rfl dX3_takeLeast_31 ?_
      refine Y_iload C (pc := 33) 0 rfl dX3_takeLeast_33 ?_
      refine Y_aload_n C (pc := 35) 0 1 rfl rfl dX3_takeLeast_35 ?_
      refine Y_getI C (pc := 36) hk0 q_fi_RX3_15 dX3_takeLeast_36 ?_
      refine Y_icmp_ge C (pc := 39) (tgt := 78) dX3_takeLeast_39 (by decide) (fun c9 => ?_) (fun c9 => ?_)
      · rw [if_pos c9] at h
        have h := Option.some.inj h
        exact Y_sub [1, 2, 3, 4] rfl (hE1 _ h.symm)
      · rw [if_neg c9] at h
        refine Y_aload_n C (pc := 42) 0 1 rfl rfl dX3_takeLeast_42 ?_
        refine Y_iload C (pc := 43) 0 rfl dX3_takeLeast_43 ?_
        obtain ⟨v5, hv5, h⟩ := Option.bind_eq_some_iff.mp h
        refine Y_callV C [.int v4] [] [.long v5] hk0 rfl rfl (c_X3_node hk0 hv5) (fun _ h => h.elim) q_cw_yX3_node q_ml_RX3_32 ⟨q_im_yX3_node, q_se_yX3_node⟩ ⟨⟨Nat.le_of_ble_eq_true rfl, Nat.le_of_ble_eq_true rfl⟩, ⟨Nat.zero_le _, Nat.zero_le _⟩, Nat.le_of_ble_eq_true rfl⟩ rfl rfl rfl dX3_takeLeast_45 ?_
        refine Y_lload_n C (pc := 48) 3 3 rfl rfl dX3_takeLeast_48 ?_
        refine Y_lcmp C (pc := 49) dX3_takeLeast_49 ?_
        refine Y_if_lt C (pc := 50) (tgt := 56) dX3_takeLeast_50 (by decide) (fun c8 => ?_) (fun c8 => ?_)
        · rw [if_pos c8] at h
          refine Y_aload_n C (pc := 56) 0 1 rfl rfl dX3_takeLeast_56 ?_
          refine Y_iload C (pc := 57) 4 rfl dX3_takeLeast_57 ?_
          refine Y_aload_n C (pc := 59) 0 1 rfl rfl dX3_takeLeast_59 ?_
          refine Y_iload C (pc := 60) 0 rfl dX3_takeLeast_60 ?_
          obtain ⟨v6, hv6, h⟩ := Option.bind_eq_some_iff.mp h
          refine Y_callV C [.int v4] [.int s3.1, .ref (ρ k0)] [.long v6, .int s3.1, .ref (ρ k0)] hk0 rfl rfl (c_X3_node hk0 hv6) (fun _ h => h.elim) q_cw_yX3_node q_ml_RX3_32 ⟨q_im_yX3_node, q_se_yX3_node⟩ ⟨⟨Nat.le_of_ble_eq_true rfl, Nat.le_of_ble_eq_true rfl⟩, ⟨Nat.zero_le _, Nat.zero_le _⟩, Nat.le_of_ble_eq_true rfl⟩ rfl rfl rfl dX3_takeLeast_62 ?_
          obtain ⟨v7, hv7, h⟩ := Option.bind_eq_some_iff.mp h
          refine Y_callV C [.int s3.1, .long v6] [] [] hk0 rfl rfl (c_X3_setNode hI hk0 hv7) (fun _ h => h) q_cw_yX3_setNode q_ml_RX3_22 ⟨q_im_yX3_setNode, q_se_yX3_setNode⟩ ⟨⟨Nat.le_of_ble_eq_true rfl, Nat.le_of_ble_eq_true rfl⟩, ⟨Nat.zero_le _, Nat.zero_le _⟩, Nat.le_of_ble_eq_true rfl⟩ rfl rfl rfl dX3_takeLeast_65 ?_
          refine Y_iload C (pc := 68) 0 rfl dX3_takeLeast_68 ?_
          refine Y_istore C (pc := 70) (lv' := [(5, .int v4), (7, .int v4), (0, .ref (ρ k0)), (1, .long v1), (3, .long v2.1), (6, .int s3.2.1)]) (by decide) rfl dX3_takeLeast_70 ?_
          refine Y_iinc C (pc := 72) (v := (s3.2.1 + 1)) (lv' := [(6, .int (s3.2.1 + 1)), (5, .int v4), (7, .int v4), (0, .ref (ρ k0)), (1, .long v1), (3, .long v2.1)]) 5 rfl (congrArg (fun z => s3.2.1 + z) (by decide : Int32.ofInt (1) = (1))) (by decide) rfl dX3_takeLeast_72 ?_
          refine Y_goto C (pc := 75) (tgt := 17) dX3_takeLeast_75 (by decide) ?_
          have h := Option.some.inj h
          exact Y_sub [3, 4, 5, 1, 0] rfl (hLp _ h.symm)
        · rw [if_neg c8] at h
          have h := Option.some.inj h
          exact Y_sub [1, 2, 3, 4] rfl (hE0 _ h.symm)
  refine ⟨?_, ?_⟩
  · intro e12 q
    subst q
    simp only [Sum.elim_inl, Sum.elim_inr] at h
    refine Y_goto C (pc := 53) (tgt := 78) dX3_takeLeast_53 (by decide) ?_
    exact Y_sub [0, 1, 2, 3] rfl (hJ78 _ _ _ _ _ h)
  · intro e13 q
    subst q
    simp only [Sum.elim_inl, Sum.elim_inr] at h
    exact Y_sub [0, 1, 2, 3] rfl (hJ78 _ _ _ _ _ h)

set_option maxRecDepth 100000 in
set_option maxHeartbeats 4000000 in
theorem c_X4_append {l : Launch} {D : va_G} {cA ρ : Nat → Nat} {σ : Sg} {τ : Tg} {k0 : Nat} {i1 : Int32} (hI : Inj ρ) (hk0 : kd k0 = (0, 4)) {r : Sg} (h : f_X4_append σ k0 i1 = some r) : Ct l yX4_append cX4_append 2 none 0 0 D cA ρ (Aw ρ) [.ref (ρ k0), .int i1] σ τ none r τ := by
  refine Ct_of (by decide +kernel) (Nat.le_of_ble_eq_true rfl) (fun p e s m args below meth c C => ?_)
  have C : Ctx p l s m args meth c cX4_append RX4 2 none D cA ρ (Aw ρ) := C
  have hW : Wr ρ (Aw ρ) := ⟨hI, fun k hk => ⟨k, hk, rfl⟩⟩
  unfold f_X4_append at h
  refine Y_sub [0, 1] (lv' := [(0, .ref (ρ k0)), (1, .int i1)]) rfl ?_
  refine Y_aload_n C (pc := 0) 0 0 rfl rfl dX4_append_0 ?_
  refine Y_getI C (pc := 1) hk0 q_fi_RX4_15 dX4_append_1 ?_
  refine Y_if_lt C (pc := 4) (tgt := 39) dX4_append_4 (by decide) (fun c3 => ?_) (fun c3 => ?_)
  · rw [if_pos c3] at h
    cases h
    exact Y_vret C dX4_append_39
  · rw [if_neg c3] at h
    refine Y_aload_n C (pc := 7) 0 0 rfl rfl dX4_append_7 ?_
    refine Y_getI C (pc := 8) hk0 q_fi_RX4_15 dX4_append_8 ?_
    refine Y_aload_n C (pc := 11) 0 0 rfl rfl dX4_append_11 ?_
    refine Y_getR C (pc := 12) hk0 q_fi_RX4_9 (by decide) dX4_append_12 ?_
    refine Y_alen3 C (pc := 15) (q_kr_4_7 hk0) dX4_append_15 ?_
    refine Y_icmp_ge C (pc := 16) (tgt := 39) dX4_append_16 (by decide) (fun c2 => ?_) (fun c2 => ?_)
    · rw [if_pos c2] at h
      cases h
      exact Y_vret C dX4_append_39
    · rw [if_neg c2] at h
      refine Y_aload_n C (pc := 19) 0 0 rfl rfl dX4_append_19 ?_
      refine Y_getR C (pc := 20) hk0 q_fi_RX4_9 (by decide) dX4_append_20 ?_
      refine Y_aload_n C (pc := 23) 0 0 rfl rfl dX4_append_23 ?_
      refine Y_getI C (pc := 24) hk0 q_fi_RX4_15 dX4_append_24 ?_
      refine Y_iload_n C (pc := 27) 1 1 rfl rfl dX4_append_27 ?_
      obtain ⟨s1, hs1, h⟩ := Option.bind_eq_some_iff.mp h
      refine Y_cast C (pc := 28) hW (q_kr_4_7 hk0) (q_lr_4_7 hk0) hs1 dX4_append_28 ?_
      refine Y_aload_n C (pc := 29) 0 0 rfl rfl dX4_append_29 ?_
      refine Y_dup C (pc := 30) rfl dX4_append_30 ?_
      refine Y_getI C (pc := 31) hk0 q_fi_RX4_15 dX4_append_31 ?_
      refine Y_iconst C (pc := 34) (v := (1 : Int32)) (by decide) dX4_append_34 ?_
      refine Y_iadd C (pc := 35) dX4_append_35 ?_
      refine Y_putI C (pc := 36) hW hk0 (q_lo_4 hk0) q_fp_RX4_15 dX4_append_36 ?_
      cases h
      exact Y_vret C dX4_append_39

set_option maxRecDepth 100000 in
set_option maxHeartbeats 4000000 in
theorem c_X4_rewind {l : Launch} {D : va_G} {cA ρ : Nat → Nat} {σ : Sg} {τ : Tg} {k0 : Nat} (hI : Inj ρ) (hk0 : kd k0 = (0, 4)) {r : Sg} (h : f_X4_rewind σ k0 = some r) : Ct l yX4_rewind cX4_rewind 1 none 0 0 D cA ρ (Aw ρ) [.ref (ρ k0)] σ τ none r τ := by
  refine Ct_of (by decide +kernel) (Nat.le_of_ble_eq_true rfl) (fun p e s m args below meth c C => ?_)
  have C : Ctx p l s m args meth c cX4_rewind RX4 1 none D cA ρ (Aw ρ) := C
  have hW : Wr ρ (Aw ρ) := ⟨hI, fun k hk => ⟨k, hk, rfl⟩⟩
  unfold f_X4_rewind at h
  refine Y_sub [0] (lv' := [(0, .ref (ρ k0))]) rfl ?_
  refine Y_aload_n C (pc := 0) 0 0 rfl rfl dX4_rewind_0 ?_
  refine Y_iconst C (pc := 1) (v := (0 : Int32)) (by decide) dX4_rewind_1 ?_
  refine Y_putI C (pc := 2) hW hk0 (q_lo_4 hk0) q_fp_RX4_19 dX4_rewind_2 ?_
  refine Y_aload_n C (pc := 5) 0 0 rfl rfl dX4_rewind_5 ?_
  refine Y_iconst C (pc := 6) (v := (0 : Int32)) (by decide) dX4_rewind_6 ?_
  refine Y_putZ C (pc := 7) hW (by decide) hk0 (q_lo_4 hk0) q_fp_RX4_22 dX4_rewind_7 ?_
  cases h
  exact Y_vret C dX4_rewind_10

set_option maxRecDepth 100000 in
set_option maxHeartbeats 4000000 in
theorem c_X4_here {l : Launch} {D : va_G} {cA ρ : Nat → Nat} {σ : Sg} {τ : Tg} {k0 : Nat} (hk0 : kd k0 = (0, 4)) {r : Int32} (h : f_X4_here σ k0 = some r) : Ct l yX4_here cX4_here 1 (some .int) 0 0 D cA ρ A0 [.ref (ρ k0)] σ τ (some (.int r)) σ τ := by
  refine Ct_of (by decide +kernel) (Nat.le_of_ble_eq_true rfl) (fun p e s m args below meth c C => ?_)
  have C : Ctx p l s m args meth c cX4_here RX4 1 (some .int) D cA ρ A0 := C
  unfold f_X4_here at h
  refine Y_sub [0] (lv' := [(0, .ref (ρ k0))]) rfl ?_
  refine Y_aload_n C (pc := 0) 0 0 rfl rfl dX4_here_0 ?_
  refine Y_getI C (pc := 1) hk0 q_fi_RX4_19 dX4_here_1 ?_
  refine Y_if_lt C (pc := 4) (tgt := 42) dX4_here_4 (by decide) (fun c4 => ?_) (fun c4 => ?_)
  · rw [if_pos c4] at h
    refine Y_iconst C (pc := 42) (v := (0 : Int32)) (by decide) dX4_here_42 ?_
    cases h
    exact Y_iret C dX4_here_43
  · rw [if_neg c4] at h
    refine Y_aload_n C (pc := 7) 0 0 rfl rfl dX4_here_7 ?_
    refine Y_getI C (pc := 8) hk0 q_fi_RX4_19 dX4_here_8 ?_
    refine Y_aload_n C (pc := 11) 0 0 rfl rfl dX4_here_11 ?_
    refine Y_getI C (pc := 12) hk0 q_fi_RX4_15 dX4_here_12 ?_
    refine Y_icmp_ge C (pc := 15) (tgt := 42) dX4_here_15 (by decide) (fun c3 => ?_) (fun c3 => ?_)
    · rw [if_pos c3] at h
      refine Y_iconst C (pc := 42) (v := (0 : Int32)) (by decide) dX4_here_42 ?_
      cases h
      exact Y_iret C dX4_here_43
    · rw [if_neg c3] at h
      refine Y_aload_n C (pc := 18) 0 0 rfl rfl dX4_here_18 ?_
      refine Y_getI C (pc := 19) hk0 q_fi_RX4_19 dX4_here_19 ?_
      refine Y_aload_n C (pc := 22) 0 0 rfl rfl dX4_here_22 ?_
      refine Y_getR C (pc := 23) hk0 q_fi_RX4_9 (by decide) dX4_here_23 ?_
      refine Y_alen3 C (pc := 26) (q_kr_4_7 hk0) dX4_here_26 ?_
      refine Y_icmp_ge C (pc := 27) (tgt := 42) dX4_here_27 (by decide) (fun c2 => ?_) (fun c2 => ?_)
      · rw [if_pos c2] at h
        refine Y_iconst C (pc := 42) (v := (0 : Int32)) (by decide) dX4_here_42 ?_
        cases h
        exact Y_iret C dX4_here_43
      · rw [if_neg c2] at h
        refine Y_aload_n C (pc := 30) 0 0 rfl rfl dX4_here_30 ?_
        refine Y_getR C (pc := 31) hk0 q_fi_RX4_9 (by decide) dX4_here_31 ?_
        refine Y_aload_n C (pc := 34) 0 0 rfl rfl dX4_here_34 ?_
        refine Y_getI C (pc := 35) hk0 q_fi_RX4_19 dX4_here_35 ?_
        obtain ⟨v1, hv1, h⟩ := Option.bind_eq_some_iff.mp h
        refine Y_cald C (pc := 38) (q_kr_4_7 hk0) hv1 dX4_here_38 ?_
        refine Y_goto C (pc := 39) (tgt := 43) dX4_here_39 (by decide) ?_
        cases h
        exact Y_iret C dX4_here_43

set_option maxRecDepth 100000 in
set_option maxHeartbeats 4000000 in
theorem c_X4_skipSpaces {l : Launch} {D : va_G} {cA ρ : Nat → Nat} {σ : Sg} {τ : Tg} {k0 : Nat} (hI : Inj ρ) (hk0 : kd k0 = (0, 4)) {r : Sg} (h : f_X4_skipSpaces σ k0 = some r) : Ct l yX4_skipSpaces cX4_skipSpaces 1 none 1 20 D cA ρ (Aw ρ) [.ref (ρ k0)] σ τ none r τ := by
  refine Ct_of (by decide +kernel) (Nat.le_of_ble_eq_true rfl) (fun p e s m args below meth c C => ?_)
  have C : Ctx p l s m args meth c cX4_skipSpaces RX4 1 none D cA ρ (Aw ρ) := C
  have hW : Wr ρ (Aw ρ) := ⟨hI, fun k hk => ⟨k, hk, rfl⟩⟩
  unfold f_X4_skipSpaces at h
  refine Y_sub [0] (lv' := [(0, .ref (ρ k0))]) rfl ?_
  obtain ⟨e5, he5, h⟩ := Option.bind_eq_some_iff.mp h
  refine Y_sub [0] (lv' := [(0, .ref (ρ k0))]) rfl ?_
  refine lo_rule (f := (f_X4_skipSpaces_L0 k0)) (YS := fun s1 => Y p l e (Rm 1 20) s m args below meth c 1 D cA ρ (Aw ρ) 0 0 (MQ below (QC D cA ρ (Aw ρ) none r τ) args s 0 0 (Aw ρ)) s1 τ 0 [(0, .ref (ρ k0))] []) (YE := fun e5 => Y p l e (Rm 1 20) s m args below meth c 1 D cA ρ (Aw ρ) 0 0 (MQ below (QC D cA ρ (Aw ρ) none r τ) args s 0 0 (Aw ρ)) e5 τ 33 [] []) ?_ he5 ?_
  · intro s1 x h hLp hE
    unfold f_X4_skipSpaces_L0 at h
    refine Y_aload_n C (pc := 0) 0 0 rfl rfl dX4_skipSpaces_0 ?_
    refine Y_getI C (pc := 1) hk0 q_fi_RX4_19 dX4_skipSpaces_1 ?_
    refine Y_aload_n C (pc := 4) 0 0 rfl rfl dX4_skipSpaces_4 ?_
    refine Y_getI C (pc := 5) hk0 q_fi_RX4_15 dX4_skipSpaces_5 ?_
    refine Y_icmp_ge C (pc := 8) (tgt := 33) dX4_skipSpaces_8 (by decide) (fun c4 => ?_) (fun c4 => ?_)
    · rw [if_pos c4] at h
      have h := Option.some.inj h
      exact Y_sub [] rfl (hE _ h.symm)
    · rw [if_neg c4] at h
      refine Y_aload_n C (pc := 11) 0 0 rfl rfl dX4_skipSpaces_11 ?_
      obtain ⟨v2, hv2, h⟩ := Option.bind_eq_some_iff.mp h
      refine Y_callV C [] [] [.int v2] hk0 rfl rfl (c_X4_here hk0 hv2) (fun _ h => h.elim) q_cw_yX4_here q_ml_RX4_61 ⟨q_im_yX4_here, q_se_yX4_here⟩ ⟨⟨Nat.le_of_ble_eq_true rfl, Nat.le_of_ble_eq_true rfl⟩, ⟨Nat.zero_le _, Nat.zero_le _⟩, Nat.le_of_ble_eq_true rfl⟩ rfl rfl rfl dX4_skipSpaces_12 ?_
      refine Y_bipush C (pc := 15) (v := (32 : Int32)) (by decide) dX4_skipSpaces_15 ?_
      refine Y_icmp_ne C (pc := 17) (tgt := 33) dX4_skipSpaces_17 (by decide) (fun c3 => ?_) (fun c3 => ?_)
      · rw [if_neg c3] at h
        have h := Option.some.inj h
        exact Y_sub [] rfl (hE _ h.symm)
      · rw [if_pos c3] at h
        refine Y_aload_n C (pc := 20) 0 0 rfl rfl dX4_skipSpaces_20 ?_
        refine Y_dup C (pc := 21) rfl dX4_skipSpaces_21 ?_
        refine Y_getI C (pc := 22) hk0 q_fi_RX4_19 dX4_skipSpaces_22 ?_
        refine Y_iconst C (pc := 25) (v := (1 : Int32)) (by decide) dX4_skipSpaces_25 ?_
        refine Y_iadd C (pc := 26) dX4_skipSpaces_26 ?_
        refine Y_putI C (pc := 27) hW hk0 (q_lo_4 hk0) q_fp_RX4_19 dX4_skipSpaces_27 ?_
        refine Y_goto C (pc := 30) (tgt := 0) dX4_skipSpaces_30 (by decide) ?_
        have h := Option.some.inj h
        exact Y_sub [0] rfl (hLp _ h.symm)
  · cases h
    exact Y_vret C dX4_skipSpaces_33

set_option maxRecDepth 100000 in
set_option maxHeartbeats 4000000 in
theorem c_X4_readLetter {l : Launch} {D : va_G} {cA ρ : Nat → Nat} {σ : Sg} {τ : Tg} {k0 : Nat} (hI : Inj ρ) (hk0 : kd k0 = (0, 4)) {r : Int32 × Sg} (h : f_X4_readLetter σ k0 = some r) : Ct l yX4_readLetter cX4_readLetter 2 (some .int) 1 20 D cA ρ (Aw ρ) [.ref (ρ k0)] σ τ (some (.int r.1)) r.2 τ := by
  refine Ct_of (by decide +kernel) (Nat.le_of_ble_eq_true rfl) (fun p e s m args below meth c C => ?_)
  have C : Ctx p l s m args meth c cX4_readLetter RX4 2 (some .int) D cA ρ (Aw ρ) := C
  have hW : Wr ρ (Aw ρ) := ⟨hI, fun k hk => ⟨k, hk, rfl⟩⟩
  unfold f_X4_readLetter at h
  refine Y_sub [0] (lv' := [(0, .ref (ρ k0))]) rfl ?_
  have hJ53 : ∀ (j2 : Int32) (sj3 : Sg), f_X4_readLetter_J53 k0 j2 sj3 = some r → Y p l e (Rm 1 20) s m args below meth c 2 D cA ρ (Aw ρ) 0 0 (MQ below (QC D cA ρ (Aw ρ) (some (.int r.1)) r.2 τ) args s 0 0 (Aw ρ)) sj3 τ 53 [(0, .ref (ρ k0)), (1, .int j2)] [] := by
    intro j2 sj3 h
    unfold f_X4_readLetter_J53 at h
    refine Y_aload_n C (pc := 53) 0 0 rfl rfl dX4_readLetter_53 ?_
    refine Y_dup C (pc := 54) rfl dX4_readLetter_54 ?_
    refine Y_getI C (pc := 55) hk0 q_fi_RX4_19 dX4_readLetter_55 ?_
    refine Y_iconst C (pc := 58) (v := (1 : Int32)) (by decide) dX4_readLetter_58 ?_
    refine Y_iadd C (pc := 59) dX4_readLetter_59 ?_
    refine Y_putI C (pc := 60) hW hk0 (q_lo_4 hk0) q_fp_RX4_19 dX4_readLetter_60 ?_
    refine Y_iload_n C (pc := 63) 1 1 rfl rfl dX4_readLetter_63 ?_
    cases h
    exact Y_iret C dX4_readLetter_64
  refine Y_aload_n C (pc := 0) 0 0 rfl rfl dX4_readLetter_0 ?_
  obtain ⟨v1, hv1, h⟩ := Option.bind_eq_some_iff.mp h
  refine Y_callV C [] [] [.int v1] hk0 rfl rfl (c_X4_here hk0 hv1) (fun _ h => h.elim) q_cw_yX4_here q_ml_RX4_61 ⟨q_im_yX4_here, q_se_yX4_here⟩ ⟨⟨Nat.le_of_ble_eq_true rfl, Nat.le_of_ble_eq_true rfl⟩, ⟨Nat.zero_le _, Nat.zero_le _⟩, Nat.le_of_ble_eq_true rfl⟩ rfl rfl rfl dX4_readLetter_1 ?_
  by_cases w99 : v1 = (99 : Int32)
  · rw [if_pos w99] at h
    refine Y_tableIn C (pc := 4) dX4_readLetter_4 (by rw [w99]; decide) (by rw [w99]; decide) (off := 42) (tgt := 46) (by rw [w99]; rfl) (by decide) ?_
    refine Y_iconst C (pc := 46) (v := (2 : Int32)) (by decide) dX4_readLetter_46 ?_
    refine Y_istore_n C (pc := 47) (lv' := [(1, .int (2 : Int32)), (0, .ref (ρ k0))]) 1 rfl (by decide) rfl dX4_readLetter_47 ?_
    refine Y_goto C (pc := 48) (tgt := 53) dX4_readLetter_48 (by decide) ?_
    exact Y_sub [1, 0] rfl (hJ53 _ _ h)
  · rw [if_neg w99] at h
    by_cases w100 : v1 = (100 : Int32)
    · rw [if_pos w100] at h
      refine Y_tableIn C (pc := 4) dX4_readLetter_4 (by rw [w100]; decide) (by rw [w100]; decide) (off := 37) (tgt := 41) (by rw [w100]; rfl) (by decide) ?_
      refine Y_iconst C (pc := 41) (v := (1 : Int32)) (by decide) dX4_readLetter_41 ?_
      refine Y_istore_n C (pc := 42) (lv' := [(1, .int (1 : Int32)), (0, .ref (ρ k0))]) 1 rfl (by decide) rfl dX4_readLetter_42 ?_
      refine Y_goto C (pc := 43) (tgt := 53) dX4_readLetter_43 (by decide) ?_
      exact Y_sub [1, 0] rfl (hJ53 _ _ h)
    · rw [if_neg w100] at h
      by_cases w102 : v1 = (102 : Int32)
      · rw [if_pos w102] at h
        refine Y_tableIn C (pc := 4) dX4_readLetter_4 (by rw [w102]; decide) (by rw [w102]; decide) (off := 32) (tgt := 36) (by rw [w102]; rfl) (by decide) ?_
        refine Y_iconst C (pc := 36) (v := (0 : Int32)) (by decide) dX4_readLetter_36 ?_
        refine Y_istore_n C (pc := 37) (lv' := [(1, .int (0 : Int32)), (0, .ref (ρ k0))]) 1 rfl (by decide) rfl dX4_readLetter_37 ?_
        refine Y_goto C (pc := 38) (tgt := 53) dX4_readLetter_38 (by decide) ?_
        exact Y_sub [1, 0] rfl (hJ53 _ _ h)
      · rw [if_neg w102] at h
        by_cases w101 : v1 = (101 : Int32)
        · refine Y_tableIn C (pc := 4) dX4_readLetter_4 (by rw [w101]; decide) (by rw [w101]; decide) (off := 47) (tgt := 51) (by rw [w101]; rfl) (by decide) ?_
          refine Y_iconst C (pc := 51) (v := (-1 : Int32)) (by decide) dX4_readLetter_51 ?_
          cases h
          exact Y_iret C dX4_readLetter_52
        have n99 : v1.toInt ≠ 99 := fun q => w99 (Int32.toInt_inj.mp (q.trans (by decide)))
        have n100 : v1.toInt ≠ 100 := fun q => w100 (Int32.toInt_inj.mp (q.trans (by decide)))
        have n101 : v1.toInt ≠ 101 := fun q => w101 (Int32.toInt_inj.mp (q.trans (by decide)))
        have n102 : v1.toInt ≠ 102 := fun q => w102 (Int32.toInt_inj.mp (q.trans (by decide)))
        refine Y_tableOut C (pc := 4) dX4_readLetter_4 (by omega) (tgt := 51) (by decide) ?_
        refine Y_iconst C (pc := 51) (v := (-1 : Int32)) (by decide) dX4_readLetter_51 ?_
        cases h
        exact Y_iret C dX4_readLetter_52

set_option maxRecDepth 100000 in
set_option maxHeartbeats 4000000 in
theorem c_X4_isDigitHere {l : Launch} {D : va_G} {cA ρ : Nat → Nat} {σ : Sg} {τ : Tg} {k0 : Nat} (hk0 : kd k0 = (0, 4)) {r : Int32} (h : f_X4_isDigitHere σ k0 = some r) : Ct l yX4_isDigitHere cX4_isDigitHere 1 (some .boolean) 1 20 D cA ρ A0 [.ref (ρ k0)] σ τ (some (.int r)) σ τ := by
  refine Ct_of (by decide +kernel) (Nat.le_of_ble_eq_true rfl) (fun p e s m args below meth c C => ?_)
  have C : Ctx p l s m args meth c cX4_isDigitHere RX4 1 (some .boolean) D cA ρ A0 := C
  unfold f_X4_isDigitHere at h
  refine Y_sub [0] (lv' := [(0, .ref (ρ k0))]) rfl ?_
  refine Y_aload_n C (pc := 0) 0 0 rfl rfl dX4_isDigitHere_0 ?_
  obtain ⟨v1, hv1, h⟩ := Option.bind_eq_some_iff.mp h
  refine Y_callV C [] [] [.int v1] hk0 rfl rfl (c_X4_here hk0 hv1) (fun _ h => h.elim) q_cw_yX4_here q_ml_RX4_61 ⟨q_im_yX4_here, q_se_yX4_here⟩ ⟨⟨Nat.le_of_ble_eq_true rfl, Nat.le_of_ble_eq_true rfl⟩, ⟨Nat.zero_le _, Nat.zero_le _⟩, Nat.le_of_ble_eq_true rfl⟩ rfl rfl rfl dX4_isDigitHere_1 ?_
  refine Y_bipush C (pc := 4) (v := (48 : Int32)) (by decide) dX4_isDigitHere_4 ?_
  refine Y_icmp_lt C (pc := 6) (tgt := 22) dX4_isDigitHere_6 (by decide) (fun c4 => ?_) (fun c4 => ?_)
  · rw [if_pos c4] at h
    refine Y_iconst C (pc := 22) (v := (0 : Int32)) (by decide) dX4_isDigitHere_22 ?_
    cases h
    exact Y_zret (by decide) C dX4_isDigitHere_23
  · rw [if_neg c4] at h
    refine Y_aload_n C (pc := 9) 0 0 rfl rfl dX4_isDigitHere_9 ?_
    obtain ⟨v2, hv2, h⟩ := Option.bind_eq_some_iff.mp h
    refine Y_callV C [] [] [.int v2] hk0 rfl rfl (c_X4_here hk0 hv2) (fun _ h => h.elim) q_cw_yX4_here q_ml_RX4_61 ⟨q_im_yX4_here, q_se_yX4_here⟩ ⟨⟨Nat.le_of_ble_eq_true rfl, Nat.le_of_ble_eq_true rfl⟩, ⟨Nat.zero_le _, Nat.zero_le _⟩, Nat.le_of_ble_eq_true rfl⟩ rfl rfl rfl dX4_isDigitHere_10 ?_
    refine Y_bipush C (pc := 13) (v := (57 : Int32)) (by decide) dX4_isDigitHere_13 ?_
    refine Y_icmp_gt C (pc := 15) (tgt := 22) dX4_isDigitHere_15 (by decide) (fun c3 => ?_) (fun c3 => ?_)
    · rw [if_pos c3] at h
      refine Y_iconst C (pc := 22) (v := (0 : Int32)) (by decide) dX4_isDigitHere_22 ?_
      cases h
      exact Y_zret (by decide) C dX4_isDigitHere_23
    · rw [if_neg c3] at h
      refine Y_iconst C (pc := 18) (v := (1 : Int32)) (by decide) dX4_isDigitHere_18 ?_
      refine Y_goto C (pc := 19) (tgt := 23) dX4_isDigitHere_19 (by decide) ?_
      cases h
      exact Y_zret (by decide) C dX4_isDigitHere_23

set_option maxRecDepth 100000 in
set_option maxHeartbeats 4000000 in
theorem c_X4_readNumber {l : Launch} {D : va_G} {cA ρ : Nat → Nat} {σ : Sg} {τ : Tg} {k0 : Nat} (hI : Inj ρ) (hk0 : kd k0 = (0, 4)) {r : Int32 × Sg} (h : f_X4_readNumber σ k0 = some r) : Ct l yX4_readNumber cX4_readNumber 2 (some .int) 2 40 D cA ρ (Aw ρ) [.ref (ρ k0)] σ τ (some (.int r.1)) r.2 τ := by
  refine Ct_of (by decide +kernel) (Nat.le_of_ble_eq_true rfl) (fun p e s m args below meth c C => ?_)
  have C : Ctx p l s m args meth c cX4_readNumber RX4 2 (some .int) D cA ρ (Aw ρ) := C
  have hW : Wr ρ (Aw ρ) := ⟨hI, fun k hk => ⟨k, hk, rfl⟩⟩
  unfold f_X4_readNumber at h
  refine Y_sub [0] (lv' := [(0, .ref (ρ k0))]) rfl ?_
  have hJ61 : ∀ (j5 : Int32) (sj6 : Sg), f_X4_readNumber_J61 k0 j5 sj6 = some r → Y p l e (Rm 2 40) s m args below meth c 2 D cA ρ (Aw ρ) 0 0 (MQ below (QC D cA ρ (Aw ρ) (some (.int r.1)) r.2 τ) args s 0 0 (Aw ρ)) sj6 τ 61 [(0, .ref (ρ k0)), (1, .int j5)] [] := by
    intro j5 sj6 h
    unfold f_X4_readNumber_J61 at h
    refine Y_aload_n C (pc := 61) 0 0 rfl rfl dX4_readNumber_61 ?_
    obtain ⟨v7, hv7, h⟩ := Option.bind_eq_some_iff.mp h
    refine Y_callV C [] [] [.int v7] hk0 rfl rfl (c_X4_isDigitHere hk0 hv7) (fun _ h => h.elim) q_cw_yX4_isDigitHere q_ml_RX4_64 ⟨q_im_yX4_isDigitHere, q_se_yX4_isDigitHere⟩ ⟨⟨Nat.le_of_ble_eq_true rfl, Nat.le_of_ble_eq_true rfl⟩, ⟨Nat.zero_le _, Nat.zero_le _⟩, Nat.le_of_ble_eq_true rfl⟩ rfl rfl rfl dX4_readNumber_62 ?_
    refine Y_if_eq C (pc := 65) (tgt := 72) dX4_readNumber_65 (by decide) (fun c8 => ?_) (fun c8 => ?_)
    · rw [if_pos c8] at h
      refine Y_iload_n C (pc := 72) 1 1 rfl rfl dX4_readNumber_72 ?_
      cases h
      exact Y_iret C dX4_readNumber_73
    · rw [if_neg c8] at h
      refine Y_iconst C (pc := 68) (v := (-1 : Int32)) (by decide) dX4_readNumber_68 ?_
      refine Y_goto C (pc := 69) (tgt := 73) dX4_readNumber_69 (by decide) ?_
      cases h
      exact Y_iret C dX4_readNumber_73
  refine Y_aload_n C (pc := 0) 0 0 rfl rfl dX4_readNumber_0 ?_
  obtain ⟨v1, hv1, h⟩ := Option.bind_eq_some_iff.mp h
  refine Y_callV C [] [] [] hk0 rfl rfl (c_X4_skipSpaces hI hk0 hv1) (fun _ h => h) q_cw_yX4_skipSpaces q_ml_RX4_33 ⟨q_im_yX4_skipSpaces, q_se_yX4_skipSpaces⟩ ⟨⟨Nat.le_of_ble_eq_true rfl, Nat.le_of_ble_eq_true rfl⟩, ⟨Nat.zero_le _, Nat.zero_le _⟩, Nat.le_of_ble_eq_true rfl⟩ rfl rfl rfl dX4_readNumber_1 ?_
  refine Y_aload_n C (pc := 4) 0 0 rfl rfl dX4_readNumber_4 ?_
  obtain ⟨v2, hv2, h⟩ := Option.bind_eq_some_iff.mp h
  refine Y_callV C [] [] [.int v2] hk0 rfl rfl (c_X4_isDigitHere hk0 hv2) (fun _ h => h.elim) q_cw_yX4_isDigitHere q_ml_RX4_64 ⟨q_im_yX4_isDigitHere, q_se_yX4_isDigitHere⟩ ⟨⟨Nat.le_of_ble_eq_true rfl, Nat.le_of_ble_eq_true rfl⟩, ⟨Nat.zero_le _, Nat.zero_le _⟩, Nat.le_of_ble_eq_true rfl⟩ rfl rfl rfl dX4_readNumber_5 ?_
  refine Y_if_ne C (pc := 8) (tgt := 13) dX4_readNumber_8 (by decide) (fun c11 => ?_) (fun c11 => ?_)
  · rw [if_neg c11] at h
    refine Y_aload_n C (pc := 13) 0 0 rfl rfl dX4_readNumber_13 ?_
    obtain ⟨v3, hv3, h⟩ := Option.bind_eq_some_iff.mp h
    refine Y_callV C [] [] [.int v3] hk0 rfl rfl (c_X4_here hk0 hv3) (fun _ h => h.elim) q_cw_yX4_here q_ml_RX4_61 ⟨q_im_yX4_here, q_se_yX4_here⟩ ⟨⟨Nat.le_of_ble_eq_true rfl, Nat.le_of_ble_eq_true rfl⟩, ⟨Nat.zero_le _, Nat.zero_le _⟩, Nat.le_of_ble_eq_true rfl⟩ rfl rfl rfl dX4_readNumber_14 ?_
    refine Y_bipush C (pc := 17) (v := (48 : Int32)) (by decide) dX4_readNumber_17 ?_
    refine Y_isub C (pc := 19) dX4_readNumber_19 ?_
    refine Y_istore_n C (pc := 20) (lv' := [(1, .int (v3 - (48 : Int32))), (0, .ref (ρ k0))]) 1 rfl (by decide) rfl dX4_readNumber_20 ?_
    refine Y_aload_n C (pc := 21) 0 1 rfl rfl dX4_readNumber_21 ?_
    refine Y_dup C (pc := 22) rfl dX4_readNumber_22 ?_
    refine Y_getI C (pc := 23) hk0 q_fi_RX4_19 dX4_readNumber_23 ?_
    refine Y_iconst C (pc := 26) (v := (1 : Int32)) (by decide) dX4_readNumber_26 ?_
    refine Y_iadd C (pc := 27) dX4_readNumber_27 ?_
    refine Y_putI C (pc := 28) hW hk0 (q_lo_4 hk0) q_fp_RX4_19 dX4_readNumber_28 ?_
    refine Y_aload_n C (pc := 31) 0 1 rfl rfl dX4_readNumber_31 ?_
    obtain ⟨v4, hv4, h⟩ := Option.bind_eq_some_iff.mp h
    refine Y_callV C [] [] [.int v4] hk0 rfl rfl (c_X4_isDigitHere hk0 hv4) (fun _ h => h.elim) q_cw_yX4_isDigitHere q_ml_RX4_64 ⟨q_im_yX4_isDigitHere, q_se_yX4_isDigitHere⟩ ⟨⟨Nat.le_of_ble_eq_true rfl, Nat.le_of_ble_eq_true rfl⟩, ⟨Nat.zero_le _, Nat.zero_le _⟩, Nat.le_of_ble_eq_true rfl⟩ rfl rfl rfl dX4_readNumber_32 ?_
    refine Y_if_eq C (pc := 35) (tgt := 61) dX4_readNumber_35 (by decide) (fun c10 => ?_) (fun c10 => ?_)
    · rw [if_pos c10] at h
      exact Y_sub [1, 0] rfl (hJ61 _ _ h)
    · rw [if_neg c10] at h
      refine Y_bipush C (pc := 38) (v := (10 : Int32)) (by decide) dX4_readNumber_38 ?_
      refine Y_iload_n C (pc := 40) 1 0 rfl rfl dX4_readNumber_40 ?_
      refine Y_imul C (pc := 41) dX4_readNumber_41 ?_
      refine Y_aload_n C (pc := 42) 0 1 rfl rfl dX4_readNumber_42 ?_
      obtain ⟨v9, hv9, h⟩ := Option.bind_eq_some_iff.mp h
      refine Y_callV C [] [.int ((10 : Int32) * (v3 - (48 : Int32)))] [.int v9, .int ((10 : Int32) * (v3 - (48 : Int32)))] hk0 rfl rfl (c_X4_here hk0 hv9) (fun _ h => h.elim) q_cw_yX4_here q_ml_RX4_61 ⟨q_im_yX4_here, q_se_yX4_here⟩ ⟨⟨Nat.le_of_ble_eq_true rfl, Nat.le_of_ble_eq_true rfl⟩, ⟨Nat.zero_le _, Nat.zero_le _⟩, Nat.le_of_ble_eq_true rfl⟩ rfl rfl rfl dX4_readNumber_43 ?_
      refine Y_iadd C (pc := 46) dX4_readNumber_46 ?_
      refine Y_bipush C (pc := 47) (v := (48 : Int32)) (by decide) dX4_readNumber_47 ?_
      refine Y_isub C (pc := 49) dX4_readNumber_49 ?_
      refine Y_istore_n C (pc := 50) (lv' := [(1, .int ((((10 : Int32) * (v3 - (48 : Int32))) + v9) - (48 : Int32))), (0, .ref (ρ k0))]) 1 rfl (by decide) rfl dX4_readNumber_50 ?_
      refine Y_aload_n C (pc := 51) 0 1 rfl rfl dX4_readNumber_51 ?_
      refine Y_dup C (pc := 52) rfl dX4_readNumber_52 ?_
      refine Y_getI C (pc := 53) hk0 q_fi_RX4_19 dX4_readNumber_53 ?_
      refine Y_iconst C (pc := 56) (v := (1 : Int32)) (by decide) dX4_readNumber_56 ?_
      refine Y_iadd C (pc := 57) dX4_readNumber_57 ?_
      refine Y_putI C (pc := 58) hW hk0 (q_lo_4 hk0) q_fp_RX4_19 dX4_readNumber_58 ?_
      exact Y_sub [1, 0] rfl (hJ61 _ _ h)
  · rw [if_pos c11] at h
    refine Y_iconst C (pc := 11) (v := (-1 : Int32)) (by decide) dX4_readNumber_11 ?_
    cases h
    exact Y_iret C dX4_readNumber_12

