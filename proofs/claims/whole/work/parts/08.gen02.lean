noncomputable def f_X5_admit (σ : Sg) (τ : Tg) (k0 : Nat) (k1 : Nat) : Option (Sg × Tg) := if (σ k0 9) = (0 : Int32) then ((f_X5_pack σ k0).bind fun v5 => (f_X3_addLast σ τ (k0 + 2) v5).bind fun v6 => some (v6.1, v6.2)) else ((f_X1_load σ (k0 + 4) k1 ((k0 + 13))).bind fun v1 => (f_X1_lowest v1 (k0 + 4)).bind fun v2 => (f_X5_pack v2.2 k0).bind fun v3 => (f_X3_addOrdered v2.2 τ (k0 + 2) ((((((Int32.toInt64 v2.1) <<< (Int32.toInt64 (32 : Int32) &&& 63)) ||| ((Int32.toInt64 (v2.2 (k0 + 4) 0)) <<< (Int32.toInt64 (29 : Int32) &&& 63))) ||| ((Int32.toInt64 (v2.2 k0 11)) <<< (Int32.toInt64 (18 : Int32) &&& 63))) ||| v3))).bind fun v4 => some ((si v4.1 k0 11 ((v4.1 k0 11) + (1 : Int32))), v4.2))
set_option maxRecDepth 100000 in
set_option maxHeartbeats 4000000 in
theorem c_X5_admit {l : Launch} {D : va_G} {cA ρ : Nat → Nat} {σ : Sg} {τ : Tg} {k0 : Nat} {k1 : Nat} (hI : Inj ρ) (hk0 : kd k0 = (0, 5)) (hk1 : kd k1 = (0, 6)) {r : Sg × Tg} (h : f_X5_admit σ τ k0 k1 = some r) : Ct l yX5_admit cX5_admit 4 none 3 76 D cA ρ (Aw ρ) [.ref (ρ k0), .ref (ρ k1)] σ τ none r.1 r.2 := by
  refine Ct_of (by decide +kernel) (Nat.le_of_ble_eq_true rfl) (fun p e s m args below meth c C => ?_)
  have C : Ctx p l s m args meth c cX5_admit RX5 4 none D cA ρ (Aw ρ) := C
  have hW : Wr ρ (Aw ρ) := ⟨hI, fun k hk => ⟨k, hk, rfl⟩⟩
  unfold f_X5_admit at h
  refine Y_sub [0, 1] (lv' := [(0, .ref (ρ k0)), (1, .ref (ρ k1))]) rfl ?_
  refine Y_aload_n C (pc := 0) 0 0 rfl rfl dX5_admit_0 ?_
  refine Y_getI C (pc := 1) hk0 q_fi_RX5_79 dX5_admit_1 ?_
  refine Y_if_ne C (pc := 4) (tgt := 19) dX5_admit_4 (by decide) (fun c7 => ?_) (fun c7 => ?_)
  · rw [if_neg c7] at h
    refine Y_aload_n C (pc := 19) 0 0 rfl rfl dX5_admit_19 ?_
    refine Y_getR C (pc := 20) hk0 q_fi_RX5_25 (by decide) dX5_admit_20 ?_
    refine Y_aload_n C (pc := 23) 1 1 rfl rfl dX5_admit_23 ?_
    refine Y_aload_n C (pc := 24) 0 0 rfl rfl dX5_admit_24 ?_
    refine Y_getR C (pc := 25) hk0 q_fi_RX5_36 (by decide) dX5_admit_25 ?_
    obtain ⟨v1, hv1, h⟩ := Option.bind_eq_some_iff.mp h
    refine Y_callV C [.ref (ρ k1), .ref (ρ (k0 + 13))] [] [] (q_kr_5_13 hk0) rfl rfl (c_X1_load hI (q_kr_5_13 hk0) hk1 (q_kr_5_15 hk0) (q_lr_5_15 hk0) hv1) (fun _ h => h) q_cw_yX1_load q_ml_RX5_131 ⟨q_im_yX1_load, q_se_yX1_load⟩ ⟨⟨Nat.le_of_ble_eq_true rfl, Nat.le_of_ble_eq_true rfl⟩, ⟨Nat.zero_le _, Nat.zero_le _⟩, Nat.le_of_ble_eq_true rfl⟩ rfl rfl rfl dX5_admit_28 ?_
    refine Y_aload_n C (pc := 31) 0 0 rfl rfl dX5_admit_31 ?_
    refine Y_getR C (pc := 32) hk0 q_fi_RX5_25 (by decide) dX5_admit_32 ?_
    obtain ⟨v2, hv2, h⟩ := Option.bind_eq_some_iff.mp h
    refine Y_callV C [] [] [.int v2.1] (q_kr_5_13 hk0) rfl rfl (c_X1_lowest hI (q_kr_5_13 hk0) hv2) (fun _ h => h) q_cw_yX1_lowest q_ml_RX5_135 ⟨q_im_yX1_lowest, q_se_yX1_lowest⟩ ⟨⟨Nat.le_of_ble_eq_true rfl, Nat.le_of_ble_eq_true rfl⟩, ⟨Nat.zero_le _, Nat.zero_le _⟩, Nat.le_of_ble_eq_true rfl⟩ rfl rfl rfl dX5_admit_35 ?_
    refine Y_i2l C (pc := 38) dX5_admit_38 ?_
    refine Y_lstore_n C (pc := 39) (lv' := [(2, .long (Int32.toInt64 v2.1)), (0, .ref (ρ k0)), (1, .ref (ρ k1))]) 2 rfl (by decide) rfl dX5_admit_39 ?_
    refine Y_aload_n C (pc := 40) 0 1 rfl rfl dX5_admit_40 ?_
    refine Y_getR C (pc := 41) hk0 q_fi_RX5_18 (by decide) dX5_admit_41 ?_
    refine Y_lload_n C (pc := 44) 2 0 rfl rfl dX5_admit_44 ?_
    refine Y_bipush C (pc := 45) (v := (32 : Int32)) (by decide) dX5_admit_45 ?_
    refine Y_lshl C (pc := 47) dX5_admit_47 ?_
    refine Y_aload_n C (pc := 48) 0 1 rfl rfl dX5_admit_48 ?_
    refine Y_getR C (pc := 49) hk0 q_fi_RX5_25 (by decide) dX5_admit_49 ?_
    refine Y_getI C (pc := 52) (q_kr_5_13 hk0) q_fi_RX5_139 dX5_admit_52 ?_
    refine Y_i2l C (pc := 55) dX5_admit_55 ?_
    refine Y_bipush C (pc := 56) (v := (29 : Int32)) (by decide) dX5_admit_56 ?_
    refine Y_lshl C (pc := 58) dX5_admit_58 ?_
    refine Y_lor C (pc := 59) dX5_admit_59 ?_
    refine Y_aload_n C (pc := 60) 0 1 rfl rfl dX5_admit_60 ?_
    refine Y_getI C (pc := 61) hk0 q_fi_RX5_112 dX5_admit_61 ?_
    refine Y_i2l C (pc := 64) dX5_admit_64 ?_
    refine Y_bipush C (pc := 65) (v := (18 : Int32)) (by decide) dX5_admit_65 ?_
    refine Y_lshl C (pc := 67) dX5_admit_67 ?_
    refine Y_lor C (pc := 68) dX5_admit_68 ?_
    refine Y_aload_n C (pc := 69) 0 1 rfl rfl dX5_admit_69 ?_
    obtain ⟨v3, hv3, h⟩ := Option.bind_eq_some_iff.mp h
    refine Y_callV C [] [.long ((((Int32.toInt64 v2.1) <<< (Int32.toInt64 (32 : Int32) &&& 63)) ||| ((Int32.toInt64 (v2.2 (k0 + 4) 0)) <<< (Int32.toInt64 (29 : Int32) &&& 63))) ||| ((Int32.toInt64 (v2.2 k0 11)) <<< (Int32.toInt64 (18 : Int32) &&& 63))), .ref (ρ (k0 + 2))] [.long v3, .long ((((Int32.toInt64 v2.1) <<< (Int32.toInt64 (32 : Int32) &&& 63)) ||| ((Int32.toInt64 (v2.2 (k0 + 4) 0)) <<< (Int32.toInt64 (29 : Int32) &&& 63))) ||| ((Int32.toInt64 (v2.2 k0 11)) <<< (Int32.toInt64 (18 : Int32) &&& 63))), .ref (ρ (k0 + 2))] hk0 rfl rfl (c_X5_pack hk0 hv3) (fun _ h => h.elim) q_cw_yX5_pack q_ml_RX5_125 ⟨q_im_yX5_pack, q_se_yX5_pack⟩ ⟨⟨Nat.le_of_ble_eq_true rfl, Nat.le_of_ble_eq_true rfl⟩, ⟨Nat.zero_le _, Nat.zero_le _⟩, Nat.le_of_ble_eq_true rfl⟩ rfl rfl rfl dX5_admit_70 ?_
    refine Y_lor C (pc := 73) dX5_admit_73 ?_
    obtain ⟨v4, hv4, h⟩ := Option.bind_eq_some_iff.mp h
    refine Y_callV C [.long (((((Int32.toInt64 v2.1) <<< (Int32.toInt64 (32 : Int32) &&& 63)) ||| ((Int32.toInt64 (v2.2 (k0 + 4) 0)) <<< (Int32.toInt64 (29 : Int32) &&& 63))) ||| ((Int32.toInt64 (v2.2 k0 11)) <<< (Int32.toInt64 (18 : Int32) &&& 63))) ||| v3)] [] [] (q_kr_5_12 hk0) rfl rfl (c_X3_addOrdered hI (q_kr_5_12 hk0) hv4) (fun _ h => h) q_cw_yX3_addOrdered q_ml_RX5_142 ⟨q_im_yX3_addOrdered, q_se_yX3_addOrdered⟩ ⟨⟨Nat.le_of_ble_eq_true rfl, Nat.le_of_ble_eq_true rfl⟩, ⟨Nat.zero_le _, Nat.zero_le _⟩, Nat.le_of_ble_eq_true rfl⟩ rfl rfl rfl dX5_admit_74 ?_
    refine Y_aload_n C (pc := 77) 0 1 rfl rfl dX5_admit_77 ?_
    refine Y_dup C (pc := 78) rfl dX5_admit_78 ?_
    refine Y_getI C (pc := 79) hk0 q_fi_RX5_112 dX5_admit_79 ?_
    refine Y_iconst C (pc := 82) (v := (1 : Int32)) (by decide) dX5_admit_82 ?_
    refine Y_iadd C (pc := 83) dX5_admit_83 ?_
    refine Y_putI C (pc := 84) hW hk0 (q_lo_5 hk0) q_fp_RX5_112 dX5_admit_84 ?_
    cases h
    exact Y_vret C dX5_admit_87
  · rw [if_pos c7] at h
    refine Y_aload_n C (pc := 7) 0 0 rfl rfl dX5_admit_7 ?_
    refine Y_getR C (pc := 8) hk0 q_fi_RX5_18 (by decide) dX5_admit_8 ?_
    refine Y_aload_n C (pc := 11) 0 0 rfl rfl dX5_admit_11 ?_
    obtain ⟨v5, hv5, h⟩ := Option.bind_eq_some_iff.mp h
    refine Y_callV C [] [.ref (ρ (k0 + 2))] [.long v5, .ref (ρ (k0 + 2))] hk0 rfl rfl (c_X5_pack hk0 hv5) (fun _ h => h.elim) q_cw_yX5_pack q_ml_RX5_125 ⟨q_im_yX5_pack, q_se_yX5_pack⟩ ⟨⟨Nat.le_of_ble_eq_true rfl, Nat.le_of_ble_eq_true rfl⟩, ⟨Nat.zero_le _, Nat.zero_le _⟩, Nat.le_of_ble_eq_true rfl⟩ rfl rfl rfl dX5_admit_12 ?_
    obtain ⟨v6, hv6, h⟩ := Option.bind_eq_some_iff.mp h
    refine Y_callV C [.long v5] [] [] (q_kr_5_12 hk0) rfl rfl (c_X3_addLast hI (q_kr_5_12 hk0) hv6) (fun _ h => h) q_cw_yX3_addLast q_ml_RX5_128 ⟨q_im_yX3_addLast, q_se_yX3_addLast⟩ ⟨⟨Nat.le_of_ble_eq_true rfl, Nat.le_of_ble_eq_true rfl⟩, ⟨Nat.zero_le _, Nat.zero_le _⟩, Nat.le_of_ble_eq_true rfl⟩ rfl rfl rfl dX5_admit_15 ?_
    cases h
    exact Y_vret C dX5_admit_18

noncomputable def f_X5_unpack_J38 (k0 : Nat) (j2 : Int32) (j3 : Int32) (j4 : Int32) (sj5 : Sg) : Option ((Int32 × Sg) ⊕ (Sg)) := (ast sj5 (k0 + 13) j4 j3).bind fun s6 => some (.inl ((j2 + 1), s6))
noncomputable def f_X5_unpack_L2 (l1 : Int64) (k0 : Nat) : (Int32 × Sg) → Option ((Int32 × Sg) ⊕ (Sg)) := fun s1 => if (6 : Int32) ≤ s1.1 then (some (.inr s1.2)) else (if (Int64.toInt32 ((l1 >>> (Int32.toInt64 ((3 : Int32) * s1.1) &&& 63)) &&& (7 : Int64))) = (7 : Int32) then (f_X5_unpack_J38 k0 s1.1 ((-1 : Int32)) s1.1 s1.2) else (f_X5_unpack_J38 k0 s1.1 ((Int64.toInt32 ((l1 >>> (Int32.toInt64 ((3 : Int32) * s1.1) &&& 63)) &&& (7 : Int64)))) s1.1 s1.2))
noncomputable def f_X5_unpack (σ : Sg) (k0 : Nat) (l1 : Int64) : Option (Sg) := (lo (f_X5_unpack_L2 l1 k0) ((0 : Int32), σ)).bind fun e9 => some e9
set_option maxRecDepth 100000 in
set_option maxHeartbeats 4000000 in
theorem c_X5_unpack {l : Launch} {D : va_G} {cA ρ : Nat → Nat} {σ : Sg} {τ : Tg} {k0 : Nat} {l1 : Int64} (hI : Inj ρ) (hk0 : kd k0 = (0, 5)) {r : Sg} (h : f_X5_unpack σ k0 l1 = some r) : Ct l yX5_unpack cX5_unpack 5 none 0 0 D cA ρ (Aw ρ) [.ref (ρ k0), .long l1] σ τ none r τ := by
  refine Ct_of (by decide +kernel) (Nat.le_of_ble_eq_true rfl) (fun p e s m args below meth c C => ?_)
  have C : Ctx p l s m args meth c cX5_unpack RX5 5 none D cA ρ (Aw ρ) := C
  have hW : Wr ρ (Aw ρ) := ⟨hI, fun k hk => ⟨k, hk, rfl⟩⟩
  unfold f_X5_unpack at h
  refine Y_sub [0, 1] (lv' := [(0, .ref (ρ k0)), (1, .long l1)]) rfl ?_
  refine Y_iconst C (pc := 0) (v := (0 : Int32)) (by decide) dX5_unpack_0 ?_
  refine Y_istore_n C (pc := 1) (lv' := [(3, .int (0 : Int32)), (0, .ref (ρ k0)), (1, .long l1)]) 3 rfl (by decide) rfl dX5_unpack_1 ?_
  obtain ⟨e9, he9, h⟩ := Option.bind_eq_some_iff.mp h
  refine Y_sub [1, 2, 0] (lv' := [(0, .ref (ρ k0)), (1, .long l1), (3, .int (0 : Int32))]) rfl ?_
  refine lo_rule (f := (f_X5_unpack_L2 l1 k0)) (YS := fun s1 => Y p l e (Rm 0 0) s m args below meth c 5 D cA ρ (Aw ρ) 0 0 (MQ below (QC D cA ρ (Aw ρ) none r τ) args s 0 0 (Aw ρ)) s1.2 τ 2 [(0, .ref (ρ k0)), (1, .long l1), (3, .int s1.1)] []) (YE := fun e9 => Y p l e (Rm 0 0) s m args below meth c 5 D cA ρ (Aw ρ) 0 0 (MQ below (QC D cA ρ (Aw ρ) none r τ) args s 0 0 (Aw ρ)) e9 τ 45 [] []) ?_ he9 ?_
  · intro s1 x h hLp hE
    unfold f_X5_unpack_L2 at h
    have hJ38 : ∀ (j2 : Int32) (j3 : Int32) (j4 : Int32) (sj5 : Sg), f_X5_unpack_J38 k0 j2 j3 j4 sj5 = some x → Y p l e (Rm 0 0) s m args below meth c 5 D cA ρ (Aw ρ) 0 0 (MQ below (QC D cA ρ (Aw ρ) none r τ) args s 0 0 (Aw ρ)) sj5 τ 38 [(0, .ref (ρ k0)), (1, .long l1), (3, .int j2)] [.int j3, .int j4, .ref (ρ (k0 + 13))] := by
      intro j2 j3 j4 sj5 h
      unfold f_X5_unpack_J38 at h
      obtain ⟨s6, hs6, h⟩ := Option.bind_eq_some_iff.mp h
      refine Y_iast C (pc := 38) hW (q_kr_5_15 hk0) (q_lr_5_15 hk0) hs6 dX5_unpack_38 ?_
      refine Y_iinc C (pc := 39) (v := (j2 + 1)) (lv' := [(3, .int (j2 + 1)), (0, .ref (ρ k0)), (1, .long l1)]) 2 rfl (congrArg (fun z => j2 + z) (by decide : Int32.ofInt (1) = (1))) (by decide) rfl dX5_unpack_39 ?_
      refine Y_goto C (pc := 42) (tgt := 2) dX5_unpack_42 (by decide) ?_
      have h := Option.some.inj h
      exact Y_sub [1, 2, 0] rfl (hLp _ h.symm)
    refine Y_iload_n C (pc := 2) 3 2 rfl rfl dX5_unpack_2 ?_
    refine Y_bipush C (pc := 3) (v := (6 : Int32)) (by decide) dX5_unpack_3 ?_
    refine Y_icmp_ge C (pc := 5) (tgt := 45) dX5_unpack_5 (by decide) (fun c8 => ?_) (fun c8 => ?_)
    · rw [if_pos c8] at h
      have h := Option.some.inj h
      exact Y_sub [] rfl (hE _ h.symm)
    · rw [if_neg c8] at h
      refine Y_lload_n C (pc := 8) 1 1 rfl rfl dX5_unpack_8 ?_
      refine Y_iconst C (pc := 9) (v := (3 : Int32)) (by decide) dX5_unpack_9 ?_
      refine Y_iload_n C (pc := 10) 3 2 rfl rfl dX5_unpack_10 ?_
      refine Y_imul C (pc := 11) dX5_unpack_11 ?_
      refine Y_lshr C (pc := 12) dX5_unpack_12 ?_
      refine Y_ldc2 C (pc := 13) q_ct_RX5_145 dX5_unpack_13 ?_
      refine Y_land C (pc := 16) dX5_unpack_16 ?_
      refine Y_l2i C (pc := 17) dX5_unpack_17 ?_
      refine Y_istore C (pc := 18) (lv' := [(4, .int (Int64.toInt32 ((l1 >>> (Int32.toInt64 ((3 : Int32) * s1.1) &&& 63)) &&& (7 : Int64)))), (0, .ref (ρ k0)), (1, .long l1), (3, .int s1.1)]) (by decide) rfl dX5_unpack_18 ?_
      refine Y_aload_n C (pc := 20) 0 1 rfl rfl dX5_unpack_20 ?_
      refine Y_getR C (pc := 21) hk0 q_fi_RX5_36 (by decide) dX5_unpack_21 ?_
      refine Y_iload_n C (pc := 24) 3 3 rfl rfl dX5_unpack_24 ?_
      refine Y_iload C (pc := 25) 0 rfl dX5_unpack_25 ?_
      refine Y_bipush C (pc := 27) (v := (7 : Int32)) (by decide) dX5_unpack_27 ?_
      refine Y_icmp_ne C (pc := 29) (tgt := 36) dX5_unpack_29 (by decide) (fun c7 => ?_) (fun c7 => ?_)
      · rw [if_neg c7] at h
        refine Y_iload C (pc := 36) 0 rfl dX5_unpack_36 ?_
        exact Y_sub [1, 2, 3] rfl (hJ38 _ _ _ _ h)
      · rw [if_pos c7] at h
        refine Y_iconst C (pc := 32) (v := (-1 : Int32)) (by decide) dX5_unpack_32 ?_
        refine Y_goto C (pc := 33) (tgt := 38) dX5_unpack_33 (by decide) ?_
        exact Y_sub [1, 2, 3] rfl (hJ38 _ _ _ _ h)
  · cases h
    exact Y_vret C dX5_unpack_45

noncomputable def f_X8_numberOf_J40 (j5 : Int32) (j6 : Int32) : Option ((Int32 × Int32) ⊕ (Int32)) := some (.inl (j5, (j6 + 1)))
noncomputable def f_X8_numberOf_L17 (i1 : Int32) (σ : Sg) (k0 : Nat) (s1 : Int32 × Int32) : (Int32 × Int32) → Option ((Int32 × Int32) ⊕ (Int32)) := fun s2 => if i1 ≤ s2.2 then (some (.inr s2.1)) else ((f_X8_item σ k0 s2.2).bind fun v3 => (f_X8_item σ k0 s1.2).bind fun v4 => if v4 ≤ v3 then (f_X8_numberOf_J40 s2.1 s2.2) else (f_X8_numberOf_J40 ((s2.1 + 1)) s2.2))
noncomputable def f_X8_numberOf_L4 (i1 : Int32) (σ : Sg) (k0 : Nat) : (Int32 × Int32) → Option ((Int32 × Int32) ⊕ (Int32)) := fun s1 => if i1 ≤ s1.2 then (some (.inr s1.1)) else ((lo (f_X8_numberOf_L17 i1 σ k0 s1) ((0 : Int32), (s1.2 + (1 : Int32)))).bind fun e9 => (f_X8_factorial σ (((i1 - (1 : Int32)) - s1.2))).bind fun v10 => some (.inl ((s1.1 + (e9 * v10)), (s1.2 + 1))))
noncomputable def f_X8_numberOf (σ : Sg) (k0 : Nat) (i1 : Int32) : Option (Int32) := (lo (f_X8_numberOf_L4 i1 σ k0) ((0 : Int32), (0 : Int32))).bind fun e12 => some e12
set_option maxRecDepth 100000 in
set_option maxHeartbeats 4000000 in
theorem c_X8_numberOf {l : Launch} {D : va_G} {cA ρ : Nat → Nat} {σ : Sg} {τ : Tg} {k0 : Nat} {i1 : Int32} (hk0 : (kd k0).1 = 1) {r : Int32} (h : f_X8_numberOf σ k0 i1 = some r) : Ct l yX8_numberOf cX8_numberOf 6 (some .int) 2 41 D cA ρ A0 [.ref (ρ k0), .int i1] σ τ (some (.int r)) σ τ := by
  refine Ct_of (by decide +kernel) (Nat.le_of_ble_eq_true rfl) (fun p e s m args below meth c C => ?_)
  have C : Ctx p l s m args meth c cX8_numberOf RX8 6 (some .int) D cA ρ A0 := C
  unfold f_X8_numberOf at h
  refine Y_sub [0, 1] (lv' := [(0, .ref (ρ k0)), (1, .int i1)]) rfl ?_
  refine Y_iconst C (pc := 0) (v := (0 : Int32)) (by decide) dX8_numberOf_0 ?_
  refine Y_istore_n C (pc := 1) (lv' := [(2, .int (0 : Int32)), (0, .ref (ρ k0)), (1, .int i1)]) 2 rfl (by decide) rfl dX8_numberOf_1 ?_
  refine Y_iconst C (pc := 2) (v := (0 : Int32)) (by decide) dX8_numberOf_2 ?_
  refine Y_istore_n C (pc := 3) (lv' := [(3, .int (0 : Int32)), (2, .int (0 : Int32)), (0, .ref (ρ k0)), (1, .int i1)]) 3 rfl (by decide) rfl dX8_numberOf_3 ?_
  obtain ⟨e12, he12, h⟩ := Option.bind_eq_some_iff.mp h
  refine Y_sub [2, 3, 1, 0] (lv' := [(0, .ref (ρ k0)), (1, .int i1), (2, .int (0 : Int32)), (3, .int (0 : Int32))]) rfl ?_
  refine lo_rule (f := (f_X8_numberOf_L4 i1 σ k0)) (YS := fun s1 => Y p l e (Rm 2 41) s m args below meth c 6 D cA ρ A0 0 0 (MQ below (QC D cA ρ A0 (some (.int r)) σ τ) args s 0 0 A0) σ τ 4 [(0, .ref (ρ k0)), (1, .int i1), (2, .int s1.1), (3, .int s1.2)] []) (YE := fun e12 => Y p l e (Rm 2 41) s m args below meth c 6 D cA ρ A0 0 0 (MQ below (QC D cA ρ A0 (some (.int r)) σ τ) args s 0 0 A0) σ τ 66 [(2, .int e12)] []) ?_ he12 ?_
  · intro s1 x h hLp hE
    unfold f_X8_numberOf_L4 at h
    refine Y_iload_n C (pc := 4) 3 3 rfl rfl dX8_numberOf_4 ?_
    refine Y_iload_n C (pc := 5) 1 1 rfl rfl dX8_numberOf_5 ?_
    refine Y_icmp_ge C (pc := 6) (tgt := 66) dX8_numberOf_6 (by decide) (fun c11 => ?_) (fun c11 => ?_)
    · rw [if_pos c11] at h
      have h := Option.some.inj h
      exact Y_sub [2] rfl (hE _ h.symm)
    · rw [if_neg c11] at h
      refine Y_iconst C (pc := 9) (v := (0 : Int32)) (by decide) dX8_numberOf_9 ?_
      refine Y_istore C (pc := 10) (lv' := [(4, .int (0 : Int32)), (0, .ref (ρ k0)), (1, .int i1), (2, .int s1.1), (3, .int s1.2)]) (by decide) rfl dX8_numberOf_10 ?_
      refine Y_iload_n C (pc := 12) 3 4 rfl rfl dX8_numberOf_12 ?_
      refine Y_iconst C (pc := 13) (v := (1 : Int32)) (by decide) dX8_numberOf_13 ?_
      refine Y_iadd C (pc := 14) dX8_numberOf_14 ?_
      refine Y_istore C (pc := 15) (lv' := [(5, .int (s1.2 + (1 : Int32))), (4, .int (0 : Int32)), (0, .ref (ρ k0)), (1, .int i1), (2, .int s1.1), (3, .int s1.2)]) (by decide) rfl dX8_numberOf_15 ?_
      obtain ⟨e9, he9, h⟩ := Option.bind_eq_some_iff.mp h
      refine Y_sub [2, 3, 4, 5, 1, 0] (lv' := [(0, .ref (ρ k0)), (1, .int i1), (2, .int s1.1), (3, .int s1.2), (4, .int (0 : Int32)), (5, .int (s1.2 + (1 : Int32)))]) rfl ?_
      refine lo_rule (f := (f_X8_numberOf_L17 i1 σ k0 s1)) (YS := fun s2 => Y p l e (Rm 2 41) s m args below meth c 6 D cA ρ A0 0 0 (MQ below (QC D cA ρ A0 (some (.int r)) σ τ) args s 0 0 A0) σ τ 17 [(0, .ref (ρ k0)), (1, .int i1), (2, .int s1.1), (3, .int s1.2), (4, .int s2.1), (5, .int s2.2)] []) (YE := fun e9 => Y p l e (Rm 2 41) s m args below meth c 6 D cA ρ A0 0 0 (MQ below (QC D cA ρ A0 (some (.int r)) σ τ) args s 0 0 A0) σ τ 46 [(0, .ref (ρ k0)), (1, .int i1), (2, .int s1.1), (3, .int s1.2), (4, .int e9)] []) ?_ he9 ?_
      · intro s2 x h hLp hE
        unfold f_X8_numberOf_L17 at h
        have hJ40 : ∀ (j5 : Int32) (j6 : Int32), f_X8_numberOf_J40 j5 j6 = some x → Y p l e (Rm 2 41) s m args below meth c 6 D cA ρ A0 0 0 (MQ below (QC D cA ρ A0 (some (.int r)) σ τ) args s 0 0 A0) σ τ 40 [(0, .ref (ρ k0)), (1, .int i1), (2, .int s1.1), (3, .int s1.2), (4, .int j5), (5, .int j6)] [] := by
          intro j5 j6 h
          unfold f_X8_numberOf_J40 at h
          refine Y_iinc C (pc := 40) (v := (j6 + 1)) (lv' := [(5, .int (j6 + 1)), (0, .ref (ρ k0)), (1, .int i1), (2, .int s1.1), (3, .int s1.2), (4, .int j5)]) 5 rfl (congrArg (fun z => j6 + z) (by decide : Int32.ofInt (1) = (1))) (by decide) rfl dX8_numberOf_40 ?_
          refine Y_goto C (pc := 43) (tgt := 17) dX8_numberOf_43 (by decide) ?_
          have h := Option.some.inj h
          exact Y_sub [1, 2, 3, 4, 5, 0] rfl (hLp _ h.symm)
        refine Y_iload C (pc := 17) 5 rfl dX8_numberOf_17 ?_
        refine Y_iload_n C (pc := 19) 1 1 rfl rfl dX8_numberOf_19 ?_
        refine Y_icmp_ge C (pc := 20) (tgt := 46) dX8_numberOf_20 (by decide) (fun c8 => ?_) (fun c8 => ?_)
        · rw [if_pos c8] at h
          have h := Option.some.inj h
          exact Y_sub [0, 1, 2, 3, 4] rfl (hE _ h.symm)
        · rw [if_neg c8] at h
          refine Y_aload_n C (pc := 23) 0 0 rfl rfl dX8_numberOf_23 ?_
          refine Y_iload C (pc := 24) 5 rfl dX8_numberOf_24 ?_
          obtain ⟨v3, hv3, h⟩ := Option.bind_eq_some_iff.mp h
          refine Y_callS C [.ref (ρ k0), .int s2.2] [] [.int v3] (c_X8_item hk0 hv3) (fun _ h => h.elim) q_cw_yX8_item q_ml_RX8_119 q_st_yX8_item ⟨⟨Nat.le_of_ble_eq_true rfl, Nat.le_of_ble_eq_true rfl⟩, ⟨Nat.zero_le _, Nat.zero_le _⟩, Nat.le_of_ble_eq_true rfl⟩ rfl rfl rfl dX8_numberOf_26 ?_
          refine Y_aload_n C (pc := 29) 0 0 rfl rfl dX8_numberOf_29 ?_
          refine Y_iload_n C (pc := 30) 3 3 rfl rfl dX8_numberOf_30 ?_
          obtain ⟨v4, hv4, h⟩ := Option.bind_eq_some_iff.mp h
          refine Y_callS C [.ref (ρ k0), .int s1.2] [.int v3] [.int v4, .int v3] (c_X8_item hk0 hv4) (fun _ h => h.elim) q_cw_yX8_item q_ml_RX8_119 q_st_yX8_item ⟨⟨Nat.le_of_ble_eq_true rfl, Nat.le_of_ble_eq_true rfl⟩, ⟨Nat.zero_le _, Nat.zero_le _⟩, Nat.le_of_ble_eq_true rfl⟩ rfl rfl rfl dX8_numberOf_31 ?_
          refine Y_icmp_ge C (pc := 34) (tgt := 40) dX8_numberOf_34 (by decide) (fun c7 => ?_) (fun c7 => ?_)
          · rw [if_pos c7] at h
            exact Y_sub [0, 1, 2, 3, 4, 5] rfl (hJ40 _ _ h)
          · rw [if_neg c7] at h
            refine Y_iinc C (pc := 37) (v := (s2.1 + 1)) (lv' := [(4, .int (s2.1 + 1)), (0, .ref (ρ k0)), (1, .int i1), (2, .int s1.1), (3, .int s1.2), (5, .int s2.2)]) 4 rfl (congrArg (fun z => s2.1 + z) (by decide : Int32.ofInt (1) = (1))) (by decide) rfl dX8_numberOf_37 ?_
            exact Y_sub [1, 2, 3, 4, 0, 5] rfl (hJ40 _ _ h)
      · refine Y_iload_n C (pc := 46) 2 2 rfl rfl dX8_numberOf_46 ?_
        refine Y_iload C (pc := 47) 4 rfl dX8_numberOf_47 ?_
        refine Y_iload_n C (pc := 49) 1 1 rfl rfl dX8_numberOf_49 ?_
        refine Y_iconst C (pc := 50) (v := (1 : Int32)) (by decide) dX8_numberOf_50 ?_
        refine Y_isub C (pc := 51) dX8_numberOf_51 ?_
        refine Y_iload_n C (pc := 52) 3 3 rfl rfl dX8_numberOf_52 ?_
        refine Y_isub C (pc := 53) dX8_numberOf_53 ?_
        obtain ⟨v10, hv10, h⟩ := Option.bind_eq_some_iff.mp h
        refine Y_callS C [.int ((i1 - (1 : Int32)) - s1.2)] [.int e9, .int s1.1] [.int v10, .int e9, .int s1.1] (c_X8_factorial  hv10) (fun _ h => h.elim) q_cw_yX8_factorial q_ml_RX8_126 q_st_yX8_factorial ⟨⟨Nat.le_of_ble_eq_true rfl, Nat.le_of_ble_eq_true rfl⟩, ⟨Nat.zero_le _, Nat.zero_le _⟩, Nat.le_of_ble_eq_true rfl⟩ rfl rfl rfl dX8_numberOf_54 ?_
        refine Y_imul C (pc := 57) dX8_numberOf_57 ?_
        refine Y_iadd C (pc := 58) dX8_numberOf_58 ?_
        refine Y_istore_n C (pc := 59) (lv' := [(2, .int (s1.1 + (e9 * v10))), (0, .ref (ρ k0)), (1, .int i1), (3, .int s1.2), (4, .int e9)]) 2 rfl (by decide) rfl dX8_numberOf_59 ?_
        refine Y_iinc C (pc := 60) (v := (s1.2 + 1)) (lv' := [(3, .int (s1.2 + 1)), (2, .int (s1.1 + (e9 * v10))), (0, .ref (ρ k0)), (1, .int i1), (4, .int e9)]) 3 rfl (congrArg (fun z => s1.2 + z) (by decide : Int32.ofInt (1) = (1))) (by decide) rfl dX8_numberOf_60 ?_
        refine Y_goto C (pc := 63) (tgt := 4) dX8_numberOf_63 (by decide) ?_
        have h := Option.some.inj h
        exact Y_sub [2, 3, 1, 0] rfl (hLp _ h.symm)
  · refine Y_iload_n C (pc := 66) 2 0 rfl rfl dX8_numberOf_66 ?_
    cases h
    exact Y_iret C dX8_numberOf_67

noncomputable def f_X5_visit (σ : Sg) (k0 : Nat) (k1 : Nat) : Option (Int32 × Sg) := (f_X1_load σ (k0 + 4) k1 ((k0 + 13))).bind fun v1 => (f_X1_lowest v1 (k0 + 4)).bind fun v2 => (f_X8_item ((si v2.2 k0 1 ((v2.2 k0 1) + (1 : Int32)))) ((k0 + 1)) (((v2.2 k1 0) - (v2.2 (k0 + 4) 0)))).bind fun v3 => (f_X8_setItem ((si v2.2 k0 1 ((v2.2 k0 1) + (1 : Int32)))) ((k0 + 1)) (((v2.2 k1 0) - (v2.2 (k0 + 4) 0))) ((v3 + (1 : Int32)))).bind fun v4 => if v2.1 < (v4 k0 3) then (if (v4 (k0 + 4) 0) ≤ (0 : Int32) then ((f_X8_numberOf ((si v4 k0 3 v2.1)) ((k0 + 13)) ((((si v4 k0 3 v2.1)) k1 0))).bind fun v5 => some ((0 : Int32), (si ((si ((si v4 k0 3 v2.1)) k0 4 v5)) k0 6 ((((si ((si v4 k0 3 v2.1)) k0 4 v5)) k0 6) + (1 : Int32))))) else (some ((1 : Int32), v4))) else (some ((0 : Int32), (si v4 k0 5 ((v4 k0 5) + (1 : Int32)))))
set_option maxRecDepth 100000 in
set_option maxHeartbeats 4000000 in
theorem c_X5_visit {l : Launch} {D : va_G} {cA ρ : Nat → Nat} {σ : Sg} {τ : Tg} {k0 : Nat} {k1 : Nat} (hI : Inj ρ) (hk0 : kd k0 = (0, 5)) (hk1 : kd k1 = (0, 6)) {r : Int32 × Sg} (h : f_X5_visit σ k0 k1 = some r) : Ct l yX5_visit cX5_visit 4 (some .boolean) 3 76 D cA ρ (Aw ρ) [.ref (ρ k0), .ref (ρ k1)] σ τ (some (.int r.1)) r.2 τ := by
  refine Ct_of (by decide +kernel) (Nat.le_of_ble_eq_true rfl) (fun p e s m args below meth c C => ?_)
  have C : Ctx p l s m args meth c cX5_visit RX5 4 (some .boolean) D cA ρ (Aw ρ) := C
  have hW : Wr ρ (Aw ρ) := ⟨hI, fun k hk => ⟨k, hk, rfl⟩⟩
  unfold f_X5_visit at h
  refine Y_sub [0, 1] (lv' := [(0, .ref (ρ k0)), (1, .ref (ρ k1))]) rfl ?_
  refine Y_aload_n C (pc := 0) 0 0 rfl rfl dX5_visit_0 ?_
  refine Y_getR C (pc := 1) hk0 q_fi_RX5_25 (by decide) dX5_visit_1 ?_
  refine Y_aload_n C (pc := 4) 1 1 rfl rfl dX5_visit_4 ?_
  refine Y_aload_n C (pc := 5) 0 0 rfl rfl dX5_visit_5 ?_
  refine Y_getR C (pc := 6) hk0 q_fi_RX5_36 (by decide) dX5_visit_6 ?_
  obtain ⟨v1, hv1, h⟩ := Option.bind_eq_some_iff.mp h
  refine Y_callV C [.ref (ρ k1), .ref (ρ (k0 + 13))] [] [] (q_kr_5_13 hk0) rfl rfl (c_X1_load hI (q_kr_5_13 hk0) hk1 (q_kr_5_15 hk0) (q_lr_5_15 hk0) hv1) (fun _ h => h) q_cw_yX1_load q_ml_RX5_131 ⟨q_im_yX1_load, q_se_yX1_load⟩ ⟨⟨Nat.le_of_ble_eq_true rfl, Nat.le_of_ble_eq_true rfl⟩, ⟨Nat.zero_le _, Nat.zero_le _⟩, Nat.le_of_ble_eq_true rfl⟩ rfl rfl rfl dX5_visit_9 ?_
  refine Y_aload_n C (pc := 12) 0 0 rfl rfl dX5_visit_12 ?_
  refine Y_getR C (pc := 13) hk0 q_fi_RX5_25 (by decide) dX5_visit_13 ?_
  obtain ⟨v2, hv2, h⟩ := Option.bind_eq_some_iff.mp h
  refine Y_callV C [] [] [.int v2.1] (q_kr_5_13 hk0) rfl rfl (c_X1_lowest hI (q_kr_5_13 hk0) hv2) (fun _ h => h) q_cw_yX1_lowest q_ml_RX5_135 ⟨q_im_yX1_lowest, q_se_yX1_lowest⟩ ⟨⟨Nat.le_of_ble_eq_true rfl, Nat.le_of_ble_eq_true rfl⟩, ⟨Nat.zero_le _, Nat.zero_le _⟩, Nat.le_of_ble_eq_true rfl⟩ rfl rfl rfl dX5_visit_16 ?_
  refine Y_istore_n C (pc := 19) (lv' := [(2, .int v2.1), (0, .ref (ρ k0)), (1, .ref (ρ k1))]) 2 rfl (by decide) rfl dX5_visit_19 ?_
  refine Y_aload_n C (pc := 20) 1 2 rfl rfl dX5_visit_20 ?_
  refine Y_getI C (pc := 21) hk1 q_fi_RX5_106 dX5_visit_21 ?_
  refine Y_aload_n C (pc := 24) 0 1 rfl rfl dX5_visit_24 ?_
  refine Y_getR C (pc := 25) hk0 q_fi_RX5_25 (by decide) dX5_visit_25 ?_
  refine Y_getI C (pc := 28) (q_kr_5_13 hk0) q_fi_RX5_139 dX5_visit_28 ?_
  refine Y_isub C (pc := 31) dX5_visit_31 ?_
  refine Y_istore_n C (pc := 32) (lv' := [(3, .int ((v2.2 k1 0) - (v2.2 (k0 + 4) 0))), (2, .int v2.1), (0, .ref (ρ k0)), (1, .ref (ρ k1))]) 3 rfl (by decide) rfl dX5_visit_32 ?_
  refine Y_aload_n C (pc := 33) 0 2 rfl rfl dX5_visit_33 ?_
  refine Y_dup C (pc := 34) rfl dX5_visit_34 ?_
  refine Y_getI C (pc := 35) hk0 q_fi_RX5_53 dX5_visit_35 ?_
  refine Y_iconst C (pc := 38) (v := (1 : Int32)) (by decide) dX5_visit_38 ?_
  refine Y_iadd C (pc := 39) dX5_visit_39 ?_
  refine Y_putI C (pc := 40) hW hk0 (q_lo_5 hk0) q_fp_RX5_53 dX5_visit_40 ?_
  refine Y_aload_n C (pc := 43) 0 2 rfl rfl dX5_visit_43 ?_
  refine Y_getR C (pc := 44) hk0 q_fi_RX5_9 (by decide) dX5_visit_44 ?_
  refine Y_iload_n C (pc := 47) 3 0 rfl rfl dX5_visit_47 ?_
  refine Y_aload_n C (pc := 48) 0 2 rfl rfl dX5_visit_48 ?_
  refine Y_getR C (pc := 49) hk0 q_fi_RX5_9 (by decide) dX5_visit_49 ?_
  refine Y_iload_n C (pc := 52) 3 0 rfl rfl dX5_visit_52 ?_
  obtain ⟨v3, hv3, h⟩ := Option.bind_eq_some_iff.mp h
  refine Y_callSN C [.ref (ρ (k0 + 1)), .int ((v2.2 k1 0) - (v2.2 (k0 + 4) 0))] [.int ((v2.2 k1 0) - (v2.2 (k0 + 4) 0)), .ref (ρ (k0 + 1))] [.int v3, .int ((v2.2 k1 0) - (v2.2 (k0 + 4) 0)), .ref (ρ (k0 + 1))] (c_X8_item (q_kr_5_2 hk0) hv3) (fun _ h => h.elim) q_cw_yX8_item q_mn_RX5_147 q_st_yX8_item ⟨⟨Nat.le_of_ble_eq_true rfl, Nat.le_of_ble_eq_true rfl⟩, ⟨Nat.zero_le _, Nat.zero_le _⟩, Nat.le_of_ble_eq_true rfl⟩ rfl rfl rfl dX5_visit_53 ?_
  refine Y_iconst C (pc := 56) (v := (1 : Int32)) (by decide) dX5_visit_56 ?_
  refine Y_iadd C (pc := 57) dX5_visit_57 ?_
  obtain ⟨v4, hv4, h⟩ := Option.bind_eq_some_iff.mp h
  refine Y_callSN C [.ref (ρ (k0 + 1)), .int ((v2.2 k1 0) - (v2.2 (k0 + 4) 0)), .int (v3 + (1 : Int32))] [] [] (c_X8_setItem hI (q_kr_5_2 hk0) (q_lr_5_2 hk0) hv4) (fun _ h => h) q_cw_yX8_setItem q_mn_RX5_151 q_st_yX8_setItem ⟨⟨Nat.le_of_ble_eq_true rfl, Nat.le_of_ble_eq_true rfl⟩, ⟨Nat.zero_le _, Nat.zero_le _⟩, Nat.le_of_ble_eq_true rfl⟩ rfl rfl rfl dX5_visit_58 ?_
  refine Y_iload_n C (pc := 61) 2 1 rfl rfl dX5_visit_61 ?_
  refine Y_aload_n C (pc := 62) 0 2 rfl rfl dX5_visit_62 ?_
  refine Y_getI C (pc := 63) hk0 q_fi_RX5_46 dX5_visit_63 ?_
  refine Y_icmp_lt C (pc := 66) (tgt := 81) dX5_visit_66 (by decide) (fun c7 => ?_) (fun c7 => ?_)
  · rw [if_pos c7] at h
    refine Y_aload_n C (pc := 81) 0 2 rfl rfl dX5_visit_81 ?_
    refine Y_getR C (pc := 82) hk0 q_fi_RX5_25 (by decide) dX5_visit_82 ?_
    refine Y_getI C (pc := 85) (q_kr_5_13 hk0) q_fi_RX5_139 dX5_visit_85 ?_
    refine Y_if_le C (pc := 88) (tgt := 93) dX5_visit_88 (by decide) (fun c6 => ?_) (fun c6 => ?_)
    · rw [if_pos c6] at h
      refine Y_aload_n C (pc := 93) 0 2 rfl rfl dX5_visit_93 ?_
      refine Y_iload_n C (pc := 94) 2 1 rfl rfl dX5_visit_94 ?_
      refine Y_putI C (pc := 95) hW hk0 (q_lo_5 hk0) q_fp_RX5_46 dX5_visit_95 ?_
      refine Y_aload_n C (pc := 98) 0 2 rfl rfl dX5_visit_98 ?_
      refine Y_aload_n C (pc := 99) 0 2 rfl rfl dX5_visit_99 ?_
      refine Y_getR C (pc := 100) hk0 q_fi_RX5_36 (by decide) dX5_visit_100 ?_
      refine Y_aload_n C (pc := 103) 1 3 rfl rfl dX5_visit_103 ?_
      refine Y_getI C (pc := 104) hk1 q_fi_RX5_106 dX5_visit_104 ?_
      obtain ⟨v5, hv5, h⟩ := Option.bind_eq_some_iff.mp h
      refine Y_callSN C [.ref (ρ (k0 + 13)), .int (((si v4 k0 3 v2.1)) k1 0)] [.ref (ρ k0)] [.int v5, .ref (ρ k0)] (c_X8_numberOf (q_kr_5_15 hk0) hv5) (fun _ h => h.elim) q_cw_yX8_numberOf q_mn_RX5_155 q_st_yX8_numberOf ⟨⟨Nat.le_of_ble_eq_true rfl, Nat.le_of_ble_eq_true rfl⟩, ⟨Nat.zero_le _, Nat.zero_le _⟩, Nat.le_of_ble_eq_true rfl⟩ rfl rfl rfl dX5_visit_107 ?_
      refine Y_putI C (pc := 110) hW hk0 (q_lo_5 hk0) q_fp_RX5_50 dX5_visit_110 ?_
      refine Y_aload_n C (pc := 113) 0 2 rfl rfl dX5_visit_113 ?_
      refine Y_dup C (pc := 114) rfl dX5_visit_114 ?_
      refine Y_getI C (pc := 115) hk0 q_fi_RX5_59 dX5_visit_115 ?_
      refine Y_iconst C (pc := 118) (v := (1 : Int32)) (by decide) dX5_visit_118 ?_
      refine Y_iadd C (pc := 119) dX5_visit_119 ?_
      refine Y_putI C (pc := 120) hW hk0 (q_lo_5 hk0) q_fp_RX5_59 dX5_visit_120 ?_
      refine Y_iconst C (pc := 123) (v := (0 : Int32)) (by decide) dX5_visit_123 ?_
      cases h
      exact Y_zret (by decide) C dX5_visit_124
    · rw [if_neg c6] at h
      refine Y_iconst C (pc := 91) (v := (1 : Int32)) (by decide) dX5_visit_91 ?_
      cases h
      exact Y_zret (by decide) C dX5_visit_92
  · rw [if_neg c7] at h
    refine Y_aload_n C (pc := 69) 0 2 rfl rfl dX5_visit_69 ?_
    refine Y_dup C (pc := 70) rfl dX5_visit_70 ?_
    refine Y_getI C (pc := 71) hk0 q_fi_RX5_56 dX5_visit_71 ?_
    refine Y_iconst C (pc := 74) (v := (1 : Int32)) (by decide) dX5_visit_74 ?_
    refine Y_iadd C (pc := 75) dX5_visit_75 ?_
    refine Y_putI C (pc := 76) hW hk0 (q_lo_5 hk0) q_fp_RX5_56 dX5_visit_76 ?_
    refine Y_iconst C (pc := 79) (v := (0 : Int32)) (by decide) dX5_visit_79 ?_
    cases h
    exact Y_zret (by decide) C dX5_visit_80

noncomputable def f_X7_suits_L32 (σ : Sg) (k0 : Nat) (k1 : Nat) (i2 : Int32) (i3 : Int32) : Int32 → Option ((Int32) ⊕ ((Unit) ⊕ (Unit))) := fun s1 => if (σ k0 2) ≤ s1 then (some (.inr (.inr ()))) else ((f_X8_at σ ((k1 + 3)) s1 i2).bind fun v2 => (f_X8_at σ ((k1 + 3)) s1 i3).bind fun v3 => if v2 = v3 then (some (.inl ((s1 + 1)))) else (some (.inr (.inl ()))))
noncomputable def f_X7_suits_L81 (i2 : Int32) (σ : Sg) (k0 : Nat) (i3 : Int32) (k1 : Nat) : Int32 → Option ((Int32) ⊕ ((Unit) ⊕ (Unit))) := fun s9 => if i2 ≤ s9 then (some (.inr (.inr ()))) else ((f_X8_item σ ((k0 + 2)) s9).bind fun v10 => if v10 = i3 then (some (.inr (.inl ()))) else ((f_X8_at σ ((k1 + 2)) i2 s9).bind fun v11 => (f_X8_at σ ((k1 + 2)) i3 v10).bind fun v12 => if v11 = v12 then ((f_X8_at σ ((k1 + 2)) s9 i2).bind fun v13 => (f_X8_at σ ((k1 + 2)) v10 i3).bind fun v14 => if v13 = v14 then (some (.inl ((s9 + 1)))) else (some (.inr (.inl ())))) else (some (.inr (.inl ())))))
noncomputable def f_X7_suits_J29 (σ : Sg) (k0 : Nat) (k1 : Nat) (i2 : Int32) (i3 : Int32) : Option (Int32) := (lo (f_X7_suits_L32 σ k0 k1 i2 i3) ((0 : Int32))).bind (Sum.elim (fun e7 => some ((0 : Int32))) (fun e8 => (lo (f_X7_suits_L81 i2 σ k0 i3 k1) ((0 : Int32))).bind (Sum.elim (fun e20 => some ((0 : Int32))) (fun e21 => (f_X8_at σ ((k1 + 2)) i2 i2).bind fun v22 => (f_X8_at σ ((k1 + 2)) i3 i3).bind fun v23 => if v22 = v23 then (some ((1 : Int32))) else (some ((0 : Int32)))))))
noncomputable def f_X7_suits (σ : Sg) (k0 : Nat) (k1 : Nat) (i2 : Int32) (i3 : Int32) : Option (Int32) := if i2 = i3 then (f_X7_suits_J29 σ k0 k1 i2 i3) else ((f_X8_has ((σ k0 3)) i2).bind fun v25 => if v25 = (0 : Int32) then ((f_X8_has ((σ k0 3)) i3).bind fun v26 => if v26 = (0 : Int32) then (f_X7_suits_J29 σ k0 k1 i2 i3) else (some ((0 : Int32)))) else (some ((0 : Int32))))
set_option maxRecDepth 100000 in
set_option maxHeartbeats 4000000 in
theorem c_X7_suits {l : Launch} {D : va_G} {cA ρ : Nat → Nat} {σ : Sg} {τ : Tg} {k0 : Nat} {k1 : Nat} {i2 : Int32} {i3 : Int32} (hk0 : kd k0 = (0, 7)) (hk1 : kd k1 = (0, 6)) {r : Int32} (h : f_X7_suits σ k0 k1 i2 i3 = some r) : Ct l yX7_suits cX7_suits 7 (some .boolean) 1 23 D cA ρ A0 [.ref (ρ k0), .ref (ρ k1), .int i2, .int i3] σ τ (some (.int r)) σ τ := by
  refine Ct_of (by decide +kernel) (Nat.le_of_ble_eq_true rfl) (fun p e s m args below meth c C => ?_)
  have C : Ctx p l s m args meth c cX7_suits RX7 7 (some .boolean) D cA ρ A0 := C
  unfold f_X7_suits at h
  refine Y_sub [0, 1, 2, 3] (lv' := [(0, .ref (ρ k0)), (1, .ref (ρ k1)), (2, .int i2), (3, .int i3)]) rfl ?_
  have hJ29 : ∀ , f_X7_suits_J29 σ k0 k1 i2 i3 = some r → Y p l e (Rm 1 23) s m args below meth c 7 D cA ρ A0 0 0 (MQ below (QC D cA ρ A0 (some (.int r)) σ τ) args s 0 0 A0) σ τ 29 [(0, .ref (ρ k0)), (1, .ref (ρ k1)), (2, .int i2), (3, .int i3)] [] := by
    intro  h
    unfold f_X7_suits_J29 at h
    refine Y_iconst C (pc := 29) (v := (0 : Int32)) (by decide) dX7_suits_29 ?_
    refine Y_istore C (pc := 30) (lv' := [(4, .int (0 : Int32)), (0, .ref (ρ k0)), (1, .ref (ρ k1)), (2, .int i2), (3, .int i3)]) (by decide) rfl dX7_suits_30 ?_
    obtain ⟨e6, he6, h⟩ := Option.bind_eq_some_iff.mp h
    refine Y_sub [1, 2, 3, 4, 0] (lv' := [(0, .ref (ρ k0)), (1, .ref (ρ k1)), (2, .int i2), (3, .int i3), (4, .int (0 : Int32))]) rfl ?_
    refine lo_rule (f := (f_X7_suits_L32 σ k0 k1 i2 i3)) (YS := fun s1 => Y p l e (Rm 1 23) s m args below meth c 7 D cA ρ A0 0 0 (MQ below (QC D cA ρ A0 (some (.int r)) σ τ) args s 0 0 A0) σ τ 32 [(0, .ref (ρ k0)), (1, .ref (ρ k1)), (2, .int i2), (3, .int i3), (4, .int s1)] []) (YE := fun e6 => (∀ e7, e6 = (.inl e7) → Y p l e (Rm 1 23) s m args below meth c 7 D cA ρ A0 0 0 (MQ below (QC D cA ρ A0 (some (.int r)) σ τ) args s 0 0 A0) σ τ 64 [] []) ∧ (∀ e8, e6 = (.inr e8) → Y p l e (Rm 1 23) s m args below meth c 7 D cA ρ A0 0 0 (MQ below (QC D cA ρ A0 (some (.int r)) σ τ) args s 0 0 A0) σ τ 72 [(0, .ref (ρ k0)), (1, .ref (ρ k1)), (2, .int i2), (3, .int i3)] [])) ?_ he6 ?_
    · intro s1 x h hLp hE
      have hE0 : ∀ y, x = .inr (.inl y) → _ := fun y q => (hE _ q).1 y rfl
      have hE1 : ∀ y, x = .inr (.inr y) → _ := fun y q => (hE _ q).2 y rfl
      unfold f_X7_suits_L32 at h
      refine Y_iload C (pc := 32) 4 rfl dX7_suits_32 ?_
      refine Y_aload_n C (pc := 34) 0 0 rfl rfl dX7_suits_34 ?_
      refine Y_getI C (pc := 35) hk0 q_fi_RX7_24 dX7_suits_35 ?_
      refine Y_icmp_ge C (pc := 38) (tgt := 72) dX7_suits_38 (by decide) (fun c5 => ?_) (fun c5 => ?_)
      · rw [if_pos c5] at h
        have h := Option.some.inj h
        exact Y_sub [0, 1, 2, 3] rfl (hE1 _ h.symm)
      · rw [if_neg c5] at h
        refine Y_aload_n C (pc := 41) 1 1 rfl rfl dX7_suits_41 ?_
        refine Y_getR C (pc := 42) hk1 q_fi_RX7_65 (by decide) dX7_suits_42 ?_
        refine Y_iload C (pc := 45) 4 rfl dX7_suits_45 ?_
        refine Y_iload_n C (pc := 47) 2 2 rfl rfl dX7_suits_47 ?_
        obtain ⟨v2, hv2, h⟩ := Option.bind_eq_some_iff.mp h
        refine Y_callSN C [.ref (ρ (k1 + 3)), .int s1, .int i2] [] [.int v2] (c_X8_at (q_kr_6_3 hk1) hv2) (fun _ h => h.elim) q_cw_yX8_at q_mn_RX7_68 q_st_yX8_at ⟨⟨Nat.le_of_ble_eq_true rfl, Nat.le_of_ble_eq_true rfl⟩, ⟨Nat.zero_le _, Nat.zero_le _⟩, Nat.le_of_ble_eq_true rfl⟩ rfl rfl rfl dX7_suits_48 ?_
        refine Y_aload_n C (pc := 51) 1 1 rfl rfl dX7_suits_51 ?_
        refine Y_getR C (pc := 52) hk1 q_fi_RX7_65 (by decide) dX7_suits_52 ?_
        refine Y_iload C (pc := 55) 4 rfl dX7_suits_55 ?_
        refine Y_iload_n C (pc := 57) 3 3 rfl rfl dX7_suits_57 ?_
        obtain ⟨v3, hv3, h⟩ := Option.bind_eq_some_iff.mp h
        refine Y_callSN C [.ref (ρ (k1 + 3)), .int s1, .int i3] [.int v2] [.int v3, .int v2] (c_X8_at (q_kr_6_3 hk1) hv3) (fun _ h => h.elim) q_cw_yX8_at q_mn_RX7_68 q_st_yX8_at ⟨⟨Nat.le_of_ble_eq_true rfl, Nat.le_of_ble_eq_true rfl⟩, ⟨Nat.zero_le _, Nat.zero_le _⟩, Nat.le_of_ble_eq_true rfl⟩ rfl rfl rfl dX7_suits_58 ?_
        refine Y_icmp_eq C (pc := 61) (tgt := 66) dX7_suits_61 (by decide) (fun c4 => ?_) (fun c4 => ?_)
        · rw [if_pos c4] at h
          refine Y_iinc C (pc := 66) (v := (s1 + 1)) (lv' := [(4, .int (s1 + 1)), (0, .ref (ρ k0)), (1, .ref (ρ k1)), (2, .int i2), (3, .int i3)]) 4 rfl (congrArg (fun z => s1 + z) (by decide : Int32.ofInt (1) = (1))) (by decide) rfl dX7_suits_66 ?_
          refine Y_goto C (pc := 69) (tgt := 32) dX7_suits_69 (by decide) ?_
          have h := Option.some.inj h
          exact Y_sub [1, 2, 3, 4, 0] rfl (hLp _ h.symm)
        · rw [if_neg c4] at h
          have h := Option.some.inj h
          exact Y_sub [] rfl (hE0 _ h.symm)
    refine ⟨?_, ?_⟩
    · intro e7 q
      subst q
      simp only [Sum.elim_inl, Sum.elim_inr] at h
      refine Y_iconst C (pc := 64) (v := (0 : Int32)) (by decide) dX7_suits_64 ?_
      cases h
      exact Y_zret (by decide) C dX7_suits_65
    · intro e8 q
      subst q
      simp only [Sum.elim_inl, Sum.elim_inr] at h
      refine Y_aload_n C (pc := 72) 1 1 rfl rfl dX7_suits_72 ?_
      refine Y_getR C (pc := 73) hk1 q_fi_RX7_72 (by decide) dX7_suits_73 ?_
      refine Y_astore C (pc := 76) (lv' := [(4, .ref (ρ (k1 + 2))), (0, .ref (ρ k0)), (1, .ref (ρ k1)), (2, .int i2), (3, .int i3)]) (by decide) rfl dX7_suits_76 ?_
      refine Y_iconst C (pc := 78) (v := (0 : Int32)) (by decide) dX7_suits_78 ?_
      refine Y_istore C (pc := 79) (lv' := [(5, .int (0 : Int32)), (4, .ref (ρ (k1 + 2))), (0, .ref (ρ k0)), (1, .ref (ρ k1)), (2, .int i2), (3, .int i3)]) (by decide) rfl dX7_suits_79 ?_
      obtain ⟨e19, he19, h⟩ := Option.bind_eq_some_iff.mp h
      refine Y_sub [2, 4, 5, 1, 0] (lv' := [(0, .ref (ρ k0)), (2, .int i2), (3, .int i3), (4, .ref (ρ (k1 + 2))), (5, .int (0 : Int32))]) rfl ?_
      refine lo_rule (f := (f_X7_suits_L81 i2 σ k0 i3 k1)) (YS := fun s9 => Y p l e (Rm 1 23) s m args below meth c 7 D cA ρ A0 0 0 (MQ below (QC D cA ρ A0 (some (.int r)) σ τ) args s 0 0 A0) σ τ 81 [(0, .ref (ρ k0)), (2, .int i2), (3, .int i3), (4, .ref (ρ (k1 + 2))), (5, .int s9)] []) (YE := fun e19 => (∀ e20, e19 = (.inl e20) → Y p l e (Rm 1 23) s m args below meth c 7 D cA ρ A0 0 0 (MQ below (QC D cA ρ A0 (some (.int r)) σ τ) args s 0 0 A0) σ τ 142 [] []) ∧ (∀ e21, e19 = (.inr e21) → Y p l e (Rm 1 23) s m args below meth c 7 D cA ρ A0 0 0 (MQ below (QC D cA ρ A0 (some (.int r)) σ τ) args s 0 0 A0) σ τ 150 [(2, .int i2), (3, .int i3), (4, .ref (ρ (k1 + 2)))] [])) ?_ he19 ?_
      · intro s9 x h hLp hE
        have hE0 : ∀ y, x = .inr (.inl y) → _ := fun y q => (hE _ q).1 y rfl
        have hE1 : ∀ y, x = .inr (.inr y) → _ := fun y q => (hE _ q).2 y rfl
        unfold f_X7_suits_L81 at h
        refine Y_iload C (pc := 81) 4 rfl dX7_suits_81 ?_
        refine Y_iload_n C (pc := 83) 2 1 rfl rfl dX7_suits_83 ?_
        refine Y_icmp_ge C (pc := 84) (tgt := 150) dX7_suits_84 (by decide) (fun c18 => ?_) (fun c18 => ?_)
        · rw [if_pos c18] at h
          have h := Option.some.inj h
          exact Y_sub [1, 2, 3] rfl (hE1 _ h.symm)
        · rw [if_neg c18] at h
          refine Y_aload_n C (pc := 87) 0 0 rfl rfl dX7_suits_87 ?_
          refine Y_getR C (pc := 88) hk0 q_fi_RX7_15 (by decide) dX7_suits_88 ?_
          refine Y_iload C (pc := 91) 4 rfl dX7_suits_91 ?_
          obtain ⟨v10, hv10, h⟩ := Option.bind_eq_some_iff.mp h
          refine Y_callSN C [.ref (ρ (k0 + 2)), .int s9] [] [.int v10] (c_X8_item (q_kr_7_4 hk0) hv10) (fun _ h => h.elim) q_cw_yX8_item q_mn_RX7_36 q_st_yX8_item ⟨⟨Nat.le_of_ble_eq_true rfl, Nat.le_of_ble_eq_true rfl⟩, ⟨Nat.zero_le _, Nat.zero_le _⟩, Nat.le_of_ble_eq_true rfl⟩ rfl rfl rfl dX7_suits_93 ?_
          refine Y_istore C (pc := 96) (lv' := [(6, .int v10), (0, .ref (ρ k0)), (2, .int i2), (3, .int i3), (4, .ref (ρ (k1 + 2))), (5, .int s9)]) (by decide) rfl dX7_suits_96 ?_
          refine Y_iload C (pc := 98) 0 rfl dX7_suits_98 ?_
          refine Y_iload_n C (pc := 100) 3 3 rfl rfl dX7_suits_100 ?_
          refine Y_icmp_eq C (pc := 101) (tgt := 142) dX7_suits_101 (by decide) (fun c17 => ?_) (fun c17 => ?_)
          · rw [if_pos c17] at h
            have h := Option.some.inj h
            exact Y_sub [] rfl (hE0 _ h.symm)
          · rw [if_neg c17] at h
            refine Y_aload C (pc := 104) 4 rfl dX7_suits_104 ?_
            refine Y_iload_n C (pc := 106) 2 2 rfl rfl dX7_suits_106 ?_
            refine Y_iload C (pc := 107) 5 rfl dX7_suits_107 ?_
            obtain ⟨v11, hv11, h⟩ := Option.bind_eq_some_iff.mp h
            refine Y_callSN C [.ref (ρ (k1 + 2)), .int i2, .int s9] [] [.int v11] (c_X8_at (q_kr_6_2 hk1) hv11) (fun _ h => h.elim) q_cw_yX8_at q_mn_RX7_68 q_st_yX8_at ⟨⟨Nat.le_of_ble_eq_true rfl, Nat.le_of_ble_eq_true rfl⟩, ⟨Nat.zero_le _, Nat.zero_le _⟩, Nat.le_of_ble_eq_true rfl⟩ rfl rfl rfl dX7_suits_109 ?_
            refine Y_aload C (pc := 112) 4 rfl dX7_suits_112 ?_
            refine Y_iload_n C (pc := 114) 3 3 rfl rfl dX7_suits_114 ?_
            refine Y_iload C (pc := 115) 0 rfl dX7_suits_115 ?_
            obtain ⟨v12, hv12, h⟩ := Option.bind_eq_some_iff.mp h
            refine Y_callSN C [.ref (ρ (k1 + 2)), .int i3, .int v10] [.int v11] [.int v12, .int v11] (c_X8_at (q_kr_6_2 hk1) hv12) (fun _ h => h.elim) q_cw_yX8_at q_mn_RX7_68 q_st_yX8_at ⟨⟨Nat.le_of_ble_eq_true rfl, Nat.le_of_ble_eq_true rfl⟩, ⟨Nat.zero_le _, Nat.zero_le _⟩, Nat.le_of_ble_eq_true rfl⟩ rfl rfl rfl dX7_suits_117 ?_
            refine Y_icmp_ne C (pc := 120) (tgt := 142) dX7_suits_120 (by decide) (fun c16 => ?_) (fun c16 => ?_)
            · rw [if_neg c16] at h
              have h := Option.some.inj h
              exact Y_sub [] rfl (hE0 _ h.symm)
            · rw [if_pos c16] at h
              refine Y_aload C (pc := 123) 4 rfl dX7_suits_123 ?_
              refine Y_iload C (pc := 125) 5 rfl dX7_suits_125 ?_
              refine Y_iload_n C (pc := 127) 2 2 rfl rfl dX7_suits_127 ?_
              obtain ⟨v13, hv13, h⟩ := Option.bind_eq_some_iff.mp h
              refine Y_callSN C [.ref (ρ (k1 + 2)), .int s9, .int i2] [] [.int v13] (c_X8_at (q_kr_6_2 hk1) hv13) (fun _ h => h.elim) q_cw_yX8_at q_mn_RX7_68 q_st_yX8_at ⟨⟨Nat.le_of_ble_eq_true rfl, Nat.le_of_ble_eq_true rfl⟩, ⟨Nat.zero_le _, Nat.zero_le _⟩, Nat.le_of_ble_eq_true rfl⟩ rfl rfl rfl dX7_suits_128 ?_
              refine Y_aload C (pc := 131) 4 rfl dX7_suits_131 ?_
              refine Y_iload C (pc := 133) 0 rfl dX7_suits_133 ?_
              refine Y_iload_n C (pc := 135) 3 3 rfl rfl dX7_suits_135 ?_
              obtain ⟨v14, hv14, h⟩ := Option.bind_eq_some_iff.mp h
              refine Y_callSN C [.ref (ρ (k1 + 2)), .int v10, .int i3] [.int v13] [.int v14, .int v13] (c_X8_at (q_kr_6_2 hk1) hv14) (fun _ h => h.elim) q_cw_yX8_at q_mn_RX7_68 q_st_yX8_at ⟨⟨Nat.le_of_ble_eq_true rfl, Nat.le_of_ble_eq_true rfl⟩, ⟨Nat.zero_le _, Nat.zero_le _⟩, Nat.le_of_ble_eq_true rfl⟩ rfl rfl rfl dX7_suits_136 ?_
              refine Y_icmp_eq C (pc := 139) (tgt := 144) dX7_suits_139 (by decide) (fun c15 => ?_) (fun c15 => ?_)
              · rw [if_pos c15] at h
                refine Y_iinc C (pc := 144) (v := (s9 + 1)) (lv' := [(5, .int (s9 + 1)), (6, .int v10), (0, .ref (ρ k0)), (2, .int i2), (3, .int i3), (4, .ref (ρ (k1 + 2)))]) 5 rfl (congrArg (fun z => s9 + z) (by decide : Int32.ofInt (1) = (1))) (by decide) rfl dX7_suits_144 ?_
                refine Y_goto C (pc := 147) (tgt := 81) dX7_suits_147 (by decide) ?_
                have h := Option.some.inj h
                exact Y_sub [2, 3, 4, 5, 0] rfl (hLp _ h.symm)
              · rw [if_neg c15] at h
                have h := Option.some.inj h
                exact Y_sub [] rfl (hE0 _ h.symm)
      refine ⟨?_, ?_⟩
      · intro e20 q
        subst q
        simp only [Sum.elim_inl, Sum.elim_inr] at h
        refine Y_iconst C (pc := 142) (v := (0 : Int32)) (by decide) dX7_suits_142 ?_
        cases h
        exact Y_zret (by decide) C dX7_suits_143
      · intro e21 q
        subst q
        simp only [Sum.elim_inl, Sum.elim_inr] at h
        refine Y_aload C (pc := 150) 2 rfl dX7_suits_150 ?_
        refine Y_iload_n C (pc := 152) 2 0 rfl rfl dX7_suits_152 ?_
        refine Y_iload_n C (pc := 153) 2 0 rfl rfl dX7_suits_153 ?_
        obtain ⟨v22, hv22, h⟩ := Option.bind_eq_some_iff.mp h
        refine Y_callSN C [.ref (ρ (k1 + 2)), .int i2, .int i2] [] [.int v22] (c_X8_at (q_kr_6_2 hk1) hv22) (fun _ h => h.elim) q_cw_yX8_at q_mn_RX7_68 q_st_yX8_at ⟨⟨Nat.le_of_ble_eq_true rfl, Nat.le_of_ble_eq_true rfl⟩, ⟨Nat.zero_le _, Nat.zero_le _⟩, Nat.le_of_ble_eq_true rfl⟩ rfl rfl rfl dX7_suits_154 ?_
        refine Y_aload C (pc := 157) 2 rfl dX7_suits_157 ?_
        refine Y_iload_n C (pc := 159) 3 1 rfl rfl dX7_suits_159 ?_
        refine Y_iload_n C (pc := 160) 3 1 rfl rfl dX7_suits_160 ?_
        obtain ⟨v23, hv23, h⟩ := Option.bind_eq_some_iff.mp h
        refine Y_callSN C [.ref (ρ (k1 + 2)), .int i3, .int i3] [.int v22] [.int v23, .int v22] (c_X8_at (q_kr_6_2 hk1) hv23) (fun _ h => h.elim) q_cw_yX8_at q_mn_RX7_68 q_st_yX8_at ⟨⟨Nat.le_of_ble_eq_true rfl, Nat.le_of_ble_eq_true rfl⟩, ⟨Nat.zero_le _, Nat.zero_le _⟩, Nat.le_of_ble_eq_true rfl⟩ rfl rfl rfl dX7_suits_161 ?_
        refine Y_icmp_ne C (pc := 164) (tgt := 171) dX7_suits_164 (by decide) (fun c24 => ?_) (fun c24 => ?_)
        · rw [if_neg c24] at h
          refine Y_iconst C (pc := 171) (v := (0 : Int32)) (by decide) dX7_suits_171 ?_
          cases h
          exact Y_zret (by decide) C dX7_suits_172
        · rw [if_pos c24] at h
          refine Y_iconst C (pc := 167) (v := (1 : Int32)) (by decide) dX7_suits_167 ?_
          refine Y_goto C (pc := 168) (tgt := 172) dX7_suits_168 (by decide) ?_
          cases h
          exact Y_zret (by decide) C dX7_suits_172
  refine Y_iload_n C (pc := 0) 2 2 rfl rfl dX7_suits_0 ?_
  refine Y_iload_n C (pc := 1) 3 3 rfl rfl dX7_suits_1 ?_
  refine Y_icmp_eq C (pc := 2) (tgt := 29) dX7_suits_2 (by decide) (fun c29 => ?_) (fun c29 => ?_)
  · rw [if_pos c29] at h
    exact Y_sub [0, 1, 2, 3] rfl (hJ29  h)
  · rw [if_neg c29] at h
    refine Y_aload_n C (pc := 5) 0 0 rfl rfl dX7_suits_5 ?_
    refine Y_getI C (pc := 6) hk0 q_fi_RX7_32 dX7_suits_6 ?_
    refine Y_iload_n C (pc := 9) 2 2 rfl rfl dX7_suits_9 ?_
    obtain ⟨v25, hv25, h⟩ := Option.bind_eq_some_iff.mp h
    refine Y_callSN C [.int (σ k0 3), .int i2] [] [.int v25] (c_X8_has  hv25) (fun _ h => h.elim) q_cw_yX8_has q_mn_RX7_61 q_st_yX8_has ⟨⟨Nat.le_of_ble_eq_true rfl, Nat.le_of_ble_eq_true rfl⟩, ⟨Nat.zero_le _, Nat.zero_le _⟩, Nat.le_of_ble_eq_true rfl⟩ rfl rfl rfl dX7_suits_10 ?_
    refine Y_if_ne C (pc := 13) (tgt := 27) dX7_suits_13 (by decide) (fun c28 => ?_) (fun c28 => ?_)
    · rw [if_neg c28] at h
      refine Y_iconst C (pc := 27) (v := (0 : Int32)) (by decide) dX7_suits_27 ?_
      cases h
      exact Y_zret (by decide) C dX7_suits_28
    · rw [if_pos c28] at h
      refine Y_aload_n C (pc := 16) 0 0 rfl rfl dX7_suits_16 ?_
      refine Y_getI C (pc := 17) hk0 q_fi_RX7_32 dX7_suits_17 ?_
      refine Y_iload_n C (pc := 20) 3 3 rfl rfl dX7_suits_20 ?_
      obtain ⟨v26, hv26, h⟩ := Option.bind_eq_some_iff.mp h
      refine Y_callSN C [.int (σ k0 3), .int i3] [] [.int v26] (c_X8_has  hv26) (fun _ h => h.elim) q_cw_yX8_has q_mn_RX7_61 q_st_yX8_has ⟨⟨Nat.le_of_ble_eq_true rfl, Nat.le_of_ble_eq_true rfl⟩, ⟨Nat.zero_le _, Nat.zero_le _⟩, Nat.le_of_ble_eq_true rfl⟩ rfl rfl rfl dX7_suits_21 ?_
      refine Y_if_eq C (pc := 24) (tgt := 29) dX7_suits_24 (by decide) (fun c27 => ?_) (fun c27 => ?_)
      · rw [if_pos c27] at h
        exact Y_sub [0, 1, 2, 3] rfl (hJ29  h)
      · rw [if_neg c27] at h
        refine Y_iconst C (pc := 27) (v := (0 : Int32)) (by decide) dX7_suits_27 ?_
        cases h
        exact Y_zret (by decide) C dX7_suits_28

noncomputable def f_X7_nextImage_L7 (σ : Sg) (k0 : Nat) (k1 : Nat) (i2 : Int32) : Int32 → Option ((Int32) ⊕ ((Int32) ⊕ (Unit))) := fun s1 => if (σ k0 2) ≤ s1 then (some (.inr (.inr ()))) else ((f_X7_suits σ k0 k1 i2 s1).bind fun v2 => if v2 = (0 : Int32) then (some (.inl ((s1 + 1)))) else (some (.inr (.inl s1))))
noncomputable def f_X7_nextImage (σ : Sg) (k0 : Nat) (k1 : Nat) (i2 : Int32) (i3 : Int32) : Option (Int32) := (lo (f_X7_nextImage_L7 σ k0 k1 i2) ((mx (0 : Int32) i3))).bind (Sum.elim (fun e6 => some e6) (fun e7 => some ((-1 : Int32))))
set_option maxRecDepth 100000 in
set_option maxHeartbeats 4000000 in
theorem c_X7_nextImage {l : Launch} {D : va_G} {cA ρ : Nat → Nat} {σ : Sg} {τ : Tg} {k0 : Nat} {k1 : Nat} {i2 : Int32} {i3 : Int32} (hk0 : kd k0 = (0, 7)) (hk1 : kd k1 = (0, 6)) {r : Int32} (h : f_X7_nextImage σ k0 k1 i2 i3 = some r) : Ct l yX7_nextImage cX7_nextImage 5 (some .int) 2 49 D cA ρ A0 [.ref (ρ k0), .ref (ρ k1), .int i2, .int i3] σ τ (some (.int r)) σ τ := by
  refine Ct_of (by decide +kernel) (Nat.le_of_ble_eq_true rfl) (fun p e s m args below meth c C => ?_)
  have C : Ctx p l s m args meth c cX7_nextImage RX7 5 (some .int) D cA ρ A0 := C
  unfold f_X7_nextImage at h
  refine Y_sub [0, 1, 2, 3] (lv' := [(0, .ref (ρ k0)), (1, .ref (ρ k1)), (2, .int i2), (3, .int i3)]) rfl ?_
  refine Y_iconst C (pc := 0) (v := (0 : Int32)) (by decide) dX7_nextImage_0 ?_
  refine Y_iload_n C (pc := 1) 3 3 rfl rfl dX7_nextImage_1 ?_
  refine Y_max C (pc := 2) q_ml_RX7_51 ⟨q_st_max, q_in_Math, q_cd_max⟩ ⟨Nat.le_of_ble_eq_true rfl, Nat.le_of_ble_eq_true rfl, Nat.zero_le _, Nat.zero_le _⟩ dX7_nextImage_2 ?_
  refine Y_istore C (pc := 5) (lv' := [(4, .int (mx (0 : Int32) i3)), (0, .ref (ρ k0)), (1, .ref (ρ k1)), (2, .int i2), (3, .int i3)]) (by decide) rfl dX7_nextImage_5 ?_
  obtain ⟨e5, he5, h⟩ := Option.bind_eq_some_iff.mp h
  refine Y_sub [1, 2, 3, 0] (lv' := [(0, .ref (ρ k0)), (1, .ref (ρ k1)), (2, .int i2), (4, .int (mx (0 : Int32) i3))]) rfl ?_
  refine lo_rule (f := (f_X7_nextImage_L7 σ k0 k1 i2)) (YS := fun s1 => Y p l e (Rm 2 49) s m args below meth c 5 D cA ρ A0 0 0 (MQ below (QC D cA ρ A0 (some (.int r)) σ τ) args s 0 0 A0) σ τ 7 [(0, .ref (ρ k0)), (1, .ref (ρ k1)), (2, .int i2), (4, .int s1)] []) (YE := fun e5 => (∀ e6, e5 = (.inl e6) → Y p l e (Rm 2 49) s m args below meth c 5 D cA ρ A0 0 0 (MQ below (QC D cA ρ A0 (some (.int r)) σ τ) args s 0 0 A0) σ τ 27 [(4, .int e6)] []) ∧ (∀ e7, e5 = (.inr e7) → Y p l e (Rm 2 49) s m args below meth c 5 D cA ρ A0 0 0 (MQ below (QC D cA ρ A0 (some (.int r)) σ τ) args s 0 0 A0) σ τ 36 [] [])) ?_ he5 ?_
  · intro s1 x h hLp hE
    have hE0 : ∀ y, x = .inr (.inl y) → _ := fun y q => (hE _ q).1 y rfl
    have hE1 : ∀ y, x = .inr (.inr y) → _ := fun y q => (hE _ q).2 y rfl
    unfold f_X7_nextImage_L7 at h
    refine Y_iload C (pc := 7) 3 rfl dX7_nextImage_7 ?_
    refine Y_aload_n C (pc := 9) 0 0 rfl rfl dX7_nextImage_9 ?_
    refine Y_getI C (pc := 10) hk0 q_fi_RX7_24 dX7_nextImage_10 ?_
    refine Y_icmp_ge C (pc := 13) (tgt := 36) dX7_nextImage_13 (by decide) (fun c4 => ?_) (fun c4 => ?_)
    · rw [if_pos c4] at h
      have h := Option.some.inj h
      exact Y_sub [] rfl (hE1 _ h.symm)
    · rw [if_neg c4] at h
      refine Y_aload_n C (pc := 16) 0 0 rfl rfl dX7_nextImage_16 ?_
      refine Y_aload_n C (pc := 17) 1 1 rfl rfl dX7_nextImage_17 ?_
      refine Y_iload_n C (pc := 18) 2 2 rfl rfl dX7_nextImage_18 ?_
      refine Y_iload C (pc := 19) 3 rfl dX7_nextImage_19 ?_
      obtain ⟨v2, hv2, h⟩ := Option.bind_eq_some_iff.mp h
      refine Y_callV C [.ref (ρ k1), .int i2, .int s1] [] [.int v2] hk0 rfl rfl (c_X7_suits hk0 hk1 hv2) (fun _ h => h.elim) q_cw_yX7_suits q_ml_RX7_57 ⟨q_im_yX7_suits, q_se_yX7_suits⟩ ⟨⟨Nat.le_of_ble_eq_true rfl, Nat.le_of_ble_eq_true rfl⟩, ⟨Nat.zero_le _, Nat.zero_le _⟩, Nat.le_of_ble_eq_true rfl⟩ rfl rfl rfl dX7_nextImage_21 ?_
      refine Y_if_eq C (pc := 24) (tgt := 30) dX7_nextImage_24 (by decide) (fun c3 => ?_) (fun c3 => ?_)
      · rw [if_pos c3] at h
        refine Y_iinc C (pc := 30) (v := (s1 + 1)) (lv' := [(4, .int (s1 + 1)), (0, .ref (ρ k0)), (1, .ref (ρ k1)), (2, .int i2)]) 3 rfl (congrArg (fun z => s1 + z) (by decide : Int32.ofInt (1) = (1))) (by decide) rfl dX7_nextImage_30 ?_
        refine Y_goto C (pc := 33) (tgt := 7) dX7_nextImage_33 (by decide) ?_
        have h := Option.some.inj h
        exact Y_sub [1, 2, 3, 0] rfl (hLp _ h.symm)
      · rw [if_neg c3] at h
        have h := Option.some.inj h
        exact Y_sub [3] rfl (hE0 _ h.symm)
  refine ⟨?_, ?_⟩
  · intro e6 q
    subst q
    simp only [Sum.elim_inl, Sum.elim_inr] at h
    refine Y_iload C (pc := 27) 0 rfl dX7_nextImage_27 ?_
    cases h
    exact Y_iret C dX7_nextImage_29
  · intro e7 q
    subst q
    simp only [Sum.elim_inl, Sum.elim_inr] at h
    refine Y_iconst C (pc := 36) (v := (-1 : Int32)) (by decide) dX7_nextImage_36 ?_
    cases h
    exact Y_iret C dX7_nextImage_37

noncomputable def f_X7_note_L12 (k0 : Nat) : (Int32 × Sg) → Option ((Int32 × Sg) ⊕ (Sg)) := fun s1 => if (s1.2 k0 2) ≤ s1.1 then (some (.inr s1.2)) else ((f_X8_item s1.2 ((k0 + 1)) s1.1).bind fun v2 => (f_X8_item s1.2 ((k0 + 2)) s1.1).bind fun v3 => (f_X8_setItem s1.2 ((k0 + 1)) s1.1 ((mn v2 v3))).bind fun v4 => some (.inl ((s1.1 + 1), v4)))
noncomputable def f_X7_note (σ : Sg) (k0 : Nat) : Option (Sg) := (lo (f_X7_note_L12 k0) ((0 : Int32), (si σ k0 0 ((σ k0 0) + (1 : Int32))))).bind fun e6 => some e6
set_option maxRecDepth 100000 in
set_option maxHeartbeats 4000000 in
theorem c_X7_note {l : Launch} {D : va_G} {cA ρ : Nat → Nat} {σ : Sg} {τ : Tg} {k0 : Nat} (hI : Inj ρ) (hk0 : kd k0 = (0, 7)) {r : Sg} (h : f_X7_note σ k0 = some r) : Ct l yX7_note cX7_note 2 none 1 22 D cA ρ (Aw ρ) [.ref (ρ k0)] σ τ none r τ := by
  refine Ct_of (by decide +kernel) (Nat.le_of_ble_eq_true rfl) (fun p e s m args below meth c C => ?_)
  have C : Ctx p l s m args meth c cX7_note RX7 2 none D cA ρ (Aw ρ) := C
  have hW : Wr ρ (Aw ρ) := ⟨hI, fun k hk => ⟨k, hk, rfl⟩⟩
  unfold f_X7_note at h
  refine Y_sub [0] (lv' := [(0, .ref (ρ k0))]) rfl ?_
  refine Y_aload_n C (pc := 0) 0 0 rfl rfl dX7_note_0 ?_
  refine Y_dup C (pc := 1) rfl dX7_note_1 ?_
  refine Y_getI C (pc := 2) hk0 q_fi_RX7_25 dX7_note_2 ?_
  refine Y_iconst C (pc := 5) (v := (1 : Int32)) (by decide) dX7_note_5 ?_
  refine Y_iadd C (pc := 6) dX7_note_6 ?_
  refine Y_putI C (pc := 7) hW hk0 (q_lo_7 hk0) q_fp_RX7_25 dX7_note_7 ?_
  refine Y_iconst C (pc := 10) (v := (0 : Int32)) (by decide) dX7_note_10 ?_
  refine Y_istore_n C (pc := 11) (lv' := [(1, .int (0 : Int32)), (0, .ref (ρ k0))]) 1 rfl (by decide) rfl dX7_note_11 ?_
  obtain ⟨e6, he6, h⟩ := Option.bind_eq_some_iff.mp h
  refine Y_sub [1, 0] (lv' := [(0, .ref (ρ k0)), (1, .int (0 : Int32))]) rfl ?_
  refine lo_rule (f := (f_X7_note_L12 k0)) (YS := fun s1 => Y p l e (Rm 1 22) s m args below meth c 2 D cA ρ (Aw ρ) 0 0 (MQ below (QC D cA ρ (Aw ρ) none r τ) args s 0 0 (Aw ρ)) s1.2 τ 12 [(0, .ref (ρ k0)), (1, .int s1.1)] []) (YE := fun e6 => Y p l e (Rm 1 22) s m args below meth c 2 D cA ρ (Aw ρ) 0 0 (MQ below (QC D cA ρ (Aw ρ) none r τ) args s 0 0 (Aw ρ)) e6 τ 53 [] []) ?_ he6 ?_
  · intro s1 x h hLp hE
    unfold f_X7_note_L12 at h
    refine Y_iload_n C (pc := 12) 1 1 rfl rfl dX7_note_12 ?_
    refine Y_aload_n C (pc := 13) 0 0 rfl rfl dX7_note_13 ?_
    refine Y_getI C (pc := 14) hk0 q_fi_RX7_24 dX7_note_14 ?_
    refine Y_icmp_ge C (pc := 17) (tgt := 53) dX7_note_17 (by decide) (fun c5 => ?_) (fun c5 => ?_)
    · rw [if_pos c5] at h
      have h := Option.some.inj h
      exact Y_sub [] rfl (hE _ h.symm)
    · rw [if_neg c5] at h
      refine Y_aload_n C (pc := 20) 0 0 rfl rfl dX7_note_20 ?_
      refine Y_getR C (pc := 21) hk0 q_fi_RX7_9 (by decide) dX7_note_21 ?_
      refine Y_iload_n C (pc := 24) 1 1 rfl rfl dX7_note_24 ?_
      refine Y_aload_n C (pc := 25) 0 0 rfl rfl dX7_note_25 ?_
      refine Y_getR C (pc := 26) hk0 q_fi_RX7_9 (by decide) dX7_note_26 ?_
      refine Y_iload_n C (pc := 29) 1 1 rfl rfl dX7_note_29 ?_
      obtain ⟨v2, hv2, h⟩ := Option.bind_eq_some_iff.mp h
      refine Y_callSN C [.ref (ρ (k0 + 1)), .int s1.1] [.int s1.1, .ref (ρ (k0 + 1))] [.int v2, .int s1.1, .ref (ρ (k0 + 1))] (c_X8_item (q_kr_7_1 hk0) hv2) (fun _ h => h.elim) q_cw_yX8_item q_mn_RX7_36 q_st_yX8_item ⟨⟨Nat.le_of_ble_eq_true rfl, Nat.le_of_ble_eq_true rfl⟩, ⟨Nat.zero_le _, Nat.zero_le _⟩, Nat.le_of_ble_eq_true rfl⟩ rfl rfl rfl dX7_note_30 ?_
      refine Y_aload_n C (pc := 33) 0 0 rfl rfl dX7_note_33 ?_
      refine Y_getR C (pc := 34) hk0 q_fi_RX7_15 (by decide) dX7_note_34 ?_
      refine Y_iload_n C (pc := 37) 1 1 rfl rfl dX7_note_37 ?_
      obtain ⟨v3, hv3, h⟩ := Option.bind_eq_some_iff.mp h
      refine Y_callSN C [.ref (ρ (k0 + 2)), .int s1.1] [.int v2, .int s1.1, .ref (ρ (k0 + 1))] [.int v3, .int v2, .int s1.1, .ref (ρ (k0 + 1))] (c_X8_item (q_kr_7_4 hk0) hv3) (fun _ h => h.elim) q_cw_yX8_item q_mn_RX7_36 q_st_yX8_item ⟨⟨Nat.le_of_ble_eq_true rfl, Nat.le_of_ble_eq_true rfl⟩, ⟨Nat.zero_le _, Nat.zero_le _⟩, Nat.le_of_ble_eq_true rfl⟩ rfl rfl rfl dX7_note_38 ?_
      refine Y_min C (pc := 41) q_ml_RX7_75 ⟨q_st_min, q_in_Math, q_cd_min⟩ ⟨Nat.le_of_ble_eq_true rfl, Nat.le_of_ble_eq_true rfl, Nat.zero_le _, Nat.zero_le _⟩ dX7_note_41 ?_
      obtain ⟨v4, hv4, h⟩ := Option.bind_eq_some_iff.mp h
      refine Y_callSN C [.ref (ρ (k0 + 1)), .int s1.1, .int (mn v2 v3)] [] [] (c_X8_setItem hI (q_kr_7_1 hk0) (q_lr_7_1 hk0) hv4) (fun _ h => h) q_cw_yX8_setItem q_mn_RX7_44 q_st_yX8_setItem ⟨⟨Nat.le_of_ble_eq_true rfl, Nat.le_of_ble_eq_true rfl⟩, ⟨Nat.zero_le _, Nat.zero_le _⟩, Nat.le_of_ble_eq_true rfl⟩ rfl rfl rfl dX7_note_44 ?_
      refine Y_iinc C (pc := 47) (v := (s1.1 + 1)) (lv' := [(1, .int (s1.1 + 1)), (0, .ref (ρ k0))]) 1 rfl (congrArg (fun z => s1.1 + z) (by decide : Int32.ofInt (1) = (1))) (by decide) rfl dX7_note_47 ?_
      refine Y_goto C (pc := 50) (tgt := 12) dX7_note_50 (by decide) ?_
      have h := Option.some.inj h
      exact Y_sub [1, 0] rfl (hLp _ h.symm)
  · cases h
    exact Y_vret C dX7_note_53

noncomputable def f_X7_load_L23 (k0 : Nat) : (Int32 × Sg) → Option ((Int32 × Sg) ⊕ (Sg)) := fun s2 => if (6 : Int32) ≤ s2.1 then (some (.inr s2.2)) else ((ast s2.2 (k0 + 1) s2.1 s2.1).bind fun s3 => (ast s3 (k0 + 2) s2.1 (-1 : Int32)).bind fun s4 => some (.inl ((s2.1 + 1), s4)))
noncomputable def f_X7_load_J125 (j11 : Int32) (j12 : Int32) (sj13 : Sg) : Option ((Int32 × Int32 × Sg) ⊕ (Sg)) := some (.inl (j11, (j12 + 1), sj13))
noncomputable def f_X7_load_L54 (k0 : Nat) (k1 : Nat) : (Int32 × Int32 × Sg) → Option ((Int32 × Int32 × Sg) ⊕ (Sg)) := fun s7 => if (1000000 : Int32) ≤ s7.2.1 then (some (.inr s7.2.2)) else (if s7.1 < (0 : Int32) then (some (.inr s7.2.2)) else ((f_X8_item s7.2.2 ((k0 + 2)) s7.1).bind fun v8 => (f_X7_nextImage s7.2.2 k0 k1 s7.1 ((v8 + (1 : Int32)))).bind fun v9 => (f_X8_setItem s7.2.2 ((k0 + 2)) s7.1 v9).bind fun v10 => if v9 = (-1 : Int32) then (f_X7_load_J125 ((s7.1 + (-1))) s7.2.1 v10) else (if s7.1 = ((v10 k0 2) - (1 : Int32)) then ((f_X7_note v10 k0).bind fun v14 => f_X7_load_J125 s7.1 s7.2.1 v14) else (f_X7_load_J125 ((s7.1 + 1)) s7.2.1 v10))))
noncomputable def f_X7_load (σ : Sg) (k0 : Nat) (k1 : Nat) (k2 : Nat) : Option (Sg) := (f_X8_takenBy ((si ((si σ k0 2 (σ k1 0))) k0 0 (0 : Int32))) k2).bind fun v1 => (lo (f_X7_load_L23 k0) ((0 : Int32), (si ((si ((si σ k0 2 (σ k1 0))) k0 0 (0 : Int32))) k0 3 v1))).bind fun e6 => (lo (f_X7_load_L54 k0 k1) ((0 : Int32), (0 : Int32), e6)).bind fun e19 => some e19
set_option maxRecDepth 100000 in
set_option maxHeartbeats 4000000 in
theorem c_X7_load {l : Launch} {D : va_G} {cA ρ : Nat → Nat} {σ : Sg} {τ : Tg} {k0 : Nat} {k1 : Nat} {k2 : Nat} (hI : Inj ρ) (hk0 : kd k0 = (0, 7)) (hk1 : kd k1 = (0, 6)) (hk2 : (kd k2).1 = 1) {r : Sg} (h : f_X7_load σ k0 k1 k2 = some r) : Ct l yX7_load cX7_load 6 none 3 73 D cA ρ (Aw ρ) [.ref (ρ k0), .ref (ρ k1), .ref (ρ k2)] σ τ none r τ := by
  refine Ct_of (by decide +kernel) (Nat.le_of_ble_eq_true rfl) (fun p e s m args below meth c C => ?_)
  have C : Ctx p l s m args meth c cX7_load RX7 6 none D cA ρ (Aw ρ) := C
  have hW : Wr ρ (Aw ρ) := ⟨hI, fun k hk => ⟨k, hk, rfl⟩⟩
  unfold f_X7_load at h
  refine Y_sub [0, 1, 2] (lv' := [(0, .ref (ρ k0)), (1, .ref (ρ k1)), (2, .ref (ρ k2))]) rfl ?_
  refine Y_aload_n C (pc := 0) 0 0 rfl rfl dX7_load_0 ?_
  refine Y_aload_n C (pc := 1) 1 1 rfl rfl dX7_load_1 ?_
  refine Y_getI C (pc := 2) hk1 q_fi_RX7_18 dX7_load_2 ?_
  refine Y_putI C (pc := 5) hW hk0 (q_lo_7 hk0) q_fp_RX7_24 dX7_load_5 ?_
  refine Y_aload_n C (pc := 8) 0 0 rfl rfl dX7_load_8 ?_
  refine Y_iconst C (pc := 9) (v := (0 : Int32)) (by decide) dX7_load_9 ?_
  refine Y_putI C (pc := 10) hW hk0 (q_lo_7 hk0) q_fp_RX7_25 dX7_load_10 ?_
  refine Y_aload_n C (pc := 13) 0 0 rfl rfl dX7_load_13 ?_
  refine Y_aload_n C (pc := 14) 2 2 rfl rfl dX7_load_14 ?_
  obtain ⟨v1, hv1, h⟩ := Option.bind_eq_some_iff.mp h
  refine Y_callSN C [.ref (ρ k2)] [.ref (ρ k0)] [.int v1, .ref (ρ k0)] (c_X8_takenBy hk2 hv1) (fun _ h => h.elim) q_cw_yX8_takenBy q_mn_RX7_28 q_st_yX8_takenBy ⟨⟨Nat.le_of_ble_eq_true rfl, Nat.le_of_ble_eq_true rfl⟩, ⟨Nat.zero_le _, Nat.zero_le _⟩, Nat.le_of_ble_eq_true rfl⟩ rfl rfl rfl dX7_load_15 ?_
  refine Y_putI C (pc := 18) hW hk0 (q_lo_7 hk0) q_fp_RX7_32 dX7_load_18 ?_
  refine Y_iconst C (pc := 21) (v := (0 : Int32)) (by decide) dX7_load_21 ?_
  refine Y_istore_n C (pc := 22) (lv' := [(3, .int (0 : Int32)), (0, .ref (ρ k0)), (1, .ref (ρ k1)), (2, .ref (ρ k2))]) 3 rfl (by decide) rfl dX7_load_22 ?_
  obtain ⟨e6, he6, h⟩ := Option.bind_eq_some_iff.mp h
  refine Y_sub [1, 2, 0] (lv' := [(0, .ref (ρ k0)), (1, .ref (ρ k1)), (3, .int (0 : Int32))]) rfl ?_
  refine lo_rule (f := (f_X7_load_L23 k0)) (YS := fun s2 => Y p l e (Rm 3 73) s m args below meth c 6 D cA ρ (Aw ρ) 0 0 (MQ below (QC D cA ρ (Aw ρ) none r τ) args s 0 0 (Aw ρ)) s2.2 τ 23 [(0, .ref (ρ k0)), (1, .ref (ρ k1)), (3, .int s2.1)] []) (YE := fun e6 => Y p l e (Rm 3 73) s m args below meth c 6 D cA ρ (Aw ρ) 0 0 (MQ below (QC D cA ρ (Aw ρ) none r τ) args s 0 0 (Aw ρ)) e6 τ 49 [(0, .ref (ρ k0)), (1, .ref (ρ k1))] []) ?_ he6 ?_
  · intro s2 x h hLp hE
    unfold f_X7_load_L23 at h
    refine Y_iload_n C (pc := 23) 3 2 rfl rfl dX7_load_23 ?_
    refine Y_bipush C (pc := 24) (v := (6 : Int32)) (by decide) dX7_load_24 ?_
    refine Y_icmp_ge C (pc := 26) (tgt := 49) dX7_load_26 (by decide) (fun c5 => ?_) (fun c5 => ?_)
    · rw [if_pos c5] at h
      have h := Option.some.inj h
      exact Y_sub [0, 1] rfl (hE _ h.symm)
    · rw [if_neg c5] at h
      refine Y_aload_n C (pc := 29) 0 0 rfl rfl dX7_load_29 ?_
      refine Y_getR C (pc := 30) hk0 q_fi_RX7_9 (by decide) dX7_load_30 ?_
      refine Y_iload_n C (pc := 33) 3 2 rfl rfl dX7_load_33 ?_
      refine Y_iload_n C (pc := 34) 3 2 rfl rfl dX7_load_34 ?_
      obtain ⟨s3, hs3, h⟩ := Option.bind_eq_some_iff.mp h
      refine Y_iast C (pc := 35) hW (q_kr_7_1 hk0) (q_lr_7_1 hk0) hs3 dX7_load_35 ?_
      refine Y_aload_n C (pc := 36) 0 0 rfl rfl dX7_load_36 ?_
      refine Y_getR C (pc := 37) hk0 q_fi_RX7_15 (by decide) dX7_load_37 ?_
      refine Y_iload_n C (pc := 40) 3 2 rfl rfl dX7_load_40 ?_
      refine Y_iconst C (pc := 41) (v := (-1 : Int32)) (by decide) dX7_load_41 ?_
      obtain ⟨s4, hs4, h⟩ := Option.bind_eq_some_iff.mp h
      refine Y_iast C (pc := 42) hW (q_kr_7_4 hk0) (q_lr_7_4 hk0) hs4 dX7_load_42 ?_
      refine Y_iinc C (pc := 43) (v := (s2.1 + 1)) (lv' := [(3, .int (s2.1 + 1)), (0, .ref (ρ k0)), (1, .ref (ρ k1))]) 2 rfl (congrArg (fun z => s2.1 + z) (by decide : Int32.ofInt (1) = (1))) (by decide) rfl dX7_load_43 ?_
      refine Y_goto C (pc := 46) (tgt := 23) dX7_load_46 (by decide) ?_
      have h := Option.some.inj h
      exact Y_sub [1, 2, 0] rfl (hLp _ h.symm)
  · refine Y_iconst C (pc := 49) (v := (0 : Int32)) (by decide) dX7_load_49 ?_
    refine Y_istore_n C (pc := 50) (lv' := [(3, .int (0 : Int32)), (0, .ref (ρ k0)), (1, .ref (ρ k1))]) 3 rfl (by decide) rfl dX7_load_50 ?_
    refine Y_iconst C (pc := 51) (v := (0 : Int32)) (by decide) dX7_load_51 ?_
    refine Y_istore C (pc := 52) (lv' := [(4, .int (0 : Int32)), (3, .int (0 : Int32)), (0, .ref (ρ k0)), (1, .ref (ρ k1))]) (by decide) rfl dX7_load_52 ?_
    obtain ⟨e19, he19, h⟩ := Option.bind_eq_some_iff.mp h
    refine Y_sub [2, 3, 1, 0] (lv' := [(0, .ref (ρ k0)), (1, .ref (ρ k1)), (3, .int (0 : Int32)), (4, .int (0 : Int32))]) rfl ?_
    refine lo_rule (f := (f_X7_load_L54 k0 k1)) (YS := fun s7 => Y p l e (Rm 3 73) s m args below meth c 6 D cA ρ (Aw ρ) 0 0 (MQ below (QC D cA ρ (Aw ρ) none r τ) args s 0 0 (Aw ρ)) s7.2.2 τ 54 [(0, .ref (ρ k0)), (1, .ref (ρ k1)), (3, .int s7.1), (4, .int s7.2.1)] []) (YE := fun e19 => Y p l e (Rm 3 73) s m args below meth c 6 D cA ρ (Aw ρ) 0 0 (MQ below (QC D cA ρ (Aw ρ) none r τ) args s 0 0 (Aw ρ)) e19 τ 131 [] []) ?_ he19 ?_
    · intro s7 x h hLp hE
      unfold f_X7_load_L54 at h
      have hJ125 : ∀ (j11 : Int32) (j12 : Int32) (sj13 : Sg), f_X7_load_J125 j11 j12 sj13 = some x → Y p l e (Rm 3 73) s m args below meth c 6 D cA ρ (Aw ρ) 0 0 (MQ below (QC D cA ρ (Aw ρ) none r τ) args s 0 0 (Aw ρ)) sj13 τ 125 [(0, .ref (ρ k0)), (1, .ref (ρ k1)), (3, .int j11), (4, .int j12)] [] := by
        intro j11 j12 sj13 h
        unfold f_X7_load_J125 at h
        refine Y_iinc C (pc := 125) (v := (j12 + 1)) (lv' := [(4, .int (j12 + 1)), (0, .ref (ρ k0)), (1, .ref (ρ k1)), (3, .int j11)]) 3 rfl (congrArg (fun z => j12 + z) (by decide : Int32.ofInt (1) = (1))) (by decide) rfl dX7_load_125 ?_
        refine Y_goto C (pc := 128) (tgt := 54) dX7_load_128 (by decide) ?_
        have h := Option.some.inj h
        exact Y_sub [1, 2, 3, 0] rfl (hLp _ h.symm)
      refine Y_iload C (pc := 54) 3 rfl dX7_load_54 ?_
      refine Y_ldc C q_ct_RX7_35 dX7_load_56 ?_
      refine Y_icmp_ge C (pc := 58) (tgt := 131) dX7_load_58 (by decide) (fun c18 => ?_) (fun c18 => ?_)
      · rw [if_pos c18] at h
        have h := Option.some.inj h
        exact Y_sub [] rfl (hE _ h.symm)
      · rw [if_neg c18] at h
        refine Y_iload_n C (pc := 61) 3 2 rfl rfl dX7_load_61 ?_
        refine Y_if_lt C (pc := 62) (tgt := 131) dX7_load_62 (by decide) (fun c17 => ?_) (fun c17 => ?_)
        · rw [if_pos c17] at h
          have h := Option.some.inj h
          exact Y_sub [] rfl (hE _ h.symm)
        · rw [if_neg c17] at h
          refine Y_aload_n C (pc := 65) 0 0 rfl rfl dX7_load_65 ?_
          refine Y_aload_n C (pc := 66) 1 1 rfl rfl dX7_load_66 ?_
          refine Y_iload_n C (pc := 67) 3 2 rfl rfl dX7_load_67 ?_
          refine Y_aload_n C (pc := 68) 0 0 rfl rfl dX7_load_68 ?_
          refine Y_getR C (pc := 69) hk0 q_fi_RX7_15 (by decide) dX7_load_69 ?_
          refine Y_iload_n C (pc := 72) 3 2 rfl rfl dX7_load_72 ?_
          obtain ⟨v8, hv8, h⟩ := Option.bind_eq_some_iff.mp h
          refine Y_callSN C [.ref (ρ (k0 + 2)), .int s7.1] [.int s7.1, .ref (ρ k1), .ref (ρ k0)] [.int v8, .int s7.1, .ref (ρ k1), .ref (ρ k0)] (c_X8_item (q_kr_7_4 hk0) hv8) (fun _ h => h.elim) q_cw_yX8_item q_mn_RX7_36 q_st_yX8_item ⟨⟨Nat.le_of_ble_eq_true rfl, Nat.le_of_ble_eq_true rfl⟩, ⟨Nat.zero_le _, Nat.zero_le _⟩, Nat.le_of_ble_eq_true rfl⟩ rfl rfl rfl dX7_load_73 ?_
          refine Y_iconst C (pc := 76) (v := (1 : Int32)) (by decide) dX7_load_76 ?_
          refine Y_iadd C (pc := 77) dX7_load_77 ?_
          obtain ⟨v9, hv9, h⟩ := Option.bind_eq_some_iff.mp h
          refine Y_callV C [.ref (ρ k1), .int s7.1, .int (v8 + (1 : Int32))] [] [.int v9] hk0 rfl rfl (c_X7_nextImage hk0 hk1 hv9) (fun _ h => h.elim) q_cw_yX7_nextImage q_ml_RX7_40 ⟨q_im_yX7_nextImage, q_se_yX7_nextImage⟩ ⟨⟨Nat.le_of_ble_eq_true rfl, Nat.le_of_ble_eq_true rfl⟩, ⟨Nat.zero_le _, Nat.zero_le _⟩, Nat.le_of_ble_eq_true rfl⟩ rfl rfl rfl dX7_load_78 ?_
          refine Y_istore C (pc := 81) (lv' := [(5, .int v9), (0, .ref (ρ k0)), (1, .ref (ρ k1)), (3, .int s7.1), (4, .int s7.2.1)]) (by decide) rfl dX7_load_81 ?_
          refine Y_aload_n C (pc := 83) 0 1 rfl rfl dX7_load_83 ?_
          refine Y_getR C (pc := 84) hk0 q_fi_RX7_15 (by decide) dX7_load_84 ?_
          refine Y_iload_n C (pc := 87) 3 3 rfl rfl dX7_load_87 ?_
          refine Y_iload C (pc := 88) 0 rfl dX7_load_88 ?_
          obtain ⟨v10, hv10, h⟩ := Option.bind_eq_some_iff.mp h
          refine Y_callSN C [.ref (ρ (k0 + 2)), .int s7.1, .int v9] [] [] (c_X8_setItem hI (q_kr_7_4 hk0) (q_lr_7_4 hk0) hv10) (fun _ h => h) q_cw_yX8_setItem q_mn_RX7_44 q_st_yX8_setItem ⟨⟨Nat.le_of_ble_eq_true rfl, Nat.le_of_ble_eq_true rfl⟩, ⟨Nat.zero_le _, Nat.zero_le _⟩, Nat.le_of_ble_eq_true rfl⟩ rfl rfl rfl dX7_load_90 ?_
          refine Y_iload C (pc := 93) 0 rfl dX7_load_93 ?_
          refine Y_iconst C (pc := 95) (v := (-1 : Int32)) (by decide) dX7_load_95 ?_
          refine Y_icmp_ne C (pc := 96) (tgt := 105) dX7_load_96 (by decide) (fun c16 => ?_) (fun c16 => ?_)
          · rw [if_neg c16] at h
            refine Y_iload_n C (pc := 105) 3 3 rfl rfl dX7_load_105 ?_
            refine Y_aload_n C (pc := 106) 0 1 rfl rfl dX7_load_106 ?_
            refine Y_getI C (pc := 107) hk0 q_fi_RX7_24 dX7_load_107 ?_
            refine Y_iconst C (pc := 110) (v := (1 : Int32)) (by decide) dX7_load_110 ?_
            refine Y_isub C (pc := 111) dX7_load_111 ?_
            refine Y_icmp_ne C (pc := 112) (tgt := 122) dX7_load_112 (by decide) (fun c15 => ?_) (fun c15 => ?_)
            · rw [if_neg c15] at h
              refine Y_iinc C (pc := 122) (v := (s7.1 + 1)) (lv' := [(3, .int (s7.1 + 1)), (5, .int v9), (0, .ref (ρ k0)), (1, .ref (ρ k1)), (4, .int s7.2.1)]) 3 rfl (congrArg (fun z => s7.1 + z) (by decide : Int32.ofInt (1) = (1))) (by decide) rfl dX7_load_122 ?_
              exact Y_sub [2, 3, 0, 4] rfl (hJ125 _ _ _ h)
            · rw [if_pos c15] at h
              refine Y_aload_n C (pc := 115) 0 1 rfl rfl dX7_load_115 ?_
              obtain ⟨v14, hv14, h⟩ := Option.bind_eq_some_iff.mp h
              refine Y_callV C [] [] [] hk0 rfl rfl (c_X7_note hI hk0 hv14) (fun _ h => h) q_cw_yX7_note q_ml_RX7_48 ⟨q_im_yX7_note, q_se_yX7_note⟩ ⟨⟨Nat.le_of_ble_eq_true rfl, Nat.le_of_ble_eq_true rfl⟩, ⟨Nat.zero_le _, Nat.zero_le _⟩, Nat.le_of_ble_eq_true rfl⟩ rfl rfl rfl dX7_load_116 ?_
              refine Y_goto C (pc := 119) (tgt := 125) dX7_load_119 (by decide) ?_
              exact Y_sub [1, 2, 3, 4] rfl (hJ125 _ _ _ h)
          · rw [if_pos c16] at h
            refine Y_iinc C (pc := 99) (v := (s7.1 + (-1))) (lv' := [(3, .int (s7.1 + (-1))), (5, .int v9), (0, .ref (ρ k0)), (1, .ref (ρ k1)), (4, .int s7.2.1)]) 3 rfl (congrArg (fun z => s7.1 + z) (by decide : Int32.ofInt (-1) = (-1))) (by decide) rfl dX7_load_99 ?_
            refine Y_goto C (pc := 102) (tgt := 125) dX7_load_102 (by decide) ?_
            exact Y_sub [2, 3, 0, 4] rfl (hJ125 _ _ _ h)
    · cases h
      exact Y_vret C dX7_load_131

noncomputable def f_X5_keepRepresentatives_J49 (j4 : Int32) (j5 : Int32) (sj6 : Sg) : Option ((Int32 × Int32 × Sg) ⊕ (Int32 × Sg)) := some (.inl (j4, (j5 + 1), sj6))
noncomputable def f_X5_keepRepresentatives_L4 (i1 : Int32) (k0 : Nat) : (Int32 × Int32 × Sg) → Option ((Int32 × Int32 × Sg) ⊕ (Int32 × Sg)) := fun s1 => if i1 ≤ s1.2.1 then (some (.inr (s1.1, s1.2.2))) else ((f_X8_item s1.2.2 ((k0 + 14)) s1.2.1).bind fun v2 => (f_X8_item s1.2.2 (((k0 + 10) + 1)) v2).bind fun v3 => if v3 = v2 then ((f_X8_setItem s1.2.2 ((k0 + 14)) s1.1 v2).bind fun v7 => f_X5_keepRepresentatives_J49 ((s1.1 + 1)) s1.2.1 v7) else (f_X5_keepRepresentatives_J49 s1.1 s1.2.1 s1.2.2))
noncomputable def f_X5_keepRepresentatives (σ : Sg) (k0 : Nat) (i1 : Int32) : Option (Int32 × Sg) := (lo (f_X5_keepRepresentatives_L4 i1 k0) ((0 : Int32), (0 : Int32), σ)).bind fun e10 => some (e10.1, e10.2)
set_option maxRecDepth 100000 in
set_option maxHeartbeats 4000000 in
theorem c_X5_keepRepresentatives {l : Launch} {D : va_G} {cA ρ : Nat → Nat} {σ : Sg} {τ : Tg} {k0 : Nat} {i1 : Int32} (hI : Inj ρ) (hk0 : kd k0 = (0, 5)) {r : Int32 × Sg} (h : f_X5_keepRepresentatives σ k0 i1 = some r) : Ct l yX5_keepRepresentatives cX5_keepRepresentatives 5 (some .int) 1 22 D cA ρ (Aw ρ) [.ref (ρ k0), .int i1] σ τ (some (.int r.1)) r.2 τ := by
  refine Ct_of (by decide +kernel) (Nat.le_of_ble_eq_true rfl) (fun p e s m args below meth c C => ?_)
  have C : Ctx p l s m args meth c cX5_keepRepresentatives RX5 5 (some .int) D cA ρ (Aw ρ) := C
  have hW : Wr ρ (Aw ρ) := ⟨hI, fun k hk => ⟨k, hk, rfl⟩⟩
  unfold f_X5_keepRepresentatives at h
  refine Y_sub [0, 1] (lv' := [(0, .ref (ρ k0)), (1, .int i1)]) rfl ?_
  refine Y_iconst C (pc := 0) (v := (0 : Int32)) (by decide) dX5_keepRepresentatives_0 ?_
  refine Y_istore_n C (pc := 1) (lv' := [(2, .int (0 : Int32)), (0, .ref (ρ k0)), (1, .int i1)]) 2 rfl (by decide) rfl dX5_keepRepresentatives_1 ?_
  refine Y_iconst C (pc := 2) (v := (0 : Int32)) (by decide) dX5_keepRepresentatives_2 ?_
  refine Y_istore_n C (pc := 3) (lv' := [(3, .int (0 : Int32)), (2, .int (0 : Int32)), (0, .ref (ρ k0)), (1, .int i1)]) 3 rfl (by decide) rfl dX5_keepRepresentatives_3 ?_
  obtain ⟨e10, he10, h⟩ := Option.bind_eq_some_iff.mp h
  refine Y_sub [2, 3, 1, 0] (lv' := [(0, .ref (ρ k0)), (1, .int i1), (2, .int (0 : Int32)), (3, .int (0 : Int32))]) rfl ?_
  refine lo_rule (f := (f_X5_keepRepresentatives_L4 i1 k0)) (YS := fun s1 => Y p l e (Rm 1 22) s m args below meth c 5 D cA ρ (Aw ρ) 0 0 (MQ below (QC D cA ρ (Aw ρ) (some (.int r.1)) r.2 τ) args s 0 0 (Aw ρ)) s1.2.2 τ 4 [(0, .ref (ρ k0)), (1, .int i1), (2, .int s1.1), (3, .int s1.2.1)] []) (YE := fun e10 => Y p l e (Rm 1 22) s m args below meth c 5 D cA ρ (Aw ρ) 0 0 (MQ below (QC D cA ρ (Aw ρ) (some (.int r.1)) r.2 τ) args s 0 0 (Aw ρ)) e10.2 τ 55 [(2, .int e10.1)] []) ?_ he10 ?_
  · intro s1 x h hLp hE
    unfold f_X5_keepRepresentatives_L4 at h
    have hJ49 : ∀ (j4 : Int32) (j5 : Int32) (sj6 : Sg), f_X5_keepRepresentatives_J49 j4 j5 sj6 = some x → Y p l e (Rm 1 22) s m args below meth c 5 D cA ρ (Aw ρ) 0 0 (MQ below (QC D cA ρ (Aw ρ) (some (.int r.1)) r.2 τ) args s 0 0 (Aw ρ)) sj6 τ 49 [(0, .ref (ρ k0)), (1, .int i1), (2, .int j4), (3, .int j5)] [] := by
      intro j4 j5 sj6 h
      unfold f_X5_keepRepresentatives_J49 at h
      refine Y_iinc C (pc := 49) (v := (j5 + 1)) (lv' := [(3, .int (j5 + 1)), (0, .ref (ρ k0)), (1, .int i1), (2, .int j4)]) 3 rfl (congrArg (fun z => j5 + z) (by decide : Int32.ofInt (1) = (1))) (by decide) rfl dX5_keepRepresentatives_49 ?_
      refine Y_goto C (pc := 52) (tgt := 4) dX5_keepRepresentatives_52 (by decide) ?_
      have h := Option.some.inj h
      exact Y_sub [1, 2, 3, 0] rfl (hLp _ h.symm)
    refine Y_iload_n C (pc := 4) 3 3 rfl rfl dX5_keepRepresentatives_4 ?_
    refine Y_iload_n C (pc := 5) 1 1 rfl rfl dX5_keepRepresentatives_5 ?_
    refine Y_icmp_ge C (pc := 6) (tgt := 55) dX5_keepRepresentatives_6 (by decide) (fun c9 => ?_) (fun c9 => ?_)
    · rw [if_pos c9] at h
      have h := Option.some.inj h
      exact Y_sub [2] rfl (hE _ h.symm)
    · rw [if_neg c9] at h
      refine Y_aload_n C (pc := 9) 0 0 rfl rfl dX5_keepRepresentatives_9 ?_
      refine Y_getR C (pc := 10) hk0 q_fi_RX5_39 (by decide) dX5_keepRepresentatives_10 ?_
      refine Y_iload_n C (pc := 13) 3 3 rfl rfl dX5_keepRepresentatives_13 ?_
      obtain ⟨v2, hv2, h⟩ := Option.bind_eq_some_iff.mp h
      refine Y_callSN C [.ref (ρ (k0 + 14)), .int s1.2.1] [] [.int v2] (c_X8_item (q_kr_5_16 hk0) hv2) (fun _ h => h.elim) q_cw_yX8_item q_mn_RX5_147 q_st_yX8_item ⟨⟨Nat.le_of_ble_eq_true rfl, Nat.le_of_ble_eq_true rfl⟩, ⟨Nat.zero_le _, Nat.zero_le _⟩, Nat.le_of_ble_eq_true rfl⟩ rfl rfl rfl dX5_keepRepresentatives_14 ?_
      refine Y_istore C (pc := 17) (lv' := [(4, .int v2), (0, .ref (ρ k0)), (1, .int i1), (2, .int s1.1), (3, .int s1.2.1)]) (by decide) rfl dX5_keepRepresentatives_17 ?_
      refine Y_aload_n C (pc := 19) 0 1 rfl rfl dX5_keepRepresentatives_19 ?_
      refine Y_getR C (pc := 20) hk0 q_fi_RX5_32 (by decide) dX5_keepRepresentatives_20 ?_
      refine Y_getR C (pc := 23) (q_kr_5_14 hk0) q_fi_RX5_170 (by decide) dX5_keepRepresentatives_23 ?_
      refine Y_iload C (pc := 26) 0 rfl dX5_keepRepresentatives_26 ?_
      obtain ⟨v3, hv3, h⟩ := Option.bind_eq_some_iff.mp h
      refine Y_callSN C [.ref (ρ ((k0 + 10) + 1)), .int v2] [] [.int v3] (c_X8_item (q_kr_7_1 (q_kr_5_14 hk0)) hv3) (fun _ h => h.elim) q_cw_yX8_item q_mn_RX5_147 q_st_yX8_item ⟨⟨Nat.le_of_ble_eq_true rfl, Nat.le_of_ble_eq_true rfl⟩, ⟨Nat.zero_le _, Nat.zero_le _⟩, Nat.le_of_ble_eq_true rfl⟩ rfl rfl rfl dX5_keepRepresentatives_28 ?_
      refine Y_iload C (pc := 31) 0 rfl dX5_keepRepresentatives_31 ?_
      refine Y_icmp_ne C (pc := 33) (tgt := 49) dX5_keepRepresentatives_33 (by decide) (fun c8 => ?_) (fun c8 => ?_)
      · rw [if_neg c8] at h
        exact Y_sub [1, 2, 3, 4] rfl (hJ49 _ _ _ h)
      · rw [if_pos c8] at h
        refine Y_aload_n C (pc := 36) 0 1 rfl rfl dX5_keepRepresentatives_36 ?_
        refine Y_getR C (pc := 37) hk0 q_fi_RX5_39 (by decide) dX5_keepRepresentatives_37 ?_
        refine Y_iload_n C (pc := 40) 2 3 rfl rfl dX5_keepRepresentatives_40 ?_
        refine Y_iload C (pc := 41) 0 rfl dX5_keepRepresentatives_41 ?_
        obtain ⟨v7, hv7, h⟩ := Option.bind_eq_some_iff.mp h
        refine Y_callSN C [.ref (ρ (k0 + 14)), .int s1.1, .int v2] [] [] (c_X8_setItem hI (q_kr_5_16 hk0) (q_lr_5_16 hk0) hv7) (fun _ h => h) q_cw_yX8_setItem q_mn_RX5_151 q_st_yX8_setItem ⟨⟨Nat.le_of_ble_eq_true rfl, Nat.le_of_ble_eq_true rfl⟩, ⟨Nat.zero_le _, Nat.zero_le _⟩, Nat.le_of_ble_eq_true rfl⟩ rfl rfl rfl dX5_keepRepresentatives_43 ?_
        refine Y_iinc C (pc := 46) (v := (s1.1 + 1)) (lv' := [(2, .int (s1.1 + 1)), (4, .int v2), (0, .ref (ρ k0)), (1, .int i1), (3, .int s1.2.1)]) 3 rfl (congrArg (fun z => s1.1 + z) (by decide : Int32.ofInt (1) = (1))) (by decide) rfl dX5_keepRepresentatives_46 ?_
        exact Y_sub [2, 3, 0, 4] rfl (hJ49 _ _ _ h)
  · refine Y_iload_n C (pc := 55) 2 0 rfl rfl dX5_keepRepresentatives_55 ?_
    cases h
    exact Y_iret C dX5_keepRepresentatives_56

noncomputable def f_X5_expand_J77 (k0 : Nat) (j3 : Int32) (k1 : Nat) (j8 : Int32) (j9 : Int32) (sj10 : Sg) (tj11 : Tg) : Option ((Int32 × Sg × Tg) ⊕ (Sg × Tg)) := (f_X8_item sj10 ((k0 + 14)) j9).bind fun v12 => (f_X8_setItem sj10 ((k0 + 13)) j3 v12).bind fun v13 => (f_X5_admit v13 tj11 k0 k1).bind fun v14 => some (.inl ((j8 + 1), v14.1, v14.2))
noncomputable def f_X5_expand_L49 (j4 : Int32) (k0 : Nat) (j3 : Int32) (k1 : Nat) : (Int32 × Sg × Tg) → Option ((Int32 × Sg × Tg) ⊕ (Sg × Tg)) := fun s7 => if j4 ≤ s7.1 then (some (.inr (s7.2.1, s7.2.2))) else (if (s7.2.1 k0 9) = (0 : Int32) then (f_X5_expand_J77 k0 j3 k1 s7.1 (((j4 - (1 : Int32)) - s7.1)) s7.2.1 s7.2.2) else (f_X5_expand_J77 k0 j3 k1 s7.1 s7.1 s7.2.1 s7.2.2))
noncomputable def f_X5_expand_J46 (k0 : Nat) (k1 : Nat) (j3 : Int32) (j4 : Int32) (sj5 : Sg) (tj6 : Tg) : Option (Sg × Tg) := (lo (f_X5_expand_L49 j4 k0 j3 k1) ((0 : Int32), sj5, tj6)).bind fun e17 => (f_X8_setItem e17.1 ((k0 + 13)) j3 ((-1 : Int32))).bind fun v18 => some (v18, e17.2)
noncomputable def f_X5_expand (σ : Sg) (τ : Tg) (k0 : Nat) (k1 : Nat) : Option (Sg × Tg) := (f_X1_mostRegretted σ (k0 + 4)).bind fun v1 => (f_X1_orderLocations σ (k0 + 4) v1 ((k0 + 14))).bind fun v2 => if (v2.2 k0 10) = (0 : Int32) then (f_X5_expand_J46 k0 k1 v1 v2.1 v2.2 τ) else ((f_X7_load v2.2 (k0 + 10) k1 ((k0 + 13))).bind fun v19 => (f_X5_keepRepresentatives v19 k0 v2.1).bind fun v20 => f_X5_expand_J46 k0 k1 v1 v20.1 v20.2 τ)
set_option maxRecDepth 100000 in
set_option maxHeartbeats 4000000 in
theorem c_X5_expand {l : Launch} {D : va_G} {cA ρ : Nat → Nat} {σ : Sg} {τ : Tg} {k0 : Nat} {k1 : Nat} (hI : Inj ρ) (hk0 : kd k0 = (0, 5)) (hk1 : kd k1 = (0, 6)) {r : Sg × Tg} (h : f_X5_expand σ τ k0 k1 = some r) : Ct l yX5_expand cX5_expand 6 none 4 99 D cA ρ (Aw ρ) [.ref (ρ k0), .ref (ρ k1)] σ τ none r.1 r.2 := by
  refine Ct_of (by decide +kernel) (Nat.le_of_ble_eq_true rfl) (fun p e s m args below meth c C => ?_)
  have C : Ctx p l s m args meth c cX5_expand RX5 6 none D cA ρ (Aw ρ) := C
  have hW : Wr ρ (Aw ρ) := ⟨hI, fun k hk => ⟨k, hk, rfl⟩⟩
  unfold f_X5_expand at h
  refine Y_sub [0, 1] (lv' := [(0, .ref (ρ k0)), (1, .ref (ρ k1))]) rfl ?_
  have hJ46 : ∀ (j3 : Int32) (j4 : Int32) (sj5 : Sg) (tj6 : Tg), f_X5_expand_J46 k0 k1 j3 j4 sj5 tj6 = some r → Y p l e (Rm 4 99) s m args below meth c 6 D cA ρ (Aw ρ) 0 0 (MQ below (QC D cA ρ (Aw ρ) none r.1 r.2) args s 0 0 (Aw ρ)) sj5 tj6 46 [(0, .ref (ρ k0)), (1, .ref (ρ k1)), (2, .int j3), (3, .int j4)] [] := by
    intro j3 j4 sj5 tj6 h
    unfold f_X5_expand_J46 at h
    refine Y_iconst C (pc := 46) (v := (0 : Int32)) (by decide) dX5_expand_46 ?_
    refine Y_istore C (pc := 47) (lv' := [(4, .int (0 : Int32)), (0, .ref (ρ k0)), (1, .ref (ρ k1)), (2, .int j3), (3, .int j4)]) (by decide) rfl dX5_expand_47 ?_
    obtain ⟨e17, he17, h⟩ := Option.bind_eq_some_iff.mp h
    refine Y_sub [1, 2, 3, 4, 0] (lv' := [(0, .ref (ρ k0)), (1, .ref (ρ k1)), (2, .int j3), (3, .int j4), (4, .int (0 : Int32))]) rfl ?_
    refine lo_rule (f := (f_X5_expand_L49 j4 k0 j3 k1)) (YS := fun s7 => Y p l e (Rm 4 99) s m args below meth c 6 D cA ρ (Aw ρ) 0 0 (MQ below (QC D cA ρ (Aw ρ) none r.1 r.2) args s 0 0 (Aw ρ)) s7.2.1 s7.2.2 49 [(0, .ref (ρ k0)), (1, .ref (ρ k1)), (2, .int j3), (3, .int j4), (4, .int s7.1)] []) (YE := fun e17 => Y p l e (Rm 4 99) s m args below meth c 6 D cA ρ (Aw ρ) 0 0 (MQ below (QC D cA ρ (Aw ρ) none r.1 r.2) args s 0 0 (Aw ρ)) e17.1 e17.2 103 [(0, .ref (ρ k0)), (2, .int j3)] []) ?_ he17 ?_
    · intro s7 x h hLp hE
      unfold f_X5_expand_L49 at h
      have hJ77 : ∀ (j8 : Int32) (j9 : Int32) (sj10 : Sg) (tj11 : Tg), f_X5_expand_J77 k0 j3 k1 j8 j9 sj10 tj11 = some x → Y p l e (Rm 4 99) s m args below meth c 6 D cA ρ (Aw ρ) 0 0 (MQ below (QC D cA ρ (Aw ρ) none r.1 r.2) args s 0 0 (Aw ρ)) sj10 tj11 77 [(0, .ref (ρ k0)), (1, .ref (ρ k1)), (2, .int j3), (3, .int j4), (4, .int j8)] [.int j9, .ref (ρ (k0 + 14))] := by
        intro j8 j9 sj10 tj11 h
        unfold f_X5_expand_J77 at h
        obtain ⟨v12, hv12, h⟩ := Option.bind_eq_some_iff.mp h
        refine Y_callSN C [.ref (ρ (k0 + 14)), .int j9] [] [.int v12] (c_X8_item (q_kr_5_16 hk0) hv12) (fun _ h => h.elim) q_cw_yX8_item q_mn_RX5_147 q_st_yX8_item ⟨⟨Nat.le_of_ble_eq_true rfl, Nat.le_of_ble_eq_true rfl⟩, ⟨Nat.zero_le _, Nat.zero_le _⟩, Nat.le_of_ble_eq_true rfl⟩ rfl rfl rfl dX5_expand_77 ?_
        refine Y_istore C (pc := 80) (lv' := [(5, .int v12), (0, .ref (ρ k0)), (1, .ref (ρ k1)), (2, .int j3), (3, .int j4), (4, .int j8)]) (by decide) rfl dX5_expand_80 ?_
        refine Y_aload_n C (pc := 82) 0 1 rfl rfl dX5_expand_82 ?_
        refine Y_getR C (pc := 83) hk0 q_fi_RX5_36 (by decide) dX5_expand_83 ?_
        refine Y_iload_n C (pc := 86) 2 3 rfl rfl dX5_expand_86 ?_
        refine Y_iload C (pc := 87) 0 rfl dX5_expand_87 ?_
        obtain ⟨v13, hv13, h⟩ := Option.bind_eq_some_iff.mp h
        refine Y_callSN C [.ref (ρ (k0 + 13)), .int j3, .int v12] [] [] (c_X8_setItem hI (q_kr_5_15 hk0) (q_lr_5_15 hk0) hv13) (fun _ h => h) q_cw_yX8_setItem q_mn_RX5_151 q_st_yX8_setItem ⟨⟨Nat.le_of_ble_eq_true rfl, Nat.le_of_ble_eq_true rfl⟩, ⟨Nat.zero_le _, Nat.zero_le _⟩, Nat.le_of_ble_eq_true rfl⟩ rfl rfl rfl dX5_expand_89 ?_
        refine Y_aload_n C (pc := 92) 0 1 rfl rfl dX5_expand_92 ?_
        refine Y_aload_n C (pc := 93) 1 2 rfl rfl dX5_expand_93 ?_
        obtain ⟨v14, hv14, h⟩ := Option.bind_eq_some_iff.mp h
        refine Y_callV C [.ref (ρ k1)] [] [] hk0 rfl rfl (c_X5_admit hI hk0 hk1 hv14) (fun _ h => h) q_cw_yX5_admit q_ml_RX5_72 ⟨q_im_yX5_admit, q_se_yX5_admit⟩ ⟨⟨Nat.le_of_ble_eq_true rfl, Nat.le_of_ble_eq_true rfl⟩, ⟨Nat.zero_le _, Nat.zero_le _⟩, Nat.le_of_ble_eq_true rfl⟩ rfl rfl rfl dX5_expand_94 ?_
        refine Y_iinc C (pc := 97) (v := (j8 + 1)) (lv' := [(4, .int (j8 + 1)), (5, .int v12), (0, .ref (ρ k0)), (1, .ref (ρ k1)), (2, .int j3), (3, .int j4)]) 5 rfl (congrArg (fun z => j8 + z) (by decide : Int32.ofInt (1) = (1))) (by decide) rfl dX5_expand_97 ?_
        refine Y_goto C (pc := 100) (tgt := 49) dX5_expand_100 (by decide) ?_
        have h := Option.some.inj h
        exact Y_sub [2, 3, 4, 5, 0] rfl (hLp _ h.symm)
      refine Y_iload C (pc := 49) 4 rfl dX5_expand_49 ?_
      refine Y_iload_n C (pc := 51) 3 3 rfl rfl dX5_expand_51 ?_
      refine Y_icmp_ge C (pc := 52) (tgt := 103) dX5_expand_52 (by decide) (fun c16 => ?_) (fun c16 => ?_)
      · rw [if_pos c16] at h
        have h := Option.some.inj h
        exact Y_sub [0, 2] rfl (hE _ h.symm)
      · rw [if_neg c16] at h
        refine Y_aload_n C (pc := 55) 0 0 rfl rfl dX5_expand_55 ?_
        refine Y_getR C (pc := 56) hk0 q_fi_RX5_39 (by decide) dX5_expand_56 ?_
        refine Y_aload_n C (pc := 59) 0 0 rfl rfl dX5_expand_59 ?_
        refine Y_getI C (pc := 60) hk0 q_fi_RX5_79 dX5_expand_60 ?_
        refine Y_if_eq C (pc := 63) (tgt := 71) dX5_expand_63 (by decide) (fun c15 => ?_) (fun c15 => ?_)
        · rw [if_pos c15] at h
          refine Y_iload_n C (pc := 71) 3 3 rfl rfl dX5_expand_71 ?_
          refine Y_iconst C (pc := 72) (v := (1 : Int32)) (by decide) dX5_expand_72 ?_
          refine Y_isub C (pc := 73) dX5_expand_73 ?_
          refine Y_iload C (pc := 74) 4 rfl dX5_expand_74 ?_
          refine Y_isub C (pc := 76) dX5_expand_76 ?_
          exact Y_sub [0, 1, 2, 3, 4] rfl (hJ77 _ _ _ _ h)
        · rw [if_neg c15] at h
          refine Y_iload C (pc := 66) 4 rfl dX5_expand_66 ?_
          refine Y_goto C (pc := 68) (tgt := 77) dX5_expand_68 (by decide) ?_
          exact Y_sub [0, 1, 2, 3, 4] rfl (hJ77 _ _ _ _ h)
    · refine Y_aload_n C (pc := 103) 0 0 rfl rfl dX5_expand_103 ?_
      refine Y_getR C (pc := 104) hk0 q_fi_RX5_36 (by decide) dX5_expand_104 ?_
      refine Y_iload_n C (pc := 107) 2 1 rfl rfl dX5_expand_107 ?_
      refine Y_iconst C (pc := 108) (v := (-1 : Int32)) (by decide) dX5_expand_108 ?_
      obtain ⟨v18, hv18, h⟩ := Option.bind_eq_some_iff.mp h
      refine Y_callSN C [.ref (ρ (k0 + 13)), .int j3, .int (-1 : Int32)] [] [] (c_X8_setItem hI (q_kr_5_15 hk0) (q_lr_5_15 hk0) hv18) (fun _ h => h) q_cw_yX8_setItem q_mn_RX5_151 q_st_yX8_setItem ⟨⟨Nat.le_of_ble_eq_true rfl, Nat.le_of_ble_eq_true rfl⟩, ⟨Nat.zero_le _, Nat.zero_le _⟩, Nat.le_of_ble_eq_true rfl⟩ rfl rfl rfl dX5_expand_109 ?_
      cases h
      exact Y_vret C dX5_expand_112
  refine Y_aload_n C (pc := 0) 0 0 rfl rfl dX5_expand_0 ?_
  refine Y_getR C (pc := 1) hk0 q_fi_RX5_25 (by decide) dX5_expand_1 ?_
  obtain ⟨v1, hv1, h⟩ := Option.bind_eq_some_iff.mp h
  refine Y_callV C [] [] [.int v1] (q_kr_5_13 hk0) rfl rfl (c_X1_mostRegretted (q_kr_5_13 hk0) hv1) (fun _ h => h.elim) q_cw_yX1_mostRegretted q_ml_RX5_158 ⟨q_im_yX1_mostRegretted, q_se_yX1_mostRegretted⟩ ⟨⟨Nat.le_of_ble_eq_true rfl, Nat.le_of_ble_eq_true rfl⟩, ⟨Nat.zero_le _, Nat.zero_le _⟩, Nat.le_of_ble_eq_true rfl⟩ rfl rfl rfl dX5_expand_4 ?_
  refine Y_istore_n C (pc := 7) (lv' := [(2, .int v1), (0, .ref (ρ k0)), (1, .ref (ρ k1))]) 2 rfl (by decide) rfl dX5_expand_7 ?_
  refine Y_aload_n C (pc := 8) 0 1 rfl rfl dX5_expand_8 ?_
  refine Y_getR C (pc := 9) hk0 q_fi_RX5_25 (by decide) dX5_expand_9 ?_
  refine Y_iload_n C (pc := 12) 2 0 rfl rfl dX5_expand_12 ?_
  refine Y_aload_n C (pc := 13) 0 1 rfl rfl dX5_expand_13 ?_
  refine Y_getR C (pc := 14) hk0 q_fi_RX5_39 (by decide) dX5_expand_14 ?_
  obtain ⟨v2, hv2, h⟩ := Option.bind_eq_some_iff.mp h
  refine Y_callV C [.int v1, .ref (ρ (k0 + 14))] [] [.int v2.1] (q_kr_5_13 hk0) rfl rfl (c_X1_orderLocations hI (q_kr_5_13 hk0) (q_kr_5_16 hk0) (q_lr_5_16 hk0) hv2) (fun _ h => h) q_cw_yX1_orderLocations q_ml_RX5_161 ⟨q_im_yX1_orderLocations, q_se_yX1_orderLocations⟩ ⟨⟨Nat.le_of_ble_eq_true rfl, Nat.le_of_ble_eq_true rfl⟩, ⟨Nat.zero_le _, Nat.zero_le _⟩, Nat.le_of_ble_eq_true rfl⟩ rfl rfl rfl dX5_expand_17 ?_
  refine Y_istore_n C (pc := 20) (lv' := [(3, .int v2.1), (2, .int v1), (0, .ref (ρ k0)), (1, .ref (ρ k1))]) 3 rfl (by decide) rfl dX5_expand_20 ?_
  refine Y_aload_n C (pc := 21) 0 2 rfl rfl dX5_expand_21 ?_
  refine Y_getI C (pc := 22) hk0 q_fi_RX5_103 dX5_expand_22 ?_
  refine Y_if_eq C (pc := 25) (tgt := 46) dX5_expand_25 (by decide) (fun c21 => ?_) (fun c21 => ?_)
  · rw [if_pos c21] at h
    exact Y_sub [2, 3, 1, 0] rfl (hJ46 _ _ _ _ h)
  · rw [if_neg c21] at h
    refine Y_aload_n C (pc := 28) 0 2 rfl rfl dX5_expand_28 ?_
    refine Y_getR C (pc := 29) hk0 q_fi_RX5_32 (by decide) dX5_expand_29 ?_
    refine Y_aload_n C (pc := 32) 1 3 rfl rfl dX5_expand_32 ?_
    refine Y_aload_n C (pc := 33) 0 2 rfl rfl dX5_expand_33 ?_
    refine Y_getR C (pc := 34) hk0 q_fi_RX5_36 (by decide) dX5_expand_34 ?_
    obtain ⟨v19, hv19, h⟩ := Option.bind_eq_some_iff.mp h
    refine Y_callV C [.ref (ρ k1), .ref (ρ (k0 + 13))] [] [] (q_kr_5_14 hk0) rfl rfl (c_X7_load hI (q_kr_5_14 hk0) hk1 (q_kr_5_15 hk0) hv19) (fun _ h => h) q_cw_yX7_load q_ml_RX5_165 ⟨q_im_yX7_load, q_se_yX7_load⟩ ⟨⟨Nat.le_of_ble_eq_true rfl, Nat.le_of_ble_eq_true rfl⟩, ⟨Nat.zero_le _, Nat.zero_le _⟩, Nat.le_of_ble_eq_true rfl⟩ rfl rfl rfl dX5_expand_37 ?_
    refine Y_aload_n C (pc := 40) 0 2 rfl rfl dX5_expand_40 ?_
    refine Y_iload_n C (pc := 41) 3 0 rfl rfl dX5_expand_41 ?_
    obtain ⟨v20, hv20, h⟩ := Option.bind_eq_some_iff.mp h
    refine Y_callV C [.int v2.1] [] [.int v20.1] hk0 rfl rfl (c_X5_keepRepresentatives hI hk0 hv20) (fun _ h => h) q_cw_yX5_keepRepresentatives q_ml_RX5_166 ⟨q_im_yX5_keepRepresentatives, q_se_yX5_keepRepresentatives⟩ ⟨⟨Nat.le_of_ble_eq_true rfl, Nat.le_of_ble_eq_true rfl⟩, ⟨Nat.zero_le _, Nat.zero_le _⟩, Nat.le_of_ble_eq_true rfl⟩ rfl rfl rfl dX5_expand_42 ?_
    refine Y_istore_n C (pc := 45) (lv' := [(3, .int v20.1), (2, .int v1), (0, .ref (ρ k0)), (1, .ref (ρ k1))]) 3 rfl (by decide) rfl dX5_expand_45 ?_
    exact Y_sub [2, 3, 1, 0] rfl (hJ46 _ _ _ _ h)

noncomputable def f_X5_make_J74 (j11 : Int32) (sj12 : Sg) (tj13 : Tg) : Option ((Int32 × Sg × Tg) ⊕ (Sg × Tg)) := some (.inl ((j11 + 1), sj12, tj13))
noncomputable def f_X5_make_J58 (k0 : Nat) (k1 : Nat) (j5 : Int32) (j6 : Int64) (sj7 : Sg) (tj8 : Tg) : Option ((Int32 × Sg × Tg) ⊕ (Sg × Tg)) := (f_X5_unpack sj7 k0 j6).bind fun v9 => (f_X5_visit v9 k0 k1).bind fun v10 => if v10.1 = (0 : Int32) then (f_X5_make_J74 j5 v10.2 tj8) else ((f_X5_expand v10.2 tj8 k0 k1).bind fun v14 => f_X5_make_J74 j5 v14.1 v14.2)
noncomputable def f_X5_make_L15 (k0 : Nat) (k1 : Nat) : (Int32 × Sg × Tg) → Option ((Int32 × Sg × Tg) ⊕ (Sg × Tg)) := fun s3 => if (1957 : Int32) ≤ s3.1 then (some (.inr (s3.2.1, s3.2.2))) else (if (s3.2.1 (k0 + 2) 0) ≤ (0 : Int32) then (some (.inr (s3.2.1, s3.2.2))) else (if (s3.2.1 k0 9) = (0 : Int32) then ((f_X3_takeLast s3.2.1 s3.2.2 (k0 + 2)).bind fun v4 => f_X5_make_J58 k0 k1 s3.1 v4.1 v4.2 s3.2.2) else ((f_X3_takeLeast s3.2.1 s3.2.2 (k0 + 2)).bind fun v16 => f_X5_make_J58 k0 k1 s3.1 v16.1 v16.2.1 v16.2.2)))
noncomputable def f_X5_make (σ : Sg) (τ : Tg) (k0 : Nat) (k1 : Nat) (i2 : Int32) (i3 : Int32) : Option (Sg × Tg) := (f_X5_begin σ k0 k1 i2 i3).bind fun v1 => (f_X5_admit v1 τ k0 k1).bind fun v2 => (lo (f_X5_make_L15 k0 k1) ((0 : Int32), v2.1, v2.2)).bind fun e20 => some ((si e20.1 k0 7 (e20.1 (k0 + 2) 1)), e20.2)
set_option maxRecDepth 100000 in
set_option maxHeartbeats 4000000 in
theorem c_X5_make {l : Launch} {D : va_G} {cA ρ : Nat → Nat} {σ : Sg} {τ : Tg} {k0 : Nat} {k1 : Nat} {i2 : Int32} {i3 : Int32} (hI : Inj ρ) (hk0 : kd k0 = (0, 5)) (hk1 : kd k1 = (0, 6)) {r : Sg × Tg} (h : f_X5_make σ τ k0 k1 i2 i3 = some r) : Ct l yX5_make cX5_make 5 none 5 124 D cA ρ (Aw ρ) [.ref (ρ k0), .ref (ρ k1), .int i2, .int i3] σ τ none r.1 r.2 := by
  refine Ct_of (by decide +kernel) (Nat.le_of_ble_eq_true rfl) (fun p e s m args below meth c C => ?_)
  have C : Ctx p l s m args meth c cX5_make RX5 5 none D cA ρ (Aw ρ) := C
  have hW : Wr ρ (Aw ρ) := ⟨hI, fun k hk => ⟨k, hk, rfl⟩⟩
  unfold f_X5_make at h
  refine Y_sub [0, 1, 2, 3] (lv' := [(0, .ref (ρ k0)), (1, .ref (ρ k1)), (2, .int i2), (3, .int i3)]) rfl ?_
  refine Y_aload_n C (pc := 0) 0 0 rfl rfl dX5_make_0 ?_
  refine Y_aload_n C (pc := 1) 1 1 rfl rfl dX5_make_1 ?_
  refine Y_iload_n C (pc := 2) 2 2 rfl rfl dX5_make_2 ?_
  refine Y_iload_n C (pc := 3) 3 3 rfl rfl dX5_make_3 ?_
  obtain ⟨v1, hv1, h⟩ := Option.bind_eq_some_iff.mp h
  refine Y_callV C [.ref (ρ k1), .int i2, .int i3] [] [] hk0 rfl rfl (c_X5_begin hI hk0 hk1 hv1) (fun _ h => h) q_cw_yX5_begin q_ml_RX5_68 ⟨q_im_yX5_begin, q_se_yX5_begin⟩ ⟨⟨Nat.le_of_ble_eq_true rfl, Nat.le_of_ble_eq_true rfl⟩, ⟨Nat.zero_le _, Nat.zero_le _⟩, Nat.le_of_ble_eq_true rfl⟩ rfl rfl rfl dX5_make_4 ?_
  refine Y_aload_n C (pc := 7) 0 0 rfl rfl dX5_make_7 ?_
  refine Y_aload_n C (pc := 8) 1 1 rfl rfl dX5_make_8 ?_
  obtain ⟨v2, hv2, h⟩ := Option.bind_eq_some_iff.mp h
  refine Y_callV C [.ref (ρ k1)] [] [] hk0 rfl rfl (c_X5_admit hI hk0 hk1 hv2) (fun _ h => h) q_cw_yX5_admit q_ml_RX5_72 ⟨q_im_yX5_admit, q_se_yX5_admit⟩ ⟨⟨Nat.le_of_ble_eq_true rfl, Nat.le_of_ble_eq_true rfl⟩, ⟨Nat.zero_le _, Nat.zero_le _⟩, Nat.le_of_ble_eq_true rfl⟩ rfl rfl rfl dX5_make_9 ?_
  refine Y_iconst C (pc := 12) (v := (0 : Int32)) (by decide) dX5_make_12 ?_
  refine Y_istore C (pc := 13) (lv' := [(4, .int (0 : Int32)), (0, .ref (ρ k0)), (1, .ref (ρ k1)), (2, .int i2), (3, .int i3)]) (by decide) rfl dX5_make_13 ?_
  obtain ⟨e20, he20, h⟩ := Option.bind_eq_some_iff.mp h
  refine Y_sub [1, 2, 0] (lv' := [(0, .ref (ρ k0)), (1, .ref (ρ k1)), (4, .int (0 : Int32))]) rfl ?_
  refine lo_rule (f := (f_X5_make_L15 k0 k1)) (YS := fun s3 => Y p l e (Rm 5 124) s m args below meth c 5 D cA ρ (Aw ρ) 0 0 (MQ below (QC D cA ρ (Aw ρ) none r.1 r.2) args s 0 0 (Aw ρ)) s3.2.1 s3.2.2 15 [(0, .ref (ρ k0)), (1, .ref (ρ k1)), (4, .int s3.1)] []) (YE := fun e20 => Y p l e (Rm 5 124) s m args below meth c 5 D cA ρ (Aw ρ) 0 0 (MQ below (QC D cA ρ (Aw ρ) none r.1 r.2) args s 0 0 (Aw ρ)) e20.1 e20.2 80 [(0, .ref (ρ k0))] []) ?_ he20 ?_
  · intro s3 x h hLp hE
    unfold f_X5_make_L15 at h
    have hJ74 : ∀ (j11 : Int32) (sj12 : Sg) (tj13 : Tg), f_X5_make_J74 j11 sj12 tj13 = some x → Y p l e (Rm 5 124) s m args below meth c 5 D cA ρ (Aw ρ) 0 0 (MQ below (QC D cA ρ (Aw ρ) none r.1 r.2) args s 0 0 (Aw ρ)) sj12 tj13 74 [(0, .ref (ρ k0)), (1, .ref (ρ k1)), (4, .int j11)] [] := by
      intro j11 sj12 tj13 h
      unfold f_X5_make_J74 at h
      refine Y_iinc C (pc := 74) (v := (j11 + 1)) (lv' := [(4, .int (j11 + 1)), (0, .ref (ρ k0)), (1, .ref (ρ k1))]) 2 rfl (congrArg (fun z => j11 + z) (by decide : Int32.ofInt (1) = (1))) (by decide) rfl dX5_make_74 ?_
      refine Y_goto C (pc := 77) (tgt := 15) dX5_make_77 (by decide) ?_
      have h := Option.some.inj h
      exact Y_sub [1, 2, 0] rfl (hLp _ h.symm)
    have hJ58 : ∀ (j5 : Int32) (j6 : Int64) (sj7 : Sg) (tj8 : Tg), f_X5_make_J58 k0 k1 j5 j6 sj7 tj8 = some x → Y p l e (Rm 5 124) s m args below meth c 5 D cA ρ (Aw ρ) 0 0 (MQ below (QC D cA ρ (Aw ρ) none r.1 r.2) args s 0 0 (Aw ρ)) sj7 tj8 58 [(0, .ref (ρ k0)), (1, .ref (ρ k1)), (4, .int j5)] [.long j6, .ref (ρ k0)] := by
      intro j5 j6 sj7 tj8 h
      unfold f_X5_make_J58 at h
      obtain ⟨v9, hv9, h⟩ := Option.bind_eq_some_iff.mp h
      refine Y_callV C [.long j6] [] [] hk0 rfl rfl (c_X5_unpack hI hk0 hv9) (fun _ h => h) q_cw_yX5_unpack q_ml_RX5_89 ⟨q_im_yX5_unpack, q_se_yX5_unpack⟩ ⟨⟨Nat.le_of_ble_eq_true rfl, Nat.le_of_ble_eq_true rfl⟩, ⟨Nat.zero_le _, Nat.zero_le _⟩, Nat.le_of_ble_eq_true rfl⟩ rfl rfl rfl dX5_make_58 ?_
      refine Y_aload_n C (pc := 61) 0 0 rfl rfl dX5_make_61 ?_
      refine Y_aload_n C (pc := 62) 1 1 rfl rfl dX5_make_62 ?_
      obtain ⟨v10, hv10, h⟩ := Option.bind_eq_some_iff.mp h
      refine Y_callV C [.ref (ρ k1)] [] [.int v10.1] hk0 rfl rfl (c_X5_visit hI hk0 hk1 hv10) (fun _ h => h) q_cw_yX5_visit q_ml_RX5_93 ⟨q_im_yX5_visit, q_se_yX5_visit⟩ ⟨⟨Nat.le_of_ble_eq_true rfl, Nat.le_of_ble_eq_true rfl⟩, ⟨Nat.zero_le _, Nat.zero_le _⟩, Nat.le_of_ble_eq_true rfl⟩ rfl rfl rfl dX5_make_63 ?_
      refine Y_if_eq C (pc := 66) (tgt := 74) dX5_make_66 (by decide) (fun c15 => ?_) (fun c15 => ?_)
      · rw [if_pos c15] at h
        exact Y_sub [0, 1, 2] rfl (hJ74 _ _ _ h)
      · rw [if_neg c15] at h
        refine Y_aload_n C (pc := 69) 0 0 rfl rfl dX5_make_69 ?_
        refine Y_aload_n C (pc := 70) 1 1 rfl rfl dX5_make_70 ?_
        obtain ⟨v14, hv14, h⟩ := Option.bind_eq_some_iff.mp h
        refine Y_callV C [.ref (ρ k1)] [] [] hk0 rfl rfl (c_X5_expand hI hk0 hk1 hv14) (fun _ h => h) q_cw_yX5_expand q_ml_RX5_97 ⟨q_im_yX5_expand, q_se_yX5_expand⟩ ⟨⟨Nat.le_of_ble_eq_true rfl, Nat.le_of_ble_eq_true rfl⟩, ⟨Nat.zero_le _, Nat.zero_le _⟩, Nat.le_of_ble_eq_true rfl⟩ rfl rfl rfl dX5_make_71 ?_
        exact Y_sub [0, 1, 2] rfl (hJ74 _ _ _ h)
    refine Y_iload C (pc := 15) 2 rfl dX5_make_15 ?_
    refine Y_sipush C (pc := 17) (v := (1957 : Int32)) (by decide) dX5_make_17 ?_
    refine Y_icmp_ge C (pc := 20) (tgt := 80) dX5_make_20 (by decide) (fun c19 => ?_) (fun c19 => ?_)
    · rw [if_pos c19] at h
      have h := Option.some.inj h
      exact Y_sub [0] rfl (hE _ h.symm)
    · rw [if_neg c19] at h
      refine Y_aload_n C (pc := 23) 0 0 rfl rfl dX5_make_23 ?_
      refine Y_getR C (pc := 24) hk0 q_fi_RX5_18 (by decide) dX5_make_24 ?_
      refine Y_getI C (pc := 27) (q_kr_5_12 hk0) q_fi_RX5_76 dX5_make_27 ?_
      refine Y_if_le C (pc := 30) (tgt := 80) dX5_make_30 (by decide) (fun c18 => ?_) (fun c18 => ?_)
      · rw [if_pos c18] at h
        have h := Option.some.inj h
        exact Y_sub [0] rfl (hE _ h.symm)
      · rw [if_neg c18] at h
        refine Y_aload_n C (pc := 33) 0 0 rfl rfl dX5_make_33 ?_
        refine Y_aload_n C (pc := 34) 0 0 rfl rfl dX5_make_34 ?_
        refine Y_getI C (pc := 35) hk0 q_fi_RX5_79 dX5_make_35 ?_
        refine Y_if_eq C (pc := 38) (tgt := 51) dX5_make_38 (by decide) (fun c17 => ?_) (fun c17 => ?_)
        · rw [if_pos c17] at h
          refine Y_aload_n C (pc := 51) 0 0 rfl rfl dX5_make_51 ?_
          refine Y_getR C (pc := 52) hk0 q_fi_RX5_18 (by decide) dX5_make_52 ?_
          obtain ⟨v4, hv4, h⟩ := Option.bind_eq_some_iff.mp h
          refine Y_callV C [] [.ref (ρ k0)] [.long v4.1, .ref (ρ k0)] (q_kr_5_12 hk0) rfl rfl (c_X3_takeLast hI (q_kr_5_12 hk0) hv4) (fun _ h => h) q_cw_yX3_takeLast q_ml_RX5_86 ⟨q_im_yX3_takeLast, q_se_yX3_takeLast⟩ ⟨⟨Nat.le_of_ble_eq_true rfl, Nat.le_of_ble_eq_true rfl⟩, ⟨Nat.zero_le _, Nat.zero_le _⟩, Nat.le_of_ble_eq_true rfl⟩ rfl rfl rfl dX5_make_55 ?_
          exact Y_sub [0, 1, 2] rfl (hJ58 _ _ _ _ h)
        · rw [if_neg c17] at h
          refine Y_aload_n C (pc := 41) 0 0 rfl rfl dX5_make_41 ?_
          refine Y_getR C (pc := 42) hk0 q_fi_RX5_18 (by decide) dX5_make_42 ?_
          obtain ⟨v16, hv16, h⟩ := Option.bind_eq_some_iff.mp h
          refine Y_callV C [] [.ref (ρ k0)] [.long v16.1, .ref (ρ k0)] (q_kr_5_12 hk0) rfl rfl (c_X3_takeLeast hI (q_kr_5_12 hk0) hv16) (fun _ h => h) q_cw_yX3_takeLeast q_ml_RX5_82 ⟨q_im_yX3_takeLeast, q_se_yX3_takeLeast⟩ ⟨⟨Nat.le_of_ble_eq_true rfl, Nat.le_of_ble_eq_true rfl⟩, ⟨Nat.zero_le _, Nat.zero_le _⟩, Nat.le_of_ble_eq_true rfl⟩ rfl rfl rfl dX5_make_45 ?_
          refine Y_goto C (pc := 48) (tgt := 58) dX5_make_48 (by decide) ?_
          exact Y_sub [0, 1, 2] rfl (hJ58 _ _ _ _ h)
  · refine Y_aload_n C (pc := 80) 0 0 rfl rfl dX5_make_80 ?_
    refine Y_aload_n C (pc := 81) 0 0 rfl rfl dX5_make_81 ?_
    refine Y_getR C (pc := 82) hk0 q_fi_RX5_18 (by decide) dX5_make_82 ?_
    refine Y_getI C (pc := 85) (q_kr_5_12 hk0) q_fi_RX5_100 dX5_make_85 ?_
    refine Y_putI C (pc := 88) hW hk0 (q_lo_5 hk0) q_fp_RX5_62 dX5_make_88 ?_
    cases h
    exact Y_vret C dX5_make_91

noncomputable def f_X6_reset_L7 (k0 : Nat) : (Int32 × Sg) → Option ((Int32 × Sg) ⊕ (Sg)) := fun s1 => if (36 : Int32) ≤ s1.1 then (some (.inr s1.2)) else ((ast s1.2 (k0 + 1) s1.1 (0 : Int32)).bind fun s2 => (ast s2 (k0 + 2) s1.1 (0 : Int32)).bind fun s3 => (ast s3 (k0 + 3) s1.1 (0 : Int32)).bind fun s4 => some (.inl ((s1.1 + 1), s4)))
noncomputable def f_X6_reset_L42 (k0 : Nat) : (Int32 × Sg) → Option ((Int32 × Sg) ⊕ (Sg)) := fun s7 => if (6 : Int32) ≤ s7.1 then (some (.inr s7.2)) else ((ast s7.2 (k0 + 4) s7.1 s7.1).bind fun s8 => (ast s8 (k0 + 5) s7.1 (-1 : Int32)).bind fun s9 => some (.inl ((s7.1 + 1), s9)))
noncomputable def f_X6_reset (σ : Sg) (k0 : Nat) (i1 : Int32) : Option (Sg) := (lo (f_X6_reset_L7 k0) ((0 : Int32), (si σ k0 0 i1))).bind fun e6 => (lo (f_X6_reset_L42 k0) ((0 : Int32), e6)).bind fun e11 => some e11
set_option maxRecDepth 100000 in
set_option maxHeartbeats 4000000 in
theorem c_X6_reset {l : Launch} {D : va_G} {cA ρ : Nat → Nat} {σ : Sg} {τ : Tg} {k0 : Nat} {i1 : Int32} (hI : Inj ρ) (hk0 : kd k0 = (0, 6)) {r : Sg} (h : f_X6_reset σ k0 i1 = some r) : Ct l yX6_reset cX6_reset 3 none 0 0 D cA ρ (Aw ρ) [.ref (ρ k0), .int i1] σ τ none r τ := by
  refine Ct_of (by decide +kernel) (Nat.le_of_ble_eq_true rfl) (fun p e s m args below meth c C => ?_)
  have C : Ctx p l s m args meth c cX6_reset RX6 3 none D cA ρ (Aw ρ) := C
  have hW : Wr ρ (Aw ρ) := ⟨hI, fun k hk => ⟨k, hk, rfl⟩⟩
  unfold f_X6_reset at h
  refine Y_sub [0, 1] (lv' := [(0, .ref (ρ k0)), (1, .int i1)]) rfl ?_
  refine Y_aload_n C (pc := 0) 0 0 rfl rfl dX6_reset_0 ?_
  refine Y_iload_n C (pc := 1) 1 1 rfl rfl dX6_reset_1 ?_
  refine Y_putI C (pc := 2) hW hk0 (q_lo_6 hk0) q_fp_RX6_31 dX6_reset_2 ?_
  refine Y_iconst C (pc := 5) (v := (0 : Int32)) (by decide) dX6_reset_5 ?_
  refine Y_istore_n C (pc := 6) (lv' := [(2, .int (0 : Int32)), (0, .ref (ρ k0)), (1, .int i1)]) 2 rfl (by decide) rfl dX6_reset_6 ?_
  obtain ⟨e6, he6, h⟩ := Option.bind_eq_some_iff.mp h
  refine Y_sub [1, 0] (lv' := [(0, .ref (ρ k0)), (2, .int (0 : Int32))]) rfl ?_
  refine lo_rule (f := (f_X6_reset_L7 k0)) (YS := fun s1 => Y p l e (Rm 0 0) s m args below meth c 3 D cA ρ (Aw ρ) 0 0 (MQ below (QC D cA ρ (Aw ρ) none r τ) args s 0 0 (Aw ρ)) s1.2 τ 7 [(0, .ref (ρ k0)), (2, .int s1.1)] []) (YE := fun e6 => Y p l e (Rm 0 0) s m args below meth c 3 D cA ρ (Aw ρ) 0 0 (MQ below (QC D cA ρ (Aw ρ) none r τ) args s 0 0 (Aw ρ)) e6 τ 40 [(0, .ref (ρ k0))] []) ?_ he6 ?_
  · intro s1 x h hLp hE
    unfold f_X6_reset_L7 at h
    refine Y_iload_n C (pc := 7) 2 1 rfl rfl dX6_reset_7 ?_
    refine Y_bipush C (pc := 8) (v := (36 : Int32)) (by decide) dX6_reset_8 ?_
    refine Y_icmp_ge C (pc := 10) (tgt := 40) dX6_reset_10 (by decide) (fun c5 => ?_) (fun c5 => ?_)
    · rw [if_pos c5] at h
      have h := Option.some.inj h
      exact Y_sub [0] rfl (hE _ h.symm)
    · rw [if_neg c5] at h
      refine Y_aload_n C (pc := 13) 0 0 rfl rfl dX6_reset_13 ?_
      refine Y_getR C (pc := 14) hk0 q_fi_RX6_9 (by decide) dX6_reset_14 ?_
      refine Y_iload_n C (pc := 17) 2 1 rfl rfl dX6_reset_17 ?_
      refine Y_iconst C (pc := 18) (v := (0 : Int32)) (by decide) dX6_reset_18 ?_
      obtain ⟨s2, hs2, h⟩ := Option.bind_eq_some_iff.mp h
      refine Y_iast C (pc := 19) hW (q_kr_6_1 hk0) (q_lr_6_1 hk0) hs2 dX6_reset_19 ?_
      refine Y_aload_n C (pc := 20) 0 0 rfl rfl dX6_reset_20 ?_
      refine Y_getR C (pc := 21) hk0 q_fi_RX6_15 (by decide) dX6_reset_21 ?_
      refine Y_iload_n C (pc := 24) 2 1 rfl rfl dX6_reset_24 ?_
      refine Y_iconst C (pc := 25) (v := (0 : Int32)) (by decide) dX6_reset_25 ?_
      obtain ⟨s3, hs3, h⟩ := Option.bind_eq_some_iff.mp h
      refine Y_iast C (pc := 26) hW (q_kr_6_2 hk0) (q_lr_6_2 hk0) hs3 dX6_reset_26 ?_
      refine Y_aload_n C (pc := 27) 0 0 rfl rfl dX6_reset_27 ?_
      refine Y_getR C (pc := 28) hk0 q_fi_RX6_18 (by decide) dX6_reset_28 ?_
      refine Y_iload_n C (pc := 31) 2 1 rfl rfl dX6_reset_31 ?_
      refine Y_iconst C (pc := 32) (v := (0 : Int32)) (by decide) dX6_reset_32 ?_
      obtain ⟨s4, hs4, h⟩ := Option.bind_eq_some_iff.mp h
      refine Y_iast C (pc := 33) hW (q_kr_6_3 hk0) (q_lr_6_3 hk0) hs4 dX6_reset_33 ?_
      refine Y_iinc C (pc := 34) (v := (s1.1 + 1)) (lv' := [(2, .int (s1.1 + 1)), (0, .ref (ρ k0))]) 1 rfl (congrArg (fun z => s1.1 + z) (by decide : Int32.ofInt (1) = (1))) (by decide) rfl dX6_reset_34 ?_
      refine Y_goto C (pc := 37) (tgt := 7) dX6_reset_37 (by decide) ?_
      have h := Option.some.inj h
      exact Y_sub [1, 0] rfl (hLp _ h.symm)
  · refine Y_iconst C (pc := 40) (v := (0 : Int32)) (by decide) dX6_reset_40 ?_
    refine Y_istore_n C (pc := 41) (lv' := [(2, .int (0 : Int32)), (0, .ref (ρ k0))]) 2 rfl (by decide) rfl dX6_reset_41 ?_
    obtain ⟨e11, he11, h⟩ := Option.bind_eq_some_iff.mp h
    refine Y_sub [1, 0] (lv' := [(0, .ref (ρ k0)), (2, .int (0 : Int32))]) rfl ?_
    refine lo_rule (f := (f_X6_reset_L42 k0)) (YS := fun s7 => Y p l e (Rm 0 0) s m args below meth c 3 D cA ρ (Aw ρ) 0 0 (MQ below (QC D cA ρ (Aw ρ) none r τ) args s 0 0 (Aw ρ)) s7.2 τ 42 [(0, .ref (ρ k0)), (2, .int s7.1)] []) (YE := fun e11 => Y p l e (Rm 0 0) s m args below meth c 3 D cA ρ (Aw ρ) 0 0 (MQ below (QC D cA ρ (Aw ρ) none r τ) args s 0 0 (Aw ρ)) e11 τ 68 [] []) ?_ he11 ?_
    · intro s7 x h hLp hE
      unfold f_X6_reset_L42 at h
      refine Y_iload_n C (pc := 42) 2 1 rfl rfl dX6_reset_42 ?_
      refine Y_bipush C (pc := 43) (v := (6 : Int32)) (by decide) dX6_reset_43 ?_
      refine Y_icmp_ge C (pc := 45) (tgt := 68) dX6_reset_45 (by decide) (fun c10 => ?_) (fun c10 => ?_)
      · rw [if_pos c10] at h
        have h := Option.some.inj h
        exact Y_sub [] rfl (hE _ h.symm)
      · rw [if_neg c10] at h
        refine Y_aload_n C (pc := 48) 0 0 rfl rfl dX6_reset_48 ?_
        refine Y_getR C (pc := 49) hk0 q_fi_RX6_21 (by decide) dX6_reset_49 ?_
        refine Y_iload_n C (pc := 52) 2 1 rfl rfl dX6_reset_52 ?_
        refine Y_iload_n C (pc := 53) 2 1 rfl rfl dX6_reset_53 ?_
        obtain ⟨s8, hs8, h⟩ := Option.bind_eq_some_iff.mp h
        refine Y_iast C (pc := 54) hW (q_kr_6_4 hk0) (q_lr_6_4 hk0) hs8 dX6_reset_54 ?_
        refine Y_aload_n C (pc := 55) 0 0 rfl rfl dX6_reset_55 ?_
        refine Y_getR C (pc := 56) hk0 q_fi_RX6_24 (by decide) dX6_reset_56 ?_
        refine Y_iload_n C (pc := 59) 2 1 rfl rfl dX6_reset_59 ?_
        refine Y_iconst C (pc := 60) (v := (-1 : Int32)) (by decide) dX6_reset_60 ?_
        obtain ⟨s9, hs9, h⟩ := Option.bind_eq_some_iff.mp h
        refine Y_iast C (pc := 61) hW (q_kr_6_5 hk0) (q_lr_6_5 hk0) hs9 dX6_reset_61 ?_
        refine Y_iinc C (pc := 62) (v := (s7.1 + 1)) (lv' := [(2, .int (s7.1 + 1)), (0, .ref (ρ k0))]) 1 rfl (congrArg (fun z => s7.1 + z) (by decide : Int32.ofInt (1) = (1))) (by decide) rfl dX6_reset_62 ?_
        refine Y_goto C (pc := 65) (tgt := 42) dX6_reset_65 (by decide) ?_
        have h := Option.some.inj h
        exact Y_sub [1, 0] rfl (hLp _ h.symm)
    · cases h
      exact Y_vret C dX6_reset_68

noncomputable def f_X6_tableOf (k0 : Nat) (i1 : Int32) : Option (Nat) := if i1 = (0 : Int32) then (some ((k0 + 1))) else (if i1 = (1 : Int32) then (some ((k0 + 2))) else (some ((k0 + 3))))
set_option maxRecDepth 100000 in
set_option maxHeartbeats 4000000 in
theorem c_X6_tableOf {l : Launch} {D : va_G} {cA ρ : Nat → Nat} {σ : Sg} {τ : Tg} {k0 : Nat} {i1 : Int32} (hk0 : kd k0 = (0, 6)) {r : Nat} (h : f_X6_tableOf k0 i1 = some r) : Ct l yX6_tableOf cX6_tableOf 2 (some (.array .int) 0 0 D cA ρ A0 [.ref (ρ k0), .int i1] σ τ (some (.ref (ρ r))) σ τ := by
  refine Ct_of (by decide +kernel) (Nat.le_of_ble_eq_true rfl) (fun p e s m args below meth c C => ?_)
  have C : Ctx p l s m args meth c cX6_tableOf RX6 2 (some (.array .int) D cA ρ A0 := C
  unfold f_X6_tableOf at h
  refine Y_sub [0, 1] (lv' := [(0, .ref (ρ k0)), (1, .int i1)]) rfl ?_
  refine Y_iload_n C (pc := 0) 1 1 rfl rfl dX6_tableOf_0 ?_
  refine Y_if_ne C (pc := 1) (tgt := 9) dX6_tableOf_1 (by decide) (fun c2 => ?_) (fun c2 => ?_)
  · rw [if_neg c2] at h
    refine Y_iload_n C (pc := 9) 1 1 rfl rfl dX6_tableOf_9 ?_
    refine Y_iconst C (pc := 10) (v := (1 : Int32)) (by decide) dX6_tableOf_10 ?_
    refine Y_icmp_ne C (pc := 11) (tgt := 21) dX6_tableOf_11 (by decide) (fun c1 => ?_) (fun c1 => ?_)
    · rw [if_neg c1] at h
      refine Y_aload_n C (pc := 21) 0 0 rfl rfl dX6_tableOf_21 ?_
      refine Y_getR C (pc := 22) hk0 q_fi_RX6_18 (by decide) dX6_tableOf_22 ?_
      cases h
      exact Y_aretA C dX6_tableOf_25
    · rw [if_pos c1] at h
      refine Y_aload_n C (pc := 14) 0 0 rfl rfl dX6_tableOf_14 ?_
      refine Y_getR C (pc := 15) hk0 q_fi_RX6_15 (by decide) dX6_tableOf_15 ?_
      refine Y_goto C (pc := 18) (tgt := 25) dX6_tableOf_18 (by decide) ?_
      cases h
      exact Y_aretA C dX6_tableOf_25
  · rw [if_pos c2] at h
    refine Y_aload_n C (pc := 4) 0 0 rfl rfl dX6_tableOf_4 ?_
    refine Y_getR C (pc := 5) hk0 q_fi_RX6_9 (by decide) dX6_tableOf_5 ?_
    cases h
    exact Y_aretA C dX6_tableOf_8
theorem rk_X6_tableOf {k0 : Nat} {i1 : Int32} {r : Nat} (hk0 : kd k0 = (0, 6)) (h : f_X6_tableOf k0 i1 = some r) : (kd r).1 = 1 ∧ r < 97 := by
  unfold f_X6_tableOf at h
  split at h
  · split at h <;> cases h
    · exact ⟨q_kr_6_2 hk0, q_lr_6_2 hk0⟩
    · exact ⟨q_kr_6_3 hk0, q_lr_6_3 hk0⟩
  · cases h
    exact ⟨q_kr_6_1 hk0, q_lr_6_1 hk0⟩

noncomputable def f_X6_scatter_L28 (k0 : Nat) (i3 : Int32) (k1 : Nat) (s1 : Int64 × Int32 × Sg) : (Int64 × Int32 × Sg) → Option ((Int64 × Int32 × Sg) ⊕ (Int64 × Sg)) := fun s2 => if (s2.2.2 k0 0) ≤ s2.2.1 then (some (.inr (s2.1, s2.2.2))) else ((lrm (((((1103515245 : Int64) * s2.1) + (12345 : Int64)) &&& (2147483647 : Int64)) >>> (Int32.toInt64 (16 : Int32) &&& 63)) (Int32.toInt64 (mx (1 : Int32) (i3 + (1 : Int32))))).bind fun v3 => (f_X8_put s2.2.2 k1 s1.2.1 s2.2.1 ((Int64.toInt32 v3))).bind fun v4 => some (.inl (((((1103515245 : Int64) * s2.1) + (12345 : Int64)) &&& (2147483647 : Int64)), (s2.2.1 + 1), v4)))
noncomputable def f_X6_scatter_L16 (k0 : Nat) (i3 : Int32) (k1 : Nat) : (Int64 × Int32 × Sg) → Option ((Int64 × Int32 × Sg) ⊕ (Sg)) := fun s1 => if (s1.2.2 k0 0) ≤ s1.2.1 then (some (.inr s1.2.2)) else ((lo (f_X6_scatter_L28 k0 i3 k1 s1) (s1.1, (0 : Int32), s1.2.2)).bind fun e6 => some (.inl (e6.1, (s1.2.1 + 1), e6.2)))
noncomputable def f_X6_scatter (σ : Sg) (k0 : Nat) (k1 : Nat) (i2 : Int32) (i3 : Int32) : Option (Sg) := (lo (f_X6_scatter_L16 k0 i3 k1) ((Int32.toInt64 i2), (0 : Int32), σ)).bind fun e8 => some e8
set_option maxRecDepth 100000 in
set_option maxHeartbeats 4000000 in
theorem c_X6_scatter {l : Launch} {D : va_G} {cA ρ : Nat → Nat} {σ : Sg} {τ : Tg} {k0 : Nat} {k1 : Nat} {i2 : Int32} {i3 : Int32} (hI : Inj ρ) (hk0 : kd k0 = (0, 6)) (hk1 : (kd k1).1 = 1) (hn1 : k1 < 97) {r : Sg} (h : f_X6_scatter σ k0 k1 i2 i3 = some r) : Ct l yX6_scatter cX6_scatter 9 none 1 24 D cA ρ (Aw ρ) [.ref (ρ k0), .ref (ρ k1), .int i2, .int i3] σ τ none r τ := by
  refine Ct_of (by decide +kernel) (Nat.le_of_ble_eq_true rfl) (fun p e s m args below meth c C => ?_)
  have C : Ctx p l s m args meth c cX6_scatter RX6 9 none D cA ρ (Aw ρ) := C
  have hW : Wr ρ (Aw ρ) := ⟨hI, fun k hk => ⟨k, hk, rfl⟩⟩
  unfold f_X6_scatter at h
  refine Y_sub [0, 1, 2, 3] (lv' := [(0, .ref (ρ k0)), (1, .ref (ρ k1)), (2, .int i2), (3, .int i3)]) rfl ?_
  refine Y_iconst C (pc := 0) (v := (1 : Int32)) (by decide) dX6_scatter_0 ?_
  refine Y_iload_n C (pc := 1) 3 3 rfl rfl dX6_scatter_1 ?_
  refine Y_iconst C (pc := 2) (v := (1 : Int32)) (by decide) dX6_scatter_2 ?_
  refine Y_iadd C (pc := 3) dX6_scatter_3 ?_
  refine Y_max C (pc := 4) q_ml_RX6_41 ⟨q_st_max, q_in_Math, q_cd_max⟩ ⟨Nat.le_of_ble_eq_true rfl, Nat.le_of_ble_eq_true rfl, Nat.zero_le _, Nat.zero_le _⟩ dX6_scatter_4 ?_
  refine Y_istore C (pc := 7) (lv' := [(4, .int (mx (1 : Int32) (i3 + (1 : Int32)))), (0, .ref (ρ k0)), (1, .ref (ρ k1)), (2, .int i2), (3, .int i3)]) (by decide) rfl dX6_scatter_7 ?_
  refine Y_iload_n C (pc := 9) 2 3 rfl rfl dX6_scatter_9 ?_
  refine Y_i2l C (pc := 10) dX6_scatter_10 ?_
  refine Y_lstore C (pc := 11) (lv' := [(5, .long (Int32.toInt64 i2)), (4, .int (mx (1 : Int32) (i3 + (1 : Int32)))), (0, .ref (ρ k0)), (1, .ref (ρ k1)), (2, .int i2), (3, .int i3)]) (by decide) rfl dX6_scatter_11 ?_
  refine Y_iconst C (pc := 13) (v := (0 : Int32)) (by decide) dX6_scatter_13 ?_
  refine Y_istore C (pc := 14) (lv' := [(7, .int (0 : Int32)), (5, .long (Int32.toInt64 i2)), (4, .int (mx (1 : Int32) (i3 + (1 : Int32)))), (0, .ref (ρ k0)), (1, .ref (ρ k1)), (2, .int i2), (3, .int i3)]) (by decide) rfl dX6_scatter_14 ?_
  obtain ⟨e8, he8, h⟩ := Option.bind_eq_some_iff.mp h
  refine Y_sub [3, 4, 2, 1, 0] (lv' := [(0, .ref (ρ k0)), (1, .ref (ρ k1)), (4, .int (mx (1 : Int32) (i3 + (1 : Int32)))), (5, .long (Int32.toInt64 i2)), (7, .int (0 : Int32))]) rfl ?_
  refine lo_rule (f := (f_X6_scatter_L16 k0 i3 k1)) (YS := fun s1 => Y p l e (Rm 1 24) s m args below meth c 9 D cA ρ (Aw ρ) 0 0 (MQ below (QC D cA ρ (Aw ρ) none r τ) args s 0 0 (Aw ρ)) s1.2.2 τ 16 [(0, .ref (ρ k0)), (1, .ref (ρ k1)), (4, .int (mx (1 : Int32) (i3 + (1 : Int32)))), (5, .long s1.1), (7, .int s1.2.1)] []) (YE := fun e8 => Y p l e (Rm 1 24) s m args below meth c 9 D cA ρ (Aw ρ) 0 0 (MQ below (QC D cA ρ (Aw ρ) none r τ) args s 0 0 (Aw ρ)) e8 τ 83 [] []) ?_ he8 ?_
  · intro s1 x h hLp hE
    unfold f_X6_scatter_L16 at h
    refine Y_iload C (pc := 16) 4 rfl dX6_scatter_16 ?_
    refine Y_aload_n C (pc := 18) 0 0 rfl rfl dX6_scatter_18 ?_
    refine Y_getI C (pc := 19) hk0 q_fi_RX6_31 dX6_scatter_19 ?_
    refine Y_icmp_ge C (pc := 22) (tgt := 83) dX6_scatter_22 (by decide) (fun c7 => ?_) (fun c7 => ?_)
    · rw [if_pos c7] at h
      have h := Option.some.inj h
      exact Y_sub [] rfl (hE _ h.symm)
    · rw [if_neg c7] at h
      refine Y_iconst C (pc := 25) (v := (0 : Int32)) (by decide) dX6_scatter_25 ?_
      refine Y_istore C (pc := 26) (lv' := [(8, .int (0 : Int32)), (0, .ref (ρ k0)), (1, .ref (ρ k1)), (4, .int (mx (1 : Int32) (i3 + (1 : Int32)))), (5, .long s1.1), (7, .int s1.2.1)]) (by decide) rfl dX6_scatter_26 ?_
      obtain ⟨e6, he6, h⟩ := Option.bind_eq_some_iff.mp h
      refine Y_sub [1, 2, 3, 4, 5, 0] (lv' := [(0, .ref (ρ k0)), (1, .ref (ρ k1)), (4, .int (mx (1 : Int32) (i3 + (1 : Int32)))), (5, .long s1.1), (7, .int s1.2.1), (8, .int (0 : Int32))]) rfl ?_
      refine lo_rule (f := (f_X6_scatter_L28 k0 i3 k1 s1)) (YS := fun s2 => Y p l e (Rm 1 24) s m args below meth c 9 D cA ρ (Aw ρ) 0 0 (MQ below (QC D cA ρ (Aw ρ) none r τ) args s 0 0 (Aw ρ)) s2.2.2 τ 28 [(0, .ref (ρ k0)), (1, .ref (ρ k1)), (4, .int (mx (1 : Int32) (i3 + (1 : Int32)))), (5, .long s2.1), (7, .int s1.2.1), (8, .int s2.2.1)] []) (YE := fun e6 => Y p l e (Rm 1 24) s m args below meth c 9 D cA ρ (Aw ρ) 0 0 (MQ below (QC D cA ρ (Aw ρ) none r τ) args s 0 0 (Aw ρ)) e6.2 τ 77 [(0, .ref (ρ k0)), (1, .ref (ρ k1)), (4, .int (mx (1 : Int32) (i3 + (1 : Int32)))), (5, .long e6.1), (7, .int s1.2.1)] []) ?_ he6 ?_
      · intro s2 x h hLp hE
        unfold f_X6_scatter_L28 at h
        refine Y_iload C (pc := 28) 5 rfl dX6_scatter_28 ?_
        refine Y_aload_n C (pc := 30) 0 0 rfl rfl dX6_scatter_30 ?_
        refine Y_getI C (pc := 31) hk0 q_fi_RX6_31 dX6_scatter_31 ?_
        refine Y_icmp_ge C (pc := 34) (tgt := 77) dX6_scatter_34 (by decide) (fun c5 => ?_) (fun c5 => ?_)
        · rw [if_pos c5] at h
          have h := Option.some.inj h
          exact Y_sub [0, 1, 2, 3, 4] rfl (hE _ h.symm)
        · rw [if_neg c5] at h
          refine Y_ldc2 C (pc := 37) q_ct_RX6_47 dX6_scatter_37 ?_
          refine Y_lload C (pc := 40) 3 rfl dX6_scatter_40 ?_
          refine Y_lmul C (pc := 42) dX6_scatter_42 ?_
          refine Y_ldc2 C (pc := 43) q_ct_RX6_49 dX6_scatter_43 ?_
          refine Y_ladd C (pc := 46) dX6_scatter_46 ?_
          refine Y_ldc2 C (pc := 47) q_ct_RX6_51 dX6_scatter_47 ?_
          refine Y_land C (pc := 50) dX6_scatter_50 ?_
          refine Y_lstore C (pc := 51) (lv' := [(5, .long ((((1103515245 : Int64) * s2.1) + (12345 : Int64)) &&& (2147483647 : Int64))), (0, .ref (ρ k0)), (1, .ref (ρ k1)), (4, .int (mx (1 : Int32) (i3 + (1 : Int32)))), (7, .int s1.2.1), (8, .int s2.2.1)]) (by decide) rfl dX6_scatter_51 ?_
          refine Y_aload_n C (pc := 53) 1 2 rfl rfl dX6_scatter_53 ?_
          refine Y_iload C (pc := 54) 4 rfl dX6_scatter_54 ?_
          refine Y_iload C (pc := 56) 5 rfl dX6_scatter_56 ?_
          refine Y_lload C (pc := 58) 0 rfl dX6_scatter_58 ?_
          refine Y_bipush C (pc := 60) (v := (16 : Int32)) (by decide) dX6_scatter_60 ?_
          refine Y_lshr C (pc := 62) dX6_scatter_62 ?_
          refine Y_iload C (pc := 63) 3 rfl dX6_scatter_63 ?_
          refine Y_i2l C (pc := 65) dX6_scatter_65 ?_
          obtain ⟨v3, hv3, h⟩ := Option.bind_eq_some_iff.mp h
          refine Y_lrem' C (pc := 66) hv3 dX6_scatter_66 ?_
          refine Y_l2i C (pc := 67) dX6_scatter_67 ?_
          obtain ⟨v4, hv4, h⟩ := Option.bind_eq_some_iff.mp h
          refine Y_callSN C [.ref (ρ k1), .int s1.2.1, .int s2.2.1, .int (Int64.toInt32 v3)] [] [] (c_X8_put hI hk1 hn1 hv4) (fun _ h => h) q_cw_yX8_put q_mn_RX6_53 q_st_yX8_put ⟨⟨Nat.le_of_ble_eq_true rfl, Nat.le_of_ble_eq_true rfl⟩, ⟨Nat.zero_le _, Nat.zero_le _⟩, Nat.le_of_ble_eq_true rfl⟩ rfl rfl rfl dX6_scatter_68 ?_
          refine Y_iinc C (pc := 71) (v := (s2.2.1 + 1)) (lv' := [(8, .int (s2.2.1 + 1)), (5, .long ((((1103515245 : Int64) * s2.1) + (12345 : Int64)) &&& (2147483647 : Int64))), (0, .ref (ρ k0)), (1, .ref (ρ k1)), (4, .int (mx (1 : Int32) (i3 + (1 : Int32)))), (7, .int s1.2.1)]) 5 rfl (congrArg (fun z => s2.2.1 + z) (by decide : Int32.ofInt (1) = (1))) (by decide) rfl dX6_scatter_71 ?_
          refine Y_goto C (pc := 74) (tgt := 28) dX6_scatter_74 (by decide) ?_
          have h := Option.some.inj h
          exact Y_sub [2, 3, 4, 1, 5, 0] rfl (hLp _ h.symm)
      · refine Y_iinc C (pc := 77) (v := (s1.2.1 + 1)) (lv' := [(7, .int (s1.2.1 + 1)), (0, .ref (ρ k0)), (1, .ref (ρ k1)), (4, .int (mx (1 : Int32) (i3 + (1 : Int32)))), (5, .long e6.1)]) 4 rfl (congrArg (fun z => s1.2.1 + z) (by decide : Int32.ofInt (1) = (1))) (by decide) rfl dX6_scatter_77 ?_
        refine Y_goto C (pc := 80) (tgt := 16) dX6_scatter_80 (by decide) ?_
        have h := Option.some.inj h
        exact Y_sub [1, 2, 3, 4, 0] rfl (hLp _ h.symm)
  · cases h
    exact Y_vret C dX6_scatter_83

noncomputable def f_X6_mirror_L19 (s1 : Int32 × Sg) (k1 : Nat) : (Int32 × Sg) → Option ((Int32 × Sg) ⊕ (Sg)) := fun s3 => if s1.1 ≤ s3.1 then (some (.inr s3.2)) else ((f_X8_at s3.2 k1 s3.1 s1.1).bind fun v4 => (f_X8_put s3.2 k1 s1.1 s3.1 v4).bind fun v5 => some (.inl ((s3.1 + 1), v5)))
noncomputable def f_X6_mirror_L2 (k0 : Nat) (k1 : Nat) : (Int32 × Sg) → Option ((Int32 × Sg) ⊕ (Sg)) := fun s1 => if (s1.2 k0 0) ≤ s1.1 then (some (.inr s1.2)) else ((f_X8_put s1.2 k1 s1.1 s1.1 ((0 : Int32))).bind fun v2 => (lo (f_X6_mirror_L19 s1 k1) ((0 : Int32), v2)).bind fun e7 => some (.inl ((s1.1 + 1), e7)))
noncomputable def f_X6_mirror (σ : Sg) (k0 : Nat) (k1 : Nat) : Option (Sg) := (lo (f_X6_mirror_L2 k0 k1) ((0 : Int32), σ)).bind fun e9 => some e9
set_option maxRecDepth 100000 in
set_option maxHeartbeats 4000000 in
theorem c_X6_mirror {l : Launch} {D : va_G} {cA ρ : Nat → Nat} {σ : Sg} {τ : Tg} {k0 : Nat} {k1 : Nat} (hI : Inj ρ) (hk0 : kd k0 = (0, 6)) (hk1 : (kd k1).1 = 1) (hn1 : k1 < 97) {r : Sg} (h : f_X6_mirror σ k0 k1 = some r) : Ct l yX6_mirror cX6_mirror 4 none 1 24 D cA ρ (Aw ρ) [.ref (ρ k0), .ref (ρ k1)] σ τ none r τ := by
  refine Ct_of (by decide +kernel) (Nat.le_of_ble_eq_true rfl) (fun p e s m args below meth c C => ?_)
  have C : Ctx p l s m args meth c cX6_mirror RX6 4 none D cA ρ (Aw ρ) := C
  have hW : Wr ρ (Aw ρ) := ⟨hI, fun k hk => ⟨k, hk, rfl⟩⟩
  unfold f_X6_mirror at h
  refine Y_sub [0, 1] (lv' := [(0, .ref (ρ k0)), (1, .ref (ρ k1))]) rfl ?_
  refine Y_iconst C (pc := 0) (v := (0 : Int32)) (by decide) dX6_mirror_0 ?_
  refine Y_istore_n C (pc := 1) (lv' := [(2, .int (0 : Int32)), (0, .ref (ρ k0)), (1, .ref (ρ k1))]) 2 rfl (by decide) rfl dX6_mirror_1 ?_
  obtain ⟨e9, he9, h⟩ := Option.bind_eq_some_iff.mp h
  refine Y_sub [1, 2, 0] (lv' := [(0, .ref (ρ k0)), (1, .ref (ρ k1)), (2, .int (0 : Int32))]) rfl ?_
  refine lo_rule (f := (f_X6_mirror_L2 k0 k1)) (YS := fun s1 => Y p l e (Rm 1 24) s m args below meth c 4 D cA ρ (Aw ρ) 0 0 (MQ below (QC D cA ρ (Aw ρ) none r τ) args s 0 0 (Aw ρ)) s1.2 τ 2 [(0, .ref (ρ k0)), (1, .ref (ρ k1)), (2, .int s1.1)] []) (YE := fun e9 => Y p l e (Rm 1 24) s m args below meth c 4 D cA ρ (Aw ρ) 0 0 (MQ below (QC D cA ρ (Aw ρ) none r τ) args s 0 0 (Aw ρ)) e9 τ 48 [] []) ?_ he9 ?_
  · intro s1 x h hLp hE
    unfold f_X6_mirror_L2 at h
    refine Y_iload_n C (pc := 2) 2 2 rfl rfl dX6_mirror_2 ?_
    refine Y_aload_n C (pc := 3) 0 0 rfl rfl dX6_mirror_3 ?_
    refine Y_getI C (pc := 4) hk0 q_fi_RX6_31 dX6_mirror_4 ?_
    refine Y_icmp_ge C (pc := 7) (tgt := 48) dX6_mirror_7 (by decide) (fun c8 => ?_) (fun c8 => ?_)
    · rw [if_pos c8] at h
      have h := Option.some.inj h
      exact Y_sub [] rfl (hE _ h.symm)
    · rw [if_neg c8] at h
      refine Y_aload_n C (pc := 10) 1 1 rfl rfl dX6_mirror_10 ?_
      refine Y_iload_n C (pc := 11) 2 2 rfl rfl dX6_mirror_11 ?_
      refine Y_iload_n C (pc := 12) 2 2 rfl rfl dX6_mirror_12 ?_
      refine Y_iconst C (pc := 13) (v := (0 : Int32)) (by decide) dX6_mirror_13 ?_
      obtain ⟨v2, hv2, h⟩ := Option.bind_eq_some_iff.mp h
      refine Y_callSN C [.ref (ρ k1), .int s1.1, .int s1.1, .int (0 : Int32)] [] [] (c_X8_put hI hk1 hn1 hv2) (fun _ h => h) q_cw_yX8_put q_mn_RX6_53 q_st_yX8_put ⟨⟨Nat.le_of_ble_eq_true rfl, Nat.le_of_ble_eq_true rfl⟩, ⟨Nat.zero_le _, Nat.zero_le _⟩, Nat.le_of_ble_eq_true rfl⟩ rfl rfl rfl dX6_mirror_14 ?_
      refine Y_iconst C (pc := 17) (v := (0 : Int32)) (by decide) dX6_mirror_17 ?_
      refine Y_istore_n C (pc := 18) (lv' := [(3, .int (0 : Int32)), (0, .ref (ρ k0)), (1, .ref (ρ k1)), (2, .int s1.1)]) 3 rfl (by decide) rfl dX6_mirror_18 ?_
      obtain ⟨e7, he7, h⟩ := Option.bind_eq_some_iff.mp h
      refine Y_sub [1, 2, 3, 0] (lv' := [(0, .ref (ρ k0)), (1, .ref (ρ k1)), (2, .int s1.1), (3, .int (0 : Int32))]) rfl ?_
      refine lo_rule (f := (f_X6_mirror_L19 s1 k1)) (YS := fun s3 => Y p l e (Rm 1 24) s m args below meth c 4 D cA ρ (Aw ρ) 0 0 (MQ below (QC D cA ρ (Aw ρ) none r τ) args s 0 0 (Aw ρ)) s3.2 τ 19 [(0, .ref (ρ k0)), (1, .ref (ρ k1)), (2, .int s1.1), (3, .int s3.1)] []) (YE := fun e7 => Y p l e (Rm 1 24) s m args below meth c 4 D cA ρ (Aw ρ) 0 0 (MQ below (QC D cA ρ (Aw ρ) none r τ) args s 0 0 (Aw ρ)) e7 τ 42 [(0, .ref (ρ k0)), (1, .ref (ρ k1)), (2, .int s1.1)] []) ?_ he7 ?_
      · intro s3 x h hLp hE
        unfold f_X6_mirror_L19 at h
        refine Y_iload_n C (pc := 19) 3 3 rfl rfl dX6_mirror_19 ?_
        refine Y_iload_n C (pc := 20) 2 2 rfl rfl dX6_mirror_20 ?_
        refine Y_icmp_ge C (pc := 21) (tgt := 42) dX6_mirror_21 (by decide) (fun c6 => ?_) (fun c6 => ?_)
        · rw [if_pos c6] at h
          have h := Option.some.inj h
          exact Y_sub [0, 1, 2] rfl (hE _ h.symm)
        · rw [if_neg c6] at h
          refine Y_aload_n C (pc := 24) 1 1 rfl rfl dX6_mirror_24 ?_
          refine Y_iload_n C (pc := 25) 2 2 rfl rfl dX6_mirror_25 ?_
          refine Y_iload_n C (pc := 26) 3 3 rfl rfl dX6_mirror_26 ?_
          refine Y_aload_n C (pc := 27) 1 1 rfl rfl dX6_mirror_27 ?_
          refine Y_iload_n C (pc := 28) 3 3 rfl rfl dX6_mirror_28 ?_
          refine Y_iload_n C (pc := 29) 2 2 rfl rfl dX6_mirror_29 ?_
          obtain ⟨v4, hv4, h⟩ := Option.bind_eq_some_iff.mp h
          refine Y_callSN C [.ref (ρ k1), .int s3.1, .int s1.1] [.int s3.1, .int s1.1, .ref (ρ k1)] [.int v4, .int s3.1, .int s1.1, .ref (ρ k1)] (c_X8_at hk1 hv4) (fun _ h => h.elim) q_cw_yX8_at q_mn_RX6_57 q_st_yX8_at ⟨⟨Nat.le_of_ble_eq_true rfl, Nat.le_of_ble_eq_true rfl⟩, ⟨Nat.zero_le _, Nat.zero_le _⟩, Nat.le_of_ble_eq_true rfl⟩ rfl rfl rfl dX6_mirror_30 ?_
          obtain ⟨v5, hv5, h⟩ := Option.bind_eq_some_iff.mp h
          refine Y_callSN C [.ref (ρ k1), .int s1.1, .int s3.1, .int v4] [] [] (c_X8_put hI hk1 hn1 hv5) (fun _ h => h) q_cw_yX8_put q_mn_RX6_53 q_st_yX8_put ⟨⟨Nat.le_of_ble_eq_true rfl, Nat.le_of_ble_eq_true rfl⟩, ⟨Nat.zero_le _, Nat.zero_le _⟩, Nat.le_of_ble_eq_true rfl⟩ rfl rfl rfl dX6_mirror_33 ?_
          refine Y_iinc C (pc := 36) (v := (s3.1 + 1)) (lv' := [(3, .int (s3.1 + 1)), (0, .ref (ρ k0)), (1, .ref (ρ k1)), (2, .int s1.1)]) 3 rfl (congrArg (fun z => s3.1 + z) (by decide : Int32.ofInt (1) = (1))) (by decide) rfl dX6_mirror_36 ?_
          refine Y_goto C (pc := 39) (tgt := 19) dX6_mirror_39 (by decide) ?_
          have h := Option.some.inj h
          exact Y_sub [1, 2, 3, 0] rfl (hLp _ h.symm)
      · refine Y_iinc C (pc := 42) (v := (s1.1 + 1)) (lv' := [(2, .int (s1.1 + 1)), (0, .ref (ρ k0)), (1, .ref (ρ k1))]) 2 rfl (congrArg (fun z => s1.1 + z) (by decide : Int32.ofInt (1) = (1))) (by decide) rfl dX6_mirror_42 ?_
        refine Y_goto C (pc := 45) (tgt := 2) dX6_mirror_45 (by decide) ?_
        have h := Option.some.inj h
        exact Y_sub [1, 2, 0] rfl (hLp _ h.symm)
  · cases h
    exact Y_vret C dX6_mirror_48

noncomputable def f_X6_sumOf_L15 (σ : Sg) (k0 : Nat) (k1 : Nat) (s1 : Int32 × Int32) : (Int32 × Int32) → Option ((Int32 × Int32) ⊕ (Int32)) := fun s2 => if (σ k0 0) ≤ s2.2 then (some (.inr s2.1)) else ((f_X8_at σ k1 s1.2 s2.2).bind fun v3 => some (.inl ((s2.1 + v3), (s2.2 + 1))))
noncomputable def f_X6_sumOf_L4 (σ : Sg) (k0 : Nat) (k1 : Nat) : (Int32 × Int32) → Option ((Int32 × Int32) ⊕ (Int32)) := fun s1 => if (σ k0 0) ≤ s1.2 then (some (.inr s1.1)) else ((lo (f_X6_sumOf_L15 σ k0 k1 s1) (s1.1, (0 : Int32))).bind fun e5 => some (.inl (e5, (s1.2 + 1))))
noncomputable def f_X6_sumOf (σ : Sg) (k0 : Nat) (k1 : Nat) : Option (Int32) := (lo (f_X6_sumOf_L4 σ k0 k1) ((0 : Int32), (0 : Int32))).bind fun e7 => some e7
set_option maxRecDepth 100000 in
set_option maxHeartbeats 4000000 in
theorem c_X6_sumOf {l : Launch} {D : va_G} {cA ρ : Nat → Nat} {σ : Sg} {τ : Tg} {k0 : Nat} {k1 : Nat} (hk0 : kd k0 = (0, 6)) (hk1 : (kd k1).1 = 1) {r : Int32} (h : f_X6_sumOf σ k0 k1 = some r) : Ct l yX6_sumOf cX6_sumOf 5 (some .int) 1 23 D cA ρ A0 [.ref (ρ k0), .ref (ρ k1)] σ τ (some (.int r)) σ τ := by
  refine Ct_of (by decide +kernel) (Nat.le_of_ble_eq_true rfl) (fun p e s m args below meth c C => ?_)
  have C : Ctx p l s m args meth c cX6_sumOf RX6 5 (some .int) D cA ρ A0 := C
  unfold f_X6_sumOf at h
  refine Y_sub [0, 1] (lv' := [(0, .ref (ρ k0)), (1, .ref (ρ k1))]) rfl ?_
  refine Y_iconst C (pc := 0) (v := (0 : Int32)) (by decide) dX6_sumOf_0 ?_
  refine Y_istore_n C (pc := 1) (lv' := [(2, .int (0 : Int32)), (0, .ref (ρ k0)), (1, .ref (ρ k1))]) 2 rfl (by decide) rfl dX6_sumOf_1 ?_
  refine Y_iconst C (pc := 2) (v := (0 : Int32)) (by decide) dX6_sumOf_2 ?_
  refine Y_istore_n C (pc := 3) (lv' := [(3, .int (0 : Int32)), (2, .int (0 : Int32)), (0, .ref (ρ k0)), (1, .ref (ρ k1))]) 3 rfl (by decide) rfl dX6_sumOf_3 ?_
  obtain ⟨e7, he7, h⟩ := Option.bind_eq_some_iff.mp h
  refine Y_sub [2, 3, 1, 0] (lv' := [(0, .ref (ρ k0)), (1, .ref (ρ k1)), (2, .int (0 : Int32)), (3, .int (0 : Int32))]) rfl ?_
  refine lo_rule (f := (f_X6_sumOf_L4 σ k0 k1)) (YS := fun s1 => Y p l e (Rm 1 23) s m args below meth c 5 D cA ρ A0 0 0 (MQ below (QC D cA ρ A0 (some (.int r)) σ τ) args s 0 0 A0) σ τ 4 [(0, .ref (ρ k0)), (1, .ref (ρ k1)), (2, .int s1.1), (3, .int s1.2)] []) (YE := fun e7 => Y p l e (Rm 1 23) s m args below meth c 5 D cA ρ A0 0 0 (MQ below (QC D cA ρ A0 (some (.int r)) σ τ) args s 0 0 A0) σ τ 46 [(2, .int e7)] []) ?_ he7 ?_
  · intro s1 x h hLp hE
    unfold f_X6_sumOf_L4 at h
    refine Y_iload_n C (pc := 4) 3 3 rfl rfl dX6_sumOf_4 ?_
    refine Y_aload_n C (pc := 5) 0 0 rfl rfl dX6_sumOf_5 ?_
    refine Y_getI C (pc := 6) hk0 q_fi_RX6_31 dX6_sumOf_6 ?_
    refine Y_icmp_ge C (pc := 9) (tgt := 46) dX6_sumOf_9 (by decide) (fun c6 => ?_) (fun c6 => ?_)
    · rw [if_pos c6] at h
      have h := Option.some.inj h
      exact Y_sub [2] rfl (hE _ h.symm)
    · rw [if_neg c6] at h
      refine Y_iconst C (pc := 12) (v := (0 : Int32)) (by decide) dX6_sumOf_12 ?_
      refine Y_istore C (pc := 13) (lv' := [(4, .int (0 : Int32)), (0, .ref (ρ k0)), (1, .ref (ρ k1)), (2, .int s1.1), (3, .int s1.2)]) (by decide) rfl dX6_sumOf_13 ?_
      obtain ⟨e5, he5, h⟩ := Option.bind_eq_some_iff.mp h
      refine Y_sub [1, 2, 3, 4, 0] (lv' := [(0, .ref (ρ k0)), (1, .ref (ρ k1)), (2, .int s1.1), (3, .int s1.2), (4, .int (0 : Int32))]) rfl ?_
      refine lo_rule (f := (f_X6_sumOf_L15 σ k0 k1 s1)) (YS := fun s2 => Y p l e (Rm 1 23) s m args below meth c 5 D cA ρ A0 0 0 (MQ below (QC D cA ρ A0 (some (.int r)) σ τ) args s 0 0 A0) σ τ 15 [(0, .ref (ρ k0)), (1, .ref (ρ k1)), (2, .int s2.1), (3, .int s1.2), (4, .int s2.2)] []) (YE := fun e5 => Y p l e (Rm 1 23) s m args below meth c 5 D cA ρ A0 0 0 (MQ below (QC D cA ρ A0 (some (.int r)) σ τ) args s 0 0 A0) σ τ 40 [(0, .ref (ρ k0)), (1, .ref (ρ k1)), (2, .int e5), (3, .int s1.2)] []) ?_ he5 ?_
      · intro s2 x h hLp hE
        unfold f_X6_sumOf_L15 at h
        refine Y_iload C (pc := 15) 4 rfl dX6_sumOf_15 ?_
        refine Y_aload_n C (pc := 17) 0 0 rfl rfl dX6_sumOf_17 ?_
        refine Y_getI C (pc := 18) hk0 q_fi_RX6_31 dX6_sumOf_18 ?_
        refine Y_icmp_ge C (pc := 21) (tgt := 40) dX6_sumOf_21 (by decide) (fun c4 => ?_) (fun c4 => ?_)
        · rw [if_pos c4] at h
          have h := Option.some.inj h
          exact Y_sub [0, 1, 2, 3] rfl (hE _ h.symm)
        · rw [if_neg c4] at h
          refine Y_iload_n C (pc := 24) 2 2 rfl rfl dX6_sumOf_24 ?_
          refine Y_aload_n C (pc := 25) 1 1 rfl rfl dX6_sumOf_25 ?_
          refine Y_iload_n C (pc := 26) 3 3 rfl rfl dX6_sumOf_26 ?_
          refine Y_iload C (pc := 27) 4 rfl dX6_sumOf_27 ?_
          obtain ⟨v3, hv3, h⟩ := Option.bind_eq_some_iff.mp h
          refine Y_callSN C [.ref (ρ k1), .int s1.2, .int s2.2] [.int s2.1] [.int v3, .int s2.1] (c_X8_at hk1 hv3) (fun _ h => h.elim) q_cw_yX8_at q_mn_RX6_57 q_st_yX8_at ⟨⟨Nat.le_of_ble_eq_true rfl, Nat.le_of_ble_eq_true rfl⟩, ⟨Nat.zero_le _, Nat.zero_le _⟩, Nat.le_of_ble_eq_true rfl⟩ rfl rfl rfl dX6_sumOf_29 ?_
          refine Y_iadd C (pc := 32) dX6_sumOf_32 ?_
          refine Y_istore_n C (pc := 33) (lv' := [(2, .int (s2.1 + v3)), (0, .ref (ρ k0)), (1, .ref (ρ k1)), (3, .int s1.2), (4, .int s2.2)]) 2 rfl (by decide) rfl dX6_sumOf_33 ?_
          refine Y_iinc C (pc := 34) (v := (s2.2 + 1)) (lv' := [(4, .int (s2.2 + 1)), (2, .int (s2.1 + v3)), (0, .ref (ρ k0)), (1, .ref (ρ k1)), (3, .int s1.2)]) 4 rfl (congrArg (fun z => s2.2 + z) (by decide : Int32.ofInt (1) = (1))) (by decide) rfl dX6_sumOf_34 ?_
          refine Y_goto C (pc := 37) (tgt := 15) dX6_sumOf_37 (by decide) ?_
          have h := Option.some.inj h
          exact Y_sub [2, 3, 1, 4, 0] rfl (hLp _ h.symm)
      · refine Y_iinc C (pc := 40) (v := (s1.2 + 1)) (lv' := [(3, .int (s1.2 + 1)), (0, .ref (ρ k0)), (1, .ref (ρ k1)), (2, .int e5)]) 3 rfl (congrArg (fun z => s1.2 + z) (by decide : Int32.ofInt (1) = (1))) (by decide) rfl dX6_sumOf_40 ?_
        refine Y_goto C (pc := 43) (tgt := 4) dX6_sumOf_43 (by decide) ?_
        have h := Option.some.inj h
        exact Y_sub [1, 2, 3, 0] rfl (hLp _ h.symm)
  · refine Y_iload_n C (pc := 46) 2 0 rfl rfl dX6_sumOf_46 ?_
    cases h
    exact Y_iret C dX6_sumOf_47

noncomputable def f_X6_freeCount_J23 (j3 : Int32) (j4 : Int32) : Option ((Int32 × Int32) ⊕ (Int32)) := some (.inl (j3, (j4 + 1)))
noncomputable def f_X6_freeCount_L4 (σ : Sg) (k0 : Nat) : (Int32 × Int32) → Option ((Int32 × Int32) ⊕ (Int32)) := fun s1 => if (σ k0 0) ≤ s1.2 then (some (.inr s1.1)) else ((f_X6_isFree σ k0 s1.2).bind fun v2 => if v2 = (0 : Int32) then (f_X6_freeCount_J23 s1.1 s1.2) else (f_X6_freeCount_J23 ((s1.1 + 1)) s1.2))
noncomputable def f_X6_freeCount (σ : Sg) (k0 : Nat) : Option (Int32) := (lo (f_X6_freeCount_L4 σ k0) ((0 : Int32), (0 : Int32))).bind fun e7 => some e7
set_option maxRecDepth 100000 in
set_option maxHeartbeats 4000000 in
theorem c_X6_freeCount {l : Launch} {D : va_G} {cA ρ : Nat → Nat} {σ : Sg} {τ : Tg} {k0 : Nat} (hk0 : kd k0 = (0, 6)) {r : Int32} (h : f_X6_freeCount σ k0 = some r) : Ct l yX6_freeCount cX6_freeCount 3 (some .int) 2 42 D cA ρ A0 [.ref (ρ k0)] σ τ (some (.int r)) σ τ := by
  refine Ct_of (by decide +kernel) (Nat.le_of_ble_eq_true rfl) (fun p e s m args below meth c C => ?_)
  have C : Ctx p l s m args meth c cX6_freeCount RX6 3 (some .int) D cA ρ A0 := C
  unfold f_X6_freeCount at h
  refine Y_sub [0] (lv' := [(0, .ref (ρ k0))]) rfl ?_
  refine Y_iconst C (pc := 0) (v := (0 : Int32)) (by decide) dX6_freeCount_0 ?_
  refine Y_istore_n C (pc := 1) (lv' := [(1, .int (0 : Int32)), (0, .ref (ρ k0))]) 1 rfl (by decide) rfl dX6_freeCount_1 ?_
  refine Y_iconst C (pc := 2) (v := (0 : Int32)) (by decide) dX6_freeCount_2 ?_
  refine Y_istore_n C (pc := 3) (lv' := [(2, .int (0 : Int32)), (1, .int (0 : Int32)), (0, .ref (ρ k0))]) 2 rfl (by decide) rfl dX6_freeCount_3 ?_
  obtain ⟨e7, he7, h⟩ := Option.bind_eq_some_iff.mp h
  refine Y_sub [2, 1, 0] (lv' := [(0, .ref (ρ k0)), (1, .int (0 : Int32)), (2, .int (0 : Int32))]) rfl ?_
  refine lo_rule (f := (f_X6_freeCount_L4 σ k0)) (YS := fun s1 => Y p l e (Rm 2 42) s m args below meth c 3 D cA ρ A0 0 0 (MQ below (QC D cA ρ A0 (some (.int r)) σ τ) args s 0 0 A0) σ τ 4 [(0, .ref (ρ k0)), (1, .int s1.1), (2, .int s1.2)] []) (YE := fun e7 => Y p l e (Rm 2 42) s m args below meth c 3 D cA ρ A0 0 0 (MQ below (QC D cA ρ A0 (some (.int r)) σ τ) args s 0 0 A0) σ τ 29 [(1, .int e7)] []) ?_ he7 ?_
  · intro s1 x h hLp hE
    unfold f_X6_freeCount_L4 at h
    have hJ23 : ∀ (j3 : Int32) (j4 : Int32), f_X6_freeCount_J23 j3 j4 = some x → Y p l e (Rm 2 42) s m args below meth c 3 D cA ρ A0 0 0 (MQ below (QC D cA ρ A0 (some (.int r)) σ τ) args s 0 0 A0) σ τ 23 [(0, .ref (ρ k0)), (1, .int j3), (2, .int j4)] [] := by
      intro j3 j4 h
      unfold f_X6_freeCount_J23 at h
      refine Y_iinc C (pc := 23) (v := (j4 + 1)) (lv' := [(2, .int (j4 + 1)), (0, .ref (ρ k0)), (1, .int j3)]) 2 rfl (congrArg (fun z => j4 + z) (by decide : Int32.ofInt (1) = (1))) (by decide) rfl dX6_freeCount_23 ?_
      refine Y_goto C (pc := 26) (tgt := 4) dX6_freeCount_26 (by decide) ?_
      have h := Option.some.inj h
      exact Y_sub [1, 2, 0] rfl (hLp _ h.symm)
    refine Y_iload_n C (pc := 4) 2 2 rfl rfl dX6_freeCount_4 ?_
    refine Y_aload_n C (pc := 5) 0 0 rfl rfl dX6_freeCount_5 ?_
    refine Y_getI C (pc := 6) hk0 q_fi_RX6_31 dX6_freeCount_6 ?_
    refine Y_icmp_ge C (pc := 9) (tgt := 29) dX6_freeCount_9 (by decide) (fun c6 => ?_) (fun c6 => ?_)
    · rw [if_pos c6] at h
      have h := Option.some.inj h
      exact Y_sub [1] rfl (hE _ h.symm)
    · rw [if_neg c6] at h
      refine Y_aload_n C (pc := 12) 0 0 rfl rfl dX6_freeCount_12 ?_
      refine Y_iload_n C (pc := 13) 2 2 rfl rfl dX6_freeCount_13 ?_
      obtain ⟨v2, hv2, h⟩ := Option.bind_eq_some_iff.mp h
      refine Y_callV C [.int s1.2] [] [.int v2] hk0 rfl rfl (c_X6_isFree hk0 hv2) (fun _ h => h.elim) q_cw_yX6_isFree q_ml_RX6_69 ⟨q_im_yX6_isFree, q_se_yX6_isFree⟩ ⟨⟨Nat.le_of_ble_eq_true rfl, Nat.le_of_ble_eq_true rfl⟩, ⟨Nat.zero_le _, Nat.zero_le _⟩, Nat.le_of_ble_eq_true rfl⟩ rfl rfl rfl dX6_freeCount_14 ?_
      refine Y_if_eq C (pc := 17) (tgt := 23) dX6_freeCount_17 (by decide) (fun c5 => ?_) (fun c5 => ?_)
      · rw [if_pos c5] at h
        exact Y_sub [0, 1, 2] rfl (hJ23 _ _ h)
      · rw [if_neg c5] at h
        refine Y_iinc C (pc := 20) (v := (s1.1 + 1)) (lv' := [(1, .int (s1.1 + 1)), (0, .ref (ρ k0)), (2, .int s1.2)]) 1 rfl (congrArg (fun z => s1.1 + z) (by decide : Int32.ofInt (1) = (1))) (by decide) rfl dX6_freeCount_20 ?_
        exact Y_sub [1, 0, 2] rfl (hJ23 _ _ h)
  · refine Y_iload_n C (pc := 29) 1 0 rfl rfl dX6_freeCount_29 ?_
    cases h
    exact Y_iret C dX6_freeCount_30

noncomputable def f_X6_bestPair_J83 (j4 : Int32) (j5 : Int32) (j6 : Int32) : Option ((Int32 × Int32 × Int32) ⊕ (Int32 × Int32)) := some (.inl (j4, j5, (j6 + 1)))
noncomputable def f_X6_bestPair_J72 (s1 : Int32 × Int32 × Int32) (j9 : Int32) (j10 : Int32) : Option ((Int32 × Int32 × Int32) ⊕ (Int32 × Int32)) := f_X6_bestPair_J83 ((((10 : Int32) * s1.2.2) + j9)) j10 j9
noncomputable def f_X6_bestPair_L19 (σ : Sg) (k0 : Nat) (s1 : Int32 × Int32 × Int32) : (Int32 × Int32 × Int32) → Option ((Int32 × Int32 × Int32) ⊕ (Int32 × Int32)) := fun s2 => if (σ k0 0) ≤ s2.2.2 then (some (.inr (s2.1, s2.2.1))) else ((f_X6_isFree σ k0 s1.2.2).bind fun v3 => if v3 = (0 : Int32) then (f_X6_bestPair_J83 s2.1 s2.2.1 s2.2.2) else ((f_X6_isFree σ k0 s2.2.2).bind fun v7 => if v7 = (0 : Int32) then (f_X6_bestPair_J83 s2.1 s2.2.1 s2.2.2) else ((f_X6_gainOf σ k0 ((k0 + 4)) s1.2.2 s2.2.2).bind fun v8 => if s2.1 = (-1 : Int32) then (f_X6_bestPair_J72 s1 s2.2.2 v8) else (if v8 ≤ s2.2.1 then (f_X6_bestPair_J83 s2.1 s2.2.1 s2.2.2) else (f_X6_bestPair_J72 s1 s2.2.2 v8)))))
noncomputable def f_X6_bestPair_L6 (σ : Sg) (k0 : Nat) : (Int32 × Int32 × Int32) → Option ((Int32 × Int32 × Int32) ⊕ (Int32)) := fun s1 => if (σ k0 0) ≤ s1.2.2 then (some (.inr s1.1)) else ((lo (f_X6_bestPair_L19 σ k0 s1) (s1.1, s1.2.1, (s1.2.2 + (1 : Int32)))).bind fun e16 => some (.inl (e16.1, e16.2, (s1.2.2 + 1))))
noncomputable def f_X6_bestPair (σ : Sg) (k0 : Nat) : Option (Int32) := (lo (f_X6_bestPair_L6 σ k0) ((-1 : Int32), (0 : Int32), (0 : Int32))).bind fun e18 => some e18
set_option maxRecDepth 100000 in
set_option maxHeartbeats 4000000 in
theorem c_X6_bestPair {l : Launch} {D : va_G} {cA ρ : Nat → Nat} {σ : Sg} {τ : Tg} {k0 : Nat} (hk0 : kd k0 = (0, 6)) {r : Int32} (h : f_X6_bestPair σ k0 = some r) : Ct l yX6_bestPair cX6_bestPair 6 (some .int) 2 51 D cA ρ A0 [.ref (ρ k0)] σ τ (some (.int r)) σ τ := by
  refine Ct_of (by decide +kernel) (Nat.le_of_ble_eq_true rfl) (fun p e s m args below meth c C => ?_)
  have C : Ctx p l s m args meth c cX6_bestPair RX6 6 (some .int) D cA ρ A0 := C
  unfold f_X6_bestPair at h
  refine Y_sub [0] (lv' := [(0, .ref (ρ k0))]) rfl ?_
  refine Y_iconst C (pc := 0) (v := (-1 : Int32)) (by decide) dX6_bestPair_0 ?_
  refine Y_istore_n C (pc := 1) (lv' := [(1, .int (-1 : Int32)), (0, .ref (ρ k0))]) 1 rfl (by decide) rfl dX6_bestPair_1 ?_
  refine Y_iconst C (pc := 2) (v := (0 : Int32)) (by decide) dX6_bestPair_2 ?_
  refine Y_istore_n C (pc := 3) (lv' := [(2, .int (0 : Int32)), (1, .int (-1 : Int32)), (0, .ref (ρ k0))]) 2 rfl (by decide) rfl dX6_bestPair_3 ?_
  refine Y_iconst C (pc := 4) (v := (0 : Int32)) (by decide) dX6_bestPair_4 ?_
  refine Y_istore_n C (pc := 5) (lv' := [(3, .int (0 : Int32)), (2, .int (0 : Int32)), (1, .int (-1 : Int32)), (0, .ref (ρ k0))]) 3 rfl (by decide) rfl dX6_bestPair_5 ?_
  obtain ⟨e18, he18, h⟩ := Option.bind_eq_some_iff.mp h
  refine Y_sub [3, 2, 1, 0] (lv' := [(0, .ref (ρ k0)), (1, .int (-1 : Int32)), (2, .int (0 : Int32)), (3, .int (0 : Int32))]) rfl ?_
  refine lo_rule (f := (f_X6_bestPair_L6 σ k0)) (YS := fun s1 => Y p l e (Rm 2 51) s m args below meth c 6 D cA ρ A0 0 0 (MQ below (QC D cA ρ A0 (some (.int r)) σ τ) args s 0 0 A0) σ τ 6 [(0, .ref (ρ k0)), (1, .int s1.1), (2, .int s1.2.1), (3, .int s1.2.2)] []) (YE := fun e18 => Y p l e (Rm 2 51) s m args below meth c 6 D cA ρ A0 0 0 (MQ below (QC D cA ρ A0 (some (.int r)) σ τ) args s 0 0 A0) σ τ 95 [(1, .int e18)] []) ?_ he18 ?_
  · intro s1 x h hLp hE
    unfold f_X6_bestPair_L6 at h
    refine Y_iload_n C (pc := 6) 3 3 rfl rfl dX6_bestPair_6 ?_
    refine Y_aload_n C (pc := 7) 0 0 rfl rfl dX6_bestPair_7 ?_
    refine Y_getI C (pc := 8) hk0 q_fi_RX6_31 dX6_bestPair_8 ?_
    refine Y_icmp_ge C (pc := 11) (tgt := 95) dX6_bestPair_11 (by decide) (fun c17 => ?_) (fun c17 => ?_)
    · rw [if_pos c17] at h
      have h := Option.some.inj h
      exact Y_sub [1] rfl (hE _ h.symm)
    · rw [if_neg c17] at h
      refine Y_iload_n C (pc := 14) 3 3 rfl rfl dX6_bestPair_14 ?_
      refine Y_iconst C (pc := 15) (v := (1 : Int32)) (by decide) dX6_bestPair_15 ?_
      refine Y_iadd C (pc := 16) dX6_bestPair_16 ?_
      refine Y_istore C (pc := 17) (lv' := [(4, .int (s1.2.2 + (1 : Int32))), (0, .ref (ρ k0)), (1, .int s1.1), (2, .int s1.2.1), (3, .int s1.2.2)]) (by decide) rfl dX6_bestPair_17 ?_
      obtain ⟨e16, he16, h⟩ := Option.bind_eq_some_iff.mp h
      refine Y_sub [1, 2, 3, 4, 0] (lv' := [(0, .ref (ρ k0)), (1, .int s1.1), (2, .int s1.2.1), (3, .int s1.2.2), (4, .int (s1.2.2 + (1 : Int32)))]) rfl ?_
      refine lo_rule (f := (f_X6_bestPair_L19 σ k0 s1)) (YS := fun s2 => Y p l e (Rm 2 51) s m args below meth c 6 D cA ρ A0 0 0 (MQ below (QC D cA ρ A0 (some (.int r)) σ τ) args s 0 0 A0) σ τ 19 [(0, .ref (ρ k0)), (1, .int s2.1), (2, .int s2.2.1), (3, .int s1.2.2), (4, .int s2.2.2)] []) (YE := fun e16 => Y p l e (Rm 2 51) s m args below meth c 6 D cA ρ A0 0 0 (MQ below (QC D cA ρ A0 (some (.int r)) σ τ) args s 0 0 A0) σ τ 89 [(0, .ref (ρ k0)), (1, .int e16.1), (2, .int e16.2), (3, .int s1.2.2)] []) ?_ he16 ?_
      · intro s2 x h hLp hE
        unfold f_X6_bestPair_L19 at h
        have hJ83 : ∀ (j4 : Int32) (j5 : Int32) (j6 : Int32), f_X6_bestPair_J83 j4 j5 j6 = some x → Y p l e (Rm 2 51) s m args below meth c 6 D cA ρ A0 0 0 (MQ below (QC D cA ρ A0 (some (.int r)) σ τ) args s 0 0 A0) σ τ 83 [(0, .ref (ρ k0)), (1, .int j4), (2, .int j5), (3, .int s1.2.2), (4, .int j6)] [] := by
          intro j4 j5 j6 h
          unfold f_X6_bestPair_J83 at h
          refine Y_iinc C (pc := 83) (v := (j6 + 1)) (lv' := [(4, .int (j6 + 1)), (0, .ref (ρ k0)), (1, .int j4), (2, .int j5), (3, .int s1.2.2)]) 4 rfl (congrArg (fun z => j6 + z) (by decide : Int32.ofInt (1) = (1))) (by decide) rfl dX6_bestPair_83 ?_
          refine Y_goto C (pc := 86) (tgt := 19) dX6_bestPair_86 (by decide) ?_
          have h := Option.some.inj h
          exact Y_sub [1, 2, 3, 4, 0] rfl (hLp _ h.symm)
        have hJ72 : ∀ (j9 : Int32) (j10 : Int32), f_X6_bestPair_J72 s1 j9 j10 = some x → Y p l e (Rm 2 51) s m args below meth c 6 D cA ρ A0 0 0 (MQ below (QC D cA ρ A0 (some (.int r)) σ τ) args s 0 0 A0) σ τ 72 [(0, .ref (ρ k0)), (3, .int s1.2.2), (4, .int j9), (5, .int j10)] [] := by
          intro j9 j10 h
          unfold f_X6_bestPair_J72 at h
          refine Y_bipush C (pc := 72) (v := (10 : Int32)) (by decide) dX6_bestPair_72 ?_
          refine Y_iload_n C (pc := 74) 3 1 rfl rfl dX6_bestPair_74 ?_
          refine Y_imul C (pc := 75) dX6_bestPair_75 ?_
          refine Y_iload C (pc := 76) 2 rfl dX6_bestPair_76 ?_
          refine Y_iadd C (pc := 78) dX6_bestPair_78 ?_
          refine Y_istore_n C (pc := 79) (lv' := [(1, .int (((10 : Int32) * s1.2.2) + j9)), (0, .ref (ρ k0)), (3, .int s1.2.2), (4, .int j9), (5, .int j10)]) 1 rfl (by decide) rfl dX6_bestPair_79 ?_
          refine Y_iload C (pc := 80) 4 rfl dX6_bestPair_80 ?_
          refine Y_istore_n C (pc := 82) (lv' := [(2, .int j10), (1, .int (((10 : Int32) * s1.2.2) + j9)), (0, .ref (ρ k0)), (3, .int s1.2.2), (4, .int j9), (5, .int j10)]) 2 rfl (by decide) rfl dX6_bestPair_82 ?_
          exact Y_sub [2, 1, 0, 3, 4] rfl (hJ83 _ _ _ h)
        refine Y_iload C (pc := 19) 4 rfl dX6_bestPair_19 ?_
        refine Y_aload_n C (pc := 21) 0 0 rfl rfl dX6_bestPair_21 ?_
        refine Y_getI C (pc := 22) hk0 q_fi_RX6_31 dX6_bestPair_22 ?_
        refine Y_icmp_ge C (pc := 25) (tgt := 89) dX6_bestPair_25 (by decide) (fun c15 => ?_) (fun c15 => ?_)
        · rw [if_pos c15] at h
          have h := Option.some.inj h
          exact Y_sub [0, 1, 2, 3] rfl (hE _ h.symm)
        · rw [if_neg c15] at h
          refine Y_aload_n C (pc := 28) 0 0 rfl rfl dX6_bestPair_28 ?_
          refine Y_iload_n C (pc := 29) 3 3 rfl rfl dX6_bestPair_29 ?_
          obtain ⟨v3, hv3, h⟩ := Option.bind_eq_some_iff.mp h
          refine Y_callV C [.int s1.2.2] [] [.int v3] hk0 rfl rfl (c_X6_isFree hk0 hv3) (fun _ h => h.elim) q_cw_yX6_isFree q_ml_RX6_69 ⟨q_im_yX6_isFree, q_se_yX6_isFree⟩ ⟨⟨Nat.le_of_ble_eq_true rfl, Nat.le_of_ble_eq_true rfl⟩, ⟨Nat.zero_le _, Nat.zero_le _⟩, Nat.le_of_ble_eq_true rfl⟩ rfl rfl rfl dX6_bestPair_30 ?_
          refine Y_if_eq C (pc := 33) (tgt := 83) dX6_bestPair_33 (by decide) (fun c14 => ?_) (fun c14 => ?_)
          · rw [if_pos c14] at h
            exact Y_sub [0, 1, 2, 3, 4] rfl (hJ83 _ _ _ h)
          · rw [if_neg c14] at h
            refine Y_aload_n C (pc := 36) 0 0 rfl rfl dX6_bestPair_36 ?_
            refine Y_iload C (pc := 37) 4 rfl dX6_bestPair_37 ?_
            obtain ⟨v7, hv7, h⟩ := Option.bind_eq_some_iff.mp h
            refine Y_callV C [.int s2.2.2] [] [.int v7] hk0 rfl rfl (c_X6_isFree hk0 hv7) (fun _ h => h.elim) q_cw_yX6_isFree q_ml_RX6_69 ⟨q_im_yX6_isFree, q_se_yX6_isFree⟩ ⟨⟨Nat.le_of_ble_eq_true rfl, Nat.le_of_ble_eq_true rfl⟩, ⟨Nat.zero_le _, Nat.zero_le _⟩, Nat.le_of_ble_eq_true rfl⟩ rfl rfl rfl dX6_bestPair_39 ?_
            refine Y_if_ne C (pc := 42) (tgt := 48) dX6_bestPair_42 (by decide) (fun c13 => ?_) (fun c13 => ?_)
            · rw [if_neg c13] at h
              refine Y_aload_n C (pc := 48) 0 0 rfl rfl dX6_bestPair_48 ?_
              refine Y_aload_n C (pc := 49) 0 0 rfl rfl dX6_bestPair_49 ?_
              refine Y_getR C (pc := 50) hk0 q_fi_RX6_21 (by decide) dX6_bestPair_50 ?_
              refine Y_iload_n C (pc := 53) 3 3 rfl rfl dX6_bestPair_53 ?_
              refine Y_iload C (pc := 54) 4 rfl dX6_bestPair_54 ?_
              obtain ⟨v8, hv8, h⟩ := Option.bind_eq_some_iff.mp h
              refine Y_callV C [.ref (ρ (k0 + 4)), .int s1.2.2, .int s2.2.2] [] [.int v8] hk0 rfl rfl (c_X6_gainOf hk0 (q_kr_6_4 hk0) hv8) (fun _ h => h.elim) q_cw_yX6_gainOf q_ml_RX6_73 ⟨q_im_yX6_gainOf, q_se_yX6_gainOf⟩ ⟨⟨Nat.le_of_ble_eq_true rfl, Nat.le_of_ble_eq_true rfl⟩, ⟨Nat.zero_le _, Nat.zero_le _⟩, Nat.le_of_ble_eq_true rfl⟩ rfl rfl rfl dX6_bestPair_56 ?_
              refine Y_istore C (pc := 59) (lv' := [(5, .int v8), (0, .ref (ρ k0)), (1, .int s2.1), (2, .int s2.2.1), (3, .int s1.2.2), (4, .int s2.2.2)]) (by decide) rfl dX6_bestPair_59 ?_
              refine Y_iload_n C (pc := 61) 1 2 rfl rfl dX6_bestPair_61 ?_
              refine Y_iconst C (pc := 62) (v := (-1 : Int32)) (by decide) dX6_bestPair_62 ?_
              refine Y_icmp_eq C (pc := 63) (tgt := 72) dX6_bestPair_63 (by decide) (fun c12 => ?_) (fun c12 => ?_)
              · rw [if_pos c12] at h
                exact Y_sub [1, 4, 5, 0] rfl (hJ72 _ _ h)
              · rw [if_neg c12] at h
                refine Y_iload C (pc := 66) 0 rfl dX6_bestPair_66 ?_
                refine Y_iload_n C (pc := 68) 2 3 rfl rfl dX6_bestPair_68 ?_
                refine Y_icmp_le C (pc := 69) (tgt := 83) dX6_bestPair_69 (by decide) (fun c11 => ?_) (fun c11 => ?_)
                · rw [if_pos c11] at h
                  exact Y_sub [1, 2, 3, 4, 5] rfl (hJ83 _ _ _ h)
                · rw [if_neg c11] at h
                  exact Y_sub [1, 4, 5, 0] rfl (hJ72 _ _ h)
            · rw [if_pos c13] at h
              refine Y_goto C (pc := 45) (tgt := 83) dX6_bestPair_45 (by decide) ?_
              exact Y_sub [0, 1, 2, 3, 4] rfl (hJ83 _ _ _ h)
      · refine Y_iinc C (pc := 89) (v := (s1.2.2 + 1)) (lv' := [(3, .int (s1.2.2 + 1)), (0, .ref (ρ k0)), (1, .int e16.1), (2, .int e16.2)]) 3 rfl (congrArg (fun z => s1.2.2 + z) (by decide : Int32.ofInt (1) = (1))) (by decide) rfl dX6_bestPair_89 ?_
        refine Y_goto C (pc := 92) (tgt := 6) dX6_bestPair_92 (by decide) ?_
        have h := Option.some.inj h
        exact Y_sub [1, 2, 3, 0] rfl (hLp _ h.symm)
  · refine Y_iload_n C (pc := 95) 1 0 rfl rfl dX6_bestPair_95 ?_
    cases h
    exact Y_iret C dX6_bestPair_96

noncomputable def f_X8_size (σ : Sg) (k0 : Nat) : Option (Int32) := some ((σ (k0 + 1) 0))
set_option maxRecDepth 100000 in
set_option maxHeartbeats 4000000 in
theorem c_X8_size {l : Launch} {D : va_G} {cA ρ : Nat → Nat} {σ : Sg} {τ : Tg} {k0 : Nat} (hk0 : kd k0 = (0, 8)) {r : Int32} (h : f_X8_size σ k0 = some r) : Ct l yX8_size cX8_size 1 (some .int) 0 0 D cA ρ A0 [.ref (ρ k0)] σ τ (some (.int r)) σ τ := by
  refine Ct_of (by decide +kernel) (Nat.le_of_ble_eq_true rfl) (fun p e s m args below meth c C => ?_)
  have C : Ctx p l s m args meth c cX8_size RX8 1 (some .int) D cA ρ A0 := C
  unfold f_X8_size at h
  refine Y_sub [0] (lv' := [(0, .ref (ρ k0))]) rfl ?_
  refine Y_aload_n C (pc := 0) 0 0 rfl rfl dX8_size_0 ?_
  refine Y_getR C (pc := 1) hk0 q_fi_RX8_12 (by decide) dX8_size_1 ?_
  refine Y_getI C (pc := 4) (q_kr_8_0 hk0) q_fi_RX8_69 dX8_size_4 ?_
  cases h
  exact Y_iret C dX8_size_7

noncomputable def f_X8_cost (σ : Sg) (k0 : Nat) : Option (Int32) := (f_X6_costOf σ (k0 + 1) (((k0 + 1) + 4))).bind fun v1 => some v1
set_option maxRecDepth 100000 in
set_option maxHeartbeats 4000000 in
theorem c_X8_cost {l : Launch} {D : va_G} {cA ρ : Nat → Nat} {σ : Sg} {τ : Tg} {k0 : Nat} (hk0 : kd k0 = (0, 8)) {r : Int32} (h : f_X8_cost σ k0 = some r) : Ct l yX8_cost cX8_cost 1 (some .int) 3 70 D cA ρ A0 [.ref (ρ k0)] σ τ (some (.int r)) σ τ := by
  refine Ct_of (by decide +kernel) (Nat.le_of_ble_eq_true rfl) (fun p e s m args below meth c C => ?_)
  have C : Ctx p l s m args meth c cX8_cost RX8 1 (some .int) D cA ρ A0 := C
  unfold f_X8_cost at h
  refine Y_sub [0] (lv' := [(0, .ref (ρ k0))]) rfl ?_
  refine Y_aload_n C (pc := 0) 0 0 rfl rfl dX8_cost_0 ?_
  refine Y_getR C (pc := 1) hk0 q_fi_RX8_12 (by decide) dX8_cost_1 ?_
  refine Y_aload_n C (pc := 4) 0 0 rfl rfl dX8_cost_4 ?_
  refine Y_getR C (pc := 5) hk0 q_fi_RX8_12 (by decide) dX8_cost_5 ?_
  refine Y_getR C (pc := 8) (q_kr_8_0 hk0) q_fi_RX8_116 (by decide) dX8_cost_8 ?_
  obtain ⟨v1, hv1, h⟩ := Option.bind_eq_some_iff.mp h
  refine Y_callV C [.ref (ρ ((k0 + 1) + 4))] [] [.int v1] (q_kr_8_0 hk0) rfl rfl (c_X6_costOf (q_kr_8_0 hk0) (q_kr_6_4 (q_kr_8_0 hk0)) hv1) (fun _ h => h.elim) q_cw_yX6_costOf q_ml_RX8_123 ⟨q_im_yX6_costOf, q_se_yX6_costOf⟩ ⟨⟨Nat.le_of_ble_eq_true rfl, Nat.le_of_ble_eq_true rfl⟩, ⟨Nat.zero_le _, Nat.zero_le _⟩, Nat.le_of_ble_eq_true rfl⟩ rfl rfl rfl dX8_cost_11 ?_
  cases h
  exact Y_iret C dX8_cost_14

noncomputable def f_X8_freeLocation_J31 (j3 : Int32) (j4 : Int32) : Option ((Int32 × Int32) ⊕ ((Int32) ⊕ (Unit))) := some (.inl (j3, (j4 + 1)))
noncomputable def f_X8_freeLocation_L5 (i1 : Int32) (i0 : Int32) (i2 : Int32) : (Int32 × Int32) → Option ((Int32 × Int32) ⊕ ((Int32) ⊕ (Unit))) := fun s1 => if i1 ≤ s1.2 then (some (.inr (.inr ()))) else ((f_X8_has i0 s1.2).bind fun v2 => if v2 = (0 : Int32) then (if s1.1 = i2 then (some (.inr (.inl s1.2))) else (f_X8_freeLocation_J31 ((s1.1 + 1)) s1.2)) else (f_X8_freeLocation_J31 s1.1 s1.2))
noncomputable def f_X8_freeLocation (i0 : Int32) (i1 : Int32) (i2 : Int32) : Option (Int32) := (lo (f_X8_freeLocation_L5 i1 i0 i2) ((0 : Int32), (0 : Int32))).bind (Sum.elim (fun e9 => some e9) (fun e10 => some ((0 : Int32))))
set_option maxRecDepth 100000 in
set_option maxHeartbeats 4000000 in
theorem c_X8_freeLocation {l : Launch} {D : va_G} {cA ρ : Nat → Nat} {σ : Sg} {τ : Tg} {i0 : Int32} {i1 : Int32} {i2 : Int32}  {r : Int32} (h : f_X8_freeLocation i0 i1 i2 = some r) : Ct l yX8_freeLocation cX8_freeLocation 5 (some .int) 1 21 D cA ρ A0 [.int i0, .int i1, .int i2] σ τ (some (.int r)) σ τ := by
  refine Ct_of (by decide +kernel) (Nat.le_of_ble_eq_true rfl) (fun p e s m args below meth c C => ?_)
  have C : Ctx p l s m args meth c cX8_freeLocation RX8 5 (some .int) D cA ρ A0 := C
  unfold f_X8_freeLocation at h
  refine Y_sub [0, 1, 2] (lv' := [(0, .int i0), (1, .int i1), (2, .int i2)]) rfl ?_
  refine Y_iconst C (pc := 0) (v := (0 : Int32)) (by decide) dX8_freeLocation_0 ?_
  refine Y_istore_n C (pc := 1) (lv' := [(3, .int (0 : Int32)), (0, .int i0), (1, .int i1), (2, .int i2)]) 3 rfl (by decide) rfl dX8_freeLocation_1 ?_
  refine Y_iconst C (pc := 2) (v := (0 : Int32)) (by decide) dX8_freeLocation_2 ?_
  refine Y_istore C (pc := 3) (lv' := [(4, .int (0 : Int32)), (3, .int (0 : Int32)), (0, .int i0), (1, .int i1), (2, .int i2)]) (by decide) rfl dX8_freeLocation_3 ?_
  obtain ⟨e8, he8, h⟩ := Option.bind_eq_some_iff.mp h
  refine Y_sub [2, 3, 4, 1, 0] (lv' := [(0, .int i0), (1, .int i1), (2, .int i2), (3, .int (0 : Int32)), (4, .int (0 : Int32))]) rfl ?_
  refine lo_rule (f := (f_X8_freeLocation_L5 i1 i0 i2)) (YS := fun s1 => Y p l e (Rm 1 21) s m args below meth c 5 D cA ρ A0 0 0 (MQ below (QC D cA ρ A0 (some (.int r)) σ τ) args s 0 0 A0) σ τ 5 [(0, .int i0), (1, .int i1), (2, .int i2), (3, .int s1.1), (4, .int s1.2)] []) (YE := fun e8 => (∀ e9, e8 = (.inl e9) → Y p l e (Rm 1 21) s m args below meth c 5 D cA ρ A0 0 0 (MQ below (QC D cA ρ A0 (some (.int r)) σ τ) args s 0 0 A0) σ τ 25 [(4, .int e9)] []) ∧ (∀ e10, e8 = (.inr e10) → Y p l e (Rm 1 21) s m args below meth c 5 D cA ρ A0 0 0 (MQ below (QC D cA ρ A0 (some (.int r)) σ τ) args s 0 0 A0) σ τ 37 [] [])) ?_ he8 ?_
  · intro s1 x h hLp hE
    have hE0 : ∀ y, x = .inr (.inl y) → _ := fun y q => (hE _ q).1 y rfl
    have hE1 : ∀ y, x = .inr (.inr y) → _ := fun y q => (hE _ q).2 y rfl
    unfold f_X8_freeLocation_L5 at h
    have hJ31 : ∀ (j3 : Int32) (j4 : Int32), f_X8_freeLocation_J31 j3 j4 = some x → Y p l e (Rm 1 21) s m args below meth c 5 D cA ρ A0 0 0 (MQ below (QC D cA ρ A0 (some (.int r)) σ τ) args s 0 0 A0) σ τ 31 [(0, .int i0), (1, .int i1), (2, .int i2), (3, .int j3), (4, .int j4)] [] := by
      intro j3 j4 h
      unfold f_X8_freeLocation_J31 at h
      refine Y_iinc C (pc := 31) (v := (j4 + 1)) (lv' := [(4, .int (j4 + 1)), (0, .int i0), (1, .int i1), (2, .int i2), (3, .int j3)]) 4 rfl (congrArg (fun z => j4 + z) (by decide : Int32.ofInt (1) = (1))) (by decide) rfl dX8_freeLocation_31 ?_
      refine Y_goto C (pc := 34) (tgt := 5) dX8_freeLocation_34 (by decide) ?_
      have h := Option.some.inj h
      exact Y_sub [1, 2, 3, 4, 0] rfl (hLp _ h.symm)
    refine Y_iload C (pc := 5) 4 rfl dX8_freeLocation_5 ?_
    refine Y_iload_n C (pc := 7) 1 1 rfl rfl dX8_freeLocation_7 ?_
    refine Y_icmp_ge C (pc := 8) (tgt := 37) dX8_freeLocation_8 (by decide) (fun c7 => ?_) (fun c7 => ?_)
    · rw [if_pos c7] at h
      have h := Option.some.inj h
      exact Y_sub [] rfl (hE1 _ h.symm)
    · rw [if_neg c7] at h
      refine Y_iload_n C (pc := 11) 0 0 rfl rfl dX8_freeLocation_11 ?_
      refine Y_iload C (pc := 12) 4 rfl dX8_freeLocation_12 ?_
      obtain ⟨v2, hv2, h⟩ := Option.bind_eq_some_iff.mp h
      refine Y_callS C [.int i0, .int s1.2] [] [.int v2] (c_X8_has  hv2) (fun _ h => h.elim) q_cw_yX8_has q_ml_RX8_320 q_st_yX8_has ⟨⟨Nat.le_of_ble_eq_true rfl, Nat.le_of_ble_eq_true rfl⟩, ⟨Nat.zero_le _, Nat.zero_le _⟩, Nat.le_of_ble_eq_true rfl⟩ rfl rfl rfl dX8_freeLocation_14 ?_
      refine Y_if_ne C (pc := 17) (tgt := 31) dX8_freeLocation_17 (by decide) (fun c6 => ?_) (fun c6 => ?_)
      · rw [if_neg c6] at h
        exact Y_sub [0, 1, 2, 3, 4] rfl (hJ31 _ _ h)
      · rw [if_pos c6] at h
        refine Y_iload_n C (pc := 20) 3 3 rfl rfl dX8_freeLocation_20 ?_
        refine Y_iload_n C (pc := 21) 2 2 rfl rfl dX8_freeLocation_21 ?_
        refine Y_icmp_ne C (pc := 22) (tgt := 28) dX8_freeLocation_22 (by decide) (fun c5 => ?_) (fun c5 => ?_)
        · rw [if_neg c5] at h
          refine Y_iinc C (pc := 28) (v := (s1.1 + 1)) (lv' := [(3, .int (s1.1 + 1)), (0, .int i0), (1, .int i1), (2, .int i2), (4, .int s1.2)]) 3 rfl (congrArg (fun z => s1.1 + z) (by decide : Int32.ofInt (1) = (1))) (by decide) rfl dX8_freeLocation_28 ?_
          exact Y_sub [1, 2, 3, 0, 4] rfl (hJ31 _ _ h)
        · rw [if_pos c5] at h
          have h := Option.some.inj h
          exact Y_sub [4] rfl (hE0 _ h.symm)
  refine ⟨?_, ?_⟩
  · intro e9 q
    subst q
    simp only [Sum.elim_inl, Sum.elim_inr] at h
    refine Y_iload C (pc := 25) 0 rfl dX8_freeLocation_25 ?_
    cases h
    exact Y_iret C dX8_freeLocation_27
  · intro e10 q
    subst q
    simp only [Sum.elim_inl, Sum.elim_inr] at h
    refine Y_iconst C (pc := 37) (v := (0 : Int32)) (by decide) dX8_freeLocation_37 ?_
    cases h
    exact Y_iret C dX8_freeLocation_38

noncomputable def f_X8_arrange_L8 (i1 : Int32) (k2 : Nat) : (Int32 × Int32 × Int32 × Sg) → Option ((Int32 × Int32 × Int32 × Sg) ⊕ (Sg)) := fun s1 => if i1 ≤ s1.2.2.1 then (some (.inr s1.2.2.2)) else ((f_X8_factorial s1.2.2.2 (((i1 - (1 : Int32)) - s1.2.2.1))).bind fun v2 => (dv s1.1 v2).bind fun v3 => (f_X8_freeLocation s1.2.1 i1 v3).bind fun v4 => (f_X8_setItem s1.2.2.2 k2 s1.2.2.1 v4).bind fun v5 => (rm s1.1 v2).bind fun v6 => some (.inl (v6, (s1.2.1 ||| ((1 : Int32) <<< (v4 &&& 31))), (s1.2.2.1 + 1), v5)))
noncomputable def f_X8_arrange (σ : Sg) (i0 : Int32) (i1 : Int32) (k2 : Nat) : Option (Sg) := (lo (f_X8_arrange_L8 i1 k2) (i0, (0 : Int32), (0 : Int32), σ)).bind fun e8 => some e8
set_option maxRecDepth 100000 in
set_option maxHeartbeats 4000000 in
theorem c_X8_arrange {l : Launch} {D : va_G} {cA ρ : Nat → Nat} {σ : Sg} {τ : Tg} {i0 : Int32} {i1 : Int32} {k2 : Nat} (hI : Inj ρ) (hk2 : (kd k2).1 = 1) (hn2 : k2 < 97) {r : Sg} (h : f_X8_arrange σ i0 i1 k2 = some r) : Ct l yX8_arrange cX8_arrange 8 none 2 45 D cA ρ (Aw ρ) [.int i0, .int i1, .ref (ρ k2)] σ τ none r τ := by
  refine Ct_of (by decide +kernel) (Nat.le_of_ble_eq_true rfl) (fun p e s m args below meth c C => ?_)
  have C : Ctx p l s m args meth c cX8_arrange RX8 8 none D cA ρ (Aw ρ) := C
  have hW : Wr ρ (Aw ρ) := ⟨hI, fun k hk => ⟨k, hk, rfl⟩⟩
  unfold f_X8_arrange at h
  refine Y_sub [0, 1, 2] (lv' := [(0, .int i0), (1, .int i1), (2, .ref (ρ k2))]) rfl ?_
  refine Y_iload_n C (pc := 0) 0 0 rfl rfl dX8_arrange_0 ?_
  refine Y_istore_n C (pc := 1) (lv' := [(3, .int i0), (0, .int i0), (1, .int i1), (2, .ref (ρ k2))]) 3 rfl (by decide) rfl dX8_arrange_1 ?_
  refine Y_iconst C (pc := 2) (v := (0 : Int32)) (by decide) dX8_arrange_2 ?_
  refine Y_istore C (pc := 3) (lv' := [(4, .int (0 : Int32)), (3, .int i0), (0, .int i0), (1, .int i1), (2, .ref (ρ k2))]) (by decide) rfl dX8_arrange_3 ?_
  refine Y_iconst C (pc := 5) (v := (0 : Int32)) (by decide) dX8_arrange_5 ?_
  refine Y_istore C (pc := 6) (lv' := [(5, .int (0 : Int32)), (4, .int (0 : Int32)), (3, .int i0), (0, .int i0), (1, .int i1), (2, .ref (ρ k2))]) (by decide) rfl dX8_arrange_6 ?_
  obtain ⟨e8, he8, h⟩ := Option.bind_eq_some_iff.mp h
  refine Y_sub [4, 5, 2, 1, 0] (lv' := [(1, .int i1), (2, .ref (ρ k2)), (3, .int i0), (4, .int (0 : Int32)), (5, .int (0 : Int32))]) rfl ?_
  refine lo_rule (f := (f_X8_arrange_L8 i1 k2)) (YS := fun s1 => Y p l e (Rm 2 45) s m args below meth c 8 D cA ρ (Aw ρ) 0 0 (MQ below (QC D cA ρ (Aw ρ) none r τ) args s 0 0 (Aw ρ)) s1.2.2.2 τ 8 [(1, .int i1), (2, .ref (ρ k2)), (3, .int s1.1), (4, .int s1.2.1), (5, .int s1.2.2.1)] []) (YE := fun e8 => Y p l e (Rm 2 45) s m args below meth c 8 D cA ρ (Aw ρ) 0 0 (MQ below (QC D cA ρ (Aw ρ) none r τ) args s 0 0 (Aw ρ)) e8 τ 65 [] []) ?_ he8 ?_
  · intro s1 x h hLp hE
    unfold f_X8_arrange_L8 at h
    refine Y_iload C (pc := 8) 4 rfl dX8_arrange_8 ?_
    refine Y_iload_n C (pc := 10) 1 0 rfl rfl dX8_arrange_10 ?_
    refine Y_icmp_ge C (pc := 11) (tgt := 65) dX8_arrange_11 (by decide) (fun c7 => ?_) (fun c7 => ?_)
    · rw [if_pos c7] at h
      have h := Option.some.inj h
      exact Y_sub [] rfl (hE _ h.symm)
    · rw [if_neg c7] at h
      refine Y_iload_n C (pc := 14) 1 0 rfl rfl dX8_arrange_14 ?_
      refine Y_iconst C (pc := 15) (v := (1 : Int32)) (by decide) dX8_arrange_15 ?_
      refine Y_isub C (pc := 16) dX8_arrange_16 ?_
      refine Y_iload C (pc := 17) 4 rfl dX8_arrange_17 ?_
      refine Y_isub C (pc := 19) dX8_arrange_19 ?_
      obtain ⟨v2, hv2, h⟩ := Option.bind_eq_some_iff.mp h
      refine Y_callS C [.int ((i1 - (1 : Int32)) - s1.2.2.1)] [] [.int v2] (c_X8_factorial  hv2) (fun _ h => h.elim) q_cw_yX8_factorial q_ml_RX8_126 q_st_yX8_factorial ⟨⟨Nat.le_of_ble_eq_true rfl, Nat.le_of_ble_eq_true rfl⟩, ⟨Nat.zero_le _, Nat.zero_le _⟩, Nat.le_of_ble_eq_true rfl⟩ rfl rfl rfl dX8_arrange_20 ?_
      refine Y_istore C (pc := 23) (lv' := [(6, .int v2), (1, .int i1), (2, .ref (ρ k2)), (3, .int s1.1), (4, .int s1.2.1), (5, .int s1.2.2.1)]) (by decide) rfl dX8_arrange_23 ?_
      refine Y_iload C (pc := 25) 4 rfl dX8_arrange_25 ?_
      refine Y_iload_n C (pc := 27) 1 1 rfl rfl dX8_arrange_27 ?_
      refine Y_iload_n C (pc := 28) 3 3 rfl rfl dX8_arrange_28 ?_
      refine Y_iload C (pc := 29) 0 rfl dX8_arrange_29 ?_
      obtain ⟨v3, hv3, h⟩ := Option.bind_eq_some_iff.mp h
      refine Y_idiv C (pc := 31) hv3 dX8_arrange_31 ?_
      obtain ⟨v4, hv4, h⟩ := Option.bind_eq_some_iff.mp h
      refine Y_callS C [.int s1.2.1, .int i1, .int v3] [] [.int v4] (c_X8_freeLocation  hv4) (fun _ h => h.elim) q_cw_yX8_freeLocation q_ml_RX8_338 q_st_yX8_freeLocation ⟨⟨Nat.le_of_ble_eq_true rfl, Nat.le_of_ble_eq_true rfl⟩, ⟨Nat.zero_le _, Nat.zero_le _⟩, Nat.le_of_ble_eq_true rfl⟩ rfl rfl rfl dX8_arrange_32 ?_
      refine Y_istore C (pc := 35) (lv' := [(7, .int v4), (6, .int v2), (1, .int i1), (2, .ref (ρ k2)), (3, .int s1.1), (4, .int s1.2.1), (5, .int s1.2.2.1)]) (by decide) rfl dX8_arrange_35 ?_
      refine Y_aload_n C (pc := 37) 2 3 rfl rfl dX8_arrange_37 ?_
      refine Y_iload C (pc := 38) 6 rfl dX8_arrange_38 ?_
      refine Y_iload C (pc := 40) 0 rfl dX8_arrange_40 ?_
      obtain ⟨v5, hv5, h⟩ := Option.bind_eq_some_iff.mp h
      refine Y_callS C [.ref (ρ k2), .int s1.2.2.1, .int v4] [] [] (c_X8_setItem hI hk2 hn2 hv5) (fun _ h => h) q_cw_yX8_setItem q_ml_RX8_187 q_st_yX8_setItem ⟨⟨Nat.le_of_ble_eq_true rfl, Nat.le_of_ble_eq_true rfl⟩, ⟨Nat.zero_le _, Nat.zero_le _⟩, Nat.le_of_ble_eq_true rfl⟩ rfl rfl rfl dX8_arrange_42 ?_
      refine Y_iload C (pc := 45) 5 rfl dX8_arrange_45 ?_
      refine Y_iconst C (pc := 47) (v := (1 : Int32)) (by decide) dX8_arrange_47 ?_
      refine Y_iload C (pc := 48) 0 rfl dX8_arrange_48 ?_
      refine Y_ishl C (pc := 50) dX8_arrange_50 ?_
      refine Y_ior C (pc := 51) dX8_arrange_51 ?_
      refine Y_istore C (pc := 52) (lv' := [(4, .int (s1.2.1 ||| ((1 : Int32) <<< (v4 &&& 31)))), (7, .int v4), (6, .int v2), (1, .int i1), (2, .ref (ρ k2)), (3, .int s1.1), (5, .int s1.2.2.1)]) (by decide) rfl dX8_arrange_52 ?_
      refine Y_iload_n C (pc := 54) 3 5 rfl rfl dX8_arrange_54 ?_
      refine Y_iload C (pc := 55) 2 rfl dX8_arrange_55 ?_
      obtain ⟨v6, hv6, h⟩ := Option.bind_eq_some_iff.mp h
      refine Y_irem C (pc := 57) hv6 dX8_arrange_57 ?_
      refine Y_istore_n C (pc := 58) (lv' := [(3, .int v6), (4, .int (s1.2.1 ||| ((1 : Int32) <<< (v4 &&& 31)))), (7, .int v4), (6, .int v2), (1, .int i1), (2, .ref (ρ k2)), (5, .int s1.2.2.1)]) 3 rfl (by decide) rfl dX8_arrange_58 ?_
      refine Y_iinc C (pc := 59) (v := (s1.2.2.1 + 1)) (lv' := [(5, .int (s1.2.2.1 + 1)), (3, .int v6), (4, .int (s1.2.1 ||| ((1 : Int32) <<< (v4 &&& 31)))), (7, .int v4), (6, .int v2), (1, .int i1), (2, .ref (ρ k2))]) 6 rfl (congrArg (fun z => s1.2.2.1 + z) (by decide : Int32.ofInt (1) = (1))) (by decide) rfl dX8_arrange_59 ?_
      refine Y_goto C (pc := 62) (tgt := 8) dX8_arrange_62 (by decide) ?_
      have h := Option.some.inj h
      exact Y_sub [5, 6, 1, 2, 0] rfl (hLp _ h.symm)
  · cases h
    exact Y_vret C dX8_arrange_65

noncomputable def f_X8_number (σ : Sg) (k0 : Nat) : Option (Int32) := (f_X8_numberOf σ (((k0 + 1) + 4)) ((σ (k0 + 1) 0))).bind fun v1 => some v1
set_option maxRecDepth 100000 in
set_option maxHeartbeats 4000000 in
theorem c_X8_number {l : Launch} {D : va_G} {cA ρ : Nat → Nat} {σ : Sg} {τ : Tg} {k0 : Nat} (hk0 : kd k0 = (0, 8)) {r : Int32} (h : f_X8_number σ k0 = some r) : Ct l yX8_number cX8_number 1 (some .int) 3 66 D cA ρ A0 [.ref (ρ k0)] σ τ (some (.int r)) σ τ := by
  refine Ct_of (by decide +kernel) (Nat.le_of_ble_eq_true rfl) (fun p e s m args below meth c C => ?_)
  have C : Ctx p l s m args meth c cX8_number RX8 1 (some .int) D cA ρ A0 := C
  unfold f_X8_number at h
  refine Y_sub [0] (lv' := [(0, .ref (ρ k0))]) rfl ?_
  refine Y_aload_n C (pc := 0) 0 0 rfl rfl dX8_number_0 ?_
  refine Y_getR C (pc := 1) hk0 q_fi_RX8_12 (by decide) dX8_number_1 ?_
  refine Y_getR C (pc := 4) (q_kr_8_0 hk0) q_fi_RX8_116 (by decide) dX8_number_4 ?_
  refine Y_aload_n C (pc := 7) 0 0 rfl rfl dX8_number_7 ?_
  refine Y_getR C (pc := 8) hk0 q_fi_RX8_12 (by decide) dX8_number_8 ?_
  refine Y_getI C (pc := 11) (q_kr_8_0 hk0) q_fi_RX8_69 dX8_number_11 ?_
  obtain ⟨v1, hv1, h⟩ := Option.bind_eq_some_iff.mp h
  refine Y_callS C [.ref (ρ ((k0 + 1) + 4)), .int (σ (k0 + 1) 0)] [] [.int v1] (c_X8_numberOf (q_kr_6_4 (q_kr_8_0 hk0)) hv1) (fun _ h => h.elim) q_cw_yX8_numberOf q_ml_RX8_139 q_st_yX8_numberOf ⟨⟨Nat.le_of_ble_eq_true rfl, Nat.le_of_ble_eq_true rfl⟩, ⟨Nat.zero_le _, Nat.zero_le _⟩, Nat.le_of_ble_eq_true rfl⟩ rfl rfl rfl dX8_number_14 ?_
  cases h
  exact Y_iret C dX8_number_17

noncomputable def f_X8_bestExchange (σ : Sg) (k0 : Nat) : Option (Int32) := (f_X6_bestPair σ (k0 + 1)).bind fun v1 => some v1
set_option maxRecDepth 100000 in
set_option maxHeartbeats 4000000 in
theorem c_X8_bestExchange {l : Launch} {D : va_G} {cA ρ : Nat → Nat} {σ : Sg} {τ : Tg} {k0 : Nat} (hk0 : kd k0 = (0, 8)) {r : Int32} (h : f_X8_bestExchange σ k0 = some r) : Ct l yX8_bestExchange cX8_bestExchange 1 (some .int) 3 76 D cA ρ A0 [.ref (ρ k0)] σ τ (some (.int r)) σ τ := by
  refine Ct_of (by decide +kernel) (Nat.le_of_ble_eq_true rfl) (fun p e s m args below meth c C => ?_)
  have C : Ctx p l s m args meth c cX8_bestExchange RX8 1 (some .int) D cA ρ A0 := C
  unfold f_X8_bestExchange at h
  refine Y_sub [0] (lv' := [(0, .ref (ρ k0))]) rfl ?_
  refine Y_aload_n C (pc := 0) 0 0 rfl rfl dX8_bestExchange_0 ?_
  refine Y_getR C (pc := 1) hk0 q_fi_RX8_12 (by decide) dX8_bestExchange_1 ?_
  obtain ⟨v1, hv1, h⟩ := Option.bind_eq_some_iff.mp h
  refine Y_callV C [] [] [.int v1] (q_kr_8_0 hk0) rfl rfl (c_X6_bestPair (q_kr_8_0 hk0) hv1) (fun _ h => h.elim) q_cw_yX6_bestPair q_ml_RX8_148 ⟨q_im_yX6_bestPair, q_se_yX6_bestPair⟩ ⟨⟨Nat.le_of_ble_eq_true rfl, Nat.le_of_ble_eq_true rfl⟩, ⟨Nat.zero_le _, Nat.zero_le _⟩, Nat.le_of_ble_eq_true rfl⟩ rfl rfl rfl dX8_bestExchange_4 ?_
  cases h
  exact Y_iret C dX8_bestExchange_7

noncomputable def f_X8_descend_L15 (k0 : Nat) : (Int32 × Int32 × Sg) → Option ((Int32 × Int32 × Sg) ⊕ ((Int32 × Sg) ⊕ (Int32 × Sg))) := fun s2 => if (720 : Int32) ≤ s2.2.1 then (some (.inr (.inr (s2.1, s2.2.2)))) else ((f_X6_bestPair s2.2.2 (k0 + 1)).bind fun v3 => if v3 = (-1 : Int32) then (some (.inr (.inr (s2.1, s2.2.2)))) else ((dv v3 (10 : Int32)).bind fun v4 => (rm v3 (10 : Int32)).bind fun v5 => (f_X6_gainOf s2.2.2 (k0 + 1) (((k0 + 1) + 4)) v4 v5).bind fun v6 => if (0 : Int32) < v6 then ((dv v3 (10 : Int32)).bind fun v7 => (rm v3 (10 : Int32)).bind fun v8 => (f_X8_swap s2.2.2 (((k0 + 1) + 4)) v7 v8).bind fun v9 => some (.inl ((s2.1 + 1), (s2.2.1 + 1), v9))) else (some (.inr (.inl (s2.1, s2.2.2))))))
noncomputable def f_X8_descend (σ : Sg) (k0 : Nat) : Option (Int32 × Sg) := (f_X2_push σ (k0 + 7) ((k0 + 1))).bind fun v1 => (lo (f_X8_descend_L15 k0) ((0 : Int32), (0 : Int32), v1)).bind (Sum.elim (fun e14 => some (e14.1, e14.2)) (fun e15 => some (e15.1, e15.2)))
set_option maxRecDepth 100000 in
set_option maxHeartbeats 4000000 in
theorem c_X8_descend {l : Launch} {D : va_G} {cA ρ : Nat → Nat} {σ : Sg} {τ : Tg} {k0 : Nat} (hI : Inj ρ) (hk0 : kd k0 = (0, 8)) {r : Int32 × Sg} (h : f_X8_descend σ k0 = some r) : Ct l yX8_descend cX8_descend 4 (some .int) 3 76 D cA ρ (Aw ρ) [.ref (ρ k0)] σ τ (some (.int r.1)) r.2 τ := by
  refine Ct_of (by decide +kernel) (Nat.le_of_ble_eq_true rfl) (fun p e s m args below meth c C => ?_)
  have C : Ctx p l s m args meth c cX8_descend RX8 4 (some .int) D cA ρ (Aw ρ) := C
  have hW : Wr ρ (Aw ρ) := ⟨hI, fun k hk => ⟨k, hk, rfl⟩⟩
  unfold f_X8_descend at h
  refine Y_sub [0] (lv' := [(0, .ref (ρ k0))]) rfl ?_
  refine Y_aload_n C (pc := 0) 0 0 rfl rfl dX8_descend_0 ?_
  refine Y_getR C (pc := 1) hk0 q_fi_RX8_19 (by decide) dX8_descend_1 ?_
  refine Y_aload_n C (pc := 4) 0 0 rfl rfl dX8_descend_4 ?_
  refine Y_getR C (pc := 5) hk0 q_fi_RX8_12 (by decide) dX8_descend_5 ?_
  obtain ⟨v1, hv1, h⟩ := Option.bind_eq_some_iff.mp h
  refine Y_callV C [.ref (ρ (k0 + 1))] [] [] (q_kr_8_1 hk0) rfl rfl (c_X2_push hI (q_kr_8_1 hk0) (q_kr_8_0 hk0) hv1) (fun _ h => h) q_cw_yX2_push q_ml_RX8_73 ⟨q_im_yX2_push, q_se_yX2_push⟩ ⟨⟨Nat.le_of_ble_eq_true rfl, Nat.le_of_ble_eq_true rfl⟩, ⟨Nat.zero_le _, Nat.zero_le _⟩, Nat.le_of_ble_eq_true rfl⟩ rfl rfl rfl dX8_descend_8 ?_
  refine Y_iconst C (pc := 11) (v := (0 : Int32)) (by decide) dX8_descend_11 ?_
  refine Y_istore_n C (pc := 12) (lv' := [(1, .int (0 : Int32)), (0, .ref (ρ k0))]) 1 rfl (by decide) rfl dX8_descend_12 ?_
  refine Y_iconst C (pc := 13) (v := (0 : Int32)) (by decide) dX8_descend_13 ?_
  refine Y_istore_n C (pc := 14) (lv' := [(2, .int (0 : Int32)), (1, .int (0 : Int32)), (0, .ref (ρ k0))]) 2 rfl (by decide) rfl dX8_descend_14 ?_
  obtain ⟨e13, he13, h⟩ := Option.bind_eq_some_iff.mp h
  refine Y_sub [2, 1, 0] (lv' := [(0, .ref (ρ k0)), (1, .int (0 : Int32)), (2, .int (0 : Int32))]) rfl ?_
  refine lo_rule (f := (f_X8_descend_L15 k0)) (YS := fun s2 => Y p l e (Rm 3 76) s m args below meth c 4 D cA ρ (Aw ρ) 0 0 (MQ below (QC D cA ρ (Aw ρ) (some (.int r.1)) r.2 τ) args s 0 0 (Aw ρ)) s2.2.2 τ 15 [(0, .ref (ρ k0)), (1, .int s2.1), (2, .int s2.2.1)] []) (YE := fun e13 => (∀ e14, e13 = (.inl e14) → Y p l e (Rm 3 76) s m args below meth c 4 D cA ρ (Aw ρ) 0 0 (MQ below (QC D cA ρ (Aw ρ) (some (.int r.1)) r.2 τ) args s 0 0 (Aw ρ)) e14.2 τ 60 [(1, .int e14.1)] []) ∧ (∀ e15, e13 = (.inr e15) → Y p l e (Rm 3 76) s m args below meth c 4 D cA ρ (Aw ρ) 0 0 (MQ below (QC D cA ρ (Aw ρ) (some (.int r.1)) r.2 τ) args s 0 0 (Aw ρ)) e15.2 τ 90 [(1, .int e15.1)] [])) ?_ he13 ?_
  · intro s2 x h hLp hE
    have hE0 : ∀ y, x = .inr (.inl y) → _ := fun y q => (hE _ q).1 y rfl
    have hE1 : ∀ y, x = .inr (.inr y) → _ := fun y q => (hE _ q).2 y rfl
    unfold f_X8_descend_L15 at h
    refine Y_iload_n C (pc := 15) 2 2 rfl rfl dX8_descend_15 ?_
    refine Y_sipush C (pc := 16) (v := (720 : Int32)) (by decide) dX8_descend_16 ?_
    refine Y_icmp_ge C (pc := 19) (tgt := 90) dX8_descend_19 (by decide) (fun c12 => ?_) (fun c12 => ?_)
    · rw [if_pos c12] at h
      have h := Option.some.inj h
      exact Y_sub [1] rfl (hE1 _ h.symm)
    · rw [if_neg c12] at h
      refine Y_aload_n C (pc := 22) 0 0 rfl rfl dX8_descend_22 ?_
      refine Y_getR C (pc := 23) hk0 q_fi_RX8_12 (by decide) dX8_descend_23 ?_
      obtain ⟨v3, hv3, h⟩ := Option.bind_eq_some_iff.mp h
      refine Y_callV C [] [] [.int v3] (q_kr_8_0 hk0) rfl rfl (c_X6_bestPair (q_kr_8_0 hk0) hv3) (fun _ h => h.elim) q_cw_yX6_bestPair q_ml_RX8_148 ⟨q_im_yX6_bestPair, q_se_yX6_bestPair⟩ ⟨⟨Nat.le_of_ble_eq_true rfl, Nat.le_of_ble_eq_true rfl⟩, ⟨Nat.zero_le _, Nat.zero_le _⟩, Nat.le_of_ble_eq_true rfl⟩ rfl rfl rfl dX8_descend_26 ?_
      refine Y_istore_n C (pc := 29) (lv' := [(3, .int v3), (0, .ref (ρ k0)), (1, .int s2.1), (2, .int s2.2.1)]) 3 rfl (by decide) rfl dX8_descend_29 ?_
      refine Y_iload_n C (pc := 30) 3 0 rfl rfl dX8_descend_30 ?_
      refine Y_iconst C (pc := 31) (v := (-1 : Int32)) (by decide) dX8_descend_31 ?_
      refine Y_icmp_eq C (pc := 32) (tgt := 90) dX8_descend_32 (by decide) (fun c11 => ?_) (fun c11 => ?_)
      · rw [if_pos c11] at h
        have h := Option.some.inj h
        exact Y_sub [2] rfl (hE1 _ h.symm)
      · rw [if_neg c11] at h
        refine Y_aload_n C (pc := 35) 0 1 rfl rfl dX8_descend_35 ?_
        refine Y_getR C (pc := 36) hk0 q_fi_RX8_12 (by decide) dX8_descend_36 ?_
        refine Y_aload_n C (pc := 39) 0 1 rfl rfl dX8_descend_39 ?_
        refine Y_getR C (pc := 40) hk0 q_fi_RX8_12 (by decide) dX8_descend_40 ?_
        refine Y_getR C (pc := 43) (q_kr_8_0 hk0) q_fi_RX8_116 (by decide) dX8_descend_43 ?_
        refine Y_iload_n C (pc := 46) 3 0 rfl rfl dX8_descend_46 ?_
        refine Y_bipush C (pc := 47) (v := (10 : Int32)) (by decide) dX8_descend_47 ?_
        obtain ⟨v4, hv4, h⟩ := Option.bind_eq_some_iff.mp h
        refine Y_idiv C (pc := 49) hv4 dX8_descend_49 ?_
        refine Y_iload_n C (pc := 50) 3 0 rfl rfl dX8_descend_50 ?_
        refine Y_bipush C (pc := 51) (v := (10 : Int32)) (by decide) dX8_descend_51 ?_
        obtain ⟨v5, hv5, h⟩ := Option.bind_eq_some_iff.mp h
        refine Y_irem C (pc := 53) hv5 dX8_descend_53 ?_
        obtain ⟨v6, hv6, h⟩ := Option.bind_eq_some_iff.mp h
        refine Y_callV C [.ref (ρ ((k0 + 1) + 4)), .int v4, .int v5] [] [.int v6] (q_kr_8_0 hk0) rfl rfl (c_X6_gainOf (q_kr_8_0 hk0) (q_kr_6_4 (q_kr_8_0 hk0)) hv6) (fun _ h => h.elim) q_cw_yX6_gainOf q_ml_RX8_142 ⟨q_im_yX6_gainOf, q_se_yX6_gainOf⟩ ⟨⟨Nat.le_of_ble_eq_true rfl, Nat.le_of_ble_eq_true rfl⟩, ⟨Nat.zero_le _, Nat.zero_le _⟩, Nat.le_of_ble_eq_true rfl⟩ rfl rfl rfl dX8_descend_54 ?_
        refine Y_if_gt C (pc := 57) (tgt := 63) dX8_descend_57 (by decide) (fun c10 => ?_) (fun c10 => ?_)
        · rw [if_pos c10] at h
          refine Y_aload_n C (pc := 63) 0 1 rfl rfl dX8_descend_63 ?_
          refine Y_getR C (pc := 64) hk0 q_fi_RX8_12 (by decide) dX8_descend_64 ?_
          refine Y_getR C (pc := 67) (q_kr_8_0 hk0) q_fi_RX8_116 (by decide) dX8_descend_67 ?_
          refine Y_iload_n C (pc := 70) 3 0 rfl rfl dX8_descend_70 ?_
          refine Y_bipush C (pc := 71) (v := (10 : Int32)) (by decide) dX8_descend_71 ?_
          obtain ⟨v7, hv7, h⟩ := Option.bind_eq_some_iff.mp h
          refine Y_idiv C (pc := 73) hv7 dX8_descend_73 ?_
          refine Y_iload_n C (pc := 74) 3 0 rfl rfl dX8_descend_74 ?_
          refine Y_bipush C (pc := 75) (v := (10 : Int32)) (by decide) dX8_descend_75 ?_
          obtain ⟨v8, hv8, h⟩ := Option.bind_eq_some_iff.mp h
          refine Y_irem C (pc := 77) hv8 dX8_descend_77 ?_
          obtain ⟨v9, hv9, h⟩ := Option.bind_eq_some_iff.mp h
          refine Y_callS C [.ref (ρ ((k0 + 1) + 4)), .int v7, .int v8] [] [] (c_X8_swap hI (q_kr_6_4 (q_kr_8_0 hk0)) (q_lr_6_4 (q_kr_8_0 hk0)) hv9) (fun _ h => h) q_cw_yX8_swap q_ml_RX8_145 q_st_yX8_swap ⟨⟨Nat.le_of_ble_eq_true rfl, Nat.le_of_ble_eq_true rfl⟩, ⟨Nat.zero_le _, Nat.zero_le _⟩, Nat.le_of_ble_eq_true rfl⟩ rfl rfl rfl dX8_descend_78 ?_
          refine Y_iinc C (pc := 81) (v := (s2.1 + 1)) (lv' := [(1, .int (s2.1 + 1)), (3, .int v3), (0, .ref (ρ k0)), (2, .int s2.2.1)]) 2 rfl (congrArg (fun z => s2.1 + z) (by decide : Int32.ofInt (1) = (1))) (by decide) rfl dX8_descend_81 ?_
          refine Y_iinc C (pc := 84) (v := (s2.2.1 + 1)) (lv' := [(2, .int (s2.2.1 + 1)), (1, .int (s2.1 + 1)), (3, .int v3), (0, .ref (ρ k0))]) 3 rfl (congrArg (fun z => s2.2.1 + z) (by decide : Int32.ofInt (1) = (1))) (by decide) rfl dX8_descend_84 ?_
          refine Y_goto C (pc := 87) (tgt := 15) dX8_descend_87 (by decide) ?_
          have h := Option.some.inj h
          exact Y_sub [3, 1, 0] rfl (hLp _ h.symm)
        · rw [if_neg c10] at h
          have h := Option.some.inj h
          exact Y_sub [2] rfl (hE0 _ h.symm)
  refine ⟨?_, ?_⟩
  · intro e14 q
    subst q
    simp only [Sum.elim_inl, Sum.elim_inr] at h
    refine Y_goto C (pc := 60) (tgt := 90) dX8_descend_60 (by decide) ?_
    refine Y_iload_n C (pc := 90) 1 0 rfl rfl dX8_descend_90 ?_
    cases h
    exact Y_iret C dX8_descend_91
  · intro e15 q
    subst q
    simp only [Sum.elim_inl, Sum.elim_inr] at h
    refine Y_iload_n C (pc := 90) 1 0 rfl rfl dX8_descend_90 ?_
    cases h
    exact Y_iret C dX8_descend_91

