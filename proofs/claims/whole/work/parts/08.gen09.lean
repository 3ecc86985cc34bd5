set_option maxRecDepth 100000 in
set_option maxHeartbeats 4000000 in
theorem c_X9_bestExchange {l : Launch} {D : va_G} {cA ρ : Nat → Nat} {σ : Sg} {τ : Tg} {k0 : Nat} (hI : Inj ρ) (hk0 : kd k0 = (0, 9)) {r : Int32 × Sg} (h : f_X9_bestExchange σ k0 = some r) : Ct l yX9_bestExchange cX9_bestExchange 1 (some .int) 5 117 D cA ρ (Aw ρ) [.ref (ρ k0)] σ τ (some (.int r.1)) r.2 τ := by
  refine Ct_of (by decide +kernel) (Nat.le_of_ble_eq_true rfl) (fun p e s m args below meth c C => ?_)
  have C : Ctx p l s m args meth c cX9_bestExchange RX9 1 (some .int) D cA ρ (Aw ρ) := C
  have hW : Wr ρ (Aw ρ) := ⟨hI, fun k hk => ⟨k, hk, rfl⟩⟩
  unfold f_X9_bestExchange at h
  refine Y_sub [0] (lv' := [(0, .ref (ρ k0))]) rfl ?_
  refine Y_aload_n C (pc := 0) 0 0 rfl rfl dX9_bestExchange_0 ?_
  obtain ⟨v1, hv1, h⟩ := Option.bind_eq_some_iff.mp h
  refine Y_callV C [] [] [] hk0 rfl rfl (c_X9_takes hI hk0 hv1) (fun _ h => h) q_cw_yX9_takes q_ml_RX9_129 ⟨q_im_yX9_takes, q_se_yX9_takes⟩ ⟨⟨Nat.le_of_ble_eq_true rfl, Nat.le_of_ble_eq_true rfl⟩, ⟨Nat.zero_le _, Nat.zero_le _⟩, Nat.le_of_ble_eq_true rfl⟩ rfl rfl rfl dX9_bestExchange_1 ?_
  refine Y_aload_n C (pc := 4) 0 0 rfl rfl dX9_bestExchange_4 ?_
  refine Y_aload_n C (pc := 5) 0 0 rfl rfl dX9_bestExchange_5 ?_
  obtain ⟨v2, hv2, h⟩ := Option.bind_eq_some_iff.mp h
  refine Y_callV C [] [.ref (ρ k0)] [.int v2.1, .ref (ρ k0)] hk0 rfl rfl (c_X9_bestOf hI hk0 hv2) (fun _ h => h) q_cw_yX9_bestOf q_ml_RX9_158 ⟨q_im_yX9_bestOf, q_se_yX9_bestOf⟩ ⟨⟨Nat.le_of_ble_eq_true rfl, Nat.le_of_ble_eq_true rfl⟩, ⟨Nat.zero_le _, Nat.zero_le _⟩, Nat.le_of_ble_eq_true rfl⟩ rfl rfl rfl dX9_bestExchange_6 ?_
  obtain ⟨v3, hv3, h⟩ := Option.bind_eq_some_iff.mp h
  refine Y_callV C [.int v2.1] [] [.int v3.1] hk0 rfl rfl (c_X9_tells hI hk0 hv3) (fun _ h => h) q_cw_yX9_tells q_ml_RX9_82 ⟨q_im_yX9_tells, q_se_yX9_tells⟩ ⟨⟨Nat.le_of_ble_eq_true rfl, Nat.le_of_ble_eq_true rfl⟩, ⟨Nat.zero_le _, Nat.zero_le _⟩, Nat.le_of_ble_eq_true rfl⟩ rfl rfl rfl dX9_bestExchange_9 ?_
  cases h
  exact Y_iret C dX9_bestExchange_12

set_option maxRecDepth 100000 in
set_option maxHeartbeats 4000000 in
theorem c_X9_isLocal {l : Launch} {D : va_G} {cA ρ : Nat → Nat} {σ : Sg} {τ : Tg} {k0 : Nat} (hI : Inj ρ) (hk0 : kd k0 = (0, 9)) {r : Int32 × Sg} (h : f_X9_isLocal σ k0 = some r) : Ct l yX9_isLocal cX9_isLocal 2 (some .boolean) 5 117 D cA ρ (Aw ρ) [.ref (ρ k0)] σ τ (some (.int r.1)) r.2 τ := by
  refine Ct_of (by decide +kernel) (Nat.le_of_ble_eq_true rfl) (fun p e s m args below meth c C => ?_)
  have C : Ctx p l s m args meth c cX9_isLocal RX9 2 (some .boolean) D cA ρ (Aw ρ) := C
  have hW : Wr ρ (Aw ρ) := ⟨hI, fun k hk => ⟨k, hk, rfl⟩⟩
  unfold f_X9_isLocal at h
  refine Y_sub [0] (lv' := [(0, .ref (ρ k0))]) rfl ?_
  have hJ25 : ∀ (sj2 : Sg), f_X9_isLocal_J25 sj2 = some r → Y p l e (Rm 5 117) s m args below meth c 2 D cA ρ (Aw ρ) 0 0 (MQ below (QC D cA ρ (Aw ρ) (some (.int r.1)) r.2 τ) args s 0 0 (Aw ρ)) sj2 τ 25 [] [] := by
    intro sj2 h
    unfold f_X9_isLocal_J25 at h
    refine Y_iconst C (pc := 25) (v := (1 : Int32)) (by decide) dX9_isLocal_25 ?_
    refine Y_goto C (pc := 26) (tgt := 30) dX9_isLocal_26 (by decide) ?_
    cases h
    exact Y_zret (x := (1 : Int32)) (by decide) C dX9_isLocal_30
  refine Y_aload_n C (pc := 0) 0 0 rfl rfl dX9_isLocal_0 ?_
  obtain ⟨v1, hv1, h⟩ := Option.bind_eq_some_iff.mp h
  refine Y_callV C [] [] [.int v1.1] hk0 rfl rfl (c_X9_bestOf hI hk0 hv1) (fun _ h => h) q_cw_yX9_bestOf q_ml_RX9_158 ⟨q_im_yX9_bestOf, q_se_yX9_bestOf⟩ ⟨⟨Nat.le_of_ble_eq_true rfl, Nat.le_of_ble_eq_true rfl⟩, ⟨Nat.zero_le _, Nat.zero_le _⟩, Nat.le_of_ble_eq_true rfl⟩ rfl rfl rfl dX9_isLocal_1 ?_
  refine Y_istore_n C (pc := 4) (lv' := [(1, .int v1.1), (0, .ref (ρ k0))]) 1 rfl (by decide) rfl dX9_isLocal_4 ?_
  refine Y_iload_n C (pc := 5) 1 0 rfl rfl dX9_isLocal_5 ?_
  refine Y_iconst C (pc := 6) (v := (-1 : Int32)) (by decide) dX9_isLocal_6 ?_
  refine Y_icmp_eq C (pc := 7) (tgt := 25) dX9_isLocal_7 (by decide) (fun c7 => ?_) (fun c7 => ?_)
  · rw [if_pos c7] at h
    exact Y_sub [] rfl (hJ25 _ h)
  · rw [if_neg c7] at h
    refine Y_aload_n C (pc := 10) 0 1 rfl rfl dX9_isLocal_10 ?_
    refine Y_iload_n C (pc := 11) 1 0 rfl rfl dX9_isLocal_11 ?_
    refine Y_bipush C (pc := 12) (v := (10 : Int32)) (by decide) dX9_isLocal_12 ?_
    obtain ⟨v3, hv3, h⟩ := Option.bind_eq_some_iff.mp h
    refine Y_idiv C (pc := 14) hv3 dX9_isLocal_14 ?_
    refine Y_iload_n C (pc := 15) 1 0 rfl rfl dX9_isLocal_15 ?_
    refine Y_bipush C (pc := 16) (v := (10 : Int32)) (by decide) dX9_isLocal_16 ?_
    obtain ⟨v4, hv4, h⟩ := Option.bind_eq_some_iff.mp h
    refine Y_irem C (pc := 18) hv4 dX9_isLocal_18 ?_
    obtain ⟨v5, hv5, h⟩ := Option.bind_eq_some_iff.mp h
    refine Y_callV C [.int v3, .int v4] [] [.int v5.1] hk0 rfl rfl (c_X9_gainOf hI hk0 hv5) (fun _ h => h) q_cw_yX9_gainOf q_ml_RX9_155 ⟨q_im_yX9_gainOf, q_se_yX9_gainOf⟩ ⟨⟨Nat.le_of_ble_eq_true rfl, Nat.le_of_ble_eq_true rfl⟩, ⟨Nat.zero_le _, Nat.zero_le _⟩, Nat.le_of_ble_eq_true rfl⟩ rfl rfl rfl dX9_isLocal_19 ?_
    refine Y_if_gt C (pc := 22) (tgt := 29) dX9_isLocal_22 (by decide) (fun c6 => ?_) (fun c6 => ?_)
    · rw [if_pos c6] at h
      refine Y_iconst C (pc := 29) (v := (0 : Int32)) (by decide) dX9_isLocal_29 ?_
      cases h
      exact Y_zret (x := (0 : Int32)) (by decide) C dX9_isLocal_30
    · rw [if_neg c6] at h
      exact Y_sub [] rfl (hJ25 _ h)

set_option maxRecDepth 100000 in
set_option maxHeartbeats 4000000 in
theorem c_X9_descend {l : Launch} {D : va_G} {cA ρ : Nat → Nat} {σ : Sg} {τ : Tg} {k0 : Nat} (hI : Inj ρ) (hk0 : kd k0 = (0, 9)) {r : Int32 × Sg} (h : f_X9_descend σ k0 = some r) : Ct l yX9_descend cX9_descend 3 (some .int) 6 138 D cA ρ (Aw ρ) [.ref (ρ k0)] σ τ (some (.int r.1)) r.2 τ := by
  refine Ct_of (by decide +kernel) (Nat.le_of_ble_eq_true rfl) (fun p e s m args below meth c C => ?_)
  have C : Ctx p l s m args meth c cX9_descend RX9 3 (some .int) D cA ρ (Aw ρ) := C
  have hW : Wr ρ (Aw ρ) := ⟨hI, fun k hk => ⟨k, hk, rfl⟩⟩
  unfold f_X9_descend at h
  refine Y_sub [0] (lv' := [(0, .ref (ρ k0))]) rfl ?_
  refine Y_aload_n C (pc := 0) 0 0 rfl rfl dX9_descend_0 ?_
  obtain ⟨v1, hv1, h⟩ := Option.bind_eq_some_iff.mp h
  refine Y_callV C [] [] [] hk0 rfl rfl (c_X9_hold hI hk0 hv1) (fun _ h => h) q_cw_yX9_hold q_ml_RX9_97 ⟨q_im_yX9_hold, q_se_yX9_hold⟩ ⟨⟨Nat.le_of_ble_eq_true rfl, Nat.le_of_ble_eq_true rfl⟩, ⟨Nat.zero_le _, Nat.zero_le _⟩, Nat.le_of_ble_eq_true rfl⟩ rfl rfl rfl dX9_descend_1 ?_
  refine Y_aload_n C (pc := 4) 0 0 rfl rfl dX9_descend_4 ?_
  obtain ⟨v2, hv2, h⟩ := Option.bind_eq_some_iff.mp h
  refine Y_callV C [] [] [] hk0 rfl rfl (c_X9_takes hI hk0 hv2) (fun _ h => h) q_cw_yX9_takes q_ml_RX9_129 ⟨q_im_yX9_takes, q_se_yX9_takes⟩ ⟨⟨Nat.le_of_ble_eq_true rfl, Nat.le_of_ble_eq_true rfl⟩, ⟨Nat.zero_le _, Nat.zero_le _⟩, Nat.le_of_ble_eq_true rfl⟩ rfl rfl rfl dX9_descend_5 ?_
  refine Y_iconst C (pc := 8) (v := (0 : Int32)) (by decide) dX9_descend_8 ?_
  refine Y_istore_n C (pc := 9) (lv' := [(1, .int (0 : Int32)), (0, .ref (ρ k0))]) 1 rfl (by decide) rfl dX9_descend_9 ?_
  obtain ⟨e10, he10, h⟩ := Option.bind_eq_some_iff.mp h
  refine Y_sub [1, 0] (lv' := [(0, .ref (ρ k0)), (1, .int (0 : Int32))]) rfl ?_
  refine lo_rule (f := (f_X9_descend_L10 k0)) (YS := fun s3 => Y p l e (Rm 6 138) s m args below meth c 3 D cA ρ (Aw ρ) 0 0 (MQ below (QC D cA ρ (Aw ρ) (some (.int r.1)) r.2 τ) args s 0 0 (Aw ρ)) s3.2 τ 10 [(0, .ref (ρ k0)), (1, .int s3.1)] []) (YE := fun e10 => Y p l e (Rm 6 138) s m args below meth c 3 D cA ρ (Aw ρ) 0 0 (MQ below (QC D cA ρ (Aw ρ) (some (.int r.1)) r.2 τ) args s 0 0 (Aw ρ)) e10.2 τ 40 [(0, .ref (ρ k0)), (1, .int e10.1)] []) ?_ he10 ?_
  · intro s3 x h hLp hE
    unfold f_X9_descend_L10 at h
    refine Y_aload_n C (pc := 10) 0 0 rfl rfl dX9_descend_10 ?_
    obtain ⟨v4, hv4, h⟩ := Option.bind_eq_some_iff.mp h
    refine Y_callV C [] [] [.int v4.1] hk0 rfl rfl (c_X9_isLocal hI hk0 hv4) (fun _ h => h) q_cw_yX9_isLocal q_ml_RX9_161 ⟨q_im_yX9_isLocal, q_se_yX9_isLocal⟩ ⟨⟨Nat.le_of_ble_eq_true rfl, Nat.le_of_ble_eq_true rfl⟩, ⟨Nat.zero_le _, Nat.zero_le _⟩, Nat.le_of_ble_eq_true rfl⟩ rfl rfl rfl dX9_descend_11 ?_
    refine Y_if_ne C (pc := 14) (tgt := 40) dX9_descend_14 (by decide) (fun c9 => ?_) (fun c9 => ?_)
    · rw [if_neg c9] at h
      have h := Option.some.inj h
      exact Y_sub [0, 1] rfl (hE _ h.symm)
    · rw [if_pos c9] at h
      refine Y_aload_n C (pc := 17) 0 0 rfl rfl dX9_descend_17 ?_
      obtain ⟨v5, hv5, h⟩ := Option.bind_eq_some_iff.mp h
      refine Y_callV C [] [] [.int v5.1] hk0 rfl rfl (c_X9_bestOf hI hk0 hv5) (fun _ h => h) q_cw_yX9_bestOf q_ml_RX9_158 ⟨q_im_yX9_bestOf, q_se_yX9_bestOf⟩ ⟨⟨Nat.le_of_ble_eq_true rfl, Nat.le_of_ble_eq_true rfl⟩, ⟨Nat.zero_le _, Nat.zero_le _⟩, Nat.le_of_ble_eq_true rfl⟩ rfl rfl rfl dX9_descend_18 ?_
      refine Y_istore_n C (pc := 21) (lv' := [(2, .int v5.1), (0, .ref (ρ k0)), (1, .int s3.1)]) 2 rfl (by decide) rfl dX9_descend_21 ?_
      refine Y_aload_n C (pc := 22) 0 1 rfl rfl dX9_descend_22 ?_
      refine Y_iload_n C (pc := 23) 2 0 rfl rfl dX9_descend_23 ?_
      refine Y_bipush C (pc := 24) (v := (10 : Int32)) (by decide) dX9_descend_24 ?_
      obtain ⟨v6, hv6, h⟩ := Option.bind_eq_some_iff.mp h
      refine Y_idiv C (pc := 26) hv6 dX9_descend_26 ?_
      refine Y_iload_n C (pc := 27) 2 0 rfl rfl dX9_descend_27 ?_
      refine Y_bipush C (pc := 28) (v := (10 : Int32)) (by decide) dX9_descend_28 ?_
      obtain ⟨v7, hv7, h⟩ := Option.bind_eq_some_iff.mp h
      refine Y_irem C (pc := 30) hv7 dX9_descend_30 ?_
      obtain ⟨v8, hv8, h⟩ := Option.bind_eq_some_iff.mp h
      refine Y_callV C [.int v6, .int v7] [] [] hk0 rfl rfl (c_X9_swaps hI hk0 hv8) (fun _ h => h) q_cw_yX9_swaps q_ml_RX9_115 ⟨q_im_yX9_swaps, q_se_yX9_swaps⟩ ⟨⟨Nat.le_of_ble_eq_true rfl, Nat.le_of_ble_eq_true rfl⟩, ⟨Nat.zero_le _, Nat.zero_le _⟩, Nat.le_of_ble_eq_true rfl⟩ rfl rfl rfl dX9_descend_31 ?_
      refine Y_iinc C (pc := 34) (v := (s3.1 + 1)) (lv' := [(1, .int (s3.1 + 1)), (2, .int v5.1), (0, .ref (ρ k0))]) 2 rfl (congrArg (fun z => s3.1 + z) (by decide : Int32.ofInt (1) = (1))) (by decide) rfl dX9_descend_34 ?_
      refine Y_goto C (pc := 37) (tgt := 10) dX9_descend_37 (by decide) ?_
      have h := Option.some.inj h
      exact Y_sub [2, 0] rfl (hLp _ h.symm)
  · refine Y_aload_n C (pc := 40) 0 0 rfl rfl dX9_descend_40 ?_
    obtain ⟨v11, hv11, h⟩ := Option.bind_eq_some_iff.mp h
    refine Y_callV C [] [] [] hk0 rfl rfl (c_X9_keeps hI hk0 hv11) (fun _ h => h) q_cw_yX9_keeps q_ml_RX9_149 ⟨q_im_yX9_keeps, q_se_yX9_keeps⟩ ⟨⟨Nat.le_of_ble_eq_true rfl, Nat.le_of_ble_eq_true rfl⟩, ⟨Nat.zero_le _, Nat.zero_le _⟩, Nat.le_of_ble_eq_true rfl⟩ rfl rfl rfl dX9_descend_41 ?_
    refine Y_aload_n C (pc := 44) 0 0 rfl rfl dX9_descend_44 ?_
    refine Y_iload_n C (pc := 45) 1 1 rfl rfl dX9_descend_45 ?_
    obtain ⟨v12, hv12, h⟩ := Option.bind_eq_some_iff.mp h
    refine Y_callV C [.int e10.1] [] [.int v12.1] hk0 rfl rfl (c_X9_ends hI hk0 hv12) (fun _ h => h) q_cw_yX9_ends q_ml_RX9_100 ⟨q_im_yX9_ends, q_se_yX9_ends⟩ ⟨⟨Nat.le_of_ble_eq_true rfl, Nat.le_of_ble_eq_true rfl⟩, ⟨Nat.zero_le _, Nat.zero_le _⟩, Nat.le_of_ble_eq_true rfl⟩ rfl rfl rfl dX9_descend_46 ?_
    cases h
    exact Y_iret C dX9_descend_49

set_option maxRecDepth 100000 in
set_option maxHeartbeats 4000000 in
theorem c_X9_within {l : Launch} {D : va_G} {cA ρ : Nat → Nat} {σ : Sg} {τ : Tg} {k0 : Nat} {i1 : Int32} (hI : Inj ρ) (hk0 : kd k0 = (0, 9)) {r : Int32 × Sg} (h : f_X9_within σ k0 i1 = some r) : Ct l yX9_within cX9_within 4 (some .int) 3 67 D cA ρ (Aw ρ) [.ref (ρ k0), .int i1] σ τ (some (.int r.1)) r.2 τ := by
  refine Ct_of (by decide +kernel) (Nat.le_of_ble_eq_true rfl) (fun p e s m args below meth c C => ?_)
  have C : Ctx p l s m args meth c cX9_within RX9 4 (some .int) D cA ρ (Aw ρ) := C
  have hW : Wr ρ (Aw ρ) := ⟨hI, fun k hk => ⟨k, hk, rfl⟩⟩
  unfold f_X9_within at h
  refine Y_sub [0, 1] (lv' := [(0, .ref (ρ k0)), (1, .int i1)]) rfl ?_
  refine Y_iconst C (pc := 0) (v := (0 : Int32)) (by decide) dX9_within_0 ?_
  refine Y_istore_n C (pc := 1) (lv' := [(2, .int (0 : Int32)), (0, .ref (ρ k0)), (1, .int i1)]) 2 rfl (by decide) rfl dX9_within_1 ?_
  refine Y_aload_n C (pc := 2) 0 1 rfl rfl dX9_within_2 ?_
  obtain ⟨v1, hv1, h⟩ := Option.bind_eq_some_iff.mp h
  refine Y_callV C [] [] [] hk0 rfl rfl (c_X9_firsts hI hk0 hv1) (fun _ h => h) q_cw_yX9_firsts q_ml_RX9_142 ⟨q_im_yX9_firsts, q_se_yX9_firsts⟩ ⟨⟨Nat.le_of_ble_eq_true rfl, Nat.le_of_ble_eq_true rfl⟩, ⟨Nat.zero_le _, Nat.zero_le _⟩, Nat.le_of_ble_eq_true rfl⟩ rfl rfl rfl dX9_within_3 ?_
  refine Y_iconst C (pc := 6) (v := (1 : Int32)) (by decide) dX9_within_6 ?_
  refine Y_istore_n C (pc := 7) (lv' := [(3, .int (1 : Int32)), (2, .int (0 : Int32)), (0, .ref (ρ k0)), (1, .int i1)]) 3 rfl (by decide) rfl dX9_within_7 ?_
  obtain ⟨e14, he14, h⟩ := Option.bind_eq_some_iff.mp h
  refine Y_sub [2, 3, 1, 0] (lv' := [(0, .ref (ρ k0)), (1, .int i1), (2, .int (0 : Int32)), (3, .int (1 : Int32))]) rfl ?_
  refine lo_rule (f := (f_X9_within_L8 k0 i1)) (YS := fun s2 => Y p l e (Rm 3 67) s m args below meth c 4 D cA ρ (Aw ρ) 0 0 (MQ below (QC D cA ρ (Aw ρ) (some (.int r.1)) r.2 τ) args s 0 0 (Aw ρ)) s2.2.2 τ 8 [(0, .ref (ρ k0)), (1, .int i1), (2, .int s2.1), (3, .int s2.2.1)] []) (YE := fun e14 => Y p l e (Rm 3 67) s m args below meth c 4 D cA ρ (Aw ρ) 0 0 (MQ below (QC D cA ρ (Aw ρ) (some (.int r.1)) r.2 τ) args s 0 0 (Aw ρ)) e14.2 τ 43 [(0, .ref (ρ k0)), (2, .int e14.1)] []) ?_ he14 ?_
  · intro s2 x h hLp hE
    unfold f_X9_within_L8 at h
    have hJ33 : ∀ (j6 : Int32) (j7 : Int32) (sj8 : Sg), f_X9_within_J33 k0 j6 j7 sj8 = some x → Y p l e (Rm 3 67) s m args below meth c 4 D cA ρ (Aw ρ) 0 0 (MQ below (QC D cA ρ (Aw ρ) (some (.int r.1)) r.2 τ) args s 0 0 (Aw ρ)) sj8 τ 33 [(0, .ref (ρ k0)), (1, .int i1)] [.int j6, .int j7] := by
      intro j6 j7 sj8 h
      unfold f_X9_within_J33 at h
      refine Y_iadd C (pc := 33) dX9_within_33 ?_
      refine Y_istore_n C (pc := 34) (lv' := [(2, .int (j7 + j6)), (0, .ref (ρ k0)), (1, .int i1)]) 2 rfl (by decide) rfl dX9_within_34 ?_
      refine Y_aload_n C (pc := 35) 0 1 rfl rfl dX9_within_35 ?_
      obtain ⟨v9, hv9, h⟩ := Option.bind_eq_some_iff.mp h
      refine Y_callV C [] [] [.int v9.1] hk0 rfl rfl (c_X9_goesOn hI hk0 hv9) (fun _ h => h) q_cw_yX9_goesOn q_ml_RX9_145 ⟨q_im_yX9_goesOn, q_se_yX9_goesOn⟩ ⟨⟨Nat.le_of_ble_eq_true rfl, Nat.le_of_ble_eq_true rfl⟩, ⟨Nat.zero_le _, Nat.zero_le _⟩, Nat.le_of_ble_eq_true rfl⟩ rfl rfl rfl dX9_within_36 ?_
      refine Y_istore_n C (pc := 39) (lv' := [(3, .int v9.1), (2, .int (j7 + j6)), (0, .ref (ρ k0)), (1, .int i1)]) 3 rfl (by decide) rfl dX9_within_39 ?_
      refine Y_goto C (pc := 40) (tgt := 8) dX9_within_40 (by decide) ?_
      have h := Option.some.inj h
      exact Y_sub [2, 3, 1, 0] rfl (hLp _ h.symm)
    have hJ32 : ∀ (j4 : Int32) (sj5 : Sg), f_X9_within_J32 k0 j4 sj5 = some x → Y p l e (Rm 3 67) s m args below meth c 4 D cA ρ (Aw ρ) 0 0 (MQ below (QC D cA ρ (Aw ρ) (some (.int r.1)) r.2 τ) args s 0 0 (Aw ρ)) sj5 τ 32 [(0, .ref (ρ k0)), (1, .int i1)] [.int j4] := by
      intro j4 sj5 h
      unfold f_X9_within_J32 at h
      refine Y_iconst C (pc := 32) (v := (0 : Int32)) (by decide) dX9_within_32 ?_
      exact Y_sub [0, 1] rfl (hJ33 _ _ _ h)
    refine Y_iload_n C (pc := 8) 3 3 rfl rfl dX9_within_8 ?_
    refine Y_if_eq C (pc := 9) (tgt := 43) dX9_within_9 (by decide) (fun c13 => ?_) (fun c13 => ?_)
    · rw [if_pos c13] at h
      have h := Option.some.inj h
      exact Y_sub [0, 2] rfl (hE _ h.symm)
    · rw [if_neg c13] at h
      refine Y_iload_n C (pc := 12) 2 2 rfl rfl dX9_within_12 ?_
      refine Y_aload_n C (pc := 13) 0 0 rfl rfl dX9_within_13 ?_
      obtain ⟨v3, hv3, h⟩ := Option.bind_eq_some_iff.mp h
      refine Y_callV C [] [.int s2.1] [.int v3, .int s2.1] hk0 rfl rfl (c_X9_agrees hk0 hv3) (fun _ h => h.elim) q_cw_yX9_agrees q_ml_RX9_164 ⟨q_im_yX9_agrees, q_se_yX9_agrees⟩ ⟨⟨Nat.le_of_ble_eq_true rfl, Nat.le_of_ble_eq_true rfl⟩, ⟨Nat.zero_le _, Nat.zero_le _⟩, Nat.le_of_ble_eq_true rfl⟩ rfl rfl rfl dX9_within_14 ?_
      refine Y_if_eq C (pc := 17) (tgt := 32) dX9_within_17 (by decide) (fun c12 => ?_) (fun c12 => ?_)
      · rw [if_pos c12] at h
        exact Y_sub [0, 1] rfl (hJ32 _ _ h)
      · rw [if_neg c12] at h
        refine Y_aload_n C (pc := 20) 0 0 rfl rfl dX9_within_20 ?_
        obtain ⟨v10, hv10, h⟩ := Option.bind_eq_some_iff.mp h
        refine Y_callV C [] [.int s2.1] [.int v10, .int s2.1] hk0 rfl rfl (c_X9_costOf hk0 hv10) (fun _ h => h.elim) q_cw_yX9_costOf q_ml_RX9_132 ⟨q_im_yX9_costOf, q_se_yX9_costOf⟩ ⟨⟨Nat.le_of_ble_eq_true rfl, Nat.le_of_ble_eq_true rfl⟩, ⟨Nat.zero_le _, Nat.zero_le _⟩, Nat.le_of_ble_eq_true rfl⟩ rfl rfl rfl dX9_within_21 ?_
        refine Y_iload_n C (pc := 24) 1 1 rfl rfl dX9_within_24 ?_
        refine Y_icmp_gt C (pc := 25) (tgt := 32) dX9_within_25 (by decide) (fun c11 => ?_) (fun c11 => ?_)
        · rw [if_pos c11] at h
          exact Y_sub [0, 1] rfl (hJ32 _ _ h)
        · rw [if_neg c11] at h
          refine Y_iconst C (pc := 28) (v := (1 : Int32)) (by decide) dX9_within_28 ?_
          refine Y_goto C (pc := 29) (tgt := 33) dX9_within_29 (by decide) ?_
          exact Y_sub [0, 1] rfl (hJ33 _ _ _ h)
  · refine Y_aload_n C (pc := 43) 0 0 rfl rfl dX9_within_43 ?_
    refine Y_iload_n C (pc := 44) 2 1 rfl rfl dX9_within_44 ?_
    obtain ⟨v15, hv15, h⟩ := Option.bind_eq_some_iff.mp h
    refine Y_callV C [.int e14.1] [] [.int v15.1] hk0 rfl rfl (c_X9_tells hI hk0 hv15) (fun _ h => h) q_cw_yX9_tells q_ml_RX9_82 ⟨q_im_yX9_tells, q_se_yX9_tells⟩ ⟨⟨Nat.le_of_ble_eq_true rfl, Nat.le_of_ble_eq_true rfl⟩, ⟨Nat.zero_le _, Nat.zero_le _⟩, Nat.le_of_ble_eq_true rfl⟩ rfl rfl rfl dX9_within_45 ?_
    cases h
    exact Y_iret C dX9_within_48

set_option maxRecDepth 100000 in
set_option maxHeartbeats 4000000 in
theorem c_X9_least {l : Launch} {D : va_G} {cA ρ : Nat → Nat} {σ : Sg} {τ : Tg} {k0 : Nat} (hI : Inj ρ) (hk0 : kd k0 = (0, 9)) {r : Int32 × Sg} (h : f_X9_least σ k0 = some r) : Ct l yX9_least cX9_least 4 (some .int) 3 67 D cA ρ (Aw ρ) [.ref (ρ k0)] σ τ (some (.int r.1)) r.2 τ := by
  refine Ct_of (by decide +kernel) (Nat.le_of_ble_eq_true rfl) (fun p e s m args below meth c C => ?_)
  have C : Ctx p l s m args meth c cX9_least RX9 4 (some .int) D cA ρ (Aw ρ) := C
  have hW : Wr ρ (Aw ρ) := ⟨hI, fun k hk => ⟨k, hk, rfl⟩⟩
  unfold f_X9_least at h
  refine Y_sub [0] (lv' := [(0, .ref (ρ k0))]) rfl ?_
  refine Y_ldc C q_ct_RX9_167 dX9_least_0 ?_
  refine Y_istore_n C (pc := 2) (lv' := [(1, .int (1000000 : Int32)), (0, .ref (ρ k0))]) 1 rfl (by decide) rfl dX9_least_2 ?_
  refine Y_aload_n C (pc := 3) 0 1 rfl rfl dX9_least_3 ?_
  obtain ⟨v1, hv1, h⟩ := Option.bind_eq_some_iff.mp h
  refine Y_callV C [] [] [] hk0 rfl rfl (c_X9_firsts hI hk0 hv1) (fun _ h => h) q_cw_yX9_firsts q_ml_RX9_142 ⟨q_im_yX9_firsts, q_se_yX9_firsts⟩ ⟨⟨Nat.le_of_ble_eq_true rfl, Nat.le_of_ble_eq_true rfl⟩, ⟨Nat.zero_le _, Nat.zero_le _⟩, Nat.le_of_ble_eq_true rfl⟩ rfl rfl rfl dX9_least_4 ?_
  refine Y_iconst C (pc := 7) (v := (1 : Int32)) (by decide) dX9_least_7 ?_
  refine Y_istore_n C (pc := 8) (lv' := [(2, .int (1 : Int32)), (1, .int (1000000 : Int32)), (0, .ref (ρ k0))]) 2 rfl (by decide) rfl dX9_least_8 ?_
  obtain ⟨e14, he14, h⟩ := Option.bind_eq_some_iff.mp h
  refine Y_sub [2, 1, 0] (lv' := [(0, .ref (ρ k0)), (1, .int (1000000 : Int32)), (2, .int (1 : Int32))]) rfl ?_
  refine lo_rule (f := (f_X9_least_L9 k0)) (YS := fun s2 => Y p l e (Rm 3 67) s m args below meth c 4 D cA ρ (Aw ρ) 0 0 (MQ below (QC D cA ρ (Aw ρ) (some (.int r.1)) r.2 τ) args s 0 0 (Aw ρ)) s2.2.2 τ 9 [(0, .ref (ρ k0)), (1, .int s2.1), (2, .int s2.2.1)] []) (YE := fun e14 => Y p l e (Rm 3 67) s m args below meth c 4 D cA ρ (Aw ρ) 0 0 (MQ below (QC D cA ρ (Aw ρ) (some (.int r.1)) r.2 τ) args s 0 0 (Aw ρ)) e14.2 τ 49 [(1, .int e14.1)] []) ?_ he14 ?_
  · intro s2 x h hLp hE
    unfold f_X9_least_L9 at h
    have hJ40 : ∀ (j7 : Int32) (sj8 : Sg), f_X9_least_J40 k0 j7 sj8 = some x → Y p l e (Rm 3 67) s m args below meth c 4 D cA ρ (Aw ρ) 0 0 (MQ below (QC D cA ρ (Aw ρ) (some (.int r.1)) r.2 τ) args s 0 0 (Aw ρ)) sj8 τ 40 [(0, .ref (ρ k0))] [.int j7] := by
      intro j7 sj8 h
      unfold f_X9_least_J40 at h
      refine Y_istore_n C (pc := 40) (lv' := [(1, .int j7), (0, .ref (ρ k0))]) 1 rfl (by decide) rfl dX9_least_40 ?_
      refine Y_aload_n C (pc := 41) 0 1 rfl rfl dX9_least_41 ?_
      obtain ⟨v9, hv9, h⟩ := Option.bind_eq_some_iff.mp h
      refine Y_callV C [] [] [.int v9.1] hk0 rfl rfl (c_X9_goesOn hI hk0 hv9) (fun _ h => h) q_cw_yX9_goesOn q_ml_RX9_145 ⟨q_im_yX9_goesOn, q_se_yX9_goesOn⟩ ⟨⟨Nat.le_of_ble_eq_true rfl, Nat.le_of_ble_eq_true rfl⟩, ⟨Nat.zero_le _, Nat.zero_le _⟩, Nat.le_of_ble_eq_true rfl⟩ rfl rfl rfl dX9_least_42 ?_
      refine Y_istore_n C (pc := 45) (lv' := [(2, .int v9.1), (1, .int j7), (0, .ref (ρ k0))]) 2 rfl (by decide) rfl dX9_least_45 ?_
      refine Y_goto C (pc := 46) (tgt := 9) dX9_least_46 (by decide) ?_
      have h := Option.some.inj h
      exact Y_sub [2, 1, 0] rfl (hLp _ h.symm)
    have hJ29 : ∀ (j4 : Int32) (j5 : Int32) (sj6 : Sg), f_X9_least_J29 k0 j4 j5 sj6 = some x → Y p l e (Rm 3 67) s m args below meth c 4 D cA ρ (Aw ρ) 0 0 (MQ below (QC D cA ρ (Aw ρ) (some (.int r.1)) r.2 τ) args s 0 0 (Aw ρ)) sj6 τ 29 [(0, .ref (ρ k0)), (1, .int j4)] [.int j5] := by
      intro j4 j5 sj6 h
      unfold f_X9_least_J29 at h
      refine Y_istore_n C (pc := 29) (lv' := [(3, .int j5), (0, .ref (ρ k0)), (1, .int j4)]) 3 rfl (by decide) rfl dX9_least_29 ?_
      refine Y_iload_n C (pc := 30) 3 0 rfl rfl dX9_least_30 ?_
      refine Y_iload_n C (pc := 31) 1 2 rfl rfl dX9_least_31 ?_
      refine Y_icmp_ge C (pc := 32) (tgt := 39) dX9_least_32 (by decide) (fun c10 => ?_) (fun c10 => ?_)
      · rw [if_pos c10] at h
        refine Y_iload_n C (pc := 39) 1 2 rfl rfl dX9_least_39 ?_
        exact Y_sub [1] rfl (hJ40 _ _ h)
      · rw [if_neg c10] at h
        refine Y_iload_n C (pc := 35) 3 0 rfl rfl dX9_least_35 ?_
        refine Y_goto C (pc := 36) (tgt := 40) dX9_least_36 (by decide) ?_
        exact Y_sub [1] rfl (hJ40 _ _ h)
    refine Y_iload_n C (pc := 9) 2 2 rfl rfl dX9_least_9 ?_
    refine Y_if_eq C (pc := 10) (tgt := 49) dX9_least_10 (by decide) (fun c13 => ?_) (fun c13 => ?_)
    · rw [if_pos c13] at h
      have h := Option.some.inj h
      exact Y_sub [1] rfl (hE _ h.symm)
    · rw [if_neg c13] at h
      refine Y_aload_n C (pc := 13) 0 0 rfl rfl dX9_least_13 ?_
      obtain ⟨v3, hv3, h⟩ := Option.bind_eq_some_iff.mp h
      refine Y_callV C [] [] [.int v3] hk0 rfl rfl (c_X9_agrees hk0 hv3) (fun _ h => h.elim) q_cw_yX9_agrees q_ml_RX9_164 ⟨q_im_yX9_agrees, q_se_yX9_agrees⟩ ⟨⟨Nat.le_of_ble_eq_true rfl, Nat.le_of_ble_eq_true rfl⟩, ⟨Nat.zero_le _, Nat.zero_le _⟩, Nat.le_of_ble_eq_true rfl⟩ rfl rfl rfl dX9_least_14 ?_
      refine Y_if_eq C (pc := 17) (tgt := 27) dX9_least_17 (by decide) (fun c12 => ?_) (fun c12 => ?_)
      · rw [if_pos c12] at h
        refine Y_ldc C q_ct_RX9_167 dX9_least_27 ?_
        exact Y_sub [0, 1] rfl (hJ29 _ _ _ h)
      · rw [if_neg c12] at h
        refine Y_aload_n C (pc := 20) 0 0 rfl rfl dX9_least_20 ?_
        obtain ⟨v11, hv11, h⟩ := Option.bind_eq_some_iff.mp h
        refine Y_callV C [] [] [.int v11] hk0 rfl rfl (c_X9_costOf hk0 hv11) (fun _ h => h.elim) q_cw_yX9_costOf q_ml_RX9_132 ⟨q_im_yX9_costOf, q_se_yX9_costOf⟩ ⟨⟨Nat.le_of_ble_eq_true rfl, Nat.le_of_ble_eq_true rfl⟩, ⟨Nat.zero_le _, Nat.zero_le _⟩, Nat.le_of_ble_eq_true rfl⟩ rfl rfl rfl dX9_least_21 ?_
        refine Y_goto C (pc := 24) (tgt := 29) dX9_least_24 (by decide) ?_
        exact Y_sub [0, 1] rfl (hJ29 _ _ _ h)
  · refine Y_iload_n C (pc := 49) 1 0 rfl rfl dX9_least_49 ?_
    cases h
    exact Y_iret C dX9_least_50

set_option maxRecDepth 100000 in
set_option maxHeartbeats 4000000 in
theorem c_X9_optimum {l : Launch} {D : va_G} {cA ρ : Nat → Nat} {σ : Sg} {τ : Tg} {k0 : Nat} (hI : Inj ρ) (hk0 : kd k0 = (0, 9)) {r : Int32 × Sg} (h : f_X9_optimum σ k0 = some r) : Ct l yX9_optimum cX9_optimum 1 (some .int) 4 90 D cA ρ (Aw ρ) [.ref (ρ k0)] σ τ (some (.int r.1)) r.2 τ := by
  refine Ct_of (by decide +kernel) (Nat.le_of_ble_eq_true rfl) (fun p e s m args below meth c C => ?_)
  have C : Ctx p l s m args meth c cX9_optimum RX9 1 (some .int) D cA ρ (Aw ρ) := C
  have hW : Wr ρ (Aw ρ) := ⟨hI, fun k hk => ⟨k, hk, rfl⟩⟩
  unfold f_X9_optimum at h
  refine Y_sub [0] (lv' := [(0, .ref (ρ k0))]) rfl ?_
  refine Y_aload_n C (pc := 0) 0 0 rfl rfl dX9_optimum_0 ?_
  refine Y_aload_n C (pc := 1) 0 0 rfl rfl dX9_optimum_1 ?_
  obtain ⟨v1, hv1, h⟩ := Option.bind_eq_some_iff.mp h
  refine Y_callV C [] [.ref (ρ k0)] [.int v1.1, .ref (ρ k0)] hk0 rfl rfl (c_X9_least hI hk0 hv1) (fun _ h => h) q_cw_yX9_least q_ml_RX9_168 ⟨q_im_yX9_least, q_se_yX9_least⟩ ⟨⟨Nat.le_of_ble_eq_true rfl, Nat.le_of_ble_eq_true rfl⟩, ⟨Nat.zero_le _, Nat.zero_le _⟩, Nat.le_of_ble_eq_true rfl⟩ rfl rfl rfl dX9_optimum_2 ?_
  obtain ⟨v2, hv2, h⟩ := Option.bind_eq_some_iff.mp h
  refine Y_callV C [.int v1.1] [] [.int v2.1] hk0 rfl rfl (c_X9_tells hI hk0 hv2) (fun _ h => h) q_cw_yX9_tells q_ml_RX9_82 ⟨q_im_yX9_tells, q_se_yX9_tells⟩ ⟨⟨Nat.le_of_ble_eq_true rfl, Nat.le_of_ble_eq_true rfl⟩, ⟨Nat.zero_le _, Nat.zero_le _⟩, Nat.le_of_ble_eq_true rfl⟩ rfl rfl rfl dX9_optimum_5 ?_
  cases h
  exact Y_iret C dX9_optimum_8

set_option maxRecDepth 100000 in
set_option maxHeartbeats 4000000 in
theorem c_X9_optimumAt {l : Launch} {D : va_G} {cA ρ : Nat → Nat} {σ : Sg} {τ : Tg} {k0 : Nat} {i1 : Int32} (hI : Inj ρ) (hk0 : kd k0 = (0, 9)) {r : Int32 × Sg} (h : f_X9_optimumAt σ k0 i1 = some r) : Ct l yX9_optimumAt cX9_optimumAt 8 (some .int) 4 90 D cA ρ (Aw ρ) [.ref (ρ k0), .int i1] σ τ (some (.int r.1)) r.2 τ := by
  refine Ct_of (by decide +kernel) (Nat.le_of_ble_eq_true rfl) (fun p e s m args below meth c C => ?_)
  have C : Ctx p l s m args meth c cX9_optimumAt RX9 8 (some .int) D cA ρ (Aw ρ) := C
  have hW : Wr ρ (Aw ρ) := ⟨hI, fun k hk => ⟨k, hk, rfl⟩⟩
  unfold f_X9_optimumAt at h
  refine Y_sub [0, 1] (lv' := [(0, .ref (ρ k0)), (1, .int i1)]) rfl ?_
  refine Y_aload_n C (pc := 0) 0 0 rfl rfl dX9_optimumAt_0 ?_
  obtain ⟨v1, hv1, h⟩ := Option.bind_eq_some_iff.mp h
  refine Y_callV C [] [] [.int v1.1] hk0 rfl rfl (c_X9_least hI hk0 hv1) (fun _ h => h) q_cw_yX9_least q_ml_RX9_168 ⟨q_im_yX9_least, q_se_yX9_least⟩ ⟨⟨Nat.le_of_ble_eq_true rfl, Nat.le_of_ble_eq_true rfl⟩, ⟨Nat.zero_le _, Nat.zero_le _⟩, Nat.le_of_ble_eq_true rfl⟩ rfl rfl rfl dX9_optimumAt_1 ?_
  refine Y_istore_n C (pc := 4) (lv' := [(2, .int v1.1), (0, .ref (ρ k0)), (1, .int i1)]) 2 rfl (by decide) rfl dX9_optimumAt_4 ?_
  refine Y_iconst C (pc := 5) (v := (0 : Int32)) (by decide) dX9_optimumAt_5 ?_
  refine Y_istore_n C (pc := 6) (lv' := [(3, .int (0 : Int32)), (2, .int v1.1), (0, .ref (ρ k0)), (1, .int i1)]) 3 rfl (by decide) rfl dX9_optimumAt_6 ?_
  refine Y_iconst C (pc := 7) (v := (0 : Int32)) (by decide) dX9_optimumAt_7 ?_
  refine Y_istore C (pc := 8) (lv' := [(4, .int (0 : Int32)), (3, .int (0 : Int32)), (2, .int v1.1), (0, .ref (ρ k0)), (1, .int i1)]) (by decide) rfl dX9_optimumAt_8 ?_
  refine Y_iconst C (pc := 10) (v := (-1 : Int32)) (by decide) dX9_optimumAt_10 ?_
  refine Y_istore C (pc := 11) (lv' := [(5, .int (-1 : Int32)), (4, .int (0 : Int32)), (3, .int (0 : Int32)), (2, .int v1.1), (0, .ref (ρ k0)), (1, .int i1)]) (by decide) rfl dX9_optimumAt_11 ?_
  refine Y_aload_n C (pc := 13) 0 4 rfl rfl dX9_optimumAt_13 ?_
  obtain ⟨v2, hv2, h⟩ := Option.bind_eq_some_iff.mp h
  refine Y_callV C [] [] [] hk0 rfl rfl (c_X9_firsts hI hk0 hv2) (fun _ h => h) q_cw_yX9_firsts q_ml_RX9_142 ⟨q_im_yX9_firsts, q_se_yX9_firsts⟩ ⟨⟨Nat.le_of_ble_eq_true rfl, Nat.le_of_ble_eq_true rfl⟩, ⟨Nat.zero_le _, Nat.zero_le _⟩, Nat.le_of_ble_eq_true rfl⟩ rfl rfl rfl dX9_optimumAt_14 ?_
  refine Y_iconst C (pc := 17) (v := (1 : Int32)) (by decide) dX9_optimumAt_17 ?_
  refine Y_istore C (pc := 18) (lv' := [(6, .int (1 : Int32)), (5, .int (-1 : Int32)), (4, .int (0 : Int32)), (3, .int (0 : Int32)), (2, .int v1.1), (0, .ref (ρ k0)), (1, .int i1)]) (by decide) rfl dX9_optimumAt_18 ?_
  obtain ⟨e37, he37, h⟩ := Option.bind_eq_some_iff.mp h
  refine Y_sub [5, 6, 4, 3, 2, 1, 0] (lv' := [(0, .ref (ρ k0)), (1, .int i1), (2, .int v1.1), (3, .int (0 : Int32)), (4, .int (0 : Int32)), (5, .int (-1 : Int32)), (6, .int (1 : Int32))]) rfl ?_
  refine lo_rule (f := (f_X9_optimumAt_L20 k0 i1 v1)) (YS := fun s3 => Y p l e (Rm 4 90) s m args below meth c 8 D cA ρ (Aw ρ) 0 0 (MQ below (QC D cA ρ (Aw ρ) (some (.int r.1)) r.2 τ) args s 0 0 (Aw ρ)) s3.2.2.2.2 τ 20 [(0, .ref (ρ k0)), (1, .int i1), (2, .int v1.1), (3, .int s3.1), (4, .int s3.2.1), (5, .int s3.2.2.1), (6, .int s3.2.2.2.1)] []) (YE := fun e37 => Y p l e (Rm 4 90) s m args below meth c 8 D cA ρ (Aw ρ) 0 0 (MQ below (QC D cA ρ (Aw ρ) (some (.int r.1)) r.2 τ) args s 0 0 (Aw ρ)) e37.2.2 τ 91 [(1, .int i1), (3, .int e37.1), (5, .int e37.2.1)] []) ?_ he37 ?_
  · intro s3 x h hLp hE
    unfold f_X9_optimumAt_L20 at h
    have hJ77 : ∀ (j24 : Int32) (j25 : Int32) (j26 : Int32) (j27 : Int32) (sj28 : Sg), f_X9_optimumAt_J77 k0 j24 j25 j26 j27 sj28 = some x → Y p l e (Rm 4 90) s m args below meth c 8 D cA ρ (Aw ρ) 0 0 (MQ below (QC D cA ρ (Aw ρ) (some (.int r.1)) r.2 τ) args s 0 0 (Aw ρ)) sj28 τ 77 [(0, .ref (ρ k0)), (1, .int i1), (2, .int v1.1), (4, .int j24), (5, .int j25)] [.int j26, .int j27] := by
      intro j24 j25 j26 j27 sj28 h
      unfold f_X9_optimumAt_J77 at h
      refine Y_iadd C (pc := 77) dX9_optimumAt_77 ?_
      refine Y_istore_n C (pc := 78) (lv' := [(3, .int (j27 + j26)), (0, .ref (ρ k0)), (1, .int i1), (2, .int v1.1), (4, .int j24), (5, .int j25)]) 3 rfl (by decide) rfl dX9_optimumAt_78 ?_
      refine Y_iinc C (pc := 79) (v := (j24 + 1)) (lv' := [(4, .int (j24 + 1)), (3, .int (j27 + j26)), (0, .ref (ρ k0)), (1, .int i1), (2, .int v1.1), (5, .int j25)]) 4 rfl (congrArg (fun z => j24 + z) (by decide : Int32.ofInt (1) = (1))) (by decide) rfl dX9_optimumAt_79 ?_
      refine Y_aload_n C (pc := 82) 0 2 rfl rfl dX9_optimumAt_82 ?_
      obtain ⟨v29, hv29, h⟩ := Option.bind_eq_some_iff.mp h
      refine Y_callV C [] [] [.int v29.1] hk0 rfl rfl (c_X9_goesOn hI hk0 hv29) (fun _ h => h) q_cw_yX9_goesOn q_ml_RX9_145 ⟨q_im_yX9_goesOn, q_se_yX9_goesOn⟩ ⟨⟨Nat.le_of_ble_eq_true rfl, Nat.le_of_ble_eq_true rfl⟩, ⟨Nat.zero_le _, Nat.zero_le _⟩, Nat.le_of_ble_eq_true rfl⟩ rfl rfl rfl dX9_optimumAt_83 ?_
      refine Y_istore C (pc := 86) (lv' := [(6, .int v29.1), (4, .int (j24 + 1)), (3, .int (j27 + j26)), (0, .ref (ρ k0)), (1, .int i1), (2, .int v1.1), (5, .int j25)]) (by decide) rfl dX9_optimumAt_86 ?_
      refine Y_goto C (pc := 88) (tgt := 20) dX9_optimumAt_88 (by decide) ?_
      have h := Option.some.inj h
      exact Y_sub [3, 4, 5, 2, 1, 6, 0] rfl (hLp _ h.symm)
    have hJ64 : ∀ (j19 : Int32) (j20 : Int32) (j21 : Int32) (j22 : Int32) (sj23 : Sg), f_X9_optimumAt_J64 k0 j19 j20 j21 j22 sj23 = some x → Y p l e (Rm 4 90) s m args below meth c 8 D cA ρ (Aw ρ) 0 0 (MQ below (QC D cA ρ (Aw ρ) (some (.int r.1)) r.2 τ) args s 0 0 (Aw ρ)) sj23 τ 64 [(0, .ref (ρ k0)), (1, .int i1), (2, .int v1.1), (3, .int j19), (4, .int j20), (7, .int j21)] [.int j22] := by
      intro j19 j20 j21 j22 sj23 h
      unfold f_X9_optimumAt_J64 at h
      refine Y_istore C (pc := 64) (lv' := [(5, .int j22), (0, .ref (ρ k0)), (1, .int i1), (2, .int v1.1), (3, .int j19), (4, .int j20), (7, .int j21)]) (by decide) rfl dX9_optimumAt_64 ?_
      refine Y_iload_n C (pc := 66) 3 4 rfl rfl dX9_optimumAt_66 ?_
      refine Y_iload C (pc := 67) 6 rfl dX9_optimumAt_67 ?_
      refine Y_if_eq C (pc := 69) (tgt := 76) dX9_optimumAt_69 (by decide) (fun c30 => ?_) (fun c30 => ?_)
      · rw [if_pos c30] at h
        refine Y_iconst C (pc := 76) (v := (0 : Int32)) (by decide) dX9_optimumAt_76 ?_
        exact Y_sub [1, 2, 3, 5, 0] rfl (hJ77 _ _ _ _ _ h)
      · rw [if_neg c30] at h
        refine Y_iconst C (pc := 72) (v := (1 : Int32)) (by decide) dX9_optimumAt_72 ?_
        refine Y_goto C (pc := 73) (tgt := 77) dX9_optimumAt_73 (by decide) ?_
        exact Y_sub [1, 2, 3, 5, 0] rfl (hJ77 _ _ _ _ _ h)
    have hJ62 : ∀ (j14 : Int32) (j15 : Int32) (j16 : Int32) (j17 : Int32) (sj18 : Sg), f_X9_optimumAt_J62 k0 j14 j15 j16 j17 sj18 = some x → Y p l e (Rm 4 90) s m args below meth c 8 D cA ρ (Aw ρ) 0 0 (MQ below (QC D cA ρ (Aw ρ) (some (.int r.1)) r.2 τ) args s 0 0 (Aw ρ)) sj18 τ 62 [(0, .ref (ρ k0)), (1, .int i1), (2, .int v1.1), (3, .int j14), (4, .int j15), (5, .int j16), (7, .int j17)] [] := by
      intro j14 j15 j16 j17 sj18 h
      unfold f_X9_optimumAt_J62 at h
      refine Y_iload C (pc := 62) 5 rfl dX9_optimumAt_62 ?_
      exact Y_sub [0, 1, 2, 3, 4, 6] rfl (hJ64 _ _ _ _ _ h)
    have hJ45 : ∀ (j9 : Int32) (j10 : Int32) (j11 : Int32) (j12 : Int32) (sj13 : Sg), f_X9_optimumAt_J45 k0 i1 j9 j10 j11 j12 sj13 = some x → Y p l e (Rm 4 90) s m args below meth c 8 D cA ρ (Aw ρ) 0 0 (MQ below (QC D cA ρ (Aw ρ) (some (.int r.1)) r.2 τ) args s 0 0 (Aw ρ)) sj13 τ 45 [(0, .ref (ρ k0)), (1, .int i1), (2, .int v1.1), (3, .int j9), (4, .int j10), (5, .int j11)] [.int j12] := by
      intro j9 j10 j11 j12 sj13 h
      unfold f_X9_optimumAt_J45 at h
      refine Y_istore C (pc := 45) (lv' := [(7, .int j12), (0, .ref (ρ k0)), (1, .int i1), (2, .int v1.1), (3, .int j9), (4, .int j10), (5, .int j11)]) (by decide) rfl dX9_optimumAt_45 ?_
      refine Y_iload C (pc := 47) 0 rfl dX9_optimumAt_47 ?_
      refine Y_if_eq C (pc := 49) (tgt := 62) dX9_optimumAt_49 (by decide) (fun c32 => ?_) (fun c32 => ?_)
      · rw [if_pos c32] at h
        exact Y_sub [1, 2, 3, 4, 5, 6, 0] rfl (hJ62 _ _ _ _ _ h)
      · rw [if_neg c32] at h
        refine Y_iload_n C (pc := 52) 3 4 rfl rfl dX9_optimumAt_52 ?_
        refine Y_iload_n C (pc := 53) 1 2 rfl rfl dX9_optimumAt_53 ?_
        refine Y_icmp_ne C (pc := 54) (tgt := 62) dX9_optimumAt_54 (by decide) (fun c31 => ?_) (fun c31 => ?_)
        · rw [if_neg c31] at h
          exact Y_sub [1, 2, 3, 4, 5, 6, 0] rfl (hJ62 _ _ _ _ _ h)
        · rw [if_pos c31] at h
          refine Y_iload C (pc := 57) 5 rfl dX9_optimumAt_57 ?_
          refine Y_goto C (pc := 59) (tgt := 64) dX9_optimumAt_59 (by decide) ?_
          exact Y_sub [1, 2, 3, 4, 5, 0] rfl (hJ64 _ _ _ _ _ h)
    have hJ44 : ∀ (j5 : Int32) (j6 : Int32) (j7 : Int32) (sj8 : Sg), f_X9_optimumAt_J44 k0 i1 j5 j6 j7 sj8 = some x → Y p l e (Rm 4 90) s m args below meth c 8 D cA ρ (Aw ρ) 0 0 (MQ below (QC D cA ρ (Aw ρ) (some (.int r.1)) r.2 τ) args s 0 0 (Aw ρ)) sj8 τ 44 [(0, .ref (ρ k0)), (1, .int i1), (2, .int v1.1), (3, .int j5), (4, .int j6), (5, .int j7)] [] := by
      intro j5 j6 j7 sj8 h
      unfold f_X9_optimumAt_J44 at h
      refine Y_iconst C (pc := 44) (v := (0 : Int32)) (by decide) dX9_optimumAt_44 ?_
      exact Y_sub [0, 1, 2, 3, 4, 5] rfl (hJ45 _ _ _ _ _ h)
    refine Y_iload C (pc := 20) 6 rfl dX9_optimumAt_20 ?_
    refine Y_if_eq C (pc := 22) (tgt := 91) dX9_optimumAt_22 (by decide) (fun c36 => ?_) (fun c36 => ?_)
    · rw [if_pos c36] at h
      have h := Option.some.inj h
      exact Y_sub [1, 3, 5] rfl (hE _ h.symm)
    · rw [if_neg c36] at h
      refine Y_aload_n C (pc := 25) 0 0 rfl rfl dX9_optimumAt_25 ?_
      obtain ⟨v4, hv4, h⟩ := Option.bind_eq_some_iff.mp h
      refine Y_callV C [] [] [.int v4] hk0 rfl rfl (c_X9_agrees hk0 hv4) (fun _ h => h.elim) q_cw_yX9_agrees q_ml_RX9_164 ⟨q_im_yX9_agrees, q_se_yX9_agrees⟩ ⟨⟨Nat.le_of_ble_eq_true rfl, Nat.le_of_ble_eq_true rfl⟩, ⟨Nat.zero_le _, Nat.zero_le _⟩, Nat.le_of_ble_eq_true rfl⟩ rfl rfl rfl dX9_optimumAt_26 ?_
      refine Y_if_eq C (pc := 29) (tgt := 44) dX9_optimumAt_29 (by decide) (fun c35 => ?_) (fun c35 => ?_)
      · rw [if_pos c35] at h
        exact Y_sub [0, 1, 2, 3, 4, 5] rfl (hJ44 _ _ _ _ h)
      · rw [if_neg c35] at h
        refine Y_aload_n C (pc := 32) 0 0 rfl rfl dX9_optimumAt_32 ?_
        obtain ⟨v33, hv33, h⟩ := Option.bind_eq_some_iff.mp h
        refine Y_callV C [] [] [.int v33] hk0 rfl rfl (c_X9_costOf hk0 hv33) (fun _ h => h.elim) q_cw_yX9_costOf q_ml_RX9_132 ⟨q_im_yX9_costOf, q_se_yX9_costOf⟩ ⟨⟨Nat.le_of_ble_eq_true rfl, Nat.le_of_ble_eq_true rfl⟩, ⟨Nat.zero_le _, Nat.zero_le _⟩, Nat.le_of_ble_eq_true rfl⟩ rfl rfl rfl dX9_optimumAt_33 ?_
        refine Y_iload_n C (pc := 36) 2 2 rfl rfl dX9_optimumAt_36 ?_
        refine Y_icmp_ne C (pc := 37) (tgt := 44) dX9_optimumAt_37 (by decide) (fun c34 => ?_) (fun c34 => ?_)
        · rw [if_neg c34] at h
          exact Y_sub [0, 1, 2, 3, 4, 5] rfl (hJ44 _ _ _ _ h)
        · rw [if_pos c34] at h
          refine Y_iconst C (pc := 40) (v := (1 : Int32)) (by decide) dX9_optimumAt_40 ?_
          refine Y_goto C (pc := 41) (tgt := 45) dX9_optimumAt_41 (by decide) ?_
          exact Y_sub [0, 1, 2, 3, 4, 5] rfl (hJ45 _ _ _ _ _ h)
  · refine Y_iload_n C (pc := 91) 1 0 rfl rfl dX9_optimumAt_91 ?_
    refine Y_if_ge C (pc := 92) (tgt := 99) dX9_optimumAt_92 (by decide) (fun c38 => ?_) (fun c38 => ?_)
    · rw [if_pos c38] at h
      refine Y_iload C (pc := 99) 2 rfl dX9_optimumAt_99 ?_
      cases h
      exact Y_iret C dX9_optimumAt_101
    · rw [if_neg c38] at h
      refine Y_iload_n C (pc := 95) 3 1 rfl rfl dX9_optimumAt_95 ?_
      refine Y_goto C (pc := 96) (tgt := 101) dX9_optimumAt_96 (by decide) ?_
      cases h
      exact Y_iret C dX9_optimumAt_101

set_option maxRecDepth 100000 in
set_option maxHeartbeats 4000000 in
theorem c_X9_optima {l : Launch} {D : va_G} {cA ρ : Nat → Nat} {σ : Sg} {τ : Tg} {k0 : Nat} (hI : Inj ρ) (hk0 : kd k0 = (0, 9)) {r : Int32 × Sg} (h : f_X9_optima σ k0 = some r) : Ct l yX9_optima cX9_optima 1 (some .int) 5 117 D cA ρ (Aw ρ) [.ref (ρ k0)] σ τ (some (.int r.1)) r.2 τ := by
  refine Ct_of (by decide +kernel) (Nat.le_of_ble_eq_true rfl) (fun p e s m args below meth c C => ?_)
  have C : Ctx p l s m args meth c cX9_optima RX9 1 (some .int) D cA ρ (Aw ρ) := C
  have hW : Wr ρ (Aw ρ) := ⟨hI, fun k hk => ⟨k, hk, rfl⟩⟩
  unfold f_X9_optima at h
  refine Y_sub [0] (lv' := [(0, .ref (ρ k0))]) rfl ?_
  refine Y_aload_n C (pc := 0) 0 0 rfl rfl dX9_optima_0 ?_
  refine Y_aload_n C (pc := 1) 0 0 rfl rfl dX9_optima_1 ?_
  refine Y_iconst C (pc := 2) (v := (-1 : Int32)) (by decide) dX9_optima_2 ?_
  obtain ⟨v1, hv1, h⟩ := Option.bind_eq_some_iff.mp h
  refine Y_callV C [.int (-1 : Int32)] [.ref (ρ k0)] [.int v1.1, .ref (ρ k0)] hk0 rfl rfl (c_X9_optimumAt hI hk0 hv1) (fun _ h => h) q_cw_yX9_optimumAt q_ml_RX9_171 ⟨q_im_yX9_optimumAt, q_se_yX9_optimumAt⟩ ⟨⟨Nat.le_of_ble_eq_true rfl, Nat.le_of_ble_eq_true rfl⟩, ⟨Nat.zero_le _, Nat.zero_le _⟩, Nat.le_of_ble_eq_true rfl⟩ rfl rfl rfl dX9_optima_3 ?_
  obtain ⟨v2, hv2, h⟩ := Option.bind_eq_some_iff.mp h
  refine Y_callV C [.int v1.1] [] [.int v2.1] hk0 rfl rfl (c_X9_tells hI hk0 hv2) (fun _ h => h) q_cw_yX9_tells q_ml_RX9_82 ⟨q_im_yX9_tells, q_se_yX9_tells⟩ ⟨⟨Nat.le_of_ble_eq_true rfl, Nat.le_of_ble_eq_true rfl⟩, ⟨Nat.zero_le _, Nat.zero_le _⟩, Nat.le_of_ble_eq_true rfl⟩ rfl rfl rfl dX9_optima_6 ?_
  cases h
  exact Y_iret C dX9_optima_9

set_option maxRecDepth 100000 in
set_option maxHeartbeats 4000000 in
theorem c_X9_optimal {l : Launch} {D : va_G} {cA ρ : Nat → Nat} {σ : Sg} {τ : Tg} {k0 : Nat} {i1 : Int32} (hI : Inj ρ) (hk0 : kd k0 = (0, 9)) {r : Int32 × Sg} (h : f_X9_optimal σ k0 i1 = some r) : Ct l yX9_optimal cX9_optimal 2 (some .int) 5 117 D cA ρ (Aw ρ) [.ref (ρ k0), .int i1] σ τ (some (.int r.1)) r.2 τ := by
  refine Ct_of (by decide +kernel) (Nat.le_of_ble_eq_true rfl) (fun p e s m args below meth c C => ?_)
  have C : Ctx p l s m args meth c cX9_optimal RX9 2 (some .int) D cA ρ (Aw ρ) := C
  have hW : Wr ρ (Aw ρ) := ⟨hI, fun k hk => ⟨k, hk, rfl⟩⟩
  unfold f_X9_optimal at h
  refine Y_sub [0, 1] (lv' := [(0, .ref (ρ k0)), (1, .int i1)]) rfl ?_
  have hJ14 : ∀ (j2 : Int32) (sj3 : Sg), f_X9_optimal_J14 k0 j2 sj3 = some r → Y p l e (Rm 5 117) s m args below meth c 2 D cA ρ (Aw ρ) 0 0 (MQ below (QC D cA ρ (Aw ρ) (some (.int r.1)) r.2 τ) args s 0 0 (Aw ρ)) sj3 τ 14 [] [.int j2, .ref (ρ k0)] := by
    intro j2 sj3 h
    unfold f_X9_optimal_J14 at h
    obtain ⟨v4, hv4, h⟩ := Option.bind_eq_some_iff.mp h
    refine Y_callV C [.int j2] [] [.int v4.1] hk0 rfl rfl (c_X9_tells hI hk0 hv4) (fun _ h => h) q_cw_yX9_tells q_ml_RX9_82 ⟨q_im_yX9_tells, q_se_yX9_tells⟩ ⟨⟨Nat.le_of_ble_eq_true rfl, Nat.le_of_ble_eq_true rfl⟩, ⟨Nat.zero_le _, Nat.zero_le _⟩, Nat.le_of_ble_eq_true rfl⟩ rfl rfl rfl dX9_optimal_14 ?_
    cases h
    exact Y_iret C dX9_optimal_17
  refine Y_aload_n C (pc := 0) 0 0 rfl rfl dX9_optimal_0 ?_
  refine Y_iload_n C (pc := 1) 1 1 rfl rfl dX9_optimal_1 ?_
  refine Y_if_ge C (pc := 2) (tgt := 9) dX9_optimal_2 (by decide) (fun c5 => ?_) (fun c5 => ?_)
  · rw [if_pos c5] at h
    refine Y_aload_n C (pc := 9) 0 0 rfl rfl dX9_optimal_9 ?_
    refine Y_iload_n C (pc := 10) 1 1 rfl rfl dX9_optimal_10 ?_
    obtain ⟨v1, hv1, h⟩ := Option.bind_eq_some_iff.mp h
    refine Y_callV C [.int i1] [.ref (ρ k0)] [.int v1.1, .ref (ρ k0)] hk0 rfl rfl (c_X9_optimumAt hI hk0 hv1) (fun _ h => h) q_cw_yX9_optimumAt q_ml_RX9_171 ⟨q_im_yX9_optimumAt, q_se_yX9_optimumAt⟩ ⟨⟨Nat.le_of_ble_eq_true rfl, Nat.le_of_ble_eq_true rfl⟩, ⟨Nat.zero_le _, Nat.zero_le _⟩, Nat.le_of_ble_eq_true rfl⟩ rfl rfl rfl dX9_optimal_11 ?_
    exact Y_sub [] rfl (hJ14 _ _ h)
  · rw [if_neg c5] at h
    refine Y_iconst C (pc := 5) (v := (-1 : Int32)) (by decide) dX9_optimal_5 ?_
    refine Y_goto C (pc := 6) (tgt := 14) dX9_optimal_6 (by decide) ?_
    exact Y_sub [] rfl (hJ14 _ _ h)

set_option maxRecDepth 100000 in
set_option maxHeartbeats 4000000 in
theorem c_X9_divisor {l : Launch} {D : va_G} {cA ρ : Nat → Nat} {σ : Sg} {τ : Tg} {i0 : Int32} {i1 : Int32}  {r : Int32} (h : f_X9_divisor i0 i1 = some r) : Ct l yX9_divisor cX9_divisor 5 (some .int) 0 0 D cA ρ A0 [.int i0, .int i1] σ τ (some (.int r)) σ τ := by
  refine Ct_of (by decide +kernel) (Nat.le_of_ble_eq_true rfl) (fun p e s m args below meth c C => ?_)
  have C : Ctx p l s m args meth c cX9_divisor RX9 5 (some .int) D cA ρ A0 := C
  unfold f_X9_divisor at h
  refine Y_sub [0, 1] (lv' := [(0, .int i0), (1, .int i1)]) rfl ?_
  refine Y_iload_n C (pc := 0) 0 0 rfl rfl dX9_divisor_0 ?_
  refine Y_istore_n C (pc := 1) (lv' := [(2, .int i0), (0, .int i0), (1, .int i1)]) 2 rfl (by decide) rfl dX9_divisor_1 ?_
  refine Y_iload_n C (pc := 2) 1 2 rfl rfl dX9_divisor_2 ?_
  refine Y_istore_n C (pc := 3) (lv' := [(3, .int i1), (2, .int i0), (0, .int i0), (1, .int i1)]) 3 rfl (by decide) rfl dX9_divisor_3 ?_
  obtain ⟨e4, he4, h⟩ := Option.bind_eq_some_iff.mp h
  refine Y_sub [1, 0] (lv' := [(2, .int i0), (3, .int i1)]) rfl ?_
  refine lo_rule (f := f_X9_divisor_L4) (YS := fun s1 => Y p l e (Rm 0 0) s m args below meth c 5 D cA ρ A0 0 0 (MQ below (QC D cA ρ A0 (some (.int r)) σ τ) args s 0 0 A0) σ τ 4 [(2, .int s1.1), (3, .int s1.2)] []) (YE := fun e4 => Y p l e (Rm 0 0) s m args below meth c 5 D cA ρ A0 0 0 (MQ below (QC D cA ρ A0 (some (.int r)) σ τ) args s 0 0 A0) σ τ 21 [(2, .int e4)] []) ?_ he4 ?_
  · intro s1 x h hLp hE
    unfold f_X9_divisor_L4 at h
    refine Y_iload_n C (pc := 4) 3 1 rfl rfl dX9_divisor_4 ?_
    refine Y_if_le C (pc := 5) (tgt := 21) dX9_divisor_5 (by decide) (fun c3 => ?_) (fun c3 => ?_)
    · rw [if_pos c3] at h
      have h := Option.some.inj h
      exact Y_sub [0] rfl (hE _ h.symm)
    · rw [if_neg c3] at h
      refine Y_iload_n C (pc := 8) 2 0 rfl rfl dX9_divisor_8 ?_
      refine Y_iload_n C (pc := 9) 3 1 rfl rfl dX9_divisor_9 ?_
      obtain ⟨v2, hv2, h⟩ := Option.bind_eq_some_iff.mp h
      refine Y_irem C (pc := 10) hv2 dX9_divisor_10 ?_
      refine Y_istore C (pc := 11) (lv' := [(4, .int v2), (2, .int s1.1), (3, .int s1.2)]) (by decide) rfl dX9_divisor_11 ?_
      refine Y_iload_n C (pc := 13) 3 2 rfl rfl dX9_divisor_13 ?_
      refine Y_istore_n C (pc := 14) (lv' := [(2, .int s1.2), (4, .int v2), (3, .int s1.2)]) 2 rfl (by decide) rfl dX9_divisor_14 ?_
      refine Y_iload C (pc := 15) 1 rfl dX9_divisor_15 ?_
      refine Y_istore_n C (pc := 17) (lv' := [(3, .int v2), (2, .int s1.2), (4, .int v2)]) 3 rfl (by decide) rfl dX9_divisor_17 ?_
      refine Y_goto C (pc := 18) (tgt := 4) dX9_divisor_18 (by decide) ?_
      have h := Option.some.inj h
      exact Y_sub [1, 0] rfl (hLp _ h.symm)
  · refine Y_iload_n C (pc := 21) 2 0 rfl rfl dX9_divisor_21 ?_
    cases h
    exact Y_iret C dX9_divisor_22

set_option maxRecDepth 100000 in
set_option maxHeartbeats 4000000 in
theorem c_X9_mean {l : Launch} {D : va_G} {cA ρ : Nat → Nat} {σ : Sg} {τ : Tg} {k0 : Nat} {i1 : Int32} (hI : Inj ρ) (hk0 : kd k0 = (0, 9)) {r : Int32 × Sg} (h : f_X9_mean σ k0 i1 = some r) : Ct l yX9_mean cX9_mean 6 (some .int) 3 67 D cA ρ (Aw ρ) [.ref (ρ k0), .int i1] σ τ (some (.int r.1)) r.2 τ := by
  refine Ct_of (by decide +kernel) (Nat.le_of_ble_eq_true rfl) (fun p e s m args below meth c C => ?_)
  have C : Ctx p l s m args meth c cX9_mean RX9 6 (some .int) D cA ρ (Aw ρ) := C
  have hW : Wr ρ (Aw ρ) := ⟨hI, fun k hk => ⟨k, hk, rfl⟩⟩
  unfold f_X9_mean at h
  refine Y_sub [0, 1] (lv' := [(0, .ref (ρ k0)), (1, .int i1)]) rfl ?_
  have hJ98 : ∀ (j22 : Int32) (sj23 : Sg), f_X9_mean_J98 k0 j22 sj23 = some r → Y p l e (Rm 3 67) s m args below meth c 6 D cA ρ (Aw ρ) 0 0 (MQ below (QC D cA ρ (Aw ρ) (some (.int r.1)) r.2 τ) args s 0 0 (Aw ρ)) sj23 τ 98 [] [.int j22, .ref (ρ k0)] := by
    intro j22 sj23 h
    unfold f_X9_mean_J98 at h
    obtain ⟨v24, hv24, h⟩ := Option.bind_eq_some_iff.mp h
    refine Y_callV C [.int j22] [] [.int v24.1] hk0 rfl rfl (c_X9_tells hI hk0 hv24) (fun _ h => h) q_cw_yX9_tells q_ml_RX9_82 ⟨q_im_yX9_tells, q_se_yX9_tells⟩ ⟨⟨Nat.le_of_ble_eq_true rfl, Nat.le_of_ble_eq_true rfl⟩, ⟨Nat.zero_le _, Nat.zero_le _⟩, Nat.le_of_ble_eq_true rfl⟩ rfl rfl rfl dX9_mean_98 ?_
    cases h
    exact Y_iret C dX9_mean_101
  refine Y_iload_n C (pc := 0) 1 1 rfl rfl dX9_mean_0 ?_
  refine Y_iconst C (pc := 1) (v := (0 : Int32)) (by decide) dX9_mean_1 ?_
  refine Y_iconst C (pc := 2) (v := (1 : Int32)) (by decide) dX9_mean_2 ?_
  obtain ⟨v1, hv1, h⟩ := Option.bind_eq_some_iff.mp h
  refine Y_callS C [.int i1, .int (0 : Int32), .int (1 : Int32)] [] [.int v1] (c_X9_in  hv1) (fun _ h => h.elim) q_cw_yX9_in q_ml_RX9_86 q_st_yX9_in ⟨⟨Nat.le_of_ble_eq_true rfl, Nat.le_of_ble_eq_true rfl⟩, ⟨Nat.zero_le _, Nat.zero_le _⟩, Nat.le_of_ble_eq_true rfl⟩ rfl rfl rfl dX9_mean_3 ?_
  refine Y_if_ne C (pc := 6) (tgt := 15) dX9_mean_6 (by decide) (fun c28 => ?_) (fun c28 => ?_)
  · rw [if_neg c28] at h
    refine Y_iconst C (pc := 15) (v := (0 : Int32)) (by decide) dX9_mean_15 ?_
    refine Y_istore_n C (pc := 16) (lv' := [(2, .int (0 : Int32)), (0, .ref (ρ k0)), (1, .int i1)]) 2 rfl (by decide) rfl dX9_mean_16 ?_
    refine Y_iconst C (pc := 17) (v := (0 : Int32)) (by decide) dX9_mean_17 ?_
    refine Y_istore_n C (pc := 18) (lv' := [(3, .int (0 : Int32)), (2, .int (0 : Int32)), (0, .ref (ρ k0)), (1, .int i1)]) 3 rfl (by decide) rfl dX9_mean_18 ?_
    refine Y_aload_n C (pc := 19) 0 2 rfl rfl dX9_mean_19 ?_
    obtain ⟨v2, hv2, h⟩ := Option.bind_eq_some_iff.mp h
    refine Y_callV C [] [] [] hk0 rfl rfl (c_X9_firsts hI hk0 hv2) (fun _ h => h) q_cw_yX9_firsts q_ml_RX9_142 ⟨q_im_yX9_firsts, q_se_yX9_firsts⟩ ⟨⟨Nat.le_of_ble_eq_true rfl, Nat.le_of_ble_eq_true rfl⟩, ⟨Nat.zero_le _, Nat.zero_le _⟩, Nat.le_of_ble_eq_true rfl⟩ rfl rfl rfl dX9_mean_20 ?_
    refine Y_iconst C (pc := 23) (v := (1 : Int32)) (by decide) dX9_mean_23 ?_
    refine Y_istore C (pc := 24) (lv' := [(4, .int (1 : Int32)), (3, .int (0 : Int32)), (2, .int (0 : Int32)), (0, .ref (ρ k0)), (1, .int i1)]) (by decide) rfl dX9_mean_24 ?_
    obtain ⟨e19, he19, h⟩ := Option.bind_eq_some_iff.mp h
    refine Y_sub [3, 4, 2, 1, 0] (lv' := [(0, .ref (ρ k0)), (1, .int i1), (2, .int (0 : Int32)), (3, .int (0 : Int32)), (4, .int (1 : Int32))]) rfl ?_
    refine lo_rule (f := (f_X9_mean_L26 k0)) (YS := fun s3 => Y p l e (Rm 3 67) s m args below meth c 6 D cA ρ (Aw ρ) 0 0 (MQ below (QC D cA ρ (Aw ρ) (some (.int r.1)) r.2 τ) args s 0 0 (Aw ρ)) s3.2.2.2 τ 26 [(0, .ref (ρ k0)), (1, .int i1), (2, .int s3.1), (3, .int s3.2.1), (4, .int s3.2.2.1)] []) (YE := fun e19 => Y p l e (Rm 3 67) s m args below meth c 6 D cA ρ (Aw ρ) 0 0 (MQ below (QC D cA ρ (Aw ρ) (some (.int r.1)) r.2 τ) args s 0 0 (Aw ρ)) e19.2.2 τ 75 [(0, .ref (ρ k0)), (1, .int i1), (2, .int e19.1), (3, .int e19.2.1)] []) ?_ he19 ?_
    · intro s3 x h hLp hE
      unfold f_X9_mean_L26 at h
      have hJ64 : ∀ (j10 : Int32) (j11 : Int32) (j12 : Int32) (sj13 : Sg), f_X9_mean_J64 k0 j10 j11 j12 sj13 = some x → Y p l e (Rm 3 67) s m args below meth c 6 D cA ρ (Aw ρ) 0 0 (MQ below (QC D cA ρ (Aw ρ) (some (.int r.1)) r.2 τ) args s 0 0 (Aw ρ)) sj13 τ 64 [(0, .ref (ρ k0)), (1, .int i1), (2, .int j10)] [.int j11, .int j12] := by
        intro j10 j11 j12 sj13 h
        unfold f_X9_mean_J64 at h
        refine Y_iadd C (pc := 64) dX9_mean_64 ?_
        refine Y_istore_n C (pc := 65) (lv' := [(3, .int (j12 + j11)), (0, .ref (ρ k0)), (1, .int i1), (2, .int j10)]) 3 rfl (by decide) rfl dX9_mean_65 ?_
        refine Y_aload_n C (pc := 66) 0 1 rfl rfl dX9_mean_66 ?_
        obtain ⟨v14, hv14, h⟩ := Option.bind_eq_some_iff.mp h
        refine Y_callV C [] [] [.int v14.1] hk0 rfl rfl (c_X9_goesOn hI hk0 hv14) (fun _ h => h) q_cw_yX9_goesOn q_ml_RX9_145 ⟨q_im_yX9_goesOn, q_se_yX9_goesOn⟩ ⟨⟨Nat.le_of_ble_eq_true rfl, Nat.le_of_ble_eq_true rfl⟩, ⟨Nat.zero_le _, Nat.zero_le _⟩, Nat.le_of_ble_eq_true rfl⟩ rfl rfl rfl dX9_mean_67 ?_
        refine Y_istore C (pc := 70) (lv' := [(4, .int v14.1), (3, .int (j12 + j11)), (0, .ref (ρ k0)), (1, .int i1), (2, .int j10)]) (by decide) rfl dX9_mean_70 ?_
        refine Y_goto C (pc := 72) (tgt := 26) dX9_mean_72 (by decide) ?_
        have h := Option.some.inj h
        exact Y_sub [2, 3, 4, 1, 0] rfl (hLp _ h.symm)
      have hJ51 : ∀ (j5 : Int32) (j6 : Int32) (j7 : Int32) (j8 : Int32) (sj9 : Sg), f_X9_mean_J51 k0 j5 j6 j7 j8 sj9 = some x → Y p l e (Rm 3 67) s m args below meth c 6 D cA ρ (Aw ρ) 0 0 (MQ below (QC D cA ρ (Aw ρ) (some (.int r.1)) r.2 τ) args s 0 0 (Aw ρ)) sj9 τ 51 [(0, .ref (ρ k0)), (1, .int i1), (3, .int j5), (5, .int j6)] [.int j7, .int j8] := by
        intro j5 j6 j7 j8 sj9 h
        unfold f_X9_mean_J51 at h
        refine Y_iadd C (pc := 51) dX9_mean_51 ?_
        refine Y_istore_n C (pc := 52) (lv' := [(2, .int (j8 + j7)), (0, .ref (ρ k0)), (1, .int i1), (3, .int j5), (5, .int j6)]) 2 rfl (by decide) rfl dX9_mean_52 ?_
        refine Y_iload_n C (pc := 53) 3 3 rfl rfl dX9_mean_53 ?_
        refine Y_iload C (pc := 54) 4 rfl dX9_mean_54 ?_
        refine Y_if_eq C (pc := 56) (tgt := 63) dX9_mean_56 (by decide) (fun c15 => ?_) (fun c15 => ?_)
        · rw [if_pos c15] at h
          refine Y_iconst C (pc := 63) (v := (0 : Int32)) (by decide) dX9_mean_63 ?_
          exact Y_sub [1, 2, 0] rfl (hJ64 _ _ _ _ h)
        · rw [if_neg c15] at h
          refine Y_iconst C (pc := 59) (v := (1 : Int32)) (by decide) dX9_mean_59 ?_
          refine Y_goto C (pc := 60) (tgt := 64) dX9_mean_60 (by decide) ?_
          exact Y_sub [1, 2, 0] rfl (hJ64 _ _ _ _ h)
      refine Y_iload C (pc := 26) 4 rfl dX9_mean_26 ?_
      refine Y_if_eq C (pc := 28) (tgt := 75) dX9_mean_28 (by decide) (fun c18 => ?_) (fun c18 => ?_)
      · rw [if_pos c18] at h
        have h := Option.some.inj h
        exact Y_sub [0, 1, 2, 3] rfl (hE _ h.symm)
      · rw [if_neg c18] at h
        refine Y_aload_n C (pc := 31) 0 0 rfl rfl dX9_mean_31 ?_
        obtain ⟨v4, hv4, h⟩ := Option.bind_eq_some_iff.mp h
        refine Y_callV C [] [] [.int v4] hk0 rfl rfl (c_X9_agrees hk0 hv4) (fun _ h => h.elim) q_cw_yX9_agrees q_ml_RX9_164 ⟨q_im_yX9_agrees, q_se_yX9_agrees⟩ ⟨⟨Nat.le_of_ble_eq_true rfl, Nat.le_of_ble_eq_true rfl⟩, ⟨Nat.zero_le _, Nat.zero_le _⟩, Nat.le_of_ble_eq_true rfl⟩ rfl rfl rfl dX9_mean_32 ?_
        refine Y_istore C (pc := 35) (lv' := [(5, .int v4), (0, .ref (ρ k0)), (1, .int i1), (2, .int s3.1), (3, .int s3.2.1), (4, .int s3.2.2.1)]) (by decide) rfl dX9_mean_35 ?_
        refine Y_iload_n C (pc := 37) 2 3 rfl rfl dX9_mean_37 ?_
        refine Y_iload C (pc := 38) 0 rfl dX9_mean_38 ?_
        refine Y_if_eq C (pc := 40) (tgt := 50) dX9_mean_40 (by decide) (fun c17 => ?_) (fun c17 => ?_)
        · rw [if_pos c17] at h
          refine Y_iconst C (pc := 50) (v := (0 : Int32)) (by decide) dX9_mean_50 ?_
          exact Y_sub [1, 2, 4, 0] rfl (hJ51 _ _ _ _ _ h)
        · rw [if_neg c17] at h
          refine Y_aload_n C (pc := 43) 0 1 rfl rfl dX9_mean_43 ?_
          obtain ⟨v16, hv16, h⟩ := Option.bind_eq_some_iff.mp h
          refine Y_callV C [] [.int s3.1] [.int v16, .int s3.1] hk0 rfl rfl (c_X9_costOf hk0 hv16) (fun _ h => h.elim) q_cw_yX9_costOf q_ml_RX9_132 ⟨q_im_yX9_costOf, q_se_yX9_costOf⟩ ⟨⟨Nat.le_of_ble_eq_true rfl, Nat.le_of_ble_eq_true rfl⟩, ⟨Nat.zero_le _, Nat.zero_le _⟩, Nat.le_of_ble_eq_true rfl⟩ rfl rfl rfl dX9_mean_44 ?_
          refine Y_goto C (pc := 47) (tgt := 51) dX9_mean_47 (by decide) ?_
          exact Y_sub [1, 2, 4, 0] rfl (hJ51 _ _ _ _ _ h)
    · refine Y_iload_n C (pc := 75) 2 2 rfl rfl dX9_mean_75 ?_
      refine Y_iload_n C (pc := 76) 3 3 rfl rfl dX9_mean_76 ?_
      obtain ⟨v20, hv20, h⟩ := Option.bind_eq_some_iff.mp h
      refine Y_callS C [.int e19.1, .int e19.2.1] [] [.int v20] (c_X9_divisor  hv20) (fun _ h => h.elim) q_cw_yX9_divisor q_ml_RX9_174 q_st_yX9_divisor ⟨⟨Nat.le_of_ble_eq_true rfl, Nat.le_of_ble_eq_true rfl⟩, ⟨Nat.zero_le _, Nat.zero_le _⟩, Nat.le_of_ble_eq_true rfl⟩ rfl rfl rfl dX9_mean_77 ?_
      refine Y_istore C (pc := 80) (lv' := [(5, .int v20), (0, .ref (ρ k0)), (1, .int i1), (2, .int e19.1), (3, .int e19.2.1)]) (by decide) rfl dX9_mean_80 ?_
      refine Y_aload_n C (pc := 82) 0 1 rfl rfl dX9_mean_82 ?_
      refine Y_iload_n C (pc := 83) 1 2 rfl rfl dX9_mean_83 ?_
      refine Y_if_ne C (pc := 84) (tgt := 94) dX9_mean_84 (by decide) (fun c26 => ?_) (fun c26 => ?_)
      · rw [if_neg c26] at h
        refine Y_iload_n C (pc := 94) 3 4 rfl rfl dX9_mean_94 ?_
        refine Y_iload C (pc := 95) 0 rfl dX9_mean_95 ?_
        obtain ⟨v21, hv21, h⟩ := Option.bind_eq_some_iff.mp h
        refine Y_idiv C (pc := 97) hv21 dX9_mean_97 ?_
        exact Y_sub [] rfl (hJ98 _ _ h)
      · rw [if_pos c26] at h
        refine Y_iload_n C (pc := 87) 2 3 rfl rfl dX9_mean_87 ?_
        refine Y_iload C (pc := 88) 0 rfl dX9_mean_88 ?_
        obtain ⟨v25, hv25, h⟩ := Option.bind_eq_some_iff.mp h
        refine Y_idiv C (pc := 90) hv25 dX9_mean_90 ?_
        refine Y_goto C (pc := 91) (tgt := 98) dX9_mean_91 (by decide) ?_
        exact Y_sub [] rfl (hJ98 _ _ h)
  · rw [if_pos c28] at h
    refine Y_aload_n C (pc := 9) 0 0 rfl rfl dX9_mean_9 ?_
    refine Y_iconst C (pc := 10) (v := (1 : Int32)) (by decide) dX9_mean_10 ?_
    obtain ⟨v27, hv27, h⟩ := Option.bind_eq_some_iff.mp h
    refine Y_callV C [.int (1 : Int32)] [] [.int v27.1] hk0 rfl rfl (c_X9_fails hI hk0 hv27) (fun _ h => h) q_cw_yX9_fails q_ml_RX9_94 ⟨q_im_yX9_fails, q_se_yX9_fails⟩ ⟨⟨Nat.le_of_ble_eq_true rfl, Nat.le_of_ble_eq_true rfl⟩, ⟨Nat.zero_le _, Nat.zero_le _⟩, Nat.le_of_ble_eq_true rfl⟩ rfl rfl rfl dX9_mean_11 ?_
    cases h
    exact Y_iret C dX9_mean_14

set_option maxRecDepth 100000 in
set_option maxHeartbeats 4000000 in
theorem c_X9_localOptima {l : Launch} {D : va_G} {cA ρ : Nat → Nat} {σ : Sg} {τ : Tg} {k0 : Nat} (hI : Inj ρ) (hk0 : kd k0 = (0, 9)) {r : Int32 × Sg} (h : f_X9_localOptima σ k0 = some r) : Ct l yX9_localOptima cX9_localOptima 3 (some .int) 6 138 D cA ρ (Aw ρ) [.ref (ρ k0)] σ τ (some (.int r.1)) r.2 τ := by
  refine Ct_of (by decide +kernel) (Nat.le_of_ble_eq_true rfl) (fun p e s m args below meth c C => ?_)
  have C : Ctx p l s m args meth c cX9_localOptima RX9 3 (some .int) D cA ρ (Aw ρ) := C
  have hW : Wr ρ (Aw ρ) := ⟨hI, fun k hk => ⟨k, hk, rfl⟩⟩
  unfold f_X9_localOptima at h
  refine Y_sub [0] (lv' := [(0, .ref (ρ k0))]) rfl ?_
  refine Y_iconst C (pc := 0) (v := (0 : Int32)) (by decide) dX9_localOptima_0 ?_
  refine Y_istore_n C (pc := 1) (lv' := [(1, .int (0 : Int32)), (0, .ref (ρ k0))]) 1 rfl (by decide) rfl dX9_localOptima_1 ?_
  refine Y_aload_n C (pc := 2) 0 1 rfl rfl dX9_localOptima_2 ?_
  obtain ⟨v1, hv1, h⟩ := Option.bind_eq_some_iff.mp h
  refine Y_callV C [] [] [] hk0 rfl rfl (c_X9_firsts hI hk0 hv1) (fun _ h => h) q_cw_yX9_firsts q_ml_RX9_142 ⟨q_im_yX9_firsts, q_se_yX9_firsts⟩ ⟨⟨Nat.le_of_ble_eq_true rfl, Nat.le_of_ble_eq_true rfl⟩, ⟨Nat.zero_le _, Nat.zero_le _⟩, Nat.le_of_ble_eq_true rfl⟩ rfl rfl rfl dX9_localOptima_3 ?_
  refine Y_iconst C (pc := 6) (v := (1 : Int32)) (by decide) dX9_localOptima_6 ?_
  refine Y_istore_n C (pc := 7) (lv' := [(2, .int (1 : Int32)), (1, .int (0 : Int32)), (0, .ref (ρ k0))]) 2 rfl (by decide) rfl dX9_localOptima_7 ?_
  obtain ⟨e14, he14, h⟩ := Option.bind_eq_some_iff.mp h
  refine Y_sub [2, 1, 0] (lv' := [(0, .ref (ρ k0)), (1, .int (0 : Int32)), (2, .int (1 : Int32))]) rfl ?_
  refine lo_rule (f := (f_X9_localOptima_L8 k0)) (YS := fun s2 => Y p l e (Rm 6 138) s m args below meth c 3 D cA ρ (Aw ρ) 0 0 (MQ below (QC D cA ρ (Aw ρ) (some (.int r.1)) r.2 τ) args s 0 0 (Aw ρ)) s2.2.2 τ 8 [(0, .ref (ρ k0)), (1, .int s2.1), (2, .int s2.2.1)] []) (YE := fun e14 => Y p l e (Rm 6 138) s m args below meth c 3 D cA ρ (Aw ρ) 0 0 (MQ below (QC D cA ρ (Aw ρ) (some (.int r.1)) r.2 τ) args s 0 0 (Aw ρ)) e14.2 τ 42 [(0, .ref (ρ k0)), (1, .int e14.1)] []) ?_ he14 ?_
  · intro s2 x h hLp hE
    unfold f_X9_localOptima_L8 at h
    have hJ32 : ∀ (j6 : Int32) (j7 : Int32) (sj8 : Sg), f_X9_localOptima_J32 k0 j6 j7 sj8 = some x → Y p l e (Rm 6 138) s m args below meth c 3 D cA ρ (Aw ρ) 0 0 (MQ below (QC D cA ρ (Aw ρ) (some (.int r.1)) r.2 τ) args s 0 0 (Aw ρ)) sj8 τ 32 [(0, .ref (ρ k0))] [.int j6, .int j7] := by
      intro j6 j7 sj8 h
      unfold f_X9_localOptima_J32 at h
      refine Y_iadd C (pc := 32) dX9_localOptima_32 ?_
      refine Y_istore_n C (pc := 33) (lv' := [(1, .int (j7 + j6)), (0, .ref (ρ k0))]) 1 rfl (by decide) rfl dX9_localOptima_33 ?_
      refine Y_aload_n C (pc := 34) 0 1 rfl rfl dX9_localOptima_34 ?_
      obtain ⟨v9, hv9, h⟩ := Option.bind_eq_some_iff.mp h
      refine Y_callV C [] [] [.int v9.1] hk0 rfl rfl (c_X9_goesOn hI hk0 hv9) (fun _ h => h) q_cw_yX9_goesOn q_ml_RX9_145 ⟨q_im_yX9_goesOn, q_se_yX9_goesOn⟩ ⟨⟨Nat.le_of_ble_eq_true rfl, Nat.le_of_ble_eq_true rfl⟩, ⟨Nat.zero_le _, Nat.zero_le _⟩, Nat.le_of_ble_eq_true rfl⟩ rfl rfl rfl dX9_localOptima_35 ?_
      refine Y_istore_n C (pc := 38) (lv' := [(2, .int v9.1), (1, .int (j7 + j6)), (0, .ref (ρ k0))]) 2 rfl (by decide) rfl dX9_localOptima_38 ?_
      refine Y_goto C (pc := 39) (tgt := 8) dX9_localOptima_39 (by decide) ?_
      have h := Option.some.inj h
      exact Y_sub [2, 1, 0] rfl (hLp _ h.symm)
    have hJ31 : ∀ (j4 : Int32) (sj5 : Sg), f_X9_localOptima_J31 k0 j4 sj5 = some x → Y p l e (Rm 6 138) s m args below meth c 3 D cA ρ (Aw ρ) 0 0 (MQ below (QC D cA ρ (Aw ρ) (some (.int r.1)) r.2 τ) args s 0 0 (Aw ρ)) sj5 τ 31 [(0, .ref (ρ k0))] [.int j4] := by
      intro j4 sj5 h
      unfold f_X9_localOptima_J31 at h
      refine Y_iconst C (pc := 31) (v := (0 : Int32)) (by decide) dX9_localOptima_31 ?_
      exact Y_sub [0] rfl (hJ32 _ _ _ h)
    refine Y_iload_n C (pc := 8) 2 2 rfl rfl dX9_localOptima_8 ?_
    refine Y_if_eq C (pc := 9) (tgt := 42) dX9_localOptima_9 (by decide) (fun c13 => ?_) (fun c13 => ?_)
    · rw [if_pos c13] at h
      have h := Option.some.inj h
      exact Y_sub [0, 1] rfl (hE _ h.symm)
    · rw [if_neg c13] at h
      refine Y_iload_n C (pc := 12) 1 1 rfl rfl dX9_localOptima_12 ?_
      refine Y_aload_n C (pc := 13) 0 0 rfl rfl dX9_localOptima_13 ?_
      obtain ⟨v3, hv3, h⟩ := Option.bind_eq_some_iff.mp h
      refine Y_callV C [] [.int s2.1] [.int v3, .int s2.1] hk0 rfl rfl (c_X9_agrees hk0 hv3) (fun _ h => h.elim) q_cw_yX9_agrees q_ml_RX9_164 ⟨q_im_yX9_agrees, q_se_yX9_agrees⟩ ⟨⟨Nat.le_of_ble_eq_true rfl, Nat.le_of_ble_eq_true rfl⟩, ⟨Nat.zero_le _, Nat.zero_le _⟩, Nat.le_of_ble_eq_true rfl⟩ rfl rfl rfl dX9_localOptima_14 ?_
      refine Y_if_eq C (pc := 17) (tgt := 31) dX9_localOptima_17 (by decide) (fun c12 => ?_) (fun c12 => ?_)
      · rw [if_pos c12] at h
        exact Y_sub [0] rfl (hJ31 _ _ h)
      · rw [if_neg c12] at h
        refine Y_aload_n C (pc := 20) 0 0 rfl rfl dX9_localOptima_20 ?_
        obtain ⟨v10, hv10, h⟩ := Option.bind_eq_some_iff.mp h
        refine Y_callV C [] [.int s2.1] [.int v10.1, .int s2.1] hk0 rfl rfl (c_X9_isLocal hI hk0 hv10) (fun _ h => h) q_cw_yX9_isLocal q_ml_RX9_161 ⟨q_im_yX9_isLocal, q_se_yX9_isLocal⟩ ⟨⟨Nat.le_of_ble_eq_true rfl, Nat.le_of_ble_eq_true rfl⟩, ⟨Nat.zero_le _, Nat.zero_le _⟩, Nat.le_of_ble_eq_true rfl⟩ rfl rfl rfl dX9_localOptima_21 ?_
        refine Y_if_eq C (pc := 24) (tgt := 31) dX9_localOptima_24 (by decide) (fun c11 => ?_) (fun c11 => ?_)
        · rw [if_pos c11] at h
          exact Y_sub [0] rfl (hJ31 _ _ h)
        · rw [if_neg c11] at h
          refine Y_iconst C (pc := 27) (v := (1 : Int32)) (by decide) dX9_localOptima_27 ?_
          refine Y_goto C (pc := 28) (tgt := 32) dX9_localOptima_28 (by decide) ?_
          exact Y_sub [0] rfl (hJ32 _ _ _ h)
  · refine Y_aload_n C (pc := 42) 0 0 rfl rfl dX9_localOptima_42 ?_
    refine Y_iload_n C (pc := 43) 1 1 rfl rfl dX9_localOptima_43 ?_
    obtain ⟨v15, hv15, h⟩ := Option.bind_eq_some_iff.mp h
    refine Y_callV C [.int e14.1] [] [.int v15.1] hk0 rfl rfl (c_X9_tells hI hk0 hv15) (fun _ h => h) q_cw_yX9_tells q_ml_RX9_82 ⟨q_im_yX9_tells, q_se_yX9_tells⟩ ⟨⟨Nat.le_of_ble_eq_true rfl, Nat.le_of_ble_eq_true rfl⟩, ⟨Nat.zero_le _, Nat.zero_le _⟩, Nat.le_of_ble_eq_true rfl⟩ rfl rfl rfl dX9_localOptima_44 ?_
    cases h
    exact Y_iret C dX9_localOptima_47

set_option maxRecDepth 100000 in
set_option maxHeartbeats 4000000 in
theorem c_X9_looks {l : Launch} {D : va_G} {cA ρ : Nat → Nat} {σ : Sg} {τ : Tg} {k0 : Nat} (hI : Inj ρ) (hk0 : kd k0 = (0, 9)) {r : Sg} (h : f_X9_looks σ k0 = some r) : Ct l yX9_looks cX9_looks 2 none 0 0 D cA ρ (Aw ρ) [.ref (ρ k0)] σ τ none r τ := by
  refine Ct_of (by decide +kernel) (Nat.le_of_ble_eq_true rfl) (fun p e s m args below meth c C => ?_)
  have C : Ctx p l s m args meth c cX9_looks RX9 2 none D cA ρ (Aw ρ) := C
  have hW : Wr ρ (Aw ρ) := ⟨hI, fun k hk => ⟨k, hk, rfl⟩⟩
  unfold f_X9_looks at h
  refine Y_sub [0] (lv' := [(0, .ref (ρ k0))]) rfl ?_
  refine Y_iconst C (pc := 0) (v := (0 : Int32)) (by decide) dX9_looks_0 ?_
  refine Y_istore_n C (pc := 1) (lv' := [(1, .int (0 : Int32)), (0, .ref (ρ k0))]) 1 rfl (by decide) rfl dX9_looks_1 ?_
  obtain ⟨e5, he5, h⟩ := Option.bind_eq_some_iff.mp h
  refine Y_sub [1, 0] (lv' := [(0, .ref (ρ k0)), (1, .int (0 : Int32))]) rfl ?_
  refine lo_rule (f := (f_X9_looks_L2 k0)) (YS := fun s1 => Y p l e (Rm 0 0) s m args below meth c 2 D cA ρ (Aw ρ) 0 0 (MQ below (QC D cA ρ (Aw ρ) none r τ) args s 0 0 (Aw ρ)) s1.2 τ 2 [(0, .ref (ρ k0)), (1, .int s1.1)] []) (YE := fun e5 => Y p l e (Rm 0 0) s m args below meth c 2 D cA ρ (Aw ρ) 0 0 (MQ below (QC D cA ρ (Aw ρ) none r τ) args s 0 0 (Aw ρ)) e5 τ 29 [] []) ?_ he5 ?_
  · intro s1 x h hLp hE
    unfold f_X9_looks_L2 at h
    refine Y_iload_n C (pc := 2) 1 1 rfl rfl dX9_looks_2 ?_
    refine Y_bipush C (pc := 3) (v := (6 : Int32)) (by decide) dX9_looks_3 ?_
    refine Y_icmp_ge C (pc := 5) (tgt := 29) dX9_looks_5 (by decide) (fun c4 => ?_) (fun c4 => ?_)
    · rw [if_pos c4] at h
      have h := Option.some.inj h
      exact Y_sub [] rfl (hE _ h.symm)
    · rw [if_neg c4] at h
      refine Y_aload_n C (pc := 8) 0 0 rfl rfl dX9_looks_8 ?_
      refine Y_getR C (pc := 9) hk0 q_fi_RX9_25 (by decide) dX9_looks_9 ?_
      refine Y_iload_n C (pc := 12) 1 1 rfl rfl dX9_looks_12 ?_
      refine Y_aload_n C (pc := 13) 0 0 rfl rfl dX9_looks_13 ?_
      refine Y_getR C (pc := 14) hk0 q_fi_RX9_7 (by decide) dX9_looks_14 ?_
      refine Y_bipush C (pc := 17) (v := (115 : Int32)) (by decide) dX9_looks_17 ?_
      refine Y_iload_n C (pc := 19) 1 1 rfl rfl dX9_looks_19 ?_
      refine Y_iadd C (pc := 20) dX9_looks_20 ?_
      obtain ⟨v2, hv2, h⟩ := Option.bind_eq_some_iff.mp h
      refine Y_iald C (pc := 21) (q_kr_9_0 hk0) hv2 dX9_looks_21 ?_
      obtain ⟨s3, hs3, h⟩ := Option.bind_eq_some_iff.mp h
      refine Y_iast C (pc := 22) hW (q_kr_9_8 hk0) (q_lr_9_8 hk0) hs3 dX9_looks_22 ?_
      refine Y_iinc C (pc := 23) (v := (s1.1 + 1)) (lv' := [(1, .int (s1.1 + 1)), (0, .ref (ρ k0))]) 1 rfl (congrArg (fun z => s1.1 + z) (by decide : Int32.ofInt (1) = (1))) (by decide) rfl dX9_looks_23 ?_
      refine Y_goto C (pc := 26) (tgt := 2) dX9_looks_26 (by decide) ?_
      have h := Option.some.inj h
      exact Y_sub [1, 0] rfl (hLp _ h.symm)
  · cases h
    exact Y_vret C dX9_looks_29

set_option maxRecDepth 100000 in
set_option maxHeartbeats 4000000 in
theorem c_X9_pairs {l : Launch} {D : va_G} {cA ρ : Nat → Nat} {σ : Sg} {τ : Tg} {k0 : Nat} (hk0 : kd k0 = (0, 9)) {r : Int32} (h : f_X9_pairs σ k0 = some r) : Ct l yX9_pairs cX9_pairs 3 (some .int) 0 0 D cA ρ A0 [.ref (ρ k0)] σ τ (some (.int r)) σ τ := by
  refine Ct_of (by decide +kernel) (Nat.le_of_ble_eq_true rfl) (fun p e s m args below meth c C => ?_)
  have C : Ctx p l s m args meth c cX9_pairs RX9 3 (some .int) D cA ρ A0 := C
  unfold f_X9_pairs at h
  refine Y_sub [0] (lv' := [(0, .ref (ρ k0))]) rfl ?_
  refine Y_iconst C (pc := 0) (v := (0 : Int32)) (by decide) dX9_pairs_0 ?_
  refine Y_istore_n C (pc := 1) (lv' := [(1, .int (0 : Int32)), (0, .ref (ρ k0))]) 1 rfl (by decide) rfl dX9_pairs_1 ?_
  refine Y_iconst C (pc := 2) (v := (0 : Int32)) (by decide) dX9_pairs_2 ?_
  refine Y_istore_n C (pc := 3) (lv' := [(2, .int (0 : Int32)), (1, .int (0 : Int32)), (0, .ref (ρ k0))]) 2 rfl (by decide) rfl dX9_pairs_3 ?_
  obtain ⟨e9, he9, h⟩ := Option.bind_eq_some_iff.mp h
  refine Y_sub [2, 1, 0] (lv' := [(0, .ref (ρ k0)), (1, .int (0 : Int32)), (2, .int (0 : Int32))]) rfl ?_
  refine lo_rule (f := (f_X9_pairs_L4 σ k0)) (YS := fun s1 => Y p l e (Rm 0 0) s m args below meth c 3 D cA ρ A0 0 0 (MQ below (QC D cA ρ A0 (some (.int r)) σ τ) args s 0 0 A0) σ τ 4 [(0, .ref (ρ k0)), (1, .int s1.1), (2, .int s1.2)] []) (YE := fun e9 => Y p l e (Rm 0 0) s m args below meth c 3 D cA ρ A0 0 0 (MQ below (QC D cA ρ A0 (some (.int r)) σ τ) args s 0 0 A0) σ τ 38 [(1, .int e9)] []) ?_ he9 ?_
  · intro s1 x h hLp hE
    unfold f_X9_pairs_L4 at h
    have hJ30 : ∀ (j4 : Int32) (j5 : Int32) (j6 : Int32), f_X9_pairs_J30 j4 j5 j6 = some x → Y p l e (Rm 0 0) s m args below meth c 3 D cA ρ A0 0 0 (MQ below (QC D cA ρ A0 (some (.int r)) σ τ) args s 0 0 A0) σ τ 30 [(0, .ref (ρ k0)), (2, .int j4)] [.int j5, .int j6] := by
      intro j4 j5 j6 h
      unfold f_X9_pairs_J30 at h
      refine Y_iadd C (pc := 30) dX9_pairs_30 ?_
      refine Y_istore_n C (pc := 31) (lv' := [(1, .int (j6 + j5)), (0, .ref (ρ k0)), (2, .int j4)]) 1 rfl (by decide) rfl dX9_pairs_31 ?_
      refine Y_iinc C (pc := 32) (v := (j4 + 1)) (lv' := [(2, .int (j4 + 1)), (1, .int (j6 + j5)), (0, .ref (ρ k0))]) 2 rfl (congrArg (fun z => j4 + z) (by decide : Int32.ofInt (1) = (1))) (by decide) rfl dX9_pairs_32 ?_
      refine Y_goto C (pc := 35) (tgt := 4) dX9_pairs_35 (by decide) ?_
      have h := Option.some.inj h
      exact Y_sub [2, 1, 0] rfl (hLp _ h.symm)
    refine Y_iload_n C (pc := 4) 2 2 rfl rfl dX9_pairs_4 ?_
    refine Y_aload_n C (pc := 5) 0 0 rfl rfl dX9_pairs_5 ?_
    refine Y_getR C (pc := 6) hk0 q_fi_RX9_7 (by decide) dX9_pairs_6 ?_
    refine Y_iconst C (pc := 9) (v := (0 : Int32)) (by decide) dX9_pairs_9 ?_
    obtain ⟨v2, hv2, h⟩ := Option.bind_eq_some_iff.mp h
    refine Y_iald C (pc := 10) (q_kr_9_0 hk0) hv2 dX9_pairs_10 ?_
    refine Y_icmp_ge C (pc := 11) (tgt := 38) dX9_pairs_11 (by decide) (fun c8 => ?_) (fun c8 => ?_)
    · rw [if_pos c8] at h
      have h := Option.some.inj h
      exact Y_sub [1] rfl (hE _ h.symm)
    · rw [if_neg c8] at h
      refine Y_iload_n C (pc := 14) 1 1 rfl rfl dX9_pairs_14 ?_
      refine Y_aload_n C (pc := 15) 0 0 rfl rfl dX9_pairs_15 ?_
      refine Y_getR C (pc := 16) hk0 q_fi_RX9_25 (by decide) dX9_pairs_16 ?_
      refine Y_iload_n C (pc := 19) 2 2 rfl rfl dX9_pairs_19 ?_
      obtain ⟨v3, hv3, h⟩ := Option.bind_eq_some_iff.mp h
      refine Y_iald C (pc := 20) (q_kr_9_8 hk0) hv3 dX9_pairs_20 ?_
      refine Y_iconst C (pc := 21) (v := (-1 : Int32)) (by decide) dX9_pairs_21 ?_
      refine Y_icmp_ne C (pc := 22) (tgt := 29) dX9_pairs_22 (by decide) (fun c7 => ?_) (fun c7 => ?_)
      · rw [if_neg c7] at h
        refine Y_iconst C (pc := 29) (v := (1 : Int32)) (by decide) dX9_pairs_29 ?_
        exact Y_sub [0, 2] rfl (hJ30 _ _ _ h)
      · rw [if_pos c7] at h
        refine Y_iconst C (pc := 25) (v := (0 : Int32)) (by decide) dX9_pairs_25 ?_
        refine Y_goto C (pc := 26) (tgt := 30) dX9_pairs_26 (by decide) ?_
        exact Y_sub [0, 2] rfl (hJ30 _ _ _ h)
  · refine Y_iload_n C (pc := 38) 1 0 rfl rfl dX9_pairs_38 ?_
    cases h
    exact Y_iret C dX9_pairs_39

set_option maxRecDepth 100000 in
set_option maxHeartbeats 4000000 in
theorem c_X9_isTaken {l : Launch} {D : va_G} {cA ρ : Nat → Nat} {σ : Sg} {τ : Tg} {k0 : Nat} {i1 : Int32} (hk0 : kd k0 = (0, 9)) {r : Int32} (h : f_X9_isTaken σ k0 i1 = some r) : Ct l yX9_isTaken cX9_isTaken 4 (some .boolean) 0 0 D cA ρ A0 [.ref (ρ k0), .int i1] σ τ (some (.int r)) σ τ := by
  refine Ct_of (by decide +kernel) (Nat.le_of_ble_eq_true rfl) (fun p e s m args below meth c C => ?_)
  have C : Ctx p l s m args meth c cX9_isTaken RX9 4 (some .boolean) D cA ρ A0 := C
  unfold f_X9_isTaken at h
  refine Y_sub [0, 1] (lv' := [(0, .ref (ρ k0)), (1, .int i1)]) rfl ?_
  refine Y_iconst C (pc := 0) (v := (0 : Int32)) (by decide) dX9_isTaken_0 ?_
  refine Y_istore_n C (pc := 1) (lv' := [(2, .int (0 : Int32)), (0, .ref (ρ k0)), (1, .int i1)]) 2 rfl (by decide) rfl dX9_isTaken_1 ?_
  refine Y_iconst C (pc := 2) (v := (0 : Int32)) (by decide) dX9_isTaken_2 ?_
  refine Y_istore_n C (pc := 3) (lv' := [(3, .int (0 : Int32)), (2, .int (0 : Int32)), (0, .ref (ρ k0)), (1, .int i1)]) 3 rfl (by decide) rfl dX9_isTaken_3 ?_
  obtain ⟨e10, he10, h⟩ := Option.bind_eq_some_iff.mp h
  refine Y_sub [2, 3, 1, 0] (lv' := [(0, .ref (ρ k0)), (1, .int i1), (2, .int (0 : Int32)), (3, .int (0 : Int32))]) rfl ?_
  refine lo_rule (f := (f_X9_isTaken_L4 σ k0 i1)) (YS := fun s1 => Y p l e (Rm 0 0) s m args below meth c 4 D cA ρ A0 0 0 (MQ below (QC D cA ρ A0 (some (.int r)) σ τ) args s 0 0 A0) σ τ 4 [(0, .ref (ρ k0)), (1, .int i1), (2, .int s1.1), (3, .int s1.2)] []) (YE := fun e10 => Y p l e (Rm 0 0) s m args below meth c 4 D cA ρ A0 0 0 (MQ below (QC D cA ρ A0 (some (.int r)) σ τ) args s 0 0 A0) σ τ 40 [(2, .int e10)] []) ?_ he10 ?_
  · intro s1 x h hLp hE
    unfold f_X9_isTaken_L4 at h
    have hJ33 : ∀ (j4 : Int32) (j5 : Int32), f_X9_isTaken_J33 j4 j5 = some x → Y p l e (Rm 0 0) s m args below meth c 4 D cA ρ A0 0 0 (MQ below (QC D cA ρ A0 (some (.int r)) σ τ) args s 0 0 A0) σ τ 33 [(0, .ref (ρ k0)), (1, .int i1), (3, .int j4)] [.int j5] := by
      intro j4 j5 h
      unfold f_X9_isTaken_J33 at h
      refine Y_istore_n C (pc := 33) (lv' := [(2, .int j5), (0, .ref (ρ k0)), (1, .int i1), (3, .int j4)]) 2 rfl (by decide) rfl dX9_isTaken_33 ?_
      refine Y_iinc C (pc := 34) (v := (j4 + 1)) (lv' := [(3, .int (j4 + 1)), (2, .int j5), (0, .ref (ρ k0)), (1, .int i1)]) 3 rfl (congrArg (fun z => j4 + z) (by decide : Int32.ofInt (1) = (1))) (by decide) rfl dX9_isTaken_34 ?_
      refine Y_goto C (pc := 37) (tgt := 4) dX9_isTaken_37 (by decide) ?_
      have h := Option.some.inj h
      exact Y_sub [2, 3, 1, 0] rfl (hLp _ h.symm)
    have hJ28 : ∀ (j3 : Int32), f_X9_isTaken_J28 j3 = some x → Y p l e (Rm 0 0) s m args below meth c 4 D cA ρ A0 0 0 (MQ below (QC D cA ρ A0 (some (.int r)) σ τ) args s 0 0 A0) σ τ 28 [(0, .ref (ρ k0)), (1, .int i1), (3, .int j3)] [] := by
      intro j3 h
      unfold f_X9_isTaken_J28 at h
      refine Y_iconst C (pc := 28) (v := (1 : Int32)) (by decide) dX9_isTaken_28 ?_
      refine Y_goto C (pc := 29) (tgt := 33) dX9_isTaken_29 (by decide) ?_
      exact Y_sub [0, 1, 2] rfl (hJ33 _ _ h)
    refine Y_iload_n C (pc := 4) 3 3 rfl rfl dX9_isTaken_4 ?_
    refine Y_aload_n C (pc := 5) 0 0 rfl rfl dX9_isTaken_5 ?_
    refine Y_getR C (pc := 6) hk0 q_fi_RX9_7 (by decide) dX9_isTaken_6 ?_
    refine Y_iconst C (pc := 9) (v := (0 : Int32)) (by decide) dX9_isTaken_9 ?_
    obtain ⟨v2, hv2, h⟩ := Option.bind_eq_some_iff.mp h
    refine Y_iald C (pc := 10) (q_kr_9_0 hk0) hv2 dX9_isTaken_10 ?_
    refine Y_icmp_ge C (pc := 11) (tgt := 40) dX9_isTaken_11 (by decide) (fun c9 => ?_) (fun c9 => ?_)
    · rw [if_pos c9] at h
      have h := Option.some.inj h
      exact Y_sub [2] rfl (hE _ h.symm)
    · rw [if_neg c9] at h
      refine Y_iload_n C (pc := 14) 2 2 rfl rfl dX9_isTaken_14 ?_
      refine Y_if_ne C (pc := 15) (tgt := 28) dX9_isTaken_15 (by decide) (fun c8 => ?_) (fun c8 => ?_)
      · rw [if_neg c8] at h
        exact Y_sub [0, 1, 3] rfl (hJ28 _ h)
      · rw [if_pos c8] at h
        refine Y_aload_n C (pc := 18) 0 0 rfl rfl dX9_isTaken_18 ?_
        refine Y_getR C (pc := 19) hk0 q_fi_RX9_25 (by decide) dX9_isTaken_19 ?_
        refine Y_iload_n C (pc := 22) 3 3 rfl rfl dX9_isTaken_22 ?_
        obtain ⟨v6, hv6, h⟩ := Option.bind_eq_some_iff.mp h
        refine Y_iald C (pc := 23) (q_kr_9_8 hk0) hv6 dX9_isTaken_23 ?_
        refine Y_iload_n C (pc := 24) 1 1 rfl rfl dX9_isTaken_24 ?_
        refine Y_icmp_ne C (pc := 25) (tgt := 32) dX9_isTaken_25 (by decide) (fun c7 => ?_) (fun c7 => ?_)
        · rw [if_neg c7] at h
          refine Y_iconst C (pc := 32) (v := (0 : Int32)) (by decide) dX9_isTaken_32 ?_
          exact Y_sub [0, 1, 3] rfl (hJ33 _ _ h)
        · rw [if_pos c7] at h
          exact Y_sub [0, 1, 3] rfl (hJ28 _ h)
  · refine Y_iload_n C (pc := 40) 2 0 rfl rfl dX9_isTaken_40 ?_
    obtain ⟨v11, hv11, h⟩ := Option.bind_eq_some_iff.mp h
    obtain ⟨gv11, ev11⟩ := gb_in hv11
    subst v11
    cases h
    exact Y_zret gv11 C dX9_isTaken_41

set_option maxRecDepth 100000 in
set_option maxHeartbeats 4000000 in
theorem c_X9_areFree {l : Launch} {D : va_G} {cA ρ : Nat → Nat} {σ : Sg} {τ : Tg} {k0 : Nat} {i1 : Int32} {i2 : Int32} (hI : Inj ρ) (hk0 : kd k0 = (0, 9)) {r : Int32 × Sg} (h : f_X9_areFree σ k0 i1 i2 = some r) : Ct l yX9_areFree cX9_areFree 3 (some .boolean) 1 23 D cA ρ (Aw ρ) [.ref (ρ k0), .int i1, .int i2] σ τ (some (.int r.1)) r.2 τ := by
  refine Ct_of (by decide +kernel) (Nat.le_of_ble_eq_true rfl) (fun p e s m args below meth c C => ?_)
  have C : Ctx p l s m args meth c cX9_areFree RX9 3 (some .boolean) D cA ρ (Aw ρ) := C
  have hW : Wr ρ (Aw ρ) := ⟨hI, fun k hk => ⟨k, hk, rfl⟩⟩
  unfold f_X9_areFree at h
  refine Y_sub [0, 1, 2] (lv' := [(0, .ref (ρ k0)), (1, .int i1), (2, .int i2)]) rfl ?_
  refine Y_aload_n C (pc := 0) 0 0 rfl rfl dX9_areFree_0 ?_
  obtain ⟨v1, hv1, h⟩ := Option.bind_eq_some_iff.mp h
  refine Y_callV C [] [] [] hk0 rfl rfl (c_X9_looks hI hk0 hv1) (fun _ h => h) q_cw_yX9_looks q_ml_RX9_177 ⟨q_im_yX9_looks, q_se_yX9_looks⟩ ⟨⟨Nat.le_of_ble_eq_true rfl, Nat.le_of_ble_eq_true rfl⟩, ⟨Nat.zero_le _, Nat.zero_le _⟩, Nat.le_of_ble_eq_true rfl⟩ rfl rfl rfl dX9_areFree_1 ?_
  refine Y_aload_n C (pc := 4) 0 0 rfl rfl dX9_areFree_4 ?_
  refine Y_getR C (pc := 5) hk0 q_fi_RX9_25 (by decide) dX9_areFree_5 ?_
  refine Y_iload_n C (pc := 8) 1 1 rfl rfl dX9_areFree_8 ?_
  obtain ⟨v2, hv2, h⟩ := Option.bind_eq_some_iff.mp h
  refine Y_iald C (pc := 9) (q_kr_9_8 hk0) hv2 dX9_areFree_9 ?_
  refine Y_iconst C (pc := 10) (v := (-1 : Int32)) (by decide) dX9_areFree_10 ?_
  refine Y_icmp_ne C (pc := 11) (tgt := 26) dX9_areFree_11 (by decide) (fun c5 => ?_) (fun c5 => ?_)
  · rw [if_neg c5] at h
    refine Y_iconst C (pc := 26) (v := (0 : Int32)) (by decide) dX9_areFree_26 ?_
    cases h
    exact Y_zret (x := (0 : Int32)) (by decide) C dX9_areFree_27
  · rw [if_pos c5] at h
    refine Y_aload_n C (pc := 14) 0 0 rfl rfl dX9_areFree_14 ?_
    refine Y_iload_n C (pc := 15) 2 2 rfl rfl dX9_areFree_15 ?_
    obtain ⟨v3, hv3, h⟩ := Option.bind_eq_some_iff.mp h
    refine Y_callV C [.int i2] [] [.int v3] hk0 rfl rfl (c_X9_isTaken hk0 hv3) (fun _ h => h.elim) q_cw_yX9_isTaken q_ml_RX9_180 ⟨q_im_yX9_isTaken, q_se_yX9_isTaken⟩ ⟨⟨Nat.le_of_ble_eq_true rfl, Nat.le_of_ble_eq_true rfl⟩, ⟨Nat.zero_le _, Nat.zero_le _⟩, Nat.le_of_ble_eq_true rfl⟩ rfl rfl rfl dX9_areFree_16 ?_
    refine Y_if_ne C (pc := 19) (tgt := 26) dX9_areFree_19 (by decide) (fun c4 => ?_) (fun c4 => ?_)
    · rw [if_neg c4] at h
      refine Y_iconst C (pc := 26) (v := (0 : Int32)) (by decide) dX9_areFree_26 ?_
      cases h
      exact Y_zret (x := (0 : Int32)) (by decide) C dX9_areFree_27
    · rw [if_pos c4] at h
      refine Y_iconst C (pc := 22) (v := (1 : Int32)) (by decide) dX9_areFree_22 ?_
      refine Y_goto C (pc := 23) (tgt := 27) dX9_areFree_23 (by decide) ?_
      cases h
      exact Y_zret (x := (1 : Int32)) (by decide) C dX9_areFree_27

set_option maxRecDepth 100000 in
set_option maxHeartbeats 4000000 in
theorem c_X9_fix {l : Launch} {D : va_G} {cA ρ : Nat → Nat} {σ : Sg} {τ : Tg} {k0 : Nat} {i1 : Int32} {i2 : Int32} (hI : Inj ρ) (hk0 : kd k0 = (0, 9)) {r : Int32 × Sg} (h : f_X9_fix σ k0 i1 i2 = some r) : Ct l yX9_fix cX9_fix 3 (some .int) 2 45 D cA ρ (Aw ρ) [.ref (ρ k0), .int i1, .int i2] σ τ (some (.int r.1)) r.2 τ := by
  refine Ct_of (by decide +kernel) (Nat.le_of_ble_eq_true rfl) (fun p e s m args below meth c C => ?_)
  have C : Ctx p l s m args meth c cX9_fix RX9 3 (some .int) D cA ρ (Aw ρ) := C
  have hW : Wr ρ (Aw ρ) := ⟨hI, fun k hk => ⟨k, hk, rfl⟩⟩
  unfold f_X9_fix at h
  refine Y_sub [0, 1, 2] (lv' := [(0, .ref (ρ k0)), (1, .int i1), (2, .int i2)]) rfl ?_
  have hJ16 : ∀ (sj2 : Sg), f_X9_fix_J16 k0 sj2 = some r → Y p l e (Rm 2 45) s m args below meth c 3 D cA ρ (Aw ρ) 0 0 (MQ below (QC D cA ρ (Aw ρ) (some (.int r.1)) r.2 τ) args s 0 0 (Aw ρ)) sj2 τ 16 [(0, .ref (ρ k0))] [] := by
    intro sj2 h
    unfold f_X9_fix_J16 at h
    refine Y_aload_n C (pc := 16) 0 0 rfl rfl dX9_fix_16 ?_
    refine Y_iconst C (pc := 17) (v := (1 : Int32)) (by decide) dX9_fix_17 ?_
    obtain ⟨v3, hv3, h⟩ := Option.bind_eq_some_iff.mp h
    refine Y_callV C [.int (1 : Int32)] [] [.int v3.1] hk0 rfl rfl (c_X9_fails hI hk0 hv3) (fun _ h => h) q_cw_yX9_fails q_ml_RX9_94 ⟨q_im_yX9_fails, q_se_yX9_fails⟩ ⟨⟨Nat.le_of_ble_eq_true rfl, Nat.le_of_ble_eq_true rfl⟩, ⟨Nat.zero_le _, Nat.zero_le _⟩, Nat.le_of_ble_eq_true rfl⟩ rfl rfl rfl dX9_fix_18 ?_
    cases h
    exact Y_iret C dX9_fix_21
  refine Y_aload_n C (pc := 0) 0 0 rfl rfl dX9_fix_0 ?_
  refine Y_iload_n C (pc := 1) 1 1 rfl rfl dX9_fix_1 ?_
  obtain ⟨v1, hv1, h⟩ := Option.bind_eq_some_iff.mp h
  refine Y_callV C [.int i1] [] [.int v1] hk0 rfl rfl (c_X9_isOne hk0 hv1) (fun _ h => h.elim) q_cw_yX9_isOne q_ml_RX9_103 ⟨q_im_yX9_isOne, q_se_yX9_isOne⟩ ⟨⟨Nat.le_of_ble_eq_true rfl, Nat.le_of_ble_eq_true rfl⟩, ⟨Nat.zero_le _, Nat.zero_le _⟩, Nat.le_of_ble_eq_true rfl⟩ rfl rfl rfl dX9_fix_2 ?_
  refine Y_if_eq C (pc := 5) (tgt := 16) dX9_fix_5 (by decide) (fun c14 => ?_) (fun c14 => ?_)
  · rw [if_pos c14] at h
    exact Y_sub [0] rfl (hJ16 _ h)
  · rw [if_neg c14] at h
    refine Y_aload_n C (pc := 8) 0 0 rfl rfl dX9_fix_8 ?_
    refine Y_iload_n C (pc := 9) 2 2 rfl rfl dX9_fix_9 ?_
    obtain ⟨v4, hv4, h⟩ := Option.bind_eq_some_iff.mp h
    refine Y_callV C [.int i2] [] [.int v4] hk0 rfl rfl (c_X9_isOne hk0 hv4) (fun _ h => h.elim) q_cw_yX9_isOne q_ml_RX9_103 ⟨q_im_yX9_isOne, q_se_yX9_isOne⟩ ⟨⟨Nat.le_of_ble_eq_true rfl, Nat.le_of_ble_eq_true rfl⟩, ⟨Nat.zero_le _, Nat.zero_le _⟩, Nat.le_of_ble_eq_true rfl⟩ rfl rfl rfl dX9_fix_10 ?_
    refine Y_if_ne C (pc := 13) (tgt := 22) dX9_fix_13 (by decide) (fun c13 => ?_) (fun c13 => ?_)
    · rw [if_neg c13] at h
      refine Y_aload_n C (pc := 22) 0 0 rfl rfl dX9_fix_22 ?_
      refine Y_iload_n C (pc := 23) 1 1 rfl rfl dX9_fix_23 ?_
      refine Y_iload_n C (pc := 24) 2 2 rfl rfl dX9_fix_24 ?_
      obtain ⟨v5, hv5, h⟩ := Option.bind_eq_some_iff.mp h
      refine Y_callV C [.int i1, .int i2] [] [.int v5.1] hk0 rfl rfl (c_X9_areFree hI hk0 hv5) (fun _ h => h) q_cw_yX9_areFree q_ml_RX9_183 ⟨q_im_yX9_areFree, q_se_yX9_areFree⟩ ⟨⟨Nat.le_of_ble_eq_true rfl, Nat.le_of_ble_eq_true rfl⟩, ⟨Nat.zero_le _, Nat.zero_le _⟩, Nat.le_of_ble_eq_true rfl⟩ rfl rfl rfl dX9_fix_25 ?_
      refine Y_if_ne C (pc := 28) (tgt := 37) dX9_fix_28 (by decide) (fun c12 => ?_) (fun c12 => ?_)
      · rw [if_neg c12] at h
        refine Y_aload_n C (pc := 37) 0 0 rfl rfl dX9_fix_37 ?_
        obtain ⟨v6, hv6, h⟩ := Option.bind_eq_some_iff.mp h
        refine Y_callV C [] [] [] hk0 rfl rfl (c_X9_hold hI hk0 hv6) (fun _ h => h) q_cw_yX9_hold q_ml_RX9_97 ⟨q_im_yX9_hold, q_se_yX9_hold⟩ ⟨⟨Nat.le_of_ble_eq_true rfl, Nat.le_of_ble_eq_true rfl⟩, ⟨Nat.zero_le _, Nat.zero_le _⟩, Nat.le_of_ble_eq_true rfl⟩ rfl rfl rfl dX9_fix_38 ?_
        refine Y_aload_n C (pc := 41) 0 0 rfl rfl dX9_fix_41 ?_
        refine Y_getR C (pc := 42) hk0 q_fi_RX9_7 (by decide) dX9_fix_42 ?_
        refine Y_bipush C (pc := 45) (v := (115 : Int32)) (by decide) dX9_fix_45 ?_
        refine Y_iload_n C (pc := 47) 1 1 rfl rfl dX9_fix_47 ?_
        refine Y_iadd C (pc := 48) dX9_fix_48 ?_
        refine Y_iload_n C (pc := 49) 2 2 rfl rfl dX9_fix_49 ?_
        obtain ⟨s7, hs7, h⟩ := Option.bind_eq_some_iff.mp h
        refine Y_iast C (pc := 50) hW (q_kr_9_0 hk0) (q_lr_9_0 hk0) hs7 dX9_fix_50 ?_
        refine Y_aload_n C (pc := 51) 0 0 rfl rfl dX9_fix_51 ?_
        obtain ⟨v8, hv8, h⟩ := Option.bind_eq_some_iff.mp h
        refine Y_callV C [] [] [] hk0 rfl rfl (c_X9_looks hI hk0 hv8) (fun _ h => h) q_cw_yX9_looks q_ml_RX9_177 ⟨q_im_yX9_looks, q_se_yX9_looks⟩ ⟨⟨Nat.le_of_ble_eq_true rfl, Nat.le_of_ble_eq_true rfl⟩, ⟨Nat.zero_le _, Nat.zero_le _⟩, Nat.le_of_ble_eq_true rfl⟩ rfl rfl rfl dX9_fix_52 ?_
        refine Y_aload_n C (pc := 55) 0 0 rfl rfl dX9_fix_55 ?_
        refine Y_aload_n C (pc := 56) 0 0 rfl rfl dX9_fix_56 ?_
        obtain ⟨v9, hv9, h⟩ := Option.bind_eq_some_iff.mp h
        refine Y_callV C [] [.ref (ρ k0)] [.int v9, .ref (ρ k0)] hk0 rfl rfl (c_X9_pairs hk0 hv9) (fun _ h => h.elim) q_cw_yX9_pairs q_ml_RX9_187 ⟨q_im_yX9_pairs, q_se_yX9_pairs⟩ ⟨⟨Nat.le_of_ble_eq_true rfl, Nat.le_of_ble_eq_true rfl⟩, ⟨Nat.zero_le _, Nat.zero_le _⟩, Nat.le_of_ble_eq_true rfl⟩ rfl rfl rfl dX9_fix_57 ?_
        obtain ⟨v10, hv10, h⟩ := Option.bind_eq_some_iff.mp h
        refine Y_callV C [.int v9] [] [.int v10.1] hk0 rfl rfl (c_X9_ends hI hk0 hv10) (fun _ h => h) q_cw_yX9_ends q_ml_RX9_100 ⟨q_im_yX9_ends, q_se_yX9_ends⟩ ⟨⟨Nat.le_of_ble_eq_true rfl, Nat.le_of_ble_eq_true rfl⟩, ⟨Nat.zero_le _, Nat.zero_le _⟩, Nat.le_of_ble_eq_true rfl⟩ rfl rfl rfl dX9_fix_60 ?_
        cases h
        exact Y_iret C dX9_fix_63
      · rw [if_pos c12] at h
        refine Y_aload_n C (pc := 31) 0 0 rfl rfl dX9_fix_31 ?_
        refine Y_iconst C (pc := 32) (v := (2 : Int32)) (by decide) dX9_fix_32 ?_
        obtain ⟨v11, hv11, h⟩ := Option.bind_eq_some_iff.mp h
        refine Y_callV C [.int (2 : Int32)] [] [.int v11.1] hk0 rfl rfl (c_X9_fails hI hk0 hv11) (fun _ h => h) q_cw_yX9_fails q_ml_RX9_94 ⟨q_im_yX9_fails, q_se_yX9_fails⟩ ⟨⟨Nat.le_of_ble_eq_true rfl, Nat.le_of_ble_eq_true rfl⟩, ⟨Nat.zero_le _, Nat.zero_le _⟩, Nat.le_of_ble_eq_true rfl⟩ rfl rfl rfl dX9_fix_33 ?_
        cases h
        exact Y_iret C dX9_fix_36
    · rw [if_pos c13] at h
      exact Y_sub [0] rfl (hJ16 _ h)

set_option maxRecDepth 100000 in
set_option maxHeartbeats 4000000 in
theorem c_X9_free {l : Launch} {D : va_G} {cA ρ : Nat → Nat} {σ : Sg} {τ : Tg} {k0 : Nat} {i1 : Int32} (hI : Inj ρ) (hk0 : kd k0 = (0, 9)) {r : Int32 × Sg} (h : f_X9_free σ k0 i1 = some r) : Ct l yX9_free cX9_free 3 (some .int) 2 43 D cA ρ (Aw ρ) [.ref (ρ k0), .int i1] σ τ (some (.int r.1)) r.2 τ := by
  refine Ct_of (by decide +kernel) (Nat.le_of_ble_eq_true rfl) (fun p e s m args below meth c C => ?_)
  have C : Ctx p l s m args meth c cX9_free RX9 3 (some .int) D cA ρ (Aw ρ) := C
  have hW : Wr ρ (Aw ρ) := ⟨hI, fun k hk => ⟨k, hk, rfl⟩⟩
  unfold f_X9_free at h
  refine Y_sub [0, 1] (lv' := [(0, .ref (ρ k0)), (1, .int i1)]) rfl ?_
  refine Y_aload_n C (pc := 0) 0 0 rfl rfl dX9_free_0 ?_
  refine Y_iload_n C (pc := 1) 1 1 rfl rfl dX9_free_1 ?_
  obtain ⟨v1, hv1, h⟩ := Option.bind_eq_some_iff.mp h
  refine Y_callV C [.int i1] [] [.int v1] hk0 rfl rfl (c_X9_isOne hk0 hv1) (fun _ h => h.elim) q_cw_yX9_isOne q_ml_RX9_103 ⟨q_im_yX9_isOne, q_se_yX9_isOne⟩ ⟨⟨Nat.le_of_ble_eq_true rfl, Nat.le_of_ble_eq_true rfl⟩, ⟨Nat.zero_le _, Nat.zero_le _⟩, Nat.le_of_ble_eq_true rfl⟩ rfl rfl rfl dX9_free_2 ?_
  refine Y_if_ne C (pc := 5) (tgt := 14) dX9_free_5 (by decide) (fun c10 => ?_) (fun c10 => ?_)
  · rw [if_neg c10] at h
    refine Y_aload_n C (pc := 14) 0 0 rfl rfl dX9_free_14 ?_
    refine Y_getR C (pc := 15) hk0 q_fi_RX9_7 (by decide) dX9_free_15 ?_
    refine Y_bipush C (pc := 18) (v := (115 : Int32)) (by decide) dX9_free_18 ?_
    refine Y_iload_n C (pc := 20) 1 1 rfl rfl dX9_free_20 ?_
    refine Y_iadd C (pc := 21) dX9_free_21 ?_
    obtain ⟨v2, hv2, h⟩ := Option.bind_eq_some_iff.mp h
    refine Y_iald C (pc := 22) (q_kr_9_0 hk0) hv2 dX9_free_22 ?_
    refine Y_iconst C (pc := 23) (v := (-1 : Int32)) (by decide) dX9_free_23 ?_
    refine Y_icmp_ne C (pc := 24) (tgt := 33) dX9_free_24 (by decide) (fun c8 => ?_) (fun c8 => ?_)
    · rw [if_neg c8] at h
      refine Y_aload_n C (pc := 33) 0 0 rfl rfl dX9_free_33 ?_
      obtain ⟨v3, hv3, h⟩ := Option.bind_eq_some_iff.mp h
      refine Y_callV C [] [] [] hk0 rfl rfl (c_X9_hold hI hk0 hv3) (fun _ h => h) q_cw_yX9_hold q_ml_RX9_97 ⟨q_im_yX9_hold, q_se_yX9_hold⟩ ⟨⟨Nat.le_of_ble_eq_true rfl, Nat.le_of_ble_eq_true rfl⟩, ⟨Nat.zero_le _, Nat.zero_le _⟩, Nat.le_of_ble_eq_true rfl⟩ rfl rfl rfl dX9_free_34 ?_
      refine Y_aload_n C (pc := 37) 0 0 rfl rfl dX9_free_37 ?_
      refine Y_getR C (pc := 38) hk0 q_fi_RX9_7 (by decide) dX9_free_38 ?_
      refine Y_bipush C (pc := 41) (v := (115 : Int32)) (by decide) dX9_free_41 ?_
      refine Y_iload_n C (pc := 43) 1 1 rfl rfl dX9_free_43 ?_
      refine Y_iadd C (pc := 44) dX9_free_44 ?_
      obtain ⟨v4, hv4, h⟩ := Option.bind_eq_some_iff.mp h
      refine Y_iald C (pc := 45) (q_kr_9_0 hk0) hv4 dX9_free_45 ?_
      refine Y_istore_n C (pc := 46) (lv' := [(2, .int v4), (0, .ref (ρ k0)), (1, .int i1)]) 2 rfl (by decide) rfl dX9_free_46 ?_
      refine Y_aload_n C (pc := 47) 0 1 rfl rfl dX9_free_47 ?_
      refine Y_getR C (pc := 48) hk0 q_fi_RX9_7 (by decide) dX9_free_48 ?_
      refine Y_bipush C (pc := 51) (v := (115 : Int32)) (by decide) dX9_free_51 ?_
      refine Y_iload_n C (pc := 53) 1 2 rfl rfl dX9_free_53 ?_
      refine Y_iadd C (pc := 54) dX9_free_54 ?_
      refine Y_iconst C (pc := 55) (v := (-1 : Int32)) (by decide) dX9_free_55 ?_
      obtain ⟨s5, hs5, h⟩ := Option.bind_eq_some_iff.mp h
      refine Y_iast C (pc := 56) hW (q_kr_9_0 hk0) (q_lr_9_0 hk0) hs5 dX9_free_56 ?_
      refine Y_aload_n C (pc := 57) 0 1 rfl rfl dX9_free_57 ?_
      refine Y_iload_n C (pc := 58) 2 0 rfl rfl dX9_free_58 ?_
      obtain ⟨v6, hv6, h⟩ := Option.bind_eq_some_iff.mp h
      refine Y_callV C [.int v4] [] [.int v6.1] hk0 rfl rfl (c_X9_ends hI hk0 hv6) (fun _ h => h) q_cw_yX9_ends q_ml_RX9_100 ⟨q_im_yX9_ends, q_se_yX9_ends⟩ ⟨⟨Nat.le_of_ble_eq_true rfl, Nat.le_of_ble_eq_true rfl⟩, ⟨Nat.zero_le _, Nat.zero_le _⟩, Nat.le_of_ble_eq_true rfl⟩ rfl rfl rfl dX9_free_59 ?_
      cases h
      exact Y_iret C dX9_free_62
    · rw [if_pos c8] at h
      refine Y_aload_n C (pc := 27) 0 0 rfl rfl dX9_free_27 ?_
      refine Y_iconst C (pc := 28) (v := (2 : Int32)) (by decide) dX9_free_28 ?_
      obtain ⟨v7, hv7, h⟩ := Option.bind_eq_some_iff.mp h
      refine Y_callV C [.int (2 : Int32)] [] [.int v7.1] hk0 rfl rfl (c_X9_fails hI hk0 hv7) (fun _ h => h) q_cw_yX9_fails q_ml_RX9_94 ⟨q_im_yX9_fails, q_se_yX9_fails⟩ ⟨⟨Nat.le_of_ble_eq_true rfl, Nat.le_of_ble_eq_true rfl⟩, ⟨Nat.zero_le _, Nat.zero_le _⟩, Nat.le_of_ble_eq_true rfl⟩ rfl rfl rfl dX9_free_29 ?_
      cases h
      exact Y_iret C dX9_free_32
  · rw [if_pos c10] at h
    refine Y_aload_n C (pc := 8) 0 0 rfl rfl dX9_free_8 ?_
    refine Y_iconst C (pc := 9) (v := (1 : Int32)) (by decide) dX9_free_9 ?_
    obtain ⟨v9, hv9, h⟩ := Option.bind_eq_some_iff.mp h
    refine Y_callV C [.int (1 : Int32)] [] [.int v9.1] hk0 rfl rfl (c_X9_fails hI hk0 hv9) (fun _ h => h) q_cw_yX9_fails q_ml_RX9_94 ⟨q_im_yX9_fails, q_se_yX9_fails⟩ ⟨⟨Nat.le_of_ble_eq_true rfl, Nat.le_of_ble_eq_true rfl⟩, ⟨Nat.zero_le _, Nat.zero_le _⟩, Nat.le_of_ble_eq_true rfl⟩ rfl rfl rfl dX9_free_10 ?_
    cases h
    exact Y_iret C dX9_free_13

