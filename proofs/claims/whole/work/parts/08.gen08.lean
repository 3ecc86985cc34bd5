set_option maxRecDepth 100000 in
set_option maxHeartbeats 4000000 in
theorem c_X9_takes {l : Launch} {D : va_G} {cA ρ : Nat → Nat} {σ : Sg} {τ : Tg} {k0 : Nat} (hI : Inj ρ) (hk0 : kd k0 = (0, 9)) {r : Sg} (h : f_X9_takes σ k0 = some r) : Ct l yX9_takes cX9_takes 2 none 0 0 D cA ρ (Aw ρ) [.ref (ρ k0)] σ τ none r τ := by
  refine Ct_of (by decide +kernel) (Nat.le_of_ble_eq_true rfl) (fun p e s m args below meth c C => ?_)
  have C : Ctx p l s m args meth c cX9_takes RX9 2 none D cA ρ (Aw ρ) := C
  have hW : Wr ρ (Aw ρ) := ⟨hI, fun k hk => ⟨k, hk, rfl⟩⟩
  unfold f_X9_takes at h
  refine Y_sub [0] (lv' := [(0, .ref (ρ k0))]) rfl ?_
  refine Y_iconst C (pc := 0) (v := (0 : Int32)) (by decide) dX9_takes_0 ?_
  refine Y_istore_n C (pc := 1) (lv' := [(1, .int (0 : Int32)), (0, .ref (ρ k0))]) 1 rfl (by decide) rfl dX9_takes_1 ?_
  obtain ⟨e6, he6, h⟩ := Option.bind_eq_some_iff.mp h
  refine Y_sub [1, 0] (lv' := [(0, .ref (ρ k0)), (1, .int (0 : Int32))]) rfl ?_
  refine lo_rule (f := (f_X9_takes_L2 k0)) (YS := fun s1 => Y p l e (Rm 0 0) s m args below meth c 2 D cA ρ (Aw ρ) 0 0 (MQ below (QC D cA ρ (Aw ρ) none r τ) args s 0 0 (Aw ρ)) s1.2 τ 2 [(0, .ref (ρ k0)), (1, .int s1.1)] []) (YE := fun e6 => Y p l e (Rm 0 0) s m args below meth c 2 D cA ρ (Aw ρ) 0 0 (MQ below (QC D cA ρ (Aw ρ) none r τ) args s 0 0 (Aw ρ)) e6 τ 33 [] []) ?_ he6 ?_
  · intro s1 x h hLp hE
    unfold f_X9_takes_L2 at h
    refine Y_iload_n C (pc := 2) 1 1 rfl rfl dX9_takes_2 ?_
    refine Y_aload_n C (pc := 3) 0 0 rfl rfl dX9_takes_3 ?_
    refine Y_getR C (pc := 4) hk0 q_fi_RX9_7 (by decide) dX9_takes_4 ?_
    refine Y_iconst C (pc := 7) (v := (0 : Int32)) (by decide) dX9_takes_7 ?_
    obtain ⟨v2, hv2, h⟩ := Option.bind_eq_some_iff.mp h
    refine Y_iald C (pc := 8) (q_kr_9_0 hk0) hv2 dX9_takes_8 ?_
    refine Y_icmp_ge C (pc := 9) (tgt := 33) dX9_takes_9 (by decide) (fun c5 => ?_) (fun c5 => ?_)
    · rw [if_pos c5] at h
      have h := Option.some.inj h
      exact Y_sub [] rfl (hE _ h.symm)
    · rw [if_neg c5] at h
      refine Y_aload_n C (pc := 12) 0 0 rfl rfl dX9_takes_12 ?_
      refine Y_getR C (pc := 13) hk0 q_fi_RX9_22 (by decide) dX9_takes_13 ?_
      refine Y_iload_n C (pc := 16) 1 1 rfl rfl dX9_takes_16 ?_
      refine Y_aload_n C (pc := 17) 0 0 rfl rfl dX9_takes_17 ?_
      refine Y_getR C (pc := 18) hk0 q_fi_RX9_7 (by decide) dX9_takes_18 ?_
      refine Y_bipush C (pc := 21) (v := (109 : Int32)) (by decide) dX9_takes_21 ?_
      refine Y_iload_n C (pc := 23) 1 1 rfl rfl dX9_takes_23 ?_
      refine Y_iadd C (pc := 24) dX9_takes_24 ?_
      obtain ⟨v3, hv3, h⟩ := Option.bind_eq_some_iff.mp h
      refine Y_iald C (pc := 25) (q_kr_9_0 hk0) hv3 dX9_takes_25 ?_
      obtain ⟨s4, hs4, h⟩ := Option.bind_eq_some_iff.mp h
      refine Y_iast C (pc := 26) hW (q_kr_9_7 hk0) (q_lr_9_7 hk0) hs4 dX9_takes_26 ?_
      refine Y_iinc C (pc := 27) (v := (s1.1 + 1)) (lv' := [(1, .int (s1.1 + 1)), (0, .ref (ρ k0))]) 1 rfl (congrArg (fun z => s1.1 + z) (by decide : Int32.ofInt (1) = (1))) (by decide) rfl dX9_takes_27 ?_
      refine Y_goto C (pc := 30) (tgt := 2) dX9_takes_30 (by decide) ?_
      have h := Option.some.inj h
      exact Y_sub [1, 0] rfl (hLp _ h.symm)
  · cases h
    exact Y_vret C dX9_takes_33

set_option maxRecDepth 100000 in
set_option maxHeartbeats 4000000 in
theorem c_X9_firsts {l : Launch} {D : va_G} {cA ρ : Nat → Nat} {σ : Sg} {τ : Tg} {k0 : Nat} (hI : Inj ρ) (hk0 : kd k0 = (0, 9)) {r : Sg} (h : f_X9_firsts σ k0 = some r) : Ct l yX9_firsts cX9_firsts 2 none 0 0 D cA ρ (Aw ρ) [.ref (ρ k0)] σ τ none r τ := by
  refine Ct_of (by decide +kernel) (Nat.le_of_ble_eq_true rfl) (fun p e s m args below meth c C => ?_)
  have C : Ctx p l s m args meth c cX9_firsts RX9 2 none D cA ρ (Aw ρ) := C
  have hW : Wr ρ (Aw ρ) := ⟨hI, fun k hk => ⟨k, hk, rfl⟩⟩
  unfold f_X9_firsts at h
  refine Y_sub [0] (lv' := [(0, .ref (ρ k0))]) rfl ?_
  refine Y_iconst C (pc := 0) (v := (0 : Int32)) (by decide) dX9_firsts_0 ?_
  refine Y_istore_n C (pc := 1) (lv' := [(1, .int (0 : Int32)), (0, .ref (ρ k0))]) 1 rfl (by decide) rfl dX9_firsts_1 ?_
  obtain ⟨e4, he4, h⟩ := Option.bind_eq_some_iff.mp h
  refine Y_sub [1, 0] (lv' := [(0, .ref (ρ k0)), (1, .int (0 : Int32))]) rfl ?_
  refine lo_rule (f := (f_X9_firsts_L2 k0)) (YS := fun s1 => Y p l e (Rm 0 0) s m args below meth c 2 D cA ρ (Aw ρ) 0 0 (MQ below (QC D cA ρ (Aw ρ) none r τ) args s 0 0 (Aw ρ)) s1.2 τ 2 [(0, .ref (ρ k0)), (1, .int s1.1)] []) (YE := fun e4 => Y p l e (Rm 0 0) s m args below meth c 2 D cA ρ (Aw ρ) 0 0 (MQ below (QC D cA ρ (Aw ρ) none r τ) args s 0 0 (Aw ρ)) e4 τ 21 [] []) ?_ he4 ?_
  · intro s1 x h hLp hE
    unfold f_X9_firsts_L2 at h
    refine Y_iload_n C (pc := 2) 1 1 rfl rfl dX9_firsts_2 ?_
    refine Y_bipush C (pc := 3) (v := (6 : Int32)) (by decide) dX9_firsts_3 ?_
    refine Y_icmp_ge C (pc := 5) (tgt := 21) dX9_firsts_5 (by decide) (fun c3 => ?_) (fun c3 => ?_)
    · rw [if_pos c3] at h
      have h := Option.some.inj h
      exact Y_sub [] rfl (hE _ h.symm)
    · rw [if_neg c3] at h
      refine Y_aload_n C (pc := 8) 0 0 rfl rfl dX9_firsts_8 ?_
      refine Y_getR C (pc := 9) hk0 q_fi_RX9_22 (by decide) dX9_firsts_9 ?_
      refine Y_iload_n C (pc := 12) 1 1 rfl rfl dX9_firsts_12 ?_
      refine Y_iload_n C (pc := 13) 1 1 rfl rfl dX9_firsts_13 ?_
      obtain ⟨s2, hs2, h⟩ := Option.bind_eq_some_iff.mp h
      refine Y_iast C (pc := 14) hW (q_kr_9_7 hk0) (q_lr_9_7 hk0) hs2 dX9_firsts_14 ?_
      refine Y_iinc C (pc := 15) (v := (s1.1 + 1)) (lv' := [(1, .int (s1.1 + 1)), (0, .ref (ρ k0))]) 1 rfl (congrArg (fun z => s1.1 + z) (by decide : Int32.ofInt (1) = (1))) (by decide) rfl dX9_firsts_15 ?_
      refine Y_goto C (pc := 18) (tgt := 2) dX9_firsts_18 (by decide) ?_
      have h := Option.some.inj h
      exact Y_sub [1, 0] rfl (hLp _ h.symm)
  · cases h
    exact Y_vret C dX9_firsts_21

set_option maxRecDepth 100000 in
set_option maxHeartbeats 4000000 in
theorem c_X9_swaps {l : Launch} {D : va_G} {cA ρ : Nat → Nat} {σ : Sg} {τ : Tg} {k0 : Nat} {i1 : Int32} {i2 : Int32} (hI : Inj ρ) (hk0 : kd k0 = (0, 9)) {r : Sg} (h : f_X9_swaps σ k0 i1 i2 = some r) : Ct l yX9_swaps cX9_swaps 4 none 0 0 D cA ρ (Aw ρ) [.ref (ρ k0), .int i1, .int i2] σ τ none r τ := by
  refine Ct_of (by decide +kernel) (Nat.le_of_ble_eq_true rfl) (fun p e s m args below meth c C => ?_)
  have C : Ctx p l s m args meth c cX9_swaps RX9 4 none D cA ρ (Aw ρ) := C
  have hW : Wr ρ (Aw ρ) := ⟨hI, fun k hk => ⟨k, hk, rfl⟩⟩
  unfold f_X9_swaps at h
  refine Y_sub [0, 1, 2] (lv' := [(0, .ref (ρ k0)), (1, .int i1), (2, .int i2)]) rfl ?_
  refine Y_aload_n C (pc := 0) 0 0 rfl rfl dX9_swaps_0 ?_
  refine Y_getR C (pc := 1) hk0 q_fi_RX9_22 (by decide) dX9_swaps_1 ?_
  refine Y_iload_n C (pc := 4) 1 1 rfl rfl dX9_swaps_4 ?_
  obtain ⟨v1, hv1, h⟩ := Option.bind_eq_some_iff.mp h
  refine Y_iald C (pc := 5) (q_kr_9_7 hk0) hv1 dX9_swaps_5 ?_
  refine Y_istore_n C (pc := 6) (lv' := [(3, .int v1), (0, .ref (ρ k0)), (1, .int i1), (2, .int i2)]) 3 rfl (by decide) rfl dX9_swaps_6 ?_
  refine Y_aload_n C (pc := 7) 0 1 rfl rfl dX9_swaps_7 ?_
  refine Y_getR C (pc := 8) hk0 q_fi_RX9_22 (by decide) dX9_swaps_8 ?_
  refine Y_iload_n C (pc := 11) 1 2 rfl rfl dX9_swaps_11 ?_
  refine Y_aload_n C (pc := 12) 0 1 rfl rfl dX9_swaps_12 ?_
  refine Y_getR C (pc := 13) hk0 q_fi_RX9_22 (by decide) dX9_swaps_13 ?_
  refine Y_iload_n C (pc := 16) 2 3 rfl rfl dX9_swaps_16 ?_
  obtain ⟨v2, hv2, h⟩ := Option.bind_eq_some_iff.mp h
  refine Y_iald C (pc := 17) (q_kr_9_7 hk0) hv2 dX9_swaps_17 ?_
  obtain ⟨s3, hs3, h⟩ := Option.bind_eq_some_iff.mp h
  refine Y_iast C (pc := 18) hW (q_kr_9_7 hk0) (q_lr_9_7 hk0) hs3 dX9_swaps_18 ?_
  refine Y_aload_n C (pc := 19) 0 1 rfl rfl dX9_swaps_19 ?_
  refine Y_getR C (pc := 20) hk0 q_fi_RX9_22 (by decide) dX9_swaps_20 ?_
  refine Y_iload_n C (pc := 23) 2 3 rfl rfl dX9_swaps_23 ?_
  refine Y_iload_n C (pc := 24) 3 0 rfl rfl dX9_swaps_24 ?_
  obtain ⟨s4, hs4, h⟩ := Option.bind_eq_some_iff.mp h
  refine Y_iast C (pc := 25) hW (q_kr_9_7 hk0) (q_lr_9_7 hk0) hs4 dX9_swaps_25 ?_
  cases h
  exact Y_vret C dX9_swaps_26

set_option maxRecDepth 100000 in
set_option maxHeartbeats 4000000 in
theorem c_X9_goesOn {l : Launch} {D : va_G} {cA ρ : Nat → Nat} {σ : Sg} {τ : Tg} {k0 : Nat} (hI : Inj ρ) (hk0 : kd k0 = (0, 9)) {r : Int32 × Sg} (h : f_X9_goesOn σ k0 = some r) : Ct l yX9_goesOn cX9_goesOn 5 (some .boolean) 1 23 D cA ρ (Aw ρ) [.ref (ρ k0)] σ τ (some (.int r.1)) r.2 τ := by
  refine Ct_of (by decide +kernel) (Nat.le_of_ble_eq_true rfl) (fun p e s m args below meth c C => ?_)
  have C : Ctx p l s m args meth c cX9_goesOn RX9 5 (some .boolean) D cA ρ (Aw ρ) := C
  have hW : Wr ρ (Aw ρ) := ⟨hI, fun k hk => ⟨k, hk, rfl⟩⟩
  unfold f_X9_goesOn at h
  refine Y_sub [0] (lv' := [(0, .ref (ρ k0))]) rfl ?_
  refine Y_aload_n C (pc := 0) 0 0 rfl rfl dX9_goesOn_0 ?_
  refine Y_getR C (pc := 1) hk0 q_fi_RX9_7 (by decide) dX9_goesOn_1 ?_
  refine Y_iconst C (pc := 4) (v := (0 : Int32)) (by decide) dX9_goesOn_4 ?_
  obtain ⟨v1, hv1, h⟩ := Option.bind_eq_some_iff.mp h
  refine Y_iald C (pc := 5) (q_kr_9_0 hk0) hv1 dX9_goesOn_5 ?_
  refine Y_iconst C (pc := 6) (v := (2 : Int32)) (by decide) dX9_goesOn_6 ?_
  refine Y_isub C (pc := 7) dX9_goesOn_7 ?_
  refine Y_istore_n C (pc := 8) (lv' := [(1, .int (v1 - (2 : Int32))), (0, .ref (ρ k0))]) 1 rfl (by decide) rfl dX9_goesOn_8 ?_
  obtain ⟨e7, he7, h⟩ := Option.bind_eq_some_iff.mp h
  refine Y_sub [1, 0] (lv' := [(0, .ref (ρ k0)), (1, .int (v1 - (2 : Int32)))]) rfl ?_
  refine lo_rule (f := (f_X9_goesOn_L9 σ k0)) (YS := fun s2 => Y p l e (Rm 1 23) s m args below meth c 5 D cA ρ (Aw ρ) 0 0 (MQ below (QC D cA ρ (Aw ρ) (some (.int r.1)) r.2 τ) args s 0 0 (Aw ρ)) σ τ 9 [(0, .ref (ρ k0)), (1, .int s2)] []) (YE := fun e7 => Y p l e (Rm 1 23) s m args below meth c 5 D cA ρ (Aw ρ) 0 0 (MQ below (QC D cA ρ (Aw ρ) (some (.int r.1)) r.2 τ) args s 0 0 (Aw ρ)) σ τ 36 [(0, .ref (ρ k0)), (1, .int e7)] []) ?_ he7 ?_
  · intro s2 x h hLp hE
    unfold f_X9_goesOn_L9 at h
    refine Y_iload_n C (pc := 9) 1 1 rfl rfl dX9_goesOn_9 ?_
    refine Y_if_lt C (pc := 10) (tgt := 36) dX9_goesOn_10 (by decide) (fun c6 => ?_) (fun c6 => ?_)
    · rw [if_pos c6] at h
      have h := Option.some.inj h
      exact Y_sub [0, 1] rfl (hE _ h.symm)
    · rw [if_neg c6] at h
      refine Y_aload_n C (pc := 13) 0 0 rfl rfl dX9_goesOn_13 ?_
      refine Y_getR C (pc := 14) hk0 q_fi_RX9_22 (by decide) dX9_goesOn_14 ?_
      refine Y_iload_n C (pc := 17) 1 1 rfl rfl dX9_goesOn_17 ?_
      obtain ⟨v3, hv3, h⟩ := Option.bind_eq_some_iff.mp h
      refine Y_iald C (pc := 18) (q_kr_9_7 hk0) hv3 dX9_goesOn_18 ?_
      refine Y_aload_n C (pc := 19) 0 0 rfl rfl dX9_goesOn_19 ?_
      refine Y_getR C (pc := 20) hk0 q_fi_RX9_22 (by decide) dX9_goesOn_20 ?_
      refine Y_iload_n C (pc := 23) 1 1 rfl rfl dX9_goesOn_23 ?_
      refine Y_iconst C (pc := 24) (v := (1 : Int32)) (by decide) dX9_goesOn_24 ?_
      refine Y_iadd C (pc := 25) dX9_goesOn_25 ?_
      obtain ⟨v4, hv4, h⟩ := Option.bind_eq_some_iff.mp h
      refine Y_iald C (pc := 26) (q_kr_9_7 hk0) hv4 dX9_goesOn_26 ?_
      refine Y_icmp_le C (pc := 27) (tgt := 36) dX9_goesOn_27 (by decide) (fun c5 => ?_) (fun c5 => ?_)
      · rw [if_pos c5] at h
        have h := Option.some.inj h
        exact Y_sub [0, 1] rfl (hE _ h.symm)
      · rw [if_neg c5] at h
        refine Y_iinc C (pc := 30) (v := (s2 + (-1))) (lv' := [(1, .int (s2 + (-1))), (0, .ref (ρ k0))]) 1 rfl (congrArg (fun z => s2 + z) (by decide : Int32.ofInt (-1) = (-1))) (by decide) rfl dX9_goesOn_30 ?_
        refine Y_goto C (pc := 33) (tgt := 9) dX9_goesOn_33 (by decide) ?_
        have h := Option.some.inj h
        exact Y_sub [1, 0] rfl (hLp _ h.symm)
  · refine Y_iload_n C (pc := 36) 1 1 rfl rfl dX9_goesOn_36 ?_
    refine Y_if_ge C (pc := 37) (tgt := 42) dX9_goesOn_37 (by decide) (fun c20 => ?_) (fun c20 => ?_)
    · rw [if_pos c20] at h
      refine Y_aload_n C (pc := 42) 0 0 rfl rfl dX9_goesOn_42 ?_
      refine Y_getR C (pc := 43) hk0 q_fi_RX9_7 (by decide) dX9_goesOn_43 ?_
      refine Y_iconst C (pc := 46) (v := (0 : Int32)) (by decide) dX9_goesOn_46 ?_
      obtain ⟨v8, hv8, h⟩ := Option.bind_eq_some_iff.mp h
      refine Y_iald C (pc := 47) (q_kr_9_0 hk0) hv8 dX9_goesOn_47 ?_
      refine Y_iconst C (pc := 48) (v := (1 : Int32)) (by decide) dX9_goesOn_48 ?_
      refine Y_isub C (pc := 49) dX9_goesOn_49 ?_
      refine Y_istore_n C (pc := 50) (lv' := [(2, .int (v8 - (1 : Int32))), (0, .ref (ρ k0)), (1, .int e7)]) 2 rfl (by decide) rfl dX9_goesOn_50 ?_
      obtain ⟨e13, he13, h⟩ := Option.bind_eq_some_iff.mp h
      refine Y_sub [1, 2, 0] (lv' := [(0, .ref (ρ k0)), (1, .int e7), (2, .int (v8 - (1 : Int32)))]) rfl ?_
      refine lo_rule (f := (f_X9_goesOn_L51 σ k0 e7)) (YS := fun s9 => Y p l e (Rm 1 23) s m args below meth c 5 D cA ρ (Aw ρ) 0 0 (MQ below (QC D cA ρ (Aw ρ) (some (.int r.1)) r.2 τ) args s 0 0 (Aw ρ)) σ τ 51 [(0, .ref (ρ k0)), (1, .int e7), (2, .int s9)] []) (YE := fun e13 => Y p l e (Rm 1 23) s m args below meth c 5 D cA ρ (Aw ρ) 0 0 (MQ below (QC D cA ρ (Aw ρ) (some (.int r.1)) r.2 τ) args s 0 0 (Aw ρ)) σ τ 72 [(0, .ref (ρ k0)), (1, .int e7), (2, .int e13)] []) ?_ he13 ?_
      · intro s9 x h hLp hE
        unfold f_X9_goesOn_L51 at h
        refine Y_aload_n C (pc := 51) 0 0 rfl rfl dX9_goesOn_51 ?_
        refine Y_getR C (pc := 52) hk0 q_fi_RX9_22 (by decide) dX9_goesOn_52 ?_
        refine Y_iload_n C (pc := 55) 2 2 rfl rfl dX9_goesOn_55 ?_
        obtain ⟨v10, hv10, h⟩ := Option.bind_eq_some_iff.mp h
        refine Y_iald C (pc := 56) (q_kr_9_7 hk0) hv10 dX9_goesOn_56 ?_
        refine Y_aload_n C (pc := 57) 0 0 rfl rfl dX9_goesOn_57 ?_
        refine Y_getR C (pc := 58) hk0 q_fi_RX9_22 (by decide) dX9_goesOn_58 ?_
        refine Y_iload_n C (pc := 61) 1 1 rfl rfl dX9_goesOn_61 ?_
        obtain ⟨v11, hv11, h⟩ := Option.bind_eq_some_iff.mp h
        refine Y_iald C (pc := 62) (q_kr_9_7 hk0) hv11 dX9_goesOn_62 ?_
        refine Y_icmp_ge C (pc := 63) (tgt := 72) dX9_goesOn_63 (by decide) (fun c12 => ?_) (fun c12 => ?_)
        · rw [if_pos c12] at h
          have h := Option.some.inj h
          exact Y_sub [0, 1, 2] rfl (hE _ h.symm)
        · rw [if_neg c12] at h
          refine Y_iinc C (pc := 66) (v := (s9 + (-1))) (lv' := [(2, .int (s9 + (-1))), (0, .ref (ρ k0)), (1, .int e7)]) 2 rfl (congrArg (fun z => s9 + z) (by decide : Int32.ofInt (-1) = (-1))) (by decide) rfl dX9_goesOn_66 ?_
          refine Y_goto C (pc := 69) (tgt := 51) dX9_goesOn_69 (by decide) ?_
          have h := Option.some.inj h
          exact Y_sub [1, 2, 0] rfl (hLp _ h.symm)
      · refine Y_aload_n C (pc := 72) 0 0 rfl rfl dX9_goesOn_72 ?_
        refine Y_iload_n C (pc := 73) 1 1 rfl rfl dX9_goesOn_73 ?_
        refine Y_iload_n C (pc := 74) 2 2 rfl rfl dX9_goesOn_74 ?_
        obtain ⟨v14, hv14, h⟩ := Option.bind_eq_some_iff.mp h
        refine Y_callV C [.int e7, .int e13] [] [] hk0 rfl rfl (c_X9_swaps hI hk0 hv14) (fun _ h => h) q_cw_yX9_swaps q_ml_RX9_115 ⟨q_im_yX9_swaps, q_se_yX9_swaps⟩ ⟨⟨Nat.le_of_ble_eq_true rfl, Nat.le_of_ble_eq_true rfl⟩, ⟨Nat.zero_le _, Nat.zero_le _⟩, Nat.le_of_ble_eq_true rfl⟩ rfl rfl rfl dX9_goesOn_75 ?_
        refine Y_iload_n C (pc := 78) 1 1 rfl rfl dX9_goesOn_78 ?_
        refine Y_iconst C (pc := 79) (v := (1 : Int32)) (by decide) dX9_goesOn_79 ?_
        refine Y_iadd C (pc := 80) dX9_goesOn_80 ?_
        refine Y_istore_n C (pc := 81) (lv' := [(3, .int (e7 + (1 : Int32))), (0, .ref (ρ k0)), (1, .int e7), (2, .int e13)]) 3 rfl (by decide) rfl dX9_goesOn_81 ?_
        refine Y_aload_n C (pc := 82) 0 1 rfl rfl dX9_goesOn_82 ?_
        refine Y_getR C (pc := 83) hk0 q_fi_RX9_7 (by decide) dX9_goesOn_83 ?_
        refine Y_iconst C (pc := 86) (v := (0 : Int32)) (by decide) dX9_goesOn_86 ?_
        obtain ⟨v15, hv15, h⟩ := Option.bind_eq_some_iff.mp h
        refine Y_iald C (pc := 87) (q_kr_9_0 hk0) hv15 dX9_goesOn_87 ?_
        refine Y_iconst C (pc := 88) (v := (1 : Int32)) (by decide) dX9_goesOn_88 ?_
        refine Y_isub C (pc := 89) dX9_goesOn_89 ?_
        refine Y_istore C (pc := 90) (lv' := [(4, .int (v15 - (1 : Int32))), (3, .int (e7 + (1 : Int32))), (0, .ref (ρ k0)), (1, .int e7), (2, .int e13)]) (by decide) rfl dX9_goesOn_90 ?_
        obtain ⟨e19, he19, h⟩ := Option.bind_eq_some_iff.mp h
        refine Y_sub [2, 1, 0] (lv' := [(0, .ref (ρ k0)), (3, .int (e7 + (1 : Int32))), (4, .int (v15 - (1 : Int32)))]) rfl ?_
        refine lo_rule (f := (f_X9_goesOn_L92 k0)) (YS := fun s16 => Y p l e (Rm 1 23) s m args below meth c 5 D cA ρ (Aw ρ) 0 0 (MQ below (QC D cA ρ (Aw ρ) (some (.int r.1)) r.2 τ) args s 0 0 (Aw ρ)) s16.2.2 τ 92 [(0, .ref (ρ k0)), (3, .int s16.1), (4, .int s16.2.1)] []) (YE := fun e19 => Y p l e (Rm 1 23) s m args below meth c 5 D cA ρ (Aw ρ) 0 0 (MQ below (QC D cA ρ (Aw ρ) (some (.int r.1)) r.2 τ) args s 0 0 (Aw ρ)) e19 τ 114 [] []) ?_ he19 ?_
        · intro s16 x h hLp hE
          unfold f_X9_goesOn_L92 at h
          refine Y_iload_n C (pc := 92) 3 1 rfl rfl dX9_goesOn_92 ?_
          refine Y_iload C (pc := 93) 2 rfl dX9_goesOn_93 ?_
          refine Y_icmp_ge C (pc := 95) (tgt := 114) dX9_goesOn_95 (by decide) (fun c18 => ?_) (fun c18 => ?_)
          · rw [if_pos c18] at h
            have h := Option.some.inj h
            exact Y_sub [] rfl (hE _ h.symm)
          · rw [if_neg c18] at h
            refine Y_aload_n C (pc := 98) 0 0 rfl rfl dX9_goesOn_98 ?_
            refine Y_iload_n C (pc := 99) 3 1 rfl rfl dX9_goesOn_99 ?_
            refine Y_iload C (pc := 100) 2 rfl dX9_goesOn_100 ?_
            obtain ⟨v17, hv17, h⟩ := Option.bind_eq_some_iff.mp h
            refine Y_callV C [.int s16.1, .int s16.2.1] [] [] hk0 rfl rfl (c_X9_swaps hI hk0 hv17) (fun _ h => h) q_cw_yX9_swaps q_ml_RX9_115 ⟨q_im_yX9_swaps, q_se_yX9_swaps⟩ ⟨⟨Nat.le_of_ble_eq_true rfl, Nat.le_of_ble_eq_true rfl⟩, ⟨Nat.zero_le _, Nat.zero_le _⟩, Nat.le_of_ble_eq_true rfl⟩ rfl rfl rfl dX9_goesOn_102 ?_
            refine Y_iinc C (pc := 105) (v := (s16.1 + 1)) (lv' := [(3, .int (s16.1 + 1)), (0, .ref (ρ k0)), (4, .int s16.2.1)]) 1 rfl (congrArg (fun z => s16.1 + z) (by decide : Int32.ofInt (1) = (1))) (by decide) rfl dX9_goesOn_105 ?_
            refine Y_iinc C (pc := 108) (v := (s16.2.1 + (-1))) (lv' := [(4, .int (s16.2.1 + (-1))), (3, .int (s16.1 + 1)), (0, .ref (ρ k0))]) 2 rfl (congrArg (fun z => s16.2.1 + z) (by decide : Int32.ofInt (-1) = (-1))) (by decide) rfl dX9_goesOn_108 ?_
            refine Y_goto C (pc := 111) (tgt := 92) dX9_goesOn_111 (by decide) ?_
            have h := Option.some.inj h
            exact Y_sub [2, 1, 0] rfl (hLp _ h.symm)
        · refine Y_iconst C (pc := 114) (v := (1 : Int32)) (by decide) dX9_goesOn_114 ?_
          cases h
          exact Y_zret (x := (1 : Int32)) (by decide) C dX9_goesOn_115
    · rw [if_neg c20] at h
      refine Y_iconst C (pc := 40) (v := (0 : Int32)) (by decide) dX9_goesOn_40 ?_
      cases h
      exact Y_zret (x := (0 : Int32)) (by decide) C dX9_goesOn_41

set_option maxRecDepth 100000 in
set_option maxHeartbeats 4000000 in
theorem c_X9_costOf {l : Launch} {D : va_G} {cA ρ : Nat → Nat} {σ : Sg} {τ : Tg} {k0 : Nat} (hk0 : kd k0 = (0, 9)) {r : Int32} (h : f_X9_costOf σ k0 = some r) : Ct l yX9_costOf cX9_costOf 4 (some .int) 2 44 D cA ρ A0 [.ref (ρ k0)] σ τ (some (.int r)) σ τ := by
  refine Ct_of (by decide +kernel) (Nat.le_of_ble_eq_true rfl) (fun p e s m args below meth c C => ?_)
  have C : Ctx p l s m args meth c cX9_costOf RX9 4 (some .int) D cA ρ A0 := C
  unfold f_X9_costOf at h
  refine Y_sub [0] (lv' := [(0, .ref (ρ k0))]) rfl ?_
  refine Y_iconst C (pc := 0) (v := (0 : Int32)) (by decide) dX9_costOf_0 ?_
  refine Y_istore_n C (pc := 1) (lv' := [(1, .int (0 : Int32)), (0, .ref (ρ k0))]) 1 rfl (by decide) rfl dX9_costOf_1 ?_
  refine Y_iconst C (pc := 2) (v := (0 : Int32)) (by decide) dX9_costOf_2 ?_
  refine Y_istore_n C (pc := 3) (lv' := [(2, .int (0 : Int32)), (1, .int (0 : Int32)), (0, .ref (ρ k0))]) 2 rfl (by decide) rfl dX9_costOf_3 ?_
  obtain ⟨e14, he14, h⟩ := Option.bind_eq_some_iff.mp h
  refine Y_sub [2, 1, 0] (lv' := [(0, .ref (ρ k0)), (1, .int (0 : Int32)), (2, .int (0 : Int32))]) rfl ?_
  refine lo_rule (f := (f_X9_costOf_L4 σ k0)) (YS := fun s1 => Y p l e (Rm 2 44) s m args below meth c 4 D cA ρ A0 0 0 (MQ below (QC D cA ρ A0 (some (.int r)) σ τ) args s 0 0 A0) σ τ 4 [(0, .ref (ρ k0)), (1, .int s1.1), (2, .int s1.2)] []) (YE := fun e14 => Y p l e (Rm 2 44) s m args below meth c 4 D cA ρ A0 0 0 (MQ below (QC D cA ρ A0 (some (.int r)) σ τ) args s 0 0 A0) σ τ 78 [(1, .int e14)] []) ?_ he14 ?_
  · intro s1 x h hLp hE
    unfold f_X9_costOf_L4 at h
    refine Y_iload_n C (pc := 4) 2 2 rfl rfl dX9_costOf_4 ?_
    refine Y_aload_n C (pc := 5) 0 0 rfl rfl dX9_costOf_5 ?_
    refine Y_getR C (pc := 6) hk0 q_fi_RX9_7 (by decide) dX9_costOf_6 ?_
    refine Y_iconst C (pc := 9) (v := (0 : Int32)) (by decide) dX9_costOf_9 ?_
    obtain ⟨v2, hv2, h⟩ := Option.bind_eq_some_iff.mp h
    refine Y_iald C (pc := 10) (q_kr_9_0 hk0) hv2 dX9_costOf_10 ?_
    refine Y_icmp_ge C (pc := 11) (tgt := 78) dX9_costOf_11 (by decide) (fun c13 => ?_) (fun c13 => ?_)
    · rw [if_pos c13] at h
      have h := Option.some.inj h
      exact Y_sub [1] rfl (hE _ h.symm)
    · rw [if_neg c13] at h
      refine Y_iload_n C (pc := 14) 1 1 rfl rfl dX9_costOf_14 ?_
      refine Y_aload_n C (pc := 15) 0 0 rfl rfl dX9_costOf_15 ?_
      refine Y_iload_n C (pc := 16) 2 2 rfl rfl dX9_costOf_16 ?_
      refine Y_aload_n C (pc := 17) 0 0 rfl rfl dX9_costOf_17 ?_
      refine Y_getR C (pc := 18) hk0 q_fi_RX9_22 (by decide) dX9_costOf_18 ?_
      refine Y_iload_n C (pc := 21) 2 2 rfl rfl dX9_costOf_21 ?_
      obtain ⟨v3, hv3, h⟩ := Option.bind_eq_some_iff.mp h
      refine Y_iald C (pc := 22) (q_kr_9_7 hk0) hv3 dX9_costOf_22 ?_
      obtain ⟨v4, hv4, h⟩ := Option.bind_eq_some_iff.mp h
      refine Y_callV C [.int s1.2, .int v3] [.int s1.1] [.int v4, .int s1.1] hk0 rfl rfl (c_X9_price hk0 hv4) (fun _ h => h.elim) q_cw_yX9_price q_ml_RX9_119 ⟨q_im_yX9_price, q_se_yX9_price⟩ ⟨⟨Nat.le_of_ble_eq_true rfl, Nat.le_of_ble_eq_true rfl⟩, ⟨Nat.zero_le _, Nat.zero_le _⟩, Nat.le_of_ble_eq_true rfl⟩ rfl rfl rfl dX9_costOf_23 ?_
      refine Y_iadd C (pc := 26) dX9_costOf_26 ?_
      refine Y_istore_n C (pc := 27) (lv' := [(1, .int (s1.1 + v4)), (0, .ref (ρ k0)), (2, .int s1.2)]) 1 rfl (by decide) rfl dX9_costOf_27 ?_
      refine Y_iconst C (pc := 28) (v := (0 : Int32)) (by decide) dX9_costOf_28 ?_
      refine Y_istore_n C (pc := 29) (lv' := [(3, .int (0 : Int32)), (1, .int (s1.1 + v4)), (0, .ref (ρ k0)), (2, .int s1.2)]) 3 rfl (by decide) rfl dX9_costOf_29 ?_
      obtain ⟨e12, he12, h⟩ := Option.bind_eq_some_iff.mp h
      refine Y_sub [2, 1, 3, 0] (lv' := [(0, .ref (ρ k0)), (1, .int (s1.1 + v4)), (2, .int s1.2), (3, .int (0 : Int32))]) rfl ?_
      refine lo_rule (f := (f_X9_costOf_L30 σ k0 s1)) (YS := fun s5 => Y p l e (Rm 2 44) s m args below meth c 4 D cA ρ A0 0 0 (MQ below (QC D cA ρ A0 (some (.int r)) σ τ) args s 0 0 A0) σ τ 30 [(0, .ref (ρ k0)), (1, .int s5.1), (2, .int s1.2), (3, .int s5.2)] []) (YE := fun e12 => Y p l e (Rm 2 44) s m args below meth c 4 D cA ρ A0 0 0 (MQ below (QC D cA ρ A0 (some (.int r)) σ τ) args s 0 0 A0) σ τ 72 [(0, .ref (ρ k0)), (1, .int e12), (2, .int s1.2)] []) ?_ he12 ?_
      · intro s5 x h hLp hE
        unfold f_X9_costOf_L30 at h
        refine Y_iload_n C (pc := 30) 3 3 rfl rfl dX9_costOf_30 ?_
        refine Y_aload_n C (pc := 31) 0 0 rfl rfl dX9_costOf_31 ?_
        refine Y_getR C (pc := 32) hk0 q_fi_RX9_7 (by decide) dX9_costOf_32 ?_
        refine Y_iconst C (pc := 35) (v := (0 : Int32)) (by decide) dX9_costOf_35 ?_
        obtain ⟨v6, hv6, h⟩ := Option.bind_eq_some_iff.mp h
        refine Y_iald C (pc := 36) (q_kr_9_0 hk0) hv6 dX9_costOf_36 ?_
        refine Y_icmp_ge C (pc := 37) (tgt := 72) dX9_costOf_37 (by decide) (fun c11 => ?_) (fun c11 => ?_)
        · rw [if_pos c11] at h
          have h := Option.some.inj h
          exact Y_sub [0, 1, 2] rfl (hE _ h.symm)
        · rw [if_neg c11] at h
          refine Y_iload_n C (pc := 40) 1 1 rfl rfl dX9_costOf_40 ?_
          refine Y_aload_n C (pc := 41) 0 0 rfl rfl dX9_costOf_41 ?_
          refine Y_iload_n C (pc := 42) 2 2 rfl rfl dX9_costOf_42 ?_
          refine Y_iload_n C (pc := 43) 3 3 rfl rfl dX9_costOf_43 ?_
          obtain ⟨v7, hv7, h⟩ := Option.bind_eq_some_iff.mp h
          refine Y_callV C [.int s1.2, .int s5.2] [.int s5.1] [.int v7, .int s5.1] hk0 rfl rfl (c_X9_flow hk0 hv7) (fun _ h => h.elim) q_cw_yX9_flow q_ml_RX9_123 ⟨q_im_yX9_flow, q_se_yX9_flow⟩ ⟨⟨Nat.le_of_ble_eq_true rfl, Nat.le_of_ble_eq_true rfl⟩, ⟨Nat.zero_le _, Nat.zero_le _⟩, Nat.le_of_ble_eq_true rfl⟩ rfl rfl rfl dX9_costOf_44 ?_
          refine Y_aload_n C (pc := 47) 0 0 rfl rfl dX9_costOf_47 ?_
          refine Y_aload_n C (pc := 48) 0 0 rfl rfl dX9_costOf_48 ?_
          refine Y_getR C (pc := 49) hk0 q_fi_RX9_22 (by decide) dX9_costOf_49 ?_
          refine Y_iload_n C (pc := 52) 2 2 rfl rfl dX9_costOf_52 ?_
          obtain ⟨v8, hv8, h⟩ := Option.bind_eq_some_iff.mp h
          refine Y_iald C (pc := 53) (q_kr_9_7 hk0) hv8 dX9_costOf_53 ?_
          refine Y_aload_n C (pc := 54) 0 0 rfl rfl dX9_costOf_54 ?_
          refine Y_getR C (pc := 55) hk0 q_fi_RX9_22 (by decide) dX9_costOf_55 ?_
          refine Y_iload_n C (pc := 58) 3 3 rfl rfl dX9_costOf_58 ?_
          obtain ⟨v9, hv9, h⟩ := Option.bind_eq_some_iff.mp h
          refine Y_iald C (pc := 59) (q_kr_9_7 hk0) hv9 dX9_costOf_59 ?_
          obtain ⟨v10, hv10, h⟩ := Option.bind_eq_some_iff.mp h
          refine Y_callV C [.int v8, .int v9] [.int v7, .int s5.1] [.int v10, .int v7, .int s5.1] hk0 rfl rfl (c_X9_far hk0 hv10) (fun _ h => h.elim) q_cw_yX9_far q_ml_RX9_126 ⟨q_im_yX9_far, q_se_yX9_far⟩ ⟨⟨Nat.le_of_ble_eq_true rfl, Nat.le_of_ble_eq_true rfl⟩, ⟨Nat.zero_le _, Nat.zero_le _⟩, Nat.le_of_ble_eq_true rfl⟩ rfl rfl rfl dX9_costOf_60 ?_
          refine Y_imul C (pc := 63) dX9_costOf_63 ?_
          refine Y_iadd C (pc := 64) dX9_costOf_64 ?_
          refine Y_istore_n C (pc := 65) (lv' := [(1, .int (s5.1 + (v7 * v10))), (0, .ref (ρ k0)), (2, .int s1.2), (3, .int s5.2)]) 1 rfl (by decide) rfl dX9_costOf_65 ?_
          refine Y_iinc C (pc := 66) (v := (s5.2 + 1)) (lv' := [(3, .int (s5.2 + 1)), (1, .int (s5.1 + (v7 * v10))), (0, .ref (ρ k0)), (2, .int s1.2)]) 3 rfl (congrArg (fun z => s5.2 + z) (by decide : Int32.ofInt (1) = (1))) (by decide) rfl dX9_costOf_66 ?_
          refine Y_goto C (pc := 69) (tgt := 30) dX9_costOf_69 (by decide) ?_
          have h := Option.some.inj h
          exact Y_sub [2, 1, 3, 0] rfl (hLp _ h.symm)
      · refine Y_iinc C (pc := 72) (v := (s1.2 + 1)) (lv' := [(2, .int (s1.2 + 1)), (0, .ref (ρ k0)), (1, .int e12)]) 2 rfl (congrArg (fun z => s1.2 + z) (by decide : Int32.ofInt (1) = (1))) (by decide) rfl dX9_costOf_72 ?_
        refine Y_goto C (pc := 75) (tgt := 4) dX9_costOf_75 (by decide) ?_
        have h := Option.some.inj h
        exact Y_sub [1, 2, 0] rfl (hLp _ h.symm)
  · refine Y_iload_n C (pc := 78) 1 0 rfl rfl dX9_costOf_78 ?_
    cases h
    exact Y_iret C dX9_costOf_79

set_option maxRecDepth 100000 in
set_option maxHeartbeats 4000000 in
theorem c_X9_numberOf {l : Launch} {D : va_G} {cA ρ : Nat → Nat} {σ : Sg} {τ : Tg} {k0 : Nat} (hk0 : kd k0 = (0, 9)) {r : Int32} (h : f_X9_numberOf σ k0 = some r) : Ct l yX9_numberOf cX9_numberOf 5 (some .int) 0 0 D cA ρ A0 [.ref (ρ k0)] σ τ (some (.int r)) σ τ := by
  refine Ct_of (by decide +kernel) (Nat.le_of_ble_eq_true rfl) (fun p e s m args below meth c C => ?_)
  have C : Ctx p l s m args meth c cX9_numberOf RX9 5 (some .int) D cA ρ A0 := C
  unfold f_X9_numberOf at h
  refine Y_sub [0] (lv' := [(0, .ref (ρ k0))]) rfl ?_
  refine Y_iconst C (pc := 0) (v := (0 : Int32)) (by decide) dX9_numberOf_0 ?_
  refine Y_istore_n C (pc := 1) (lv' := [(1, .int (0 : Int32)), (0, .ref (ρ k0))]) 1 rfl (by decide) rfl dX9_numberOf_1 ?_
  refine Y_iconst C (pc := 2) (v := (0 : Int32)) (by decide) dX9_numberOf_2 ?_
  refine Y_istore_n C (pc := 3) (lv' := [(2, .int (0 : Int32)), (1, .int (0 : Int32)), (0, .ref (ρ k0))]) 2 rfl (by decide) rfl dX9_numberOf_3 ?_
  obtain ⟨e15, he15, h⟩ := Option.bind_eq_some_iff.mp h
  refine Y_sub [2, 1, 0] (lv' := [(0, .ref (ρ k0)), (1, .int (0 : Int32)), (2, .int (0 : Int32))]) rfl ?_
  refine lo_rule (f := (f_X9_numberOf_L4 σ k0)) (YS := fun s1 => Y p l e (Rm 0 0) s m args below meth c 5 D cA ρ A0 0 0 (MQ below (QC D cA ρ A0 (some (.int r)) σ τ) args s 0 0 A0) σ τ 4 [(0, .ref (ρ k0)), (1, .int s1.1), (2, .int s1.2)] []) (YE := fun e15 => Y p l e (Rm 0 0) s m args below meth c 5 D cA ρ A0 0 0 (MQ below (QC D cA ρ A0 (some (.int r)) σ τ) args s 0 0 A0) σ τ 81 [(1, .int e15)] []) ?_ he15 ?_
  · intro s1 x h hLp hE
    unfold f_X9_numberOf_L4 at h
    refine Y_iload_n C (pc := 4) 2 2 rfl rfl dX9_numberOf_4 ?_
    refine Y_aload_n C (pc := 5) 0 0 rfl rfl dX9_numberOf_5 ?_
    refine Y_getR C (pc := 6) hk0 q_fi_RX9_7 (by decide) dX9_numberOf_6 ?_
    refine Y_iconst C (pc := 9) (v := (0 : Int32)) (by decide) dX9_numberOf_9 ?_
    obtain ⟨v2, hv2, h⟩ := Option.bind_eq_some_iff.mp h
    refine Y_iald C (pc := 10) (q_kr_9_0 hk0) hv2 dX9_numberOf_10 ?_
    refine Y_icmp_ge C (pc := 11) (tgt := 81) dX9_numberOf_11 (by decide) (fun c14 => ?_) (fun c14 => ?_)
    · rw [if_pos c14] at h
      have h := Option.some.inj h
      exact Y_sub [1] rfl (hE _ h.symm)
    · rw [if_neg c14] at h
      refine Y_iconst C (pc := 14) (v := (0 : Int32)) (by decide) dX9_numberOf_14 ?_
      refine Y_istore_n C (pc := 15) (lv' := [(3, .int (0 : Int32)), (0, .ref (ρ k0)), (1, .int s1.1), (2, .int s1.2)]) 3 rfl (by decide) rfl dX9_numberOf_15 ?_
      refine Y_iload_n C (pc := 16) 2 3 rfl rfl dX9_numberOf_16 ?_
      refine Y_iconst C (pc := 17) (v := (1 : Int32)) (by decide) dX9_numberOf_17 ?_
      refine Y_iadd C (pc := 18) dX9_numberOf_18 ?_
      refine Y_istore C (pc := 19) (lv' := [(4, .int (s1.2 + (1 : Int32))), (3, .int (0 : Int32)), (0, .ref (ρ k0)), (1, .int s1.1), (2, .int s1.2)]) (by decide) rfl dX9_numberOf_19 ?_
      obtain ⟨e12, he12, h⟩ := Option.bind_eq_some_iff.mp h
      refine Y_sub [2, 3, 4, 1, 0] (lv' := [(0, .ref (ρ k0)), (1, .int s1.1), (2, .int s1.2), (3, .int (0 : Int32)), (4, .int (s1.2 + (1 : Int32)))]) rfl ?_
      refine lo_rule (f := (f_X9_numberOf_L21 σ k0 s1)) (YS := fun s3 => Y p l e (Rm 0 0) s m args below meth c 5 D cA ρ A0 0 0 (MQ below (QC D cA ρ A0 (some (.int r)) σ τ) args s 0 0 A0) σ τ 21 [(0, .ref (ρ k0)), (1, .int s1.1), (2, .int s1.2), (3, .int s3.1), (4, .int s3.2)] []) (YE := fun e12 => Y p l e (Rm 0 0) s m args below meth c 5 D cA ρ A0 0 0 (MQ below (QC D cA ρ A0 (some (.int r)) σ τ) args s 0 0 A0) σ τ 62 [(0, .ref (ρ k0)), (1, .int s1.1), (2, .int s1.2), (3, .int e12)] []) ?_ he12 ?_
      · intro s3 x h hLp hE
        unfold f_X9_numberOf_L21 at h
        have hJ54 : ∀ (j7 : Int32) (j8 : Int32) (j9 : Int32), f_X9_numberOf_J54 j7 j8 j9 = some x → Y p l e (Rm 0 0) s m args below meth c 5 D cA ρ A0 0 0 (MQ below (QC D cA ρ A0 (some (.int r)) σ τ) args s 0 0 A0) σ τ 54 [(0, .ref (ρ k0)), (1, .int s1.1), (2, .int s1.2), (4, .int j7)] [.int j8, .int j9] := by
          intro j7 j8 j9 h
          unfold f_X9_numberOf_J54 at h
          refine Y_iadd C (pc := 54) dX9_numberOf_54 ?_
          refine Y_istore_n C (pc := 55) (lv' := [(3, .int (j9 + j8)), (0, .ref (ρ k0)), (1, .int s1.1), (2, .int s1.2), (4, .int j7)]) 3 rfl (by decide) rfl dX9_numberOf_55 ?_
          refine Y_iinc C (pc := 56) (v := (j7 + 1)) (lv' := [(4, .int (j7 + 1)), (3, .int (j9 + j8)), (0, .ref (ρ k0)), (1, .int s1.1), (2, .int s1.2)]) 4 rfl (congrArg (fun z => j7 + z) (by decide : Int32.ofInt (1) = (1))) (by decide) rfl dX9_numberOf_56 ?_
          refine Y_goto C (pc := 59) (tgt := 21) dX9_numberOf_59 (by decide) ?_
          have h := Option.some.inj h
          exact Y_sub [2, 3, 4, 1, 0] rfl (hLp _ h.symm)
        refine Y_iload C (pc := 21) 4 rfl dX9_numberOf_21 ?_
        refine Y_aload_n C (pc := 23) 0 0 rfl rfl dX9_numberOf_23 ?_
        refine Y_getR C (pc := 24) hk0 q_fi_RX9_7 (by decide) dX9_numberOf_24 ?_
        refine Y_iconst C (pc := 27) (v := (0 : Int32)) (by decide) dX9_numberOf_27 ?_
        obtain ⟨v4, hv4, h⟩ := Option.bind_eq_some_iff.mp h
        refine Y_iald C (pc := 28) (q_kr_9_0 hk0) hv4 dX9_numberOf_28 ?_
        refine Y_icmp_ge C (pc := 29) (tgt := 62) dX9_numberOf_29 (by decide) (fun c11 => ?_) (fun c11 => ?_)
        · rw [if_pos c11] at h
          have h := Option.some.inj h
          exact Y_sub [0, 1, 2, 3] rfl (hE _ h.symm)
        · rw [if_neg c11] at h
          refine Y_iload_n C (pc := 32) 3 3 rfl rfl dX9_numberOf_32 ?_
          refine Y_aload_n C (pc := 33) 0 0 rfl rfl dX9_numberOf_33 ?_
          refine Y_getR C (pc := 34) hk0 q_fi_RX9_22 (by decide) dX9_numberOf_34 ?_
          refine Y_iload C (pc := 37) 4 rfl dX9_numberOf_37 ?_
          obtain ⟨v5, hv5, h⟩ := Option.bind_eq_some_iff.mp h
          refine Y_iald C (pc := 39) (q_kr_9_7 hk0) hv5 dX9_numberOf_39 ?_
          refine Y_aload_n C (pc := 40) 0 0 rfl rfl dX9_numberOf_40 ?_
          refine Y_getR C (pc := 41) hk0 q_fi_RX9_22 (by decide) dX9_numberOf_41 ?_
          refine Y_iload_n C (pc := 44) 2 2 rfl rfl dX9_numberOf_44 ?_
          obtain ⟨v6, hv6, h⟩ := Option.bind_eq_some_iff.mp h
          refine Y_iald C (pc := 45) (q_kr_9_7 hk0) hv6 dX9_numberOf_45 ?_
          refine Y_icmp_ge C (pc := 46) (tgt := 53) dX9_numberOf_46 (by decide) (fun c10 => ?_) (fun c10 => ?_)
          · rw [if_pos c10] at h
            refine Y_iconst C (pc := 53) (v := (0 : Int32)) (by decide) dX9_numberOf_53 ?_
            exact Y_sub [0, 1, 2, 4] rfl (hJ54 _ _ _ h)
          · rw [if_neg c10] at h
            refine Y_iconst C (pc := 49) (v := (1 : Int32)) (by decide) dX9_numberOf_49 ?_
            refine Y_goto C (pc := 50) (tgt := 54) dX9_numberOf_50 (by decide) ?_
            exact Y_sub [0, 1, 2, 4] rfl (hJ54 _ _ _ h)
      · refine Y_iload_n C (pc := 62) 1 1 rfl rfl dX9_numberOf_62 ?_
        refine Y_aload_n C (pc := 63) 0 0 rfl rfl dX9_numberOf_63 ?_
        refine Y_getR C (pc := 64) hk0 q_fi_RX9_7 (by decide) dX9_numberOf_64 ?_
        refine Y_iconst C (pc := 67) (v := (0 : Int32)) (by decide) dX9_numberOf_67 ?_
        obtain ⟨v13, hv13, h⟩ := Option.bind_eq_some_iff.mp h
        refine Y_iald C (pc := 68) (q_kr_9_0 hk0) hv13 dX9_numberOf_68 ?_
        refine Y_iload_n C (pc := 69) 2 2 rfl rfl dX9_numberOf_69 ?_
        refine Y_isub C (pc := 70) dX9_numberOf_70 ?_
        refine Y_imul C (pc := 71) dX9_numberOf_71 ?_
        refine Y_iload_n C (pc := 72) 3 3 rfl rfl dX9_numberOf_72 ?_
        refine Y_iadd C (pc := 73) dX9_numberOf_73 ?_
        refine Y_istore_n C (pc := 74) (lv' := [(1, .int ((s1.1 * (v13 - s1.2)) + e12)), (0, .ref (ρ k0)), (2, .int s1.2), (3, .int e12)]) 1 rfl (by decide) rfl dX9_numberOf_74 ?_
        refine Y_iinc C (pc := 75) (v := (s1.2 + 1)) (lv' := [(2, .int (s1.2 + 1)), (1, .int ((s1.1 * (v13 - s1.2)) + e12)), (0, .ref (ρ k0)), (3, .int e12)]) 2 rfl (congrArg (fun z => s1.2 + z) (by decide : Int32.ofInt (1) = (1))) (by decide) rfl dX9_numberOf_75 ?_
        refine Y_goto C (pc := 78) (tgt := 4) dX9_numberOf_78 (by decide) ?_
        have h := Option.some.inj h
        exact Y_sub [2, 1, 0] rfl (hLp _ h.symm)
  · refine Y_iload_n C (pc := 81) 1 0 rfl rfl dX9_numberOf_81 ?_
    cases h
    exact Y_iret C dX9_numberOf_82

set_option maxRecDepth 100000 in
set_option maxHeartbeats 4000000 in
theorem c_X9_agrees {l : Launch} {D : va_G} {cA ρ : Nat → Nat} {σ : Sg} {τ : Tg} {k0 : Nat} (hk0 : kd k0 = (0, 9)) {r : Int32} (h : f_X9_agrees σ k0 = some r) : Ct l yX9_agrees cX9_agrees 3 (some .boolean) 0 0 D cA ρ A0 [.ref (ρ k0)] σ τ (some (.int r)) σ τ := by
  refine Ct_of (by decide +kernel) (Nat.le_of_ble_eq_true rfl) (fun p e s m args below meth c C => ?_)
  have C : Ctx p l s m args meth c cX9_agrees RX9 3 (some .boolean) D cA ρ A0 := C
  unfold f_X9_agrees at h
  refine Y_sub [0] (lv' := [(0, .ref (ρ k0))]) rfl ?_
  refine Y_iconst C (pc := 0) (v := (1 : Int32)) (by decide) dX9_agrees_0 ?_
  refine Y_istore_n C (pc := 1) (lv' := [(1, .int (1 : Int32)), (0, .ref (ρ k0))]) 1 rfl (by decide) rfl dX9_agrees_1 ?_
  refine Y_iconst C (pc := 2) (v := (0 : Int32)) (by decide) dX9_agrees_2 ?_
  refine Y_istore_n C (pc := 3) (lv' := [(2, .int (0 : Int32)), (1, .int (1 : Int32)), (0, .ref (ρ k0))]) 2 rfl (by decide) rfl dX9_agrees_3 ?_
  obtain ⟨e14, he14, h⟩ := Option.bind_eq_some_iff.mp h
  refine Y_sub [2, 1, 0] (lv' := [(0, .ref (ρ k0)), (1, .int (1 : Int32)), (2, .int (0 : Int32))]) rfl ?_
  refine lo_rule (f := (f_X9_agrees_L4 σ k0)) (YS := fun s1 => Y p l e (Rm 0 0) s m args below meth c 3 D cA ρ A0 0 0 (MQ below (QC D cA ρ A0 (some (.int r)) σ τ) args s 0 0 A0) σ τ 4 [(0, .ref (ρ k0)), (1, .int s1.1), (2, .int s1.2)] []) (YE := fun e14 => Y p l e (Rm 0 0) s m args below meth c 3 D cA ρ A0 0 0 (MQ below (QC D cA ρ A0 (some (.int r)) σ τ) args s 0 0 A0) σ τ 61 [(1, .int e14)] []) ?_ he14 ?_
  · intro s1 x h hLp hE
    unfold f_X9_agrees_L4 at h
    have hJ54 : ∀ (j4 : Int32) (j5 : Int32), f_X9_agrees_J54 j4 j5 = some x → Y p l e (Rm 0 0) s m args below meth c 3 D cA ρ A0 0 0 (MQ below (QC D cA ρ A0 (some (.int r)) σ τ) args s 0 0 A0) σ τ 54 [(0, .ref (ρ k0)), (2, .int j4)] [.int j5] := by
      intro j4 j5 h
      unfold f_X9_agrees_J54 at h
      refine Y_istore_n C (pc := 54) (lv' := [(1, .int j5), (0, .ref (ρ k0)), (2, .int j4)]) 1 rfl (by decide) rfl dX9_agrees_54 ?_
      refine Y_iinc C (pc := 55) (v := (j4 + 1)) (lv' := [(2, .int (j4 + 1)), (1, .int j5), (0, .ref (ρ k0))]) 2 rfl (congrArg (fun z => j4 + z) (by decide : Int32.ofInt (1) = (1))) (by decide) rfl dX9_agrees_55 ?_
      refine Y_goto C (pc := 58) (tgt := 4) dX9_agrees_58 (by decide) ?_
      have h := Option.some.inj h
      exact Y_sub [2, 1, 0] rfl (hLp _ h.symm)
    have hJ53 : ∀ (j3 : Int32), f_X9_agrees_J53 j3 = some x → Y p l e (Rm 0 0) s m args below meth c 3 D cA ρ A0 0 0 (MQ below (QC D cA ρ A0 (some (.int r)) σ τ) args s 0 0 A0) σ τ 53 [(0, .ref (ρ k0)), (2, .int j3)] [] := by
      intro j3 h
      unfold f_X9_agrees_J53 at h
      refine Y_iconst C (pc := 53) (v := (0 : Int32)) (by decide) dX9_agrees_53 ?_
      exact Y_sub [0, 1] rfl (hJ54 _ _ h)
    have hJ49 : ∀ (j7 : Int32), f_X9_agrees_J49 j7 = some x → Y p l e (Rm 0 0) s m args below meth c 3 D cA ρ A0 0 0 (MQ below (QC D cA ρ A0 (some (.int r)) σ τ) args s 0 0 A0) σ τ 49 [(0, .ref (ρ k0)), (2, .int j7)] [] := by
      intro j7 h
      unfold f_X9_agrees_J49 at h
      refine Y_iconst C (pc := 49) (v := (1 : Int32)) (by decide) dX9_agrees_49 ?_
      refine Y_goto C (pc := 50) (tgt := 54) dX9_agrees_50 (by decide) ?_
      exact Y_sub [0, 1] rfl (hJ54 _ _ h)
    refine Y_iload_n C (pc := 4) 2 2 rfl rfl dX9_agrees_4 ?_
    refine Y_aload_n C (pc := 5) 0 0 rfl rfl dX9_agrees_5 ?_
    refine Y_getR C (pc := 6) hk0 q_fi_RX9_7 (by decide) dX9_agrees_6 ?_
    refine Y_iconst C (pc := 9) (v := (0 : Int32)) (by decide) dX9_agrees_9 ?_
    obtain ⟨v2, hv2, h⟩ := Option.bind_eq_some_iff.mp h
    refine Y_iald C (pc := 10) (q_kr_9_0 hk0) hv2 dX9_agrees_10 ?_
    refine Y_icmp_ge C (pc := 11) (tgt := 61) dX9_agrees_11 (by decide) (fun c13 => ?_) (fun c13 => ?_)
    · rw [if_pos c13] at h
      have h := Option.some.inj h
      exact Y_sub [1] rfl (hE _ h.symm)
    · rw [if_neg c13] at h
      refine Y_iload_n C (pc := 14) 1 1 rfl rfl dX9_agrees_14 ?_
      refine Y_if_eq C (pc := 15) (tgt := 53) dX9_agrees_15 (by decide) (fun c12 => ?_) (fun c12 => ?_)
      · rw [if_pos c12] at h
        exact Y_sub [0, 2] rfl (hJ53 _ h)
      · rw [if_neg c12] at h
        refine Y_aload_n C (pc := 18) 0 0 rfl rfl dX9_agrees_18 ?_
        refine Y_getR C (pc := 19) hk0 q_fi_RX9_7 (by decide) dX9_agrees_19 ?_
        refine Y_bipush C (pc := 22) (v := (115 : Int32)) (by decide) dX9_agrees_22 ?_
        refine Y_iload_n C (pc := 24) 2 2 rfl rfl dX9_agrees_24 ?_
        refine Y_iadd C (pc := 25) dX9_agrees_25 ?_
        obtain ⟨v6, hv6, h⟩ := Option.bind_eq_some_iff.mp h
        refine Y_iald C (pc := 26) (q_kr_9_0 hk0) hv6 dX9_agrees_26 ?_
        refine Y_iconst C (pc := 27) (v := (-1 : Int32)) (by decide) dX9_agrees_27 ?_
        refine Y_icmp_eq C (pc := 28) (tgt := 49) dX9_agrees_28 (by decide) (fun c11 => ?_) (fun c11 => ?_)
        · rw [if_pos c11] at h
          exact Y_sub [0, 2] rfl (hJ49 _ h)
        · rw [if_neg c11] at h
          refine Y_aload_n C (pc := 31) 0 0 rfl rfl dX9_agrees_31 ?_
          refine Y_getR C (pc := 32) hk0 q_fi_RX9_7 (by decide) dX9_agrees_32 ?_
          refine Y_bipush C (pc := 35) (v := (115 : Int32)) (by decide) dX9_agrees_35 ?_
          refine Y_iload_n C (pc := 37) 2 2 rfl rfl dX9_agrees_37 ?_
          refine Y_iadd C (pc := 38) dX9_agrees_38 ?_
          obtain ⟨v8, hv8, h⟩ := Option.bind_eq_some_iff.mp h
          refine Y_iald C (pc := 39) (q_kr_9_0 hk0) hv8 dX9_agrees_39 ?_
          refine Y_aload_n C (pc := 40) 0 0 rfl rfl dX9_agrees_40 ?_
          refine Y_getR C (pc := 41) hk0 q_fi_RX9_22 (by decide) dX9_agrees_41 ?_
          refine Y_iload_n C (pc := 44) 2 2 rfl rfl dX9_agrees_44 ?_
          obtain ⟨v9, hv9, h⟩ := Option.bind_eq_some_iff.mp h
          refine Y_iald C (pc := 45) (q_kr_9_7 hk0) hv9 dX9_agrees_45 ?_
          refine Y_icmp_ne C (pc := 46) (tgt := 53) dX9_agrees_46 (by decide) (fun c10 => ?_) (fun c10 => ?_)
          · rw [if_neg c10] at h
            exact Y_sub [0, 2] rfl (hJ53 _ h)
          · rw [if_pos c10] at h
            exact Y_sub [0, 2] rfl (hJ49 _ h)
  · refine Y_iload_n C (pc := 61) 1 0 rfl rfl dX9_agrees_61 ?_
    obtain ⟨v15, hv15, h⟩ := Option.bind_eq_some_iff.mp h
    obtain ⟨gv15, ev15⟩ := gb_in hv15
    subst v15
    cases h
    exact Y_zret gv15 C dX9_agrees_62

set_option maxRecDepth 100000 in
set_option maxHeartbeats 4000000 in
theorem c_X9_location {l : Launch} {D : va_G} {cA ρ : Nat → Nat} {σ : Sg} {τ : Tg} {k0 : Nat} {i1 : Int32} (hI : Inj ρ) (hk0 : kd k0 = (0, 9)) {r : Int32 × Sg} (h : f_X9_location σ k0 i1 = some r) : Ct l yX9_location cX9_location 2 (some .int) 2 43 D cA ρ (Aw ρ) [.ref (ρ k0), .int i1] σ τ (some (.int r.1)) r.2 τ := by
  refine Ct_of (by decide +kernel) (Nat.le_of_ble_eq_true rfl) (fun p e s m args below meth c C => ?_)
  have C : Ctx p l s m args meth c cX9_location RX9 2 (some .int) D cA ρ (Aw ρ) := C
  have hW : Wr ρ (Aw ρ) := ⟨hI, fun k hk => ⟨k, hk, rfl⟩⟩
  unfold f_X9_location at h
  refine Y_sub [0, 1] (lv' := [(0, .ref (ρ k0)), (1, .int i1)]) rfl ?_
  refine Y_aload_n C (pc := 0) 0 0 rfl rfl dX9_location_0 ?_
  refine Y_iload_n C (pc := 1) 1 1 rfl rfl dX9_location_1 ?_
  obtain ⟨v1, hv1, h⟩ := Option.bind_eq_some_iff.mp h
  refine Y_callV C [.int i1] [] [.int v1] hk0 rfl rfl (c_X9_isOne hk0 hv1) (fun _ h => h.elim) q_cw_yX9_isOne q_ml_RX9_103 ⟨q_im_yX9_isOne, q_se_yX9_isOne⟩ ⟨⟨Nat.le_of_ble_eq_true rfl, Nat.le_of_ble_eq_true rfl⟩, ⟨Nat.zero_le _, Nat.zero_le _⟩, Nat.le_of_ble_eq_true rfl⟩ rfl rfl rfl dX9_location_2 ?_
  refine Y_if_eq C (pc := 5) (tgt := 24) dX9_location_5 (by decide) (fun c5 => ?_) (fun c5 => ?_)
  · rw [if_pos c5] at h
    refine Y_aload_n C (pc := 24) 0 0 rfl rfl dX9_location_24 ?_
    refine Y_iconst C (pc := 25) (v := (1 : Int32)) (by decide) dX9_location_25 ?_
    obtain ⟨v2, hv2, h⟩ := Option.bind_eq_some_iff.mp h
    refine Y_callV C [.int (1 : Int32)] [] [.int v2.1] hk0 rfl rfl (c_X9_fails hI hk0 hv2) (fun _ h => h) q_cw_yX9_fails q_ml_RX9_94 ⟨q_im_yX9_fails, q_se_yX9_fails⟩ ⟨⟨Nat.le_of_ble_eq_true rfl, Nat.le_of_ble_eq_true rfl⟩, ⟨Nat.zero_le _, Nat.zero_le _⟩, Nat.le_of_ble_eq_true rfl⟩ rfl rfl rfl dX9_location_26 ?_
    cases h
    exact Y_iret C dX9_location_29
  · rw [if_neg c5] at h
    refine Y_aload_n C (pc := 8) 0 0 rfl rfl dX9_location_8 ?_
    refine Y_aload_n C (pc := 9) 0 0 rfl rfl dX9_location_9 ?_
    refine Y_getR C (pc := 10) hk0 q_fi_RX9_7 (by decide) dX9_location_10 ?_
    refine Y_bipush C (pc := 13) (v := (109 : Int32)) (by decide) dX9_location_13 ?_
    refine Y_iload_n C (pc := 15) 1 1 rfl rfl dX9_location_15 ?_
    refine Y_iadd C (pc := 16) dX9_location_16 ?_
    obtain ⟨v3, hv3, h⟩ := Option.bind_eq_some_iff.mp h
    refine Y_iald C (pc := 17) (q_kr_9_0 hk0) hv3 dX9_location_17 ?_
    obtain ⟨v4, hv4, h⟩ := Option.bind_eq_some_iff.mp h
    refine Y_callV C [.int v3] [] [.int v4.1] hk0 rfl rfl (c_X9_tells hI hk0 hv4) (fun _ h => h) q_cw_yX9_tells q_ml_RX9_82 ⟨q_im_yX9_tells, q_se_yX9_tells⟩ ⟨⟨Nat.le_of_ble_eq_true rfl, Nat.le_of_ble_eq_true rfl⟩, ⟨Nat.zero_le _, Nat.zero_le _⟩, Nat.le_of_ble_eq_true rfl⟩ rfl rfl rfl dX9_location_18 ?_
    refine Y_goto C (pc := 21) (tgt := 29) dX9_location_21 (by decide) ?_
    cases h
    exact Y_iret C dX9_location_29

set_option maxRecDepth 100000 in
set_option maxHeartbeats 4000000 in
theorem c_X9_presentCost {l : Launch} {D : va_G} {cA ρ : Nat → Nat} {σ : Sg} {τ : Tg} {k0 : Nat} (hI : Inj ρ) (hk0 : kd k0 = (0, 9)) {r : Int32 × Sg} (h : f_X9_presentCost σ k0 = some r) : Ct l yX9_presentCost cX9_presentCost 1 (some .int) 3 67 D cA ρ (Aw ρ) [.ref (ρ k0)] σ τ (some (.int r.1)) r.2 τ := by
  refine Ct_of (by decide +kernel) (Nat.le_of_ble_eq_true rfl) (fun p e s m args below meth c C => ?_)
  have C : Ctx p l s m args meth c cX9_presentCost RX9 1 (some .int) D cA ρ (Aw ρ) := C
  have hW : Wr ρ (Aw ρ) := ⟨hI, fun k hk => ⟨k, hk, rfl⟩⟩
  unfold f_X9_presentCost at h
  refine Y_sub [0] (lv' := [(0, .ref (ρ k0))]) rfl ?_
  refine Y_aload_n C (pc := 0) 0 0 rfl rfl dX9_presentCost_0 ?_
  obtain ⟨v1, hv1, h⟩ := Option.bind_eq_some_iff.mp h
  refine Y_callV C [] [] [] hk0 rfl rfl (c_X9_takes hI hk0 hv1) (fun _ h => h) q_cw_yX9_takes q_ml_RX9_129 ⟨q_im_yX9_takes, q_se_yX9_takes⟩ ⟨⟨Nat.le_of_ble_eq_true rfl, Nat.le_of_ble_eq_true rfl⟩, ⟨Nat.zero_le _, Nat.zero_le _⟩, Nat.le_of_ble_eq_true rfl⟩ rfl rfl rfl dX9_presentCost_1 ?_
  refine Y_aload_n C (pc := 4) 0 0 rfl rfl dX9_presentCost_4 ?_
  obtain ⟨v2, hv2, h⟩ := Option.bind_eq_some_iff.mp h
  refine Y_callV C [] [] [.int v2] hk0 rfl rfl (c_X9_costOf hk0 hv2) (fun _ h => h.elim) q_cw_yX9_costOf q_ml_RX9_132 ⟨q_im_yX9_costOf, q_se_yX9_costOf⟩ ⟨⟨Nat.le_of_ble_eq_true rfl, Nat.le_of_ble_eq_true rfl⟩, ⟨Nat.zero_le _, Nat.zero_le _⟩, Nat.le_of_ble_eq_true rfl⟩ rfl rfl rfl dX9_presentCost_5 ?_
  cases h
  exact Y_iret C dX9_presentCost_8

set_option maxRecDepth 100000 in
set_option maxHeartbeats 4000000 in
theorem c_X9_cost {l : Launch} {D : va_G} {cA ρ : Nat → Nat} {σ : Sg} {τ : Tg} {k0 : Nat} (hI : Inj ρ) (hk0 : kd k0 = (0, 9)) {r : Int32 × Sg} (h : f_X9_cost σ k0 = some r) : Ct l yX9_cost cX9_cost 1 (some .int) 4 87 D cA ρ (Aw ρ) [.ref (ρ k0)] σ τ (some (.int r.1)) r.2 τ := by
  refine Ct_of (by decide +kernel) (Nat.le_of_ble_eq_true rfl) (fun p e s m args below meth c C => ?_)
  have C : Ctx p l s m args meth c cX9_cost RX9 1 (some .int) D cA ρ (Aw ρ) := C
  have hW : Wr ρ (Aw ρ) := ⟨hI, fun k hk => ⟨k, hk, rfl⟩⟩
  unfold f_X9_cost at h
  refine Y_sub [0] (lv' := [(0, .ref (ρ k0))]) rfl ?_
  refine Y_aload_n C (pc := 0) 0 0 rfl rfl dX9_cost_0 ?_
  refine Y_aload_n C (pc := 1) 0 0 rfl rfl dX9_cost_1 ?_
  obtain ⟨v1, hv1, h⟩ := Option.bind_eq_some_iff.mp h
  refine Y_callV C [] [.ref (ρ k0)] [.int v1.1, .ref (ρ k0)] hk0 rfl rfl (c_X9_presentCost hI hk0 hv1) (fun _ h => h) q_cw_yX9_presentCost q_ml_RX9_136 ⟨q_im_yX9_presentCost, q_se_yX9_presentCost⟩ ⟨⟨Nat.le_of_ble_eq_true rfl, Nat.le_of_ble_eq_true rfl⟩, ⟨Nat.zero_le _, Nat.zero_le _⟩, Nat.le_of_ble_eq_true rfl⟩ rfl rfl rfl dX9_cost_2 ?_
  obtain ⟨v2, hv2, h⟩ := Option.bind_eq_some_iff.mp h
  refine Y_callV C [.int v1.1] [] [.int v2.1] hk0 rfl rfl (c_X9_tells hI hk0 hv2) (fun _ h => h) q_cw_yX9_tells q_ml_RX9_82 ⟨q_im_yX9_tells, q_se_yX9_tells⟩ ⟨⟨Nat.le_of_ble_eq_true rfl, Nat.le_of_ble_eq_true rfl⟩, ⟨Nat.zero_le _, Nat.zero_le _⟩, Nat.le_of_ble_eq_true rfl⟩ rfl rfl rfl dX9_cost_5 ?_
  cases h
  exact Y_iret C dX9_cost_8

set_option maxRecDepth 100000 in
set_option maxHeartbeats 4000000 in
theorem c_X9_assignments {l : Launch} {D : va_G} {cA ρ : Nat → Nat} {σ : Sg} {τ : Tg} {k0 : Nat} (hk0 : kd k0 = (0, 9)) {r : Int32} (h : f_X9_assignments σ k0 = some r) : Ct l yX9_assignments cX9_assignments 3 (some .int) 0 0 D cA ρ A0 [.ref (ρ k0)] σ τ (some (.int r)) σ τ := by
  refine Ct_of (by decide +kernel) (Nat.le_of_ble_eq_true rfl) (fun p e s m args below meth c C => ?_)
  have C : Ctx p l s m args meth c cX9_assignments RX9 3 (some .int) D cA ρ A0 := C
  unfold f_X9_assignments at h
  refine Y_sub [0] (lv' := [(0, .ref (ρ k0))]) rfl ?_
  refine Y_iconst C (pc := 0) (v := (1 : Int32)) (by decide) dX9_assignments_0 ?_
  refine Y_istore_n C (pc := 1) (lv' := [(1, .int (1 : Int32)), (0, .ref (ρ k0))]) 1 rfl (by decide) rfl dX9_assignments_1 ?_
  refine Y_iconst C (pc := 2) (v := (2 : Int32)) (by decide) dX9_assignments_2 ?_
  refine Y_istore_n C (pc := 3) (lv' := [(2, .int (2 : Int32)), (1, .int (1 : Int32)), (0, .ref (ρ k0))]) 2 rfl (by decide) rfl dX9_assignments_3 ?_
  obtain ⟨e4, he4, h⟩ := Option.bind_eq_some_iff.mp h
  refine Y_sub [2, 1, 0] (lv' := [(0, .ref (ρ k0)), (1, .int (1 : Int32)), (2, .int (2 : Int32))]) rfl ?_
  refine lo_rule (f := (f_X9_assignments_L4 σ k0)) (YS := fun s1 => Y p l e (Rm 0 0) s m args below meth c 3 D cA ρ A0 0 0 (MQ below (QC D cA ρ A0 (some (.int r)) σ τ) args s 0 0 A0) σ τ 4 [(0, .ref (ρ k0)), (1, .int s1.1), (2, .int s1.2)] []) (YE := fun e4 => Y p l e (Rm 0 0) s m args below meth c 3 D cA ρ A0 0 0 (MQ below (QC D cA ρ A0 (some (.int r)) σ τ) args s 0 0 A0) σ τ 24 [(1, .int e4)] []) ?_ he4 ?_
  · intro s1 x h hLp hE
    unfold f_X9_assignments_L4 at h
    refine Y_iload_n C (pc := 4) 2 2 rfl rfl dX9_assignments_4 ?_
    refine Y_aload_n C (pc := 5) 0 0 rfl rfl dX9_assignments_5 ?_
    refine Y_getR C (pc := 6) hk0 q_fi_RX9_7 (by decide) dX9_assignments_6 ?_
    refine Y_iconst C (pc := 9) (v := (0 : Int32)) (by decide) dX9_assignments_9 ?_
    obtain ⟨v2, hv2, h⟩ := Option.bind_eq_some_iff.mp h
    refine Y_iald C (pc := 10) (q_kr_9_0 hk0) hv2 dX9_assignments_10 ?_
    refine Y_icmp_gt C (pc := 11) (tgt := 24) dX9_assignments_11 (by decide) (fun c3 => ?_) (fun c3 => ?_)
    · rw [if_pos c3] at h
      have h := Option.some.inj h
      exact Y_sub [1] rfl (hE _ h.symm)
    · rw [if_neg c3] at h
      refine Y_iload_n C (pc := 14) 1 1 rfl rfl dX9_assignments_14 ?_
      refine Y_iload_n C (pc := 15) 2 2 rfl rfl dX9_assignments_15 ?_
      refine Y_imul C (pc := 16) dX9_assignments_16 ?_
      refine Y_istore_n C (pc := 17) (lv' := [(1, .int (s1.1 * s1.2)), (0, .ref (ρ k0)), (2, .int s1.2)]) 1 rfl (by decide) rfl dX9_assignments_17 ?_
      refine Y_iinc C (pc := 18) (v := (s1.2 + 1)) (lv' := [(2, .int (s1.2 + 1)), (1, .int (s1.1 * s1.2)), (0, .ref (ρ k0))]) 2 rfl (congrArg (fun z => s1.2 + z) (by decide : Int32.ofInt (1) = (1))) (by decide) rfl dX9_assignments_18 ?_
      refine Y_goto C (pc := 21) (tgt := 4) dX9_assignments_21 (by decide) ?_
      have h := Option.some.inj h
      exact Y_sub [2, 1, 0] rfl (hLp _ h.symm)
  · refine Y_iload_n C (pc := 24) 1 0 rfl rfl dX9_assignments_24 ?_
    cases h
    exact Y_iret C dX9_assignments_25

set_option maxRecDepth 100000 in
set_option maxHeartbeats 4000000 in
theorem c_X9_keeps {l : Launch} {D : va_G} {cA ρ : Nat → Nat} {σ : Sg} {τ : Tg} {k0 : Nat} (hI : Inj ρ) (hk0 : kd k0 = (0, 9)) {r : Sg} (h : f_X9_keeps σ k0 = some r) : Ct l yX9_keeps cX9_keeps 2 none 0 0 D cA ρ (Aw ρ) [.ref (ρ k0)] σ τ none r τ := by
  refine Ct_of (by decide +kernel) (Nat.le_of_ble_eq_true rfl) (fun p e s m args below meth c C => ?_)
  have C : Ctx p l s m args meth c cX9_keeps RX9 2 none D cA ρ (Aw ρ) := C
  have hW : Wr ρ (Aw ρ) := ⟨hI, fun k hk => ⟨k, hk, rfl⟩⟩
  unfold f_X9_keeps at h
  refine Y_sub [0] (lv' := [(0, .ref (ρ k0))]) rfl ?_
  refine Y_iconst C (pc := 0) (v := (0 : Int32)) (by decide) dX9_keeps_0 ?_
  refine Y_istore_n C (pc := 1) (lv' := [(1, .int (0 : Int32)), (0, .ref (ρ k0))]) 1 rfl (by decide) rfl dX9_keeps_1 ?_
  obtain ⟨e6, he6, h⟩ := Option.bind_eq_some_iff.mp h
  refine Y_sub [1, 0] (lv' := [(0, .ref (ρ k0)), (1, .int (0 : Int32))]) rfl ?_
  refine lo_rule (f := (f_X9_keeps_L2 k0)) (YS := fun s1 => Y p l e (Rm 0 0) s m args below meth c 2 D cA ρ (Aw ρ) 0 0 (MQ below (QC D cA ρ (Aw ρ) none r τ) args s 0 0 (Aw ρ)) s1.2 τ 2 [(0, .ref (ρ k0)), (1, .int s1.1)] []) (YE := fun e6 => Y p l e (Rm 0 0) s m args below meth c 2 D cA ρ (Aw ρ) 0 0 (MQ below (QC D cA ρ (Aw ρ) none r τ) args s 0 0 (Aw ρ)) e6 τ 33 [] []) ?_ he6 ?_
  · intro s1 x h hLp hE
    unfold f_X9_keeps_L2 at h
    refine Y_iload_n C (pc := 2) 1 1 rfl rfl dX9_keeps_2 ?_
    refine Y_aload_n C (pc := 3) 0 0 rfl rfl dX9_keeps_3 ?_
    refine Y_getR C (pc := 4) hk0 q_fi_RX9_7 (by decide) dX9_keeps_4 ?_
    refine Y_iconst C (pc := 7) (v := (0 : Int32)) (by decide) dX9_keeps_7 ?_
    obtain ⟨v2, hv2, h⟩ := Option.bind_eq_some_iff.mp h
    refine Y_iald C (pc := 8) (q_kr_9_0 hk0) hv2 dX9_keeps_8 ?_
    refine Y_icmp_ge C (pc := 9) (tgt := 33) dX9_keeps_9 (by decide) (fun c5 => ?_) (fun c5 => ?_)
    · rw [if_pos c5] at h
      have h := Option.some.inj h
      exact Y_sub [] rfl (hE _ h.symm)
    · rw [if_neg c5] at h
      refine Y_aload_n C (pc := 12) 0 0 rfl rfl dX9_keeps_12 ?_
      refine Y_getR C (pc := 13) hk0 q_fi_RX9_7 (by decide) dX9_keeps_13 ?_
      refine Y_bipush C (pc := 16) (v := (109 : Int32)) (by decide) dX9_keeps_16 ?_
      refine Y_iload_n C (pc := 18) 1 1 rfl rfl dX9_keeps_18 ?_
      refine Y_iadd C (pc := 19) dX9_keeps_19 ?_
      refine Y_aload_n C (pc := 20) 0 0 rfl rfl dX9_keeps_20 ?_
      refine Y_getR C (pc := 21) hk0 q_fi_RX9_22 (by decide) dX9_keeps_21 ?_
      refine Y_iload_n C (pc := 24) 1 1 rfl rfl dX9_keeps_24 ?_
      obtain ⟨v3, hv3, h⟩ := Option.bind_eq_some_iff.mp h
      refine Y_iald C (pc := 25) (q_kr_9_7 hk0) hv3 dX9_keeps_25 ?_
      obtain ⟨s4, hs4, h⟩ := Option.bind_eq_some_iff.mp h
      refine Y_iast C (pc := 26) hW (q_kr_9_0 hk0) (q_lr_9_0 hk0) hs4 dX9_keeps_26 ?_
      refine Y_iinc C (pc := 27) (v := (s1.1 + 1)) (lv' := [(1, .int (s1.1 + 1)), (0, .ref (ρ k0))]) 1 rfl (congrArg (fun z => s1.1 + z) (by decide : Int32.ofInt (1) = (1))) (by decide) rfl dX9_keeps_27 ?_
      refine Y_goto C (pc := 30) (tgt := 2) dX9_keeps_30 (by decide) ?_
      have h := Option.some.inj h
      exact Y_sub [1, 0] rfl (hLp _ h.symm)
  · cases h
    exact Y_vret C dX9_keeps_33

set_option maxRecDepth 100000 in
set_option maxHeartbeats 4000000 in
theorem c_X9_choose {l : Launch} {D : va_G} {cA ρ : Nat → Nat} {σ : Sg} {τ : Tg} {k0 : Nat} {i1 : Int32} (hI : Inj ρ) (hk0 : kd k0 = (0, 9)) {r : Int32 × Sg} (h : f_X9_choose σ k0 i1 = some r) : Ct l yX9_choose cX9_choose 4 (some .int) 3 67 D cA ρ (Aw ρ) [.ref (ρ k0), .int i1] σ τ (some (.int r.1)) r.2 τ := by
  refine Ct_of (by decide +kernel) (Nat.le_of_ble_eq_true rfl) (fun p e s m args below meth c C => ?_)
  have C : Ctx p l s m args meth c cX9_choose RX9 4 (some .int) D cA ρ (Aw ρ) := C
  have hW : Wr ρ (Aw ρ) := ⟨hI, fun k hk => ⟨k, hk, rfl⟩⟩
  unfold f_X9_choose at h
  refine Y_sub [0, 1] (lv' := [(0, .ref (ρ k0)), (1, .int i1)]) rfl ?_
  refine Y_iload_n C (pc := 0) 1 1 rfl rfl dX9_choose_0 ?_
  refine Y_iconst C (pc := 1) (v := (0 : Int32)) (by decide) dX9_choose_1 ?_
  refine Y_aload_n C (pc := 2) 0 0 rfl rfl dX9_choose_2 ?_
  obtain ⟨v1, hv1, h⟩ := Option.bind_eq_some_iff.mp h
  refine Y_callV C [] [.int (0 : Int32), .int i1] [.int v1, .int (0 : Int32), .int i1] hk0 rfl rfl (c_X9_assignments hk0 hv1) (fun _ h => h.elim) q_cw_yX9_assignments q_ml_RX9_139 ⟨q_im_yX9_assignments, q_se_yX9_assignments⟩ ⟨⟨Nat.le_of_ble_eq_true rfl, Nat.le_of_ble_eq_true rfl⟩, ⟨Nat.zero_le _, Nat.zero_le _⟩, Nat.le_of_ble_eq_true rfl⟩ rfl rfl rfl dX9_choose_3 ?_
  refine Y_iconst C (pc := 6) (v := (1 : Int32)) (by decide) dX9_choose_6 ?_
  refine Y_isub C (pc := 7) dX9_choose_7 ?_
  obtain ⟨v2, hv2, h⟩ := Option.bind_eq_some_iff.mp h
  refine Y_callS C [.int i1, .int (0 : Int32), .int (v1 - (1 : Int32))] [] [.int v2] (c_X9_in  hv2) (fun _ h => h.elim) q_cw_yX9_in q_ml_RX9_86 q_st_yX9_in ⟨⟨Nat.le_of_ble_eq_true rfl, Nat.le_of_ble_eq_true rfl⟩, ⟨Nat.zero_le _, Nat.zero_le _⟩, Nat.le_of_ble_eq_true rfl⟩ rfl rfl rfl dX9_choose_8 ?_
  refine Y_if_ne C (pc := 11) (tgt := 20) dX9_choose_11 (by decide) (fun c14 => ?_) (fun c14 => ?_)
  · rw [if_neg c14] at h
    refine Y_aload_n C (pc := 20) 0 0 rfl rfl dX9_choose_20 ?_
    obtain ⟨v3, hv3, h⟩ := Option.bind_eq_some_iff.mp h
    refine Y_callV C [] [] [] hk0 rfl rfl (c_X9_hold hI hk0 hv3) (fun _ h => h) q_cw_yX9_hold q_ml_RX9_97 ⟨q_im_yX9_hold, q_se_yX9_hold⟩ ⟨⟨Nat.le_of_ble_eq_true rfl, Nat.le_of_ble_eq_true rfl⟩, ⟨Nat.zero_le _, Nat.zero_le _⟩, Nat.le_of_ble_eq_true rfl⟩ rfl rfl rfl dX9_choose_21 ?_
    refine Y_aload_n C (pc := 24) 0 0 rfl rfl dX9_choose_24 ?_
    obtain ⟨v4, hv4, h⟩ := Option.bind_eq_some_iff.mp h
    refine Y_callV C [] [] [] hk0 rfl rfl (c_X9_firsts hI hk0 hv4) (fun _ h => h) q_cw_yX9_firsts q_ml_RX9_142 ⟨q_im_yX9_firsts, q_se_yX9_firsts⟩ ⟨⟨Nat.le_of_ble_eq_true rfl, Nat.le_of_ble_eq_true rfl⟩, ⟨Nat.zero_le _, Nat.zero_le _⟩, Nat.le_of_ble_eq_true rfl⟩ rfl rfl rfl dX9_choose_25 ?_
    refine Y_iconst C (pc := 28) (v := (1 : Int32)) (by decide) dX9_choose_28 ?_
    refine Y_istore_n C (pc := 29) (lv' := [(2, .int (1 : Int32)), (0, .ref (ρ k0)), (1, .int i1)]) 2 rfl (by decide) rfl dX9_choose_29 ?_
    refine Y_iconst C (pc := 30) (v := (0 : Int32)) (by decide) dX9_choose_30 ?_
    refine Y_istore_n C (pc := 31) (lv' := [(3, .int (0 : Int32)), (2, .int (1 : Int32)), (0, .ref (ρ k0)), (1, .int i1)]) 3 rfl (by decide) rfl dX9_choose_31 ?_
    obtain ⟨e9, he9, h⟩ := Option.bind_eq_some_iff.mp h
    refine Y_sub [2, 3, 1, 0] (lv' := [(0, .ref (ρ k0)), (1, .int i1), (2, .int (1 : Int32)), (3, .int (0 : Int32))]) rfl ?_
    refine lo_rule (f := (f_X9_choose_L32 i1 k0)) (YS := fun s5 => Y p l e (Rm 3 67) s m args below meth c 4 D cA ρ (Aw ρ) 0 0 (MQ below (QC D cA ρ (Aw ρ) (some (.int r.1)) r.2 τ) args s 0 0 (Aw ρ)) s5.2.2 τ 32 [(0, .ref (ρ k0)), (1, .int i1), (2, .int s5.1), (3, .int s5.2.1)] []) (YE := fun e9 => Y p l e (Rm 3 67) s m args below meth c 4 D cA ρ (Aw ρ) 0 0 (MQ below (QC D cA ρ (Aw ρ) (some (.int r.1)) r.2 τ) args s 0 0 (Aw ρ)) e9 τ 52 [(0, .ref (ρ k0))] []) ?_ he9 ?_
    · intro s5 x h hLp hE
      unfold f_X9_choose_L32 at h
      refine Y_iload_n C (pc := 32) 3 3 rfl rfl dX9_choose_32 ?_
      refine Y_iload_n C (pc := 33) 1 1 rfl rfl dX9_choose_33 ?_
      refine Y_icmp_ge C (pc := 34) (tgt := 52) dX9_choose_34 (by decide) (fun c8 => ?_) (fun c8 => ?_)
      · rw [if_pos c8] at h
        have h := Option.some.inj h
        exact Y_sub [0] rfl (hE _ h.symm)
      · rw [if_neg c8] at h
        refine Y_iload_n C (pc := 37) 2 2 rfl rfl dX9_choose_37 ?_
        refine Y_if_eq C (pc := 38) (tgt := 52) dX9_choose_38 (by decide) (fun c7 => ?_) (fun c7 => ?_)
        · rw [if_pos c7] at h
          have h := Option.some.inj h
          exact Y_sub [0] rfl (hE _ h.symm)
        · rw [if_neg c7] at h
          refine Y_aload_n C (pc := 41) 0 0 rfl rfl dX9_choose_41 ?_
          obtain ⟨v6, hv6, h⟩ := Option.bind_eq_some_iff.mp h
          refine Y_callV C [] [] [.int v6.1] hk0 rfl rfl (c_X9_goesOn hI hk0 hv6) (fun _ h => h) q_cw_yX9_goesOn q_ml_RX9_145 ⟨q_im_yX9_goesOn, q_se_yX9_goesOn⟩ ⟨⟨Nat.le_of_ble_eq_true rfl, Nat.le_of_ble_eq_true rfl⟩, ⟨Nat.zero_le _, Nat.zero_le _⟩, Nat.le_of_ble_eq_true rfl⟩ rfl rfl rfl dX9_choose_42 ?_
          refine Y_istore_n C (pc := 45) (lv' := [(2, .int v6.1), (0, .ref (ρ k0)), (1, .int i1), (3, .int s5.2.1)]) 2 rfl (by decide) rfl dX9_choose_45 ?_
          refine Y_iinc C (pc := 46) (v := (s5.2.1 + 1)) (lv' := [(3, .int (s5.2.1 + 1)), (2, .int v6.1), (0, .ref (ρ k0)), (1, .int i1)]) 3 rfl (congrArg (fun z => s5.2.1 + z) (by decide : Int32.ofInt (1) = (1))) (by decide) rfl dX9_choose_46 ?_
          refine Y_goto C (pc := 49) (tgt := 32) dX9_choose_49 (by decide) ?_
          have h := Option.some.inj h
          exact Y_sub [2, 3, 1, 0] rfl (hLp _ h.symm)
    · refine Y_aload_n C (pc := 52) 0 0 rfl rfl dX9_choose_52 ?_
      obtain ⟨v10, hv10, h⟩ := Option.bind_eq_some_iff.mp h
      refine Y_callV C [] [] [] hk0 rfl rfl (c_X9_keeps hI hk0 hv10) (fun _ h => h) q_cw_yX9_keeps q_ml_RX9_149 ⟨q_im_yX9_keeps, q_se_yX9_keeps⟩ ⟨⟨Nat.le_of_ble_eq_true rfl, Nat.le_of_ble_eq_true rfl⟩, ⟨Nat.zero_le _, Nat.zero_le _⟩, Nat.le_of_ble_eq_true rfl⟩ rfl rfl rfl dX9_choose_53 ?_
      refine Y_aload_n C (pc := 56) 0 0 rfl rfl dX9_choose_56 ?_
      refine Y_aload_n C (pc := 57) 0 0 rfl rfl dX9_choose_57 ?_
      obtain ⟨v11, hv11, h⟩ := Option.bind_eq_some_iff.mp h
      refine Y_callV C [] [.ref (ρ k0)] [.int v11, .ref (ρ k0)] hk0 rfl rfl (c_X9_costOf hk0 hv11) (fun _ h => h.elim) q_cw_yX9_costOf q_ml_RX9_132 ⟨q_im_yX9_costOf, q_se_yX9_costOf⟩ ⟨⟨Nat.le_of_ble_eq_true rfl, Nat.le_of_ble_eq_true rfl⟩, ⟨Nat.zero_le _, Nat.zero_le _⟩, Nat.le_of_ble_eq_true rfl⟩ rfl rfl rfl dX9_choose_58 ?_
      obtain ⟨v12, hv12, h⟩ := Option.bind_eq_some_iff.mp h
      refine Y_callV C [.int v11] [] [.int v12.1] hk0 rfl rfl (c_X9_ends hI hk0 hv12) (fun _ h => h) q_cw_yX9_ends q_ml_RX9_100 ⟨q_im_yX9_ends, q_se_yX9_ends⟩ ⟨⟨Nat.le_of_ble_eq_true rfl, Nat.le_of_ble_eq_true rfl⟩, ⟨Nat.zero_le _, Nat.zero_le _⟩, Nat.le_of_ble_eq_true rfl⟩ rfl rfl rfl dX9_choose_61 ?_
      cases h
      exact Y_iret C dX9_choose_64
  · rw [if_pos c14] at h
    refine Y_aload_n C (pc := 14) 0 0 rfl rfl dX9_choose_14 ?_
    refine Y_iconst C (pc := 15) (v := (1 : Int32)) (by decide) dX9_choose_15 ?_
    obtain ⟨v13, hv13, h⟩ := Option.bind_eq_some_iff.mp h
    refine Y_callV C [.int (1 : Int32)] [] [.int v13.1] hk0 rfl rfl (c_X9_fails hI hk0 hv13) (fun _ h => h) q_cw_yX9_fails q_ml_RX9_94 ⟨q_im_yX9_fails, q_se_yX9_fails⟩ ⟨⟨Nat.le_of_ble_eq_true rfl, Nat.le_of_ble_eq_true rfl⟩, ⟨Nat.zero_le _, Nat.zero_le _⟩, Nat.le_of_ble_eq_true rfl⟩ rfl rfl rfl dX9_choose_16 ?_
    cases h
    exact Y_iret C dX9_choose_19

set_option maxRecDepth 100000 in
set_option maxHeartbeats 4000000 in
theorem c_X9_number {l : Launch} {D : va_G} {cA ρ : Nat → Nat} {σ : Sg} {τ : Tg} {k0 : Nat} (hI : Inj ρ) (hk0 : kd k0 = (0, 9)) {r : Int32 × Sg} (h : f_X9_number σ k0 = some r) : Ct l yX9_number cX9_number 1 (some .int) 1 24 D cA ρ (Aw ρ) [.ref (ρ k0)] σ τ (some (.int r.1)) r.2 τ := by
  refine Ct_of (by decide +kernel) (Nat.le_of_ble_eq_true rfl) (fun p e s m args below meth c C => ?_)
  have C : Ctx p l s m args meth c cX9_number RX9 1 (some .int) D cA ρ (Aw ρ) := C
  have hW : Wr ρ (Aw ρ) := ⟨hI, fun k hk => ⟨k, hk, rfl⟩⟩
  unfold f_X9_number at h
  refine Y_sub [0] (lv' := [(0, .ref (ρ k0))]) rfl ?_
  refine Y_aload_n C (pc := 0) 0 0 rfl rfl dX9_number_0 ?_
  obtain ⟨v1, hv1, h⟩ := Option.bind_eq_some_iff.mp h
  refine Y_callV C [] [] [] hk0 rfl rfl (c_X9_takes hI hk0 hv1) (fun _ h => h) q_cw_yX9_takes q_ml_RX9_129 ⟨q_im_yX9_takes, q_se_yX9_takes⟩ ⟨⟨Nat.le_of_ble_eq_true rfl, Nat.le_of_ble_eq_true rfl⟩, ⟨Nat.zero_le _, Nat.zero_le _⟩, Nat.le_of_ble_eq_true rfl⟩ rfl rfl rfl dX9_number_1 ?_
  refine Y_aload_n C (pc := 4) 0 0 rfl rfl dX9_number_4 ?_
  refine Y_aload_n C (pc := 5) 0 0 rfl rfl dX9_number_5 ?_
  obtain ⟨v2, hv2, h⟩ := Option.bind_eq_some_iff.mp h
  refine Y_callV C [] [.ref (ρ k0)] [.int v2, .ref (ρ k0)] hk0 rfl rfl (c_X9_numberOf hk0 hv2) (fun _ h => h.elim) q_cw_yX9_numberOf q_ml_RX9_152 ⟨q_im_yX9_numberOf, q_se_yX9_numberOf⟩ ⟨⟨Nat.le_of_ble_eq_true rfl, Nat.le_of_ble_eq_true rfl⟩, ⟨Nat.zero_le _, Nat.zero_le _⟩, Nat.le_of_ble_eq_true rfl⟩ rfl rfl rfl dX9_number_6 ?_
  obtain ⟨v3, hv3, h⟩ := Option.bind_eq_some_iff.mp h
  refine Y_callV C [.int v2] [] [.int v3.1] hk0 rfl rfl (c_X9_tells hI hk0 hv3) (fun _ h => h) q_cw_yX9_tells q_ml_RX9_82 ⟨q_im_yX9_tells, q_se_yX9_tells⟩ ⟨⟨Nat.le_of_ble_eq_true rfl, Nat.le_of_ble_eq_true rfl⟩, ⟨Nat.zero_le _, Nat.zero_le _⟩, Nat.le_of_ble_eq_true rfl⟩ rfl rfl rfl dX9_number_9 ?_
  cases h
  exact Y_iret C dX9_number_12

set_option maxRecDepth 100000 in
set_option maxHeartbeats 4000000 in
theorem c_X9_gainOf {l : Launch} {D : va_G} {cA ρ : Nat → Nat} {σ : Sg} {τ : Tg} {k0 : Nat} {i1 : Int32} {i2 : Int32} (hI : Inj ρ) (hk0 : kd k0 = (0, 9)) {r : Int32 × Sg} (h : f_X9_gainOf σ k0 i1 i2 = some r) : Ct l yX9_gainOf cX9_gainOf 5 (some .int) 3 67 D cA ρ (Aw ρ) [.ref (ρ k0), .int i1, .int i2] σ τ (some (.int r.1)) r.2 τ := by
  refine Ct_of (by decide +kernel) (Nat.le_of_ble_eq_true rfl) (fun p e s m args below meth c C => ?_)
  have C : Ctx p l s m args meth c cX9_gainOf RX9 5 (some .int) D cA ρ (Aw ρ) := C
  have hW : Wr ρ (Aw ρ) := ⟨hI, fun k hk => ⟨k, hk, rfl⟩⟩
  unfold f_X9_gainOf at h
  refine Y_sub [0, 1, 2] (lv' := [(0, .ref (ρ k0)), (1, .int i1), (2, .int i2)]) rfl ?_
  refine Y_aload_n C (pc := 0) 0 0 rfl rfl dX9_gainOf_0 ?_
  obtain ⟨v1, hv1, h⟩ := Option.bind_eq_some_iff.mp h
  refine Y_callV C [] [] [.int v1] hk0 rfl rfl (c_X9_costOf hk0 hv1) (fun _ h => h.elim) q_cw_yX9_costOf q_ml_RX9_132 ⟨q_im_yX9_costOf, q_se_yX9_costOf⟩ ⟨⟨Nat.le_of_ble_eq_true rfl, Nat.le_of_ble_eq_true rfl⟩, ⟨Nat.zero_le _, Nat.zero_le _⟩, Nat.le_of_ble_eq_true rfl⟩ rfl rfl rfl dX9_gainOf_1 ?_
  refine Y_istore_n C (pc := 4) (lv' := [(3, .int v1), (0, .ref (ρ k0)), (1, .int i1), (2, .int i2)]) 3 rfl (by decide) rfl dX9_gainOf_4 ?_
  refine Y_aload_n C (pc := 5) 0 1 rfl rfl dX9_gainOf_5 ?_
  refine Y_iload_n C (pc := 6) 1 2 rfl rfl dX9_gainOf_6 ?_
  refine Y_iload_n C (pc := 7) 2 3 rfl rfl dX9_gainOf_7 ?_
  obtain ⟨v2, hv2, h⟩ := Option.bind_eq_some_iff.mp h
  refine Y_callV C [.int i1, .int i2] [] [] hk0 rfl rfl (c_X9_swaps hI hk0 hv2) (fun _ h => h) q_cw_yX9_swaps q_ml_RX9_115 ⟨q_im_yX9_swaps, q_se_yX9_swaps⟩ ⟨⟨Nat.le_of_ble_eq_true rfl, Nat.le_of_ble_eq_true rfl⟩, ⟨Nat.zero_le _, Nat.zero_le _⟩, Nat.le_of_ble_eq_true rfl⟩ rfl rfl rfl dX9_gainOf_8 ?_
  refine Y_aload_n C (pc := 11) 0 1 rfl rfl dX9_gainOf_11 ?_
  obtain ⟨v3, hv3, h⟩ := Option.bind_eq_some_iff.mp h
  refine Y_callV C [] [] [.int v3] hk0 rfl rfl (c_X9_costOf hk0 hv3) (fun _ h => h.elim) q_cw_yX9_costOf q_ml_RX9_132 ⟨q_im_yX9_costOf, q_se_yX9_costOf⟩ ⟨⟨Nat.le_of_ble_eq_true rfl, Nat.le_of_ble_eq_true rfl⟩, ⟨Nat.zero_le _, Nat.zero_le _⟩, Nat.le_of_ble_eq_true rfl⟩ rfl rfl rfl dX9_gainOf_12 ?_
  refine Y_istore C (pc := 15) (lv' := [(4, .int v3), (3, .int v1), (0, .ref (ρ k0)), (1, .int i1), (2, .int i2)]) (by decide) rfl dX9_gainOf_15 ?_
  refine Y_aload_n C (pc := 17) 0 2 rfl rfl dX9_gainOf_17 ?_
  refine Y_iload_n C (pc := 18) 1 3 rfl rfl dX9_gainOf_18 ?_
  refine Y_iload_n C (pc := 19) 2 4 rfl rfl dX9_gainOf_19 ?_
  obtain ⟨v4, hv4, h⟩ := Option.bind_eq_some_iff.mp h
  refine Y_callV C [.int i1, .int i2] [] [] hk0 rfl rfl (c_X9_swaps hI hk0 hv4) (fun _ h => h) q_cw_yX9_swaps q_ml_RX9_115 ⟨q_im_yX9_swaps, q_se_yX9_swaps⟩ ⟨⟨Nat.le_of_ble_eq_true rfl, Nat.le_of_ble_eq_true rfl⟩, ⟨Nat.zero_le _, Nat.zero_le _⟩, Nat.le_of_ble_eq_true rfl⟩ rfl rfl rfl dX9_gainOf_20 ?_
  refine Y_iload_n C (pc := 23) 3 1 rfl rfl dX9_gainOf_23 ?_
  refine Y_iload C (pc := 24) 0 rfl dX9_gainOf_24 ?_
  refine Y_isub C (pc := 26) dX9_gainOf_26 ?_
  cases h
  exact Y_iret C dX9_gainOf_27

set_option maxRecDepth 100000 in
set_option maxHeartbeats 4000000 in
theorem c_X9_exchange {l : Launch} {D : va_G} {cA ρ : Nat → Nat} {σ : Sg} {τ : Tg} {k0 : Nat} {i1 : Int32} {i2 : Int32} (hI : Inj ρ) (hk0 : kd k0 = (0, 9)) {r : Int32 × Sg} (h : f_X9_exchange σ k0 i1 i2 = some r) : Ct l yX9_exchange cX9_exchange 4 (some .int) 4 91 D cA ρ (Aw ρ) [.ref (ρ k0), .int i1, .int i2] σ τ (some (.int r.1)) r.2 τ := by
  refine Ct_of (by decide +kernel) (Nat.le_of_ble_eq_true rfl) (fun p e s m args below meth c C => ?_)
  have C : Ctx p l s m args meth c cX9_exchange RX9 4 (some .int) D cA ρ (Aw ρ) := C
  have hW : Wr ρ (Aw ρ) := ⟨hI, fun k hk => ⟨k, hk, rfl⟩⟩
  unfold f_X9_exchange at h
  refine Y_sub [0, 1, 2] (lv' := [(0, .ref (ρ k0)), (1, .int i1), (2, .int i2)]) rfl ?_
  have hJ16 : ∀ (sj2 : Sg), f_X9_exchange_J16 k0 sj2 = some r → Y p l e (Rm 4 91) s m args below meth c 4 D cA ρ (Aw ρ) 0 0 (MQ below (QC D cA ρ (Aw ρ) (some (.int r.1)) r.2 τ) args s 0 0 (Aw ρ)) sj2 τ 16 [(0, .ref (ρ k0))] [] := by
    intro sj2 h
    unfold f_X9_exchange_J16 at h
    refine Y_aload_n C (pc := 16) 0 0 rfl rfl dX9_exchange_16 ?_
    refine Y_iconst C (pc := 17) (v := (1 : Int32)) (by decide) dX9_exchange_17 ?_
    obtain ⟨v3, hv3, h⟩ := Option.bind_eq_some_iff.mp h
    refine Y_callV C [.int (1 : Int32)] [] [.int v3.1] hk0 rfl rfl (c_X9_fails hI hk0 hv3) (fun _ h => h) q_cw_yX9_fails q_ml_RX9_94 ⟨q_im_yX9_fails, q_se_yX9_fails⟩ ⟨⟨Nat.le_of_ble_eq_true rfl, Nat.le_of_ble_eq_true rfl⟩, ⟨Nat.zero_le _, Nat.zero_le _⟩, Nat.le_of_ble_eq_true rfl⟩ rfl rfl rfl dX9_exchange_18 ?_
    cases h
    exact Y_iret C dX9_exchange_21
  refine Y_aload_n C (pc := 0) 0 0 rfl rfl dX9_exchange_0 ?_
  refine Y_iload_n C (pc := 1) 1 1 rfl rfl dX9_exchange_1 ?_
  obtain ⟨v1, hv1, h⟩ := Option.bind_eq_some_iff.mp h
  refine Y_callV C [.int i1] [] [.int v1] hk0 rfl rfl (c_X9_isOne hk0 hv1) (fun _ h => h.elim) q_cw_yX9_isOne q_ml_RX9_103 ⟨q_im_yX9_isOne, q_se_yX9_isOne⟩ ⟨⟨Nat.le_of_ble_eq_true rfl, Nat.le_of_ble_eq_true rfl⟩, ⟨Nat.zero_le _, Nat.zero_le _⟩, Nat.le_of_ble_eq_true rfl⟩ rfl rfl rfl dX9_exchange_2 ?_
  refine Y_if_eq C (pc := 5) (tgt := 16) dX9_exchange_5 (by decide) (fun c12 => ?_) (fun c12 => ?_)
  · rw [if_pos c12] at h
    exact Y_sub [0] rfl (hJ16 _ h)
  · rw [if_neg c12] at h
    refine Y_aload_n C (pc := 8) 0 0 rfl rfl dX9_exchange_8 ?_
    refine Y_iload_n C (pc := 9) 2 2 rfl rfl dX9_exchange_9 ?_
    obtain ⟨v4, hv4, h⟩ := Option.bind_eq_some_iff.mp h
    refine Y_callV C [.int i2] [] [.int v4] hk0 rfl rfl (c_X9_isOne hk0 hv4) (fun _ h => h.elim) q_cw_yX9_isOne q_ml_RX9_103 ⟨q_im_yX9_isOne, q_se_yX9_isOne⟩ ⟨⟨Nat.le_of_ble_eq_true rfl, Nat.le_of_ble_eq_true rfl⟩, ⟨Nat.zero_le _, Nat.zero_le _⟩, Nat.le_of_ble_eq_true rfl⟩ rfl rfl rfl dX9_exchange_10 ?_
    refine Y_if_ne C (pc := 13) (tgt := 22) dX9_exchange_13 (by decide) (fun c11 => ?_) (fun c11 => ?_)
    · rw [if_neg c11] at h
      refine Y_aload_n C (pc := 22) 0 0 rfl rfl dX9_exchange_22 ?_
      obtain ⟨v5, hv5, h⟩ := Option.bind_eq_some_iff.mp h
      refine Y_callV C [] [] [] hk0 rfl rfl (c_X9_hold hI hk0 hv5) (fun _ h => h) q_cw_yX9_hold q_ml_RX9_97 ⟨q_im_yX9_hold, q_se_yX9_hold⟩ ⟨⟨Nat.le_of_ble_eq_true rfl, Nat.le_of_ble_eq_true rfl⟩, ⟨Nat.zero_le _, Nat.zero_le _⟩, Nat.le_of_ble_eq_true rfl⟩ rfl rfl rfl dX9_exchange_23 ?_
      refine Y_aload_n C (pc := 26) 0 0 rfl rfl dX9_exchange_26 ?_
      obtain ⟨v6, hv6, h⟩ := Option.bind_eq_some_iff.mp h
      refine Y_callV C [] [] [] hk0 rfl rfl (c_X9_takes hI hk0 hv6) (fun _ h => h) q_cw_yX9_takes q_ml_RX9_129 ⟨q_im_yX9_takes, q_se_yX9_takes⟩ ⟨⟨Nat.le_of_ble_eq_true rfl, Nat.le_of_ble_eq_true rfl⟩, ⟨Nat.zero_le _, Nat.zero_le _⟩, Nat.le_of_ble_eq_true rfl⟩ rfl rfl rfl dX9_exchange_27 ?_
      refine Y_aload_n C (pc := 30) 0 0 rfl rfl dX9_exchange_30 ?_
      refine Y_iload_n C (pc := 31) 1 1 rfl rfl dX9_exchange_31 ?_
      refine Y_iload_n C (pc := 32) 2 2 rfl rfl dX9_exchange_32 ?_
      obtain ⟨v7, hv7, h⟩ := Option.bind_eq_some_iff.mp h
      refine Y_callV C [.int i1, .int i2] [] [.int v7.1] hk0 rfl rfl (c_X9_gainOf hI hk0 hv7) (fun _ h => h) q_cw_yX9_gainOf q_ml_RX9_155 ⟨q_im_yX9_gainOf, q_se_yX9_gainOf⟩ ⟨⟨Nat.le_of_ble_eq_true rfl, Nat.le_of_ble_eq_true rfl⟩, ⟨Nat.zero_le _, Nat.zero_le _⟩, Nat.le_of_ble_eq_true rfl⟩ rfl rfl rfl dX9_exchange_33 ?_
      refine Y_istore_n C (pc := 36) (lv' := [(3, .int v7.1), (0, .ref (ρ k0)), (1, .int i1), (2, .int i2)]) 3 rfl (by decide) rfl dX9_exchange_36 ?_
      refine Y_aload_n C (pc := 37) 0 1 rfl rfl dX9_exchange_37 ?_
      refine Y_iload_n C (pc := 38) 1 2 rfl rfl dX9_exchange_38 ?_
      refine Y_iload_n C (pc := 39) 2 3 rfl rfl dX9_exchange_39 ?_
      obtain ⟨v8, hv8, h⟩ := Option.bind_eq_some_iff.mp h
      refine Y_callV C [.int i1, .int i2] [] [] hk0 rfl rfl (c_X9_swaps hI hk0 hv8) (fun _ h => h) q_cw_yX9_swaps q_ml_RX9_115 ⟨q_im_yX9_swaps, q_se_yX9_swaps⟩ ⟨⟨Nat.le_of_ble_eq_true rfl, Nat.le_of_ble_eq_true rfl⟩, ⟨Nat.zero_le _, Nat.zero_le _⟩, Nat.le_of_ble_eq_true rfl⟩ rfl rfl rfl dX9_exchange_40 ?_
      refine Y_aload_n C (pc := 43) 0 1 rfl rfl dX9_exchange_43 ?_
      obtain ⟨v9, hv9, h⟩ := Option.bind_eq_some_iff.mp h
      refine Y_callV C [] [] [] hk0 rfl rfl (c_X9_keeps hI hk0 hv9) (fun _ h => h) q_cw_yX9_keeps q_ml_RX9_149 ⟨q_im_yX9_keeps, q_se_yX9_keeps⟩ ⟨⟨Nat.le_of_ble_eq_true rfl, Nat.le_of_ble_eq_true rfl⟩, ⟨Nat.zero_le _, Nat.zero_le _⟩, Nat.le_of_ble_eq_true rfl⟩ rfl rfl rfl dX9_exchange_44 ?_
      refine Y_aload_n C (pc := 47) 0 1 rfl rfl dX9_exchange_47 ?_
      refine Y_iload_n C (pc := 48) 3 0 rfl rfl dX9_exchange_48 ?_
      obtain ⟨v10, hv10, h⟩ := Option.bind_eq_some_iff.mp h
      refine Y_callV C [.int v7.1] [] [.int v10.1] hk0 rfl rfl (c_X9_ends hI hk0 hv10) (fun _ h => h) q_cw_yX9_ends q_ml_RX9_100 ⟨q_im_yX9_ends, q_se_yX9_ends⟩ ⟨⟨Nat.le_of_ble_eq_true rfl, Nat.le_of_ble_eq_true rfl⟩, ⟨Nat.zero_le _, Nat.zero_le _⟩, Nat.le_of_ble_eq_true rfl⟩ rfl rfl rfl dX9_exchange_49 ?_
      cases h
      exact Y_iret C dX9_exchange_52
    · rw [if_pos c11] at h
      exact Y_sub [0] rfl (hJ16 _ h)

set_option maxRecDepth 100000 in
set_option maxHeartbeats 4000000 in
theorem c_X9_gain {l : Launch} {D : va_G} {cA ρ : Nat → Nat} {σ : Sg} {τ : Tg} {k0 : Nat} {i1 : Int32} {i2 : Int32} (hI : Inj ρ) (hk0 : kd k0 = (0, 9)) {r : Int32 × Sg} (h : f_X9_gain σ k0 i1 i2 = some r) : Ct l yX9_gain cX9_gain 3 (some .int) 4 91 D cA ρ (Aw ρ) [.ref (ρ k0), .int i1, .int i2] σ τ (some (.int r.1)) r.2 τ := by
  refine Ct_of (by decide +kernel) (Nat.le_of_ble_eq_true rfl) (fun p e s m args below meth c C => ?_)
  have C : Ctx p l s m args meth c cX9_gain RX9 3 (some .int) D cA ρ (Aw ρ) := C
  have hW : Wr ρ (Aw ρ) := ⟨hI, fun k hk => ⟨k, hk, rfl⟩⟩
  unfold f_X9_gain at h
  refine Y_sub [0, 1, 2] (lv' := [(0, .ref (ρ k0)), (1, .int i1), (2, .int i2)]) rfl ?_
  have hJ16 : ∀ (sj2 : Sg), f_X9_gain_J16 k0 sj2 = some r → Y p l e (Rm 4 91) s m args below meth c 3 D cA ρ (Aw ρ) 0 0 (MQ below (QC D cA ρ (Aw ρ) (some (.int r.1)) r.2 τ) args s 0 0 (Aw ρ)) sj2 τ 16 [(0, .ref (ρ k0))] [] := by
    intro sj2 h
    unfold f_X9_gain_J16 at h
    refine Y_aload_n C (pc := 16) 0 0 rfl rfl dX9_gain_16 ?_
    refine Y_iconst C (pc := 17) (v := (1 : Int32)) (by decide) dX9_gain_17 ?_
    obtain ⟨v3, hv3, h⟩ := Option.bind_eq_some_iff.mp h
    refine Y_callV C [.int (1 : Int32)] [] [.int v3.1] hk0 rfl rfl (c_X9_fails hI hk0 hv3) (fun _ h => h) q_cw_yX9_fails q_ml_RX9_94 ⟨q_im_yX9_fails, q_se_yX9_fails⟩ ⟨⟨Nat.le_of_ble_eq_true rfl, Nat.le_of_ble_eq_true rfl⟩, ⟨Nat.zero_le _, Nat.zero_le _⟩, Nat.le_of_ble_eq_true rfl⟩ rfl rfl rfl dX9_gain_18 ?_
    cases h
    exact Y_iret C dX9_gain_21
  refine Y_aload_n C (pc := 0) 0 0 rfl rfl dX9_gain_0 ?_
  refine Y_iload_n C (pc := 1) 1 1 rfl rfl dX9_gain_1 ?_
  obtain ⟨v1, hv1, h⟩ := Option.bind_eq_some_iff.mp h
  refine Y_callV C [.int i1] [] [.int v1] hk0 rfl rfl (c_X9_isOne hk0 hv1) (fun _ h => h.elim) q_cw_yX9_isOne q_ml_RX9_103 ⟨q_im_yX9_isOne, q_se_yX9_isOne⟩ ⟨⟨Nat.le_of_ble_eq_true rfl, Nat.le_of_ble_eq_true rfl⟩, ⟨Nat.zero_le _, Nat.zero_le _⟩, Nat.le_of_ble_eq_true rfl⟩ rfl rfl rfl dX9_gain_2 ?_
  refine Y_if_eq C (pc := 5) (tgt := 16) dX9_gain_5 (by decide) (fun c9 => ?_) (fun c9 => ?_)
  · rw [if_pos c9] at h
    exact Y_sub [0] rfl (hJ16 _ h)
  · rw [if_neg c9] at h
    refine Y_aload_n C (pc := 8) 0 0 rfl rfl dX9_gain_8 ?_
    refine Y_iload_n C (pc := 9) 2 2 rfl rfl dX9_gain_9 ?_
    obtain ⟨v4, hv4, h⟩ := Option.bind_eq_some_iff.mp h
    refine Y_callV C [.int i2] [] [.int v4] hk0 rfl rfl (c_X9_isOne hk0 hv4) (fun _ h => h.elim) q_cw_yX9_isOne q_ml_RX9_103 ⟨q_im_yX9_isOne, q_se_yX9_isOne⟩ ⟨⟨Nat.le_of_ble_eq_true rfl, Nat.le_of_ble_eq_true rfl⟩, ⟨Nat.zero_le _, Nat.zero_le _⟩, Nat.le_of_ble_eq_true rfl⟩ rfl rfl rfl dX9_gain_10 ?_
    refine Y_if_ne C (pc := 13) (tgt := 22) dX9_gain_13 (by decide) (fun c8 => ?_) (fun c8 => ?_)
    · rw [if_neg c8] at h
      refine Y_aload_n C (pc := 22) 0 0 rfl rfl dX9_gain_22 ?_
      obtain ⟨v5, hv5, h⟩ := Option.bind_eq_some_iff.mp h
      refine Y_callV C [] [] [] hk0 rfl rfl (c_X9_takes hI hk0 hv5) (fun _ h => h) q_cw_yX9_takes q_ml_RX9_129 ⟨q_im_yX9_takes, q_se_yX9_takes⟩ ⟨⟨Nat.le_of_ble_eq_true rfl, Nat.le_of_ble_eq_true rfl⟩, ⟨Nat.zero_le _, Nat.zero_le _⟩, Nat.le_of_ble_eq_true rfl⟩ rfl rfl rfl dX9_gain_23 ?_
      refine Y_aload_n C (pc := 26) 0 0 rfl rfl dX9_gain_26 ?_
      refine Y_aload_n C (pc := 27) 0 0 rfl rfl dX9_gain_27 ?_
      refine Y_iload_n C (pc := 28) 1 1 rfl rfl dX9_gain_28 ?_
      refine Y_iload_n C (pc := 29) 2 2 rfl rfl dX9_gain_29 ?_
      obtain ⟨v6, hv6, h⟩ := Option.bind_eq_some_iff.mp h
      refine Y_callV C [.int i1, .int i2] [.ref (ρ k0)] [.int v6.1, .ref (ρ k0)] hk0 rfl rfl (c_X9_gainOf hI hk0 hv6) (fun _ h => h) q_cw_yX9_gainOf q_ml_RX9_155 ⟨q_im_yX9_gainOf, q_se_yX9_gainOf⟩ ⟨⟨Nat.le_of_ble_eq_true rfl, Nat.le_of_ble_eq_true rfl⟩, ⟨Nat.zero_le _, Nat.zero_le _⟩, Nat.le_of_ble_eq_true rfl⟩ rfl rfl rfl dX9_gain_30 ?_
      obtain ⟨v7, hv7, h⟩ := Option.bind_eq_some_iff.mp h
      refine Y_callV C [.int v6.1] [] [.int v7.1] hk0 rfl rfl (c_X9_tells hI hk0 hv7) (fun _ h => h) q_cw_yX9_tells q_ml_RX9_82 ⟨q_im_yX9_tells, q_se_yX9_tells⟩ ⟨⟨Nat.le_of_ble_eq_true rfl, Nat.le_of_ble_eq_true rfl⟩, ⟨Nat.zero_le _, Nat.zero_le _⟩, Nat.le_of_ble_eq_true rfl⟩ rfl rfl rfl dX9_gain_33 ?_
      cases h
      exact Y_iret C dX9_gain_36
    · rw [if_pos c8] at h
      exact Y_sub [0] rfl (hJ16 _ h)

set_option maxRecDepth 100000 in
set_option maxHeartbeats 4000000 in
theorem c_X9_bestOf {l : Launch} {D : va_G} {cA ρ : Nat → Nat} {σ : Sg} {τ : Tg} {k0 : Nat} (hI : Inj ρ) (hk0 : kd k0 = (0, 9)) {r : Int32 × Sg} (h : f_X9_bestOf σ k0 = some r) : Ct l yX9_bestOf cX9_bestOf 7 (some .int) 4 91 D cA ρ (Aw ρ) [.ref (ρ k0)] σ τ (some (.int r.1)) r.2 τ := by
  refine Ct_of (by decide +kernel) (Nat.le_of_ble_eq_true rfl) (fun p e s m args below meth c C => ?_)
  have C : Ctx p l s m args meth c cX9_bestOf RX9 7 (some .int) D cA ρ (Aw ρ) := C
  have hW : Wr ρ (Aw ρ) := ⟨hI, fun k hk => ⟨k, hk, rfl⟩⟩
  unfold f_X9_bestOf at h
  refine Y_sub [0] (lv' := [(0, .ref (ρ k0))]) rfl ?_
  refine Y_iconst C (pc := 0) (v := (-1 : Int32)) (by decide) dX9_bestOf_0 ?_
  refine Y_istore_n C (pc := 1) (lv' := [(1, .int (-1 : Int32)), (0, .ref (ρ k0))]) 1 rfl (by decide) rfl dX9_bestOf_1 ?_
  refine Y_iconst C (pc := 2) (v := (0 : Int32)) (by decide) dX9_bestOf_2 ?_
  refine Y_istore_n C (pc := 3) (lv' := [(2, .int (0 : Int32)), (1, .int (-1 : Int32)), (0, .ref (ρ k0))]) 2 rfl (by decide) rfl dX9_bestOf_3 ?_
  refine Y_iconst C (pc := 4) (v := (0 : Int32)) (by decide) dX9_bestOf_4 ?_
  refine Y_istore_n C (pc := 5) (lv' := [(3, .int (0 : Int32)), (2, .int (0 : Int32)), (1, .int (-1 : Int32)), (0, .ref (ρ k0))]) 3 rfl (by decide) rfl dX9_bestOf_5 ?_
  obtain ⟨e39, he39, h⟩ := Option.bind_eq_some_iff.mp h
  refine Y_sub [3, 2, 1, 0] (lv' := [(0, .ref (ρ k0)), (1, .int (-1 : Int32)), (2, .int (0 : Int32)), (3, .int (0 : Int32))]) rfl ?_
  refine lo_rule (f := (f_X9_bestOf_L6 k0)) (YS := fun s1 => Y p l e (Rm 4 91) s m args below meth c 7 D cA ρ (Aw ρ) 0 0 (MQ below (QC D cA ρ (Aw ρ) (some (.int r.1)) r.2 τ) args s 0 0 (Aw ρ)) s1.2.2.2 τ 6 [(0, .ref (ρ k0)), (1, .int s1.1), (2, .int s1.2.1), (3, .int s1.2.2.1)] []) (YE := fun e39 => Y p l e (Rm 4 91) s m args below meth c 7 D cA ρ (Aw ρ) 0 0 (MQ below (QC D cA ρ (Aw ρ) (some (.int r.1)) r.2 τ) args s 0 0 (Aw ρ)) e39.2 τ 123 [(1, .int e39.1)] []) ?_ he39 ?_
  · intro s1 x h hLp hE
    unfold f_X9_bestOf_L6 at h
    refine Y_iload_n C (pc := 6) 3 3 rfl rfl dX9_bestOf_6 ?_
    refine Y_aload_n C (pc := 7) 0 0 rfl rfl dX9_bestOf_7 ?_
    refine Y_getR C (pc := 8) hk0 q_fi_RX9_7 (by decide) dX9_bestOf_8 ?_
    refine Y_iconst C (pc := 11) (v := (0 : Int32)) (by decide) dX9_bestOf_11 ?_
    obtain ⟨v2, hv2, h⟩ := Option.bind_eq_some_iff.mp h
    refine Y_iald C (pc := 12) (q_kr_9_0 hk0) hv2 dX9_bestOf_12 ?_
    refine Y_icmp_ge C (pc := 13) (tgt := 123) dX9_bestOf_13 (by decide) (fun c38 => ?_) (fun c38 => ?_)
    · rw [if_pos c38] at h
      have h := Option.some.inj h
      exact Y_sub [1] rfl (hE _ h.symm)
    · rw [if_neg c38] at h
      refine Y_iload_n C (pc := 16) 3 3 rfl rfl dX9_bestOf_16 ?_
      refine Y_iconst C (pc := 17) (v := (1 : Int32)) (by decide) dX9_bestOf_17 ?_
      refine Y_iadd C (pc := 18) dX9_bestOf_18 ?_
      refine Y_istore C (pc := 19) (lv' := [(4, .int (s1.2.2.1 + (1 : Int32))), (0, .ref (ρ k0)), (1, .int s1.1), (2, .int s1.2.1), (3, .int s1.2.2.1)]) (by decide) rfl dX9_bestOf_19 ?_
      obtain ⟨e37, he37, h⟩ := Option.bind_eq_some_iff.mp h
      refine Y_sub [1, 2, 3, 4, 0] (lv' := [(0, .ref (ρ k0)), (1, .int s1.1), (2, .int s1.2.1), (3, .int s1.2.2.1), (4, .int (s1.2.2.1 + (1 : Int32)))]) rfl ?_
      refine lo_rule (f := (f_X9_bestOf_L21 k0 s1)) (YS := fun s3 => Y p l e (Rm 4 91) s m args below meth c 7 D cA ρ (Aw ρ) 0 0 (MQ below (QC D cA ρ (Aw ρ) (some (.int r.1)) r.2 τ) args s 0 0 (Aw ρ)) s3.2.2.2 τ 21 [(0, .ref (ρ k0)), (1, .int s3.1), (2, .int s3.2.1), (3, .int s1.2.2.1), (4, .int s3.2.2.1)] []) (YE := fun e37 => Y p l e (Rm 4 91) s m args below meth c 7 D cA ρ (Aw ρ) 0 0 (MQ below (QC D cA ρ (Aw ρ) (some (.int r.1)) r.2 τ) args s 0 0 (Aw ρ)) e37.2.2 τ 117 [(0, .ref (ρ k0)), (1, .int e37.1), (2, .int e37.2.1), (3, .int s1.2.2.1)] []) ?_ he37 ?_
      · intro s3 x h hLp hE
        unfold f_X9_bestOf_L21 at h
        have hJ111 : ∀ (j21 : Int32) (j22 : Int32) (j23 : Int32) (sj24 : Sg), f_X9_bestOf_J111 j21 j22 j23 sj24 = some x → Y p l e (Rm 4 91) s m args below meth c 7 D cA ρ (Aw ρ) 0 0 (MQ below (QC D cA ρ (Aw ρ) (some (.int r.1)) r.2 τ) args s 0 0 (Aw ρ)) sj24 τ 111 [(0, .ref (ρ k0)), (1, .int j21), (2, .int j22), (3, .int s1.2.2.1), (4, .int j23)] [] := by
          intro j21 j22 j23 sj24 h
          unfold f_X9_bestOf_J111 at h
          refine Y_iinc C (pc := 111) (v := (j23 + 1)) (lv' := [(4, .int (j23 + 1)), (0, .ref (ρ k0)), (1, .int j21), (2, .int j22), (3, .int s1.2.2.1)]) 4 rfl (congrArg (fun z => j23 + z) (by decide : Int32.ofInt (1) = (1))) (by decide) rfl dX9_bestOf_111 ?_
          refine Y_goto C (pc := 114) (tgt := 21) dX9_bestOf_114 (by decide) ?_
          have h := Option.some.inj h
          exact Y_sub [1, 2, 3, 4, 0] rfl (hLp _ h.symm)
        have hJ100 : ∀ (j25 : Int32) (j26 : Int32) (sj27 : Sg), f_X9_bestOf_J100 s1 j25 j26 sj27 = some x → Y p l e (Rm 4 91) s m args below meth c 7 D cA ρ (Aw ρ) 0 0 (MQ below (QC D cA ρ (Aw ρ) (some (.int r.1)) r.2 τ) args s 0 0 (Aw ρ)) sj27 τ 100 [(0, .ref (ρ k0)), (3, .int s1.2.2.1), (4, .int j25), (6, .int j26)] [] := by
          intro j25 j26 sj27 h
          unfold f_X9_bestOf_J100 at h
          refine Y_bipush C (pc := 100) (v := (10 : Int32)) (by decide) dX9_bestOf_100 ?_
          refine Y_iload_n C (pc := 102) 3 1 rfl rfl dX9_bestOf_102 ?_
          refine Y_imul C (pc := 103) dX9_bestOf_103 ?_
          refine Y_iload C (pc := 104) 2 rfl dX9_bestOf_104 ?_
          refine Y_iadd C (pc := 106) dX9_bestOf_106 ?_
          refine Y_istore_n C (pc := 107) (lv' := [(1, .int (((10 : Int32) * s1.2.2.1) + j25)), (0, .ref (ρ k0)), (3, .int s1.2.2.1), (4, .int j25), (6, .int j26)]) 1 rfl (by decide) rfl dX9_bestOf_107 ?_
          refine Y_iload C (pc := 108) 4 rfl dX9_bestOf_108 ?_
          refine Y_istore_n C (pc := 110) (lv' := [(2, .int j26), (1, .int (((10 : Int32) * s1.2.2.1) + j25)), (0, .ref (ρ k0)), (3, .int s1.2.2.1), (4, .int j25), (6, .int j26)]) 2 rfl (by decide) rfl dX9_bestOf_110 ?_
          exact Y_sub [2, 1, 0, 3, 4] rfl (hJ111 _ _ _ _ h)
        have hJ82 : ∀ (j15 : Int32) (j16 : Int32) (j17 : Int32) (j18 : Int32) (j19 : Int32) (sj20 : Sg), f_X9_bestOf_J82 s1 j15 j16 j17 j18 j19 sj20 = some x → Y p l e (Rm 4 91) s m args below meth c 7 D cA ρ (Aw ρ) 0 0 (MQ below (QC D cA ρ (Aw ρ) (some (.int r.1)) r.2 τ) args s 0 0 (Aw ρ)) sj20 τ 82 [(0, .ref (ρ k0)), (1, .int j15), (2, .int j16), (3, .int s1.2.2.1), (4, .int j17), (5, .int j18)] [.int j19] := by
          intro j15 j16 j17 j18 j19 sj20 h
          unfold f_X9_bestOf_J82 at h
          refine Y_istore C (pc := 82) (lv' := [(6, .int j19), (0, .ref (ρ k0)), (1, .int j15), (2, .int j16), (3, .int s1.2.2.1), (4, .int j17), (5, .int j18)]) (by decide) rfl dX9_bestOf_82 ?_
          refine Y_iload C (pc := 84) 6 rfl dX9_bestOf_84 ?_
          refine Y_if_eq C (pc := 86) (tgt := 111) dX9_bestOf_86 (by decide) (fun c30 => ?_) (fun c30 => ?_)
          · rw [if_pos c30] at h
            exact Y_sub [1, 2, 3, 4, 5] rfl (hJ111 _ _ _ _ h)
          · rw [if_neg c30] at h
            refine Y_iload_n C (pc := 89) 1 2 rfl rfl dX9_bestOf_89 ?_
            refine Y_iconst C (pc := 90) (v := (-1 : Int32)) (by decide) dX9_bestOf_90 ?_
            refine Y_icmp_eq C (pc := 91) (tgt := 100) dX9_bestOf_91 (by decide) (fun c29 => ?_) (fun c29 => ?_)
            · rw [if_pos c29] at h
              exact Y_sub [1, 4, 5, 0] rfl (hJ100 _ _ _ h)
            · rw [if_neg c29] at h
              refine Y_iload C (pc := 94) 0 rfl dX9_bestOf_94 ?_
              refine Y_iload_n C (pc := 96) 2 3 rfl rfl dX9_bestOf_96 ?_
              refine Y_icmp_le C (pc := 97) (tgt := 111) dX9_bestOf_97 (by decide) (fun c28 => ?_) (fun c28 => ?_)
              · rw [if_pos c28] at h
                exact Y_sub [1, 2, 3, 4, 5] rfl (hJ111 _ _ _ _ h)
              · rw [if_neg c28] at h
                exact Y_sub [1, 4, 5, 0] rfl (hJ100 _ _ _ h)
        have hJ64 : ∀ (j10 : Int32) (j11 : Int32) (j12 : Int32) (j13 : Int32) (sj14 : Sg), f_X9_bestOf_J64 s1 k0 j10 j11 j12 j13 sj14 = some x → Y p l e (Rm 4 91) s m args below meth c 7 D cA ρ (Aw ρ) 0 0 (MQ below (QC D cA ρ (Aw ρ) (some (.int r.1)) r.2 τ) args s 0 0 (Aw ρ)) sj14 τ 64 [(0, .ref (ρ k0)), (1, .int j10), (2, .int j11), (3, .int s1.2.2.1), (4, .int j12)] [.int j13] := by
          intro j10 j11 j12 j13 sj14 h
          unfold f_X9_bestOf_J64 at h
          refine Y_istore C (pc := 64) (lv' := [(5, .int j13), (0, .ref (ρ k0)), (1, .int j10), (2, .int j11), (3, .int s1.2.2.1), (4, .int j12)]) (by decide) rfl dX9_bestOf_64 ?_
          refine Y_iload C (pc := 66) 0 rfl dX9_bestOf_66 ?_
          refine Y_if_eq C (pc := 68) (tgt := 81) dX9_bestOf_68 (by decide) (fun c32 => ?_) (fun c32 => ?_)
          · rw [if_pos c32] at h
            refine Y_iconst C (pc := 81) (v := (0 : Int32)) (by decide) dX9_bestOf_81 ?_
            exact Y_sub [1, 2, 3, 4, 5, 0] rfl (hJ82 _ _ _ _ _ _ h)
          · rw [if_neg c32] at h
            refine Y_aload_n C (pc := 71) 0 1 rfl rfl dX9_bestOf_71 ?_
            refine Y_iload_n C (pc := 72) 3 4 rfl rfl dX9_bestOf_72 ?_
            refine Y_iload C (pc := 73) 5 rfl dX9_bestOf_73 ?_
            obtain ⟨v31, hv31, h⟩ := Option.bind_eq_some_iff.mp h
            refine Y_callV C [.int s1.2.2.1, .int j12] [] [.int v31.1] hk0 rfl rfl (c_X9_gainOf hI hk0 hv31) (fun _ h => h) q_cw_yX9_gainOf q_ml_RX9_155 ⟨q_im_yX9_gainOf, q_se_yX9_gainOf⟩ ⟨⟨Nat.le_of_ble_eq_true rfl, Nat.le_of_ble_eq_true rfl⟩, ⟨Nat.zero_le _, Nat.zero_le _⟩, Nat.le_of_ble_eq_true rfl⟩ rfl rfl rfl dX9_bestOf_75 ?_
            refine Y_goto C (pc := 78) (tgt := 82) dX9_bestOf_78 (by decide) ?_
            exact Y_sub [1, 2, 3, 4, 5, 0] rfl (hJ82 _ _ _ _ _ _ h)
        have hJ63 : ∀ (j6 : Int32) (j7 : Int32) (j8 : Int32) (sj9 : Sg), f_X9_bestOf_J63 s1 k0 j6 j7 j8 sj9 = some x → Y p l e (Rm 4 91) s m args below meth c 7 D cA ρ (Aw ρ) 0 0 (MQ below (QC D cA ρ (Aw ρ) (some (.int r.1)) r.2 τ) args s 0 0 (Aw ρ)) sj9 τ 63 [(0, .ref (ρ k0)), (1, .int j6), (2, .int j7), (3, .int s1.2.2.1), (4, .int j8)] [] := by
          intro j6 j7 j8 sj9 h
          unfold f_X9_bestOf_J63 at h
          refine Y_iconst C (pc := 63) (v := (0 : Int32)) (by decide) dX9_bestOf_63 ?_
          exact Y_sub [0, 1, 2, 3, 4] rfl (hJ64 _ _ _ _ _ h)
        refine Y_iload C (pc := 21) 4 rfl dX9_bestOf_21 ?_
        refine Y_aload_n C (pc := 23) 0 0 rfl rfl dX9_bestOf_23 ?_
        refine Y_getR C (pc := 24) hk0 q_fi_RX9_7 (by decide) dX9_bestOf_24 ?_
        refine Y_iconst C (pc := 27) (v := (0 : Int32)) (by decide) dX9_bestOf_27 ?_
        obtain ⟨v4, hv4, h⟩ := Option.bind_eq_some_iff.mp h
        refine Y_iald C (pc := 28) (q_kr_9_0 hk0) hv4 dX9_bestOf_28 ?_
        refine Y_icmp_ge C (pc := 29) (tgt := 117) dX9_bestOf_29 (by decide) (fun c36 => ?_) (fun c36 => ?_)
        · rw [if_pos c36] at h
          have h := Option.some.inj h
          exact Y_sub [0, 1, 2, 3] rfl (hE _ h.symm)
        · rw [if_neg c36] at h
          refine Y_aload_n C (pc := 32) 0 0 rfl rfl dX9_bestOf_32 ?_
          refine Y_getR C (pc := 33) hk0 q_fi_RX9_7 (by decide) dX9_bestOf_33 ?_
          refine Y_bipush C (pc := 36) (v := (115 : Int32)) (by decide) dX9_bestOf_36 ?_
          refine Y_iload_n C (pc := 38) 3 3 rfl rfl dX9_bestOf_38 ?_
          refine Y_iadd C (pc := 39) dX9_bestOf_39 ?_
          obtain ⟨v5, hv5, h⟩ := Option.bind_eq_some_iff.mp h
          refine Y_iald C (pc := 40) (q_kr_9_0 hk0) hv5 dX9_bestOf_40 ?_
          refine Y_iconst C (pc := 41) (v := (-1 : Int32)) (by decide) dX9_bestOf_41 ?_
          refine Y_icmp_ne C (pc := 42) (tgt := 63) dX9_bestOf_42 (by decide) (fun c35 => ?_) (fun c35 => ?_)
          · rw [if_neg c35] at h
            exact Y_sub [0, 1, 2, 3, 4] rfl (hJ63 _ _ _ _ h)
          · rw [if_pos c35] at h
            refine Y_aload_n C (pc := 45) 0 0 rfl rfl dX9_bestOf_45 ?_
            refine Y_getR C (pc := 46) hk0 q_fi_RX9_7 (by decide) dX9_bestOf_46 ?_
            refine Y_bipush C (pc := 49) (v := (115 : Int32)) (by decide) dX9_bestOf_49 ?_
            refine Y_iload C (pc := 51) 4 rfl dX9_bestOf_51 ?_
            refine Y_iadd C (pc := 53) dX9_bestOf_53 ?_
            obtain ⟨v33, hv33, h⟩ := Option.bind_eq_some_iff.mp h
            refine Y_iald C (pc := 54) (q_kr_9_0 hk0) hv33 dX9_bestOf_54 ?_
            refine Y_iconst C (pc := 55) (v := (-1 : Int32)) (by decide) dX9_bestOf_55 ?_
            refine Y_icmp_ne C (pc := 56) (tgt := 63) dX9_bestOf_56 (by decide) (fun c34 => ?_) (fun c34 => ?_)
            · rw [if_neg c34] at h
              exact Y_sub [0, 1, 2, 3, 4] rfl (hJ63 _ _ _ _ h)
            · rw [if_pos c34] at h
              refine Y_iconst C (pc := 59) (v := (1 : Int32)) (by decide) dX9_bestOf_59 ?_
              refine Y_goto C (pc := 60) (tgt := 64) dX9_bestOf_60 (by decide) ?_
              exact Y_sub [0, 1, 2, 3, 4] rfl (hJ64 _ _ _ _ _ h)
      · refine Y_iinc C (pc := 117) (v := (s1.2.2.1 + 1)) (lv' := [(3, .int (s1.2.2.1 + 1)), (0, .ref (ρ k0)), (1, .int e37.1), (2, .int e37.2.1)]) 3 rfl (congrArg (fun z => s1.2.2.1 + z) (by decide : Int32.ofInt (1) = (1))) (by decide) rfl dX9_bestOf_117 ?_
        refine Y_goto C (pc := 120) (tgt := 6) dX9_bestOf_120 (by decide) ?_
        have h := Option.some.inj h
        exact Y_sub [1, 2, 3, 0] rfl (hLp _ h.symm)
  · refine Y_iload_n C (pc := 123) 1 0 rfl rfl dX9_bestOf_123 ?_
    cases h
    exact Y_iret C dX9_bestOf_124

