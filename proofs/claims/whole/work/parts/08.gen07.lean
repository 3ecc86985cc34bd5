set_option maxRecDepth 100000 in
set_option maxHeartbeats 4000000 in
theorem c_X8_undo {l : Launch} {D : va_G} {cA ρ : Nat → Nat} {σ : Sg} {τ : Tg} {k0 : Nat} (hI : Inj ρ) (hk0 : kd k0 = (0, 8)) {r : Int32 × Sg} (h : f_X8_undo σ k0 = some (.inr r)) : Ct l yX8_undo cX8_undo 1 (some .int) 3 75 D cA ρ (Aw ρ) [.ref (ρ k0)] σ τ (some (.int r.1)) r.2 τ := by
  refine Ct_of (by decide +kernel) (Nat.le_of_ble_eq_true rfl) (fun p e s m args below meth c C => ?_)
  have C : Ctx p l s m args meth c cX8_undo RX8 1 (some .int) D cA ρ (Aw ρ) := C
  have hW : Wr ρ (Aw ρ) := ⟨hI, fun k hk => ⟨k, hk, rfl⟩⟩
  unfold f_X8_undo at h
  refine Y_sub [0] (lv' := [(0, .ref (ρ k0))]) rfl ?_
  refine Y_aload_n C (pc := 0) 0 0 rfl rfl dX8_undo_0 ?_
  refine Y_getR C (pc := 1) hk0 q_fi_RX8_19 (by decide) dX8_undo_1 ?_
  refine Y_getI C (pc := 4) (q_kr_8_1 hk0) q_fi_RX8_284 dX8_undo_4 ?_
  refine Y_if_ne C (pc := 7) (tgt := 21) dX8_undo_7 (by decide) (fun c2 => ?_) (fun c2 => ?_)
  · rw [if_neg c2] at h
    refine Y_aload_n C (pc := 21) 0 0 rfl rfl dX8_undo_21 ?_
    refine Y_getR C (pc := 22) hk0 q_fi_RX8_19 (by decide) dX8_undo_22 ?_
    refine Y_aload_n C (pc := 25) 0 0 rfl rfl dX8_undo_25 ?_
    refine Y_getR C (pc := 26) hk0 q_fi_RX8_12 (by decide) dX8_undo_26 ?_
    obtain ⟨v1, hv1, h⟩ := Option.bind_eq_some_iff.mp h
    refine Y_callV C [.ref (ρ (k0 + 1))] [] [] (q_kr_8_1 hk0) rfl rfl (c_X2_popInto hI (q_kr_8_1 hk0) (q_kr_8_0 hk0) hv1) (fun _ h => h) q_cw_yX2_popInto q_ml_RX8_287 ⟨q_im_yX2_popInto, q_se_yX2_popInto⟩ ⟨⟨Nat.le_of_ble_eq_true rfl, Nat.le_of_ble_eq_true rfl⟩, ⟨Nat.zero_le _, Nat.zero_le _⟩, Nat.le_of_ble_eq_true rfl⟩ rfl rfl rfl dX8_undo_29 ?_
    refine Y_aload_n C (pc := 32) 0 0 rfl rfl dX8_undo_32 ?_
    refine Y_getR C (pc := 33) hk0 q_fi_RX8_19 (by decide) dX8_undo_33 ?_
    refine Y_getI C (pc := 36) (q_kr_8_1 hk0) q_fi_RX8_284 dX8_undo_36 ?_
    cases h
    exact Y_iret C dX8_undo_39
  · rw [if_pos c2] at h
    cases h
set_option maxRecDepth 100000 in
set_option maxHeartbeats 4000000 in
theorem t_X8_undo {l : Launch} {D : va_G} {cA ρ : Nat → Nat} {σ : Sg} {τ : Tg} {k0 : Nat} (hI : Inj ρ) (hk0 : kd k0 = (0, 8)) {r : Nat × Sg} (h : f_X8_undo σ k0 = some (.inl r)) : CtT l yX8_undo cX8_undo 1 (some .int) 6 90 D cA ρ [.ref (ρ k0)] σ τ (xn r.1) r.2 τ := by
  refine CtT_of (by decide +kernel) (Nat.le_of_ble_eq_true rfl) (fun p e s m args below meth c C X hno => ?_)
  have C : Ctx p l s m args meth c cX8_undo RX8 1 (some .int) D cA ρ (Ax ρ s.heap.size) := C
  have hW : Wr ρ (Ax ρ s.heap.size) := ⟨hI, fun k hk => Or.inl ⟨k, hk, rfl⟩⟩
  unfold f_X8_undo at h
  refine Y_sub [0] (lv' := [(0, .ref (ρ k0))]) rfl ?_
  refine Y_aload_n C (pc := 0) 0 0 rfl rfl dX8_undo_0 ?_
  refine Y_getR C (pc := 1) hk0 q_fi_RX8_19 (by decide) dX8_undo_1 ?_
  refine Y_getI C (pc := 4) (q_kr_8_1 hk0) q_fi_RX8_284 dX8_undo_4 ?_
  refine Y_if_ne C (pc := 7) (tgt := 21) dX8_undo_7 (by decide) (fun c2 => ?_) (fun c2 => ?_)
  · rw [if_neg c2] at h
    refine Y_aload_n C (pc := 21) 0 0 rfl rfl dX8_undo_21 ?_
    refine Y_getR C (pc := 22) hk0 q_fi_RX8_19 (by decide) dX8_undo_22 ?_
    refine Y_aload_n C (pc := 25) 0 0 rfl rfl dX8_undo_25 ?_
    refine Y_getR C (pc := 26) hk0 q_fi_RX8_12 (by decide) dX8_undo_26 ?_
    obtain ⟨v1, hv1, h⟩ := Option.bind_eq_some_iff.mp h
    refine Y_callV C [.ref (ρ (k0 + 1))] [] [] (q_kr_8_1 hk0) rfl rfl (c_X2_popInto hI (q_kr_8_1 hk0) (q_kr_8_0 hk0) hv1) (fun _ h => Or.inl h) q_cw_yX2_popInto q_ml_RX8_287 ⟨q_im_yX2_popInto, q_se_yX2_popInto⟩ ⟨⟨Nat.le_of_ble_eq_true rfl, Nat.le_of_ble_eq_true rfl⟩, ⟨Nat.zero_le _, Nat.zero_le _⟩, Nat.le_of_ble_eq_true rfl⟩ rfl rfl rfl dX8_undo_29 ?_
    refine Y_aload_n C (pc := 32) 0 0 rfl rfl dX8_undo_32 ?_
    refine Y_getR C (pc := 33) hk0 q_fi_RX8_19 (by decide) dX8_undo_33 ?_
    refine Y_getI C (pc := 36) (q_kr_8_1 hk0) q_fi_RX8_284 dX8_undo_36 ?_
    cases h
  · rw [if_pos c2] at h
    cases h
    exact Y_throwW (σ0 := σ) (τ0 := τ) (E := "java/lang/IllegalStateException") (pc := 10) C X hno (by decide +kernel) q_cl_RX8_193 q_ix_1 q_sr_RX8_285 q_at_RX8_197 dX8_undo_10 dX8_undo_13 dX8_undo_14 dX8_undo_17 dX8_undo_20 ⟨Nat.le_of_ble_eq_true rfl, Nat.le_of_ble_eq_true rfl, Nat.le_of_ble_eq_true rfl, Nat.le_of_ble_eq_true rfl⟩ (fun _ h => Or.inr h)

set_option maxRecDepth 100000 in
set_option maxHeartbeats 4000000 in
theorem c_X8_mix {l : Launch} {D : va_G} {cA ρ : Nat → Nat} {σ : Sg} {τ : Tg} {l0 : Int64} {i2 : Int32}  {r : Int64} (h : f_X8_mix l0 i2 = some r) : Ct l yX8_mix cX8_mix 3 (some .long) 0 0 D cA ρ A0 [.long l0, .int i2] σ τ (some (.long r)) σ τ := by
  refine Ct_of (by decide +kernel) (Nat.le_of_ble_eq_true rfl) (fun p e s m args below meth c C => ?_)
  have C : Ctx p l s m args meth c cX8_mix RX8 3 (some .long) D cA ρ A0 := C
  unfold f_X8_mix at h
  refine Y_sub [0, 1] (lv' := [(0, .long l0), (2, .int i2)]) rfl ?_
  refine Y_ldc2 C (pc := 0) q_ct_RX8_313 dX8_mix_0 ?_
  refine Y_lload_n C (pc := 3) 0 0 rfl rfl dX8_mix_3 ?_
  refine Y_lmul C (pc := 4) dX8_mix_4 ?_
  refine Y_iload_n C (pc := 5) 2 1 rfl rfl dX8_mix_5 ?_
  refine Y_i2l C (pc := 6) dX8_mix_6 ?_
  refine Y_ladd C (pc := 7) dX8_mix_7 ?_
  cases h
  exact Y_lret C dX8_mix_8

set_option maxRecDepth 100000 in
set_option maxHeartbeats 4000000 in
theorem c_X8_mixTable {l : Launch} {D : va_G} {cA ρ : Nat → Nat} {σ : Sg} {τ : Tg} {k0 : Nat} {l1 : Int64} {k3 : Nat} (hk0 : kd k0 = (0, 8)) (hk3 : (kd k3).1 = 1) {r : Int64} (h : f_X8_mixTable σ k0 l1 k3 = some r) : Ct l yX8_mixTable cX8_mixTable 8 (some .long) 1 23 D cA ρ A0 [.ref (ρ k0), .long l1, .ref (ρ k3)] σ τ (some (.long r)) σ τ := by
  refine Ct_of (by decide +kernel) (Nat.le_of_ble_eq_true rfl) (fun p e s m args below meth c C => ?_)
  have C : Ctx p l s m args meth c cX8_mixTable RX8 8 (some .long) D cA ρ A0 := C
  unfold f_X8_mixTable at h
  refine Y_sub [0, 1, 2] (lv' := [(0, .ref (ρ k0)), (1, .long l1), (3, .ref (ρ k3))]) rfl ?_
  refine Y_lload_n C (pc := 0) 1 1 rfl rfl dX8_mixTable_0 ?_
  refine Y_lstore C (pc := 1) (lv' := [(4, .long l1), (0, .ref (ρ k0)), (1, .long l1), (3, .ref (ρ k3))]) (by decide) rfl dX8_mixTable_1 ?_
  refine Y_iconst C (pc := 3) (v := (0 : Int32)) (by decide) dX8_mixTable_3 ?_
  refine Y_istore C (pc := 4) (lv' := [(6, .int (0 : Int32)), (4, .long l1), (0, .ref (ρ k0)), (1, .long l1), (3, .ref (ρ k3))]) (by decide) rfl dX8_mixTable_4 ?_
  obtain ⟨e8, he8, h⟩ := Option.bind_eq_some_iff.mp h
  refine Y_sub [2, 4, 1, 0] (lv' := [(0, .ref (ρ k0)), (3, .ref (ρ k3)), (4, .long l1), (6, .int (0 : Int32))]) rfl ?_
  refine lo_rule (f := (f_X8_mixTable_L6 σ k0 k3)) (YS := fun s1 => Y p l e (Rm 1 23) s m args below meth c 8 D cA ρ A0 0 0 (MQ below (QC D cA ρ A0 (some (.long r)) σ τ) args s 0 0 A0) σ τ 6 [(0, .ref (ρ k0)), (3, .ref (ρ k3)), (4, .long s1.1), (6, .int s1.2)] []) (YE := fun e8 => Y p l e (Rm 1 23) s m args below meth c 8 D cA ρ A0 0 0 (MQ below (QC D cA ρ A0 (some (.long r)) σ τ) args s 0 0 A0) σ τ 60 [(4, .long e8)] []) ?_ he8 ?_
  · intro s1 x h hLp hE
    unfold f_X8_mixTable_L6 at h
    refine Y_iload C (pc := 6) 3 rfl dX8_mixTable_6 ?_
    refine Y_aload_n C (pc := 8) 0 0 rfl rfl dX8_mixTable_8 ?_
    refine Y_getR C (pc := 9) hk0 q_fi_RX8_12 (by decide) dX8_mixTable_9 ?_
    refine Y_getI C (pc := 12) (q_kr_8_0 hk0) q_fi_RX8_69 dX8_mixTable_12 ?_
    refine Y_icmp_ge C (pc := 15) (tgt := 60) dX8_mixTable_15 (by decide) (fun c7 => ?_) (fun c7 => ?_)
    · rw [if_pos c7] at h
      have h := Option.some.inj h
      exact Y_sub [2] rfl (hE _ h.symm)
    · rw [if_neg c7] at h
      refine Y_iconst C (pc := 18) (v := (0 : Int32)) (by decide) dX8_mixTable_18 ?_
      refine Y_istore C (pc := 19) (lv' := [(7, .int (0 : Int32)), (0, .ref (ρ k0)), (3, .ref (ρ k3)), (4, .long s1.1), (6, .int s1.2)]) (by decide) rfl dX8_mixTable_19 ?_
      obtain ⟨e6, he6, h⟩ := Option.bind_eq_some_iff.mp h
      refine Y_sub [1, 2, 3, 4, 0] (lv' := [(0, .ref (ρ k0)), (3, .ref (ρ k3)), (4, .long s1.1), (6, .int s1.2), (7, .int (0 : Int32))]) rfl ?_
      refine lo_rule (f := (f_X8_mixTable_L21 σ k0 k3 s1)) (YS := fun s2 => Y p l e (Rm 1 23) s m args below meth c 8 D cA ρ A0 0 0 (MQ below (QC D cA ρ A0 (some (.long r)) σ τ) args s 0 0 A0) σ τ 21 [(0, .ref (ρ k0)), (3, .ref (ρ k3)), (4, .long s2.1), (6, .int s1.2), (7, .int s2.2)] []) (YE := fun e6 => Y p l e (Rm 1 23) s m args below meth c 8 D cA ρ A0 0 0 (MQ below (QC D cA ρ A0 (some (.long r)) σ τ) args s 0 0 A0) σ τ 54 [(0, .ref (ρ k0)), (3, .ref (ρ k3)), (4, .long e6), (6, .int s1.2)] []) ?_ he6 ?_
      · intro s2 x h hLp hE
        unfold f_X8_mixTable_L21 at h
        refine Y_iload C (pc := 21) 4 rfl dX8_mixTable_21 ?_
        refine Y_aload_n C (pc := 23) 0 0 rfl rfl dX8_mixTable_23 ?_
        refine Y_getR C (pc := 24) hk0 q_fi_RX8_12 (by decide) dX8_mixTable_24 ?_
        refine Y_getI C (pc := 27) (q_kr_8_0 hk0) q_fi_RX8_69 dX8_mixTable_27 ?_
        refine Y_icmp_ge C (pc := 30) (tgt := 54) dX8_mixTable_30 (by decide) (fun c5 => ?_) (fun c5 => ?_)
        · rw [if_pos c5] at h
          have h := Option.some.inj h
          exact Y_sub [0, 1, 2, 3] rfl (hE _ h.symm)
        · rw [if_neg c5] at h
          refine Y_lload C (pc := 33) 2 rfl dX8_mixTable_33 ?_
          refine Y_aload_n C (pc := 35) 3 1 rfl rfl dX8_mixTable_35 ?_
          refine Y_iload C (pc := 36) 3 rfl dX8_mixTable_36 ?_
          refine Y_iload C (pc := 38) 4 rfl dX8_mixTable_38 ?_
          obtain ⟨v3, hv3, h⟩ := Option.bind_eq_some_iff.mp h
          refine Y_callS C [.ref (ρ k3), .int s1.2, .int s2.2] [.long s2.1] [.int v3, .long s2.1] (c_X8_at hk3 hv3) (fun _ h => h.elim) q_cw_yX8_at q_ml_RX8_94 q_st_yX8_at ⟨⟨Nat.le_of_ble_eq_true rfl, Nat.le_of_ble_eq_true rfl⟩, ⟨Nat.zero_le _, Nat.zero_le _⟩, Nat.le_of_ble_eq_true rfl⟩ rfl rfl rfl dX8_mixTable_40 ?_
          obtain ⟨v4, hv4, h⟩ := Option.bind_eq_some_iff.mp h
          refine Y_callS C [.long s2.1, .int v3] [] [.long v4] (c_X8_mix  hv4) (fun _ h => h.elim) q_cw_yX8_mix q_ml_RX8_292 q_st_yX8_mix ⟨⟨Nat.le_of_ble_eq_true rfl, Nat.le_of_ble_eq_true rfl⟩, ⟨Nat.zero_le _, Nat.zero_le _⟩, Nat.le_of_ble_eq_true rfl⟩ rfl rfl rfl dX8_mixTable_43 ?_
          refine Y_lstore C (pc := 46) (lv' := [(4, .long v4), (0, .ref (ρ k0)), (3, .ref (ρ k3)), (6, .int s1.2), (7, .int s2.2)]) (by decide) rfl dX8_mixTable_46 ?_
          refine Y_iinc C (pc := 48) (v := (s2.2 + 1)) (lv' := [(7, .int (s2.2 + 1)), (4, .long v4), (0, .ref (ρ k0)), (3, .ref (ρ k3)), (6, .int s1.2)]) 4 rfl (congrArg (fun z => s2.2 + z) (by decide : Int32.ofInt (1) = (1))) (by decide) rfl dX8_mixTable_48 ?_
          refine Y_goto C (pc := 51) (tgt := 21) dX8_mixTable_51 (by decide) ?_
          have h := Option.some.inj h
          exact Y_sub [2, 3, 1, 4, 0] rfl (hLp _ h.symm)
      · refine Y_iinc C (pc := 54) (v := (s1.2 + 1)) (lv' := [(6, .int (s1.2 + 1)), (0, .ref (ρ k0)), (3, .ref (ρ k3)), (4, .long e6)]) 3 rfl (congrArg (fun z => s1.2 + z) (by decide : Int32.ofInt (1) = (1))) (by decide) rfl dX8_mixTable_54 ?_
        refine Y_goto C (pc := 57) (tgt := 6) dX8_mixTable_57 (by decide) ?_
        have h := Option.some.inj h
        exact Y_sub [1, 2, 3, 0] rfl (hLp _ h.symm)
  · refine Y_lload C (pc := 60) 0 rfl dX8_mixTable_60 ?_
    cases h
    exact Y_lret C dX8_mixTable_62

set_option maxRecDepth 100000 in
set_option maxHeartbeats 4000000 in
theorem c_X8_mixRow {l : Launch} {D : va_G} {cA ρ : Nat → Nat} {σ : Sg} {τ : Tg} {l0 : Int64} {k2 : Nat} {i3 : Int32} (hk2 : (kd k2).1 = 1) {r : Int64} (h : f_X8_mixRow σ l0 k2 i3 = some r) : Ct l yX8_mixRow cX8_mixRow 7 (some .long) 1 22 D cA ρ A0 [.long l0, .ref (ρ k2), .int i3] σ τ (some (.long r)) σ τ := by
  refine Ct_of (by decide +kernel) (Nat.le_of_ble_eq_true rfl) (fun p e s m args below meth c C => ?_)
  have C : Ctx p l s m args meth c cX8_mixRow RX8 7 (some .long) D cA ρ A0 := C
  unfold f_X8_mixRow at h
  refine Y_sub [0, 1, 2] (lv' := [(0, .long l0), (2, .ref (ρ k2)), (3, .int i3)]) rfl ?_
  refine Y_lload_n C (pc := 0) 0 0 rfl rfl dX8_mixRow_0 ?_
  refine Y_lstore C (pc := 1) (lv' := [(4, .long l0), (0, .long l0), (2, .ref (ρ k2)), (3, .int i3)]) (by decide) rfl dX8_mixRow_1 ?_
  refine Y_iconst C (pc := 3) (v := (0 : Int32)) (by decide) dX8_mixRow_3 ?_
  refine Y_istore C (pc := 4) (lv' := [(6, .int (0 : Int32)), (4, .long l0), (0, .long l0), (2, .ref (ρ k2)), (3, .int i3)]) (by decide) rfl dX8_mixRow_4 ?_
  obtain ⟨e5, he5, h⟩ := Option.bind_eq_some_iff.mp h
  refine Y_sub [3, 4, 1, 0] (lv' := [(2, .ref (ρ k2)), (3, .int i3), (4, .long l0), (6, .int (0 : Int32))]) rfl ?_
  refine lo_rule (f := (f_X8_mixRow_L6 i3 σ k2)) (YS := fun s1 => Y p l e (Rm 1 22) s m args below meth c 7 D cA ρ A0 0 0 (MQ below (QC D cA ρ A0 (some (.long r)) σ τ) args s 0 0 A0) σ τ 6 [(2, .ref (ρ k2)), (3, .int i3), (4, .long s1.1), (6, .int s1.2)] []) (YE := fun e5 => Y p l e (Rm 1 22) s m args below meth c 7 D cA ρ A0 0 0 (MQ below (QC D cA ρ A0 (some (.long r)) σ τ) args s 0 0 A0) σ τ 31 [(4, .long e5)] []) ?_ he5 ?_
  · intro s1 x h hLp hE
    unfold f_X8_mixRow_L6 at h
    refine Y_iload C (pc := 6) 3 rfl dX8_mixRow_6 ?_
    refine Y_iload_n C (pc := 8) 3 1 rfl rfl dX8_mixRow_8 ?_
    refine Y_icmp_ge C (pc := 9) (tgt := 31) dX8_mixRow_9 (by decide) (fun c4 => ?_) (fun c4 => ?_)
    · rw [if_pos c4] at h
      have h := Option.some.inj h
      exact Y_sub [2] rfl (hE _ h.symm)
    · rw [if_neg c4] at h
      refine Y_lload C (pc := 12) 2 rfl dX8_mixRow_12 ?_
      refine Y_aload_n C (pc := 14) 2 0 rfl rfl dX8_mixRow_14 ?_
      refine Y_iload C (pc := 15) 3 rfl dX8_mixRow_15 ?_
      obtain ⟨v2, hv2, h⟩ := Option.bind_eq_some_iff.mp h
      refine Y_callS C [.ref (ρ k2), .int s1.2] [.long s1.1] [.int v2, .long s1.1] (c_X8_item hk2 hv2) (fun _ h => h.elim) q_cw_yX8_item q_ml_RX8_119 q_st_yX8_item ⟨⟨Nat.le_of_ble_eq_true rfl, Nat.le_of_ble_eq_true rfl⟩, ⟨Nat.zero_le _, Nat.zero_le _⟩, Nat.le_of_ble_eq_true rfl⟩ rfl rfl rfl dX8_mixRow_17 ?_
      obtain ⟨v3, hv3, h⟩ := Option.bind_eq_some_iff.mp h
      refine Y_callS C [.long s1.1, .int v2] [] [.long v3] (c_X8_mix  hv3) (fun _ h => h.elim) q_cw_yX8_mix q_ml_RX8_292 q_st_yX8_mix ⟨⟨Nat.le_of_ble_eq_true rfl, Nat.le_of_ble_eq_true rfl⟩, ⟨Nat.zero_le _, Nat.zero_le _⟩, Nat.le_of_ble_eq_true rfl⟩ rfl rfl rfl dX8_mixRow_20 ?_
      refine Y_lstore C (pc := 23) (lv' := [(4, .long v3), (2, .ref (ρ k2)), (3, .int i3), (6, .int s1.2)]) (by decide) rfl dX8_mixRow_23 ?_
      refine Y_iinc C (pc := 25) (v := (s1.2 + 1)) (lv' := [(6, .int (s1.2 + 1)), (4, .long v3), (2, .ref (ρ k2)), (3, .int i3)]) 3 rfl (congrArg (fun z => s1.2 + z) (by decide : Int32.ofInt (1) = (1))) (by decide) rfl dX8_mixRow_25 ?_
      refine Y_goto C (pc := 28) (tgt := 6) dX8_mixRow_28 (by decide) ?_
      have h := Option.some.inj h
      exact Y_sub [2, 3, 1, 0] rfl (hLp _ h.symm)
  · refine Y_lload C (pc := 31) 0 rfl dX8_mixRow_31 ?_
    cases h
    exact Y_lret C dX8_mixRow_33

set_option maxRecDepth 100000 in
set_option maxHeartbeats 4000000 in
theorem c_X8_checksum {l : Launch} {D : va_G} {cA ρ : Nat → Nat} {σ : Sg} {τ : Tg} {k0 : Nat} (hI : Inj ρ) (hk0 : kd k0 = (0, 8)) {r : Int64 × Sg} (h : f_X8_checksum σ k0 = some r) : Ct l yX8_checksum cX8_checksum 4 (some .long) 4 98 D cA ρ (Aw ρ) [.ref (ρ k0)] σ τ (some (.long r.1)) r.2 τ := by
  refine Ct_of (by decide +kernel) (Nat.le_of_ble_eq_true rfl) (fun p e s m args below meth c C => ?_)
  have C : Ctx p l s m args meth c cX8_checksum RX8 4 (some .long) D cA ρ (Aw ρ) := C
  have hW : Wr ρ (Aw ρ) := ⟨hI, fun k hk => ⟨k, hk, rfl⟩⟩
  unfold f_X8_checksum at h
  refine Y_sub [0] (lv' := [(0, .ref (ρ k0))]) rfl ?_
  refine Y_ldc2 C (pc := 0) q_ct_RX8_290 dX8_checksum_0 ?_
  refine Y_aload_n C (pc := 3) 0 0 rfl rfl dX8_checksum_3 ?_
  refine Y_getR C (pc := 4) hk0 q_fi_RX8_12 (by decide) dX8_checksum_4 ?_
  refine Y_getI C (pc := 7) (q_kr_8_0 hk0) q_fi_RX8_69 dX8_checksum_7 ?_
  obtain ⟨v1, hv1, h⟩ := Option.bind_eq_some_iff.mp h
  refine Y_callS C [.long (18459 : Int64), .int (σ (k0 + 1) 0)] [] [.long v1] (c_X8_mix  hv1) (fun _ h => h.elim) q_cw_yX8_mix q_ml_RX8_292 q_st_yX8_mix ⟨⟨Nat.le_of_ble_eq_true rfl, Nat.le_of_ble_eq_true rfl⟩, ⟨Nat.zero_le _, Nat.zero_le _⟩, Nat.le_of_ble_eq_true rfl⟩ rfl rfl rfl dX8_checksum_10 ?_
  refine Y_lstore_n C (pc := 13) (lv' := [(1, .long v1), (0, .ref (ρ k0))]) 1 rfl (by decide) rfl dX8_checksum_13 ?_
  refine Y_aload_n C (pc := 14) 0 1 rfl rfl dX8_checksum_14 ?_
  refine Y_lload_n C (pc := 15) 1 0 rfl rfl dX8_checksum_15 ?_
  refine Y_aload_n C (pc := 16) 0 1 rfl rfl dX8_checksum_16 ?_
  refine Y_getR C (pc := 17) hk0 q_fi_RX8_12 (by decide) dX8_checksum_17 ?_
  refine Y_getR C (pc := 20) (q_kr_8_0 hk0) q_fi_RX8_296 (by decide) dX8_checksum_20 ?_
  obtain ⟨v2, hv2, h⟩ := Option.bind_eq_some_iff.mp h
  refine Y_callV C [.long v1, .ref (ρ ((k0 + 1) + 1))] [] [.long v2] hk0 rfl rfl (c_X8_mixTable hk0 (q_kr_6_1 (q_kr_8_0 hk0)) hv2) (fun _ h => h.elim) q_cw_yX8_mixTable q_ml_RX8_299 ⟨q_im_yX8_mixTable, q_se_yX8_mixTable⟩ ⟨⟨Nat.le_of_ble_eq_true rfl, Nat.le_of_ble_eq_true rfl⟩, ⟨Nat.zero_le _, Nat.zero_le _⟩, Nat.le_of_ble_eq_true rfl⟩ rfl rfl rfl dX8_checksum_23 ?_
  refine Y_lstore_n C (pc := 26) (lv' := [(1, .long v2), (0, .ref (ρ k0))]) 1 rfl (by decide) rfl dX8_checksum_26 ?_
  refine Y_aload_n C (pc := 27) 0 1 rfl rfl dX8_checksum_27 ?_
  refine Y_lload_n C (pc := 28) 1 0 rfl rfl dX8_checksum_28 ?_
  refine Y_aload_n C (pc := 29) 0 1 rfl rfl dX8_checksum_29 ?_
  refine Y_getR C (pc := 30) hk0 q_fi_RX8_12 (by decide) dX8_checksum_30 ?_
  refine Y_getR C (pc := 33) (q_kr_8_0 hk0) q_fi_RX8_303 (by decide) dX8_checksum_33 ?_
  obtain ⟨v3, hv3, h⟩ := Option.bind_eq_some_iff.mp h
  refine Y_callV C [.long v2, .ref (ρ ((k0 + 1) + 2))] [] [.long v3] hk0 rfl rfl (c_X8_mixTable hk0 (q_kr_6_2 (q_kr_8_0 hk0)) hv3) (fun _ h => h.elim) q_cw_yX8_mixTable q_ml_RX8_299 ⟨q_im_yX8_mixTable, q_se_yX8_mixTable⟩ ⟨⟨Nat.le_of_ble_eq_true rfl, Nat.le_of_ble_eq_true rfl⟩, ⟨Nat.zero_le _, Nat.zero_le _⟩, Nat.le_of_ble_eq_true rfl⟩ rfl rfl rfl dX8_checksum_36 ?_
  refine Y_lstore_n C (pc := 39) (lv' := [(1, .long v3), (0, .ref (ρ k0))]) 1 rfl (by decide) rfl dX8_checksum_39 ?_
  refine Y_aload_n C (pc := 40) 0 1 rfl rfl dX8_checksum_40 ?_
  refine Y_lload_n C (pc := 41) 1 0 rfl rfl dX8_checksum_41 ?_
  refine Y_aload_n C (pc := 42) 0 1 rfl rfl dX8_checksum_42 ?_
  refine Y_getR C (pc := 43) hk0 q_fi_RX8_12 (by decide) dX8_checksum_43 ?_
  refine Y_getR C (pc := 46) (q_kr_8_0 hk0) q_fi_RX8_306 (by decide) dX8_checksum_46 ?_
  obtain ⟨v4, hv4, h⟩ := Option.bind_eq_some_iff.mp h
  refine Y_callV C [.long v3, .ref (ρ ((k0 + 1) + 3))] [] [.long v4] hk0 rfl rfl (c_X8_mixTable hk0 (q_kr_6_3 (q_kr_8_0 hk0)) hv4) (fun _ h => h.elim) q_cw_yX8_mixTable q_ml_RX8_299 ⟨q_im_yX8_mixTable, q_se_yX8_mixTable⟩ ⟨⟨Nat.le_of_ble_eq_true rfl, Nat.le_of_ble_eq_true rfl⟩, ⟨Nat.zero_le _, Nat.zero_le _⟩, Nat.le_of_ble_eq_true rfl⟩ rfl rfl rfl dX8_checksum_49 ?_
  refine Y_lstore_n C (pc := 52) (lv' := [(1, .long v4), (0, .ref (ρ k0))]) 1 rfl (by decide) rfl dX8_checksum_52 ?_
  refine Y_lload_n C (pc := 53) 1 0 rfl rfl dX8_checksum_53 ?_
  refine Y_aload_n C (pc := 54) 0 1 rfl rfl dX8_checksum_54 ?_
  refine Y_getR C (pc := 55) hk0 q_fi_RX8_12 (by decide) dX8_checksum_55 ?_
  refine Y_getR C (pc := 58) (q_kr_8_0 hk0) q_fi_RX8_116 (by decide) dX8_checksum_58 ?_
  refine Y_aload_n C (pc := 61) 0 1 rfl rfl dX8_checksum_61 ?_
  refine Y_getR C (pc := 62) hk0 q_fi_RX8_12 (by decide) dX8_checksum_62 ?_
  refine Y_getI C (pc := 65) (q_kr_8_0 hk0) q_fi_RX8_69 dX8_checksum_65 ?_
  obtain ⟨v5, hv5, h⟩ := Option.bind_eq_some_iff.mp h
  refine Y_callS C [.long v4, .ref (ρ ((k0 + 1) + 4)), .int (σ (k0 + 1) 0)] [] [.long v5] (c_X8_mixRow (q_kr_6_4 (q_kr_8_0 hk0)) hv5) (fun _ h => h.elim) q_cw_yX8_mixRow q_ml_RX8_309 q_st_yX8_mixRow ⟨⟨Nat.le_of_ble_eq_true rfl, Nat.le_of_ble_eq_true rfl⟩, ⟨Nat.zero_le _, Nat.zero_le _⟩, Nat.le_of_ble_eq_true rfl⟩ rfl rfl rfl dX8_checksum_68 ?_
  refine Y_lstore_n C (pc := 71) (lv' := [(1, .long v5), (0, .ref (ρ k0))]) 1 rfl (by decide) rfl dX8_checksum_71 ?_
  refine Y_lload_n C (pc := 72) 1 0 rfl rfl dX8_checksum_72 ?_
  refine Y_aload_n C (pc := 73) 0 1 rfl rfl dX8_checksum_73 ?_
  refine Y_getR C (pc := 74) hk0 q_fi_RX8_12 (by decide) dX8_checksum_74 ?_
  refine Y_getR C (pc := 77) (q_kr_8_0 hk0) q_fi_RX8_184 (by decide) dX8_checksum_77 ?_
  refine Y_aload_n C (pc := 80) 0 1 rfl rfl dX8_checksum_80 ?_
  refine Y_getR C (pc := 81) hk0 q_fi_RX8_12 (by decide) dX8_checksum_81 ?_
  refine Y_getI C (pc := 84) (q_kr_8_0 hk0) q_fi_RX8_69 dX8_checksum_84 ?_
  obtain ⟨v6, hv6, h⟩ := Option.bind_eq_some_iff.mp h
  refine Y_callS C [.long v5, .ref (ρ ((k0 + 1) + 5)), .int (σ (k0 + 1) 0)] [] [.long v6] (c_X8_mixRow (q_kr_6_5 (q_kr_8_0 hk0)) hv6) (fun _ h => h.elim) q_cw_yX8_mixRow q_ml_RX8_309 q_st_yX8_mixRow ⟨⟨Nat.le_of_ble_eq_true rfl, Nat.le_of_ble_eq_true rfl⟩, ⟨Nat.zero_le _, Nat.zero_le _⟩, Nat.le_of_ble_eq_true rfl⟩ rfl rfl rfl dX8_checksum_87 ?_
  refine Y_lstore_n C (pc := 90) (lv' := [(1, .long v6), (0, .ref (ρ k0))]) 1 rfl (by decide) rfl dX8_checksum_90 ?_
  refine Y_lload_n C (pc := 91) 1 0 rfl rfl dX8_checksum_91 ?_
  refine Y_aload_n C (pc := 92) 0 1 rfl rfl dX8_checksum_92 ?_
  refine Y_getR C (pc := 93) hk0 q_fi_RX8_12 (by decide) dX8_checksum_93 ?_
  refine Y_aload_n C (pc := 96) 0 1 rfl rfl dX8_checksum_96 ?_
  refine Y_getR C (pc := 97) hk0 q_fi_RX8_12 (by decide) dX8_checksum_97 ?_
  refine Y_getR C (pc := 100) (q_kr_8_0 hk0) q_fi_RX8_116 (by decide) dX8_checksum_100 ?_
  obtain ⟨v7, hv7, h⟩ := Option.bind_eq_some_iff.mp h
  refine Y_callV C [.ref (ρ ((k0 + 1) + 4))] [.long v6] [.int v7, .long v6] (q_kr_8_0 hk0) rfl rfl (c_X6_costOf (q_kr_8_0 hk0) (q_kr_6_4 (q_kr_8_0 hk0)) hv7) (fun _ h => h.elim) q_cw_yX6_costOf q_ml_RX8_123 ⟨q_im_yX6_costOf, q_se_yX6_costOf⟩ ⟨⟨Nat.le_of_ble_eq_true rfl, Nat.le_of_ble_eq_true rfl⟩, ⟨Nat.zero_le _, Nat.zero_le _⟩, Nat.le_of_ble_eq_true rfl⟩ rfl rfl rfl dX8_checksum_103 ?_
  obtain ⟨v8, hv8, h⟩ := Option.bind_eq_some_iff.mp h
  refine Y_callS C [.long v6, .int v7] [] [.long v8] (c_X8_mix  hv8) (fun _ h => h.elim) q_cw_yX8_mix q_ml_RX8_292 q_st_yX8_mix ⟨⟨Nat.le_of_ble_eq_true rfl, Nat.le_of_ble_eq_true rfl⟩, ⟨Nat.zero_le _, Nat.zero_le _⟩, Nat.le_of_ble_eq_true rfl⟩ rfl rfl rfl dX8_checksum_106 ?_
  refine Y_lstore_n C (pc := 109) (lv' := [(1, .long v8), (0, .ref (ρ k0))]) 1 rfl (by decide) rfl dX8_checksum_109 ?_
  refine Y_aload_n C (pc := 110) 0 1 rfl rfl dX8_checksum_110 ?_
  refine Y_getR C (pc := 111) hk0 q_fi_RX8_33 (by decide) dX8_checksum_111 ?_
  refine Y_aload_n C (pc := 114) 0 1 rfl rfl dX8_checksum_114 ?_
  refine Y_getR C (pc := 115) hk0 q_fi_RX8_12 (by decide) dX8_checksum_115 ?_
  refine Y_aload_n C (pc := 118) 0 1 rfl rfl dX8_checksum_118 ?_
  refine Y_getR C (pc := 119) hk0 q_fi_RX8_12 (by decide) dX8_checksum_119 ?_
  refine Y_getR C (pc := 122) (q_kr_8_0 hk0) q_fi_RX8_184 (by decide) dX8_checksum_122 ?_
  obtain ⟨v9, hv9, h⟩ := Option.bind_eq_some_iff.mp h
  refine Y_callV C [.ref (ρ (k0 + 1)), .ref (ρ ((k0 + 1) + 5))] [] [] (q_kr_8_3 hk0) rfl rfl (c_X1_load hI (q_kr_8_3 hk0) (q_kr_8_0 hk0) (q_kr_6_5 (q_kr_8_0 hk0)) (q_lr_6_5 (q_kr_8_0 hk0)) hv9) (fun _ h => h) q_cw_yX1_load q_ml_RX8_201 ⟨q_im_yX1_load, q_se_yX1_load⟩ ⟨⟨Nat.le_of_ble_eq_true rfl, Nat.le_of_ble_eq_true rfl⟩, ⟨Nat.zero_le _, Nat.zero_le _⟩, Nat.le_of_ble_eq_true rfl⟩ rfl rfl rfl dX8_checksum_125 ?_
  refine Y_lload_n C (pc := 128) 1 0 rfl rfl dX8_checksum_128 ?_
  refine Y_aload_n C (pc := 129) 0 1 rfl rfl dX8_checksum_129 ?_
  refine Y_getR C (pc := 130) hk0 q_fi_RX8_33 (by decide) dX8_checksum_130 ?_
  obtain ⟨v10, hv10, h⟩ := Option.bind_eq_some_iff.mp h
  refine Y_callV C [] [.long v8] [.int v10.1, .long v8] (q_kr_8_3 hk0) rfl rfl (c_X1_lowest hI (q_kr_8_3 hk0) hv10) (fun _ h => h) q_cw_yX1_lowest q_ml_RX8_207 ⟨q_im_yX1_lowest, q_se_yX1_lowest⟩ ⟨⟨Nat.le_of_ble_eq_true rfl, Nat.le_of_ble_eq_true rfl⟩, ⟨Nat.zero_le _, Nat.zero_le _⟩, Nat.le_of_ble_eq_true rfl⟩ rfl rfl rfl dX8_checksum_133 ?_
  obtain ⟨v11, hv11, h⟩ := Option.bind_eq_some_iff.mp h
  refine Y_callS C [.long v8, .int v10.1] [] [.long v11] (c_X8_mix  hv11) (fun _ h => h.elim) q_cw_yX8_mix q_ml_RX8_292 q_st_yX8_mix ⟨⟨Nat.le_of_ble_eq_true rfl, Nat.le_of_ble_eq_true rfl⟩, ⟨Nat.zero_le _, Nat.zero_le _⟩, Nat.le_of_ble_eq_true rfl⟩ rfl rfl rfl dX8_checksum_136 ?_
  refine Y_lstore_n C (pc := 139) (lv' := [(1, .long v11), (0, .ref (ρ k0))]) 1 rfl (by decide) rfl dX8_checksum_139 ?_
  refine Y_lload_n C (pc := 140) 1 0 rfl rfl dX8_checksum_140 ?_
  refine Y_aload_n C (pc := 141) 0 1 rfl rfl dX8_checksum_141 ?_
  refine Y_getR C (pc := 142) hk0 q_fi_RX8_33 (by decide) dX8_checksum_142 ?_
  obtain ⟨v12, hv12, h⟩ := Option.bind_eq_some_iff.mp h
  refine Y_callV C [] [.long v11] [.int v12, .long v11] (q_kr_8_3 hk0) rfl rfl (c_X1_mostRegretted (q_kr_8_3 hk0) hv12) (fun _ h => h.elim) q_cw_yX1_mostRegretted q_ml_RX8_221 ⟨q_im_yX1_mostRegretted, q_se_yX1_mostRegretted⟩ ⟨⟨Nat.le_of_ble_eq_true rfl, Nat.le_of_ble_eq_true rfl⟩, ⟨Nat.zero_le _, Nat.zero_le _⟩, Nat.le_of_ble_eq_true rfl⟩ rfl rfl rfl dX8_checksum_145 ?_
  obtain ⟨v13, hv13, h⟩ := Option.bind_eq_some_iff.mp h
  refine Y_callS C [.long v11, .int v12] [] [.long v13] (c_X8_mix  hv13) (fun _ h => h.elim) q_cw_yX8_mix q_ml_RX8_292 q_st_yX8_mix ⟨⟨Nat.le_of_ble_eq_true rfl, Nat.le_of_ble_eq_true rfl⟩, ⟨Nat.zero_le _, Nat.zero_le _⟩, Nat.le_of_ble_eq_true rfl⟩ rfl rfl rfl dX8_checksum_148 ?_
  refine Y_lstore_n C (pc := 151) (lv' := [(1, .long v13), (0, .ref (ρ k0))]) 1 rfl (by decide) rfl dX8_checksum_151 ?_
  refine Y_aload_n C (pc := 152) 0 1 rfl rfl dX8_checksum_152 ?_
  refine Y_getR C (pc := 153) hk0 q_fi_RX8_40 (by decide) dX8_checksum_153 ?_
  refine Y_aload_n C (pc := 156) 0 1 rfl rfl dX8_checksum_156 ?_
  refine Y_getR C (pc := 157) hk0 q_fi_RX8_12 (by decide) dX8_checksum_157 ?_
  refine Y_aload_n C (pc := 160) 0 1 rfl rfl dX8_checksum_160 ?_
  refine Y_getR C (pc := 161) hk0 q_fi_RX8_12 (by decide) dX8_checksum_161 ?_
  refine Y_getR C (pc := 164) (q_kr_8_0 hk0) q_fi_RX8_184 (by decide) dX8_checksum_164 ?_
  obtain ⟨v14, hv14, h⟩ := Option.bind_eq_some_iff.mp h
  refine Y_callV C [.ref (ρ (k0 + 1)), .ref (ρ ((k0 + 1) + 5))] [] [] (q_kr_8_4 hk0) rfl rfl (c_X7_load hI (q_kr_8_4 hk0) (q_kr_8_0 hk0) (q_kr_6_5 (q_kr_8_0 hk0)) hv14) (fun _ h => h) q_cw_yX7_load q_ml_RX8_224 ⟨q_im_yX7_load, q_se_yX7_load⟩ ⟨⟨Nat.le_of_ble_eq_true rfl, Nat.le_of_ble_eq_true rfl⟩, ⟨Nat.zero_le _, Nat.zero_le _⟩, Nat.le_of_ble_eq_true rfl⟩ rfl rfl rfl dX8_checksum_167 ?_
  refine Y_lload_n C (pc := 170) 1 0 rfl rfl dX8_checksum_170 ?_
  refine Y_aload_n C (pc := 171) 0 1 rfl rfl dX8_checksum_171 ?_
  refine Y_getR C (pc := 172) hk0 q_fi_RX8_40 (by decide) dX8_checksum_172 ?_
  refine Y_getI C (pc := 175) (q_kr_8_4 hk0) q_fi_RX8_225 dX8_checksum_175 ?_
  obtain ⟨v15, hv15, h⟩ := Option.bind_eq_some_iff.mp h
  refine Y_callS C [.long v13, .int (v14 (k0 + 54) 0)] [] [.long v15] (c_X8_mix  hv15) (fun _ h => h.elim) q_cw_yX8_mix q_ml_RX8_292 q_st_yX8_mix ⟨⟨Nat.le_of_ble_eq_true rfl, Nat.le_of_ble_eq_true rfl⟩, ⟨Nat.zero_le _, Nat.zero_le _⟩, Nat.le_of_ble_eq_true rfl⟩ rfl rfl rfl dX8_checksum_178 ?_
  refine Y_lstore_n C (pc := 181) (lv' := [(1, .long v15), (0, .ref (ρ k0))]) 1 rfl (by decide) rfl dX8_checksum_181 ?_
  refine Y_iconst C (pc := 182) (v := (0 : Int32)) (by decide) dX8_checksum_182 ?_
  refine Y_istore_n C (pc := 183) (lv' := [(3, .int (0 : Int32)), (1, .long v15), (0, .ref (ρ k0))]) 3 rfl (by decide) rfl dX8_checksum_183 ?_
  obtain ⟨e20, he20, h⟩ := Option.bind_eq_some_iff.mp h
  refine Y_sub [2, 1, 0] (lv' := [(0, .ref (ρ k0)), (1, .long v15), (3, .int (0 : Int32))]) rfl ?_
  refine lo_rule (f := (f_X8_checksum_L184 v14 k0)) (YS := fun s16 => Y p l e (Rm 4 98) s m args below meth c 4 D cA ρ (Aw ρ) 0 0 (MQ below (QC D cA ρ (Aw ρ) (some (.long r.1)) r.2 τ) args s 0 0 (Aw ρ)) v14 τ 184 [(0, .ref (ρ k0)), (1, .long s16.1), (3, .int s16.2)] []) (YE := fun e20 => Y p l e (Rm 4 98) s m args below meth c 4 D cA ρ (Aw ρ) 0 0 (MQ below (QC D cA ρ (Aw ρ) (some (.long r.1)) r.2 τ) args s 0 0 (Aw ρ)) v14 τ 209 [(0, .ref (ρ k0)), (1, .long e20)] []) ?_ he20 ?_
  · intro s16 x h hLp hE
    unfold f_X8_checksum_L184 at h
    refine Y_iload_n C (pc := 184) 3 2 rfl rfl dX8_checksum_184 ?_
    refine Y_bipush C (pc := 185) (v := (7 : Int32)) (by decide) dX8_checksum_185 ?_
    refine Y_icmp_ge C (pc := 187) (tgt := 209) dX8_checksum_187 (by decide) (fun c19 => ?_) (fun c19 => ?_)
    · rw [if_pos c19] at h
      have h := Option.some.inj h
      exact Y_sub [0, 1] rfl (hE _ h.symm)
    · rw [if_neg c19] at h
      refine Y_lload_n C (pc := 190) 1 1 rfl rfl dX8_checksum_190 ?_
      refine Y_aload_n C (pc := 191) 0 0 rfl rfl dX8_checksum_191 ?_
      refine Y_getR C (pc := 192) hk0 q_fi_RX8_47 (by decide) dX8_checksum_192 ?_
      refine Y_iload_n C (pc := 195) 3 2 rfl rfl dX8_checksum_195 ?_
      obtain ⟨v17, hv17, h⟩ := Option.bind_eq_some_iff.mp h
      refine Y_callV C [.int s16.2] [.long s16.1] [.int v17, .long s16.1] (q_kr_8_5 hk0) rfl rfl (c_X5_result (q_kr_8_5 hk0) hv17) (fun _ h => h.elim) q_cw_yX5_result q_ml_RX8_237 ⟨q_im_yX5_result, q_se_yX5_result⟩ ⟨⟨Nat.le_of_ble_eq_true rfl, Nat.le_of_ble_eq_true rfl⟩, ⟨Nat.zero_le _, Nat.zero_le _⟩, Nat.le_of_ble_eq_true rfl⟩ rfl rfl rfl dX8_checksum_196 ?_
      obtain ⟨v18, hv18, h⟩ := Option.bind_eq_some_iff.mp h
      refine Y_callS C [.long s16.1, .int v17] [] [.long v18] (c_X8_mix  hv18) (fun _ h => h.elim) q_cw_yX8_mix q_ml_RX8_292 q_st_yX8_mix ⟨⟨Nat.le_of_ble_eq_true rfl, Nat.le_of_ble_eq_true rfl⟩, ⟨Nat.zero_le _, Nat.zero_le _⟩, Nat.le_of_ble_eq_true rfl⟩ rfl rfl rfl dX8_checksum_199 ?_
      refine Y_lstore_n C (pc := 202) (lv' := [(1, .long v18), (0, .ref (ρ k0)), (3, .int s16.2)]) 1 rfl (by decide) rfl dX8_checksum_202 ?_
      refine Y_iinc C (pc := 203) (v := (s16.2 + 1)) (lv' := [(3, .int (s16.2 + 1)), (1, .long v18), (0, .ref (ρ k0))]) 2 rfl (congrArg (fun z => s16.2 + z) (by decide : Int32.ofInt (1) = (1))) (by decide) rfl dX8_checksum_203 ?_
      refine Y_goto C (pc := 206) (tgt := 184) dX8_checksum_206 (by decide) ?_
      have h := Option.some.inj h
      exact Y_sub [2, 1, 0] rfl (hLp _ h.symm)
  · refine Y_lload_n C (pc := 209) 1 1 rfl rfl dX8_checksum_209 ?_
    refine Y_aload_n C (pc := 210) 0 0 rfl rfl dX8_checksum_210 ?_
    refine Y_getR C (pc := 211) hk0 q_fi_RX8_54 (by decide) dX8_checksum_211 ?_
    refine Y_getI C (pc := 214) (q_kr_8_6 hk0) q_fi_RX8_251 dX8_checksum_214 ?_
    obtain ⟨v21, hv21, h⟩ := Option.bind_eq_some_iff.mp h
    refine Y_callS C [.long e20, .int (v14 (k0 + 72) 0)] [] [.long v21] (c_X8_mix  hv21) (fun _ h => h.elim) q_cw_yX8_mix q_ml_RX8_292 q_st_yX8_mix ⟨⟨Nat.le_of_ble_eq_true rfl, Nat.le_of_ble_eq_true rfl⟩, ⟨Nat.zero_le _, Nat.zero_le _⟩, Nat.le_of_ble_eq_true rfl⟩ rfl rfl rfl dX8_checksum_217 ?_
    refine Y_lstore_n C (pc := 220) (lv' := [(1, .long v21), (0, .ref (ρ k0))]) 1 rfl (by decide) rfl dX8_checksum_220 ?_
    refine Y_lload_n C (pc := 221) 1 0 rfl rfl dX8_checksum_221 ?_
    refine Y_aload_n C (pc := 222) 0 1 rfl rfl dX8_checksum_222 ?_
    refine Y_getR C (pc := 223) hk0 q_fi_RX8_19 (by decide) dX8_checksum_223 ?_
    refine Y_getI C (pc := 226) (q_kr_8_1 hk0) q_fi_RX8_284 dX8_checksum_226 ?_
    obtain ⟨v22, hv22, h⟩ := Option.bind_eq_some_iff.mp h
    refine Y_callS C [.long v21, .int (v14 (k0 + 7) 0)] [] [.long v22] (c_X8_mix  hv22) (fun _ h => h.elim) q_cw_yX8_mix q_ml_RX8_292 q_st_yX8_mix ⟨⟨Nat.le_of_ble_eq_true rfl, Nat.le_of_ble_eq_true rfl⟩, ⟨Nat.zero_le _, Nat.zero_le _⟩, Nat.le_of_ble_eq_true rfl⟩ rfl rfl rfl dX8_checksum_229 ?_
    cases h
    exact Y_lret C dX8_checksum_232

set_option maxRecDepth 100000 in
set_option maxHeartbeats 4000000 in
theorem c_X9_thrown {l : Launch} {D : va_G} {cA ρ : Nat → Nat} {σ : Sg} {τ : Tg} {k0 : Nat} (hk0 : kd k0 = (0, 9)) {r : Int32} (h : f_X9_thrown σ k0 = some r) : Ct l yX9_thrown cX9_thrown 1 (some .int) 0 0 D cA ρ A0 [.ref (ρ k0)] σ τ (some (.int r)) σ τ := by
  refine Ct_of (by decide +kernel) (Nat.le_of_ble_eq_true rfl) (fun p e s m args below meth c C => ?_)
  have C : Ctx p l s m args meth c cX9_thrown RX9 1 (some .int) D cA ρ A0 := C
  unfold f_X9_thrown at h
  refine Y_sub [0] (lv' := [(0, .ref (ρ k0))]) rfl ?_
  refine Y_aload_n C (pc := 0) 0 0 rfl rfl dX9_thrown_0 ?_
  refine Y_getI C (pc := 1) hk0 q_fi_RX9_75 dX9_thrown_1 ?_
  cases h
  exact Y_iret C dX9_thrown_4

set_option maxRecDepth 100000 in
set_option maxHeartbeats 4000000 in
theorem c_X9_in {l : Launch} {D : va_G} {cA ρ : Nat → Nat} {σ : Sg} {τ : Tg} {i0 : Int32} {i1 : Int32} {i2 : Int32}  {r : Int32} (h : f_X9_in i0 i1 i2 = some r) : Ct l yX9_in cX9_in 3 (some .boolean) 0 0 D cA ρ A0 [.int i0, .int i1, .int i2] σ τ (some (.int r)) σ τ := by
  refine Ct_of (by decide +kernel) (Nat.le_of_ble_eq_true rfl) (fun p e s m args below meth c C => ?_)
  have C : Ctx p l s m args meth c cX9_in RX9 3 (some .boolean) D cA ρ A0 := C
  unfold f_X9_in at h
  refine Y_sub [0, 1, 2] (lv' := [(0, .int i0), (1, .int i1), (2, .int i2)]) rfl ?_
  refine Y_iload_n C (pc := 0) 0 0 rfl rfl dX9_in_0 ?_
  refine Y_iload_n C (pc := 1) 1 1 rfl rfl dX9_in_1 ?_
  refine Y_icmp_lt C (pc := 2) (tgt := 14) dX9_in_2 (by decide) (fun c2 => ?_) (fun c2 => ?_)
  · rw [if_pos c2] at h
    refine Y_iconst C (pc := 14) (v := (0 : Int32)) (by decide) dX9_in_14 ?_
    cases h
    exact Y_zret (by decide) C dX9_in_15
  · rw [if_neg c2] at h
    refine Y_iload_n C (pc := 5) 0 0 rfl rfl dX9_in_5 ?_
    refine Y_iload_n C (pc := 6) 2 2 rfl rfl dX9_in_6 ?_
    refine Y_icmp_gt C (pc := 7) (tgt := 14) dX9_in_7 (by decide) (fun c1 => ?_) (fun c1 => ?_)
    · rw [if_pos c1] at h
      refine Y_iconst C (pc := 14) (v := (0 : Int32)) (by decide) dX9_in_14 ?_
      cases h
      exact Y_zret (by decide) C dX9_in_15
    · rw [if_neg c1] at h
      refine Y_iconst C (pc := 10) (v := (1 : Int32)) (by decide) dX9_in_10 ?_
      refine Y_goto C (pc := 11) (tgt := 15) dX9_in_11 (by decide) ?_
      cases h
      exact Y_zret (by decide) C dX9_in_15

set_option maxRecDepth 100000 in
set_option maxHeartbeats 4000000 in
theorem c_X9_fails {l : Launch} {D : va_G} {cA ρ : Nat → Nat} {σ : Sg} {τ : Tg} {k0 : Nat} {i1 : Int32} (hI : Inj ρ) (hk0 : kd k0 = (0, 9)) {r : Int32 × Sg} (h : f_X9_fails σ k0 i1 = some r) : Ct l yX9_fails cX9_fails 2 (some .int) 0 0 D cA ρ (Aw ρ) [.ref (ρ k0), .int i1] σ τ (some (.int r.1)) r.2 τ := by
  refine Ct_of (by decide +kernel) (Nat.le_of_ble_eq_true rfl) (fun p e s m args below meth c C => ?_)
  have C : Ctx p l s m args meth c cX9_fails RX9 2 (some .int) D cA ρ (Aw ρ) := C
  have hW : Wr ρ (Aw ρ) := ⟨hI, fun k hk => ⟨k, hk, rfl⟩⟩
  unfold f_X9_fails at h
  refine Y_sub [0, 1] (lv' := [(0, .ref (ρ k0)), (1, .int i1)]) rfl ?_
  refine Y_aload_n C (pc := 0) 0 0 rfl rfl dX9_fails_0 ?_
  refine Y_iload_n C (pc := 1) 1 1 rfl rfl dX9_fails_1 ?_
  refine Y_putI C (pc := 2) hW hk0 (q_lo_9 hk0) q_fp_RX9_75 dX9_fails_2 ?_
  refine Y_iconst C (pc := 5) (v := (0 : Int32)) (by decide) dX9_fails_5 ?_
  cases h
  exact Y_iret C dX9_fails_6

set_option maxRecDepth 100000 in
set_option maxHeartbeats 4000000 in
theorem c_X9_tells {l : Launch} {D : va_G} {cA ρ : Nat → Nat} {σ : Sg} {τ : Tg} {k0 : Nat} {i1 : Int32} (hI : Inj ρ) (hk0 : kd k0 = (0, 9)) {r : Int32 × Sg} (h : f_X9_tells σ k0 i1 = some r) : Ct l yX9_tells cX9_tells 2 (some .int) 0 0 D cA ρ (Aw ρ) [.ref (ρ k0), .int i1] σ τ (some (.int r.1)) r.2 τ := by
  refine Ct_of (by decide +kernel) (Nat.le_of_ble_eq_true rfl) (fun p e s m args below meth c C => ?_)
  have C : Ctx p l s m args meth c cX9_tells RX9 2 (some .int) D cA ρ (Aw ρ) := C
  have hW : Wr ρ (Aw ρ) := ⟨hI, fun k hk => ⟨k, hk, rfl⟩⟩
  unfold f_X9_tells at h
  refine Y_sub [0, 1] (lv' := [(0, .ref (ρ k0)), (1, .int i1)]) rfl ?_
  refine Y_aload_n C (pc := 0) 0 0 rfl rfl dX9_tells_0 ?_
  refine Y_iconst C (pc := 1) (v := (0 : Int32)) (by decide) dX9_tells_1 ?_
  refine Y_putI C (pc := 2) hW hk0 (q_lo_9 hk0) q_fp_RX9_75 dX9_tells_2 ?_
  refine Y_iload_n C (pc := 5) 1 1 rfl rfl dX9_tells_5 ?_
  cases h
  exact Y_iret C dX9_tells_6

set_option maxRecDepth 100000 in
set_option maxHeartbeats 4000000 in
theorem c_X9_hold {l : Launch} {D : va_G} {cA ρ : Nat → Nat} {σ : Sg} {τ : Tg} {k0 : Nat} (hI : Inj ρ) (hk0 : kd k0 = (0, 9)) {r : Sg} (h : f_X9_hold σ k0 = some r) : Ct l yX9_hold cX9_hold 2 none 0 0 D cA ρ (Aw ρ) [.ref (ρ k0)] σ τ none r τ := by
  refine Ct_of (by decide +kernel) (Nat.le_of_ble_eq_true rfl) (fun p e s m args below meth c C => ?_)
  have C : Ctx p l s m args meth c cX9_hold RX9 2 none D cA ρ (Aw ρ) := C
  have hW : Wr ρ (Aw ρ) := ⟨hI, fun k hk => ⟨k, hk, rfl⟩⟩
  unfold f_X9_hold at h
  refine Y_sub [0] (lv' := [(0, .ref (ρ k0))]) rfl ?_
  refine Y_iconst C (pc := 0) (v := (0 : Int32)) (by decide) dX9_hold_0 ?_
  refine Y_istore_n C (pc := 1) (lv' := [(1, .int (0 : Int32)), (0, .ref (ρ k0))]) 1 rfl (by decide) rfl dX9_hold_1 ?_
  obtain ⟨e5, he5, h⟩ := Option.bind_eq_some_iff.mp h
  refine Y_sub [1, 0] (lv' := [(0, .ref (ρ k0)), (1, .int (0 : Int32))]) rfl ?_
  refine lo_rule (f := (f_X9_hold_L2 k0)) (YS := fun s1 => Y p l e (Rm 0 0) s m args below meth c 2 D cA ρ (Aw ρ) 0 0 (MQ below (QC D cA ρ (Aw ρ) none r τ) args s 0 0 (Aw ρ)) s1.2 τ 2 [(0, .ref (ρ k0)), (1, .int s1.1)] []) (YE := fun e5 => Y p l e (Rm 0 0) s m args below meth c 2 D cA ρ (Aw ρ) 0 0 (MQ below (QC D cA ρ (Aw ρ) none r τ) args s 0 0 (Aw ρ)) e5 τ 26 [] []) ?_ he5 ?_
  · intro s1 x h hLp hE
    unfold f_X9_hold_L2 at h
    refine Y_iload_n C (pc := 2) 1 1 rfl rfl dX9_hold_2 ?_
    refine Y_bipush C (pc := 3) (v := (121 : Int32)) (by decide) dX9_hold_3 ?_
    refine Y_icmp_ge C (pc := 5) (tgt := 26) dX9_hold_5 (by decide) (fun c4 => ?_) (fun c4 => ?_)
    · rw [if_pos c4] at h
      have h := Option.some.inj h
      exact Y_sub [] rfl (hE _ h.symm)
    · rw [if_neg c4] at h
      refine Y_aload_n C (pc := 8) 0 0 rfl rfl dX9_hold_8 ?_
      refine Y_getR C (pc := 9) hk0 q_fi_RX9_16 (by decide) dX9_hold_9 ?_
      refine Y_iload_n C (pc := 12) 1 1 rfl rfl dX9_hold_12 ?_
      refine Y_aload_n C (pc := 13) 0 0 rfl rfl dX9_hold_13 ?_
      refine Y_getR C (pc := 14) hk0 q_fi_RX9_7 (by decide) dX9_hold_14 ?_
      refine Y_iload_n C (pc := 17) 1 1 rfl rfl dX9_hold_17 ?_
      obtain ⟨v2, hv2, h⟩ := Option.bind_eq_some_iff.mp h
      refine Y_iald C (pc := 18) (q_kr_9_0 hk0) hv2 dX9_hold_18 ?_
      obtain ⟨s3, hs3, h⟩ := Option.bind_eq_some_iff.mp h
      refine Y_iast C (pc := 19) hW (q_kr_9_2 hk0) (q_lr_9_2 hk0) hs3 dX9_hold_19 ?_
      refine Y_iinc C (pc := 20) (v := (s1.1 + 1)) (lv' := [(1, .int (s1.1 + 1)), (0, .ref (ρ k0))]) 1 rfl (congrArg (fun z => s1.1 + z) (by decide : Int32.ofInt (1) = (1))) (by decide) rfl dX9_hold_20 ?_
      refine Y_goto C (pc := 23) (tgt := 2) dX9_hold_23 (by decide) ?_
      have h := Option.some.inj h
      exact Y_sub [1, 0] rfl (hLp _ h.symm)
  · cases h
    exact Y_vret C dX9_hold_26

set_option maxRecDepth 100000 in
set_option maxHeartbeats 4000000 in
theorem c_X9_ends {l : Launch} {D : va_G} {cA ρ : Nat → Nat} {σ : Sg} {τ : Tg} {k0 : Nat} {i1 : Int32} (hI : Inj ρ) (hk0 : kd k0 = (0, 9)) {r : Int32 × Sg} (h : f_X9_ends σ k0 i1 = some r) : Ct l yX9_ends cX9_ends 3 (some .int) 1 21 D cA ρ (Aw ρ) [.ref (ρ k0), .int i1] σ τ (some (.int r.1)) r.2 τ := by
  refine Ct_of (by decide +kernel) (Nat.le_of_ble_eq_true rfl) (fun p e s m args below meth c C => ?_)
  have C : Ctx p l s m args meth c cX9_ends RX9 3 (some .int) D cA ρ (Aw ρ) := C
  have hW : Wr ρ (Aw ρ) := ⟨hI, fun k hk => ⟨k, hk, rfl⟩⟩
  unfold f_X9_ends at h
  refine Y_sub [0, 1] (lv' := [(0, .ref (ρ k0)), (1, .int i1)]) rfl ?_
  have hJ49 : ∀ (sj1 : Sg), f_X9_ends_J49 k0 i1 sj1 = some r → Y p l e (Rm 1 21) s m args below meth c 3 D cA ρ (Aw ρ) 0 0 (MQ below (QC D cA ρ (Aw ρ) (some (.int r.1)) r.2 τ) args s 0 0 (Aw ρ)) sj1 τ 49 [(0, .ref (ρ k0)), (1, .int i1)] [] := by
    intro sj1 h
    unfold f_X9_ends_J49 at h
    refine Y_iconst C (pc := 49) (v := (0 : Int32)) (by decide) dX9_ends_49 ?_
    refine Y_istore_n C (pc := 50) (lv' := [(2, .int (0 : Int32)), (0, .ref (ρ k0)), (1, .int i1)]) 2 rfl (by decide) rfl dX9_ends_50 ?_
    obtain ⟨e6, he6, h⟩ := Option.bind_eq_some_iff.mp h
    refine Y_sub [1, 2, 0] (lv' := [(0, .ref (ρ k0)), (1, .int i1), (2, .int (0 : Int32))]) rfl ?_
    refine lo_rule (f := (f_X9_ends_L51 k0)) (YS := fun s2 => Y p l e (Rm 1 21) s m args below meth c 3 D cA ρ (Aw ρ) 0 0 (MQ below (QC D cA ρ (Aw ρ) (some (.int r.1)) r.2 τ) args s 0 0 (Aw ρ)) s2.2 τ 51 [(0, .ref (ρ k0)), (1, .int i1), (2, .int s2.1)] []) (YE := fun e6 => Y p l e (Rm 1 21) s m args below meth c 3 D cA ρ (Aw ρ) 0 0 (MQ below (QC D cA ρ (Aw ρ) (some (.int r.1)) r.2 τ) args s 0 0 (Aw ρ)) e6 τ 83 [(0, .ref (ρ k0)), (1, .int i1)] []) ?_ he6 ?_
    · intro s2 x h hLp hE
      unfold f_X9_ends_L51 at h
      refine Y_iload_n C (pc := 51) 2 2 rfl rfl dX9_ends_51 ?_
      refine Y_bipush C (pc := 52) (v := (121 : Int32)) (by decide) dX9_ends_52 ?_
      refine Y_icmp_ge C (pc := 54) (tgt := 83) dX9_ends_54 (by decide) (fun c5 => ?_) (fun c5 => ?_)
      · rw [if_pos c5] at h
        have h := Option.some.inj h
        exact Y_sub [0, 1] rfl (hE _ h.symm)
      · rw [if_neg c5] at h
        refine Y_aload_n C (pc := 57) 0 0 rfl rfl dX9_ends_57 ?_
        refine Y_getR C (pc := 58) hk0 q_fi_RX9_13 (by decide) dX9_ends_58 ?_
        refine Y_bipush C (pc := 61) (v := (121 : Int32)) (by decide) dX9_ends_61 ?_
        refine Y_aload_n C (pc := 63) 0 0 rfl rfl dX9_ends_63 ?_
        refine Y_getI C (pc := 64) hk0 q_fi_RX9_79 dX9_ends_64 ?_
        refine Y_imul C (pc := 67) dX9_ends_67 ?_
        refine Y_iload_n C (pc := 68) 2 2 rfl rfl dX9_ends_68 ?_
        refine Y_iadd C (pc := 69) dX9_ends_69 ?_
        refine Y_aload_n C (pc := 70) 0 0 rfl rfl dX9_ends_70 ?_
        refine Y_getR C (pc := 71) hk0 q_fi_RX9_16 (by decide) dX9_ends_71 ?_
        refine Y_iload_n C (pc := 74) 2 2 rfl rfl dX9_ends_74 ?_
        obtain ⟨v3, hv3, h⟩ := Option.bind_eq_some_iff.mp h
        refine Y_iald C (pc := 75) (q_kr_9_2 hk0) hv3 dX9_ends_75 ?_
        obtain ⟨s4, hs4, h⟩ := Option.bind_eq_some_iff.mp h
        refine Y_iast C (pc := 76) hW (q_kr_9_1 hk0) (q_lr_9_1 hk0) hs4 dX9_ends_76 ?_
        refine Y_iinc C (pc := 77) (v := (s2.1 + 1)) (lv' := [(2, .int (s2.1 + 1)), (0, .ref (ρ k0)), (1, .int i1)]) 2 rfl (congrArg (fun z => s2.1 + z) (by decide : Int32.ofInt (1) = (1))) (by decide) rfl dX9_ends_77 ?_
        refine Y_goto C (pc := 80) (tgt := 51) dX9_ends_80 (by decide) ?_
        have h := Option.some.inj h
        exact Y_sub [1, 2, 0] rfl (hLp _ h.symm)
    · refine Y_aload_n C (pc := 83) 0 0 rfl rfl dX9_ends_83 ?_
      refine Y_dup C (pc := 84) rfl dX9_ends_84 ?_
      refine Y_getI C (pc := 85) hk0 q_fi_RX9_79 dX9_ends_85 ?_
      refine Y_iconst C (pc := 88) (v := (1 : Int32)) (by decide) dX9_ends_88 ?_
      refine Y_iadd C (pc := 89) dX9_ends_89 ?_
      refine Y_putI C (pc := 90) hW hk0 (q_lo_9 hk0) q_fp_RX9_79 dX9_ends_90 ?_
      refine Y_aload_n C (pc := 93) 0 0 rfl rfl dX9_ends_93 ?_
      refine Y_iload_n C (pc := 94) 1 1 rfl rfl dX9_ends_94 ?_
      obtain ⟨v7, hv7, h⟩ := Option.bind_eq_some_iff.mp h
      refine Y_callV C [.int i1] [] [.int v7.1] hk0 rfl rfl (c_X9_tells hI hk0 hv7) (fun _ h => h) q_cw_yX9_tells q_ml_RX9_82 ⟨q_im_yX9_tells, q_se_yX9_tells⟩ ⟨⟨Nat.le_of_ble_eq_true rfl, Nat.le_of_ble_eq_true rfl⟩, ⟨Nat.zero_le _, Nat.zero_le _⟩, Nat.le_of_ble_eq_true rfl⟩ rfl rfl rfl dX9_ends_95 ?_
      cases h
      exact Y_iret C dX9_ends_98
  refine Y_aload_n C (pc := 0) 0 0 rfl rfl dX9_ends_0 ?_
  refine Y_getI C (pc := 1) hk0 q_fi_RX9_79 dX9_ends_1 ?_
  refine Y_bipush C (pc := 4) (v := (6 : Int32)) (by decide) dX9_ends_4 ?_
  refine Y_icmp_ne C (pc := 6) (tgt := 49) dX9_ends_6 (by decide) (fun c13 => ?_) (fun c13 => ?_)
  · rw [if_neg c13] at h
    exact Y_sub [0, 1] rfl (hJ49 _ h)
  · rw [if_pos c13] at h
    refine Y_iconst C (pc := 9) (v := (0 : Int32)) (by decide) dX9_ends_9 ?_
    refine Y_istore_n C (pc := 10) (lv' := [(2, .int (0 : Int32)), (0, .ref (ρ k0)), (1, .int i1)]) 2 rfl (by decide) rfl dX9_ends_10 ?_
    obtain ⟨e12, he12, h⟩ := Option.bind_eq_some_iff.mp h
    refine Y_sub [1, 2, 0] (lv' := [(0, .ref (ρ k0)), (1, .int i1), (2, .int (0 : Int32))]) rfl ?_
    refine lo_rule (f := (f_X9_ends_L11 k0)) (YS := fun s8 => Y p l e (Rm 1 21) s m args below meth c 3 D cA ρ (Aw ρ) 0 0 (MQ below (QC D cA ρ (Aw ρ) (some (.int r.1)) r.2 τ) args s 0 0 (Aw ρ)) s8.2 τ 11 [(0, .ref (ρ k0)), (1, .int i1), (2, .int s8.1)] []) (YE := fun e12 => Y p l e (Rm 1 21) s m args below meth c 3 D cA ρ (Aw ρ) 0 0 (MQ below (QC D cA ρ (Aw ρ) (some (.int r.1)) r.2 τ) args s 0 0 (Aw ρ)) e12 τ 39 [(0, .ref (ρ k0)), (1, .int i1)] []) ?_ he12 ?_
    · intro s8 x h hLp hE
      unfold f_X9_ends_L11 at h
      refine Y_iload_n C (pc := 11) 2 2 rfl rfl dX9_ends_11 ?_
      refine Y_sipush C (pc := 12) (v := (605 : Int32)) (by decide) dX9_ends_12 ?_
      refine Y_icmp_ge C (pc := 15) (tgt := 39) dX9_ends_15 (by decide) (fun c11 => ?_) (fun c11 => ?_)
      · rw [if_pos c11] at h
        have h := Option.some.inj h
        exact Y_sub [0, 1] rfl (hE _ h.symm)
      · rw [if_neg c11] at h
        refine Y_aload_n C (pc := 18) 0 0 rfl rfl dX9_ends_18 ?_
        refine Y_getR C (pc := 19) hk0 q_fi_RX9_13 (by decide) dX9_ends_19 ?_
        refine Y_iload_n C (pc := 22) 2 2 rfl rfl dX9_ends_22 ?_
        refine Y_aload_n C (pc := 23) 0 0 rfl rfl dX9_ends_23 ?_
        refine Y_getR C (pc := 24) hk0 q_fi_RX9_13 (by decide) dX9_ends_24 ?_
        refine Y_iload_n C (pc := 27) 2 2 rfl rfl dX9_ends_27 ?_
        refine Y_bipush C (pc := 28) (v := (121 : Int32)) (by decide) dX9_ends_28 ?_
        refine Y_iadd C (pc := 30) dX9_ends_30 ?_
        obtain ⟨v9, hv9, h⟩ := Option.bind_eq_some_iff.mp h
        refine Y_iald C (pc := 31) (q_kr_9_1 hk0) hv9 dX9_ends_31 ?_
        obtain ⟨s10, hs10, h⟩ := Option.bind_eq_some_iff.mp h
        refine Y_iast C (pc := 32) hW (q_kr_9_1 hk0) (q_lr_9_1 hk0) hs10 dX9_ends_32 ?_
        refine Y_iinc C (pc := 33) (v := (s8.1 + 1)) (lv' := [(2, .int (s8.1 + 1)), (0, .ref (ρ k0)), (1, .int i1)]) 2 rfl (congrArg (fun z => s8.1 + z) (by decide : Int32.ofInt (1) = (1))) (by decide) rfl dX9_ends_33 ?_
        refine Y_goto C (pc := 36) (tgt := 11) dX9_ends_36 (by decide) ?_
        have h := Option.some.inj h
        exact Y_sub [1, 2, 0] rfl (hLp _ h.symm)
    · refine Y_aload_n C (pc := 39) 0 0 rfl rfl dX9_ends_39 ?_
      refine Y_dup C (pc := 40) rfl dX9_ends_40 ?_
      refine Y_getI C (pc := 41) hk0 q_fi_RX9_79 dX9_ends_41 ?_
      refine Y_iconst C (pc := 44) (v := (1 : Int32)) (by decide) dX9_ends_44 ?_
      refine Y_isub C (pc := 45) dX9_ends_45 ?_
      refine Y_putI C (pc := 46) hW hk0 (q_lo_9 hk0) q_fp_RX9_79 dX9_ends_46 ?_
      exact Y_sub [0, 1] rfl (hJ49 _ h)

set_option maxRecDepth 100000 in
set_option maxHeartbeats 4000000 in
theorem c_X9_begins {l : Launch} {D : va_G} {cA ρ : Nat → Nat} {σ : Sg} {τ : Tg} {k0 : Nat} {i1 : Int32} (hI : Inj ρ) (hk0 : kd k0 = (0, 9)) {r : Sg} (h : f_X9_begins σ k0 i1 = some r) : Ct l yX9_begins cX9_begins 3 none 0 0 D cA ρ (Aw ρ) [.ref (ρ k0), .int i1] σ τ none r τ := by
  refine Ct_of (by decide +kernel) (Nat.le_of_ble_eq_true rfl) (fun p e s m args below meth c C => ?_)
  have C : Ctx p l s m args meth c cX9_begins RX9 3 none D cA ρ (Aw ρ) := C
  have hW : Wr ρ (Aw ρ) := ⟨hI, fun k hk => ⟨k, hk, rfl⟩⟩
  unfold f_X9_begins at h
  refine Y_sub [0, 1] (lv' := [(0, .ref (ρ k0)), (1, .int i1)]) rfl ?_
  refine Y_iconst C (pc := 0) (v := (0 : Int32)) (by decide) dX9_begins_0 ?_
  refine Y_istore_n C (pc := 1) (lv' := [(2, .int (0 : Int32)), (0, .ref (ρ k0)), (1, .int i1)]) 2 rfl (by decide) rfl dX9_begins_1 ?_
  obtain ⟨e9, he9, h⟩ := Option.bind_eq_some_iff.mp h
  refine Y_sub [1, 2, 0] (lv' := [(0, .ref (ρ k0)), (1, .int i1), (2, .int (0 : Int32))]) rfl ?_
  refine lo_rule (f := (f_X9_begins_L2 k0)) (YS := fun s1 => Y p l e (Rm 0 0) s m args below meth c 3 D cA ρ (Aw ρ) 0 0 (MQ below (QC D cA ρ (Aw ρ) none r τ) args s 0 0 (Aw ρ)) s1.2 τ 2 [(0, .ref (ρ k0)), (1, .int i1), (2, .int s1.1)] []) (YE := fun e9 => Y p l e (Rm 0 0) s m args below meth c 3 D cA ρ (Aw ρ) 0 0 (MQ below (QC D cA ρ (Aw ρ) none r τ) args s 0 0 (Aw ρ)) e9 τ 31 [(0, .ref (ρ k0)), (1, .int i1)] []) ?_ he9 ?_
  · intro s1 x h hLp hE
    unfold f_X9_begins_L2 at h
    have hJ24 : ∀ (j2 : Int32) (j3 : Int32) (j4 : Int32) (sj5 : Sg), f_X9_begins_J24 k0 j2 j3 j4 sj5 = some x → Y p l e (Rm 0 0) s m args below meth c 3 D cA ρ (Aw ρ) 0 0 (MQ below (QC D cA ρ (Aw ρ) none r τ) args s 0 0 (Aw ρ)) sj5 τ 24 [(0, .ref (ρ k0)), (1, .int i1), (2, .int j2)] [.int j3, .int j4, .ref (ρ (k0 + 1))] := by
      intro j2 j3 j4 sj5 h
      unfold f_X9_begins_J24 at h
      obtain ⟨s6, hs6, h⟩ := Option.bind_eq_some_iff.mp h
      refine Y_iast C (pc := 24) hW (q_kr_9_0 hk0) (q_lr_9_0 hk0) hs6 dX9_begins_24 ?_
      refine Y_iinc C (pc := 25) (v := (j2 + 1)) (lv' := [(2, .int (j2 + 1)), (0, .ref (ρ k0)), (1, .int i1)]) 2 rfl (congrArg (fun z => j2 + z) (by decide : Int32.ofInt (1) = (1))) (by decide) rfl dX9_begins_25 ?_
      refine Y_goto C (pc := 28) (tgt := 2) dX9_begins_28 (by decide) ?_
      have h := Option.some.inj h
      exact Y_sub [1, 2, 0] rfl (hLp _ h.symm)
    refine Y_iload_n C (pc := 2) 2 2 rfl rfl dX9_begins_2 ?_
    refine Y_bipush C (pc := 3) (v := (121 : Int32)) (by decide) dX9_begins_3 ?_
    refine Y_icmp_ge C (pc := 5) (tgt := 31) dX9_begins_5 (by decide) (fun c8 => ?_) (fun c8 => ?_)
    · rw [if_pos c8] at h
      have h := Option.some.inj h
      exact Y_sub [0, 1] rfl (hE _ h.symm)
    · rw [if_neg c8] at h
      refine Y_aload_n C (pc := 8) 0 0 rfl rfl dX9_begins_8 ?_
      refine Y_getR C (pc := 9) hk0 q_fi_RX9_7 (by decide) dX9_begins_9 ?_
      refine Y_iload_n C (pc := 12) 2 2 rfl rfl dX9_begins_12 ?_
      refine Y_iload_n C (pc := 13) 2 2 rfl rfl dX9_begins_13 ?_
      refine Y_bipush C (pc := 14) (v := (115 : Int32)) (by decide) dX9_begins_14 ?_
      refine Y_icmp_ge C (pc := 16) (tgt := 23) dX9_begins_16 (by decide) (fun c7 => ?_) (fun c7 => ?_)
      · rw [if_pos c7] at h
        refine Y_iconst C (pc := 23) (v := (-1 : Int32)) (by decide) dX9_begins_23 ?_
        exact Y_sub [0, 1, 2] rfl (hJ24 _ _ _ _ h)
      · rw [if_neg c7] at h
        refine Y_iconst C (pc := 19) (v := (0 : Int32)) (by decide) dX9_begins_19 ?_
        refine Y_goto C (pc := 20) (tgt := 24) dX9_begins_20 (by decide) ?_
        exact Y_sub [0, 1, 2] rfl (hJ24 _ _ _ _ h)
  · refine Y_aload_n C (pc := 31) 0 0 rfl rfl dX9_begins_31 ?_
    refine Y_getR C (pc := 32) hk0 q_fi_RX9_7 (by decide) dX9_begins_32 ?_
    refine Y_iconst C (pc := 35) (v := (0 : Int32)) (by decide) dX9_begins_35 ?_
    refine Y_iload_n C (pc := 36) 1 1 rfl rfl dX9_begins_36 ?_
    obtain ⟨s10, hs10, h⟩ := Option.bind_eq_some_iff.mp h
    refine Y_iast C (pc := 37) hW (q_kr_9_0 hk0) (q_lr_9_0 hk0) hs10 dX9_begins_37 ?_
    refine Y_iconst C (pc := 38) (v := (0 : Int32)) (by decide) dX9_begins_38 ?_
    refine Y_istore_n C (pc := 39) (lv' := [(2, .int (0 : Int32)), (0, .ref (ρ k0)), (1, .int i1)]) 2 rfl (by decide) rfl dX9_begins_39 ?_
    obtain ⟨e14, he14, h⟩ := Option.bind_eq_some_iff.mp h
    refine Y_sub [1, 0] (lv' := [(0, .ref (ρ k0)), (2, .int (0 : Int32))]) rfl ?_
    refine lo_rule (f := (f_X9_begins_L40 k0)) (YS := fun s11 => Y p l e (Rm 0 0) s m args below meth c 3 D cA ρ (Aw ρ) 0 0 (MQ below (QC D cA ρ (Aw ρ) none r τ) args s 0 0 (Aw ρ)) s11.2 τ 40 [(0, .ref (ρ k0)), (2, .int s11.1)] []) (YE := fun e14 => Y p l e (Rm 0 0) s m args below meth c 3 D cA ρ (Aw ρ) 0 0 (MQ below (QC D cA ρ (Aw ρ) none r τ) args s 0 0 (Aw ρ)) e14 τ 62 [] []) ?_ he14 ?_
    · intro s11 x h hLp hE
      unfold f_X9_begins_L40 at h
      refine Y_iload_n C (pc := 40) 2 1 rfl rfl dX9_begins_40 ?_
      refine Y_bipush C (pc := 41) (v := (6 : Int32)) (by decide) dX9_begins_41 ?_
      refine Y_icmp_ge C (pc := 43) (tgt := 62) dX9_begins_43 (by decide) (fun c13 => ?_) (fun c13 => ?_)
      · rw [if_pos c13] at h
        have h := Option.some.inj h
        exact Y_sub [] rfl (hE _ h.symm)
      · rw [if_neg c13] at h
        refine Y_aload_n C (pc := 46) 0 0 rfl rfl dX9_begins_46 ?_
        refine Y_getR C (pc := 47) hk0 q_fi_RX9_7 (by decide) dX9_begins_47 ?_
        refine Y_bipush C (pc := 50) (v := (109 : Int32)) (by decide) dX9_begins_50 ?_
        refine Y_iload_n C (pc := 52) 2 1 rfl rfl dX9_begins_52 ?_
        refine Y_iadd C (pc := 53) dX9_begins_53 ?_
        refine Y_iload_n C (pc := 54) 2 1 rfl rfl dX9_begins_54 ?_
        obtain ⟨s12, hs12, h⟩ := Option.bind_eq_some_iff.mp h
        refine Y_iast C (pc := 55) hW (q_kr_9_0 hk0) (q_lr_9_0 hk0) hs12 dX9_begins_55 ?_
        refine Y_iinc C (pc := 56) (v := (s11.1 + 1)) (lv' := [(2, .int (s11.1 + 1)), (0, .ref (ρ k0))]) 1 rfl (congrArg (fun z => s11.1 + z) (by decide : Int32.ofInt (1) = (1))) (by decide) rfl dX9_begins_56 ?_
        refine Y_goto C (pc := 59) (tgt := 40) dX9_begins_59 (by decide) ?_
        have h := Option.some.inj h
        exact Y_sub [1, 0] rfl (hLp _ h.symm)
    · cases h
      exact Y_vret C dX9_begins_62

set_option maxRecDepth 100000 in
set_option maxHeartbeats 4000000 in
theorem c_X9_isOne {l : Launch} {D : va_G} {cA ρ : Nat → Nat} {σ : Sg} {τ : Tg} {k0 : Nat} {i1 : Int32} (hk0 : kd k0 = (0, 9)) {r : Int32} (h : f_X9_isOne σ k0 i1 = some r) : Ct l yX9_isOne cX9_isOne 2 (some .boolean) 1 22 D cA ρ A0 [.ref (ρ k0), .int i1] σ τ (some (.int r)) σ τ := by
  refine Ct_of (by decide +kernel) (Nat.le_of_ble_eq_true rfl) (fun p e s m args below meth c C => ?_)
  have C : Ctx p l s m args meth c cX9_isOne RX9 2 (some .boolean) D cA ρ A0 := C
  unfold f_X9_isOne at h
  refine Y_sub [0, 1] (lv' := [(0, .ref (ρ k0)), (1, .int i1)]) rfl ?_
  refine Y_iload_n C (pc := 0) 1 1 rfl rfl dX9_isOne_0 ?_
  refine Y_iconst C (pc := 1) (v := (0 : Int32)) (by decide) dX9_isOne_1 ?_
  refine Y_aload_n C (pc := 2) 0 0 rfl rfl dX9_isOne_2 ?_
  refine Y_getR C (pc := 3) hk0 q_fi_RX9_7 (by decide) dX9_isOne_3 ?_
  refine Y_iconst C (pc := 6) (v := (0 : Int32)) (by decide) dX9_isOne_6 ?_
  obtain ⟨v1, hv1, h⟩ := Option.bind_eq_some_iff.mp h
  refine Y_iald C (pc := 7) (q_kr_9_0 hk0) hv1 dX9_isOne_7 ?_
  refine Y_iconst C (pc := 8) (v := (1 : Int32)) (by decide) dX9_isOne_8 ?_
  refine Y_isub C (pc := 9) dX9_isOne_9 ?_
  obtain ⟨v2, hv2, h⟩ := Option.bind_eq_some_iff.mp h
  refine Y_callS C [.int i1, .int (0 : Int32), .int (v1 - (1 : Int32))] [] [.int v2] (c_X9_in  hv2) (fun _ h => h.elim) q_cw_yX9_in q_ml_RX9_86 q_st_yX9_in ⟨⟨Nat.le_of_ble_eq_true rfl, Nat.le_of_ble_eq_true rfl⟩, ⟨Nat.zero_le _, Nat.zero_le _⟩, Nat.le_of_ble_eq_true rfl⟩ rfl rfl rfl dX9_isOne_10 ?_
  obtain ⟨v3, hv3, h⟩ := Option.bind_eq_some_iff.mp h
  obtain ⟨gv3, ev3⟩ := gb_in hv3
  subst v3
  cases h
  exact Y_zret gv3 C dX9_isOne_13

set_option maxRecDepth 100000 in
set_option maxHeartbeats 4000000 in
theorem c_X9_placeOf {l : Launch} {D : va_G} {cA ρ : Nat → Nat} {σ : Sg} {τ : Tg} {i0 : Int32} {i1 : Int32} {i2 : Int32}  {r : Int32} (h : f_X9_placeOf i0 i1 i2 = some r) : Ct l yX9_placeOf cX9_placeOf 3 (some .int) 0 0 D cA ρ A0 [.int i0, .int i1, .int i2] σ τ (some (.int r)) σ τ := by
  refine Ct_of (by decide +kernel) (Nat.le_of_ble_eq_true rfl) (fun p e s m args below meth c C => ?_)
  have C : Ctx p l s m args meth c cX9_placeOf RX9 3 (some .int) D cA ρ A0 := C
  unfold f_X9_placeOf at h
  refine Y_sub [0, 1, 2] (lv' := [(0, .int i0), (1, .int i1), (2, .int i2)]) rfl ?_
  refine Y_iconst C (pc := 0) (v := (1 : Int32)) (by decide) dX9_placeOf_0 ?_
  refine Y_bipush C (pc := 1) (v := (36 : Int32)) (by decide) dX9_placeOf_1 ?_
  refine Y_iload_n C (pc := 3) 0 0 rfl rfl dX9_placeOf_3 ?_
  refine Y_imul C (pc := 4) dX9_placeOf_4 ?_
  refine Y_iadd C (pc := 5) dX9_placeOf_5 ?_
  refine Y_bipush C (pc := 6) (v := (6 : Int32)) (by decide) dX9_placeOf_6 ?_
  refine Y_iload_n C (pc := 8) 1 1 rfl rfl dX9_placeOf_8 ?_
  refine Y_imul C (pc := 9) dX9_placeOf_9 ?_
  refine Y_iadd C (pc := 10) dX9_placeOf_10 ?_
  refine Y_iload_n C (pc := 11) 2 2 rfl rfl dX9_placeOf_11 ?_
  refine Y_iadd C (pc := 12) dX9_placeOf_12 ?_
  cases h
  exact Y_iret C dX9_placeOf_13

set_option maxRecDepth 100000 in
set_option maxHeartbeats 4000000 in
theorem c_X9_flow {l : Launch} {D : va_G} {cA ρ : Nat → Nat} {σ : Sg} {τ : Tg} {k0 : Nat} {i1 : Int32} {i2 : Int32} (hk0 : kd k0 = (0, 9)) {r : Int32} (h : f_X9_flow σ k0 i1 i2 = some r) : Ct l yX9_flow cX9_flow 3 (some .int) 1 22 D cA ρ A0 [.ref (ρ k0), .int i1, .int i2] σ τ (some (.int r)) σ τ := by
  refine Ct_of (by decide +kernel) (Nat.le_of_ble_eq_true rfl) (fun p e s m args below meth c C => ?_)
  have C : Ctx p l s m args meth c cX9_flow RX9 3 (some .int) D cA ρ A0 := C
  unfold f_X9_flow at h
  refine Y_sub [0, 1, 2] (lv' := [(0, .ref (ρ k0)), (1, .int i1), (2, .int i2)]) rfl ?_
  refine Y_aload_n C (pc := 0) 0 0 rfl rfl dX9_flow_0 ?_
  refine Y_getR C (pc := 1) hk0 q_fi_RX9_7 (by decide) dX9_flow_1 ?_
  refine Y_iconst C (pc := 4) (v := (0 : Int32)) (by decide) dX9_flow_4 ?_
  refine Y_iload_n C (pc := 5) 1 1 rfl rfl dX9_flow_5 ?_
  refine Y_iload_n C (pc := 6) 2 2 rfl rfl dX9_flow_6 ?_
  obtain ⟨v1, hv1, h⟩ := Option.bind_eq_some_iff.mp h
  refine Y_callS C [.int (0 : Int32), .int i1, .int i2] [.ref (ρ (k0 + 1))] [.int v1, .ref (ρ (k0 + 1))] (c_X9_placeOf  hv1) (fun _ h => h.elim) q_cw_yX9_placeOf q_ml_RX9_90 q_st_yX9_placeOf ⟨⟨Nat.le_of_ble_eq_true rfl, Nat.le_of_ble_eq_true rfl⟩, ⟨Nat.zero_le _, Nat.zero_le _⟩, Nat.le_of_ble_eq_true rfl⟩ rfl rfl rfl dX9_flow_7 ?_
  obtain ⟨v2, hv2, h⟩ := Option.bind_eq_some_iff.mp h
  refine Y_iald C (pc := 10) (q_kr_9_0 hk0) hv2 dX9_flow_10 ?_
  cases h
  exact Y_iret C dX9_flow_11

set_option maxRecDepth 100000 in
set_option maxHeartbeats 4000000 in
theorem c_X9_far {l : Launch} {D : va_G} {cA ρ : Nat → Nat} {σ : Sg} {τ : Tg} {k0 : Nat} {i1 : Int32} {i2 : Int32} (hk0 : kd k0 = (0, 9)) {r : Int32} (h : f_X9_far σ k0 i1 i2 = some r) : Ct l yX9_far cX9_far 3 (some .int) 1 22 D cA ρ A0 [.ref (ρ k0), .int i1, .int i2] σ τ (some (.int r)) σ τ := by
  refine Ct_of (by decide +kernel) (Nat.le_of_ble_eq_true rfl) (fun p e s m args below meth c C => ?_)
  have C : Ctx p l s m args meth c cX9_far RX9 3 (some .int) D cA ρ A0 := C
  unfold f_X9_far at h
  refine Y_sub [0, 1, 2] (lv' := [(0, .ref (ρ k0)), (1, .int i1), (2, .int i2)]) rfl ?_
  refine Y_aload_n C (pc := 0) 0 0 rfl rfl dX9_far_0 ?_
  refine Y_getR C (pc := 1) hk0 q_fi_RX9_7 (by decide) dX9_far_1 ?_
  refine Y_iconst C (pc := 4) (v := (1 : Int32)) (by decide) dX9_far_4 ?_
  refine Y_iload_n C (pc := 5) 1 1 rfl rfl dX9_far_5 ?_
  refine Y_iload_n C (pc := 6) 2 2 rfl rfl dX9_far_6 ?_
  obtain ⟨v1, hv1, h⟩ := Option.bind_eq_some_iff.mp h
  refine Y_callS C [.int (1 : Int32), .int i1, .int i2] [.ref (ρ (k0 + 1))] [.int v1, .ref (ρ (k0 + 1))] (c_X9_placeOf  hv1) (fun _ h => h.elim) q_cw_yX9_placeOf q_ml_RX9_90 q_st_yX9_placeOf ⟨⟨Nat.le_of_ble_eq_true rfl, Nat.le_of_ble_eq_true rfl⟩, ⟨Nat.zero_le _, Nat.zero_le _⟩, Nat.le_of_ble_eq_true rfl⟩ rfl rfl rfl dX9_far_7 ?_
  obtain ⟨v2, hv2, h⟩ := Option.bind_eq_some_iff.mp h
  refine Y_iald C (pc := 10) (q_kr_9_0 hk0) hv2 dX9_far_10 ?_
  cases h
  exact Y_iret C dX9_far_11

set_option maxRecDepth 100000 in
set_option maxHeartbeats 4000000 in
theorem c_X9_price {l : Launch} {D : va_G} {cA ρ : Nat → Nat} {σ : Sg} {τ : Tg} {k0 : Nat} {i1 : Int32} {i2 : Int32} (hk0 : kd k0 = (0, 9)) {r : Int32} (h : f_X9_price σ k0 i1 i2 = some r) : Ct l yX9_price cX9_price 3 (some .int) 1 22 D cA ρ A0 [.ref (ρ k0), .int i1, .int i2] σ τ (some (.int r)) σ τ := by
  refine Ct_of (by decide +kernel) (Nat.le_of_ble_eq_true rfl) (fun p e s m args below meth c C => ?_)
  have C : Ctx p l s m args meth c cX9_price RX9 3 (some .int) D cA ρ A0 := C
  unfold f_X9_price at h
  refine Y_sub [0, 1, 2] (lv' := [(0, .ref (ρ k0)), (1, .int i1), (2, .int i2)]) rfl ?_
  refine Y_aload_n C (pc := 0) 0 0 rfl rfl dX9_price_0 ?_
  refine Y_getR C (pc := 1) hk0 q_fi_RX9_7 (by decide) dX9_price_1 ?_
  refine Y_iconst C (pc := 4) (v := (2 : Int32)) (by decide) dX9_price_4 ?_
  refine Y_iload_n C (pc := 5) 1 1 rfl rfl dX9_price_5 ?_
  refine Y_iload_n C (pc := 6) 2 2 rfl rfl dX9_price_6 ?_
  obtain ⟨v1, hv1, h⟩ := Option.bind_eq_some_iff.mp h
  refine Y_callS C [.int (2 : Int32), .int i1, .int i2] [.ref (ρ (k0 + 1))] [.int v1, .ref (ρ (k0 + 1))] (c_X9_placeOf  hv1) (fun _ h => h.elim) q_cw_yX9_placeOf q_ml_RX9_90 q_st_yX9_placeOf ⟨⟨Nat.le_of_ble_eq_true rfl, Nat.le_of_ble_eq_true rfl⟩, ⟨Nat.zero_le _, Nat.zero_le _⟩, Nat.le_of_ble_eq_true rfl⟩ rfl rfl rfl dX9_price_7 ?_
  obtain ⟨v2, hv2, h⟩ := Option.bind_eq_some_iff.mp h
  refine Y_iald C (pc := 10) (q_kr_9_0 hk0) hv2 dX9_price_10 ?_
  cases h
  exact Y_iret C dX9_price_11

set_option maxRecDepth 100000 in
set_option maxHeartbeats 4000000 in
theorem c_X9_resize {l : Launch} {D : va_G} {cA ρ : Nat → Nat} {σ : Sg} {τ : Tg} {k0 : Nat} {i1 : Int32} (hI : Inj ρ) (hk0 : kd k0 = (0, 9)) {r : Int32 × Sg} (h : f_X9_resize σ k0 i1 = some r) : Ct l yX9_resize cX9_resize 3 (some .int) 2 43 D cA ρ (Aw ρ) [.ref (ρ k0), .int i1] σ τ (some (.int r.1)) r.2 τ := by
  refine Ct_of (by decide +kernel) (Nat.le_of_ble_eq_true rfl) (fun p e s m args below meth c C => ?_)
  have C : Ctx p l s m args meth c cX9_resize RX9 3 (some .int) D cA ρ (Aw ρ) := C
  have hW : Wr ρ (Aw ρ) := ⟨hI, fun k hk => ⟨k, hk, rfl⟩⟩
  unfold f_X9_resize at h
  refine Y_sub [0, 1] (lv' := [(0, .ref (ρ k0)), (1, .int i1)]) rfl ?_
  refine Y_iload_n C (pc := 0) 1 1 rfl rfl dX9_resize_0 ?_
  refine Y_iconst C (pc := 1) (v := (1 : Int32)) (by decide) dX9_resize_1 ?_
  refine Y_bipush C (pc := 2) (v := (6 : Int32)) (by decide) dX9_resize_2 ?_
  obtain ⟨v1, hv1, h⟩ := Option.bind_eq_some_iff.mp h
  refine Y_callS C [.int i1, .int (1 : Int32), .int (6 : Int32)] [] [.int v1] (c_X9_in  hv1) (fun _ h => h.elim) q_cw_yX9_in q_ml_RX9_86 q_st_yX9_in ⟨⟨Nat.le_of_ble_eq_true rfl, Nat.le_of_ble_eq_true rfl⟩, ⟨Nat.zero_le _, Nat.zero_le _⟩, Nat.le_of_ble_eq_true rfl⟩ rfl rfl rfl dX9_resize_4 ?_
  refine Y_if_ne C (pc := 7) (tgt := 16) dX9_resize_7 (by decide) (fun c7 => ?_) (fun c7 => ?_)
  · rw [if_neg c7] at h
    refine Y_aload_n C (pc := 16) 0 0 rfl rfl dX9_resize_16 ?_
    obtain ⟨v2, hv2, h⟩ := Option.bind_eq_some_iff.mp h
    refine Y_callV C [] [] [] hk0 rfl rfl (c_X9_hold hI hk0 hv2) (fun _ h => h) q_cw_yX9_hold q_ml_RX9_97 ⟨q_im_yX9_hold, q_se_yX9_hold⟩ ⟨⟨Nat.le_of_ble_eq_true rfl, Nat.le_of_ble_eq_true rfl⟩, ⟨Nat.zero_le _, Nat.zero_le _⟩, Nat.le_of_ble_eq_true rfl⟩ rfl rfl rfl dX9_resize_17 ?_
    refine Y_aload_n C (pc := 20) 0 0 rfl rfl dX9_resize_20 ?_
    refine Y_getR C (pc := 21) hk0 q_fi_RX9_7 (by decide) dX9_resize_21 ?_
    refine Y_iconst C (pc := 24) (v := (0 : Int32)) (by decide) dX9_resize_24 ?_
    obtain ⟨v3, hv3, h⟩ := Option.bind_eq_some_iff.mp h
    refine Y_iald C (pc := 25) (q_kr_9_0 hk0) hv3 dX9_resize_25 ?_
    refine Y_istore_n C (pc := 26) (lv' := [(2, .int v3), (0, .ref (ρ k0)), (1, .int i1)]) 2 rfl (by decide) rfl dX9_resize_26 ?_
    refine Y_aload_n C (pc := 27) 0 1 rfl rfl dX9_resize_27 ?_
    refine Y_iload_n C (pc := 28) 1 2 rfl rfl dX9_resize_28 ?_
    obtain ⟨v4, hv4, h⟩ := Option.bind_eq_some_iff.mp h
    refine Y_callV C [.int i1] [] [] hk0 rfl rfl (c_X9_begins hI hk0 hv4) (fun _ h => h) q_cw_yX9_begins q_ml_RX9_71 ⟨q_im_yX9_begins, q_se_yX9_begins⟩ ⟨⟨Nat.le_of_ble_eq_true rfl, Nat.le_of_ble_eq_true rfl⟩, ⟨Nat.zero_le _, Nat.zero_le _⟩, Nat.le_of_ble_eq_true rfl⟩ rfl rfl rfl dX9_resize_29 ?_
    refine Y_aload_n C (pc := 32) 0 1 rfl rfl dX9_resize_32 ?_
    refine Y_iload_n C (pc := 33) 2 0 rfl rfl dX9_resize_33 ?_
    obtain ⟨v5, hv5, h⟩ := Option.bind_eq_some_iff.mp h
    refine Y_callV C [.int v3] [] [.int v5.1] hk0 rfl rfl (c_X9_ends hI hk0 hv5) (fun _ h => h) q_cw_yX9_ends q_ml_RX9_100 ⟨q_im_yX9_ends, q_se_yX9_ends⟩ ⟨⟨Nat.le_of_ble_eq_true rfl, Nat.le_of_ble_eq_true rfl⟩, ⟨Nat.zero_le _, Nat.zero_le _⟩, Nat.le_of_ble_eq_true rfl⟩ rfl rfl rfl dX9_resize_34 ?_
    cases h
    exact Y_iret C dX9_resize_37
  · rw [if_pos c7] at h
    refine Y_aload_n C (pc := 10) 0 0 rfl rfl dX9_resize_10 ?_
    refine Y_iconst C (pc := 11) (v := (1 : Int32)) (by decide) dX9_resize_11 ?_
    obtain ⟨v6, hv6, h⟩ := Option.bind_eq_some_iff.mp h
    refine Y_callV C [.int (1 : Int32)] [] [.int v6.1] hk0 rfl rfl (c_X9_fails hI hk0 hv6) (fun _ h => h) q_cw_yX9_fails q_ml_RX9_94 ⟨q_im_yX9_fails, q_se_yX9_fails⟩ ⟨⟨Nat.le_of_ble_eq_true rfl, Nat.le_of_ble_eq_true rfl⟩, ⟨Nat.zero_le _, Nat.zero_le _⟩, Nat.le_of_ble_eq_true rfl⟩ rfl rfl rfl dX9_resize_12 ?_
    cases h
    exact Y_iret C dX9_resize_15

set_option maxRecDepth 100000 in
set_option maxHeartbeats 4000000 in
theorem c_X9_size {l : Launch} {D : va_G} {cA ρ : Nat → Nat} {σ : Sg} {τ : Tg} {k0 : Nat} (hI : Inj ρ) (hk0 : kd k0 = (0, 9)) {r : Int32 × Sg} (h : f_X9_size σ k0 = some r) : Ct l yX9_size cX9_size 1 (some .int) 1 21 D cA ρ (Aw ρ) [.ref (ρ k0)] σ τ (some (.int r.1)) r.2 τ := by
  refine Ct_of (by decide +kernel) (Nat.le_of_ble_eq_true rfl) (fun p e s m args below meth c C => ?_)
  have C : Ctx p l s m args meth c cX9_size RX9 1 (some .int) D cA ρ (Aw ρ) := C
  have hW : Wr ρ (Aw ρ) := ⟨hI, fun k hk => ⟨k, hk, rfl⟩⟩
  unfold f_X9_size at h
  refine Y_sub [0] (lv' := [(0, .ref (ρ k0))]) rfl ?_
  refine Y_aload_n C (pc := 0) 0 0 rfl rfl dX9_size_0 ?_
  refine Y_aload_n C (pc := 1) 0 0 rfl rfl dX9_size_1 ?_
  refine Y_getR C (pc := 2) hk0 q_fi_RX9_7 (by decide) dX9_size_2 ?_
  refine Y_iconst C (pc := 5) (v := (0 : Int32)) (by decide) dX9_size_5 ?_
  obtain ⟨v1, hv1, h⟩ := Option.bind_eq_some_iff.mp h
  refine Y_iald C (pc := 6) (q_kr_9_0 hk0) hv1 dX9_size_6 ?_
  obtain ⟨v2, hv2, h⟩ := Option.bind_eq_some_iff.mp h
  refine Y_callV C [.int v1] [] [.int v2.1] hk0 rfl rfl (c_X9_tells hI hk0 hv2) (fun _ h => h) q_cw_yX9_tells q_ml_RX9_82 ⟨q_im_yX9_tells, q_se_yX9_tells⟩ ⟨⟨Nat.le_of_ble_eq_true rfl, Nat.le_of_ble_eq_true rfl⟩, ⟨Nat.zero_le _, Nat.zero_le _⟩, Nat.le_of_ble_eq_true rfl⟩ rfl rfl rfl dX9_size_7 ?_
  cases h
  exact Y_iret C dX9_size_10

set_option maxRecDepth 100000 in
set_option maxHeartbeats 4000000 in
theorem c_X9_set {l : Launch} {D : va_G} {cA ρ : Nat → Nat} {σ : Sg} {τ : Tg} {k0 : Nat} {i1 : Int32} {i2 : Int32} {i3 : Int32} {i4 : Int32} (hI : Inj ρ) (hk0 : kd k0 = (0, 9)) {r : Int32 × Sg} (h : f_X9_set σ k0 i1 i2 i3 i4 = some r) : Ct l yX9_set cX9_set 6 (some .int) 2 43 D cA ρ (Aw ρ) [.ref (ρ k0), .int i1, .int i2, .int i3, .int i4] σ τ (some (.int r.1)) r.2 τ := by
  refine Ct_of (by decide +kernel) (Nat.le_of_ble_eq_true rfl) (fun p e s m args below meth c C => ?_)
  have C : Ctx p l s m args meth c cX9_set RX9 6 (some .int) D cA ρ (Aw ρ) := C
  have hW : Wr ρ (Aw ρ) := ⟨hI, fun k hk => ⟨k, hk, rfl⟩⟩
  unfold f_X9_set at h
  refine Y_sub [0, 1, 2, 3, 4] (lv' := [(0, .ref (ρ k0)), (1, .int i1), (2, .int i2), (3, .int i3), (4, .int i4)]) rfl ?_
  have hJ42 : ∀ (sj6 : Sg), f_X9_set_J42 k0 sj6 = some r → Y p l e (Rm 2 43) s m args below meth c 6 D cA ρ (Aw ρ) 0 0 (MQ below (QC D cA ρ (Aw ρ) (some (.int r.1)) r.2 τ) args s 0 0 (Aw ρ)) sj6 τ 42 [(0, .ref (ρ k0))] [] := by
    intro sj6 h
    unfold f_X9_set_J42 at h
    refine Y_aload_n C (pc := 42) 0 0 rfl rfl dX9_set_42 ?_
    refine Y_iconst C (pc := 43) (v := (2 : Int32)) (by decide) dX9_set_43 ?_
    obtain ⟨v7, hv7, h⟩ := Option.bind_eq_some_iff.mp h
    refine Y_callV C [.int (2 : Int32)] [] [.int v7.1] hk0 rfl rfl (c_X9_fails hI hk0 hv7) (fun _ h => h) q_cw_yX9_fails q_ml_RX9_94 ⟨q_im_yX9_fails, q_se_yX9_fails⟩ ⟨⟨Nat.le_of_ble_eq_true rfl, Nat.le_of_ble_eq_true rfl⟩, ⟨Nat.zero_le _, Nat.zero_le _⟩, Nat.le_of_ble_eq_true rfl⟩ rfl rfl rfl dX9_set_44 ?_
    cases h
    exact Y_iret C dX9_set_47
  have hJ16 : ∀ (sj2 : Sg), f_X9_set_J16 k0 sj2 = some r → Y p l e (Rm 2 43) s m args below meth c 6 D cA ρ (Aw ρ) 0 0 (MQ below (QC D cA ρ (Aw ρ) (some (.int r.1)) r.2 τ) args s 0 0 (Aw ρ)) sj2 τ 16 [(0, .ref (ρ k0))] [] := by
    intro sj2 h
    unfold f_X9_set_J16 at h
    refine Y_aload_n C (pc := 16) 0 0 rfl rfl dX9_set_16 ?_
    refine Y_iconst C (pc := 17) (v := (1 : Int32)) (by decide) dX9_set_17 ?_
    obtain ⟨v3, hv3, h⟩ := Option.bind_eq_some_iff.mp h
    refine Y_callV C [.int (1 : Int32)] [] [.int v3.1] hk0 rfl rfl (c_X9_fails hI hk0 hv3) (fun _ h => h) q_cw_yX9_fails q_ml_RX9_94 ⟨q_im_yX9_fails, q_se_yX9_fails⟩ ⟨⟨Nat.le_of_ble_eq_true rfl, Nat.le_of_ble_eq_true rfl⟩, ⟨Nat.zero_le _, Nat.zero_le _⟩, Nat.le_of_ble_eq_true rfl⟩ rfl rfl rfl dX9_set_18 ?_
    cases h
    exact Y_iret C dX9_set_21
  refine Y_aload_n C (pc := 0) 0 0 rfl rfl dX9_set_0 ?_
  refine Y_iload_n C (pc := 1) 2 2 rfl rfl dX9_set_1 ?_
  obtain ⟨v1, hv1, h⟩ := Option.bind_eq_some_iff.mp h
  refine Y_callV C [.int i2] [] [.int v1] hk0 rfl rfl (c_X9_isOne hk0 hv1) (fun _ h => h.elim) q_cw_yX9_isOne q_ml_RX9_103 ⟨q_im_yX9_isOne, q_se_yX9_isOne⟩ ⟨⟨Nat.le_of_ble_eq_true rfl, Nat.le_of_ble_eq_true rfl⟩, ⟨Nat.zero_le _, Nat.zero_le _⟩, Nat.le_of_ble_eq_true rfl⟩ rfl rfl rfl dX9_set_2 ?_
  refine Y_if_eq C (pc := 5) (tgt := 16) dX9_set_5 (by decide) (fun c18 => ?_) (fun c18 => ?_)
  · rw [if_pos c18] at h
    exact Y_sub [0] rfl (hJ16 _ h)
  · rw [if_neg c18] at h
    refine Y_aload_n C (pc := 8) 0 0 rfl rfl dX9_set_8 ?_
    refine Y_iload_n C (pc := 9) 3 3 rfl rfl dX9_set_9 ?_
    obtain ⟨v4, hv4, h⟩ := Option.bind_eq_some_iff.mp h
    refine Y_callV C [.int i3] [] [.int v4] hk0 rfl rfl (c_X9_isOne hk0 hv4) (fun _ h => h.elim) q_cw_yX9_isOne q_ml_RX9_103 ⟨q_im_yX9_isOne, q_se_yX9_isOne⟩ ⟨⟨Nat.le_of_ble_eq_true rfl, Nat.le_of_ble_eq_true rfl⟩, ⟨Nat.zero_le _, Nat.zero_le _⟩, Nat.le_of_ble_eq_true rfl⟩ rfl rfl rfl dX9_set_10 ?_
    refine Y_if_ne C (pc := 13) (tgt := 22) dX9_set_13 (by decide) (fun c17 => ?_) (fun c17 => ?_)
    · rw [if_neg c17] at h
      refine Y_iload_n C (pc := 22) 1 1 rfl rfl dX9_set_22 ?_
      refine Y_iconst C (pc := 23) (v := (0 : Int32)) (by decide) dX9_set_23 ?_
      refine Y_iconst C (pc := 24) (v := (2 : Int32)) (by decide) dX9_set_24 ?_
      obtain ⟨v5, hv5, h⟩ := Option.bind_eq_some_iff.mp h
      refine Y_callS C [.int i1, .int (0 : Int32), .int (2 : Int32)] [] [.int v5] (c_X9_in  hv5) (fun _ h => h.elim) q_cw_yX9_in q_ml_RX9_86 q_st_yX9_in ⟨⟨Nat.le_of_ble_eq_true rfl, Nat.le_of_ble_eq_true rfl⟩, ⟨Nat.zero_le _, Nat.zero_le _⟩, Nat.le_of_ble_eq_true rfl⟩ rfl rfl rfl dX9_set_25 ?_
      refine Y_if_eq C (pc := 28) (tgt := 42) dX9_set_28 (by decide) (fun c16 => ?_) (fun c16 => ?_)
      · rw [if_pos c16] at h
        exact Y_sub [0] rfl (hJ42 _ h)
      · rw [if_neg c16] at h
        refine Y_iload C (pc := 31) 4 rfl dX9_set_31 ?_
        refine Y_iconst C (pc := 33) (v := (0 : Int32)) (by decide) dX9_set_33 ?_
        refine Y_bipush C (pc := 34) (v := (99 : Int32)) (by decide) dX9_set_34 ?_
        obtain ⟨v8, hv8, h⟩ := Option.bind_eq_some_iff.mp h
        refine Y_callS C [.int i4, .int (0 : Int32), .int (99 : Int32)] [] [.int v8] (c_X9_in  hv8) (fun _ h => h.elim) q_cw_yX9_in q_ml_RX9_86 q_st_yX9_in ⟨⟨Nat.le_of_ble_eq_true rfl, Nat.le_of_ble_eq_true rfl⟩, ⟨Nat.zero_le _, Nat.zero_le _⟩, Nat.le_of_ble_eq_true rfl⟩ rfl rfl rfl dX9_set_36 ?_
        refine Y_if_ne C (pc := 39) (tgt := 48) dX9_set_39 (by decide) (fun c15 => ?_) (fun c15 => ?_)
        · rw [if_neg c15] at h
          refine Y_aload_n C (pc := 48) 0 0 rfl rfl dX9_set_48 ?_
          obtain ⟨v9, hv9, h⟩ := Option.bind_eq_some_iff.mp h
          refine Y_callV C [] [] [] hk0 rfl rfl (c_X9_hold hI hk0 hv9) (fun _ h => h) q_cw_yX9_hold q_ml_RX9_97 ⟨q_im_yX9_hold, q_se_yX9_hold⟩ ⟨⟨Nat.le_of_ble_eq_true rfl, Nat.le_of_ble_eq_true rfl⟩, ⟨Nat.zero_le _, Nat.zero_le _⟩, Nat.le_of_ble_eq_true rfl⟩ rfl rfl rfl dX9_set_49 ?_
          refine Y_aload_n C (pc := 52) 0 0 rfl rfl dX9_set_52 ?_
          refine Y_getR C (pc := 53) hk0 q_fi_RX9_7 (by decide) dX9_set_53 ?_
          refine Y_iload_n C (pc := 56) 1 1 rfl rfl dX9_set_56 ?_
          refine Y_iload_n C (pc := 57) 2 2 rfl rfl dX9_set_57 ?_
          refine Y_iload_n C (pc := 58) 3 3 rfl rfl dX9_set_58 ?_
          obtain ⟨v10, hv10, h⟩ := Option.bind_eq_some_iff.mp h
          refine Y_callS C [.int i1, .int i2, .int i3] [.ref (ρ (k0 + 1))] [.int v10, .ref (ρ (k0 + 1))] (c_X9_placeOf  hv10) (fun _ h => h.elim) q_cw_yX9_placeOf q_ml_RX9_90 q_st_yX9_placeOf ⟨⟨Nat.le_of_ble_eq_true rfl, Nat.le_of_ble_eq_true rfl⟩, ⟨Nat.zero_le _, Nat.zero_le _⟩, Nat.le_of_ble_eq_true rfl⟩ rfl rfl rfl dX9_set_59 ?_
          obtain ⟨v11, hv11, h⟩ := Option.bind_eq_some_iff.mp h
          refine Y_iald C (pc := 62) (q_kr_9_0 hk0) hv11 dX9_set_62 ?_
          refine Y_istore C (pc := 63) (lv' := [(5, .int v11), (0, .ref (ρ k0)), (1, .int i1), (2, .int i2), (3, .int i3), (4, .int i4)]) (by decide) rfl dX9_set_63 ?_
          refine Y_aload_n C (pc := 65) 0 1 rfl rfl dX9_set_65 ?_
          refine Y_getR C (pc := 66) hk0 q_fi_RX9_7 (by decide) dX9_set_66 ?_
          refine Y_iload_n C (pc := 69) 1 2 rfl rfl dX9_set_69 ?_
          refine Y_iload_n C (pc := 70) 2 3 rfl rfl dX9_set_70 ?_
          refine Y_iload_n C (pc := 71) 3 4 rfl rfl dX9_set_71 ?_
          obtain ⟨v12, hv12, h⟩ := Option.bind_eq_some_iff.mp h
          refine Y_callS C [.int i1, .int i2, .int i3] [.ref (ρ (k0 + 1))] [.int v12, .ref (ρ (k0 + 1))] (c_X9_placeOf  hv12) (fun _ h => h.elim) q_cw_yX9_placeOf q_ml_RX9_90 q_st_yX9_placeOf ⟨⟨Nat.le_of_ble_eq_true rfl, Nat.le_of_ble_eq_true rfl⟩, ⟨Nat.zero_le _, Nat.zero_le _⟩, Nat.le_of_ble_eq_true rfl⟩ rfl rfl rfl dX9_set_72 ?_
          refine Y_iload C (pc := 75) 5 rfl dX9_set_75 ?_
          obtain ⟨s13, hs13, h⟩ := Option.bind_eq_some_iff.mp h
          refine Y_iast C (pc := 77) hW (q_kr_9_0 hk0) (q_lr_9_0 hk0) hs13 dX9_set_77 ?_
          refine Y_aload_n C (pc := 78) 0 1 rfl rfl dX9_set_78 ?_
          refine Y_iload C (pc := 79) 0 rfl dX9_set_79 ?_
          obtain ⟨v14, hv14, h⟩ := Option.bind_eq_some_iff.mp h
          refine Y_callV C [.int v11] [] [.int v14.1] hk0 rfl rfl (c_X9_ends hI hk0 hv14) (fun _ h => h) q_cw_yX9_ends q_ml_RX9_100 ⟨q_im_yX9_ends, q_se_yX9_ends⟩ ⟨⟨Nat.le_of_ble_eq_true rfl, Nat.le_of_ble_eq_true rfl⟩, ⟨Nat.zero_le _, Nat.zero_le _⟩, Nat.le_of_ble_eq_true rfl⟩ rfl rfl rfl dX9_set_81 ?_
          cases h
          exact Y_iret C dX9_set_84
        · rw [if_pos c15] at h
          exact Y_sub [0] rfl (hJ42 _ h)
    · rw [if_pos c17] at h
      exact Y_sub [0] rfl (hJ16 _ h)

set_option maxRecDepth 100000 in
set_option maxHeartbeats 4000000 in
theorem c_X9_get {l : Launch} {D : va_G} {cA ρ : Nat → Nat} {σ : Sg} {τ : Tg} {k0 : Nat} {i1 : Int32} {i2 : Int32} {i3 : Int32} (hI : Inj ρ) (hk0 : kd k0 = (0, 9)) {r : Int32 × Sg} (h : f_X9_get σ k0 i1 i2 i3 = some r) : Ct l yX9_get cX9_get 4 (some .int) 2 43 D cA ρ (Aw ρ) [.ref (ρ k0), .int i1, .int i2, .int i3] σ τ (some (.int r.1)) r.2 τ := by
  refine Ct_of (by decide +kernel) (Nat.le_of_ble_eq_true rfl) (fun p e s m args below meth c C => ?_)
  have C : Ctx p l s m args meth c cX9_get RX9 4 (some .int) D cA ρ (Aw ρ) := C
  have hW : Wr ρ (Aw ρ) := ⟨hI, fun k hk => ⟨k, hk, rfl⟩⟩
  unfold f_X9_get at h
  refine Y_sub [0, 1, 2, 3] (lv' := [(0, .ref (ρ k0)), (1, .int i1), (2, .int i2), (3, .int i3)]) rfl ?_
  have hJ16 : ∀ (sj2 : Sg), f_X9_get_J16 k0 sj2 = some r → Y p l e (Rm 2 43) s m args below meth c 4 D cA ρ (Aw ρ) 0 0 (MQ below (QC D cA ρ (Aw ρ) (some (.int r.1)) r.2 τ) args s 0 0 (Aw ρ)) sj2 τ 16 [(0, .ref (ρ k0))] [] := by
    intro sj2 h
    unfold f_X9_get_J16 at h
    refine Y_aload_n C (pc := 16) 0 0 rfl rfl dX9_get_16 ?_
    refine Y_iconst C (pc := 17) (v := (1 : Int32)) (by decide) dX9_get_17 ?_
    obtain ⟨v3, hv3, h⟩ := Option.bind_eq_some_iff.mp h
    refine Y_callV C [.int (1 : Int32)] [] [.int v3.1] hk0 rfl rfl (c_X9_fails hI hk0 hv3) (fun _ h => h) q_cw_yX9_fails q_ml_RX9_94 ⟨q_im_yX9_fails, q_se_yX9_fails⟩ ⟨⟨Nat.le_of_ble_eq_true rfl, Nat.le_of_ble_eq_true rfl⟩, ⟨Nat.zero_le _, Nat.zero_le _⟩, Nat.le_of_ble_eq_true rfl⟩ rfl rfl rfl dX9_get_18 ?_
    cases h
    exact Y_iret C dX9_get_21
  refine Y_aload_n C (pc := 0) 0 0 rfl rfl dX9_get_0 ?_
  refine Y_iload_n C (pc := 1) 2 2 rfl rfl dX9_get_1 ?_
  obtain ⟨v1, hv1, h⟩ := Option.bind_eq_some_iff.mp h
  refine Y_callV C [.int i2] [] [.int v1] hk0 rfl rfl (c_X9_isOne hk0 hv1) (fun _ h => h.elim) q_cw_yX9_isOne q_ml_RX9_103 ⟨q_im_yX9_isOne, q_se_yX9_isOne⟩ ⟨⟨Nat.le_of_ble_eq_true rfl, Nat.le_of_ble_eq_true rfl⟩, ⟨Nat.zero_le _, Nat.zero_le _⟩, Nat.le_of_ble_eq_true rfl⟩ rfl rfl rfl dX9_get_2 ?_
  refine Y_if_eq C (pc := 5) (tgt := 16) dX9_get_5 (by decide) (fun c12 => ?_) (fun c12 => ?_)
  · rw [if_pos c12] at h
    exact Y_sub [0] rfl (hJ16 _ h)
  · rw [if_neg c12] at h
    refine Y_aload_n C (pc := 8) 0 0 rfl rfl dX9_get_8 ?_
    refine Y_iload_n C (pc := 9) 3 3 rfl rfl dX9_get_9 ?_
    obtain ⟨v4, hv4, h⟩ := Option.bind_eq_some_iff.mp h
    refine Y_callV C [.int i3] [] [.int v4] hk0 rfl rfl (c_X9_isOne hk0 hv4) (fun _ h => h.elim) q_cw_yX9_isOne q_ml_RX9_103 ⟨q_im_yX9_isOne, q_se_yX9_isOne⟩ ⟨⟨Nat.le_of_ble_eq_true rfl, Nat.le_of_ble_eq_true rfl⟩, ⟨Nat.zero_le _, Nat.zero_le _⟩, Nat.le_of_ble_eq_true rfl⟩ rfl rfl rfl dX9_get_10 ?_
    refine Y_if_ne C (pc := 13) (tgt := 22) dX9_get_13 (by decide) (fun c11 => ?_) (fun c11 => ?_)
    · rw [if_neg c11] at h
      refine Y_iload_n C (pc := 22) 1 1 rfl rfl dX9_get_22 ?_
      refine Y_iconst C (pc := 23) (v := (0 : Int32)) (by decide) dX9_get_23 ?_
      refine Y_iconst C (pc := 24) (v := (2 : Int32)) (by decide) dX9_get_24 ?_
      obtain ⟨v5, hv5, h⟩ := Option.bind_eq_some_iff.mp h
      refine Y_callS C [.int i1, .int (0 : Int32), .int (2 : Int32)] [] [.int v5] (c_X9_in  hv5) (fun _ h => h.elim) q_cw_yX9_in q_ml_RX9_86 q_st_yX9_in ⟨⟨Nat.le_of_ble_eq_true rfl, Nat.le_of_ble_eq_true rfl⟩, ⟨Nat.zero_le _, Nat.zero_le _⟩, Nat.le_of_ble_eq_true rfl⟩ rfl rfl rfl dX9_get_25 ?_
      refine Y_if_eq C (pc := 28) (tgt := 49) dX9_get_28 (by decide) (fun c10 => ?_) (fun c10 => ?_)
      · rw [if_pos c10] at h
        refine Y_aload_n C (pc := 49) 0 0 rfl rfl dX9_get_49 ?_
        refine Y_iconst C (pc := 50) (v := (2 : Int32)) (by decide) dX9_get_50 ?_
        obtain ⟨v6, hv6, h⟩ := Option.bind_eq_some_iff.mp h
        refine Y_callV C [.int (2 : Int32)] [] [.int v6.1] hk0 rfl rfl (c_X9_fails hI hk0 hv6) (fun _ h => h) q_cw_yX9_fails q_ml_RX9_94 ⟨q_im_yX9_fails, q_se_yX9_fails⟩ ⟨⟨Nat.le_of_ble_eq_true rfl, Nat.le_of_ble_eq_true rfl⟩, ⟨Nat.zero_le _, Nat.zero_le _⟩, Nat.le_of_ble_eq_true rfl⟩ rfl rfl rfl dX9_get_51 ?_
        cases h
        exact Y_iret C dX9_get_54
      · rw [if_neg c10] at h
        refine Y_aload_n C (pc := 31) 0 0 rfl rfl dX9_get_31 ?_
        refine Y_aload_n C (pc := 32) 0 0 rfl rfl dX9_get_32 ?_
        refine Y_getR C (pc := 33) hk0 q_fi_RX9_7 (by decide) dX9_get_33 ?_
        refine Y_iload_n C (pc := 36) 1 1 rfl rfl dX9_get_36 ?_
        refine Y_iload_n C (pc := 37) 2 2 rfl rfl dX9_get_37 ?_
        refine Y_iload_n C (pc := 38) 3 3 rfl rfl dX9_get_38 ?_
        obtain ⟨v7, hv7, h⟩ := Option.bind_eq_some_iff.mp h
        refine Y_callS C [.int i1, .int i2, .int i3] [.ref (ρ (k0 + 1)), .ref (ρ k0)] [.int v7, .ref (ρ (k0 + 1)), .ref (ρ k0)] (c_X9_placeOf  hv7) (fun _ h => h.elim) q_cw_yX9_placeOf q_ml_RX9_90 q_st_yX9_placeOf ⟨⟨Nat.le_of_ble_eq_true rfl, Nat.le_of_ble_eq_true rfl⟩, ⟨Nat.zero_le _, Nat.zero_le _⟩, Nat.le_of_ble_eq_true rfl⟩ rfl rfl rfl dX9_get_39 ?_
        obtain ⟨v8, hv8, h⟩ := Option.bind_eq_some_iff.mp h
        refine Y_iald C (pc := 42) (q_kr_9_0 hk0) hv8 dX9_get_42 ?_
        obtain ⟨v9, hv9, h⟩ := Option.bind_eq_some_iff.mp h
        refine Y_callV C [.int v8] [] [.int v9.1] hk0 rfl rfl (c_X9_tells hI hk0 hv9) (fun _ h => h) q_cw_yX9_tells q_ml_RX9_82 ⟨q_im_yX9_tells, q_se_yX9_tells⟩ ⟨⟨Nat.le_of_ble_eq_true rfl, Nat.le_of_ble_eq_true rfl⟩, ⟨Nat.zero_le _, Nat.zero_le _⟩, Nat.le_of_ble_eq_true rfl⟩ rfl rfl rfl dX9_get_43 ?_
        refine Y_goto C (pc := 46) (tgt := 54) dX9_get_46 (by decide) ?_
        cases h
        exact Y_iret C dX9_get_54
    · rw [if_pos c11] at h
      exact Y_sub [0] rfl (hJ16 _ h)

set_option maxRecDepth 100000 in
set_option maxHeartbeats 4000000 in
theorem c_X9_fill {l : Launch} {D : va_G} {cA ρ : Nat → Nat} {σ : Sg} {τ : Tg} {k0 : Nat} {i1 : Int32} {i2 : Int32} {i3 : Int32} {i4 : Int32} (hI : Inj ρ) (hk0 : kd k0 = (0, 9)) {r : Int32 × Sg} (h : f_X9_fill σ k0 i1 i2 i3 i4 = some r) : Ct l yX9_fill cX9_fill 11 (some .int) 2 43 D cA ρ (Aw ρ) [.ref (ρ k0), .int i1, .int i2, .int i3, .int i4] σ τ (some (.int r.1)) r.2 τ := by
  refine Ct_of (by decide +kernel) (Nat.le_of_ble_eq_true rfl) (fun p e s m args below meth c C => ?_)
  have C : Ctx p l s m args meth c cX9_fill RX9 11 (some .int) D cA ρ (Aw ρ) := C
  have hW : Wr ρ (Aw ρ) := ⟨hI, fun k hk => ⟨k, hk, rfl⟩⟩
  unfold f_X9_fill at h
  refine Y_sub [0, 1, 2, 3, 4] (lv' := [(0, .ref (ρ k0)), (1, .int i1), (2, .int i2), (3, .int i3), (4, .int i4)]) rfl ?_
  have hJ23 : ∀ (sj2 : Sg), f_X9_fill_J23 k0 sj2 = some r → Y p l e (Rm 2 43) s m args below meth c 11 D cA ρ (Aw ρ) 0 0 (MQ below (QC D cA ρ (Aw ρ) (some (.int r.1)) r.2 τ) args s 0 0 (Aw ρ)) sj2 τ 23 [(0, .ref (ρ k0))] [] := by
    intro sj2 h
    unfold f_X9_fill_J23 at h
    refine Y_aload_n C (pc := 23) 0 0 rfl rfl dX9_fill_23 ?_
    refine Y_iconst C (pc := 24) (v := (1 : Int32)) (by decide) dX9_fill_24 ?_
    obtain ⟨v3, hv3, h⟩ := Option.bind_eq_some_iff.mp h
    refine Y_callV C [.int (1 : Int32)] [] [.int v3.1] hk0 rfl rfl (c_X9_fails hI hk0 hv3) (fun _ h => h) q_cw_yX9_fails q_ml_RX9_94 ⟨q_im_yX9_fails, q_se_yX9_fails⟩ ⟨⟨Nat.le_of_ble_eq_true rfl, Nat.le_of_ble_eq_true rfl⟩, ⟨Nat.zero_le _, Nat.zero_le _⟩, Nat.le_of_ble_eq_true rfl⟩ rfl rfl rfl dX9_fill_25 ?_
    cases h
    exact Y_iret C dX9_fill_28
  refine Y_iload_n C (pc := 0) 1 1 rfl rfl dX9_fill_0 ?_
  refine Y_iconst C (pc := 1) (v := (0 : Int32)) (by decide) dX9_fill_1 ?_
  refine Y_iconst C (pc := 2) (v := (2 : Int32)) (by decide) dX9_fill_2 ?_
  obtain ⟨v1, hv1, h⟩ := Option.bind_eq_some_iff.mp h
  refine Y_callS C [.int i1, .int (0 : Int32), .int (2 : Int32)] [] [.int v1] (c_X9_in  hv1) (fun _ h => h.elim) q_cw_yX9_in q_ml_RX9_86 q_st_yX9_in ⟨⟨Nat.le_of_ble_eq_true rfl, Nat.le_of_ble_eq_true rfl⟩, ⟨Nat.zero_le _, Nat.zero_le _⟩, Nat.le_of_ble_eq_true rfl⟩ rfl rfl rfl dX9_fill_3 ?_
  refine Y_if_eq C (pc := 6) (tgt := 23) dX9_fill_6 (by decide) (fun c51 => ?_) (fun c51 => ?_)
  · rw [if_pos c51] at h
    exact Y_sub [0] rfl (hJ23 _ h)
  · rw [if_neg c51] at h
    refine Y_iload_n C (pc := 9) 2 2 rfl rfl dX9_fill_9 ?_
    refine Y_if_lt C (pc := 10) (tgt := 23) dX9_fill_10 (by decide) (fun c50 => ?_) (fun c50 => ?_)
    · rw [if_pos c50] at h
      exact Y_sub [0] rfl (hJ23 _ h)
    · rw [if_neg c50] at h
      refine Y_iload_n C (pc := 13) 3 3 rfl rfl dX9_fill_13 ?_
      refine Y_iconst C (pc := 14) (v := (0 : Int32)) (by decide) dX9_fill_14 ?_
      refine Y_bipush C (pc := 15) (v := (99 : Int32)) (by decide) dX9_fill_15 ?_
      obtain ⟨v4, hv4, h⟩ := Option.bind_eq_some_iff.mp h
      refine Y_callS C [.int i3, .int (0 : Int32), .int (99 : Int32)] [] [.int v4] (c_X9_in  hv4) (fun _ h => h.elim) q_cw_yX9_in q_ml_RX9_86 q_st_yX9_in ⟨⟨Nat.le_of_ble_eq_true rfl, Nat.le_of_ble_eq_true rfl⟩, ⟨Nat.zero_le _, Nat.zero_le _⟩, Nat.le_of_ble_eq_true rfl⟩ rfl rfl rfl dX9_fill_17 ?_
      refine Y_if_ne C (pc := 20) (tgt := 29) dX9_fill_20 (by decide) (fun c49 => ?_) (fun c49 => ?_)
      · rw [if_neg c49] at h
        refine Y_aload_n C (pc := 29) 0 0 rfl rfl dX9_fill_29 ?_
        obtain ⟨v5, hv5, h⟩ := Option.bind_eq_some_iff.mp h
        refine Y_callV C [] [] [] hk0 rfl rfl (c_X9_hold hI hk0 hv5) (fun _ h => h) q_cw_yX9_hold q_ml_RX9_97 ⟨q_im_yX9_hold, q_se_yX9_hold⟩ ⟨⟨Nat.le_of_ble_eq_true rfl, Nat.le_of_ble_eq_true rfl⟩, ⟨Nat.zero_le _, Nat.zero_le _⟩, Nat.le_of_ble_eq_true rfl⟩ rfl rfl rfl dX9_fill_30 ?_
        refine Y_iload_n C (pc := 33) 2 2 rfl rfl dX9_fill_33 ?_
        refine Y_i2l C (pc := 34) dX9_fill_34 ?_
        refine Y_lstore C (pc := 35) (lv' := [(5, .long (Int32.toInt64 i2)), (0, .ref (ρ k0)), (1, .int i1), (2, .int i2), (3, .int i3), (4, .int i4)]) (by decide) rfl dX9_fill_35 ?_
        refine Y_iconst C (pc := 37) (v := (0 : Int32)) (by decide) dX9_fill_37 ?_
        refine Y_istore C (pc := 38) (lv' := [(7, .int (0 : Int32)), (5, .long (Int32.toInt64 i2)), (0, .ref (ρ k0)), (1, .int i1), (2, .int i2), (3, .int i3), (4, .int i4)]) (by decide) rfl dX9_fill_38 ?_
        obtain ⟨e19, he19, h⟩ := Option.bind_eq_some_iff.mp h
        refine Y_sub [2, 3, 5, 6, 1, 0] (lv' := [(0, .ref (ρ k0)), (1, .int i1), (3, .int i3), (4, .int i4), (5, .long (Int32.toInt64 i2)), (7, .int (0 : Int32))]) rfl ?_
        refine lo_rule (f := (f_X9_fill_L40 k0 i1 i3)) (YS := fun s6 => Y p l e (Rm 2 43) s m args below meth c 11 D cA ρ (Aw ρ) 0 0 (MQ below (QC D cA ρ (Aw ρ) (some (.int r.1)) r.2 τ) args s 0 0 (Aw ρ)) s6.2.2 τ 40 [(0, .ref (ρ k0)), (1, .int i1), (3, .int i3), (4, .int i4), (5, .long s6.1), (7, .int s6.2.1)] []) (YE := fun e19 => Y p l e (Rm 2 43) s m args below meth c 11 D cA ρ (Aw ρ) 0 0 (MQ below (QC D cA ρ (Aw ρ) (some (.int r.1)) r.2 τ) args s 0 0 (Aw ρ)) e19 τ 119 [(0, .ref (ρ k0)), (1, .int i1), (4, .int i4)] []) ?_ he19 ?_
        · intro s6 x h hLp hE
          unfold f_X9_fill_L40 at h
          refine Y_iload C (pc := 40) 5 rfl dX9_fill_40 ?_
          refine Y_aload_n C (pc := 42) 0 0 rfl rfl dX9_fill_42 ?_
          refine Y_getR C (pc := 43) hk0 q_fi_RX9_7 (by decide) dX9_fill_43 ?_
          refine Y_iconst C (pc := 46) (v := (0 : Int32)) (by decide) dX9_fill_46 ?_
          obtain ⟨v7, hv7, h⟩ := Option.bind_eq_some_iff.mp h
          refine Y_iald C (pc := 47) (q_kr_9_0 hk0) hv7 dX9_fill_47 ?_
          refine Y_aload_n C (pc := 48) 0 0 rfl rfl dX9_fill_48 ?_
          refine Y_getR C (pc := 49) hk0 q_fi_RX9_7 (by decide) dX9_fill_49 ?_
          refine Y_iconst C (pc := 52) (v := (0 : Int32)) (by decide) dX9_fill_52 ?_
          obtain ⟨v8, hv8, h⟩ := Option.bind_eq_some_iff.mp h
          refine Y_iald C (pc := 53) (q_kr_9_0 hk0) hv8 dX9_fill_53 ?_
          refine Y_imul C (pc := 54) dX9_fill_54 ?_
          refine Y_icmp_ge C (pc := 55) (tgt := 119) dX9_fill_55 (by decide) (fun c18 => ?_) (fun c18 => ?_)
          · rw [if_pos c18] at h
            have h := Option.some.inj h
            exact Y_sub [0, 1, 3] rfl (hE _ h.symm)
          · rw [if_neg c18] at h
            refine Y_ldc2 C (pc := 58) q_ct_RX9_107 dX9_fill_58 ?_
            refine Y_lload C (pc := 61) 4 rfl dX9_fill_61 ?_
            refine Y_lmul C (pc := 63) dX9_fill_63 ?_
            refine Y_ldc2 C (pc := 64) q_ct_RX9_109 dX9_fill_64 ?_
            refine Y_ladd C (pc := 67) dX9_fill_67 ?_
            refine Y_ldc2 C (pc := 68) q_ct_RX9_111 dX9_fill_68 ?_
            obtain ⟨v9, hv9, h⟩ := Option.bind_eq_some_iff.mp h
            refine Y_lrem' C (pc := 71) hv9 dX9_fill_71 ?_
            refine Y_lstore C (pc := 72) (lv' := [(5, .long v9), (0, .ref (ρ k0)), (1, .int i1), (3, .int i3), (4, .int i4), (7, .int s6.2.1)]) (by decide) rfl dX9_fill_72 ?_
            refine Y_aload_n C (pc := 74) 0 1 rfl rfl dX9_fill_74 ?_
            refine Y_getR C (pc := 75) hk0 q_fi_RX9_7 (by decide) dX9_fill_75 ?_
            refine Y_iload_n C (pc := 78) 1 2 rfl rfl dX9_fill_78 ?_
            refine Y_iload C (pc := 79) 5 rfl dX9_fill_79 ?_
            refine Y_aload_n C (pc := 81) 0 1 rfl rfl dX9_fill_81 ?_
            refine Y_getR C (pc := 82) hk0 q_fi_RX9_7 (by decide) dX9_fill_82 ?_
            refine Y_iconst C (pc := 85) (v := (0 : Int32)) (by decide) dX9_fill_85 ?_
            obtain ⟨v10, hv10, h⟩ := Option.bind_eq_some_iff.mp h
            refine Y_iald C (pc := 86) (q_kr_9_0 hk0) hv10 dX9_fill_86 ?_
            obtain ⟨v11, hv11, h⟩ := Option.bind_eq_some_iff.mp h
            refine Y_idiv C (pc := 87) hv11 dX9_fill_87 ?_
            refine Y_iload C (pc := 88) 5 rfl dX9_fill_88 ?_
            refine Y_aload_n C (pc := 90) 0 1 rfl rfl dX9_fill_90 ?_
            refine Y_getR C (pc := 91) hk0 q_fi_RX9_7 (by decide) dX9_fill_91 ?_
            refine Y_iconst C (pc := 94) (v := (0 : Int32)) (by decide) dX9_fill_94 ?_
            obtain ⟨v12, hv12, h⟩ := Option.bind_eq_some_iff.mp h
            refine Y_iald C (pc := 95) (q_kr_9_0 hk0) hv12 dX9_fill_95 ?_
            obtain ⟨v13, hv13, h⟩ := Option.bind_eq_some_iff.mp h
            refine Y_irem C (pc := 96) hv13 dX9_fill_96 ?_
            obtain ⟨v14, hv14, h⟩ := Option.bind_eq_some_iff.mp h
            refine Y_callS C [.int i1, .int v11, .int v13] [.ref (ρ (k0 + 1))] [.int v14, .ref (ρ (k0 + 1))] (c_X9_placeOf  hv14) (fun _ h => h.elim) q_cw_yX9_placeOf q_ml_RX9_90 q_st_yX9_placeOf ⟨⟨Nat.le_of_ble_eq_true rfl, Nat.le_of_ble_eq_true rfl⟩, ⟨Nat.zero_le _, Nat.zero_le _⟩, Nat.le_of_ble_eq_true rfl⟩ rfl rfl rfl dX9_fill_97 ?_
            refine Y_lload C (pc := 100) 0 rfl dX9_fill_100 ?_
            refine Y_ldc2 C (pc := 102) q_ct_RX9_113 dX9_fill_102 ?_
            obtain ⟨v15, hv15, h⟩ := Option.bind_eq_some_iff.mp h
            refine Y_ldiv' C (pc := 105) hv15 dX9_fill_105 ?_
            refine Y_iload_n C (pc := 106) 3 3 rfl rfl dX9_fill_106 ?_
            refine Y_i2l C (pc := 107) dX9_fill_107 ?_
            refine Y_lconst C (pc := 108) (v := (1 : Int64)) (by decide) dX9_fill_108 ?_
            refine Y_ladd C (pc := 109) dX9_fill_109 ?_
            obtain ⟨v16, hv16, h⟩ := Option.bind_eq_some_iff.mp h
            refine Y_lrem' C (pc := 110) hv16 dX9_fill_110 ?_
            refine Y_l2i C (pc := 111) dX9_fill_111 ?_
            obtain ⟨s17, hs17, h⟩ := Option.bind_eq_some_iff.mp h
            refine Y_iast C (pc := 112) hW (q_kr_9_0 hk0) (q_lr_9_0 hk0) hs17 dX9_fill_112 ?_
            refine Y_iinc C (pc := 113) (v := (s6.2.1 + 1)) (lv' := [(7, .int (s6.2.1 + 1)), (5, .long v9), (0, .ref (ρ k0)), (1, .int i1), (3, .int i3), (4, .int i4)]) 5 rfl (congrArg (fun z => s6.2.1 + z) (by decide : Int32.ofInt (1) = (1))) (by decide) rfl dX9_fill_113 ?_
            refine Y_goto C (pc := 116) (tgt := 40) dX9_fill_116 (by decide) ?_
            have h := Option.some.inj h
            exact Y_sub [2, 3, 4, 5, 1, 0] rfl (hLp _ h.symm)
        · refine Y_iconst C (pc := 119) (v := (0 : Int32)) (by decide) dX9_fill_119 ?_
          refine Y_istore C (pc := 120) (lv' := [(7, .int (0 : Int32)), (0, .ref (ρ k0)), (1, .int i1), (4, .int i4)]) (by decide) rfl dX9_fill_120 ?_
          refine Y_iconst C (pc := 122) (v := (0 : Int32)) (by decide) dX9_fill_122 ?_
          refine Y_istore C (pc := 123) (lv' := [(8, .int (0 : Int32)), (7, .int (0 : Int32)), (0, .ref (ρ k0)), (1, .int i1), (4, .int i4)]) (by decide) rfl dX9_fill_123 ?_
          obtain ⟨e47, he47, h⟩ := Option.bind_eq_some_iff.mp h
          refine Y_sub [2, 3, 4, 1, 0] (lv' := [(0, .ref (ρ k0)), (1, .int i1), (4, .int i4), (7, .int (0 : Int32)), (8, .int (0 : Int32))]) rfl ?_
          refine lo_rule (f := (f_X9_fill_L125 k0 i1 i4)) (YS := fun s20 => Y p l e (Rm 2 43) s m args below meth c 11 D cA ρ (Aw ρ) 0 0 (MQ below (QC D cA ρ (Aw ρ) (some (.int r.1)) r.2 τ) args s 0 0 (Aw ρ)) s20.2.2 τ 125 [(0, .ref (ρ k0)), (1, .int i1), (4, .int i4), (7, .int s20.1), (8, .int s20.2.1)] []) (YE := fun e47 => Y p l e (Rm 2 43) s m args below meth c 11 D cA ρ (Aw ρ) 0 0 (MQ below (QC D cA ρ (Aw ρ) (some (.int r.1)) r.2 τ) args s 0 0 (Aw ρ)) e47.2 τ 237 [(0, .ref (ρ k0)), (7, .int e47.1)] []) ?_ he47 ?_
          · intro s20 x h hLp hE
            unfold f_X9_fill_L125 at h
            refine Y_iload C (pc := 125) 4 rfl dX9_fill_125 ?_
            refine Y_aload_n C (pc := 127) 0 0 rfl rfl dX9_fill_127 ?_
            refine Y_getR C (pc := 128) hk0 q_fi_RX9_7 (by decide) dX9_fill_128 ?_
            refine Y_iconst C (pc := 131) (v := (0 : Int32)) (by decide) dX9_fill_131 ?_
            obtain ⟨v21, hv21, h⟩ := Option.bind_eq_some_iff.mp h
            refine Y_iald C (pc := 132) (q_kr_9_0 hk0) hv21 dX9_fill_132 ?_
            refine Y_icmp_ge C (pc := 133) (tgt := 237) dX9_fill_133 (by decide) (fun c46 => ?_) (fun c46 => ?_)
            · rw [if_pos c46] at h
              have h := Option.some.inj h
              exact Y_sub [0, 3] rfl (hE _ h.symm)
            · rw [if_neg c46] at h
              refine Y_iconst C (pc := 136) (v := (0 : Int32)) (by decide) dX9_fill_136 ?_
              refine Y_istore C (pc := 137) (lv' := [(9, .int (0 : Int32)), (0, .ref (ρ k0)), (1, .int i1), (4, .int i4), (7, .int s20.1), (8, .int s20.2.1)]) (by decide) rfl dX9_fill_137 ?_
              obtain ⟨e45, he45, h⟩ := Option.bind_eq_some_iff.mp h
              refine Y_sub [1, 2, 3, 4, 5, 0] (lv' := [(0, .ref (ρ k0)), (1, .int i1), (4, .int i4), (7, .int s20.1), (8, .int s20.2.1), (9, .int (0 : Int32))]) rfl ?_
              refine lo_rule (f := (f_X9_fill_L139 k0 i1 s20 i4)) (YS := fun s22 => Y p l e (Rm 2 43) s m args below meth c 11 D cA ρ (Aw ρ) 0 0 (MQ below (QC D cA ρ (Aw ρ) (some (.int r.1)) r.2 τ) args s 0 0 (Aw ρ)) s22.2.2 τ 139 [(0, .ref (ρ k0)), (1, .int i1), (4, .int i4), (7, .int s22.1), (8, .int s20.2.1), (9, .int s22.2.1)] []) (YE := fun e45 => Y p l e (Rm 2 43) s m args below meth c 11 D cA ρ (Aw ρ) 0 0 (MQ below (QC D cA ρ (Aw ρ) (some (.int r.1)) r.2 τ) args s 0 0 (Aw ρ)) e45.2 τ 231 [(0, .ref (ρ k0)), (1, .int i1), (4, .int i4), (7, .int e45.1), (8, .int s20.2.1)] []) ?_ he45 ?_
              · intro s22 x h hLp hE
                unfold f_X9_fill_L139 at h
                have hJ212 : ∀ (j31 : Int32) (j32 : Int32) (j33 : Int32) (j34 : Int32) (j35 : Int32) (sj36 : Sg), f_X9_fill_J212 k0 j31 j32 j33 j34 j35 sj36 = some x → Y p l e (Rm 2 43) s m args below meth c 11 D cA ρ (Aw ρ) 0 0 (MQ below (QC D cA ρ (Aw ρ) (some (.int r.1)) r.2 τ) args s 0 0 (Aw ρ)) sj36 τ 212 [(0, .ref (ρ k0)), (1, .int i1), (4, .int i4), (7, .int j31), (8, .int s20.2.1), (9, .int j32), (10, .int j33)] [.int j34, .int j35, .ref (ρ (k0 + 1))] := by
                  intro j31 j32 j33 j34 j35 sj36 h
                  unfold f_X9_fill_J212 at h
                  obtain ⟨s37, hs37, h⟩ := Option.bind_eq_some_iff.mp h
                  refine Y_iast C (pc := 212) hW (q_kr_9_0 hk0) (q_lr_9_0 hk0) hs37 dX9_fill_212 ?_
                  refine Y_iload C (pc := 213) 3 rfl dX9_fill_213 ?_
                  refine Y_aload_n C (pc := 215) 0 0 rfl rfl dX9_fill_215 ?_
                  refine Y_getR C (pc := 216) hk0 q_fi_RX9_7 (by decide) dX9_fill_216 ?_
                  refine Y_iload C (pc := 219) 6 rfl dX9_fill_219 ?_
                  obtain ⟨v38, hv38, h⟩ := Option.bind_eq_some_iff.mp h
                  refine Y_iald C (pc := 221) (q_kr_9_0 hk0) hv38 dX9_fill_221 ?_
                  refine Y_iadd C (pc := 222) dX9_fill_222 ?_
                  refine Y_istore C (pc := 223) (lv' := [(7, .int (j31 + v38)), (0, .ref (ρ k0)), (1, .int i1), (4, .int i4), (8, .int s20.2.1), (9, .int j32), (10, .int j33)]) (by decide) rfl dX9_fill_223 ?_
                  refine Y_iinc C (pc := 225) (v := (j32 + 1)) (lv' := [(9, .int (j32 + 1)), (7, .int (j31 + v38)), (0, .ref (ρ k0)), (1, .int i1), (4, .int i4), (8, .int s20.2.1), (10, .int j33)]) 5 rfl (congrArg (fun z => j32 + z) (by decide : Int32.ofInt (1) = (1))) (by decide) rfl dX9_fill_225 ?_
                  refine Y_goto C (pc := 228) (tgt := 139) dX9_fill_228 (by decide) ?_
                  have h := Option.some.inj h
                  exact Y_sub [2, 3, 4, 1, 5, 0] rfl (hLp _ h.symm)
                have hJ178 : ∀ (j25 : Int32) (j26 : Int32) (j27 : Int32) (j28 : Int32) (sj29 : Sg), f_X9_fill_J178 k0 j25 j26 j27 j28 sj29 = some x → Y p l e (Rm 2 43) s m args below meth c 11 D cA ρ (Aw ρ) 0 0 (MQ below (QC D cA ρ (Aw ρ) (some (.int r.1)) r.2 τ) args s 0 0 (Aw ρ)) sj29 τ 178 [(0, .ref (ρ k0)), (1, .int i1), (4, .int i4), (7, .int j25), (8, .int s20.2.1), (9, .int j26), (10, .int j27)] [.int j28, .ref (ρ (k0 + 1))] := by
                  intro j25 j26 j27 j28 sj29 h
                  unfold f_X9_fill_J178 at h
                  refine Y_aload_n C (pc := 178) 0 0 rfl rfl dX9_fill_178 ?_
                  refine Y_getR C (pc := 179) hk0 q_fi_RX9_7 (by decide) dX9_fill_179 ?_
                  refine Y_iload C (pc := 182) 6 rfl dX9_fill_182 ?_
                  obtain ⟨v30, hv30, h⟩ := Option.bind_eq_some_iff.mp h
                  refine Y_iald C (pc := 184) (q_kr_9_0 hk0) hv30 dX9_fill_184 ?_
                  refine Y_goto C (pc := 185) (tgt := 212) dX9_fill_185 (by decide) ?_
                  exact Y_sub [0, 1, 2, 3, 4, 5, 6] rfl (hJ212 _ _ _ _ _ _ h)
                refine Y_iload C (pc := 139) 5 rfl dX9_fill_139 ?_
                refine Y_aload_n C (pc := 141) 0 0 rfl rfl dX9_fill_141 ?_
                refine Y_getR C (pc := 142) hk0 q_fi_RX9_7 (by decide) dX9_fill_142 ?_
                refine Y_iconst C (pc := 145) (v := (0 : Int32)) (by decide) dX9_fill_145 ?_
                obtain ⟨v23, hv23, h⟩ := Option.bind_eq_some_iff.mp h
                refine Y_iald C (pc := 146) (q_kr_9_0 hk0) hv23 dX9_fill_146 ?_
                refine Y_icmp_ge C (pc := 147) (tgt := 231) dX9_fill_147 (by decide) (fun c44 => ?_) (fun c44 => ?_)
                · rw [if_pos c44] at h
                  have h := Option.some.inj h
                  exact Y_sub [0, 1, 2, 3, 4] rfl (hE _ h.symm)
                · rw [if_neg c44] at h
                  refine Y_iload_n C (pc := 150) 1 1 rfl rfl dX9_fill_150 ?_
                  refine Y_iload C (pc := 151) 4 rfl dX9_fill_151 ?_
                  refine Y_iload C (pc := 153) 5 rfl dX9_fill_153 ?_
                  obtain ⟨v24, hv24, h⟩ := Option.bind_eq_some_iff.mp h
                  refine Y_callS C [.int i1, .int s20.2.1, .int s22.2.1] [] [.int v24] (c_X9_placeOf  hv24) (fun _ h => h.elim) q_cw_yX9_placeOf q_ml_RX9_90 q_st_yX9_placeOf ⟨⟨Nat.le_of_ble_eq_true rfl, Nat.le_of_ble_eq_true rfl⟩, ⟨Nat.zero_le _, Nat.zero_le _⟩, Nat.le_of_ble_eq_true rfl⟩ rfl rfl rfl dX9_fill_155 ?_
                  refine Y_istore C (pc := 158) (lv' := [(10, .int v24), (0, .ref (ρ k0)), (1, .int i1), (4, .int i4), (7, .int s22.1), (8, .int s20.2.1), (9, .int s22.2.1)]) (by decide) rfl dX9_fill_158 ?_
                  refine Y_aload_n C (pc := 160) 0 1 rfl rfl dX9_fill_160 ?_
                  refine Y_getR C (pc := 161) hk0 q_fi_RX9_7 (by decide) dX9_fill_161 ?_
                  refine Y_iload C (pc := 164) 0 rfl dX9_fill_164 ?_
                  refine Y_iload C (pc := 166) 3 rfl dX9_fill_166 ?_
                  refine Y_if_eq C (pc := 168) (tgt := 178) dX9_fill_168 (by decide) (fun c43 => ?_) (fun c43 => ?_)
                  · rw [if_pos c43] at h
                    exact Y_sub [1, 2, 3, 4, 5, 6, 0] rfl (hJ178 _ _ _ _ _ h)
                  · rw [if_neg c43] at h
                    refine Y_iload C (pc := 171) 6 rfl dX9_fill_171 ?_
                    refine Y_iload C (pc := 173) 5 rfl dX9_fill_173 ?_
                    refine Y_icmp_le C (pc := 175) (tgt := 188) dX9_fill_175 (by decide) (fun c42 => ?_) (fun c42 => ?_)
                    · rw [if_pos c42] at h
                      refine Y_iload C (pc := 188) 5 rfl dX9_fill_188 ?_
                      refine Y_iload C (pc := 190) 6 rfl dX9_fill_190 ?_
                      refine Y_icmp_ne C (pc := 192) (tgt := 199) dX9_fill_192 (by decide) (fun c41 => ?_) (fun c41 => ?_)
                      · rw [if_neg c41] at h
                        refine Y_aload_n C (pc := 199) 0 1 rfl rfl dX9_fill_199 ?_
                        refine Y_getR C (pc := 200) hk0 q_fi_RX9_7 (by decide) dX9_fill_200 ?_
                        refine Y_iload_n C (pc := 203) 1 2 rfl rfl dX9_fill_203 ?_
                        refine Y_iload C (pc := 204) 6 rfl dX9_fill_204 ?_
                        refine Y_iload C (pc := 206) 5 rfl dX9_fill_206 ?_
                        obtain ⟨v39, hv39, h⟩ := Option.bind_eq_some_iff.mp h
                        refine Y_callS C [.int i1, .int s22.2.1, .int s20.2.1] [.ref (ρ (k0 + 1)), .int v24, .ref (ρ (k0 + 1))] [.int v39, .ref (ρ (k0 + 1)), .int v24, .ref (ρ (k0 + 1))] (c_X9_placeOf  hv39) (fun _ h => h.elim) q_cw_yX9_placeOf q_ml_RX9_90 q_st_yX9_placeOf ⟨⟨Nat.le_of_ble_eq_true rfl, Nat.le_of_ble_eq_true rfl⟩, ⟨Nat.zero_le _, Nat.zero_le _⟩, Nat.le_of_ble_eq_true rfl⟩ rfl rfl rfl dX9_fill_208 ?_
                        obtain ⟨v40, hv40, h⟩ := Option.bind_eq_some_iff.mp h
                        refine Y_iald C (pc := 211) (q_kr_9_0 hk0) hv40 dX9_fill_211 ?_
                        exact Y_sub [1, 2, 3, 4, 5, 6, 0] rfl (hJ212 _ _ _ _ _ _ h)
                      · rw [if_pos c41] at h
                        refine Y_iconst C (pc := 195) (v := (0 : Int32)) (by decide) dX9_fill_195 ?_
                        refine Y_goto C (pc := 196) (tgt := 212) dX9_fill_196 (by decide) ?_
                        exact Y_sub [1, 2, 3, 4, 5, 6, 0] rfl (hJ212 _ _ _ _ _ _ h)
                    · rw [if_neg c42] at h
                      exact Y_sub [1, 2, 3, 4, 5, 6, 0] rfl (hJ178 _ _ _ _ _ h)
              · refine Y_iinc C (pc := 231) (v := (s20.2.1 + 1)) (lv' := [(8, .int (s20.2.1 + 1)), (0, .ref (ρ k0)), (1, .int i1), (4, .int i4), (7, .int e45.1)]) 4 rfl (congrArg (fun z => s20.2.1 + z) (by decide : Int32.ofInt (1) = (1))) (by decide) rfl dX9_fill_231 ?_
                refine Y_goto C (pc := 234) (tgt := 125) dX9_fill_234 (by decide) ?_
                have h := Option.some.inj h
                exact Y_sub [1, 2, 3, 4, 0] rfl (hLp _ h.symm)
          · refine Y_aload_n C (pc := 237) 0 0 rfl rfl dX9_fill_237 ?_
            refine Y_iload C (pc := 238) 1 rfl dX9_fill_238 ?_
            obtain ⟨v48, hv48, h⟩ := Option.bind_eq_some_iff.mp h
            refine Y_callV C [.int e47.1] [] [.int v48.1] hk0 rfl rfl (c_X9_ends hI hk0 hv48) (fun _ h => h) q_cw_yX9_ends q_ml_RX9_100 ⟨q_im_yX9_ends, q_se_yX9_ends⟩ ⟨⟨Nat.le_of_ble_eq_true rfl, Nat.le_of_ble_eq_true rfl⟩, ⟨Nat.zero_le _, Nat.zero_le _⟩, Nat.le_of_ble_eq_true rfl⟩ rfl rfl rfl dX9_fill_240 ?_
            cases h
            exact Y_iret C dX9_fill_243
      · rw [if_pos c49] at h
        exact Y_sub [0] rfl (hJ23 _ h)

