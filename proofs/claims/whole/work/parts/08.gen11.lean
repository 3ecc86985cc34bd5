set_option maxRecDepth 100000 in
set_option maxHeartbeats 4000000 in
theorem c_X9_regretOf {l : Launch} {D : va_G} {cA ρ : Nat → Nat} {σ : Sg} {τ : Tg} {k0 : Nat} {i1 : Int32} (hI : Inj ρ) (hk0 : kd k0 = (0, 9)) {r : Int32 × Sg} (h : f_X9_regretOf σ k0 i1 = some r) : Ct l yX9_regretOf cX9_regretOf 7 (some .int) 4 94 D cA ρ (Aw ρ) [.ref (ρ k0), .int i1] σ τ (some (.int r.1)) r.2 τ := by
  refine Ct_of (by decide +kernel) (Nat.le_of_ble_eq_true rfl) (fun p e s m args below meth c C => ?_)
  have C : Ctx p l s m args meth c cX9_regretOf RX9 7 (some .int) D cA ρ (Aw ρ) := C
  have hW : Wr ρ (Aw ρ) := ⟨hI, fun k hk => ⟨k, hk, rfl⟩⟩
  unfold f_X9_regretOf at h
  refine Y_sub [0, 1] (lv' := [(0, .ref (ρ k0)), (1, .int i1)]) rfl ?_
  refine Y_ldc C q_ct_RX9_167 dX9_regretOf_0 ?_
  refine Y_istore_n C (pc := 2) (lv' := [(2, .int (1000000 : Int32)), (0, .ref (ρ k0)), (1, .int i1)]) 2 rfl (by decide) rfl dX9_regretOf_2 ?_
  refine Y_ldc C q_ct_RX9_167 dX9_regretOf_3 ?_
  refine Y_istore_n C (pc := 5) (lv' := [(3, .int (1000000 : Int32)), (2, .int (1000000 : Int32)), (0, .ref (ρ k0)), (1, .int i1)]) 3 rfl (by decide) rfl dX9_regretOf_5 ?_
  refine Y_iconst C (pc := 6) (v := (0 : Int32)) (by decide) dX9_regretOf_6 ?_
  refine Y_istore C (pc := 7) (lv' := [(4, .int (0 : Int32)), (3, .int (1000000 : Int32)), (2, .int (1000000 : Int32)), (0, .ref (ρ k0)), (1, .int i1)]) (by decide) rfl dX9_regretOf_7 ?_
  refine Y_iconst C (pc := 9) (v := (0 : Int32)) (by decide) dX9_regretOf_9 ?_
  refine Y_istore C (pc := 10) (lv' := [(5, .int (0 : Int32)), (4, .int (0 : Int32)), (3, .int (1000000 : Int32)), (2, .int (1000000 : Int32)), (0, .ref (ρ k0)), (1, .int i1)]) (by decide) rfl dX9_regretOf_10 ?_
  obtain ⟨e26, he26, h⟩ := Option.bind_eq_some_iff.mp h
  refine Y_sub [4, 5, 3, 2, 1, 0] (lv' := [(0, .ref (ρ k0)), (1, .int i1), (2, .int (1000000 : Int32)), (3, .int (1000000 : Int32)), (4, .int (0 : Int32)), (5, .int (0 : Int32))]) rfl ?_
  refine lo_rule (f := (f_X9_regretOf_L12 k0 i1)) (YS := fun s1 => Y p l e (Rm 4 94) s m args below meth c 7 D cA ρ (Aw ρ) 0 0 (MQ below (QC D cA ρ (Aw ρ) (some (.int r.1)) r.2 τ) args s 0 0 (Aw ρ)) s1.2.2.2.2 τ 12 [(0, .ref (ρ k0)), (1, .int i1), (2, .int s1.1), (3, .int s1.2.1), (4, .int s1.2.2.1), (5, .int s1.2.2.2.1)] []) (YE := fun e26 => Y p l e (Rm 4 94) s m args below meth c 7 D cA ρ (Aw ρ) 0 0 (MQ below (QC D cA ρ (Aw ρ) (some (.int r.1)) r.2 τ) args s 0 0 (Aw ρ)) e26.2.2.2 τ 86 [(2, .int e26.1), (3, .int e26.2.1), (4, .int e26.2.2.1)] []) ?_ he26 ?_
  · intro s1 x h hLp hE
    unfold f_X9_regretOf_L12 at h
    have hJ80 : ∀ (j4 : Int32) (j5 : Int32) (j6 : Int32) (j7 : Int32) (sj8 : Sg), f_X9_regretOf_J80 j4 j5 j6 j7 sj8 = some x → Y p l e (Rm 4 94) s m args below meth c 7 D cA ρ (Aw ρ) 0 0 (MQ below (QC D cA ρ (Aw ρ) (some (.int r.1)) r.2 τ) args s 0 0 (Aw ρ)) sj8 τ 80 [(0, .ref (ρ k0)), (1, .int i1), (2, .int j4), (3, .int j5), (4, .int j6), (5, .int j7)] [] := by
      intro j4 j5 j6 j7 sj8 h
      unfold f_X9_regretOf_J80 at h
      refine Y_iinc C (pc := 80) (v := (j7 + 1)) (lv' := [(5, .int (j7 + 1)), (0, .ref (ρ k0)), (1, .int i1), (2, .int j4), (3, .int j5), (4, .int j6)]) 5 rfl (congrArg (fun z => j7 + z) (by decide : Int32.ofInt (1) = (1))) (by decide) rfl dX9_regretOf_80 ?_
      refine Y_goto C (pc := 83) (tgt := 12) dX9_regretOf_83 (by decide) ?_
      have h := Option.some.inj h
      exact Y_sub [1, 2, 3, 4, 5, 0] rfl (hLp _ h.symm)
    have hJ76 : ∀ (j16 : Int32) (j17 : Int32) (j18 : Int32) (j19 : Int32) (sj20 : Sg), f_X9_regretOf_J76 j16 j17 j18 j19 sj20 = some x → Y p l e (Rm 4 94) s m args below meth c 7 D cA ρ (Aw ρ) 0 0 (MQ below (QC D cA ρ (Aw ρ) (some (.int r.1)) r.2 τ) args s 0 0 (Aw ρ)) sj20 τ 76 [(0, .ref (ρ k0)), (1, .int i1), (3, .int j16), (4, .int j17), (5, .int j18)] [.int j19] := by
      intro j16 j17 j18 j19 sj20 h
      unfold f_X9_regretOf_J76 at h
      refine Y_istore_n C (pc := 76) (lv' := [(2, .int j19), (0, .ref (ρ k0)), (1, .int i1), (3, .int j16), (4, .int j17), (5, .int j18)]) 2 rfl (by decide) rfl dX9_regretOf_76 ?_
      refine Y_iinc C (pc := 77) (v := (j17 + 1)) (lv' := [(4, .int (j17 + 1)), (2, .int j19), (0, .ref (ρ k0)), (1, .int i1), (3, .int j16), (5, .int j18)]) 4 rfl (congrArg (fun z => j17 + z) (by decide : Int32.ofInt (1) = (1))) (by decide) rfl dX9_regretOf_77 ?_
      exact Y_sub [2, 3, 1, 4, 0, 5] rfl (hJ80 _ _ _ _ _ h)
    have hJ63 : ∀ (j10 : Int32) (j11 : Int32) (j12 : Int32) (j13 : Int32) (j14 : Int32) (sj15 : Sg), f_X9_regretOf_J63 j10 j11 j12 j13 j14 sj15 = some x → Y p l e (Rm 4 94) s m args below meth c 7 D cA ρ (Aw ρ) 0 0 (MQ below (QC D cA ρ (Aw ρ) (some (.int r.1)) r.2 τ) args s 0 0 (Aw ρ)) sj15 τ 63 [(0, .ref (ρ k0)), (1, .int i1), (2, .int j10), (4, .int j11), (5, .int j12), (6, .int j13)] [.int j14] := by
      intro j10 j11 j12 j13 j14 sj15 h
      unfold f_X9_regretOf_J63 at h
      refine Y_istore_n C (pc := 63) (lv' := [(3, .int j14), (0, .ref (ρ k0)), (1, .int i1), (2, .int j10), (4, .int j11), (5, .int j12), (6, .int j13)]) 3 rfl (by decide) rfl dX9_regretOf_63 ?_
      refine Y_iload C (pc := 64) 6 rfl dX9_regretOf_64 ?_
      refine Y_iload_n C (pc := 66) 2 3 rfl rfl dX9_regretOf_66 ?_
      refine Y_icmp_ge C (pc := 67) (tgt := 75) dX9_regretOf_67 (by decide) (fun c21 => ?_) (fun c21 => ?_)
      · rw [if_pos c21] at h
        refine Y_iload_n C (pc := 75) 2 3 rfl rfl dX9_regretOf_75 ?_
        exact Y_sub [1, 2, 0, 4, 5] rfl (hJ76 _ _ _ _ _ h)
      · rw [if_neg c21] at h
        refine Y_iload C (pc := 70) 6 rfl dX9_regretOf_70 ?_
        refine Y_goto C (pc := 72) (tgt := 76) dX9_regretOf_72 (by decide) ?_
        exact Y_sub [1, 2, 0, 4, 5] rfl (hJ76 _ _ _ _ _ h)
    refine Y_iload C (pc := 12) 5 rfl dX9_regretOf_12 ?_
    refine Y_aload_n C (pc := 14) 0 0 rfl rfl dX9_regretOf_14 ?_
    refine Y_getR C (pc := 15) hk0 q_fi_RX9_7 (by decide) dX9_regretOf_15 ?_
    refine Y_iconst C (pc := 18) (v := (0 : Int32)) (by decide) dX9_regretOf_18 ?_
    obtain ⟨v2, hv2, h⟩ := Option.bind_eq_some_iff.mp h
    refine Y_iald C (pc := 19) (q_kr_9_0 hk0) hv2 dX9_regretOf_19 ?_
    refine Y_icmp_ge C (pc := 20) (tgt := 86) dX9_regretOf_20 (by decide) (fun c25 => ?_) (fun c25 => ?_)
    · rw [if_pos c25] at h
      have h := Option.some.inj h
      exact Y_sub [2, 3, 4] rfl (hE _ h.symm)
    · rw [if_neg c25] at h
      refine Y_aload_n C (pc := 23) 0 0 rfl rfl dX9_regretOf_23 ?_
      refine Y_iload C (pc := 24) 5 rfl dX9_regretOf_24 ?_
      obtain ⟨v3, hv3, h⟩ := Option.bind_eq_some_iff.mp h
      refine Y_callV C [.int s1.2.2.2.1] [] [.int v3] hk0 rfl rfl (c_X9_isTaken hk0 hv3) (fun _ h => h.elim) q_cw_yX9_isTaken q_ml_RX9_180 ⟨q_im_yX9_isTaken, q_se_yX9_isTaken⟩ ⟨⟨Nat.le_of_ble_eq_true rfl, Nat.le_of_ble_eq_true rfl⟩, ⟨Nat.zero_le _, Nat.zero_le _⟩, Nat.le_of_ble_eq_true rfl⟩ rfl rfl rfl dX9_regretOf_26 ?_
      refine Y_if_ne C (pc := 29) (tgt := 80) dX9_regretOf_29 (by decide) (fun c24 => ?_) (fun c24 => ?_)
      · rw [if_neg c24] at h
        exact Y_sub [0, 1, 2, 3, 4, 5] rfl (hJ80 _ _ _ _ _ h)
      · rw [if_pos c24] at h
        refine Y_aload_n C (pc := 32) 0 0 rfl rfl dX9_regretOf_32 ?_
        refine Y_iload_n C (pc := 33) 1 1 rfl rfl dX9_regretOf_33 ?_
        refine Y_iload C (pc := 34) 5 rfl dX9_regretOf_34 ?_
        obtain ⟨v9, hv9, h⟩ := Option.bind_eq_some_iff.mp h
        refine Y_callV C [.int i1, .int s1.2.2.2.1] [] [.int v9.1] hk0 rfl rfl (c_X9_entryOf hI hk0 hv9) (fun _ h => h) q_cw_yX9_entryOf q_ml_RX9_200 ⟨q_im_yX9_entryOf, q_se_yX9_entryOf⟩ ⟨⟨Nat.le_of_ble_eq_true rfl, Nat.le_of_ble_eq_true rfl⟩, ⟨Nat.zero_le _, Nat.zero_le _⟩, Nat.le_of_ble_eq_true rfl⟩ rfl rfl rfl dX9_regretOf_36 ?_
        refine Y_istore C (pc := 39) (lv' := [(6, .int v9.1), (0, .ref (ρ k0)), (1, .int i1), (2, .int s1.1), (3, .int s1.2.1), (4, .int s1.2.2.1), (5, .int s1.2.2.2.1)]) (by decide) rfl dX9_regretOf_39 ?_
        refine Y_iload C (pc := 41) 0 rfl dX9_regretOf_41 ?_
        refine Y_iload_n C (pc := 43) 2 3 rfl rfl dX9_regretOf_43 ?_
        refine Y_icmp_ge C (pc := 44) (tgt := 51) dX9_regretOf_44 (by decide) (fun c23 => ?_) (fun c23 => ?_)
        · rw [if_pos c23] at h
          refine Y_iload C (pc := 51) 0 rfl dX9_regretOf_51 ?_
          refine Y_iload_n C (pc := 53) 3 4 rfl rfl dX9_regretOf_53 ?_
          refine Y_icmp_ge C (pc := 54) (tgt := 62) dX9_regretOf_54 (by decide) (fun c22 => ?_) (fun c22 => ?_)
          · rw [if_pos c22] at h
            refine Y_iload_n C (pc := 62) 3 4 rfl rfl dX9_regretOf_62 ?_
            exact Y_sub [1, 2, 3, 5, 6, 0] rfl (hJ63 _ _ _ _ _ _ h)
          · rw [if_neg c22] at h
            refine Y_iload C (pc := 57) 0 rfl dX9_regretOf_57 ?_
            refine Y_goto C (pc := 59) (tgt := 63) dX9_regretOf_59 (by decide) ?_
            exact Y_sub [1, 2, 3, 5, 6, 0] rfl (hJ63 _ _ _ _ _ _ h)
        · rw [if_neg c23] at h
          refine Y_iload_n C (pc := 47) 2 3 rfl rfl dX9_regretOf_47 ?_
          refine Y_goto C (pc := 48) (tgt := 63) dX9_regretOf_48 (by decide) ?_
          exact Y_sub [1, 2, 3, 5, 6, 0] rfl (hJ63 _ _ _ _ _ _ h)
  · refine Y_iload C (pc := 86) 2 rfl dX9_regretOf_86 ?_
    refine Y_iconst C (pc := 88) (v := (1 : Int32)) (by decide) dX9_regretOf_88 ?_
    refine Y_icmp_ne C (pc := 89) (tgt := 97) dX9_regretOf_89 (by decide) (fun c27 => ?_) (fun c27 => ?_)
    · rw [if_neg c27] at h
      refine Y_iload_n C (pc := 97) 3 1 rfl rfl dX9_regretOf_97 ?_
      refine Y_iload_n C (pc := 98) 2 0 rfl rfl dX9_regretOf_98 ?_
      refine Y_isub C (pc := 99) dX9_regretOf_99 ?_
      cases h
      exact Y_iret C dX9_regretOf_100
    · rw [if_pos c27] at h
      refine Y_ldc C q_ct_RX9_167 dX9_regretOf_92 ?_
      refine Y_goto C (pc := 94) (tgt := 100) dX9_regretOf_94 (by decide) ?_
      cases h
      exact Y_iret C dX9_regretOf_100

set_option maxRecDepth 100000 in
set_option maxHeartbeats 4000000 in
theorem c_X9_regret {l : Launch} {D : va_G} {cA ρ : Nat → Nat} {σ : Sg} {τ : Tg} {k0 : Nat} {i1 : Int32} (hI : Inj ρ) (hk0 : kd k0 = (0, 9)) {r : Int32 × Sg} (h : f_X9_regret σ k0 i1 = some r) : Ct l yX9_regret cX9_regret 2 (some .int) 5 120 D cA ρ (Aw ρ) [.ref (ρ k0), .int i1] σ τ (some (.int r.1)) r.2 τ := by
  refine Ct_of (by decide +kernel) (Nat.le_of_ble_eq_true rfl) (fun p e s m args below meth c C => ?_)
  have C : Ctx p l s m args meth c cX9_regret RX9 2 (some .int) D cA ρ (Aw ρ) := C
  have hW : Wr ρ (Aw ρ) := ⟨hI, fun k hk => ⟨k, hk, rfl⟩⟩
  unfold f_X9_regret at h
  refine Y_sub [0, 1] (lv' := [(0, .ref (ρ k0)), (1, .int i1)]) rfl ?_
  refine Y_aload_n C (pc := 0) 0 0 rfl rfl dX9_regret_0 ?_
  refine Y_iload_n C (pc := 1) 1 1 rfl rfl dX9_regret_1 ?_
  obtain ⟨v1, hv1, h⟩ := Option.bind_eq_some_iff.mp h
  refine Y_callV C [.int i1] [] [.int v1] hk0 rfl rfl (c_X9_isOne hk0 hv1) (fun _ h => h.elim) q_cw_yX9_isOne q_ml_RX9_103 ⟨q_im_yX9_isOne, q_se_yX9_isOne⟩ ⟨⟨Nat.le_of_ble_eq_true rfl, Nat.le_of_ble_eq_true rfl⟩, ⟨Nat.zero_le _, Nat.zero_le _⟩, Nat.le_of_ble_eq_true rfl⟩ rfl rfl rfl dX9_regret_2 ?_
  refine Y_if_ne C (pc := 5) (tgt := 14) dX9_regret_5 (by decide) (fun c9 => ?_) (fun c9 => ?_)
  · rw [if_neg c9] at h
    refine Y_aload_n C (pc := 14) 0 0 rfl rfl dX9_regret_14 ?_
    obtain ⟨v2, hv2, h⟩ := Option.bind_eq_some_iff.mp h
    refine Y_callV C [] [] [] hk0 rfl rfl (c_X9_looks hI hk0 hv2) (fun _ h => h) q_cw_yX9_looks q_ml_RX9_177 ⟨q_im_yX9_looks, q_se_yX9_looks⟩ ⟨⟨Nat.le_of_ble_eq_true rfl, Nat.le_of_ble_eq_true rfl⟩, ⟨Nat.zero_le _, Nat.zero_le _⟩, Nat.le_of_ble_eq_true rfl⟩ rfl rfl rfl dX9_regret_15 ?_
    refine Y_aload_n C (pc := 18) 0 0 rfl rfl dX9_regret_18 ?_
    refine Y_getR C (pc := 19) hk0 q_fi_RX9_25 (by decide) dX9_regret_19 ?_
    refine Y_iload_n C (pc := 22) 1 1 rfl rfl dX9_regret_22 ?_
    obtain ⟨v3, hv3, h⟩ := Option.bind_eq_some_iff.mp h
    refine Y_iald C (pc := 23) (q_kr_9_8 hk0) hv3 dX9_regret_23 ?_
    refine Y_iconst C (pc := 24) (v := (-1 : Int32)) (by decide) dX9_regret_24 ?_
    refine Y_icmp_ne C (pc := 25) (tgt := 40) dX9_regret_25 (by decide) (fun c7 => ?_) (fun c7 => ?_)
    · rw [if_neg c7] at h
      refine Y_aload_n C (pc := 40) 0 0 rfl rfl dX9_regret_40 ?_
      refine Y_iconst C (pc := 41) (v := (2 : Int32)) (by decide) dX9_regret_41 ?_
      obtain ⟨v4, hv4, h⟩ := Option.bind_eq_some_iff.mp h
      refine Y_callV C [.int (2 : Int32)] [] [.int v4.1] hk0 rfl rfl (c_X9_fails hI hk0 hv4) (fun _ h => h) q_cw_yX9_fails q_ml_RX9_94 ⟨q_im_yX9_fails, q_se_yX9_fails⟩ ⟨⟨Nat.le_of_ble_eq_true rfl, Nat.le_of_ble_eq_true rfl⟩, ⟨Nat.zero_le _, Nat.zero_le _⟩, Nat.le_of_ble_eq_true rfl⟩ rfl rfl rfl dX9_regret_42 ?_
      cases h
      exact Y_iret C dX9_regret_45
    · rw [if_pos c7] at h
      refine Y_aload_n C (pc := 28) 0 0 rfl rfl dX9_regret_28 ?_
      refine Y_aload_n C (pc := 29) 0 0 rfl rfl dX9_regret_29 ?_
      refine Y_iload_n C (pc := 30) 1 1 rfl rfl dX9_regret_30 ?_
      obtain ⟨v5, hv5, h⟩ := Option.bind_eq_some_iff.mp h
      refine Y_callV C [.int i1] [.ref (ρ k0)] [.int v5.1, .ref (ρ k0)] hk0 rfl rfl (c_X9_regretOf hI hk0 hv5) (fun _ h => h) q_cw_yX9_regretOf q_ml_RX9_209 ⟨q_im_yX9_regretOf, q_se_yX9_regretOf⟩ ⟨⟨Nat.le_of_ble_eq_true rfl, Nat.le_of_ble_eq_true rfl⟩, ⟨Nat.zero_le _, Nat.zero_le _⟩, Nat.le_of_ble_eq_true rfl⟩ rfl rfl rfl dX9_regret_31 ?_
      obtain ⟨v6, hv6, h⟩ := Option.bind_eq_some_iff.mp h
      refine Y_callV C [.int v5.1] [] [.int v6.1] hk0 rfl rfl (c_X9_tells hI hk0 hv6) (fun _ h => h) q_cw_yX9_tells q_ml_RX9_82 ⟨q_im_yX9_tells, q_se_yX9_tells⟩ ⟨⟨Nat.le_of_ble_eq_true rfl, Nat.le_of_ble_eq_true rfl⟩, ⟨Nat.zero_le _, Nat.zero_le _⟩, Nat.le_of_ble_eq_true rfl⟩ rfl rfl rfl dX9_regret_34 ?_
      refine Y_goto C (pc := 37) (tgt := 45) dX9_regret_37 (by decide) ?_
      cases h
      exact Y_iret C dX9_regret_45
  · rw [if_pos c9] at h
    refine Y_aload_n C (pc := 8) 0 0 rfl rfl dX9_regret_8 ?_
    refine Y_iconst C (pc := 9) (v := (1 : Int32)) (by decide) dX9_regret_9 ?_
    obtain ⟨v8, hv8, h⟩ := Option.bind_eq_some_iff.mp h
    refine Y_callV C [.int (1 : Int32)] [] [.int v8.1] hk0 rfl rfl (c_X9_fails hI hk0 hv8) (fun _ h => h) q_cw_yX9_fails q_ml_RX9_94 ⟨q_im_yX9_fails, q_se_yX9_fails⟩ ⟨⟨Nat.le_of_ble_eq_true rfl, Nat.le_of_ble_eq_true rfl⟩, ⟨Nat.zero_le _, Nat.zero_le _⟩, Nat.le_of_ble_eq_true rfl⟩ rfl rfl rfl dX9_regret_10 ?_
    cases h
    exact Y_iret C dX9_regret_13

set_option maxRecDepth 100000 in
set_option maxHeartbeats 4000000 in
theorem c_X9_branch {l : Launch} {D : va_G} {cA ρ : Nat → Nat} {σ : Sg} {τ : Tg} {k0 : Nat} (hI : Inj ρ) (hk0 : kd k0 = (0, 9)) {r : Int32 × Sg} (h : f_X9_branch σ k0 = some r) : Ct l yX9_branch cX9_branch 5 (some .int) 5 120 D cA ρ (Aw ρ) [.ref (ρ k0)] σ τ (some (.int r.1)) r.2 τ := by
  refine Ct_of (by decide +kernel) (Nat.le_of_ble_eq_true rfl) (fun p e s m args below meth c C => ?_)
  have C : Ctx p l s m args meth c cX9_branch RX9 5 (some .int) D cA ρ (Aw ρ) := C
  have hW : Wr ρ (Aw ρ) := ⟨hI, fun k hk => ⟨k, hk, rfl⟩⟩
  unfold f_X9_branch at h
  refine Y_sub [0] (lv' := [(0, .ref (ρ k0))]) rfl ?_
  refine Y_iconst C (pc := 0) (v := (-1 : Int32)) (by decide) dX9_branch_0 ?_
  refine Y_istore_n C (pc := 1) (lv' := [(1, .int (-1 : Int32)), (0, .ref (ρ k0))]) 1 rfl (by decide) rfl dX9_branch_1 ?_
  refine Y_iconst C (pc := 2) (v := (0 : Int32)) (by decide) dX9_branch_2 ?_
  refine Y_istore_n C (pc := 3) (lv' := [(2, .int (0 : Int32)), (1, .int (-1 : Int32)), (0, .ref (ρ k0))]) 2 rfl (by decide) rfl dX9_branch_3 ?_
  refine Y_iconst C (pc := 4) (v := (0 : Int32)) (by decide) dX9_branch_4 ?_
  refine Y_istore_n C (pc := 5) (lv' := [(3, .int (0 : Int32)), (2, .int (0 : Int32)), (1, .int (-1 : Int32)), (0, .ref (ρ k0))]) 3 rfl (by decide) rfl dX9_branch_5 ?_
  obtain ⟨e27, he27, h⟩ := Option.bind_eq_some_iff.mp h
  refine Y_sub [3, 2, 1, 0] (lv' := [(0, .ref (ρ k0)), (1, .int (-1 : Int32)), (2, .int (0 : Int32)), (3, .int (0 : Int32))]) rfl ?_
  refine lo_rule (f := (f_X9_branch_L6 k0)) (YS := fun s1 => Y p l e (Rm 5 120) s m args below meth c 5 D cA ρ (Aw ρ) 0 0 (MQ below (QC D cA ρ (Aw ρ) (some (.int r.1)) r.2 τ) args s 0 0 (Aw ρ)) s1.2.2.2 τ 6 [(0, .ref (ρ k0)), (1, .int s1.1), (2, .int s1.2.1), (3, .int s1.2.2.1)] []) (YE := fun e27 => Y p l e (Rm 5 120) s m args below meth c 5 D cA ρ (Aw ρ) 0 0 (MQ below (QC D cA ρ (Aw ρ) (some (.int r.1)) r.2 τ) args s 0 0 (Aw ρ)) e27.2 τ 68 [(1, .int e27.1)] []) ?_ he27 ?_
  · intro s1 x h hLp hE
    unfold f_X9_branch_L6 at h
    have hJ62 : ∀ (j4 : Int32) (j5 : Int32) (j6 : Int32) (sj7 : Sg), f_X9_branch_J62 j4 j5 j6 sj7 = some x → Y p l e (Rm 5 120) s m args below meth c 5 D cA ρ (Aw ρ) 0 0 (MQ below (QC D cA ρ (Aw ρ) (some (.int r.1)) r.2 τ) args s 0 0 (Aw ρ)) sj7 τ 62 [(0, .ref (ρ k0)), (1, .int j4), (2, .int j5), (3, .int j6)] [] := by
      intro j4 j5 j6 sj7 h
      unfold f_X9_branch_J62 at h
      refine Y_iinc C (pc := 62) (v := (j6 + 1)) (lv' := [(3, .int (j6 + 1)), (0, .ref (ρ k0)), (1, .int j4), (2, .int j5)]) 3 rfl (congrArg (fun z => j6 + z) (by decide : Int32.ofInt (1) = (1))) (by decide) rfl dX9_branch_62 ?_
      refine Y_goto C (pc := 65) (tgt := 6) dX9_branch_65 (by decide) ?_
      have h := Option.some.inj h
      exact Y_sub [1, 2, 3, 0] rfl (hLp _ h.symm)
    have hJ61 : ∀ (j18 : Int32) (j19 : Int32) (j20 : Int32) (sj21 : Sg), f_X9_branch_J61 j18 j19 j20 sj21 = some x → Y p l e (Rm 5 120) s m args below meth c 5 D cA ρ (Aw ρ) 0 0 (MQ below (QC D cA ρ (Aw ρ) (some (.int r.1)) r.2 τ) args s 0 0 (Aw ρ)) sj21 τ 61 [(0, .ref (ρ k0)), (1, .int j18), (3, .int j19)] [.int j20] := by
      intro j18 j19 j20 sj21 h
      unfold f_X9_branch_J61 at h
      refine Y_istore_n C (pc := 61) (lv' := [(2, .int j20), (0, .ref (ρ k0)), (1, .int j18), (3, .int j19)]) 2 rfl (by decide) rfl dX9_branch_61 ?_
      exact Y_sub [1, 2, 0, 3] rfl (hJ62 _ _ _ _ h)
    have hJ49 : ∀ (j13 : Int32) (j14 : Int32) (j15 : Int32) (j16 : Int32) (sj17 : Sg), f_X9_branch_J49 j13 j14 j15 j16 sj17 = some x → Y p l e (Rm 5 120) s m args below meth c 5 D cA ρ (Aw ρ) 0 0 (MQ below (QC D cA ρ (Aw ρ) (some (.int r.1)) r.2 τ) args s 0 0 (Aw ρ)) sj17 τ 49 [(0, .ref (ρ k0)), (2, .int j13), (3, .int j14), (4, .int j15)] [.int j16] := by
      intro j13 j14 j15 j16 sj17 h
      unfold f_X9_branch_J49 at h
      refine Y_istore_n C (pc := 49) (lv' := [(1, .int j16), (0, .ref (ρ k0)), (2, .int j13), (3, .int j14), (4, .int j15)]) 1 rfl (by decide) rfl dX9_branch_49 ?_
      refine Y_iload_n C (pc := 50) 1 0 rfl rfl dX9_branch_50 ?_
      refine Y_iload_n C (pc := 51) 3 3 rfl rfl dX9_branch_51 ?_
      refine Y_icmp_ne C (pc := 52) (tgt := 60) dX9_branch_52 (by decide) (fun c22 => ?_) (fun c22 => ?_)
      · rw [if_neg c22] at h
        refine Y_iload_n C (pc := 60) 2 2 rfl rfl dX9_branch_60 ?_
        exact Y_sub [1, 0, 3] rfl (hJ61 _ _ _ _ h)
      · rw [if_pos c22] at h
        refine Y_iload C (pc := 55) 4 rfl dX9_branch_55 ?_
        refine Y_goto C (pc := 57) (tgt := 61) dX9_branch_57 (by decide) ?_
        exact Y_sub [1, 0, 3] rfl (hJ61 _ _ _ _ h)
    have hJ44 : ∀ (j9 : Int32) (j10 : Int32) (j11 : Int32) (sj12 : Sg), f_X9_branch_J44 j9 j10 j11 sj12 = some x → Y p l e (Rm 5 120) s m args below meth c 5 D cA ρ (Aw ρ) 0 0 (MQ below (QC D cA ρ (Aw ρ) (some (.int r.1)) r.2 τ) args s 0 0 (Aw ρ)) sj12 τ 44 [(0, .ref (ρ k0)), (2, .int j9), (3, .int j10), (4, .int j11)] [] := by
      intro j9 j10 j11 sj12 h
      unfold f_X9_branch_J44 at h
      refine Y_iload_n C (pc := 44) 3 2 rfl rfl dX9_branch_44 ?_
      refine Y_goto C (pc := 45) (tgt := 49) dX9_branch_45 (by decide) ?_
      exact Y_sub [0, 1, 2, 3] rfl (hJ49 _ _ _ _ _ h)
    refine Y_iload_n C (pc := 6) 3 3 rfl rfl dX9_branch_6 ?_
    refine Y_aload_n C (pc := 7) 0 0 rfl rfl dX9_branch_7 ?_
    refine Y_getR C (pc := 8) hk0 q_fi_RX9_7 (by decide) dX9_branch_8 ?_
    refine Y_iconst C (pc := 11) (v := (0 : Int32)) (by decide) dX9_branch_11 ?_
    obtain ⟨v2, hv2, h⟩ := Option.bind_eq_some_iff.mp h
    refine Y_iald C (pc := 12) (q_kr_9_0 hk0) hv2 dX9_branch_12 ?_
    refine Y_icmp_ge C (pc := 13) (tgt := 68) dX9_branch_13 (by decide) (fun c26 => ?_) (fun c26 => ?_)
    · rw [if_pos c26] at h
      have h := Option.some.inj h
      exact Y_sub [1] rfl (hE _ h.symm)
    · rw [if_neg c26] at h
      refine Y_aload_n C (pc := 16) 0 0 rfl rfl dX9_branch_16 ?_
      refine Y_getR C (pc := 17) hk0 q_fi_RX9_25 (by decide) dX9_branch_17 ?_
      refine Y_iload_n C (pc := 20) 3 3 rfl rfl dX9_branch_20 ?_
      obtain ⟨v3, hv3, h⟩ := Option.bind_eq_some_iff.mp h
      refine Y_iald C (pc := 21) (q_kr_9_8 hk0) hv3 dX9_branch_21 ?_
      refine Y_iconst C (pc := 22) (v := (-1 : Int32)) (by decide) dX9_branch_22 ?_
      refine Y_icmp_ne C (pc := 23) (tgt := 62) dX9_branch_23 (by decide) (fun c25 => ?_) (fun c25 => ?_)
      · rw [if_neg c25] at h
        exact Y_sub [0, 1, 2, 3] rfl (hJ62 _ _ _ _ h)
      · rw [if_pos c25] at h
        refine Y_aload_n C (pc := 26) 0 0 rfl rfl dX9_branch_26 ?_
        refine Y_iload_n C (pc := 27) 3 3 rfl rfl dX9_branch_27 ?_
        obtain ⟨v8, hv8, h⟩ := Option.bind_eq_some_iff.mp h
        refine Y_callV C [.int s1.2.2.1] [] [.int v8.1] hk0 rfl rfl (c_X9_regretOf hI hk0 hv8) (fun _ h => h) q_cw_yX9_regretOf q_ml_RX9_209 ⟨q_im_yX9_regretOf, q_se_yX9_regretOf⟩ ⟨⟨Nat.le_of_ble_eq_true rfl, Nat.le_of_ble_eq_true rfl⟩, ⟨Nat.zero_le _, Nat.zero_le _⟩, Nat.le_of_ble_eq_true rfl⟩ rfl rfl rfl dX9_branch_28 ?_
        refine Y_istore C (pc := 31) (lv' := [(4, .int v8.1), (0, .ref (ρ k0)), (1, .int s1.1), (2, .int s1.2.1), (3, .int s1.2.2.1)]) (by decide) rfl dX9_branch_31 ?_
        refine Y_iload_n C (pc := 33) 1 2 rfl rfl dX9_branch_33 ?_
        refine Y_iconst C (pc := 34) (v := (-1 : Int32)) (by decide) dX9_branch_34 ?_
        refine Y_icmp_eq C (pc := 35) (tgt := 44) dX9_branch_35 (by decide) (fun c24 => ?_) (fun c24 => ?_)
        · rw [if_pos c24] at h
          exact Y_sub [1, 3, 4, 0] rfl (hJ44 _ _ _ _ h)
        · rw [if_neg c24] at h
          refine Y_iload C (pc := 38) 0 rfl dX9_branch_38 ?_
          refine Y_iload_n C (pc := 40) 2 3 rfl rfl dX9_branch_40 ?_
          refine Y_icmp_le C (pc := 41) (tgt := 48) dX9_branch_41 (by decide) (fun c23 => ?_) (fun c23 => ?_)
          · rw [if_pos c23] at h
            refine Y_iload_n C (pc := 48) 1 2 rfl rfl dX9_branch_48 ?_
            exact Y_sub [1, 3, 4, 0] rfl (hJ49 _ _ _ _ _ h)
          · rw [if_neg c23] at h
            exact Y_sub [1, 3, 4, 0] rfl (hJ44 _ _ _ _ h)
  · refine Y_iload_n C (pc := 68) 1 0 rfl rfl dX9_branch_68 ?_
    cases h
    exact Y_iret C dX9_branch_69

set_option maxRecDepth 100000 in
set_option maxHeartbeats 4000000 in
theorem c_X9_branchOn {l : Launch} {D : va_G} {cA ρ : Nat → Nat} {σ : Sg} {τ : Tg} {k0 : Nat} (hI : Inj ρ) (hk0 : kd k0 = (0, 9)) {r : Int32 × Sg} (h : f_X9_branchOn σ k0 = some r) : Ct l yX9_branchOn cX9_branchOn 1 (some .int) 6 144 D cA ρ (Aw ρ) [.ref (ρ k0)] σ τ (some (.int r.1)) r.2 τ := by
  refine Ct_of (by decide +kernel) (Nat.le_of_ble_eq_true rfl) (fun p e s m args below meth c C => ?_)
  have C : Ctx p l s m args meth c cX9_branchOn RX9 1 (some .int) D cA ρ (Aw ρ) := C
  have hW : Wr ρ (Aw ρ) := ⟨hI, fun k hk => ⟨k, hk, rfl⟩⟩
  unfold f_X9_branchOn at h
  refine Y_sub [0] (lv' := [(0, .ref (ρ k0))]) rfl ?_
  refine Y_aload_n C (pc := 0) 0 0 rfl rfl dX9_branchOn_0 ?_
  obtain ⟨v1, hv1, h⟩ := Option.bind_eq_some_iff.mp h
  refine Y_callV C [] [] [] hk0 rfl rfl (c_X9_looks hI hk0 hv1) (fun _ h => h) q_cw_yX9_looks q_ml_RX9_177 ⟨q_im_yX9_looks, q_se_yX9_looks⟩ ⟨⟨Nat.le_of_ble_eq_true rfl, Nat.le_of_ble_eq_true rfl⟩, ⟨Nat.zero_le _, Nat.zero_le _⟩, Nat.le_of_ble_eq_true rfl⟩ rfl rfl rfl dX9_branchOn_1 ?_
  refine Y_aload_n C (pc := 4) 0 0 rfl rfl dX9_branchOn_4 ?_
  refine Y_aload_n C (pc := 5) 0 0 rfl rfl dX9_branchOn_5 ?_
  obtain ⟨v2, hv2, h⟩ := Option.bind_eq_some_iff.mp h
  refine Y_callV C [] [.ref (ρ k0)] [.int v2.1, .ref (ρ k0)] hk0 rfl rfl (c_X9_branch hI hk0 hv2) (fun _ h => h) q_cw_yX9_branch q_ml_RX9_212 ⟨q_im_yX9_branch, q_se_yX9_branch⟩ ⟨⟨Nat.le_of_ble_eq_true rfl, Nat.le_of_ble_eq_true rfl⟩, ⟨Nat.zero_le _, Nat.zero_le _⟩, Nat.le_of_ble_eq_true rfl⟩ rfl rfl rfl dX9_branchOn_6 ?_
  obtain ⟨v3, hv3, h⟩ := Option.bind_eq_some_iff.mp h
  refine Y_callV C [.int v2.1] [] [.int v3.1] hk0 rfl rfl (c_X9_tells hI hk0 hv3) (fun _ h => h) q_cw_yX9_tells q_ml_RX9_82 ⟨q_im_yX9_tells, q_se_yX9_tells⟩ ⟨⟨Nat.le_of_ble_eq_true rfl, Nat.le_of_ble_eq_true rfl⟩, ⟨Nat.zero_le _, Nat.zero_le _⟩, Nat.le_of_ble_eq_true rfl⟩ rfl rfl rfl dX9_branchOn_9 ?_
  cases h
  exact Y_iret C dX9_branchOn_12

set_option maxRecDepth 100000 in
set_option maxHeartbeats 4000000 in
theorem c_X9_isTurn {l : Launch} {D : va_G} {cA ρ : Nat → Nat} {σ : Sg} {τ : Tg} {k0 : Nat} (hk0 : kd k0 = (0, 9)) {r : Int32} (h : f_X9_isTurn σ k0 = some r) : Ct l yX9_isTurn cX9_isTurn 3 (some .boolean) 2 44 D cA ρ A0 [.ref (ρ k0)] σ τ (some (.int r)) σ τ := by
  refine Ct_of (by decide +kernel) (Nat.le_of_ble_eq_true rfl) (fun p e s m args below meth c C => ?_)
  have C : Ctx p l s m args meth c cX9_isTurn RX9 3 (some .boolean) D cA ρ A0 := C
  unfold f_X9_isTurn at h
  refine Y_sub [0] (lv' := [(0, .ref (ρ k0))]) rfl ?_
  refine Y_iconst C (pc := 0) (v := (0 : Int32)) (by decide) dX9_isTurn_0 ?_
  refine Y_istore_n C (pc := 1) (lv' := [(1, .int (0 : Int32)), (0, .ref (ρ k0))]) 1 rfl (by decide) rfl dX9_isTurn_1 ?_
  obtain ⟨e19, he19, h⟩ := Option.bind_eq_some_iff.mp h
  refine Y_sub [1, 0] (lv' := [(0, .ref (ρ k0)), (1, .int (0 : Int32))]) rfl ?_
  refine lo_rule (f := (f_X9_isTurn_L2 σ k0)) (YS := fun s1 => Y p l e (Rm 2 44) s m args below meth c 3 D cA ρ A0 0 0 (MQ below (QC D cA ρ A0 (some (.int r)) σ τ) args s 0 0 A0) σ τ 2 [(0, .ref (ρ k0)), (1, .int s1)] []) (YE := fun e19 => (∀ e20, e19 = (.inl e20) → Y p l e (Rm 2 44) s m args below meth c 3 D cA ρ A0 0 0 (MQ below (QC D cA ρ A0 (some (.int r)) σ τ) args s 0 0 A0) σ τ 69 [] []) ∧ (∀ e21, e19 = (.inr e21) → Y p l e (Rm 2 44) s m args below meth c 3 D cA ρ A0 0 0 (MQ below (QC D cA ρ A0 (some (.int r)) σ τ) args s 0 0 A0) σ τ 83 [] [])) ?_ he19 ?_
  · intro s1 x h hLp hE
    have hE0 : ∀ y, x = .inr (.inl y) → _ := fun y q => (hE _ q).1 y rfl
    have hE1 : ∀ y, x = .inr (.inr y) → _ := fun y q => (hE _ q).2 y rfl
    unfold f_X9_isTurn_L2 at h
    refine Y_iload_n C (pc := 2) 1 1 rfl rfl dX9_isTurn_2 ?_
    refine Y_aload_n C (pc := 3) 0 0 rfl rfl dX9_isTurn_3 ?_
    refine Y_getR C (pc := 4) hk0 q_fi_RX9_7 (by decide) dX9_isTurn_4 ?_
    refine Y_iconst C (pc := 7) (v := (0 : Int32)) (by decide) dX9_isTurn_7 ?_
    obtain ⟨v2, hv2, h⟩ := Option.bind_eq_some_iff.mp h
    refine Y_iald C (pc := 8) (q_kr_9_0 hk0) hv2 dX9_isTurn_8 ?_
    refine Y_icmp_ge C (pc := 9) (tgt := 83) dX9_isTurn_9 (by decide) (fun c18 => ?_) (fun c18 => ?_)
    · rw [if_pos c18] at h
      have h := Option.some.inj h
      exact Y_sub [] rfl (hE1 _ h.symm)
    · rw [if_neg c18] at h
      refine Y_iconst C (pc := 12) (v := (0 : Int32)) (by decide) dX9_isTurn_12 ?_
      refine Y_istore_n C (pc := 13) (lv' := [(2, .int (0 : Int32)), (0, .ref (ρ k0)), (1, .int s1)]) 2 rfl (by decide) rfl dX9_isTurn_13 ?_
      obtain ⟨e15, he15, h⟩ := Option.bind_eq_some_iff.mp h
      refine Y_sub [1, 2, 0] (lv' := [(0, .ref (ρ k0)), (1, .int s1), (2, .int (0 : Int32))]) rfl ?_
      refine lo_rule (f := (f_X9_isTurn_L14 σ k0 s1)) (YS := fun s3 => Y p l e (Rm 2 44) s m args below meth c 3 D cA ρ A0 0 0 (MQ below (QC D cA ρ A0 (some (.int r)) σ τ) args s 0 0 A0) σ τ 14 [(0, .ref (ρ k0)), (1, .int s1), (2, .int s3)] []) (YE := fun e15 => (∀ e16, e15 = (.inl e16) → Y p l e (Rm 2 44) s m args below meth c 3 D cA ρ A0 0 0 (MQ below (QC D cA ρ A0 (some (.int r)) σ τ) args s 0 0 A0) σ τ 69 [] []) ∧ (∀ e17, e15 = (.inr e17) → Y p l e (Rm 2 44) s m args below meth c 3 D cA ρ A0 0 0 (MQ below (QC D cA ρ A0 (some (.int r)) σ τ) args s 0 0 A0) σ τ 77 [(0, .ref (ρ k0)), (1, .int s1)] [])) ?_ he15 ?_
      · intro s3 x h hLp hE
        have hE0 : ∀ y, x = .inr (.inl y) → _ := fun y q => (hE _ q).1 y rfl
        have hE1 : ∀ y, x = .inr (.inr y) → _ := fun y q => (hE _ q).2 y rfl
        unfold f_X9_isTurn_L14 at h
        refine Y_iload_n C (pc := 14) 2 2 rfl rfl dX9_isTurn_14 ?_
        refine Y_aload_n C (pc := 15) 0 0 rfl rfl dX9_isTurn_15 ?_
        refine Y_getR C (pc := 16) hk0 q_fi_RX9_7 (by decide) dX9_isTurn_16 ?_
        refine Y_iconst C (pc := 19) (v := (0 : Int32)) (by decide) dX9_isTurn_19 ?_
        obtain ⟨v4, hv4, h⟩ := Option.bind_eq_some_iff.mp h
        refine Y_iald C (pc := 20) (q_kr_9_0 hk0) hv4 dX9_isTurn_20 ?_
        refine Y_icmp_ge C (pc := 21) (tgt := 77) dX9_isTurn_21 (by decide) (fun c14 => ?_) (fun c14 => ?_)
        · rw [if_pos c14] at h
          have h := Option.some.inj h
          exact Y_sub [0, 1] rfl (hE1 _ h.symm)
        · rw [if_neg c14] at h
          refine Y_aload_n C (pc := 24) 0 0 rfl rfl dX9_isTurn_24 ?_
          refine Y_aload_n C (pc := 25) 0 0 rfl rfl dX9_isTurn_25 ?_
          refine Y_getR C (pc := 26) hk0 q_fi_RX9_22 (by decide) dX9_isTurn_26 ?_
          refine Y_iload_n C (pc := 29) 1 1 rfl rfl dX9_isTurn_29 ?_
          obtain ⟨v5, hv5, h⟩ := Option.bind_eq_some_iff.mp h
          refine Y_iald C (pc := 30) (q_kr_9_7 hk0) hv5 dX9_isTurn_30 ?_
          refine Y_aload_n C (pc := 31) 0 0 rfl rfl dX9_isTurn_31 ?_
          refine Y_getR C (pc := 32) hk0 q_fi_RX9_22 (by decide) dX9_isTurn_32 ?_
          refine Y_iload_n C (pc := 35) 2 2 rfl rfl dX9_isTurn_35 ?_
          obtain ⟨v6, hv6, h⟩ := Option.bind_eq_some_iff.mp h
          refine Y_iald C (pc := 36) (q_kr_9_7 hk0) hv6 dX9_isTurn_36 ?_
          obtain ⟨v7, hv7, h⟩ := Option.bind_eq_some_iff.mp h
          refine Y_callV C [.int v5, .int v6] [] [.int v7] hk0 rfl rfl (c_X9_far hk0 hv7) (fun _ h => h.elim) q_cw_yX9_far q_ml_RX9_126 ⟨q_im_yX9_far, q_se_yX9_far⟩ ⟨⟨Nat.le_of_ble_eq_true rfl, Nat.le_of_ble_eq_true rfl⟩, ⟨Nat.zero_le _, Nat.zero_le _⟩, Nat.le_of_ble_eq_true rfl⟩ rfl rfl rfl dX9_isTurn_37 ?_
          refine Y_aload_n C (pc := 40) 0 0 rfl rfl dX9_isTurn_40 ?_
          refine Y_iload_n C (pc := 41) 1 1 rfl rfl dX9_isTurn_41 ?_
          refine Y_iload_n C (pc := 42) 2 2 rfl rfl dX9_isTurn_42 ?_
          obtain ⟨v8, hv8, h⟩ := Option.bind_eq_some_iff.mp h
          refine Y_callV C [.int s1, .int s3] [.int v7] [.int v8, .int v7] hk0 rfl rfl (c_X9_far hk0 hv8) (fun _ h => h.elim) q_cw_yX9_far q_ml_RX9_126 ⟨q_im_yX9_far, q_se_yX9_far⟩ ⟨⟨Nat.le_of_ble_eq_true rfl, Nat.le_of_ble_eq_true rfl⟩, ⟨Nat.zero_le _, Nat.zero_le _⟩, Nat.le_of_ble_eq_true rfl⟩ rfl rfl rfl dX9_isTurn_43 ?_
          refine Y_icmp_ne C (pc := 46) (tgt := 69) dX9_isTurn_46 (by decide) (fun c13 => ?_) (fun c13 => ?_)
          · rw [if_neg c13] at h
            have h := Option.some.inj h
            exact Y_sub [] rfl (hE0 _ h.symm)
          · rw [if_pos c13] at h
            refine Y_aload_n C (pc := 49) 0 0 rfl rfl dX9_isTurn_49 ?_
            refine Y_iload_n C (pc := 50) 2 2 rfl rfl dX9_isTurn_50 ?_
            refine Y_aload_n C (pc := 51) 0 0 rfl rfl dX9_isTurn_51 ?_
            refine Y_getR C (pc := 52) hk0 q_fi_RX9_22 (by decide) dX9_isTurn_52 ?_
            refine Y_iload_n C (pc := 55) 1 1 rfl rfl dX9_isTurn_55 ?_
            obtain ⟨v9, hv9, h⟩ := Option.bind_eq_some_iff.mp h
            refine Y_iald C (pc := 56) (q_kr_9_7 hk0) hv9 dX9_isTurn_56 ?_
            obtain ⟨v10, hv10, h⟩ := Option.bind_eq_some_iff.mp h
            refine Y_callV C [.int s3, .int v9] [] [.int v10] hk0 rfl rfl (c_X9_price hk0 hv10) (fun _ h => h.elim) q_cw_yX9_price q_ml_RX9_119 ⟨q_im_yX9_price, q_se_yX9_price⟩ ⟨⟨Nat.le_of_ble_eq_true rfl, Nat.le_of_ble_eq_true rfl⟩, ⟨Nat.zero_le _, Nat.zero_le _⟩, Nat.le_of_ble_eq_true rfl⟩ rfl rfl rfl dX9_isTurn_57 ?_
            refine Y_aload_n C (pc := 60) 0 0 rfl rfl dX9_isTurn_60 ?_
            refine Y_iload_n C (pc := 61) 2 2 rfl rfl dX9_isTurn_61 ?_
            refine Y_iload_n C (pc := 62) 1 1 rfl rfl dX9_isTurn_62 ?_
            obtain ⟨v11, hv11, h⟩ := Option.bind_eq_some_iff.mp h
            refine Y_callV C [.int s3, .int s1] [.int v10] [.int v11, .int v10] hk0 rfl rfl (c_X9_price hk0 hv11) (fun _ h => h.elim) q_cw_yX9_price q_ml_RX9_119 ⟨q_im_yX9_price, q_se_yX9_price⟩ ⟨⟨Nat.le_of_ble_eq_true rfl, Nat.le_of_ble_eq_true rfl⟩, ⟨Nat.zero_le _, Nat.zero_le _⟩, Nat.le_of_ble_eq_true rfl⟩ rfl rfl rfl dX9_isTurn_63 ?_
            refine Y_icmp_eq C (pc := 66) (tgt := 71) dX9_isTurn_66 (by decide) (fun c12 => ?_) (fun c12 => ?_)
            · rw [if_pos c12] at h
              refine Y_iinc C (pc := 71) (v := (s3 + 1)) (lv' := [(2, .int (s3 + 1)), (0, .ref (ρ k0)), (1, .int s1)]) 2 rfl (congrArg (fun z => s3 + z) (by decide : Int32.ofInt (1) = (1))) (by decide) rfl dX9_isTurn_71 ?_
              refine Y_goto C (pc := 74) (tgt := 14) dX9_isTurn_74 (by decide) ?_
              have h := Option.some.inj h
              exact Y_sub [1, 2, 0] rfl (hLp _ h.symm)
            · rw [if_neg c12] at h
              have h := Option.some.inj h
              exact Y_sub [] rfl (hE0 _ h.symm)
      refine ⟨?_, ?_⟩
      · intro e16 q
        subst q
        simp only [Sum.elim_inl, Sum.elim_inr] at h
        have h := Option.some.inj h
        exact Y_sub [] rfl (hE0 _ h.symm)
      · intro e17 q
        subst q
        simp only [Sum.elim_inl, Sum.elim_inr] at h
        refine Y_iinc C (pc := 77) (v := (s1 + 1)) (lv' := [(1, .int (s1 + 1)), (0, .ref (ρ k0))]) 1 rfl (congrArg (fun z => s1 + z) (by decide : Int32.ofInt (1) = (1))) (by decide) rfl dX9_isTurn_77 ?_
        refine Y_goto C (pc := 80) (tgt := 2) dX9_isTurn_80 (by decide) ?_
        have h := Option.some.inj h
        exact Y_sub [1, 0] rfl (hLp _ h.symm)
  refine ⟨?_, ?_⟩
  · intro e20 q
    subst q
    simp only [Sum.elim_inl, Sum.elim_inr] at h
    refine Y_iconst C (pc := 69) (v := (0 : Int32)) (by decide) dX9_isTurn_69 ?_
    cases h
    exact Y_zret (by decide) C dX9_isTurn_70
  · intro e21 q
    subst q
    simp only [Sum.elim_inl, Sum.elim_inr] at h
    refine Y_iconst C (pc := 83) (v := (1 : Int32)) (by decide) dX9_isTurn_83 ?_
    cases h
    exact Y_zret (by decide) C dX9_isTurn_84

set_option maxRecDepth 100000 in
set_option maxHeartbeats 4000000 in
theorem c_X9_laysTurns {l : Launch} {D : va_G} {cA ρ : Nat → Nat} {σ : Sg} {τ : Tg} {k0 : Nat} (hI : Inj ρ) (hk0 : kd k0 = (0, 9)) {r : Sg} (h : f_X9_laysTurns σ k0 = some r) : Ct l yX9_laysTurns cX9_laysTurns 3 none 3 66 D cA ρ (Aw ρ) [.ref (ρ k0)] σ τ none r τ := by
  refine Ct_of (by decide +kernel) (Nat.le_of_ble_eq_true rfl) (fun p e s m args below meth c C => ?_)
  have C : Ctx p l s m args meth c cX9_laysTurns RX9 3 none D cA ρ (Aw ρ) := C
  have hW : Wr ρ (Aw ρ) := ⟨hI, fun k hk => ⟨k, hk, rfl⟩⟩
  unfold f_X9_laysTurns at h
  refine Y_sub [0] (lv' := [(0, .ref (ρ k0))]) rfl ?_
  refine Y_aload_n C (pc := 0) 0 0 rfl rfl dX9_laysTurns_0 ?_
  refine Y_iconst C (pc := 1) (v := (0 : Int32)) (by decide) dX9_laysTurns_1 ?_
  refine Y_putI C (pc := 2) hW hk0 (q_lo_9 hk0) q_fp_RX9_215 dX9_laysTurns_2 ?_
  refine Y_aload_n C (pc := 5) 0 0 rfl rfl dX9_laysTurns_5 ?_
  obtain ⟨v1, hv1, h⟩ := Option.bind_eq_some_iff.mp h
  refine Y_callV C [] [] [] hk0 rfl rfl (c_X9_firsts hI hk0 hv1) (fun _ h => h) q_cw_yX9_firsts q_ml_RX9_142 ⟨q_im_yX9_firsts, q_se_yX9_firsts⟩ ⟨⟨Nat.le_of_ble_eq_true rfl, Nat.le_of_ble_eq_true rfl⟩, ⟨Nat.zero_le _, Nat.zero_le _⟩, Nat.le_of_ble_eq_true rfl⟩ rfl rfl rfl dX9_laysTurns_6 ?_
  refine Y_iconst C (pc := 9) (v := (1 : Int32)) (by decide) dX9_laysTurns_9 ?_
  refine Y_istore_n C (pc := 10) (lv' := [(1, .int (1 : Int32)), (0, .ref (ρ k0))]) 1 rfl (by decide) rfl dX9_laysTurns_10 ?_
  obtain ⟨e13, he13, h⟩ := Option.bind_eq_some_iff.mp h
  refine Y_sub [1, 0] (lv' := [(0, .ref (ρ k0)), (1, .int (1 : Int32))]) rfl ?_
  refine lo_rule (f := (f_X9_laysTurns_L11 k0)) (YS := fun s2 => Y p l e (Rm 3 66) s m args below meth c 3 D cA ρ (Aw ρ) 0 0 (MQ below (QC D cA ρ (Aw ρ) none r τ) args s 0 0 (Aw ρ)) s2.2 τ 11 [(0, .ref (ρ k0)), (1, .int s2.1)] []) (YE := fun e13 => Y p l e (Rm 3 66) s m args below meth c 3 D cA ρ (Aw ρ) 0 0 (MQ below (QC D cA ρ (Aw ρ) none r τ) args s 0 0 (Aw ρ)) e13 τ 74 [] []) ?_ he13 ?_
  · intro s2 x h hLp hE
    unfold f_X9_laysTurns_L11 at h
    have hJ66 : ∀ (sj4 : Sg), f_X9_laysTurns_J66 k0 sj4 = some x → Y p l e (Rm 3 66) s m args below meth c 3 D cA ρ (Aw ρ) 0 0 (MQ below (QC D cA ρ (Aw ρ) none r τ) args s 0 0 (Aw ρ)) sj4 τ 66 [(0, .ref (ρ k0))] [] := by
      intro sj4 h
      unfold f_X9_laysTurns_J66 at h
      refine Y_aload_n C (pc := 66) 0 0 rfl rfl dX9_laysTurns_66 ?_
      obtain ⟨v5, hv5, h⟩ := Option.bind_eq_some_iff.mp h
      refine Y_callV C [] [] [.int v5.1] hk0 rfl rfl (c_X9_goesOn hI hk0 hv5) (fun _ h => h) q_cw_yX9_goesOn q_ml_RX9_145 ⟨q_im_yX9_goesOn, q_se_yX9_goesOn⟩ ⟨⟨Nat.le_of_ble_eq_true rfl, Nat.le_of_ble_eq_true rfl⟩, ⟨Nat.zero_le _, Nat.zero_le _⟩, Nat.le_of_ble_eq_true rfl⟩ rfl rfl rfl dX9_laysTurns_67 ?_
      refine Y_istore_n C (pc := 70) (lv' := [(1, .int v5.1), (0, .ref (ρ k0))]) 1 rfl (by decide) rfl dX9_laysTurns_70 ?_
      refine Y_goto C (pc := 71) (tgt := 11) dX9_laysTurns_71 (by decide) ?_
      have h := Option.some.inj h
      exact Y_sub [1, 0] rfl (hLp _ h.symm)
    refine Y_iload_n C (pc := 11) 1 1 rfl rfl dX9_laysTurns_11 ?_
    refine Y_if_eq C (pc := 12) (tgt := 74) dX9_laysTurns_12 (by decide) (fun c12 => ?_) (fun c12 => ?_)
    · rw [if_pos c12] at h
      have h := Option.some.inj h
      exact Y_sub [] rfl (hE _ h.symm)
    · rw [if_neg c12] at h
      refine Y_aload_n C (pc := 15) 0 0 rfl rfl dX9_laysTurns_15 ?_
      obtain ⟨v3, hv3, h⟩ := Option.bind_eq_some_iff.mp h
      refine Y_callV C [] [] [.int v3] hk0 rfl rfl (c_X9_isTurn hk0 hv3) (fun _ h => h.elim) q_cw_yX9_isTurn q_ml_RX9_218 ⟨q_im_yX9_isTurn, q_se_yX9_isTurn⟩ ⟨⟨Nat.le_of_ble_eq_true rfl, Nat.le_of_ble_eq_true rfl⟩, ⟨Nat.zero_le _, Nat.zero_le _⟩, Nat.le_of_ble_eq_true rfl⟩ rfl rfl rfl dX9_laysTurns_16 ?_
      refine Y_if_eq C (pc := 19) (tgt := 66) dX9_laysTurns_19 (by decide) (fun c11 => ?_) (fun c11 => ?_)
      · rw [if_pos c11] at h
        exact Y_sub [0] rfl (hJ66 _ h)
      · rw [if_neg c11] at h
        refine Y_iconst C (pc := 22) (v := (0 : Int32)) (by decide) dX9_laysTurns_22 ?_
        refine Y_istore_n C (pc := 23) (lv' := [(2, .int (0 : Int32)), (0, .ref (ρ k0)), (1, .int s2.1)]) 2 rfl (by decide) rfl dX9_laysTurns_23 ?_
        obtain ⟨e10, he10, h⟩ := Option.bind_eq_some_iff.mp h
        refine Y_sub [1, 0] (lv' := [(0, .ref (ρ k0)), (2, .int (0 : Int32))]) rfl ?_
        refine lo_rule (f := (f_X9_laysTurns_L24 k0)) (YS := fun s6 => Y p l e (Rm 3 66) s m args below meth c 3 D cA ρ (Aw ρ) 0 0 (MQ below (QC D cA ρ (Aw ρ) none r τ) args s 0 0 (Aw ρ)) s6.2 τ 24 [(0, .ref (ρ k0)), (2, .int s6.1)] []) (YE := fun e10 => Y p l e (Rm 3 66) s m args below meth c 3 D cA ρ (Aw ρ) 0 0 (MQ below (QC D cA ρ (Aw ρ) none r τ) args s 0 0 (Aw ρ)) e10 τ 56 [(0, .ref (ρ k0))] []) ?_ he10 ?_
        · intro s6 x h hLp hE
          unfold f_X9_laysTurns_L24 at h
          refine Y_iload_n C (pc := 24) 2 1 rfl rfl dX9_laysTurns_24 ?_
          refine Y_bipush C (pc := 25) (v := (6 : Int32)) (by decide) dX9_laysTurns_25 ?_
          refine Y_icmp_ge C (pc := 27) (tgt := 56) dX9_laysTurns_27 (by decide) (fun c9 => ?_) (fun c9 => ?_)
          · rw [if_pos c9] at h
            have h := Option.some.inj h
            exact Y_sub [0] rfl (hE _ h.symm)
          · rw [if_neg c9] at h
            refine Y_aload_n C (pc := 30) 0 0 rfl rfl dX9_laysTurns_30 ?_
            refine Y_getR C (pc := 31) hk0 q_fi_RX9_40 (by decide) dX9_laysTurns_31 ?_
            refine Y_bipush C (pc := 34) (v := (6 : Int32)) (by decide) dX9_laysTurns_34 ?_
            refine Y_aload_n C (pc := 36) 0 0 rfl rfl dX9_laysTurns_36 ?_
            refine Y_getI C (pc := 37) hk0 q_fi_RX9_215 dX9_laysTurns_37 ?_
            refine Y_imul C (pc := 40) dX9_laysTurns_40 ?_
            refine Y_iload_n C (pc := 41) 2 1 rfl rfl dX9_laysTurns_41 ?_
            refine Y_iadd C (pc := 42) dX9_laysTurns_42 ?_
            refine Y_aload_n C (pc := 43) 0 0 rfl rfl dX9_laysTurns_43 ?_
            refine Y_getR C (pc := 44) hk0 q_fi_RX9_22 (by decide) dX9_laysTurns_44 ?_
            refine Y_iload_n C (pc := 47) 2 1 rfl rfl dX9_laysTurns_47 ?_
            obtain ⟨v7, hv7, h⟩ := Option.bind_eq_some_iff.mp h
            refine Y_iald C (pc := 48) (q_kr_9_7 hk0) hv7 dX9_laysTurns_48 ?_
            obtain ⟨s8, hs8, h⟩ := Option.bind_eq_some_iff.mp h
            refine Y_iast C (pc := 49) hW (q_kr_9_13 hk0) (q_lr_9_13 hk0) hs8 dX9_laysTurns_49 ?_
            refine Y_iinc C (pc := 50) (v := (s6.1 + 1)) (lv' := [(2, .int (s6.1 + 1)), (0, .ref (ρ k0))]) 1 rfl (congrArg (fun z => s6.1 + z) (by decide : Int32.ofInt (1) = (1))) (by decide) rfl dX9_laysTurns_50 ?_
            refine Y_goto C (pc := 53) (tgt := 24) dX9_laysTurns_53 (by decide) ?_
            have h := Option.some.inj h
            exact Y_sub [1, 0] rfl (hLp _ h.symm)
        · refine Y_aload_n C (pc := 56) 0 0 rfl rfl dX9_laysTurns_56 ?_
          refine Y_dup C (pc := 57) rfl dX9_laysTurns_57 ?_
          refine Y_getI C (pc := 58) hk0 q_fi_RX9_215 dX9_laysTurns_58 ?_
          refine Y_iconst C (pc := 61) (v := (1 : Int32)) (by decide) dX9_laysTurns_61 ?_
          refine Y_iadd C (pc := 62) dX9_laysTurns_62 ?_
          refine Y_putI C (pc := 63) hW hk0 (q_lo_9 hk0) q_fp_RX9_215 dX9_laysTurns_63 ?_
          exact Y_sub [0] rfl (hJ66 _ h)
  · cases h
    exact Y_vret C dX9_laysTurns_74

set_option maxRecDepth 100000 in
set_option maxHeartbeats 4000000 in
theorem c_X9_isKept {l : Launch} {D : va_G} {cA ρ : Nat → Nat} {σ : Sg} {τ : Tg} {k0 : Nat} {i1 : Int32} (hk0 : kd k0 = (0, 9)) {r : Int32} (h : f_X9_isKept σ k0 i1 = some r) : Ct l yX9_isKept cX9_isKept 4 (some .boolean) 0 0 D cA ρ A0 [.ref (ρ k0), .int i1] σ τ (some (.int r)) σ τ := by
  refine Ct_of (by decide +kernel) (Nat.le_of_ble_eq_true rfl) (fun p e s m args below meth c C => ?_)
  have C : Ctx p l s m args meth c cX9_isKept RX9 4 (some .boolean) D cA ρ A0 := C
  unfold f_X9_isKept at h
  refine Y_sub [0, 1] (lv' := [(0, .ref (ρ k0)), (1, .int i1)]) rfl ?_
  refine Y_iconst C (pc := 0) (v := (1 : Int32)) (by decide) dX9_isKept_0 ?_
  refine Y_istore_n C (pc := 1) (lv' := [(2, .int (1 : Int32)), (0, .ref (ρ k0)), (1, .int i1)]) 2 rfl (by decide) rfl dX9_isKept_1 ?_
  refine Y_iconst C (pc := 2) (v := (0 : Int32)) (by decide) dX9_isKept_2 ?_
  refine Y_istore_n C (pc := 3) (lv' := [(3, .int (0 : Int32)), (2, .int (1 : Int32)), (0, .ref (ρ k0)), (1, .int i1)]) 3 rfl (by decide) rfl dX9_isKept_3 ?_
  obtain ⟨e15, he15, h⟩ := Option.bind_eq_some_iff.mp h
  refine Y_sub [2, 3, 1, 0] (lv' := [(0, .ref (ρ k0)), (1, .int i1), (2, .int (1 : Int32)), (3, .int (0 : Int32))]) rfl ?_
  refine lo_rule (f := (f_X9_isKept_L4 σ k0 i1)) (YS := fun s1 => Y p l e (Rm 0 0) s m args below meth c 4 D cA ρ A0 0 0 (MQ below (QC D cA ρ A0 (some (.int r)) σ τ) args s 0 0 A0) σ τ 4 [(0, .ref (ρ k0)), (1, .int i1), (2, .int s1.1), (3, .int s1.2)] []) (YE := fun e15 => Y p l e (Rm 0 0) s m args below meth c 4 D cA ρ A0 0 0 (MQ below (QC D cA ρ A0 (some (.int r)) σ τ) args s 0 0 A0) σ τ 65 [(2, .int e15)] []) ?_ he15 ?_
  · intro s1 x h hLp hE
    unfold f_X9_isKept_L4 at h
    have hJ58 : ∀ (j4 : Int32) (j5 : Int32), f_X9_isKept_J58 j4 j5 = some x → Y p l e (Rm 0 0) s m args below meth c 4 D cA ρ A0 0 0 (MQ below (QC D cA ρ A0 (some (.int r)) σ τ) args s 0 0 A0) σ τ 58 [(0, .ref (ρ k0)), (1, .int i1), (3, .int j4)] [.int j5] := by
      intro j4 j5 h
      unfold f_X9_isKept_J58 at h
      refine Y_istore_n C (pc := 58) (lv' := [(2, .int j5), (0, .ref (ρ k0)), (1, .int i1), (3, .int j4)]) 2 rfl (by decide) rfl dX9_isKept_58 ?_
      refine Y_iinc C (pc := 59) (v := (j4 + 1)) (lv' := [(3, .int (j4 + 1)), (2, .int j5), (0, .ref (ρ k0)), (1, .int i1)]) 3 rfl (congrArg (fun z => j4 + z) (by decide : Int32.ofInt (1) = (1))) (by decide) rfl dX9_isKept_59 ?_
      refine Y_goto C (pc := 62) (tgt := 4) dX9_isKept_62 (by decide) ?_
      have h := Option.some.inj h
      exact Y_sub [2, 3, 1, 0] rfl (hLp _ h.symm)
    have hJ57 : ∀ (j3 : Int32), f_X9_isKept_J57 j3 = some x → Y p l e (Rm 0 0) s m args below meth c 4 D cA ρ A0 0 0 (MQ below (QC D cA ρ A0 (some (.int r)) σ τ) args s 0 0 A0) σ τ 57 [(0, .ref (ρ k0)), (1, .int i1), (3, .int j3)] [] := by
      intro j3 h
      unfold f_X9_isKept_J57 at h
      refine Y_iconst C (pc := 57) (v := (0 : Int32)) (by decide) dX9_isKept_57 ?_
      exact Y_sub [0, 1, 2] rfl (hJ58 _ _ h)
    have hJ53 : ∀ (j7 : Int32), f_X9_isKept_J53 j7 = some x → Y p l e (Rm 0 0) s m args below meth c 4 D cA ρ A0 0 0 (MQ below (QC D cA ρ A0 (some (.int r)) σ τ) args s 0 0 A0) σ τ 53 [(0, .ref (ρ k0)), (1, .int i1), (3, .int j7)] [] := by
      intro j7 h
      unfold f_X9_isKept_J53 at h
      refine Y_iconst C (pc := 53) (v := (1 : Int32)) (by decide) dX9_isKept_53 ?_
      refine Y_goto C (pc := 54) (tgt := 58) dX9_isKept_54 (by decide) ?_
      exact Y_sub [0, 1, 2] rfl (hJ58 _ _ h)
    refine Y_iload_n C (pc := 4) 3 3 rfl rfl dX9_isKept_4 ?_
    refine Y_aload_n C (pc := 5) 0 0 rfl rfl dX9_isKept_5 ?_
    refine Y_getR C (pc := 6) hk0 q_fi_RX9_7 (by decide) dX9_isKept_6 ?_
    refine Y_iconst C (pc := 9) (v := (0 : Int32)) (by decide) dX9_isKept_9 ?_
    obtain ⟨v2, hv2, h⟩ := Option.bind_eq_some_iff.mp h
    refine Y_iald C (pc := 10) (q_kr_9_0 hk0) hv2 dX9_isKept_10 ?_
    refine Y_icmp_ge C (pc := 11) (tgt := 65) dX9_isKept_11 (by decide) (fun c14 => ?_) (fun c14 => ?_)
    · rw [if_pos c14] at h
      have h := Option.some.inj h
      exact Y_sub [2] rfl (hE _ h.symm)
    · rw [if_neg c14] at h
      refine Y_iload_n C (pc := 14) 2 2 rfl rfl dX9_isKept_14 ?_
      refine Y_if_eq C (pc := 15) (tgt := 57) dX9_isKept_15 (by decide) (fun c13 => ?_) (fun c13 => ?_)
      · rw [if_pos c13] at h
        exact Y_sub [0, 1, 3] rfl (hJ57 _ h)
      · rw [if_neg c13] at h
        refine Y_aload_n C (pc := 18) 0 0 rfl rfl dX9_isKept_18 ?_
        refine Y_getR C (pc := 19) hk0 q_fi_RX9_25 (by decide) dX9_isKept_19 ?_
        refine Y_iload_n C (pc := 22) 3 3 rfl rfl dX9_isKept_22 ?_
        obtain ⟨v6, hv6, h⟩ := Option.bind_eq_some_iff.mp h
        refine Y_iald C (pc := 23) (q_kr_9_8 hk0) hv6 dX9_isKept_23 ?_
        refine Y_iconst C (pc := 24) (v := (-1 : Int32)) (by decide) dX9_isKept_24 ?_
        refine Y_icmp_eq C (pc := 25) (tgt := 53) dX9_isKept_25 (by decide) (fun c12 => ?_) (fun c12 => ?_)
        · rw [if_pos c12] at h
          exact Y_sub [0, 1, 3] rfl (hJ53 _ h)
        · rw [if_neg c12] at h
          refine Y_aload_n C (pc := 28) 0 0 rfl rfl dX9_isKept_28 ?_
          refine Y_getR C (pc := 29) hk0 q_fi_RX9_40 (by decide) dX9_isKept_29 ?_
          refine Y_bipush C (pc := 32) (v := (6 : Int32)) (by decide) dX9_isKept_32 ?_
          refine Y_iload_n C (pc := 34) 1 1 rfl rfl dX9_isKept_34 ?_
          refine Y_imul C (pc := 35) dX9_isKept_35 ?_
          refine Y_aload_n C (pc := 36) 0 0 rfl rfl dX9_isKept_36 ?_
          refine Y_getR C (pc := 37) hk0 q_fi_RX9_25 (by decide) dX9_isKept_37 ?_
          refine Y_iload_n C (pc := 40) 3 3 rfl rfl dX9_isKept_40 ?_
          obtain ⟨v8, hv8, h⟩ := Option.bind_eq_some_iff.mp h
          refine Y_iald C (pc := 41) (q_kr_9_8 hk0) hv8 dX9_isKept_41 ?_
          refine Y_iadd C (pc := 42) dX9_isKept_42 ?_
          obtain ⟨v9, hv9, h⟩ := Option.bind_eq_some_iff.mp h
          refine Y_iald C (pc := 43) (q_kr_9_13 hk0) hv9 dX9_isKept_43 ?_
          refine Y_aload_n C (pc := 44) 0 0 rfl rfl dX9_isKept_44 ?_
          refine Y_getR C (pc := 45) hk0 q_fi_RX9_25 (by decide) dX9_isKept_45 ?_
          refine Y_iload_n C (pc := 48) 3 3 rfl rfl dX9_isKept_48 ?_
          obtain ⟨v10, hv10, h⟩ := Option.bind_eq_some_iff.mp h
          refine Y_iald C (pc := 49) (q_kr_9_8 hk0) hv10 dX9_isKept_49 ?_
          refine Y_icmp_ne C (pc := 50) (tgt := 57) dX9_isKept_50 (by decide) (fun c11 => ?_) (fun c11 => ?_)
          · rw [if_neg c11] at h
            exact Y_sub [0, 1, 3] rfl (hJ57 _ h)
          · rw [if_pos c11] at h
            exact Y_sub [0, 1, 3] rfl (hJ53 _ h)
  · refine Y_iload_n C (pc := 65) 2 0 rfl rfl dX9_isKept_65 ?_
    obtain ⟨v16, hv16, h⟩ := Option.bind_eq_some_iff.mp h
    obtain ⟨gv16, ev16⟩ := gb_in hv16
    subst v16
    cases h
    exact Y_zret gv16 C dX9_isKept_66

set_option maxRecDepth 100000 in
set_option maxHeartbeats 4000000 in
theorem c_X9_keptTurns {l : Launch} {D : va_G} {cA ρ : Nat → Nat} {σ : Sg} {τ : Tg} {k0 : Nat} (hI : Inj ρ) (hk0 : kd k0 = (0, 9)) {r : Int32 × Sg} (h : f_X9_keptTurns σ k0 = some r) : Ct l yX9_keptTurns cX9_keptTurns 3 (some .int) 4 88 D cA ρ (Aw ρ) [.ref (ρ k0)] σ τ (some (.int r.1)) r.2 τ := by
  refine Ct_of (by decide +kernel) (Nat.le_of_ble_eq_true rfl) (fun p e s m args below meth c C => ?_)
  have C : Ctx p l s m args meth c cX9_keptTurns RX9 3 (some .int) D cA ρ (Aw ρ) := C
  have hW : Wr ρ (Aw ρ) := ⟨hI, fun k hk => ⟨k, hk, rfl⟩⟩
  unfold f_X9_keptTurns at h
  refine Y_sub [0] (lv' := [(0, .ref (ρ k0))]) rfl ?_
  refine Y_aload_n C (pc := 0) 0 0 rfl rfl dX9_keptTurns_0 ?_
  obtain ⟨v1, hv1, h⟩ := Option.bind_eq_some_iff.mp h
  refine Y_callV C [] [] [] hk0 rfl rfl (c_X9_laysTurns hI hk0 hv1) (fun _ h => h) q_cw_yX9_laysTurns q_ml_RX9_221 ⟨q_im_yX9_laysTurns, q_se_yX9_laysTurns⟩ ⟨⟨Nat.le_of_ble_eq_true rfl, Nat.le_of_ble_eq_true rfl⟩, ⟨Nat.zero_le _, Nat.zero_le _⟩, Nat.le_of_ble_eq_true rfl⟩ rfl rfl rfl dX9_keptTurns_1 ?_
  refine Y_iconst C (pc := 4) (v := (0 : Int32)) (by decide) dX9_keptTurns_4 ?_
  refine Y_istore_n C (pc := 5) (lv' := [(1, .int (0 : Int32)), (0, .ref (ρ k0))]) 1 rfl (by decide) rfl dX9_keptTurns_5 ?_
  refine Y_iconst C (pc := 6) (v := (0 : Int32)) (by decide) dX9_keptTurns_6 ?_
  refine Y_istore_n C (pc := 7) (lv' := [(2, .int (0 : Int32)), (1, .int (0 : Int32)), (0, .ref (ρ k0))]) 2 rfl (by decide) rfl dX9_keptTurns_7 ?_
  obtain ⟨e9, he9, h⟩ := Option.bind_eq_some_iff.mp h
  refine Y_sub [2, 1, 0] (lv' := [(0, .ref (ρ k0)), (1, .int (0 : Int32)), (2, .int (0 : Int32))]) rfl ?_
  refine lo_rule (f := (f_X9_keptTurns_L8 v1 k0)) (YS := fun s2 => Y p l e (Rm 4 88) s m args below meth c 3 D cA ρ (Aw ρ) 0 0 (MQ below (QC D cA ρ (Aw ρ) (some (.int r.1)) r.2 τ) args s 0 0 (Aw ρ)) v1 τ 8 [(0, .ref (ρ k0)), (1, .int s2.1), (2, .int s2.2)] []) (YE := fun e9 => Y p l e (Rm 4 88) s m args below meth c 3 D cA ρ (Aw ρ) 0 0 (MQ below (QC D cA ρ (Aw ρ) (some (.int r.1)) r.2 τ) args s 0 0 (Aw ρ)) v1 τ 38 [(1, .int e9)] []) ?_ he9 ?_
  · intro s2 x h hLp hE
    unfold f_X9_keptTurns_L8 at h
    have hJ30 : ∀ (j4 : Int32) (j5 : Int32) (j6 : Int32), f_X9_keptTurns_J30 j4 j5 j6 = some x → Y p l e (Rm 4 88) s m args below meth c 3 D cA ρ (Aw ρ) 0 0 (MQ below (QC D cA ρ (Aw ρ) (some (.int r.1)) r.2 τ) args s 0 0 (Aw ρ)) v1 τ 30 [(0, .ref (ρ k0)), (2, .int j4)] [.int j5, .int j6] := by
      intro j4 j5 j6 h
      unfold f_X9_keptTurns_J30 at h
      refine Y_iadd C (pc := 30) dX9_keptTurns_30 ?_
      refine Y_istore_n C (pc := 31) (lv' := [(1, .int (j6 + j5)), (0, .ref (ρ k0)), (2, .int j4)]) 1 rfl (by decide) rfl dX9_keptTurns_31 ?_
      refine Y_iinc C (pc := 32) (v := (j4 + 1)) (lv' := [(2, .int (j4 + 1)), (1, .int (j6 + j5)), (0, .ref (ρ k0))]) 2 rfl (congrArg (fun z => j4 + z) (by decide : Int32.ofInt (1) = (1))) (by decide) rfl dX9_keptTurns_32 ?_
      refine Y_goto C (pc := 35) (tgt := 8) dX9_keptTurns_35 (by decide) ?_
      have h := Option.some.inj h
      exact Y_sub [2, 1, 0] rfl (hLp _ h.symm)
    refine Y_iload_n C (pc := 8) 2 2 rfl rfl dX9_keptTurns_8 ?_
    refine Y_aload_n C (pc := 9) 0 0 rfl rfl dX9_keptTurns_9 ?_
    refine Y_getI C (pc := 10) hk0 q_fi_RX9_215 dX9_keptTurns_10 ?_
    refine Y_icmp_ge C (pc := 13) (tgt := 38) dX9_keptTurns_13 (by decide) (fun c8 => ?_) (fun c8 => ?_)
    · rw [if_pos c8] at h
      have h := Option.some.inj h
      exact Y_sub [1] rfl (hE _ h.symm)
    · rw [if_neg c8] at h
      refine Y_iload_n C (pc := 16) 1 1 rfl rfl dX9_keptTurns_16 ?_
      refine Y_aload_n C (pc := 17) 0 0 rfl rfl dX9_keptTurns_17 ?_
      refine Y_iload_n C (pc := 18) 2 2 rfl rfl dX9_keptTurns_18 ?_
      obtain ⟨v3, hv3, h⟩ := Option.bind_eq_some_iff.mp h
      refine Y_callV C [.int s2.2] [.int s2.1] [.int v3, .int s2.1] hk0 rfl rfl (c_X9_isKept hk0 hv3) (fun _ h => h.elim) q_cw_yX9_isKept q_ml_RX9_224 ⟨q_im_yX9_isKept, q_se_yX9_isKept⟩ ⟨⟨Nat.le_of_ble_eq_true rfl, Nat.le_of_ble_eq_true rfl⟩, ⟨Nat.zero_le _, Nat.zero_le _⟩, Nat.le_of_ble_eq_true rfl⟩ rfl rfl rfl dX9_keptTurns_19 ?_
      refine Y_if_eq C (pc := 22) (tgt := 29) dX9_keptTurns_22 (by decide) (fun c7 => ?_) (fun c7 => ?_)
      · rw [if_pos c7] at h
        refine Y_iconst C (pc := 29) (v := (0 : Int32)) (by decide) dX9_keptTurns_29 ?_
        exact Y_sub [0, 2] rfl (hJ30 _ _ _ h)
      · rw [if_neg c7] at h
        refine Y_iconst C (pc := 25) (v := (1 : Int32)) (by decide) dX9_keptTurns_25 ?_
        refine Y_goto C (pc := 26) (tgt := 30) dX9_keptTurns_26 (by decide) ?_
        exact Y_sub [0, 2] rfl (hJ30 _ _ _ h)
  · refine Y_iload_n C (pc := 38) 1 0 rfl rfl dX9_keptTurns_38 ?_
    cases h
    exact Y_iret C dX9_keptTurns_39

set_option maxRecDepth 100000 in
set_option maxHeartbeats 4000000 in
theorem c_X9_symmetries {l : Launch} {D : va_G} {cA ρ : Nat → Nat} {σ : Sg} {τ : Tg} {k0 : Nat} (hI : Inj ρ) (hk0 : kd k0 = (0, 9)) {r : Int32 × Sg} (h : f_X9_symmetries σ k0 = some r) : Ct l yX9_symmetries cX9_symmetries 1 (some .int) 5 110 D cA ρ (Aw ρ) [.ref (ρ k0)] σ τ (some (.int r.1)) r.2 τ := by
  refine Ct_of (by decide +kernel) (Nat.le_of_ble_eq_true rfl) (fun p e s m args below meth c C => ?_)
  have C : Ctx p l s m args meth c cX9_symmetries RX9 1 (some .int) D cA ρ (Aw ρ) := C
  have hW : Wr ρ (Aw ρ) := ⟨hI, fun k hk => ⟨k, hk, rfl⟩⟩
  unfold f_X9_symmetries at h
  refine Y_sub [0] (lv' := [(0, .ref (ρ k0))]) rfl ?_
  refine Y_aload_n C (pc := 0) 0 0 rfl rfl dX9_symmetries_0 ?_
  obtain ⟨v1, hv1, h⟩ := Option.bind_eq_some_iff.mp h
  refine Y_callV C [] [] [] hk0 rfl rfl (c_X9_looks hI hk0 hv1) (fun _ h => h) q_cw_yX9_looks q_ml_RX9_177 ⟨q_im_yX9_looks, q_se_yX9_looks⟩ ⟨⟨Nat.le_of_ble_eq_true rfl, Nat.le_of_ble_eq_true rfl⟩, ⟨Nat.zero_le _, Nat.zero_le _⟩, Nat.le_of_ble_eq_true rfl⟩ rfl rfl rfl dX9_symmetries_1 ?_
  refine Y_aload_n C (pc := 4) 0 0 rfl rfl dX9_symmetries_4 ?_
  refine Y_aload_n C (pc := 5) 0 0 rfl rfl dX9_symmetries_5 ?_
  obtain ⟨v2, hv2, h⟩ := Option.bind_eq_some_iff.mp h
  refine Y_callV C [] [.ref (ρ k0)] [.int v2.1, .ref (ρ k0)] hk0 rfl rfl (c_X9_keptTurns hI hk0 hv2) (fun _ h => h) q_cw_yX9_keptTurns q_ml_RX9_227 ⟨q_im_yX9_keptTurns, q_se_yX9_keptTurns⟩ ⟨⟨Nat.le_of_ble_eq_true rfl, Nat.le_of_ble_eq_true rfl⟩, ⟨Nat.zero_le _, Nat.zero_le _⟩, Nat.le_of_ble_eq_true rfl⟩ rfl rfl rfl dX9_symmetries_6 ?_
  obtain ⟨v3, hv3, h⟩ := Option.bind_eq_some_iff.mp h
  refine Y_callV C [.int v2.1] [] [.int v3.1] hk0 rfl rfl (c_X9_tells hI hk0 hv3) (fun _ h => h) q_cw_yX9_tells q_ml_RX9_82 ⟨q_im_yX9_tells, q_se_yX9_tells⟩ ⟨⟨Nat.le_of_ble_eq_true rfl, Nat.le_of_ble_eq_true rfl⟩, ⟨Nat.zero_le _, Nat.zero_le _⟩, Nat.le_of_ble_eq_true rfl⟩ rfl rfl rfl dX9_symmetries_9 ?_
  cases h
  exact Y_iret C dX9_symmetries_12

set_option maxRecDepth 100000 in
set_option maxHeartbeats 4000000 in
theorem c_X9_lowest {l : Launch} {D : va_G} {cA ρ : Nat → Nat} {σ : Sg} {τ : Tg} {k0 : Nat} {i1 : Int32} (hk0 : kd k0 = (0, 9)) {r : Int32} (h : f_X9_lowest σ k0 i1 = some r) : Ct l yX9_lowest cX9_lowest 5 (some .int) 1 23 D cA ρ A0 [.ref (ρ k0), .int i1] σ τ (some (.int r)) σ τ := by
  refine Ct_of (by decide +kernel) (Nat.le_of_ble_eq_true rfl) (fun p e s m args below meth c C => ?_)
  have C : Ctx p l s m args meth c cX9_lowest RX9 5 (some .int) D cA ρ A0 := C
  unfold f_X9_lowest at h
  refine Y_sub [0, 1] (lv' := [(0, .ref (ρ k0)), (1, .int i1)]) rfl ?_
  refine Y_iload_n C (pc := 0) 1 1 rfl rfl dX9_lowest_0 ?_
  refine Y_istore_n C (pc := 1) (lv' := [(2, .int i1), (0, .ref (ρ k0)), (1, .int i1)]) 2 rfl (by decide) rfl dX9_lowest_1 ?_
  refine Y_iconst C (pc := 2) (v := (0 : Int32)) (by decide) dX9_lowest_2 ?_
  refine Y_istore_n C (pc := 3) (lv' := [(3, .int (0 : Int32)), (2, .int i1), (0, .ref (ρ k0)), (1, .int i1)]) 3 rfl (by decide) rfl dX9_lowest_3 ?_
  obtain ⟨e11, he11, h⟩ := Option.bind_eq_some_iff.mp h
  refine Y_sub [2, 3, 1, 0] (lv' := [(0, .ref (ρ k0)), (1, .int i1), (2, .int i1), (3, .int (0 : Int32))]) rfl ?_
  refine lo_rule (f := (f_X9_lowest_L4 σ k0 i1)) (YS := fun s1 => Y p l e (Rm 1 23) s m args below meth c 5 D cA ρ A0 0 0 (MQ below (QC D cA ρ A0 (some (.int r)) σ τ) args s 0 0 A0) σ τ 4 [(0, .ref (ρ k0)), (1, .int i1), (2, .int s1.1), (3, .int s1.2)] []) (YE := fun e11 => Y p l e (Rm 1 23) s m args below meth c 5 D cA ρ A0 0 0 (MQ below (QC D cA ρ A0 (some (.int r)) σ τ) args s 0 0 A0) σ τ 52 [(2, .int e11)] []) ?_ he11 ?_
  · intro s1 x h hLp hE
    unfold f_X9_lowest_L4 at h
    have hJ45 : ∀ (j5 : Int32) (j6 : Int32), f_X9_lowest_J45 j5 j6 = some x → Y p l e (Rm 1 23) s m args below meth c 5 D cA ρ A0 0 0 (MQ below (QC D cA ρ A0 (some (.int r)) σ τ) args s 0 0 A0) σ τ 45 [(0, .ref (ρ k0)), (1, .int i1), (3, .int j5)] [.int j6] := by
      intro j5 j6 h
      unfold f_X9_lowest_J45 at h
      refine Y_istore_n C (pc := 45) (lv' := [(2, .int j6), (0, .ref (ρ k0)), (1, .int i1), (3, .int j5)]) 2 rfl (by decide) rfl dX9_lowest_45 ?_
      refine Y_iinc C (pc := 46) (v := (j5 + 1)) (lv' := [(3, .int (j5 + 1)), (2, .int j6), (0, .ref (ρ k0)), (1, .int i1)]) 3 rfl (congrArg (fun z => j5 + z) (by decide : Int32.ofInt (1) = (1))) (by decide) rfl dX9_lowest_46 ?_
      refine Y_goto C (pc := 49) (tgt := 4) dX9_lowest_49 (by decide) ?_
      have h := Option.some.inj h
      exact Y_sub [2, 3, 1, 0] rfl (hLp _ h.symm)
    have hJ44 : ∀ (j3 : Int32) (j4 : Int32), f_X9_lowest_J44 j3 j4 = some x → Y p l e (Rm 1 23) s m args below meth c 5 D cA ρ A0 0 0 (MQ below (QC D cA ρ A0 (some (.int r)) σ τ) args s 0 0 A0) σ τ 44 [(0, .ref (ρ k0)), (1, .int i1), (2, .int j3), (3, .int j4)] [] := by
      intro j3 j4 h
      unfold f_X9_lowest_J44 at h
      refine Y_iload_n C (pc := 44) 2 2 rfl rfl dX9_lowest_44 ?_
      exact Y_sub [0, 1, 3] rfl (hJ45 _ _ h)
    refine Y_iload_n C (pc := 4) 3 3 rfl rfl dX9_lowest_4 ?_
    refine Y_aload_n C (pc := 5) 0 0 rfl rfl dX9_lowest_5 ?_
    refine Y_getI C (pc := 6) hk0 q_fi_RX9_215 dX9_lowest_6 ?_
    refine Y_icmp_ge C (pc := 9) (tgt := 52) dX9_lowest_9 (by decide) (fun c10 => ?_) (fun c10 => ?_)
    · rw [if_pos c10] at h
      have h := Option.some.inj h
      exact Y_sub [2] rfl (hE _ h.symm)
    · rw [if_neg c10] at h
      refine Y_aload_n C (pc := 12) 0 0 rfl rfl dX9_lowest_12 ?_
      refine Y_getR C (pc := 13) hk0 q_fi_RX9_40 (by decide) dX9_lowest_13 ?_
      refine Y_bipush C (pc := 16) (v := (6 : Int32)) (by decide) dX9_lowest_16 ?_
      refine Y_iload_n C (pc := 18) 3 3 rfl rfl dX9_lowest_18 ?_
      refine Y_imul C (pc := 19) dX9_lowest_19 ?_
      refine Y_iload_n C (pc := 20) 1 1 rfl rfl dX9_lowest_20 ?_
      refine Y_iadd C (pc := 21) dX9_lowest_21 ?_
      obtain ⟨v2, hv2, h⟩ := Option.bind_eq_some_iff.mp h
      refine Y_iald C (pc := 22) (q_kr_9_13 hk0) hv2 dX9_lowest_22 ?_
      refine Y_istore C (pc := 23) (lv' := [(4, .int v2), (0, .ref (ρ k0)), (1, .int i1), (2, .int s1.1), (3, .int s1.2)]) (by decide) rfl dX9_lowest_23 ?_
      refine Y_iload C (pc := 25) 0 rfl dX9_lowest_25 ?_
      refine Y_iload_n C (pc := 27) 2 3 rfl rfl dX9_lowest_27 ?_
      refine Y_icmp_ge C (pc := 28) (tgt := 44) dX9_lowest_28 (by decide) (fun c9 => ?_) (fun c9 => ?_)
      · rw [if_pos c9] at h
        exact Y_sub [1, 2, 3, 4] rfl (hJ44 _ _ h)
      · rw [if_neg c9] at h
        refine Y_aload_n C (pc := 31) 0 1 rfl rfl dX9_lowest_31 ?_
        refine Y_iload_n C (pc := 32) 3 4 rfl rfl dX9_lowest_32 ?_
        obtain ⟨v7, hv7, h⟩ := Option.bind_eq_some_iff.mp h
        refine Y_callV C [.int s1.2] [] [.int v7] hk0 rfl rfl (c_X9_isKept hk0 hv7) (fun _ h => h.elim) q_cw_yX9_isKept q_ml_RX9_224 ⟨q_im_yX9_isKept, q_se_yX9_isKept⟩ ⟨⟨Nat.le_of_ble_eq_true rfl, Nat.le_of_ble_eq_true rfl⟩, ⟨Nat.zero_le _, Nat.zero_le _⟩, Nat.le_of_ble_eq_true rfl⟩ rfl rfl rfl dX9_lowest_33 ?_
        refine Y_if_eq C (pc := 36) (tgt := 44) dX9_lowest_36 (by decide) (fun c8 => ?_) (fun c8 => ?_)
        · rw [if_pos c8] at h
          exact Y_sub [1, 2, 3, 4] rfl (hJ44 _ _ h)
        · rw [if_neg c8] at h
          refine Y_iload C (pc := 39) 0 rfl dX9_lowest_39 ?_
          refine Y_goto C (pc := 41) (tgt := 45) dX9_lowest_41 (by decide) ?_
          exact Y_sub [1, 2, 4] rfl (hJ45 _ _ h)
  · refine Y_iload_n C (pc := 52) 2 0 rfl rfl dX9_lowest_52 ?_
    cases h
    exact Y_iret C dX9_lowest_53

set_option maxRecDepth 100000 in
set_option maxHeartbeats 4000000 in
theorem c_X9_representative {l : Launch} {D : va_G} {cA ρ : Nat → Nat} {σ : Sg} {τ : Tg} {k0 : Nat} {i1 : Int32} (hI : Inj ρ) (hk0 : kd k0 = (0, 9)) {r : Int32 × Sg} (h : f_X9_representative σ k0 i1 = some r) : Ct l yX9_representative cX9_representative 2 (some .int) 4 88 D cA ρ (Aw ρ) [.ref (ρ k0), .int i1] σ τ (some (.int r.1)) r.2 τ := by
  refine Ct_of (by decide +kernel) (Nat.le_of_ble_eq_true rfl) (fun p e s m args below meth c C => ?_)
  have C : Ctx p l s m args meth c cX9_representative RX9 2 (some .int) D cA ρ (Aw ρ) := C
  have hW : Wr ρ (Aw ρ) := ⟨hI, fun k hk => ⟨k, hk, rfl⟩⟩
  unfold f_X9_representative at h
  refine Y_sub [0, 1] (lv' := [(0, .ref (ρ k0)), (1, .int i1)]) rfl ?_
  refine Y_aload_n C (pc := 0) 0 0 rfl rfl dX9_representative_0 ?_
  refine Y_iload_n C (pc := 1) 1 1 rfl rfl dX9_representative_1 ?_
  obtain ⟨v1, hv1, h⟩ := Option.bind_eq_some_iff.mp h
  refine Y_callV C [.int i1] [] [.int v1] hk0 rfl rfl (c_X9_isOne hk0 hv1) (fun _ h => h.elim) q_cw_yX9_isOne q_ml_RX9_103 ⟨q_im_yX9_isOne, q_se_yX9_isOne⟩ ⟨⟨Nat.le_of_ble_eq_true rfl, Nat.le_of_ble_eq_true rfl⟩, ⟨Nat.zero_le _, Nat.zero_le _⟩, Nat.le_of_ble_eq_true rfl⟩ rfl rfl rfl dX9_representative_2 ?_
  refine Y_if_ne C (pc := 5) (tgt := 14) dX9_representative_5 (by decide) (fun c7 => ?_) (fun c7 => ?_)
  · rw [if_neg c7] at h
    refine Y_aload_n C (pc := 14) 0 0 rfl rfl dX9_representative_14 ?_
    obtain ⟨v2, hv2, h⟩ := Option.bind_eq_some_iff.mp h
    refine Y_callV C [] [] [] hk0 rfl rfl (c_X9_looks hI hk0 hv2) (fun _ h => h) q_cw_yX9_looks q_ml_RX9_177 ⟨q_im_yX9_looks, q_se_yX9_looks⟩ ⟨⟨Nat.le_of_ble_eq_true rfl, Nat.le_of_ble_eq_true rfl⟩, ⟨Nat.zero_le _, Nat.zero_le _⟩, Nat.le_of_ble_eq_true rfl⟩ rfl rfl rfl dX9_representative_15 ?_
    refine Y_aload_n C (pc := 18) 0 0 rfl rfl dX9_representative_18 ?_
    obtain ⟨v3, hv3, h⟩ := Option.bind_eq_some_iff.mp h
    refine Y_callV C [] [] [] hk0 rfl rfl (c_X9_laysTurns hI hk0 hv3) (fun _ h => h) q_cw_yX9_laysTurns q_ml_RX9_221 ⟨q_im_yX9_laysTurns, q_se_yX9_laysTurns⟩ ⟨⟨Nat.le_of_ble_eq_true rfl, Nat.le_of_ble_eq_true rfl⟩, ⟨Nat.zero_le _, Nat.zero_le _⟩, Nat.le_of_ble_eq_true rfl⟩ rfl rfl rfl dX9_representative_19 ?_
    refine Y_aload_n C (pc := 22) 0 0 rfl rfl dX9_representative_22 ?_
    refine Y_aload_n C (pc := 23) 0 0 rfl rfl dX9_representative_23 ?_
    refine Y_iload_n C (pc := 24) 1 1 rfl rfl dX9_representative_24 ?_
    obtain ⟨v4, hv4, h⟩ := Option.bind_eq_some_iff.mp h
    refine Y_callV C [.int i1] [.ref (ρ k0)] [.int v4, .ref (ρ k0)] hk0 rfl rfl (c_X9_lowest hk0 hv4) (fun _ h => h.elim) q_cw_yX9_lowest q_ml_RX9_230 ⟨q_im_yX9_lowest, q_se_yX9_lowest⟩ ⟨⟨Nat.le_of_ble_eq_true rfl, Nat.le_of_ble_eq_true rfl⟩, ⟨Nat.zero_le _, Nat.zero_le _⟩, Nat.le_of_ble_eq_true rfl⟩ rfl rfl rfl dX9_representative_25 ?_
    obtain ⟨v5, hv5, h⟩ := Option.bind_eq_some_iff.mp h
    refine Y_callV C [.int v4] [] [.int v5.1] hk0 rfl rfl (c_X9_tells hI hk0 hv5) (fun _ h => h) q_cw_yX9_tells q_ml_RX9_82 ⟨q_im_yX9_tells, q_se_yX9_tells⟩ ⟨⟨Nat.le_of_ble_eq_true rfl, Nat.le_of_ble_eq_true rfl⟩, ⟨Nat.zero_le _, Nat.zero_le _⟩, Nat.le_of_ble_eq_true rfl⟩ rfl rfl rfl dX9_representative_28 ?_
    cases h
    exact Y_iret C dX9_representative_31
  · rw [if_pos c7] at h
    refine Y_aload_n C (pc := 8) 0 0 rfl rfl dX9_representative_8 ?_
    refine Y_iconst C (pc := 9) (v := (1 : Int32)) (by decide) dX9_representative_9 ?_
    obtain ⟨v6, hv6, h⟩ := Option.bind_eq_some_iff.mp h
    refine Y_callV C [.int (1 : Int32)] [] [.int v6.1] hk0 rfl rfl (c_X9_fails hI hk0 hv6) (fun _ h => h) q_cw_yX9_fails q_ml_RX9_94 ⟨q_im_yX9_fails, q_se_yX9_fails⟩ ⟨⟨Nat.le_of_ble_eq_true rfl, Nat.le_of_ble_eq_true rfl⟩, ⟨Nat.zero_le _, Nat.zero_le _⟩, Nat.le_of_ble_eq_true rfl⟩ rfl rfl rfl dX9_representative_10 ?_
    cases h
    exact Y_iret C dX9_representative_13

set_option maxRecDepth 100000 in
set_option maxHeartbeats 4000000 in
theorem c_X9_adds {l : Launch} {D : va_G} {cA ρ : Nat → Nat} {σ : Sg} {τ : Tg} {k0 : Nat} {i1 : Int32} (hI : Inj ρ) (hk0 : kd k0 = (0, 9)) {r : Sg} (h : f_X9_adds σ k0 i1 = some r) : Ct l yX9_adds cX9_adds 3 none 6 141 D cA ρ (Aw ρ) [.ref (ρ k0), .int i1] σ τ none r τ := by
  refine Ct_of (by decide +kernel) (Nat.le_of_ble_eq_true rfl) (fun p e s m args below meth c C => ?_)
  have C : Ctx p l s m args meth c cX9_adds RX9 3 none D cA ρ (Aw ρ) := C
  have hW : Wr ρ (Aw ρ) := ⟨hI, fun k hk => ⟨k, hk, rfl⟩⟩
  unfold f_X9_adds at h
  refine Y_sub [0, 1] (lv' := [(0, .ref (ρ k0)), (1, .int i1)]) rfl ?_
  have hJ54 : ∀ (j6 : Int32) (j7 : Int32) (sj8 : Sg), f_X9_adds_J54 k0 j6 j7 sj8 = some r → Y p l e (Rm 6 141) s m args below meth c 3 D cA ρ (Aw ρ) 0 0 (MQ below (QC D cA ρ (Aw ρ) none r τ) args s 0 0 (Aw ρ)) sj8 τ 54 [(0, .ref (ρ k0))] [.int j6, .int j7, .ref (ρ (k0 + 13))] := by
    intro j6 j7 sj8 h
    unfold f_X9_adds_J54 at h
    obtain ⟨s9, hs9, h⟩ := Option.bind_eq_some_iff.mp h
    refine Y_iast C (pc := 54) hW (q_kr_9_16 hk0) (q_lr_9_16 hk0) hs9 dX9_adds_54 ?_
    refine Y_aload_n C (pc := 55) 0 0 rfl rfl dX9_adds_55 ?_
    refine Y_getR C (pc := 56) hk0 q_fi_RX9_49 (by decide) dX9_adds_56 ?_
    refine Y_aload_n C (pc := 59) 0 0 rfl rfl dX9_adds_59 ?_
    refine Y_getI C (pc := 60) hk0 q_fi_RX9_233 dX9_adds_60 ?_
    refine Y_aload_n C (pc := 63) 0 0 rfl rfl dX9_adds_63 ?_
    obtain ⟨v10, hv10, h⟩ := Option.bind_eq_some_iff.mp h
    refine Y_callV C [] [.int (s9 k0 19), .ref (ρ (k0 + 14))] [.int v10, .int (s9 k0 19), .ref (ρ (k0 + 14))] hk0 rfl rfl (c_X9_pairs hk0 hv10) (fun _ h => h.elim) q_cw_yX9_pairs q_ml_RX9_187 ⟨q_im_yX9_pairs, q_se_yX9_pairs⟩ ⟨⟨Nat.le_of_ble_eq_true rfl, Nat.le_of_ble_eq_true rfl⟩, ⟨Nat.zero_le _, Nat.zero_le _⟩, Nat.le_of_ble_eq_true rfl⟩ rfl rfl rfl dX9_adds_64 ?_
    obtain ⟨s11, hs11, h⟩ := Option.bind_eq_some_iff.mp h
    refine Y_iast C (pc := 67) hW (q_kr_9_17 hk0) (q_lr_9_17 hk0) hs11 dX9_adds_67 ?_
    refine Y_aload_n C (pc := 68) 0 0 rfl rfl dX9_adds_68 ?_
    refine Y_getR C (pc := 69) hk0 q_fi_RX9_52 (by decide) dX9_adds_69 ?_
    refine Y_aload_n C (pc := 72) 0 0 rfl rfl dX9_adds_72 ?_
    refine Y_getI C (pc := 73) hk0 q_fi_RX9_233 dX9_adds_73 ?_
    refine Y_iconst C (pc := 76) (v := (1 : Int32)) (by decide) dX9_adds_76 ?_
    obtain ⟨s12, hs12, h⟩ := Option.bind_eq_some_iff.mp h
    refine Y_zast C (pc := 77) hW (q_kr_9_18 hk0) (q_lr_9_18 hk0) hs12 dX9_adds_77 ?_
    refine Y_aload_n C (pc := 78) 0 0 rfl rfl dX9_adds_78 ?_
    refine Y_dup C (pc := 79) rfl dX9_adds_79 ?_
    refine Y_getI C (pc := 80) hk0 q_fi_RX9_233 dX9_adds_80 ?_
    refine Y_iconst C (pc := 83) (v := (1 : Int32)) (by decide) dX9_adds_83 ?_
    refine Y_iadd C (pc := 84) dX9_adds_84 ?_
    refine Y_putI C (pc := 85) hW hk0 (q_lo_9 hk0) q_fp_RX9_233 dX9_adds_85 ?_
    cases h
    exact Y_vret C dX9_adds_88
  refine Y_iconst C (pc := 0) (v := (0 : Int32)) (by decide) dX9_adds_0 ?_
  refine Y_istore_n C (pc := 1) (lv' := [(2, .int (0 : Int32)), (0, .ref (ρ k0)), (1, .int i1)]) 2 rfl (by decide) rfl dX9_adds_1 ?_
  obtain ⟨e5, he5, h⟩ := Option.bind_eq_some_iff.mp h
  refine Y_sub [1, 2, 0] (lv' := [(0, .ref (ρ k0)), (1, .int i1), (2, .int (0 : Int32))]) rfl ?_
  refine lo_rule (f := (f_X9_adds_L2 k0)) (YS := fun s1 => Y p l e (Rm 6 141) s m args below meth c 3 D cA ρ (Aw ρ) 0 0 (MQ below (QC D cA ρ (Aw ρ) none r τ) args s 0 0 (Aw ρ)) s1.2 τ 2 [(0, .ref (ρ k0)), (1, .int i1), (2, .int s1.1)] []) (YE := fun e5 => Y p l e (Rm 6 141) s m args below meth c 3 D cA ρ (Aw ρ) 0 0 (MQ below (QC D cA ρ (Aw ρ) none r τ) args s 0 0 (Aw ρ)) e5 τ 34 [(0, .ref (ρ k0)), (1, .int i1)] []) ?_ he5 ?_
  · intro s1 x h hLp hE
    unfold f_X9_adds_L2 at h
    refine Y_iload_n C (pc := 2) 2 2 rfl rfl dX9_adds_2 ?_
    refine Y_bipush C (pc := 3) (v := (6 : Int32)) (by decide) dX9_adds_3 ?_
    refine Y_icmp_ge C (pc := 5) (tgt := 34) dX9_adds_5 (by decide) (fun c4 => ?_) (fun c4 => ?_)
    · rw [if_pos c4] at h
      have h := Option.some.inj h
      exact Y_sub [0, 1] rfl (hE _ h.symm)
    · rw [if_neg c4] at h
      refine Y_aload_n C (pc := 8) 0 0 rfl rfl dX9_adds_8 ?_
      refine Y_getR C (pc := 9) hk0 q_fi_RX9_43 (by decide) dX9_adds_9 ?_
      refine Y_bipush C (pc := 12) (v := (6 : Int32)) (by decide) dX9_adds_12 ?_
      refine Y_aload_n C (pc := 14) 0 0 rfl rfl dX9_adds_14 ?_
      refine Y_getI C (pc := 15) hk0 q_fi_RX9_233 dX9_adds_15 ?_
      refine Y_imul C (pc := 18) dX9_adds_18 ?_
      refine Y_iload_n C (pc := 19) 2 2 rfl rfl dX9_adds_19 ?_
      refine Y_iadd C (pc := 20) dX9_adds_20 ?_
      refine Y_aload_n C (pc := 21) 0 0 rfl rfl dX9_adds_21 ?_
      refine Y_getR C (pc := 22) hk0 q_fi_RX9_25 (by decide) dX9_adds_22 ?_
      refine Y_iload_n C (pc := 25) 2 2 rfl rfl dX9_adds_25 ?_
      obtain ⟨v2, hv2, h⟩ := Option.bind_eq_some_iff.mp h
      refine Y_iald C (pc := 26) (q_kr_9_8 hk0) hv2 dX9_adds_26 ?_
      obtain ⟨s3, hs3, h⟩ := Option.bind_eq_some_iff.mp h
      refine Y_iast C (pc := 27) hW (q_kr_9_15 hk0) (q_lr_9_15 hk0) hs3 dX9_adds_27 ?_
      refine Y_iinc C (pc := 28) (v := (s1.1 + 1)) (lv' := [(2, .int (s1.1 + 1)), (0, .ref (ρ k0)), (1, .int i1)]) 2 rfl (congrArg (fun z => s1.1 + z) (by decide : Int32.ofInt (1) = (1))) (by decide) rfl dX9_adds_28 ?_
      refine Y_goto C (pc := 31) (tgt := 2) dX9_adds_31 (by decide) ?_
      have h := Option.some.inj h
      exact Y_sub [1, 2, 0] rfl (hLp _ h.symm)
  · refine Y_aload_n C (pc := 34) 0 0 rfl rfl dX9_adds_34 ?_
    refine Y_getR C (pc := 35) hk0 q_fi_RX9_46 (by decide) dX9_adds_35 ?_
    refine Y_aload_n C (pc := 38) 0 0 rfl rfl dX9_adds_38 ?_
    refine Y_getI C (pc := 39) hk0 q_fi_RX9_233 dX9_adds_39 ?_
    refine Y_iload_n C (pc := 42) 1 1 rfl rfl dX9_adds_42 ?_
    refine Y_if_eq C (pc := 43) (tgt := 53) dX9_adds_43 (by decide) (fun c14 => ?_) (fun c14 => ?_)
    · rw [if_pos c14] at h
      refine Y_iconst C (pc := 53) (v := (0 : Int32)) (by decide) dX9_adds_53 ?_
      exact Y_sub [0] rfl (hJ54 _ _ _ h)
    · rw [if_neg c14] at h
      refine Y_aload_n C (pc := 46) 0 0 rfl rfl dX9_adds_46 ?_
      obtain ⟨v13, hv13, h⟩ := Option.bind_eq_some_iff.mp h
      refine Y_callV C [] [.int (e5 k0 19), .ref (ρ (k0 + 13))] [.int v13.1, .int (e5 k0 19), .ref (ρ (k0 + 13))] hk0 rfl rfl (c_X9_boundOf hI hk0 hv13) (fun _ h => h) q_cw_yX9_boundOf q_ml_RX9_206 ⟨q_im_yX9_boundOf, q_se_yX9_boundOf⟩ ⟨⟨Nat.le_of_ble_eq_true rfl, Nat.le_of_ble_eq_true rfl⟩, ⟨Nat.zero_le _, Nat.zero_le _⟩, Nat.le_of_ble_eq_true rfl⟩ rfl rfl rfl dX9_adds_47 ?_
      refine Y_goto C (pc := 50) (tgt := 54) dX9_adds_50 (by decide) ?_
      exact Y_sub [0] rfl (hJ54 _ _ _ h)

set_option maxRecDepth 100000 in
set_option maxHeartbeats 4000000 in
theorem c_X9_looksAt {l : Launch} {D : va_G} {cA ρ : Nat → Nat} {σ : Sg} {τ : Tg} {k0 : Nat} {i1 : Int32} (hI : Inj ρ) (hk0 : kd k0 = (0, 9)) {r : Sg} (h : f_X9_looksAt σ k0 i1 = some r) : Ct l yX9_looksAt cX9_looksAt 3 none 0 0 D cA ρ (Aw ρ) [.ref (ρ k0), .int i1] σ τ none r τ := by
  refine Ct_of (by decide +kernel) (Nat.le_of_ble_eq_true rfl) (fun p e s m args below meth c C => ?_)
  have C : Ctx p l s m args meth c cX9_looksAt RX9 3 none D cA ρ (Aw ρ) := C
  have hW : Wr ρ (Aw ρ) := ⟨hI, fun k hk => ⟨k, hk, rfl⟩⟩
  unfold f_X9_looksAt at h
  refine Y_sub [0, 1] (lv' := [(0, .ref (ρ k0)), (1, .int i1)]) rfl ?_
  refine Y_iconst C (pc := 0) (v := (0 : Int32)) (by decide) dX9_looksAt_0 ?_
  refine Y_istore_n C (pc := 1) (lv' := [(2, .int (0 : Int32)), (0, .ref (ρ k0)), (1, .int i1)]) 2 rfl (by decide) rfl dX9_looksAt_1 ?_
  obtain ⟨e5, he5, h⟩ := Option.bind_eq_some_iff.mp h
  refine Y_sub [1, 2, 0] (lv' := [(0, .ref (ρ k0)), (1, .int i1), (2, .int (0 : Int32))]) rfl ?_
  refine lo_rule (f := (f_X9_looksAt_L2 k0 i1)) (YS := fun s1 => Y p l e (Rm 0 0) s m args below meth c 3 D cA ρ (Aw ρ) 0 0 (MQ below (QC D cA ρ (Aw ρ) none r τ) args s 0 0 (Aw ρ)) s1.2 τ 2 [(0, .ref (ρ k0)), (1, .int i1), (2, .int s1.1)] []) (YE := fun e5 => Y p l e (Rm 0 0) s m args below meth c 3 D cA ρ (Aw ρ) 0 0 (MQ below (QC D cA ρ (Aw ρ) none r τ) args s 0 0 (Aw ρ)) e5 τ 31 [] []) ?_ he5 ?_
  · intro s1 x h hLp hE
    unfold f_X9_looksAt_L2 at h
    refine Y_iload_n C (pc := 2) 2 2 rfl rfl dX9_looksAt_2 ?_
    refine Y_bipush C (pc := 3) (v := (6 : Int32)) (by decide) dX9_looksAt_3 ?_
    refine Y_icmp_ge C (pc := 5) (tgt := 31) dX9_looksAt_5 (by decide) (fun c4 => ?_) (fun c4 => ?_)
    · rw [if_pos c4] at h
      have h := Option.some.inj h
      exact Y_sub [] rfl (hE _ h.symm)
    · rw [if_neg c4] at h
      refine Y_aload_n C (pc := 8) 0 0 rfl rfl dX9_looksAt_8 ?_
      refine Y_getR C (pc := 9) hk0 q_fi_RX9_25 (by decide) dX9_looksAt_9 ?_
      refine Y_iload_n C (pc := 12) 2 2 rfl rfl dX9_looksAt_12 ?_
      refine Y_aload_n C (pc := 13) 0 0 rfl rfl dX9_looksAt_13 ?_
      refine Y_getR C (pc := 14) hk0 q_fi_RX9_43 (by decide) dX9_looksAt_14 ?_
      refine Y_bipush C (pc := 17) (v := (6 : Int32)) (by decide) dX9_looksAt_17 ?_
      refine Y_iload_n C (pc := 19) 1 1 rfl rfl dX9_looksAt_19 ?_
      refine Y_imul C (pc := 20) dX9_looksAt_20 ?_
      refine Y_iload_n C (pc := 21) 2 2 rfl rfl dX9_looksAt_21 ?_
      refine Y_iadd C (pc := 22) dX9_looksAt_22 ?_
      obtain ⟨v2, hv2, h⟩ := Option.bind_eq_some_iff.mp h
      refine Y_iald C (pc := 23) (q_kr_9_15 hk0) hv2 dX9_looksAt_23 ?_
      obtain ⟨s3, hs3, h⟩ := Option.bind_eq_some_iff.mp h
      refine Y_iast C (pc := 24) hW (q_kr_9_8 hk0) (q_lr_9_8 hk0) hs3 dX9_looksAt_24 ?_
      refine Y_iinc C (pc := 25) (v := (s1.1 + 1)) (lv' := [(2, .int (s1.1 + 1)), (0, .ref (ρ k0)), (1, .int i1)]) 2 rfl (congrArg (fun z => s1.1 + z) (by decide : Int32.ofInt (1) = (1))) (by decide) rfl dX9_looksAt_25 ?_
      refine Y_goto C (pc := 28) (tgt := 2) dX9_looksAt_28 (by decide) ?_
      have h := Option.some.inj h
      exact Y_sub [1, 2, 0] rfl (hLp _ h.symm)
  · cases h
    exact Y_vret C dX9_looksAt_31

set_option maxRecDepth 100000 in
set_option maxHeartbeats 4000000 in
theorem c_X9_ranks {l : Launch} {D : va_G} {cA ρ : Nat → Nat} {σ : Sg} {τ : Tg} {k0 : Nat} {i1 : Int32} {i2 : Int32} (hI : Inj ρ) (hk0 : kd k0 = (0, 9)) {r : Int32 × Sg} (h : f_X9_ranks σ k0 i1 i2 = some r) : Ct l yX9_ranks cX9_ranks 7 (some .int) 4 94 D cA ρ (Aw ρ) [.ref (ρ k0), .int i1, .int i2] σ τ (some (.int r.1)) r.2 τ := by
  refine Ct_of (by decide +kernel) (Nat.le_of_ble_eq_true rfl) (fun p e s m args below meth c C => ?_)
  have C : Ctx p l s m args meth c cX9_ranks RX9 7 (some .int) D cA ρ (Aw ρ) := C
  have hW : Wr ρ (Aw ρ) := ⟨hI, fun k hk => ⟨k, hk, rfl⟩⟩
  unfold f_X9_ranks at h
  refine Y_sub [0, 1, 2] (lv' := [(0, .ref (ρ k0)), (1, .int i1), (2, .int i2)]) rfl ?_
  refine Y_iconst C (pc := 0) (v := (0 : Int32)) (by decide) dX9_ranks_0 ?_
  refine Y_istore_n C (pc := 1) (lv' := [(3, .int (0 : Int32)), (0, .ref (ρ k0)), (1, .int i1), (2, .int i2)]) 3 rfl (by decide) rfl dX9_ranks_1 ?_
  refine Y_iconst C (pc := 2) (v := (0 : Int32)) (by decide) dX9_ranks_2 ?_
  refine Y_istore C (pc := 3) (lv' := [(4, .int (0 : Int32)), (3, .int (0 : Int32)), (0, .ref (ρ k0)), (1, .int i1), (2, .int i2)]) (by decide) rfl dX9_ranks_3 ?_
  obtain ⟨e27, he27, h⟩ := Option.bind_eq_some_iff.mp h
  refine Y_sub [2, 3, 4, 1, 0] (lv' := [(0, .ref (ρ k0)), (1, .int i1), (2, .int i2), (3, .int (0 : Int32)), (4, .int (0 : Int32))]) rfl ?_
  refine lo_rule (f := (f_X9_ranks_L5 k0 i2 i1)) (YS := fun s1 => Y p l e (Rm 4 94) s m args below meth c 7 D cA ρ (Aw ρ) 0 0 (MQ below (QC D cA ρ (Aw ρ) (some (.int r.1)) r.2 τ) args s 0 0 (Aw ρ)) s1.2.2 τ 5 [(0, .ref (ρ k0)), (1, .int i1), (2, .int i2), (3, .int s1.1), (4, .int s1.2.1)] []) (YE := fun e27 => Y p l e (Rm 4 94) s m args below meth c 7 D cA ρ (Aw ρ) 0 0 (MQ below (QC D cA ρ (Aw ρ) (some (.int r.1)) r.2 τ) args s 0 0 (Aw ρ)) e27.2 τ 136 [(3, .int e27.1)] []) ?_ he27 ?_
  · intro s1 x h hLp hE
    unfold f_X9_ranks_L5 at h
    have hJ130 : ∀ (j4 : Int32) (j5 : Int32) (sj6 : Sg), f_X9_ranks_J130 j4 j5 sj6 = some x → Y p l e (Rm 4 94) s m args below meth c 7 D cA ρ (Aw ρ) 0 0 (MQ below (QC D cA ρ (Aw ρ) (some (.int r.1)) r.2 τ) args s 0 0 (Aw ρ)) sj6 τ 130 [(0, .ref (ρ k0)), (1, .int i1), (2, .int i2), (3, .int j4), (4, .int j5)] [] := by
      intro j4 j5 sj6 h
      unfold f_X9_ranks_J130 at h
      refine Y_iinc C (pc := 130) (v := (j5 + 1)) (lv' := [(4, .int (j5 + 1)), (0, .ref (ρ k0)), (1, .int i1), (2, .int i2), (3, .int j4)]) 4 rfl (congrArg (fun z => j5 + z) (by decide : Int32.ofInt (1) = (1))) (by decide) rfl dX9_ranks_130 ?_
      refine Y_goto C (pc := 133) (tgt := 5) dX9_ranks_133 (by decide) ?_
      have h := Option.some.inj h
      exact Y_sub [1, 2, 3, 4, 0] rfl (hLp _ h.symm)
    have hJ40 : ∀ (j7 : Int32) (j8 : Int32) (sj9 : Sg), f_X9_ranks_J40 k0 i1 j7 j8 sj9 = some x → Y p l e (Rm 4 94) s m args below meth c 7 D cA ρ (Aw ρ) 0 0 (MQ below (QC D cA ρ (Aw ρ) (some (.int r.1)) r.2 τ) args s 0 0 (Aw ρ)) sj9 τ 40 [(0, .ref (ρ k0)), (1, .int i1), (2, .int i2), (3, .int j7), (4, .int j8)] [] := by
      intro j7 j8 sj9 h
      unfold f_X9_ranks_J40 at h
      refine Y_aload_n C (pc := 40) 0 0 rfl rfl dX9_ranks_40 ?_
      refine Y_iload_n C (pc := 41) 1 1 rfl rfl dX9_ranks_41 ?_
      refine Y_iload C (pc := 42) 4 rfl dX9_ranks_42 ?_
      obtain ⟨v10, hv10, h⟩ := Option.bind_eq_some_iff.mp h
      refine Y_callV C [.int i1, .int j8] [] [.int v10.1] hk0 rfl rfl (c_X9_entryOf hI hk0 hv10) (fun _ h => h) q_cw_yX9_entryOf q_ml_RX9_200 ⟨q_im_yX9_entryOf, q_se_yX9_entryOf⟩ ⟨⟨Nat.le_of_ble_eq_true rfl, Nat.le_of_ble_eq_true rfl⟩, ⟨Nat.zero_le _, Nat.zero_le _⟩, Nat.le_of_ble_eq_true rfl⟩ rfl rfl rfl dX9_ranks_44 ?_
      refine Y_istore C (pc := 47) (lv' := [(5, .int v10.1), (0, .ref (ρ k0)), (1, .int i1), (2, .int i2), (3, .int j7), (4, .int j8)]) (by decide) rfl dX9_ranks_47 ?_
      refine Y_iload_n C (pc := 49) 3 4 rfl rfl dX9_ranks_49 ?_
      refine Y_istore C (pc := 50) (lv' := [(6, .int j7), (5, .int v10.1), (0, .ref (ρ k0)), (1, .int i1), (2, .int i2), (3, .int j7), (4, .int j8)]) (by decide) rfl dX9_ranks_50 ?_
      obtain ⟨e19, he19, h⟩ := Option.bind_eq_some_iff.mp h
      refine Y_sub [2, 3, 4, 5, 6, 1, 0] (lv' := [(0, .ref (ρ k0)), (1, .int i1), (2, .int i2), (3, .int j7), (4, .int j8), (5, .int v10.1), (6, .int j7)]) rfl ?_
      refine lo_rule (f := (f_X9_ranks_L52 k0 v10)) (YS := fun s11 => Y p l e (Rm 4 94) s m args below meth c 7 D cA ρ (Aw ρ) 0 0 (MQ below (QC D cA ρ (Aw ρ) (some (.int r.1)) r.2 τ) args s 0 0 (Aw ρ)) s11.2 τ 52 [(0, .ref (ρ k0)), (1, .int i1), (2, .int i2), (3, .int j7), (4, .int j8), (5, .int v10.1), (6, .int s11.1)] []) (YE := fun e19 => Y p l e (Rm 4 94) s m args below meth c 7 D cA ρ (Aw ρ) 0 0 (MQ below (QC D cA ρ (Aw ρ) (some (.int r.1)) r.2 τ) args s 0 0 (Aw ρ)) e19.2 τ 109 [(0, .ref (ρ k0)), (1, .int i1), (2, .int i2), (3, .int j7), (4, .int j8), (5, .int v10.1), (6, .int e19.1)] []) ?_ he19 ?_
      · intro s11 x h hLp hE
        unfold f_X9_ranks_L52 at h
        refine Y_iload C (pc := 52) 6 rfl dX9_ranks_52 ?_
        refine Y_if_le C (pc := 54) (tgt := 109) dX9_ranks_54 (by decide) (fun c18 => ?_) (fun c18 => ?_)
        · rw [if_pos c18] at h
          have h := Option.some.inj h
          exact Y_sub [0, 1, 2, 3, 4, 5, 6] rfl (hE _ h.symm)
        · rw [if_neg c18] at h
          refine Y_aload_n C (pc := 57) 0 0 rfl rfl dX9_ranks_57 ?_
          refine Y_getR C (pc := 58) hk0 q_fi_RX9_65 (by decide) dX9_ranks_58 ?_
          refine Y_iload C (pc := 61) 6 rfl dX9_ranks_61 ?_
          refine Y_iconst C (pc := 63) (v := (1 : Int32)) (by decide) dX9_ranks_63 ?_
          refine Y_isub C (pc := 64) dX9_ranks_64 ?_
          obtain ⟨v12, hv12, h⟩ := Option.bind_eq_some_iff.mp h
          refine Y_iald C (pc := 65) (q_kr_9_23 hk0) hv12 dX9_ranks_65 ?_
          refine Y_iload C (pc := 66) 5 rfl dX9_ranks_66 ?_
          refine Y_icmp_le C (pc := 68) (tgt := 109) dX9_ranks_68 (by decide) (fun c17 => ?_) (fun c17 => ?_)
          · rw [if_pos c17] at h
            have h := Option.some.inj h
            exact Y_sub [0, 1, 2, 3, 4, 5, 6] rfl (hE _ h.symm)
          · rw [if_neg c17] at h
            refine Y_aload_n C (pc := 71) 0 0 rfl rfl dX9_ranks_71 ?_
            refine Y_getR C (pc := 72) hk0 q_fi_RX9_65 (by decide) dX9_ranks_72 ?_
            refine Y_iload C (pc := 75) 6 rfl dX9_ranks_75 ?_
            refine Y_aload_n C (pc := 77) 0 0 rfl rfl dX9_ranks_77 ?_
            refine Y_getR C (pc := 78) hk0 q_fi_RX9_65 (by decide) dX9_ranks_78 ?_
            refine Y_iload C (pc := 81) 6 rfl dX9_ranks_81 ?_
            refine Y_iconst C (pc := 83) (v := (1 : Int32)) (by decide) dX9_ranks_83 ?_
            refine Y_isub C (pc := 84) dX9_ranks_84 ?_
            obtain ⟨v13, hv13, h⟩ := Option.bind_eq_some_iff.mp h
            refine Y_iald C (pc := 85) (q_kr_9_23 hk0) hv13 dX9_ranks_85 ?_
            obtain ⟨s14, hs14, h⟩ := Option.bind_eq_some_iff.mp h
            refine Y_iast C (pc := 86) hW (q_kr_9_23 hk0) (q_lr_9_23 hk0) hs14 dX9_ranks_86 ?_
            refine Y_aload_n C (pc := 87) 0 0 rfl rfl dX9_ranks_87 ?_
            refine Y_getR C (pc := 88) hk0 q_fi_RX9_62 (by decide) dX9_ranks_88 ?_
            refine Y_iload C (pc := 91) 6 rfl dX9_ranks_91 ?_
            refine Y_aload_n C (pc := 93) 0 0 rfl rfl dX9_ranks_93 ?_
            refine Y_getR C (pc := 94) hk0 q_fi_RX9_62 (by decide) dX9_ranks_94 ?_
            refine Y_iload C (pc := 97) 6 rfl dX9_ranks_97 ?_
            refine Y_iconst C (pc := 99) (v := (1 : Int32)) (by decide) dX9_ranks_99 ?_
            refine Y_isub C (pc := 100) dX9_ranks_100 ?_
            obtain ⟨v15, hv15, h⟩ := Option.bind_eq_some_iff.mp h
            refine Y_iald C (pc := 101) (q_kr_9_22 hk0) hv15 dX9_ranks_101 ?_
            obtain ⟨s16, hs16, h⟩ := Option.bind_eq_some_iff.mp h
            refine Y_iast C (pc := 102) hW (q_kr_9_22 hk0) (q_lr_9_22 hk0) hs16 dX9_ranks_102 ?_
            refine Y_iinc C (pc := 103) (v := (s11.1 + (-1))) (lv' := [(6, .int (s11.1 + (-1))), (0, .ref (ρ k0)), (1, .int i1), (2, .int i2), (3, .int j7), (4, .int j8), (5, .int v10.1)]) 6 rfl (congrArg (fun z => s11.1 + z) (by decide : Int32.ofInt (-1) = (-1))) (by decide) rfl dX9_ranks_103 ?_
            refine Y_goto C (pc := 106) (tgt := 52) dX9_ranks_106 (by decide) ?_
            have h := Option.some.inj h
            exact Y_sub [1, 2, 3, 4, 5, 6, 0] rfl (hLp _ h.symm)
      · refine Y_aload_n C (pc := 109) 0 0 rfl rfl dX9_ranks_109 ?_
        refine Y_getR C (pc := 110) hk0 q_fi_RX9_65 (by decide) dX9_ranks_110 ?_
        refine Y_iload C (pc := 113) 6 rfl dX9_ranks_113 ?_
        refine Y_iload C (pc := 115) 5 rfl dX9_ranks_115 ?_
        obtain ⟨s20, hs20, h⟩ := Option.bind_eq_some_iff.mp h
        refine Y_iast C (pc := 117) hW (q_kr_9_23 hk0) (q_lr_9_23 hk0) hs20 dX9_ranks_117 ?_
        refine Y_aload_n C (pc := 118) 0 0 rfl rfl dX9_ranks_118 ?_
        refine Y_getR C (pc := 119) hk0 q_fi_RX9_62 (by decide) dX9_ranks_119 ?_
        refine Y_iload C (pc := 122) 6 rfl dX9_ranks_122 ?_
        refine Y_iload C (pc := 124) 4 rfl dX9_ranks_124 ?_
        obtain ⟨s21, hs21, h⟩ := Option.bind_eq_some_iff.mp h
        refine Y_iast C (pc := 126) hW (q_kr_9_22 hk0) (q_lr_9_22 hk0) hs21 dX9_ranks_126 ?_
        refine Y_iinc C (pc := 127) (v := (j7 + 1)) (lv' := [(3, .int (j7 + 1)), (0, .ref (ρ k0)), (1, .int i1), (2, .int i2), (4, .int j8), (5, .int v10.1), (6, .int e19.1)]) 3 rfl (congrArg (fun z => j7 + z) (by decide : Int32.ofInt (1) = (1))) (by decide) rfl dX9_ranks_127 ?_
        exact Y_sub [1, 2, 3, 0, 4] rfl (hJ130 _ _ _ h)
    refine Y_iload C (pc := 5) 4 rfl dX9_ranks_5 ?_
    refine Y_aload_n C (pc := 7) 0 0 rfl rfl dX9_ranks_7 ?_
    refine Y_getR C (pc := 8) hk0 q_fi_RX9_7 (by decide) dX9_ranks_8 ?_
    refine Y_iconst C (pc := 11) (v := (0 : Int32)) (by decide) dX9_ranks_11 ?_
    obtain ⟨v2, hv2, h⟩ := Option.bind_eq_some_iff.mp h
    refine Y_iald C (pc := 12) (q_kr_9_0 hk0) hv2 dX9_ranks_12 ?_
    refine Y_icmp_ge C (pc := 13) (tgt := 136) dX9_ranks_13 (by decide) (fun c26 => ?_) (fun c26 => ?_)
    · rw [if_pos c26] at h
      have h := Option.some.inj h
      exact Y_sub [3] rfl (hE _ h.symm)
    · rw [if_neg c26] at h
      refine Y_aload_n C (pc := 16) 0 0 rfl rfl dX9_ranks_16 ?_
      refine Y_iload C (pc := 17) 4 rfl dX9_ranks_17 ?_
      obtain ⟨v3, hv3, h⟩ := Option.bind_eq_some_iff.mp h
      refine Y_callV C [.int s1.2.1] [] [.int v3] hk0 rfl rfl (c_X9_isTaken hk0 hv3) (fun _ h => h.elim) q_cw_yX9_isTaken q_ml_RX9_180 ⟨q_im_yX9_isTaken, q_se_yX9_isTaken⟩ ⟨⟨Nat.le_of_ble_eq_true rfl, Nat.le_of_ble_eq_true rfl⟩, ⟨Nat.zero_le _, Nat.zero_le _⟩, Nat.le_of_ble_eq_true rfl⟩ rfl rfl rfl dX9_ranks_19 ?_
      refine Y_if_ne C (pc := 22) (tgt := 130) dX9_ranks_22 (by decide) (fun c25 => ?_) (fun c25 => ?_)
      · rw [if_neg c25] at h
        exact Y_sub [0, 1, 2, 3, 4] rfl (hJ130 _ _ _ h)
      · rw [if_pos c25] at h
        refine Y_iload_n C (pc := 25) 2 2 rfl rfl dX9_ranks_25 ?_
        refine Y_if_eq C (pc := 26) (tgt := 40) dX9_ranks_26 (by decide) (fun c24 => ?_) (fun c24 => ?_)
        · rw [if_pos c24] at h
          exact Y_sub [0, 1, 2, 3, 4] rfl (hJ40 _ _ _ h)
        · rw [if_neg c24] at h
          refine Y_aload_n C (pc := 29) 0 0 rfl rfl dX9_ranks_29 ?_
          refine Y_iload C (pc := 30) 4 rfl dX9_ranks_30 ?_
          obtain ⟨v22, hv22, h⟩ := Option.bind_eq_some_iff.mp h
          refine Y_callV C [.int s1.2.1] [] [.int v22] hk0 rfl rfl (c_X9_lowest hk0 hv22) (fun _ h => h.elim) q_cw_yX9_lowest q_ml_RX9_230 ⟨q_im_yX9_lowest, q_se_yX9_lowest⟩ ⟨⟨Nat.le_of_ble_eq_true rfl, Nat.le_of_ble_eq_true rfl⟩, ⟨Nat.zero_le _, Nat.zero_le _⟩, Nat.le_of_ble_eq_true rfl⟩ rfl rfl rfl dX9_ranks_32 ?_
          refine Y_iload C (pc := 35) 4 rfl dX9_ranks_35 ?_
          refine Y_icmp_ne C (pc := 37) (tgt := 130) dX9_ranks_37 (by decide) (fun c23 => ?_) (fun c23 => ?_)
          · rw [if_neg c23] at h
            exact Y_sub [0, 1, 2, 3, 4] rfl (hJ130 _ _ _ h)
          · rw [if_pos c23] at h
            exact Y_sub [0, 1, 2, 3, 4] rfl (hJ40 _ _ _ h)
  · refine Y_iload_n C (pc := 136) 3 0 rfl rfl dX9_ranks_136 ?_
    cases h
    exact Y_iret C dX9_ranks_137

set_option maxRecDepth 100000 in
set_option maxHeartbeats 4000000 in
theorem c_X9_counts {l : Launch} {D : va_G} {cA ρ : Nat → Nat} {σ : Sg} {τ : Tg} {k0 : Nat} {i1 : Int32} (hI : Inj ρ) (hk0 : kd k0 = (0, 9)) {r : Int32 × Sg} (h : f_X9_counts σ k0 i1 = some r) : Ct l yX9_counts cX9_counts 3 (some .boolean) 1 24 D cA ρ (Aw ρ) [.ref (ρ k0), .int i1] σ τ (some (.int r.1)) r.2 τ := by
  refine Ct_of (by decide +kernel) (Nat.le_of_ble_eq_true rfl) (fun p e s m args below meth c C => ?_)
  have C : Ctx p l s m args meth c cX9_counts RX9 3 (some .boolean) D cA ρ (Aw ρ) := C
  have hW : Wr ρ (Aw ρ) := ⟨hI, fun k hk => ⟨k, hk, rfl⟩⟩
  unfold f_X9_counts at h
  refine Y_sub [0, 1] (lv' := [(0, .ref (ρ k0)), (1, .int i1)]) rfl ?_
  refine Y_aload_n C (pc := 0) 0 0 rfl rfl dX9_counts_0 ?_
  refine Y_getR C (pc := 1) hk0 q_fi_RX9_56 (by decide) dX9_counts_1 ?_
  refine Y_iconst C (pc := 4) (v := (2 : Int32)) (by decide) dX9_counts_4 ?_
  refine Y_dup2 C (pc := 5) rfl rfl dX9_counts_5 ?_
  obtain ⟨v1, hv1, h⟩ := Option.bind_eq_some_iff.mp h
  refine Y_iald C (pc := 6) (q_kr_9_20 hk0) hv1 dX9_counts_6 ?_
  refine Y_iconst C (pc := 7) (v := (1 : Int32)) (by decide) dX9_counts_7 ?_
  refine Y_iadd C (pc := 8) dX9_counts_8 ?_
  obtain ⟨s2, hs2, h⟩ := Option.bind_eq_some_iff.mp h
  refine Y_iast C (pc := 9) hW (q_kr_9_20 hk0) (q_lr_9_20 hk0) hs2 dX9_counts_9 ?_
  refine Y_aload_n C (pc := 10) 0 0 rfl rfl dX9_counts_10 ?_
  refine Y_getR C (pc := 11) hk0 q_fi_RX9_59 (by decide) dX9_counts_11 ?_
  refine Y_aload_n C (pc := 14) 0 0 rfl rfl dX9_counts_14 ?_
  obtain ⟨v3, hv3, h⟩ := Option.bind_eq_some_iff.mp h
  refine Y_callV C [] [.ref (ρ (k0 + 17))] [.int v3, .ref (ρ (k0 + 17))] hk0 rfl rfl (c_X9_pairs hk0 hv3) (fun _ h => h.elim) q_cw_yX9_pairs q_ml_RX9_187 ⟨q_im_yX9_pairs, q_se_yX9_pairs⟩ ⟨⟨Nat.le_of_ble_eq_true rfl, Nat.le_of_ble_eq_true rfl⟩, ⟨Nat.zero_le _, Nat.zero_le _⟩, Nat.le_of_ble_eq_true rfl⟩ rfl rfl rfl dX9_counts_15 ?_
  refine Y_dup2 C (pc := 18) rfl rfl dX9_counts_18 ?_
  obtain ⟨v4, hv4, h⟩ := Option.bind_eq_some_iff.mp h
  refine Y_iald C (pc := 19) (q_kr_9_21 hk0) hv4 dX9_counts_19 ?_
  refine Y_iconst C (pc := 20) (v := (1 : Int32)) (by decide) dX9_counts_20 ?_
  refine Y_iadd C (pc := 21) dX9_counts_21 ?_
  obtain ⟨s5, hs5, h⟩ := Option.bind_eq_some_iff.mp h
  refine Y_iast C (pc := 22) hW (q_kr_9_21 hk0) (q_lr_9_21 hk0) hs5 dX9_counts_22 ?_
  refine Y_iload_n C (pc := 23) 1 1 rfl rfl dX9_counts_23 ?_
  refine Y_aload_n C (pc := 24) 0 0 rfl rfl dX9_counts_24 ?_
  refine Y_getR C (pc := 25) hk0 q_fi_RX9_56 (by decide) dX9_counts_25 ?_
  refine Y_iconst C (pc := 28) (v := (0 : Int32)) (by decide) dX9_counts_28 ?_
  obtain ⟨v6, hv6, h⟩ := Option.bind_eq_some_iff.mp h
  refine Y_iald C (pc := 29) (q_kr_9_20 hk0) hv6 dX9_counts_29 ?_
  refine Y_icmp_lt C (pc := 30) (tgt := 45) dX9_counts_30 (by decide) (fun c23 => ?_) (fun c23 => ?_)
  · rw [if_pos c23] at h
    refine Y_aload_n C (pc := 45) 0 0 rfl rfl dX9_counts_45 ?_
    obtain ⟨v7, hv7, h⟩ := Option.bind_eq_some_iff.mp h
    refine Y_callV C [] [] [.int v7] hk0 rfl rfl (c_X9_pairs hk0 hv7) (fun _ h => h.elim) q_cw_yX9_pairs q_ml_RX9_187 ⟨q_im_yX9_pairs, q_se_yX9_pairs⟩ ⟨⟨Nat.le_of_ble_eq_true rfl, Nat.le_of_ble_eq_true rfl⟩, ⟨Nat.zero_le _, Nat.zero_le _⟩, Nat.le_of_ble_eq_true rfl⟩ rfl rfl rfl dX9_counts_46 ?_
    refine Y_aload_n C (pc := 49) 0 0 rfl rfl dX9_counts_49 ?_
    refine Y_getR C (pc := 50) hk0 q_fi_RX9_7 (by decide) dX9_counts_50 ?_
    refine Y_iconst C (pc := 53) (v := (0 : Int32)) (by decide) dX9_counts_53 ?_
    obtain ⟨v8, hv8, h⟩ := Option.bind_eq_some_iff.mp h
    refine Y_iald C (pc := 54) (q_kr_9_0 hk0) hv8 dX9_counts_54 ?_
    refine Y_icmp_ge C (pc := 55) (tgt := 60) dX9_counts_55 (by decide) (fun c20 => ?_) (fun c20 => ?_)
    · rw [if_pos c20] at h
      refine Y_aload_n C (pc := 60) 0 0 rfl rfl dX9_counts_60 ?_
      refine Y_getR C (pc := 61) hk0 q_fi_RX9_56 (by decide) dX9_counts_61 ?_
      refine Y_iconst C (pc := 64) (v := (0 : Int32)) (by decide) dX9_counts_64 ?_
      refine Y_iload_n C (pc := 65) 1 1 rfl rfl dX9_counts_65 ?_
      obtain ⟨s9, hs9, h⟩ := Option.bind_eq_some_iff.mp h
      refine Y_iast C (pc := 66) hW (q_kr_9_20 hk0) (q_lr_9_20 hk0) hs9 dX9_counts_66 ?_
      refine Y_iconst C (pc := 67) (v := (0 : Int32)) (by decide) dX9_counts_67 ?_
      refine Y_istore_n C (pc := 68) (lv' := [(2, .int (0 : Int32)), (0, .ref (ρ k0)), (1, .int i1)]) 2 rfl (by decide) rfl dX9_counts_68 ?_
      obtain ⟨e15, he15, h⟩ := Option.bind_eq_some_iff.mp h
      refine Y_sub [1, 0] (lv' := [(0, .ref (ρ k0)), (2, .int (0 : Int32))]) rfl ?_
      refine lo_rule (f := (f_X9_counts_L69 k0)) (YS := fun s10 => Y p l e (Rm 1 24) s m args below meth c 3 D cA ρ (Aw ρ) 0 0 (MQ below (QC D cA ρ (Aw ρ) (some (.int r.1)) r.2 τ) args s 0 0 (Aw ρ)) s10.2 τ 69 [(0, .ref (ρ k0)), (2, .int s10.1)] []) (YE := fun e15 => Y p l e (Rm 1 24) s m args below meth c 3 D cA ρ (Aw ρ) 0 0 (MQ below (QC D cA ρ (Aw ρ) (some (.int r.1)) r.2 τ) args s 0 0 (Aw ρ)) e15 τ 97 [(0, .ref (ρ k0))] []) ?_ he15 ?_
      · intro s10 x h hLp hE
        unfold f_X9_counts_L69 at h
        refine Y_iload_n C (pc := 69) 2 1 rfl rfl dX9_counts_69 ?_
        refine Y_aload_n C (pc := 70) 0 0 rfl rfl dX9_counts_70 ?_
        refine Y_getR C (pc := 71) hk0 q_fi_RX9_7 (by decide) dX9_counts_71 ?_
        refine Y_iconst C (pc := 74) (v := (0 : Int32)) (by decide) dX9_counts_74 ?_
        obtain ⟨v11, hv11, h⟩ := Option.bind_eq_some_iff.mp h
        refine Y_iald C (pc := 75) (q_kr_9_0 hk0) hv11 dX9_counts_75 ?_
        refine Y_icmp_ge C (pc := 76) (tgt := 97) dX9_counts_76 (by decide) (fun c14 => ?_) (fun c14 => ?_)
        · rw [if_pos c14] at h
          have h := Option.some.inj h
          exact Y_sub [0] rfl (hE _ h.symm)
        · rw [if_neg c14] at h
          refine Y_aload_n C (pc := 79) 0 0 rfl rfl dX9_counts_79 ?_
          refine Y_getR C (pc := 80) hk0 q_fi_RX9_22 (by decide) dX9_counts_80 ?_
          refine Y_iload_n C (pc := 83) 2 1 rfl rfl dX9_counts_83 ?_
          refine Y_aload_n C (pc := 84) 0 0 rfl rfl dX9_counts_84 ?_
          refine Y_getR C (pc := 85) hk0 q_fi_RX9_25 (by decide) dX9_counts_85 ?_
          refine Y_iload_n C (pc := 88) 2 1 rfl rfl dX9_counts_88 ?_
          obtain ⟨v12, hv12, h⟩ := Option.bind_eq_some_iff.mp h
          refine Y_iald C (pc := 89) (q_kr_9_8 hk0) hv12 dX9_counts_89 ?_
          obtain ⟨s13, hs13, h⟩ := Option.bind_eq_some_iff.mp h
          refine Y_iast C (pc := 90) hW (q_kr_9_7 hk0) (q_lr_9_7 hk0) hs13 dX9_counts_90 ?_
          refine Y_iinc C (pc := 91) (v := (s10.1 + 1)) (lv' := [(2, .int (s10.1 + 1)), (0, .ref (ρ k0))]) 1 rfl (congrArg (fun z => s10.1 + z) (by decide : Int32.ofInt (1) = (1))) (by decide) rfl dX9_counts_91 ?_
          refine Y_goto C (pc := 94) (tgt := 69) dX9_counts_94 (by decide) ?_
          have h := Option.some.inj h
          exact Y_sub [1, 0] rfl (hLp _ h.symm)
      · refine Y_aload_n C (pc := 97) 0 0 rfl rfl dX9_counts_97 ?_
        refine Y_getR C (pc := 98) hk0 q_fi_RX9_56 (by decide) dX9_counts_98 ?_
        refine Y_iconst C (pc := 101) (v := (1 : Int32)) (by decide) dX9_counts_101 ?_
        refine Y_aload_n C (pc := 102) 0 0 rfl rfl dX9_counts_102 ?_
        obtain ⟨v16, hv16, h⟩ := Option.bind_eq_some_iff.mp h
        refine Y_callV C [] [.int (1 : Int32), .ref (ρ (k0 + 16))] [.int v16, .int (1 : Int32), .ref (ρ (k0 + 16))] hk0 rfl rfl (c_X9_numberOf hk0 hv16) (fun _ h => h.elim) q_cw_yX9_numberOf q_ml_RX9_152 ⟨q_im_yX9_numberOf, q_se_yX9_numberOf⟩ ⟨⟨Nat.le_of_ble_eq_true rfl, Nat.le_of_ble_eq_true rfl⟩, ⟨Nat.zero_le _, Nat.zero_le _⟩, Nat.le_of_ble_eq_true rfl⟩ rfl rfl rfl dX9_counts_103 ?_
        obtain ⟨s17, hs17, h⟩ := Option.bind_eq_some_iff.mp h
        refine Y_iast C (pc := 106) hW (q_kr_9_20 hk0) (q_lr_9_20 hk0) hs17 dX9_counts_106 ?_
        refine Y_aload_n C (pc := 107) 0 0 rfl rfl dX9_counts_107 ?_
        refine Y_getR C (pc := 108) hk0 q_fi_RX9_56 (by decide) dX9_counts_108 ?_
        refine Y_iconst C (pc := 111) (v := (4 : Int32)) (by decide) dX9_counts_111 ?_
        refine Y_dup2 C (pc := 112) rfl rfl dX9_counts_112 ?_
        obtain ⟨v18, hv18, h⟩ := Option.bind_eq_some_iff.mp h
        refine Y_iald C (pc := 113) (q_kr_9_20 hk0) hv18 dX9_counts_113 ?_
        refine Y_iconst C (pc := 114) (v := (1 : Int32)) (by decide) dX9_counts_114 ?_
        refine Y_iadd C (pc := 115) dX9_counts_115 ?_
        obtain ⟨s19, hs19, h⟩ := Option.bind_eq_some_iff.mp h
        refine Y_iast C (pc := 116) hW (q_kr_9_20 hk0) (q_lr_9_20 hk0) hs19 dX9_counts_116 ?_
        refine Y_iconst C (pc := 117) (v := (0 : Int32)) (by decide) dX9_counts_117 ?_
        cases h
        exact Y_zret (x := (0 : Int32)) (by decide) C dX9_counts_118
    · rw [if_neg c20] at h
      refine Y_iconst C (pc := 58) (v := (1 : Int32)) (by decide) dX9_counts_58 ?_
      cases h
      exact Y_zret (x := (1 : Int32)) (by decide) C dX9_counts_59
  · rw [if_neg c23] at h
    refine Y_aload_n C (pc := 33) 0 0 rfl rfl dX9_counts_33 ?_
    refine Y_getR C (pc := 34) hk0 q_fi_RX9_56 (by decide) dX9_counts_34 ?_
    refine Y_iconst C (pc := 37) (v := (3 : Int32)) (by decide) dX9_counts_37 ?_
    refine Y_dup2 C (pc := 38) rfl rfl dX9_counts_38 ?_
    obtain ⟨v21, hv21, h⟩ := Option.bind_eq_some_iff.mp h
    refine Y_iald C (pc := 39) (q_kr_9_20 hk0) hv21 dX9_counts_39 ?_
    refine Y_iconst C (pc := 40) (v := (1 : Int32)) (by decide) dX9_counts_40 ?_
    refine Y_iadd C (pc := 41) dX9_counts_41 ?_
    obtain ⟨s22, hs22, h⟩ := Option.bind_eq_some_iff.mp h
    refine Y_iast C (pc := 42) hW (q_kr_9_20 hk0) (q_lr_9_20 hk0) hs22 dX9_counts_42 ?_
    refine Y_iconst C (pc := 43) (v := (0 : Int32)) (by decide) dX9_counts_43 ?_
    cases h
    exact Y_zret (x := (0 : Int32)) (by decide) C dX9_counts_44

