set_option maxRecDepth 100000 in
set_option maxHeartbeats 4000000 in
theorem c_X9_branches {l : Launch} {D : va_G} {cA ρ : Nat → Nat} {σ : Sg} {τ : Tg} {k0 : Nat} {i1 : Int32} {i2 : Int32} (hI : Inj ρ) (hk0 : kd k0 = (0, 9)) {r : Sg} (h : f_X9_branches σ k0 i1 i2 = some r) : Ct l yX9_branches cX9_branches 6 none 7 163 D cA ρ (Aw ρ) [.ref (ρ k0), .int i1, .int i2] σ τ none r τ := by
  refine Ct_of (by decide +kernel) (Nat.le_of_ble_eq_true rfl) (fun p e s m args below meth c C => ?_)
  have C : Ctx p l s m args meth c cX9_branches RX9 6 none D cA ρ (Aw ρ) := C
  have hW : Wr ρ (Aw ρ) := ⟨hI, fun k hk => ⟨k, hk, rfl⟩⟩
  unfold f_X9_branches at h
  refine Y_sub [0, 1, 2] (lv' := [(0, .ref (ρ k0)), (1, .int i1), (2, .int i2)]) rfl ?_
  refine Y_aload_n C (pc := 0) 0 0 rfl rfl dX9_branches_0 ?_
  obtain ⟨v1, hv1, h⟩ := Option.bind_eq_some_iff.mp h
  refine Y_callV C [] [] [.int v1.1] hk0 rfl rfl (c_X9_branch hI hk0 hv1) (fun _ h => h) q_cw_yX9_branch q_ml_RX9_212 ⟨q_im_yX9_branch, q_se_yX9_branch⟩ ⟨⟨Nat.le_of_ble_eq_true rfl, Nat.le_of_ble_eq_true rfl⟩, ⟨Nat.zero_le _, Nat.zero_le _⟩, Nat.le_of_ble_eq_true rfl⟩ rfl rfl rfl dX9_branches_1 ?_
  refine Y_istore_n C (pc := 4) (lv' := [(3, .int v1.1), (0, .ref (ρ k0)), (1, .int i1), (2, .int i2)]) 3 rfl (by decide) rfl dX9_branches_4 ?_
  refine Y_aload_n C (pc := 5) 0 1 rfl rfl dX9_branches_5 ?_
  refine Y_iload_n C (pc := 6) 3 0 rfl rfl dX9_branches_6 ?_
  refine Y_iload_n C (pc := 7) 1 2 rfl rfl dX9_branches_7 ?_
  obtain ⟨v2, hv2, h⟩ := Option.bind_eq_some_iff.mp h
  refine Y_callV C [.int v1.1, .int i1] [] [.int v2.1] hk0 rfl rfl (c_X9_ranks hI hk0 hv2) (fun _ h => h) q_cw_yX9_ranks q_ml_RX9_236 ⟨q_im_yX9_ranks, q_se_yX9_ranks⟩ ⟨⟨Nat.le_of_ble_eq_true rfl, Nat.le_of_ble_eq_true rfl⟩, ⟨Nat.zero_le _, Nat.zero_le _⟩, Nat.le_of_ble_eq_true rfl⟩ rfl rfl rfl dX9_branches_8 ?_
  refine Y_istore C (pc := 11) (lv' := [(4, .int v2.1), (3, .int v1.1), (0, .ref (ρ k0)), (1, .int i1), (2, .int i2)]) (by decide) rfl dX9_branches_11 ?_
  refine Y_iconst C (pc := 13) (v := (0 : Int32)) (by decide) dX9_branches_13 ?_
  refine Y_istore C (pc := 14) (lv' := [(5, .int (0 : Int32)), (4, .int v2.1), (3, .int v1.1), (0, .ref (ρ k0)), (1, .int i1), (2, .int i2)]) (by decide) rfl dX9_branches_14 ?_
  obtain ⟨e17, he17, h⟩ := Option.bind_eq_some_iff.mp h
  refine Y_sub [3, 5, 2, 1, 0] (lv' := [(0, .ref (ρ k0)), (2, .int i2), (3, .int v1.1), (4, .int v2.1), (5, .int (0 : Int32))]) rfl ?_
  refine lo_rule (f := (f_X9_branches_L16 v2 i2 k0 v1)) (YS := fun s3 => Y p l e (Rm 7 163) s m args below meth c 6 D cA ρ (Aw ρ) 0 0 (MQ below (QC D cA ρ (Aw ρ) none r τ) args s 0 0 (Aw ρ)) s3.2 τ 16 [(0, .ref (ρ k0)), (2, .int i2), (3, .int v1.1), (4, .int v2.1), (5, .int s3.1)] []) (YE := fun e17 => Y p l e (Rm 7 163) s m args below meth c 6 D cA ρ (Aw ρ) 0 0 (MQ below (QC D cA ρ (Aw ρ) none r τ) args s 0 0 (Aw ρ)) e17 τ 69 [(0, .ref (ρ k0)), (3, .int v1.1)] []) ?_ he17 ?_
  · intro s3 x h hLp hE
    unfold f_X9_branches_L16 at h
    have hJ60 : ∀ (j10 : Int32) (j11 : Int32) (sj12 : Sg), f_X9_branches_J60 k0 j10 j11 sj12 = some x → Y p l e (Rm 7 163) s m args below meth c 6 D cA ρ (Aw ρ) 0 0 (MQ below (QC D cA ρ (Aw ρ) none r τ) args s 0 0 (Aw ρ)) sj12 τ 60 [(0, .ref (ρ k0)), (2, .int i2), (3, .int v1.1), (4, .int v2.1), (5, .int j10)] [.int j11, .ref (ρ k0)] := by
      intro j10 j11 sj12 h
      unfold f_X9_branches_J60 at h
      obtain ⟨v13, hv13, h⟩ := Option.bind_eq_some_iff.mp h
      refine Y_callV C [.int j11] [] [] hk0 rfl rfl (c_X9_adds hI hk0 hv13) (fun _ h => h) q_cw_yX9_adds q_ml_RX9_240 ⟨q_im_yX9_adds, q_se_yX9_adds⟩ ⟨⟨Nat.le_of_ble_eq_true rfl, Nat.le_of_ble_eq_true rfl⟩, ⟨Nat.zero_le _, Nat.zero_le _⟩, Nat.le_of_ble_eq_true rfl⟩ rfl rfl rfl dX9_branches_60 ?_
      refine Y_iinc C (pc := 63) (v := (j10 + 1)) (lv' := [(5, .int (j10 + 1)), (0, .ref (ρ k0)), (2, .int i2), (3, .int v1.1), (4, .int v2.1)]) 4 rfl (congrArg (fun z => j10 + z) (by decide : Int32.ofInt (1) = (1))) (by decide) rfl dX9_branches_63 ?_
      refine Y_goto C (pc := 66) (tgt := 16) dX9_branches_66 (by decide) ?_
      have h := Option.some.inj h
      exact Y_sub [1, 2, 3, 4, 0] rfl (hLp _ h.symm)
    have hJ48 : ∀ (j4 : Int32) (j5 : Int32) (j6 : Int32) (sj7 : Sg), f_X9_branches_J48 k0 i2 j4 j5 j6 sj7 = some x → Y p l e (Rm 7 163) s m args below meth c 6 D cA ρ (Aw ρ) 0 0 (MQ below (QC D cA ρ (Aw ρ) none r τ) args s 0 0 (Aw ρ)) sj7 τ 48 [(0, .ref (ρ k0)), (2, .int i2), (3, .int v1.1), (4, .int v2.1), (5, .int j4)] [.int j5, .ref (ρ (k0 + 18)), .int j6, .ref (ρ (k0 + 6))] := by
      intro j4 j5 j6 sj7 h
      unfold f_X9_branches_J48 at h
      obtain ⟨v8, hv8, h⟩ := Option.bind_eq_some_iff.mp h
      refine Y_iald C (pc := 48) (q_kr_9_22 hk0) hv8 dX9_branches_48 ?_
      obtain ⟨s9, hs9, h⟩ := Option.bind_eq_some_iff.mp h
      refine Y_iast C (pc := 49) hW (q_kr_9_8 hk0) (q_lr_9_8 hk0) hs9 dX9_branches_49 ?_
      refine Y_aload_n C (pc := 50) 0 0 rfl rfl dX9_branches_50 ?_
      refine Y_iload_n C (pc := 51) 2 1 rfl rfl dX9_branches_51 ?_
      refine Y_if_ne C (pc := 52) (tgt := 59) dX9_branches_52 (by decide) (fun c14 => ?_) (fun c14 => ?_)
      · rw [if_neg c14] at h
        refine Y_iconst C (pc := 59) (v := (0 : Int32)) (by decide) dX9_branches_59 ?_
        exact Y_sub [0, 1, 2, 3, 4] rfl (hJ60 _ _ _ h)
      · rw [if_pos c14] at h
        refine Y_iconst C (pc := 55) (v := (1 : Int32)) (by decide) dX9_branches_55 ?_
        refine Y_goto C (pc := 56) (tgt := 60) dX9_branches_56 (by decide) ?_
        exact Y_sub [0, 1, 2, 3, 4] rfl (hJ60 _ _ _ h)
    refine Y_iload C (pc := 16) 4 rfl dX9_branches_16 ?_
    refine Y_iload C (pc := 18) 3 rfl dX9_branches_18 ?_
    refine Y_icmp_ge C (pc := 20) (tgt := 69) dX9_branches_20 (by decide) (fun c16 => ?_) (fun c16 => ?_)
    · rw [if_pos c16] at h
      have h := Option.some.inj h
      exact Y_sub [0, 2] rfl (hE _ h.symm)
    · rw [if_neg c16] at h
      refine Y_aload_n C (pc := 23) 0 0 rfl rfl dX9_branches_23 ?_
      refine Y_getR C (pc := 24) hk0 q_fi_RX9_25 (by decide) dX9_branches_24 ?_
      refine Y_iload_n C (pc := 27) 3 2 rfl rfl dX9_branches_27 ?_
      refine Y_aload_n C (pc := 28) 0 0 rfl rfl dX9_branches_28 ?_
      refine Y_getR C (pc := 29) hk0 q_fi_RX9_62 (by decide) dX9_branches_29 ?_
      refine Y_iload_n C (pc := 32) 2 1 rfl rfl dX9_branches_32 ?_
      refine Y_if_eq C (pc := 33) (tgt := 46) dX9_branches_33 (by decide) (fun c15 => ?_) (fun c15 => ?_)
      · rw [if_pos c15] at h
        refine Y_iload C (pc := 46) 4 rfl dX9_branches_46 ?_
        exact Y_sub [0, 1, 2, 3, 4] rfl (hJ48 _ _ _ _ h)
      · rw [if_neg c15] at h
        refine Y_iload C (pc := 36) 3 rfl dX9_branches_36 ?_
        refine Y_iconst C (pc := 38) (v := (1 : Int32)) (by decide) dX9_branches_38 ?_
        refine Y_isub C (pc := 39) dX9_branches_39 ?_
        refine Y_iload C (pc := 40) 4 rfl dX9_branches_40 ?_
        refine Y_isub C (pc := 42) dX9_branches_42 ?_
        refine Y_goto C (pc := 43) (tgt := 48) dX9_branches_43 (by decide) ?_
        exact Y_sub [0, 1, 2, 3, 4] rfl (hJ48 _ _ _ _ h)
  · refine Y_aload_n C (pc := 69) 0 0 rfl rfl dX9_branches_69 ?_
    refine Y_getR C (pc := 70) hk0 q_fi_RX9_25 (by decide) dX9_branches_70 ?_
    refine Y_iload_n C (pc := 73) 3 1 rfl rfl dX9_branches_73 ?_
    refine Y_iconst C (pc := 74) (v := (-1 : Int32)) (by decide) dX9_branches_74 ?_
    obtain ⟨s18, hs18, h⟩ := Option.bind_eq_some_iff.mp h
    refine Y_iast C (pc := 75) hW (q_kr_9_8 hk0) (q_lr_9_8 hk0) hs18 dX9_branches_75 ?_
    cases h
    exact Y_vret C dX9_branches_76

set_option maxRecDepth 100000 in
set_option maxHeartbeats 4000000 in
theorem c_X9_leastNode {l : Launch} {D : va_G} {cA ρ : Nat → Nat} {σ : Sg} {τ : Tg} {k0 : Nat} (hk0 : kd k0 = (0, 9)) {r : Int32} (h : f_X9_leastNode σ k0 = some r) : Ct l yX9_leastNode cX9_leastNode 4 (some .int) 0 0 D cA ρ A0 [.ref (ρ k0)] σ τ (some (.int r)) σ τ := by
  refine Ct_of (by decide +kernel) (Nat.le_of_ble_eq_true rfl) (fun p e s m args below meth c C => ?_)
  have C : Ctx p l s m args meth c cX9_leastNode RX9 4 (some .int) D cA ρ A0 := C
  unfold f_X9_leastNode at h
  refine Y_sub [0] (lv' := [(0, .ref (ρ k0))]) rfl ?_
  refine Y_iconst C (pc := 0) (v := (-1 : Int32)) (by decide) dX9_leastNode_0 ?_
  refine Y_istore_n C (pc := 1) (lv' := [(1, .int (-1 : Int32)), (0, .ref (ρ k0))]) 1 rfl (by decide) rfl dX9_leastNode_1 ?_
  refine Y_iconst C (pc := 2) (v := (0 : Int32)) (by decide) dX9_leastNode_2 ?_
  refine Y_istore_n C (pc := 3) (lv' := [(2, .int (0 : Int32)), (1, .int (-1 : Int32)), (0, .ref (ρ k0))]) 2 rfl (by decide) rfl dX9_leastNode_3 ?_
  obtain ⟨e27, he27, h⟩ := Option.bind_eq_some_iff.mp h
  refine Y_sub [2, 1, 0] (lv' := [(0, .ref (ρ k0)), (1, .int (-1 : Int32)), (2, .int (0 : Int32))]) rfl ?_
  refine lo_rule (f := (f_X9_leastNode_L4 σ k0)) (YS := fun s1 => Y p l e (Rm 0 0) s m args below meth c 4 D cA ρ A0 0 0 (MQ below (QC D cA ρ A0 (some (.int r)) σ τ) args s 0 0 A0) σ τ 4 [(0, .ref (ρ k0)), (1, .int s1.1), (2, .int s1.2)] []) (YE := fun e27 => Y p l e (Rm 0 0) s m args below meth c 4 D cA ρ A0 0 0 (MQ below (QC D cA ρ A0 (some (.int r)) σ τ) args s 0 0 A0) σ τ 93 [(1, .int e27)] []) ?_ he27 ?_
  · intro s1 x h hLp hE
    unfold f_X9_leastNode_L4 at h
    have hJ87 : ∀ (j3 : Int32) (j4 : Int32), f_X9_leastNode_J87 j3 j4 = some x → Y p l e (Rm 0 0) s m args below meth c 4 D cA ρ A0 0 0 (MQ below (QC D cA ρ A0 (some (.int r)) σ τ) args s 0 0 A0) σ τ 87 [(0, .ref (ρ k0)), (1, .int j3), (2, .int j4)] [] := by
      intro j3 j4 h
      unfold f_X9_leastNode_J87 at h
      refine Y_iinc C (pc := 87) (v := (j4 + 1)) (lv' := [(2, .int (j4 + 1)), (0, .ref (ρ k0)), (1, .int j3)]) 2 rfl (congrArg (fun z => j4 + z) (by decide : Int32.ofInt (1) = (1))) (by decide) rfl dX9_leastNode_87 ?_
      refine Y_goto C (pc := 90) (tgt := 4) dX9_leastNode_90 (by decide) ?_
      have h := Option.some.inj h
      exact Y_sub [1, 2, 0] rfl (hLp _ h.symm)
    have hJ86 : ∀ (j10 : Int32) (j11 : Int32), f_X9_leastNode_J86 j10 j11 = some x → Y p l e (Rm 0 0) s m args below meth c 4 D cA ρ A0 0 0 (MQ below (QC D cA ρ A0 (some (.int r)) σ τ) args s 0 0 A0) σ τ 86 [(0, .ref (ρ k0)), (2, .int j10)] [.int j11] := by
      intro j10 j11 h
      unfold f_X9_leastNode_J86 at h
      refine Y_istore_n C (pc := 86) (lv' := [(1, .int j11), (0, .ref (ρ k0)), (2, .int j10)]) 1 rfl (by decide) rfl dX9_leastNode_86 ?_
      exact Y_sub [1, 0, 2] rfl (hJ87 _ _ h)
    have hJ76 : ∀ (j7 : Int32) (j8 : Int32) (j9 : Int32), f_X9_leastNode_J76 j7 j8 j9 = some x → Y p l e (Rm 0 0) s m args below meth c 4 D cA ρ A0 0 0 (MQ below (QC D cA ρ A0 (some (.int r)) σ τ) args s 0 0 A0) σ τ 76 [(0, .ref (ρ k0)), (1, .int j7), (2, .int j8)] [.int j9] := by
      intro j7 j8 j9 h
      unfold f_X9_leastNode_J76 at h
      refine Y_istore_n C (pc := 76) (lv' := [(3, .int j9), (0, .ref (ρ k0)), (1, .int j7), (2, .int j8)]) 3 rfl (by decide) rfl dX9_leastNode_76 ?_
      refine Y_iload_n C (pc := 77) 3 0 rfl rfl dX9_leastNode_77 ?_
      refine Y_if_eq C (pc := 78) (tgt := 85) dX9_leastNode_78 (by decide) (fun c12 => ?_) (fun c12 => ?_)
      · rw [if_pos c12] at h
        refine Y_iload_n C (pc := 85) 1 2 rfl rfl dX9_leastNode_85 ?_
        exact Y_sub [1, 3] rfl (hJ86 _ _ h)
      · rw [if_neg c12] at h
        refine Y_iload_n C (pc := 81) 2 3 rfl rfl dX9_leastNode_81 ?_
        refine Y_goto C (pc := 82) (tgt := 86) dX9_leastNode_82 (by decide) ?_
        exact Y_sub [1, 3] rfl (hJ86 _ _ h)
    have hJ75 : ∀ (j17 : Int32) (j18 : Int32), f_X9_leastNode_J75 j17 j18 = some x → Y p l e (Rm 0 0) s m args below meth c 4 D cA ρ A0 0 0 (MQ below (QC D cA ρ A0 (some (.int r)) σ τ) args s 0 0 A0) σ τ 75 [(0, .ref (ρ k0)), (1, .int j17), (2, .int j18)] [] := by
      intro j17 j18 h
      unfold f_X9_leastNode_J75 at h
      refine Y_iconst C (pc := 75) (v := (0 : Int32)) (by decide) dX9_leastNode_75 ?_
      exact Y_sub [0, 1, 2] rfl (hJ76 _ _ _ h)
    have hJ71 : ∀ (j5 : Int32) (j6 : Int32), f_X9_leastNode_J71 j5 j6 = some x → Y p l e (Rm 0 0) s m args below meth c 4 D cA ρ A0 0 0 (MQ below (QC D cA ρ A0 (some (.int r)) σ τ) args s 0 0 A0) σ τ 71 [(0, .ref (ρ k0)), (1, .int j5), (2, .int j6)] [] := by
      intro j5 j6 h
      unfold f_X9_leastNode_J71 at h
      refine Y_iconst C (pc := 71) (v := (1 : Int32)) (by decide) dX9_leastNode_71 ?_
      refine Y_goto C (pc := 72) (tgt := 76) dX9_leastNode_72 (by decide) ?_
      exact Y_sub [0, 1, 2] rfl (hJ76 _ _ _ h)
    refine Y_iload_n C (pc := 4) 2 2 rfl rfl dX9_leastNode_4 ?_
    refine Y_aload_n C (pc := 5) 0 0 rfl rfl dX9_leastNode_5 ?_
    refine Y_getI C (pc := 6) hk0 q_fi_RX9_233 dX9_leastNode_6 ?_
    refine Y_icmp_ge C (pc := 9) (tgt := 93) dX9_leastNode_9 (by decide) (fun c26 => ?_) (fun c26 => ?_)
    · rw [if_pos c26] at h
      have h := Option.some.inj h
      exact Y_sub [1] rfl (hE _ h.symm)
    · rw [if_neg c26] at h
      refine Y_aload_n C (pc := 12) 0 0 rfl rfl dX9_leastNode_12 ?_
      refine Y_getR C (pc := 13) hk0 q_fi_RX9_52 (by decide) dX9_leastNode_13 ?_
      refine Y_iload_n C (pc := 16) 2 2 rfl rfl dX9_leastNode_16 ?_
      obtain ⟨v2, hv2, h⟩ := Option.bind_eq_some_iff.mp h
      refine Y_zald C (pc := 17) (q_kr_9_18 hk0) hv2 dX9_leastNode_17 ?_
      refine Y_if_eq C (pc := 18) (tgt := 87) dX9_leastNode_18 (by decide) (fun c25 => ?_) (fun c25 => ?_)
      · rw [if_pos c25] at h
        exact Y_sub [0, 1, 2] rfl (hJ87 _ _ h)
      · rw [if_neg c25] at h
        refine Y_iload_n C (pc := 21) 1 1 rfl rfl dX9_leastNode_21 ?_
        refine Y_iconst C (pc := 22) (v := (-1 : Int32)) (by decide) dX9_leastNode_22 ?_
        refine Y_icmp_eq C (pc := 23) (tgt := 71) dX9_leastNode_23 (by decide) (fun c24 => ?_) (fun c24 => ?_)
        · rw [if_pos c24] at h
          exact Y_sub [0, 1, 2] rfl (hJ71 _ _ h)
        · rw [if_neg c24] at h
          refine Y_aload_n C (pc := 26) 0 0 rfl rfl dX9_leastNode_26 ?_
          refine Y_getR C (pc := 27) hk0 q_fi_RX9_46 (by decide) dX9_leastNode_27 ?_
          refine Y_iload_n C (pc := 30) 2 2 rfl rfl dX9_leastNode_30 ?_
          obtain ⟨v13, hv13, h⟩ := Option.bind_eq_some_iff.mp h
          refine Y_iald C (pc := 31) (q_kr_9_16 hk0) hv13 dX9_leastNode_31 ?_
          refine Y_aload_n C (pc := 32) 0 0 rfl rfl dX9_leastNode_32 ?_
          refine Y_getR C (pc := 33) hk0 q_fi_RX9_46 (by decide) dX9_leastNode_33 ?_
          refine Y_iload_n C (pc := 36) 1 1 rfl rfl dX9_leastNode_36 ?_
          obtain ⟨v14, hv14, h⟩ := Option.bind_eq_some_iff.mp h
          refine Y_iald C (pc := 37) (q_kr_9_16 hk0) hv14 dX9_leastNode_37 ?_
          refine Y_icmp_lt C (pc := 38) (tgt := 71) dX9_leastNode_38 (by decide) (fun c23 => ?_) (fun c23 => ?_)
          · rw [if_pos c23] at h
            exact Y_sub [0, 1, 2] rfl (hJ71 _ _ h)
          · rw [if_neg c23] at h
            refine Y_aload_n C (pc := 41) 0 0 rfl rfl dX9_leastNode_41 ?_
            refine Y_getR C (pc := 42) hk0 q_fi_RX9_46 (by decide) dX9_leastNode_42 ?_
            refine Y_iload_n C (pc := 45) 2 2 rfl rfl dX9_leastNode_45 ?_
            obtain ⟨v15, hv15, h⟩ := Option.bind_eq_some_iff.mp h
            refine Y_iald C (pc := 46) (q_kr_9_16 hk0) hv15 dX9_leastNode_46 ?_
            refine Y_aload_n C (pc := 47) 0 0 rfl rfl dX9_leastNode_47 ?_
            refine Y_getR C (pc := 48) hk0 q_fi_RX9_46 (by decide) dX9_leastNode_48 ?_
            refine Y_iload_n C (pc := 51) 1 1 rfl rfl dX9_leastNode_51 ?_
            obtain ⟨v16, hv16, h⟩ := Option.bind_eq_some_iff.mp h
            refine Y_iald C (pc := 52) (q_kr_9_16 hk0) hv16 dX9_leastNode_52 ?_
            refine Y_icmp_ne C (pc := 53) (tgt := 75) dX9_leastNode_53 (by decide) (fun c22 => ?_) (fun c22 => ?_)
            · rw [if_neg c22] at h
              exact Y_sub [0, 1, 2] rfl (hJ75 _ _ h)
            · rw [if_pos c22] at h
              refine Y_aload_n C (pc := 56) 0 0 rfl rfl dX9_leastNode_56 ?_
              refine Y_getR C (pc := 57) hk0 q_fi_RX9_49 (by decide) dX9_leastNode_57 ?_
              refine Y_iload_n C (pc := 60) 2 2 rfl rfl dX9_leastNode_60 ?_
              obtain ⟨v19, hv19, h⟩ := Option.bind_eq_some_iff.mp h
              refine Y_iald C (pc := 61) (q_kr_9_17 hk0) hv19 dX9_leastNode_61 ?_
              refine Y_aload_n C (pc := 62) 0 0 rfl rfl dX9_leastNode_62 ?_
              refine Y_getR C (pc := 63) hk0 q_fi_RX9_49 (by decide) dX9_leastNode_63 ?_
              refine Y_iload_n C (pc := 66) 1 1 rfl rfl dX9_leastNode_66 ?_
              obtain ⟨v20, hv20, h⟩ := Option.bind_eq_some_iff.mp h
              refine Y_iald C (pc := 67) (q_kr_9_17 hk0) hv20 dX9_leastNode_67 ?_
              refine Y_icmp_le C (pc := 68) (tgt := 75) dX9_leastNode_68 (by decide) (fun c21 => ?_) (fun c21 => ?_)
              · rw [if_pos c21] at h
                exact Y_sub [0, 1, 2] rfl (hJ75 _ _ h)
              · rw [if_neg c21] at h
                exact Y_sub [0, 1, 2] rfl (hJ71 _ _ h)
  · refine Y_iload_n C (pc := 93) 1 0 rfl rfl dX9_leastNode_93 ?_
    cases h
    exact Y_iret C dX9_leastNode_94

set_option maxRecDepth 100000 in
set_option maxHeartbeats 4000000 in
theorem c_X9_searchesBest {l : Launch} {D : va_G} {cA ρ : Nat → Nat} {σ : Sg} {τ : Tg} {k0 : Nat} {i1 : Int32} (hI : Inj ρ) (hk0 : kd k0 = (0, 9)) {r : Sg} (h : f_X9_searchesBest σ k0 i1 = some r) : Ct l yX9_searchesBest cX9_searchesBest 5 none 8 188 D cA ρ (Aw ρ) [.ref (ρ k0), .int i1] σ τ none r τ := by
  refine Ct_of (by decide +kernel) (Nat.le_of_ble_eq_true rfl) (fun p e s m args below meth c C => ?_)
  have C : Ctx p l s m args meth c cX9_searchesBest RX9 5 none D cA ρ (Aw ρ) := C
  have hW : Wr ρ (Aw ρ) := ⟨hI, fun k hk => ⟨k, hk, rfl⟩⟩
  unfold f_X9_searchesBest at h
  refine Y_sub [0, 1] (lv' := [(0, .ref (ρ k0)), (1, .int i1)]) rfl ?_
  refine Y_aload_n C (pc := 0) 0 0 rfl rfl dX9_searchesBest_0 ?_
  refine Y_iconst C (pc := 1) (v := (1 : Int32)) (by decide) dX9_searchesBest_1 ?_
  obtain ⟨v1, hv1, h⟩ := Option.bind_eq_some_iff.mp h
  refine Y_callV C [.int (1 : Int32)] [] [] hk0 rfl rfl (c_X9_adds hI hk0 hv1) (fun _ h => h) q_cw_yX9_adds q_ml_RX9_240 ⟨q_im_yX9_adds, q_se_yX9_adds⟩ ⟨⟨Nat.le_of_ble_eq_true rfl, Nat.le_of_ble_eq_true rfl⟩, ⟨Nat.zero_le _, Nat.zero_le _⟩, Nat.le_of_ble_eq_true rfl⟩ rfl rfl rfl dX9_searchesBest_2 ?_
  refine Y_iconst C (pc := 5) (v := (1 : Int32)) (by decide) dX9_searchesBest_5 ?_
  refine Y_istore_n C (pc := 6) (lv' := [(2, .int (1 : Int32)), (0, .ref (ρ k0)), (1, .int i1)]) 2 rfl (by decide) rfl dX9_searchesBest_6 ?_
  refine Y_aload_n C (pc := 7) 0 1 rfl rfl dX9_searchesBest_7 ?_
  refine Y_getR C (pc := 8) hk0 q_fi_RX9_56 (by decide) dX9_searchesBest_8 ?_
  refine Y_iconst C (pc := 11) (v := (5 : Int32)) (by decide) dX9_searchesBest_11 ?_
  refine Y_iconst C (pc := 12) (v := (1 : Int32)) (by decide) dX9_searchesBest_12 ?_
  obtain ⟨s2, hs2, h⟩ := Option.bind_eq_some_iff.mp h
  refine Y_iast C (pc := 13) hW (q_kr_9_20 hk0) (q_lr_9_20 hk0) hs2 dX9_searchesBest_13 ?_
  obtain ⟨e23, he23, h⟩ := Option.bind_eq_some_iff.mp h
  refine Y_sub [1, 2, 0] (lv' := [(0, .ref (ρ k0)), (1, .int i1), (2, .int (1 : Int32))]) rfl ?_
  refine lo_rule (f := (f_X9_searchesBest_L14 k0 i1)) (YS := fun s3 => Y p l e (Rm 8 188) s m args below meth c 5 D cA ρ (Aw ρ) 0 0 (MQ below (QC D cA ρ (Aw ρ) none r τ) args s 0 0 (Aw ρ)) s3.2 τ 14 [(0, .ref (ρ k0)), (1, .int i1), (2, .int s3.1)] []) (YE := fun e23 => Y p l e (Rm 8 188) s m args below meth c 5 D cA ρ (Aw ρ) 0 0 (MQ below (QC D cA ρ (Aw ρ) none r τ) args s 0 0 (Aw ρ)) e23 τ 101 [] []) ?_ he23 ?_
  · intro s3 x h hLp hE
    unfold f_X9_searchesBest_L14 at h
    have hJ97 : ∀ (j14 : Int32) (j15 : Int32) (j16 : Int32) (sj17 : Sg), f_X9_searchesBest_J97 k0 j14 j15 j16 sj17 = some x → Y p l e (Rm 8 188) s m args below meth c 5 D cA ρ (Aw ρ) 0 0 (MQ below (QC D cA ρ (Aw ρ) none r τ) args s 0 0 (Aw ρ)) sj17 τ 97 [(0, .ref (ρ k0)), (1, .int i1), (2, .int j14)] [.int j15, .int j16, .ref (ρ (k0 + 16))] := by
      intro j14 j15 j16 sj17 h
      unfold f_X9_searchesBest_J97 at h
      obtain ⟨s18, hs18, h⟩ := Option.bind_eq_some_iff.mp h
      refine Y_iast C (pc := 97) hW (q_kr_9_20 hk0) (q_lr_9_20 hk0) hs18 dX9_searchesBest_97 ?_
      refine Y_goto C (pc := 98) (tgt := 14) dX9_searchesBest_98 (by decide) ?_
      have h := Option.some.inj h
      exact Y_sub [0, 1, 2] rfl (hLp _ h.symm)
    have hJ60 : ∀ (j9 : Int32) (j10 : Int32) (sj11 : Sg), f_X9_searchesBest_J60 k0 j9 j10 sj11 = some x → Y p l e (Rm 8 188) s m args below meth c 5 D cA ρ (Aw ρ) 0 0 (MQ below (QC D cA ρ (Aw ρ) none r τ) args s 0 0 (Aw ρ)) sj11 τ 60 [(0, .ref (ρ k0)), (1, .int i1), (2, .int j9), (4, .int j10)] [] := by
      intro j9 j10 sj11 h
      unfold f_X9_searchesBest_J60 at h
      refine Y_iload_n C (pc := 60) 2 2 rfl rfl dX9_searchesBest_60 ?_
      refine Y_aload_n C (pc := 61) 0 0 rfl rfl dX9_searchesBest_61 ?_
      refine Y_getI C (pc := 62) hk0 q_fi_RX9_233 dX9_searchesBest_62 ?_
      refine Y_iload C (pc := 65) 3 rfl dX9_searchesBest_65 ?_
      refine Y_isub C (pc := 67) dX9_searchesBest_67 ?_
      refine Y_iconst C (pc := 68) (v := (1 : Int32)) (by decide) dX9_searchesBest_68 ?_
      refine Y_isub C (pc := 69) dX9_searchesBest_69 ?_
      refine Y_iadd C (pc := 70) dX9_searchesBest_70 ?_
      refine Y_istore_n C (pc := 71) (lv' := [(2, .int (j9 + (((sj11 k0 19) - j10) - (1 : Int32)))), (0, .ref (ρ k0)), (1, .int i1), (4, .int j10)]) 2 rfl (by decide) rfl dX9_searchesBest_71 ?_
      refine Y_aload_n C (pc := 72) 0 1 rfl rfl dX9_searchesBest_72 ?_
      refine Y_getR C (pc := 73) hk0 q_fi_RX9_56 (by decide) dX9_searchesBest_73 ?_
      refine Y_iconst C (pc := 76) (v := (5 : Int32)) (by decide) dX9_searchesBest_76 ?_
      refine Y_iload_n C (pc := 77) 2 0 rfl rfl dX9_searchesBest_77 ?_
      refine Y_aload_n C (pc := 78) 0 1 rfl rfl dX9_searchesBest_78 ?_
      refine Y_getR C (pc := 79) hk0 q_fi_RX9_56 (by decide) dX9_searchesBest_79 ?_
      refine Y_iconst C (pc := 82) (v := (5 : Int32)) (by decide) dX9_searchesBest_82 ?_
      obtain ⟨v12, hv12, h⟩ := Option.bind_eq_some_iff.mp h
      refine Y_iald C (pc := 83) (q_kr_9_20 hk0) hv12 dX9_searchesBest_83 ?_
      refine Y_icmp_le C (pc := 84) (tgt := 91) dX9_searchesBest_84 (by decide) (fun c19 => ?_) (fun c19 => ?_)
      · rw [if_pos c19] at h
        refine Y_aload_n C (pc := 91) 0 1 rfl rfl dX9_searchesBest_91 ?_
        refine Y_getR C (pc := 92) hk0 q_fi_RX9_56 (by decide) dX9_searchesBest_92 ?_
        refine Y_iconst C (pc := 95) (v := (5 : Int32)) (by decide) dX9_searchesBest_95 ?_
        obtain ⟨v13, hv13, h⟩ := Option.bind_eq_some_iff.mp h
        refine Y_iald C (pc := 96) (q_kr_9_20 hk0) hv13 dX9_searchesBest_96 ?_
        exact Y_sub [1, 2, 0] rfl (hJ97 _ _ _ _ h)
      · rw [if_neg c19] at h
        refine Y_iload_n C (pc := 87) 2 0 rfl rfl dX9_searchesBest_87 ?_
        refine Y_goto C (pc := 88) (tgt := 97) dX9_searchesBest_88 (by decide) ?_
        exact Y_sub [1, 2, 0] rfl (hJ97 _ _ _ _ h)
    refine Y_iload_n C (pc := 14) 2 2 rfl rfl dX9_searchesBest_14 ?_
    refine Y_if_le C (pc := 15) (tgt := 101) dX9_searchesBest_15 (by decide) (fun c22 => ?_) (fun c22 => ?_)
    · rw [if_pos c22] at h
      have h := Option.some.inj h
      exact Y_sub [] rfl (hE _ h.symm)
    · rw [if_neg c22] at h
      refine Y_aload_n C (pc := 18) 0 0 rfl rfl dX9_searchesBest_18 ?_
      obtain ⟨v4, hv4, h⟩ := Option.bind_eq_some_iff.mp h
      refine Y_callV C [] [] [.int v4] hk0 rfl rfl (c_X9_leastNode hk0 hv4) (fun _ h => h.elim) q_cw_yX9_leastNode q_ml_RX9_244 ⟨q_im_yX9_leastNode, q_se_yX9_leastNode⟩ ⟨⟨Nat.le_of_ble_eq_true rfl, Nat.le_of_ble_eq_true rfl⟩, ⟨Nat.zero_le _, Nat.zero_le _⟩, Nat.le_of_ble_eq_true rfl⟩ rfl rfl rfl dX9_searchesBest_19 ?_
      refine Y_istore_n C (pc := 22) (lv' := [(3, .int v4), (0, .ref (ρ k0)), (1, .int i1), (2, .int s3.1)]) 3 rfl (by decide) rfl dX9_searchesBest_22 ?_
      refine Y_aload_n C (pc := 23) 0 1 rfl rfl dX9_searchesBest_23 ?_
      refine Y_getR C (pc := 24) hk0 q_fi_RX9_52 (by decide) dX9_searchesBest_24 ?_
      refine Y_iload_n C (pc := 27) 3 0 rfl rfl dX9_searchesBest_27 ?_
      refine Y_iconst C (pc := 28) (v := (0 : Int32)) (by decide) dX9_searchesBest_28 ?_
      obtain ⟨s5, hs5, h⟩ := Option.bind_eq_some_iff.mp h
      refine Y_zast C (pc := 29) hW (q_kr_9_18 hk0) (q_lr_9_18 hk0) hs5 dX9_searchesBest_29 ?_
      refine Y_aload_n C (pc := 30) 0 1 rfl rfl dX9_searchesBest_30 ?_
      refine Y_getI C (pc := 31) hk0 q_fi_RX9_233 dX9_searchesBest_31 ?_
      refine Y_istore C (pc := 34) (lv' := [(4, .int (s5 k0 19)), (3, .int v4), (0, .ref (ρ k0)), (1, .int i1), (2, .int s3.1)]) (by decide) rfl dX9_searchesBest_34 ?_
      refine Y_aload_n C (pc := 36) 0 2 rfl rfl dX9_searchesBest_36 ?_
      refine Y_iload_n C (pc := 37) 3 1 rfl rfl dX9_searchesBest_37 ?_
      obtain ⟨v6, hv6, h⟩ := Option.bind_eq_some_iff.mp h
      refine Y_callV C [.int v4] [] [] hk0 rfl rfl (c_X9_looksAt hI hk0 hv6) (fun _ h => h) q_cw_yX9_looksAt q_ml_RX9_247 ⟨q_im_yX9_looksAt, q_se_yX9_looksAt⟩ ⟨⟨Nat.le_of_ble_eq_true rfl, Nat.le_of_ble_eq_true rfl⟩, ⟨Nat.zero_le _, Nat.zero_le _⟩, Nat.le_of_ble_eq_true rfl⟩ rfl rfl rfl dX9_searchesBest_38 ?_
      refine Y_aload_n C (pc := 41) 0 2 rfl rfl dX9_searchesBest_41 ?_
      refine Y_aload_n C (pc := 42) 0 2 rfl rfl dX9_searchesBest_42 ?_
      refine Y_getR C (pc := 43) hk0 q_fi_RX9_46 (by decide) dX9_searchesBest_43 ?_
      refine Y_iload_n C (pc := 46) 3 1 rfl rfl dX9_searchesBest_46 ?_
      obtain ⟨v7, hv7, h⟩ := Option.bind_eq_some_iff.mp h
      refine Y_iald C (pc := 47) (q_kr_9_16 hk0) hv7 dX9_searchesBest_47 ?_
      obtain ⟨v8, hv8, h⟩ := Option.bind_eq_some_iff.mp h
      refine Y_callV C [.int v7] [] [.int v8.1] hk0 rfl rfl (c_X9_counts hI hk0 hv8) (fun _ h => h) q_cw_yX9_counts q_ml_RX9_250 ⟨q_im_yX9_counts, q_se_yX9_counts⟩ ⟨⟨Nat.le_of_ble_eq_true rfl, Nat.le_of_ble_eq_true rfl⟩, ⟨Nat.zero_le _, Nat.zero_le _⟩, Nat.le_of_ble_eq_true rfl⟩ rfl rfl rfl dX9_searchesBest_48 ?_
      refine Y_if_eq C (pc := 51) (tgt := 60) dX9_searchesBest_51 (by decide) (fun c21 => ?_) (fun c21 => ?_)
      · rw [if_pos c21] at h
        exact Y_sub [2, 3, 4, 0] rfl (hJ60 _ _ _ h)
      · rw [if_neg c21] at h
        refine Y_aload_n C (pc := 54) 0 2 rfl rfl dX9_searchesBest_54 ?_
        refine Y_iload_n C (pc := 55) 1 3 rfl rfl dX9_searchesBest_55 ?_
        refine Y_iconst C (pc := 56) (v := (0 : Int32)) (by decide) dX9_searchesBest_56 ?_
        obtain ⟨v20, hv20, h⟩ := Option.bind_eq_some_iff.mp h
        refine Y_callV C [.int i1, .int (0 : Int32)] [] [] hk0 rfl rfl (c_X9_branches hI hk0 hv20) (fun _ h => h) q_cw_yX9_branches q_ml_RX9_253 ⟨q_im_yX9_branches, q_se_yX9_branches⟩ ⟨⟨Nat.le_of_ble_eq_true rfl, Nat.le_of_ble_eq_true rfl⟩, ⟨Nat.zero_le _, Nat.zero_le _⟩, Nat.le_of_ble_eq_true rfl⟩ rfl rfl rfl dX9_searchesBest_57 ?_
        exact Y_sub [2, 3, 4, 0] rfl (hJ60 _ _ _ h)
  · cases h
    exact Y_vret C dX9_searchesBest_101

set_option maxRecDepth 100000 in
set_option maxHeartbeats 4000000 in
theorem c_X9_searchesDeep {l : Launch} {D : va_G} {cA ρ : Nat → Nat} {σ : Sg} {τ : Tg} {k0 : Nat} {i1 : Int32} (hI : Inj ρ) (hk0 : kd k0 = (0, 9)) {r : Sg} (h : f_X9_searchesDeep σ k0 i1 = some r) : Ct l yX9_searchesDeep cX9_searchesDeep 2 none 8 188 D cA ρ (Aw ρ) [.ref (ρ k0), .int i1] σ τ none r τ := by
  refine Ct_of (by decide +kernel) (Nat.le_of_ble_eq_true rfl) (fun p e s m args below meth c C => ?_)
  have C : Ctx p l s m args meth c cX9_searchesDeep RX9 2 none D cA ρ (Aw ρ) := C
  have hW : Wr ρ (Aw ρ) := ⟨hI, fun k hk => ⟨k, hk, rfl⟩⟩
  unfold f_X9_searchesDeep at h
  refine Y_sub [0, 1] (lv' := [(0, .ref (ρ k0)), (1, .int i1)]) rfl ?_
  refine Y_aload_n C (pc := 0) 0 0 rfl rfl dX9_searchesDeep_0 ?_
  refine Y_iconst C (pc := 1) (v := (0 : Int32)) (by decide) dX9_searchesDeep_1 ?_
  obtain ⟨v1, hv1, h⟩ := Option.bind_eq_some_iff.mp h
  refine Y_callV C [.int (0 : Int32)] [] [] hk0 rfl rfl (c_X9_adds hI hk0 hv1) (fun _ h => h) q_cw_yX9_adds q_ml_RX9_240 ⟨q_im_yX9_adds, q_se_yX9_adds⟩ ⟨⟨Nat.le_of_ble_eq_true rfl, Nat.le_of_ble_eq_true rfl⟩, ⟨Nat.zero_le _, Nat.zero_le _⟩, Nat.le_of_ble_eq_true rfl⟩ rfl rfl rfl dX9_searchesDeep_2 ?_
  obtain ⟨e9, he9, h⟩ := Option.bind_eq_some_iff.mp h
  refine Y_sub [0, 1] (lv' := [(0, .ref (ρ k0)), (1, .int i1)]) rfl ?_
  refine lo_rule (f := (f_X9_searchesDeep_L5 k0 i1)) (YS := fun s2 => Y p l e (Rm 8 188) s m args below meth c 2 D cA ρ (Aw ρ) 0 0 (MQ below (QC D cA ρ (Aw ρ) none r τ) args s 0 0 (Aw ρ)) s2 τ 5 [(0, .ref (ρ k0)), (1, .int i1)] []) (YE := fun e9 => Y p l e (Rm 8 188) s m args below meth c 2 D cA ρ (Aw ρ) 0 0 (MQ below (QC D cA ρ (Aw ρ) none r τ) args s 0 0 (Aw ρ)) e9 τ 50 [] []) ?_ he9 ?_
  · intro s2 x h hLp hE
    unfold f_X9_searchesDeep_L5 at h
    refine Y_aload_n C (pc := 5) 0 0 rfl rfl dX9_searchesDeep_5 ?_
    refine Y_getI C (pc := 6) hk0 q_fi_RX9_233 dX9_searchesDeep_6 ?_
    refine Y_if_le C (pc := 9) (tgt := 50) dX9_searchesDeep_9 (by decide) (fun c8 => ?_) (fun c8 => ?_)
    · rw [if_pos c8] at h
      have h := Option.some.inj h
      exact Y_sub [] rfl (hE _ h.symm)
    · rw [if_neg c8] at h
      refine Y_aload_n C (pc := 12) 0 0 rfl rfl dX9_searchesDeep_12 ?_
      refine Y_dup C (pc := 13) rfl dX9_searchesDeep_13 ?_
      refine Y_getI C (pc := 14) hk0 q_fi_RX9_233 dX9_searchesDeep_14 ?_
      refine Y_iconst C (pc := 17) (v := (1 : Int32)) (by decide) dX9_searchesDeep_17 ?_
      refine Y_isub C (pc := 18) dX9_searchesDeep_18 ?_
      refine Y_putI C (pc := 19) hW hk0 (q_lo_9 hk0) q_fp_RX9_233 dX9_searchesDeep_19 ?_
      refine Y_aload_n C (pc := 22) 0 0 rfl rfl dX9_searchesDeep_22 ?_
      refine Y_aload_n C (pc := 23) 0 0 rfl rfl dX9_searchesDeep_23 ?_
      refine Y_getI C (pc := 24) hk0 q_fi_RX9_233 dX9_searchesDeep_24 ?_
      obtain ⟨v3, hv3, h⟩ := Option.bind_eq_some_iff.mp h
      refine Y_callV C [.int (((si s2 k0 19 ((s2 k0 19) - (1 : Int32)))) k0 19)] [] [] hk0 rfl rfl (c_X9_looksAt hI hk0 hv3) (fun _ h => h) q_cw_yX9_looksAt q_ml_RX9_247 ⟨q_im_yX9_looksAt, q_se_yX9_looksAt⟩ ⟨⟨Nat.le_of_ble_eq_true rfl, Nat.le_of_ble_eq_true rfl⟩, ⟨Nat.zero_le _, Nat.zero_le _⟩, Nat.le_of_ble_eq_true rfl⟩ rfl rfl rfl dX9_searchesDeep_27 ?_
      refine Y_aload_n C (pc := 30) 0 0 rfl rfl dX9_searchesDeep_30 ?_
      refine Y_aload_n C (pc := 31) 0 0 rfl rfl dX9_searchesDeep_31 ?_
      obtain ⟨v4, hv4, h⟩ := Option.bind_eq_some_iff.mp h
      refine Y_callV C [] [.ref (ρ k0)] [.int v4.1, .ref (ρ k0)] hk0 rfl rfl (c_X9_boundOf hI hk0 hv4) (fun _ h => h) q_cw_yX9_boundOf q_ml_RX9_206 ⟨q_im_yX9_boundOf, q_se_yX9_boundOf⟩ ⟨⟨Nat.le_of_ble_eq_true rfl, Nat.le_of_ble_eq_true rfl⟩, ⟨Nat.zero_le _, Nat.zero_le _⟩, Nat.le_of_ble_eq_true rfl⟩ rfl rfl rfl dX9_searchesDeep_32 ?_
      obtain ⟨v5, hv5, h⟩ := Option.bind_eq_some_iff.mp h
      refine Y_callV C [.int v4.1] [] [.int v5.1] hk0 rfl rfl (c_X9_counts hI hk0 hv5) (fun _ h => h) q_cw_yX9_counts q_ml_RX9_250 ⟨q_im_yX9_counts, q_se_yX9_counts⟩ ⟨⟨Nat.le_of_ble_eq_true rfl, Nat.le_of_ble_eq_true rfl⟩, ⟨Nat.zero_le _, Nat.zero_le _⟩, Nat.le_of_ble_eq_true rfl⟩ rfl rfl rfl dX9_searchesDeep_35 ?_
      refine Y_if_eq C (pc := 38) (tgt := 5) dX9_searchesDeep_38 (by decide) (fun c7 => ?_) (fun c7 => ?_)
      · rw [if_pos c7] at h
        have h := Option.some.inj h
        exact Y_sub [0, 1] rfl (hLp _ h.symm)
      · rw [if_neg c7] at h
        refine Y_aload_n C (pc := 41) 0 0 rfl rfl dX9_searchesDeep_41 ?_
        refine Y_iload_n C (pc := 42) 1 1 rfl rfl dX9_searchesDeep_42 ?_
        refine Y_iconst C (pc := 43) (v := (1 : Int32)) (by decide) dX9_searchesDeep_43 ?_
        obtain ⟨v6, hv6, h⟩ := Option.bind_eq_some_iff.mp h
        refine Y_callV C [.int i1, .int (1 : Int32)] [] [] hk0 rfl rfl (c_X9_branches hI hk0 hv6) (fun _ h => h) q_cw_yX9_branches q_ml_RX9_253 ⟨q_im_yX9_branches, q_se_yX9_branches⟩ ⟨⟨Nat.le_of_ble_eq_true rfl, Nat.le_of_ble_eq_true rfl⟩, ⟨Nat.zero_le _, Nat.zero_le _⟩, Nat.le_of_ble_eq_true rfl⟩ rfl rfl rfl dX9_searchesDeep_44 ?_
        refine Y_goto C (pc := 47) (tgt := 5) dX9_searchesDeep_47 (by decide) ?_
        have h := Option.some.inj h
        exact Y_sub [0, 1] rfl (hLp _ h.symm)
  · cases h
    exact Y_vret C dX9_searchesDeep_50

set_option maxRecDepth 100000 in
set_option maxHeartbeats 4000000 in
theorem c_X9_search {l : Launch} {D : va_G} {cA ρ : Nat → Nat} {σ : Sg} {τ : Tg} {k0 : Nat} {i1 : Int32} {i2 : Int32} (hI : Inj ρ) (hk0 : kd k0 = (0, 9)) {r : Int32 × Sg} (h : f_X9_search σ k0 i1 i2 = some r) : Ct l yX9_search cX9_search 4 (some .int) 9 212 D cA ρ (Aw ρ) [.ref (ρ k0), .int i1, .int i2] σ τ (some (.int r.1)) r.2 τ := by
  refine Ct_of (by decide +kernel) (Nat.le_of_ble_eq_true rfl) (fun p e s m args below meth c C => ?_)
  have C : Ctx p l s m args meth c cX9_search RX9 4 (some .int) D cA ρ (Aw ρ) := C
  have hW : Wr ρ (Aw ρ) := ⟨hI, fun k hk => ⟨k, hk, rfl⟩⟩
  unfold f_X9_search at h
  refine Y_sub [0, 1, 2] (lv' := [(0, .ref (ρ k0)), (1, .int i1), (2, .int i2)]) rfl ?_
  have hJ79 : ∀ (sj12 : Sg), f_X9_search_J79 k0 sj12 = some r → Y p l e (Rm 9 212) s m args below meth c 4 D cA ρ (Aw ρ) 0 0 (MQ below (QC D cA ρ (Aw ρ) (some (.int r.1)) r.2 τ) args s 0 0 (Aw ρ)) sj12 τ 79 [(0, .ref (ρ k0))] [] := by
    intro sj12 h
    unfold f_X9_search_J79 at h
    refine Y_aload_n C (pc := 79) 0 0 rfl rfl dX9_search_79 ?_
    refine Y_aload_n C (pc := 80) 0 0 rfl rfl dX9_search_80 ?_
    refine Y_getR C (pc := 81) hk0 q_fi_RX9_56 (by decide) dX9_search_81 ?_
    refine Y_iconst C (pc := 84) (v := (2 : Int32)) (by decide) dX9_search_84 ?_
    obtain ⟨v13, hv13, h⟩ := Option.bind_eq_some_iff.mp h
    refine Y_iald C (pc := 85) (q_kr_9_20 hk0) hv13 dX9_search_85 ?_
    obtain ⟨v14, hv14, h⟩ := Option.bind_eq_some_iff.mp h
    refine Y_callV C [.int v13] [] [.int v14.1] hk0 rfl rfl (c_X9_tells hI hk0 hv14) (fun _ h => h) q_cw_yX9_tells q_ml_RX9_82 ⟨q_im_yX9_tells, q_se_yX9_tells⟩ ⟨⟨Nat.le_of_ble_eq_true rfl, Nat.le_of_ble_eq_true rfl⟩, ⟨Nat.zero_le _, Nat.zero_le _⟩, Nat.le_of_ble_eq_true rfl⟩ rfl rfl rfl dX9_search_86 ?_
    cases h
    exact Y_iret C dX9_search_89
  refine Y_iconst C (pc := 0) (v := (0 : Int32)) (by decide) dX9_search_0 ?_
  refine Y_istore_n C (pc := 1) (lv' := [(3, .int (0 : Int32)), (0, .ref (ρ k0)), (1, .int i1), (2, .int i2)]) 3 rfl (by decide) rfl dX9_search_1 ?_
  obtain ⟨e5, he5, h⟩ := Option.bind_eq_some_iff.mp h
  refine Y_sub [1, 2, 3, 0] (lv' := [(0, .ref (ρ k0)), (1, .int i1), (2, .int i2), (3, .int (0 : Int32))]) rfl ?_
  refine lo_rule (f := (f_X9_search_L2 k0)) (YS := fun s1 => Y p l e (Rm 9 212) s m args below meth c 4 D cA ρ (Aw ρ) 0 0 (MQ below (QC D cA ρ (Aw ρ) (some (.int r.1)) r.2 τ) args s 0 0 (Aw ρ)) s1.2 τ 2 [(0, .ref (ρ k0)), (1, .int i1), (2, .int i2), (3, .int s1.1)] []) (YE := fun e5 => Y p l e (Rm 9 212) s m args below meth c 4 D cA ρ (Aw ρ) 0 0 (MQ below (QC D cA ρ (Aw ρ) (some (.int r.1)) r.2 τ) args s 0 0 (Aw ρ)) e5 τ 28 [(0, .ref (ρ k0)), (1, .int i1), (2, .int i2)] []) ?_ he5 ?_
  · intro s1 x h hLp hE
    unfold f_X9_search_L2 at h
    refine Y_iload_n C (pc := 2) 3 3 rfl rfl dX9_search_2 ?_
    refine Y_bipush C (pc := 3) (v := (7 : Int32)) (by decide) dX9_search_3 ?_
    refine Y_icmp_ge C (pc := 5) (tgt := 28) dX9_search_5 (by decide) (fun c4 => ?_) (fun c4 => ?_)
    · rw [if_pos c4] at h
      have h := Option.some.inj h
      exact Y_sub [0, 1, 2] rfl (hE _ h.symm)
    · rw [if_neg c4] at h
      refine Y_aload_n C (pc := 8) 0 0 rfl rfl dX9_search_8 ?_
      refine Y_getR C (pc := 9) hk0 q_fi_RX9_56 (by decide) dX9_search_9 ?_
      refine Y_iload_n C (pc := 12) 3 3 rfl rfl dX9_search_12 ?_
      refine Y_iconst C (pc := 13) (v := (0 : Int32)) (by decide) dX9_search_13 ?_
      obtain ⟨s2, hs2, h⟩ := Option.bind_eq_some_iff.mp h
      refine Y_iast C (pc := 14) hW (q_kr_9_20 hk0) (q_lr_9_20 hk0) hs2 dX9_search_14 ?_
      refine Y_aload_n C (pc := 15) 0 0 rfl rfl dX9_search_15 ?_
      refine Y_getR C (pc := 16) hk0 q_fi_RX9_59 (by decide) dX9_search_16 ?_
      refine Y_iload_n C (pc := 19) 3 3 rfl rfl dX9_search_19 ?_
      refine Y_iconst C (pc := 20) (v := (0 : Int32)) (by decide) dX9_search_20 ?_
      obtain ⟨s3, hs3, h⟩ := Option.bind_eq_some_iff.mp h
      refine Y_iast C (pc := 21) hW (q_kr_9_21 hk0) (q_lr_9_21 hk0) hs3 dX9_search_21 ?_
      refine Y_iinc C (pc := 22) (v := (s1.1 + 1)) (lv' := [(3, .int (s1.1 + 1)), (0, .ref (ρ k0)), (1, .int i1), (2, .int i2)]) 3 rfl (congrArg (fun z => s1.1 + z) (by decide : Int32.ofInt (1) = (1))) (by decide) rfl dX9_search_22 ?_
      refine Y_goto C (pc := 25) (tgt := 2) dX9_search_25 (by decide) ?_
      have h := Option.some.inj h
      exact Y_sub [1, 2, 3, 0] rfl (hLp _ h.symm)
  · refine Y_aload_n C (pc := 28) 0 0 rfl rfl dX9_search_28 ?_
    refine Y_getR C (pc := 29) hk0 q_fi_RX9_56 (by decide) dX9_search_29 ?_
    refine Y_iconst C (pc := 32) (v := (0 : Int32)) (by decide) dX9_search_32 ?_
    refine Y_ldc C q_ct_RX9_167 dX9_search_33 ?_
    obtain ⟨s6, hs6, h⟩ := Option.bind_eq_some_iff.mp h
    refine Y_iast C (pc := 35) hW (q_kr_9_20 hk0) (q_lr_9_20 hk0) hs6 dX9_search_35 ?_
    refine Y_aload_n C (pc := 36) 0 0 rfl rfl dX9_search_36 ?_
    refine Y_getR C (pc := 37) hk0 q_fi_RX9_56 (by decide) dX9_search_37 ?_
    refine Y_bipush C (pc := 40) (v := (6 : Int32)) (by decide) dX9_search_40 ?_
    refine Y_aload_n C (pc := 42) 0 0 rfl rfl dX9_search_42 ?_
    refine Y_getR C (pc := 43) hk0 q_fi_RX9_7 (by decide) dX9_search_43 ?_
    refine Y_iconst C (pc := 46) (v := (0 : Int32)) (by decide) dX9_search_46 ?_
    obtain ⟨v7, hv7, h⟩ := Option.bind_eq_some_iff.mp h
    refine Y_iald C (pc := 47) (q_kr_9_0 hk0) hv7 dX9_search_47 ?_
    obtain ⟨s8, hs8, h⟩ := Option.bind_eq_some_iff.mp h
    refine Y_iast C (pc := 48) hW (q_kr_9_20 hk0) (q_lr_9_20 hk0) hs8 dX9_search_48 ?_
    refine Y_aload_n C (pc := 49) 0 0 rfl rfl dX9_search_49 ?_
    refine Y_iconst C (pc := 50) (v := (0 : Int32)) (by decide) dX9_search_50 ?_
    refine Y_putI C (pc := 51) hW hk0 (q_lo_9 hk0) q_fp_RX9_233 dX9_search_51 ?_
    refine Y_aload_n C (pc := 54) 0 0 rfl rfl dX9_search_54 ?_
    obtain ⟨v9, hv9, h⟩ := Option.bind_eq_some_iff.mp h
    refine Y_callV C [] [] [] hk0 rfl rfl (c_X9_laysTurns hI hk0 hv9) (fun _ h => h) q_cw_yX9_laysTurns q_ml_RX9_221 ⟨q_im_yX9_laysTurns, q_se_yX9_laysTurns⟩ ⟨⟨Nat.le_of_ble_eq_true rfl, Nat.le_of_ble_eq_true rfl⟩, ⟨Nat.zero_le _, Nat.zero_le _⟩, Nat.le_of_ble_eq_true rfl⟩ rfl rfl rfl dX9_search_55 ?_
    refine Y_aload_n C (pc := 58) 0 0 rfl rfl dX9_search_58 ?_
    obtain ⟨v10, hv10, h⟩ := Option.bind_eq_some_iff.mp h
    refine Y_callV C [] [] [] hk0 rfl rfl (c_X9_looks hI hk0 hv10) (fun _ h => h) q_cw_yX9_looks q_ml_RX9_177 ⟨q_im_yX9_looks, q_se_yX9_looks⟩ ⟨⟨Nat.le_of_ble_eq_true rfl, Nat.le_of_ble_eq_true rfl⟩, ⟨Nat.zero_le _, Nat.zero_le _⟩, Nat.le_of_ble_eq_true rfl⟩ rfl rfl rfl dX9_search_59 ?_
    refine Y_iload_n C (pc := 62) 1 1 rfl rfl dX9_search_62 ?_
    refine Y_if_eq C (pc := 63) (tgt := 74) dX9_search_63 (by decide) (fun c16 => ?_) (fun c16 => ?_)
    · rw [if_pos c16] at h
      refine Y_aload_n C (pc := 74) 0 0 rfl rfl dX9_search_74 ?_
      refine Y_iload_n C (pc := 75) 2 2 rfl rfl dX9_search_75 ?_
      obtain ⟨v11, hv11, h⟩ := Option.bind_eq_some_iff.mp h
      refine Y_callV C [.int i2] [] [] hk0 rfl rfl (c_X9_searchesDeep hI hk0 hv11) (fun _ h => h) q_cw_yX9_searchesDeep q_ml_RX9_260 ⟨q_im_yX9_searchesDeep, q_se_yX9_searchesDeep⟩ ⟨⟨Nat.le_of_ble_eq_true rfl, Nat.le_of_ble_eq_true rfl⟩, ⟨Nat.zero_le _, Nat.zero_le _⟩, Nat.le_of_ble_eq_true rfl⟩ rfl rfl rfl dX9_search_76 ?_
      exact Y_sub [0] rfl (hJ79 _ h)
    · rw [if_neg c16] at h
      refine Y_aload_n C (pc := 66) 0 0 rfl rfl dX9_search_66 ?_
      refine Y_iload_n C (pc := 67) 2 2 rfl rfl dX9_search_67 ?_
      obtain ⟨v15, hv15, h⟩ := Option.bind_eq_some_iff.mp h
      refine Y_callV C [.int i2] [] [] hk0 rfl rfl (c_X9_searchesBest hI hk0 hv15) (fun _ h => h) q_cw_yX9_searchesBest q_ml_RX9_257 ⟨q_im_yX9_searchesBest, q_se_yX9_searchesBest⟩ ⟨⟨Nat.le_of_ble_eq_true rfl, Nat.le_of_ble_eq_true rfl⟩, ⟨Nat.zero_le _, Nat.zero_le _⟩, Nat.le_of_ble_eq_true rfl⟩ rfl rfl rfl dX9_search_68 ?_
      refine Y_goto C (pc := 71) (tgt := 79) dX9_search_71 (by decide) ?_
      exact Y_sub [0] rfl (hJ79 _ h)

set_option maxRecDepth 100000 in
set_option maxHeartbeats 4000000 in
theorem c_X9_result {l : Launch} {D : va_G} {cA ρ : Nat → Nat} {σ : Sg} {τ : Tg} {k0 : Nat} {i1 : Int32} (hk0 : kd k0 = (0, 9)) {r : Int32} (h : f_X9_result σ k0 i1 = some r) : Ct l yX9_result cX9_result 2 (some .int) 0 0 D cA ρ A0 [.ref (ρ k0), .int i1] σ τ (some (.int r)) σ τ := by
  refine Ct_of (by decide +kernel) (Nat.le_of_ble_eq_true rfl) (fun p e s m args below meth c C => ?_)
  have C : Ctx p l s m args meth c cX9_result RX9 2 (some .int) D cA ρ A0 := C
  unfold f_X9_result at h
  refine Y_sub [0, 1] (lv' := [(0, .ref (ρ k0)), (1, .int i1)]) rfl ?_
  refine Y_aload_n C (pc := 0) 0 0 rfl rfl dX9_result_0 ?_
  refine Y_getR C (pc := 1) hk0 q_fi_RX9_56 (by decide) dX9_result_1 ?_
  refine Y_bipush C (pc := 4) (v := (6 : Int32)) (by decide) dX9_result_4 ?_
  obtain ⟨v1, hv1, h⟩ := Option.bind_eq_some_iff.mp h
  refine Y_iald C (pc := 6) (q_kr_9_20 hk0) hv1 dX9_result_6 ?_
  refine Y_iconst C (pc := 7) (v := (-1 : Int32)) (by decide) dX9_result_7 ?_
  refine Y_icmp_ne C (pc := 8) (tgt := 15) dX9_result_8 (by decide) (fun c3 => ?_) (fun c3 => ?_)
  · rw [if_neg c3] at h
    refine Y_aload_n C (pc := 15) 0 0 rfl rfl dX9_result_15 ?_
    refine Y_getR C (pc := 16) hk0 q_fi_RX9_56 (by decide) dX9_result_16 ?_
    refine Y_iload_n C (pc := 19) 1 1 rfl rfl dX9_result_19 ?_
    obtain ⟨v2, hv2, h⟩ := Option.bind_eq_some_iff.mp h
    refine Y_iald C (pc := 20) (q_kr_9_20 hk0) hv2 dX9_result_20 ?_
    cases h
    exact Y_iret C dX9_result_21
  · rw [if_pos c3] at h
    refine Y_iconst C (pc := 11) (v := (-1 : Int32)) (by decide) dX9_result_11 ?_
    refine Y_goto C (pc := 12) (tgt := 21) dX9_result_12 (by decide) ?_
    cases h
    exact Y_iret C dX9_result_21

set_option maxRecDepth 100000 in
set_option maxHeartbeats 4000000 in
theorem c_X9_found {l : Launch} {D : va_G} {cA ρ : Nat → Nat} {σ : Sg} {τ : Tg} {k0 : Nat} {i1 : Int32} (hI : Inj ρ) (hk0 : kd k0 = (0, 9)) {r : Int32 × Sg} (h : f_X9_found σ k0 i1 = some r) : Ct l yX9_found cX9_found 2 (some .int) 1 22 D cA ρ (Aw ρ) [.ref (ρ k0), .int i1] σ τ (some (.int r.1)) r.2 τ := by
  refine Ct_of (by decide +kernel) (Nat.le_of_ble_eq_true rfl) (fun p e s m args below meth c C => ?_)
  have C : Ctx p l s m args meth c cX9_found RX9 2 (some .int) D cA ρ (Aw ρ) := C
  have hW : Wr ρ (Aw ρ) := ⟨hI, fun k hk => ⟨k, hk, rfl⟩⟩
  unfold f_X9_found at h
  refine Y_sub [0, 1] (lv' := [(0, .ref (ρ k0)), (1, .int i1)]) rfl ?_
  refine Y_iload_n C (pc := 0) 1 1 rfl rfl dX9_found_0 ?_
  refine Y_iconst C (pc := 1) (v := (0 : Int32)) (by decide) dX9_found_1 ?_
  refine Y_bipush C (pc := 2) (v := (6 : Int32)) (by decide) dX9_found_2 ?_
  obtain ⟨v1, hv1, h⟩ := Option.bind_eq_some_iff.mp h
  refine Y_callS C [.int i1, .int (0 : Int32), .int (6 : Int32)] [] [.int v1] (c_X9_in  hv1) (fun _ h => h.elim) q_cw_yX9_in q_ml_RX9_86 q_st_yX9_in ⟨⟨Nat.le_of_ble_eq_true rfl, Nat.le_of_ble_eq_true rfl⟩, ⟨Nat.zero_le _, Nat.zero_le _⟩, Nat.le_of_ble_eq_true rfl⟩ rfl rfl rfl dX9_found_4 ?_
  refine Y_if_eq C (pc := 7) (tgt := 22) dX9_found_7 (by decide) (fun c5 => ?_) (fun c5 => ?_)
  · rw [if_pos c5] at h
    refine Y_aload_n C (pc := 22) 0 0 rfl rfl dX9_found_22 ?_
    refine Y_iconst C (pc := 23) (v := (1 : Int32)) (by decide) dX9_found_23 ?_
    obtain ⟨v2, hv2, h⟩ := Option.bind_eq_some_iff.mp h
    refine Y_callV C [.int (1 : Int32)] [] [.int v2.1] hk0 rfl rfl (c_X9_fails hI hk0 hv2) (fun _ h => h) q_cw_yX9_fails q_ml_RX9_94 ⟨q_im_yX9_fails, q_se_yX9_fails⟩ ⟨⟨Nat.le_of_ble_eq_true rfl, Nat.le_of_ble_eq_true rfl⟩, ⟨Nat.zero_le _, Nat.zero_le _⟩, Nat.le_of_ble_eq_true rfl⟩ rfl rfl rfl dX9_found_24 ?_
    cases h
    exact Y_iret C dX9_found_27
  · rw [if_neg c5] at h
    refine Y_aload_n C (pc := 10) 0 0 rfl rfl dX9_found_10 ?_
    refine Y_aload_n C (pc := 11) 0 0 rfl rfl dX9_found_11 ?_
    refine Y_iload_n C (pc := 12) 1 1 rfl rfl dX9_found_12 ?_
    obtain ⟨v3, hv3, h⟩ := Option.bind_eq_some_iff.mp h
    refine Y_callV C [.int i1] [.ref (ρ k0)] [.int v3, .ref (ρ k0)] hk0 rfl rfl (c_X9_result hk0 hv3) (fun _ h => h.elim) q_cw_yX9_result q_ml_RX9_263 ⟨q_im_yX9_result, q_se_yX9_result⟩ ⟨⟨Nat.le_of_ble_eq_true rfl, Nat.le_of_ble_eq_true rfl⟩, ⟨Nat.zero_le _, Nat.zero_le _⟩, Nat.le_of_ble_eq_true rfl⟩ rfl rfl rfl dX9_found_13 ?_
    obtain ⟨v4, hv4, h⟩ := Option.bind_eq_some_iff.mp h
    refine Y_callV C [.int v3] [] [.int v4.1] hk0 rfl rfl (c_X9_tells hI hk0 hv4) (fun _ h => h) q_cw_yX9_tells q_ml_RX9_82 ⟨q_im_yX9_tells, q_se_yX9_tells⟩ ⟨⟨Nat.le_of_ble_eq_true rfl, Nat.le_of_ble_eq_true rfl⟩, ⟨Nat.zero_le _, Nat.zero_le _⟩, Nat.le_of_ble_eq_true rfl⟩ rfl rfl rfl dX9_found_16 ?_
    refine Y_goto C (pc := 19) (tgt := 27) dX9_found_19 (by decide) ?_
    cases h
    exact Y_iret C dX9_found_27

set_option maxRecDepth 100000 in
set_option maxHeartbeats 4000000 in
theorem c_X9_nodes {l : Launch} {D : va_G} {cA ρ : Nat → Nat} {σ : Sg} {τ : Tg} {k0 : Nat} {i1 : Int32} (hI : Inj ρ) (hk0 : kd k0 = (0, 9)) {r : Int32 × Sg} (h : f_X9_nodes σ k0 i1 = some r) : Ct l yX9_nodes cX9_nodes 2 (some .int) 1 22 D cA ρ (Aw ρ) [.ref (ρ k0), .int i1] σ τ (some (.int r.1)) r.2 τ := by
  refine Ct_of (by decide +kernel) (Nat.le_of_ble_eq_true rfl) (fun p e s m args below meth c C => ?_)
  have C : Ctx p l s m args meth c cX9_nodes RX9 2 (some .int) D cA ρ (Aw ρ) := C
  have hW : Wr ρ (Aw ρ) := ⟨hI, fun k hk => ⟨k, hk, rfl⟩⟩
  unfold f_X9_nodes at h
  refine Y_sub [0, 1] (lv' := [(0, .ref (ρ k0)), (1, .int i1)]) rfl ?_
  have hJ38 : ∀ (j4 : Int32) (sj5 : Sg), f_X9_nodes_J38 k0 j4 sj5 = some r → Y p l e (Rm 1 22) s m args below meth c 2 D cA ρ (Aw ρ) 0 0 (MQ below (QC D cA ρ (Aw ρ) (some (.int r.1)) r.2 τ) args s 0 0 (Aw ρ)) sj5 τ 38 [] [.int j4, .ref (ρ k0)] := by
    intro j4 sj5 h
    unfold f_X9_nodes_J38 at h
    obtain ⟨v6, hv6, h⟩ := Option.bind_eq_some_iff.mp h
    refine Y_callV C [.int j4] [] [.int v6.1] hk0 rfl rfl (c_X9_tells hI hk0 hv6) (fun _ h => h) q_cw_yX9_tells q_ml_RX9_82 ⟨q_im_yX9_tells, q_se_yX9_tells⟩ ⟨⟨Nat.le_of_ble_eq_true rfl, Nat.le_of_ble_eq_true rfl⟩, ⟨Nat.zero_le _, Nat.zero_le _⟩, Nat.le_of_ble_eq_true rfl⟩ rfl rfl rfl dX9_nodes_38 ?_
    cases h
    exact Y_iret C dX9_nodes_41
  refine Y_iload_n C (pc := 0) 1 1 rfl rfl dX9_nodes_0 ?_
  refine Y_iconst C (pc := 1) (v := (0 : Int32)) (by decide) dX9_nodes_1 ?_
  refine Y_bipush C (pc := 2) (v := (6 : Int32)) (by decide) dX9_nodes_2 ?_
  obtain ⟨v1, hv1, h⟩ := Option.bind_eq_some_iff.mp h
  refine Y_callS C [.int i1, .int (0 : Int32), .int (6 : Int32)] [] [.int v1] (c_X9_in  hv1) (fun _ h => h.elim) q_cw_yX9_in q_ml_RX9_86 q_st_yX9_in ⟨⟨Nat.le_of_ble_eq_true rfl, Nat.le_of_ble_eq_true rfl⟩, ⟨Nat.zero_le _, Nat.zero_le _⟩, Nat.le_of_ble_eq_true rfl⟩ rfl rfl rfl dX9_nodes_4 ?_
  refine Y_if_ne C (pc := 7) (tgt := 16) dX9_nodes_7 (by decide) (fun c9 => ?_) (fun c9 => ?_)
  · rw [if_neg c9] at h
    refine Y_aload_n C (pc := 16) 0 0 rfl rfl dX9_nodes_16 ?_
    refine Y_aload_n C (pc := 17) 0 0 rfl rfl dX9_nodes_17 ?_
    refine Y_getR C (pc := 18) hk0 q_fi_RX9_56 (by decide) dX9_nodes_18 ?_
    refine Y_bipush C (pc := 21) (v := (6 : Int32)) (by decide) dX9_nodes_21 ?_
    obtain ⟨v2, hv2, h⟩ := Option.bind_eq_some_iff.mp h
    refine Y_iald C (pc := 23) (q_kr_9_20 hk0) hv2 dX9_nodes_23 ?_
    refine Y_iconst C (pc := 24) (v := (-1 : Int32)) (by decide) dX9_nodes_24 ?_
    refine Y_icmp_ne C (pc := 25) (tgt := 32) dX9_nodes_25 (by decide) (fun c7 => ?_) (fun c7 => ?_)
    · rw [if_neg c7] at h
      refine Y_aload_n C (pc := 32) 0 0 rfl rfl dX9_nodes_32 ?_
      refine Y_getR C (pc := 33) hk0 q_fi_RX9_59 (by decide) dX9_nodes_33 ?_
      refine Y_iload_n C (pc := 36) 1 1 rfl rfl dX9_nodes_36 ?_
      obtain ⟨v3, hv3, h⟩ := Option.bind_eq_some_iff.mp h
      refine Y_iald C (pc := 37) (q_kr_9_21 hk0) hv3 dX9_nodes_37 ?_
      exact Y_sub [] rfl (hJ38 _ _ h)
    · rw [if_pos c7] at h
      refine Y_iconst C (pc := 28) (v := (-1 : Int32)) (by decide) dX9_nodes_28 ?_
      refine Y_goto C (pc := 29) (tgt := 38) dX9_nodes_29 (by decide) ?_
      exact Y_sub [] rfl (hJ38 _ _ h)
  · rw [if_pos c9] at h
    refine Y_aload_n C (pc := 10) 0 0 rfl rfl dX9_nodes_10 ?_
    refine Y_iconst C (pc := 11) (v := (1 : Int32)) (by decide) dX9_nodes_11 ?_
    obtain ⟨v8, hv8, h⟩ := Option.bind_eq_some_iff.mp h
    refine Y_callV C [.int (1 : Int32)] [] [.int v8.1] hk0 rfl rfl (c_X9_fails hI hk0 hv8) (fun _ h => h) q_cw_yX9_fails q_ml_RX9_94 ⟨q_im_yX9_fails, q_se_yX9_fails⟩ ⟨⟨Nat.le_of_ble_eq_true rfl, Nat.le_of_ble_eq_true rfl⟩, ⟨Nat.zero_le _, Nat.zero_le _⟩, Nat.le_of_ble_eq_true rfl⟩ rfl rfl rfl dX9_nodes_12 ?_
    cases h
    exact Y_iret C dX9_nodes_15

set_option maxRecDepth 100000 in
set_option maxHeartbeats 4000000 in
theorem c_X9_type {l : Launch} {D : va_G} {cA ρ : Nat → Nat} {σ : Sg} {τ : Tg} {k0 : Nat} {i1 : Int32} (hI : Inj ρ) (hk0 : kd k0 = (0, 9)) {r : Int32 × Sg} (h : f_X9_type σ k0 i1 = some r) : Ct l yX9_type cX9_type 2 (some .int) 1 22 D cA ρ (Aw ρ) [.ref (ρ k0), .int i1] σ τ (some (.int r.1)) r.2 τ := by
  refine Ct_of (by decide +kernel) (Nat.le_of_ble_eq_true rfl) (fun p e s m args below meth c C => ?_)
  have C : Ctx p l s m args meth c cX9_type RX9 2 (some .int) D cA ρ (Aw ρ) := C
  have hW : Wr ρ (Aw ρ) := ⟨hI, fun k hk => ⟨k, hk, rfl⟩⟩
  unfold f_X9_type at h
  refine Y_sub [0, 1] (lv' := [(0, .ref (ρ k0)), (1, .int i1)]) rfl ?_
  refine Y_iload_n C (pc := 0) 1 1 rfl rfl dX9_type_0 ?_
  refine Y_bipush C (pc := 1) (v := (32 : Int32)) (by decide) dX9_type_1 ?_
  refine Y_bipush C (pc := 3) (v := (126 : Int32)) (by decide) dX9_type_3 ?_
  obtain ⟨v1, hv1, h⟩ := Option.bind_eq_some_iff.mp h
  refine Y_callS C [.int i1, .int (32 : Int32), .int (126 : Int32)] [] [.int v1] (c_X9_in  hv1) (fun _ h => h.elim) q_cw_yX9_in q_ml_RX9_86 q_st_yX9_in ⟨⟨Nat.le_of_ble_eq_true rfl, Nat.le_of_ble_eq_true rfl⟩, ⟨Nat.zero_le _, Nat.zero_le _⟩, Nat.le_of_ble_eq_true rfl⟩ rfl rfl rfl dX9_type_5 ?_
  refine Y_if_ne C (pc := 8) (tgt := 17) dX9_type_8 (by decide) (fun c7 => ?_) (fun c7 => ?_)
  · rw [if_neg c7] at h
    refine Y_aload_n C (pc := 17) 0 0 rfl rfl dX9_type_17 ?_
    refine Y_getI C (pc := 18) hk0 q_fi_RX9_266 dX9_type_18 ?_
    refine Y_bipush C (pc := 21) (v := (120 : Int32)) (by decide) dX9_type_21 ?_
    refine Y_icmp_ne C (pc := 23) (tgt := 32) dX9_type_23 (by decide) (fun c5 => ?_) (fun c5 => ?_)
    · rw [if_neg c5] at h
      refine Y_aload_n C (pc := 32) 0 0 rfl rfl dX9_type_32 ?_
      refine Y_getR C (pc := 33) hk0 q_fi_RX9_19 (by decide) dX9_type_33 ?_
      refine Y_aload_n C (pc := 36) 0 0 rfl rfl dX9_type_36 ?_
      refine Y_getI C (pc := 37) hk0 q_fi_RX9_266 dX9_type_37 ?_
      refine Y_iload_n C (pc := 40) 1 1 rfl rfl dX9_type_40 ?_
      obtain ⟨s2, hs2, h⟩ := Option.bind_eq_some_iff.mp h
      refine Y_iast C (pc := 41) hW (q_kr_9_4 hk0) (q_lr_9_4 hk0) hs2 dX9_type_41 ?_
      refine Y_aload_n C (pc := 42) 0 0 rfl rfl dX9_type_42 ?_
      refine Y_dup C (pc := 43) rfl dX9_type_43 ?_
      refine Y_getI C (pc := 44) hk0 q_fi_RX9_266 dX9_type_44 ?_
      refine Y_iconst C (pc := 47) (v := (1 : Int32)) (by decide) dX9_type_47 ?_
      refine Y_iadd C (pc := 48) dX9_type_48 ?_
      refine Y_putI C (pc := 49) hW hk0 (q_lo_9 hk0) q_fp_RX9_266 dX9_type_49 ?_
      refine Y_aload_n C (pc := 52) 0 0 rfl rfl dX9_type_52 ?_
      refine Y_aload_n C (pc := 53) 0 0 rfl rfl dX9_type_53 ?_
      refine Y_getI C (pc := 54) hk0 q_fi_RX9_266 dX9_type_54 ?_
      obtain ⟨v3, hv3, h⟩ := Option.bind_eq_some_iff.mp h
      refine Y_callV C [.int (((si s2 k0 5 ((s2 k0 5) + (1 : Int32)))) k0 5)] [] [.int v3.1] hk0 rfl rfl (c_X9_tells hI hk0 hv3) (fun _ h => h) q_cw_yX9_tells q_ml_RX9_82 ⟨q_im_yX9_tells, q_se_yX9_tells⟩ ⟨⟨Nat.le_of_ble_eq_true rfl, Nat.le_of_ble_eq_true rfl⟩, ⟨Nat.zero_le _, Nat.zero_le _⟩, Nat.le_of_ble_eq_true rfl⟩ rfl rfl rfl dX9_type_57 ?_
      cases h
      exact Y_iret C dX9_type_60
    · rw [if_pos c5] at h
      refine Y_aload_n C (pc := 26) 0 0 rfl rfl dX9_type_26 ?_
      refine Y_iconst C (pc := 27) (v := (2 : Int32)) (by decide) dX9_type_27 ?_
      obtain ⟨v4, hv4, h⟩ := Option.bind_eq_some_iff.mp h
      refine Y_callV C [.int (2 : Int32)] [] [.int v4.1] hk0 rfl rfl (c_X9_fails hI hk0 hv4) (fun _ h => h) q_cw_yX9_fails q_ml_RX9_94 ⟨q_im_yX9_fails, q_se_yX9_fails⟩ ⟨⟨Nat.le_of_ble_eq_true rfl, Nat.le_of_ble_eq_true rfl⟩, ⟨Nat.zero_le _, Nat.zero_le _⟩, Nat.le_of_ble_eq_true rfl⟩ rfl rfl rfl dX9_type_28 ?_
      cases h
      exact Y_iret C dX9_type_31
  · rw [if_pos c7] at h
    refine Y_aload_n C (pc := 11) 0 0 rfl rfl dX9_type_11 ?_
    refine Y_iconst C (pc := 12) (v := (1 : Int32)) (by decide) dX9_type_12 ?_
    obtain ⟨v6, hv6, h⟩ := Option.bind_eq_some_iff.mp h
    refine Y_callV C [.int (1 : Int32)] [] [.int v6.1] hk0 rfl rfl (c_X9_fails hI hk0 hv6) (fun _ h => h) q_cw_yX9_fails q_ml_RX9_94 ⟨q_im_yX9_fails, q_se_yX9_fails⟩ ⟨⟨Nat.le_of_ble_eq_true rfl, Nat.le_of_ble_eq_true rfl⟩, ⟨Nat.zero_le _, Nat.zero_le _⟩, Nat.le_of_ble_eq_true rfl⟩ rfl rfl rfl dX9_type_13 ?_
    cases h
    exact Y_iret C dX9_type_16

set_option maxRecDepth 100000 in
set_option maxHeartbeats 4000000 in
theorem c_X9_clearText {l : Launch} {D : va_G} {cA ρ : Nat → Nat} {σ : Sg} {τ : Tg} {k0 : Nat} (hI : Inj ρ) (hk0 : kd k0 = (0, 9)) {r : Int32 × Sg} (h : f_X9_clearText σ k0 = some r) : Ct l yX9_clearText cX9_clearText 2 (some .int) 1 21 D cA ρ (Aw ρ) [.ref (ρ k0)] σ τ (some (.int r.1)) r.2 τ := by
  refine Ct_of (by decide +kernel) (Nat.le_of_ble_eq_true rfl) (fun p e s m args below meth c C => ?_)
  have C : Ctx p l s m args meth c cX9_clearText RX9 2 (some .int) D cA ρ (Aw ρ) := C
  have hW : Wr ρ (Aw ρ) := ⟨hI, fun k hk => ⟨k, hk, rfl⟩⟩
  unfold f_X9_clearText at h
  refine Y_sub [0] (lv' := [(0, .ref (ρ k0))]) rfl ?_
  refine Y_aload_n C (pc := 0) 0 0 rfl rfl dX9_clearText_0 ?_
  refine Y_getI C (pc := 1) hk0 q_fi_RX9_266 dX9_clearText_1 ?_
  refine Y_istore_n C (pc := 4) (lv' := [(1, .int (σ k0 5)), (0, .ref (ρ k0))]) 1 rfl (by decide) rfl dX9_clearText_4 ?_
  refine Y_aload_n C (pc := 5) 0 1 rfl rfl dX9_clearText_5 ?_
  refine Y_iconst C (pc := 6) (v := (0 : Int32)) (by decide) dX9_clearText_6 ?_
  refine Y_putI C (pc := 7) hW hk0 (q_lo_9 hk0) q_fp_RX9_266 dX9_clearText_7 ?_
  refine Y_aload_n C (pc := 10) 0 1 rfl rfl dX9_clearText_10 ?_
  refine Y_iload_n C (pc := 11) 1 0 rfl rfl dX9_clearText_11 ?_
  obtain ⟨v1, hv1, h⟩ := Option.bind_eq_some_iff.mp h
  refine Y_callV C [.int (σ k0 5)] [] [.int v1.1] hk0 rfl rfl (c_X9_tells hI hk0 hv1) (fun _ h => h) q_cw_yX9_tells q_ml_RX9_82 ⟨q_im_yX9_tells, q_se_yX9_tells⟩ ⟨⟨Nat.le_of_ble_eq_true rfl, Nat.le_of_ble_eq_true rfl⟩, ⟨Nat.zero_le _, Nat.zero_le _⟩, Nat.le_of_ble_eq_true rfl⟩ rfl rfl rfl dX9_clearText_12 ?_
  cases h
  exact Y_iret C dX9_clearText_15

set_option maxRecDepth 100000 in
set_option maxHeartbeats 4000000 in
theorem c_X9_isAt {l : Launch} {D : va_G} {cA ρ : Nat → Nat} {σ : Sg} {τ : Tg} {k0 : Nat} {i1 : Int32} {i2 : Int32} (hk0 : kd k0 = (0, 9)) {r : Int32} (h : f_X9_isAt σ k0 i1 i2 = some r) : Ct l yX9_isAt cX9_isAt 3 (some .boolean) 1 22 D cA ρ A0 [.ref (ρ k0), .int i1, .int i2] σ τ (some (.int r)) σ τ := by
  refine Ct_of (by decide +kernel) (Nat.le_of_ble_eq_true rfl) (fun p e s m args below meth c C => ?_)
  have C : Ctx p l s m args meth c cX9_isAt RX9 3 (some .boolean) D cA ρ A0 := C
  unfold f_X9_isAt at h
  refine Y_sub [0, 1, 2] (lv' := [(0, .ref (ρ k0)), (1, .int i1), (2, .int i2)]) rfl ?_
  refine Y_aload_n C (pc := 0) 0 0 rfl rfl dX9_isAt_0 ?_
  refine Y_getI C (pc := 1) hk0 q_fi_RX9_269 dX9_isAt_1 ?_
  refine Y_aload_n C (pc := 4) 0 0 rfl rfl dX9_isAt_4 ?_
  refine Y_getI C (pc := 5) hk0 q_fi_RX9_266 dX9_isAt_5 ?_
  refine Y_icmp_ge C (pc := 8) (tgt := 32) dX9_isAt_8 (by decide) (fun c4 => ?_) (fun c4 => ?_)
  · rw [if_pos c4] at h
    refine Y_iconst C (pc := 32) (v := (0 : Int32)) (by decide) dX9_isAt_32 ?_
    cases h
    exact Y_zret (by decide) C dX9_isAt_33
  · rw [if_neg c4] at h
    refine Y_aload_n C (pc := 11) 0 0 rfl rfl dX9_isAt_11 ?_
    refine Y_getR C (pc := 12) hk0 q_fi_RX9_19 (by decide) dX9_isAt_12 ?_
    refine Y_aload_n C (pc := 15) 0 0 rfl rfl dX9_isAt_15 ?_
    refine Y_getI C (pc := 16) hk0 q_fi_RX9_269 dX9_isAt_16 ?_
    obtain ⟨v1, hv1, h⟩ := Option.bind_eq_some_iff.mp h
    refine Y_iald C (pc := 19) (q_kr_9_4 hk0) hv1 dX9_isAt_19 ?_
    refine Y_iload_n C (pc := 20) 1 1 rfl rfl dX9_isAt_20 ?_
    refine Y_iload_n C (pc := 21) 2 2 rfl rfl dX9_isAt_21 ?_
    obtain ⟨v2, hv2, h⟩ := Option.bind_eq_some_iff.mp h
    refine Y_callS C [.int v1, .int i1, .int i2] [] [.int v2] (c_X9_in  hv2) (fun _ h => h.elim) q_cw_yX9_in q_ml_RX9_86 q_st_yX9_in ⟨⟨Nat.le_of_ble_eq_true rfl, Nat.le_of_ble_eq_true rfl⟩, ⟨Nat.zero_le _, Nat.zero_le _⟩, Nat.le_of_ble_eq_true rfl⟩ rfl rfl rfl dX9_isAt_22 ?_
    refine Y_if_eq C (pc := 25) (tgt := 32) dX9_isAt_25 (by decide) (fun c3 => ?_) (fun c3 => ?_)
    · rw [if_pos c3] at h
      refine Y_iconst C (pc := 32) (v := (0 : Int32)) (by decide) dX9_isAt_32 ?_
      cases h
      exact Y_zret (by decide) C dX9_isAt_33
    · rw [if_neg c3] at h
      refine Y_iconst C (pc := 28) (v := (1 : Int32)) (by decide) dX9_isAt_28 ?_
      refine Y_goto C (pc := 29) (tgt := 33) dX9_isAt_29 (by decide) ?_
      cases h
      exact Y_zret (by decide) C dX9_isAt_33

set_option maxRecDepth 100000 in
set_option maxHeartbeats 4000000 in
theorem c_X9_skips {l : Launch} {D : va_G} {cA ρ : Nat → Nat} {σ : Sg} {τ : Tg} {k0 : Nat} (hI : Inj ρ) (hk0 : kd k0 = (0, 9)) {r : Int32 × Sg} (h : f_X9_skips σ k0 = some r) : Ct l yX9_skips cX9_skips 2 (some .boolean) 2 44 D cA ρ (Aw ρ) [.ref (ρ k0)] σ τ (some (.int r.1)) r.2 τ := by
  refine Ct_of (by decide +kernel) (Nat.le_of_ble_eq_true rfl) (fun p e s m args below meth c C => ?_)
  have C : Ctx p l s m args meth c cX9_skips RX9 2 (some .boolean) D cA ρ (Aw ρ) := C
  have hW : Wr ρ (Aw ρ) := ⟨hI, fun k hk => ⟨k, hk, rfl⟩⟩
  unfold f_X9_skips at h
  refine Y_sub [0] (lv' := [(0, .ref (ρ k0))]) rfl ?_
  refine Y_aload_n C (pc := 0) 0 0 rfl rfl dX9_skips_0 ?_
  refine Y_getI C (pc := 1) hk0 q_fi_RX9_269 dX9_skips_1 ?_
  refine Y_istore_n C (pc := 4) (lv' := [(1, .int (σ k0 24)), (0, .ref (ρ k0))]) 1 rfl (by decide) rfl dX9_skips_4 ?_
  obtain ⟨e4, he4, h⟩ := Option.bind_eq_some_iff.mp h
  refine Y_sub [1, 0] (lv' := [(0, .ref (ρ k0)), (1, .int (σ k0 24))]) rfl ?_
  refine lo_rule (f := (f_X9_skips_L5 k0)) (YS := fun s1 => Y p l e (Rm 2 44) s m args below meth c 2 D cA ρ (Aw ρ) 0 0 (MQ below (QC D cA ρ (Aw ρ) (some (.int r.1)) r.2 τ) args s 0 0 (Aw ρ)) s1 τ 5 [(0, .ref (ρ k0)), (1, .int (σ k0 24))] []) (YE := fun e4 => Y p l e (Rm 2 44) s m args below meth c 2 D cA ρ (Aw ρ) 0 0 (MQ below (QC D cA ρ (Aw ρ) (some (.int r.1)) r.2 τ) args s 0 0 (Aw ρ)) e4 τ 29 [(0, .ref (ρ k0)), (1, .int (σ k0 24))] []) ?_ he4 ?_
  · intro s1 x h hLp hE
    unfold f_X9_skips_L5 at h
    refine Y_aload_n C (pc := 5) 0 0 rfl rfl dX9_skips_5 ?_
    refine Y_bipush C (pc := 6) (v := (32 : Int32)) (by decide) dX9_skips_6 ?_
    refine Y_bipush C (pc := 8) (v := (32 : Int32)) (by decide) dX9_skips_8 ?_
    obtain ⟨v2, hv2, h⟩ := Option.bind_eq_some_iff.mp h
    refine Y_callV C [.int (32 : Int32), .int (32 : Int32)] [] [.int v2] hk0 rfl rfl (c_X9_isAt hk0 hv2) (fun _ h => h.elim) q_cw_yX9_isAt q_ml_RX9_272 ⟨q_im_yX9_isAt, q_se_yX9_isAt⟩ ⟨⟨Nat.le_of_ble_eq_true rfl, Nat.le_of_ble_eq_true rfl⟩, ⟨Nat.zero_le _, Nat.zero_le _⟩, Nat.le_of_ble_eq_true rfl⟩ rfl rfl rfl dX9_skips_10 ?_
    refine Y_if_eq C (pc := 13) (tgt := 29) dX9_skips_13 (by decide) (fun c3 => ?_) (fun c3 => ?_)
    · rw [if_pos c3] at h
      have h := Option.some.inj h
      exact Y_sub [0, 1] rfl (hE _ h.symm)
    · rw [if_neg c3] at h
      refine Y_aload_n C (pc := 16) 0 0 rfl rfl dX9_skips_16 ?_
      refine Y_dup C (pc := 17) rfl dX9_skips_17 ?_
      refine Y_getI C (pc := 18) hk0 q_fi_RX9_269 dX9_skips_18 ?_
      refine Y_iconst C (pc := 21) (v := (1 : Int32)) (by decide) dX9_skips_21 ?_
      refine Y_iadd C (pc := 22) dX9_skips_22 ?_
      refine Y_putI C (pc := 23) hW hk0 (q_lo_9 hk0) q_fp_RX9_269 dX9_skips_23 ?_
      refine Y_goto C (pc := 26) (tgt := 5) dX9_skips_26 (by decide) ?_
      have h := Option.some.inj h
      exact Y_sub [0, 1] rfl (hLp _ h.symm)
  · refine Y_aload_n C (pc := 29) 0 0 rfl rfl dX9_skips_29 ?_
    refine Y_getI C (pc := 30) hk0 q_fi_RX9_269 dX9_skips_30 ?_
    refine Y_iload_n C (pc := 33) 1 1 rfl rfl dX9_skips_33 ?_
    refine Y_icmp_le C (pc := 34) (tgt := 41) dX9_skips_34 (by decide) (fun c5 => ?_) (fun c5 => ?_)
    · rw [if_pos c5] at h
      refine Y_iconst C (pc := 41) (v := (0 : Int32)) (by decide) dX9_skips_41 ?_
      cases h
      exact Y_zret (x := (0 : Int32)) (by decide) C dX9_skips_42
    · rw [if_neg c5] at h
      refine Y_iconst C (pc := 37) (v := (1 : Int32)) (by decide) dX9_skips_37 ?_
      refine Y_goto C (pc := 38) (tgt := 42) dX9_skips_38 (by decide) ?_
      cases h
      exact Y_zret (x := (1 : Int32)) (by decide) C dX9_skips_42

set_option maxRecDepth 100000 in
set_option maxHeartbeats 4000000 in
theorem c_X9_isNumber {l : Launch} {D : va_G} {cA ρ : Nat → Nat} {σ : Sg} {τ : Tg} {k0 : Nat} {i1 : Int32} (hI : Inj ρ) (hk0 : kd k0 = (0, 9)) {r : Int32 × Sg} (h : f_X9_isNumber σ k0 i1 = some r) : Ct l yX9_isNumber cX9_isNumber 3 (some .boolean) 2 44 D cA ρ (Aw ρ) [.ref (ρ k0), .int i1] σ τ (some (.int r.1)) r.2 τ := by
  refine Ct_of (by decide +kernel) (Nat.le_of_ble_eq_true rfl) (fun p e s m args below meth c C => ?_)
  have C : Ctx p l s m args meth c cX9_isNumber RX9 3 (some .boolean) D cA ρ (Aw ρ) := C
  have hW : Wr ρ (Aw ρ) := ⟨hI, fun k hk => ⟨k, hk, rfl⟩⟩
  unfold f_X9_isNumber at h
  refine Y_sub [0, 1] (lv' := [(0, .ref (ρ k0)), (1, .int i1)]) rfl ?_
  refine Y_aload_n C (pc := 0) 0 0 rfl rfl dX9_isNumber_0 ?_
  refine Y_getI C (pc := 1) hk0 q_fi_RX9_269 dX9_isNumber_1 ?_
  refine Y_istore_n C (pc := 4) (lv' := [(2, .int (σ k0 24)), (0, .ref (ρ k0)), (1, .int i1)]) 2 rfl (by decide) rfl dX9_isNumber_4 ?_
  refine Y_aload_n C (pc := 5) 0 1 rfl rfl dX9_isNumber_5 ?_
  refine Y_getR C (pc := 6) hk0 q_fi_RX9_68 (by decide) dX9_isNumber_6 ?_
  refine Y_iload_n C (pc := 9) 1 2 rfl rfl dX9_isNumber_9 ?_
  refine Y_iconst C (pc := 10) (v := (0 : Int32)) (by decide) dX9_isNumber_10 ?_
  obtain ⟨s1, hs1, h⟩ := Option.bind_eq_some_iff.mp h
  refine Y_iast C (pc := 11) hW (q_kr_9_26 hk0) (q_lr_9_26 hk0) hs1 dX9_isNumber_11 ?_
  obtain ⟨e9, he9, h⟩ := Option.bind_eq_some_iff.mp h
  refine Y_sub [1, 2, 0] (lv' := [(0, .ref (ρ k0)), (1, .int i1), (2, .int (σ k0 24))]) rfl ?_
  refine lo_rule (f := (f_X9_isNumber_L12 k0 σ i1)) (YS := fun s2 => Y p l e (Rm 2 44) s m args below meth c 3 D cA ρ (Aw ρ) 0 0 (MQ below (QC D cA ρ (Aw ρ) (some (.int r.1)) r.2 τ) args s 0 0 (Aw ρ)) s2 τ 12 [(0, .ref (ρ k0)), (1, .int i1), (2, .int (σ k0 24))] []) (YE := fun e9 => Y p l e (Rm 2 44) s m args below meth c 3 D cA ρ (Aw ρ) 0 0 (MQ below (QC D cA ρ (Aw ρ) (some (.int r.1)) r.2 τ) args s 0 0 (Aw ρ)) e9 τ 74 [(0, .ref (ρ k0)), (2, .int (σ k0 24))] []) ?_ he9 ?_
  · intro s2 x h hLp hE
    unfold f_X9_isNumber_L12 at h
    refine Y_aload_n C (pc := 12) 0 0 rfl rfl dX9_isNumber_12 ?_
    refine Y_bipush C (pc := 13) (v := (48 : Int32)) (by decide) dX9_isNumber_13 ?_
    refine Y_bipush C (pc := 15) (v := (57 : Int32)) (by decide) dX9_isNumber_15 ?_
    obtain ⟨v3, hv3, h⟩ := Option.bind_eq_some_iff.mp h
    refine Y_callV C [.int (48 : Int32), .int (57 : Int32)] [] [.int v3] hk0 rfl rfl (c_X9_isAt hk0 hv3) (fun _ h => h.elim) q_cw_yX9_isAt q_ml_RX9_272 ⟨q_im_yX9_isAt, q_se_yX9_isAt⟩ ⟨⟨Nat.le_of_ble_eq_true rfl, Nat.le_of_ble_eq_true rfl⟩, ⟨Nat.zero_le _, Nat.zero_le _⟩, Nat.le_of_ble_eq_true rfl⟩ rfl rfl rfl dX9_isNumber_17 ?_
    refine Y_if_eq C (pc := 20) (tgt := 74) dX9_isNumber_20 (by decide) (fun c8 => ?_) (fun c8 => ?_)
    · rw [if_pos c8] at h
      have h := Option.some.inj h
      exact Y_sub [0, 2] rfl (hE _ h.symm)
    · rw [if_neg c8] at h
      refine Y_aload_n C (pc := 23) 0 0 rfl rfl dX9_isNumber_23 ?_
      refine Y_getI C (pc := 24) hk0 q_fi_RX9_269 dX9_isNumber_24 ?_
      refine Y_iload_n C (pc := 27) 2 2 rfl rfl dX9_isNumber_27 ?_
      refine Y_isub C (pc := 28) dX9_isNumber_28 ?_
      refine Y_iconst C (pc := 29) (v := (2 : Int32)) (by decide) dX9_isNumber_29 ?_
      refine Y_icmp_ge C (pc := 30) (tgt := 74) dX9_isNumber_30 (by decide) (fun c7 => ?_) (fun c7 => ?_)
      · rw [if_pos c7] at h
        have h := Option.some.inj h
        exact Y_sub [0, 2] rfl (hE _ h.symm)
      · rw [if_neg c7] at h
        refine Y_aload_n C (pc := 33) 0 0 rfl rfl dX9_isNumber_33 ?_
        refine Y_getR C (pc := 34) hk0 q_fi_RX9_68 (by decide) dX9_isNumber_34 ?_
        refine Y_iload_n C (pc := 37) 1 1 rfl rfl dX9_isNumber_37 ?_
        refine Y_bipush C (pc := 38) (v := (10 : Int32)) (by decide) dX9_isNumber_38 ?_
        refine Y_aload_n C (pc := 40) 0 0 rfl rfl dX9_isNumber_40 ?_
        refine Y_getR C (pc := 41) hk0 q_fi_RX9_68 (by decide) dX9_isNumber_41 ?_
        refine Y_iload_n C (pc := 44) 1 1 rfl rfl dX9_isNumber_44 ?_
        obtain ⟨v4, hv4, h⟩ := Option.bind_eq_some_iff.mp h
        refine Y_iald C (pc := 45) (q_kr_9_26 hk0) hv4 dX9_isNumber_45 ?_
        refine Y_imul C (pc := 46) dX9_isNumber_46 ?_
        refine Y_aload_n C (pc := 47) 0 0 rfl rfl dX9_isNumber_47 ?_
        refine Y_getR C (pc := 48) hk0 q_fi_RX9_19 (by decide) dX9_isNumber_48 ?_
        refine Y_aload_n C (pc := 51) 0 0 rfl rfl dX9_isNumber_51 ?_
        refine Y_getI C (pc := 52) hk0 q_fi_RX9_269 dX9_isNumber_52 ?_
        obtain ⟨v5, hv5, h⟩ := Option.bind_eq_some_iff.mp h
        refine Y_iald C (pc := 55) (q_kr_9_4 hk0) hv5 dX9_isNumber_55 ?_
        refine Y_iadd C (pc := 56) dX9_isNumber_56 ?_
        refine Y_bipush C (pc := 57) (v := (48 : Int32)) (by decide) dX9_isNumber_57 ?_
        refine Y_isub C (pc := 59) dX9_isNumber_59 ?_
        obtain ⟨s6, hs6, h⟩ := Option.bind_eq_some_iff.mp h
        refine Y_iast C (pc := 60) hW (q_kr_9_26 hk0) (q_lr_9_26 hk0) hs6 dX9_isNumber_60 ?_
        refine Y_aload_n C (pc := 61) 0 0 rfl rfl dX9_isNumber_61 ?_
        refine Y_dup C (pc := 62) rfl dX9_isNumber_62 ?_
        refine Y_getI C (pc := 63) hk0 q_fi_RX9_269 dX9_isNumber_63 ?_
        refine Y_iconst C (pc := 66) (v := (1 : Int32)) (by decide) dX9_isNumber_66 ?_
        refine Y_iadd C (pc := 67) dX9_isNumber_67 ?_
        refine Y_putI C (pc := 68) hW hk0 (q_lo_9 hk0) q_fp_RX9_269 dX9_isNumber_68 ?_
        refine Y_goto C (pc := 71) (tgt := 12) dX9_isNumber_71 (by decide) ?_
        have h := Option.some.inj h
        exact Y_sub [0, 1, 2] rfl (hLp _ h.symm)
  · refine Y_aload_n C (pc := 74) 0 0 rfl rfl dX9_isNumber_74 ?_
    refine Y_getI C (pc := 75) hk0 q_fi_RX9_269 dX9_isNumber_75 ?_
    refine Y_iload_n C (pc := 78) 2 1 rfl rfl dX9_isNumber_78 ?_
    refine Y_icmp_le C (pc := 79) (tgt := 86) dX9_isNumber_79 (by decide) (fun c10 => ?_) (fun c10 => ?_)
    · rw [if_pos c10] at h
      refine Y_iconst C (pc := 86) (v := (0 : Int32)) (by decide) dX9_isNumber_86 ?_
      cases h
      exact Y_zret (x := (0 : Int32)) (by decide) C dX9_isNumber_87
    · rw [if_neg c10] at h
      refine Y_iconst C (pc := 82) (v := (1 : Int32)) (by decide) dX9_isNumber_82 ?_
      refine Y_goto C (pc := 83) (tgt := 87) dX9_isNumber_83 (by decide) ?_
      cases h
      exact Y_zret (x := (1 : Int32)) (by decide) C dX9_isNumber_87

set_option maxRecDepth 100000 in
set_option maxHeartbeats 4000000 in
theorem c_X9_isCommand {l : Launch} {D : va_G} {cA ρ : Nat → Nat} {σ : Sg} {τ : Tg} {k0 : Nat} (hI : Inj ρ) (hk0 : kd k0 = (0, 9)) {r : Int32 × Sg} (h : f_X9_isCommand σ k0 = some r) : Ct l yX9_isCommand cX9_isCommand 3 (some .boolean) 3 66 D cA ρ (Aw ρ) [.ref (ρ k0)] σ τ (some (.int r.1)) r.2 τ := by
  refine Ct_of (by decide +kernel) (Nat.le_of_ble_eq_true rfl) (fun p e s m args below meth c C => ?_)
  have C : Ctx p l s m args meth c cX9_isCommand RX9 3 (some .boolean) D cA ρ (Aw ρ) := C
  have hW : Wr ρ (Aw ρ) := ⟨hI, fun k hk => ⟨k, hk, rfl⟩⟩
  unfold f_X9_isCommand at h
  refine Y_sub [0] (lv' := [(0, .ref (ρ k0))]) rfl ?_
  have hJ47 : ∀ (j4 : Int32) (sj5 : Sg), f_X9_isCommand_J47 k0 j4 sj5 = some r → Y p l e (Rm 3 66) s m args below meth c 3 D cA ρ (Aw ρ) 0 0 (MQ below (QC D cA ρ (Aw ρ) (some (.int r.1)) r.2 τ) args s 0 0 (Aw ρ)) sj5 τ 47 [(0, .ref (ρ k0))] [.int j4, .ref (ρ k0)] := by
    intro j4 sj5 h
    unfold f_X9_isCommand_J47 at h
    refine Y_putI C (pc := 47) hW hk0 (q_lo_9 hk0) q_fp_RX9_275 dX9_isCommand_47 ?_
    refine Y_aload_n C (pc := 50) 0 0 rfl rfl dX9_isCommand_50 ?_
    refine Y_getI C (pc := 51) hk0 q_fi_RX9_275 dX9_isCommand_51 ?_
    refine Y_iconst C (pc := 54) (v := (-1 : Int32)) (by decide) dX9_isCommand_54 ?_
    refine Y_icmp_ne C (pc := 55) (tgt := 60) dX9_isCommand_55 (by decide) (fun c22 => ?_) (fun c22 => ?_)
    · rw [if_neg c22] at h
      refine Y_aload_n C (pc := 60) 0 0 rfl rfl dX9_isCommand_60 ?_
      refine Y_dup C (pc := 61) rfl dX9_isCommand_61 ?_
      refine Y_getI C (pc := 62) hk0 q_fi_RX9_269 dX9_isCommand_62 ?_
      refine Y_iconst C (pc := 65) (v := (1 : Int32)) (by decide) dX9_isCommand_65 ?_
      refine Y_iadd C (pc := 66) dX9_isCommand_66 ?_
      refine Y_putI C (pc := 67) hW hk0 (q_lo_9 hk0) q_fp_RX9_269 dX9_isCommand_67 ?_
      refine Y_aload_n C (pc := 70) 0 0 rfl rfl dX9_isCommand_70 ?_
      obtain ⟨v6, hv6, h⟩ := Option.bind_eq_some_iff.mp h
      refine Y_callV C [] [] [.int v6.1] hk0 rfl rfl (c_X9_skips hI hk0 hv6) (fun _ h => h) q_cw_yX9_skips q_ml_RX9_278 ⟨q_im_yX9_skips, q_se_yX9_skips⟩ ⟨⟨Nat.le_of_ble_eq_true rfl, Nat.le_of_ble_eq_true rfl⟩, ⟨Nat.zero_le _, Nat.zero_le _⟩, Nat.le_of_ble_eq_true rfl⟩ rfl rfl rfl dX9_isCommand_71 ?_
      refine Y_istore_n C (pc := 74) (lv' := [(1, .int v6.1), (0, .ref (ρ k0))]) 1 rfl (by decide) rfl dX9_isCommand_74 ?_
      refine Y_iconst C (pc := 75) (v := (0 : Int32)) (by decide) dX9_isCommand_75 ?_
      refine Y_istore_n C (pc := 76) (lv' := [(2, .int (0 : Int32)), (1, .int v6.1), (0, .ref (ρ k0))]) 2 rfl (by decide) rfl dX9_isCommand_76 ?_
      obtain ⟨e16, he16, h⟩ := Option.bind_eq_some_iff.mp h
      refine Y_sub [2, 0] (lv' := [(0, .ref (ρ k0)), (2, .int (0 : Int32))]) rfl ?_
      refine lo_rule (f := (f_X9_isCommand_L77 k0)) (YS := fun s7 => Y p l e (Rm 3 66) s m args below meth c 3 D cA ρ (Aw ρ) 0 0 (MQ below (QC D cA ρ (Aw ρ) (some (.int r.1)) r.2 τ) args s 0 0 (Aw ρ)) s7.2 τ 77 [(0, .ref (ρ k0)), (2, .int s7.1)] []) (YE := fun e16 => (∀ e17, e16 = (.inl e17) → Y p l e (Rm 3 66) s m args below meth c 3 D cA ρ (Aw ρ) 0 0 (MQ below (QC D cA ρ (Aw ρ) (some (.int r.1)) r.2 τ) args s 0 0 (Aw ρ)) e17 τ 101 [] []) ∧ (∀ e18, e16 = (.inr e18) → Y p l e (Rm 3 66) s m args below meth c 3 D cA ρ (Aw ρ) 0 0 (MQ below (QC D cA ρ (Aw ρ) (some (.int r.1)) r.2 τ) args s 0 0 (Aw ρ)) e18 τ 109 [(0, .ref (ρ k0))] [])) ?_ he16 ?_
      · intro s7 x h hLp hE
        have hE0 : ∀ y, x = .inr (.inl y) → _ := fun y q => (hE _ q).1 y rfl
        have hE1 : ∀ y, x = .inr (.inr y) → _ := fun y q => (hE _ q).2 y rfl
        unfold f_X9_isCommand_L77 at h
        have hJ93 : ∀ (j8 : Int32) (sj9 : Sg), f_X9_isCommand_J93 k0 j8 sj9 = some x → Y p l e (Rm 3 66) s m args below meth c 3 D cA ρ (Aw ρ) 0 0 (MQ below (QC D cA ρ (Aw ρ) (some (.int r.1)) r.2 τ) args s 0 0 (Aw ρ)) sj9 τ 93 [(0, .ref (ρ k0)), (2, .int j8)] [] := by
          intro j8 sj9 h
          unfold f_X9_isCommand_J93 at h
          refine Y_aload_n C (pc := 93) 0 0 rfl rfl dX9_isCommand_93 ?_
          refine Y_iload_n C (pc := 94) 2 1 rfl rfl dX9_isCommand_94 ?_
          obtain ⟨v10, hv10, h⟩ := Option.bind_eq_some_iff.mp h
          refine Y_callV C [.int j8] [] [.int v10.1] hk0 rfl rfl (c_X9_isNumber hI hk0 hv10) (fun _ h => h) q_cw_yX9_isNumber q_ml_RX9_281 ⟨q_im_yX9_isNumber, q_se_yX9_isNumber⟩ ⟨⟨Nat.le_of_ble_eq_true rfl, Nat.le_of_ble_eq_true rfl⟩, ⟨Nat.zero_le _, Nat.zero_le _⟩, Nat.le_of_ble_eq_true rfl⟩ rfl rfl rfl dX9_isCommand_95 ?_
          refine Y_if_ne C (pc := 98) (tgt := 103) dX9_isCommand_98 (by decide) (fun c11 => ?_) (fun c11 => ?_)
          · rw [if_neg c11] at h
            refine Y_iinc C (pc := 103) (v := (j8 + 1)) (lv' := [(2, .int (j8 + 1)), (0, .ref (ρ k0))]) 1 rfl (congrArg (fun z => j8 + z) (by decide : Int32.ofInt (1) = (1))) (by decide) rfl dX9_isCommand_103 ?_
            refine Y_goto C (pc := 106) (tgt := 77) dX9_isCommand_106 (by decide) ?_
            have h := Option.some.inj h
            exact Y_sub [1, 0] rfl (hLp _ h.symm)
          · rw [if_pos c11] at h
            have h := Option.some.inj h
            exact Y_sub [] rfl (hE0 _ h.symm)
        refine Y_iload_n C (pc := 77) 2 1 rfl rfl dX9_isCommand_77 ?_
        refine Y_iconst C (pc := 78) (v := (3 : Int32)) (by decide) dX9_isCommand_78 ?_
        refine Y_icmp_ge C (pc := 79) (tgt := 109) dX9_isCommand_79 (by decide) (fun c15 => ?_) (fun c15 => ?_)
        · rw [if_pos c15] at h
          have h := Option.some.inj h
          exact Y_sub [0] rfl (hE1 _ h.symm)
        · rw [if_neg c15] at h
          refine Y_iload_n C (pc := 82) 2 1 rfl rfl dX9_isCommand_82 ?_
          refine Y_if_le C (pc := 83) (tgt := 93) dX9_isCommand_83 (by decide) (fun c14 => ?_) (fun c14 => ?_)
          · rw [if_pos c14] at h
            exact Y_sub [0, 1] rfl (hJ93 _ _ h)
          · rw [if_neg c14] at h
            refine Y_aload_n C (pc := 86) 0 0 rfl rfl dX9_isCommand_86 ?_
            obtain ⟨v12, hv12, h⟩ := Option.bind_eq_some_iff.mp h
            refine Y_callV C [] [] [.int v12.1] hk0 rfl rfl (c_X9_skips hI hk0 hv12) (fun _ h => h) q_cw_yX9_skips q_ml_RX9_278 ⟨q_im_yX9_skips, q_se_yX9_skips⟩ ⟨⟨Nat.le_of_ble_eq_true rfl, Nat.le_of_ble_eq_true rfl⟩, ⟨Nat.zero_le _, Nat.zero_le _⟩, Nat.le_of_ble_eq_true rfl⟩ rfl rfl rfl dX9_isCommand_87 ?_
            refine Y_if_eq C (pc := 90) (tgt := 101) dX9_isCommand_90 (by decide) (fun c13 => ?_) (fun c13 => ?_)
            · rw [if_pos c13] at h
              have h := Option.some.inj h
              exact Y_sub [] rfl (hE0 _ h.symm)
            · rw [if_neg c13] at h
              exact Y_sub [0, 1] rfl (hJ93 _ _ h)
      refine ⟨?_, ?_⟩
      · intro e17 q
        subst q
        simp only [Sum.elim_inl, Sum.elim_inr] at h
        refine Y_iconst C (pc := 101) (v := (0 : Int32)) (by decide) dX9_isCommand_101 ?_
        cases h
        exact Y_zret (x := (0 : Int32)) (by decide) C dX9_isCommand_102
      · intro e18 q
        subst q
        simp only [Sum.elim_inl, Sum.elim_inr] at h
        refine Y_aload_n C (pc := 109) 0 0 rfl rfl dX9_isCommand_109 ?_
        obtain ⟨v19, hv19, h⟩ := Option.bind_eq_some_iff.mp h
        refine Y_callV C [] [] [.int v19.1] hk0 rfl rfl (c_X9_skips hI hk0 hv19) (fun _ h => h) q_cw_yX9_skips q_ml_RX9_278 ⟨q_im_yX9_skips, q_se_yX9_skips⟩ ⟨⟨Nat.le_of_ble_eq_true rfl, Nat.le_of_ble_eq_true rfl⟩, ⟨Nat.zero_le _, Nat.zero_le _⟩, Nat.le_of_ble_eq_true rfl⟩ rfl rfl rfl dX9_isCommand_110 ?_
        refine Y_istore_n C (pc := 113) (lv' := [(1, .int v19.1), (0, .ref (ρ k0))]) 1 rfl (by decide) rfl dX9_isCommand_113 ?_
        refine Y_aload_n C (pc := 114) 0 1 rfl rfl dX9_isCommand_114 ?_
        refine Y_bipush C (pc := 115) (v := (59 : Int32)) (by decide) dX9_isCommand_115 ?_
        refine Y_bipush C (pc := 117) (v := (59 : Int32)) (by decide) dX9_isCommand_117 ?_
        obtain ⟨v20, hv20, h⟩ := Option.bind_eq_some_iff.mp h
        refine Y_callV C [.int (59 : Int32), .int (59 : Int32)] [] [.int v20] hk0 rfl rfl (c_X9_isAt hk0 hv20) (fun _ h => h.elim) q_cw_yX9_isAt q_ml_RX9_272 ⟨q_im_yX9_isAt, q_se_yX9_isAt⟩ ⟨⟨Nat.le_of_ble_eq_true rfl, Nat.le_of_ble_eq_true rfl⟩, ⟨Nat.zero_le _, Nat.zero_le _⟩, Nat.le_of_ble_eq_true rfl⟩ rfl rfl rfl dX9_isCommand_119 ?_
        refine Y_if_ne C (pc := 122) (tgt := 127) dX9_isCommand_122 (by decide) (fun c21 => ?_) (fun c21 => ?_)
        · rw [if_neg c21] at h
          refine Y_aload_n C (pc := 127) 0 1 rfl rfl dX9_isCommand_127 ?_
          refine Y_dup C (pc := 128) rfl dX9_isCommand_128 ?_
          refine Y_getI C (pc := 129) hk0 q_fi_RX9_269 dX9_isCommand_129 ?_
          refine Y_iconst C (pc := 132) (v := (1 : Int32)) (by decide) dX9_isCommand_132 ?_
          refine Y_iadd C (pc := 133) dX9_isCommand_133 ?_
          refine Y_putI C (pc := 134) hW hk0 (q_lo_9 hk0) q_fp_RX9_269 dX9_isCommand_134 ?_
          refine Y_iconst C (pc := 137) (v := (1 : Int32)) (by decide) dX9_isCommand_137 ?_
          cases h
          exact Y_zret (x := (1 : Int32)) (by decide) C dX9_isCommand_138
        · rw [if_pos c21] at h
          refine Y_iconst C (pc := 125) (v := (0 : Int32)) (by decide) dX9_isCommand_125 ?_
          cases h
          exact Y_zret (x := (0 : Int32)) (by decide) C dX9_isCommand_126
    · rw [if_pos c22] at h
      refine Y_iconst C (pc := 58) (v := (0 : Int32)) (by decide) dX9_isCommand_58 ?_
      cases h
      exact Y_zret (x := (0 : Int32)) (by decide) C dX9_isCommand_59
  refine Y_aload_n C (pc := 0) 0 0 rfl rfl dX9_isCommand_0 ?_
  refine Y_aload_n C (pc := 1) 0 0 rfl rfl dX9_isCommand_1 ?_
  refine Y_bipush C (pc := 2) (v := (102 : Int32)) (by decide) dX9_isCommand_2 ?_
  refine Y_bipush C (pc := 4) (v := (102 : Int32)) (by decide) dX9_isCommand_4 ?_
  obtain ⟨v1, hv1, h⟩ := Option.bind_eq_some_iff.mp h
  refine Y_callV C [.int (102 : Int32), .int (102 : Int32)] [.ref (ρ k0)] [.int v1, .ref (ρ k0)] hk0 rfl rfl (c_X9_isAt hk0 hv1) (fun _ h => h.elim) q_cw_yX9_isAt q_ml_RX9_272 ⟨q_im_yX9_isAt, q_se_yX9_isAt⟩ ⟨⟨Nat.le_of_ble_eq_true rfl, Nat.le_of_ble_eq_true rfl⟩, ⟨Nat.zero_le _, Nat.zero_le _⟩, Nat.le_of_ble_eq_true rfl⟩ rfl rfl rfl dX9_isCommand_6 ?_
  refine Y_if_eq C (pc := 9) (tgt := 16) dX9_isCommand_9 (by decide) (fun c25 => ?_) (fun c25 => ?_)
  · rw [if_pos c25] at h
    refine Y_aload_n C (pc := 16) 0 0 rfl rfl dX9_isCommand_16 ?_
    refine Y_bipush C (pc := 17) (v := (100 : Int32)) (by decide) dX9_isCommand_17 ?_
    refine Y_bipush C (pc := 19) (v := (100 : Int32)) (by decide) dX9_isCommand_19 ?_
    obtain ⟨v2, hv2, h⟩ := Option.bind_eq_some_iff.mp h
    refine Y_callV C [.int (100 : Int32), .int (100 : Int32)] [.ref (ρ k0)] [.int v2, .ref (ρ k0)] hk0 rfl rfl (c_X9_isAt hk0 hv2) (fun _ h => h.elim) q_cw_yX9_isAt q_ml_RX9_272 ⟨q_im_yX9_isAt, q_se_yX9_isAt⟩ ⟨⟨Nat.le_of_ble_eq_true rfl, Nat.le_of_ble_eq_true rfl⟩, ⟨Nat.zero_le _, Nat.zero_le _⟩, Nat.le_of_ble_eq_true rfl⟩ rfl rfl rfl dX9_isCommand_21 ?_
    refine Y_if_eq C (pc := 24) (tgt := 31) dX9_isCommand_24 (by decide) (fun c24 => ?_) (fun c24 => ?_)
    · rw [if_pos c24] at h
      refine Y_aload_n C (pc := 31) 0 0 rfl rfl dX9_isCommand_31 ?_
      refine Y_bipush C (pc := 32) (v := (99 : Int32)) (by decide) dX9_isCommand_32 ?_
      refine Y_bipush C (pc := 34) (v := (99 : Int32)) (by decide) dX9_isCommand_34 ?_
      obtain ⟨v3, hv3, h⟩ := Option.bind_eq_some_iff.mp h
      refine Y_callV C [.int (99 : Int32), .int (99 : Int32)] [.ref (ρ k0)] [.int v3, .ref (ρ k0)] hk0 rfl rfl (c_X9_isAt hk0 hv3) (fun _ h => h.elim) q_cw_yX9_isAt q_ml_RX9_272 ⟨q_im_yX9_isAt, q_se_yX9_isAt⟩ ⟨⟨Nat.le_of_ble_eq_true rfl, Nat.le_of_ble_eq_true rfl⟩, ⟨Nat.zero_le _, Nat.zero_le _⟩, Nat.le_of_ble_eq_true rfl⟩ rfl rfl rfl dX9_isCommand_36 ?_
      refine Y_if_eq C (pc := 39) (tgt := 46) dX9_isCommand_39 (by decide) (fun c23 => ?_) (fun c23 => ?_)
      · rw [if_pos c23] at h
        refine Y_iconst C (pc := 46) (v := (-1 : Int32)) (by decide) dX9_isCommand_46 ?_
        exact Y_sub [0] rfl (hJ47 _ _ h)
      · rw [if_neg c23] at h
        refine Y_iconst C (pc := 42) (v := (2 : Int32)) (by decide) dX9_isCommand_42 ?_
        refine Y_goto C (pc := 43) (tgt := 47) dX9_isCommand_43 (by decide) ?_
        exact Y_sub [0] rfl (hJ47 _ _ h)
    · rw [if_neg c24] at h
      refine Y_iconst C (pc := 27) (v := (1 : Int32)) (by decide) dX9_isCommand_27 ?_
      refine Y_goto C (pc := 28) (tgt := 47) dX9_isCommand_28 (by decide) ?_
      exact Y_sub [0] rfl (hJ47 _ _ h)
  · rw [if_neg c25] at h
    refine Y_iconst C (pc := 12) (v := (0 : Int32)) (by decide) dX9_isCommand_12 ?_
    refine Y_goto C (pc := 13) (tgt := 47) dX9_isCommand_13 (by decide) ?_
    exact Y_sub [0] rfl (hJ47 _ _ h)

set_option maxRecDepth 100000 in
set_option maxHeartbeats 4000000 in
theorem c_X9_faultOf {l : Launch} {D : va_G} {cA ρ : Nat → Nat} {σ : Sg} {τ : Tg} {k0 : Nat} (hI : Inj ρ) (hk0 : kd k0 = (0, 9)) {r : Int32 × Sg} (h : f_X9_faultOf σ k0 = some r) : Ct l yX9_faultOf cX9_faultOf 2 (some .int) 4 88 D cA ρ (Aw ρ) [.ref (ρ k0)] σ τ (some (.int r.1)) r.2 τ := by
  refine Ct_of (by decide +kernel) (Nat.le_of_ble_eq_true rfl) (fun p e s m args below meth c C => ?_)
  have C : Ctx p l s m args meth c cX9_faultOf RX9 2 (some .int) D cA ρ (Aw ρ) := C
  have hW : Wr ρ (Aw ρ) := ⟨hI, fun k hk => ⟨k, hk, rfl⟩⟩
  unfold f_X9_faultOf at h
  refine Y_sub [0] (lv' := [(0, .ref (ρ k0))]) rfl ?_
  refine Y_aload_n C (pc := 0) 0 0 rfl rfl dX9_faultOf_0 ?_
  refine Y_iconst C (pc := 1) (v := (0 : Int32)) (by decide) dX9_faultOf_1 ?_
  refine Y_putI C (pc := 2) hW hk0 (q_lo_9 hk0) q_fp_RX9_269 dX9_faultOf_2 ?_
  refine Y_aload_n C (pc := 5) 0 0 rfl rfl dX9_faultOf_5 ?_
  obtain ⟨v1, hv1, h⟩ := Option.bind_eq_some_iff.mp h
  refine Y_callV C [] [] [.int v1.1] hk0 rfl rfl (c_X9_skips hI hk0 hv1) (fun _ h => h) q_cw_yX9_skips q_ml_RX9_278 ⟨q_im_yX9_skips, q_se_yX9_skips⟩ ⟨⟨Nat.le_of_ble_eq_true rfl, Nat.le_of_ble_eq_true rfl⟩, ⟨Nat.zero_le _, Nat.zero_le _⟩, Nat.le_of_ble_eq_true rfl⟩ rfl rfl rfl dX9_faultOf_6 ?_
  refine Y_istore_n C (pc := 9) (lv' := [(1, .int v1.1), (0, .ref (ρ k0))]) 1 rfl (by decide) rfl dX9_faultOf_9 ?_
  obtain ⟨e7, he7, h⟩ := Option.bind_eq_some_iff.mp h
  refine Y_sub [1] (lv' := [(0, .ref (ρ k0))]) rfl ?_
  refine lo_rule (f := (f_X9_faultOf_L10 k0)) (YS := fun s2 => Y p l e (Rm 4 88) s m args below meth c 2 D cA ρ (Aw ρ) 0 0 (MQ below (QC D cA ρ (Aw ρ) (some (.int r.1)) r.2 τ) args s 0 0 (Aw ρ)) s2 τ 10 [(0, .ref (ρ k0))] []) (YE := fun e7 => (∀ e8, e7 = (.inl e8) → Y p l e (Rm 4 88) s m args below meth c 2 D cA ρ (Aw ρ) 0 0 (MQ below (QC D cA ρ (Aw ρ) (some (.int r.1)) r.2 τ) args s 0 0 (Aw ρ)) e8 τ 28 [(0, .ref (ρ k0))] []) ∧ (∀ e9, e7 = (.inr e9) → Y p l e (Rm 4 88) s m args below meth c 2 D cA ρ (Aw ρ) 0 0 (MQ below (QC D cA ρ (Aw ρ) (some (.int r.1)) r.2 τ) args s 0 0 (Aw ρ)) e9 τ 41 [] [])) ?_ he7 ?_
  · intro s2 x h hLp hE
    have hE0 : ∀ y, x = .inr (.inl y) → _ := fun y q => (hE _ q).1 y rfl
    have hE1 : ∀ y, x = .inr (.inr y) → _ := fun y q => (hE _ q).2 y rfl
    unfold f_X9_faultOf_L10 at h
    refine Y_aload_n C (pc := 10) 0 0 rfl rfl dX9_faultOf_10 ?_
    refine Y_getI C (pc := 11) hk0 q_fi_RX9_269 dX9_faultOf_11 ?_
    refine Y_aload_n C (pc := 14) 0 0 rfl rfl dX9_faultOf_14 ?_
    refine Y_getI C (pc := 15) hk0 q_fi_RX9_266 dX9_faultOf_15 ?_
    refine Y_icmp_ge C (pc := 18) (tgt := 41) dX9_faultOf_18 (by decide) (fun c6 => ?_) (fun c6 => ?_)
    · rw [if_pos c6] at h
      have h := Option.some.inj h
      exact Y_sub [] rfl (hE1 _ h.symm)
    · rw [if_neg c6] at h
      refine Y_aload_n C (pc := 21) 0 0 rfl rfl dX9_faultOf_21 ?_
      obtain ⟨v3, hv3, h⟩ := Option.bind_eq_some_iff.mp h
      refine Y_callV C [] [] [.int v3.1] hk0 rfl rfl (c_X9_isCommand hI hk0 hv3) (fun _ h => h) q_cw_yX9_isCommand q_ml_RX9_284 ⟨q_im_yX9_isCommand, q_se_yX9_isCommand⟩ ⟨⟨Nat.le_of_ble_eq_true rfl, Nat.le_of_ble_eq_true rfl⟩, ⟨Nat.zero_le _, Nat.zero_le _⟩, Nat.le_of_ble_eq_true rfl⟩ rfl rfl rfl dX9_faultOf_22 ?_
      refine Y_if_ne C (pc := 25) (tgt := 33) dX9_faultOf_25 (by decide) (fun c5 => ?_) (fun c5 => ?_)
      · rw [if_neg c5] at h
        refine Y_aload_n C (pc := 33) 0 0 rfl rfl dX9_faultOf_33 ?_
        obtain ⟨v4, hv4, h⟩ := Option.bind_eq_some_iff.mp h
        refine Y_callV C [] [] [.int v4.1] hk0 rfl rfl (c_X9_skips hI hk0 hv4) (fun _ h => h) q_cw_yX9_skips q_ml_RX9_278 ⟨q_im_yX9_skips, q_se_yX9_skips⟩ ⟨⟨Nat.le_of_ble_eq_true rfl, Nat.le_of_ble_eq_true rfl⟩, ⟨Nat.zero_le _, Nat.zero_le _⟩, Nat.le_of_ble_eq_true rfl⟩ rfl rfl rfl dX9_faultOf_34 ?_
        refine Y_istore_n C (pc := 37) (lv' := [(1, .int v4.1), (0, .ref (ρ k0))]) 1 rfl (by decide) rfl dX9_faultOf_37 ?_
        refine Y_goto C (pc := 38) (tgt := 10) dX9_faultOf_38 (by decide) ?_
        have h := Option.some.inj h
        exact Y_sub [1] rfl (hLp _ h.symm)
      · rw [if_pos c5] at h
        have h := Option.some.inj h
        exact Y_sub [0] rfl (hE0 _ h.symm)
  refine ⟨?_, ?_⟩
  · intro e8 q
    subst q
    simp only [Sum.elim_inl, Sum.elim_inr] at h
    refine Y_aload_n C (pc := 28) 0 0 rfl rfl dX9_faultOf_28 ?_
    refine Y_getI C (pc := 29) hk0 q_fi_RX9_269 dX9_faultOf_29 ?_
    cases h
    exact Y_iret C dX9_faultOf_32
  · intro e9 q
    subst q
    simp only [Sum.elim_inl, Sum.elim_inr] at h
    refine Y_iconst C (pc := 41) (v := (-1 : Int32)) (by decide) dX9_faultOf_41 ?_
    cases h
    exact Y_iret C dX9_faultOf_42

set_option maxRecDepth 100000 in
set_option maxHeartbeats 4000000 in
theorem c_X9_fault {l : Launch} {D : va_G} {cA ρ : Nat → Nat} {σ : Sg} {τ : Tg} {k0 : Nat} (hI : Inj ρ) (hk0 : kd k0 = (0, 9)) {r : Int32 × Sg} (h : f_X9_fault σ k0 = some r) : Ct l yX9_fault cX9_fault 1 (some .int) 5 109 D cA ρ (Aw ρ) [.ref (ρ k0)] σ τ (some (.int r.1)) r.2 τ := by
  refine Ct_of (by decide +kernel) (Nat.le_of_ble_eq_true rfl) (fun p e s m args below meth c C => ?_)
  have C : Ctx p l s m args meth c cX9_fault RX9 1 (some .int) D cA ρ (Aw ρ) := C
  have hW : Wr ρ (Aw ρ) := ⟨hI, fun k hk => ⟨k, hk, rfl⟩⟩
  unfold f_X9_fault at h
  refine Y_sub [0] (lv' := [(0, .ref (ρ k0))]) rfl ?_
  refine Y_aload_n C (pc := 0) 0 0 rfl rfl dX9_fault_0 ?_
  refine Y_aload_n C (pc := 1) 0 0 rfl rfl dX9_fault_1 ?_
  obtain ⟨v1, hv1, h⟩ := Option.bind_eq_some_iff.mp h
  refine Y_callV C [] [.ref (ρ k0)] [.int v1.1, .ref (ρ k0)] hk0 rfl rfl (c_X9_faultOf hI hk0 hv1) (fun _ h => h) q_cw_yX9_faultOf q_ml_RX9_287 ⟨q_im_yX9_faultOf, q_se_yX9_faultOf⟩ ⟨⟨Nat.le_of_ble_eq_true rfl, Nat.le_of_ble_eq_true rfl⟩, ⟨Nat.zero_le _, Nat.zero_le _⟩, Nat.le_of_ble_eq_true rfl⟩ rfl rfl rfl dX9_fault_2 ?_
  obtain ⟨v2, hv2, h⟩ := Option.bind_eq_some_iff.mp h
  refine Y_callV C [.int v1.1] [] [.int v2.1] hk0 rfl rfl (c_X9_tells hI hk0 hv2) (fun _ h => h) q_cw_yX9_tells q_ml_RX9_82 ⟨q_im_yX9_tells, q_se_yX9_tells⟩ ⟨⟨Nat.le_of_ble_eq_true rfl, Nat.le_of_ble_eq_true rfl⟩, ⟨Nat.zero_le _, Nat.zero_le _⟩, Nat.le_of_ble_eq_true rfl⟩ rfl rfl rfl dX9_fault_5 ?_
  cases h
  exact Y_iret C dX9_fault_8

set_option maxRecDepth 100000 in
set_option maxHeartbeats 4000000 in
theorem c_X9_run {l : Launch} {D : va_G} {cA ρ : Nat → Nat} {σ : Sg} {τ : Tg} {k0 : Nat} (hI : Inj ρ) (hk0 : kd k0 = (0, 9)) {r : Int32 × Sg} (h : f_X9_run σ k0 = some r) : Ct l yX9_run cX9_run 4 (some .int) 5 109 D cA ρ (Aw ρ) [.ref (ρ k0)] σ τ (some (.int r.1)) r.2 τ := by
  refine Ct_of (by decide +kernel) (Nat.le_of_ble_eq_true rfl) (fun p e s m args below meth c C => ?_)
  have C : Ctx p l s m args meth c cX9_run RX9 4 (some .int) D cA ρ (Aw ρ) := C
  have hW : Wr ρ (Aw ρ) := ⟨hI, fun k hk => ⟨k, hk, rfl⟩⟩
  unfold f_X9_run at h
  refine Y_sub [0] (lv' := [(0, .ref (ρ k0))]) rfl ?_
  refine Y_aload_n C (pc := 0) 0 0 rfl rfl dX9_run_0 ?_
  obtain ⟨v1, hv1, h⟩ := Option.bind_eq_some_iff.mp h
  refine Y_callV C [] [] [.int v1.1] hk0 rfl rfl (c_X9_faultOf hI hk0 hv1) (fun _ h => h) q_cw_yX9_faultOf q_ml_RX9_287 ⟨q_im_yX9_faultOf, q_se_yX9_faultOf⟩ ⟨⟨Nat.le_of_ble_eq_true rfl, Nat.le_of_ble_eq_true rfl⟩, ⟨Nat.zero_le _, Nat.zero_le _⟩, Nat.le_of_ble_eq_true rfl⟩ rfl rfl rfl dX9_run_1 ?_
  refine Y_iconst C (pc := 4) (v := (-1 : Int32)) (by decide) dX9_run_4 ?_
  refine Y_icmp_eq C (pc := 5) (tgt := 14) dX9_run_5 (by decide) (fun c31 => ?_) (fun c31 => ?_)
  · rw [if_pos c31] at h
    refine Y_aload_n C (pc := 14) 0 0 rfl rfl dX9_run_14 ?_
    obtain ⟨v2, hv2, h⟩ := Option.bind_eq_some_iff.mp h
    refine Y_callV C [] [] [] hk0 rfl rfl (c_X9_hold hI hk0 hv2) (fun _ h => h) q_cw_yX9_hold q_ml_RX9_97 ⟨q_im_yX9_hold, q_se_yX9_hold⟩ ⟨⟨Nat.le_of_ble_eq_true rfl, Nat.le_of_ble_eq_true rfl⟩, ⟨Nat.zero_le _, Nat.zero_le _⟩, Nat.le_of_ble_eq_true rfl⟩ rfl rfl rfl dX9_run_15 ?_
    refine Y_aload_n C (pc := 18) 0 0 rfl rfl dX9_run_18 ?_
    refine Y_iconst C (pc := 19) (v := (0 : Int32)) (by decide) dX9_run_19 ?_
    refine Y_putI C (pc := 20) hW hk0 (q_lo_9 hk0) q_fp_RX9_269 dX9_run_20 ?_
    refine Y_iconst C (pc := 23) (v := (0 : Int32)) (by decide) dX9_run_23 ?_
    refine Y_istore_n C (pc := 24) (lv' := [(1, .int (0 : Int32)), (0, .ref (ρ k0))]) 1 rfl (by decide) rfl dX9_run_24 ?_
    refine Y_aload_n C (pc := 25) 0 1 rfl rfl dX9_run_25 ?_
    obtain ⟨v3, hv3, h⟩ := Option.bind_eq_some_iff.mp h
    refine Y_callV C [] [] [.int v3.1] hk0 rfl rfl (c_X9_skips hI hk0 hv3) (fun _ h => h) q_cw_yX9_skips q_ml_RX9_278 ⟨q_im_yX9_skips, q_se_yX9_skips⟩ ⟨⟨Nat.le_of_ble_eq_true rfl, Nat.le_of_ble_eq_true rfl⟩, ⟨Nat.zero_le _, Nat.zero_le _⟩, Nat.le_of_ble_eq_true rfl⟩ rfl rfl rfl dX9_run_26 ?_
    refine Y_istore_n C (pc := 29) (lv' := [(2, .int v3.1), (1, .int (0 : Int32)), (0, .ref (ρ k0))]) 2 rfl (by decide) rfl dX9_run_29 ?_
    obtain ⟨e28, he28, h⟩ := Option.bind_eq_some_iff.mp h
    refine Y_sub [2, 1] (lv' := [(0, .ref (ρ k0)), (1, .int (0 : Int32))]) rfl ?_
    refine lo_rule (f := (f_X9_run_L30 k0)) (YS := fun s4 => Y p l e (Rm 5 109) s m args below meth c 4 D cA ρ (Aw ρ) 0 0 (MQ below (QC D cA ρ (Aw ρ) (some (.int r.1)) r.2 τ) args s 0 0 (Aw ρ)) s4.2 τ 30 [(0, .ref (ρ k0)), (1, .int s4.1)] []) (YE := fun e28 => Y p l e (Rm 5 109) s m args below meth c 4 D cA ρ (Aw ρ) 0 0 (MQ below (QC D cA ρ (Aw ρ) (some (.int r.1)) r.2 τ) args s 0 0 (Aw ρ)) e28.2 τ 125 [(0, .ref (ρ k0)), (1, .int e28.1)] []) ?_ he28 ?_
    · intro s4 x h hLp hE
      unfold f_X9_run_L30 at h
      have hJ117 : ∀ (j11 : Int32) (sj12 : Sg), f_X9_run_J117 k0 j11 sj12 = some x → Y p l e (Rm 5 109) s m args below meth c 4 D cA ρ (Aw ρ) 0 0 (MQ below (QC D cA ρ (Aw ρ) (some (.int r.1)) r.2 τ) args s 0 0 (Aw ρ)) sj12 τ 117 [(0, .ref (ρ k0)), (1, .int j11)] [] := by
        intro j11 sj12 h
        unfold f_X9_run_J117 at h
        refine Y_aload_n C (pc := 117) 0 0 rfl rfl dX9_run_117 ?_
        obtain ⟨v13, hv13, h⟩ := Option.bind_eq_some_iff.mp h
        refine Y_callV C [] [] [.int v13.1] hk0 rfl rfl (c_X9_skips hI hk0 hv13) (fun _ h => h) q_cw_yX9_skips q_ml_RX9_278 ⟨q_im_yX9_skips, q_se_yX9_skips⟩ ⟨⟨Nat.le_of_ble_eq_true rfl, Nat.le_of_ble_eq_true rfl⟩, ⟨Nat.zero_le _, Nat.zero_le _⟩, Nat.le_of_ble_eq_true rfl⟩ rfl rfl rfl dX9_run_118 ?_
        refine Y_istore_n C (pc := 121) (lv' := [(2, .int v13.1), (0, .ref (ρ k0)), (1, .int j11)]) 2 rfl (by decide) rfl dX9_run_121 ?_
        refine Y_goto C (pc := 122) (tgt := 30) dX9_run_122 (by decide) ?_
        have h := Option.some.inj h
        exact Y_sub [1, 2] rfl (hLp _ h.symm)
      have hJ79 : ∀ (j8 : Int32) (j9 : Int32) (sj10 : Sg), f_X9_run_J79 k0 j8 j9 sj10 = some x → Y p l e (Rm 5 109) s m args below meth c 4 D cA ρ (Aw ρ) 0 0 (MQ below (QC D cA ρ (Aw ρ) (some (.int r.1)) r.2 τ) args s 0 0 (Aw ρ)) sj10 τ 79 [(0, .ref (ρ k0)), (1, .int j8)] [.int j9] := by
        intro j8 j9 sj10 h
        unfold f_X9_run_J79 at h
        refine Y_istore_n C (pc := 79) (lv' := [(3, .int j9), (0, .ref (ρ k0)), (1, .int j8)]) 3 rfl (by decide) rfl dX9_run_79 ?_
        refine Y_iload_n C (pc := 80) 3 0 rfl rfl dX9_run_80 ?_
        refine Y_if_eq C (pc := 81) (tgt := 117) dX9_run_81 (by decide) (fun c19 => ?_) (fun c19 => ?_)
        · rw [if_pos c19] at h
          exact Y_sub [1, 2] rfl (hJ117 _ _ h)
        · rw [if_neg c19] at h
          refine Y_aload_n C (pc := 84) 0 1 rfl rfl dX9_run_84 ?_
          refine Y_getR C (pc := 85) hk0 q_fi_RX9_7 (by decide) dX9_run_85 ?_
          refine Y_aload_n C (pc := 88) 0 1 rfl rfl dX9_run_88 ?_
          refine Y_getI C (pc := 89) hk0 q_fi_RX9_275 dX9_run_89 ?_
          refine Y_aload_n C (pc := 92) 0 1 rfl rfl dX9_run_92 ?_
          refine Y_getR C (pc := 93) hk0 q_fi_RX9_68 (by decide) dX9_run_93 ?_
          refine Y_iconst C (pc := 96) (v := (0 : Int32)) (by decide) dX9_run_96 ?_
          obtain ⟨v14, hv14, h⟩ := Option.bind_eq_some_iff.mp h
          refine Y_iald C (pc := 97) (q_kr_9_26 hk0) hv14 dX9_run_97 ?_
          refine Y_aload_n C (pc := 98) 0 1 rfl rfl dX9_run_98 ?_
          refine Y_getR C (pc := 99) hk0 q_fi_RX9_68 (by decide) dX9_run_99 ?_
          refine Y_iconst C (pc := 102) (v := (1 : Int32)) (by decide) dX9_run_102 ?_
          obtain ⟨v15, hv15, h⟩ := Option.bind_eq_some_iff.mp h
          refine Y_iald C (pc := 103) (q_kr_9_26 hk0) hv15 dX9_run_103 ?_
          obtain ⟨v16, hv16, h⟩ := Option.bind_eq_some_iff.mp h
          refine Y_callS C [.int (sj10 k0 25), .int v14, .int v15] [.ref (ρ (k0 + 1))] [.int v16, .ref (ρ (k0 + 1))] (c_X9_placeOf  hv16) (fun _ h => h.elim) q_cw_yX9_placeOf q_ml_RX9_90 q_st_yX9_placeOf ⟨⟨Nat.le_of_ble_eq_true rfl, Nat.le_of_ble_eq_true rfl⟩, ⟨Nat.zero_le _, Nat.zero_le _⟩, Nat.le_of_ble_eq_true rfl⟩ rfl rfl rfl dX9_run_104 ?_
          refine Y_aload_n C (pc := 107) 0 1 rfl rfl dX9_run_107 ?_
          refine Y_getR C (pc := 108) hk0 q_fi_RX9_68 (by decide) dX9_run_108 ?_
          refine Y_iconst C (pc := 111) (v := (2 : Int32)) (by decide) dX9_run_111 ?_
          obtain ⟨v17, hv17, h⟩ := Option.bind_eq_some_iff.mp h
          refine Y_iald C (pc := 112) (q_kr_9_26 hk0) hv17 dX9_run_112 ?_
          obtain ⟨s18, hs18, h⟩ := Option.bind_eq_some_iff.mp h
          refine Y_iast C (pc := 113) hW (q_kr_9_0 hk0) (q_lr_9_0 hk0) hs18 dX9_run_113 ?_
          refine Y_iinc C (pc := 114) (v := (j8 + 1)) (lv' := [(1, .int (j8 + 1)), (3, .int j9), (0, .ref (ρ k0))]) 2 rfl (congrArg (fun z => j8 + z) (by decide : Int32.ofInt (1) = (1))) (by decide) rfl dX9_run_114 ?_
          exact Y_sub [2, 0] rfl (hJ117 _ _ h)
      have hJ78 : ∀ (j6 : Int32) (sj7 : Sg), f_X9_run_J78 k0 j6 sj7 = some x → Y p l e (Rm 5 109) s m args below meth c 4 D cA ρ (Aw ρ) 0 0 (MQ below (QC D cA ρ (Aw ρ) (some (.int r.1)) r.2 τ) args s 0 0 (Aw ρ)) sj7 τ 78 [(0, .ref (ρ k0)), (1, .int j6)] [] := by
        intro j6 sj7 h
        unfold f_X9_run_J78 at h
        refine Y_iconst C (pc := 78) (v := (0 : Int32)) (by decide) dX9_run_78 ?_
        exact Y_sub [0, 1] rfl (hJ79 _ _ _ h)
      refine Y_aload_n C (pc := 30) 0 0 rfl rfl dX9_run_30 ?_
      refine Y_getI C (pc := 31) hk0 q_fi_RX9_269 dX9_run_31 ?_
      refine Y_aload_n C (pc := 34) 0 0 rfl rfl dX9_run_34 ?_
      refine Y_getI C (pc := 35) hk0 q_fi_RX9_266 dX9_run_35 ?_
      refine Y_icmp_ge C (pc := 38) (tgt := 125) dX9_run_38 (by decide) (fun c27 => ?_) (fun c27 => ?_)
      · rw [if_pos c27] at h
        have h := Option.some.inj h
        exact Y_sub [0, 1] rfl (hE _ h.symm)
      · rw [if_neg c27] at h
        refine Y_aload_n C (pc := 41) 0 0 rfl rfl dX9_run_41 ?_
        obtain ⟨v5, hv5, h⟩ := Option.bind_eq_some_iff.mp h
        refine Y_callV C [] [] [.int v5.1] hk0 rfl rfl (c_X9_isCommand hI hk0 hv5) (fun _ h => h) q_cw_yX9_isCommand q_ml_RX9_284 ⟨q_im_yX9_isCommand, q_se_yX9_isCommand⟩ ⟨⟨Nat.le_of_ble_eq_true rfl, Nat.le_of_ble_eq_true rfl⟩, ⟨Nat.zero_le _, Nat.zero_le _⟩, Nat.le_of_ble_eq_true rfl⟩ rfl rfl rfl dX9_run_42 ?_
        refine Y_if_eq C (pc := 45) (tgt := 78) dX9_run_45 (by decide) (fun c26 => ?_) (fun c26 => ?_)
        · rw [if_pos c26] at h
          exact Y_sub [0, 1] rfl (hJ78 _ _ h)
        · rw [if_neg c26] at h
          refine Y_aload_n C (pc := 48) 0 0 rfl rfl dX9_run_48 ?_
          refine Y_aload_n C (pc := 49) 0 0 rfl rfl dX9_run_49 ?_
          refine Y_getR C (pc := 50) hk0 q_fi_RX9_68 (by decide) dX9_run_50 ?_
          refine Y_iconst C (pc := 53) (v := (0 : Int32)) (by decide) dX9_run_53 ?_
          obtain ⟨v20, hv20, h⟩ := Option.bind_eq_some_iff.mp h
          refine Y_iald C (pc := 54) (q_kr_9_26 hk0) hv20 dX9_run_54 ?_
          obtain ⟨v21, hv21, h⟩ := Option.bind_eq_some_iff.mp h
          refine Y_callV C [.int v20] [] [.int v21] hk0 rfl rfl (c_X9_isOne hk0 hv21) (fun _ h => h.elim) q_cw_yX9_isOne q_ml_RX9_103 ⟨q_im_yX9_isOne, q_se_yX9_isOne⟩ ⟨⟨Nat.le_of_ble_eq_true rfl, Nat.le_of_ble_eq_true rfl⟩, ⟨Nat.zero_le _, Nat.zero_le _⟩, Nat.le_of_ble_eq_true rfl⟩ rfl rfl rfl dX9_run_55 ?_
          refine Y_if_eq C (pc := 58) (tgt := 78) dX9_run_58 (by decide) (fun c25 => ?_) (fun c25 => ?_)
          · rw [if_pos c25] at h
            exact Y_sub [0, 1] rfl (hJ78 _ _ h)
          · rw [if_neg c25] at h
            refine Y_aload_n C (pc := 61) 0 0 rfl rfl dX9_run_61 ?_
            refine Y_aload_n C (pc := 62) 0 0 rfl rfl dX9_run_62 ?_
            refine Y_getR C (pc := 63) hk0 q_fi_RX9_68 (by decide) dX9_run_63 ?_
            refine Y_iconst C (pc := 66) (v := (1 : Int32)) (by decide) dX9_run_66 ?_
            obtain ⟨v22, hv22, h⟩ := Option.bind_eq_some_iff.mp h
            refine Y_iald C (pc := 67) (q_kr_9_26 hk0) hv22 dX9_run_67 ?_
            obtain ⟨v23, hv23, h⟩ := Option.bind_eq_some_iff.mp h
            refine Y_callV C [.int v22] [] [.int v23] hk0 rfl rfl (c_X9_isOne hk0 hv23) (fun _ h => h.elim) q_cw_yX9_isOne q_ml_RX9_103 ⟨q_im_yX9_isOne, q_se_yX9_isOne⟩ ⟨⟨Nat.le_of_ble_eq_true rfl, Nat.le_of_ble_eq_true rfl⟩, ⟨Nat.zero_le _, Nat.zero_le _⟩, Nat.le_of_ble_eq_true rfl⟩ rfl rfl rfl dX9_run_68 ?_
            refine Y_if_eq C (pc := 71) (tgt := 78) dX9_run_71 (by decide) (fun c24 => ?_) (fun c24 => ?_)
            · rw [if_pos c24] at h
              exact Y_sub [0, 1] rfl (hJ78 _ _ h)
            · rw [if_neg c24] at h
              refine Y_iconst C (pc := 74) (v := (1 : Int32)) (by decide) dX9_run_74 ?_
              refine Y_goto C (pc := 75) (tgt := 79) dX9_run_75 (by decide) ?_
              exact Y_sub [0, 1] rfl (hJ79 _ _ _ h)
    · refine Y_aload_n C (pc := 125) 0 0 rfl rfl dX9_run_125 ?_
      refine Y_iload_n C (pc := 126) 1 1 rfl rfl dX9_run_126 ?_
      obtain ⟨v29, hv29, h⟩ := Option.bind_eq_some_iff.mp h
      refine Y_callV C [.int e28.1] [] [.int v29.1] hk0 rfl rfl (c_X9_ends hI hk0 hv29) (fun _ h => h) q_cw_yX9_ends q_ml_RX9_100 ⟨q_im_yX9_ends, q_se_yX9_ends⟩ ⟨⟨Nat.le_of_ble_eq_true rfl, Nat.le_of_ble_eq_true rfl⟩, ⟨Nat.zero_le _, Nat.zero_le _⟩, Nat.le_of_ble_eq_true rfl⟩ rfl rfl rfl dX9_run_127 ?_
      cases h
      exact Y_iret C dX9_run_130
  · rw [if_neg c31] at h
    refine Y_aload_n C (pc := 8) 0 0 rfl rfl dX9_run_8 ?_
    refine Y_iconst C (pc := 9) (v := (1 : Int32)) (by decide) dX9_run_9 ?_
    obtain ⟨v30, hv30, h⟩ := Option.bind_eq_some_iff.mp h
    refine Y_callV C [.int (1 : Int32)] [] [.int v30.1] hk0 rfl rfl (c_X9_fails hI hk0 hv30) (fun _ h => h) q_cw_yX9_fails q_ml_RX9_94 ⟨q_im_yX9_fails, q_se_yX9_fails⟩ ⟨⟨Nat.le_of_ble_eq_true rfl, Nat.le_of_ble_eq_true rfl⟩, ⟨Nat.zero_le _, Nat.zero_le _⟩, Nat.le_of_ble_eq_true rfl⟩ rfl rfl rfl dX9_run_10 ?_
    cases h
    exact Y_iret C dX9_run_13

