set_option maxRecDepth 100000 in
set_option maxHeartbeats 4000000 in
theorem c_X8_localOptima {l : Launch} {D : va_G} {cA ρ : Nat → Nat} {σ : Sg} {τ : Tg} {k0 : Nat} (hI : Inj ρ) (hk0 : kd k0 = (0, 8)) {r : Int32 × Sg} (h : f_X8_localOptima σ k0 = some r) : Ct l yX8_localOptima cX8_localOptima 1 (some .int) 4 97 D cA ρ (Aw ρ) [.ref (ρ k0)] σ τ (some (.int r.1)) r.2 τ := by
  refine Ct_of (by decide +kernel) (Nat.le_of_ble_eq_true rfl) (fun p e s m args below meth c C => ?_)
  have C : Ctx p l s m args meth c cX8_localOptima RX8 1 (some .int) D cA ρ (Aw ρ) := C
  have hW : Wr ρ (Aw ρ) := ⟨hI, fun k hk => ⟨k, hk, rfl⟩⟩
  unfold f_X8_localOptima at h
  refine Y_sub [0] (lv' := [(0, .ref (ρ k0))]) rfl ?_
  refine Y_aload_n C (pc := 0) 0 0 rfl rfl dX8_localOptima_0 ?_
  refine Y_getR C (pc := 1) hk0 q_fi_RX8_26 (by decide) dX8_localOptima_1 ?_
  refine Y_aload_n C (pc := 4) 0 0 rfl rfl dX8_localOptima_4 ?_
  refine Y_getR C (pc := 5) hk0 q_fi_RX8_12 (by decide) dX8_localOptima_5 ?_
  obtain ⟨v1, hv1, h⟩ := Option.bind_eq_some_iff.mp h
  refine Y_callV C [.ref (ρ (k0 + 1))] [] [.int v1.1] (q_kr_8_2 hk0) rfl rfl (c_X0_countLocalOptima hI (q_kr_8_2 hk0) (q_kr_8_0 hk0) hv1) (fun _ h => h) q_cw_yX0_countLocalOptima q_ml_RX8_176 ⟨q_im_yX0_countLocalOptima, q_se_yX0_countLocalOptima⟩ ⟨⟨Nat.le_of_ble_eq_true rfl, Nat.le_of_ble_eq_true rfl⟩, ⟨Nat.zero_le _, Nat.zero_le _⟩, Nat.le_of_ble_eq_true rfl⟩ rfl rfl rfl dX8_localOptima_8 ?_
  cases h
  exact Y_iret C dX8_localOptima_11

set_option maxRecDepth 100000 in
set_option maxHeartbeats 4000000 in
theorem c_X8_requireFree {l : Launch} {D : va_G} {cA ρ : Nat → Nat} {σ : Sg} {τ : Tg} {k0 : Nat} {i1 : Int32} {i2 : Int32} (hk0 : kd k0 = (0, 8)) {r : Unit} (h : f_X8_requireFree σ k0 i1 i2 = some (.inr r)) : Ct l yX8_requireFree cX8_requireFree 3 none 1 25 D cA ρ A0 [.ref (ρ k0), .int i1, .int i2] σ τ none σ τ := by
  refine Ct_of (by decide +kernel) (Nat.le_of_ble_eq_true rfl) (fun p e s m args below meth c C => ?_)
  have C : Ctx p l s m args meth c cX8_requireFree RX8 3 none D cA ρ A0 := C
  unfold f_X8_requireFree at h
  refine Y_sub [0, 1, 2] (lv' := [(0, .ref (ρ k0)), (1, .int i1), (2, .int i2)]) rfl ?_
  refine Y_aload_n C (pc := 0) 0 0 rfl rfl dX8_requireFree_0 ?_
  refine Y_iload_n C (pc := 1) 1 1 rfl rfl dX8_requireFree_1 ?_
  obtain ⟨v1, hv1, h⟩ := Option.bind_eq_some_iff.mp h
  rcases v1 with n2 | w3
  · simp only [Sum.elim_inl] at h
    cases h
  simp only [Sum.elim_inr] at h
  refine Y_callV C [.int i1] [] [] hk0 rfl rfl (c_X8_requireIndex hk0 hv1) (fun _ h => h.elim) q_cw_yX8_requireIndex q_ml_RX8_81 ⟨q_im_yX8_requireIndex, q_se_yX8_requireIndex⟩ ⟨⟨Nat.le_of_ble_eq_true rfl, Nat.le_of_ble_eq_true rfl⟩, ⟨Nat.zero_le _, Nat.zero_le _⟩, Nat.le_of_ble_eq_true rfl⟩ rfl rfl rfl dX8_requireFree_2 ?_
  refine Y_aload_n C (pc := 5) 0 0 rfl rfl dX8_requireFree_5 ?_
  refine Y_iload_n C (pc := 6) 2 2 rfl rfl dX8_requireFree_6 ?_
  obtain ⟨v4, hv4, h⟩ := Option.bind_eq_some_iff.mp h
  rcases v4 with n5 | w6
  · simp only [Sum.elim_inl] at h
    cases h
  simp only [Sum.elim_inr] at h
  refine Y_callV C [.int i2] [] [] hk0 rfl rfl (c_X8_requireIndex hk0 hv4) (fun _ h => h.elim) q_cw_yX8_requireIndex q_ml_RX8_81 ⟨q_im_yX8_requireIndex, q_se_yX8_requireIndex⟩ ⟨⟨Nat.le_of_ble_eq_true rfl, Nat.le_of_ble_eq_true rfl⟩, ⟨Nat.zero_le _, Nat.zero_le _⟩, Nat.le_of_ble_eq_true rfl⟩ rfl rfl rfl dX8_requireFree_7 ?_
  refine Y_aload_n C (pc := 10) 0 0 rfl rfl dX8_requireFree_10 ?_
  refine Y_getR C (pc := 11) hk0 q_fi_RX8_12 (by decide) dX8_requireFree_11 ?_
  refine Y_getR C (pc := 14) (q_kr_8_0 hk0) q_fi_RX8_184 (by decide) dX8_requireFree_14 ?_
  refine Y_iload_n C (pc := 17) 1 1 rfl rfl dX8_requireFree_17 ?_
  obtain ⟨v7, hv7, h⟩ := Option.bind_eq_some_iff.mp h
  refine Y_callS C [.ref (ρ ((k0 + 1) + 5)), .int i1] [] [.int v7] (c_X8_item (q_kr_6_5 (q_kr_8_0 hk0)) hv7) (fun _ h => h.elim) q_cw_yX8_item q_ml_RX8_119 q_st_yX8_item ⟨⟨Nat.le_of_ble_eq_true rfl, Nat.le_of_ble_eq_true rfl⟩, ⟨Nat.zero_le _, Nat.zero_le _⟩, Nat.le_of_ble_eq_true rfl⟩ rfl rfl rfl dX8_requireFree_18 ?_
  refine Y_iconst C (pc := 21) (v := (-1 : Int32)) (by decide) dX8_requireFree_21 ?_
  refine Y_icmp_ne C (pc := 22) (tgt := 42) dX8_requireFree_22 (by decide) (fun c11 => ?_) (fun c11 => ?_)
  · rw [if_neg c11] at h
    cases h
  · rw [if_pos c11] at h
    refine Y_aload_n C (pc := 25) 0 0 rfl rfl dX8_requireFree_25 ?_
    refine Y_getR C (pc := 26) hk0 q_fi_RX8_12 (by decide) dX8_requireFree_26 ?_
    refine Y_getR C (pc := 29) (q_kr_8_0 hk0) q_fi_RX8_184 (by decide) dX8_requireFree_29 ?_
    obtain ⟨v8, hv8, h⟩ := Option.bind_eq_some_iff.mp h
    refine Y_callS C [.ref (ρ ((k0 + 1) + 5))] [] [.int v8] (c_X8_takenBy (q_kr_6_5 (q_kr_8_0 hk0)) hv8) (fun _ h => h.elim) q_cw_yX8_takenBy q_ml_RX8_317 q_st_yX8_takenBy ⟨⟨Nat.le_of_ble_eq_true rfl, Nat.le_of_ble_eq_true rfl⟩, ⟨Nat.zero_le _, Nat.zero_le _⟩, Nat.le_of_ble_eq_true rfl⟩ rfl rfl rfl dX8_requireFree_32 ?_
    refine Y_iload_n C (pc := 35) 2 2 rfl rfl dX8_requireFree_35 ?_
    obtain ⟨v9, hv9, h⟩ := Option.bind_eq_some_iff.mp h
    refine Y_callS C [.int v8, .int i2] [] [.int v9] (c_X8_has  hv9) (fun _ h => h.elim) q_cw_yX8_has q_ml_RX8_320 q_st_yX8_has ⟨⟨Nat.le_of_ble_eq_true rfl, Nat.le_of_ble_eq_true rfl⟩, ⟨Nat.zero_le _, Nat.zero_le _⟩, Nat.le_of_ble_eq_true rfl⟩ rfl rfl rfl dX8_requireFree_36 ?_
    refine Y_if_eq C (pc := 39) (tgt := 53) dX8_requireFree_39 (by decide) (fun c10 => ?_) (fun c10 => ?_)
    · rw [if_pos c10] at h
      cases h
      exact Y_vret C dX8_requireFree_53
    · rw [if_neg c10] at h
      cases h
set_option maxRecDepth 100000 in
set_option maxHeartbeats 4000000 in
theorem t_X8_requireFree {l : Launch} {D : va_G} {cA ρ : Nat → Nat} {σ : Sg} {τ : Tg} {k0 : Nat} {i1 : Int32} {i2 : Int32} (hk0 : kd k0 = (0, 8)) {r : Nat} (h : f_X8_requireFree σ k0 i1 i2 = some (.inl r)) : CtT l yX8_requireFree cX8_requireFree 3 none 7 111 D cA ρ [.ref (ρ k0), .int i1, .int i2] σ τ (xn r) σ τ := by
  refine CtT_of (by decide +kernel) (Nat.le_of_ble_eq_true rfl) (fun p e s m args below meth c C X hno => ?_)
  have C : Ctx p l s m args meth c cX8_requireFree RX8 3 none D cA ρ (Ax ρ s.heap.size) := C
  unfold f_X8_requireFree at h
  refine Y_sub [0, 1, 2] (lv' := [(0, .ref (ρ k0)), (1, .int i1), (2, .int i2)]) rfl ?_
  refine Y_aload_n C (pc := 0) 0 0 rfl rfl dX8_requireFree_0 ?_
  refine Y_iload_n C (pc := 1) 1 1 rfl rfl dX8_requireFree_1 ?_
  obtain ⟨v1, hv1, h⟩ := Option.bind_eq_some_iff.mp h
  rcases v1 with n2 | w3
  · simp only [Sum.elim_inl] at h
    cases h
    exact Y_callVT C X hno (pc := 2) [.int i1] [] hk0 rfl rfl (t_X8_requireIndex hk0 hv1) q_cw_yX8_requireIndex q_ml_RX8_81 ⟨q_im_yX8_requireIndex, q_se_yX8_requireIndex⟩ ⟨⟨Nat.le_of_ble_eq_true rfl, Nat.le_of_ble_eq_true rfl⟩, ⟨Nat.le_of_ble_eq_true rfl, Nat.le_of_ble_eq_true rfl⟩, Nat.le_of_ble_eq_true rfl⟩ rfl rfl dX8_requireFree_2
  simp only [Sum.elim_inr] at h
  refine Y_callV C [.int i1] [] [] hk0 rfl rfl (c_X8_requireIndex hk0 hv1) (fun _ h => h.elim) q_cw_yX8_requireIndex q_ml_RX8_81 ⟨q_im_yX8_requireIndex, q_se_yX8_requireIndex⟩ ⟨⟨Nat.le_of_ble_eq_true rfl, Nat.le_of_ble_eq_true rfl⟩, ⟨Nat.zero_le _, Nat.zero_le _⟩, Nat.le_of_ble_eq_true rfl⟩ rfl rfl rfl dX8_requireFree_2 ?_
  refine Y_aload_n C (pc := 5) 0 0 rfl rfl dX8_requireFree_5 ?_
  refine Y_iload_n C (pc := 6) 2 2 rfl rfl dX8_requireFree_6 ?_
  obtain ⟨v4, hv4, h⟩ := Option.bind_eq_some_iff.mp h
  rcases v4 with n5 | w6
  · simp only [Sum.elim_inl] at h
    cases h
    exact Y_callVT C X hno (pc := 7) [.int i2] [] hk0 rfl rfl (t_X8_requireIndex hk0 hv4) q_cw_yX8_requireIndex q_ml_RX8_81 ⟨q_im_yX8_requireIndex, q_se_yX8_requireIndex⟩ ⟨⟨Nat.le_of_ble_eq_true rfl, Nat.le_of_ble_eq_true rfl⟩, ⟨Nat.le_of_ble_eq_true rfl, Nat.le_of_ble_eq_true rfl⟩, Nat.le_of_ble_eq_true rfl⟩ rfl rfl dX8_requireFree_7
  simp only [Sum.elim_inr] at h
  refine Y_callV C [.int i2] [] [] hk0 rfl rfl (c_X8_requireIndex hk0 hv4) (fun _ h => h.elim) q_cw_yX8_requireIndex q_ml_RX8_81 ⟨q_im_yX8_requireIndex, q_se_yX8_requireIndex⟩ ⟨⟨Nat.le_of_ble_eq_true rfl, Nat.le_of_ble_eq_true rfl⟩, ⟨Nat.zero_le _, Nat.zero_le _⟩, Nat.le_of_ble_eq_true rfl⟩ rfl rfl rfl dX8_requireFree_7 ?_
  refine Y_aload_n C (pc := 10) 0 0 rfl rfl dX8_requireFree_10 ?_
  refine Y_getR C (pc := 11) hk0 q_fi_RX8_12 (by decide) dX8_requireFree_11 ?_
  refine Y_getR C (pc := 14) (q_kr_8_0 hk0) q_fi_RX8_184 (by decide) dX8_requireFree_14 ?_
  refine Y_iload_n C (pc := 17) 1 1 rfl rfl dX8_requireFree_17 ?_
  obtain ⟨v7, hv7, h⟩ := Option.bind_eq_some_iff.mp h
  refine Y_callS C [.ref (ρ ((k0 + 1) + 5)), .int i1] [] [.int v7] (c_X8_item (q_kr_6_5 (q_kr_8_0 hk0)) hv7) (fun _ h => h.elim) q_cw_yX8_item q_ml_RX8_119 q_st_yX8_item ⟨⟨Nat.le_of_ble_eq_true rfl, Nat.le_of_ble_eq_true rfl⟩, ⟨Nat.zero_le _, Nat.zero_le _⟩, Nat.le_of_ble_eq_true rfl⟩ rfl rfl rfl dX8_requireFree_18 ?_
  refine Y_iconst C (pc := 21) (v := (-1 : Int32)) (by decide) dX8_requireFree_21 ?_
  refine Y_icmp_ne C (pc := 22) (tgt := 42) dX8_requireFree_22 (by decide) (fun c11 => ?_) (fun c11 => ?_)
  · rw [if_neg c11] at h
    cases h
    exact Y_throwW (σ0 := σ) (τ0 := τ) (E := "java/lang/IllegalStateException") (pc := 42) C X hno (by decide +kernel) q_cl_RX8_193 q_ix_1 q_sr_RX8_324 q_at_RX8_197 dX8_requireFree_42 dX8_requireFree_45 dX8_requireFree_46 dX8_requireFree_49 dX8_requireFree_52 ⟨Nat.le_of_ble_eq_true rfl, Nat.le_of_ble_eq_true rfl, Nat.le_of_ble_eq_true rfl, Nat.le_of_ble_eq_true rfl⟩ (fun _ h => Or.inr h)
  · rw [if_pos c11] at h
    refine Y_aload_n C (pc := 25) 0 0 rfl rfl dX8_requireFree_25 ?_
    refine Y_getR C (pc := 26) hk0 q_fi_RX8_12 (by decide) dX8_requireFree_26 ?_
    refine Y_getR C (pc := 29) (q_kr_8_0 hk0) q_fi_RX8_184 (by decide) dX8_requireFree_29 ?_
    obtain ⟨v8, hv8, h⟩ := Option.bind_eq_some_iff.mp h
    refine Y_callS C [.ref (ρ ((k0 + 1) + 5))] [] [.int v8] (c_X8_takenBy (q_kr_6_5 (q_kr_8_0 hk0)) hv8) (fun _ h => h.elim) q_cw_yX8_takenBy q_ml_RX8_317 q_st_yX8_takenBy ⟨⟨Nat.le_of_ble_eq_true rfl, Nat.le_of_ble_eq_true rfl⟩, ⟨Nat.zero_le _, Nat.zero_le _⟩, Nat.le_of_ble_eq_true rfl⟩ rfl rfl rfl dX8_requireFree_32 ?_
    refine Y_iload_n C (pc := 35) 2 2 rfl rfl dX8_requireFree_35 ?_
    obtain ⟨v9, hv9, h⟩ := Option.bind_eq_some_iff.mp h
    refine Y_callS C [.int v8, .int i2] [] [.int v9] (c_X8_has  hv9) (fun _ h => h.elim) q_cw_yX8_has q_ml_RX8_320 q_st_yX8_has ⟨⟨Nat.le_of_ble_eq_true rfl, Nat.le_of_ble_eq_true rfl⟩, ⟨Nat.zero_le _, Nat.zero_le _⟩, Nat.le_of_ble_eq_true rfl⟩ rfl rfl rfl dX8_requireFree_36 ?_
    refine Y_if_eq C (pc := 39) (tgt := 53) dX8_requireFree_39 (by decide) (fun c10 => ?_) (fun c10 => ?_)
    · rw [if_pos c10] at h
      cases h
    · rw [if_neg c10] at h
      cases h
      exact Y_throwW (σ0 := σ) (τ0 := τ) (E := "java/lang/IllegalStateException") (pc := 42) C X hno (by decide +kernel) q_cl_RX8_193 q_ix_1 q_sr_RX8_324 q_at_RX8_197 dX8_requireFree_42 dX8_requireFree_45 dX8_requireFree_46 dX8_requireFree_49 dX8_requireFree_52 ⟨Nat.le_of_ble_eq_true rfl, Nat.le_of_ble_eq_true rfl, Nat.le_of_ble_eq_true rfl, Nat.le_of_ble_eq_true rfl⟩ (fun _ h => Or.inr h)

set_option maxRecDepth 100000 in
set_option maxHeartbeats 4000000 in
theorem c_X8_fix {l : Launch} {D : va_G} {cA ρ : Nat → Nat} {σ : Sg} {τ : Tg} {k0 : Nat} {i1 : Int32} {i2 : Int32} (hI : Inj ρ) (hk0 : kd k0 = (0, 8)) {r : Int32 × Sg} (h : f_X8_fix σ k0 i1 i2 = some (.inr r)) : Ct l yX8_fix cX8_fix 3 (some .int) 3 75 D cA ρ (Aw ρ) [.ref (ρ k0), .int i1, .int i2] σ τ (some (.int r.1)) r.2 τ := by
  refine Ct_of (by decide +kernel) (Nat.le_of_ble_eq_true rfl) (fun p e s m args below meth c C => ?_)
  have C : Ctx p l s m args meth c cX8_fix RX8 3 (some .int) D cA ρ (Aw ρ) := C
  have hW : Wr ρ (Aw ρ) := ⟨hI, fun k hk => ⟨k, hk, rfl⟩⟩
  unfold f_X8_fix at h
  refine Y_sub [0, 1, 2] (lv' := [(0, .ref (ρ k0)), (1, .int i1), (2, .int i2)]) rfl ?_
  refine Y_aload_n C (pc := 0) 0 0 rfl rfl dX8_fix_0 ?_
  refine Y_iload_n C (pc := 1) 1 1 rfl rfl dX8_fix_1 ?_
  refine Y_iload_n C (pc := 2) 2 2 rfl rfl dX8_fix_2 ?_
  obtain ⟨v1, hv1, h⟩ := Option.bind_eq_some_iff.mp h
  rcases v1 with n2 | w3
  · simp only [Sum.elim_inl] at h
    cases h
  simp only [Sum.elim_inr] at h
  refine Y_callV C [.int i1, .int i2] [] [] hk0 rfl rfl (c_X8_requireFree hk0 hv1) (fun _ h => h.elim) q_cw_yX8_requireFree q_ml_RX8_180 ⟨q_im_yX8_requireFree, q_se_yX8_requireFree⟩ ⟨⟨Nat.le_of_ble_eq_true rfl, Nat.le_of_ble_eq_true rfl⟩, ⟨Nat.zero_le _, Nat.zero_le _⟩, Nat.le_of_ble_eq_true rfl⟩ rfl rfl rfl dX8_fix_3 ?_
  refine Y_aload_n C (pc := 6) 0 0 rfl rfl dX8_fix_6 ?_
  refine Y_getR C (pc := 7) hk0 q_fi_RX8_19 (by decide) dX8_fix_7 ?_
  refine Y_aload_n C (pc := 10) 0 0 rfl rfl dX8_fix_10 ?_
  refine Y_getR C (pc := 11) hk0 q_fi_RX8_12 (by decide) dX8_fix_11 ?_
  obtain ⟨v4, hv4, h⟩ := Option.bind_eq_some_iff.mp h
  refine Y_callV C [.ref (ρ (k0 + 1))] [] [] (q_kr_8_1 hk0) rfl rfl (c_X2_push hI (q_kr_8_1 hk0) (q_kr_8_0 hk0) hv4) (fun _ h => h) q_cw_yX2_push q_ml_RX8_73 ⟨q_im_yX2_push, q_se_yX2_push⟩ ⟨⟨Nat.le_of_ble_eq_true rfl, Nat.le_of_ble_eq_true rfl⟩, ⟨Nat.zero_le _, Nat.zero_le _⟩, Nat.le_of_ble_eq_true rfl⟩ rfl rfl rfl dX8_fix_14 ?_
  refine Y_aload_n C (pc := 17) 0 0 rfl rfl dX8_fix_17 ?_
  refine Y_getR C (pc := 18) hk0 q_fi_RX8_12 (by decide) dX8_fix_18 ?_
  refine Y_getR C (pc := 21) (q_kr_8_0 hk0) q_fi_RX8_184 (by decide) dX8_fix_21 ?_
  refine Y_iload_n C (pc := 24) 1 1 rfl rfl dX8_fix_24 ?_
  refine Y_iload_n C (pc := 25) 2 2 rfl rfl dX8_fix_25 ?_
  obtain ⟨v5, hv5, h⟩ := Option.bind_eq_some_iff.mp h
  refine Y_callS C [.ref (ρ ((k0 + 1) + 5)), .int i1, .int i2] [] [] (c_X8_setItem hI (q_kr_6_5 (q_kr_8_0 hk0)) (q_lr_6_5 (q_kr_8_0 hk0)) hv5) (fun _ h => h) q_cw_yX8_setItem q_ml_RX8_187 q_st_yX8_setItem ⟨⟨Nat.le_of_ble_eq_true rfl, Nat.le_of_ble_eq_true rfl⟩, ⟨Nat.zero_le _, Nat.zero_le _⟩, Nat.le_of_ble_eq_true rfl⟩ rfl rfl rfl dX8_fix_26 ?_
  refine Y_aload_n C (pc := 29) 0 0 rfl rfl dX8_fix_29 ?_
  refine Y_getR C (pc := 30) hk0 q_fi_RX8_12 (by decide) dX8_fix_30 ?_
  refine Y_getI C (pc := 33) (q_kr_8_0 hk0) q_fi_RX8_69 dX8_fix_33 ?_
  refine Y_aload_n C (pc := 36) 0 0 rfl rfl dX8_fix_36 ?_
  refine Y_getR C (pc := 37) hk0 q_fi_RX8_12 (by decide) dX8_fix_37 ?_
  obtain ⟨v6, hv6, h⟩ := Option.bind_eq_some_iff.mp h
  refine Y_callV C [] [.int (v5 (k0 + 1) 0)] [.int v6, .int (v5 (k0 + 1) 0)] (q_kr_8_0 hk0) rfl rfl (c_X6_freeCount (q_kr_8_0 hk0) hv6) (fun _ h => h.elim) q_cw_yX6_freeCount q_ml_RX8_190 ⟨q_im_yX6_freeCount, q_se_yX6_freeCount⟩ ⟨⟨Nat.le_of_ble_eq_true rfl, Nat.le_of_ble_eq_true rfl⟩, ⟨Nat.zero_le _, Nat.zero_le _⟩, Nat.le_of_ble_eq_true rfl⟩ rfl rfl rfl dX8_fix_40 ?_
  refine Y_isub C (pc := 43) dX8_fix_43 ?_
  cases h
  exact Y_iret C dX8_fix_44
set_option maxRecDepth 100000 in
set_option maxHeartbeats 4000000 in
theorem t_X8_fix {l : Launch} {D : va_G} {cA ρ : Nat → Nat} {σ : Sg} {τ : Tg} {k0 : Nat} {i1 : Int32} {i2 : Int32} (hI : Inj ρ) (hk0 : kd k0 = (0, 8)) {r : Nat × Sg} (h : f_X8_fix σ k0 i1 i2 = some (.inl r)) : CtT l yX8_fix cX8_fix 3 (some .int) 8 133 D cA ρ [.ref (ρ k0), .int i1, .int i2] σ τ (xn r.1) r.2 τ := by
  refine CtT_of (by decide +kernel) (Nat.le_of_ble_eq_true rfl) (fun p e s m args below meth c C X hno => ?_)
  have C : Ctx p l s m args meth c cX8_fix RX8 3 (some .int) D cA ρ (Ax ρ s.heap.size) := C
  have hW : Wr ρ (Ax ρ s.heap.size) := ⟨hI, fun k hk => Or.inl ⟨k, hk, rfl⟩⟩
  unfold f_X8_fix at h
  refine Y_sub [0, 1, 2] (lv' := [(0, .ref (ρ k0)), (1, .int i1), (2, .int i2)]) rfl ?_
  refine Y_aload_n C (pc := 0) 0 0 rfl rfl dX8_fix_0 ?_
  refine Y_iload_n C (pc := 1) 1 1 rfl rfl dX8_fix_1 ?_
  refine Y_iload_n C (pc := 2) 2 2 rfl rfl dX8_fix_2 ?_
  obtain ⟨v1, hv1, h⟩ := Option.bind_eq_some_iff.mp h
  rcases v1 with n2 | w3
  · simp only [Sum.elim_inl] at h
    cases h
    exact Y_callVT C X hno (pc := 3) [.int i1, .int i2] [] hk0 rfl rfl (t_X8_requireFree hk0 hv1) q_cw_yX8_requireFree q_ml_RX8_180 ⟨q_im_yX8_requireFree, q_se_yX8_requireFree⟩ ⟨⟨Nat.le_of_ble_eq_true rfl, Nat.le_of_ble_eq_true rfl⟩, ⟨Nat.le_of_ble_eq_true rfl, Nat.le_of_ble_eq_true rfl⟩, Nat.le_of_ble_eq_true rfl⟩ rfl rfl dX8_fix_3
  simp only [Sum.elim_inr] at h
  refine Y_callV C [.int i1, .int i2] [] [] hk0 rfl rfl (c_X8_requireFree hk0 hv1) (fun _ h => h.elim) q_cw_yX8_requireFree q_ml_RX8_180 ⟨q_im_yX8_requireFree, q_se_yX8_requireFree⟩ ⟨⟨Nat.le_of_ble_eq_true rfl, Nat.le_of_ble_eq_true rfl⟩, ⟨Nat.zero_le _, Nat.zero_le _⟩, Nat.le_of_ble_eq_true rfl⟩ rfl rfl rfl dX8_fix_3 ?_
  refine Y_aload_n C (pc := 6) 0 0 rfl rfl dX8_fix_6 ?_
  refine Y_getR C (pc := 7) hk0 q_fi_RX8_19 (by decide) dX8_fix_7 ?_
  refine Y_aload_n C (pc := 10) 0 0 rfl rfl dX8_fix_10 ?_
  refine Y_getR C (pc := 11) hk0 q_fi_RX8_12 (by decide) dX8_fix_11 ?_
  obtain ⟨v4, hv4, h⟩ := Option.bind_eq_some_iff.mp h
  refine Y_callV C [.ref (ρ (k0 + 1))] [] [] (q_kr_8_1 hk0) rfl rfl (c_X2_push hI (q_kr_8_1 hk0) (q_kr_8_0 hk0) hv4) (fun _ h => Or.inl h) q_cw_yX2_push q_ml_RX8_73 ⟨q_im_yX2_push, q_se_yX2_push⟩ ⟨⟨Nat.le_of_ble_eq_true rfl, Nat.le_of_ble_eq_true rfl⟩, ⟨Nat.zero_le _, Nat.zero_le _⟩, Nat.le_of_ble_eq_true rfl⟩ rfl rfl rfl dX8_fix_14 ?_
  refine Y_aload_n C (pc := 17) 0 0 rfl rfl dX8_fix_17 ?_
  refine Y_getR C (pc := 18) hk0 q_fi_RX8_12 (by decide) dX8_fix_18 ?_
  refine Y_getR C (pc := 21) (q_kr_8_0 hk0) q_fi_RX8_184 (by decide) dX8_fix_21 ?_
  refine Y_iload_n C (pc := 24) 1 1 rfl rfl dX8_fix_24 ?_
  refine Y_iload_n C (pc := 25) 2 2 rfl rfl dX8_fix_25 ?_
  obtain ⟨v5, hv5, h⟩ := Option.bind_eq_some_iff.mp h
  refine Y_callS C [.ref (ρ ((k0 + 1) + 5)), .int i1, .int i2] [] [] (c_X8_setItem hI (q_kr_6_5 (q_kr_8_0 hk0)) (q_lr_6_5 (q_kr_8_0 hk0)) hv5) (fun _ h => Or.inl h) q_cw_yX8_setItem q_ml_RX8_187 q_st_yX8_setItem ⟨⟨Nat.le_of_ble_eq_true rfl, Nat.le_of_ble_eq_true rfl⟩, ⟨Nat.zero_le _, Nat.zero_le _⟩, Nat.le_of_ble_eq_true rfl⟩ rfl rfl rfl dX8_fix_26 ?_
  refine Y_aload_n C (pc := 29) 0 0 rfl rfl dX8_fix_29 ?_
  refine Y_getR C (pc := 30) hk0 q_fi_RX8_12 (by decide) dX8_fix_30 ?_
  refine Y_getI C (pc := 33) (q_kr_8_0 hk0) q_fi_RX8_69 dX8_fix_33 ?_
  refine Y_aload_n C (pc := 36) 0 0 rfl rfl dX8_fix_36 ?_
  refine Y_getR C (pc := 37) hk0 q_fi_RX8_12 (by decide) dX8_fix_37 ?_
  obtain ⟨v6, hv6, h⟩ := Option.bind_eq_some_iff.mp h
  refine Y_callV C [] [.int (v5 (k0 + 1) 0)] [.int v6, .int (v5 (k0 + 1) 0)] (q_kr_8_0 hk0) rfl rfl (c_X6_freeCount (q_kr_8_0 hk0) hv6) (fun _ h => h.elim) q_cw_yX6_freeCount q_ml_RX8_190 ⟨q_im_yX6_freeCount, q_se_yX6_freeCount⟩ ⟨⟨Nat.le_of_ble_eq_true rfl, Nat.le_of_ble_eq_true rfl⟩, ⟨Nat.zero_le _, Nat.zero_le _⟩, Nat.le_of_ble_eq_true rfl⟩ rfl rfl rfl dX8_fix_40 ?_
  refine Y_isub C (pc := 43) dX8_fix_43 ?_
  cases h

set_option maxRecDepth 100000 in
set_option maxHeartbeats 4000000 in
theorem c_X8_free {l : Launch} {D : va_G} {cA ρ : Nat → Nat} {σ : Sg} {τ : Tg} {k0 : Nat} {i1 : Int32} (hI : Inj ρ) (hk0 : kd k0 = (0, 8)) {r : Int32 × Sg} (h : f_X8_free σ k0 i1 = some (.inr r)) : Ct l yX8_free cX8_free 3 (some .int) 3 75 D cA ρ (Aw ρ) [.ref (ρ k0), .int i1] σ τ (some (.int r.1)) r.2 τ := by
  refine Ct_of (by decide +kernel) (Nat.le_of_ble_eq_true rfl) (fun p e s m args below meth c C => ?_)
  have C : Ctx p l s m args meth c cX8_free RX8 3 (some .int) D cA ρ (Aw ρ) := C
  have hW : Wr ρ (Aw ρ) := ⟨hI, fun k hk => ⟨k, hk, rfl⟩⟩
  unfold f_X8_free at h
  refine Y_sub [0, 1] (lv' := [(0, .ref (ρ k0)), (1, .int i1)]) rfl ?_
  refine Y_aload_n C (pc := 0) 0 0 rfl rfl dX8_free_0 ?_
  refine Y_iload_n C (pc := 1) 1 1 rfl rfl dX8_free_1 ?_
  obtain ⟨v1, hv1, h⟩ := Option.bind_eq_some_iff.mp h
  rcases v1 with n2 | w3
  · simp only [Sum.elim_inl] at h
    cases h
  simp only [Sum.elim_inr] at h
  refine Y_callV C [.int i1] [] [] hk0 rfl rfl (c_X8_requireIndex hk0 hv1) (fun _ h => h.elim) q_cw_yX8_requireIndex q_ml_RX8_81 ⟨q_im_yX8_requireIndex, q_se_yX8_requireIndex⟩ ⟨⟨Nat.le_of_ble_eq_true rfl, Nat.le_of_ble_eq_true rfl⟩, ⟨Nat.zero_le _, Nat.zero_le _⟩, Nat.le_of_ble_eq_true rfl⟩ rfl rfl rfl dX8_free_2 ?_
  refine Y_aload_n C (pc := 5) 0 0 rfl rfl dX8_free_5 ?_
  refine Y_getR C (pc := 6) hk0 q_fi_RX8_12 (by decide) dX8_free_6 ?_
  refine Y_getR C (pc := 9) (q_kr_8_0 hk0) q_fi_RX8_184 (by decide) dX8_free_9 ?_
  refine Y_iload_n C (pc := 12) 1 1 rfl rfl dX8_free_12 ?_
  obtain ⟨v4, hv4, h⟩ := Option.bind_eq_some_iff.mp h
  refine Y_callS C [.ref (ρ ((k0 + 1) + 5)), .int i1] [] [.int v4] (c_X8_item (q_kr_6_5 (q_kr_8_0 hk0)) hv4) (fun _ h => h.elim) q_cw_yX8_item q_ml_RX8_119 q_st_yX8_item ⟨⟨Nat.le_of_ble_eq_true rfl, Nat.le_of_ble_eq_true rfl⟩, ⟨Nat.zero_le _, Nat.zero_le _⟩, Nat.le_of_ble_eq_true rfl⟩ rfl rfl rfl dX8_free_13 ?_
  refine Y_istore_n C (pc := 16) (lv' := [(2, .int v4), (0, .ref (ρ k0)), (1, .int i1)]) 2 rfl (by decide) rfl dX8_free_16 ?_
  refine Y_iload_n C (pc := 17) 2 0 rfl rfl dX8_free_17 ?_
  refine Y_iconst C (pc := 18) (v := (-1 : Int32)) (by decide) dX8_free_18 ?_
  refine Y_icmp_ne C (pc := 19) (tgt := 32) dX8_free_19 (by decide) (fun c7 => ?_) (fun c7 => ?_)
  · rw [if_neg c7] at h
    refine Y_aload_n C (pc := 32) 0 1 rfl rfl dX8_free_32 ?_
    refine Y_getR C (pc := 33) hk0 q_fi_RX8_19 (by decide) dX8_free_33 ?_
    refine Y_aload_n C (pc := 36) 0 1 rfl rfl dX8_free_36 ?_
    refine Y_getR C (pc := 37) hk0 q_fi_RX8_12 (by decide) dX8_free_37 ?_
    obtain ⟨v5, hv5, h⟩ := Option.bind_eq_some_iff.mp h
    refine Y_callV C [.ref (ρ (k0 + 1))] [] [] (q_kr_8_1 hk0) rfl rfl (c_X2_push hI (q_kr_8_1 hk0) (q_kr_8_0 hk0) hv5) (fun _ h => h) q_cw_yX2_push q_ml_RX8_73 ⟨q_im_yX2_push, q_se_yX2_push⟩ ⟨⟨Nat.le_of_ble_eq_true rfl, Nat.le_of_ble_eq_true rfl⟩, ⟨Nat.zero_le _, Nat.zero_le _⟩, Nat.le_of_ble_eq_true rfl⟩ rfl rfl rfl dX8_free_40 ?_
    refine Y_aload_n C (pc := 43) 0 1 rfl rfl dX8_free_43 ?_
    refine Y_getR C (pc := 44) hk0 q_fi_RX8_12 (by decide) dX8_free_44 ?_
    refine Y_getR C (pc := 47) (q_kr_8_0 hk0) q_fi_RX8_184 (by decide) dX8_free_47 ?_
    refine Y_iload_n C (pc := 50) 1 2 rfl rfl dX8_free_50 ?_
    refine Y_iconst C (pc := 51) (v := (-1 : Int32)) (by decide) dX8_free_51 ?_
    obtain ⟨v6, hv6, h⟩ := Option.bind_eq_some_iff.mp h
    refine Y_callS C [.ref (ρ ((k0 + 1) + 5)), .int i1, .int (-1 : Int32)] [] [] (c_X8_setItem hI (q_kr_6_5 (q_kr_8_0 hk0)) (q_lr_6_5 (q_kr_8_0 hk0)) hv6) (fun _ h => h) q_cw_yX8_setItem q_ml_RX8_187 q_st_yX8_setItem ⟨⟨Nat.le_of_ble_eq_true rfl, Nat.le_of_ble_eq_true rfl⟩, ⟨Nat.zero_le _, Nat.zero_le _⟩, Nat.le_of_ble_eq_true rfl⟩ rfl rfl rfl dX8_free_52 ?_
    refine Y_iload_n C (pc := 55) 2 0 rfl rfl dX8_free_55 ?_
    cases h
    exact Y_iret C dX8_free_56
  · rw [if_pos c7] at h
    cases h
set_option maxRecDepth 100000 in
set_option maxHeartbeats 4000000 in
theorem t_X8_free {l : Launch} {D : va_G} {cA ρ : Nat → Nat} {σ : Sg} {τ : Tg} {k0 : Nat} {i1 : Int32} (hI : Inj ρ) (hk0 : kd k0 = (0, 8)) {r : Nat × Sg} (h : f_X8_free σ k0 i1 = some (.inl r)) : CtT l yX8_free cX8_free 3 (some .int) 7 111 D cA ρ [.ref (ρ k0), .int i1] σ τ (xn r.1) r.2 τ := by
  refine CtT_of (by decide +kernel) (Nat.le_of_ble_eq_true rfl) (fun p e s m args below meth c C X hno => ?_)
  have C : Ctx p l s m args meth c cX8_free RX8 3 (some .int) D cA ρ (Ax ρ s.heap.size) := C
  have hW : Wr ρ (Ax ρ s.heap.size) := ⟨hI, fun k hk => Or.inl ⟨k, hk, rfl⟩⟩
  unfold f_X8_free at h
  refine Y_sub [0, 1] (lv' := [(0, .ref (ρ k0)), (1, .int i1)]) rfl ?_
  refine Y_aload_n C (pc := 0) 0 0 rfl rfl dX8_free_0 ?_
  refine Y_iload_n C (pc := 1) 1 1 rfl rfl dX8_free_1 ?_
  obtain ⟨v1, hv1, h⟩ := Option.bind_eq_some_iff.mp h
  rcases v1 with n2 | w3
  · simp only [Sum.elim_inl] at h
    cases h
    exact Y_callVT C X hno (pc := 2) [.int i1] [] hk0 rfl rfl (t_X8_requireIndex hk0 hv1) q_cw_yX8_requireIndex q_ml_RX8_81 ⟨q_im_yX8_requireIndex, q_se_yX8_requireIndex⟩ ⟨⟨Nat.le_of_ble_eq_true rfl, Nat.le_of_ble_eq_true rfl⟩, ⟨Nat.le_of_ble_eq_true rfl, Nat.le_of_ble_eq_true rfl⟩, Nat.le_of_ble_eq_true rfl⟩ rfl rfl dX8_free_2
  simp only [Sum.elim_inr] at h
  refine Y_callV C [.int i1] [] [] hk0 rfl rfl (c_X8_requireIndex hk0 hv1) (fun _ h => h.elim) q_cw_yX8_requireIndex q_ml_RX8_81 ⟨q_im_yX8_requireIndex, q_se_yX8_requireIndex⟩ ⟨⟨Nat.le_of_ble_eq_true rfl, Nat.le_of_ble_eq_true rfl⟩, ⟨Nat.zero_le _, Nat.zero_le _⟩, Nat.le_of_ble_eq_true rfl⟩ rfl rfl rfl dX8_free_2 ?_
  refine Y_aload_n C (pc := 5) 0 0 rfl rfl dX8_free_5 ?_
  refine Y_getR C (pc := 6) hk0 q_fi_RX8_12 (by decide) dX8_free_6 ?_
  refine Y_getR C (pc := 9) (q_kr_8_0 hk0) q_fi_RX8_184 (by decide) dX8_free_9 ?_
  refine Y_iload_n C (pc := 12) 1 1 rfl rfl dX8_free_12 ?_
  obtain ⟨v4, hv4, h⟩ := Option.bind_eq_some_iff.mp h
  refine Y_callS C [.ref (ρ ((k0 + 1) + 5)), .int i1] [] [.int v4] (c_X8_item (q_kr_6_5 (q_kr_8_0 hk0)) hv4) (fun _ h => h.elim) q_cw_yX8_item q_ml_RX8_119 q_st_yX8_item ⟨⟨Nat.le_of_ble_eq_true rfl, Nat.le_of_ble_eq_true rfl⟩, ⟨Nat.zero_le _, Nat.zero_le _⟩, Nat.le_of_ble_eq_true rfl⟩ rfl rfl rfl dX8_free_13 ?_
  refine Y_istore_n C (pc := 16) (lv' := [(2, .int v4), (0, .ref (ρ k0)), (1, .int i1)]) 2 rfl (by decide) rfl dX8_free_16 ?_
  refine Y_iload_n C (pc := 17) 2 0 rfl rfl dX8_free_17 ?_
  refine Y_iconst C (pc := 18) (v := (-1 : Int32)) (by decide) dX8_free_18 ?_
  refine Y_icmp_ne C (pc := 19) (tgt := 32) dX8_free_19 (by decide) (fun c7 => ?_) (fun c7 => ?_)
  · rw [if_neg c7] at h
    refine Y_aload_n C (pc := 32) 0 1 rfl rfl dX8_free_32 ?_
    refine Y_getR C (pc := 33) hk0 q_fi_RX8_19 (by decide) dX8_free_33 ?_
    refine Y_aload_n C (pc := 36) 0 1 rfl rfl dX8_free_36 ?_
    refine Y_getR C (pc := 37) hk0 q_fi_RX8_12 (by decide) dX8_free_37 ?_
    obtain ⟨v5, hv5, h⟩ := Option.bind_eq_some_iff.mp h
    refine Y_callV C [.ref (ρ (k0 + 1))] [] [] (q_kr_8_1 hk0) rfl rfl (c_X2_push hI (q_kr_8_1 hk0) (q_kr_8_0 hk0) hv5) (fun _ h => Or.inl h) q_cw_yX2_push q_ml_RX8_73 ⟨q_im_yX2_push, q_se_yX2_push⟩ ⟨⟨Nat.le_of_ble_eq_true rfl, Nat.le_of_ble_eq_true rfl⟩, ⟨Nat.zero_le _, Nat.zero_le _⟩, Nat.le_of_ble_eq_true rfl⟩ rfl rfl rfl dX8_free_40 ?_
    refine Y_aload_n C (pc := 43) 0 1 rfl rfl dX8_free_43 ?_
    refine Y_getR C (pc := 44) hk0 q_fi_RX8_12 (by decide) dX8_free_44 ?_
    refine Y_getR C (pc := 47) (q_kr_8_0 hk0) q_fi_RX8_184 (by decide) dX8_free_47 ?_
    refine Y_iload_n C (pc := 50) 1 2 rfl rfl dX8_free_50 ?_
    refine Y_iconst C (pc := 51) (v := (-1 : Int32)) (by decide) dX8_free_51 ?_
    obtain ⟨v6, hv6, h⟩ := Option.bind_eq_some_iff.mp h
    refine Y_callS C [.ref (ρ ((k0 + 1) + 5)), .int i1, .int (-1 : Int32)] [] [] (c_X8_setItem hI (q_kr_6_5 (q_kr_8_0 hk0)) (q_lr_6_5 (q_kr_8_0 hk0)) hv6) (fun _ h => Or.inl h) q_cw_yX8_setItem q_ml_RX8_187 q_st_yX8_setItem ⟨⟨Nat.le_of_ble_eq_true rfl, Nat.le_of_ble_eq_true rfl⟩, ⟨Nat.zero_le _, Nat.zero_le _⟩, Nat.le_of_ble_eq_true rfl⟩ rfl rfl rfl dX8_free_52 ?_
    refine Y_iload_n C (pc := 55) 2 0 rfl rfl dX8_free_55 ?_
    cases h
  · rw [if_pos c7] at h
    cases h
    exact Y_throw (σ0 := σ) (τ0 := τ) (E := "java/lang/IllegalStateException") (pc := 22) C X hno (by decide +kernel) q_cl_RX8_193 q_ix_1 q_sr_RX8_195 q_at_RX8_197 dX8_free_22 dX8_free_25 dX8_free_26 dX8_free_28 dX8_free_31 ⟨Nat.le_of_ble_eq_true rfl, Nat.le_of_ble_eq_true rfl, Nat.le_of_ble_eq_true rfl, Nat.le_of_ble_eq_true rfl⟩ (fun _ h => Or.inr h)

set_option maxRecDepth 100000 in
set_option maxHeartbeats 4000000 in
theorem c_X8_fixed {l : Launch} {D : va_G} {cA ρ : Nat → Nat} {σ : Sg} {τ : Tg} {k0 : Nat} {i1 : Int32} (hk0 : kd k0 = (0, 8)) {r : Int32} (h : f_X8_fixed σ k0 i1 = some (.inr r)) : Ct l yX8_fixed cX8_fixed 2 (some .int) 1 21 D cA ρ A0 [.ref (ρ k0), .int i1] σ τ (some (.int r)) σ τ := by
  refine Ct_of (by decide +kernel) (Nat.le_of_ble_eq_true rfl) (fun p e s m args below meth c C => ?_)
  have C : Ctx p l s m args meth c cX8_fixed RX8 2 (some .int) D cA ρ A0 := C
  unfold f_X8_fixed at h
  refine Y_sub [0, 1] (lv' := [(0, .ref (ρ k0)), (1, .int i1)]) rfl ?_
  refine Y_aload_n C (pc := 0) 0 0 rfl rfl dX8_fixed_0 ?_
  refine Y_iload_n C (pc := 1) 1 1 rfl rfl dX8_fixed_1 ?_
  obtain ⟨v1, hv1, h⟩ := Option.bind_eq_some_iff.mp h
  rcases v1 with n2 | w3
  · simp only [Sum.elim_inl] at h
    cases h
  simp only [Sum.elim_inr] at h
  refine Y_callV C [.int i1] [] [] hk0 rfl rfl (c_X8_requireIndex hk0 hv1) (fun _ h => h.elim) q_cw_yX8_requireIndex q_ml_RX8_81 ⟨q_im_yX8_requireIndex, q_se_yX8_requireIndex⟩ ⟨⟨Nat.le_of_ble_eq_true rfl, Nat.le_of_ble_eq_true rfl⟩, ⟨Nat.zero_le _, Nat.zero_le _⟩, Nat.le_of_ble_eq_true rfl⟩ rfl rfl rfl dX8_fixed_2 ?_
  refine Y_aload_n C (pc := 5) 0 0 rfl rfl dX8_fixed_5 ?_
  refine Y_getR C (pc := 6) hk0 q_fi_RX8_12 (by decide) dX8_fixed_6 ?_
  refine Y_getR C (pc := 9) (q_kr_8_0 hk0) q_fi_RX8_184 (by decide) dX8_fixed_9 ?_
  refine Y_iload_n C (pc := 12) 1 1 rfl rfl dX8_fixed_12 ?_
  obtain ⟨v4, hv4, h⟩ := Option.bind_eq_some_iff.mp h
  refine Y_callS C [.ref (ρ ((k0 + 1) + 5)), .int i1] [] [.int v4] (c_X8_item (q_kr_6_5 (q_kr_8_0 hk0)) hv4) (fun _ h => h.elim) q_cw_yX8_item q_ml_RX8_119 q_st_yX8_item ⟨⟨Nat.le_of_ble_eq_true rfl, Nat.le_of_ble_eq_true rfl⟩, ⟨Nat.zero_le _, Nat.zero_le _⟩, Nat.le_of_ble_eq_true rfl⟩ rfl rfl rfl dX8_fixed_13 ?_
  cases h
  exact Y_iret C dX8_fixed_16
set_option maxRecDepth 100000 in
set_option maxHeartbeats 4000000 in
theorem t_X8_fixed {l : Launch} {D : va_G} {cA ρ : Nat → Nat} {σ : Sg} {τ : Tg} {k0 : Nat} {i1 : Int32} (hk0 : kd k0 = (0, 8)) {r : Nat} (h : f_X8_fixed σ k0 i1 = some (.inl r)) : CtT l yX8_fixed cX8_fixed 2 (some .int) 7 111 D cA ρ [.ref (ρ k0), .int i1] σ τ (xn r) σ τ := by
  refine CtT_of (by decide +kernel) (Nat.le_of_ble_eq_true rfl) (fun p e s m args below meth c C X hno => ?_)
  have C : Ctx p l s m args meth c cX8_fixed RX8 2 (some .int) D cA ρ (Ax ρ s.heap.size) := C
  unfold f_X8_fixed at h
  refine Y_sub [0, 1] (lv' := [(0, .ref (ρ k0)), (1, .int i1)]) rfl ?_
  refine Y_aload_n C (pc := 0) 0 0 rfl rfl dX8_fixed_0 ?_
  refine Y_iload_n C (pc := 1) 1 1 rfl rfl dX8_fixed_1 ?_
  obtain ⟨v1, hv1, h⟩ := Option.bind_eq_some_iff.mp h
  rcases v1 with n2 | w3
  · simp only [Sum.elim_inl] at h
    cases h
    exact Y_callVT C X hno (pc := 2) [.int i1] [] hk0 rfl rfl (t_X8_requireIndex hk0 hv1) q_cw_yX8_requireIndex q_ml_RX8_81 ⟨q_im_yX8_requireIndex, q_se_yX8_requireIndex⟩ ⟨⟨Nat.le_of_ble_eq_true rfl, Nat.le_of_ble_eq_true rfl⟩, ⟨Nat.le_of_ble_eq_true rfl, Nat.le_of_ble_eq_true rfl⟩, Nat.le_of_ble_eq_true rfl⟩ rfl rfl dX8_fixed_2
  simp only [Sum.elim_inr] at h
  refine Y_callV C [.int i1] [] [] hk0 rfl rfl (c_X8_requireIndex hk0 hv1) (fun _ h => h.elim) q_cw_yX8_requireIndex q_ml_RX8_81 ⟨q_im_yX8_requireIndex, q_se_yX8_requireIndex⟩ ⟨⟨Nat.le_of_ble_eq_true rfl, Nat.le_of_ble_eq_true rfl⟩, ⟨Nat.zero_le _, Nat.zero_le _⟩, Nat.le_of_ble_eq_true rfl⟩ rfl rfl rfl dX8_fixed_2 ?_
  refine Y_aload_n C (pc := 5) 0 0 rfl rfl dX8_fixed_5 ?_
  refine Y_getR C (pc := 6) hk0 q_fi_RX8_12 (by decide) dX8_fixed_6 ?_
  refine Y_getR C (pc := 9) (q_kr_8_0 hk0) q_fi_RX8_184 (by decide) dX8_fixed_9 ?_
  refine Y_iload_n C (pc := 12) 1 1 rfl rfl dX8_fixed_12 ?_
  obtain ⟨v4, hv4, h⟩ := Option.bind_eq_some_iff.mp h
  refine Y_callS C [.ref (ρ ((k0 + 1) + 5)), .int i1] [] [.int v4] (c_X8_item (q_kr_6_5 (q_kr_8_0 hk0)) hv4) (fun _ h => h.elim) q_cw_yX8_item q_ml_RX8_119 q_st_yX8_item ⟨⟨Nat.le_of_ble_eq_true rfl, Nat.le_of_ble_eq_true rfl⟩, ⟨Nat.zero_le _, Nat.zero_le _⟩, Nat.le_of_ble_eq_true rfl⟩ rfl rfl rfl dX8_fixed_13 ?_
  cases h

set_option maxRecDepth 100000 in
set_option maxHeartbeats 4000000 in
theorem c_X8_fixedCost {l : Launch} {D : va_G} {cA ρ : Nat → Nat} {σ : Sg} {τ : Tg} {k0 : Nat} (hk0 : kd k0 = (0, 8)) {r : Int32} (h : f_X8_fixedCost σ k0 = some r) : Ct l yX8_fixedCost cX8_fixedCost 1 (some .int) 2 49 D cA ρ A0 [.ref (ρ k0)] σ τ (some (.int r)) σ τ := by
  refine Ct_of (by decide +kernel) (Nat.le_of_ble_eq_true rfl) (fun p e s m args below meth c C => ?_)
  have C : Ctx p l s m args meth c cX8_fixedCost RX8 1 (some .int) D cA ρ A0 := C
  unfold f_X8_fixedCost at h
  refine Y_sub [0] (lv' := [(0, .ref (ρ k0))]) rfl ?_
  refine Y_aload_n C (pc := 0) 0 0 rfl rfl dX8_fixedCost_0 ?_
  refine Y_getR C (pc := 1) hk0 q_fi_RX8_12 (by decide) dX8_fixedCost_1 ?_
  refine Y_aload_n C (pc := 4) 0 0 rfl rfl dX8_fixedCost_4 ?_
  refine Y_getR C (pc := 5) hk0 q_fi_RX8_12 (by decide) dX8_fixedCost_5 ?_
  refine Y_getR C (pc := 8) (q_kr_8_0 hk0) q_fi_RX8_184 (by decide) dX8_fixedCost_8 ?_
  obtain ⟨v1, hv1, h⟩ := Option.bind_eq_some_iff.mp h
  refine Y_callV C [.ref (ρ ((k0 + 1) + 5))] [] [.int v1] (q_kr_8_0 hk0) rfl rfl (c_X6_partCost (q_kr_8_0 hk0) (q_kr_6_5 (q_kr_8_0 hk0)) hv1) (fun _ h => h.elim) q_cw_yX6_partCost q_ml_RX8_198 ⟨q_im_yX6_partCost, q_se_yX6_partCost⟩ ⟨⟨Nat.le_of_ble_eq_true rfl, Nat.le_of_ble_eq_true rfl⟩, ⟨Nat.zero_le _, Nat.zero_le _⟩, Nat.le_of_ble_eq_true rfl⟩ rfl rfl rfl dX8_fixedCost_11 ?_
  cases h
  exact Y_iret C dX8_fixedCost_14

set_option maxRecDepth 100000 in
set_option maxHeartbeats 4000000 in
theorem c_X8_entry {l : Launch} {D : va_G} {cA ρ : Nat → Nat} {σ : Sg} {τ : Tg} {k0 : Nat} {i1 : Int32} {i2 : Int32} (hI : Inj ρ) (hk0 : kd k0 = (0, 8)) {r : Int32 × Sg} (h : f_X8_entry σ k0 i1 i2 = some (.inr r)) : Ct l yX8_entry cX8_entry 3 (some .int) 3 76 D cA ρ (Aw ρ) [.ref (ρ k0), .int i1, .int i2] σ τ (some (.int r.1)) r.2 τ := by
  refine Ct_of (by decide +kernel) (Nat.le_of_ble_eq_true rfl) (fun p e s m args below meth c C => ?_)
  have C : Ctx p l s m args meth c cX8_entry RX8 3 (some .int) D cA ρ (Aw ρ) := C
  have hW : Wr ρ (Aw ρ) := ⟨hI, fun k hk => ⟨k, hk, rfl⟩⟩
  unfold f_X8_entry at h
  refine Y_sub [0, 1, 2] (lv' := [(0, .ref (ρ k0)), (1, .int i1), (2, .int i2)]) rfl ?_
  refine Y_aload_n C (pc := 0) 0 0 rfl rfl dX8_entry_0 ?_
  refine Y_iload_n C (pc := 1) 1 1 rfl rfl dX8_entry_1 ?_
  refine Y_iload_n C (pc := 2) 2 2 rfl rfl dX8_entry_2 ?_
  obtain ⟨v1, hv1, h⟩ := Option.bind_eq_some_iff.mp h
  rcases v1 with n2 | w3
  · simp only [Sum.elim_inl] at h
    cases h
  simp only [Sum.elim_inr] at h
  refine Y_callV C [.int i1, .int i2] [] [] hk0 rfl rfl (c_X8_requireFree hk0 hv1) (fun _ h => h.elim) q_cw_yX8_requireFree q_ml_RX8_180 ⟨q_im_yX8_requireFree, q_se_yX8_requireFree⟩ ⟨⟨Nat.le_of_ble_eq_true rfl, Nat.le_of_ble_eq_true rfl⟩, ⟨Nat.zero_le _, Nat.zero_le _⟩, Nat.le_of_ble_eq_true rfl⟩ rfl rfl rfl dX8_entry_3 ?_
  refine Y_aload_n C (pc := 6) 0 0 rfl rfl dX8_entry_6 ?_
  refine Y_getR C (pc := 7) hk0 q_fi_RX8_33 (by decide) dX8_entry_7 ?_
  refine Y_aload_n C (pc := 10) 0 0 rfl rfl dX8_entry_10 ?_
  refine Y_getR C (pc := 11) hk0 q_fi_RX8_12 (by decide) dX8_entry_11 ?_
  refine Y_aload_n C (pc := 14) 0 0 rfl rfl dX8_entry_14 ?_
  refine Y_getR C (pc := 15) hk0 q_fi_RX8_12 (by decide) dX8_entry_15 ?_
  refine Y_getR C (pc := 18) (q_kr_8_0 hk0) q_fi_RX8_184 (by decide) dX8_entry_18 ?_
  obtain ⟨v4, hv4, h⟩ := Option.bind_eq_some_iff.mp h
  refine Y_callV C [.ref (ρ (k0 + 1)), .ref (ρ ((k0 + 1) + 5))] [] [] (q_kr_8_3 hk0) rfl rfl (c_X1_load hI (q_kr_8_3 hk0) (q_kr_8_0 hk0) (q_kr_6_5 (q_kr_8_0 hk0)) (q_lr_6_5 (q_kr_8_0 hk0)) hv4) (fun _ h => h) q_cw_yX1_load q_ml_RX8_201 ⟨q_im_yX1_load, q_se_yX1_load⟩ ⟨⟨Nat.le_of_ble_eq_true rfl, Nat.le_of_ble_eq_true rfl⟩, ⟨Nat.zero_le _, Nat.zero_le _⟩, Nat.le_of_ble_eq_true rfl⟩ rfl rfl rfl dX8_entry_21 ?_
  refine Y_aload_n C (pc := 24) 0 0 rfl rfl dX8_entry_24 ?_
  refine Y_getR C (pc := 25) hk0 q_fi_RX8_33 (by decide) dX8_entry_25 ?_
  refine Y_getR C (pc := 28) (q_kr_8_3 hk0) q_fi_RX8_204 (by decide) dX8_entry_28 ?_
  refine Y_iload_n C (pc := 31) 1 1 rfl rfl dX8_entry_31 ?_
  refine Y_iload_n C (pc := 32) 2 2 rfl rfl dX8_entry_32 ?_
  obtain ⟨v5, hv5, h⟩ := Option.bind_eq_some_iff.mp h
  refine Y_callS C [.ref (ρ ((k0 + 48) + 1)), .int i1, .int i2] [] [.int v5] (c_X8_at (q_kr_1_1 (q_kr_8_3 hk0)) hv5) (fun _ h => h.elim) q_cw_yX8_at q_ml_RX8_94 q_st_yX8_at ⟨⟨Nat.le_of_ble_eq_true rfl, Nat.le_of_ble_eq_true rfl⟩, ⟨Nat.zero_le _, Nat.zero_le _⟩, Nat.le_of_ble_eq_true rfl⟩ rfl rfl rfl dX8_entry_33 ?_
  cases h
  exact Y_iret C dX8_entry_36
set_option maxRecDepth 100000 in
set_option maxHeartbeats 4000000 in
theorem t_X8_entry {l : Launch} {D : va_G} {cA ρ : Nat → Nat} {σ : Sg} {τ : Tg} {k0 : Nat} {i1 : Int32} {i2 : Int32} (hI : Inj ρ) (hk0 : kd k0 = (0, 8)) {r : Nat × Sg} (h : f_X8_entry σ k0 i1 i2 = some (.inl r)) : CtT l yX8_entry cX8_entry 3 (some .int) 8 133 D cA ρ [.ref (ρ k0), .int i1, .int i2] σ τ (xn r.1) r.2 τ := by
  refine CtT_of (by decide +kernel) (Nat.le_of_ble_eq_true rfl) (fun p e s m args below meth c C X hno => ?_)
  have C : Ctx p l s m args meth c cX8_entry RX8 3 (some .int) D cA ρ (Ax ρ s.heap.size) := C
  have hW : Wr ρ (Ax ρ s.heap.size) := ⟨hI, fun k hk => Or.inl ⟨k, hk, rfl⟩⟩
  unfold f_X8_entry at h
  refine Y_sub [0, 1, 2] (lv' := [(0, .ref (ρ k0)), (1, .int i1), (2, .int i2)]) rfl ?_
  refine Y_aload_n C (pc := 0) 0 0 rfl rfl dX8_entry_0 ?_
  refine Y_iload_n C (pc := 1) 1 1 rfl rfl dX8_entry_1 ?_
  refine Y_iload_n C (pc := 2) 2 2 rfl rfl dX8_entry_2 ?_
  obtain ⟨v1, hv1, h⟩ := Option.bind_eq_some_iff.mp h
  rcases v1 with n2 | w3
  · simp only [Sum.elim_inl] at h
    cases h
    exact Y_callVT C X hno (pc := 3) [.int i1, .int i2] [] hk0 rfl rfl (t_X8_requireFree hk0 hv1) q_cw_yX8_requireFree q_ml_RX8_180 ⟨q_im_yX8_requireFree, q_se_yX8_requireFree⟩ ⟨⟨Nat.le_of_ble_eq_true rfl, Nat.le_of_ble_eq_true rfl⟩, ⟨Nat.le_of_ble_eq_true rfl, Nat.le_of_ble_eq_true rfl⟩, Nat.le_of_ble_eq_true rfl⟩ rfl rfl dX8_entry_3
  simp only [Sum.elim_inr] at h
  refine Y_callV C [.int i1, .int i2] [] [] hk0 rfl rfl (c_X8_requireFree hk0 hv1) (fun _ h => h.elim) q_cw_yX8_requireFree q_ml_RX8_180 ⟨q_im_yX8_requireFree, q_se_yX8_requireFree⟩ ⟨⟨Nat.le_of_ble_eq_true rfl, Nat.le_of_ble_eq_true rfl⟩, ⟨Nat.zero_le _, Nat.zero_le _⟩, Nat.le_of_ble_eq_true rfl⟩ rfl rfl rfl dX8_entry_3 ?_
  refine Y_aload_n C (pc := 6) 0 0 rfl rfl dX8_entry_6 ?_
  refine Y_getR C (pc := 7) hk0 q_fi_RX8_33 (by decide) dX8_entry_7 ?_
  refine Y_aload_n C (pc := 10) 0 0 rfl rfl dX8_entry_10 ?_
  refine Y_getR C (pc := 11) hk0 q_fi_RX8_12 (by decide) dX8_entry_11 ?_
  refine Y_aload_n C (pc := 14) 0 0 rfl rfl dX8_entry_14 ?_
  refine Y_getR C (pc := 15) hk0 q_fi_RX8_12 (by decide) dX8_entry_15 ?_
  refine Y_getR C (pc := 18) (q_kr_8_0 hk0) q_fi_RX8_184 (by decide) dX8_entry_18 ?_
  obtain ⟨v4, hv4, h⟩ := Option.bind_eq_some_iff.mp h
  refine Y_callV C [.ref (ρ (k0 + 1)), .ref (ρ ((k0 + 1) + 5))] [] [] (q_kr_8_3 hk0) rfl rfl (c_X1_load hI (q_kr_8_3 hk0) (q_kr_8_0 hk0) (q_kr_6_5 (q_kr_8_0 hk0)) (q_lr_6_5 (q_kr_8_0 hk0)) hv4) (fun _ h => Or.inl h) q_cw_yX1_load q_ml_RX8_201 ⟨q_im_yX1_load, q_se_yX1_load⟩ ⟨⟨Nat.le_of_ble_eq_true rfl, Nat.le_of_ble_eq_true rfl⟩, ⟨Nat.zero_le _, Nat.zero_le _⟩, Nat.le_of_ble_eq_true rfl⟩ rfl rfl rfl dX8_entry_21 ?_
  refine Y_aload_n C (pc := 24) 0 0 rfl rfl dX8_entry_24 ?_
  refine Y_getR C (pc := 25) hk0 q_fi_RX8_33 (by decide) dX8_entry_25 ?_
  refine Y_getR C (pc := 28) (q_kr_8_3 hk0) q_fi_RX8_204 (by decide) dX8_entry_28 ?_
  refine Y_iload_n C (pc := 31) 1 1 rfl rfl dX8_entry_31 ?_
  refine Y_iload_n C (pc := 32) 2 2 rfl rfl dX8_entry_32 ?_
  obtain ⟨v5, hv5, h⟩ := Option.bind_eq_some_iff.mp h
  refine Y_callS C [.ref (ρ ((k0 + 48) + 1)), .int i1, .int i2] [] [.int v5] (c_X8_at (q_kr_1_1 (q_kr_8_3 hk0)) hv5) (fun _ h => h.elim) q_cw_yX8_at q_ml_RX8_94 q_st_yX8_at ⟨⟨Nat.le_of_ble_eq_true rfl, Nat.le_of_ble_eq_true rfl⟩, ⟨Nat.zero_le _, Nat.zero_le _⟩, Nat.le_of_ble_eq_true rfl⟩ rfl rfl rfl dX8_entry_33 ?_
  cases h

set_option maxRecDepth 100000 in
set_option maxHeartbeats 4000000 in
theorem c_X8_bound {l : Launch} {D : va_G} {cA ρ : Nat → Nat} {σ : Sg} {τ : Tg} {k0 : Nat} (hI : Inj ρ) (hk0 : kd k0 = (0, 8)) {r : Int32 × Sg} (h : f_X8_bound σ k0 = some r) : Ct l yX8_bound cX8_bound 1 (some .int) 3 76 D cA ρ (Aw ρ) [.ref (ρ k0)] σ τ (some (.int r.1)) r.2 τ := by
  refine Ct_of (by decide +kernel) (Nat.le_of_ble_eq_true rfl) (fun p e s m args below meth c C => ?_)
  have C : Ctx p l s m args meth c cX8_bound RX8 1 (some .int) D cA ρ (Aw ρ) := C
  have hW : Wr ρ (Aw ρ) := ⟨hI, fun k hk => ⟨k, hk, rfl⟩⟩
  unfold f_X8_bound at h
  refine Y_sub [0] (lv' := [(0, .ref (ρ k0))]) rfl ?_
  refine Y_aload_n C (pc := 0) 0 0 rfl rfl dX8_bound_0 ?_
  refine Y_getR C (pc := 1) hk0 q_fi_RX8_33 (by decide) dX8_bound_1 ?_
  refine Y_aload_n C (pc := 4) 0 0 rfl rfl dX8_bound_4 ?_
  refine Y_getR C (pc := 5) hk0 q_fi_RX8_12 (by decide) dX8_bound_5 ?_
  refine Y_aload_n C (pc := 8) 0 0 rfl rfl dX8_bound_8 ?_
  refine Y_getR C (pc := 9) hk0 q_fi_RX8_12 (by decide) dX8_bound_9 ?_
  refine Y_getR C (pc := 12) (q_kr_8_0 hk0) q_fi_RX8_184 (by decide) dX8_bound_12 ?_
  obtain ⟨v1, hv1, h⟩ := Option.bind_eq_some_iff.mp h
  refine Y_callV C [.ref (ρ (k0 + 1)), .ref (ρ ((k0 + 1) + 5))] [] [] (q_kr_8_3 hk0) rfl rfl (c_X1_load hI (q_kr_8_3 hk0) (q_kr_8_0 hk0) (q_kr_6_5 (q_kr_8_0 hk0)) (q_lr_6_5 (q_kr_8_0 hk0)) hv1) (fun _ h => h) q_cw_yX1_load q_ml_RX8_201 ⟨q_im_yX1_load, q_se_yX1_load⟩ ⟨⟨Nat.le_of_ble_eq_true rfl, Nat.le_of_ble_eq_true rfl⟩, ⟨Nat.zero_le _, Nat.zero_le _⟩, Nat.le_of_ble_eq_true rfl⟩ rfl rfl rfl dX8_bound_15 ?_
  refine Y_aload_n C (pc := 18) 0 0 rfl rfl dX8_bound_18 ?_
  refine Y_getR C (pc := 19) hk0 q_fi_RX8_33 (by decide) dX8_bound_19 ?_
  obtain ⟨v2, hv2, h⟩ := Option.bind_eq_some_iff.mp h
  refine Y_callV C [] [] [.int v2.1] (q_kr_8_3 hk0) rfl rfl (c_X1_lowest hI (q_kr_8_3 hk0) hv2) (fun _ h => h) q_cw_yX1_lowest q_ml_RX8_207 ⟨q_im_yX1_lowest, q_se_yX1_lowest⟩ ⟨⟨Nat.le_of_ble_eq_true rfl, Nat.le_of_ble_eq_true rfl⟩, ⟨Nat.zero_le _, Nat.zero_le _⟩, Nat.le_of_ble_eq_true rfl⟩ rfl rfl rfl dX8_bound_22 ?_
  cases h
  exact Y_iret C dX8_bound_25

set_option maxRecDepth 100000 in
set_option maxHeartbeats 4000000 in
theorem c_X8_boundWith {l : Launch} {D : va_G} {cA ρ : Nat → Nat} {σ : Sg} {τ : Tg} {k0 : Nat} {i1 : Int32} {i2 : Int32} (hI : Inj ρ) (hk0 : kd k0 = (0, 8)) {r : Int32 × Sg} (h : f_X8_boundWith σ k0 i1 i2 = some (.inr r)) : Ct l yX8_boundWith cX8_boundWith 3 (some .int) 3 76 D cA ρ (Aw ρ) [.ref (ρ k0), .int i1, .int i2] σ τ (some (.int r.1)) r.2 τ := by
  refine Ct_of (by decide +kernel) (Nat.le_of_ble_eq_true rfl) (fun p e s m args below meth c C => ?_)
  have C : Ctx p l s m args meth c cX8_boundWith RX8 3 (some .int) D cA ρ (Aw ρ) := C
  have hW : Wr ρ (Aw ρ) := ⟨hI, fun k hk => ⟨k, hk, rfl⟩⟩
  unfold f_X8_boundWith at h
  refine Y_sub [0, 1, 2] (lv' := [(0, .ref (ρ k0)), (1, .int i1), (2, .int i2)]) rfl ?_
  refine Y_aload_n C (pc := 0) 0 0 rfl rfl dX8_boundWith_0 ?_
  refine Y_iload_n C (pc := 1) 1 1 rfl rfl dX8_boundWith_1 ?_
  refine Y_iload_n C (pc := 2) 2 2 rfl rfl dX8_boundWith_2 ?_
  obtain ⟨v1, hv1, h⟩ := Option.bind_eq_some_iff.mp h
  rcases v1 with n2 | w3
  · simp only [Sum.elim_inl] at h
    cases h
  simp only [Sum.elim_inr] at h
  refine Y_callV C [.int i1, .int i2] [] [] hk0 rfl rfl (c_X8_requireFree hk0 hv1) (fun _ h => h.elim) q_cw_yX8_requireFree q_ml_RX8_180 ⟨q_im_yX8_requireFree, q_se_yX8_requireFree⟩ ⟨⟨Nat.le_of_ble_eq_true rfl, Nat.le_of_ble_eq_true rfl⟩, ⟨Nat.zero_le _, Nat.zero_le _⟩, Nat.le_of_ble_eq_true rfl⟩ rfl rfl rfl dX8_boundWith_3 ?_
  refine Y_aload_n C (pc := 6) 0 0 rfl rfl dX8_boundWith_6 ?_
  refine Y_getR C (pc := 7) hk0 q_fi_RX8_12 (by decide) dX8_boundWith_7 ?_
  refine Y_getR C (pc := 10) (q_kr_8_0 hk0) q_fi_RX8_184 (by decide) dX8_boundWith_10 ?_
  refine Y_iconst C (pc := 13) (v := (0 : Int32)) (by decide) dX8_boundWith_13 ?_
  refine Y_aload_n C (pc := 14) 0 0 rfl rfl dX8_boundWith_14 ?_
  refine Y_getR C (pc := 15) hk0 q_fi_RX8_58 (by decide) dX8_boundWith_15 ?_
  refine Y_iconst C (pc := 18) (v := (0 : Int32)) (by decide) dX8_boundWith_18 ?_
  refine Y_bipush C (pc := 19) (v := (6 : Int32)) (by decide) dX8_boundWith_19 ?_
  obtain ⟨s4, hs4, h⟩ := Option.bind_eq_some_iff.mp h
  refine Y_acp C (pc := 21) hW q_ml_RX8_210 ⟨q_nat_ac, q_st_ac, q_in_System⟩ (q_kr_6_5 (q_kr_8_0 hk0)) (q_lr_6_5 (q_kr_8_0 hk0)) (q_kr_8_7 hk0) (q_lr_8_7 hk0) hs4 ⟨Nat.le_of_ble_eq_true rfl, Nat.le_of_ble_eq_true rfl⟩ dX8_boundWith_21 ?_
  refine Y_aload_n C (pc := 24) 0 0 rfl rfl dX8_boundWith_24 ?_
  refine Y_getR C (pc := 25) hk0 q_fi_RX8_58 (by decide) dX8_boundWith_25 ?_
  refine Y_iload_n C (pc := 28) 1 1 rfl rfl dX8_boundWith_28 ?_
  refine Y_iload_n C (pc := 29) 2 2 rfl rfl dX8_boundWith_29 ?_
  obtain ⟨v5, hv5, h⟩ := Option.bind_eq_some_iff.mp h
  refine Y_callS C [.ref (ρ (k0 + 74)), .int i1, .int i2] [] [] (c_X8_setItem hI (q_kr_8_7 hk0) (q_lr_8_7 hk0) hv5) (fun _ h => h) q_cw_yX8_setItem q_ml_RX8_187 q_st_yX8_setItem ⟨⟨Nat.le_of_ble_eq_true rfl, Nat.le_of_ble_eq_true rfl⟩, ⟨Nat.zero_le _, Nat.zero_le _⟩, Nat.le_of_ble_eq_true rfl⟩ rfl rfl rfl dX8_boundWith_30 ?_
  refine Y_aload_n C (pc := 33) 0 0 rfl rfl dX8_boundWith_33 ?_
  refine Y_getR C (pc := 34) hk0 q_fi_RX8_33 (by decide) dX8_boundWith_34 ?_
  refine Y_aload_n C (pc := 37) 0 0 rfl rfl dX8_boundWith_37 ?_
  refine Y_getR C (pc := 38) hk0 q_fi_RX8_12 (by decide) dX8_boundWith_38 ?_
  refine Y_aload_n C (pc := 41) 0 0 rfl rfl dX8_boundWith_41 ?_
  refine Y_getR C (pc := 42) hk0 q_fi_RX8_58 (by decide) dX8_boundWith_42 ?_
  obtain ⟨v6, hv6, h⟩ := Option.bind_eq_some_iff.mp h
  refine Y_callV C [.ref (ρ (k0 + 1)), .ref (ρ (k0 + 74))] [] [] (q_kr_8_3 hk0) rfl rfl (c_X1_load hI (q_kr_8_3 hk0) (q_kr_8_0 hk0) (q_kr_8_7 hk0) (q_lr_8_7 hk0) hv6) (fun _ h => h) q_cw_yX1_load q_ml_RX8_201 ⟨q_im_yX1_load, q_se_yX1_load⟩ ⟨⟨Nat.le_of_ble_eq_true rfl, Nat.le_of_ble_eq_true rfl⟩, ⟨Nat.zero_le _, Nat.zero_le _⟩, Nat.le_of_ble_eq_true rfl⟩ rfl rfl rfl dX8_boundWith_45 ?_
  refine Y_aload_n C (pc := 48) 0 0 rfl rfl dX8_boundWith_48 ?_
  refine Y_getR C (pc := 49) hk0 q_fi_RX8_33 (by decide) dX8_boundWith_49 ?_
  obtain ⟨v7, hv7, h⟩ := Option.bind_eq_some_iff.mp h
  refine Y_callV C [] [] [.int v7.1] (q_kr_8_3 hk0) rfl rfl (c_X1_lowest hI (q_kr_8_3 hk0) hv7) (fun _ h => h) q_cw_yX1_lowest q_ml_RX8_207 ⟨q_im_yX1_lowest, q_se_yX1_lowest⟩ ⟨⟨Nat.le_of_ble_eq_true rfl, Nat.le_of_ble_eq_true rfl⟩, ⟨Nat.zero_le _, Nat.zero_le _⟩, Nat.le_of_ble_eq_true rfl⟩ rfl rfl rfl dX8_boundWith_52 ?_
  cases h
  exact Y_iret C dX8_boundWith_55
set_option maxRecDepth 100000 in
set_option maxHeartbeats 4000000 in
theorem t_X8_boundWith {l : Launch} {D : va_G} {cA ρ : Nat → Nat} {σ : Sg} {τ : Tg} {k0 : Nat} {i1 : Int32} {i2 : Int32} (hI : Inj ρ) (hk0 : kd k0 = (0, 8)) {r : Nat × Sg} (h : f_X8_boundWith σ k0 i1 i2 = some (.inl r)) : CtT l yX8_boundWith cX8_boundWith 3 (some .int) 8 133 D cA ρ [.ref (ρ k0), .int i1, .int i2] σ τ (xn r.1) r.2 τ := by
  refine CtT_of (by decide +kernel) (Nat.le_of_ble_eq_true rfl) (fun p e s m args below meth c C X hno => ?_)
  have C : Ctx p l s m args meth c cX8_boundWith RX8 3 (some .int) D cA ρ (Ax ρ s.heap.size) := C
  have hW : Wr ρ (Ax ρ s.heap.size) := ⟨hI, fun k hk => Or.inl ⟨k, hk, rfl⟩⟩
  unfold f_X8_boundWith at h
  refine Y_sub [0, 1, 2] (lv' := [(0, .ref (ρ k0)), (1, .int i1), (2, .int i2)]) rfl ?_
  refine Y_aload_n C (pc := 0) 0 0 rfl rfl dX8_boundWith_0 ?_
  refine Y_iload_n C (pc := 1) 1 1 rfl rfl dX8_boundWith_1 ?_
  refine Y_iload_n C (pc := 2) 2 2 rfl rfl dX8_boundWith_2 ?_
  obtain ⟨v1, hv1, h⟩ := Option.bind_eq_some_iff.mp h
  rcases v1 with n2 | w3
  · simp only [Sum.elim_inl] at h
    cases h
    exact Y_callVT C X hno (pc := 3) [.int i1, .int i2] [] hk0 rfl rfl (t_X8_requireFree hk0 hv1) q_cw_yX8_requireFree q_ml_RX8_180 ⟨q_im_yX8_requireFree, q_se_yX8_requireFree⟩ ⟨⟨Nat.le_of_ble_eq_true rfl, Nat.le_of_ble_eq_true rfl⟩, ⟨Nat.le_of_ble_eq_true rfl, Nat.le_of_ble_eq_true rfl⟩, Nat.le_of_ble_eq_true rfl⟩ rfl rfl dX8_boundWith_3
  simp only [Sum.elim_inr] at h
  refine Y_callV C [.int i1, .int i2] [] [] hk0 rfl rfl (c_X8_requireFree hk0 hv1) (fun _ h => h.elim) q_cw_yX8_requireFree q_ml_RX8_180 ⟨q_im_yX8_requireFree, q_se_yX8_requireFree⟩ ⟨⟨Nat.le_of_ble_eq_true rfl, Nat.le_of_ble_eq_true rfl⟩, ⟨Nat.zero_le _, Nat.zero_le _⟩, Nat.le_of_ble_eq_true rfl⟩ rfl rfl rfl dX8_boundWith_3 ?_
  refine Y_aload_n C (pc := 6) 0 0 rfl rfl dX8_boundWith_6 ?_
  refine Y_getR C (pc := 7) hk0 q_fi_RX8_12 (by decide) dX8_boundWith_7 ?_
  refine Y_getR C (pc := 10) (q_kr_8_0 hk0) q_fi_RX8_184 (by decide) dX8_boundWith_10 ?_
  refine Y_iconst C (pc := 13) (v := (0 : Int32)) (by decide) dX8_boundWith_13 ?_
  refine Y_aload_n C (pc := 14) 0 0 rfl rfl dX8_boundWith_14 ?_
  refine Y_getR C (pc := 15) hk0 q_fi_RX8_58 (by decide) dX8_boundWith_15 ?_
  refine Y_iconst C (pc := 18) (v := (0 : Int32)) (by decide) dX8_boundWith_18 ?_
  refine Y_bipush C (pc := 19) (v := (6 : Int32)) (by decide) dX8_boundWith_19 ?_
  obtain ⟨s4, hs4, h⟩ := Option.bind_eq_some_iff.mp h
  refine Y_acp C (pc := 21) hW q_ml_RX8_210 ⟨q_nat_ac, q_st_ac, q_in_System⟩ (q_kr_6_5 (q_kr_8_0 hk0)) (q_lr_6_5 (q_kr_8_0 hk0)) (q_kr_8_7 hk0) (q_lr_8_7 hk0) hs4 ⟨Nat.le_of_ble_eq_true rfl, Nat.le_of_ble_eq_true rfl⟩ dX8_boundWith_21 ?_
  refine Y_aload_n C (pc := 24) 0 0 rfl rfl dX8_boundWith_24 ?_
  refine Y_getR C (pc := 25) hk0 q_fi_RX8_58 (by decide) dX8_boundWith_25 ?_
  refine Y_iload_n C (pc := 28) 1 1 rfl rfl dX8_boundWith_28 ?_
  refine Y_iload_n C (pc := 29) 2 2 rfl rfl dX8_boundWith_29 ?_
  obtain ⟨v5, hv5, h⟩ := Option.bind_eq_some_iff.mp h
  refine Y_callS C [.ref (ρ (k0 + 74)), .int i1, .int i2] [] [] (c_X8_setItem hI (q_kr_8_7 hk0) (q_lr_8_7 hk0) hv5) (fun _ h => Or.inl h) q_cw_yX8_setItem q_ml_RX8_187 q_st_yX8_setItem ⟨⟨Nat.le_of_ble_eq_true rfl, Nat.le_of_ble_eq_true rfl⟩, ⟨Nat.zero_le _, Nat.zero_le _⟩, Nat.le_of_ble_eq_true rfl⟩ rfl rfl rfl dX8_boundWith_30 ?_
  refine Y_aload_n C (pc := 33) 0 0 rfl rfl dX8_boundWith_33 ?_
  refine Y_getR C (pc := 34) hk0 q_fi_RX8_33 (by decide) dX8_boundWith_34 ?_
  refine Y_aload_n C (pc := 37) 0 0 rfl rfl dX8_boundWith_37 ?_
  refine Y_getR C (pc := 38) hk0 q_fi_RX8_12 (by decide) dX8_boundWith_38 ?_
  refine Y_aload_n C (pc := 41) 0 0 rfl rfl dX8_boundWith_41 ?_
  refine Y_getR C (pc := 42) hk0 q_fi_RX8_58 (by decide) dX8_boundWith_42 ?_
  obtain ⟨v6, hv6, h⟩ := Option.bind_eq_some_iff.mp h
  refine Y_callV C [.ref (ρ (k0 + 1)), .ref (ρ (k0 + 74))] [] [] (q_kr_8_3 hk0) rfl rfl (c_X1_load hI (q_kr_8_3 hk0) (q_kr_8_0 hk0) (q_kr_8_7 hk0) (q_lr_8_7 hk0) hv6) (fun _ h => Or.inl h) q_cw_yX1_load q_ml_RX8_201 ⟨q_im_yX1_load, q_se_yX1_load⟩ ⟨⟨Nat.le_of_ble_eq_true rfl, Nat.le_of_ble_eq_true rfl⟩, ⟨Nat.zero_le _, Nat.zero_le _⟩, Nat.le_of_ble_eq_true rfl⟩ rfl rfl rfl dX8_boundWith_45 ?_
  refine Y_aload_n C (pc := 48) 0 0 rfl rfl dX8_boundWith_48 ?_
  refine Y_getR C (pc := 49) hk0 q_fi_RX8_33 (by decide) dX8_boundWith_49 ?_
  obtain ⟨v7, hv7, h⟩ := Option.bind_eq_some_iff.mp h
  refine Y_callV C [] [] [.int v7.1] (q_kr_8_3 hk0) rfl rfl (c_X1_lowest hI (q_kr_8_3 hk0) hv7) (fun _ h => Or.inl h) q_cw_yX1_lowest q_ml_RX8_207 ⟨q_im_yX1_lowest, q_se_yX1_lowest⟩ ⟨⟨Nat.le_of_ble_eq_true rfl, Nat.le_of_ble_eq_true rfl⟩, ⟨Nat.zero_le _, Nat.zero_le _⟩, Nat.le_of_ble_eq_true rfl⟩ rfl rfl rfl dX8_boundWith_52 ?_
  cases h

set_option maxRecDepth 100000 in
set_option maxHeartbeats 4000000 in
theorem c_X8_regret {l : Launch} {D : va_G} {cA ρ : Nat → Nat} {σ : Sg} {τ : Tg} {k0 : Nat} {i1 : Int32} (hI : Inj ρ) (hk0 : kd k0 = (0, 8)) {r : Int32 × Sg} (h : f_X8_regret σ k0 i1 = some (.inr r)) : Ct l yX8_regret cX8_regret 2 (some .int) 3 76 D cA ρ (Aw ρ) [.ref (ρ k0), .int i1] σ τ (some (.int r.1)) r.2 τ := by
  refine Ct_of (by decide +kernel) (Nat.le_of_ble_eq_true rfl) (fun p e s m args below meth c C => ?_)
  have C : Ctx p l s m args meth c cX8_regret RX8 2 (some .int) D cA ρ (Aw ρ) := C
  have hW : Wr ρ (Aw ρ) := ⟨hI, fun k hk => ⟨k, hk, rfl⟩⟩
  unfold f_X8_regret at h
  refine Y_sub [0, 1] (lv' := [(0, .ref (ρ k0)), (1, .int i1)]) rfl ?_
  refine Y_aload_n C (pc := 0) 0 0 rfl rfl dX8_regret_0 ?_
  refine Y_iload_n C (pc := 1) 1 1 rfl rfl dX8_regret_1 ?_
  obtain ⟨v1, hv1, h⟩ := Option.bind_eq_some_iff.mp h
  rcases v1 with n2 | w3
  · simp only [Sum.elim_inl] at h
    cases h
  simp only [Sum.elim_inr] at h
  refine Y_callV C [.int i1] [] [] hk0 rfl rfl (c_X8_requireIndex hk0 hv1) (fun _ h => h.elim) q_cw_yX8_requireIndex q_ml_RX8_81 ⟨q_im_yX8_requireIndex, q_se_yX8_requireIndex⟩ ⟨⟨Nat.le_of_ble_eq_true rfl, Nat.le_of_ble_eq_true rfl⟩, ⟨Nat.zero_le _, Nat.zero_le _⟩, Nat.le_of_ble_eq_true rfl⟩ rfl rfl rfl dX8_regret_2 ?_
  refine Y_aload_n C (pc := 5) 0 0 rfl rfl dX8_regret_5 ?_
  refine Y_getR C (pc := 6) hk0 q_fi_RX8_12 (by decide) dX8_regret_6 ?_
  refine Y_getR C (pc := 9) (q_kr_8_0 hk0) q_fi_RX8_184 (by decide) dX8_regret_9 ?_
  refine Y_iload_n C (pc := 12) 1 1 rfl rfl dX8_regret_12 ?_
  obtain ⟨v4, hv4, h⟩ := Option.bind_eq_some_iff.mp h
  refine Y_callS C [.ref (ρ ((k0 + 1) + 5)), .int i1] [] [.int v4] (c_X8_item (q_kr_6_5 (q_kr_8_0 hk0)) hv4) (fun _ h => h.elim) q_cw_yX8_item q_ml_RX8_119 q_st_yX8_item ⟨⟨Nat.le_of_ble_eq_true rfl, Nat.le_of_ble_eq_true rfl⟩, ⟨Nat.zero_le _, Nat.zero_le _⟩, Nat.le_of_ble_eq_true rfl⟩ rfl rfl rfl dX8_regret_13 ?_
  refine Y_iconst C (pc := 16) (v := (-1 : Int32)) (by decide) dX8_regret_16 ?_
  refine Y_icmp_eq C (pc := 17) (tgt := 30) dX8_regret_17 (by decide) (fun c7 => ?_) (fun c7 => ?_)
  · rw [if_pos c7] at h
    refine Y_aload_n C (pc := 30) 0 0 rfl rfl dX8_regret_30 ?_
    refine Y_getR C (pc := 31) hk0 q_fi_RX8_33 (by decide) dX8_regret_31 ?_
    refine Y_aload_n C (pc := 34) 0 0 rfl rfl dX8_regret_34 ?_
    refine Y_getR C (pc := 35) hk0 q_fi_RX8_12 (by decide) dX8_regret_35 ?_
    refine Y_aload_n C (pc := 38) 0 0 rfl rfl dX8_regret_38 ?_
    refine Y_getR C (pc := 39) hk0 q_fi_RX8_12 (by decide) dX8_regret_39 ?_
    refine Y_getR C (pc := 42) (q_kr_8_0 hk0) q_fi_RX8_184 (by decide) dX8_regret_42 ?_
    obtain ⟨v5, hv5, h⟩ := Option.bind_eq_some_iff.mp h
    refine Y_callV C [.ref (ρ (k0 + 1)), .ref (ρ ((k0 + 1) + 5))] [] [] (q_kr_8_3 hk0) rfl rfl (c_X1_load hI (q_kr_8_3 hk0) (q_kr_8_0 hk0) (q_kr_6_5 (q_kr_8_0 hk0)) (q_lr_6_5 (q_kr_8_0 hk0)) hv5) (fun _ h => h) q_cw_yX1_load q_ml_RX8_201 ⟨q_im_yX1_load, q_se_yX1_load⟩ ⟨⟨Nat.le_of_ble_eq_true rfl, Nat.le_of_ble_eq_true rfl⟩, ⟨Nat.zero_le _, Nat.zero_le _⟩, Nat.le_of_ble_eq_true rfl⟩ rfl rfl rfl dX8_regret_45 ?_
    refine Y_aload_n C (pc := 48) 0 0 rfl rfl dX8_regret_48 ?_
    refine Y_getR C (pc := 49) hk0 q_fi_RX8_33 (by decide) dX8_regret_49 ?_
    refine Y_iload_n C (pc := 52) 1 1 rfl rfl dX8_regret_52 ?_
    obtain ⟨v6, hv6, h⟩ := Option.bind_eq_some_iff.mp h
    refine Y_callV C [.int i1] [] [.int v6] (q_kr_8_3 hk0) rfl rfl (c_X1_regretOf (q_kr_8_3 hk0) hv6) (fun _ h => h.elim) q_cw_yX1_regretOf q_ml_RX8_218 ⟨q_im_yX1_regretOf, q_se_yX1_regretOf⟩ ⟨⟨Nat.le_of_ble_eq_true rfl, Nat.le_of_ble_eq_true rfl⟩, ⟨Nat.zero_le _, Nat.zero_le _⟩, Nat.le_of_ble_eq_true rfl⟩ rfl rfl rfl dX8_regret_53 ?_
    cases h
    exact Y_iret C dX8_regret_56
  · rw [if_neg c7] at h
    cases h
set_option maxRecDepth 100000 in
set_option maxHeartbeats 4000000 in
theorem t_X8_regret {l : Launch} {D : va_G} {cA ρ : Nat → Nat} {σ : Sg} {τ : Tg} {k0 : Nat} {i1 : Int32} (hI : Inj ρ) (hk0 : kd k0 = (0, 8)) {r : Nat × Sg} (h : f_X8_regret σ k0 i1 = some (.inl r)) : CtT l yX8_regret cX8_regret 2 (some .int) 7 111 D cA ρ [.ref (ρ k0), .int i1] σ τ (xn r.1) r.2 τ := by
  refine CtT_of (by decide +kernel) (Nat.le_of_ble_eq_true rfl) (fun p e s m args below meth c C X hno => ?_)
  have C : Ctx p l s m args meth c cX8_regret RX8 2 (some .int) D cA ρ (Ax ρ s.heap.size) := C
  have hW : Wr ρ (Ax ρ s.heap.size) := ⟨hI, fun k hk => Or.inl ⟨k, hk, rfl⟩⟩
  unfold f_X8_regret at h
  refine Y_sub [0, 1] (lv' := [(0, .ref (ρ k0)), (1, .int i1)]) rfl ?_
  refine Y_aload_n C (pc := 0) 0 0 rfl rfl dX8_regret_0 ?_
  refine Y_iload_n C (pc := 1) 1 1 rfl rfl dX8_regret_1 ?_
  obtain ⟨v1, hv1, h⟩ := Option.bind_eq_some_iff.mp h
  rcases v1 with n2 | w3
  · simp only [Sum.elim_inl] at h
    cases h
    exact Y_callVT C X hno (pc := 2) [.int i1] [] hk0 rfl rfl (t_X8_requireIndex hk0 hv1) q_cw_yX8_requireIndex q_ml_RX8_81 ⟨q_im_yX8_requireIndex, q_se_yX8_requireIndex⟩ ⟨⟨Nat.le_of_ble_eq_true rfl, Nat.le_of_ble_eq_true rfl⟩, ⟨Nat.le_of_ble_eq_true rfl, Nat.le_of_ble_eq_true rfl⟩, Nat.le_of_ble_eq_true rfl⟩ rfl rfl dX8_regret_2
  simp only [Sum.elim_inr] at h
  refine Y_callV C [.int i1] [] [] hk0 rfl rfl (c_X8_requireIndex hk0 hv1) (fun _ h => h.elim) q_cw_yX8_requireIndex q_ml_RX8_81 ⟨q_im_yX8_requireIndex, q_se_yX8_requireIndex⟩ ⟨⟨Nat.le_of_ble_eq_true rfl, Nat.le_of_ble_eq_true rfl⟩, ⟨Nat.zero_le _, Nat.zero_le _⟩, Nat.le_of_ble_eq_true rfl⟩ rfl rfl rfl dX8_regret_2 ?_
  refine Y_aload_n C (pc := 5) 0 0 rfl rfl dX8_regret_5 ?_
  refine Y_getR C (pc := 6) hk0 q_fi_RX8_12 (by decide) dX8_regret_6 ?_
  refine Y_getR C (pc := 9) (q_kr_8_0 hk0) q_fi_RX8_184 (by decide) dX8_regret_9 ?_
  refine Y_iload_n C (pc := 12) 1 1 rfl rfl dX8_regret_12 ?_
  obtain ⟨v4, hv4, h⟩ := Option.bind_eq_some_iff.mp h
  refine Y_callS C [.ref (ρ ((k0 + 1) + 5)), .int i1] [] [.int v4] (c_X8_item (q_kr_6_5 (q_kr_8_0 hk0)) hv4) (fun _ h => h.elim) q_cw_yX8_item q_ml_RX8_119 q_st_yX8_item ⟨⟨Nat.le_of_ble_eq_true rfl, Nat.le_of_ble_eq_true rfl⟩, ⟨Nat.zero_le _, Nat.zero_le _⟩, Nat.le_of_ble_eq_true rfl⟩ rfl rfl rfl dX8_regret_13 ?_
  refine Y_iconst C (pc := 16) (v := (-1 : Int32)) (by decide) dX8_regret_16 ?_
  refine Y_icmp_eq C (pc := 17) (tgt := 30) dX8_regret_17 (by decide) (fun c7 => ?_) (fun c7 => ?_)
  · rw [if_pos c7] at h
    refine Y_aload_n C (pc := 30) 0 0 rfl rfl dX8_regret_30 ?_
    refine Y_getR C (pc := 31) hk0 q_fi_RX8_33 (by decide) dX8_regret_31 ?_
    refine Y_aload_n C (pc := 34) 0 0 rfl rfl dX8_regret_34 ?_
    refine Y_getR C (pc := 35) hk0 q_fi_RX8_12 (by decide) dX8_regret_35 ?_
    refine Y_aload_n C (pc := 38) 0 0 rfl rfl dX8_regret_38 ?_
    refine Y_getR C (pc := 39) hk0 q_fi_RX8_12 (by decide) dX8_regret_39 ?_
    refine Y_getR C (pc := 42) (q_kr_8_0 hk0) q_fi_RX8_184 (by decide) dX8_regret_42 ?_
    obtain ⟨v5, hv5, h⟩ := Option.bind_eq_some_iff.mp h
    refine Y_callV C [.ref (ρ (k0 + 1)), .ref (ρ ((k0 + 1) + 5))] [] [] (q_kr_8_3 hk0) rfl rfl (c_X1_load hI (q_kr_8_3 hk0) (q_kr_8_0 hk0) (q_kr_6_5 (q_kr_8_0 hk0)) (q_lr_6_5 (q_kr_8_0 hk0)) hv5) (fun _ h => Or.inl h) q_cw_yX1_load q_ml_RX8_201 ⟨q_im_yX1_load, q_se_yX1_load⟩ ⟨⟨Nat.le_of_ble_eq_true rfl, Nat.le_of_ble_eq_true rfl⟩, ⟨Nat.zero_le _, Nat.zero_le _⟩, Nat.le_of_ble_eq_true rfl⟩ rfl rfl rfl dX8_regret_45 ?_
    refine Y_aload_n C (pc := 48) 0 0 rfl rfl dX8_regret_48 ?_
    refine Y_getR C (pc := 49) hk0 q_fi_RX8_33 (by decide) dX8_regret_49 ?_
    refine Y_iload_n C (pc := 52) 1 1 rfl rfl dX8_regret_52 ?_
    obtain ⟨v6, hv6, h⟩ := Option.bind_eq_some_iff.mp h
    refine Y_callV C [.int i1] [] [.int v6] (q_kr_8_3 hk0) rfl rfl (c_X1_regretOf (q_kr_8_3 hk0) hv6) (fun _ h => h.elim) q_cw_yX1_regretOf q_ml_RX8_218 ⟨q_im_yX1_regretOf, q_se_yX1_regretOf⟩ ⟨⟨Nat.le_of_ble_eq_true rfl, Nat.le_of_ble_eq_true rfl⟩, ⟨Nat.zero_le _, Nat.zero_le _⟩, Nat.le_of_ble_eq_true rfl⟩ rfl rfl rfl dX8_regret_53 ?_
    cases h
  · rw [if_neg c7] at h
    cases h
    exact Y_throw (σ0 := σ) (τ0 := τ) (E := "java/lang/IllegalStateException") (pc := 20) C X hno (by decide +kernel) q_cl_RX8_193 q_ix_1 q_sr_RX8_216 q_at_RX8_197 dX8_regret_20 dX8_regret_23 dX8_regret_24 dX8_regret_26 dX8_regret_29 ⟨Nat.le_of_ble_eq_true rfl, Nat.le_of_ble_eq_true rfl, Nat.le_of_ble_eq_true rfl, Nat.le_of_ble_eq_true rfl⟩ (fun _ h => Or.inr h)

set_option maxRecDepth 100000 in
set_option maxHeartbeats 4000000 in
theorem c_X8_branchOn {l : Launch} {D : va_G} {cA ρ : Nat → Nat} {σ : Sg} {τ : Tg} {k0 : Nat} (hI : Inj ρ) (hk0 : kd k0 = (0, 8)) {r : Int32 × Sg} (h : f_X8_branchOn σ k0 = some r) : Ct l yX8_branchOn cX8_branchOn 1 (some .int) 3 76 D cA ρ (Aw ρ) [.ref (ρ k0)] σ τ (some (.int r.1)) r.2 τ := by
  refine Ct_of (by decide +kernel) (Nat.le_of_ble_eq_true rfl) (fun p e s m args below meth c C => ?_)
  have C : Ctx p l s m args meth c cX8_branchOn RX8 1 (some .int) D cA ρ (Aw ρ) := C
  have hW : Wr ρ (Aw ρ) := ⟨hI, fun k hk => ⟨k, hk, rfl⟩⟩
  unfold f_X8_branchOn at h
  refine Y_sub [0] (lv' := [(0, .ref (ρ k0))]) rfl ?_
  refine Y_aload_n C (pc := 0) 0 0 rfl rfl dX8_branchOn_0 ?_
  refine Y_getR C (pc := 1) hk0 q_fi_RX8_33 (by decide) dX8_branchOn_1 ?_
  refine Y_aload_n C (pc := 4) 0 0 rfl rfl dX8_branchOn_4 ?_
  refine Y_getR C (pc := 5) hk0 q_fi_RX8_12 (by decide) dX8_branchOn_5 ?_
  refine Y_aload_n C (pc := 8) 0 0 rfl rfl dX8_branchOn_8 ?_
  refine Y_getR C (pc := 9) hk0 q_fi_RX8_12 (by decide) dX8_branchOn_9 ?_
  refine Y_getR C (pc := 12) (q_kr_8_0 hk0) q_fi_RX8_184 (by decide) dX8_branchOn_12 ?_
  obtain ⟨v1, hv1, h⟩ := Option.bind_eq_some_iff.mp h
  refine Y_callV C [.ref (ρ (k0 + 1)), .ref (ρ ((k0 + 1) + 5))] [] [] (q_kr_8_3 hk0) rfl rfl (c_X1_load hI (q_kr_8_3 hk0) (q_kr_8_0 hk0) (q_kr_6_5 (q_kr_8_0 hk0)) (q_lr_6_5 (q_kr_8_0 hk0)) hv1) (fun _ h => h) q_cw_yX1_load q_ml_RX8_201 ⟨q_im_yX1_load, q_se_yX1_load⟩ ⟨⟨Nat.le_of_ble_eq_true rfl, Nat.le_of_ble_eq_true rfl⟩, ⟨Nat.zero_le _, Nat.zero_le _⟩, Nat.le_of_ble_eq_true rfl⟩ rfl rfl rfl dX8_branchOn_15 ?_
  refine Y_aload_n C (pc := 18) 0 0 rfl rfl dX8_branchOn_18 ?_
  refine Y_getR C (pc := 19) hk0 q_fi_RX8_33 (by decide) dX8_branchOn_19 ?_
  obtain ⟨v2, hv2, h⟩ := Option.bind_eq_some_iff.mp h
  refine Y_callV C [] [] [.int v2] (q_kr_8_3 hk0) rfl rfl (c_X1_mostRegretted (q_kr_8_3 hk0) hv2) (fun _ h => h.elim) q_cw_yX1_mostRegretted q_ml_RX8_221 ⟨q_im_yX1_mostRegretted, q_se_yX1_mostRegretted⟩ ⟨⟨Nat.le_of_ble_eq_true rfl, Nat.le_of_ble_eq_true rfl⟩, ⟨Nat.zero_le _, Nat.zero_le _⟩, Nat.le_of_ble_eq_true rfl⟩ rfl rfl rfl dX8_branchOn_22 ?_
  cases h
  exact Y_iret C dX8_branchOn_25

set_option maxRecDepth 100000 in
set_option maxHeartbeats 4000000 in
theorem c_X8_symmetries {l : Launch} {D : va_G} {cA ρ : Nat → Nat} {σ : Sg} {τ : Tg} {k0 : Nat} (hI : Inj ρ) (hk0 : kd k0 = (0, 8)) {r : Int32 × Sg} (h : f_X8_symmetries σ k0 = some r) : Ct l yX8_symmetries cX8_symmetries 1 (some .int) 4 98 D cA ρ (Aw ρ) [.ref (ρ k0)] σ τ (some (.int r.1)) r.2 τ := by
  refine Ct_of (by decide +kernel) (Nat.le_of_ble_eq_true rfl) (fun p e s m args below meth c C => ?_)
  have C : Ctx p l s m args meth c cX8_symmetries RX8 1 (some .int) D cA ρ (Aw ρ) := C
  have hW : Wr ρ (Aw ρ) := ⟨hI, fun k hk => ⟨k, hk, rfl⟩⟩
  unfold f_X8_symmetries at h
  refine Y_sub [0] (lv' := [(0, .ref (ρ k0))]) rfl ?_
  refine Y_aload_n C (pc := 0) 0 0 rfl rfl dX8_symmetries_0 ?_
  refine Y_getR C (pc := 1) hk0 q_fi_RX8_40 (by decide) dX8_symmetries_1 ?_
  refine Y_aload_n C (pc := 4) 0 0 rfl rfl dX8_symmetries_4 ?_
  refine Y_getR C (pc := 5) hk0 q_fi_RX8_12 (by decide) dX8_symmetries_5 ?_
  refine Y_aload_n C (pc := 8) 0 0 rfl rfl dX8_symmetries_8 ?_
  refine Y_getR C (pc := 9) hk0 q_fi_RX8_12 (by decide) dX8_symmetries_9 ?_
  refine Y_getR C (pc := 12) (q_kr_8_0 hk0) q_fi_RX8_184 (by decide) dX8_symmetries_12 ?_
  obtain ⟨v1, hv1, h⟩ := Option.bind_eq_some_iff.mp h
  refine Y_callV C [.ref (ρ (k0 + 1)), .ref (ρ ((k0 + 1) + 5))] [] [] (q_kr_8_4 hk0) rfl rfl (c_X7_load hI (q_kr_8_4 hk0) (q_kr_8_0 hk0) (q_kr_6_5 (q_kr_8_0 hk0)) hv1) (fun _ h => h) q_cw_yX7_load q_ml_RX8_224 ⟨q_im_yX7_load, q_se_yX7_load⟩ ⟨⟨Nat.le_of_ble_eq_true rfl, Nat.le_of_ble_eq_true rfl⟩, ⟨Nat.zero_le _, Nat.zero_le _⟩, Nat.le_of_ble_eq_true rfl⟩ rfl rfl rfl dX8_symmetries_15 ?_
  refine Y_aload_n C (pc := 18) 0 0 rfl rfl dX8_symmetries_18 ?_
  refine Y_getR C (pc := 19) hk0 q_fi_RX8_40 (by decide) dX8_symmetries_19 ?_
  refine Y_getI C (pc := 22) (q_kr_8_4 hk0) q_fi_RX8_225 dX8_symmetries_22 ?_
  cases h
  exact Y_iret C dX8_symmetries_25

set_option maxRecDepth 100000 in
set_option maxHeartbeats 4000000 in
theorem c_X8_representative {l : Launch} {D : va_G} {cA ρ : Nat → Nat} {σ : Sg} {τ : Tg} {k0 : Nat} {i1 : Int32} (hI : Inj ρ) (hk0 : kd k0 = (0, 8)) {r : Int32 × Sg} (h : f_X8_representative σ k0 i1 = some (.inr r)) : Ct l yX8_representative cX8_representative 2 (some .int) 4 98 D cA ρ (Aw ρ) [.ref (ρ k0), .int i1] σ τ (some (.int r.1)) r.2 τ := by
  refine Ct_of (by decide +kernel) (Nat.le_of_ble_eq_true rfl) (fun p e s m args below meth c C => ?_)
  have C : Ctx p l s m args meth c cX8_representative RX8 2 (some .int) D cA ρ (Aw ρ) := C
  have hW : Wr ρ (Aw ρ) := ⟨hI, fun k hk => ⟨k, hk, rfl⟩⟩
  unfold f_X8_representative at h
  refine Y_sub [0, 1] (lv' := [(0, .ref (ρ k0)), (1, .int i1)]) rfl ?_
  refine Y_aload_n C (pc := 0) 0 0 rfl rfl dX8_representative_0 ?_
  refine Y_iload_n C (pc := 1) 1 1 rfl rfl dX8_representative_1 ?_
  obtain ⟨v1, hv1, h⟩ := Option.bind_eq_some_iff.mp h
  rcases v1 with n2 | w3
  · simp only [Sum.elim_inl] at h
    cases h
  simp only [Sum.elim_inr] at h
  refine Y_callV C [.int i1] [] [] hk0 rfl rfl (c_X8_requireIndex hk0 hv1) (fun _ h => h.elim) q_cw_yX8_requireIndex q_ml_RX8_81 ⟨q_im_yX8_requireIndex, q_se_yX8_requireIndex⟩ ⟨⟨Nat.le_of_ble_eq_true rfl, Nat.le_of_ble_eq_true rfl⟩, ⟨Nat.zero_le _, Nat.zero_le _⟩, Nat.le_of_ble_eq_true rfl⟩ rfl rfl rfl dX8_representative_2 ?_
  refine Y_aload_n C (pc := 5) 0 0 rfl rfl dX8_representative_5 ?_
  refine Y_getR C (pc := 6) hk0 q_fi_RX8_40 (by decide) dX8_representative_6 ?_
  refine Y_aload_n C (pc := 9) 0 0 rfl rfl dX8_representative_9 ?_
  refine Y_getR C (pc := 10) hk0 q_fi_RX8_12 (by decide) dX8_representative_10 ?_
  refine Y_aload_n C (pc := 13) 0 0 rfl rfl dX8_representative_13 ?_
  refine Y_getR C (pc := 14) hk0 q_fi_RX8_12 (by decide) dX8_representative_14 ?_
  refine Y_getR C (pc := 17) (q_kr_8_0 hk0) q_fi_RX8_184 (by decide) dX8_representative_17 ?_
  obtain ⟨v4, hv4, h⟩ := Option.bind_eq_some_iff.mp h
  refine Y_callV C [.ref (ρ (k0 + 1)), .ref (ρ ((k0 + 1) + 5))] [] [] (q_kr_8_4 hk0) rfl rfl (c_X7_load hI (q_kr_8_4 hk0) (q_kr_8_0 hk0) (q_kr_6_5 (q_kr_8_0 hk0)) hv4) (fun _ h => h) q_cw_yX7_load q_ml_RX8_224 ⟨q_im_yX7_load, q_se_yX7_load⟩ ⟨⟨Nat.le_of_ble_eq_true rfl, Nat.le_of_ble_eq_true rfl⟩, ⟨Nat.zero_le _, Nat.zero_le _⟩, Nat.le_of_ble_eq_true rfl⟩ rfl rfl rfl dX8_representative_20 ?_
  refine Y_aload_n C (pc := 23) 0 0 rfl rfl dX8_representative_23 ?_
  refine Y_getR C (pc := 24) hk0 q_fi_RX8_40 (by decide) dX8_representative_24 ?_
  refine Y_getR C (pc := 27) (q_kr_8_4 hk0) q_fi_RX8_226 (by decide) dX8_representative_27 ?_
  refine Y_iload_n C (pc := 30) 1 1 rfl rfl dX8_representative_30 ?_
  obtain ⟨v5, hv5, h⟩ := Option.bind_eq_some_iff.mp h
  refine Y_callS C [.ref (ρ ((k0 + 54) + 1)), .int i1] [] [.int v5] (c_X8_item (q_kr_7_1 (q_kr_8_4 hk0)) hv5) (fun _ h => h.elim) q_cw_yX8_item q_ml_RX8_119 q_st_yX8_item ⟨⟨Nat.le_of_ble_eq_true rfl, Nat.le_of_ble_eq_true rfl⟩, ⟨Nat.zero_le _, Nat.zero_le _⟩, Nat.le_of_ble_eq_true rfl⟩ rfl rfl rfl dX8_representative_31 ?_
  cases h
  exact Y_iret C dX8_representative_34
set_option maxRecDepth 100000 in
set_option maxHeartbeats 4000000 in
theorem t_X8_representative {l : Launch} {D : va_G} {cA ρ : Nat → Nat} {σ : Sg} {τ : Tg} {k0 : Nat} {i1 : Int32} (hI : Inj ρ) (hk0 : kd k0 = (0, 8)) {r : Nat × Sg} (h : f_X8_representative σ k0 i1 = some (.inl r)) : CtT l yX8_representative cX8_representative 2 (some .int) 7 111 D cA ρ [.ref (ρ k0), .int i1] σ τ (xn r.1) r.2 τ := by
  refine CtT_of (by decide +kernel) (Nat.le_of_ble_eq_true rfl) (fun p e s m args below meth c C X hno => ?_)
  have C : Ctx p l s m args meth c cX8_representative RX8 2 (some .int) D cA ρ (Ax ρ s.heap.size) := C
  have hW : Wr ρ (Ax ρ s.heap.size) := ⟨hI, fun k hk => Or.inl ⟨k, hk, rfl⟩⟩
  unfold f_X8_representative at h
  refine Y_sub [0, 1] (lv' := [(0, .ref (ρ k0)), (1, .int i1)]) rfl ?_
  refine Y_aload_n C (pc := 0) 0 0 rfl rfl dX8_representative_0 ?_
  refine Y_iload_n C (pc := 1) 1 1 rfl rfl dX8_representative_1 ?_
  obtain ⟨v1, hv1, h⟩ := Option.bind_eq_some_iff.mp h
  rcases v1 with n2 | w3
  · simp only [Sum.elim_inl] at h
    cases h
    exact Y_callVT C X hno (pc := 2) [.int i1] [] hk0 rfl rfl (t_X8_requireIndex hk0 hv1) q_cw_yX8_requireIndex q_ml_RX8_81 ⟨q_im_yX8_requireIndex, q_se_yX8_requireIndex⟩ ⟨⟨Nat.le_of_ble_eq_true rfl, Nat.le_of_ble_eq_true rfl⟩, ⟨Nat.le_of_ble_eq_true rfl, Nat.le_of_ble_eq_true rfl⟩, Nat.le_of_ble_eq_true rfl⟩ rfl rfl dX8_representative_2
  simp only [Sum.elim_inr] at h
  refine Y_callV C [.int i1] [] [] hk0 rfl rfl (c_X8_requireIndex hk0 hv1) (fun _ h => h.elim) q_cw_yX8_requireIndex q_ml_RX8_81 ⟨q_im_yX8_requireIndex, q_se_yX8_requireIndex⟩ ⟨⟨Nat.le_of_ble_eq_true rfl, Nat.le_of_ble_eq_true rfl⟩, ⟨Nat.zero_le _, Nat.zero_le _⟩, Nat.le_of_ble_eq_true rfl⟩ rfl rfl rfl dX8_representative_2 ?_
  refine Y_aload_n C (pc := 5) 0 0 rfl rfl dX8_representative_5 ?_
  refine Y_getR C (pc := 6) hk0 q_fi_RX8_40 (by decide) dX8_representative_6 ?_
  refine Y_aload_n C (pc := 9) 0 0 rfl rfl dX8_representative_9 ?_
  refine Y_getR C (pc := 10) hk0 q_fi_RX8_12 (by decide) dX8_representative_10 ?_
  refine Y_aload_n C (pc := 13) 0 0 rfl rfl dX8_representative_13 ?_
  refine Y_getR C (pc := 14) hk0 q_fi_RX8_12 (by decide) dX8_representative_14 ?_
  refine Y_getR C (pc := 17) (q_kr_8_0 hk0) q_fi_RX8_184 (by decide) dX8_representative_17 ?_
  obtain ⟨v4, hv4, h⟩ := Option.bind_eq_some_iff.mp h
  refine Y_callV C [.ref (ρ (k0 + 1)), .ref (ρ ((k0 + 1) + 5))] [] [] (q_kr_8_4 hk0) rfl rfl (c_X7_load hI (q_kr_8_4 hk0) (q_kr_8_0 hk0) (q_kr_6_5 (q_kr_8_0 hk0)) hv4) (fun _ h => Or.inl h) q_cw_yX7_load q_ml_RX8_224 ⟨q_im_yX7_load, q_se_yX7_load⟩ ⟨⟨Nat.le_of_ble_eq_true rfl, Nat.le_of_ble_eq_true rfl⟩, ⟨Nat.zero_le _, Nat.zero_le _⟩, Nat.le_of_ble_eq_true rfl⟩ rfl rfl rfl dX8_representative_20 ?_
  refine Y_aload_n C (pc := 23) 0 0 rfl rfl dX8_representative_23 ?_
  refine Y_getR C (pc := 24) hk0 q_fi_RX8_40 (by decide) dX8_representative_24 ?_
  refine Y_getR C (pc := 27) (q_kr_8_4 hk0) q_fi_RX8_226 (by decide) dX8_representative_27 ?_
  refine Y_iload_n C (pc := 30) 1 1 rfl rfl dX8_representative_30 ?_
  obtain ⟨v5, hv5, h⟩ := Option.bind_eq_some_iff.mp h
  refine Y_callS C [.ref (ρ ((k0 + 54) + 1)), .int i1] [] [.int v5] (c_X8_item (q_kr_7_1 (q_kr_8_4 hk0)) hv5) (fun _ h => h.elim) q_cw_yX8_item q_ml_RX8_119 q_st_yX8_item ⟨⟨Nat.le_of_ble_eq_true rfl, Nat.le_of_ble_eq_true rfl⟩, ⟨Nat.zero_le _, Nat.zero_le _⟩, Nat.le_of_ble_eq_true rfl⟩ rfl rfl rfl dX8_representative_31 ?_
  cases h

set_option maxRecDepth 100000 in
set_option maxHeartbeats 4000000 in
theorem c_X8_search {l : Launch} {D : va_G} {cA ρ : Nat → Nat} {σ : Sg} {τ : Tg} {k0 : Nat} {i1 : Int32} {i2 : Int32} (hI : Inj ρ) (hk0 : kd k0 = (0, 8)) {r : Int32 × Sg × Tg} (h : f_X8_search σ τ k0 i1 i2 = some r) : Ct l yX8_search cX8_search 3 (some .int) 6 148 D cA ρ (Aw ρ) [.ref (ρ k0), .int i1, .int i2] σ τ (some (.int r.1)) r.2.1 r.2.2 := by
  refine Ct_of (by decide +kernel) (Nat.le_of_ble_eq_true rfl) (fun p e s m args below meth c C => ?_)
  have C : Ctx p l s m args meth c cX8_search RX8 3 (some .int) D cA ρ (Aw ρ) := C
  have hW : Wr ρ (Aw ρ) := ⟨hI, fun k hk => ⟨k, hk, rfl⟩⟩
  unfold f_X8_search at h
  refine Y_sub [0, 1, 2] (lv' := [(0, .ref (ρ k0)), (1, .int i1), (2, .int i2)]) rfl ?_
  refine Y_aload_n C (pc := 0) 0 0 rfl rfl dX8_search_0 ?_
  refine Y_getR C (pc := 1) hk0 q_fi_RX8_47 (by decide) dX8_search_1 ?_
  refine Y_aload_n C (pc := 4) 0 0 rfl rfl dX8_search_4 ?_
  refine Y_getR C (pc := 5) hk0 q_fi_RX8_12 (by decide) dX8_search_5 ?_
  refine Y_iload_n C (pc := 8) 1 1 rfl rfl dX8_search_8 ?_
  refine Y_iload_n C (pc := 9) 2 2 rfl rfl dX8_search_9 ?_
  obtain ⟨v1, hv1, h⟩ := Option.bind_eq_some_iff.mp h
  refine Y_callV C [.ref (ρ (k0 + 1)), .int i1, .int i2] [] [] (q_kr_8_5 hk0) rfl rfl (c_X5_make hI (q_kr_8_5 hk0) (q_kr_8_0 hk0) hv1) (fun _ h => h) q_cw_yX5_make q_ml_RX8_228 ⟨q_im_yX5_make, q_se_yX5_make⟩ ⟨⟨Nat.le_of_ble_eq_true rfl, Nat.le_of_ble_eq_true rfl⟩, ⟨Nat.zero_le _, Nat.zero_le _⟩, Nat.le_of_ble_eq_true rfl⟩ rfl rfl rfl dX8_search_10 ?_
  refine Y_aload_n C (pc := 13) 0 0 rfl rfl dX8_search_13 ?_
  refine Y_getR C (pc := 14) hk0 q_fi_RX8_47 (by decide) dX8_search_14 ?_
  refine Y_getI C (pc := 17) (q_kr_8_5 hk0) q_fi_RX8_232 dX8_search_17 ?_
  cases h
  exact Y_iret C dX8_search_20

set_option maxRecDepth 100000 in
set_option maxHeartbeats 4000000 in
theorem c_X8_found {l : Launch} {D : va_G} {cA ρ : Nat → Nat} {σ : Sg} {τ : Tg} {k0 : Nat} {i1 : Int32} (hk0 : kd k0 = (0, 8)) {r : Int32} (h : f_X8_found σ k0 i1 = some (.inr r)) : Ct l yX8_found cX8_found 2 (some .int) 1 21 D cA ρ A0 [.ref (ρ k0), .int i1] σ τ (some (.int r)) σ τ := by
  refine Ct_of (by decide +kernel) (Nat.le_of_ble_eq_true rfl) (fun p e s m args below meth c C => ?_)
  have C : Ctx p l s m args meth c cX8_found RX8 2 (some .int) D cA ρ A0 := C
  unfold f_X8_found at h
  refine Y_sub [0, 1] (lv' := [(0, .ref (ρ k0)), (1, .int i1)]) rfl ?_
  refine Y_iload_n C (pc := 0) 1 1 rfl rfl dX8_found_0 ?_
  refine Y_if_lt C (pc := 1) (tgt := 10) dX8_found_1 (by decide) (fun c3 => ?_) (fun c3 => ?_)
  · rw [if_pos c3] at h
    cases h
  · rw [if_neg c3] at h
    refine Y_iload_n C (pc := 4) 1 1 rfl rfl dX8_found_4 ?_
    refine Y_bipush C (pc := 5) (v := (7 : Int32)) (by decide) dX8_found_5 ?_
    refine Y_icmp_lt C (pc := 7) (tgt := 20) dX8_found_7 (by decide) (fun c2 => ?_) (fun c2 => ?_)
    · rw [if_pos c2] at h
      refine Y_aload_n C (pc := 20) 0 0 rfl rfl dX8_found_20 ?_
      refine Y_getR C (pc := 21) hk0 q_fi_RX8_47 (by decide) dX8_found_21 ?_
      refine Y_iload_n C (pc := 24) 1 1 rfl rfl dX8_found_24 ?_
      obtain ⟨v1, hv1, h⟩ := Option.bind_eq_some_iff.mp h
      refine Y_callV C [.int i1] [] [.int v1] (q_kr_8_5 hk0) rfl rfl (c_X5_result (q_kr_8_5 hk0) hv1) (fun _ h => h.elim) q_cw_yX5_result q_ml_RX8_237 ⟨q_im_yX5_result, q_se_yX5_result⟩ ⟨⟨Nat.le_of_ble_eq_true rfl, Nat.le_of_ble_eq_true rfl⟩, ⟨Nat.zero_le _, Nat.zero_le _⟩, Nat.le_of_ble_eq_true rfl⟩ rfl rfl rfl dX8_found_25 ?_
      cases h
      exact Y_iret C dX8_found_28
    · rw [if_neg c2] at h
      cases h
set_option maxRecDepth 100000 in
set_option maxHeartbeats 4000000 in
theorem t_X8_found {l : Launch} {D : va_G} {cA ρ : Nat → Nat} {σ : Sg} {τ : Tg} {k0 : Nat} {i1 : Int32} (hk0 : kd k0 = (0, 8)) {r : Nat} (h : f_X8_found σ k0 i1 = some (.inl r)) : CtT l yX8_found cX8_found 2 (some .int) 6 90 D cA ρ [.ref (ρ k0), .int i1] σ τ (xn r) σ τ := by
  refine CtT_of (by decide +kernel) (Nat.le_of_ble_eq_true rfl) (fun p e s m args below meth c C X hno => ?_)
  have C : Ctx p l s m args meth c cX8_found RX8 2 (some .int) D cA ρ (Ax ρ s.heap.size) := C
  unfold f_X8_found at h
  refine Y_sub [0, 1] (lv' := [(0, .ref (ρ k0)), (1, .int i1)]) rfl ?_
  refine Y_iload_n C (pc := 0) 1 1 rfl rfl dX8_found_0 ?_
  refine Y_if_lt C (pc := 1) (tgt := 10) dX8_found_1 (by decide) (fun c3 => ?_) (fun c3 => ?_)
  · rw [if_pos c3] at h
    cases h
    exact Y_throw (σ0 := σ) (τ0 := τ) (E := "java/lang/IllegalArgumentException") (pc := 10) C X hno (by decide +kernel) q_cl_RX8_62 q_ix_0 q_sr_RX8_235 q_at_RX8_66 dX8_found_10 dX8_found_13 dX8_found_14 dX8_found_16 dX8_found_19 ⟨Nat.le_of_ble_eq_true rfl, Nat.le_of_ble_eq_true rfl, Nat.le_of_ble_eq_true rfl, Nat.le_of_ble_eq_true rfl⟩ (fun _ h => Or.inr h)
  · rw [if_neg c3] at h
    refine Y_iload_n C (pc := 4) 1 1 rfl rfl dX8_found_4 ?_
    refine Y_bipush C (pc := 5) (v := (7 : Int32)) (by decide) dX8_found_5 ?_
    refine Y_icmp_lt C (pc := 7) (tgt := 20) dX8_found_7 (by decide) (fun c2 => ?_) (fun c2 => ?_)
    · rw [if_pos c2] at h
      refine Y_aload_n C (pc := 20) 0 0 rfl rfl dX8_found_20 ?_
      refine Y_getR C (pc := 21) hk0 q_fi_RX8_47 (by decide) dX8_found_21 ?_
      refine Y_iload_n C (pc := 24) 1 1 rfl rfl dX8_found_24 ?_
      obtain ⟨v1, hv1, h⟩ := Option.bind_eq_some_iff.mp h
      refine Y_callV C [.int i1] [] [.int v1] (q_kr_8_5 hk0) rfl rfl (c_X5_result (q_kr_8_5 hk0) hv1) (fun _ h => h.elim) q_cw_yX5_result q_ml_RX8_237 ⟨q_im_yX5_result, q_se_yX5_result⟩ ⟨⟨Nat.le_of_ble_eq_true rfl, Nat.le_of_ble_eq_true rfl⟩, ⟨Nat.zero_le _, Nat.zero_le _⟩, Nat.le_of_ble_eq_true rfl⟩ rfl rfl rfl dX8_found_25 ?_
      cases h
    · rw [if_neg c2] at h
      cases h
      exact Y_throw (σ0 := σ) (τ0 := τ) (E := "java/lang/IllegalArgumentException") (pc := 10) C X hno (by decide +kernel) q_cl_RX8_62 q_ix_0 q_sr_RX8_235 q_at_RX8_66 dX8_found_10 dX8_found_13 dX8_found_14 dX8_found_16 dX8_found_19 ⟨Nat.le_of_ble_eq_true rfl, Nat.le_of_ble_eq_true rfl, Nat.le_of_ble_eq_true rfl, Nat.le_of_ble_eq_true rfl⟩ (fun _ h => Or.inr h)

set_option maxRecDepth 100000 in
set_option maxHeartbeats 4000000 in
theorem c_X8_nodes {l : Launch} {D : va_G} {cA ρ : Nat → Nat} {σ : Sg} {τ : Tg} {k0 : Nat} {i1 : Int32} (hk0 : kd k0 = (0, 8)) {r : Int32} (h : f_X8_nodes σ k0 i1 = some (.inr r)) : Ct l yX8_nodes cX8_nodes 2 (some .int) 1 21 D cA ρ A0 [.ref (ρ k0), .int i1] σ τ (some (.int r)) σ τ := by
  refine Ct_of (by decide +kernel) (Nat.le_of_ble_eq_true rfl) (fun p e s m args below meth c C => ?_)
  have C : Ctx p l s m args meth c cX8_nodes RX8 2 (some .int) D cA ρ A0 := C
  unfold f_X8_nodes at h
  refine Y_sub [0, 1] (lv' := [(0, .ref (ρ k0)), (1, .int i1)]) rfl ?_
  refine Y_iload_n C (pc := 0) 1 1 rfl rfl dX8_nodes_0 ?_
  refine Y_if_lt C (pc := 1) (tgt := 10) dX8_nodes_1 (by decide) (fun c4 => ?_) (fun c4 => ?_)
  · rw [if_pos c4] at h
    cases h
  · rw [if_neg c4] at h
    refine Y_iload_n C (pc := 4) 1 1 rfl rfl dX8_nodes_4 ?_
    refine Y_bipush C (pc := 5) (v := (6 : Int32)) (by decide) dX8_nodes_5 ?_
    refine Y_icmp_le C (pc := 7) (tgt := 20) dX8_nodes_7 (by decide) (fun c3 => ?_) (fun c3 => ?_)
    · rw [if_pos c3] at h
      refine Y_aload_n C (pc := 20) 0 0 rfl rfl dX8_nodes_20 ?_
      refine Y_getR C (pc := 21) hk0 q_fi_RX8_47 (by decide) dX8_nodes_21 ?_
      refine Y_getI C (pc := 24) (q_kr_8_5 hk0) q_fi_RX8_242 dX8_nodes_24 ?_
      refine Y_if_eq C (pc := 27) (tgt := 44) dX8_nodes_27 (by decide) (fun c2 => ?_) (fun c2 => ?_)
      · rw [if_pos c2] at h
        refine Y_iconst C (pc := 44) (v := (-1 : Int32)) (by decide) dX8_nodes_44 ?_
        cases h
        exact Y_iret C dX8_nodes_45
      · rw [if_neg c2] at h
        refine Y_aload_n C (pc := 30) 0 0 rfl rfl dX8_nodes_30 ?_
        refine Y_getR C (pc := 31) hk0 q_fi_RX8_47 (by decide) dX8_nodes_31 ?_
        refine Y_getR C (pc := 34) (q_kr_8_5 hk0) q_fi_RX8_246 (by decide) dX8_nodes_34 ?_
        refine Y_iload_n C (pc := 37) 1 1 rfl rfl dX8_nodes_37 ?_
        obtain ⟨v1, hv1, h⟩ := Option.bind_eq_some_iff.mp h
        refine Y_callS C [.ref (ρ ((k0 + 57) + 1)), .int i1] [] [.int v1] (c_X8_item (q_kr_5_2 (q_kr_8_5 hk0)) hv1) (fun _ h => h.elim) q_cw_yX8_item q_ml_RX8_119 q_st_yX8_item ⟨⟨Nat.le_of_ble_eq_true rfl, Nat.le_of_ble_eq_true rfl⟩, ⟨Nat.zero_le _, Nat.zero_le _⟩, Nat.le_of_ble_eq_true rfl⟩ rfl rfl rfl dX8_nodes_38 ?_
        refine Y_goto C (pc := 41) (tgt := 45) dX8_nodes_41 (by decide) ?_
        cases h
        exact Y_iret C dX8_nodes_45
    · rw [if_neg c3] at h
      cases h
set_option maxRecDepth 100000 in
set_option maxHeartbeats 4000000 in
theorem t_X8_nodes {l : Launch} {D : va_G} {cA ρ : Nat → Nat} {σ : Sg} {τ : Tg} {k0 : Nat} {i1 : Int32} (hk0 : kd k0 = (0, 8)) {r : Nat} (h : f_X8_nodes σ k0 i1 = some (.inl r)) : CtT l yX8_nodes cX8_nodes 2 (some .int) 6 90 D cA ρ [.ref (ρ k0), .int i1] σ τ (xn r) σ τ := by
  refine CtT_of (by decide +kernel) (Nat.le_of_ble_eq_true rfl) (fun p e s m args below meth c C X hno => ?_)
  have C : Ctx p l s m args meth c cX8_nodes RX8 2 (some .int) D cA ρ (Ax ρ s.heap.size) := C
  unfold f_X8_nodes at h
  refine Y_sub [0, 1] (lv' := [(0, .ref (ρ k0)), (1, .int i1)]) rfl ?_
  refine Y_iload_n C (pc := 0) 1 1 rfl rfl dX8_nodes_0 ?_
  refine Y_if_lt C (pc := 1) (tgt := 10) dX8_nodes_1 (by decide) (fun c4 => ?_) (fun c4 => ?_)
  · rw [if_pos c4] at h
    cases h
    exact Y_throw (σ0 := σ) (τ0 := τ) (E := "java/lang/IllegalArgumentException") (pc := 10) C X hno (by decide +kernel) q_cl_RX8_62 q_ix_0 q_sr_RX8_240 q_at_RX8_66 dX8_nodes_10 dX8_nodes_13 dX8_nodes_14 dX8_nodes_16 dX8_nodes_19 ⟨Nat.le_of_ble_eq_true rfl, Nat.le_of_ble_eq_true rfl, Nat.le_of_ble_eq_true rfl, Nat.le_of_ble_eq_true rfl⟩ (fun _ h => Or.inr h)
  · rw [if_neg c4] at h
    refine Y_iload_n C (pc := 4) 1 1 rfl rfl dX8_nodes_4 ?_
    refine Y_bipush C (pc := 5) (v := (6 : Int32)) (by decide) dX8_nodes_5 ?_
    refine Y_icmp_le C (pc := 7) (tgt := 20) dX8_nodes_7 (by decide) (fun c3 => ?_) (fun c3 => ?_)
    · rw [if_pos c3] at h
      refine Y_aload_n C (pc := 20) 0 0 rfl rfl dX8_nodes_20 ?_
      refine Y_getR C (pc := 21) hk0 q_fi_RX8_47 (by decide) dX8_nodes_21 ?_
      refine Y_getI C (pc := 24) (q_kr_8_5 hk0) q_fi_RX8_242 dX8_nodes_24 ?_
      refine Y_if_eq C (pc := 27) (tgt := 44) dX8_nodes_27 (by decide) (fun c2 => ?_) (fun c2 => ?_)
      · rw [if_pos c2] at h
        refine Y_iconst C (pc := 44) (v := (-1 : Int32)) (by decide) dX8_nodes_44 ?_
        cases h
      · rw [if_neg c2] at h
        refine Y_aload_n C (pc := 30) 0 0 rfl rfl dX8_nodes_30 ?_
        refine Y_getR C (pc := 31) hk0 q_fi_RX8_47 (by decide) dX8_nodes_31 ?_
        refine Y_getR C (pc := 34) (q_kr_8_5 hk0) q_fi_RX8_246 (by decide) dX8_nodes_34 ?_
        refine Y_iload_n C (pc := 37) 1 1 rfl rfl dX8_nodes_37 ?_
        obtain ⟨v1, hv1, h⟩ := Option.bind_eq_some_iff.mp h
        refine Y_callS C [.ref (ρ ((k0 + 57) + 1)), .int i1] [] [.int v1] (c_X8_item (q_kr_5_2 (q_kr_8_5 hk0)) hv1) (fun _ h => h.elim) q_cw_yX8_item q_ml_RX8_119 q_st_yX8_item ⟨⟨Nat.le_of_ble_eq_true rfl, Nat.le_of_ble_eq_true rfl⟩, ⟨Nat.zero_le _, Nat.zero_le _⟩, Nat.le_of_ble_eq_true rfl⟩ rfl rfl rfl dX8_nodes_38 ?_
        refine Y_goto C (pc := 41) (tgt := 45) dX8_nodes_41 (by decide) ?_
        cases h
    · rw [if_neg c3] at h
      cases h
      exact Y_throw (σ0 := σ) (τ0 := τ) (E := "java/lang/IllegalArgumentException") (pc := 10) C X hno (by decide +kernel) q_cl_RX8_62 q_ix_0 q_sr_RX8_240 q_at_RX8_66 dX8_nodes_10 dX8_nodes_13 dX8_nodes_14 dX8_nodes_16 dX8_nodes_19 ⟨Nat.le_of_ble_eq_true rfl, Nat.le_of_ble_eq_true rfl, Nat.le_of_ble_eq_true rfl, Nat.le_of_ble_eq_true rfl⟩ (fun _ h => Or.inr h)

set_option maxRecDepth 100000 in
set_option maxHeartbeats 4000000 in
theorem c_X8_type {l : Launch} {D : va_G} {cA ρ : Nat → Nat} {σ : Sg} {τ : Tg} {k0 : Nat} {i1 : Int32} (hI : Inj ρ) (hk0 : kd k0 = (0, 8)) {r : Int32 × Sg} (h : f_X8_type σ k0 i1 = some (.inr r)) : Ct l yX8_type cX8_type 2 (some .int) 1 21 D cA ρ (Aw ρ) [.ref (ρ k0), .int i1] σ τ (some (.int r.1)) r.2 τ := by
  refine Ct_of (by decide +kernel) (Nat.le_of_ble_eq_true rfl) (fun p e s m args below meth c C => ?_)
  have C : Ctx p l s m args meth c cX8_type RX8 2 (some .int) D cA ρ (Aw ρ) := C
  have hW : Wr ρ (Aw ρ) := ⟨hI, fun k hk => ⟨k, hk, rfl⟩⟩
  unfold f_X8_type at h
  refine Y_sub [0, 1] (lv' := [(0, .ref (ρ k0)), (1, .int i1)]) rfl ?_
  refine Y_iload_n C (pc := 0) 1 1 rfl rfl dX8_type_0 ?_
  refine Y_bipush C (pc := 1) (v := (32 : Int32)) (by decide) dX8_type_1 ?_
  refine Y_icmp_lt C (pc := 3) (tgt := 12) dX8_type_3 (by decide) (fun c4 => ?_) (fun c4 => ?_)
  · rw [if_pos c4] at h
    cases h
  · rw [if_neg c4] at h
    refine Y_iload_n C (pc := 6) 1 1 rfl rfl dX8_type_6 ?_
    refine Y_bipush C (pc := 7) (v := (126 : Int32)) (by decide) dX8_type_7 ?_
    refine Y_icmp_le C (pc := 9) (tgt := 22) dX8_type_9 (by decide) (fun c3 => ?_) (fun c3 => ?_)
    · rw [if_pos c3] at h
      refine Y_aload_n C (pc := 22) 0 0 rfl rfl dX8_type_22 ?_
      refine Y_getR C (pc := 23) hk0 q_fi_RX8_54 (by decide) dX8_type_23 ?_
      refine Y_getI C (pc := 26) (q_kr_8_6 hk0) q_fi_RX8_251 dX8_type_26 ?_
      refine Y_bipush C (pc := 29) (v := (120 : Int32)) (by decide) dX8_type_29 ?_
      refine Y_icmp_lt C (pc := 31) (tgt := 44) dX8_type_31 (by decide) (fun c2 => ?_) (fun c2 => ?_)
      · rw [if_pos c2] at h
        refine Y_aload_n C (pc := 44) 0 0 rfl rfl dX8_type_44 ?_
        refine Y_getR C (pc := 45) hk0 q_fi_RX8_54 (by decide) dX8_type_45 ?_
        refine Y_iload_n C (pc := 48) 1 1 rfl rfl dX8_type_48 ?_
        refine Y_i2c C (pc := 49) dX8_type_49 ?_
        obtain ⟨v1, hv1, h⟩ := Option.bind_eq_some_iff.mp h
        refine Y_callV C [.int (Int32.toUInt32 i1 % 65536).toInt32] [] [] (q_kr_8_6 hk0) rfl rfl (c_X4_append hI (q_kr_8_6 hk0) hv1) (fun _ h => h) q_cw_yX4_append q_ml_RX8_256 ⟨q_im_yX4_append, q_se_yX4_append⟩ ⟨⟨Nat.le_of_ble_eq_true rfl, Nat.le_of_ble_eq_true rfl⟩, ⟨Nat.zero_le _, Nat.zero_le _⟩, Nat.le_of_ble_eq_true rfl⟩ rfl rfl rfl dX8_type_50 ?_
        refine Y_aload_n C (pc := 53) 0 0 rfl rfl dX8_type_53 ?_
        refine Y_getR C (pc := 54) hk0 q_fi_RX8_54 (by decide) dX8_type_54 ?_
        refine Y_getI C (pc := 57) (q_kr_8_6 hk0) q_fi_RX8_251 dX8_type_57 ?_
        cases h
        exact Y_iret C dX8_type_60
      · rw [if_neg c2] at h
        cases h
    · rw [if_neg c3] at h
      cases h
set_option maxRecDepth 100000 in
set_option maxHeartbeats 4000000 in
theorem t_X8_type {l : Launch} {D : va_G} {cA ρ : Nat → Nat} {σ : Sg} {τ : Tg} {k0 : Nat} {i1 : Int32} (hI : Inj ρ) (hk0 : kd k0 = (0, 8)) {r : Nat × Sg} (h : f_X8_type σ k0 i1 = some (.inl r)) : CtT l yX8_type cX8_type 2 (some .int) 6 90 D cA ρ [.ref (ρ k0), .int i1] σ τ (xn r.1) r.2 τ := by
  refine CtT_of (by decide +kernel) (Nat.le_of_ble_eq_true rfl) (fun p e s m args below meth c C X hno => ?_)
  have C : Ctx p l s m args meth c cX8_type RX8 2 (some .int) D cA ρ (Ax ρ s.heap.size) := C
  have hW : Wr ρ (Ax ρ s.heap.size) := ⟨hI, fun k hk => Or.inl ⟨k, hk, rfl⟩⟩
  unfold f_X8_type at h
  refine Y_sub [0, 1] (lv' := [(0, .ref (ρ k0)), (1, .int i1)]) rfl ?_
  refine Y_iload_n C (pc := 0) 1 1 rfl rfl dX8_type_0 ?_
  refine Y_bipush C (pc := 1) (v := (32 : Int32)) (by decide) dX8_type_1 ?_
  refine Y_icmp_lt C (pc := 3) (tgt := 12) dX8_type_3 (by decide) (fun c4 => ?_) (fun c4 => ?_)
  · rw [if_pos c4] at h
    cases h
    exact Y_throw (σ0 := σ) (τ0 := τ) (E := "java/lang/IllegalArgumentException") (pc := 12) C X hno (by decide +kernel) q_cl_RX8_62 q_ix_0 q_sr_RX8_249 q_at_RX8_66 dX8_type_12 dX8_type_15 dX8_type_16 dX8_type_18 dX8_type_21 ⟨Nat.le_of_ble_eq_true rfl, Nat.le_of_ble_eq_true rfl, Nat.le_of_ble_eq_true rfl, Nat.le_of_ble_eq_true rfl⟩ (fun _ h => Or.inr h)
  · rw [if_neg c4] at h
    refine Y_iload_n C (pc := 6) 1 1 rfl rfl dX8_type_6 ?_
    refine Y_bipush C (pc := 7) (v := (126 : Int32)) (by decide) dX8_type_7 ?_
    refine Y_icmp_le C (pc := 9) (tgt := 22) dX8_type_9 (by decide) (fun c3 => ?_) (fun c3 => ?_)
    · rw [if_pos c3] at h
      refine Y_aload_n C (pc := 22) 0 0 rfl rfl dX8_type_22 ?_
      refine Y_getR C (pc := 23) hk0 q_fi_RX8_54 (by decide) dX8_type_23 ?_
      refine Y_getI C (pc := 26) (q_kr_8_6 hk0) q_fi_RX8_251 dX8_type_26 ?_
      refine Y_bipush C (pc := 29) (v := (120 : Int32)) (by decide) dX8_type_29 ?_
      refine Y_icmp_lt C (pc := 31) (tgt := 44) dX8_type_31 (by decide) (fun c2 => ?_) (fun c2 => ?_)
      · rw [if_pos c2] at h
        refine Y_aload_n C (pc := 44) 0 0 rfl rfl dX8_type_44 ?_
        refine Y_getR C (pc := 45) hk0 q_fi_RX8_54 (by decide) dX8_type_45 ?_
        refine Y_iload_n C (pc := 48) 1 1 rfl rfl dX8_type_48 ?_
        refine Y_i2c C (pc := 49) dX8_type_49 ?_
        obtain ⟨v1, hv1, h⟩ := Option.bind_eq_some_iff.mp h
        refine Y_callV C [.int (Int32.toUInt32 i1 % 65536).toInt32] [] [] (q_kr_8_6 hk0) rfl rfl (c_X4_append hI (q_kr_8_6 hk0) hv1) (fun _ h => Or.inl h) q_cw_yX4_append q_ml_RX8_256 ⟨q_im_yX4_append, q_se_yX4_append⟩ ⟨⟨Nat.le_of_ble_eq_true rfl, Nat.le_of_ble_eq_true rfl⟩, ⟨Nat.zero_le _, Nat.zero_le _⟩, Nat.le_of_ble_eq_true rfl⟩ rfl rfl rfl dX8_type_50 ?_
        refine Y_aload_n C (pc := 53) 0 0 rfl rfl dX8_type_53 ?_
        refine Y_getR C (pc := 54) hk0 q_fi_RX8_54 (by decide) dX8_type_54 ?_
        refine Y_getI C (pc := 57) (q_kr_8_6 hk0) q_fi_RX8_251 dX8_type_57 ?_
        cases h
      · rw [if_neg c2] at h
        cases h
        exact Y_throw (σ0 := σ) (τ0 := τ) (E := "java/lang/IllegalStateException") (pc := 34) C X hno (by decide +kernel) q_cl_RX8_193 q_ix_1 q_sr_RX8_254 q_at_RX8_197 dX8_type_34 dX8_type_37 dX8_type_38 dX8_type_40 dX8_type_43 ⟨Nat.le_of_ble_eq_true rfl, Nat.le_of_ble_eq_true rfl, Nat.le_of_ble_eq_true rfl, Nat.le_of_ble_eq_true rfl⟩ (fun _ h => Or.inr h)
    · rw [if_neg c3] at h
      cases h
      exact Y_throw (σ0 := σ) (τ0 := τ) (E := "java/lang/IllegalArgumentException") (pc := 12) C X hno (by decide +kernel) q_cl_RX8_62 q_ix_0 q_sr_RX8_249 q_at_RX8_66 dX8_type_12 dX8_type_15 dX8_type_16 dX8_type_18 dX8_type_21 ⟨Nat.le_of_ble_eq_true rfl, Nat.le_of_ble_eq_true rfl, Nat.le_of_ble_eq_true rfl, Nat.le_of_ble_eq_true rfl⟩ (fun _ h => Or.inr h)

set_option maxRecDepth 100000 in
set_option maxHeartbeats 4000000 in
theorem c_X8_clearText {l : Launch} {D : va_G} {cA ρ : Nat → Nat} {σ : Sg} {τ : Tg} {k0 : Nat} (hI : Inj ρ) (hk0 : kd k0 = (0, 8)) {r : Int32 × Sg} (h : f_X8_clearText σ k0 = some r) : Ct l yX8_clearText cX8_clearText 2 (some .int) 0 0 D cA ρ (Aw ρ) [.ref (ρ k0)] σ τ (some (.int r.1)) r.2 τ := by
  refine Ct_of (by decide +kernel) (Nat.le_of_ble_eq_true rfl) (fun p e s m args below meth c C => ?_)
  have C : Ctx p l s m args meth c cX8_clearText RX8 2 (some .int) D cA ρ (Aw ρ) := C
  have hW : Wr ρ (Aw ρ) := ⟨hI, fun k hk => ⟨k, hk, rfl⟩⟩
  unfold f_X8_clearText at h
  refine Y_sub [0] (lv' := [(0, .ref (ρ k0))]) rfl ?_
  refine Y_aload_n C (pc := 0) 0 0 rfl rfl dX8_clearText_0 ?_
  refine Y_getR C (pc := 1) hk0 q_fi_RX8_54 (by decide) dX8_clearText_1 ?_
  refine Y_getI C (pc := 4) (q_kr_8_6 hk0) q_fi_RX8_251 dX8_clearText_4 ?_
  refine Y_istore_n C (pc := 7) (lv' := [(1, .int (σ (k0 + 72) 0)), (0, .ref (ρ k0))]) 1 rfl (by decide) rfl dX8_clearText_7 ?_
  refine Y_aload_n C (pc := 8) 0 1 rfl rfl dX8_clearText_8 ?_
  refine Y_getR C (pc := 9) hk0 q_fi_RX8_54 (by decide) dX8_clearText_9 ?_
  refine Y_iconst C (pc := 12) (v := (0 : Int32)) (by decide) dX8_clearText_12 ?_
  refine Y_putI C (pc := 13) hW (q_kr_8_6 hk0) (q_lr_8_6 hk0) q_fp_RX8_251 dX8_clearText_13 ?_
  refine Y_iload_n C (pc := 16) 1 0 rfl rfl dX8_clearText_16 ?_
  cases h
  exact Y_iret C dX8_clearText_17

set_option maxRecDepth 100000 in
set_option maxHeartbeats 4000000 in
theorem c_X8_fault {l : Launch} {D : va_G} {cA ρ : Nat → Nat} {σ : Sg} {τ : Tg} {k0 : Nat} (hI : Inj ρ) (hk0 : kd k0 = (0, 8)) {r : Int32 × Sg} (h : f_X8_fault σ k0 = some r) : Ct l yX8_fault cX8_fault 1 (some .int) 6 122 D cA ρ (Aw ρ) [.ref (ρ k0)] σ τ (some (.int r.1)) r.2 τ := by
  refine Ct_of (by decide +kernel) (Nat.le_of_ble_eq_true rfl) (fun p e s m args below meth c C => ?_)
  have C : Ctx p l s m args meth c cX8_fault RX8 1 (some .int) D cA ρ (Aw ρ) := C
  have hW : Wr ρ (Aw ρ) := ⟨hI, fun k hk => ⟨k, hk, rfl⟩⟩
  unfold f_X8_fault at h
  refine Y_sub [0] (lv' := [(0, .ref (ρ k0))]) rfl ?_
  refine Y_aload_n C (pc := 0) 0 0 rfl rfl dX8_fault_0 ?_
  refine Y_getR C (pc := 1) hk0 q_fi_RX8_54 (by decide) dX8_fault_1 ?_
  obtain ⟨v1, hv1, h⟩ := Option.bind_eq_some_iff.mp h
  refine Y_callV C [] [] [.int v1.1] (q_kr_8_6 hk0) rfl rfl (c_X4_firstFault hI (q_kr_8_6 hk0) hv1) (fun _ h => h) q_cw_yX4_firstFault q_ml_RX8_260 ⟨q_im_yX4_firstFault, q_se_yX4_firstFault⟩ ⟨⟨Nat.le_of_ble_eq_true rfl, Nat.le_of_ble_eq_true rfl⟩, ⟨Nat.zero_le _, Nat.zero_le _⟩, Nat.le_of_ble_eq_true rfl⟩ rfl rfl rfl dX8_fault_4 ?_
  cases h
  exact Y_iret C dX8_fault_7

set_option maxRecDepth 100000 in
set_option maxHeartbeats 4000000 in
theorem c_X8_run {l : Launch} {D : va_G} {cA ρ : Nat → Nat} {σ : Sg} {τ : Tg} {k0 : Nat} (hI : Inj ρ) (hk0 : kd k0 = (0, 8)) {r : Int32 × Sg} (h : f_X8_run σ k0 = some (.inr r)) : Ct l yX8_run cX8_run 3 (some .int) 6 122 D cA ρ (Aw ρ) [.ref (ρ k0)] σ τ (some (.int r.1)) r.2 τ := by
  refine Ct_of (by decide +kernel) (Nat.le_of_ble_eq_true rfl) (fun p e s m args below meth c C => ?_)
  have C : Ctx p l s m args meth c cX8_run RX8 3 (some .int) D cA ρ (Aw ρ) := C
  have hW : Wr ρ (Aw ρ) := ⟨hI, fun k hk => ⟨k, hk, rfl⟩⟩
  unfold f_X8_run at h
  refine Y_sub [0] (lv' := [(0, .ref (ρ k0))]) rfl ?_
  refine Y_aload_n C (pc := 0) 0 0 rfl rfl dX8_run_0 ?_
  refine Y_getR C (pc := 1) hk0 q_fi_RX8_54 (by decide) dX8_run_1 ?_
  obtain ⟨v1, hv1, h⟩ := Option.bind_eq_some_iff.mp h
  refine Y_callV C [] [] [.int v1.1] (q_kr_8_6 hk0) rfl rfl (c_X4_firstFault hI (q_kr_8_6 hk0) hv1) (fun _ h => h) q_cw_yX4_firstFault q_ml_RX8_260 ⟨q_im_yX4_firstFault, q_se_yX4_firstFault⟩ ⟨⟨Nat.le_of_ble_eq_true rfl, Nat.le_of_ble_eq_true rfl⟩, ⟨Nat.zero_le _, Nat.zero_le _⟩, Nat.le_of_ble_eq_true rfl⟩ rfl rfl rfl dX8_run_4 ?_
  refine Y_iconst C (pc := 7) (v := (-1 : Int32)) (by decide) dX8_run_7 ?_
  refine Y_icmp_eq C (pc := 8) (tgt := 22) dX8_run_8 (by decide) (fun c16 => ?_) (fun c16 => ?_)
  · rw [if_pos c16] at h
    refine Y_aload_n C (pc := 22) 0 0 rfl rfl dX8_run_22 ?_
    refine Y_getR C (pc := 23) hk0 q_fi_RX8_19 (by decide) dX8_run_23 ?_
    refine Y_aload_n C (pc := 26) 0 0 rfl rfl dX8_run_26 ?_
    refine Y_getR C (pc := 27) hk0 q_fi_RX8_12 (by decide) dX8_run_27 ?_
    obtain ⟨v2, hv2, h⟩ := Option.bind_eq_some_iff.mp h
    refine Y_callV C [.ref (ρ (k0 + 1))] [] [] (q_kr_8_1 hk0) rfl rfl (c_X2_push hI (q_kr_8_1 hk0) (q_kr_8_0 hk0) hv2) (fun _ h => h) q_cw_yX2_push q_ml_RX8_73 ⟨q_im_yX2_push, q_se_yX2_push⟩ ⟨⟨Nat.le_of_ble_eq_true rfl, Nat.le_of_ble_eq_true rfl⟩, ⟨Nat.zero_le _, Nat.zero_le _⟩, Nat.le_of_ble_eq_true rfl⟩ rfl rfl rfl dX8_run_30 ?_
    refine Y_iconst C (pc := 33) (v := (0 : Int32)) (by decide) dX8_run_33 ?_
    refine Y_istore_n C (pc := 34) (lv' := [(1, .int (0 : Int32)), (0, .ref (ρ k0))]) 1 rfl (by decide) rfl dX8_run_34 ?_
    refine Y_aload_n C (pc := 35) 0 1 rfl rfl dX8_run_35 ?_
    refine Y_getR C (pc := 36) hk0 q_fi_RX8_54 (by decide) dX8_run_36 ?_
    obtain ⟨v3, hv3, h⟩ := Option.bind_eq_some_iff.mp h
    refine Y_callV C [] [] [] (q_kr_8_6 hk0) rfl rfl (c_X4_rewind hI (q_kr_8_6 hk0) hv3) (fun _ h => h) q_cw_yX4_rewind q_ml_RX8_265 ⟨q_im_yX4_rewind, q_se_yX4_rewind⟩ ⟨⟨Nat.le_of_ble_eq_true rfl, Nat.le_of_ble_eq_true rfl⟩, ⟨Nat.zero_le _, Nat.zero_le _⟩, Nat.le_of_ble_eq_true rfl⟩ rfl rfl rfl dX8_run_39 ?_
    refine Y_iconst C (pc := 42) (v := (0 : Int32)) (by decide) dX8_run_42 ?_
    refine Y_istore_n C (pc := 43) (lv' := [(2, .int (0 : Int32)), (1, .int (0 : Int32)), (0, .ref (ρ k0))]) 2 rfl (by decide) rfl dX8_run_43 ?_
    obtain ⟨e15, he15, h⟩ := Option.bind_eq_some_iff.mp h
    refine Y_sub [2, 1, 0] (lv' := [(0, .ref (ρ k0)), (1, .int (0 : Int32)), (2, .int (0 : Int32))]) rfl ?_
    refine lo_rule (f := (f_X8_run_L44 k0)) (YS := fun s4 => Y p l e (Rm 6 122) s m args below meth c 3 D cA ρ (Aw ρ) 0 0 (MQ below (QC D cA ρ (Aw ρ) (some (.int r.1)) r.2 τ) args s 0 0 (Aw ρ)) s4.2.2 τ 44 [(0, .ref (ρ k0)), (1, .int s4.1), (2, .int s4.2.1)] []) (YE := fun e15 => Y p l e (Rm 6 122) s m args below meth c 3 D cA ρ (Aw ρ) 0 0 (MQ below (QC D cA ρ (Aw ρ) (some (.int r.1)) r.2 τ) args s 0 0 (Aw ρ)) e15.2 τ 141 [(1, .int e15.1)] []) ?_ he15 ?_
    · intro s4 x h hLp hE
      unfold f_X8_run_L44 at h
      have hJ135 : ∀ (j6 : Int32) (j7 : Int32) (sj8 : Sg), f_X8_run_J135 j6 j7 sj8 = some x → Y p l e (Rm 6 122) s m args below meth c 3 D cA ρ (Aw ρ) 0 0 (MQ below (QC D cA ρ (Aw ρ) (some (.int r.1)) r.2 τ) args s 0 0 (Aw ρ)) sj8 τ 135 [(0, .ref (ρ k0)), (1, .int j6), (2, .int j7)] [] := by
        intro j6 j7 sj8 h
        unfold f_X8_run_J135 at h
        refine Y_iinc C (pc := 135) (v := (j7 + 1)) (lv' := [(2, .int (j7 + 1)), (0, .ref (ρ k0)), (1, .int j6)]) 2 rfl (congrArg (fun z => j7 + z) (by decide : Int32.ofInt (1) = (1))) (by decide) rfl dX8_run_135 ?_
        refine Y_goto C (pc := 138) (tgt := 44) dX8_run_138 (by decide) ?_
        have h := Option.some.inj h
        exact Y_sub [1, 2, 0] rfl (hLp _ h.symm)
      refine Y_iload_n C (pc := 44) 2 2 rfl rfl dX8_run_44 ?_
      refine Y_bipush C (pc := 45) (v := (120 : Int32)) (by decide) dX8_run_45 ?_
      refine Y_icmp_ge C (pc := 47) (tgt := 141) dX8_run_47 (by decide) (fun c14 => ?_) (fun c14 => ?_)
      · rw [if_pos c14] at h
        have h := Option.some.inj h
        exact Y_sub [1] rfl (hE _ h.symm)
      · rw [if_neg c14] at h
        refine Y_aload_n C (pc := 50) 0 0 rfl rfl dX8_run_50 ?_
        refine Y_getR C (pc := 51) hk0 q_fi_RX8_54 (by decide) dX8_run_51 ?_
        obtain ⟨v5, hv5, h⟩ := Option.bind_eq_some_iff.mp h
        refine Y_callV C [] [] [.int v5.1] (q_kr_8_6 hk0) rfl rfl (c_X4_nextCommand hI (q_kr_8_6 hk0) hv5) (fun _ h => h) q_cw_yX4_nextCommand q_ml_RX8_268 ⟨q_im_yX4_nextCommand, q_se_yX4_nextCommand⟩ ⟨⟨Nat.le_of_ble_eq_true rfl, Nat.le_of_ble_eq_true rfl⟩, ⟨Nat.zero_le _, Nat.zero_le _⟩, Nat.le_of_ble_eq_true rfl⟩ rfl rfl rfl dX8_run_54 ?_
        refine Y_if_eq C (pc := 57) (tgt := 141) dX8_run_57 (by decide) (fun c13 => ?_) (fun c13 => ?_)
        · rw [if_pos c13] at h
          have h := Option.some.inj h
          exact Y_sub [1] rfl (hE _ h.symm)
        · rw [if_neg c13] at h
          refine Y_aload_n C (pc := 60) 0 0 rfl rfl dX8_run_60 ?_
          refine Y_getR C (pc := 61) hk0 q_fi_RX8_54 (by decide) dX8_run_61 ?_
          refine Y_getI C (pc := 64) (q_kr_8_6 hk0) q_fi_RX8_272 dX8_run_64 ?_
          refine Y_aload_n C (pc := 67) 0 0 rfl rfl dX8_run_67 ?_
          refine Y_getR C (pc := 68) hk0 q_fi_RX8_12 (by decide) dX8_run_68 ?_
          refine Y_getI C (pc := 71) (q_kr_8_0 hk0) q_fi_RX8_69 dX8_run_71 ?_
          refine Y_icmp_ge C (pc := 74) (tgt := 135) dX8_run_74 (by decide) (fun c12 => ?_) (fun c12 => ?_)
          · rw [if_pos c12] at h
            exact Y_sub [0, 1, 2] rfl (hJ135 _ _ _ h)
          · rw [if_neg c12] at h
            refine Y_aload_n C (pc := 77) 0 0 rfl rfl dX8_run_77 ?_
            refine Y_getR C (pc := 78) hk0 q_fi_RX8_54 (by decide) dX8_run_78 ?_
            refine Y_getI C (pc := 81) (q_kr_8_6 hk0) q_fi_RX8_275 dX8_run_81 ?_
            refine Y_aload_n C (pc := 84) 0 0 rfl rfl dX8_run_84 ?_
            refine Y_getR C (pc := 85) hk0 q_fi_RX8_12 (by decide) dX8_run_85 ?_
            refine Y_getI C (pc := 88) (q_kr_8_0 hk0) q_fi_RX8_69 dX8_run_88 ?_
            refine Y_icmp_ge C (pc := 91) (tgt := 135) dX8_run_91 (by decide) (fun c11 => ?_) (fun c11 => ?_)
            · rw [if_pos c11] at h
              exact Y_sub [0, 1, 2] rfl (hJ135 _ _ _ h)
            · rw [if_neg c11] at h
              refine Y_aload_n C (pc := 94) 0 0 rfl rfl dX8_run_94 ?_
              refine Y_getR C (pc := 95) hk0 q_fi_RX8_12 (by decide) dX8_run_95 ?_
              refine Y_aload_n C (pc := 98) 0 0 rfl rfl dX8_run_98 ?_
              refine Y_getR C (pc := 99) hk0 q_fi_RX8_54 (by decide) dX8_run_99 ?_
              refine Y_getI C (pc := 102) (q_kr_8_6 hk0) q_fi_RX8_278 dX8_run_102 ?_
              obtain ⟨v9, hv9, h⟩ := Option.bind_eq_some_iff.mp h
              refine Y_callV C [.int (v5.2 (k0 + 72) 1)] [] [.ref (ρ v9)] (q_kr_8_0 hk0) rfl rfl (c_X6_tableOf (q_kr_8_0 hk0) hv9) (fun _ h => h.elim) q_cw_yX6_tableOf q_ml_RX8_90 ⟨q_im_yX6_tableOf, q_se_yX6_tableOf⟩ ⟨⟨Nat.le_of_ble_eq_true rfl, Nat.le_of_ble_eq_true rfl⟩, ⟨Nat.zero_le _, Nat.zero_le _⟩, Nat.le_of_ble_eq_true rfl⟩ rfl rfl rfl dX8_run_105 ?_
              refine Y_aload_n C (pc := 108) 0 0 rfl rfl dX8_run_108 ?_
              refine Y_getR C (pc := 109) hk0 q_fi_RX8_54 (by decide) dX8_run_109 ?_
              refine Y_getI C (pc := 112) (q_kr_8_6 hk0) q_fi_RX8_272 dX8_run_112 ?_
              refine Y_aload_n C (pc := 115) 0 0 rfl rfl dX8_run_115 ?_
              refine Y_getR C (pc := 116) hk0 q_fi_RX8_54 (by decide) dX8_run_116 ?_
              refine Y_getI C (pc := 119) (q_kr_8_6 hk0) q_fi_RX8_275 dX8_run_119 ?_
              refine Y_aload_n C (pc := 122) 0 0 rfl rfl dX8_run_122 ?_
              refine Y_getR C (pc := 123) hk0 q_fi_RX8_54 (by decide) dX8_run_123 ?_
              refine Y_getI C (pc := 126) (q_kr_8_6 hk0) q_fi_RX8_281 dX8_run_126 ?_
              obtain ⟨v10, hv10, h⟩ := Option.bind_eq_some_iff.mp h
              refine Y_callS C [.ref (ρ v9), .int (v5.2 (k0 + 72) 2), .int (v5.2 (k0 + 72) 3), .int (v5.2 (k0 + 72) 4)] [] [] (c_X8_put hI (rk_X6_tableOf (q_kr_8_0 hk0) hv9).1 (rk_X6_tableOf (q_kr_8_0 hk0) hv9).2 hv10) (fun _ h => h) q_cw_yX8_put q_ml_RX8_98 q_st_yX8_put ⟨⟨Nat.le_of_ble_eq_true rfl, Nat.le_of_ble_eq_true rfl⟩, ⟨Nat.zero_le _, Nat.zero_le _⟩, Nat.le_of_ble_eq_true rfl⟩ rfl rfl rfl dX8_run_129 ?_
              refine Y_iinc C (pc := 132) (v := (s4.1 + 1)) (lv' := [(1, .int (s4.1 + 1)), (0, .ref (ρ k0)), (2, .int s4.2.1)]) 1 rfl (congrArg (fun z => s4.1 + z) (by decide : Int32.ofInt (1) = (1))) (by decide) rfl dX8_run_132 ?_
              exact Y_sub [1, 0, 2] rfl (hJ135 _ _ _ h)
    · refine Y_iload_n C (pc := 141) 1 0 rfl rfl dX8_run_141 ?_
      cases h
      exact Y_iret C dX8_run_142
  · rw [if_neg c16] at h
    cases h
set_option maxRecDepth 100000 in
set_option maxHeartbeats 4000000 in
theorem t_X8_run {l : Launch} {D : va_G} {cA ρ : Nat → Nat} {σ : Sg} {τ : Tg} {k0 : Nat} (hI : Inj ρ) (hk0 : kd k0 = (0, 8)) {r : Nat × Sg} (h : f_X8_run σ k0 = some (.inl r)) : CtT l yX8_run cX8_run 3 (some .int) 6 122 D cA ρ [.ref (ρ k0)] σ τ (xn r.1) r.2 τ := by
  refine CtT_of (by decide +kernel) (Nat.le_of_ble_eq_true rfl) (fun p e s m args below meth c C X hno => ?_)
  have C : Ctx p l s m args meth c cX8_run RX8 3 (some .int) D cA ρ (Ax ρ s.heap.size) := C
  have hW : Wr ρ (Ax ρ s.heap.size) := ⟨hI, fun k hk => Or.inl ⟨k, hk, rfl⟩⟩
  unfold f_X8_run at h
  refine Y_sub [0] (lv' := [(0, .ref (ρ k0))]) rfl ?_
  refine Y_aload_n C (pc := 0) 0 0 rfl rfl dX8_run_0 ?_
  refine Y_getR C (pc := 1) hk0 q_fi_RX8_54 (by decide) dX8_run_1 ?_
  obtain ⟨v1, hv1, h⟩ := Option.bind_eq_some_iff.mp h
  refine Y_callV C [] [] [.int v1.1] (q_kr_8_6 hk0) rfl rfl (c_X4_firstFault hI (q_kr_8_6 hk0) hv1) (fun _ h => Or.inl h) q_cw_yX4_firstFault q_ml_RX8_260 ⟨q_im_yX4_firstFault, q_se_yX4_firstFault⟩ ⟨⟨Nat.le_of_ble_eq_true rfl, Nat.le_of_ble_eq_true rfl⟩, ⟨Nat.zero_le _, Nat.zero_le _⟩, Nat.le_of_ble_eq_true rfl⟩ rfl rfl rfl dX8_run_4 ?_
  refine Y_iconst C (pc := 7) (v := (-1 : Int32)) (by decide) dX8_run_7 ?_
  refine Y_icmp_eq C (pc := 8) (tgt := 22) dX8_run_8 (by decide) (fun c16 => ?_) (fun c16 => ?_)
  · rw [if_pos c16] at h
    refine Y_aload_n C (pc := 22) 0 0 rfl rfl dX8_run_22 ?_
    refine Y_getR C (pc := 23) hk0 q_fi_RX8_19 (by decide) dX8_run_23 ?_
    refine Y_aload_n C (pc := 26) 0 0 rfl rfl dX8_run_26 ?_
    refine Y_getR C (pc := 27) hk0 q_fi_RX8_12 (by decide) dX8_run_27 ?_
    obtain ⟨v2, hv2, h⟩ := Option.bind_eq_some_iff.mp h
    refine Y_callV C [.ref (ρ (k0 + 1))] [] [] (q_kr_8_1 hk0) rfl rfl (c_X2_push hI (q_kr_8_1 hk0) (q_kr_8_0 hk0) hv2) (fun _ h => Or.inl h) q_cw_yX2_push q_ml_RX8_73 ⟨q_im_yX2_push, q_se_yX2_push⟩ ⟨⟨Nat.le_of_ble_eq_true rfl, Nat.le_of_ble_eq_true rfl⟩, ⟨Nat.zero_le _, Nat.zero_le _⟩, Nat.le_of_ble_eq_true rfl⟩ rfl rfl rfl dX8_run_30 ?_
    refine Y_iconst C (pc := 33) (v := (0 : Int32)) (by decide) dX8_run_33 ?_
    refine Y_istore_n C (pc := 34) (lv' := [(1, .int (0 : Int32)), (0, .ref (ρ k0))]) 1 rfl (by decide) rfl dX8_run_34 ?_
    refine Y_aload_n C (pc := 35) 0 1 rfl rfl dX8_run_35 ?_
    refine Y_getR C (pc := 36) hk0 q_fi_RX8_54 (by decide) dX8_run_36 ?_
    obtain ⟨v3, hv3, h⟩ := Option.bind_eq_some_iff.mp h
    refine Y_callV C [] [] [] (q_kr_8_6 hk0) rfl rfl (c_X4_rewind hI (q_kr_8_6 hk0) hv3) (fun _ h => Or.inl h) q_cw_yX4_rewind q_ml_RX8_265 ⟨q_im_yX4_rewind, q_se_yX4_rewind⟩ ⟨⟨Nat.le_of_ble_eq_true rfl, Nat.le_of_ble_eq_true rfl⟩, ⟨Nat.zero_le _, Nat.zero_le _⟩, Nat.le_of_ble_eq_true rfl⟩ rfl rfl rfl dX8_run_39 ?_
    refine Y_iconst C (pc := 42) (v := (0 : Int32)) (by decide) dX8_run_42 ?_
    refine Y_istore_n C (pc := 43) (lv' := [(2, .int (0 : Int32)), (1, .int (0 : Int32)), (0, .ref (ρ k0))]) 2 rfl (by decide) rfl dX8_run_43 ?_
    obtain ⟨e15, he15, h⟩ := Option.bind_eq_some_iff.mp h
    refine Y_sub [2, 1, 0] (lv' := [(0, .ref (ρ k0)), (1, .int (0 : Int32)), (2, .int (0 : Int32))]) rfl ?_
    refine lo_rule (f := (f_X8_run_L44 k0)) (YS := fun s4 => Y p l e (Rx 6 122) s m args below meth c 3 D cA ρ (Ax ρ s.heap.size) 0 0 (vx_MQ below NoQ (XT D cA ρ (Ax ρ s.heap.size) r.2 τ (xn r.1)) args s 1 6 (Ax ρ s.heap.size)) s4.2.2 τ 44 [(0, .ref (ρ k0)), (1, .int s4.1), (2, .int s4.2.1)] []) (YE := fun e15 => Y p l e (Rx 6 122) s m args below meth c 3 D cA ρ (Ax ρ s.heap.size) 0 0 (vx_MQ below NoQ (XT D cA ρ (Ax ρ s.heap.size) r.2 τ (xn r.1)) args s 1 6 (Ax ρ s.heap.size)) e15.2 τ 141 [(1, .int e15.1)] []) ?_ he15 ?_
    · intro s4 x h hLp hE
      unfold f_X8_run_L44 at h
      have hJ135 : ∀ (j6 : Int32) (j7 : Int32) (sj8 : Sg), f_X8_run_J135 j6 j7 sj8 = some x → Y p l e (Rx 6 122) s m args below meth c 3 D cA ρ (Ax ρ s.heap.size) 0 0 (vx_MQ below NoQ (XT D cA ρ (Ax ρ s.heap.size) r.2 τ (xn r.1)) args s 1 6 (Ax ρ s.heap.size)) sj8 τ 135 [(0, .ref (ρ k0)), (1, .int j6), (2, .int j7)] [] := by
        intro j6 j7 sj8 h
        unfold f_X8_run_J135 at h
        refine Y_iinc C (pc := 135) (v := (j7 + 1)) (lv' := [(2, .int (j7 + 1)), (0, .ref (ρ k0)), (1, .int j6)]) 2 rfl (congrArg (fun z => j7 + z) (by decide : Int32.ofInt (1) = (1))) (by decide) rfl dX8_run_135 ?_
        refine Y_goto C (pc := 138) (tgt := 44) dX8_run_138 (by decide) ?_
        have h := Option.some.inj h
        exact Y_sub [1, 2, 0] rfl (hLp _ h.symm)
      refine Y_iload_n C (pc := 44) 2 2 rfl rfl dX8_run_44 ?_
      refine Y_bipush C (pc := 45) (v := (120 : Int32)) (by decide) dX8_run_45 ?_
      refine Y_icmp_ge C (pc := 47) (tgt := 141) dX8_run_47 (by decide) (fun c14 => ?_) (fun c14 => ?_)
      · rw [if_pos c14] at h
        have h := Option.some.inj h
        exact Y_sub [1] rfl (hE _ h.symm)
      · rw [if_neg c14] at h
        refine Y_aload_n C (pc := 50) 0 0 rfl rfl dX8_run_50 ?_
        refine Y_getR C (pc := 51) hk0 q_fi_RX8_54 (by decide) dX8_run_51 ?_
        obtain ⟨v5, hv5, h⟩ := Option.bind_eq_some_iff.mp h
        refine Y_callV C [] [] [.int v5.1] (q_kr_8_6 hk0) rfl rfl (c_X4_nextCommand hI (q_kr_8_6 hk0) hv5) (fun _ h => Or.inl h) q_cw_yX4_nextCommand q_ml_RX8_268 ⟨q_im_yX4_nextCommand, q_se_yX4_nextCommand⟩ ⟨⟨Nat.le_of_ble_eq_true rfl, Nat.le_of_ble_eq_true rfl⟩, ⟨Nat.zero_le _, Nat.zero_le _⟩, Nat.le_of_ble_eq_true rfl⟩ rfl rfl rfl dX8_run_54 ?_
        refine Y_if_eq C (pc := 57) (tgt := 141) dX8_run_57 (by decide) (fun c13 => ?_) (fun c13 => ?_)
        · rw [if_pos c13] at h
          have h := Option.some.inj h
          exact Y_sub [1] rfl (hE _ h.symm)
        · rw [if_neg c13] at h
          refine Y_aload_n C (pc := 60) 0 0 rfl rfl dX8_run_60 ?_
          refine Y_getR C (pc := 61) hk0 q_fi_RX8_54 (by decide) dX8_run_61 ?_
          refine Y_getI C (pc := 64) (q_kr_8_6 hk0) q_fi_RX8_272 dX8_run_64 ?_
          refine Y_aload_n C (pc := 67) 0 0 rfl rfl dX8_run_67 ?_
          refine Y_getR C (pc := 68) hk0 q_fi_RX8_12 (by decide) dX8_run_68 ?_
          refine Y_getI C (pc := 71) (q_kr_8_0 hk0) q_fi_RX8_69 dX8_run_71 ?_
          refine Y_icmp_ge C (pc := 74) (tgt := 135) dX8_run_74 (by decide) (fun c12 => ?_) (fun c12 => ?_)
          · rw [if_pos c12] at h
            exact Y_sub [0, 1, 2] rfl (hJ135 _ _ _ h)
          · rw [if_neg c12] at h
            refine Y_aload_n C (pc := 77) 0 0 rfl rfl dX8_run_77 ?_
            refine Y_getR C (pc := 78) hk0 q_fi_RX8_54 (by decide) dX8_run_78 ?_
            refine Y_getI C (pc := 81) (q_kr_8_6 hk0) q_fi_RX8_275 dX8_run_81 ?_
            refine Y_aload_n C (pc := 84) 0 0 rfl rfl dX8_run_84 ?_
            refine Y_getR C (pc := 85) hk0 q_fi_RX8_12 (by decide) dX8_run_85 ?_
            refine Y_getI C (pc := 88) (q_kr_8_0 hk0) q_fi_RX8_69 dX8_run_88 ?_
            refine Y_icmp_ge C (pc := 91) (tgt := 135) dX8_run_91 (by decide) (fun c11 => ?_) (fun c11 => ?_)
            · rw [if_pos c11] at h
              exact Y_sub [0, 1, 2] rfl (hJ135 _ _ _ h)
            · rw [if_neg c11] at h
              refine Y_aload_n C (pc := 94) 0 0 rfl rfl dX8_run_94 ?_
              refine Y_getR C (pc := 95) hk0 q_fi_RX8_12 (by decide) dX8_run_95 ?_
              refine Y_aload_n C (pc := 98) 0 0 rfl rfl dX8_run_98 ?_
              refine Y_getR C (pc := 99) hk0 q_fi_RX8_54 (by decide) dX8_run_99 ?_
              refine Y_getI C (pc := 102) (q_kr_8_6 hk0) q_fi_RX8_278 dX8_run_102 ?_
              obtain ⟨v9, hv9, h⟩ := Option.bind_eq_some_iff.mp h
              refine Y_callV C [.int (v5.2 (k0 + 72) 1)] [] [.ref (ρ v9)] (q_kr_8_0 hk0) rfl rfl (c_X6_tableOf (q_kr_8_0 hk0) hv9) (fun _ h => h.elim) q_cw_yX6_tableOf q_ml_RX8_90 ⟨q_im_yX6_tableOf, q_se_yX6_tableOf⟩ ⟨⟨Nat.le_of_ble_eq_true rfl, Nat.le_of_ble_eq_true rfl⟩, ⟨Nat.zero_le _, Nat.zero_le _⟩, Nat.le_of_ble_eq_true rfl⟩ rfl rfl rfl dX8_run_105 ?_
              refine Y_aload_n C (pc := 108) 0 0 rfl rfl dX8_run_108 ?_
              refine Y_getR C (pc := 109) hk0 q_fi_RX8_54 (by decide) dX8_run_109 ?_
              refine Y_getI C (pc := 112) (q_kr_8_6 hk0) q_fi_RX8_272 dX8_run_112 ?_
              refine Y_aload_n C (pc := 115) 0 0 rfl rfl dX8_run_115 ?_
              refine Y_getR C (pc := 116) hk0 q_fi_RX8_54 (by decide) dX8_run_116 ?_
              refine Y_getI C (pc := 119) (q_kr_8_6 hk0) q_fi_RX8_275 dX8_run_119 ?_
              refine Y_aload_n C (pc := 122) 0 0 rfl rfl dX8_run_122 ?_
              refine Y_getR C (pc := 123) hk0 q_fi_RX8_54 (by decide) dX8_run_123 ?_
              refine Y_getI C (pc := 126) (q_kr_8_6 hk0) q_fi_RX8_281 dX8_run_126 ?_
              obtain ⟨v10, hv10, h⟩ := Option.bind_eq_some_iff.mp h
              refine Y_callS C [.ref (ρ v9), .int (v5.2 (k0 + 72) 2), .int (v5.2 (k0 + 72) 3), .int (v5.2 (k0 + 72) 4)] [] [] (c_X8_put hI (rk_X6_tableOf (q_kr_8_0 hk0) hv9).1 (rk_X6_tableOf (q_kr_8_0 hk0) hv9).2 hv10) (fun _ h => Or.inl h) q_cw_yX8_put q_ml_RX8_98 q_st_yX8_put ⟨⟨Nat.le_of_ble_eq_true rfl, Nat.le_of_ble_eq_true rfl⟩, ⟨Nat.zero_le _, Nat.zero_le _⟩, Nat.le_of_ble_eq_true rfl⟩ rfl rfl rfl dX8_run_129 ?_
              refine Y_iinc C (pc := 132) (v := (s4.1 + 1)) (lv' := [(1, .int (s4.1 + 1)), (0, .ref (ρ k0)), (2, .int s4.2.1)]) 1 rfl (congrArg (fun z => s4.1 + z) (by decide : Int32.ofInt (1) = (1))) (by decide) rfl dX8_run_132 ?_
              exact Y_sub [1, 0, 2] rfl (hJ135 _ _ _ h)
    · refine Y_iload_n C (pc := 141) 1 0 rfl rfl dX8_run_141 ?_
      cases h
  · rw [if_neg c16] at h
    cases h
    exact Y_throwW (σ0 := σ) (τ0 := τ) (E := "java/lang/IllegalArgumentException") (pc := 11) C X hno (by decide +kernel) q_cl_RX8_62 q_ix_0 q_sr_RX8_263 q_at_RX8_66 dX8_run_11 dX8_run_14 dX8_run_15 dX8_run_18 dX8_run_21 ⟨Nat.le_of_ble_eq_true rfl, Nat.le_of_ble_eq_true rfl, Nat.le_of_ble_eq_true rfl, Nat.le_of_ble_eq_true rfl⟩ (fun _ h => Or.inr h)

