set_option maxRecDepth 100000 in
set_option maxHeartbeats 4000000 in
theorem c_X8_get {l : Launch} {D : va_G} {cA ρ : Nat → Nat} {σ : Sg} {τ : Tg} {k0 : Nat} {i1 : Int32} {i2 : Int32} {i3 : Int32} (hk0 : kd k0 = (0, 8)) {r : Int32} (h : f_X8_get σ k0 i1 i2 i3 = some (.inr r)) : Ct l yX8_get cX8_get 4 (some .int) 1 23 D cA ρ A0 [.ref (ρ k0), .int i1, .int i2, .int i3] σ τ (some (.int r)) σ τ := by
  refine Ct_of (by decide +kernel) (Nat.le_of_ble_eq_true rfl) (fun p e s m args below meth c C => ?_)
  have C : Ctx p l s m args meth c cX8_get RX8 4 (some .int) D cA ρ A0 := C
  unfold f_X8_get at h
  refine Y_sub [0, 1, 2, 3] (lv' := [(0, .ref (ρ k0)), (1, .int i1), (2, .int i2), (3, .int i3)]) rfl ?_
  refine Y_aload_n C (pc := 0) 0 0 rfl rfl dX8_get_0 ?_
  refine Y_iload_n C (pc := 1) 2 2 rfl rfl dX8_get_1 ?_
  obtain ⟨v1, hv1, h⟩ := Option.bind_eq_some_iff.mp h
  rcases v1 with n2 | w3
  · simp only [Sum.elim_inl] at h
    cases h
  simp only [Sum.elim_inr] at h
  refine Y_callV C [.int i2] [] [] hk0 rfl rfl (c_X8_requireIndex hk0 hv1) (fun _ h => h.elim) q_cw_yX8_requireIndex q_ml_RX8_81 ⟨q_im_yX8_requireIndex, q_se_yX8_requireIndex⟩ ⟨⟨Nat.le_of_ble_eq_true rfl, Nat.le_of_ble_eq_true rfl⟩, ⟨Nat.zero_le _, Nat.zero_le _⟩, Nat.le_of_ble_eq_true rfl⟩ rfl rfl rfl dX8_get_2 ?_
  refine Y_aload_n C (pc := 5) 0 0 rfl rfl dX8_get_5 ?_
  refine Y_iload_n C (pc := 6) 3 3 rfl rfl dX8_get_6 ?_
  obtain ⟨v4, hv4, h⟩ := Option.bind_eq_some_iff.mp h
  rcases v4 with n5 | w6
  · simp only [Sum.elim_inl] at h
    cases h
  simp only [Sum.elim_inr] at h
  refine Y_callV C [.int i3] [] [] hk0 rfl rfl (c_X8_requireIndex hk0 hv4) (fun _ h => h.elim) q_cw_yX8_requireIndex q_ml_RX8_81 ⟨q_im_yX8_requireIndex, q_se_yX8_requireIndex⟩ ⟨⟨Nat.le_of_ble_eq_true rfl, Nat.le_of_ble_eq_true rfl⟩, ⟨Nat.zero_le _, Nat.zero_le _⟩, Nat.le_of_ble_eq_true rfl⟩ rfl rfl rfl dX8_get_7 ?_
  refine Y_iload_n C (pc := 10) 1 1 rfl rfl dX8_get_10 ?_
  obtain ⟨v7, hv7, h⟩ := Option.bind_eq_some_iff.mp h
  rcases v7 with n8 | w9
  · simp only [Sum.elim_inl] at h
    cases h
  simp only [Sum.elim_inr] at h
  refine Y_callS C [.int i1] [] [] (c_X8_requireTable  hv7) (fun _ h => h.elim) q_cw_yX8_requireTable q_ml_RX8_84 q_st_yX8_requireTable ⟨⟨Nat.le_of_ble_eq_true rfl, Nat.le_of_ble_eq_true rfl⟩, ⟨Nat.zero_le _, Nat.zero_le _⟩, Nat.le_of_ble_eq_true rfl⟩ rfl rfl rfl dX8_get_11 ?_
  refine Y_aload_n C (pc := 14) 0 0 rfl rfl dX8_get_14 ?_
  refine Y_getR C (pc := 15) hk0 q_fi_RX8_12 (by decide) dX8_get_15 ?_
  refine Y_iload_n C (pc := 18) 1 1 rfl rfl dX8_get_18 ?_
  obtain ⟨v10, hv10, h⟩ := Option.bind_eq_some_iff.mp h
  refine Y_callV C [.int i1] [] [.ref (ρ v10)] (q_kr_8_0 hk0) rfl rfl (c_X6_tableOf (q_kr_8_0 hk0) hv10) (fun _ h => h.elim) q_cw_yX6_tableOf q_ml_RX8_90 ⟨q_im_yX6_tableOf, q_se_yX6_tableOf⟩ ⟨⟨Nat.le_of_ble_eq_true rfl, Nat.le_of_ble_eq_true rfl⟩, ⟨Nat.zero_le _, Nat.zero_le _⟩, Nat.le_of_ble_eq_true rfl⟩ rfl rfl rfl dX8_get_19 ?_
  refine Y_iload_n C (pc := 22) 2 2 rfl rfl dX8_get_22 ?_
  refine Y_iload_n C (pc := 23) 3 3 rfl rfl dX8_get_23 ?_
  obtain ⟨v11, hv11, h⟩ := Option.bind_eq_some_iff.mp h
  refine Y_callS C [.ref (ρ v10), .int i2, .int i3] [] [.int v11] (c_X8_at (rk_X6_tableOf (q_kr_8_0 hk0) hv10).1 hv11) (fun _ h => h.elim) q_cw_yX8_at q_ml_RX8_94 q_st_yX8_at ⟨⟨Nat.le_of_ble_eq_true rfl, Nat.le_of_ble_eq_true rfl⟩, ⟨Nat.zero_le _, Nat.zero_le _⟩, Nat.le_of_ble_eq_true rfl⟩ rfl rfl rfl dX8_get_24 ?_
  cases h
  exact Y_iret C dX8_get_27
set_option maxRecDepth 100000 in
set_option maxHeartbeats 4000000 in
theorem t_X8_get {l : Launch} {D : va_G} {cA ρ : Nat → Nat} {σ : Sg} {τ : Tg} {k0 : Nat} {i1 : Int32} {i2 : Int32} {i3 : Int32} (hk0 : kd k0 = (0, 8)) {r : Nat} (h : f_X8_get σ k0 i1 i2 i3 = some (.inl r)) : CtT l yX8_get cX8_get 4 (some .int) 7 111 D cA ρ [.ref (ρ k0), .int i1, .int i2, .int i3] σ τ (xn r) σ τ := by
  refine CtT_of (by decide +kernel) (Nat.le_of_ble_eq_true rfl) (fun p e s m args below meth c C X hno => ?_)
  have C : Ctx p l s m args meth c cX8_get RX8 4 (some .int) D cA ρ (Ax ρ s.heap.size) := C
  unfold f_X8_get at h
  refine Y_sub [0, 1, 2, 3] (lv' := [(0, .ref (ρ k0)), (1, .int i1), (2, .int i2), (3, .int i3)]) rfl ?_
  refine Y_aload_n C (pc := 0) 0 0 rfl rfl dX8_get_0 ?_
  refine Y_iload_n C (pc := 1) 2 2 rfl rfl dX8_get_1 ?_
  obtain ⟨v1, hv1, h⟩ := Option.bind_eq_some_iff.mp h
  rcases v1 with n2 | w3
  · simp only [Sum.elim_inl] at h
    cases h
    exact Y_callVT C X hno (pc := 2) [.int i2] [] hk0 rfl rfl (t_X8_requireIndex hk0 hv1) q_cw_yX8_requireIndex q_ml_RX8_81 ⟨q_im_yX8_requireIndex, q_se_yX8_requireIndex⟩ ⟨⟨Nat.le_of_ble_eq_true rfl, Nat.le_of_ble_eq_true rfl⟩, ⟨Nat.le_of_ble_eq_true rfl, Nat.le_of_ble_eq_true rfl⟩, Nat.le_of_ble_eq_true rfl⟩ rfl rfl dX8_get_2
  simp only [Sum.elim_inr] at h
  refine Y_callV C [.int i2] [] [] hk0 rfl rfl (c_X8_requireIndex hk0 hv1) (fun _ h => h.elim) q_cw_yX8_requireIndex q_ml_RX8_81 ⟨q_im_yX8_requireIndex, q_se_yX8_requireIndex⟩ ⟨⟨Nat.le_of_ble_eq_true rfl, Nat.le_of_ble_eq_true rfl⟩, ⟨Nat.zero_le _, Nat.zero_le _⟩, Nat.le_of_ble_eq_true rfl⟩ rfl rfl rfl dX8_get_2 ?_
  refine Y_aload_n C (pc := 5) 0 0 rfl rfl dX8_get_5 ?_
  refine Y_iload_n C (pc := 6) 3 3 rfl rfl dX8_get_6 ?_
  obtain ⟨v4, hv4, h⟩ := Option.bind_eq_some_iff.mp h
  rcases v4 with n5 | w6
  · simp only [Sum.elim_inl] at h
    cases h
    exact Y_callVT C X hno (pc := 7) [.int i3] [] hk0 rfl rfl (t_X8_requireIndex hk0 hv4) q_cw_yX8_requireIndex q_ml_RX8_81 ⟨q_im_yX8_requireIndex, q_se_yX8_requireIndex⟩ ⟨⟨Nat.le_of_ble_eq_true rfl, Nat.le_of_ble_eq_true rfl⟩, ⟨Nat.le_of_ble_eq_true rfl, Nat.le_of_ble_eq_true rfl⟩, Nat.le_of_ble_eq_true rfl⟩ rfl rfl dX8_get_7
  simp only [Sum.elim_inr] at h
  refine Y_callV C [.int i3] [] [] hk0 rfl rfl (c_X8_requireIndex hk0 hv4) (fun _ h => h.elim) q_cw_yX8_requireIndex q_ml_RX8_81 ⟨q_im_yX8_requireIndex, q_se_yX8_requireIndex⟩ ⟨⟨Nat.le_of_ble_eq_true rfl, Nat.le_of_ble_eq_true rfl⟩, ⟨Nat.zero_le _, Nat.zero_le _⟩, Nat.le_of_ble_eq_true rfl⟩ rfl rfl rfl dX8_get_7 ?_
  refine Y_iload_n C (pc := 10) 1 1 rfl rfl dX8_get_10 ?_
  obtain ⟨v7, hv7, h⟩ := Option.bind_eq_some_iff.mp h
  rcases v7 with n8 | w9
  · simp only [Sum.elim_inl] at h
    cases h
    exact Y_callST C X hno (pc := 11) [.int i1] [] (t_X8_requireTable  hv7) q_cw_yX8_requireTable q_ml_RX8_84 q_st_yX8_requireTable ⟨⟨Nat.le_of_ble_eq_true rfl, Nat.le_of_ble_eq_true rfl⟩, ⟨Nat.le_of_ble_eq_true rfl, Nat.le_of_ble_eq_true rfl⟩, Nat.le_of_ble_eq_true rfl⟩ rfl rfl dX8_get_11
  simp only [Sum.elim_inr] at h
  refine Y_callS C [.int i1] [] [] (c_X8_requireTable  hv7) (fun _ h => h.elim) q_cw_yX8_requireTable q_ml_RX8_84 q_st_yX8_requireTable ⟨⟨Nat.le_of_ble_eq_true rfl, Nat.le_of_ble_eq_true rfl⟩, ⟨Nat.zero_le _, Nat.zero_le _⟩, Nat.le_of_ble_eq_true rfl⟩ rfl rfl rfl dX8_get_11 ?_
  refine Y_aload_n C (pc := 14) 0 0 rfl rfl dX8_get_14 ?_
  refine Y_getR C (pc := 15) hk0 q_fi_RX8_12 (by decide) dX8_get_15 ?_
  refine Y_iload_n C (pc := 18) 1 1 rfl rfl dX8_get_18 ?_
  obtain ⟨v10, hv10, h⟩ := Option.bind_eq_some_iff.mp h
  refine Y_callV C [.int i1] [] [.ref (ρ v10)] (q_kr_8_0 hk0) rfl rfl (c_X6_tableOf (q_kr_8_0 hk0) hv10) (fun _ h => h.elim) q_cw_yX6_tableOf q_ml_RX8_90 ⟨q_im_yX6_tableOf, q_se_yX6_tableOf⟩ ⟨⟨Nat.le_of_ble_eq_true rfl, Nat.le_of_ble_eq_true rfl⟩, ⟨Nat.zero_le _, Nat.zero_le _⟩, Nat.le_of_ble_eq_true rfl⟩ rfl rfl rfl dX8_get_19 ?_
  refine Y_iload_n C (pc := 22) 2 2 rfl rfl dX8_get_22 ?_
  refine Y_iload_n C (pc := 23) 3 3 rfl rfl dX8_get_23 ?_
  obtain ⟨v11, hv11, h⟩ := Option.bind_eq_some_iff.mp h
  refine Y_callS C [.ref (ρ v10), .int i2, .int i3] [] [.int v11] (c_X8_at (rk_X6_tableOf (q_kr_8_0 hk0) hv10).1 hv11) (fun _ h => h.elim) q_cw_yX8_at q_ml_RX8_94 q_st_yX8_at ⟨⟨Nat.le_of_ble_eq_true rfl, Nat.le_of_ble_eq_true rfl⟩, ⟨Nat.zero_le _, Nat.zero_le _⟩, Nat.le_of_ble_eq_true rfl⟩ rfl rfl rfl dX8_get_24 ?_
  cases h

set_option maxRecDepth 100000 in
set_option maxHeartbeats 4000000 in
theorem c_X8_fill {l : Launch} {D : va_G} {cA ρ : Nat → Nat} {σ : Sg} {τ : Tg} {k0 : Nat} {i1 : Int32} {i2 : Int32} {i3 : Int32} {i4 : Int32} (hI : Inj ρ) (hk0 : kd k0 = (0, 8)) {r : Int32 × Sg} (h : f_X8_fill σ k0 i1 i2 i3 i4 = some (.inr r)) : Ct l yX8_fill cX8_fill 6 (some .int) 3 75 D cA ρ (Aw ρ) [.ref (ρ k0), .int i1, .int i2, .int i3, .int i4] σ τ (some (.int r.1)) r.2 τ := by
  refine Ct_of (by decide +kernel) (Nat.le_of_ble_eq_true rfl) (fun p e s m args below meth c C => ?_)
  have C : Ctx p l s m args meth c cX8_fill RX8 6 (some .int) D cA ρ (Aw ρ) := C
  have hW : Wr ρ (Aw ρ) := ⟨hI, fun k hk => ⟨k, hk, rfl⟩⟩
  unfold f_X8_fill at h
  refine Y_sub [0, 1, 2, 3, 4] (lv' := [(0, .ref (ρ k0)), (1, .int i1), (2, .int i2), (3, .int i3), (4, .int i4)]) rfl ?_
  have hJ68 : ∀ (v8 : Nat) (qv8 : (kd v8).1 = 1) (rv8 : v8 < 97) (sj10 : Sg), f_X8_fill_J68 k0 v8 sj10 = some (.inr r) → Y p l e (Rm 3 75) s m args below meth c 6 D cA ρ (Aw ρ) 0 0 (MQ below (QC D cA ρ (Aw ρ) (some (.int r.1)) r.2 τ) args s 0 0 (Aw ρ)) sj10 τ 68 [(0, .ref (ρ k0)), (5, .ref (ρ v8))] [] := by
    intro v8 qv8 rv8 sj10 h
    unfold f_X8_fill_J68 at h
    refine Y_aload_n C (pc := 68) 0 0 rfl rfl dX8_fill_68 ?_
    refine Y_getR C (pc := 69) hk0 q_fi_RX8_12 (by decide) dX8_fill_69 ?_
    refine Y_aload C (pc := 72) 1 rfl dX8_fill_72 ?_
    obtain ⟨v11, hv11, h⟩ := Option.bind_eq_some_iff.mp h
    refine Y_callV C [.ref (ρ v8)] [] [.int v11] (q_kr_8_0 hk0) rfl rfl (c_X6_sumOf (q_kr_8_0 hk0) qv8 hv11) (fun _ h => h.elim) q_cw_yX6_sumOf q_ml_RX8_112 ⟨q_im_yX6_sumOf, q_se_yX6_sumOf⟩ ⟨⟨Nat.le_of_ble_eq_true rfl, Nat.le_of_ble_eq_true rfl⟩, ⟨Nat.zero_le _, Nat.zero_le _⟩, Nat.le_of_ble_eq_true rfl⟩ rfl rfl rfl dX8_fill_74 ?_
    cases h
    exact Y_iret C dX8_fill_77
  refine Y_iload_n C (pc := 0) 1 1 rfl rfl dX8_fill_0 ?_
  obtain ⟨v1, hv1, h⟩ := Option.bind_eq_some_iff.mp h
  rcases v1 with n2 | w3
  · simp only [Sum.elim_inl] at h
    cases h
  simp only [Sum.elim_inr] at h
  refine Y_callS C [.int i1] [] [] (c_X8_requireTable  hv1) (fun _ h => h.elim) q_cw_yX8_requireTable q_ml_RX8_84 q_st_yX8_requireTable ⟨⟨Nat.le_of_ble_eq_true rfl, Nat.le_of_ble_eq_true rfl⟩, ⟨Nat.zero_le _, Nat.zero_le _⟩, Nat.le_of_ble_eq_true rfl⟩ rfl rfl rfl dX8_fill_1 ?_
  refine Y_iload_n C (pc := 4) 3 3 rfl rfl dX8_fill_4 ?_
  obtain ⟨v4, hv4, h⟩ := Option.bind_eq_some_iff.mp h
  rcases v4 with n5 | w6
  · simp only [Sum.elim_inl] at h
    cases h
  simp only [Sum.elim_inr] at h
  refine Y_callS C [.int i3] [] [] (c_X8_requireValue  hv4) (fun _ h => h.elim) q_cw_yX8_requireValue q_ml_RX8_87 q_st_yX8_requireValue ⟨⟨Nat.le_of_ble_eq_true rfl, Nat.le_of_ble_eq_true rfl⟩, ⟨Nat.zero_le _, Nat.zero_le _⟩, Nat.le_of_ble_eq_true rfl⟩ rfl rfl rfl dX8_fill_5 ?_
  refine Y_iload_n C (pc := 8) 2 2 rfl rfl dX8_fill_8 ?_
  refine Y_if_ge C (pc := 9) (tgt := 22) dX8_fill_9 (by decide) (fun c14 => ?_) (fun c14 => ?_)
  · rw [if_pos c14] at h
    refine Y_aload_n C (pc := 22) 0 0 rfl rfl dX8_fill_22 ?_
    refine Y_getR C (pc := 23) hk0 q_fi_RX8_19 (by decide) dX8_fill_23 ?_
    refine Y_aload_n C (pc := 26) 0 0 rfl rfl dX8_fill_26 ?_
    refine Y_getR C (pc := 27) hk0 q_fi_RX8_12 (by decide) dX8_fill_27 ?_
    obtain ⟨v7, hv7, h⟩ := Option.bind_eq_some_iff.mp h
    refine Y_callV C [.ref (ρ (k0 + 1))] [] [] (q_kr_8_1 hk0) rfl rfl (c_X2_push hI (q_kr_8_1 hk0) (q_kr_8_0 hk0) hv7) (fun _ h => h) q_cw_yX2_push q_ml_RX8_73 ⟨q_im_yX2_push, q_se_yX2_push⟩ ⟨⟨Nat.le_of_ble_eq_true rfl, Nat.le_of_ble_eq_true rfl⟩, ⟨Nat.zero_le _, Nat.zero_le _⟩, Nat.le_of_ble_eq_true rfl⟩ rfl rfl rfl dX8_fill_30 ?_
    refine Y_aload_n C (pc := 33) 0 0 rfl rfl dX8_fill_33 ?_
    refine Y_getR C (pc := 34) hk0 q_fi_RX8_12 (by decide) dX8_fill_34 ?_
    refine Y_iload_n C (pc := 37) 1 1 rfl rfl dX8_fill_37 ?_
    obtain ⟨v8, hv8, h⟩ := Option.bind_eq_some_iff.mp h
    refine Y_callV C [.int i1] [] [.ref (ρ v8)] (q_kr_8_0 hk0) rfl rfl (c_X6_tableOf (q_kr_8_0 hk0) hv8) (fun _ h => h.elim) q_cw_yX6_tableOf q_ml_RX8_90 ⟨q_im_yX6_tableOf, q_se_yX6_tableOf⟩ ⟨⟨Nat.le_of_ble_eq_true rfl, Nat.le_of_ble_eq_true rfl⟩, ⟨Nat.zero_le _, Nat.zero_le _⟩, Nat.le_of_ble_eq_true rfl⟩ rfl rfl rfl dX8_fill_38 ?_
    refine Y_astore C (pc := 41) (lv' := [(5, .ref (ρ v8)), (0, .ref (ρ k0)), (1, .int i1), (2, .int i2), (3, .int i3), (4, .int i4)]) (by decide) rfl dX8_fill_41 ?_
    refine Y_aload_n C (pc := 43) 0 1 rfl rfl dX8_fill_43 ?_
    refine Y_getR C (pc := 44) hk0 q_fi_RX8_12 (by decide) dX8_fill_44 ?_
    refine Y_aload C (pc := 47) 0 rfl dX8_fill_47 ?_
    refine Y_iload_n C (pc := 49) 2 3 rfl rfl dX8_fill_49 ?_
    refine Y_iload_n C (pc := 50) 3 4 rfl rfl dX8_fill_50 ?_
    obtain ⟨v9, hv9, h⟩ := Option.bind_eq_some_iff.mp h
    refine Y_callV C [.ref (ρ v8), .int i2, .int i3] [] [] (q_kr_8_0 hk0) rfl rfl (c_X6_scatter hI (q_kr_8_0 hk0) (rk_X6_tableOf (q_kr_8_0 hk0) hv8).1 (rk_X6_tableOf (q_kr_8_0 hk0) hv8).2 hv9) (fun _ h => h) q_cw_yX6_scatter q_ml_RX8_104 ⟨q_im_yX6_scatter, q_se_yX6_scatter⟩ ⟨⟨Nat.le_of_ble_eq_true rfl, Nat.le_of_ble_eq_true rfl⟩, ⟨Nat.zero_le _, Nat.zero_le _⟩, Nat.le_of_ble_eq_true rfl⟩ rfl rfl rfl dX8_fill_51 ?_
    refine Y_iload C (pc := 54) 5 rfl dX8_fill_54 ?_
    refine Y_if_eq C (pc := 56) (tgt := 68) dX8_fill_56 (by decide) (fun c13 => ?_) (fun c13 => ?_)
    · rw [if_pos c13] at h
      exact Y_sub [1, 0] rfl (hJ68 _ ((rk_X6_tableOf (q_kr_8_0 hk0) hv8).1) ((rk_X6_tableOf (q_kr_8_0 hk0) hv8).2) _ h)
    · rw [if_neg c13] at h
      refine Y_aload_n C (pc := 59) 0 1 rfl rfl dX8_fill_59 ?_
      refine Y_getR C (pc := 60) hk0 q_fi_RX8_12 (by decide) dX8_fill_60 ?_
      refine Y_aload C (pc := 63) 0 rfl dX8_fill_63 ?_
      obtain ⟨v12, hv12, h⟩ := Option.bind_eq_some_iff.mp h
      refine Y_callV C [.ref (ρ v8)] [] [] (q_kr_8_0 hk0) rfl rfl (c_X6_mirror hI (q_kr_8_0 hk0) (rk_X6_tableOf (q_kr_8_0 hk0) hv8).1 (rk_X6_tableOf (q_kr_8_0 hk0) hv8).2 hv12) (fun _ h => h) q_cw_yX6_mirror q_ml_RX8_108 ⟨q_im_yX6_mirror, q_se_yX6_mirror⟩ ⟨⟨Nat.le_of_ble_eq_true rfl, Nat.le_of_ble_eq_true rfl⟩, ⟨Nat.zero_le _, Nat.zero_le _⟩, Nat.le_of_ble_eq_true rfl⟩ rfl rfl rfl dX8_fill_65 ?_
      exact Y_sub [1, 0] rfl (hJ68 _ ((rk_X6_tableOf (q_kr_8_0 hk0) hv8).1) ((rk_X6_tableOf (q_kr_8_0 hk0) hv8).2) _ h)
  · rw [if_neg c14] at h
    cases h
set_option maxRecDepth 100000 in
set_option maxHeartbeats 4000000 in
theorem t_X8_fill {l : Launch} {D : va_G} {cA ρ : Nat → Nat} {σ : Sg} {τ : Tg} {k0 : Nat} {i1 : Int32} {i2 : Int32} {i3 : Int32} {i4 : Int32} (hI : Inj ρ) (hk0 : kd k0 = (0, 8)) {r : Nat × Sg} (h : f_X8_fill σ k0 i1 i2 i3 i4 = some (.inl r)) : CtT l yX8_fill cX8_fill 6 (some .int) 7 110 D cA ρ [.ref (ρ k0), .int i1, .int i2, .int i3, .int i4] σ τ (xn r.1) r.2 τ := by
  refine CtT_of (by decide +kernel) (Nat.le_of_ble_eq_true rfl) (fun p e s m args below meth c C X hno => ?_)
  have C : Ctx p l s m args meth c cX8_fill RX8 6 (some .int) D cA ρ (Ax ρ s.heap.size) := C
  have hW : Wr ρ (Ax ρ s.heap.size) := ⟨hI, fun k hk => Or.inl ⟨k, hk, rfl⟩⟩
  unfold f_X8_fill at h
  refine Y_sub [0, 1, 2, 3, 4] (lv' := [(0, .ref (ρ k0)), (1, .int i1), (2, .int i2), (3, .int i3), (4, .int i4)]) rfl ?_
  have hJ68 : ∀ (v8 : Nat) (qv8 : (kd v8).1 = 1) (rv8 : v8 < 97) (sj10 : Sg), f_X8_fill_J68 k0 v8 sj10 = some (.inl r) → Y p l e (Rx 7 110) s m args below meth c 6 D cA ρ (Ax ρ s.heap.size) 0 0 (vx_MQ below NoQ (XT D cA ρ (Ax ρ s.heap.size) r.2 τ (xn r.1)) args s 1 6 (Ax ρ s.heap.size)) sj10 τ 68 [(0, .ref (ρ k0)), (5, .ref (ρ v8))] [] := by
    intro v8 qv8 rv8 sj10 h
    unfold f_X8_fill_J68 at h
    refine Y_aload_n C (pc := 68) 0 0 rfl rfl dX8_fill_68 ?_
    refine Y_getR C (pc := 69) hk0 q_fi_RX8_12 (by decide) dX8_fill_69 ?_
    refine Y_aload C (pc := 72) 1 rfl dX8_fill_72 ?_
    obtain ⟨v11, hv11, h⟩ := Option.bind_eq_some_iff.mp h
    refine Y_callV C [.ref (ρ v8)] [] [.int v11] (q_kr_8_0 hk0) rfl rfl (c_X6_sumOf (q_kr_8_0 hk0) qv8 hv11) (fun _ h => h.elim) q_cw_yX6_sumOf q_ml_RX8_112 ⟨q_im_yX6_sumOf, q_se_yX6_sumOf⟩ ⟨⟨Nat.le_of_ble_eq_true rfl, Nat.le_of_ble_eq_true rfl⟩, ⟨Nat.zero_le _, Nat.zero_le _⟩, Nat.le_of_ble_eq_true rfl⟩ rfl rfl rfl dX8_fill_74 ?_
    cases h
  refine Y_iload_n C (pc := 0) 1 1 rfl rfl dX8_fill_0 ?_
  obtain ⟨v1, hv1, h⟩ := Option.bind_eq_some_iff.mp h
  rcases v1 with n2 | w3
  · simp only [Sum.elim_inl] at h
    cases h
    exact Y_callST C X hno (pc := 1) [.int i1] [] (t_X8_requireTable  hv1) q_cw_yX8_requireTable q_ml_RX8_84 q_st_yX8_requireTable ⟨⟨Nat.le_of_ble_eq_true rfl, Nat.le_of_ble_eq_true rfl⟩, ⟨Nat.le_of_ble_eq_true rfl, Nat.le_of_ble_eq_true rfl⟩, Nat.le_of_ble_eq_true rfl⟩ rfl rfl dX8_fill_1
  simp only [Sum.elim_inr] at h
  refine Y_callS C [.int i1] [] [] (c_X8_requireTable  hv1) (fun _ h => h.elim) q_cw_yX8_requireTable q_ml_RX8_84 q_st_yX8_requireTable ⟨⟨Nat.le_of_ble_eq_true rfl, Nat.le_of_ble_eq_true rfl⟩, ⟨Nat.zero_le _, Nat.zero_le _⟩, Nat.le_of_ble_eq_true rfl⟩ rfl rfl rfl dX8_fill_1 ?_
  refine Y_iload_n C (pc := 4) 3 3 rfl rfl dX8_fill_4 ?_
  obtain ⟨v4, hv4, h⟩ := Option.bind_eq_some_iff.mp h
  rcases v4 with n5 | w6
  · simp only [Sum.elim_inl] at h
    cases h
    exact Y_callST C X hno (pc := 5) [.int i3] [] (t_X8_requireValue  hv4) q_cw_yX8_requireValue q_ml_RX8_87 q_st_yX8_requireValue ⟨⟨Nat.le_of_ble_eq_true rfl, Nat.le_of_ble_eq_true rfl⟩, ⟨Nat.le_of_ble_eq_true rfl, Nat.le_of_ble_eq_true rfl⟩, Nat.le_of_ble_eq_true rfl⟩ rfl rfl dX8_fill_5
  simp only [Sum.elim_inr] at h
  refine Y_callS C [.int i3] [] [] (c_X8_requireValue  hv4) (fun _ h => h.elim) q_cw_yX8_requireValue q_ml_RX8_87 q_st_yX8_requireValue ⟨⟨Nat.le_of_ble_eq_true rfl, Nat.le_of_ble_eq_true rfl⟩, ⟨Nat.zero_le _, Nat.zero_le _⟩, Nat.le_of_ble_eq_true rfl⟩ rfl rfl rfl dX8_fill_5 ?_
  refine Y_iload_n C (pc := 8) 2 2 rfl rfl dX8_fill_8 ?_
  refine Y_if_ge C (pc := 9) (tgt := 22) dX8_fill_9 (by decide) (fun c14 => ?_) (fun c14 => ?_)
  · rw [if_pos c14] at h
    refine Y_aload_n C (pc := 22) 0 0 rfl rfl dX8_fill_22 ?_
    refine Y_getR C (pc := 23) hk0 q_fi_RX8_19 (by decide) dX8_fill_23 ?_
    refine Y_aload_n C (pc := 26) 0 0 rfl rfl dX8_fill_26 ?_
    refine Y_getR C (pc := 27) hk0 q_fi_RX8_12 (by decide) dX8_fill_27 ?_
    obtain ⟨v7, hv7, h⟩ := Option.bind_eq_some_iff.mp h
    refine Y_callV C [.ref (ρ (k0 + 1))] [] [] (q_kr_8_1 hk0) rfl rfl (c_X2_push hI (q_kr_8_1 hk0) (q_kr_8_0 hk0) hv7) (fun _ h => Or.inl h) q_cw_yX2_push q_ml_RX8_73 ⟨q_im_yX2_push, q_se_yX2_push⟩ ⟨⟨Nat.le_of_ble_eq_true rfl, Nat.le_of_ble_eq_true rfl⟩, ⟨Nat.zero_le _, Nat.zero_le _⟩, Nat.le_of_ble_eq_true rfl⟩ rfl rfl rfl dX8_fill_30 ?_
    refine Y_aload_n C (pc := 33) 0 0 rfl rfl dX8_fill_33 ?_
    refine Y_getR C (pc := 34) hk0 q_fi_RX8_12 (by decide) dX8_fill_34 ?_
    refine Y_iload_n C (pc := 37) 1 1 rfl rfl dX8_fill_37 ?_
    obtain ⟨v8, hv8, h⟩ := Option.bind_eq_some_iff.mp h
    refine Y_callV C [.int i1] [] [.ref (ρ v8)] (q_kr_8_0 hk0) rfl rfl (c_X6_tableOf (q_kr_8_0 hk0) hv8) (fun _ h => h.elim) q_cw_yX6_tableOf q_ml_RX8_90 ⟨q_im_yX6_tableOf, q_se_yX6_tableOf⟩ ⟨⟨Nat.le_of_ble_eq_true rfl, Nat.le_of_ble_eq_true rfl⟩, ⟨Nat.zero_le _, Nat.zero_le _⟩, Nat.le_of_ble_eq_true rfl⟩ rfl rfl rfl dX8_fill_38 ?_
    refine Y_astore C (pc := 41) (lv' := [(5, .ref (ρ v8)), (0, .ref (ρ k0)), (1, .int i1), (2, .int i2), (3, .int i3), (4, .int i4)]) (by decide) rfl dX8_fill_41 ?_
    refine Y_aload_n C (pc := 43) 0 1 rfl rfl dX8_fill_43 ?_
    refine Y_getR C (pc := 44) hk0 q_fi_RX8_12 (by decide) dX8_fill_44 ?_
    refine Y_aload C (pc := 47) 0 rfl dX8_fill_47 ?_
    refine Y_iload_n C (pc := 49) 2 3 rfl rfl dX8_fill_49 ?_
    refine Y_iload_n C (pc := 50) 3 4 rfl rfl dX8_fill_50 ?_
    obtain ⟨v9, hv9, h⟩ := Option.bind_eq_some_iff.mp h
    refine Y_callV C [.ref (ρ v8), .int i2, .int i3] [] [] (q_kr_8_0 hk0) rfl rfl (c_X6_scatter hI (q_kr_8_0 hk0) (rk_X6_tableOf (q_kr_8_0 hk0) hv8).1 (rk_X6_tableOf (q_kr_8_0 hk0) hv8).2 hv9) (fun _ h => Or.inl h) q_cw_yX6_scatter q_ml_RX8_104 ⟨q_im_yX6_scatter, q_se_yX6_scatter⟩ ⟨⟨Nat.le_of_ble_eq_true rfl, Nat.le_of_ble_eq_true rfl⟩, ⟨Nat.zero_le _, Nat.zero_le _⟩, Nat.le_of_ble_eq_true rfl⟩ rfl rfl rfl dX8_fill_51 ?_
    refine Y_iload C (pc := 54) 5 rfl dX8_fill_54 ?_
    refine Y_if_eq C (pc := 56) (tgt := 68) dX8_fill_56 (by decide) (fun c13 => ?_) (fun c13 => ?_)
    · rw [if_pos c13] at h
      exact Y_sub [1, 0] rfl (hJ68 _ ((rk_X6_tableOf (q_kr_8_0 hk0) hv8).1) ((rk_X6_tableOf (q_kr_8_0 hk0) hv8).2) _ h)
    · rw [if_neg c13] at h
      refine Y_aload_n C (pc := 59) 0 1 rfl rfl dX8_fill_59 ?_
      refine Y_getR C (pc := 60) hk0 q_fi_RX8_12 (by decide) dX8_fill_60 ?_
      refine Y_aload C (pc := 63) 0 rfl dX8_fill_63 ?_
      obtain ⟨v12, hv12, h⟩ := Option.bind_eq_some_iff.mp h
      refine Y_callV C [.ref (ρ v8)] [] [] (q_kr_8_0 hk0) rfl rfl (c_X6_mirror hI (q_kr_8_0 hk0) (rk_X6_tableOf (q_kr_8_0 hk0) hv8).1 (rk_X6_tableOf (q_kr_8_0 hk0) hv8).2 hv12) (fun _ h => Or.inl h) q_cw_yX6_mirror q_ml_RX8_108 ⟨q_im_yX6_mirror, q_se_yX6_mirror⟩ ⟨⟨Nat.le_of_ble_eq_true rfl, Nat.le_of_ble_eq_true rfl⟩, ⟨Nat.zero_le _, Nat.zero_le _⟩, Nat.le_of_ble_eq_true rfl⟩ rfl rfl rfl dX8_fill_65 ?_
      exact Y_sub [1, 0] rfl (hJ68 _ ((rk_X6_tableOf (q_kr_8_0 hk0) hv8).1) ((rk_X6_tableOf (q_kr_8_0 hk0) hv8).2) _ h)
  · rw [if_neg c14] at h
    cases h
    exact Y_throw (σ0 := σ) (τ0 := τ) (E := "java/lang/IllegalArgumentException") (pc := 12) C X hno (by decide +kernel) q_cl_RX8_62 q_ix_0 q_sr_RX8_102 q_at_RX8_66 dX8_fill_12 dX8_fill_15 dX8_fill_16 dX8_fill_18 dX8_fill_21 ⟨Nat.le_of_ble_eq_true rfl, Nat.le_of_ble_eq_true rfl, Nat.le_of_ble_eq_true rfl, Nat.le_of_ble_eq_true rfl⟩ (fun _ h => Or.inr h)

set_option maxRecDepth 100000 in
set_option maxHeartbeats 4000000 in
theorem c_X8_location {l : Launch} {D : va_G} {cA ρ : Nat → Nat} {σ : Sg} {τ : Tg} {k0 : Nat} {i1 : Int32} (hk0 : kd k0 = (0, 8)) {r : Int32} (h : f_X8_location σ k0 i1 = some (.inr r)) : Ct l yX8_location cX8_location 2 (some .int) 1 21 D cA ρ A0 [.ref (ρ k0), .int i1] σ τ (some (.int r)) σ τ := by
  refine Ct_of (by decide +kernel) (Nat.le_of_ble_eq_true rfl) (fun p e s m args below meth c C => ?_)
  have C : Ctx p l s m args meth c cX8_location RX8 2 (some .int) D cA ρ A0 := C
  unfold f_X8_location at h
  refine Y_sub [0, 1] (lv' := [(0, .ref (ρ k0)), (1, .int i1)]) rfl ?_
  refine Y_aload_n C (pc := 0) 0 0 rfl rfl dX8_location_0 ?_
  refine Y_iload_n C (pc := 1) 1 1 rfl rfl dX8_location_1 ?_
  obtain ⟨v1, hv1, h⟩ := Option.bind_eq_some_iff.mp h
  rcases v1 with n2 | w3
  · simp only [Sum.elim_inl] at h
    cases h
  simp only [Sum.elim_inr] at h
  refine Y_callV C [.int i1] [] [] hk0 rfl rfl (c_X8_requireIndex hk0 hv1) (fun _ h => h.elim) q_cw_yX8_requireIndex q_ml_RX8_81 ⟨q_im_yX8_requireIndex, q_se_yX8_requireIndex⟩ ⟨⟨Nat.le_of_ble_eq_true rfl, Nat.le_of_ble_eq_true rfl⟩, ⟨Nat.zero_le _, Nat.zero_le _⟩, Nat.le_of_ble_eq_true rfl⟩ rfl rfl rfl dX8_location_2 ?_
  refine Y_aload_n C (pc := 5) 0 0 rfl rfl dX8_location_5 ?_
  refine Y_getR C (pc := 6) hk0 q_fi_RX8_12 (by decide) dX8_location_6 ?_
  refine Y_getR C (pc := 9) (q_kr_8_0 hk0) q_fi_RX8_116 (by decide) dX8_location_9 ?_
  refine Y_iload_n C (pc := 12) 1 1 rfl rfl dX8_location_12 ?_
  obtain ⟨v4, hv4, h⟩ := Option.bind_eq_some_iff.mp h
  refine Y_callS C [.ref (ρ ((k0 + 1) + 4)), .int i1] [] [.int v4] (c_X8_item (q_kr_6_4 (q_kr_8_0 hk0)) hv4) (fun _ h => h.elim) q_cw_yX8_item q_ml_RX8_119 q_st_yX8_item ⟨⟨Nat.le_of_ble_eq_true rfl, Nat.le_of_ble_eq_true rfl⟩, ⟨Nat.zero_le _, Nat.zero_le _⟩, Nat.le_of_ble_eq_true rfl⟩ rfl rfl rfl dX8_location_13 ?_
  cases h
  exact Y_iret C dX8_location_16
set_option maxRecDepth 100000 in
set_option maxHeartbeats 4000000 in
theorem t_X8_location {l : Launch} {D : va_G} {cA ρ : Nat → Nat} {σ : Sg} {τ : Tg} {k0 : Nat} {i1 : Int32} (hk0 : kd k0 = (0, 8)) {r : Nat} (h : f_X8_location σ k0 i1 = some (.inl r)) : CtT l yX8_location cX8_location 2 (some .int) 7 111 D cA ρ [.ref (ρ k0), .int i1] σ τ (xn r) σ τ := by
  refine CtT_of (by decide +kernel) (Nat.le_of_ble_eq_true rfl) (fun p e s m args below meth c C X hno => ?_)
  have C : Ctx p l s m args meth c cX8_location RX8 2 (some .int) D cA ρ (Ax ρ s.heap.size) := C
  unfold f_X8_location at h
  refine Y_sub [0, 1] (lv' := [(0, .ref (ρ k0)), (1, .int i1)]) rfl ?_
  refine Y_aload_n C (pc := 0) 0 0 rfl rfl dX8_location_0 ?_
  refine Y_iload_n C (pc := 1) 1 1 rfl rfl dX8_location_1 ?_
  obtain ⟨v1, hv1, h⟩ := Option.bind_eq_some_iff.mp h
  rcases v1 with n2 | w3
  · simp only [Sum.elim_inl] at h
    cases h
    exact Y_callVT C X hno (pc := 2) [.int i1] [] hk0 rfl rfl (t_X8_requireIndex hk0 hv1) q_cw_yX8_requireIndex q_ml_RX8_81 ⟨q_im_yX8_requireIndex, q_se_yX8_requireIndex⟩ ⟨⟨Nat.le_of_ble_eq_true rfl, Nat.le_of_ble_eq_true rfl⟩, ⟨Nat.le_of_ble_eq_true rfl, Nat.le_of_ble_eq_true rfl⟩, Nat.le_of_ble_eq_true rfl⟩ rfl rfl dX8_location_2
  simp only [Sum.elim_inr] at h
  refine Y_callV C [.int i1] [] [] hk0 rfl rfl (c_X8_requireIndex hk0 hv1) (fun _ h => h.elim) q_cw_yX8_requireIndex q_ml_RX8_81 ⟨q_im_yX8_requireIndex, q_se_yX8_requireIndex⟩ ⟨⟨Nat.le_of_ble_eq_true rfl, Nat.le_of_ble_eq_true rfl⟩, ⟨Nat.zero_le _, Nat.zero_le _⟩, Nat.le_of_ble_eq_true rfl⟩ rfl rfl rfl dX8_location_2 ?_
  refine Y_aload_n C (pc := 5) 0 0 rfl rfl dX8_location_5 ?_
  refine Y_getR C (pc := 6) hk0 q_fi_RX8_12 (by decide) dX8_location_6 ?_
  refine Y_getR C (pc := 9) (q_kr_8_0 hk0) q_fi_RX8_116 (by decide) dX8_location_9 ?_
  refine Y_iload_n C (pc := 12) 1 1 rfl rfl dX8_location_12 ?_
  obtain ⟨v4, hv4, h⟩ := Option.bind_eq_some_iff.mp h
  refine Y_callS C [.ref (ρ ((k0 + 1) + 4)), .int i1] [] [.int v4] (c_X8_item (q_kr_6_4 (q_kr_8_0 hk0)) hv4) (fun _ h => h.elim) q_cw_yX8_item q_ml_RX8_119 q_st_yX8_item ⟨⟨Nat.le_of_ble_eq_true rfl, Nat.le_of_ble_eq_true rfl⟩, ⟨Nat.zero_le _, Nat.zero_le _⟩, Nat.le_of_ble_eq_true rfl⟩ rfl rfl rfl dX8_location_13 ?_
  cases h

set_option maxRecDepth 100000 in
set_option maxHeartbeats 4000000 in
theorem c_X8_cost {l : Launch} {D : va_G} {cA ρ : Nat → Nat} {σ : Sg} {τ : Tg} {k0 : Nat} (hk0 : kd k0 = (0, 8)) {r : Int32} (h : f_X8_cost σ k0 = some r) : Ct l yX8_cost cX8_cost 1 (some .int) 3 70 D cA ρ A0 [.ref (ρ k0)] σ τ (some (.int r)) σ τ := by
  refine Ct_of (by decide +kernel) (Nat.le_of_ble_eq_true rfl) (fun p e s m args below meth c C => ?_)
  have C : Ctx p l s m args meth c cX8_cost RX8 1 (some .int) D cA ρ A0 := C
  unfold f_X8_cost at h
  refine Y_sub [0] (lv' := [(0, .ref (ρ k0))]) rfl ?_
  refine Y_aload_n C (pc := 0) 0 0 rfl rfl dX8_cost_0 ?_
  refine Y_getR C (pc := 1) hk0 q_fi_RX8_12 (by decide) dX8_cost_1 ?_
  refine Y_aload_n C (pc := 4) 0 0 rfl rfl dX8_cost_4 ?_
  refine Y_getR C (pc := 5) hk0 q_fi_RX8_12 (by decide) dX8_cost_5 ?_
  refine Y_getR C (pc := 8) (q_kr_8_0 hk0) q_fi_RX8_116 (by decide) dX8_cost_8 ?_
  obtain ⟨v1, hv1, h⟩ := Option.bind_eq_some_iff.mp h
  refine Y_callV C [.ref (ρ ((k0 + 1) + 4))] [] [.int v1] (q_kr_8_0 hk0) rfl rfl (c_X6_costOf (q_kr_8_0 hk0) (q_kr_6_4 (q_kr_8_0 hk0)) hv1) (fun _ h => h.elim) q_cw_yX6_costOf q_ml_RX8_123 ⟨q_im_yX6_costOf, q_se_yX6_costOf⟩ ⟨⟨Nat.le_of_ble_eq_true rfl, Nat.le_of_ble_eq_true rfl⟩, ⟨Nat.zero_le _, Nat.zero_le _⟩, Nat.le_of_ble_eq_true rfl⟩ rfl rfl rfl dX8_cost_11 ?_
  cases h
  exact Y_iret C dX8_cost_14

set_option maxRecDepth 100000 in
set_option maxHeartbeats 4000000 in
theorem c_X8_freeLocation {l : Launch} {D : va_G} {cA ρ : Nat → Nat} {σ : Sg} {τ : Tg} {i0 : Int32} {i1 : Int32} {i2 : Int32}  {r : Int32} (h : f_X8_freeLocation i0 i1 i2 = some r) : Ct l yX8_freeLocation cX8_freeLocation 5 (some .int) 1 21 D cA ρ A0 [.int i0, .int i1, .int i2] σ τ (some (.int r)) σ τ := by
  refine Ct_of (by decide +kernel) (Nat.le_of_ble_eq_true rfl) (fun p e s m args below meth c C => ?_)
  have C : Ctx p l s m args meth c cX8_freeLocation RX8 5 (some .int) D cA ρ A0 := C
  unfold f_X8_freeLocation at h
  refine Y_sub [0, 1, 2] (lv' := [(0, .int i0), (1, .int i1), (2, .int i2)]) rfl ?_
  refine Y_iconst C (pc := 0) (v := (0 : Int32)) (by decide) dX8_freeLocation_0 ?_
  refine Y_istore_n C (pc := 1) (lv' := [(3, .int (0 : Int32)), (0, .int i0), (1, .int i1), (2, .int i2)]) 3 rfl (by decide) rfl dX8_freeLocation_1 ?_
  refine Y_iconst C (pc := 2) (v := (0 : Int32)) (by decide) dX8_freeLocation_2 ?_
  refine Y_istore C (pc := 3) (lv' := [(4, .int (0 : Int32)), (3, .int (0 : Int32)), (0, .int i0), (1, .int i1), (2, .int i2)]) (by decide) rfl dX8_freeLocation_3 ?_
  obtain ⟨e8, he8, h⟩ := Option.bind_eq_some_iff.mp h
  refine Y_sub [2, 3, 4, 1, 0] (lv' := [(0, .int i0), (1, .int i1), (2, .int i2), (3, .int (0 : Int32)), (4, .int (0 : Int32))]) rfl ?_
  refine lo_rule (f := (f_X8_freeLocation_L5 i1 i0 i2)) (YS := fun s1 => Y p l e (Rm 1 21) s m args below meth c 5 D cA ρ A0 0 0 (MQ below (QC D cA ρ A0 (some (.int r)) σ τ) args s 0 0 A0) σ τ 5 [(0, .int i0), (1, .int i1), (2, .int i2), (3, .int s1.1), (4, .int s1.2)] []) (YE := fun e8 => (∀ e9, e8 = (.inl e9) → Y p l e (Rm 1 21) s m args below meth c 5 D cA ρ A0 0 0 (MQ below (QC D cA ρ A0 (some (.int r)) σ τ) args s 0 0 A0) σ τ 25 [(4, .int e9)] []) ∧ (∀ e10, e8 = (.inr e10) → Y p l e (Rm 1 21) s m args below meth c 5 D cA ρ A0 0 0 (MQ below (QC D cA ρ A0 (some (.int r)) σ τ) args s 0 0 A0) σ τ 37 [] [])) ?_ he8 ?_
  · intro s1 x h hLp hE
    have hE0 : ∀ y, x = .inr (.inl y) → _ := fun y q => (hE _ q).1 y rfl
    have hE1 : ∀ y, x = .inr (.inr y) → _ := fun y q => (hE _ q).2 y rfl
    unfold f_X8_freeLocation_L5 at h
    have hJ31 : ∀ (j3 : Int32) (j4 : Int32), f_X8_freeLocation_J31 j3 j4 = some x → Y p l e (Rm 1 21) s m args below meth c 5 D cA ρ A0 0 0 (MQ below (QC D cA ρ A0 (some (.int r)) σ τ) args s 0 0 A0) σ τ 31 [(0, .int i0), (1, .int i1), (2, .int i2), (3, .int j3), (4, .int j4)] [] := by
      intro j3 j4 h
      unfold f_X8_freeLocation_J31 at h
      refine Y_iinc C (pc := 31) (v := (j4 + 1)) (lv' := [(4, .int (j4 + 1)), (0, .int i0), (1, .int i1), (2, .int i2), (3, .int j3)]) 4 rfl (congrArg (fun z => j4 + z) (by decide : Int32.ofInt (1) = (1))) (by decide) rfl dX8_freeLocation_31 ?_
      refine Y_goto C (pc := 34) (tgt := 5) dX8_freeLocation_34 (by decide) ?_
      have h := Option.some.inj h
      exact Y_sub [1, 2, 3, 4, 0] rfl (hLp _ h.symm)
    refine Y_iload C (pc := 5) 4 rfl dX8_freeLocation_5 ?_
    refine Y_iload_n C (pc := 7) 1 1 rfl rfl dX8_freeLocation_7 ?_
    refine Y_icmp_ge C (pc := 8) (tgt := 37) dX8_freeLocation_8 (by decide) (fun c7 => ?_) (fun c7 => ?_)
    · rw [if_pos c7] at h
      have h := Option.some.inj h
      exact Y_sub [] rfl (hE1 _ h.symm)
    · rw [if_neg c7] at h
      refine Y_iload_n C (pc := 11) 0 0 rfl rfl dX8_freeLocation_11 ?_
      refine Y_iload C (pc := 12) 4 rfl dX8_freeLocation_12 ?_
      obtain ⟨v2, hv2, h⟩ := Option.bind_eq_some_iff.mp h
      refine Y_callS C [.int i0, .int s1.2] [] [.int v2] (c_X8_has  hv2) (fun _ h => h.elim) q_cw_yX8_has q_ml_RX8_320 q_st_yX8_has ⟨⟨Nat.le_of_ble_eq_true rfl, Nat.le_of_ble_eq_true rfl⟩, ⟨Nat.zero_le _, Nat.zero_le _⟩, Nat.le_of_ble_eq_true rfl⟩ rfl rfl rfl dX8_freeLocation_14 ?_
      refine Y_if_ne C (pc := 17) (tgt := 31) dX8_freeLocation_17 (by decide) (fun c6 => ?_) (fun c6 => ?_)
      · rw [if_neg c6] at h
        exact Y_sub [0, 1, 2, 3, 4] rfl (hJ31 _ _ h)
      · rw [if_pos c6] at h
        refine Y_iload_n C (pc := 20) 3 3 rfl rfl dX8_freeLocation_20 ?_
        refine Y_iload_n C (pc := 21) 2 2 rfl rfl dX8_freeLocation_21 ?_
        refine Y_icmp_ne C (pc := 22) (tgt := 28) dX8_freeLocation_22 (by decide) (fun c5 => ?_) (fun c5 => ?_)
        · rw [if_neg c5] at h
          refine Y_iinc C (pc := 28) (v := (s1.1 + 1)) (lv' := [(3, .int (s1.1 + 1)), (0, .int i0), (1, .int i1), (2, .int i2), (4, .int s1.2)]) 3 rfl (congrArg (fun z => s1.1 + z) (by decide : Int32.ofInt (1) = (1))) (by decide) rfl dX8_freeLocation_28 ?_
          exact Y_sub [1, 2, 3, 0, 4] rfl (hJ31 _ _ h)
        · rw [if_pos c5] at h
          have h := Option.some.inj h
          exact Y_sub [4] rfl (hE0 _ h.symm)
  refine ⟨?_, ?_⟩
  · intro e9 q
    subst q
    simp only [Sum.elim_inl, Sum.elim_inr] at h
    refine Y_iload C (pc := 25) 0 rfl dX8_freeLocation_25 ?_
    cases h
    exact Y_iret C dX8_freeLocation_27
  · intro e10 q
    subst q
    simp only [Sum.elim_inl, Sum.elim_inr] at h
    refine Y_iconst C (pc := 37) (v := (0 : Int32)) (by decide) dX8_freeLocation_37 ?_
    cases h
    exact Y_iret C dX8_freeLocation_38

set_option maxRecDepth 100000 in
set_option maxHeartbeats 4000000 in
theorem c_X8_arrange {l : Launch} {D : va_G} {cA ρ : Nat → Nat} {σ : Sg} {τ : Tg} {i0 : Int32} {i1 : Int32} {k2 : Nat} (hI : Inj ρ) (hk2 : (kd k2).1 = 1) (hn2 : k2 < 97) {r : Sg} (h : f_X8_arrange σ i0 i1 k2 = some r) : Ct l yX8_arrange cX8_arrange 8 none 2 45 D cA ρ (Aw ρ) [.int i0, .int i1, .ref (ρ k2)] σ τ none r τ := by
  refine Ct_of (by decide +kernel) (Nat.le_of_ble_eq_true rfl) (fun p e s m args below meth c C => ?_)
  have C : Ctx p l s m args meth c cX8_arrange RX8 8 none D cA ρ (Aw ρ) := C
  have hW : Wr ρ (Aw ρ) := ⟨hI, fun k hk => ⟨k, hk, rfl⟩⟩
  unfold f_X8_arrange at h
  refine Y_sub [0, 1, 2] (lv' := [(0, .int i0), (1, .int i1), (2, .ref (ρ k2))]) rfl ?_
  refine Y_iload_n C (pc := 0) 0 0 rfl rfl dX8_arrange_0 ?_
  refine Y_istore_n C (pc := 1) (lv' := [(3, .int i0), (0, .int i0), (1, .int i1), (2, .ref (ρ k2))]) 3 rfl (by decide) rfl dX8_arrange_1 ?_
  refine Y_iconst C (pc := 2) (v := (0 : Int32)) (by decide) dX8_arrange_2 ?_
  refine Y_istore C (pc := 3) (lv' := [(4, .int (0 : Int32)), (3, .int i0), (0, .int i0), (1, .int i1), (2, .ref (ρ k2))]) (by decide) rfl dX8_arrange_3 ?_
  refine Y_iconst C (pc := 5) (v := (0 : Int32)) (by decide) dX8_arrange_5 ?_
  refine Y_istore C (pc := 6) (lv' := [(5, .int (0 : Int32)), (4, .int (0 : Int32)), (3, .int i0), (0, .int i0), (1, .int i1), (2, .ref (ρ k2))]) (by decide) rfl dX8_arrange_6 ?_
  obtain ⟨e8, he8, h⟩ := Option.bind_eq_some_iff.mp h
  refine Y_sub [4, 5, 2, 1, 0] (lv' := [(1, .int i1), (2, .ref (ρ k2)), (3, .int i0), (4, .int (0 : Int32)), (5, .int (0 : Int32))]) rfl ?_
  refine lo_rule (f := (f_X8_arrange_L8 i1 k2)) (YS := fun s1 => Y p l e (Rm 2 45) s m args below meth c 8 D cA ρ (Aw ρ) 0 0 (MQ below (QC D cA ρ (Aw ρ) none r τ) args s 0 0 (Aw ρ)) s1.2.2.2 τ 8 [(1, .int i1), (2, .ref (ρ k2)), (3, .int s1.1), (4, .int s1.2.1), (5, .int s1.2.2.1)] []) (YE := fun e8 => Y p l e (Rm 2 45) s m args below meth c 8 D cA ρ (Aw ρ) 0 0 (MQ below (QC D cA ρ (Aw ρ) none r τ) args s 0 0 (Aw ρ)) e8 τ 65 [] []) ?_ he8 ?_
  · intro s1 x h hLp hE
    unfold f_X8_arrange_L8 at h
    refine Y_iload C (pc := 8) 4 rfl dX8_arrange_8 ?_
    refine Y_iload_n C (pc := 10) 1 0 rfl rfl dX8_arrange_10 ?_
    refine Y_icmp_ge C (pc := 11) (tgt := 65) dX8_arrange_11 (by decide) (fun c7 => ?_) (fun c7 => ?_)
    · rw [if_pos c7] at h
      have h := Option.some.inj h
      exact Y_sub [] rfl (hE _ h.symm)
    · rw [if_neg c7] at h
      refine Y_iload_n C (pc := 14) 1 0 rfl rfl dX8_arrange_14 ?_
      refine Y_iconst C (pc := 15) (v := (1 : Int32)) (by decide) dX8_arrange_15 ?_
      refine Y_isub C (pc := 16) dX8_arrange_16 ?_
      refine Y_iload C (pc := 17) 4 rfl dX8_arrange_17 ?_
      refine Y_isub C (pc := 19) dX8_arrange_19 ?_
      obtain ⟨v2, hv2, h⟩ := Option.bind_eq_some_iff.mp h
      refine Y_callS C [.int ((i1 - (1 : Int32)) - s1.2.2.1)] [] [.int v2] (c_X8_factorial  hv2) (fun _ h => h.elim) q_cw_yX8_factorial q_ml_RX8_126 q_st_yX8_factorial ⟨⟨Nat.le_of_ble_eq_true rfl, Nat.le_of_ble_eq_true rfl⟩, ⟨Nat.zero_le _, Nat.zero_le _⟩, Nat.le_of_ble_eq_true rfl⟩ rfl rfl rfl dX8_arrange_20 ?_
      refine Y_istore C (pc := 23) (lv' := [(6, .int v2), (1, .int i1), (2, .ref (ρ k2)), (3, .int s1.1), (4, .int s1.2.1), (5, .int s1.2.2.1)]) (by decide) rfl dX8_arrange_23 ?_
      refine Y_iload C (pc := 25) 4 rfl dX8_arrange_25 ?_
      refine Y_iload_n C (pc := 27) 1 1 rfl rfl dX8_arrange_27 ?_
      refine Y_iload_n C (pc := 28) 3 3 rfl rfl dX8_arrange_28 ?_
      refine Y_iload C (pc := 29) 0 rfl dX8_arrange_29 ?_
      obtain ⟨v3, hv3, h⟩ := Option.bind_eq_some_iff.mp h
      refine Y_idiv C (pc := 31) hv3 dX8_arrange_31 ?_
      obtain ⟨v4, hv4, h⟩ := Option.bind_eq_some_iff.mp h
      refine Y_callS C [.int s1.2.1, .int i1, .int v3] [] [.int v4] (c_X8_freeLocation  hv4) (fun _ h => h.elim) q_cw_yX8_freeLocation q_ml_RX8_338 q_st_yX8_freeLocation ⟨⟨Nat.le_of_ble_eq_true rfl, Nat.le_of_ble_eq_true rfl⟩, ⟨Nat.zero_le _, Nat.zero_le _⟩, Nat.le_of_ble_eq_true rfl⟩ rfl rfl rfl dX8_arrange_32 ?_
      refine Y_istore C (pc := 35) (lv' := [(7, .int v4), (6, .int v2), (1, .int i1), (2, .ref (ρ k2)), (3, .int s1.1), (4, .int s1.2.1), (5, .int s1.2.2.1)]) (by decide) rfl dX8_arrange_35 ?_
      refine Y_aload_n C (pc := 37) 2 3 rfl rfl dX8_arrange_37 ?_
      refine Y_iload C (pc := 38) 6 rfl dX8_arrange_38 ?_
      refine Y_iload C (pc := 40) 0 rfl dX8_arrange_40 ?_
      obtain ⟨v5, hv5, h⟩ := Option.bind_eq_some_iff.mp h
      refine Y_callS C [.ref (ρ k2), .int s1.2.2.1, .int v4] [] [] (c_X8_setItem hI hk2 hn2 hv5) (fun _ h => h) q_cw_yX8_setItem q_ml_RX8_187 q_st_yX8_setItem ⟨⟨Nat.le_of_ble_eq_true rfl, Nat.le_of_ble_eq_true rfl⟩, ⟨Nat.zero_le _, Nat.zero_le _⟩, Nat.le_of_ble_eq_true rfl⟩ rfl rfl rfl dX8_arrange_42 ?_
      refine Y_iload C (pc := 45) 5 rfl dX8_arrange_45 ?_
      refine Y_iconst C (pc := 47) (v := (1 : Int32)) (by decide) dX8_arrange_47 ?_
      refine Y_iload C (pc := 48) 0 rfl dX8_arrange_48 ?_
      refine Y_ishl C (pc := 50) dX8_arrange_50 ?_
      refine Y_ior C (pc := 51) dX8_arrange_51 ?_
      refine Y_istore C (pc := 52) (lv' := [(4, .int (s1.2.1 ||| ((1 : Int32) <<< (v4 &&& 31)))), (7, .int v4), (6, .int v2), (1, .int i1), (2, .ref (ρ k2)), (3, .int s1.1), (5, .int s1.2.2.1)]) (by decide) rfl dX8_arrange_52 ?_
      refine Y_iload_n C (pc := 54) 3 5 rfl rfl dX8_arrange_54 ?_
      refine Y_iload C (pc := 55) 2 rfl dX8_arrange_55 ?_
      obtain ⟨v6, hv6, h⟩ := Option.bind_eq_some_iff.mp h
      refine Y_irem C (pc := 57) hv6 dX8_arrange_57 ?_
      refine Y_istore_n C (pc := 58) (lv' := [(3, .int v6), (4, .int (s1.2.1 ||| ((1 : Int32) <<< (v4 &&& 31)))), (7, .int v4), (6, .int v2), (1, .int i1), (2, .ref (ρ k2)), (5, .int s1.2.2.1)]) 3 rfl (by decide) rfl dX8_arrange_58 ?_
      refine Y_iinc C (pc := 59) (v := (s1.2.2.1 + 1)) (lv' := [(5, .int (s1.2.2.1 + 1)), (3, .int v6), (4, .int (s1.2.1 ||| ((1 : Int32) <<< (v4 &&& 31)))), (7, .int v4), (6, .int v2), (1, .int i1), (2, .ref (ρ k2))]) 6 rfl (congrArg (fun z => s1.2.2.1 + z) (by decide : Int32.ofInt (1) = (1))) (by decide) rfl dX8_arrange_59 ?_
      refine Y_goto C (pc := 62) (tgt := 8) dX8_arrange_62 (by decide) ?_
      have h := Option.some.inj h
      exact Y_sub [5, 6, 1, 2, 0] rfl (hLp _ h.symm)
  · cases h
    exact Y_vret C dX8_arrange_65

set_option maxRecDepth 100000 in
set_option maxHeartbeats 4000000 in
theorem c_X8_choose {l : Launch} {D : va_G} {cA ρ : Nat → Nat} {σ : Sg} {τ : Tg} {k0 : Nat} {i1 : Int32} (hI : Inj ρ) (hk0 : kd k0 = (0, 8)) {r : Int32 × Sg} (h : f_X8_choose σ k0 i1 = some (.inr r)) : Ct l yX8_choose cX8_choose 2 (some .int) 3 75 D cA ρ (Aw ρ) [.ref (ρ k0), .int i1] σ τ (some (.int r.1)) r.2 τ := by
  refine Ct_of (by decide +kernel) (Nat.le_of_ble_eq_true rfl) (fun p e s m args below meth c C => ?_)
  have C : Ctx p l s m args meth c cX8_choose RX8 2 (some .int) D cA ρ (Aw ρ) := C
  have hW : Wr ρ (Aw ρ) := ⟨hI, fun k hk => ⟨k, hk, rfl⟩⟩
  unfold f_X8_choose at h
  refine Y_sub [0, 1] (lv' := [(0, .ref (ρ k0)), (1, .int i1)]) rfl ?_
  refine Y_iload_n C (pc := 0) 1 1 rfl rfl dX8_choose_0 ?_
  refine Y_if_lt C (pc := 1) (tgt := 18) dX8_choose_1 (by decide) (fun c6 => ?_) (fun c6 => ?_)
  · rw [if_pos c6] at h
    cases h
  · rw [if_neg c6] at h
    refine Y_iload_n C (pc := 4) 1 1 rfl rfl dX8_choose_4 ?_
    refine Y_aload_n C (pc := 5) 0 0 rfl rfl dX8_choose_5 ?_
    refine Y_getR C (pc := 6) hk0 q_fi_RX8_12 (by decide) dX8_choose_6 ?_
    refine Y_getI C (pc := 9) (q_kr_8_0 hk0) q_fi_RX8_69 dX8_choose_9 ?_
    obtain ⟨v1, hv1, h⟩ := Option.bind_eq_some_iff.mp h
    refine Y_callS C [.int (σ (k0 + 1) 0)] [.int i1] [.int v1, .int i1] (c_X8_factorial  hv1) (fun _ h => h.elim) q_cw_yX8_factorial q_ml_RX8_126 q_st_yX8_factorial ⟨⟨Nat.le_of_ble_eq_true rfl, Nat.le_of_ble_eq_true rfl⟩, ⟨Nat.zero_le _, Nat.zero_le _⟩, Nat.le_of_ble_eq_true rfl⟩ rfl rfl rfl dX8_choose_12 ?_
    refine Y_icmp_lt C (pc := 15) (tgt := 28) dX8_choose_15 (by decide) (fun c5 => ?_) (fun c5 => ?_)
    · rw [if_pos c5] at h
      refine Y_aload_n C (pc := 28) 0 0 rfl rfl dX8_choose_28 ?_
      refine Y_getR C (pc := 29) hk0 q_fi_RX8_19 (by decide) dX8_choose_29 ?_
      refine Y_aload_n C (pc := 32) 0 0 rfl rfl dX8_choose_32 ?_
      refine Y_getR C (pc := 33) hk0 q_fi_RX8_12 (by decide) dX8_choose_33 ?_
      obtain ⟨v2, hv2, h⟩ := Option.bind_eq_some_iff.mp h
      refine Y_callV C [.ref (ρ (k0 + 1))] [] [] (q_kr_8_1 hk0) rfl rfl (c_X2_push hI (q_kr_8_1 hk0) (q_kr_8_0 hk0) hv2) (fun _ h => h) q_cw_yX2_push q_ml_RX8_73 ⟨q_im_yX2_push, q_se_yX2_push⟩ ⟨⟨Nat.le_of_ble_eq_true rfl, Nat.le_of_ble_eq_true rfl⟩, ⟨Nat.zero_le _, Nat.zero_le _⟩, Nat.le_of_ble_eq_true rfl⟩ rfl rfl rfl dX8_choose_36 ?_
      refine Y_iload_n C (pc := 39) 1 1 rfl rfl dX8_choose_39 ?_
      refine Y_aload_n C (pc := 40) 0 0 rfl rfl dX8_choose_40 ?_
      refine Y_getR C (pc := 41) hk0 q_fi_RX8_12 (by decide) dX8_choose_41 ?_
      refine Y_getI C (pc := 44) (q_kr_8_0 hk0) q_fi_RX8_69 dX8_choose_44 ?_
      refine Y_aload_n C (pc := 47) 0 0 rfl rfl dX8_choose_47 ?_
      refine Y_getR C (pc := 48) hk0 q_fi_RX8_12 (by decide) dX8_choose_48 ?_
      refine Y_getR C (pc := 51) (q_kr_8_0 hk0) q_fi_RX8_116 (by decide) dX8_choose_51 ?_
      obtain ⟨v3, hv3, h⟩ := Option.bind_eq_some_iff.mp h
      refine Y_callS C [.int i1, .int (v2 (k0 + 1) 0), .ref (ρ ((k0 + 1) + 4))] [] [] (c_X8_arrange hI (q_kr_6_4 (q_kr_8_0 hk0)) (q_lr_6_4 (q_kr_8_0 hk0)) hv3) (fun _ h => h) q_cw_yX8_arrange q_ml_RX8_135 q_st_yX8_arrange ⟨⟨Nat.le_of_ble_eq_true rfl, Nat.le_of_ble_eq_true rfl⟩, ⟨Nat.zero_le _, Nat.zero_le _⟩, Nat.le_of_ble_eq_true rfl⟩ rfl rfl rfl dX8_choose_54 ?_
      refine Y_aload_n C (pc := 57) 0 0 rfl rfl dX8_choose_57 ?_
      refine Y_getR C (pc := 58) hk0 q_fi_RX8_12 (by decide) dX8_choose_58 ?_
      refine Y_aload_n C (pc := 61) 0 0 rfl rfl dX8_choose_61 ?_
      refine Y_getR C (pc := 62) hk0 q_fi_RX8_12 (by decide) dX8_choose_62 ?_
      refine Y_getR C (pc := 65) (q_kr_8_0 hk0) q_fi_RX8_116 (by decide) dX8_choose_65 ?_
      obtain ⟨v4, hv4, h⟩ := Option.bind_eq_some_iff.mp h
      refine Y_callV C [.ref (ρ ((k0 + 1) + 4))] [] [.int v4] (q_kr_8_0 hk0) rfl rfl (c_X6_costOf (q_kr_8_0 hk0) (q_kr_6_4 (q_kr_8_0 hk0)) hv4) (fun _ h => h.elim) q_cw_yX6_costOf q_ml_RX8_123 ⟨q_im_yX6_costOf, q_se_yX6_costOf⟩ ⟨⟨Nat.le_of_ble_eq_true rfl, Nat.le_of_ble_eq_true rfl⟩, ⟨Nat.zero_le _, Nat.zero_le _⟩, Nat.le_of_ble_eq_true rfl⟩ rfl rfl rfl dX8_choose_68 ?_
      cases h
      exact Y_iret C dX8_choose_71
    · rw [if_neg c5] at h
      cases h
set_option maxRecDepth 100000 in
set_option maxHeartbeats 4000000 in
theorem t_X8_choose {l : Launch} {D : va_G} {cA ρ : Nat → Nat} {σ : Sg} {τ : Tg} {k0 : Nat} {i1 : Int32} (hI : Inj ρ) (hk0 : kd k0 = (0, 8)) {r : Nat × Sg} (h : f_X8_choose σ k0 i1 = some (.inl r)) : CtT l yX8_choose cX8_choose 2 (some .int) 6 90 D cA ρ [.ref (ρ k0), .int i1] σ τ (xn r.1) r.2 τ := by
  refine CtT_of (by decide +kernel) (Nat.le_of_ble_eq_true rfl) (fun p e s m args below meth c C X hno => ?_)
  have C : Ctx p l s m args meth c cX8_choose RX8 2 (some .int) D cA ρ (Ax ρ s.heap.size) := C
  have hW : Wr ρ (Ax ρ s.heap.size) := ⟨hI, fun k hk => Or.inl ⟨k, hk, rfl⟩⟩
  unfold f_X8_choose at h
  refine Y_sub [0, 1] (lv' := [(0, .ref (ρ k0)), (1, .int i1)]) rfl ?_
  refine Y_iload_n C (pc := 0) 1 1 rfl rfl dX8_choose_0 ?_
  refine Y_if_lt C (pc := 1) (tgt := 18) dX8_choose_1 (by decide) (fun c6 => ?_) (fun c6 => ?_)
  · rw [if_pos c6] at h
    cases h
    exact Y_throw (σ0 := σ) (τ0 := τ) (E := "java/lang/IndexOutOfBoundsException") (pc := 18) C X hno (by decide +kernel) q_cl_RX8_130 q_ix_2 q_sr_RX8_132 q_at_RX8_134 dX8_choose_18 dX8_choose_21 dX8_choose_22 dX8_choose_24 dX8_choose_27 ⟨Nat.le_of_ble_eq_true rfl, Nat.le_of_ble_eq_true rfl, Nat.le_of_ble_eq_true rfl, Nat.le_of_ble_eq_true rfl⟩ (fun _ h => Or.inr h)
  · rw [if_neg c6] at h
    refine Y_iload_n C (pc := 4) 1 1 rfl rfl dX8_choose_4 ?_
    refine Y_aload_n C (pc := 5) 0 0 rfl rfl dX8_choose_5 ?_
    refine Y_getR C (pc := 6) hk0 q_fi_RX8_12 (by decide) dX8_choose_6 ?_
    refine Y_getI C (pc := 9) (q_kr_8_0 hk0) q_fi_RX8_69 dX8_choose_9 ?_
    obtain ⟨v1, hv1, h⟩ := Option.bind_eq_some_iff.mp h
    refine Y_callS C [.int (σ (k0 + 1) 0)] [.int i1] [.int v1, .int i1] (c_X8_factorial  hv1) (fun _ h => h.elim) q_cw_yX8_factorial q_ml_RX8_126 q_st_yX8_factorial ⟨⟨Nat.le_of_ble_eq_true rfl, Nat.le_of_ble_eq_true rfl⟩, ⟨Nat.zero_le _, Nat.zero_le _⟩, Nat.le_of_ble_eq_true rfl⟩ rfl rfl rfl dX8_choose_12 ?_
    refine Y_icmp_lt C (pc := 15) (tgt := 28) dX8_choose_15 (by decide) (fun c5 => ?_) (fun c5 => ?_)
    · rw [if_pos c5] at h
      refine Y_aload_n C (pc := 28) 0 0 rfl rfl dX8_choose_28 ?_
      refine Y_getR C (pc := 29) hk0 q_fi_RX8_19 (by decide) dX8_choose_29 ?_
      refine Y_aload_n C (pc := 32) 0 0 rfl rfl dX8_choose_32 ?_
      refine Y_getR C (pc := 33) hk0 q_fi_RX8_12 (by decide) dX8_choose_33 ?_
      obtain ⟨v2, hv2, h⟩ := Option.bind_eq_some_iff.mp h
      refine Y_callV C [.ref (ρ (k0 + 1))] [] [] (q_kr_8_1 hk0) rfl rfl (c_X2_push hI (q_kr_8_1 hk0) (q_kr_8_0 hk0) hv2) (fun _ h => Or.inl h) q_cw_yX2_push q_ml_RX8_73 ⟨q_im_yX2_push, q_se_yX2_push⟩ ⟨⟨Nat.le_of_ble_eq_true rfl, Nat.le_of_ble_eq_true rfl⟩, ⟨Nat.zero_le _, Nat.zero_le _⟩, Nat.le_of_ble_eq_true rfl⟩ rfl rfl rfl dX8_choose_36 ?_
      refine Y_iload_n C (pc := 39) 1 1 rfl rfl dX8_choose_39 ?_
      refine Y_aload_n C (pc := 40) 0 0 rfl rfl dX8_choose_40 ?_
      refine Y_getR C (pc := 41) hk0 q_fi_RX8_12 (by decide) dX8_choose_41 ?_
      refine Y_getI C (pc := 44) (q_kr_8_0 hk0) q_fi_RX8_69 dX8_choose_44 ?_
      refine Y_aload_n C (pc := 47) 0 0 rfl rfl dX8_choose_47 ?_
      refine Y_getR C (pc := 48) hk0 q_fi_RX8_12 (by decide) dX8_choose_48 ?_
      refine Y_getR C (pc := 51) (q_kr_8_0 hk0) q_fi_RX8_116 (by decide) dX8_choose_51 ?_
      obtain ⟨v3, hv3, h⟩ := Option.bind_eq_some_iff.mp h
      refine Y_callS C [.int i1, .int (v2 (k0 + 1) 0), .ref (ρ ((k0 + 1) + 4))] [] [] (c_X8_arrange hI (q_kr_6_4 (q_kr_8_0 hk0)) (q_lr_6_4 (q_kr_8_0 hk0)) hv3) (fun _ h => Or.inl h) q_cw_yX8_arrange q_ml_RX8_135 q_st_yX8_arrange ⟨⟨Nat.le_of_ble_eq_true rfl, Nat.le_of_ble_eq_true rfl⟩, ⟨Nat.zero_le _, Nat.zero_le _⟩, Nat.le_of_ble_eq_true rfl⟩ rfl rfl rfl dX8_choose_54 ?_
      refine Y_aload_n C (pc := 57) 0 0 rfl rfl dX8_choose_57 ?_
      refine Y_getR C (pc := 58) hk0 q_fi_RX8_12 (by decide) dX8_choose_58 ?_
      refine Y_aload_n C (pc := 61) 0 0 rfl rfl dX8_choose_61 ?_
      refine Y_getR C (pc := 62) hk0 q_fi_RX8_12 (by decide) dX8_choose_62 ?_
      refine Y_getR C (pc := 65) (q_kr_8_0 hk0) q_fi_RX8_116 (by decide) dX8_choose_65 ?_
      obtain ⟨v4, hv4, h⟩ := Option.bind_eq_some_iff.mp h
      refine Y_callV C [.ref (ρ ((k0 + 1) + 4))] [] [.int v4] (q_kr_8_0 hk0) rfl rfl (c_X6_costOf (q_kr_8_0 hk0) (q_kr_6_4 (q_kr_8_0 hk0)) hv4) (fun _ h => h.elim) q_cw_yX6_costOf q_ml_RX8_123 ⟨q_im_yX6_costOf, q_se_yX6_costOf⟩ ⟨⟨Nat.le_of_ble_eq_true rfl, Nat.le_of_ble_eq_true rfl⟩, ⟨Nat.zero_le _, Nat.zero_le _⟩, Nat.le_of_ble_eq_true rfl⟩ rfl rfl rfl dX8_choose_68 ?_
      cases h
    · rw [if_neg c5] at h
      cases h
      exact Y_throw (σ0 := σ) (τ0 := τ) (E := "java/lang/IndexOutOfBoundsException") (pc := 18) C X hno (by decide +kernel) q_cl_RX8_130 q_ix_2 q_sr_RX8_132 q_at_RX8_134 dX8_choose_18 dX8_choose_21 dX8_choose_22 dX8_choose_24 dX8_choose_27 ⟨Nat.le_of_ble_eq_true rfl, Nat.le_of_ble_eq_true rfl, Nat.le_of_ble_eq_true rfl, Nat.le_of_ble_eq_true rfl⟩ (fun _ h => Or.inr h)

set_option maxRecDepth 100000 in
set_option maxHeartbeats 4000000 in
theorem c_X8_number {l : Launch} {D : va_G} {cA ρ : Nat → Nat} {σ : Sg} {τ : Tg} {k0 : Nat} (hk0 : kd k0 = (0, 8)) {r : Int32} (h : f_X8_number σ k0 = some r) : Ct l yX8_number cX8_number 1 (some .int) 3 66 D cA ρ A0 [.ref (ρ k0)] σ τ (some (.int r)) σ τ := by
  refine Ct_of (by decide +kernel) (Nat.le_of_ble_eq_true rfl) (fun p e s m args below meth c C => ?_)
  have C : Ctx p l s m args meth c cX8_number RX8 1 (some .int) D cA ρ A0 := C
  unfold f_X8_number at h
  refine Y_sub [0] (lv' := [(0, .ref (ρ k0))]) rfl ?_
  refine Y_aload_n C (pc := 0) 0 0 rfl rfl dX8_number_0 ?_
  refine Y_getR C (pc := 1) hk0 q_fi_RX8_12 (by decide) dX8_number_1 ?_
  refine Y_getR C (pc := 4) (q_kr_8_0 hk0) q_fi_RX8_116 (by decide) dX8_number_4 ?_
  refine Y_aload_n C (pc := 7) 0 0 rfl rfl dX8_number_7 ?_
  refine Y_getR C (pc := 8) hk0 q_fi_RX8_12 (by decide) dX8_number_8 ?_
  refine Y_getI C (pc := 11) (q_kr_8_0 hk0) q_fi_RX8_69 dX8_number_11 ?_
  obtain ⟨v1, hv1, h⟩ := Option.bind_eq_some_iff.mp h
  refine Y_callS C [.ref (ρ ((k0 + 1) + 4)), .int (σ (k0 + 1) 0)] [] [.int v1] (c_X8_numberOf (q_kr_6_4 (q_kr_8_0 hk0)) hv1) (fun _ h => h.elim) q_cw_yX8_numberOf q_ml_RX8_139 q_st_yX8_numberOf ⟨⟨Nat.le_of_ble_eq_true rfl, Nat.le_of_ble_eq_true rfl⟩, ⟨Nat.zero_le _, Nat.zero_le _⟩, Nat.le_of_ble_eq_true rfl⟩ rfl rfl rfl dX8_number_14 ?_
  cases h
  exact Y_iret C dX8_number_17

set_option maxRecDepth 100000 in
set_option maxHeartbeats 4000000 in
theorem c_X8_exchange {l : Launch} {D : va_G} {cA ρ : Nat → Nat} {σ : Sg} {τ : Tg} {k0 : Nat} {i1 : Int32} {i2 : Int32} (hI : Inj ρ) (hk0 : kd k0 = (0, 8)) {r : Int32 × Sg} (h : f_X8_exchange σ k0 i1 i2 = some (.inr r)) : Ct l yX8_exchange cX8_exchange 4 (some .int) 3 75 D cA ρ (Aw ρ) [.ref (ρ k0), .int i1, .int i2] σ τ (some (.int r.1)) r.2 τ := by
  refine Ct_of (by decide +kernel) (Nat.le_of_ble_eq_true rfl) (fun p e s m args below meth c C => ?_)
  have C : Ctx p l s m args meth c cX8_exchange RX8 4 (some .int) D cA ρ (Aw ρ) := C
  have hW : Wr ρ (Aw ρ) := ⟨hI, fun k hk => ⟨k, hk, rfl⟩⟩
  unfold f_X8_exchange at h
  refine Y_sub [0, 1, 2] (lv' := [(0, .ref (ρ k0)), (1, .int i1), (2, .int i2)]) rfl ?_
  refine Y_aload_n C (pc := 0) 0 0 rfl rfl dX8_exchange_0 ?_
  refine Y_iload_n C (pc := 1) 1 1 rfl rfl dX8_exchange_1 ?_
  obtain ⟨v1, hv1, h⟩ := Option.bind_eq_some_iff.mp h
  rcases v1 with n2 | w3
  · simp only [Sum.elim_inl] at h
    cases h
  simp only [Sum.elim_inr] at h
  refine Y_callV C [.int i1] [] [] hk0 rfl rfl (c_X8_requireIndex hk0 hv1) (fun _ h => h.elim) q_cw_yX8_requireIndex q_ml_RX8_81 ⟨q_im_yX8_requireIndex, q_se_yX8_requireIndex⟩ ⟨⟨Nat.le_of_ble_eq_true rfl, Nat.le_of_ble_eq_true rfl⟩, ⟨Nat.zero_le _, Nat.zero_le _⟩, Nat.le_of_ble_eq_true rfl⟩ rfl rfl rfl dX8_exchange_2 ?_
  refine Y_aload_n C (pc := 5) 0 0 rfl rfl dX8_exchange_5 ?_
  refine Y_iload_n C (pc := 6) 2 2 rfl rfl dX8_exchange_6 ?_
  obtain ⟨v4, hv4, h⟩ := Option.bind_eq_some_iff.mp h
  rcases v4 with n5 | w6
  · simp only [Sum.elim_inl] at h
    cases h
  simp only [Sum.elim_inr] at h
  refine Y_callV C [.int i2] [] [] hk0 rfl rfl (c_X8_requireIndex hk0 hv4) (fun _ h => h.elim) q_cw_yX8_requireIndex q_ml_RX8_81 ⟨q_im_yX8_requireIndex, q_se_yX8_requireIndex⟩ ⟨⟨Nat.le_of_ble_eq_true rfl, Nat.le_of_ble_eq_true rfl⟩, ⟨Nat.zero_le _, Nat.zero_le _⟩, Nat.le_of_ble_eq_true rfl⟩ rfl rfl rfl dX8_exchange_7 ?_
  refine Y_aload_n C (pc := 10) 0 0 rfl rfl dX8_exchange_10 ?_
  refine Y_getR C (pc := 11) hk0 q_fi_RX8_12 (by decide) dX8_exchange_11 ?_
  refine Y_aload_n C (pc := 14) 0 0 rfl rfl dX8_exchange_14 ?_
  refine Y_getR C (pc := 15) hk0 q_fi_RX8_12 (by decide) dX8_exchange_15 ?_
  refine Y_getR C (pc := 18) (q_kr_8_0 hk0) q_fi_RX8_116 (by decide) dX8_exchange_18 ?_
  refine Y_iload_n C (pc := 21) 1 1 rfl rfl dX8_exchange_21 ?_
  refine Y_iload_n C (pc := 22) 2 2 rfl rfl dX8_exchange_22 ?_
  obtain ⟨v7, hv7, h⟩ := Option.bind_eq_some_iff.mp h
  refine Y_callV C [.ref (ρ ((k0 + 1) + 4)), .int i1, .int i2] [] [.int v7] (q_kr_8_0 hk0) rfl rfl (c_X6_gainOf (q_kr_8_0 hk0) (q_kr_6_4 (q_kr_8_0 hk0)) hv7) (fun _ h => h.elim) q_cw_yX6_gainOf q_ml_RX8_142 ⟨q_im_yX6_gainOf, q_se_yX6_gainOf⟩ ⟨⟨Nat.le_of_ble_eq_true rfl, Nat.le_of_ble_eq_true rfl⟩, ⟨Nat.zero_le _, Nat.zero_le _⟩, Nat.le_of_ble_eq_true rfl⟩ rfl rfl rfl dX8_exchange_23 ?_
  refine Y_istore_n C (pc := 26) (lv' := [(3, .int v7), (0, .ref (ρ k0)), (1, .int i1), (2, .int i2)]) 3 rfl (by decide) rfl dX8_exchange_26 ?_
  refine Y_aload_n C (pc := 27) 0 1 rfl rfl dX8_exchange_27 ?_
  refine Y_getR C (pc := 28) hk0 q_fi_RX8_19 (by decide) dX8_exchange_28 ?_
  refine Y_aload_n C (pc := 31) 0 1 rfl rfl dX8_exchange_31 ?_
  refine Y_getR C (pc := 32) hk0 q_fi_RX8_12 (by decide) dX8_exchange_32 ?_
  obtain ⟨v8, hv8, h⟩ := Option.bind_eq_some_iff.mp h
  refine Y_callV C [.ref (ρ (k0 + 1))] [] [] (q_kr_8_1 hk0) rfl rfl (c_X2_push hI (q_kr_8_1 hk0) (q_kr_8_0 hk0) hv8) (fun _ h => h) q_cw_yX2_push q_ml_RX8_73 ⟨q_im_yX2_push, q_se_yX2_push⟩ ⟨⟨Nat.le_of_ble_eq_true rfl, Nat.le_of_ble_eq_true rfl⟩, ⟨Nat.zero_le _, Nat.zero_le _⟩, Nat.le_of_ble_eq_true rfl⟩ rfl rfl rfl dX8_exchange_35 ?_
  refine Y_aload_n C (pc := 38) 0 1 rfl rfl dX8_exchange_38 ?_
  refine Y_getR C (pc := 39) hk0 q_fi_RX8_12 (by decide) dX8_exchange_39 ?_
  refine Y_getR C (pc := 42) (q_kr_8_0 hk0) q_fi_RX8_116 (by decide) dX8_exchange_42 ?_
  refine Y_iload_n C (pc := 45) 1 2 rfl rfl dX8_exchange_45 ?_
  refine Y_iload_n C (pc := 46) 2 3 rfl rfl dX8_exchange_46 ?_
  obtain ⟨v9, hv9, h⟩ := Option.bind_eq_some_iff.mp h
  refine Y_callS C [.ref (ρ ((k0 + 1) + 4)), .int i1, .int i2] [] [] (c_X8_swap hI (q_kr_6_4 (q_kr_8_0 hk0)) (q_lr_6_4 (q_kr_8_0 hk0)) hv9) (fun _ h => h) q_cw_yX8_swap q_ml_RX8_145 q_st_yX8_swap ⟨⟨Nat.le_of_ble_eq_true rfl, Nat.le_of_ble_eq_true rfl⟩, ⟨Nat.zero_le _, Nat.zero_le _⟩, Nat.le_of_ble_eq_true rfl⟩ rfl rfl rfl dX8_exchange_47 ?_
  refine Y_iload_n C (pc := 50) 3 0 rfl rfl dX8_exchange_50 ?_
  cases h
  exact Y_iret C dX8_exchange_51
set_option maxRecDepth 100000 in
set_option maxHeartbeats 4000000 in
theorem t_X8_exchange {l : Launch} {D : va_G} {cA ρ : Nat → Nat} {σ : Sg} {τ : Tg} {k0 : Nat} {i1 : Int32} {i2 : Int32} (hI : Inj ρ) (hk0 : kd k0 = (0, 8)) {r : Nat × Sg} (h : f_X8_exchange σ k0 i1 i2 = some (.inl r)) : CtT l yX8_exchange cX8_exchange 4 (some .int) 7 111 D cA ρ [.ref (ρ k0), .int i1, .int i2] σ τ (xn r.1) r.2 τ := by
  refine CtT_of (by decide +kernel) (Nat.le_of_ble_eq_true rfl) (fun p e s m args below meth c C X hno => ?_)
  have C : Ctx p l s m args meth c cX8_exchange RX8 4 (some .int) D cA ρ (Ax ρ s.heap.size) := C
  have hW : Wr ρ (Ax ρ s.heap.size) := ⟨hI, fun k hk => Or.inl ⟨k, hk, rfl⟩⟩
  unfold f_X8_exchange at h
  refine Y_sub [0, 1, 2] (lv' := [(0, .ref (ρ k0)), (1, .int i1), (2, .int i2)]) rfl ?_
  refine Y_aload_n C (pc := 0) 0 0 rfl rfl dX8_exchange_0 ?_
  refine Y_iload_n C (pc := 1) 1 1 rfl rfl dX8_exchange_1 ?_
  obtain ⟨v1, hv1, h⟩ := Option.bind_eq_some_iff.mp h
  rcases v1 with n2 | w3
  · simp only [Sum.elim_inl] at h
    cases h
    exact Y_callVT C X hno (pc := 2) [.int i1] [] hk0 rfl rfl (t_X8_requireIndex hk0 hv1) q_cw_yX8_requireIndex q_ml_RX8_81 ⟨q_im_yX8_requireIndex, q_se_yX8_requireIndex⟩ ⟨⟨Nat.le_of_ble_eq_true rfl, Nat.le_of_ble_eq_true rfl⟩, ⟨Nat.le_of_ble_eq_true rfl, Nat.le_of_ble_eq_true rfl⟩, Nat.le_of_ble_eq_true rfl⟩ rfl rfl dX8_exchange_2
  simp only [Sum.elim_inr] at h
  refine Y_callV C [.int i1] [] [] hk0 rfl rfl (c_X8_requireIndex hk0 hv1) (fun _ h => h.elim) q_cw_yX8_requireIndex q_ml_RX8_81 ⟨q_im_yX8_requireIndex, q_se_yX8_requireIndex⟩ ⟨⟨Nat.le_of_ble_eq_true rfl, Nat.le_of_ble_eq_true rfl⟩, ⟨Nat.zero_le _, Nat.zero_le _⟩, Nat.le_of_ble_eq_true rfl⟩ rfl rfl rfl dX8_exchange_2 ?_
  refine Y_aload_n C (pc := 5) 0 0 rfl rfl dX8_exchange_5 ?_
  refine Y_iload_n C (pc := 6) 2 2 rfl rfl dX8_exchange_6 ?_
  obtain ⟨v4, hv4, h⟩ := Option.bind_eq_some_iff.mp h
  rcases v4 with n5 | w6
  · simp only [Sum.elim_inl] at h
    cases h
    exact Y_callVT C X hno (pc := 7) [.int i2] [] hk0 rfl rfl (t_X8_requireIndex hk0 hv4) q_cw_yX8_requireIndex q_ml_RX8_81 ⟨q_im_yX8_requireIndex, q_se_yX8_requireIndex⟩ ⟨⟨Nat.le_of_ble_eq_true rfl, Nat.le_of_ble_eq_true rfl⟩, ⟨Nat.le_of_ble_eq_true rfl, Nat.le_of_ble_eq_true rfl⟩, Nat.le_of_ble_eq_true rfl⟩ rfl rfl dX8_exchange_7
  simp only [Sum.elim_inr] at h
  refine Y_callV C [.int i2] [] [] hk0 rfl rfl (c_X8_requireIndex hk0 hv4) (fun _ h => h.elim) q_cw_yX8_requireIndex q_ml_RX8_81 ⟨q_im_yX8_requireIndex, q_se_yX8_requireIndex⟩ ⟨⟨Nat.le_of_ble_eq_true rfl, Nat.le_of_ble_eq_true rfl⟩, ⟨Nat.zero_le _, Nat.zero_le _⟩, Nat.le_of_ble_eq_true rfl⟩ rfl rfl rfl dX8_exchange_7 ?_
  refine Y_aload_n C (pc := 10) 0 0 rfl rfl dX8_exchange_10 ?_
  refine Y_getR C (pc := 11) hk0 q_fi_RX8_12 (by decide) dX8_exchange_11 ?_
  refine Y_aload_n C (pc := 14) 0 0 rfl rfl dX8_exchange_14 ?_
  refine Y_getR C (pc := 15) hk0 q_fi_RX8_12 (by decide) dX8_exchange_15 ?_
  refine Y_getR C (pc := 18) (q_kr_8_0 hk0) q_fi_RX8_116 (by decide) dX8_exchange_18 ?_
  refine Y_iload_n C (pc := 21) 1 1 rfl rfl dX8_exchange_21 ?_
  refine Y_iload_n C (pc := 22) 2 2 rfl rfl dX8_exchange_22 ?_
  obtain ⟨v7, hv7, h⟩ := Option.bind_eq_some_iff.mp h
  refine Y_callV C [.ref (ρ ((k0 + 1) + 4)), .int i1, .int i2] [] [.int v7] (q_kr_8_0 hk0) rfl rfl (c_X6_gainOf (q_kr_8_0 hk0) (q_kr_6_4 (q_kr_8_0 hk0)) hv7) (fun _ h => h.elim) q_cw_yX6_gainOf q_ml_RX8_142 ⟨q_im_yX6_gainOf, q_se_yX6_gainOf⟩ ⟨⟨Nat.le_of_ble_eq_true rfl, Nat.le_of_ble_eq_true rfl⟩, ⟨Nat.zero_le _, Nat.zero_le _⟩, Nat.le_of_ble_eq_true rfl⟩ rfl rfl rfl dX8_exchange_23 ?_
  refine Y_istore_n C (pc := 26) (lv' := [(3, .int v7), (0, .ref (ρ k0)), (1, .int i1), (2, .int i2)]) 3 rfl (by decide) rfl dX8_exchange_26 ?_
  refine Y_aload_n C (pc := 27) 0 1 rfl rfl dX8_exchange_27 ?_
  refine Y_getR C (pc := 28) hk0 q_fi_RX8_19 (by decide) dX8_exchange_28 ?_
  refine Y_aload_n C (pc := 31) 0 1 rfl rfl dX8_exchange_31 ?_
  refine Y_getR C (pc := 32) hk0 q_fi_RX8_12 (by decide) dX8_exchange_32 ?_
  obtain ⟨v8, hv8, h⟩ := Option.bind_eq_some_iff.mp h
  refine Y_callV C [.ref (ρ (k0 + 1))] [] [] (q_kr_8_1 hk0) rfl rfl (c_X2_push hI (q_kr_8_1 hk0) (q_kr_8_0 hk0) hv8) (fun _ h => Or.inl h) q_cw_yX2_push q_ml_RX8_73 ⟨q_im_yX2_push, q_se_yX2_push⟩ ⟨⟨Nat.le_of_ble_eq_true rfl, Nat.le_of_ble_eq_true rfl⟩, ⟨Nat.zero_le _, Nat.zero_le _⟩, Nat.le_of_ble_eq_true rfl⟩ rfl rfl rfl dX8_exchange_35 ?_
  refine Y_aload_n C (pc := 38) 0 1 rfl rfl dX8_exchange_38 ?_
  refine Y_getR C (pc := 39) hk0 q_fi_RX8_12 (by decide) dX8_exchange_39 ?_
  refine Y_getR C (pc := 42) (q_kr_8_0 hk0) q_fi_RX8_116 (by decide) dX8_exchange_42 ?_
  refine Y_iload_n C (pc := 45) 1 2 rfl rfl dX8_exchange_45 ?_
  refine Y_iload_n C (pc := 46) 2 3 rfl rfl dX8_exchange_46 ?_
  obtain ⟨v9, hv9, h⟩ := Option.bind_eq_some_iff.mp h
  refine Y_callS C [.ref (ρ ((k0 + 1) + 4)), .int i1, .int i2] [] [] (c_X8_swap hI (q_kr_6_4 (q_kr_8_0 hk0)) (q_lr_6_4 (q_kr_8_0 hk0)) hv9) (fun _ h => Or.inl h) q_cw_yX8_swap q_ml_RX8_145 q_st_yX8_swap ⟨⟨Nat.le_of_ble_eq_true rfl, Nat.le_of_ble_eq_true rfl⟩, ⟨Nat.zero_le _, Nat.zero_le _⟩, Nat.le_of_ble_eq_true rfl⟩ rfl rfl rfl dX8_exchange_47 ?_
  refine Y_iload_n C (pc := 50) 3 0 rfl rfl dX8_exchange_50 ?_
  cases h

set_option maxRecDepth 100000 in
set_option maxHeartbeats 4000000 in
theorem c_X8_gain {l : Launch} {D : va_G} {cA ρ : Nat → Nat} {σ : Sg} {τ : Tg} {k0 : Nat} {i1 : Int32} {i2 : Int32} (hk0 : kd k0 = (0, 8)) {r : Int32} (h : f_X8_gain σ k0 i1 i2 = some (.inr r)) : Ct l yX8_gain cX8_gain 3 (some .int) 2 51 D cA ρ A0 [.ref (ρ k0), .int i1, .int i2] σ τ (some (.int r)) σ τ := by
  refine Ct_of (by decide +kernel) (Nat.le_of_ble_eq_true rfl) (fun p e s m args below meth c C => ?_)
  have C : Ctx p l s m args meth c cX8_gain RX8 3 (some .int) D cA ρ A0 := C
  unfold f_X8_gain at h
  refine Y_sub [0, 1, 2] (lv' := [(0, .ref (ρ k0)), (1, .int i1), (2, .int i2)]) rfl ?_
  refine Y_aload_n C (pc := 0) 0 0 rfl rfl dX8_gain_0 ?_
  refine Y_iload_n C (pc := 1) 1 1 rfl rfl dX8_gain_1 ?_
  obtain ⟨v1, hv1, h⟩ := Option.bind_eq_some_iff.mp h
  rcases v1 with n2 | w3
  · simp only [Sum.elim_inl] at h
    cases h
  simp only [Sum.elim_inr] at h
  refine Y_callV C [.int i1] [] [] hk0 rfl rfl (c_X8_requireIndex hk0 hv1) (fun _ h => h.elim) q_cw_yX8_requireIndex q_ml_RX8_81 ⟨q_im_yX8_requireIndex, q_se_yX8_requireIndex⟩ ⟨⟨Nat.le_of_ble_eq_true rfl, Nat.le_of_ble_eq_true rfl⟩, ⟨Nat.zero_le _, Nat.zero_le _⟩, Nat.le_of_ble_eq_true rfl⟩ rfl rfl rfl dX8_gain_2 ?_
  refine Y_aload_n C (pc := 5) 0 0 rfl rfl dX8_gain_5 ?_
  refine Y_iload_n C (pc := 6) 2 2 rfl rfl dX8_gain_6 ?_
  obtain ⟨v4, hv4, h⟩ := Option.bind_eq_some_iff.mp h
  rcases v4 with n5 | w6
  · simp only [Sum.elim_inl] at h
    cases h
  simp only [Sum.elim_inr] at h
  refine Y_callV C [.int i2] [] [] hk0 rfl rfl (c_X8_requireIndex hk0 hv4) (fun _ h => h.elim) q_cw_yX8_requireIndex q_ml_RX8_81 ⟨q_im_yX8_requireIndex, q_se_yX8_requireIndex⟩ ⟨⟨Nat.le_of_ble_eq_true rfl, Nat.le_of_ble_eq_true rfl⟩, ⟨Nat.zero_le _, Nat.zero_le _⟩, Nat.le_of_ble_eq_true rfl⟩ rfl rfl rfl dX8_gain_7 ?_
  refine Y_aload_n C (pc := 10) 0 0 rfl rfl dX8_gain_10 ?_
  refine Y_getR C (pc := 11) hk0 q_fi_RX8_12 (by decide) dX8_gain_11 ?_
  refine Y_aload_n C (pc := 14) 0 0 rfl rfl dX8_gain_14 ?_
  refine Y_getR C (pc := 15) hk0 q_fi_RX8_12 (by decide) dX8_gain_15 ?_
  refine Y_getR C (pc := 18) (q_kr_8_0 hk0) q_fi_RX8_116 (by decide) dX8_gain_18 ?_
  refine Y_iload_n C (pc := 21) 1 1 rfl rfl dX8_gain_21 ?_
  refine Y_iload_n C (pc := 22) 2 2 rfl rfl dX8_gain_22 ?_
  obtain ⟨v7, hv7, h⟩ := Option.bind_eq_some_iff.mp h
  refine Y_callV C [.ref (ρ ((k0 + 1) + 4)), .int i1, .int i2] [] [.int v7] (q_kr_8_0 hk0) rfl rfl (c_X6_gainOf (q_kr_8_0 hk0) (q_kr_6_4 (q_kr_8_0 hk0)) hv7) (fun _ h => h.elim) q_cw_yX6_gainOf q_ml_RX8_142 ⟨q_im_yX6_gainOf, q_se_yX6_gainOf⟩ ⟨⟨Nat.le_of_ble_eq_true rfl, Nat.le_of_ble_eq_true rfl⟩, ⟨Nat.zero_le _, Nat.zero_le _⟩, Nat.le_of_ble_eq_true rfl⟩ rfl rfl rfl dX8_gain_23 ?_
  cases h
  exact Y_iret C dX8_gain_26
set_option maxRecDepth 100000 in
set_option maxHeartbeats 4000000 in
theorem t_X8_gain {l : Launch} {D : va_G} {cA ρ : Nat → Nat} {σ : Sg} {τ : Tg} {k0 : Nat} {i1 : Int32} {i2 : Int32} (hk0 : kd k0 = (0, 8)) {r : Nat} (h : f_X8_gain σ k0 i1 i2 = some (.inl r)) : CtT l yX8_gain cX8_gain 3 (some .int) 7 111 D cA ρ [.ref (ρ k0), .int i1, .int i2] σ τ (xn r) σ τ := by
  refine CtT_of (by decide +kernel) (Nat.le_of_ble_eq_true rfl) (fun p e s m args below meth c C X hno => ?_)
  have C : Ctx p l s m args meth c cX8_gain RX8 3 (some .int) D cA ρ (Ax ρ s.heap.size) := C
  unfold f_X8_gain at h
  refine Y_sub [0, 1, 2] (lv' := [(0, .ref (ρ k0)), (1, .int i1), (2, .int i2)]) rfl ?_
  refine Y_aload_n C (pc := 0) 0 0 rfl rfl dX8_gain_0 ?_
  refine Y_iload_n C (pc := 1) 1 1 rfl rfl dX8_gain_1 ?_
  obtain ⟨v1, hv1, h⟩ := Option.bind_eq_some_iff.mp h
  rcases v1 with n2 | w3
  · simp only [Sum.elim_inl] at h
    cases h
    exact Y_callVT C X hno (pc := 2) [.int i1] [] hk0 rfl rfl (t_X8_requireIndex hk0 hv1) q_cw_yX8_requireIndex q_ml_RX8_81 ⟨q_im_yX8_requireIndex, q_se_yX8_requireIndex⟩ ⟨⟨Nat.le_of_ble_eq_true rfl, Nat.le_of_ble_eq_true rfl⟩, ⟨Nat.le_of_ble_eq_true rfl, Nat.le_of_ble_eq_true rfl⟩, Nat.le_of_ble_eq_true rfl⟩ rfl rfl dX8_gain_2
  simp only [Sum.elim_inr] at h
  refine Y_callV C [.int i1] [] [] hk0 rfl rfl (c_X8_requireIndex hk0 hv1) (fun _ h => h.elim) q_cw_yX8_requireIndex q_ml_RX8_81 ⟨q_im_yX8_requireIndex, q_se_yX8_requireIndex⟩ ⟨⟨Nat.le_of_ble_eq_true rfl, Nat.le_of_ble_eq_true rfl⟩, ⟨Nat.zero_le _, Nat.zero_le _⟩, Nat.le_of_ble_eq_true rfl⟩ rfl rfl rfl dX8_gain_2 ?_
  refine Y_aload_n C (pc := 5) 0 0 rfl rfl dX8_gain_5 ?_
  refine Y_iload_n C (pc := 6) 2 2 rfl rfl dX8_gain_6 ?_
  obtain ⟨v4, hv4, h⟩ := Option.bind_eq_some_iff.mp h
  rcases v4 with n5 | w6
  · simp only [Sum.elim_inl] at h
    cases h
    exact Y_callVT C X hno (pc := 7) [.int i2] [] hk0 rfl rfl (t_X8_requireIndex hk0 hv4) q_cw_yX8_requireIndex q_ml_RX8_81 ⟨q_im_yX8_requireIndex, q_se_yX8_requireIndex⟩ ⟨⟨Nat.le_of_ble_eq_true rfl, Nat.le_of_ble_eq_true rfl⟩, ⟨Nat.le_of_ble_eq_true rfl, Nat.le_of_ble_eq_true rfl⟩, Nat.le_of_ble_eq_true rfl⟩ rfl rfl dX8_gain_7
  simp only [Sum.elim_inr] at h
  refine Y_callV C [.int i2] [] [] hk0 rfl rfl (c_X8_requireIndex hk0 hv4) (fun _ h => h.elim) q_cw_yX8_requireIndex q_ml_RX8_81 ⟨q_im_yX8_requireIndex, q_se_yX8_requireIndex⟩ ⟨⟨Nat.le_of_ble_eq_true rfl, Nat.le_of_ble_eq_true rfl⟩, ⟨Nat.zero_le _, Nat.zero_le _⟩, Nat.le_of_ble_eq_true rfl⟩ rfl rfl rfl dX8_gain_7 ?_
  refine Y_aload_n C (pc := 10) 0 0 rfl rfl dX8_gain_10 ?_
  refine Y_getR C (pc := 11) hk0 q_fi_RX8_12 (by decide) dX8_gain_11 ?_
  refine Y_aload_n C (pc := 14) 0 0 rfl rfl dX8_gain_14 ?_
  refine Y_getR C (pc := 15) hk0 q_fi_RX8_12 (by decide) dX8_gain_15 ?_
  refine Y_getR C (pc := 18) (q_kr_8_0 hk0) q_fi_RX8_116 (by decide) dX8_gain_18 ?_
  refine Y_iload_n C (pc := 21) 1 1 rfl rfl dX8_gain_21 ?_
  refine Y_iload_n C (pc := 22) 2 2 rfl rfl dX8_gain_22 ?_
  obtain ⟨v7, hv7, h⟩ := Option.bind_eq_some_iff.mp h
  refine Y_callV C [.ref (ρ ((k0 + 1) + 4)), .int i1, .int i2] [] [.int v7] (q_kr_8_0 hk0) rfl rfl (c_X6_gainOf (q_kr_8_0 hk0) (q_kr_6_4 (q_kr_8_0 hk0)) hv7) (fun _ h => h.elim) q_cw_yX6_gainOf q_ml_RX8_142 ⟨q_im_yX6_gainOf, q_se_yX6_gainOf⟩ ⟨⟨Nat.le_of_ble_eq_true rfl, Nat.le_of_ble_eq_true rfl⟩, ⟨Nat.zero_le _, Nat.zero_le _⟩, Nat.le_of_ble_eq_true rfl⟩ rfl rfl rfl dX8_gain_23 ?_
  cases h

set_option maxRecDepth 100000 in
set_option maxHeartbeats 4000000 in
theorem c_X8_bestExchange {l : Launch} {D : va_G} {cA ρ : Nat → Nat} {σ : Sg} {τ : Tg} {k0 : Nat} (hk0 : kd k0 = (0, 8)) {r : Int32} (h : f_X8_bestExchange σ k0 = some r) : Ct l yX8_bestExchange cX8_bestExchange 1 (some .int) 3 76 D cA ρ A0 [.ref (ρ k0)] σ τ (some (.int r)) σ τ := by
  refine Ct_of (by decide +kernel) (Nat.le_of_ble_eq_true rfl) (fun p e s m args below meth c C => ?_)
  have C : Ctx p l s m args meth c cX8_bestExchange RX8 1 (some .int) D cA ρ A0 := C
  unfold f_X8_bestExchange at h
  refine Y_sub [0] (lv' := [(0, .ref (ρ k0))]) rfl ?_
  refine Y_aload_n C (pc := 0) 0 0 rfl rfl dX8_bestExchange_0 ?_
  refine Y_getR C (pc := 1) hk0 q_fi_RX8_12 (by decide) dX8_bestExchange_1 ?_
  obtain ⟨v1, hv1, h⟩ := Option.bind_eq_some_iff.mp h
  refine Y_callV C [] [] [.int v1] (q_kr_8_0 hk0) rfl rfl (c_X6_bestPair (q_kr_8_0 hk0) hv1) (fun _ h => h.elim) q_cw_yX6_bestPair q_ml_RX8_148 ⟨q_im_yX6_bestPair, q_se_yX6_bestPair⟩ ⟨⟨Nat.le_of_ble_eq_true rfl, Nat.le_of_ble_eq_true rfl⟩, ⟨Nat.zero_le _, Nat.zero_le _⟩, Nat.le_of_ble_eq_true rfl⟩ rfl rfl rfl dX8_bestExchange_4 ?_
  cases h
  exact Y_iret C dX8_bestExchange_7

set_option maxRecDepth 100000 in
set_option maxHeartbeats 4000000 in
theorem c_X8_descend {l : Launch} {D : va_G} {cA ρ : Nat → Nat} {σ : Sg} {τ : Tg} {k0 : Nat} (hI : Inj ρ) (hk0 : kd k0 = (0, 8)) {r : Int32 × Sg} (h : f_X8_descend σ k0 = some r) : Ct l yX8_descend cX8_descend 4 (some .int) 3 76 D cA ρ (Aw ρ) [.ref (ρ k0)] σ τ (some (.int r.1)) r.2 τ := by
  refine Ct_of (by decide +kernel) (Nat.le_of_ble_eq_true rfl) (fun p e s m args below meth c C => ?_)
  have C : Ctx p l s m args meth c cX8_descend RX8 4 (some .int) D cA ρ (Aw ρ) := C
  have hW : Wr ρ (Aw ρ) := ⟨hI, fun k hk => ⟨k, hk, rfl⟩⟩
  unfold f_X8_descend at h
  refine Y_sub [0] (lv' := [(0, .ref (ρ k0))]) rfl ?_
  refine Y_aload_n C (pc := 0) 0 0 rfl rfl dX8_descend_0 ?_
  refine Y_getR C (pc := 1) hk0 q_fi_RX8_19 (by decide) dX8_descend_1 ?_
  refine Y_aload_n C (pc := 4) 0 0 rfl rfl dX8_descend_4 ?_
  refine Y_getR C (pc := 5) hk0 q_fi_RX8_12 (by decide) dX8_descend_5 ?_
  obtain ⟨v1, hv1, h⟩ := Option.bind_eq_some_iff.mp h
  refine Y_callV C [.ref (ρ (k0 + 1))] [] [] (q_kr_8_1 hk0) rfl rfl (c_X2_push hI (q_kr_8_1 hk0) (q_kr_8_0 hk0) hv1) (fun _ h => h) q_cw_yX2_push q_ml_RX8_73 ⟨q_im_yX2_push, q_se_yX2_push⟩ ⟨⟨Nat.le_of_ble_eq_true rfl, Nat.le_of_ble_eq_true rfl⟩, ⟨Nat.zero_le _, Nat.zero_le _⟩, Nat.le_of_ble_eq_true rfl⟩ rfl rfl rfl dX8_descend_8 ?_
  refine Y_iconst C (pc := 11) (v := (0 : Int32)) (by decide) dX8_descend_11 ?_
  refine Y_istore_n C (pc := 12) (lv' := [(1, .int (0 : Int32)), (0, .ref (ρ k0))]) 1 rfl (by decide) rfl dX8_descend_12 ?_
  refine Y_iconst C (pc := 13) (v := (0 : Int32)) (by decide) dX8_descend_13 ?_
  refine Y_istore_n C (pc := 14) (lv' := [(2, .int (0 : Int32)), (1, .int (0 : Int32)), (0, .ref (ρ k0))]) 2 rfl (by decide) rfl dX8_descend_14 ?_
  obtain ⟨e13, he13, h⟩ := Option.bind_eq_some_iff.mp h
  refine Y_sub [2, 1, 0] (lv' := [(0, .ref (ρ k0)), (1, .int (0 : Int32)), (2, .int (0 : Int32))]) rfl ?_
  refine lo_rule (f := (f_X8_descend_L15 k0)) (YS := fun s2 => Y p l e (Rm 3 76) s m args below meth c 4 D cA ρ (Aw ρ) 0 0 (MQ below (QC D cA ρ (Aw ρ) (some (.int r.1)) r.2 τ) args s 0 0 (Aw ρ)) s2.2.2 τ 15 [(0, .ref (ρ k0)), (1, .int s2.1), (2, .int s2.2.1)] []) (YE := fun e13 => (∀ e14, e13 = (.inl e14) → Y p l e (Rm 3 76) s m args below meth c 4 D cA ρ (Aw ρ) 0 0 (MQ below (QC D cA ρ (Aw ρ) (some (.int r.1)) r.2 τ) args s 0 0 (Aw ρ)) e14.2 τ 60 [(1, .int e14.1)] []) ∧ (∀ e15, e13 = (.inr e15) → Y p l e (Rm 3 76) s m args below meth c 4 D cA ρ (Aw ρ) 0 0 (MQ below (QC D cA ρ (Aw ρ) (some (.int r.1)) r.2 τ) args s 0 0 (Aw ρ)) e15.2 τ 90 [(1, .int e15.1)] [])) ?_ he13 ?_
  · intro s2 x h hLp hE
    have hE0 : ∀ y, x = .inr (.inl y) → _ := fun y q => (hE _ q).1 y rfl
    have hE1 : ∀ y, x = .inr (.inr y) → _ := fun y q => (hE _ q).2 y rfl
    unfold f_X8_descend_L15 at h
    refine Y_iload_n C (pc := 15) 2 2 rfl rfl dX8_descend_15 ?_
    refine Y_sipush C (pc := 16) (v := (720 : Int32)) (by decide) dX8_descend_16 ?_
    refine Y_icmp_ge C (pc := 19) (tgt := 90) dX8_descend_19 (by decide) (fun c12 => ?_) (fun c12 => ?_)
    · rw [if_pos c12] at h
      have h := Option.some.inj h
      exact Y_sub [1] rfl (hE1 _ h.symm)
    · rw [if_neg c12] at h
      refine Y_aload_n C (pc := 22) 0 0 rfl rfl dX8_descend_22 ?_
      refine Y_getR C (pc := 23) hk0 q_fi_RX8_12 (by decide) dX8_descend_23 ?_
      obtain ⟨v3, hv3, h⟩ := Option.bind_eq_some_iff.mp h
      refine Y_callV C [] [] [.int v3] (q_kr_8_0 hk0) rfl rfl (c_X6_bestPair (q_kr_8_0 hk0) hv3) (fun _ h => h.elim) q_cw_yX6_bestPair q_ml_RX8_148 ⟨q_im_yX6_bestPair, q_se_yX6_bestPair⟩ ⟨⟨Nat.le_of_ble_eq_true rfl, Nat.le_of_ble_eq_true rfl⟩, ⟨Nat.zero_le _, Nat.zero_le _⟩, Nat.le_of_ble_eq_true rfl⟩ rfl rfl rfl dX8_descend_26 ?_
      refine Y_istore_n C (pc := 29) (lv' := [(3, .int v3), (0, .ref (ρ k0)), (1, .int s2.1), (2, .int s2.2.1)]) 3 rfl (by decide) rfl dX8_descend_29 ?_
      refine Y_iload_n C (pc := 30) 3 0 rfl rfl dX8_descend_30 ?_
      refine Y_iconst C (pc := 31) (v := (-1 : Int32)) (by decide) dX8_descend_31 ?_
      refine Y_icmp_eq C (pc := 32) (tgt := 90) dX8_descend_32 (by decide) (fun c11 => ?_) (fun c11 => ?_)
      · rw [if_pos c11] at h
        have h := Option.some.inj h
        exact Y_sub [2] rfl (hE1 _ h.symm)
      · rw [if_neg c11] at h
        refine Y_aload_n C (pc := 35) 0 1 rfl rfl dX8_descend_35 ?_
        refine Y_getR C (pc := 36) hk0 q_fi_RX8_12 (by decide) dX8_descend_36 ?_
        refine Y_aload_n C (pc := 39) 0 1 rfl rfl dX8_descend_39 ?_
        refine Y_getR C (pc := 40) hk0 q_fi_RX8_12 (by decide) dX8_descend_40 ?_
        refine Y_getR C (pc := 43) (q_kr_8_0 hk0) q_fi_RX8_116 (by decide) dX8_descend_43 ?_
        refine Y_iload_n C (pc := 46) 3 0 rfl rfl dX8_descend_46 ?_
        refine Y_bipush C (pc := 47) (v := (10 : Int32)) (by decide) dX8_descend_47 ?_
        obtain ⟨v4, hv4, h⟩ := Option.bind_eq_some_iff.mp h
        refine Y_idiv C (pc := 49) hv4 dX8_descend_49 ?_
        refine Y_iload_n C (pc := 50) 3 0 rfl rfl dX8_descend_50 ?_
        refine Y_bipush C (pc := 51) (v := (10 : Int32)) (by decide) dX8_descend_51 ?_
        obtain ⟨v5, hv5, h⟩ := Option.bind_eq_some_iff.mp h
        refine Y_irem C (pc := 53) hv5 dX8_descend_53 ?_
        obtain ⟨v6, hv6, h⟩ := Option.bind_eq_some_iff.mp h
        refine Y_callV C [.ref (ρ ((k0 + 1) + 4)), .int v4, .int v5] [] [.int v6] (q_kr_8_0 hk0) rfl rfl (c_X6_gainOf (q_kr_8_0 hk0) (q_kr_6_4 (q_kr_8_0 hk0)) hv6) (fun _ h => h.elim) q_cw_yX6_gainOf q_ml_RX8_142 ⟨q_im_yX6_gainOf, q_se_yX6_gainOf⟩ ⟨⟨Nat.le_of_ble_eq_true rfl, Nat.le_of_ble_eq_true rfl⟩, ⟨Nat.zero_le _, Nat.zero_le _⟩, Nat.le_of_ble_eq_true rfl⟩ rfl rfl rfl dX8_descend_54 ?_
        refine Y_if_gt C (pc := 57) (tgt := 63) dX8_descend_57 (by decide) (fun c10 => ?_) (fun c10 => ?_)
        · rw [if_pos c10] at h
          refine Y_aload_n C (pc := 63) 0 1 rfl rfl dX8_descend_63 ?_
          refine Y_getR C (pc := 64) hk0 q_fi_RX8_12 (by decide) dX8_descend_64 ?_
          refine Y_getR C (pc := 67) (q_kr_8_0 hk0) q_fi_RX8_116 (by decide) dX8_descend_67 ?_
          refine Y_iload_n C (pc := 70) 3 0 rfl rfl dX8_descend_70 ?_
          refine Y_bipush C (pc := 71) (v := (10 : Int32)) (by decide) dX8_descend_71 ?_
          obtain ⟨v7, hv7, h⟩ := Option.bind_eq_some_iff.mp h
          refine Y_idiv C (pc := 73) hv7 dX8_descend_73 ?_
          refine Y_iload_n C (pc := 74) 3 0 rfl rfl dX8_descend_74 ?_
          refine Y_bipush C (pc := 75) (v := (10 : Int32)) (by decide) dX8_descend_75 ?_
          obtain ⟨v8, hv8, h⟩ := Option.bind_eq_some_iff.mp h
          refine Y_irem C (pc := 77) hv8 dX8_descend_77 ?_
          obtain ⟨v9, hv9, h⟩ := Option.bind_eq_some_iff.mp h
          refine Y_callS C [.ref (ρ ((k0 + 1) + 4)), .int v7, .int v8] [] [] (c_X8_swap hI (q_kr_6_4 (q_kr_8_0 hk0)) (q_lr_6_4 (q_kr_8_0 hk0)) hv9) (fun _ h => h) q_cw_yX8_swap q_ml_RX8_145 q_st_yX8_swap ⟨⟨Nat.le_of_ble_eq_true rfl, Nat.le_of_ble_eq_true rfl⟩, ⟨Nat.zero_le _, Nat.zero_le _⟩, Nat.le_of_ble_eq_true rfl⟩ rfl rfl rfl dX8_descend_78 ?_
          refine Y_iinc C (pc := 81) (v := (s2.1 + 1)) (lv' := [(1, .int (s2.1 + 1)), (3, .int v3), (0, .ref (ρ k0)), (2, .int s2.2.1)]) 2 rfl (congrArg (fun z => s2.1 + z) (by decide : Int32.ofInt (1) = (1))) (by decide) rfl dX8_descend_81 ?_
          refine Y_iinc C (pc := 84) (v := (s2.2.1 + 1)) (lv' := [(2, .int (s2.2.1 + 1)), (1, .int (s2.1 + 1)), (3, .int v3), (0, .ref (ρ k0))]) 3 rfl (congrArg (fun z => s2.2.1 + z) (by decide : Int32.ofInt (1) = (1))) (by decide) rfl dX8_descend_84 ?_
          refine Y_goto C (pc := 87) (tgt := 15) dX8_descend_87 (by decide) ?_
          have h := Option.some.inj h
          exact Y_sub [3, 1, 0] rfl (hLp _ h.symm)
        · rw [if_neg c10] at h
          have h := Option.some.inj h
          exact Y_sub [2] rfl (hE0 _ h.symm)
  refine ⟨?_, ?_⟩
  · intro e14 q
    subst q
    simp only [Sum.elim_inl, Sum.elim_inr] at h
    refine Y_goto C (pc := 60) (tgt := 90) dX8_descend_60 (by decide) ?_
    refine Y_iload_n C (pc := 90) 1 0 rfl rfl dX8_descend_90 ?_
    cases h
    exact Y_iret C dX8_descend_91
  · intro e15 q
    subst q
    simp only [Sum.elim_inl, Sum.elim_inr] at h
    refine Y_iload_n C (pc := 90) 1 0 rfl rfl dX8_descend_90 ?_
    cases h
    exact Y_iret C dX8_descend_91

set_option maxRecDepth 100000 in
set_option maxHeartbeats 4000000 in
theorem c_X8_within {l : Launch} {D : va_G} {cA ρ : Nat → Nat} {σ : Sg} {τ : Tg} {k0 : Nat} {i1 : Int32} (hI : Inj ρ) (hk0 : kd k0 = (0, 8)) {r : Int32 × Sg} (h : f_X8_within σ k0 i1 = some r) : Ct l yX8_within cX8_within 2 (some .int) 4 93 D cA ρ (Aw ρ) [.ref (ρ k0), .int i1] σ τ (some (.int r.1)) r.2 τ := by
  refine Ct_of (by decide +kernel) (Nat.le_of_ble_eq_true rfl) (fun p e s m args below meth c C => ?_)
  have C : Ctx p l s m args meth c cX8_within RX8 2 (some .int) D cA ρ (Aw ρ) := C
  have hW : Wr ρ (Aw ρ) := ⟨hI, fun k hk => ⟨k, hk, rfl⟩⟩
  unfold f_X8_within at h
  refine Y_sub [0, 1] (lv' := [(0, .ref (ρ k0)), (1, .int i1)]) rfl ?_
  refine Y_aload_n C (pc := 0) 0 0 rfl rfl dX8_within_0 ?_
  refine Y_getR C (pc := 1) hk0 q_fi_RX8_26 (by decide) dX8_within_1 ?_
  refine Y_aload_n C (pc := 4) 0 0 rfl rfl dX8_within_4 ?_
  refine Y_getR C (pc := 5) hk0 q_fi_RX8_12 (by decide) dX8_within_5 ?_
  obtain ⟨v1, hv1, h⟩ := Option.bind_eq_some_iff.mp h
  refine Y_callV C [.ref (ρ (k0 + 1))] [] [] (q_kr_8_2 hk0) rfl rfl (c_X0_load hI (q_kr_8_2 hk0) (q_kr_8_0 hk0) hv1) (fun _ h => h) q_cw_yX0_load q_ml_RX8_152 ⟨q_im_yX0_load, q_se_yX0_load⟩ ⟨⟨Nat.le_of_ble_eq_true rfl, Nat.le_of_ble_eq_true rfl⟩, ⟨Nat.zero_le _, Nat.zero_le _⟩, Nat.le_of_ble_eq_true rfl⟩ rfl rfl rfl dX8_within_8 ?_
  refine Y_aload_n C (pc := 11) 0 0 rfl rfl dX8_within_11 ?_
  refine Y_getR C (pc := 12) hk0 q_fi_RX8_26 (by decide) dX8_within_12 ?_
  refine Y_iload_n C (pc := 15) 1 1 rfl rfl dX8_within_15 ?_
  obtain ⟨v2, hv2, h⟩ := Option.bind_eq_some_iff.mp h
  refine Y_callV C [.int i1] [] [.int v2] (q_kr_8_2 hk0) rfl rfl (c_X0_countUpTo (q_kr_8_2 hk0) hv2) (fun _ h => h.elim) q_cw_yX0_countUpTo q_ml_RX8_155 ⟨q_im_yX0_countUpTo, q_se_yX0_countUpTo⟩ ⟨⟨Nat.le_of_ble_eq_true rfl, Nat.le_of_ble_eq_true rfl⟩, ⟨Nat.zero_le _, Nat.zero_le _⟩, Nat.le_of_ble_eq_true rfl⟩ rfl rfl rfl dX8_within_16 ?_
  cases h
  exact Y_iret C dX8_within_19

set_option maxRecDepth 100000 in
set_option maxHeartbeats 4000000 in
theorem c_X8_optimum {l : Launch} {D : va_G} {cA ρ : Nat → Nat} {σ : Sg} {τ : Tg} {k0 : Nat} (hI : Inj ρ) (hk0 : kd k0 = (0, 8)) {r : Int32 × Sg} (h : f_X8_optimum σ k0 = some r) : Ct l yX8_optimum cX8_optimum 1 (some .int) 4 93 D cA ρ (Aw ρ) [.ref (ρ k0)] σ τ (some (.int r.1)) r.2 τ := by
  refine Ct_of (by decide +kernel) (Nat.le_of_ble_eq_true rfl) (fun p e s m args below meth c C => ?_)
  have C : Ctx p l s m args meth c cX8_optimum RX8 1 (some .int) D cA ρ (Aw ρ) := C
  have hW : Wr ρ (Aw ρ) := ⟨hI, fun k hk => ⟨k, hk, rfl⟩⟩
  unfold f_X8_optimum at h
  refine Y_sub [0] (lv' := [(0, .ref (ρ k0))]) rfl ?_
  refine Y_aload_n C (pc := 0) 0 0 rfl rfl dX8_optimum_0 ?_
  refine Y_getR C (pc := 1) hk0 q_fi_RX8_26 (by decide) dX8_optimum_1 ?_
  refine Y_aload_n C (pc := 4) 0 0 rfl rfl dX8_optimum_4 ?_
  refine Y_getR C (pc := 5) hk0 q_fi_RX8_12 (by decide) dX8_optimum_5 ?_
  obtain ⟨v1, hv1, h⟩ := Option.bind_eq_some_iff.mp h
  refine Y_callV C [.ref (ρ (k0 + 1))] [] [] (q_kr_8_2 hk0) rfl rfl (c_X0_load hI (q_kr_8_2 hk0) (q_kr_8_0 hk0) hv1) (fun _ h => h) q_cw_yX0_load q_ml_RX8_152 ⟨q_im_yX0_load, q_se_yX0_load⟩ ⟨⟨Nat.le_of_ble_eq_true rfl, Nat.le_of_ble_eq_true rfl⟩, ⟨Nat.zero_le _, Nat.zero_le _⟩, Nat.le_of_ble_eq_true rfl⟩ rfl rfl rfl dX8_optimum_8 ?_
  refine Y_aload_n C (pc := 11) 0 0 rfl rfl dX8_optimum_11 ?_
  refine Y_getR C (pc := 12) hk0 q_fi_RX8_26 (by decide) dX8_optimum_12 ?_
  refine Y_getI C (pc := 15) (q_kr_8_2 hk0) q_fi_RX8_158 dX8_optimum_15 ?_
  cases h
  exact Y_iret C dX8_optimum_18

set_option maxRecDepth 100000 in
set_option maxHeartbeats 4000000 in
theorem c_X8_optima {l : Launch} {D : va_G} {cA ρ : Nat → Nat} {σ : Sg} {τ : Tg} {k0 : Nat} (hI : Inj ρ) (hk0 : kd k0 = (0, 8)) {r : Int32 × Sg} (h : f_X8_optima σ k0 = some r) : Ct l yX8_optima cX8_optima 1 (some .int) 4 93 D cA ρ (Aw ρ) [.ref (ρ k0)] σ τ (some (.int r.1)) r.2 τ := by
  refine Ct_of (by decide +kernel) (Nat.le_of_ble_eq_true rfl) (fun p e s m args below meth c C => ?_)
  have C : Ctx p l s m args meth c cX8_optima RX8 1 (some .int) D cA ρ (Aw ρ) := C
  have hW : Wr ρ (Aw ρ) := ⟨hI, fun k hk => ⟨k, hk, rfl⟩⟩
  unfold f_X8_optima at h
  refine Y_sub [0] (lv' := [(0, .ref (ρ k0))]) rfl ?_
  refine Y_aload_n C (pc := 0) 0 0 rfl rfl dX8_optima_0 ?_
  refine Y_getR C (pc := 1) hk0 q_fi_RX8_26 (by decide) dX8_optima_1 ?_
  refine Y_aload_n C (pc := 4) 0 0 rfl rfl dX8_optima_4 ?_
  refine Y_getR C (pc := 5) hk0 q_fi_RX8_12 (by decide) dX8_optima_5 ?_
  obtain ⟨v1, hv1, h⟩ := Option.bind_eq_some_iff.mp h
  refine Y_callV C [.ref (ρ (k0 + 1))] [] [] (q_kr_8_2 hk0) rfl rfl (c_X0_load hI (q_kr_8_2 hk0) (q_kr_8_0 hk0) hv1) (fun _ h => h) q_cw_yX0_load q_ml_RX8_152 ⟨q_im_yX0_load, q_se_yX0_load⟩ ⟨⟨Nat.le_of_ble_eq_true rfl, Nat.le_of_ble_eq_true rfl⟩, ⟨Nat.zero_le _, Nat.zero_le _⟩, Nat.le_of_ble_eq_true rfl⟩ rfl rfl rfl dX8_optima_8 ?_
  refine Y_aload_n C (pc := 11) 0 0 rfl rfl dX8_optima_11 ?_
  refine Y_getR C (pc := 12) hk0 q_fi_RX8_26 (by decide) dX8_optima_12 ?_
  refine Y_aload_n C (pc := 15) 0 0 rfl rfl dX8_optima_15 ?_
  refine Y_getR C (pc := 16) hk0 q_fi_RX8_26 (by decide) dX8_optima_16 ?_
  refine Y_getI C (pc := 19) (q_kr_8_2 hk0) q_fi_RX8_158 dX8_optima_19 ?_
  obtain ⟨v2, hv2, h⟩ := Option.bind_eq_some_iff.mp h
  refine Y_callV C [.int (v1 (k0 + 45) 2)] [] [.int v2] (q_kr_8_2 hk0) rfl rfl (c_X0_countUpTo (q_kr_8_2 hk0) hv2) (fun _ h => h.elim) q_cw_yX0_countUpTo q_ml_RX8_155 ⟨q_im_yX0_countUpTo, q_se_yX0_countUpTo⟩ ⟨⟨Nat.le_of_ble_eq_true rfl, Nat.le_of_ble_eq_true rfl⟩, ⟨Nat.zero_le _, Nat.zero_le _⟩, Nat.le_of_ble_eq_true rfl⟩ rfl rfl rfl dX8_optima_22 ?_
  cases h
  exact Y_iret C dX8_optima_25

set_option maxRecDepth 100000 in
set_option maxHeartbeats 4000000 in
theorem c_X8_optimal {l : Launch} {D : va_G} {cA ρ : Nat → Nat} {σ : Sg} {τ : Tg} {k0 : Nat} {i1 : Int32} (hI : Inj ρ) (hk0 : kd k0 = (0, 8)) {r : Int32 × Sg} (h : f_X8_optimal σ k0 i1 = some r) : Ct l yX8_optimal cX8_optimal 2 (some .int) 4 93 D cA ρ (Aw ρ) [.ref (ρ k0), .int i1] σ τ (some (.int r.1)) r.2 τ := by
  refine Ct_of (by decide +kernel) (Nat.le_of_ble_eq_true rfl) (fun p e s m args below meth c C => ?_)
  have C : Ctx p l s m args meth c cX8_optimal RX8 2 (some .int) D cA ρ (Aw ρ) := C
  have hW : Wr ρ (Aw ρ) := ⟨hI, fun k hk => ⟨k, hk, rfl⟩⟩
  unfold f_X8_optimal at h
  refine Y_sub [0, 1] (lv' := [(0, .ref (ρ k0)), (1, .int i1)]) rfl ?_
  refine Y_aload_n C (pc := 0) 0 0 rfl rfl dX8_optimal_0 ?_
  refine Y_getR C (pc := 1) hk0 q_fi_RX8_26 (by decide) dX8_optimal_1 ?_
  refine Y_aload_n C (pc := 4) 0 0 rfl rfl dX8_optimal_4 ?_
  refine Y_getR C (pc := 5) hk0 q_fi_RX8_12 (by decide) dX8_optimal_5 ?_
  obtain ⟨v1, hv1, h⟩ := Option.bind_eq_some_iff.mp h
  refine Y_callV C [.ref (ρ (k0 + 1))] [] [] (q_kr_8_2 hk0) rfl rfl (c_X0_load hI (q_kr_8_2 hk0) (q_kr_8_0 hk0) hv1) (fun _ h => h) q_cw_yX0_load q_ml_RX8_152 ⟨q_im_yX0_load, q_se_yX0_load⟩ ⟨⟨Nat.le_of_ble_eq_true rfl, Nat.le_of_ble_eq_true rfl⟩, ⟨Nat.zero_le _, Nat.zero_le _⟩, Nat.le_of_ble_eq_true rfl⟩ rfl rfl rfl dX8_optimal_8 ?_
  refine Y_aload_n C (pc := 11) 0 0 rfl rfl dX8_optimal_11 ?_
  refine Y_getR C (pc := 12) hk0 q_fi_RX8_26 (by decide) dX8_optimal_12 ?_
  refine Y_iload_n C (pc := 15) 1 1 rfl rfl dX8_optimal_15 ?_
  obtain ⟨v2, hv2, h⟩ := Option.bind_eq_some_iff.mp h
  refine Y_callV C [.int i1] [] [.int v2] (q_kr_8_2 hk0) rfl rfl (c_X0_cheapestAt (q_kr_8_2 hk0) hv2) (fun _ h => h.elim) q_cw_yX0_cheapestAt q_ml_RX8_161 ⟨q_im_yX0_cheapestAt, q_se_yX0_cheapestAt⟩ ⟨⟨Nat.le_of_ble_eq_true rfl, Nat.le_of_ble_eq_true rfl⟩, ⟨Nat.zero_le _, Nat.zero_le _⟩, Nat.le_of_ble_eq_true rfl⟩ rfl rfl rfl dX8_optimal_16 ?_
  cases h
  exact Y_iret C dX8_optimal_19

set_option maxRecDepth 100000 in
set_option maxHeartbeats 4000000 in
theorem c_X8_commonDivisor {l : Launch} {D : va_G} {cA ρ : Nat → Nat} {σ : Sg} {τ : Tg} {i0 : Int32} {i1 : Int32}  {r : Int32} (h : f_X8_commonDivisor i0 i1 = some r) : Ct l yX8_commonDivisor cX8_commonDivisor 6 (some .int) 0 0 D cA ρ A0 [.int i0, .int i1] σ τ (some (.int r)) σ τ := by
  refine Ct_of (by decide +kernel) (Nat.le_of_ble_eq_true rfl) (fun p e s m args below meth c C => ?_)
  have C : Ctx p l s m args meth c cX8_commonDivisor RX8 6 (some .int) D cA ρ A0 := C
  unfold f_X8_commonDivisor at h
  refine Y_sub [0, 1] (lv' := [(0, .int i0), (1, .int i1)]) rfl ?_
  refine Y_iload_n C (pc := 0) 0 0 rfl rfl dX8_commonDivisor_0 ?_
  refine Y_istore_n C (pc := 1) (lv' := [(2, .int i0), (0, .int i0), (1, .int i1)]) 2 rfl (by decide) rfl dX8_commonDivisor_1 ?_
  refine Y_iload_n C (pc := 2) 1 2 rfl rfl dX8_commonDivisor_2 ?_
  refine Y_istore_n C (pc := 3) (lv' := [(3, .int i1), (2, .int i0), (0, .int i0), (1, .int i1)]) 3 rfl (by decide) rfl dX8_commonDivisor_3 ?_
  refine Y_iconst C (pc := 4) (v := (0 : Int32)) (by decide) dX8_commonDivisor_4 ?_
  refine Y_istore C (pc := 5) (lv' := [(4, .int (0 : Int32)), (3, .int i1), (2, .int i0), (0, .int i0), (1, .int i1)]) (by decide) rfl dX8_commonDivisor_5 ?_
  obtain ⟨e5, he5, h⟩ := Option.bind_eq_some_iff.mp h
  refine Y_sub [2, 1, 0] (lv' := [(2, .int i0), (3, .int i1), (4, .int (0 : Int32))]) rfl ?_
  refine lo_rule (f := f_X8_commonDivisor_L7) (YS := fun s1 => Y p l e (Rm 0 0) s m args below meth c 6 D cA ρ A0 0 0 (MQ below (QC D cA ρ A0 (some (.int r)) σ τ) args s 0 0 A0) σ τ 7 [(2, .int s1.1), (3, .int s1.2.1), (4, .int s1.2.2)] []) (YE := fun e5 => Y p l e (Rm 0 0) s m args below meth c 6 D cA ρ A0 0 0 (MQ below (QC D cA ρ A0 (some (.int r)) σ τ) args s 0 0 A0) σ τ 34 [(2, .int e5)] []) ?_ he5 ?_
  · intro s1 x h hLp hE
    unfold f_X8_commonDivisor_L7 at h
    refine Y_iload C (pc := 7) 2 rfl dX8_commonDivisor_7 ?_
    refine Y_bipush C (pc := 9) (v := (64 : Int32)) (by decide) dX8_commonDivisor_9 ?_
    refine Y_icmp_ge C (pc := 11) (tgt := 34) dX8_commonDivisor_11 (by decide) (fun c4 => ?_) (fun c4 => ?_)
    · rw [if_pos c4] at h
      have h := Option.some.inj h
      exact Y_sub [0] rfl (hE _ h.symm)
    · rw [if_neg c4] at h
      refine Y_iload_n C (pc := 14) 3 1 rfl rfl dX8_commonDivisor_14 ?_
      refine Y_if_eq C (pc := 15) (tgt := 34) dX8_commonDivisor_15 (by decide) (fun c3 => ?_) (fun c3 => ?_)
      · rw [if_pos c3] at h
        have h := Option.some.inj h
        exact Y_sub [0] rfl (hE _ h.symm)
      · rw [if_neg c3] at h
        refine Y_iload_n C (pc := 18) 2 0 rfl rfl dX8_commonDivisor_18 ?_
        refine Y_iload_n C (pc := 19) 3 1 rfl rfl dX8_commonDivisor_19 ?_
        obtain ⟨v2, hv2, h⟩ := Option.bind_eq_some_iff.mp h
        refine Y_irem C (pc := 20) hv2 dX8_commonDivisor_20 ?_
        refine Y_istore C (pc := 21) (lv' := [(5, .int v2), (2, .int s1.1), (3, .int s1.2.1), (4, .int s1.2.2)]) (by decide) rfl dX8_commonDivisor_21 ?_
        refine Y_iload_n C (pc := 23) 3 2 rfl rfl dX8_commonDivisor_23 ?_
        refine Y_istore_n C (pc := 24) (lv' := [(2, .int s1.2.1), (5, .int v2), (3, .int s1.2.1), (4, .int s1.2.2)]) 2 rfl (by decide) rfl dX8_commonDivisor_24 ?_
        refine Y_iload C (pc := 25) 1 rfl dX8_commonDivisor_25 ?_
        refine Y_istore_n C (pc := 27) (lv' := [(3, .int v2), (2, .int s1.2.1), (5, .int v2), (4, .int s1.2.2)]) 3 rfl (by decide) rfl dX8_commonDivisor_27 ?_
        refine Y_iinc C (pc := 28) (v := (s1.2.2 + 1)) (lv' := [(4, .int (s1.2.2 + 1)), (3, .int v2), (2, .int s1.2.1), (5, .int v2)]) 3 rfl (congrArg (fun z => s1.2.2 + z) (by decide : Int32.ofInt (1) = (1))) (by decide) rfl dX8_commonDivisor_28 ?_
        refine Y_goto C (pc := 31) (tgt := 7) dX8_commonDivisor_31 (by decide) ?_
        have h := Option.some.inj h
        exact Y_sub [2, 1, 0] rfl (hLp _ h.symm)
  · refine Y_iload_n C (pc := 34) 2 0 rfl rfl dX8_commonDivisor_34 ?_
    cases h
    exact Y_iret C dX8_commonDivisor_35

set_option maxRecDepth 100000 in
set_option maxHeartbeats 4000000 in
theorem c_X8_mean {l : Launch} {D : va_G} {cA ρ : Nat → Nat} {σ : Sg} {τ : Tg} {k0 : Nat} {i1 : Int32} (hI : Inj ρ) (hk0 : kd k0 = (0, 8)) {r : Int32 × Sg} (h : f_X8_mean σ k0 i1 = some (.inr r)) : Ct l yX8_mean cX8_mean 4 (some .int) 4 93 D cA ρ (Aw ρ) [.ref (ρ k0), .int i1] σ τ (some (.int r.1)) r.2 τ := by
  refine Ct_of (by decide +kernel) (Nat.le_of_ble_eq_true rfl) (fun p e s m args below meth c C => ?_)
  have C : Ctx p l s m args meth c cX8_mean RX8 4 (some .int) D cA ρ (Aw ρ) := C
  have hW : Wr ρ (Aw ρ) := ⟨hI, fun k hk => ⟨k, hk, rfl⟩⟩
  unfold f_X8_mean at h
  refine Y_sub [0, 1] (lv' := [(0, .ref (ρ k0)), (1, .int i1)]) rfl ?_
  have hJ51 : ∀ (j3 : Int32) (sj4 : Sg), f_X8_mean_J51 k0 j3 sj4 = some (.inr r) → Y p l e (Rm 4 93) s m args below meth c 4 D cA ρ (Aw ρ) 0 0 (MQ below (QC D cA ρ (Aw ρ) (some (.int r.1)) r.2 τ) args s 0 0 (Aw ρ)) sj4 τ 51 [(0, .ref (ρ k0))] [.int j3] := by
    intro j3 sj4 h
    unfold f_X8_mean_J51 at h
    refine Y_istore_n C (pc := 51) (lv' := [(2, .int j3), (0, .ref (ρ k0))]) 2 rfl (by decide) rfl dX8_mean_51 ?_
    refine Y_aload_n C (pc := 52) 0 1 rfl rfl dX8_mean_52 ?_
    refine Y_getR C (pc := 53) hk0 q_fi_RX8_26 (by decide) dX8_mean_53 ?_
    refine Y_getI C (pc := 56) (q_kr_8_2 hk0) q_fi_RX8_166 dX8_mean_56 ?_
    refine Y_aload_n C (pc := 59) 0 1 rfl rfl dX8_mean_59 ?_
    refine Y_getR C (pc := 60) hk0 q_fi_RX8_26 (by decide) dX8_mean_60 ?_
    refine Y_getI C (pc := 63) (q_kr_8_2 hk0) q_fi_RX8_169 dX8_mean_63 ?_
    obtain ⟨v5, hv5, h⟩ := Option.bind_eq_some_iff.mp h
    refine Y_callS C [.int (sj4 (k0 + 45) 1), .int (sj4 (k0 + 45) 0)] [] [.int v5] (c_X8_commonDivisor  hv5) (fun _ h => h.elim) q_cw_yX8_commonDivisor q_ml_RX8_172 q_st_yX8_commonDivisor ⟨⟨Nat.le_of_ble_eq_true rfl, Nat.le_of_ble_eq_true rfl⟩, ⟨Nat.zero_le _, Nat.zero_le _⟩, Nat.le_of_ble_eq_true rfl⟩ rfl rfl rfl dX8_mean_66 ?_
    refine Y_istore_n C (pc := 69) (lv' := [(3, .int v5), (2, .int j3), (0, .ref (ρ k0))]) 3 rfl (by decide) rfl dX8_mean_69 ?_
    refine Y_iload_n C (pc := 70) 3 0 rfl rfl dX8_mean_70 ?_
    refine Y_if_ne C (pc := 71) (tgt := 78) dX8_mean_71 (by decide) (fun c7 => ?_) (fun c7 => ?_)
    · rw [if_neg c7] at h
      refine Y_iload_n C (pc := 78) 2 1 rfl rfl dX8_mean_78 ?_
      refine Y_iload_n C (pc := 79) 3 0 rfl rfl dX8_mean_79 ?_
      obtain ⟨v6, hv6, h⟩ := Option.bind_eq_some_iff.mp h
      refine Y_idiv C (pc := 80) hv6 dX8_mean_80 ?_
      cases h
      exact Y_iret C dX8_mean_81
    · rw [if_pos c7] at h
      refine Y_iload_n C (pc := 74) 2 1 rfl rfl dX8_mean_74 ?_
      refine Y_goto C (pc := 75) (tgt := 81) dX8_mean_75 (by decide) ?_
      cases h
      exact Y_iret C dX8_mean_81
  have hJ19 : ∀ (sj1 : Sg), f_X8_mean_J19 k0 i1 sj1 = some (.inr r) → Y p l e (Rm 4 93) s m args below meth c 4 D cA ρ (Aw ρ) 0 0 (MQ below (QC D cA ρ (Aw ρ) (some (.int r.1)) r.2 τ) args s 0 0 (Aw ρ)) sj1 τ 19 [(0, .ref (ρ k0)), (1, .int i1)] [] := by
    intro sj1 h
    unfold f_X8_mean_J19 at h
    refine Y_aload_n C (pc := 19) 0 0 rfl rfl dX8_mean_19 ?_
    refine Y_getR C (pc := 20) hk0 q_fi_RX8_26 (by decide) dX8_mean_20 ?_
    refine Y_aload_n C (pc := 23) 0 0 rfl rfl dX8_mean_23 ?_
    refine Y_getR C (pc := 24) hk0 q_fi_RX8_12 (by decide) dX8_mean_24 ?_
    obtain ⟨v2, hv2, h⟩ := Option.bind_eq_some_iff.mp h
    refine Y_callV C [.ref (ρ (k0 + 1))] [] [] (q_kr_8_2 hk0) rfl rfl (c_X0_load hI (q_kr_8_2 hk0) (q_kr_8_0 hk0) hv2) (fun _ h => h) q_cw_yX0_load q_ml_RX8_152 ⟨q_im_yX0_load, q_se_yX0_load⟩ ⟨⟨Nat.le_of_ble_eq_true rfl, Nat.le_of_ble_eq_true rfl⟩, ⟨Nat.zero_le _, Nat.zero_le _⟩, Nat.le_of_ble_eq_true rfl⟩ rfl rfl rfl dX8_mean_27 ?_
    refine Y_iload_n C (pc := 30) 1 1 rfl rfl dX8_mean_30 ?_
    refine Y_if_ne C (pc := 31) (tgt := 44) dX8_mean_31 (by decide) (fun c8 => ?_) (fun c8 => ?_)
    · rw [if_neg c8] at h
      refine Y_aload_n C (pc := 44) 0 0 rfl rfl dX8_mean_44 ?_
      refine Y_getR C (pc := 45) hk0 q_fi_RX8_26 (by decide) dX8_mean_45 ?_
      refine Y_getI C (pc := 48) (q_kr_8_2 hk0) q_fi_RX8_169 dX8_mean_48 ?_
      exact Y_sub [0] rfl (hJ51 _ _ h)
    · rw [if_pos c8] at h
      refine Y_aload_n C (pc := 34) 0 0 rfl rfl dX8_mean_34 ?_
      refine Y_getR C (pc := 35) hk0 q_fi_RX8_26 (by decide) dX8_mean_35 ?_
      refine Y_getI C (pc := 38) (q_kr_8_2 hk0) q_fi_RX8_166 dX8_mean_38 ?_
      refine Y_goto C (pc := 41) (tgt := 51) dX8_mean_41 (by decide) ?_
      exact Y_sub [0] rfl (hJ51 _ _ h)
  refine Y_iload_n C (pc := 0) 1 1 rfl rfl dX8_mean_0 ?_
  refine Y_if_eq C (pc := 1) (tgt := 19) dX8_mean_1 (by decide) (fun c10 => ?_) (fun c10 => ?_)
  · rw [if_pos c10] at h
    exact Y_sub [0, 1] rfl (hJ19 _ h)
  · rw [if_neg c10] at h
    refine Y_iload_n C (pc := 4) 1 1 rfl rfl dX8_mean_4 ?_
    refine Y_iconst C (pc := 5) (v := (1 : Int32)) (by decide) dX8_mean_5 ?_
    refine Y_icmp_eq C (pc := 6) (tgt := 19) dX8_mean_6 (by decide) (fun c9 => ?_) (fun c9 => ?_)
    · rw [if_pos c9] at h
      exact Y_sub [0, 1] rfl (hJ19 _ h)
    · rw [if_neg c9] at h
      cases h
set_option maxRecDepth 100000 in
set_option maxHeartbeats 4000000 in
theorem t_X8_mean {l : Launch} {D : va_G} {cA ρ : Nat → Nat} {σ : Sg} {τ : Tg} {k0 : Nat} {i1 : Int32} (hI : Inj ρ) (hk0 : kd k0 = (0, 8)) {r : Nat × Sg} (h : f_X8_mean σ k0 i1 = some (.inl r)) : CtT l yX8_mean cX8_mean 4 (some .int) 6 93 D cA ρ [.ref (ρ k0), .int i1] σ τ (xn r.1) r.2 τ := by
  refine CtT_of (by decide +kernel) (Nat.le_of_ble_eq_true rfl) (fun p e s m args below meth c C X hno => ?_)
  have C : Ctx p l s m args meth c cX8_mean RX8 4 (some .int) D cA ρ (Ax ρ s.heap.size) := C
  have hW : Wr ρ (Ax ρ s.heap.size) := ⟨hI, fun k hk => Or.inl ⟨k, hk, rfl⟩⟩
  unfold f_X8_mean at h
  refine Y_sub [0, 1] (lv' := [(0, .ref (ρ k0)), (1, .int i1)]) rfl ?_
  have hJ51 : ∀ (j3 : Int32) (sj4 : Sg), f_X8_mean_J51 k0 j3 sj4 = some (.inl r) → Y p l e (Rx 6 93) s m args below meth c 4 D cA ρ (Ax ρ s.heap.size) 0 0 (vx_MQ below NoQ (XT D cA ρ (Ax ρ s.heap.size) r.2 τ (xn r.1)) args s 1 6 (Ax ρ s.heap.size)) sj4 τ 51 [(0, .ref (ρ k0))] [.int j3] := by
    intro j3 sj4 h
    unfold f_X8_mean_J51 at h
    refine Y_istore_n C (pc := 51) (lv' := [(2, .int j3), (0, .ref (ρ k0))]) 2 rfl (by decide) rfl dX8_mean_51 ?_
    refine Y_aload_n C (pc := 52) 0 1 rfl rfl dX8_mean_52 ?_
    refine Y_getR C (pc := 53) hk0 q_fi_RX8_26 (by decide) dX8_mean_53 ?_
    refine Y_getI C (pc := 56) (q_kr_8_2 hk0) q_fi_RX8_166 dX8_mean_56 ?_
    refine Y_aload_n C (pc := 59) 0 1 rfl rfl dX8_mean_59 ?_
    refine Y_getR C (pc := 60) hk0 q_fi_RX8_26 (by decide) dX8_mean_60 ?_
    refine Y_getI C (pc := 63) (q_kr_8_2 hk0) q_fi_RX8_169 dX8_mean_63 ?_
    obtain ⟨v5, hv5, h⟩ := Option.bind_eq_some_iff.mp h
    refine Y_callS C [.int (sj4 (k0 + 45) 1), .int (sj4 (k0 + 45) 0)] [] [.int v5] (c_X8_commonDivisor  hv5) (fun _ h => h.elim) q_cw_yX8_commonDivisor q_ml_RX8_172 q_st_yX8_commonDivisor ⟨⟨Nat.le_of_ble_eq_true rfl, Nat.le_of_ble_eq_true rfl⟩, ⟨Nat.zero_le _, Nat.zero_le _⟩, Nat.le_of_ble_eq_true rfl⟩ rfl rfl rfl dX8_mean_66 ?_
    refine Y_istore_n C (pc := 69) (lv' := [(3, .int v5), (2, .int j3), (0, .ref (ρ k0))]) 3 rfl (by decide) rfl dX8_mean_69 ?_
    refine Y_iload_n C (pc := 70) 3 0 rfl rfl dX8_mean_70 ?_
    refine Y_if_ne C (pc := 71) (tgt := 78) dX8_mean_71 (by decide) (fun c7 => ?_) (fun c7 => ?_)
    · rw [if_neg c7] at h
      refine Y_iload_n C (pc := 78) 2 1 rfl rfl dX8_mean_78 ?_
      refine Y_iload_n C (pc := 79) 3 0 rfl rfl dX8_mean_79 ?_
      obtain ⟨v6, hv6, h⟩ := Option.bind_eq_some_iff.mp h
      refine Y_idiv C (pc := 80) hv6 dX8_mean_80 ?_
      cases h
    · rw [if_pos c7] at h
      refine Y_iload_n C (pc := 74) 2 1 rfl rfl dX8_mean_74 ?_
      refine Y_goto C (pc := 75) (tgt := 81) dX8_mean_75 (by decide) ?_
      cases h
  have hJ19 : ∀ (sj1 : Sg), f_X8_mean_J19 k0 i1 sj1 = some (.inl r) → Y p l e (Rx 6 93) s m args below meth c 4 D cA ρ (Ax ρ s.heap.size) 0 0 (vx_MQ below NoQ (XT D cA ρ (Ax ρ s.heap.size) r.2 τ (xn r.1)) args s 1 6 (Ax ρ s.heap.size)) sj1 τ 19 [(0, .ref (ρ k0)), (1, .int i1)] [] := by
    intro sj1 h
    unfold f_X8_mean_J19 at h
    refine Y_aload_n C (pc := 19) 0 0 rfl rfl dX8_mean_19 ?_
    refine Y_getR C (pc := 20) hk0 q_fi_RX8_26 (by decide) dX8_mean_20 ?_
    refine Y_aload_n C (pc := 23) 0 0 rfl rfl dX8_mean_23 ?_
    refine Y_getR C (pc := 24) hk0 q_fi_RX8_12 (by decide) dX8_mean_24 ?_
    obtain ⟨v2, hv2, h⟩ := Option.bind_eq_some_iff.mp h
    refine Y_callV C [.ref (ρ (k0 + 1))] [] [] (q_kr_8_2 hk0) rfl rfl (c_X0_load hI (q_kr_8_2 hk0) (q_kr_8_0 hk0) hv2) (fun _ h => Or.inl h) q_cw_yX0_load q_ml_RX8_152 ⟨q_im_yX0_load, q_se_yX0_load⟩ ⟨⟨Nat.le_of_ble_eq_true rfl, Nat.le_of_ble_eq_true rfl⟩, ⟨Nat.zero_le _, Nat.zero_le _⟩, Nat.le_of_ble_eq_true rfl⟩ rfl rfl rfl dX8_mean_27 ?_
    refine Y_iload_n C (pc := 30) 1 1 rfl rfl dX8_mean_30 ?_
    refine Y_if_ne C (pc := 31) (tgt := 44) dX8_mean_31 (by decide) (fun c8 => ?_) (fun c8 => ?_)
    · rw [if_neg c8] at h
      refine Y_aload_n C (pc := 44) 0 0 rfl rfl dX8_mean_44 ?_
      refine Y_getR C (pc := 45) hk0 q_fi_RX8_26 (by decide) dX8_mean_45 ?_
      refine Y_getI C (pc := 48) (q_kr_8_2 hk0) q_fi_RX8_169 dX8_mean_48 ?_
      exact Y_sub [0] rfl (hJ51 _ _ h)
    · rw [if_pos c8] at h
      refine Y_aload_n C (pc := 34) 0 0 rfl rfl dX8_mean_34 ?_
      refine Y_getR C (pc := 35) hk0 q_fi_RX8_26 (by decide) dX8_mean_35 ?_
      refine Y_getI C (pc := 38) (q_kr_8_2 hk0) q_fi_RX8_166 dX8_mean_38 ?_
      refine Y_goto C (pc := 41) (tgt := 51) dX8_mean_41 (by decide) ?_
      exact Y_sub [0] rfl (hJ51 _ _ h)
  refine Y_iload_n C (pc := 0) 1 1 rfl rfl dX8_mean_0 ?_
  refine Y_if_eq C (pc := 1) (tgt := 19) dX8_mean_1 (by decide) (fun c10 => ?_) (fun c10 => ?_)
  · rw [if_pos c10] at h
    exact Y_sub [0, 1] rfl (hJ19 _ h)
  · rw [if_neg c10] at h
    refine Y_iload_n C (pc := 4) 1 1 rfl rfl dX8_mean_4 ?_
    refine Y_iconst C (pc := 5) (v := (1 : Int32)) (by decide) dX8_mean_5 ?_
    refine Y_icmp_eq C (pc := 6) (tgt := 19) dX8_mean_6 (by decide) (fun c9 => ?_) (fun c9 => ?_)
    · rw [if_pos c9] at h
      exact Y_sub [0, 1] rfl (hJ19 _ h)
    · rw [if_neg c9] at h
      cases h
      exact Y_throw (σ0 := σ) (τ0 := τ) (E := "java/lang/IllegalArgumentException") (pc := 9) C X hno (by decide +kernel) q_cl_RX8_62 q_ix_0 q_sr_RX8_164 q_at_RX8_66 dX8_mean_9 dX8_mean_12 dX8_mean_13 dX8_mean_15 dX8_mean_18 ⟨Nat.le_of_ble_eq_true rfl, Nat.le_of_ble_eq_true rfl, Nat.le_of_ble_eq_true rfl, Nat.le_of_ble_eq_true rfl⟩ (fun _ h => Or.inr h)

