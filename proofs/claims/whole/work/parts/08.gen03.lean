noncomputable def f_X8_within (σ : Sg) (k0 : Nat) (i1 : Int32) : Option (Int32 × Sg) := (f_X0_load σ (k0 + 45) ((k0 + 1))).bind fun v1 => (f_X0_countUpTo v1 (k0 + 45) i1).bind fun v2 => some (v2, v1)
set_option maxRecDepth 100000 in
set_option maxHeartbeats 4000000 in
theorem c_X8_within {l : Launch} {D : va_G} {cA ρ : Nat → Nat} {σ : Sg} {τ : Tg} {k0 : Nat} {i1 : Int32} (hI : Inj ρ) (hk0 : kd k0 = (0, 8)) {r : Int32 × Sg} (h : f_X8_within σ k0 i1 = some r) : Ct l yX8_within cX8_within 2 (some .int) 4 93 D cA ρ (Aw ρ) [.ref (ρ k0), .int i1] σ τ (some (.int r.1)) r.2 τ := by
  refine Ct_of (by decide +kernel) (Nat.le_of_ble_eq_true rfl) (fun p e s m args below meth c C => ?_)
  have C : Ctx p l s m args meth c cX8_within RX8 2 (some .int) D cA ρ (Aw ρ) := C
  have hW : Wr ρ (Aw ρ) := ⟨hI, fun k hk => ⟨k, hk, rfl⟩⟩
  unfold f_X8_within at h
  refine Y_sub [0, 1] (lv' := [(0, .ref (ρ k0)), (1, .int i1)]) rfl ?_
  refine Y_aload_n C (pc := 0) 0 0 rfl rfl dX8_within_0 ?_
  refine Y_getR C (pc := 1) hk0 q_fi_RX8_26 (by decide) dX8_within_1 ?_
  refine Y_aload_n C (pc := 4) 0 0 rfl rfl dX8_within_4 ?_
  refine Y_getR C (pc := 5) hk0 q_fi_RX8_12 (by decide) dX8_within_5 ?_
  obtain ⟨v1, hv1, h⟩ := Option.bind_eq_some_iff.mp h
  refine Y_callV C [.ref (ρ (k0 + 1))] [] [] (q_kr_8_2 hk0) rfl rfl (c_X0_load hI (q_kr_8_2 hk0) (q_kr_8_0 hk0) hv1) (fun _ h => h) q_cw_yX0_load q_ml_RX8_152 ⟨q_im_yX0_load, q_se_yX0_load⟩ ⟨⟨Nat.le_of_ble_eq_true rfl, Nat.le_of_ble_eq_true rfl⟩, ⟨Nat.zero_le _, Nat.zero_le _⟩, Nat.le_of_ble_eq_true rfl⟩ rfl rfl rfl dX8_within_8 ?_
  refine Y_aload_n C (pc := 11) 0 0 rfl rfl dX8_within_11 ?_
  refine Y_getR C (pc := 12) hk0 q_fi_RX8_26 (by decide) dX8_within_12 ?_
  refine Y_iload_n C (pc := 15) 1 1 rfl rfl dX8_within_15 ?_
  obtain ⟨v2, hv2, h⟩ := Option.bind_eq_some_iff.mp h
  refine Y_callV C [.int i1] [] [.int v2] (q_kr_8_2 hk0) rfl rfl (c_X0_countUpTo (q_kr_8_2 hk0) hv2) (fun _ h => h.elim) q_cw_yX0_countUpTo q_ml_RX8_155 ⟨q_im_yX0_countUpTo, q_se_yX0_countUpTo⟩ ⟨⟨Nat.le_of_ble_eq_true rfl, Nat.le_of_ble_eq_true rfl⟩, ⟨Nat.zero_le _, Nat.zero_le _⟩, Nat.le_of_ble_eq_true rfl⟩ rfl rfl rfl dX8_within_16 ?_
  cases h
  exact Y_iret C dX8_within_19

noncomputable def f_X8_optimum (σ : Sg) (k0 : Nat) : Option (Int32 × Sg) := (f_X0_load σ (k0 + 45) ((k0 + 1))).bind fun v1 => some ((v1 (k0 + 45) 2), v1)
set_option maxRecDepth 100000 in
set_option maxHeartbeats 4000000 in
theorem c_X8_optimum {l : Launch} {D : va_G} {cA ρ : Nat → Nat} {σ : Sg} {τ : Tg} {k0 : Nat} (hI : Inj ρ) (hk0 : kd k0 = (0, 8)) {r : Int32 × Sg} (h : f_X8_optimum σ k0 = some r) : Ct l yX8_optimum cX8_optimum 1 (some .int) 4 93 D cA ρ (Aw ρ) [.ref (ρ k0)] σ τ (some (.int r.1)) r.2 τ := by
  refine Ct_of (by decide +kernel) (Nat.le_of_ble_eq_true rfl) (fun p e s m args below meth c C => ?_)
  have C : Ctx p l s m args meth c cX8_optimum RX8 1 (some .int) D cA ρ (Aw ρ) := C
  have hW : Wr ρ (Aw ρ) := ⟨hI, fun k hk => ⟨k, hk, rfl⟩⟩
  unfold f_X8_optimum at h
  refine Y_sub [0] (lv' := [(0, .ref (ρ k0))]) rfl ?_
  refine Y_aload_n C (pc := 0) 0 0 rfl rfl dX8_optimum_0 ?_
  refine Y_getR C (pc := 1) hk0 q_fi_RX8_26 (by decide) dX8_optimum_1 ?_
  refine Y_aload_n C (pc := 4) 0 0 rfl rfl dX8_optimum_4 ?_
  refine Y_getR C (pc := 5) hk0 q_fi_RX8_12 (by decide) dX8_optimum_5 ?_
  obtain ⟨v1, hv1, h⟩ := Option.bind_eq_some_iff.mp h
  refine Y_callV C [.ref (ρ (k0 + 1))] [] [] (q_kr_8_2 hk0) rfl rfl (c_X0_load hI (q_kr_8_2 hk0) (q_kr_8_0 hk0) hv1) (fun _ h => h) q_cw_yX0_load q_ml_RX8_152 ⟨q_im_yX0_load, q_se_yX0_load⟩ ⟨⟨Nat.le_of_ble_eq_true rfl, Nat.le_of_ble_eq_true rfl⟩, ⟨Nat.zero_le _, Nat.zero_le _⟩, Nat.le_of_ble_eq_true rfl⟩ rfl rfl rfl dX8_optimum_8 ?_
  refine Y_aload_n C (pc := 11) 0 0 rfl rfl dX8_optimum_11 ?_
  refine Y_getR C (pc := 12) hk0 q_fi_RX8_26 (by decide) dX8_optimum_12 ?_
  refine Y_getI C (pc := 15) (q_kr_8_2 hk0) q_fi_RX8_158 dX8_optimum_15 ?_
  cases h
  exact Y_iret C dX8_optimum_18

noncomputable def f_X8_optima (σ : Sg) (k0 : Nat) : Option (Int32 × Sg) := (f_X0_load σ (k0 + 45) ((k0 + 1))).bind fun v1 => (f_X0_countUpTo v1 (k0 + 45) ((v1 (k0 + 45) 2))).bind fun v2 => some (v2, v1)
set_option maxRecDepth 100000 in
set_option maxHeartbeats 4000000 in
theorem c_X8_optima {l : Launch} {D : va_G} {cA ρ : Nat → Nat} {σ : Sg} {τ : Tg} {k0 : Nat} (hI : Inj ρ) (hk0 : kd k0 = (0, 8)) {r : Int32 × Sg} (h : f_X8_optima σ k0 = some r) : Ct l yX8_optima cX8_optima 1 (some .int) 4 93 D cA ρ (Aw ρ) [.ref (ρ k0)] σ τ (some (.int r.1)) r.2 τ := by
  refine Ct_of (by decide +kernel) (Nat.le_of_ble_eq_true rfl) (fun p e s m args below meth c C => ?_)
  have C : Ctx p l s m args meth c cX8_optima RX8 1 (some .int) D cA ρ (Aw ρ) := C
  have hW : Wr ρ (Aw ρ) := ⟨hI, fun k hk => ⟨k, hk, rfl⟩⟩
  unfold f_X8_optima at h
  refine Y_sub [0] (lv' := [(0, .ref (ρ k0))]) rfl ?_
  refine Y_aload_n C (pc := 0) 0 0 rfl rfl dX8_optima_0 ?_
  refine Y_getR C (pc := 1) hk0 q_fi_RX8_26 (by decide) dX8_optima_1 ?_
  refine Y_aload_n C (pc := 4) 0 0 rfl rfl dX8_optima_4 ?_
  refine Y_getR C (pc := 5) hk0 q_fi_RX8_12 (by decide) dX8_optima_5 ?_
  obtain ⟨v1, hv1, h⟩ := Option.bind_eq_some_iff.mp h
  refine Y_callV C [.ref (ρ (k0 + 1))] [] [] (q_kr_8_2 hk0) rfl rfl (c_X0_load hI (q_kr_8_2 hk0) (q_kr_8_0 hk0) hv1) (fun _ h => h) q_cw_yX0_load q_ml_RX8_152 ⟨q_im_yX0_load, q_se_yX0_load⟩ ⟨⟨Nat.le_of_ble_eq_true rfl, Nat.le_of_ble_eq_true rfl⟩, ⟨Nat.zero_le _, Nat.zero_le _⟩, Nat.le_of_ble_eq_true rfl⟩ rfl rfl rfl dX8_optima_8 ?_
  refine Y_aload_n C (pc := 11) 0 0 rfl rfl dX8_optima_11 ?_
  refine Y_getR C (pc := 12) hk0 q_fi_RX8_26 (by decide) dX8_optima_12 ?_
  refine Y_aload_n C (pc := 15) 0 0 rfl rfl dX8_optima_15 ?_
  refine Y_getR C (pc := 16) hk0 q_fi_RX8_26 (by decide) dX8_optima_16 ?_
  refine Y_getI C (pc := 19) (q_kr_8_2 hk0) q_fi_RX8_158 dX8_optima_19 ?_
  obtain ⟨v2, hv2, h⟩ := Option.bind_eq_some_iff.mp h
  refine Y_callV C [.int (v1 (k0 + 45) 2)] [] [.int v2] (q_kr_8_2 hk0) rfl rfl (c_X0_countUpTo (q_kr_8_2 hk0) hv2) (fun _ h => h.elim) q_cw_yX0_countUpTo q_ml_RX8_155 ⟨q_im_yX0_countUpTo, q_se_yX0_countUpTo⟩ ⟨⟨Nat.le_of_ble_eq_true rfl, Nat.le_of_ble_eq_true rfl⟩, ⟨Nat.zero_le _, Nat.zero_le _⟩, Nat.le_of_ble_eq_true rfl⟩ rfl rfl rfl dX8_optima_22 ?_
  cases h
  exact Y_iret C dX8_optima_25

noncomputable def f_X8_optimal (σ : Sg) (k0 : Nat) (i1 : Int32) : Option (Int32 × Sg) := (f_X0_load σ (k0 + 45) ((k0 + 1))).bind fun v1 => (f_X0_cheapestAt v1 (k0 + 45) i1).bind fun v2 => some (v2, v1)
set_option maxRecDepth 100000 in
set_option maxHeartbeats 4000000 in
theorem c_X8_optimal {l : Launch} {D : va_G} {cA ρ : Nat → Nat} {σ : Sg} {τ : Tg} {k0 : Nat} {i1 : Int32} (hI : Inj ρ) (hk0 : kd k0 = (0, 8)) {r : Int32 × Sg} (h : f_X8_optimal σ k0 i1 = some r) : Ct l yX8_optimal cX8_optimal 2 (some .int) 4 93 D cA ρ (Aw ρ) [.ref (ρ k0), .int i1] σ τ (some (.int r.1)) r.2 τ := by
  refine Ct_of (by decide +kernel) (Nat.le_of_ble_eq_true rfl) (fun p e s m args below meth c C => ?_)
  have C : Ctx p l s m args meth c cX8_optimal RX8 2 (some .int) D cA ρ (Aw ρ) := C
  have hW : Wr ρ (Aw ρ) := ⟨hI, fun k hk => ⟨k, hk, rfl⟩⟩
  unfold f_X8_optimal at h
  refine Y_sub [0, 1] (lv' := [(0, .ref (ρ k0)), (1, .int i1)]) rfl ?_
  refine Y_aload_n C (pc := 0) 0 0 rfl rfl dX8_optimal_0 ?_
  refine Y_getR C (pc := 1) hk0 q_fi_RX8_26 (by decide) dX8_optimal_1 ?_
  refine Y_aload_n C (pc := 4) 0 0 rfl rfl dX8_optimal_4 ?_
  refine Y_getR C (pc := 5) hk0 q_fi_RX8_12 (by decide) dX8_optimal_5 ?_
  obtain ⟨v1, hv1, h⟩ := Option.bind_eq_some_iff.mp h
  refine Y_callV C [.ref (ρ (k0 + 1))] [] [] (q_kr_8_2 hk0) rfl rfl (c_X0_load hI (q_kr_8_2 hk0) (q_kr_8_0 hk0) hv1) (fun _ h => h) q_cw_yX0_load q_ml_RX8_152 ⟨q_im_yX0_load, q_se_yX0_load⟩ ⟨⟨Nat.le_of_ble_eq_true rfl, Nat.le_of_ble_eq_true rfl⟩, ⟨Nat.zero_le _, Nat.zero_le _⟩, Nat.le_of_ble_eq_true rfl⟩ rfl rfl rfl dX8_optimal_8 ?_
  refine Y_aload_n C (pc := 11) 0 0 rfl rfl dX8_optimal_11 ?_
  refine Y_getR C (pc := 12) hk0 q_fi_RX8_26 (by decide) dX8_optimal_12 ?_
  refine Y_iload_n C (pc := 15) 1 1 rfl rfl dX8_optimal_15 ?_
  obtain ⟨v2, hv2, h⟩ := Option.bind_eq_some_iff.mp h
  refine Y_callV C [.int i1] [] [.int v2] (q_kr_8_2 hk0) rfl rfl (c_X0_cheapestAt (q_kr_8_2 hk0) hv2) (fun _ h => h.elim) q_cw_yX0_cheapestAt q_ml_RX8_161 ⟨q_im_yX0_cheapestAt, q_se_yX0_cheapestAt⟩ ⟨⟨Nat.le_of_ble_eq_true rfl, Nat.le_of_ble_eq_true rfl⟩, ⟨Nat.zero_le _, Nat.zero_le _⟩, Nat.le_of_ble_eq_true rfl⟩ rfl rfl rfl dX8_optimal_16 ?_
  cases h
  exact Y_iret C dX8_optimal_19

noncomputable def f_X8_commonDivisor_L7  : (Int32 × Int32 × Int32) → Option ((Int32 × Int32 × Int32) ⊕ (Int32)) := fun s1 => if (64 : Int32) ≤ s1.2.2 then (some (.inr s1.1)) else (if s1.2.1 = (0 : Int32) then (some (.inr s1.1)) else ((rm s1.1 s1.2.1).bind fun v2 => some (.inl (s1.2.1, v2, (s1.2.2 + 1)))))
noncomputable def f_X8_commonDivisor (i0 : Int32) (i1 : Int32) : Option (Int32) := (lo f_X8_commonDivisor_L7 (i0, i1, (0 : Int32))).bind fun e5 => some e5
set_option maxRecDepth 100000 in
set_option maxHeartbeats 4000000 in
theorem c_X8_commonDivisor {l : Launch} {D : va_G} {cA ρ : Nat → Nat} {σ : Sg} {τ : Tg} {i0 : Int32} {i1 : Int32}  {r : Int32} (h : f_X8_commonDivisor i0 i1 = some r) : Ct l yX8_commonDivisor cX8_commonDivisor 6 (some .int) 0 0 D cA ρ A0 [.int i0, .int i1] σ τ (some (.int r)) σ τ := by
  refine Ct_of (by decide +kernel) (Nat.le_of_ble_eq_true rfl) (fun p e s m args below meth c C => ?_)
  have C : Ctx p l s m args meth c cX8_commonDivisor RX8 6 (some .int) D cA ρ A0 := C
  unfold f_X8_commonDivisor at h
  refine Y_sub [0, 1] (lv' := [(0, .int i0), (1, .int i1)]) rfl ?_
  refine Y_iload_n C (pc := 0) 0 0 rfl rfl dX8_commonDivisor_0 ?_
  refine Y_istore_n C (pc := 1) (lv' := [(2, .int i0), (0, .int i0), (1, .int i1)]) 2 rfl (by decide) rfl dX8_commonDivisor_1 ?_
  refine Y_iload_n C (pc := 2) 1 2 rfl rfl dX8_commonDivisor_2 ?_
  refine Y_istore_n C (pc := 3) (lv' := [(3, .int i1), (2, .int i0), (0, .int i0), (1, .int i1)]) 3 rfl (by decide) rfl dX8_commonDivisor_3 ?_
  refine Y_iconst C (pc := 4) (v := (0 : Int32)) (by decide) dX8_commonDivisor_4 ?_
  refine Y_istore C (pc := 5) (lv' := [(4, .int (0 : Int32)), (3, .int i1), (2, .int i0), (0, .int i0), (1, .int i1)]) (by decide) rfl dX8_commonDivisor_5 ?_
  obtain ⟨e5, he5, h⟩ := Option.bind_eq_some_iff.mp h
  refine Y_sub [2, 1, 0] (lv' := [(2, .int i0), (3, .int i1), (4, .int (0 : Int32))]) rfl ?_
  refine lo_rule (f := f_X8_commonDivisor_L7) (YS := fun s1 => Y p l e (Rm 0 0) s m args below meth c 6 D cA ρ A0 0 0 (MQ below (QC D cA ρ A0 (some (.int r)) σ τ) args s 0 0 A0) σ τ 7 [(2, .int s1.1), (3, .int s1.2.1), (4, .int s1.2.2)] []) (YE := fun e5 => Y p l e (Rm 0 0) s m args below meth c 6 D cA ρ A0 0 0 (MQ below (QC D cA ρ A0 (some (.int r)) σ τ) args s 0 0 A0) σ τ 34 [(2, .int e5)] []) ?_ he5 ?_
  · intro s1 x h hLp hE
    unfold f_X8_commonDivisor_L7 at h
    refine Y_iload C (pc := 7) 2 rfl dX8_commonDivisor_7 ?_
    refine Y_bipush C (pc := 9) (v := (64 : Int32)) (by decide) dX8_commonDivisor_9 ?_
    refine Y_icmp_ge C (pc := 11) (tgt := 34) dX8_commonDivisor_11 (by decide) (fun c4 => ?_) (fun c4 => ?_)
    · rw [if_pos c4] at h
      have h := Option.some.inj h
      exact Y_sub [0] rfl (hE _ h.symm)
    · rw [if_neg c4] at h
      refine Y_iload_n C (pc := 14) 3 1 rfl rfl dX8_commonDivisor_14 ?_
      refine Y_if_eq C (pc := 15) (tgt := 34) dX8_commonDivisor_15 (by decide) (fun c3 => ?_) (fun c3 => ?_)
      · rw [if_pos c3] at h
        have h := Option.some.inj h
        exact Y_sub [0] rfl (hE _ h.symm)
      · rw [if_neg c3] at h
        refine Y_iload_n C (pc := 18) 2 0 rfl rfl dX8_commonDivisor_18 ?_
        refine Y_iload_n C (pc := 19) 3 1 rfl rfl dX8_commonDivisor_19 ?_
        obtain ⟨v2, hv2, h⟩ := Option.bind_eq_some_iff.mp h
        refine Y_irem C (pc := 20) hv2 dX8_commonDivisor_20 ?_
        refine Y_istore C (pc := 21) (lv' := [(5, .int v2), (2, .int s1.1), (3, .int s1.2.1), (4, .int s1.2.2)]) (by decide) rfl dX8_commonDivisor_21 ?_
        refine Y_iload_n C (pc := 23) 3 2 rfl rfl dX8_commonDivisor_23 ?_
        refine Y_istore_n C (pc := 24) (lv' := [(2, .int s1.2.1), (5, .int v2), (3, .int s1.2.1), (4, .int s1.2.2)]) 2 rfl (by decide) rfl dX8_commonDivisor_24 ?_
        refine Y_iload C (pc := 25) 1 rfl dX8_commonDivisor_25 ?_
        refine Y_istore_n C (pc := 27) (lv' := [(3, .int v2), (2, .int s1.2.1), (5, .int v2), (4, .int s1.2.2)]) 3 rfl (by decide) rfl dX8_commonDivisor_27 ?_
        refine Y_iinc C (pc := 28) (v := (s1.2.2 + 1)) (lv' := [(4, .int (s1.2.2 + 1)), (3, .int v2), (2, .int s1.2.1), (5, .int v2)]) 3 rfl (congrArg (fun z => s1.2.2 + z) (by decide : Int32.ofInt (1) = (1))) (by decide) rfl dX8_commonDivisor_28 ?_
        refine Y_goto C (pc := 31) (tgt := 7) dX8_commonDivisor_31 (by decide) ?_
        have h := Option.some.inj h
        exact Y_sub [2, 1, 0] rfl (hLp _ h.symm)
  · refine Y_iload_n C (pc := 34) 2 0 rfl rfl dX8_commonDivisor_34 ?_
    cases h
    exact Y_iret C dX8_commonDivisor_35

noncomputable def f_X8_localOptima (σ : Sg) (k0 : Nat) : Option (Int32 × Sg) := (f_X0_countLocalOptima σ (k0 + 45) ((k0 + 1))).bind fun v1 => some (v1.1, v1.2)
set_option maxRecDepth 100000 in
set_option maxHeartbeats 4000000 in
theorem c_X8_localOptima {l : Launch} {D : va_G} {cA ρ : Nat → Nat} {σ : Sg} {τ : Tg} {k0 : Nat} (hI : Inj ρ) (hk0 : kd k0 = (0, 8)) {r : Int32 × Sg} (h : f_X8_localOptima σ k0 = some r) : Ct l yX8_localOptima cX8_localOptima 1 (some .int) 4 97 D cA ρ (Aw ρ) [.ref (ρ k0)] σ τ (some (.int r.1)) r.2 τ := by
  refine Ct_of (by decide +kernel) (Nat.le_of_ble_eq_true rfl) (fun p e s m args below meth c C => ?_)
  have C : Ctx p l s m args meth c cX8_localOptima RX8 1 (some .int) D cA ρ (Aw ρ) := C
  have hW : Wr ρ (Aw ρ) := ⟨hI, fun k hk => ⟨k, hk, rfl⟩⟩
  unfold f_X8_localOptima at h
  refine Y_sub [0] (lv' := [(0, .ref (ρ k0))]) rfl ?_
  refine Y_aload_n C (pc := 0) 0 0 rfl rfl dX8_localOptima_0 ?_
  refine Y_getR C (pc := 1) hk0 q_fi_RX8_26 (by decide) dX8_localOptima_1 ?_
  refine Y_aload_n C (pc := 4) 0 0 rfl rfl dX8_localOptima_4 ?_
  refine Y_getR C (pc := 5) hk0 q_fi_RX8_12 (by decide) dX8_localOptima_5 ?_
  obtain ⟨v1, hv1, h⟩ := Option.bind_eq_some_iff.mp h
  refine Y_callV C [.ref (ρ (k0 + 1))] [] [.int v1.1] (q_kr_8_2 hk0) rfl rfl (c_X0_countLocalOptima hI (q_kr_8_2 hk0) (q_kr_8_0 hk0) hv1) (fun _ h => h) q_cw_yX0_countLocalOptima q_ml_RX8_176 ⟨q_im_yX0_countLocalOptima, q_se_yX0_countLocalOptima⟩ ⟨⟨Nat.le_of_ble_eq_true rfl, Nat.le_of_ble_eq_true rfl⟩, ⟨Nat.zero_le _, Nat.zero_le _⟩, Nat.le_of_ble_eq_true rfl⟩ rfl rfl rfl dX8_localOptima_8 ?_
  cases h
  exact Y_iret C dX8_localOptima_11

noncomputable def f_X8_fixedCost (σ : Sg) (k0 : Nat) : Option (Int32) := (f_X6_partCost σ (k0 + 1) (((k0 + 1) + 5))).bind fun v1 => some v1
set_option maxRecDepth 100000 in
set_option maxHeartbeats 4000000 in
theorem c_X8_fixedCost {l : Launch} {D : va_G} {cA ρ : Nat → Nat} {σ : Sg} {τ : Tg} {k0 : Nat} (hk0 : kd k0 = (0, 8)) {r : Int32} (h : f_X8_fixedCost σ k0 = some r) : Ct l yX8_fixedCost cX8_fixedCost 1 (some .int) 2 49 D cA ρ A0 [.ref (ρ k0)] σ τ (some (.int r)) σ τ := by
  refine Ct_of (by decide +kernel) (Nat.le_of_ble_eq_true rfl) (fun p e s m args below meth c C => ?_)
  have C : Ctx p l s m args meth c cX8_fixedCost RX8 1 (some .int) D cA ρ A0 := C
  unfold f_X8_fixedCost at h
  refine Y_sub [0] (lv' := [(0, .ref (ρ k0))]) rfl ?_
  refine Y_aload_n C (pc := 0) 0 0 rfl rfl dX8_fixedCost_0 ?_
  refine Y_getR C (pc := 1) hk0 q_fi_RX8_12 (by decide) dX8_fixedCost_1 ?_
  refine Y_aload_n C (pc := 4) 0 0 rfl rfl dX8_fixedCost_4 ?_
  refine Y_getR C (pc := 5) hk0 q_fi_RX8_12 (by decide) dX8_fixedCost_5 ?_
  refine Y_getR C (pc := 8) (q_kr_8_0 hk0) q_fi_RX8_184 (by decide) dX8_fixedCost_8 ?_
  obtain ⟨v1, hv1, h⟩ := Option.bind_eq_some_iff.mp h
  refine Y_callV C [.ref (ρ ((k0 + 1) + 5))] [] [.int v1] (q_kr_8_0 hk0) rfl rfl (c_X6_partCost (q_kr_8_0 hk0) (q_kr_6_5 (q_kr_8_0 hk0)) hv1) (fun _ h => h.elim) q_cw_yX6_partCost q_ml_RX8_198 ⟨q_im_yX6_partCost, q_se_yX6_partCost⟩ ⟨⟨Nat.le_of_ble_eq_true rfl, Nat.le_of_ble_eq_true rfl⟩, ⟨Nat.zero_le _, Nat.zero_le _⟩, Nat.le_of_ble_eq_true rfl⟩ rfl rfl rfl dX8_fixedCost_11 ?_
  cases h
  exact Y_iret C dX8_fixedCost_14

noncomputable def f_X8_bound (σ : Sg) (k0 : Nat) : Option (Int32 × Sg) := (f_X1_load σ (k0 + 48) ((k0 + 1)) (((k0 + 1) + 5))).bind fun v1 => (f_X1_lowest v1 (k0 + 48)).bind fun v2 => some (v2.1, v2.2)
set_option maxRecDepth 100000 in
set_option maxHeartbeats 4000000 in
theorem c_X8_bound {l : Launch} {D : va_G} {cA ρ : Nat → Nat} {σ : Sg} {τ : Tg} {k0 : Nat} (hI : Inj ρ) (hk0 : kd k0 = (0, 8)) {r : Int32 × Sg} (h : f_X8_bound σ k0 = some r) : Ct l yX8_bound cX8_bound 1 (some .int) 3 76 D cA ρ (Aw ρ) [.ref (ρ k0)] σ τ (some (.int r.1)) r.2 τ := by
  refine Ct_of (by decide +kernel) (Nat.le_of_ble_eq_true rfl) (fun p e s m args below meth c C => ?_)
  have C : Ctx p l s m args meth c cX8_bound RX8 1 (some .int) D cA ρ (Aw ρ) := C
  have hW : Wr ρ (Aw ρ) := ⟨hI, fun k hk => ⟨k, hk, rfl⟩⟩
  unfold f_X8_bound at h
  refine Y_sub [0] (lv' := [(0, .ref (ρ k0))]) rfl ?_
  refine Y_aload_n C (pc := 0) 0 0 rfl rfl dX8_bound_0 ?_
  refine Y_getR C (pc := 1) hk0 q_fi_RX8_33 (by decide) dX8_bound_1 ?_
  refine Y_aload_n C (pc := 4) 0 0 rfl rfl dX8_bound_4 ?_
  refine Y_getR C (pc := 5) hk0 q_fi_RX8_12 (by decide) dX8_bound_5 ?_
  refine Y_aload_n C (pc := 8) 0 0 rfl rfl dX8_bound_8 ?_
  refine Y_getR C (pc := 9) hk0 q_fi_RX8_12 (by decide) dX8_bound_9 ?_
  refine Y_getR C (pc := 12) (q_kr_8_0 hk0) q_fi_RX8_184 (by decide) dX8_bound_12 ?_
  obtain ⟨v1, hv1, h⟩ := Option.bind_eq_some_iff.mp h
  refine Y_callV C [.ref (ρ (k0 + 1)), .ref (ρ ((k0 + 1) + 5))] [] [] (q_kr_8_3 hk0) rfl rfl (c_X1_load hI (q_kr_8_3 hk0) (q_kr_8_0 hk0) (q_kr_6_5 (q_kr_8_0 hk0)) (q_lr_6_5 (q_kr_8_0 hk0)) hv1) (fun _ h => h) q_cw_yX1_load q_ml_RX8_201 ⟨q_im_yX1_load, q_se_yX1_load⟩ ⟨⟨Nat.le_of_ble_eq_true rfl, Nat.le_of_ble_eq_true rfl⟩, ⟨Nat.zero_le _, Nat.zero_le _⟩, Nat.le_of_ble_eq_true rfl⟩ rfl rfl rfl dX8_bound_15 ?_
  refine Y_aload_n C (pc := 18) 0 0 rfl rfl dX8_bound_18 ?_
  refine Y_getR C (pc := 19) hk0 q_fi_RX8_33 (by decide) dX8_bound_19 ?_
  obtain ⟨v2, hv2, h⟩ := Option.bind_eq_some_iff.mp h
  refine Y_callV C [] [] [.int v2.1] (q_kr_8_3 hk0) rfl rfl (c_X1_lowest hI (q_kr_8_3 hk0) hv2) (fun _ h => h) q_cw_yX1_lowest q_ml_RX8_207 ⟨q_im_yX1_lowest, q_se_yX1_lowest⟩ ⟨⟨Nat.le_of_ble_eq_true rfl, Nat.le_of_ble_eq_true rfl⟩, ⟨Nat.zero_le _, Nat.zero_le _⟩, Nat.le_of_ble_eq_true rfl⟩ rfl rfl rfl dX8_bound_22 ?_
  cases h
  exact Y_iret C dX8_bound_25

noncomputable def f_X8_branchOn (σ : Sg) (k0 : Nat) : Option (Int32 × Sg) := (f_X1_load σ (k0 + 48) ((k0 + 1)) (((k0 + 1) + 5))).bind fun v1 => (f_X1_mostRegretted v1 (k0 + 48)).bind fun v2 => some (v2, v1)
set_option maxRecDepth 100000 in
set_option maxHeartbeats 4000000 in
theorem c_X8_branchOn {l : Launch} {D : va_G} {cA ρ : Nat → Nat} {σ : Sg} {τ : Tg} {k0 : Nat} (hI : Inj ρ) (hk0 : kd k0 = (0, 8)) {r : Int32 × Sg} (h : f_X8_branchOn σ k0 = some r) : Ct l yX8_branchOn cX8_branchOn 1 (some .int) 3 76 D cA ρ (Aw ρ) [.ref (ρ k0)] σ τ (some (.int r.1)) r.2 τ := by
  refine Ct_of (by decide +kernel) (Nat.le_of_ble_eq_true rfl) (fun p e s m args below meth c C => ?_)
  have C : Ctx p l s m args meth c cX8_branchOn RX8 1 (some .int) D cA ρ (Aw ρ) := C
  have hW : Wr ρ (Aw ρ) := ⟨hI, fun k hk => ⟨k, hk, rfl⟩⟩
  unfold f_X8_branchOn at h
  refine Y_sub [0] (lv' := [(0, .ref (ρ k0))]) rfl ?_
  refine Y_aload_n C (pc := 0) 0 0 rfl rfl dX8_branchOn_0 ?_
  refine Y_getR C (pc := 1) hk0 q_fi_RX8_33 (by decide) dX8_branchOn_1 ?_
  refine Y_aload_n C (pc := 4) 0 0 rfl rfl dX8_branchOn_4 ?_
  refine Y_getR C (pc := 5) hk0 q_fi_RX8_12 (by decide) dX8_branchOn_5 ?_
  refine Y_aload_n C (pc := 8) 0 0 rfl rfl dX8_branchOn_8 ?_
  refine Y_getR C (pc := 9) hk0 q_fi_RX8_12 (by decide) dX8_branchOn_9 ?_
  refine Y_getR C (pc := 12) (q_kr_8_0 hk0) q_fi_RX8_184 (by decide) dX8_branchOn_12 ?_
  obtain ⟨v1, hv1, h⟩ := Option.bind_eq_some_iff.mp h
  refine Y_callV C [.ref (ρ (k0 + 1)), .ref (ρ ((k0 + 1) + 5))] [] [] (q_kr_8_3 hk0) rfl rfl (c_X1_load hI (q_kr_8_3 hk0) (q_kr_8_0 hk0) (q_kr_6_5 (q_kr_8_0 hk0)) (q_lr_6_5 (q_kr_8_0 hk0)) hv1) (fun _ h => h) q_cw_yX1_load q_ml_RX8_201 ⟨q_im_yX1_load, q_se_yX1_load⟩ ⟨⟨Nat.le_of_ble_eq_true rfl, Nat.le_of_ble_eq_true rfl⟩, ⟨Nat.zero_le _, Nat.zero_le _⟩, Nat.le_of_ble_eq_true rfl⟩ rfl rfl rfl dX8_branchOn_15 ?_
  refine Y_aload_n C (pc := 18) 0 0 rfl rfl dX8_branchOn_18 ?_
  refine Y_getR C (pc := 19) hk0 q_fi_RX8_33 (by decide) dX8_branchOn_19 ?_
  obtain ⟨v2, hv2, h⟩ := Option.bind_eq_some_iff.mp h
  refine Y_callV C [] [] [.int v2] (q_kr_8_3 hk0) rfl rfl (c_X1_mostRegretted (q_kr_8_3 hk0) hv2) (fun _ h => h.elim) q_cw_yX1_mostRegretted q_ml_RX8_221 ⟨q_im_yX1_mostRegretted, q_se_yX1_mostRegretted⟩ ⟨⟨Nat.le_of_ble_eq_true rfl, Nat.le_of_ble_eq_true rfl⟩, ⟨Nat.zero_le _, Nat.zero_le _⟩, Nat.le_of_ble_eq_true rfl⟩ rfl rfl rfl dX8_branchOn_22 ?_
  cases h
  exact Y_iret C dX8_branchOn_25

noncomputable def f_X8_symmetries (σ : Sg) (k0 : Nat) : Option (Int32 × Sg) := (f_X7_load σ (k0 + 54) ((k0 + 1)) (((k0 + 1) + 5))).bind fun v1 => some ((v1 (k0 + 54) 0), v1)
set_option maxRecDepth 100000 in
set_option maxHeartbeats 4000000 in
theorem c_X8_symmetries {l : Launch} {D : va_G} {cA ρ : Nat → Nat} {σ : Sg} {τ : Tg} {k0 : Nat} (hI : Inj ρ) (hk0 : kd k0 = (0, 8)) {r : Int32 × Sg} (h : f_X8_symmetries σ k0 = some r) : Ct l yX8_symmetries cX8_symmetries 1 (some .int) 4 98 D cA ρ (Aw ρ) [.ref (ρ k0)] σ τ (some (.int r.1)) r.2 τ := by
  refine Ct_of (by decide +kernel) (Nat.le_of_ble_eq_true rfl) (fun p e s m args below meth c C => ?_)
  have C : Ctx p l s m args meth c cX8_symmetries RX8 1 (some .int) D cA ρ (Aw ρ) := C
  have hW : Wr ρ (Aw ρ) := ⟨hI, fun k hk => ⟨k, hk, rfl⟩⟩
  unfold f_X8_symmetries at h
  refine Y_sub [0] (lv' := [(0, .ref (ρ k0))]) rfl ?_
  refine Y_aload_n C (pc := 0) 0 0 rfl rfl dX8_symmetries_0 ?_
  refine Y_getR C (pc := 1) hk0 q_fi_RX8_40 (by decide) dX8_symmetries_1 ?_
  refine Y_aload_n C (pc := 4) 0 0 rfl rfl dX8_symmetries_4 ?_
  refine Y_getR C (pc := 5) hk0 q_fi_RX8_12 (by decide) dX8_symmetries_5 ?_
  refine Y_aload_n C (pc := 8) 0 0 rfl rfl dX8_symmetries_8 ?_
  refine Y_getR C (pc := 9) hk0 q_fi_RX8_12 (by decide) dX8_symmetries_9 ?_
  refine Y_getR C (pc := 12) (q_kr_8_0 hk0) q_fi_RX8_184 (by decide) dX8_symmetries_12 ?_
  obtain ⟨v1, hv1, h⟩ := Option.bind_eq_some_iff.mp h
  refine Y_callV C [.ref (ρ (k0 + 1)), .ref (ρ ((k0 + 1) + 5))] [] [] (q_kr_8_4 hk0) rfl rfl (c_X7_load hI (q_kr_8_4 hk0) (q_kr_8_0 hk0) (q_kr_6_5 (q_kr_8_0 hk0)) hv1) (fun _ h => h) q_cw_yX7_load q_ml_RX8_224 ⟨q_im_yX7_load, q_se_yX7_load⟩ ⟨⟨Nat.le_of_ble_eq_true rfl, Nat.le_of_ble_eq_true rfl⟩, ⟨Nat.zero_le _, Nat.zero_le _⟩, Nat.le_of_ble_eq_true rfl⟩ rfl rfl rfl dX8_symmetries_15 ?_
  refine Y_aload_n C (pc := 18) 0 0 rfl rfl dX8_symmetries_18 ?_
  refine Y_getR C (pc := 19) hk0 q_fi_RX8_40 (by decide) dX8_symmetries_19 ?_
  refine Y_getI C (pc := 22) (q_kr_8_4 hk0) q_fi_RX8_225 dX8_symmetries_22 ?_
  cases h
  exact Y_iret C dX8_symmetries_25

noncomputable def f_X8_search (σ : Sg) (τ : Tg) (k0 : Nat) (i1 : Int32) (i2 : Int32) : Option (Int32 × Sg × Tg) := (f_X5_make σ τ (k0 + 57) ((k0 + 1)) i1 i2).bind fun v1 => some ((v1.1 (k0 + 57) 1), v1.1, v1.2)
set_option maxRecDepth 100000 in
set_option maxHeartbeats 4000000 in
theorem c_X8_search {l : Launch} {D : va_G} {cA ρ : Nat → Nat} {σ : Sg} {τ : Tg} {k0 : Nat} {i1 : Int32} {i2 : Int32} (hI : Inj ρ) (hk0 : kd k0 = (0, 8)) {r : Int32 × Sg × Tg} (h : f_X8_search σ τ k0 i1 i2 = some r) : Ct l yX8_search cX8_search 3 (some .int) 6 148 D cA ρ (Aw ρ) [.ref (ρ k0), .int i1, .int i2] σ τ (some (.int r.1)) r.2.1 r.2.2 := by
  refine Ct_of (by decide +kernel) (Nat.le_of_ble_eq_true rfl) (fun p e s m args below meth c C => ?_)
  have C : Ctx p l s m args meth c cX8_search RX8 3 (some .int) D cA ρ (Aw ρ) := C
  have hW : Wr ρ (Aw ρ) := ⟨hI, fun k hk => ⟨k, hk, rfl⟩⟩
  unfold f_X8_search at h
  refine Y_sub [0, 1, 2] (lv' := [(0, .ref (ρ k0)), (1, .int i1), (2, .int i2)]) rfl ?_
  refine Y_aload_n C (pc := 0) 0 0 rfl rfl dX8_search_0 ?_
  refine Y_getR C (pc := 1) hk0 q_fi_RX8_47 (by decide) dX8_search_1 ?_
  refine Y_aload_n C (pc := 4) 0 0 rfl rfl dX8_search_4 ?_
  refine Y_getR C (pc := 5) hk0 q_fi_RX8_12 (by decide) dX8_search_5 ?_
  refine Y_iload_n C (pc := 8) 1 1 rfl rfl dX8_search_8 ?_
  refine Y_iload_n C (pc := 9) 2 2 rfl rfl dX8_search_9 ?_
  obtain ⟨v1, hv1, h⟩ := Option.bind_eq_some_iff.mp h
  refine Y_callV C [.ref (ρ (k0 + 1)), .int i1, .int i2] [] [] (q_kr_8_5 hk0) rfl rfl (c_X5_make hI (q_kr_8_5 hk0) (q_kr_8_0 hk0) hv1) (fun _ h => h) q_cw_yX5_make q_ml_RX8_228 ⟨q_im_yX5_make, q_se_yX5_make⟩ ⟨⟨Nat.le_of_ble_eq_true rfl, Nat.le_of_ble_eq_true rfl⟩, ⟨Nat.zero_le _, Nat.zero_le _⟩, Nat.le_of_ble_eq_true rfl⟩ rfl rfl rfl dX8_search_10 ?_
  refine Y_aload_n C (pc := 13) 0 0 rfl rfl dX8_search_13 ?_
  refine Y_getR C (pc := 14) hk0 q_fi_RX8_47 (by decide) dX8_search_14 ?_
  refine Y_getI C (pc := 17) (q_kr_8_5 hk0) q_fi_RX8_232 dX8_search_17 ?_
  cases h
  exact Y_iret C dX8_search_20

noncomputable def f_X8_clearText (σ : Sg) (k0 : Nat) : Option (Int32 × Sg) := some ((σ (k0 + 72) 0), (si σ (k0 + 72) 0 (0 : Int32)))
set_option maxRecDepth 100000 in
set_option maxHeartbeats 4000000 in
theorem c_X8_clearText {l : Launch} {D : va_G} {cA ρ : Nat → Nat} {σ : Sg} {τ : Tg} {k0 : Nat} (hI : Inj ρ) (hk0 : kd k0 = (0, 8)) {r : Int32 × Sg} (h : f_X8_clearText σ k0 = some r) : Ct l yX8_clearText cX8_clearText 2 (some .int) 0 0 D cA ρ (Aw ρ) [.ref (ρ k0)] σ τ (some (.int r.1)) r.2 τ := by
  refine Ct_of (by decide +kernel) (Nat.le_of_ble_eq_true rfl) (fun p e s m args below meth c C => ?_)
  have C : Ctx p l s m args meth c cX8_clearText RX8 2 (some .int) D cA ρ (Aw ρ) := C
  have hW : Wr ρ (Aw ρ) := ⟨hI, fun k hk => ⟨k, hk, rfl⟩⟩
  unfold f_X8_clearText at h
  refine Y_sub [0] (lv' := [(0, .ref (ρ k0))]) rfl ?_
  refine Y_aload_n C (pc := 0) 0 0 rfl rfl dX8_clearText_0 ?_
  refine Y_getR C (pc := 1) hk0 q_fi_RX8_54 (by decide) dX8_clearText_1 ?_
  refine Y_getI C (pc := 4) (q_kr_8_6 hk0) q_fi_RX8_251 dX8_clearText_4 ?_
  refine Y_istore_n C (pc := 7) (lv' := [(1, .int (σ (k0 + 72) 0)), (0, .ref (ρ k0))]) 1 rfl (by decide) rfl dX8_clearText_7 ?_
  refine Y_aload_n C (pc := 8) 0 1 rfl rfl dX8_clearText_8 ?_
  refine Y_getR C (pc := 9) hk0 q_fi_RX8_54 (by decide) dX8_clearText_9 ?_
  refine Y_iconst C (pc := 12) (v := (0 : Int32)) (by decide) dX8_clearText_12 ?_
  refine Y_putI C (pc := 13) hW (q_kr_8_6 hk0) (q_lr_8_6 hk0) q_fp_RX8_251 dX8_clearText_13 ?_
  refine Y_iload_n C (pc := 16) 1 0 rfl rfl dX8_clearText_16 ?_
  cases h
  exact Y_iret C dX8_clearText_17

noncomputable def f_X8_fault (σ : Sg) (k0 : Nat) : Option (Int32 × Sg) := (f_X4_firstFault σ (k0 + 72)).bind fun v1 => some (v1.1, v1.2)
set_option maxRecDepth 100000 in
set_option maxHeartbeats 4000000 in
theorem c_X8_fault {l : Launch} {D : va_G} {cA ρ : Nat → Nat} {σ : Sg} {τ : Tg} {k0 : Nat} (hI : Inj ρ) (hk0 : kd k0 = (0, 8)) {r : Int32 × Sg} (h : f_X8_fault σ k0 = some r) : Ct l yX8_fault cX8_fault 1 (some .int) 6 122 D cA ρ (Aw ρ) [.ref (ρ k0)] σ τ (some (.int r.1)) r.2 τ := by
  refine Ct_of (by decide +kernel) (Nat.le_of_ble_eq_true rfl) (fun p e s m args below meth c C => ?_)
  have C : Ctx p l s m args meth c cX8_fault RX8 1 (some .int) D cA ρ (Aw ρ) := C
  have hW : Wr ρ (Aw ρ) := ⟨hI, fun k hk => ⟨k, hk, rfl⟩⟩
  unfold f_X8_fault at h
  refine Y_sub [0] (lv' := [(0, .ref (ρ k0))]) rfl ?_
  refine Y_aload_n C (pc := 0) 0 0 rfl rfl dX8_fault_0 ?_
  refine Y_getR C (pc := 1) hk0 q_fi_RX8_54 (by decide) dX8_fault_1 ?_
  obtain ⟨v1, hv1, h⟩ := Option.bind_eq_some_iff.mp h
  refine Y_callV C [] [] [.int v1.1] (q_kr_8_6 hk0) rfl rfl (c_X4_firstFault hI (q_kr_8_6 hk0) hv1) (fun _ h => h) q_cw_yX4_firstFault q_ml_RX8_260 ⟨q_im_yX4_firstFault, q_se_yX4_firstFault⟩ ⟨⟨Nat.le_of_ble_eq_true rfl, Nat.le_of_ble_eq_true rfl⟩, ⟨Nat.zero_le _, Nat.zero_le _⟩, Nat.le_of_ble_eq_true rfl⟩ rfl rfl rfl dX8_fault_4 ?_
  cases h
  exact Y_iret C dX8_fault_7

noncomputable def f_X8_mix (l0 : Int64) (i2 : Int32) : Option (Int64) := some ((((31 : Int64) * l0) + (Int32.toInt64 i2)))
set_option maxRecDepth 100000 in
set_option maxHeartbeats 4000000 in
theorem c_X8_mix {l : Launch} {D : va_G} {cA ρ : Nat → Nat} {σ : Sg} {τ : Tg} {l0 : Int64} {i2 : Int32}  {r : Int64} (h : f_X8_mix l0 i2 = some r) : Ct l yX8_mix cX8_mix 3 (some .long) 0 0 D cA ρ A0 [.long l0, .int i2] σ τ (some (.long r)) σ τ := by
  refine Ct_of (by decide +kernel) (Nat.le_of_ble_eq_true rfl) (fun p e s m args below meth c C => ?_)
  have C : Ctx p l s m args meth c cX8_mix RX8 3 (some .long) D cA ρ A0 := C
  unfold f_X8_mix at h
  refine Y_sub [0, 1] (lv' := [(0, .long l0), (2, .int i2)]) rfl ?_
  refine Y_ldc2 C (pc := 0) q_ct_RX8_313 dX8_mix_0 ?_
  refine Y_lload_n C (pc := 3) 0 0 rfl rfl dX8_mix_3 ?_
  refine Y_lmul C (pc := 4) dX8_mix_4 ?_
  refine Y_iload_n C (pc := 5) 2 1 rfl rfl dX8_mix_5 ?_
  refine Y_i2l C (pc := 6) dX8_mix_6 ?_
  refine Y_ladd C (pc := 7) dX8_mix_7 ?_
  cases h
  exact Y_lret C dX8_mix_8

noncomputable def f_X8_mixTable_L21 (σ : Sg) (k0 : Nat) (k3 : Nat) (s1 : Int64 × Int32) : (Int64 × Int32) → Option ((Int64 × Int32) ⊕ (Int64)) := fun s2 => if (σ (k0 + 1) 0) ≤ s2.2 then (some (.inr s2.1)) else ((f_X8_at σ k3 s1.2 s2.2).bind fun v3 => (f_X8_mix s2.1 v3).bind fun v4 => some (.inl (v4, (s2.2 + 1))))
noncomputable def f_X8_mixTable_L6 (σ : Sg) (k0 : Nat) (k3 : Nat) : (Int64 × Int32) → Option ((Int64 × Int32) ⊕ (Int64)) := fun s1 => if (σ (k0 + 1) 0) ≤ s1.2 then (some (.inr s1.1)) else ((lo (f_X8_mixTable_L21 σ k0 k3 s1) (s1.1, (0 : Int32))).bind fun e6 => some (.inl (e6, (s1.2 + 1))))
noncomputable def f_X8_mixTable (σ : Sg) (k0 : Nat) (l1 : Int64) (k3 : Nat) : Option (Int64) := (lo (f_X8_mixTable_L6 σ k0 k3) (l1, (0 : Int32))).bind fun e8 => some e8
set_option maxRecDepth 100000 in
set_option maxHeartbeats 4000000 in
theorem c_X8_mixTable {l : Launch} {D : va_G} {cA ρ : Nat → Nat} {σ : Sg} {τ : Tg} {k0 : Nat} {l1 : Int64} {k3 : Nat} (hk0 : kd k0 = (0, 8)) (hk3 : (kd k3).1 = 1) {r : Int64} (h : f_X8_mixTable σ k0 l1 k3 = some r) : Ct l yX8_mixTable cX8_mixTable 8 (some .long) 1 23 D cA ρ A0 [.ref (ρ k0), .long l1, .ref (ρ k3)] σ τ (some (.long r)) σ τ := by
  refine Ct_of (by decide +kernel) (Nat.le_of_ble_eq_true rfl) (fun p e s m args below meth c C => ?_)
  have C : Ctx p l s m args meth c cX8_mixTable RX8 8 (some .long) D cA ρ A0 := C
  unfold f_X8_mixTable at h
  refine Y_sub [0, 1, 2] (lv' := [(0, .ref (ρ k0)), (1, .long l1), (3, .ref (ρ k3))]) rfl ?_
  refine Y_lload_n C (pc := 0) 1 1 rfl rfl dX8_mixTable_0 ?_
  refine Y_lstore C (pc := 1) (lv' := [(4, .long l1), (0, .ref (ρ k0)), (1, .long l1), (3, .ref (ρ k3))]) (by decide) rfl dX8_mixTable_1 ?_
  refine Y_iconst C (pc := 3) (v := (0 : Int32)) (by decide) dX8_mixTable_3 ?_
  refine Y_istore C (pc := 4) (lv' := [(6, .int (0 : Int32)), (4, .long l1), (0, .ref (ρ k0)), (1, .long l1), (3, .ref (ρ k3))]) (by decide) rfl dX8_mixTable_4 ?_
  obtain ⟨e8, he8, h⟩ := Option.bind_eq_some_iff.mp h
  refine Y_sub [2, 4, 1, 0] (lv' := [(0, .ref (ρ k0)), (3, .ref (ρ k3)), (4, .long l1), (6, .int (0 : Int32))]) rfl ?_
  refine lo_rule (f := (f_X8_mixTable_L6 σ k0 k3)) (YS := fun s1 => Y p l e (Rm 1 23) s m args below meth c 8 D cA ρ A0 0 0 (MQ below (QC D cA ρ A0 (some (.long r)) σ τ) args s 0 0 A0) σ τ 6 [(0, .ref (ρ k0)), (3, .ref (ρ k3)), (4, .long s1.1), (6, .int s1.2)] []) (YE := fun e8 => Y p l e (Rm 1 23) s m args below meth c 8 D cA ρ A0 0 0 (MQ below (QC D cA ρ A0 (some (.long r)) σ τ) args s 0 0 A0) σ τ 60 [(4, .long e8)] []) ?_ he8 ?_
  · intro s1 x h hLp hE
    unfold f_X8_mixTable_L6 at h
    refine Y_iload C (pc := 6) 3 rfl dX8_mixTable_6 ?_
    refine Y_aload_n C (pc := 8) 0 0 rfl rfl dX8_mixTable_8 ?_
    refine Y_getR C (pc := 9) hk0 q_fi_RX8_12 (by decide) dX8_mixTable_9 ?_
    refine Y_getI C (pc := 12) (q_kr_8_0 hk0) q_fi_RX8_69 dX8_mixTable_12 ?_
    refine Y_icmp_ge C (pc := 15) (tgt := 60) dX8_mixTable_15 (by decide) (fun c7 => ?_) (fun c7 => ?_)
    · rw [if_pos c7] at h
      have h := Option.some.inj h
      exact Y_sub [2] rfl (hE _ h.symm)
    · rw [if_neg c7] at h
      refine Y_iconst C (pc := 18) (v := (0 : Int32)) (by decide) dX8_mixTable_18 ?_
      refine Y_istore C (pc := 19) (lv' := [(7, .int (0 : Int32)), (0, .ref (ρ k0)), (3, .ref (ρ k3)), (4, .long s1.1), (6, .int s1.2)]) (by decide) rfl dX8_mixTable_19 ?_
      obtain ⟨e6, he6, h⟩ := Option.bind_eq_some_iff.mp h
      refine Y_sub [1, 2, 3, 4, 0] (lv' := [(0, .ref (ρ k0)), (3, .ref (ρ k3)), (4, .long s1.1), (6, .int s1.2), (7, .int (0 : Int32))]) rfl ?_
      refine lo_rule (f := (f_X8_mixTable_L21 σ k0 k3 s1)) (YS := fun s2 => Y p l e (Rm 1 23) s m args below meth c 8 D cA ρ A0 0 0 (MQ below (QC D cA ρ A0 (some (.long r)) σ τ) args s 0 0 A0) σ τ 21 [(0, .ref (ρ k0)), (3, .ref (ρ k3)), (4, .long s2.1), (6, .int s1.2), (7, .int s2.2)] []) (YE := fun e6 => Y p l e (Rm 1 23) s m args below meth c 8 D cA ρ A0 0 0 (MQ below (QC D cA ρ A0 (some (.long r)) σ τ) args s 0 0 A0) σ τ 54 [(0, .ref (ρ k0)), (3, .ref (ρ k3)), (4, .long e6), (6, .int s1.2)] []) ?_ he6 ?_
      · intro s2 x h hLp hE
        unfold f_X8_mixTable_L21 at h
        refine Y_iload C (pc := 21) 4 rfl dX8_mixTable_21 ?_
        refine Y_aload_n C (pc := 23) 0 0 rfl rfl dX8_mixTable_23 ?_
        refine Y_getR C (pc := 24) hk0 q_fi_RX8_12 (by decide) dX8_mixTable_24 ?_
        refine Y_getI C (pc := 27) (q_kr_8_0 hk0) q_fi_RX8_69 dX8_mixTable_27 ?_
        refine Y_icmp_ge C (pc := 30) (tgt := 54) dX8_mixTable_30 (by decide) (fun c5 => ?_) (fun c5 => ?_)
        · rw [if_pos c5] at h
          have h := Option.some.inj h
          exact Y_sub [0, 1, 2, 3] rfl (hE _ h.symm)
        · rw [if_neg c5] at h
          refine Y_lload C (pc := 33) 2 rfl dX8_mixTable_33 ?_
          refine Y_aload_n C (pc := 35) 3 1 rfl rfl dX8_mixTable_35 ?_
          refine Y_iload C (pc := 36) 3 rfl dX8_mixTable_36 ?_
          refine Y_iload C (pc := 38) 4 rfl dX8_mixTable_38 ?_
          obtain ⟨v3, hv3, h⟩ := Option.bind_eq_some_iff.mp h
          refine Y_callS C [.ref (ρ k3), .int s1.2, .int s2.2] [.long s2.1] [.int v3, .long s2.1] (c_X8_at hk3 hv3) (fun _ h => h.elim) q_cw_yX8_at q_ml_RX8_94 q_st_yX8_at ⟨⟨Nat.le_of_ble_eq_true rfl, Nat.le_of_ble_eq_true rfl⟩, ⟨Nat.zero_le _, Nat.zero_le _⟩, Nat.le_of_ble_eq_true rfl⟩ rfl rfl rfl dX8_mixTable_40 ?_
          obtain ⟨v4, hv4, h⟩ := Option.bind_eq_some_iff.mp h
          refine Y_callS C [.long s2.1, .int v3] [] [.long v4] (c_X8_mix  hv4) (fun _ h => h.elim) q_cw_yX8_mix q_ml_RX8_292 q_st_yX8_mix ⟨⟨Nat.le_of_ble_eq_true rfl, Nat.le_of_ble_eq_true rfl⟩, ⟨Nat.zero_le _, Nat.zero_le _⟩, Nat.le_of_ble_eq_true rfl⟩ rfl rfl rfl dX8_mixTable_43 ?_
          refine Y_lstore C (pc := 46) (lv' := [(4, .long v4), (0, .ref (ρ k0)), (3, .ref (ρ k3)), (6, .int s1.2), (7, .int s2.2)]) (by decide) rfl dX8_mixTable_46 ?_
          refine Y_iinc C (pc := 48) (v := (s2.2 + 1)) (lv' := [(7, .int (s2.2 + 1)), (4, .long v4), (0, .ref (ρ k0)), (3, .ref (ρ k3)), (6, .int s1.2)]) 4 rfl (congrArg (fun z => s2.2 + z) (by decide : Int32.ofInt (1) = (1))) (by decide) rfl dX8_mixTable_48 ?_
          refine Y_goto C (pc := 51) (tgt := 21) dX8_mixTable_51 (by decide) ?_
          have h := Option.some.inj h
          exact Y_sub [2, 3, 1, 4, 0] rfl (hLp _ h.symm)
      · refine Y_iinc C (pc := 54) (v := (s1.2 + 1)) (lv' := [(6, .int (s1.2 + 1)), (0, .ref (ρ k0)), (3, .ref (ρ k3)), (4, .long e6)]) 3 rfl (congrArg (fun z => s1.2 + z) (by decide : Int32.ofInt (1) = (1))) (by decide) rfl dX8_mixTable_54 ?_
        refine Y_goto C (pc := 57) (tgt := 6) dX8_mixTable_57 (by decide) ?_
        have h := Option.some.inj h
        exact Y_sub [1, 2, 3, 0] rfl (hLp _ h.symm)
  · refine Y_lload C (pc := 60) 0 rfl dX8_mixTable_60 ?_
    cases h
    exact Y_lret C dX8_mixTable_62

noncomputable def f_X8_mixRow_L6 (i3 : Int32) (σ : Sg) (k2 : Nat) : (Int64 × Int32) → Option ((Int64 × Int32) ⊕ (Int64)) := fun s1 => if i3 ≤ s1.2 then (some (.inr s1.1)) else ((f_X8_item σ k2 s1.2).bind fun v2 => (f_X8_mix s1.1 v2).bind fun v3 => some (.inl (v3, (s1.2 + 1))))
noncomputable def f_X8_mixRow (σ : Sg) (l0 : Int64) (k2 : Nat) (i3 : Int32) : Option (Int64) := (lo (f_X8_mixRow_L6 i3 σ k2) (l0, (0 : Int32))).bind fun e5 => some e5
set_option maxRecDepth 100000 in
set_option maxHeartbeats 4000000 in
theorem c_X8_mixRow {l : Launch} {D : va_G} {cA ρ : Nat → Nat} {σ : Sg} {τ : Tg} {l0 : Int64} {k2 : Nat} {i3 : Int32} (hk2 : (kd k2).1 = 1) {r : Int64} (h : f_X8_mixRow σ l0 k2 i3 = some r) : Ct l yX8_mixRow cX8_mixRow 7 (some .long) 1 22 D cA ρ A0 [.long l0, .ref (ρ k2), .int i3] σ τ (some (.long r)) σ τ := by
  refine Ct_of (by decide +kernel) (Nat.le_of_ble_eq_true rfl) (fun p e s m args below meth c C => ?_)
  have C : Ctx p l s m args meth c cX8_mixRow RX8 7 (some .long) D cA ρ A0 := C
  unfold f_X8_mixRow at h
  refine Y_sub [0, 1, 2] (lv' := [(0, .long l0), (2, .ref (ρ k2)), (3, .int i3)]) rfl ?_
  refine Y_lload_n C (pc := 0) 0 0 rfl rfl dX8_mixRow_0 ?_
  refine Y_lstore C (pc := 1) (lv' := [(4, .long l0), (0, .long l0), (2, .ref (ρ k2)), (3, .int i3)]) (by decide) rfl dX8_mixRow_1 ?_
  refine Y_iconst C (pc := 3) (v := (0 : Int32)) (by decide) dX8_mixRow_3 ?_
  refine Y_istore C (pc := 4) (lv' := [(6, .int (0 : Int32)), (4, .long l0), (0, .long l0), (2, .ref (ρ k2)), (3, .int i3)]) (by decide) rfl dX8_mixRow_4 ?_
  obtain ⟨e5, he5, h⟩ := Option.bind_eq_some_iff.mp h
  refine Y_sub [3, 4, 1, 0] (lv' := [(2, .ref (ρ k2)), (3, .int i3), (4, .long l0), (6, .int (0 : Int32))]) rfl ?_
  refine lo_rule (f := (f_X8_mixRow_L6 i3 σ k2)) (YS := fun s1 => Y p l e (Rm 1 22) s m args below meth c 7 D cA ρ A0 0 0 (MQ below (QC D cA ρ A0 (some (.long r)) σ τ) args s 0 0 A0) σ τ 6 [(2, .ref (ρ k2)), (3, .int i3), (4, .long s1.1), (6, .int s1.2)] []) (YE := fun e5 => Y p l e (Rm 1 22) s m args below meth c 7 D cA ρ A0 0 0 (MQ below (QC D cA ρ A0 (some (.long r)) σ τ) args s 0 0 A0) σ τ 31 [(4, .long e5)] []) ?_ he5 ?_
  · intro s1 x h hLp hE
    unfold f_X8_mixRow_L6 at h
    refine Y_iload C (pc := 6) 3 rfl dX8_mixRow_6 ?_
    refine Y_iload_n C (pc := 8) 3 1 rfl rfl dX8_mixRow_8 ?_
    refine Y_icmp_ge C (pc := 9) (tgt := 31) dX8_mixRow_9 (by decide) (fun c4 => ?_) (fun c4 => ?_)
    · rw [if_pos c4] at h
      have h := Option.some.inj h
      exact Y_sub [2] rfl (hE _ h.symm)
    · rw [if_neg c4] at h
      refine Y_lload C (pc := 12) 2 rfl dX8_mixRow_12 ?_
      refine Y_aload_n C (pc := 14) 2 0 rfl rfl dX8_mixRow_14 ?_
      refine Y_iload C (pc := 15) 3 rfl dX8_mixRow_15 ?_
      obtain ⟨v2, hv2, h⟩ := Option.bind_eq_some_iff.mp h
      refine Y_callS C [.ref (ρ k2), .int s1.2] [.long s1.1] [.int v2, .long s1.1] (c_X8_item hk2 hv2) (fun _ h => h.elim) q_cw_yX8_item q_ml_RX8_119 q_st_yX8_item ⟨⟨Nat.le_of_ble_eq_true rfl, Nat.le_of_ble_eq_true rfl⟩, ⟨Nat.zero_le _, Nat.zero_le _⟩, Nat.le_of_ble_eq_true rfl⟩ rfl rfl rfl dX8_mixRow_17 ?_
      obtain ⟨v3, hv3, h⟩ := Option.bind_eq_some_iff.mp h
      refine Y_callS C [.long s1.1, .int v2] [] [.long v3] (c_X8_mix  hv3) (fun _ h => h.elim) q_cw_yX8_mix q_ml_RX8_292 q_st_yX8_mix ⟨⟨Nat.le_of_ble_eq_true rfl, Nat.le_of_ble_eq_true rfl⟩, ⟨Nat.zero_le _, Nat.zero_le _⟩, Nat.le_of_ble_eq_true rfl⟩ rfl rfl rfl dX8_mixRow_20 ?_
      refine Y_lstore C (pc := 23) (lv' := [(4, .long v3), (2, .ref (ρ k2)), (3, .int i3), (6, .int s1.2)]) (by decide) rfl dX8_mixRow_23 ?_
      refine Y_iinc C (pc := 25) (v := (s1.2 + 1)) (lv' := [(6, .int (s1.2 + 1)), (4, .long v3), (2, .ref (ρ k2)), (3, .int i3)]) 3 rfl (congrArg (fun z => s1.2 + z) (by decide : Int32.ofInt (1) = (1))) (by decide) rfl dX8_mixRow_25 ?_
      refine Y_goto C (pc := 28) (tgt := 6) dX8_mixRow_28 (by decide) ?_
      have h := Option.some.inj h
      exact Y_sub [2, 3, 1, 0] rfl (hLp _ h.symm)
  · refine Y_lload C (pc := 31) 0 rfl dX8_mixRow_31 ?_
    cases h
    exact Y_lret C dX8_mixRow_33

noncomputable def f_X8_checksum_L184 (v14 : Sg) (k0 : Nat) : (Int64 × Int32) → Option ((Int64 × Int32) ⊕ (Int64)) := fun s16 => if (7 : Int32) ≤ s16.2 then (some (.inr s16.1)) else ((f_X5_result v14 (k0 + 57) s16.2).bind fun v17 => (f_X8_mix s16.1 v17).bind fun v18 => some (.inl (v18, (s16.2 + 1))))
noncomputable def f_X8_checksum (σ : Sg) (k0 : Nat) : Option (Int64 × Sg) := (f_X8_mix ((18459 : Int64)) ((σ (k0 + 1) 0))).bind fun v1 => (f_X8_mixTable σ k0 v1 (((k0 + 1) + 1))).bind fun v2 => (f_X8_mixTable σ k0 v2 (((k0 + 1) + 2))).bind fun v3 => (f_X8_mixTable σ k0 v3 (((k0 + 1) + 3))).bind fun v4 => (f_X8_mixRow σ v4 (((k0 + 1) + 4)) ((σ (k0 + 1) 0))).bind fun v5 => (f_X8_mixRow σ v5 (((k0 + 1) + 5)) ((σ (k0 + 1) 0))).bind fun v6 => (f_X6_costOf σ (k0 + 1) (((k0 + 1) + 4))).bind fun v7 => (f_X8_mix v6 v7).bind fun v8 => (f_X1_load σ (k0 + 48) ((k0 + 1)) (((k0 + 1) + 5))).bind fun v9 => (f_X1_lowest v9 (k0 + 48)).bind fun v10 => (f_X8_mix v8 v10.1).bind fun v11 => (f_X1_mostRegretted v10.2 (k0 + 48)).bind fun v12 => (f_X8_mix v11 v12).bind fun v13 => (f_X7_load v10.2 (k0 + 54) ((k0 + 1)) (((k0 + 1) + 5))).bind fun v14 => (f_X8_mix v13 ((v14 (k0 + 54) 0))).bind fun v15 => (lo (f_X8_checksum_L184 v14 k0) (v15, (0 : Int32))).bind fun e20 => (f_X8_mix e20 ((v14 (k0 + 72) 0))).bind fun v21 => (f_X8_mix v21 ((v14 (k0 + 7) 0))).bind fun v22 => some (v22, v14)
set_option maxRecDepth 100000 in
set_option maxHeartbeats 4000000 in
theorem c_X8_checksum {l : Launch} {D : va_G} {cA ρ : Nat → Nat} {σ : Sg} {τ : Tg} {k0 : Nat} (hI : Inj ρ) (hk0 : kd k0 = (0, 8)) {r : Int64 × Sg} (h : f_X8_checksum σ k0 = some r) : Ct l yX8_checksum cX8_checksum 4 (some .long) 4 98 D cA ρ (Aw ρ) [.ref (ρ k0)] σ τ (some (.long r.1)) r.2 τ := by
  refine Ct_of (by decide +kernel) (Nat.le_of_ble_eq_true rfl) (fun p e s m args below meth c C => ?_)
  have C : Ctx p l s m args meth c cX8_checksum RX8 4 (some .long) D cA ρ (Aw ρ) := C
  have hW : Wr ρ (Aw ρ) := ⟨hI, fun k hk => ⟨k, hk, rfl⟩⟩
  unfold f_X8_checksum at h
  refine Y_sub [0] (lv' := [(0, .ref (ρ k0))]) rfl ?_
  refine Y_ldc2 C (pc := 0) q_ct_RX8_290 dX8_checksum_0 ?_
  refine Y_aload_n C (pc := 3) 0 0 rfl rfl dX8_checksum_3 ?_
  refine Y_getR C (pc := 4) hk0 q_fi_RX8_12 (by decide) dX8_checksum_4 ?_
  refine Y_getI C (pc := 7) (q_kr_8_0 hk0) q_fi_RX8_69 dX8_checksum_7 ?_
  obtain ⟨v1, hv1, h⟩ := Option.bind_eq_some_iff.mp h
  refine Y_callS C [.long (18459 : Int64), .int (σ (k0 + 1) 0)] [] [.long v1] (c_X8_mix  hv1) (fun _ h => h.elim) q_cw_yX8_mix q_ml_RX8_292 q_st_yX8_mix ⟨⟨Nat.le_of_ble_eq_true rfl, Nat.le_of_ble_eq_true rfl⟩, ⟨Nat.zero_le _, Nat.zero_le _⟩, Nat.le_of_ble_eq_true rfl⟩ rfl rfl rfl dX8_checksum_10 ?_
  refine Y_lstore_n C (pc := 13) (lv' := [(1, .long v1), (0, .ref (ρ k0))]) 1 rfl (by decide) rfl dX8_checksum_13 ?_
  refine Y_aload_n C (pc := 14) 0 1 rfl rfl dX8_checksum_14 ?_
  refine Y_lload_n C (pc := 15) 1 0 rfl rfl dX8_checksum_15 ?_
  refine Y_aload_n C (pc := 16) 0 1 rfl rfl dX8_checksum_16 ?_
  refine Y_getR C (pc := 17) hk0 q_fi_RX8_12 (by decide) dX8_checksum_17 ?_
  refine Y_getR C (pc := 20) (q_kr_8_0 hk0) q_fi_RX8_296 (by decide) dX8_checksum_20 ?_
  obtain ⟨v2, hv2, h⟩ := Option.bind_eq_some_iff.mp h
  refine Y_callV C [.long v1, .ref (ρ ((k0 + 1) + 1))] [] [.long v2] hk0 rfl rfl (c_X8_mixTable hk0 (q_kr_6_1 (q_kr_8_0 hk0)) hv2) (fun _ h => h.elim) q_cw_yX8_mixTable q_ml_RX8_299 ⟨q_im_yX8_mixTable, q_se_yX8_mixTable⟩ ⟨⟨Nat.le_of_ble_eq_true rfl, Nat.le_of_ble_eq_true rfl⟩, ⟨Nat.zero_le _, Nat.zero_le _⟩, Nat.le_of_ble_eq_true rfl⟩ rfl rfl rfl dX8_checksum_23 ?_
  refine Y_lstore_n C (pc := 26) (lv' := [(1, .long v2), (0, .ref (ρ k0))]) 1 rfl (by decide) rfl dX8_checksum_26 ?_
  refine Y_aload_n C (pc := 27) 0 1 rfl rfl dX8_checksum_27 ?_
  refine Y_lload_n C (pc := 28) 1 0 rfl rfl dX8_checksum_28 ?_
  refine Y_aload_n C (pc := 29) 0 1 rfl rfl dX8_checksum_29 ?_
  refine Y_getR C (pc := 30) hk0 q_fi_RX8_12 (by decide) dX8_checksum_30 ?_
  refine Y_getR C (pc := 33) (q_kr_8_0 hk0) q_fi_RX8_303 (by decide) dX8_checksum_33 ?_
  obtain ⟨v3, hv3, h⟩ := Option.bind_eq_some_iff.mp h
  refine Y_callV C [.long v2, .ref (ρ ((k0 + 1) + 2))] [] [.long v3] hk0 rfl rfl (c_X8_mixTable hk0 (q_kr_6_2 (q_kr_8_0 hk0)) hv3) (fun _ h => h.elim) q_cw_yX8_mixTable q_ml_RX8_299 ⟨q_im_yX8_mixTable, q_se_yX8_mixTable⟩ ⟨⟨Nat.le_of_ble_eq_true rfl, Nat.le_of_ble_eq_true rfl⟩, ⟨Nat.zero_le _, Nat.zero_le _⟩, Nat.le_of_ble_eq_true rfl⟩ rfl rfl rfl dX8_checksum_36 ?_
  refine Y_lstore_n C (pc := 39) (lv' := [(1, .long v3), (0, .ref (ρ k0))]) 1 rfl (by decide) rfl dX8_checksum_39 ?_
  refine Y_aload_n C (pc := 40) 0 1 rfl rfl dX8_checksum_40 ?_
  refine Y_lload_n C (pc := 41) 1 0 rfl rfl dX8_checksum_41 ?_
  refine Y_aload_n C (pc := 42) 0 1 rfl rfl dX8_checksum_42 ?_
  refine Y_getR C (pc := 43) hk0 q_fi_RX8_12 (by decide) dX8_checksum_43 ?_
  refine Y_getR C (pc := 46) (q_kr_8_0 hk0) q_fi_RX8_306 (by decide) dX8_checksum_46 ?_
  obtain ⟨v4, hv4, h⟩ := Option.bind_eq_some_iff.mp h
  refine Y_callV C [.long v3, .ref (ρ ((k0 + 1) + 3))] [] [.long v4] hk0 rfl rfl (c_X8_mixTable hk0 (q_kr_6_3 (q_kr_8_0 hk0)) hv4) (fun _ h => h.elim) q_cw_yX8_mixTable q_ml_RX8_299 ⟨q_im_yX8_mixTable, q_se_yX8_mixTable⟩ ⟨⟨Nat.le_of_ble_eq_true rfl, Nat.le_of_ble_eq_true rfl⟩, ⟨Nat.zero_le _, Nat.zero_le _⟩, Nat.le_of_ble_eq_true rfl⟩ rfl rfl rfl dX8_checksum_49 ?_
  refine Y_lstore_n C (pc := 52) (lv' := [(1, .long v4), (0, .ref (ρ k0))]) 1 rfl (by decide) rfl dX8_checksum_52 ?_
  refine Y_lload_n C (pc := 53) 1 0 rfl rfl dX8_checksum_53 ?_
  refine Y_aload_n C (pc := 54) 0 1 rfl rfl dX8_checksum_54 ?_
  refine Y_getR C (pc := 55) hk0 q_fi_RX8_12 (by decide) dX8_checksum_55 ?_
  refine Y_getR C (pc := 58) (q_kr_8_0 hk0) q_fi_RX8_116 (by decide) dX8_checksum_58 ?_
  refine Y_aload_n C (pc := 61) 0 1 rfl rfl dX8_checksum_61 ?_
  refine Y_getR C (pc := 62) hk0 q_fi_RX8_12 (by decide) dX8_checksum_62 ?_
  refine Y_getI C (pc := 65) (q_kr_8_0 hk0) q_fi_RX8_69 dX8_checksum_65 ?_
  obtain ⟨v5, hv5, h⟩ := Option.bind_eq_some_iff.mp h
  refine Y_callS C [.long v4, .ref (ρ ((k0 + 1) + 4)), .int (σ (k0 + 1) 0)] [] [.long v5] (c_X8_mixRow (q_kr_6_4 (q_kr_8_0 hk0)) hv5) (fun _ h => h.elim) q_cw_yX8_mixRow q_ml_RX8_309 q_st_yX8_mixRow ⟨⟨Nat.le_of_ble_eq_true rfl, Nat.le_of_ble_eq_true rfl⟩, ⟨Nat.zero_le _, Nat.zero_le _⟩, Nat.le_of_ble_eq_true rfl⟩ rfl rfl rfl dX8_checksum_68 ?_
  refine Y_lstore_n C (pc := 71) (lv' := [(1, .long v5), (0, .ref (ρ k0))]) 1 rfl (by decide) rfl dX8_checksum_71 ?_
  refine Y_lload_n C (pc := 72) 1 0 rfl rfl dX8_checksum_72 ?_
  refine Y_aload_n C (pc := 73) 0 1 rfl rfl dX8_checksum_73 ?_
  refine Y_getR C (pc := 74) hk0 q_fi_RX8_12 (by decide) dX8_checksum_74 ?_
  refine Y_getR C (pc := 77) (q_kr_8_0 hk0) q_fi_RX8_184 (by decide) dX8_checksum_77 ?_
  refine Y_aload_n C (pc := 80) 0 1 rfl rfl dX8_checksum_80 ?_
  refine Y_getR C (pc := 81) hk0 q_fi_RX8_12 (by decide) dX8_checksum_81 ?_
  refine Y_getI C (pc := 84) (q_kr_8_0 hk0) q_fi_RX8_69 dX8_checksum_84 ?_
  obtain ⟨v6, hv6, h⟩ := Option.bind_eq_some_iff.mp h
  refine Y_callS C [.long v5, .ref (ρ ((k0 + 1) + 5)), .int (σ (k0 + 1) 0)] [] [.long v6] (c_X8_mixRow (q_kr_6_5 (q_kr_8_0 hk0)) hv6) (fun _ h => h.elim) q_cw_yX8_mixRow q_ml_RX8_309 q_st_yX8_mixRow ⟨⟨Nat.le_of_ble_eq_true rfl, Nat.le_of_ble_eq_true rfl⟩, ⟨Nat.zero_le _, Nat.zero_le _⟩, Nat.le_of_ble_eq_true rfl⟩ rfl rfl rfl dX8_checksum_87 ?_
  refine Y_lstore_n C (pc := 90) (lv' := [(1, .long v6), (0, .ref (ρ k0))]) 1 rfl (by decide) rfl dX8_checksum_90 ?_
  refine Y_lload_n C (pc := 91) 1 0 rfl rfl dX8_checksum_91 ?_
  refine Y_aload_n C (pc := 92) 0 1 rfl rfl dX8_checksum_92 ?_
  refine Y_getR C (pc := 93) hk0 q_fi_RX8_12 (by decide) dX8_checksum_93 ?_
  refine Y_aload_n C (pc := 96) 0 1 rfl rfl dX8_checksum_96 ?_
  refine Y_getR C (pc := 97) hk0 q_fi_RX8_12 (by decide) dX8_checksum_97 ?_
  refine Y_getR C (pc := 100) (q_kr_8_0 hk0) q_fi_RX8_116 (by decide) dX8_checksum_100 ?_
  obtain ⟨v7, hv7, h⟩ := Option.bind_eq_some_iff.mp h
  refine Y_callV C [.ref (ρ ((k0 + 1) + 4))] [.long v6] [.int v7, .long v6] (q_kr_8_0 hk0) rfl rfl (c_X6_costOf (q_kr_8_0 hk0) (q_kr_6_4 (q_kr_8_0 hk0)) hv7) (fun _ h => h.elim) q_cw_yX6_costOf q_ml_RX8_123 ⟨q_im_yX6_costOf, q_se_yX6_costOf⟩ ⟨⟨Nat.le_of_ble_eq_true rfl, Nat.le_of_ble_eq_true rfl⟩, ⟨Nat.zero_le _, Nat.zero_le _⟩, Nat.le_of_ble_eq_true rfl⟩ rfl rfl rfl dX8_checksum_103 ?_
  obtain ⟨v8, hv8, h⟩ := Option.bind_eq_some_iff.mp h
  refine Y_callS C [.long v6, .int v7] [] [.long v8] (c_X8_mix  hv8) (fun _ h => h.elim) q_cw_yX8_mix q_ml_RX8_292 q_st_yX8_mix ⟨⟨Nat.le_of_ble_eq_true rfl, Nat.le_of_ble_eq_true rfl⟩, ⟨Nat.zero_le _, Nat.zero_le _⟩, Nat.le_of_ble_eq_true rfl⟩ rfl rfl rfl dX8_checksum_106 ?_
  refine Y_lstore_n C (pc := 109) (lv' := [(1, .long v8), (0, .ref (ρ k0))]) 1 rfl (by decide) rfl dX8_checksum_109 ?_
  refine Y_aload_n C (pc := 110) 0 1 rfl rfl dX8_checksum_110 ?_
  refine Y_getR C (pc := 111) hk0 q_fi_RX8_33 (by decide) dX8_checksum_111 ?_
  refine Y_aload_n C (pc := 114) 0 1 rfl rfl dX8_checksum_114 ?_
  refine Y_getR C (pc := 115) hk0 q_fi_RX8_12 (by decide) dX8_checksum_115 ?_
  refine Y_aload_n C (pc := 118) 0 1 rfl rfl dX8_checksum_118 ?_
  refine Y_getR C (pc := 119) hk0 q_fi_RX8_12 (by decide) dX8_checksum_119 ?_
  refine Y_getR C (pc := 122) (q_kr_8_0 hk0) q_fi_RX8_184 (by decide) dX8_checksum_122 ?_
  obtain ⟨v9, hv9, h⟩ := Option.bind_eq_some_iff.mp h
  refine Y_callV C [.ref (ρ (k0 + 1)), .ref (ρ ((k0 + 1) + 5))] [] [] (q_kr_8_3 hk0) rfl rfl (c_X1_load hI (q_kr_8_3 hk0) (q_kr_8_0 hk0) (q_kr_6_5 (q_kr_8_0 hk0)) (q_lr_6_5 (q_kr_8_0 hk0)) hv9) (fun _ h => h) q_cw_yX1_load q_ml_RX8_201 ⟨q_im_yX1_load, q_se_yX1_load⟩ ⟨⟨Nat.le_of_ble_eq_true rfl, Nat.le_of_ble_eq_true rfl⟩, ⟨Nat.zero_le _, Nat.zero_le _⟩, Nat.le_of_ble_eq_true rfl⟩ rfl rfl rfl dX8_checksum_125 ?_
  refine Y_lload_n C (pc := 128) 1 0 rfl rfl dX8_checksum_128 ?_
  refine Y_aload_n C (pc := 129) 0 1 rfl rfl dX8_checksum_129 ?_
  refine Y_getR C (pc := 130) hk0 q_fi_RX8_33 (by decide) dX8_checksum_130 ?_
  obtain ⟨v10, hv10, h⟩ := Option.bind_eq_some_iff.mp h
  refine Y_callV C [] [.long v8] [.int v10.1, .long v8] (q_kr_8_3 hk0) rfl rfl (c_X1_lowest hI (q_kr_8_3 hk0) hv10) (fun _ h => h) q_cw_yX1_lowest q_ml_RX8_207 ⟨q_im_yX1_lowest, q_se_yX1_lowest⟩ ⟨⟨Nat.le_of_ble_eq_true rfl, Nat.le_of_ble_eq_true rfl⟩, ⟨Nat.zero_le _, Nat.zero_le _⟩, Nat.le_of_ble_eq_true rfl⟩ rfl rfl rfl dX8_checksum_133 ?_
  obtain ⟨v11, hv11, h⟩ := Option.bind_eq_some_iff.mp h
  refine Y_callS C [.long v8, .int v10.1] [] [.long v11] (c_X8_mix  hv11) (fun _ h => h.elim) q_cw_yX8_mix q_ml_RX8_292 q_st_yX8_mix ⟨⟨Nat.le_of_ble_eq_true rfl, Nat.le_of_ble_eq_true rfl⟩, ⟨Nat.zero_le _, Nat.zero_le _⟩, Nat.le_of_ble_eq_true rfl⟩ rfl rfl rfl dX8_checksum_136 ?_
  refine Y_lstore_n C (pc := 139) (lv' := [(1, .long v11), (0, .ref (ρ k0))]) 1 rfl (by decide) rfl dX8_checksum_139 ?_
  refine Y_lload_n C (pc := 140) 1 0 rfl rfl dX8_checksum_140 ?_
  refine Y_aload_n C (pc := 141) 0 1 rfl rfl dX8_checksum_141 ?_
  refine Y_getR C (pc := 142) hk0 q_fi_RX8_33 (by decide) dX8_checksum_142 ?_
  obtain ⟨v12, hv12, h⟩ := Option.bind_eq_some_iff.mp h
  refine Y_callV C [] [.long v11] [.int v12, .long v11] (q_kr_8_3 hk0) rfl rfl (c_X1_mostRegretted (q_kr_8_3 hk0) hv12) (fun _ h => h.elim) q_cw_yX1_mostRegretted q_ml_RX8_221 ⟨q_im_yX1_mostRegretted, q_se_yX1_mostRegretted⟩ ⟨⟨Nat.le_of_ble_eq_true rfl, Nat.le_of_ble_eq_true rfl⟩, ⟨Nat.zero_le _, Nat.zero_le _⟩, Nat.le_of_ble_eq_true rfl⟩ rfl rfl rfl dX8_checksum_145 ?_
  obtain ⟨v13, hv13, h⟩ := Option.bind_eq_some_iff.mp h
  refine Y_callS C [.long v11, .int v12] [] [.long v13] (c_X8_mix  hv13) (fun _ h => h.elim) q_cw_yX8_mix q_ml_RX8_292 q_st_yX8_mix ⟨⟨Nat.le_of_ble_eq_true rfl, Nat.le_of_ble_eq_true rfl⟩, ⟨Nat.zero_le _, Nat.zero_le _⟩, Nat.le_of_ble_eq_true rfl⟩ rfl rfl rfl dX8_checksum_148 ?_
  refine Y_lstore_n C (pc := 151) (lv' := [(1, .long v13), (0, .ref (ρ k0))]) 1 rfl (by decide) rfl dX8_checksum_151 ?_
  refine Y_aload_n C (pc := 152) 0 1 rfl rfl dX8_checksum_152 ?_
  refine Y_getR C (pc := 153) hk0 q_fi_RX8_40 (by decide) dX8_checksum_153 ?_
  refine Y_aload_n C (pc := 156) 0 1 rfl rfl dX8_checksum_156 ?_
  refine Y_getR C (pc := 157) hk0 q_fi_RX8_12 (by decide) dX8_checksum_157 ?_
  refine Y_aload_n C (pc := 160) 0 1 rfl rfl dX8_checksum_160 ?_
  refine Y_getR C (pc := 161) hk0 q_fi_RX8_12 (by decide) dX8_checksum_161 ?_
  refine Y_getR C (pc := 164) (q_kr_8_0 hk0) q_fi_RX8_184 (by decide) dX8_checksum_164 ?_
  obtain ⟨v14, hv14, h⟩ := Option.bind_eq_some_iff.mp h
  refine Y_callV C [.ref (ρ (k0 + 1)), .ref (ρ ((k0 + 1) + 5))] [] [] (q_kr_8_4 hk0) rfl rfl (c_X7_load hI (q_kr_8_4 hk0) (q_kr_8_0 hk0) (q_kr_6_5 (q_kr_8_0 hk0)) hv14) (fun _ h => h) q_cw_yX7_load q_ml_RX8_224 ⟨q_im_yX7_load, q_se_yX7_load⟩ ⟨⟨Nat.le_of_ble_eq_true rfl, Nat.le_of_ble_eq_true rfl⟩, ⟨Nat.zero_le _, Nat.zero_le _⟩, Nat.le_of_ble_eq_true rfl⟩ rfl rfl rfl dX8_checksum_167 ?_
  refine Y_lload_n C (pc := 170) 1 0 rfl rfl dX8_checksum_170 ?_
  refine Y_aload_n C (pc := 171) 0 1 rfl rfl dX8_checksum_171 ?_
  refine Y_getR C (pc := 172) hk0 q_fi_RX8_40 (by decide) dX8_checksum_172 ?_
  refine Y_getI C (pc := 175) (q_kr_8_4 hk0) q_fi_RX8_225 dX8_checksum_175 ?_
  obtain ⟨v15, hv15, h⟩ := Option.bind_eq_some_iff.mp h
  refine Y_callS C [.long v13, .int (v14 (k0 + 54) 0)] [] [.long v15] (c_X8_mix  hv15) (fun _ h => h.elim) q_cw_yX8_mix q_ml_RX8_292 q_st_yX8_mix ⟨⟨Nat.le_of_ble_eq_true rfl, Nat.le_of_ble_eq_true rfl⟩, ⟨Nat.zero_le _, Nat.zero_le _⟩, Nat.le_of_ble_eq_true rfl⟩ rfl rfl rfl dX8_checksum_178 ?_
  refine Y_lstore_n C (pc := 181) (lv' := [(1, .long v15), (0, .ref (ρ k0))]) 1 rfl (by decide) rfl dX8_checksum_181 ?_
  refine Y_iconst C (pc := 182) (v := (0 : Int32)) (by decide) dX8_checksum_182 ?_
  refine Y_istore_n C (pc := 183) (lv' := [(3, .int (0 : Int32)), (1, .long v15), (0, .ref (ρ k0))]) 3 rfl (by decide) rfl dX8_checksum_183 ?_
  obtain ⟨e20, he20, h⟩ := Option.bind_eq_some_iff.mp h
  refine Y_sub [2, 1, 0] (lv' := [(0, .ref (ρ k0)), (1, .long v15), (3, .int (0 : Int32))]) rfl ?_
  refine lo_rule (f := (f_X8_checksum_L184 v14 k0)) (YS := fun s16 => Y p l e (Rm 4 98) s m args below meth c 4 D cA ρ (Aw ρ) 0 0 (MQ below (QC D cA ρ (Aw ρ) (some (.long r.1)) r.2 τ) args s 0 0 (Aw ρ)) v14 τ 184 [(0, .ref (ρ k0)), (1, .long s16.1), (3, .int s16.2)] []) (YE := fun e20 => Y p l e (Rm 4 98) s m args below meth c 4 D cA ρ (Aw ρ) 0 0 (MQ below (QC D cA ρ (Aw ρ) (some (.long r.1)) r.2 τ) args s 0 0 (Aw ρ)) v14 τ 209 [(0, .ref (ρ k0)), (1, .long e20)] []) ?_ he20 ?_
  · intro s16 x h hLp hE
    unfold f_X8_checksum_L184 at h
    refine Y_iload_n C (pc := 184) 3 2 rfl rfl dX8_checksum_184 ?_
    refine Y_bipush C (pc := 185) (v := (7 : Int32)) (by decide) dX8_checksum_185 ?_
    refine Y_icmp_ge C (pc := 187) (tgt := 209) dX8_checksum_187 (by decide) (fun c19 => ?_) (fun c19 => ?_)
    · rw [if_pos c19] at h
      have h := Option.some.inj h
      exact Y_sub [0, 1] rfl (hE _ h.symm)
    · rw [if_neg c19] at h
      refine Y_lload_n C (pc := 190) 1 1 rfl rfl dX8_checksum_190 ?_
      refine Y_aload_n C (pc := 191) 0 0 rfl rfl dX8_checksum_191 ?_
      refine Y_getR C (pc := 192) hk0 q_fi_RX8_47 (by decide) dX8_checksum_192 ?_
      refine Y_iload_n C (pc := 195) 3 2 rfl rfl dX8_checksum_195 ?_
      obtain ⟨v17, hv17, h⟩ := Option.bind_eq_some_iff.mp h
      refine Y_callV C [.int s16.2] [.long s16.1] [.int v17, .long s16.1] (q_kr_8_5 hk0) rfl rfl (c_X5_result (q_kr_8_5 hk0) hv17) (fun _ h => h.elim) q_cw_yX5_result q_ml_RX8_237 ⟨q_im_yX5_result, q_se_yX5_result⟩ ⟨⟨Nat.le_of_ble_eq_true rfl, Nat.le_of_ble_eq_true rfl⟩, ⟨Nat.zero_le _, Nat.zero_le _⟩, Nat.le_of_ble_eq_true rfl⟩ rfl rfl rfl dX8_checksum_196 ?_
      obtain ⟨v18, hv18, h⟩ := Option.bind_eq_some_iff.mp h
      refine Y_callS C [.long s16.1, .int v17] [] [.long v18] (c_X8_mix  hv18) (fun _ h => h.elim) q_cw_yX8_mix q_ml_RX8_292 q_st_yX8_mix ⟨⟨Nat.le_of_ble_eq_true rfl, Nat.le_of_ble_eq_true rfl⟩, ⟨Nat.zero_le _, Nat.zero_le _⟩, Nat.le_of_ble_eq_true rfl⟩ rfl rfl rfl dX8_checksum_199 ?_
      refine Y_lstore_n C (pc := 202) (lv' := [(1, .long v18), (0, .ref (ρ k0)), (3, .int s16.2)]) 1 rfl (by decide) rfl dX8_checksum_202 ?_
      refine Y_iinc C (pc := 203) (v := (s16.2 + 1)) (lv' := [(3, .int (s16.2 + 1)), (1, .long v18), (0, .ref (ρ k0))]) 2 rfl (congrArg (fun z => s16.2 + z) (by decide : Int32.ofInt (1) = (1))) (by decide) rfl dX8_checksum_203 ?_
      refine Y_goto C (pc := 206) (tgt := 184) dX8_checksum_206 (by decide) ?_
      have h := Option.some.inj h
      exact Y_sub [2, 1, 0] rfl (hLp _ h.symm)
  · refine Y_lload_n C (pc := 209) 1 1 rfl rfl dX8_checksum_209 ?_
    refine Y_aload_n C (pc := 210) 0 0 rfl rfl dX8_checksum_210 ?_
    refine Y_getR C (pc := 211) hk0 q_fi_RX8_54 (by decide) dX8_checksum_211 ?_
    refine Y_getI C (pc := 214) (q_kr_8_6 hk0) q_fi_RX8_251 dX8_checksum_214 ?_
    obtain ⟨v21, hv21, h⟩ := Option.bind_eq_some_iff.mp h
    refine Y_callS C [.long e20, .int (v14 (k0 + 72) 0)] [] [.long v21] (c_X8_mix  hv21) (fun _ h => h.elim) q_cw_yX8_mix q_ml_RX8_292 q_st_yX8_mix ⟨⟨Nat.le_of_ble_eq_true rfl, Nat.le_of_ble_eq_true rfl⟩, ⟨Nat.zero_le _, Nat.zero_le _⟩, Nat.le_of_ble_eq_true rfl⟩ rfl rfl rfl dX8_checksum_217 ?_
    refine Y_lstore_n C (pc := 220) (lv' := [(1, .long v21), (0, .ref (ρ k0))]) 1 rfl (by decide) rfl dX8_checksum_220 ?_
    refine Y_lload_n C (pc := 221) 1 0 rfl rfl dX8_checksum_221 ?_
    refine Y_aload_n C (pc := 222) 0 1 rfl rfl dX8_checksum_222 ?_
    refine Y_getR C (pc := 223) hk0 q_fi_RX8_19 (by decide) dX8_checksum_223 ?_
    refine Y_getI C (pc := 226) (q_kr_8_1 hk0) q_fi_RX8_284 dX8_checksum_226 ?_
    obtain ⟨v22, hv22, h⟩ := Option.bind_eq_some_iff.mp h
    refine Y_callS C [.long v21, .int (v14 (k0 + 7) 0)] [] [.long v22] (c_X8_mix  hv22) (fun _ h => h.elim) q_cw_yX8_mix q_ml_RX8_292 q_st_yX8_mix ⟨⟨Nat.le_of_ble_eq_true rfl, Nat.le_of_ble_eq_true rfl⟩, ⟨Nat.zero_le _, Nat.zero_le _⟩, Nat.le_of_ble_eq_true rfl⟩ rfl rfl rfl dX8_checksum_229 ?_
    cases h
    exact Y_lret C dX8_checksum_232

noncomputable def f_X9_thrown (σ : Sg) (k0 : Nat) : Option (Int32) := some ((σ k0 6))
set_option maxRecDepth 100000 in
set_option maxHeartbeats 4000000 in
theorem c_X9_thrown {l : Launch} {D : va_G} {cA ρ : Nat → Nat} {σ : Sg} {τ : Tg} {k0 : Nat} (hk0 : kd k0 = (0, 9)) {r : Int32} (h : f_X9_thrown σ k0 = some r) : Ct l yX9_thrown cX9_thrown 1 (some .int) 0 0 D cA ρ A0 [.ref (ρ k0)] σ τ (some (.int r)) σ τ := by
  refine Ct_of (by decide +kernel) (Nat.le_of_ble_eq_true rfl) (fun p e s m args below meth c C => ?_)
  have C : Ctx p l s m args meth c cX9_thrown RX9 1 (some .int) D cA ρ A0 := C
  unfold f_X9_thrown at h
  refine Y_sub [0] (lv' := [(0, .ref (ρ k0))]) rfl ?_
  refine Y_aload_n C (pc := 0) 0 0 rfl rfl dX9_thrown_0 ?_
  refine Y_getI C (pc := 1) hk0 q_fi_RX9_75 dX9_thrown_1 ?_
  cases h
  exact Y_iret C dX9_thrown_4

noncomputable def f_X9_in (i0 : Int32) (i1 : Int32) (i2 : Int32) : Option (Int32) := if i0 < i1 then (some ((0 : Int32))) else (if i2 < i0 then (some ((0 : Int32))) else (some ((1 : Int32))))
set_option maxRecDepth 100000 in
set_option maxHeartbeats 4000000 in
theorem c_X9_in {l : Launch} {D : va_G} {cA ρ : Nat → Nat} {σ : Sg} {τ : Tg} {i0 : Int32} {i1 : Int32} {i2 : Int32}  {r : Int32} (h : f_X9_in i0 i1 i2 = some r) : Ct l yX9_in cX9_in 3 (some .boolean) 0 0 D cA ρ A0 [.int i0, .int i1, .int i2] σ τ (some (.int r)) σ τ := by
  refine Ct_of (by decide +kernel) (Nat.le_of_ble_eq_true rfl) (fun p e s m args below meth c C => ?_)
  have C : Ctx p l s m args meth c cX9_in RX9 3 (some .boolean) D cA ρ A0 := C
  unfold f_X9_in at h
  refine Y_sub [0, 1, 2] (lv' := [(0, .int i0), (1, .int i1), (2, .int i2)]) rfl ?_
  refine Y_iload_n C (pc := 0) 0 0 rfl rfl dX9_in_0 ?_
  refine Y_iload_n C (pc := 1) 1 1 rfl rfl dX9_in_1 ?_
  refine Y_icmp_lt C (pc := 2) (tgt := 14) dX9_in_2 (by decide) (fun c2 => ?_) (fun c2 => ?_)
  · rw [if_pos c2] at h
    refine Y_iconst C (pc := 14) (v := (0 : Int32)) (by decide) dX9_in_14 ?_
    cases h
    exact Y_zret (by decide) C dX9_in_15
  · rw [if_neg c2] at h
    refine Y_iload_n C (pc := 5) 0 0 rfl rfl dX9_in_5 ?_
    refine Y_iload_n C (pc := 6) 2 2 rfl rfl dX9_in_6 ?_
    refine Y_icmp_gt C (pc := 7) (tgt := 14) dX9_in_7 (by decide) (fun c1 => ?_) (fun c1 => ?_)
    · rw [if_pos c1] at h
      refine Y_iconst C (pc := 14) (v := (0 : Int32)) (by decide) dX9_in_14 ?_
      cases h
      exact Y_zret (by decide) C dX9_in_15
    · rw [if_neg c1] at h
      refine Y_iconst C (pc := 10) (v := (1 : Int32)) (by decide) dX9_in_10 ?_
      refine Y_goto C (pc := 11) (tgt := 15) dX9_in_11 (by decide) ?_
      cases h
      exact Y_zret (by decide) C dX9_in_15

noncomputable def f_X9_fails (σ : Sg) (k0 : Nat) (i1 : Int32) : Option (Int32 × Sg) := some ((0 : Int32), (si σ k0 6 i1))
set_option maxRecDepth 100000 in
set_option maxHeartbeats 4000000 in
theorem c_X9_fails {l : Launch} {D : va_G} {cA ρ : Nat → Nat} {σ : Sg} {τ : Tg} {k0 : Nat} {i1 : Int32} (hI : Inj ρ) (hk0 : kd k0 = (0, 9)) {r : Int32 × Sg} (h : f_X9_fails σ k0 i1 = some r) : Ct l yX9_fails cX9_fails 2 (some .int) 0 0 D cA ρ (Aw ρ) [.ref (ρ k0), .int i1] σ τ (some (.int r.1)) r.2 τ := by
  refine Ct_of (by decide +kernel) (Nat.le_of_ble_eq_true rfl) (fun p e s m args below meth c C => ?_)
  have C : Ctx p l s m args meth c cX9_fails RX9 2 (some .int) D cA ρ (Aw ρ) := C
  have hW : Wr ρ (Aw ρ) := ⟨hI, fun k hk => ⟨k, hk, rfl⟩⟩
  unfold f_X9_fails at h
  refine Y_sub [0, 1] (lv' := [(0, .ref (ρ k0)), (1, .int i1)]) rfl ?_
  refine Y_aload_n C (pc := 0) 0 0 rfl rfl dX9_fails_0 ?_
  refine Y_iload_n C (pc := 1) 1 1 rfl rfl dX9_fails_1 ?_
  refine Y_putI C (pc := 2) hW hk0 (q_lo_9 hk0) q_fp_RX9_75 dX9_fails_2 ?_
  refine Y_iconst C (pc := 5) (v := (0 : Int32)) (by decide) dX9_fails_5 ?_
  cases h
  exact Y_iret C dX9_fails_6

noncomputable def f_X9_tells (σ : Sg) (k0 : Nat) (i1 : Int32) : Option (Int32 × Sg) := some (i1, (si σ k0 6 (0 : Int32)))
set_option maxRecDepth 100000 in
set_option maxHeartbeats 4000000 in
theorem c_X9_tells {l : Launch} {D : va_G} {cA ρ : Nat → Nat} {σ : Sg} {τ : Tg} {k0 : Nat} {i1 : Int32} (hI : Inj ρ) (hk0 : kd k0 = (0, 9)) {r : Int32 × Sg} (h : f_X9_tells σ k0 i1 = some r) : Ct l yX9_tells cX9_tells 2 (some .int) 0 0 D cA ρ (Aw ρ) [.ref (ρ k0), .int i1] σ τ (some (.int r.1)) r.2 τ := by
  refine Ct_of (by decide +kernel) (Nat.le_of_ble_eq_true rfl) (fun p e s m args below meth c C => ?_)
  have C : Ctx p l s m args meth c cX9_tells RX9 2 (some .int) D cA ρ (Aw ρ) := C
  have hW : Wr ρ (Aw ρ) := ⟨hI, fun k hk => ⟨k, hk, rfl⟩⟩
  unfold f_X9_tells at h
  refine Y_sub [0, 1] (lv' := [(0, .ref (ρ k0)), (1, .int i1)]) rfl ?_
  refine Y_aload_n C (pc := 0) 0 0 rfl rfl dX9_tells_0 ?_
  refine Y_iconst C (pc := 1) (v := (0 : Int32)) (by decide) dX9_tells_1 ?_
  refine Y_putI C (pc := 2) hW hk0 (q_lo_9 hk0) q_fp_RX9_75 dX9_tells_2 ?_
  refine Y_iload_n C (pc := 5) 1 1 rfl rfl dX9_tells_5 ?_
  cases h
  exact Y_iret C dX9_tells_6

noncomputable def f_X9_hold_L2 (k0 : Nat) : (Int32 × Sg) → Option ((Int32 × Sg) ⊕ (Sg)) := fun s1 => if (121 : Int32) ≤ s1.1 then (some (.inr s1.2)) else ((ald s1.2 (k0 + 1) s1.1).bind fun v2 => (ast s1.2 (k0 + 3) s1.1 v2).bind fun s3 => some (.inl ((s1.1 + 1), s3)))
noncomputable def f_X9_hold (σ : Sg) (k0 : Nat) : Option (Sg) := (lo (f_X9_hold_L2 k0) ((0 : Int32), σ)).bind fun e5 => some e5
set_option maxRecDepth 100000 in
set_option maxHeartbeats 4000000 in
theorem c_X9_hold {l : Launch} {D : va_G} {cA ρ : Nat → Nat} {σ : Sg} {τ : Tg} {k0 : Nat} (hI : Inj ρ) (hk0 : kd k0 = (0, 9)) {r : Sg} (h : f_X9_hold σ k0 = some r) : Ct l yX9_hold cX9_hold 2 none 0 0 D cA ρ (Aw ρ) [.ref (ρ k0)] σ τ none r τ := by
  refine Ct_of (by decide +kernel) (Nat.le_of_ble_eq_true rfl) (fun p e s m args below meth c C => ?_)
  have C : Ctx p l s m args meth c cX9_hold RX9 2 none D cA ρ (Aw ρ) := C
  have hW : Wr ρ (Aw ρ) := ⟨hI, fun k hk => ⟨k, hk, rfl⟩⟩
  unfold f_X9_hold at h
  refine Y_sub [0] (lv' := [(0, .ref (ρ k0))]) rfl ?_
  refine Y_iconst C (pc := 0) (v := (0 : Int32)) (by decide) dX9_hold_0 ?_
  refine Y_istore_n C (pc := 1) (lv' := [(1, .int (0 : Int32)), (0, .ref (ρ k0))]) 1 rfl (by decide) rfl dX9_hold_1 ?_
  obtain ⟨e5, he5, h⟩ := Option.bind_eq_some_iff.mp h
  refine Y_sub [1, 0] (lv' := [(0, .ref (ρ k0)), (1, .int (0 : Int32))]) rfl ?_
  refine lo_rule (f := (f_X9_hold_L2 k0)) (YS := fun s1 => Y p l e (Rm 0 0) s m args below meth c 2 D cA ρ (Aw ρ) 0 0 (MQ below (QC D cA ρ (Aw ρ) none r τ) args s 0 0 (Aw ρ)) s1.2 τ 2 [(0, .ref (ρ k0)), (1, .int s1.1)] []) (YE := fun e5 => Y p l e (Rm 0 0) s m args below meth c 2 D cA ρ (Aw ρ) 0 0 (MQ below (QC D cA ρ (Aw ρ) none r τ) args s 0 0 (Aw ρ)) e5 τ 26 [] []) ?_ he5 ?_
  · intro s1 x h hLp hE
    unfold f_X9_hold_L2 at h
    refine Y_iload_n C (pc := 2) 1 1 rfl rfl dX9_hold_2 ?_
    refine Y_bipush C (pc := 3) (v := (121 : Int32)) (by decide) dX9_hold_3 ?_
    refine Y_icmp_ge C (pc := 5) (tgt := 26) dX9_hold_5 (by decide) (fun c4 => ?_) (fun c4 => ?_)
    · rw [if_pos c4] at h
      have h := Option.some.inj h
      exact Y_sub [] rfl (hE _ h.symm)
    · rw [if_neg c4] at h
      refine Y_aload_n C (pc := 8) 0 0 rfl rfl dX9_hold_8 ?_
      refine Y_getR C (pc := 9) hk0 q_fi_RX9_16 (by decide) dX9_hold_9 ?_
      refine Y_iload_n C (pc := 12) 1 1 rfl rfl dX9_hold_12 ?_
      refine Y_aload_n C (pc := 13) 0 0 rfl rfl dX9_hold_13 ?_
      refine Y_getR C (pc := 14) hk0 q_fi_RX9_7 (by decide) dX9_hold_14 ?_
      refine Y_iload_n C (pc := 17) 1 1 rfl rfl dX9_hold_17 ?_
      obtain ⟨v2, hv2, h⟩ := Option.bind_eq_some_iff.mp h
      refine Y_iald C (pc := 18) (q_kr_9_0 hk0) hv2 dX9_hold_18 ?_
      obtain ⟨s3, hs3, h⟩ := Option.bind_eq_some_iff.mp h
      refine Y_iast C (pc := 19) hW (q_kr_9_2 hk0) (q_lr_9_2 hk0) hs3 dX9_hold_19 ?_
      refine Y_iinc C (pc := 20) (v := (s1.1 + 1)) (lv' := [(1, .int (s1.1 + 1)), (0, .ref (ρ k0))]) 1 rfl (congrArg (fun z => s1.1 + z) (by decide : Int32.ofInt (1) = (1))) (by decide) rfl dX9_hold_20 ?_
      refine Y_goto C (pc := 23) (tgt := 2) dX9_hold_23 (by decide) ?_
      have h := Option.some.inj h
      exact Y_sub [1, 0] rfl (hLp _ h.symm)
  · cases h
    exact Y_vret C dX9_hold_26

noncomputable def f_X9_ends_L51 (k0 : Nat) : (Int32 × Sg) → Option ((Int32 × Sg) ⊕ (Sg)) := fun s2 => if (121 : Int32) ≤ s2.1 then (some (.inr s2.2)) else ((ald s2.2 (k0 + 3) s2.1).bind fun v3 => (ast s2.2 (k0 + 2) (((121 : Int32) * (s2.2 k0 3)) + s2.1) v3).bind fun s4 => some (.inl ((s2.1 + 1), s4)))
noncomputable def f_X9_ends_J49 (k0 : Nat) (i1 : Int32) (sj1 : Sg) : Option (Int32 × Sg) := (lo (f_X9_ends_L51 k0) ((0 : Int32), sj1)).bind fun e6 => (f_X9_tells ((si e6 k0 3 ((e6 k0 3) + (1 : Int32)))) k0 i1).bind fun v7 => some (v7.1, v7.2)
noncomputable def f_X9_ends_L11 (k0 : Nat) : (Int32 × Sg) → Option ((Int32 × Sg) ⊕ (Sg)) := fun s8 => if (605 : Int32) ≤ s8.1 then (some (.inr s8.2)) else ((ald s8.2 (k0 + 2) (s8.1 + (121 : Int32))).bind fun v9 => (ast s8.2 (k0 + 2) s8.1 v9).bind fun s10 => some (.inl ((s8.1 + 1), s10)))
noncomputable def f_X9_ends (σ : Sg) (k0 : Nat) (i1 : Int32) : Option (Int32 × Sg) := if (σ k0 3) = (6 : Int32) then ((lo (f_X9_ends_L11 k0) ((0 : Int32), σ)).bind fun e12 => f_X9_ends_J49 k0 i1 ((si e12 k0 3 ((e12 k0 3) - (1 : Int32))))) else (f_X9_ends_J49 k0 i1 σ)
set_option maxRecDepth 100000 in
set_option maxHeartbeats 4000000 in
theorem c_X9_ends {l : Launch} {D : va_G} {cA ρ : Nat → Nat} {σ : Sg} {τ : Tg} {k0 : Nat} {i1 : Int32} (hI : Inj ρ) (hk0 : kd k0 = (0, 9)) {r : Int32 × Sg} (h : f_X9_ends σ k0 i1 = some r) : Ct l yX9_ends cX9_ends 3 (some .int) 1 21 D cA ρ (Aw ρ) [.ref (ρ k0), .int i1] σ τ (some (.int r.1)) r.2 τ := by
  refine Ct_of (by decide +kernel) (Nat.le_of_ble_eq_true rfl) (fun p e s m args below meth c C => ?_)
  have C : Ctx p l s m args meth c cX9_ends RX9 3 (some .int) D cA ρ (Aw ρ) := C
  have hW : Wr ρ (Aw ρ) := ⟨hI, fun k hk => ⟨k, hk, rfl⟩⟩
  unfold f_X9_ends at h
  refine Y_sub [0, 1] (lv' := [(0, .ref (ρ k0)), (1, .int i1)]) rfl ?_
  have hJ49 : ∀ (sj1 : Sg), f_X9_ends_J49 k0 i1 sj1 = some r → Y p l e (Rm 1 21) s m args below meth c 3 D cA ρ (Aw ρ) 0 0 (MQ below (QC D cA ρ (Aw ρ) (some (.int r.1)) r.2 τ) args s 0 0 (Aw ρ)) sj1 τ 49 [(0, .ref (ρ k0)), (1, .int i1)] [] := by
    intro sj1 h
    unfold f_X9_ends_J49 at h
    refine Y_iconst C (pc := 49) (v := (0 : Int32)) (by decide) dX9_ends_49 ?_
    refine Y_istore_n C (pc := 50) (lv' := [(2, .int (0 : Int32)), (0, .ref (ρ k0)), (1, .int i1)]) 2 rfl (by decide) rfl dX9_ends_50 ?_
    obtain ⟨e6, he6, h⟩ := Option.bind_eq_some_iff.mp h
    refine Y_sub [1, 2, 0] (lv' := [(0, .ref (ρ k0)), (1, .int i1), (2, .int (0 : Int32))]) rfl ?_
    refine lo_rule (f := (f_X9_ends_L51 k0)) (YS := fun s2 => Y p l e (Rm 1 21) s m args below meth c 3 D cA ρ (Aw ρ) 0 0 (MQ below (QC D cA ρ (Aw ρ) (some (.int r.1)) r.2 τ) args s 0 0 (Aw ρ)) s2.2 τ 51 [(0, .ref (ρ k0)), (1, .int i1), (2, .int s2.1)] []) (YE := fun e6 => Y p l e (Rm 1 21) s m args below meth c 3 D cA ρ (Aw ρ) 0 0 (MQ below (QC D cA ρ (Aw ρ) (some (.int r.1)) r.2 τ) args s 0 0 (Aw ρ)) e6 τ 83 [(0, .ref (ρ k0)), (1, .int i1)] []) ?_ he6 ?_
    · intro s2 x h hLp hE
      unfold f_X9_ends_L51 at h
      refine Y_iload_n C (pc := 51) 2 2 rfl rfl dX9_ends_51 ?_
      refine Y_bipush C (pc := 52) (v := (121 : Int32)) (by decide) dX9_ends_52 ?_
      refine Y_icmp_ge C (pc := 54) (tgt := 83) dX9_ends_54 (by decide) (fun c5 => ?_) (fun c5 => ?_)
      · rw [if_pos c5] at h
        have h := Option.some.inj h
        exact Y_sub [0, 1] rfl (hE _ h.symm)
      · rw [if_neg c5] at h
        refine Y_aload_n C (pc := 57) 0 0 rfl rfl dX9_ends_57 ?_
        refine Y_getR C (pc := 58) hk0 q_fi_RX9_13 (by decide) dX9_ends_58 ?_
        refine Y_bipush C (pc := 61) (v := (121 : Int32)) (by decide) dX9_ends_61 ?_
        refine Y_aload_n C (pc := 63) 0 0 rfl rfl dX9_ends_63 ?_
        refine Y_getI C (pc := 64) hk0 q_fi_RX9_79 dX9_ends_64 ?_
        refine Y_imul C (pc := 67) dX9_ends_67 ?_
        refine Y_iload_n C (pc := 68) 2 2 rfl rfl dX9_ends_68 ?_
        refine Y_iadd C (pc := 69) dX9_ends_69 ?_
        refine Y_aload_n C (pc := 70) 0 0 rfl rfl dX9_ends_70 ?_
        refine Y_getR C (pc := 71) hk0 q_fi_RX9_16 (by decide) dX9_ends_71 ?_
        refine Y_iload_n C (pc := 74) 2 2 rfl rfl dX9_ends_74 ?_
        obtain ⟨v3, hv3, h⟩ := Option.bind_eq_some_iff.mp h
        refine Y_iald C (pc := 75) (q_kr_9_2 hk0) hv3 dX9_ends_75 ?_
        obtain ⟨s4, hs4, h⟩ := Option.bind_eq_some_iff.mp h
        refine Y_iast C (pc := 76) hW (q_kr_9_1 hk0) (q_lr_9_1 hk0) hs4 dX9_ends_76 ?_
        refine Y_iinc C (pc := 77) (v := (s2.1 + 1)) (lv' := [(2, .int (s2.1 + 1)), (0, .ref (ρ k0)), (1, .int i1)]) 2 rfl (congrArg (fun z => s2.1 + z) (by decide : Int32.ofInt (1) = (1))) (by decide) rfl dX9_ends_77 ?_
        refine Y_goto C (pc := 80) (tgt := 51) dX9_ends_80 (by decide) ?_
        have h := Option.some.inj h
        exact Y_sub [1, 2, 0] rfl (hLp _ h.symm)
    · refine Y_aload_n C (pc := 83) 0 0 rfl rfl dX9_ends_83 ?_
      refine Y_dup C (pc := 84) rfl dX9_ends_84 ?_
      refine Y_getI C (pc := 85) hk0 q_fi_RX9_79 dX9_ends_85 ?_
      refine Y_iconst C (pc := 88) (v := (1 : Int32)) (by decide) dX9_ends_88 ?_
      refine Y_iadd C (pc := 89) dX9_ends_89 ?_
      refine Y_putI C (pc := 90) hW hk0 (q_lo_9 hk0) q_fp_RX9_79 dX9_ends_90 ?_
      refine Y_aload_n C (pc := 93) 0 0 rfl rfl dX9_ends_93 ?_
      refine Y_iload_n C (pc := 94) 1 1 rfl rfl dX9_ends_94 ?_
      obtain ⟨v7, hv7, h⟩ := Option.bind_eq_some_iff.mp h
      refine Y_callV C [.int i1] [] [.int v7.1] hk0 rfl rfl (c_X9_tells hI hk0 hv7) (fun _ h => h) q_cw_yX9_tells q_ml_RX9_82 ⟨q_im_yX9_tells, q_se_yX9_tells⟩ ⟨⟨Nat.le_of_ble_eq_true rfl, Nat.le_of_ble_eq_true rfl⟩, ⟨Nat.zero_le _, Nat.zero_le _⟩, Nat.le_of_ble_eq_true rfl⟩ rfl rfl rfl dX9_ends_95 ?_
      cases h
      exact Y_iret C dX9_ends_98
  refine Y_aload_n C (pc := 0) 0 0 rfl rfl dX9_ends_0 ?_
  refine Y_getI C (pc := 1) hk0 q_fi_RX9_79 dX9_ends_1 ?_
  refine Y_bipush C (pc := 4) (v := (6 : Int32)) (by decide) dX9_ends_4 ?_
  refine Y_icmp_ne C (pc := 6) (tgt := 49) dX9_ends_6 (by decide) (fun c13 => ?_) (fun c13 => ?_)
  · rw [if_neg c13] at h
    exact Y_sub [0, 1] rfl (hJ49 _ h)
  · rw [if_pos c13] at h
    refine Y_iconst C (pc := 9) (v := (0 : Int32)) (by decide) dX9_ends_9 ?_
    refine Y_istore_n C (pc := 10) (lv' := [(2, .int (0 : Int32)), (0, .ref (ρ k0)), (1, .int i1)]) 2 rfl (by decide) rfl dX9_ends_10 ?_
    obtain ⟨e12, he12, h⟩ := Option.bind_eq_some_iff.mp h
    refine Y_sub [1, 2, 0] (lv' := [(0, .ref (ρ k0)), (1, .int i1), (2, .int (0 : Int32))]) rfl ?_
    refine lo_rule (f := (f_X9_ends_L11 k0)) (YS := fun s8 => Y p l e (Rm 1 21) s m args below meth c 3 D cA ρ (Aw ρ) 0 0 (MQ below (QC D cA ρ (Aw ρ) (some (.int r.1)) r.2 τ) args s 0 0 (Aw ρ)) s8.2 τ 11 [(0, .ref (ρ k0)), (1, .int i1), (2, .int s8.1)] []) (YE := fun e12 => Y p l e (Rm 1 21) s m args below meth c 3 D cA ρ (Aw ρ) 0 0 (MQ below (QC D cA ρ (Aw ρ) (some (.int r.1)) r.2 τ) args s 0 0 (Aw ρ)) e12 τ 39 [(0, .ref (ρ k0)), (1, .int i1)] []) ?_ he12 ?_
    · intro s8 x h hLp hE
      unfold f_X9_ends_L11 at h
      refine Y_iload_n C (pc := 11) 2 2 rfl rfl dX9_ends_11 ?_
      refine Y_sipush C (pc := 12) (v := (605 : Int32)) (by decide) dX9_ends_12 ?_
      refine Y_icmp_ge C (pc := 15) (tgt := 39) dX9_ends_15 (by decide) (fun c11 => ?_) (fun c11 => ?_)
      · rw [if_pos c11] at h
        have h := Option.some.inj h
        exact Y_sub [0, 1] rfl (hE _ h.symm)
      · rw [if_neg c11] at h
        refine Y_aload_n C (pc := 18) 0 0 rfl rfl dX9_ends_18 ?_
        refine Y_getR C (pc := 19) hk0 q_fi_RX9_13 (by decide) dX9_ends_19 ?_
        refine Y_iload_n C (pc := 22) 2 2 rfl rfl dX9_ends_22 ?_
        refine Y_aload_n C (pc := 23) 0 0 rfl rfl dX9_ends_23 ?_
        refine Y_getR C (pc := 24) hk0 q_fi_RX9_13 (by decide) dX9_ends_24 ?_
        refine Y_iload_n C (pc := 27) 2 2 rfl rfl dX9_ends_27 ?_
        refine Y_bipush C (pc := 28) (v := (121 : Int32)) (by decide) dX9_ends_28 ?_
        refine Y_iadd C (pc := 30) dX9_ends_30 ?_
        obtain ⟨v9, hv9, h⟩ := Option.bind_eq_some_iff.mp h
        refine Y_iald C (pc := 31) (q_kr_9_1 hk0) hv9 dX9_ends_31 ?_
        obtain ⟨s10, hs10, h⟩ := Option.bind_eq_some_iff.mp h
        refine Y_iast C (pc := 32) hW (q_kr_9_1 hk0) (q_lr_9_1 hk0) hs10 dX9_ends_32 ?_
        refine Y_iinc C (pc := 33) (v := (s8.1 + 1)) (lv' := [(2, .int (s8.1 + 1)), (0, .ref (ρ k0)), (1, .int i1)]) 2 rfl (congrArg (fun z => s8.1 + z) (by decide : Int32.ofInt (1) = (1))) (by decide) rfl dX9_ends_33 ?_
        refine Y_goto C (pc := 36) (tgt := 11) dX9_ends_36 (by decide) ?_
        have h := Option.some.inj h
        exact Y_sub [1, 2, 0] rfl (hLp _ h.symm)
    · refine Y_aload_n C (pc := 39) 0 0 rfl rfl dX9_ends_39 ?_
      refine Y_dup C (pc := 40) rfl dX9_ends_40 ?_
      refine Y_getI C (pc := 41) hk0 q_fi_RX9_79 dX9_ends_41 ?_
      refine Y_iconst C (pc := 44) (v := (1 : Int32)) (by decide) dX9_ends_44 ?_
      refine Y_isub C (pc := 45) dX9_ends_45 ?_
      refine Y_putI C (pc := 46) hW hk0 (q_lo_9 hk0) q_fp_RX9_79 dX9_ends_46 ?_
      exact Y_sub [0, 1] rfl (hJ49 _ h)

noncomputable def f_X9_begins_J24 (k0 : Nat) (j2 : Int32) (j3 : Int32) (j4 : Int32) (sj5 : Sg) : Option ((Int32 × Sg) ⊕ (Sg)) := (ast sj5 (k0 + 1) j4 j3).bind fun s6 => some (.inl ((j2 + 1), s6))
noncomputable def f_X9_begins_L2 (k0 : Nat) : (Int32 × Sg) → Option ((Int32 × Sg) ⊕ (Sg)) := fun s1 => if (121 : Int32) ≤ s1.1 then (some (.inr s1.2)) else (if (115 : Int32) ≤ s1.1 then (f_X9_begins_J24 k0 s1.1 ((-1 : Int32)) s1.1 s1.2) else (f_X9_begins_J24 k0 s1.1 ((0 : Int32)) s1.1 s1.2))
noncomputable def f_X9_begins_L40 (k0 : Nat) : (Int32 × Sg) → Option ((Int32 × Sg) ⊕ (Sg)) := fun s11 => if (6 : Int32) ≤ s11.1 then (some (.inr s11.2)) else ((ast s11.2 (k0 + 1) ((109 : Int32) + s11.1) s11.1).bind fun s12 => some (.inl ((s11.1 + 1), s12)))
noncomputable def f_X9_begins (σ : Sg) (k0 : Nat) (i1 : Int32) : Option (Sg) := (lo (f_X9_begins_L2 k0) ((0 : Int32), σ)).bind fun e9 => (ast e9 (k0 + 1) (0 : Int32) i1).bind fun s10 => (lo (f_X9_begins_L40 k0) ((0 : Int32), s10)).bind fun e14 => some e14
set_option maxRecDepth 100000 in
set_option maxHeartbeats 4000000 in
theorem c_X9_begins {l : Launch} {D : va_G} {cA ρ : Nat → Nat} {σ : Sg} {τ : Tg} {k0 : Nat} {i1 : Int32} (hI : Inj ρ) (hk0 : kd k0 = (0, 9)) {r : Sg} (h : f_X9_begins σ k0 i1 = some r) : Ct l yX9_begins cX9_begins 3 none 0 0 D cA ρ (Aw ρ) [.ref (ρ k0), .int i1] σ τ none r τ := by
  refine Ct_of (by decide +kernel) (Nat.le_of_ble_eq_true rfl) (fun p e s m args below meth c C => ?_)
  have C : Ctx p l s m args meth c cX9_begins RX9 3 none D cA ρ (Aw ρ) := C
  have hW : Wr ρ (Aw ρ) := ⟨hI, fun k hk => ⟨k, hk, rfl⟩⟩
  unfold f_X9_begins at h
  refine Y_sub [0, 1] (lv' := [(0, .ref (ρ k0)), (1, .int i1)]) rfl ?_
  refine Y_iconst C (pc := 0) (v := (0 : Int32)) (by decide) dX9_begins_0 ?_
  refine Y_istore_n C (pc := 1) (lv' := [(2, .int (0 : Int32)), (0, .ref (ρ k0)), (1, .int i1)]) 2 rfl (by decide) rfl dX9_begins_1 ?_
  obtain ⟨e9, he9, h⟩ := Option.bind_eq_some_iff.mp h
  refine Y_sub [1, 2, 0] (lv' := [(0, .ref (ρ k0)), (1, .int i1), (2, .int (0 : Int32))]) rfl ?_
  refine lo_rule (f := (f_X9_begins_L2 k0)) (YS := fun s1 => Y p l e (Rm 0 0) s m args below meth c 3 D cA ρ (Aw ρ) 0 0 (MQ below (QC D cA ρ (Aw ρ) none r τ) args s 0 0 (Aw ρ)) s1.2 τ 2 [(0, .ref (ρ k0)), (1, .int i1), (2, .int s1.1)] []) (YE := fun e9 => Y p l e (Rm 0 0) s m args below meth c 3 D cA ρ (Aw ρ) 0 0 (MQ below (QC D cA ρ (Aw ρ) none r τ) args s 0 0 (Aw ρ)) e9 τ 31 [(0, .ref (ρ k0)), (1, .int i1)] []) ?_ he9 ?_
  · intro s1 x h hLp hE
    unfold f_X9_begins_L2 at h
    have hJ24 : ∀ (j2 : Int32) (j3 : Int32) (j4 : Int32) (sj5 : Sg), f_X9_begins_J24 k0 j2 j3 j4 sj5 = some x → Y p l e (Rm 0 0) s m args below meth c 3 D cA ρ (Aw ρ) 0 0 (MQ below (QC D cA ρ (Aw ρ) none r τ) args s 0 0 (Aw ρ)) sj5 τ 24 [(0, .ref (ρ k0)), (1, .int i1), (2, .int j2)] [.int j3, .int j4, .ref (ρ (k0 + 1))] := by
      intro j2 j3 j4 sj5 h
      unfold f_X9_begins_J24 at h
      obtain ⟨s6, hs6, h⟩ := Option.bind_eq_some_iff.mp h
      refine Y_iast C (pc := 24) hW (q_kr_9_0 hk0) (q_lr_9_0 hk0) hs6 dX9_begins_24 ?_
      refine Y_iinc C (pc := 25) (v := (j2 + 1)) (lv' := [(2, .int (j2 + 1)), (0, .ref (ρ k0)), (1, .int i1)]) 2 rfl (congrArg (fun z => j2 + z) (by decide : Int32.ofInt (1) = (1))) (by decide) rfl dX9_begins_25 ?_
      refine Y_goto C (pc := 28) (tgt := 2) dX9_begins_28 (by decide) ?_
      have h := Option.some.inj h
      exact Y_sub [1, 2, 0] rfl (hLp _ h.symm)
    refine Y_iload_n C (pc := 2) 2 2 rfl rfl dX9_begins_2 ?_
    refine Y_bipush C (pc := 3) (v := (121 : Int32)) (by decide) dX9_begins_3 ?_
    refine Y_icmp_ge C (pc := 5) (tgt := 31) dX9_begins_5 (by decide) (fun c8 => ?_) (fun c8 => ?_)
    · rw [if_pos c8] at h
      have h := Option.some.inj h
      exact Y_sub [0, 1] rfl (hE _ h.symm)
    · rw [if_neg c8] at h
      refine Y_aload_n C (pc := 8) 0 0 rfl rfl dX9_begins_8 ?_
      refine Y_getR C (pc := 9) hk0 q_fi_RX9_7 (by decide) dX9_begins_9 ?_
      refine Y_iload_n C (pc := 12) 2 2 rfl rfl dX9_begins_12 ?_
      refine Y_iload_n C (pc := 13) 2 2 rfl rfl dX9_begins_13 ?_
      refine Y_bipush C (pc := 14) (v := (115 : Int32)) (by decide) dX9_begins_14 ?_
      refine Y_icmp_ge C (pc := 16) (tgt := 23) dX9_begins_16 (by decide) (fun c7 => ?_) (fun c7 => ?_)
      · rw [if_pos c7] at h
        refine Y_iconst C (pc := 23) (v := (-1 : Int32)) (by decide) dX9_begins_23 ?_
        exact Y_sub [0, 1, 2] rfl (hJ24 _ _ _ _ h)
      · rw [if_neg c7] at h
        refine Y_iconst C (pc := 19) (v := (0 : Int32)) (by decide) dX9_begins_19 ?_
        refine Y_goto C (pc := 20) (tgt := 24) dX9_begins_20 (by decide) ?_
        exact Y_sub [0, 1, 2] rfl (hJ24 _ _ _ _ h)
  · refine Y_aload_n C (pc := 31) 0 0 rfl rfl dX9_begins_31 ?_
    refine Y_getR C (pc := 32) hk0 q_fi_RX9_7 (by decide) dX9_begins_32 ?_
    refine Y_iconst C (pc := 35) (v := (0 : Int32)) (by decide) dX9_begins_35 ?_
    refine Y_iload_n C (pc := 36) 1 1 rfl rfl dX9_begins_36 ?_
    obtain ⟨s10, hs10, h⟩ := Option.bind_eq_some_iff.mp h
    refine Y_iast C (pc := 37) hW (q_kr_9_0 hk0) (q_lr_9_0 hk0) hs10 dX9_begins_37 ?_
    refine Y_iconst C (pc := 38) (v := (0 : Int32)) (by decide) dX9_begins_38 ?_
    refine Y_istore_n C (pc := 39) (lv' := [(2, .int (0 : Int32)), (0, .ref (ρ k0)), (1, .int i1)]) 2 rfl (by decide) rfl dX9_begins_39 ?_
    obtain ⟨e14, he14, h⟩ := Option.bind_eq_some_iff.mp h
    refine Y_sub [1, 0] (lv' := [(0, .ref (ρ k0)), (2, .int (0 : Int32))]) rfl ?_
    refine lo_rule (f := (f_X9_begins_L40 k0)) (YS := fun s11 => Y p l e (Rm 0 0) s m args below meth c 3 D cA ρ (Aw ρ) 0 0 (MQ below (QC D cA ρ (Aw ρ) none r τ) args s 0 0 (Aw ρ)) s11.2 τ 40 [(0, .ref (ρ k0)), (2, .int s11.1)] []) (YE := fun e14 => Y p l e (Rm 0 0) s m args below meth c 3 D cA ρ (Aw ρ) 0 0 (MQ below (QC D cA ρ (Aw ρ) none r τ) args s 0 0 (Aw ρ)) e14 τ 62 [] []) ?_ he14 ?_
    · intro s11 x h hLp hE
      unfold f_X9_begins_L40 at h
      refine Y_iload_n C (pc := 40) 2 1 rfl rfl dX9_begins_40 ?_
      refine Y_bipush C (pc := 41) (v := (6 : Int32)) (by decide) dX9_begins_41 ?_
      refine Y_icmp_ge C (pc := 43) (tgt := 62) dX9_begins_43 (by decide) (fun c13 => ?_) (fun c13 => ?_)
      · rw [if_pos c13] at h
        have h := Option.some.inj h
        exact Y_sub [] rfl (hE _ h.symm)
      · rw [if_neg c13] at h
        refine Y_aload_n C (pc := 46) 0 0 rfl rfl dX9_begins_46 ?_
        refine Y_getR C (pc := 47) hk0 q_fi_RX9_7 (by decide) dX9_begins_47 ?_
        refine Y_bipush C (pc := 50) (v := (109 : Int32)) (by decide) dX9_begins_50 ?_
        refine Y_iload_n C (pc := 52) 2 1 rfl rfl dX9_begins_52 ?_
        refine Y_iadd C (pc := 53) dX9_begins_53 ?_
        refine Y_iload_n C (pc := 54) 2 1 rfl rfl dX9_begins_54 ?_
        obtain ⟨s12, hs12, h⟩ := Option.bind_eq_some_iff.mp h
        refine Y_iast C (pc := 55) hW (q_kr_9_0 hk0) (q_lr_9_0 hk0) hs12 dX9_begins_55 ?_
        refine Y_iinc C (pc := 56) (v := (s11.1 + 1)) (lv' := [(2, .int (s11.1 + 1)), (0, .ref (ρ k0))]) 1 rfl (congrArg (fun z => s11.1 + z) (by decide : Int32.ofInt (1) = (1))) (by decide) rfl dX9_begins_56 ?_
        refine Y_goto C (pc := 59) (tgt := 40) dX9_begins_59 (by decide) ?_
        have h := Option.some.inj h
        exact Y_sub [1, 0] rfl (hLp _ h.symm)
    · cases h
      exact Y_vret C dX9_begins_62

noncomputable def f_X9_isOne (σ : Sg) (k0 : Nat) (i1 : Int32) : Option (Int32) := (ald σ (k0 + 1) (0 : Int32)).bind fun v1 => (f_X9_in i1 ((0 : Int32)) ((v1 - (1 : Int32)))).bind fun v2 => (gb v2).bind fun v3 => some v3
set_option maxRecDepth 100000 in
set_option maxHeartbeats 4000000 in
theorem c_X9_isOne {l : Launch} {D : va_G} {cA ρ : Nat → Nat} {σ : Sg} {τ : Tg} {k0 : Nat} {i1 : Int32} (hk0 : kd k0 = (0, 9)) {r : Int32} (h : f_X9_isOne σ k0 i1 = some r) : Ct l yX9_isOne cX9_isOne 2 (some .boolean) 1 22 D cA ρ A0 [.ref (ρ k0), .int i1] σ τ (some (.int r)) σ τ := by
  refine Ct_of (by decide +kernel) (Nat.le_of_ble_eq_true rfl) (fun p e s m args below meth c C => ?_)
  have C : Ctx p l s m args meth c cX9_isOne RX9 2 (some .boolean) D cA ρ A0 := C
  unfold f_X9_isOne at h
  refine Y_sub [0, 1] (lv' := [(0, .ref (ρ k0)), (1, .int i1)]) rfl ?_
  refine Y_iload_n C (pc := 0) 1 1 rfl rfl dX9_isOne_0 ?_
  refine Y_iconst C (pc := 1) (v := (0 : Int32)) (by decide) dX9_isOne_1 ?_
  refine Y_aload_n C (pc := 2) 0 0 rfl rfl dX9_isOne_2 ?_
  refine Y_getR C (pc := 3) hk0 q_fi_RX9_7 (by decide) dX9_isOne_3 ?_
  refine Y_iconst C (pc := 6) (v := (0 : Int32)) (by decide) dX9_isOne_6 ?_
  obtain ⟨v1, hv1, h⟩ := Option.bind_eq_some_iff.mp h
  refine Y_iald C (pc := 7) (q_kr_9_0 hk0) hv1 dX9_isOne_7 ?_
  refine Y_iconst C (pc := 8) (v := (1 : Int32)) (by decide) dX9_isOne_8 ?_
  refine Y_isub C (pc := 9) dX9_isOne_9 ?_
  obtain ⟨v2, hv2, h⟩ := Option.bind_eq_some_iff.mp h
  refine Y_callS C [.int i1, .int (0 : Int32), .int (v1 - (1 : Int32))] [] [.int v2] (c_X9_in  hv2) (fun _ h => h.elim) q_cw_yX9_in q_ml_RX9_86 q_st_yX9_in ⟨⟨Nat.le_of_ble_eq_true rfl, Nat.le_of_ble_eq_true rfl⟩, ⟨Nat.zero_le _, Nat.zero_le _⟩, Nat.le_of_ble_eq_true rfl⟩ rfl rfl rfl dX9_isOne_10 ?_
  obtain ⟨v3, hv3, h⟩ := Option.bind_eq_some_iff.mp h
  obtain ⟨hv3, rfl⟩ := gb_in hv3
  cases h
  exact Y_zret hv3 C dX9_isOne_13

noncomputable def f_X9_placeOf (i0 : Int32) (i1 : Int32) (i2 : Int32) : Option (Int32) := some (((((1 : Int32) + ((36 : Int32) * i0)) + ((6 : Int32) * i1)) + i2))
set_option maxRecDepth 100000 in
set_option maxHeartbeats 4000000 in
theorem c_X9_placeOf {l : Launch} {D : va_G} {cA ρ : Nat → Nat} {σ : Sg} {τ : Tg} {i0 : Int32} {i1 : Int32} {i2 : Int32}  {r : Int32} (h : f_X9_placeOf i0 i1 i2 = some r) : Ct l yX9_placeOf cX9_placeOf 3 (some .int) 0 0 D cA ρ A0 [.int i0, .int i1, .int i2] σ τ (some (.int r)) σ τ := by
  refine Ct_of (by decide +kernel) (Nat.le_of_ble_eq_true rfl) (fun p e s m args below meth c C => ?_)
  have C : Ctx p l s m args meth c cX9_placeOf RX9 3 (some .int) D cA ρ A0 := C
  unfold f_X9_placeOf at h
  refine Y_sub [0, 1, 2] (lv' := [(0, .int i0), (1, .int i1), (2, .int i2)]) rfl ?_
  refine Y_iconst C (pc := 0) (v := (1 : Int32)) (by decide) dX9_placeOf_0 ?_
  refine Y_bipush C (pc := 1) (v := (36 : Int32)) (by decide) dX9_placeOf_1 ?_
  refine Y_iload_n C (pc := 3) 0 0 rfl rfl dX9_placeOf_3 ?_
  refine Y_imul C (pc := 4) dX9_placeOf_4 ?_
  refine Y_iadd C (pc := 5) dX9_placeOf_5 ?_
  refine Y_bipush C (pc := 6) (v := (6 : Int32)) (by decide) dX9_placeOf_6 ?_
  refine Y_iload_n C (pc := 8) 1 1 rfl rfl dX9_placeOf_8 ?_
  refine Y_imul C (pc := 9) dX9_placeOf_9 ?_
  refine Y_iadd C (pc := 10) dX9_placeOf_10 ?_
  refine Y_iload_n C (pc := 11) 2 2 rfl rfl dX9_placeOf_11 ?_
  refine Y_iadd C (pc := 12) dX9_placeOf_12 ?_
  cases h
  exact Y_iret C dX9_placeOf_13

noncomputable def f_X9_flow (σ : Sg) (k0 : Nat) (i1 : Int32) (i2 : Int32) : Option (Int32) := (f_X9_placeOf ((0 : Int32)) i1 i2).bind fun v1 => (ald σ (k0 + 1) v1).bind fun v2 => some v2
set_option maxRecDepth 100000 in
set_option maxHeartbeats 4000000 in
theorem c_X9_flow {l : Launch} {D : va_G} {cA ρ : Nat → Nat} {σ : Sg} {τ : Tg} {k0 : Nat} {i1 : Int32} {i2 : Int32} (hk0 : kd k0 = (0, 9)) {r : Int32} (h : f_X9_flow σ k0 i1 i2 = some r) : Ct l yX9_flow cX9_flow 3 (some .int) 1 22 D cA ρ A0 [.ref (ρ k0), .int i1, .int i2] σ τ (some (.int r)) σ τ := by
  refine Ct_of (by decide +kernel) (Nat.le_of_ble_eq_true rfl) (fun p e s m args below meth c C => ?_)
  have C : Ctx p l s m args meth c cX9_flow RX9 3 (some .int) D cA ρ A0 := C
  unfold f_X9_flow at h
  refine Y_sub [0, 1, 2] (lv' := [(0, .ref (ρ k0)), (1, .int i1), (2, .int i2)]) rfl ?_
  refine Y_aload_n C (pc := 0) 0 0 rfl rfl dX9_flow_0 ?_
  refine Y_getR C (pc := 1) hk0 q_fi_RX9_7 (by decide) dX9_flow_1 ?_
  refine Y_iconst C (pc := 4) (v := (0 : Int32)) (by decide) dX9_flow_4 ?_
  refine Y_iload_n C (pc := 5) 1 1 rfl rfl dX9_flow_5 ?_
  refine Y_iload_n C (pc := 6) 2 2 rfl rfl dX9_flow_6 ?_
  obtain ⟨v1, hv1, h⟩ := Option.bind_eq_some_iff.mp h
  refine Y_callS C [.int (0 : Int32), .int i1, .int i2] [.ref (ρ (k0 + 1))] [.int v1, .ref (ρ (k0 + 1))] (c_X9_placeOf  hv1) (fun _ h => h.elim) q_cw_yX9_placeOf q_ml_RX9_90 q_st_yX9_placeOf ⟨⟨Nat.le_of_ble_eq_true rfl, Nat.le_of_ble_eq_true rfl⟩, ⟨Nat.zero_le _, Nat.zero_le _⟩, Nat.le_of_ble_eq_true rfl⟩ rfl rfl rfl dX9_flow_7 ?_
  obtain ⟨v2, hv2, h⟩ := Option.bind_eq_some_iff.mp h
  refine Y_iald C (pc := 10) (q_kr_9_0 hk0) hv2 dX9_flow_10 ?_
  cases h
  exact Y_iret C dX9_flow_11

noncomputable def f_X9_far (σ : Sg) (k0 : Nat) (i1 : Int32) (i2 : Int32) : Option (Int32) := (f_X9_placeOf ((1 : Int32)) i1 i2).bind fun v1 => (ald σ (k0 + 1) v1).bind fun v2 => some v2
set_option maxRecDepth 100000 in
set_option maxHeartbeats 4000000 in
theorem c_X9_far {l : Launch} {D : va_G} {cA ρ : Nat → Nat} {σ : Sg} {τ : Tg} {k0 : Nat} {i1 : Int32} {i2 : Int32} (hk0 : kd k0 = (0, 9)) {r : Int32} (h : f_X9_far σ k0 i1 i2 = some r) : Ct l yX9_far cX9_far 3 (some .int) 1 22 D cA ρ A0 [.ref (ρ k0), .int i1, .int i2] σ τ (some (.int r)) σ τ := by
  refine Ct_of (by decide +kernel) (Nat.le_of_ble_eq_true rfl) (fun p e s m args below meth c C => ?_)
  have C : Ctx p l s m args meth c cX9_far RX9 3 (some .int) D cA ρ A0 := C
  unfold f_X9_far at h
  refine Y_sub [0, 1, 2] (lv' := [(0, .ref (ρ k0)), (1, .int i1), (2, .int i2)]) rfl ?_
  refine Y_aload_n C (pc := 0) 0 0 rfl rfl dX9_far_0 ?_
  refine Y_getR C (pc := 1) hk0 q_fi_RX9_7 (by decide) dX9_far_1 ?_
  refine Y_iconst C (pc := 4) (v := (1 : Int32)) (by decide) dX9_far_4 ?_
  refine Y_iload_n C (pc := 5) 1 1 rfl rfl dX9_far_5 ?_
  refine Y_iload_n C (pc := 6) 2 2 rfl rfl dX9_far_6 ?_
  obtain ⟨v1, hv1, h⟩ := Option.bind_eq_some_iff.mp h
  refine Y_callS C [.int (1 : Int32), .int i1, .int i2] [.ref (ρ (k0 + 1))] [.int v1, .ref (ρ (k0 + 1))] (c_X9_placeOf  hv1) (fun _ h => h.elim) q_cw_yX9_placeOf q_ml_RX9_90 q_st_yX9_placeOf ⟨⟨Nat.le_of_ble_eq_true rfl, Nat.le_of_ble_eq_true rfl⟩, ⟨Nat.zero_le _, Nat.zero_le _⟩, Nat.le_of_ble_eq_true rfl⟩ rfl rfl rfl dX9_far_7 ?_
  obtain ⟨v2, hv2, h⟩ := Option.bind_eq_some_iff.mp h
  refine Y_iald C (pc := 10) (q_kr_9_0 hk0) hv2 dX9_far_10 ?_
  cases h
  exact Y_iret C dX9_far_11

noncomputable def f_X9_price (σ : Sg) (k0 : Nat) (i1 : Int32) (i2 : Int32) : Option (Int32) := (f_X9_placeOf ((2 : Int32)) i1 i2).bind fun v1 => (ald σ (k0 + 1) v1).bind fun v2 => some v2
set_option maxRecDepth 100000 in
set_option maxHeartbeats 4000000 in
theorem c_X9_price {l : Launch} {D : va_G} {cA ρ : Nat → Nat} {σ : Sg} {τ : Tg} {k0 : Nat} {i1 : Int32} {i2 : Int32} (hk0 : kd k0 = (0, 9)) {r : Int32} (h : f_X9_price σ k0 i1 i2 = some r) : Ct l yX9_price cX9_price 3 (some .int) 1 22 D cA ρ A0 [.ref (ρ k0), .int i1, .int i2] σ τ (some (.int r)) σ τ := by
  refine Ct_of (by decide +kernel) (Nat.le_of_ble_eq_true rfl) (fun p e s m args below meth c C => ?_)
  have C : Ctx p l s m args meth c cX9_price RX9 3 (some .int) D cA ρ A0 := C
  unfold f_X9_price at h
  refine Y_sub [0, 1, 2] (lv' := [(0, .ref (ρ k0)), (1, .int i1), (2, .int i2)]) rfl ?_
  refine Y_aload_n C (pc := 0) 0 0 rfl rfl dX9_price_0 ?_
  refine Y_getR C (pc := 1) hk0 q_fi_RX9_7 (by decide) dX9_price_1 ?_
  refine Y_iconst C (pc := 4) (v := (2 : Int32)) (by decide) dX9_price_4 ?_
  refine Y_iload_n C (pc := 5) 1 1 rfl rfl dX9_price_5 ?_
  refine Y_iload_n C (pc := 6) 2 2 rfl rfl dX9_price_6 ?_
  obtain ⟨v1, hv1, h⟩ := Option.bind_eq_some_iff.mp h
  refine Y_callS C [.int (2 : Int32), .int i1, .int i2] [.ref (ρ (k0 + 1))] [.int v1, .ref (ρ (k0 + 1))] (c_X9_placeOf  hv1) (fun _ h => h.elim) q_cw_yX9_placeOf q_ml_RX9_90 q_st_yX9_placeOf ⟨⟨Nat.le_of_ble_eq_true rfl, Nat.le_of_ble_eq_true rfl⟩, ⟨Nat.zero_le _, Nat.zero_le _⟩, Nat.le_of_ble_eq_true rfl⟩ rfl rfl rfl dX9_price_7 ?_
  obtain ⟨v2, hv2, h⟩ := Option.bind_eq_some_iff.mp h
  refine Y_iald C (pc := 10) (q_kr_9_0 hk0) hv2 dX9_price_10 ?_
  cases h
  exact Y_iret C dX9_price_11

noncomputable def f_X9_resize (σ : Sg) (k0 : Nat) (i1 : Int32) : Option (Int32 × Sg) := (f_X9_in i1 ((1 : Int32)) ((6 : Int32))).bind fun v1 => if v1 = (0 : Int32) then ((f_X9_fails σ k0 ((1 : Int32))).bind fun v6 => some (v6.1, v6.2)) else ((f_X9_hold σ k0).bind fun v2 => (ald v2 (k0 + 1) (0 : Int32)).bind fun v3 => (f_X9_begins v2 k0 i1).bind fun v4 => (f_X9_ends v4 k0 v3).bind fun v5 => some (v5.1, v5.2))
set_option maxRecDepth 100000 in
set_option maxHeartbeats 4000000 in
theorem c_X9_resize {l : Launch} {D : va_G} {cA ρ : Nat → Nat} {σ : Sg} {τ : Tg} {k0 : Nat} {i1 : Int32} (hI : Inj ρ) (hk0 : kd k0 = (0, 9)) {r : Int32 × Sg} (h : f_X9_resize σ k0 i1 = some r) : Ct l yX9_resize cX9_resize 3 (some .int) 2 43 D cA ρ (Aw ρ) [.ref (ρ k0), .int i1] σ τ (some (.int r.1)) r.2 τ := by
  refine Ct_of (by decide +kernel) (Nat.le_of_ble_eq_true rfl) (fun p e s m args below meth c C => ?_)
  have C : Ctx p l s m args meth c cX9_resize RX9 3 (some .int) D cA ρ (Aw ρ) := C
  have hW : Wr ρ (Aw ρ) := ⟨hI, fun k hk => ⟨k, hk, rfl⟩⟩
  unfold f_X9_resize at h
  refine Y_sub [0, 1] (lv' := [(0, .ref (ρ k0)), (1, .int i1)]) rfl ?_
  refine Y_iload_n C (pc := 0) 1 1 rfl rfl dX9_resize_0 ?_
  refine Y_iconst C (pc := 1) (v := (1 : Int32)) (by decide) dX9_resize_1 ?_
  refine Y_bipush C (pc := 2) (v := (6 : Int32)) (by decide) dX9_resize_2 ?_
  obtain ⟨v1, hv1, h⟩ := Option.bind_eq_some_iff.mp h
  refine Y_callS C [.int i1, .int (1 : Int32), .int (6 : Int32)] [] [.int v1] (c_X9_in  hv1) (fun _ h => h.elim) q_cw_yX9_in q_ml_RX9_86 q_st_yX9_in ⟨⟨Nat.le_of_ble_eq_true rfl, Nat.le_of_ble_eq_true rfl⟩, ⟨Nat.zero_le _, Nat.zero_le _⟩, Nat.le_of_ble_eq_true rfl⟩ rfl rfl rfl dX9_resize_4 ?_
  refine Y_if_ne C (pc := 7) (tgt := 16) dX9_resize_7 (by decide) (fun c7 => ?_) (fun c7 => ?_)
  · rw [if_neg c7] at h
    refine Y_aload_n C (pc := 16) 0 0 rfl rfl dX9_resize_16 ?_
    obtain ⟨v2, hv2, h⟩ := Option.bind_eq_some_iff.mp h
    refine Y_callV C [] [] [] hk0 rfl rfl (c_X9_hold hI hk0 hv2) (fun _ h => h) q_cw_yX9_hold q_ml_RX9_97 ⟨q_im_yX9_hold, q_se_yX9_hold⟩ ⟨⟨Nat.le_of_ble_eq_true rfl, Nat.le_of_ble_eq_true rfl⟩, ⟨Nat.zero_le _, Nat.zero_le _⟩, Nat.le_of_ble_eq_true rfl⟩ rfl rfl rfl dX9_resize_17 ?_
    refine Y_aload_n C (pc := 20) 0 0 rfl rfl dX9_resize_20 ?_
    refine Y_getR C (pc := 21) hk0 q_fi_RX9_7 (by decide) dX9_resize_21 ?_
    refine Y_iconst C (pc := 24) (v := (0 : Int32)) (by decide) dX9_resize_24 ?_
    obtain ⟨v3, hv3, h⟩ := Option.bind_eq_some_iff.mp h
    refine Y_iald C (pc := 25) (q_kr_9_0 hk0) hv3 dX9_resize_25 ?_
    refine Y_istore_n C (pc := 26) (lv' := [(2, .int v3), (0, .ref (ρ k0)), (1, .int i1)]) 2 rfl (by decide) rfl dX9_resize_26 ?_
    refine Y_aload_n C (pc := 27) 0 1 rfl rfl dX9_resize_27 ?_
    refine Y_iload_n C (pc := 28) 1 2 rfl rfl dX9_resize_28 ?_
    obtain ⟨v4, hv4, h⟩ := Option.bind_eq_some_iff.mp h
    refine Y_callV C [.int i1] [] [] hk0 rfl rfl (c_X9_begins hI hk0 hv4) (fun _ h => h) q_cw_yX9_begins q_ml_RX9_71 ⟨q_im_yX9_begins, q_se_yX9_begins⟩ ⟨⟨Nat.le_of_ble_eq_true rfl, Nat.le_of_ble_eq_true rfl⟩, ⟨Nat.zero_le _, Nat.zero_le _⟩, Nat.le_of_ble_eq_true rfl⟩ rfl rfl rfl dX9_resize_29 ?_
    refine Y_aload_n C (pc := 32) 0 1 rfl rfl dX9_resize_32 ?_
    refine Y_iload_n C (pc := 33) 2 0 rfl rfl dX9_resize_33 ?_
    obtain ⟨v5, hv5, h⟩ := Option.bind_eq_some_iff.mp h
    refine Y_callV C [.int v3] [] [.int v5.1] hk0 rfl rfl (c_X9_ends hI hk0 hv5) (fun _ h => h) q_cw_yX9_ends q_ml_RX9_100 ⟨q_im_yX9_ends, q_se_yX9_ends⟩ ⟨⟨Nat.le_of_ble_eq_true rfl, Nat.le_of_ble_eq_true rfl⟩, ⟨Nat.zero_le _, Nat.zero_le _⟩, Nat.le_of_ble_eq_true rfl⟩ rfl rfl rfl dX9_resize_34 ?_
    cases h
    exact Y_iret C dX9_resize_37
  · rw [if_pos c7] at h
    refine Y_aload_n C (pc := 10) 0 0 rfl rfl dX9_resize_10 ?_
    refine Y_iconst C (pc := 11) (v := (1 : Int32)) (by decide) dX9_resize_11 ?_
    obtain ⟨v6, hv6, h⟩ := Option.bind_eq_some_iff.mp h
    refine Y_callV C [.int (1 : Int32)] [] [.int v6.1] hk0 rfl rfl (c_X9_fails hI hk0 hv6) (fun _ h => h) q_cw_yX9_fails q_ml_RX9_94 ⟨q_im_yX9_fails, q_se_yX9_fails⟩ ⟨⟨Nat.le_of_ble_eq_true rfl, Nat.le_of_ble_eq_true rfl⟩, ⟨Nat.zero_le _, Nat.zero_le _⟩, Nat.le_of_ble_eq_true rfl⟩ rfl rfl rfl dX9_resize_12 ?_
    cases h
    exact Y_iret C dX9_resize_15

noncomputable def f_X9_size (σ : Sg) (k0 : Nat) : Option (Int32 × Sg) := (ald σ (k0 + 1) (0 : Int32)).bind fun v1 => (f_X9_tells σ k0 v1).bind fun v2 => some (v2.1, v2.2)
set_option maxRecDepth 100000 in
set_option maxHeartbeats 4000000 in
theorem c_X9_size {l : Launch} {D : va_G} {cA ρ : Nat → Nat} {σ : Sg} {τ : Tg} {k0 : Nat} (hI : Inj ρ) (hk0 : kd k0 = (0, 9)) {r : Int32 × Sg} (h : f_X9_size σ k0 = some r) : Ct l yX9_size cX9_size 1 (some .int) 1 21 D cA ρ (Aw ρ) [.ref (ρ k0)] σ τ (some (.int r.1)) r.2 τ := by
  refine Ct_of (by decide +kernel) (Nat.le_of_ble_eq_true rfl) (fun p e s m args below meth c C => ?_)
  have C : Ctx p l s m args meth c cX9_size RX9 1 (some .int) D cA ρ (Aw ρ) := C
  have hW : Wr ρ (Aw ρ) := ⟨hI, fun k hk => ⟨k, hk, rfl⟩⟩
  unfold f_X9_size at h
  refine Y_sub [0] (lv' := [(0, .ref (ρ k0))]) rfl ?_
  refine Y_aload_n C (pc := 0) 0 0 rfl rfl dX9_size_0 ?_
  refine Y_aload_n C (pc := 1) 0 0 rfl rfl dX9_size_1 ?_
  refine Y_getR C (pc := 2) hk0 q_fi_RX9_7 (by decide) dX9_size_2 ?_
  refine Y_iconst C (pc := 5) (v := (0 : Int32)) (by decide) dX9_size_5 ?_
  obtain ⟨v1, hv1, h⟩ := Option.bind_eq_some_iff.mp h
  refine Y_iald C (pc := 6) (q_kr_9_0 hk0) hv1 dX9_size_6 ?_
  obtain ⟨v2, hv2, h⟩ := Option.bind_eq_some_iff.mp h
  refine Y_callV C [.int v1] [] [.int v2.1] hk0 rfl rfl (c_X9_tells hI hk0 hv2) (fun _ h => h) q_cw_yX9_tells q_ml_RX9_82 ⟨q_im_yX9_tells, q_se_yX9_tells⟩ ⟨⟨Nat.le_of_ble_eq_true rfl, Nat.le_of_ble_eq_true rfl⟩, ⟨Nat.zero_le _, Nat.zero_le _⟩, Nat.le_of_ble_eq_true rfl⟩ rfl rfl rfl dX9_size_7 ?_
  cases h
  exact Y_iret C dX9_size_10

noncomputable def f_X9_set_J16 (k0 : Nat) (sj2 : Sg) : Option (Int32 × Sg) := (f_X9_fails sj2 k0 ((1 : Int32))).bind fun v3 => some (v3.1, v3.2)
noncomputable def f_X9_set_J42 (k0 : Nat) (sj6 : Sg) : Option (Int32 × Sg) := (f_X9_fails sj6 k0 ((2 : Int32))).bind fun v7 => some (v7.1, v7.2)
noncomputable def f_X9_set (σ : Sg) (k0 : Nat) (i1 : Int32) (i2 : Int32) (i3 : Int32) (i4 : Int32) : Option (Int32 × Sg) := (f_X9_isOne σ k0 i2).bind fun v1 => if v1 = (0 : Int32) then (f_X9_set_J16 k0 σ) else ((f_X9_isOne σ k0 i3).bind fun v4 => if v4 = (0 : Int32) then (f_X9_set_J16 k0 σ) else ((f_X9_in i1 ((0 : Int32)) ((2 : Int32))).bind fun v5 => if v5 = (0 : Int32) then (f_X9_set_J42 k0 σ) else ((f_X9_in i4 ((0 : Int32)) ((99 : Int32))).bind fun v8 => if v8 = (0 : Int32) then (f_X9_set_J42 k0 σ) else ((f_X9_hold σ k0).bind fun v9 => (f_X9_placeOf i1 i2 i3).bind fun v10 => (ald v9 (k0 + 1) v10).bind fun v11 => (f_X9_placeOf i1 i2 i3).bind fun v12 => (ast v9 (k0 + 1) v12 i4).bind fun s13 => (f_X9_ends s13 k0 v11).bind fun v14 => some (v14.1, v14.2)))))
set_option maxRecDepth 100000 in
set_option maxHeartbeats 4000000 in
theorem c_X9_set {l : Launch} {D : va_G} {cA ρ : Nat → Nat} {σ : Sg} {τ : Tg} {k0 : Nat} {i1 : Int32} {i2 : Int32} {i3 : Int32} {i4 : Int32} (hI : Inj ρ) (hk0 : kd k0 = (0, 9)) {r : Int32 × Sg} (h : f_X9_set σ k0 i1 i2 i3 i4 = some r) : Ct l yX9_set cX9_set 6 (some .int) 2 43 D cA ρ (Aw ρ) [.ref (ρ k0), .int i1, .int i2, .int i3, .int i4] σ τ (some (.int r.1)) r.2 τ := by
  refine Ct_of (by decide +kernel) (Nat.le_of_ble_eq_true rfl) (fun p e s m args below meth c C => ?_)
  have C : Ctx p l s m args meth c cX9_set RX9 6 (some .int) D cA ρ (Aw ρ) := C
  have hW : Wr ρ (Aw ρ) := ⟨hI, fun k hk => ⟨k, hk, rfl⟩⟩
  unfold f_X9_set at h
  refine Y_sub [0, 1, 2, 3, 4] (lv' := [(0, .ref (ρ k0)), (1, .int i1), (2, .int i2), (3, .int i3), (4, .int i4)]) rfl ?_
  have hJ42 : ∀ (sj6 : Sg), f_X9_set_J42 k0 sj6 = some r → Y p l e (Rm 2 43) s m args below meth c 6 D cA ρ (Aw ρ) 0 0 (MQ below (QC D cA ρ (Aw ρ) (some (.int r.1)) r.2 τ) args s 0 0 (Aw ρ)) sj6 τ 42 [(0, .ref (ρ k0))] [] := by
    intro sj6 h
    unfold f_X9_set_J42 at h
    refine Y_aload_n C (pc := 42) 0 0 rfl rfl dX9_set_42 ?_
    refine Y_iconst C (pc := 43) (v := (2 : Int32)) (by decide) dX9_set_43 ?_
    obtain ⟨v7, hv7, h⟩ := Option.bind_eq_some_iff.mp h
    refine Y_callV C [.int (2 : Int32)] [] [.int v7.1] hk0 rfl rfl (c_X9_fails hI hk0 hv7) (fun _ h => h) q_cw_yX9_fails q_ml_RX9_94 ⟨q_im_yX9_fails, q_se_yX9_fails⟩ ⟨⟨Nat.le_of_ble_eq_true rfl, Nat.le_of_ble_eq_true rfl⟩, ⟨Nat.zero_le _, Nat.zero_le _⟩, Nat.le_of_ble_eq_true rfl⟩ rfl rfl rfl dX9_set_44 ?_
    cases h
    exact Y_iret C dX9_set_47
  have hJ16 : ∀ (sj2 : Sg), f_X9_set_J16 k0 sj2 = some r → Y p l e (Rm 2 43) s m args below meth c 6 D cA ρ (Aw ρ) 0 0 (MQ below (QC D cA ρ (Aw ρ) (some (.int r.1)) r.2 τ) args s 0 0 (Aw ρ)) sj2 τ 16 [(0, .ref (ρ k0))] [] := by
    intro sj2 h
    unfold f_X9_set_J16 at h
    refine Y_aload_n C (pc := 16) 0 0 rfl rfl dX9_set_16 ?_
    refine Y_iconst C (pc := 17) (v := (1 : Int32)) (by decide) dX9_set_17 ?_
    obtain ⟨v3, hv3, h⟩ := Option.bind_eq_some_iff.mp h
    refine Y_callV C [.int (1 : Int32)] [] [.int v3.1] hk0 rfl rfl (c_X9_fails hI hk0 hv3) (fun _ h => h) q_cw_yX9_fails q_ml_RX9_94 ⟨q_im_yX9_fails, q_se_yX9_fails⟩ ⟨⟨Nat.le_of_ble_eq_true rfl, Nat.le_of_ble_eq_true rfl⟩, ⟨Nat.zero_le _, Nat.zero_le _⟩, Nat.le_of_ble_eq_true rfl⟩ rfl rfl rfl dX9_set_18 ?_
    cases h
    exact Y_iret C dX9_set_21
  refine Y_aload_n C (pc := 0) 0 0 rfl rfl dX9_set_0 ?_
  refine Y_iload_n C (pc := 1) 2 2 rfl rfl dX9_set_1 ?_
  obtain ⟨v1, hv1, h⟩ := Option.bind_eq_some_iff.mp h
  refine Y_callV C [.int i2] [] [.int v1] hk0 rfl rfl (c_X9_isOne hk0 hv1) (fun _ h => h.elim) q_cw_yX9_isOne q_ml_RX9_103 ⟨q_im_yX9_isOne, q_se_yX9_isOne⟩ ⟨⟨Nat.le_of_ble_eq_true rfl, Nat.le_of_ble_eq_true rfl⟩, ⟨Nat.zero_le _, Nat.zero_le _⟩, Nat.le_of_ble_eq_true rfl⟩ rfl rfl rfl dX9_set_2 ?_
  refine Y_if_eq C (pc := 5) (tgt := 16) dX9_set_5 (by decide) (fun c18 => ?_) (fun c18 => ?_)
  · rw [if_pos c18] at h
    exact Y_sub [0] rfl (hJ16 _ h)
  · rw [if_neg c18] at h
    refine Y_aload_n C (pc := 8) 0 0 rfl rfl dX9_set_8 ?_
    refine Y_iload_n C (pc := 9) 3 3 rfl rfl dX9_set_9 ?_
    obtain ⟨v4, hv4, h⟩ := Option.bind_eq_some_iff.mp h
    refine Y_callV C [.int i3] [] [.int v4] hk0 rfl rfl (c_X9_isOne hk0 hv4) (fun _ h => h.elim) q_cw_yX9_isOne q_ml_RX9_103 ⟨q_im_yX9_isOne, q_se_yX9_isOne⟩ ⟨⟨Nat.le_of_ble_eq_true rfl, Nat.le_of_ble_eq_true rfl⟩, ⟨Nat.zero_le _, Nat.zero_le _⟩, Nat.le_of_ble_eq_true rfl⟩ rfl rfl rfl dX9_set_10 ?_
    refine Y_if_ne C (pc := 13) (tgt := 22) dX9_set_13 (by decide) (fun c17 => ?_) (fun c17 => ?_)
    · rw [if_neg c17] at h
      refine Y_iload_n C (pc := 22) 1 1 rfl rfl dX9_set_22 ?_
      refine Y_iconst C (pc := 23) (v := (0 : Int32)) (by decide) dX9_set_23 ?_
      refine Y_iconst C (pc := 24) (v := (2 : Int32)) (by decide) dX9_set_24 ?_
      obtain ⟨v5, hv5, h⟩ := Option.bind_eq_some_iff.mp h
      refine Y_callS C [.int i1, .int (0 : Int32), .int (2 : Int32)] [] [.int v5] (c_X9_in  hv5) (fun _ h => h.elim) q_cw_yX9_in q_ml_RX9_86 q_st_yX9_in ⟨⟨Nat.le_of_ble_eq_true rfl, Nat.le_of_ble_eq_true rfl⟩, ⟨Nat.zero_le _, Nat.zero_le _⟩, Nat.le_of_ble_eq_true rfl⟩ rfl rfl rfl dX9_set_25 ?_
      refine Y_if_eq C (pc := 28) (tgt := 42) dX9_set_28 (by decide) (fun c16 => ?_) (fun c16 => ?_)
      · rw [if_pos c16] at h
        exact Y_sub [0] rfl (hJ42 _ h)
      · rw [if_neg c16] at h
        refine Y_iload C (pc := 31) 4 rfl dX9_set_31 ?_
        refine Y_iconst C (pc := 33) (v := (0 : Int32)) (by decide) dX9_set_33 ?_
        refine Y_bipush C (pc := 34) (v := (99 : Int32)) (by decide) dX9_set_34 ?_
        obtain ⟨v8, hv8, h⟩ := Option.bind_eq_some_iff.mp h
        refine Y_callS C [.int i4, .int (0 : Int32), .int (99 : Int32)] [] [.int v8] (c_X9_in  hv8) (fun _ h => h.elim) q_cw_yX9_in q_ml_RX9_86 q_st_yX9_in ⟨⟨Nat.le_of_ble_eq_true rfl, Nat.le_of_ble_eq_true rfl⟩, ⟨Nat.zero_le _, Nat.zero_le _⟩, Nat.le_of_ble_eq_true rfl⟩ rfl rfl rfl dX9_set_36 ?_
        refine Y_if_ne C (pc := 39) (tgt := 48) dX9_set_39 (by decide) (fun c15 => ?_) (fun c15 => ?_)
        · rw [if_neg c15] at h
          refine Y_aload_n C (pc := 48) 0 0 rfl rfl dX9_set_48 ?_
          obtain ⟨v9, hv9, h⟩ := Option.bind_eq_some_iff.mp h
          refine Y_callV C [] [] [] hk0 rfl rfl (c_X9_hold hI hk0 hv9) (fun _ h => h) q_cw_yX9_hold q_ml_RX9_97 ⟨q_im_yX9_hold, q_se_yX9_hold⟩ ⟨⟨Nat.le_of_ble_eq_true rfl, Nat.le_of_ble_eq_true rfl⟩, ⟨Nat.zero_le _, Nat.zero_le _⟩, Nat.le_of_ble_eq_true rfl⟩ rfl rfl rfl dX9_set_49 ?_
          refine Y_aload_n C (pc := 52) 0 0 rfl rfl dX9_set_52 ?_
          refine Y_getR C (pc := 53) hk0 q_fi_RX9_7 (by decide) dX9_set_53 ?_
          refine Y_iload_n C (pc := 56) 1 1 rfl rfl dX9_set_56 ?_
          refine Y_iload_n C (pc := 57) 2 2 rfl rfl dX9_set_57 ?_
          refine Y_iload_n C (pc := 58) 3 3 rfl rfl dX9_set_58 ?_
          obtain ⟨v10, hv10, h⟩ := Option.bind_eq_some_iff.mp h
          refine Y_callS C [.int i1, .int i2, .int i3] [.ref (ρ (k0 + 1))] [.int v10, .ref (ρ (k0 + 1))] (c_X9_placeOf  hv10) (fun _ h => h.elim) q_cw_yX9_placeOf q_ml_RX9_90 q_st_yX9_placeOf ⟨⟨Nat.le_of_ble_eq_true rfl, Nat.le_of_ble_eq_true rfl⟩, ⟨Nat.zero_le _, Nat.zero_le _⟩, Nat.le_of_ble_eq_true rfl⟩ rfl rfl rfl dX9_set_59 ?_
          obtain ⟨v11, hv11, h⟩ := Option.bind_eq_some_iff.mp h
          refine Y_iald C (pc := 62) (q_kr_9_0 hk0) hv11 dX9_set_62 ?_
          refine Y_istore C (pc := 63) (lv' := [(5, .int v11), (0, .ref (ρ k0)), (1, .int i1), (2, .int i2), (3, .int i3), (4, .int i4)]) (by decide) rfl dX9_set_63 ?_
          refine Y_aload_n C (pc := 65) 0 1 rfl rfl dX9_set_65 ?_
          refine Y_getR C (pc := 66) hk0 q_fi_RX9_7 (by decide) dX9_set_66 ?_
          refine Y_iload_n C (pc := 69) 1 2 rfl rfl dX9_set_69 ?_
          refine Y_iload_n C (pc := 70) 2 3 rfl rfl dX9_set_70 ?_
          refine Y_iload_n C (pc := 71) 3 4 rfl rfl dX9_set_71 ?_
          obtain ⟨v12, hv12, h⟩ := Option.bind_eq_some_iff.mp h
          refine Y_callS C [.int i1, .int i2, .int i3] [.ref (ρ (k0 + 1))] [.int v12, .ref (ρ (k0 + 1))] (c_X9_placeOf  hv12) (fun _ h => h.elim) q_cw_yX9_placeOf q_ml_RX9_90 q_st_yX9_placeOf ⟨⟨Nat.le_of_ble_eq_true rfl, Nat.le_of_ble_eq_true rfl⟩, ⟨Nat.zero_le _, Nat.zero_le _⟩, Nat.le_of_ble_eq_true rfl⟩ rfl rfl rfl dX9_set_72 ?_
          refine Y_iload C (pc := 75) 5 rfl dX9_set_75 ?_
          obtain ⟨s13, hs13, h⟩ := Option.bind_eq_some_iff.mp h
          refine Y_iast C (pc := 77) hW (q_kr_9_0 hk0) (q_lr_9_0 hk0) hs13 dX9_set_77 ?_
          refine Y_aload_n C (pc := 78) 0 1 rfl rfl dX9_set_78 ?_
          refine Y_iload C (pc := 79) 0 rfl dX9_set_79 ?_
          obtain ⟨v14, hv14, h⟩ := Option.bind_eq_some_iff.mp h
          refine Y_callV C [.int v11] [] [.int v14.1] hk0 rfl rfl (c_X9_ends hI hk0 hv14) (fun _ h => h) q_cw_yX9_ends q_ml_RX9_100 ⟨q_im_yX9_ends, q_se_yX9_ends⟩ ⟨⟨Nat.le_of_ble_eq_true rfl, Nat.le_of_ble_eq_true rfl⟩, ⟨Nat.zero_le _, Nat.zero_le _⟩, Nat.le_of_ble_eq_true rfl⟩ rfl rfl rfl dX9_set_81 ?_
          cases h
          exact Y_iret C dX9_set_84
        · rw [if_pos c15] at h
          exact Y_sub [0] rfl (hJ42 _ h)
    · rw [if_pos c17] at h
      exact Y_sub [0] rfl (hJ16 _ h)

noncomputable def f_X9_get_J16 (k0 : Nat) (sj2 : Sg) : Option (Int32 × Sg) := (f_X9_fails sj2 k0 ((1 : Int32))).bind fun v3 => some (v3.1, v3.2)
noncomputable def f_X9_get (σ : Sg) (k0 : Nat) (i1 : Int32) (i2 : Int32) (i3 : Int32) : Option (Int32 × Sg) := (f_X9_isOne σ k0 i2).bind fun v1 => if v1 = (0 : Int32) then (f_X9_get_J16 k0 σ) else ((f_X9_isOne σ k0 i3).bind fun v4 => if v4 = (0 : Int32) then (f_X9_get_J16 k0 σ) else ((f_X9_in i1 ((0 : Int32)) ((2 : Int32))).bind fun v5 => if v5 = (0 : Int32) then ((f_X9_fails σ k0 ((2 : Int32))).bind fun v6 => some (v6.1, v6.2)) else ((f_X9_placeOf i1 i2 i3).bind fun v7 => (ald σ (k0 + 1) v7).bind fun v8 => (f_X9_tells σ k0 v8).bind fun v9 => some (v9.1, v9.2))))
set_option maxRecDepth 100000 in
set_option maxHeartbeats 4000000 in
theorem c_X9_get {l : Launch} {D : va_G} {cA ρ : Nat → Nat} {σ : Sg} {τ : Tg} {k0 : Nat} {i1 : Int32} {i2 : Int32} {i3 : Int32} (hI : Inj ρ) (hk0 : kd k0 = (0, 9)) {r : Int32 × Sg} (h : f_X9_get σ k0 i1 i2 i3 = some r) : Ct l yX9_get cX9_get 4 (some .int) 2 43 D cA ρ (Aw ρ) [.ref (ρ k0), .int i1, .int i2, .int i3] σ τ (some (.int r.1)) r.2 τ := by
  refine Ct_of (by decide +kernel) (Nat.le_of_ble_eq_true rfl) (fun p e s m args below meth c C => ?_)
  have C : Ctx p l s m args meth c cX9_get RX9 4 (some .int) D cA ρ (Aw ρ) := C
  have hW : Wr ρ (Aw ρ) := ⟨hI, fun k hk => ⟨k, hk, rfl⟩⟩
  unfold f_X9_get at h
  refine Y_sub [0, 1, 2, 3] (lv' := [(0, .ref (ρ k0)), (1, .int i1), (2, .int i2), (3, .int i3)]) rfl ?_
  have hJ16 : ∀ (sj2 : Sg), f_X9_get_J16 k0 sj2 = some r → Y p l e (Rm 2 43) s m args below meth c 4 D cA ρ (Aw ρ) 0 0 (MQ below (QC D cA ρ (Aw ρ) (some (.int r.1)) r.2 τ) args s 0 0 (Aw ρ)) sj2 τ 16 [(0, .ref (ρ k0))] [] := by
    intro sj2 h
    unfold f_X9_get_J16 at h
    refine Y_aload_n C (pc := 16) 0 0 rfl rfl dX9_get_16 ?_
    refine Y_iconst C (pc := 17) (v := (1 : Int32)) (by decide) dX9_get_17 ?_
    obtain ⟨v3, hv3, h⟩ := Option.bind_eq_some_iff.mp h
    refine Y_callV C [.int (1 : Int32)] [] [.int v3.1] hk0 rfl rfl (c_X9_fails hI hk0 hv3) (fun _ h => h) q_cw_yX9_fails q_ml_RX9_94 ⟨q_im_yX9_fails, q_se_yX9_fails⟩ ⟨⟨Nat.le_of_ble_eq_true rfl, Nat.le_of_ble_eq_true rfl⟩, ⟨Nat.zero_le _, Nat.zero_le _⟩, Nat.le_of_ble_eq_true rfl⟩ rfl rfl rfl dX9_get_18 ?_
    cases h
    exact Y_iret C dX9_get_21
  refine Y_aload_n C (pc := 0) 0 0 rfl rfl dX9_get_0 ?_
  refine Y_iload_n C (pc := 1) 2 2 rfl rfl dX9_get_1 ?_
  obtain ⟨v1, hv1, h⟩ := Option.bind_eq_some_iff.mp h
  refine Y_callV C [.int i2] [] [.int v1] hk0 rfl rfl (c_X9_isOne hk0 hv1) (fun _ h => h.elim) q_cw_yX9_isOne q_ml_RX9_103 ⟨q_im_yX9_isOne, q_se_yX9_isOne⟩ ⟨⟨Nat.le_of_ble_eq_true rfl, Nat.le_of_ble_eq_true rfl⟩, ⟨Nat.zero_le _, Nat.zero_le _⟩, Nat.le_of_ble_eq_true rfl⟩ rfl rfl rfl dX9_get_2 ?_
  refine Y_if_eq C (pc := 5) (tgt := 16) dX9_get_5 (by decide) (fun c12 => ?_) (fun c12 => ?_)
  · rw [if_pos c12] at h
    exact Y_sub [0] rfl (hJ16 _ h)
  · rw [if_neg c12] at h
    refine Y_aload_n C (pc := 8) 0 0 rfl rfl dX9_get_8 ?_
    refine Y_iload_n C (pc := 9) 3 3 rfl rfl dX9_get_9 ?_
    obtain ⟨v4, hv4, h⟩ := Option.bind_eq_some_iff.mp h
    refine Y_callV C [.int i3] [] [.int v4] hk0 rfl rfl (c_X9_isOne hk0 hv4) (fun _ h => h.elim) q_cw_yX9_isOne q_ml_RX9_103 ⟨q_im_yX9_isOne, q_se_yX9_isOne⟩ ⟨⟨Nat.le_of_ble_eq_true rfl, Nat.le_of_ble_eq_true rfl⟩, ⟨Nat.zero_le _, Nat.zero_le _⟩, Nat.le_of_ble_eq_true rfl⟩ rfl rfl rfl dX9_get_10 ?_
    refine Y_if_ne C (pc := 13) (tgt := 22) dX9_get_13 (by decide) (fun c11 => ?_) (fun c11 => ?_)
    · rw [if_neg c11] at h
      refine Y_iload_n C (pc := 22) 1 1 rfl rfl dX9_get_22 ?_
      refine Y_iconst C (pc := 23) (v := (0 : Int32)) (by decide) dX9_get_23 ?_
      refine Y_iconst C (pc := 24) (v := (2 : Int32)) (by decide) dX9_get_24 ?_
      obtain ⟨v5, hv5, h⟩ := Option.bind_eq_some_iff.mp h
      refine Y_callS C [.int i1, .int (0 : Int32), .int (2 : Int32)] [] [.int v5] (c_X9_in  hv5) (fun _ h => h.elim) q_cw_yX9_in q_ml_RX9_86 q_st_yX9_in ⟨⟨Nat.le_of_ble_eq_true rfl, Nat.le_of_ble_eq_true rfl⟩, ⟨Nat.zero_le _, Nat.zero_le _⟩, Nat.le_of_ble_eq_true rfl⟩ rfl rfl rfl dX9_get_25 ?_
      refine Y_if_eq C (pc := 28) (tgt := 49) dX9_get_28 (by decide) (fun c10 => ?_) (fun c10 => ?_)
      · rw [if_pos c10] at h
        refine Y_aload_n C (pc := 49) 0 0 rfl rfl dX9_get_49 ?_
        refine Y_iconst C (pc := 50) (v := (2 : Int32)) (by decide) dX9_get_50 ?_
        obtain ⟨v6, hv6, h⟩ := Option.bind_eq_some_iff.mp h
        refine Y_callV C [.int (2 : Int32)] [] [.int v6.1] hk0 rfl rfl (c_X9_fails hI hk0 hv6) (fun _ h => h) q_cw_yX9_fails q_ml_RX9_94 ⟨q_im_yX9_fails, q_se_yX9_fails⟩ ⟨⟨Nat.le_of_ble_eq_true rfl, Nat.le_of_ble_eq_true rfl⟩, ⟨Nat.zero_le _, Nat.zero_le _⟩, Nat.le_of_ble_eq_true rfl⟩ rfl rfl rfl dX9_get_51 ?_
        cases h
        exact Y_iret C dX9_get_54
      · rw [if_neg c10] at h
        refine Y_aload_n C (pc := 31) 0 0 rfl rfl dX9_get_31 ?_
        refine Y_aload_n C (pc := 32) 0 0 rfl rfl dX9_get_32 ?_
        refine Y_getR C (pc := 33) hk0 q_fi_RX9_7 (by decide) dX9_get_33 ?_
        refine Y_iload_n C (pc := 36) 1 1 rfl rfl dX9_get_36 ?_
        refine Y_iload_n C (pc := 37) 2 2 rfl rfl dX9_get_37 ?_
        refine Y_iload_n C (pc := 38) 3 3 rfl rfl dX9_get_38 ?_
        obtain ⟨v7, hv7, h⟩ := Option.bind_eq_some_iff.mp h
        refine Y_callS C [.int i1, .int i2, .int i3] [.ref (ρ (k0 + 1)), .ref (ρ k0)] [.int v7, .ref (ρ (k0 + 1)), .ref (ρ k0)] (c_X9_placeOf  hv7) (fun _ h => h.elim) q_cw_yX9_placeOf q_ml_RX9_90 q_st_yX9_placeOf ⟨⟨Nat.le_of_ble_eq_true rfl, Nat.le_of_ble_eq_true rfl⟩, ⟨Nat.zero_le _, Nat.zero_le _⟩, Nat.le_of_ble_eq_true rfl⟩ rfl rfl rfl dX9_get_39 ?_
        obtain ⟨v8, hv8, h⟩ := Option.bind_eq_some_iff.mp h
        refine Y_iald C (pc := 42) (q_kr_9_0 hk0) hv8 dX9_get_42 ?_
        obtain ⟨v9, hv9, h⟩ := Option.bind_eq_some_iff.mp h
        refine Y_callV C [.int v8] [] [.int v9.1] hk0 rfl rfl (c_X9_tells hI hk0 hv9) (fun _ h => h) q_cw_yX9_tells q_ml_RX9_82 ⟨q_im_yX9_tells, q_se_yX9_tells⟩ ⟨⟨Nat.le_of_ble_eq_true rfl, Nat.le_of_ble_eq_true rfl⟩, ⟨Nat.zero_le _, Nat.zero_le _⟩, Nat.le_of_ble_eq_true rfl⟩ rfl rfl rfl dX9_get_43 ?_
        refine Y_goto C (pc := 46) (tgt := 54) dX9_get_46 (by decide) ?_
        cases h
        exact Y_iret C dX9_get_54
    · rw [if_pos c11] at h
      exact Y_sub [0] rfl (hJ16 _ h)

noncomputable def f_X9_fill_J23 (k0 : Nat) (sj2 : Sg) : Option (Int32 × Sg) := (f_X9_fails sj2 k0 ((1 : Int32))).bind fun v3 => some (v3.1, v3.2)
noncomputable def f_X9_fill_L40 (k0 : Nat) (i1 : Int32) (i3 : Int32) : (Int64 × Int32 × Sg) → Option ((Int64 × Int32 × Sg) ⊕ (Sg)) := fun s6 => (ald s6.2.2 (k0 + 1) (0 : Int32)).bind fun v7 => (ald s6.2.2 (k0 + 1) (0 : Int32)).bind fun v8 => if (v7 * v8) ≤ s6.2.1 then (some (.inr s6.2.2)) else ((lrm (((1103515245 : Int64) * s6.1) + (12345 : Int64)) (2147483648 : Int64)).bind fun v9 => (ald s6.2.2 (k0 + 1) (0 : Int32)).bind fun v10 => (dv s6.2.1 v10).bind fun v11 => (ald s6.2.2 (k0 + 1) (0 : Int32)).bind fun v12 => (rm s6.2.1 v12).bind fun v13 => (f_X9_placeOf i1 v11 v13).bind fun v14 => (ldv v9 (65536 : Int64)).bind fun v15 => (lrm v15 ((Int32.toInt64 i3) + (1 : Int64))).bind fun v16 => (ast s6.2.2 (k0 + 1) v14 (Int64.toInt32 v16)).bind fun s17 => some (.inl (v9, (s6.2.1 + 1), s17)))
noncomputable def f_X9_fill_J212 (k0 : Nat) (j31 : Int32) (j32 : Int32) (j33 : Int32) (j34 : Int32) (j35 : Int32) (sj36 : Sg) : Option ((Int32 × Int32 × Sg) ⊕ (Int32 × Sg)) := (ast sj36 (k0 + 1) j35 j34).bind fun s37 => (ald s37 (k0 + 1) j33).bind fun v38 => some (.inl ((j31 + v38), (j32 + 1), s37))
noncomputable def f_X9_fill_J178 (k0 : Nat) (j25 : Int32) (j26 : Int32) (j27 : Int32) (j28 : Int32) (sj29 : Sg) : Option ((Int32 × Int32 × Sg) ⊕ (Int32 × Sg)) := (ald sj29 (k0 + 1) j27).bind fun v30 => f_X9_fill_J212 k0 j25 j26 j27 v30 j28 sj29
noncomputable def f_X9_fill_L139 (k0 : Nat) (i1 : Int32) (s20 : Int32 × Int32 × Sg) (i4 : Int32) : (Int32 × Int32 × Sg) → Option ((Int32 × Int32 × Sg) ⊕ (Int32 × Sg)) := fun s22 => (ald s22.2.2 (k0 + 1) (0 : Int32)).bind fun v23 => if v23 ≤ s22.2.1 then (some (.inr (s22.1, s22.2.2))) else ((f_X9_placeOf i1 s20.2.1 s22.2.1).bind fun v24 => if i4 = (0 : Int32) then (f_X9_fill_J178 k0 s22.1 s22.2.1 v24 v24 s22.2.2) else (if s22.2.1 ≤ s20.2.1 then (if s20.2.1 = s22.2.1 then (f_X9_fill_J212 k0 s22.1 s22.2.1 v24 ((0 : Int32)) v24 s22.2.2) else ((f_X9_placeOf i1 s22.2.1 s20.2.1).bind fun v39 => (ald s22.2.2 (k0 + 1) v39).bind fun v40 => f_X9_fill_J212 k0 s22.1 s22.2.1 v24 v40 v24 s22.2.2)) else (f_X9_fill_J178 k0 s22.1 s22.2.1 v24 v24 s22.2.2)))
noncomputable def f_X9_fill_L125 (k0 : Nat) (i1 : Int32) (i4 : Int32) : (Int32 × Int32 × Sg) → Option ((Int32 × Int32 × Sg) ⊕ (Int32 × Sg)) := fun s20 => (ald s20.2.2 (k0 + 1) (0 : Int32)).bind fun v21 => if v21 ≤ s20.2.1 then (some (.inr (s20.1, s20.2.2))) else ((lo (f_X9_fill_L139 k0 i1 s20 i4) (s20.1, (0 : Int32), s20.2.2)).bind fun e45 => some (.inl (e45.1, (s20.2.1 + 1), e45.2)))
noncomputable def f_X9_fill (σ : Sg) (k0 : Nat) (i1 : Int32) (i2 : Int32) (i3 : Int32) (i4 : Int32) : Option (Int32 × Sg) := (f_X9_in i1 ((0 : Int32)) ((2 : Int32))).bind fun v1 => if v1 = (0 : Int32) then (f_X9_fill_J23 k0 σ) else (if i2 < (0 : Int32) then (f_X9_fill_J23 k0 σ) else ((f_X9_in i3 ((0 : Int32)) ((99 : Int32))).bind fun v4 => if v4 = (0 : Int32) then (f_X9_fill_J23 k0 σ) else ((f_X9_hold σ k0).bind fun v5 => (lo (f_X9_fill_L40 k0 i1 i3) ((Int32.toInt64 i2), (0 : Int32), v5)).bind fun e19 => (lo (f_X9_fill_L125 k0 i1 i4) ((0 : Int32), (0 : Int32), e19)).bind fun e47 => (f_X9_ends e47.2 k0 e47.1).bind fun v48 => some (v48.1, v48.2))))
set_option maxRecDepth 100000 in
set_option maxHeartbeats 4000000 in
theorem c_X9_fill {l : Launch} {D : va_G} {cA ρ : Nat → Nat} {σ : Sg} {τ : Tg} {k0 : Nat} {i1 : Int32} {i2 : Int32} {i3 : Int32} {i4 : Int32} (hI : Inj ρ) (hk0 : kd k0 = (0, 9)) {r : Int32 × Sg} (h : f_X9_fill σ k0 i1 i2 i3 i4 = some r) : Ct l yX9_fill cX9_fill 11 (some .int) 2 43 D cA ρ (Aw ρ) [.ref (ρ k0), .int i1, .int i2, .int i3, .int i4] σ τ (some (.int r.1)) r.2 τ := by
  refine Ct_of (by decide +kernel) (Nat.le_of_ble_eq_true rfl) (fun p e s m args below meth c C => ?_)
  have C : Ctx p l s m args meth c cX9_fill RX9 11 (some .int) D cA ρ (Aw ρ) := C
  have hW : Wr ρ (Aw ρ) := ⟨hI, fun k hk => ⟨k, hk, rfl⟩⟩
  unfold f_X9_fill at h
  refine Y_sub [0, 1, 2, 3, 4] (lv' := [(0, .ref (ρ k0)), (1, .int i1), (2, .int i2), (3, .int i3), (4, .int i4)]) rfl ?_
  have hJ23 : ∀ (sj2 : Sg), f_X9_fill_J23 k0 sj2 = some r → Y p l e (Rm 2 43) s m args below meth c 11 D cA ρ (Aw ρ) 0 0 (MQ below (QC D cA ρ (Aw ρ) (some (.int r.1)) r.2 τ) args s 0 0 (Aw ρ)) sj2 τ 23 [(0, .ref (ρ k0))] [] := by
    intro sj2 h
    unfold f_X9_fill_J23 at h
    refine Y_aload_n C (pc := 23) 0 0 rfl rfl dX9_fill_23 ?_
    refine Y_iconst C (pc := 24) (v := (1 : Int32)) (by decide) dX9_fill_24 ?_
    obtain ⟨v3, hv3, h⟩ := Option.bind_eq_some_iff.mp h
    refine Y_callV C [.int (1 : Int32)] [] [.int v3.1] hk0 rfl rfl (c_X9_fails hI hk0 hv3) (fun _ h => h) q_cw_yX9_fails q_ml_RX9_94 ⟨q_im_yX9_fails, q_se_yX9_fails⟩ ⟨⟨Nat.le_of_ble_eq_true rfl, Nat.le_of_ble_eq_true rfl⟩, ⟨Nat.zero_le _, Nat.zero_le _⟩, Nat.le_of_ble_eq_true rfl⟩ rfl rfl rfl dX9_fill_25 ?_
    cases h
    exact Y_iret C dX9_fill_28
  refine Y_iload_n C (pc := 0) 1 1 rfl rfl dX9_fill_0 ?_
  refine Y_iconst C (pc := 1) (v := (0 : Int32)) (by decide) dX9_fill_1 ?_
  refine Y_iconst C (pc := 2) (v := (2 : Int32)) (by decide) dX9_fill_2 ?_
  obtain ⟨v1, hv1, h⟩ := Option.bind_eq_some_iff.mp h
  refine Y_callS C [.int i1, .int (0 : Int32), .int (2 : Int32)] [] [.int v1] (c_X9_in  hv1) (fun _ h => h.elim) q_cw_yX9_in q_ml_RX9_86 q_st_yX9_in ⟨⟨Nat.le_of_ble_eq_true rfl, Nat.le_of_ble_eq_true rfl⟩, ⟨Nat.zero_le _, Nat.zero_le _⟩, Nat.le_of_ble_eq_true rfl⟩ rfl rfl rfl dX9_fill_3 ?_
  refine Y_if_eq C (pc := 6) (tgt := 23) dX9_fill_6 (by decide) (fun c51 => ?_) (fun c51 => ?_)
  · rw [if_pos c51] at h
    exact Y_sub [0] rfl (hJ23 _ h)
  · rw [if_neg c51] at h
    refine Y_iload_n C (pc := 9) 2 2 rfl rfl dX9_fill_9 ?_
    refine Y_if_lt C (pc := 10) (tgt := 23) dX9_fill_10 (by decide) (fun c50 => ?_) (fun c50 => ?_)
    · rw [if_pos c50] at h
      exact Y_sub [0] rfl (hJ23 _ h)
    · rw [if_neg c50] at h
      refine Y_iload_n C (pc := 13) 3 3 rfl rfl dX9_fill_13 ?_
      refine Y_iconst C (pc := 14) (v := (0 : Int32)) (by decide) dX9_fill_14 ?_
      refine Y_bipush C (pc := 15) (v := (99 : Int32)) (by decide) dX9_fill_15 ?_
      obtain ⟨v4, hv4, h⟩ := Option.bind_eq_some_iff.mp h
      refine Y_callS C [.int i3, .int (0 : Int32), .int (99 : Int32)] [] [.int v4] (c_X9_in  hv4) (fun _ h => h.elim) q_cw_yX9_in q_ml_RX9_86 q_st_yX9_in ⟨⟨Nat.le_of_ble_eq_true rfl, Nat.le_of_ble_eq_true rfl⟩, ⟨Nat.zero_le _, Nat.zero_le _⟩, Nat.le_of_ble_eq_true rfl⟩ rfl rfl rfl dX9_fill_17 ?_
      refine Y_if_ne C (pc := 20) (tgt := 29) dX9_fill_20 (by decide) (fun c49 => ?_) (fun c49 => ?_)
      · rw [if_neg c49] at h
        refine Y_aload_n C (pc := 29) 0 0 rfl rfl dX9_fill_29 ?_
        obtain ⟨v5, hv5, h⟩ := Option.bind_eq_some_iff.mp h
        refine Y_callV C [] [] [] hk0 rfl rfl (c_X9_hold hI hk0 hv5) (fun _ h => h) q_cw_yX9_hold q_ml_RX9_97 ⟨q_im_yX9_hold, q_se_yX9_hold⟩ ⟨⟨Nat.le_of_ble_eq_true rfl, Nat.le_of_ble_eq_true rfl⟩, ⟨Nat.zero_le _, Nat.zero_le _⟩, Nat.le_of_ble_eq_true rfl⟩ rfl rfl rfl dX9_fill_30 ?_
        refine Y_iload_n C (pc := 33) 2 2 rfl rfl dX9_fill_33 ?_
        refine Y_i2l C (pc := 34) dX9_fill_34 ?_
        refine Y_lstore C (pc := 35) (lv' := [(5, .long (Int32.toInt64 i2)), (0, .ref (ρ k0)), (1, .int i1), (2, .int i2), (3, .int i3), (4, .int i4)]) (by decide) rfl dX9_fill_35 ?_
        refine Y_iconst C (pc := 37) (v := (0 : Int32)) (by decide) dX9_fill_37 ?_
        refine Y_istore C (pc := 38) (lv' := [(7, .int (0 : Int32)), (5, .long (Int32.toInt64 i2)), (0, .ref (ρ k0)), (1, .int i1), (2, .int i2), (3, .int i3), (4, .int i4)]) (by decide) rfl dX9_fill_38 ?_
        obtain ⟨e19, he19, h⟩ := Option.bind_eq_some_iff.mp h
        refine Y_sub [2, 3, 5, 6, 1, 0] (lv' := [(0, .ref (ρ k0)), (1, .int i1), (3, .int i3), (4, .int i4), (5, .long (Int32.toInt64 i2)), (7, .int (0 : Int32))]) rfl ?_
        refine lo_rule (f := (f_X9_fill_L40 k0 i1 i3)) (YS := fun s6 => Y p l e (Rm 2 43) s m args below meth c 11 D cA ρ (Aw ρ) 0 0 (MQ below (QC D cA ρ (Aw ρ) (some (.int r.1)) r.2 τ) args s 0 0 (Aw ρ)) s6.2.2 τ 40 [(0, .ref (ρ k0)), (1, .int i1), (3, .int i3), (4, .int i4), (5, .long s6.1), (7, .int s6.2.1)] []) (YE := fun e19 => Y p l e (Rm 2 43) s m args below meth c 11 D cA ρ (Aw ρ) 0 0 (MQ below (QC D cA ρ (Aw ρ) (some (.int r.1)) r.2 τ) args s 0 0 (Aw ρ)) e19 τ 119 [(0, .ref (ρ k0)), (1, .int i1), (4, .int i4)] []) ?_ he19 ?_
        · intro s6 x h hLp hE
          unfold f_X9_fill_L40 at h
          refine Y_iload C (pc := 40) 5 rfl dX9_fill_40 ?_
          refine Y_aload_n C (pc := 42) 0 0 rfl rfl dX9_fill_42 ?_
          refine Y_getR C (pc := 43) hk0 q_fi_RX9_7 (by decide) dX9_fill_43 ?_
          refine Y_iconst C (pc := 46) (v := (0 : Int32)) (by decide) dX9_fill_46 ?_
          obtain ⟨v7, hv7, h⟩ := Option.bind_eq_some_iff.mp h
          refine Y_iald C (pc := 47) (q_kr_9_0 hk0) hv7 dX9_fill_47 ?_
          refine Y_aload_n C (pc := 48) 0 0 rfl rfl dX9_fill_48 ?_
          refine Y_getR C (pc := 49) hk0 q_fi_RX9_7 (by decide) dX9_fill_49 ?_
          refine Y_iconst C (pc := 52) (v := (0 : Int32)) (by decide) dX9_fill_52 ?_
          obtain ⟨v8, hv8, h⟩ := Option.bind_eq_some_iff.mp h
          refine Y_iald C (pc := 53) (q_kr_9_0 hk0) hv8 dX9_fill_53 ?_
          refine Y_imul C (pc := 54) dX9_fill_54 ?_
          refine Y_icmp_ge C (pc := 55) (tgt := 119) dX9_fill_55 (by decide) (fun c18 => ?_) (fun c18 => ?_)
          · rw [if_pos c18] at h
            have h := Option.some.inj h
            exact Y_sub [0, 1, 3] rfl (hE _ h.symm)
          · rw [if_neg c18] at h
            refine Y_ldc2 C (pc := 58) q_ct_RX9_107 dX9_fill_58 ?_
            refine Y_lload C (pc := 61) 4 rfl dX9_fill_61 ?_
            refine Y_lmul C (pc := 63) dX9_fill_63 ?_
            refine Y_ldc2 C (pc := 64) q_ct_RX9_109 dX9_fill_64 ?_
            refine Y_ladd C (pc := 67) dX9_fill_67 ?_
            refine Y_ldc2 C (pc := 68) q_ct_RX9_111 dX9_fill_68 ?_
            obtain ⟨v9, hv9, h⟩ := Option.bind_eq_some_iff.mp h
            refine Y_lrem' C (pc := 71) hv9 dX9_fill_71 ?_
            refine Y_lstore C (pc := 72) (lv' := [(5, .long v9), (0, .ref (ρ k0)), (1, .int i1), (3, .int i3), (4, .int i4), (7, .int s6.2.1)]) (by decide) rfl dX9_fill_72 ?_
            refine Y_aload_n C (pc := 74) 0 1 rfl rfl dX9_fill_74 ?_
            refine Y_getR C (pc := 75) hk0 q_fi_RX9_7 (by decide) dX9_fill_75 ?_
            refine Y_iload_n C (pc := 78) 1 2 rfl rfl dX9_fill_78 ?_
            refine Y_iload C (pc := 79) 5 rfl dX9_fill_79 ?_
            refine Y_aload_n C (pc := 81) 0 1 rfl rfl dX9_fill_81 ?_
            refine Y_getR C (pc := 82) hk0 q_fi_RX9_7 (by decide) dX9_fill_82 ?_
            refine Y_iconst C (pc := 85) (v := (0 : Int32)) (by decide) dX9_fill_85 ?_
            obtain ⟨v10, hv10, h⟩ := Option.bind_eq_some_iff.mp h
            refine Y_iald C (pc := 86) (q_kr_9_0 hk0) hv10 dX9_fill_86 ?_
            obtain ⟨v11, hv11, h⟩ := Option.bind_eq_some_iff.mp h
            refine Y_idiv C (pc := 87) hv11 dX9_fill_87 ?_
            refine Y_iload C (pc := 88) 5 rfl dX9_fill_88 ?_
            refine Y_aload_n C (pc := 90) 0 1 rfl rfl dX9_fill_90 ?_
            refine Y_getR C (pc := 91) hk0 q_fi_RX9_7 (by decide) dX9_fill_91 ?_
            refine Y_iconst C (pc := 94) (v := (0 : Int32)) (by decide) dX9_fill_94 ?_
            obtain ⟨v12, hv12, h⟩ := Option.bind_eq_some_iff.mp h
            refine Y_iald C (pc := 95) (q_kr_9_0 hk0) hv12 dX9_fill_95 ?_
            obtain ⟨v13, hv13, h⟩ := Option.bind_eq_some_iff.mp h
            refine Y_irem C (pc := 96) hv13 dX9_fill_96 ?_
            obtain ⟨v14, hv14, h⟩ := Option.bind_eq_some_iff.mp h
            refine Y_callS C [.int i1, .int v11, .int v13] [.ref (ρ (k0 + 1))] [.int v14, .ref (ρ (k0 + 1))] (c_X9_placeOf  hv14) (fun _ h => h.elim) q_cw_yX9_placeOf q_ml_RX9_90 q_st_yX9_placeOf ⟨⟨Nat.le_of_ble_eq_true rfl, Nat.le_of_ble_eq_true rfl⟩, ⟨Nat.zero_le _, Nat.zero_le _⟩, Nat.le_of_ble_eq_true rfl⟩ rfl rfl rfl dX9_fill_97 ?_
            refine Y_lload C (pc := 100) 0 rfl dX9_fill_100 ?_
            refine Y_ldc2 C (pc := 102) q_ct_RX9_113 dX9_fill_102 ?_
            obtain ⟨v15, hv15, h⟩ := Option.bind_eq_some_iff.mp h
            refine Y_ldiv' C (pc := 105) hv15 dX9_fill_105 ?_
            refine Y_iload_n C (pc := 106) 3 3 rfl rfl dX9_fill_106 ?_
            refine Y_i2l C (pc := 107) dX9_fill_107 ?_
            refine Y_lconst C (pc := 108) (v := (1 : Int64)) (by decide) dX9_fill_108 ?_
            refine Y_ladd C (pc := 109) dX9_fill_109 ?_
            obtain ⟨v16, hv16, h⟩ := Option.bind_eq_some_iff.mp h
            refine Y_lrem' C (pc := 110) hv16 dX9_fill_110 ?_
            refine Y_l2i C (pc := 111) dX9_fill_111 ?_
            obtain ⟨s17, hs17, h⟩ := Option.bind_eq_some_iff.mp h
            refine Y_iast C (pc := 112) hW (q_kr_9_0 hk0) (q_lr_9_0 hk0) hs17 dX9_fill_112 ?_
            refine Y_iinc C (pc := 113) (v := (s6.2.1 + 1)) (lv' := [(7, .int (s6.2.1 + 1)), (5, .long v9), (0, .ref (ρ k0)), (1, .int i1), (3, .int i3), (4, .int i4)]) 5 rfl (congrArg (fun z => s6.2.1 + z) (by decide : Int32.ofInt (1) = (1))) (by decide) rfl dX9_fill_113 ?_
            refine Y_goto C (pc := 116) (tgt := 40) dX9_fill_116 (by decide) ?_
            have h := Option.some.inj h
            exact Y_sub [2, 3, 4, 5, 1, 0] rfl (hLp _ h.symm)
        · refine Y_iconst C (pc := 119) (v := (0 : Int32)) (by decide) dX9_fill_119 ?_
          refine Y_istore C (pc := 120) (lv' := [(7, .int (0 : Int32)), (0, .ref (ρ k0)), (1, .int i1), (4, .int i4)]) (by decide) rfl dX9_fill_120 ?_
          refine Y_iconst C (pc := 122) (v := (0 : Int32)) (by decide) dX9_fill_122 ?_
          refine Y_istore C (pc := 123) (lv' := [(8, .int (0 : Int32)), (7, .int (0 : Int32)), (0, .ref (ρ k0)), (1, .int i1), (4, .int i4)]) (by decide) rfl dX9_fill_123 ?_
          obtain ⟨e47, he47, h⟩ := Option.bind_eq_some_iff.mp h
          refine Y_sub [2, 3, 4, 1, 0] (lv' := [(0, .ref (ρ k0)), (1, .int i1), (4, .int i4), (7, .int (0 : Int32)), (8, .int (0 : Int32))]) rfl ?_
          refine lo_rule (f := (f_X9_fill_L125 k0 i1 i4)) (YS := fun s20 => Y p l e (Rm 2 43) s m args below meth c 11 D cA ρ (Aw ρ) 0 0 (MQ below (QC D cA ρ (Aw ρ) (some (.int r.1)) r.2 τ) args s 0 0 (Aw ρ)) s20.2.2 τ 125 [(0, .ref (ρ k0)), (1, .int i1), (4, .int i4), (7, .int s20.1), (8, .int s20.2.1)] []) (YE := fun e47 => Y p l e (Rm 2 43) s m args below meth c 11 D cA ρ (Aw ρ) 0 0 (MQ below (QC D cA ρ (Aw ρ) (some (.int r.1)) r.2 τ) args s 0 0 (Aw ρ)) e47.2 τ 237 [(0, .ref (ρ k0)), (7, .int e47.1)] []) ?_ he47 ?_
          · intro s20 x h hLp hE
            unfold f_X9_fill_L125 at h
            refine Y_iload C (pc := 125) 4 rfl dX9_fill_125 ?_
            refine Y_aload_n C (pc := 127) 0 0 rfl rfl dX9_fill_127 ?_
            refine Y_getR C (pc := 128) hk0 q_fi_RX9_7 (by decide) dX9_fill_128 ?_
            refine Y_iconst C (pc := 131) (v := (0 : Int32)) (by decide) dX9_fill_131 ?_
            obtain ⟨v21, hv21, h⟩ := Option.bind_eq_some_iff.mp h
            refine Y_iald C (pc := 132) (q_kr_9_0 hk0) hv21 dX9_fill_132 ?_
            refine Y_icmp_ge C (pc := 133) (tgt := 237) dX9_fill_133 (by decide) (fun c46 => ?_) (fun c46 => ?_)
            · rw [if_pos c46] at h
              have h := Option.some.inj h
              exact Y_sub [0, 3] rfl (hE _ h.symm)
            · rw [if_neg c46] at h
              refine Y_iconst C (pc := 136) (v := (0 : Int32)) (by decide) dX9_fill_136 ?_
              refine Y_istore C (pc := 137) (lv' := [(9, .int (0 : Int32)), (0, .ref (ρ k0)), (1, .int i1), (4, .int i4), (7, .int s20.1), (8, .int s20.2.1)]) (by decide) rfl dX9_fill_137 ?_
              obtain ⟨e45, he45, h⟩ := Option.bind_eq_some_iff.mp h
              refine Y_sub [1, 2, 3, 4, 5, 0] (lv' := [(0, .ref (ρ k0)), (1, .int i1), (4, .int i4), (7, .int s20.1), (8, .int s20.2.1), (9, .int (0 : Int32))]) rfl ?_
              refine lo_rule (f := (f_X9_fill_L139 k0 i1 s20 i4)) (YS := fun s22 => Y p l e (Rm 2 43) s m args below meth c 11 D cA ρ (Aw ρ) 0 0 (MQ below (QC D cA ρ (Aw ρ) (some (.int r.1)) r.2 τ) args s 0 0 (Aw ρ)) s22.2.2 τ 139 [(0, .ref (ρ k0)), (1, .int i1), (4, .int i4), (7, .int s22.1), (8, .int s20.2.1), (9, .int s22.2.1)] []) (YE := fun e45 => Y p l e (Rm 2 43) s m args below meth c 11 D cA ρ (Aw ρ) 0 0 (MQ below (QC D cA ρ (Aw ρ) (some (.int r.1)) r.2 τ) args s 0 0 (Aw ρ)) e45.2 τ 231 [(0, .ref (ρ k0)), (1, .int i1), (4, .int i4), (7, .int e45.1), (8, .int s20.2.1)] []) ?_ he45 ?_
              · intro s22 x h hLp hE
                unfold f_X9_fill_L139 at h
                have hJ212 : ∀ (j31 : Int32) (j32 : Int32) (j33 : Int32) (j34 : Int32) (j35 : Int32) (sj36 : Sg), f_X9_fill_J212 k0 j31 j32 j33 j34 j35 sj36 = some x → Y p l e (Rm 2 43) s m args below meth c 11 D cA ρ (Aw ρ) 0 0 (MQ below (QC D cA ρ (Aw ρ) (some (.int r.1)) r.2 τ) args s 0 0 (Aw ρ)) sj36 τ 212 [(0, .ref (ρ k0)), (1, .int i1), (4, .int i4), (7, .int j31), (8, .int s20.2.1), (9, .int j32), (10, .int j33)] [.int j34, .int j35, .ref (ρ (k0 + 1))] := by
                  intro j31 j32 j33 j34 j35 sj36 h
                  unfold f_X9_fill_J212 at h
                  obtain ⟨s37, hs37, h⟩ := Option.bind_eq_some_iff.mp h
                  refine Y_iast C (pc := 212) hW (q_kr_9_0 hk0) (q_lr_9_0 hk0) hs37 dX9_fill_212 ?_
                  refine Y_iload C (pc := 213) 3 rfl dX9_fill_213 ?_
                  refine Y_aload_n C (pc := 215) 0 0 rfl rfl dX9_fill_215 ?_
                  refine Y_getR C (pc := 216) hk0 q_fi_RX9_7 (by decide) dX9_fill_216 ?_
                  refine Y_iload C (pc := 219) 6 rfl dX9_fill_219 ?_
                  obtain ⟨v38, hv38, h⟩ := Option.bind_eq_some_iff.mp h
                  refine Y_iald C (pc := 221) (q_kr_9_0 hk0) hv38 dX9_fill_221 ?_
                  refine Y_iadd C (pc := 222) dX9_fill_222 ?_
                  refine Y_istore C (pc := 223) (lv' := [(7, .int (j31 + v38)), (0, .ref (ρ k0)), (1, .int i1), (4, .int i4), (8, .int s20.2.1), (9, .int j32), (10, .int j33)]) (by decide) rfl dX9_fill_223 ?_
                  refine Y_iinc C (pc := 225) (v := (j32 + 1)) (lv' := [(9, .int (j32 + 1)), (7, .int (j31 + v38)), (0, .ref (ρ k0)), (1, .int i1), (4, .int i4), (8, .int s20.2.1), (10, .int j33)]) 5 rfl (congrArg (fun z => j32 + z) (by decide : Int32.ofInt (1) = (1))) (by decide) rfl dX9_fill_225 ?_
                  refine Y_goto C (pc := 228) (tgt := 139) dX9_fill_228 (by decide) ?_
                  have h := Option.some.inj h
                  exact Y_sub [2, 3, 4, 1, 5, 0] rfl (hLp _ h.symm)
                have hJ178 : ∀ (j25 : Int32) (j26 : Int32) (j27 : Int32) (j28 : Int32) (sj29 : Sg), f_X9_fill_J178 k0 j25 j26 j27 j28 sj29 = some x → Y p l e (Rm 2 43) s m args below meth c 11 D cA ρ (Aw ρ) 0 0 (MQ below (QC D cA ρ (Aw ρ) (some (.int r.1)) r.2 τ) args s 0 0 (Aw ρ)) sj29 τ 178 [(0, .ref (ρ k0)), (1, .int i1), (4, .int i4), (7, .int j25), (8, .int s20.2.1), (9, .int j26), (10, .int j27)] [.int j28, .ref (ρ (k0 + 1))] := by
                  intro j25 j26 j27 j28 sj29 h
                  unfold f_X9_fill_J178 at h
                  refine Y_aload_n C (pc := 178) 0 0 rfl rfl dX9_fill_178 ?_
                  refine Y_getR C (pc := 179) hk0 q_fi_RX9_7 (by decide) dX9_fill_179 ?_
                  refine Y_iload C (pc := 182) 6 rfl dX9_fill_182 ?_
                  obtain ⟨v30, hv30, h⟩ := Option.bind_eq_some_iff.mp h
                  refine Y_iald C (pc := 184) (q_kr_9_0 hk0) hv30 dX9_fill_184 ?_
                  refine Y_goto C (pc := 185) (tgt := 212) dX9_fill_185 (by decide) ?_
                  exact Y_sub [0, 1, 2, 3, 4, 5, 6] rfl (hJ212 _ _ _ _ _ _ h)
                refine Y_iload C (pc := 139) 5 rfl dX9_fill_139 ?_
                refine Y_aload_n C (pc := 141) 0 0 rfl rfl dX9_fill_141 ?_
                refine Y_getR C (pc := 142) hk0 q_fi_RX9_7 (by decide) dX9_fill_142 ?_
                refine Y_iconst C (pc := 145) (v := (0 : Int32)) (by decide) dX9_fill_145 ?_
                obtain ⟨v23, hv23, h⟩ := Option.bind_eq_some_iff.mp h
                refine Y_iald C (pc := 146) (q_kr_9_0 hk0) hv23 dX9_fill_146 ?_
                refine Y_icmp_ge C (pc := 147) (tgt := 231) dX9_fill_147 (by decide) (fun c44 => ?_) (fun c44 => ?_)
                · rw [if_pos c44] at h
                  have h := Option.some.inj h
                  exact Y_sub [0, 1, 2, 3, 4] rfl (hE _ h.symm)
                · rw [if_neg c44] at h
                  refine Y_iload_n C (pc := 150) 1 1 rfl rfl dX9_fill_150 ?_
                  refine Y_iload C (pc := 151) 4 rfl dX9_fill_151 ?_
                  refine Y_iload C (pc := 153) 5 rfl dX9_fill_153 ?_
                  obtain ⟨v24, hv24, h⟩ := Option.bind_eq_some_iff.mp h
                  refine Y_callS C [.int i1, .int s20.2.1, .int s22.2.1] [] [.int v24] (c_X9_placeOf  hv24) (fun _ h => h.elim) q_cw_yX9_placeOf q_ml_RX9_90 q_st_yX9_placeOf ⟨⟨Nat.le_of_ble_eq_true rfl, Nat.le_of_ble_eq_true rfl⟩, ⟨Nat.zero_le _, Nat.zero_le _⟩, Nat.le_of_ble_eq_true rfl⟩ rfl rfl rfl dX9_fill_155 ?_
                  refine Y_istore C (pc := 158) (lv' := [(10, .int v24), (0, .ref (ρ k0)), (1, .int i1), (4, .int i4), (7, .int s22.1), (8, .int s20.2.1), (9, .int s22.2.1)]) (by decide) rfl dX9_fill_158 ?_
                  refine Y_aload_n C (pc := 160) 0 1 rfl rfl dX9_fill_160 ?_
                  refine Y_getR C (pc := 161) hk0 q_fi_RX9_7 (by decide) dX9_fill_161 ?_
                  refine Y_iload C (pc := 164) 0 rfl dX9_fill_164 ?_
                  refine Y_iload C (pc := 166) 3 rfl dX9_fill_166 ?_
                  refine Y_if_eq C (pc := 168) (tgt := 178) dX9_fill_168 (by decide) (fun c43 => ?_) (fun c43 => ?_)
                  · rw [if_pos c43] at h
                    exact Y_sub [1, 2, 3, 4, 5, 6, 0] rfl (hJ178 _ _ _ _ _ h)
                  · rw [if_neg c43] at h
                    refine Y_iload C (pc := 171) 6 rfl dX9_fill_171 ?_
                    refine Y_iload C (pc := 173) 5 rfl dX9_fill_173 ?_
                    refine Y_icmp_le C (pc := 175) (tgt := 188) dX9_fill_175 (by decide) (fun c42 => ?_) (fun c42 => ?_)
                    · rw [if_pos c42] at h
                      refine Y_iload C (pc := 188) 5 rfl dX9_fill_188 ?_
                      refine Y_iload C (pc := 190) 6 rfl dX9_fill_190 ?_
                      refine Y_icmp_ne C (pc := 192) (tgt := 199) dX9_fill_192 (by decide) (fun c41 => ?_) (fun c41 => ?_)
                      · rw [if_neg c41] at h
                        refine Y_aload_n C (pc := 199) 0 1 rfl rfl dX9_fill_199 ?_
                        refine Y_getR C (pc := 200) hk0 q_fi_RX9_7 (by decide) dX9_fill_200 ?_
                        refine Y_iload_n C (pc := 203) 1 2 rfl rfl dX9_fill_203 ?_
                        refine Y_iload C (pc := 204) 6 rfl dX9_fill_204 ?_
                        refine Y_iload C (pc := 206) 5 rfl dX9_fill_206 ?_
                        obtain ⟨v39, hv39, h⟩ := Option.bind_eq_some_iff.mp h
                        refine Y_callS C [.int i1, .int s22.2.1, .int s20.2.1] [.ref (ρ (k0 + 1)), .int v24, .ref (ρ (k0 + 1))] [.int v39, .ref (ρ (k0 + 1)), .int v24, .ref (ρ (k0 + 1))] (c_X9_placeOf  hv39) (fun _ h => h.elim) q_cw_yX9_placeOf q_ml_RX9_90 q_st_yX9_placeOf ⟨⟨Nat.le_of_ble_eq_true rfl, Nat.le_of_ble_eq_true rfl⟩, ⟨Nat.zero_le _, Nat.zero_le _⟩, Nat.le_of_ble_eq_true rfl⟩ rfl rfl rfl dX9_fill_208 ?_
                        obtain ⟨v40, hv40, h⟩ := Option.bind_eq_some_iff.mp h
                        refine Y_iald C (pc := 211) (q_kr_9_0 hk0) hv40 dX9_fill_211 ?_
                        exact Y_sub [1, 2, 3, 4, 5, 6, 0] rfl (hJ212 _ _ _ _ _ _ h)
                      · rw [if_pos c41] at h
                        refine Y_iconst C (pc := 195) (v := (0 : Int32)) (by decide) dX9_fill_195 ?_
                        refine Y_goto C (pc := 196) (tgt := 212) dX9_fill_196 (by decide) ?_
                        exact Y_sub [1, 2, 3, 4, 5, 6, 0] rfl (hJ212 _ _ _ _ _ _ h)
                    · rw [if_neg c42] at h
                      exact Y_sub [1, 2, 3, 4, 5, 6, 0] rfl (hJ178 _ _ _ _ _ h)
              · refine Y_iinc C (pc := 231) (v := (s20.2.1 + 1)) (lv' := [(8, .int (s20.2.1 + 1)), (0, .ref (ρ k0)), (1, .int i1), (4, .int i4), (7, .int e45.1)]) 4 rfl (congrArg (fun z => s20.2.1 + z) (by decide : Int32.ofInt (1) = (1))) (by decide) rfl dX9_fill_231 ?_
                refine Y_goto C (pc := 234) (tgt := 125) dX9_fill_234 (by decide) ?_
                have h := Option.some.inj h
                exact Y_sub [1, 2, 3, 4, 0] rfl (hLp _ h.symm)
          · refine Y_aload_n C (pc := 237) 0 0 rfl rfl dX9_fill_237 ?_
            refine Y_iload C (pc := 238) 1 rfl dX9_fill_238 ?_
            obtain ⟨v48, hv48, h⟩ := Option.bind_eq_some_iff.mp h
            refine Y_callV C [.int e47.1] [] [.int v48.1] hk0 rfl rfl (c_X9_ends hI hk0 hv48) (fun _ h => h) q_cw_yX9_ends q_ml_RX9_100 ⟨q_im_yX9_ends, q_se_yX9_ends⟩ ⟨⟨Nat.le_of_ble_eq_true rfl, Nat.le_of_ble_eq_true rfl⟩, ⟨Nat.zero_le _, Nat.zero_le _⟩, Nat.le_of_ble_eq_true rfl⟩ rfl rfl rfl dX9_fill_240 ?_
            cases h
            exact Y_iret C dX9_fill_243
      · rw [if_pos c49] at h
        exact Y_sub [0] rfl (hJ23 _ h)

noncomputable def f_X9_takes_L2 (k0 : Nat) : (Int32 × Sg) → Option ((Int32 × Sg) ⊕ (Sg)) := fun s1 => (ald s1.2 (k0 + 1) (0 : Int32)).bind fun v2 => if v2 ≤ s1.1 then (some (.inr s1.2)) else ((ald s1.2 (k0 + 1) ((109 : Int32) + s1.1)).bind fun v3 => (ast s1.2 (k0 + 5) s1.1 v3).bind fun s4 => some (.inl ((s1.1 + 1), s4)))
noncomputable def f_X9_takes (σ : Sg) (k0 : Nat) : Option (Sg) := (lo (f_X9_takes_L2 k0) ((0 : Int32), σ)).bind fun e6 => some e6
set_option maxRecDepth 100000 in
set_option maxHeartbeats 4000000 in
theorem c_X9_takes {l : Launch} {D : va_G} {cA ρ : Nat → Nat} {σ : Sg} {τ : Tg} {k0 : Nat} (hI : Inj ρ) (hk0 : kd k0 = (0, 9)) {r : Sg} (h : f_X9_takes σ k0 = some r) : Ct l yX9_takes cX9_takes 2 none 0 0 D cA ρ (Aw ρ) [.ref (ρ k0)] σ τ none r τ := by
  refine Ct_of (by decide +kernel) (Nat.le_of_ble_eq_true rfl) (fun p e s m args below meth c C => ?_)
  have C : Ctx p l s m args meth c cX9_takes RX9 2 none D cA ρ (Aw ρ) := C
  have hW : Wr ρ (Aw ρ) := ⟨hI, fun k hk => ⟨k, hk, rfl⟩⟩
  unfold f_X9_takes at h
  refine Y_sub [0] (lv' := [(0, .ref (ρ k0))]) rfl ?_
  refine Y_iconst C (pc := 0) (v := (0 : Int32)) (by decide) dX9_takes_0 ?_
  refine Y_istore_n C (pc := 1) (lv' := [(1, .int (0 : Int32)), (0, .ref (ρ k0))]) 1 rfl (by decide) rfl dX9_takes_1 ?_
  obtain ⟨e6, he6, h⟩ := Option.bind_eq_some_iff.mp h
  refine Y_sub [1, 0] (lv' := [(0, .ref (ρ k0)), (1, .int (0 : Int32))]) rfl ?_
  refine lo_rule (f := (f_X9_takes_L2 k0)) (YS := fun s1 => Y p l e (Rm 0 0) s m args below meth c 2 D cA ρ (Aw ρ) 0 0 (MQ below (QC D cA ρ (Aw ρ) none r τ) args s 0 0 (Aw ρ)) s1.2 τ 2 [(0, .ref (ρ k0)), (1, .int s1.1)] []) (YE := fun e6 => Y p l e (Rm 0 0) s m args below meth c 2 D cA ρ (Aw ρ) 0 0 (MQ below (QC D cA ρ (Aw ρ) none r τ) args s 0 0 (Aw ρ)) e6 τ 33 [] []) ?_ he6 ?_
  · intro s1 x h hLp hE
    unfold f_X9_takes_L2 at h
    refine Y_iload_n C (pc := 2) 1 1 rfl rfl dX9_takes_2 ?_
    refine Y_aload_n C (pc := 3) 0 0 rfl rfl dX9_takes_3 ?_
    refine Y_getR C (pc := 4) hk0 q_fi_RX9_7 (by decide) dX9_takes_4 ?_
    refine Y_iconst C (pc := 7) (v := (0 : Int32)) (by decide) dX9_takes_7 ?_
    obtain ⟨v2, hv2, h⟩ := Option.bind_eq_some_iff.mp h
    refine Y_iald C (pc := 8) (q_kr_9_0 hk0) hv2 dX9_takes_8 ?_
    refine Y_icmp_ge C (pc := 9) (tgt := 33) dX9_takes_9 (by decide) (fun c5 => ?_) (fun c5 => ?_)
    · rw [if_pos c5] at h
      have h := Option.some.inj h
      exact Y_sub [] rfl (hE _ h.symm)
    · rw [if_neg c5] at h
      refine Y_aload_n C (pc := 12) 0 0 rfl rfl dX9_takes_12 ?_
      refine Y_getR C (pc := 13) hk0 q_fi_RX9_22 (by decide) dX9_takes_13 ?_
      refine Y_iload_n C (pc := 16) 1 1 rfl rfl dX9_takes_16 ?_
      refine Y_aload_n C (pc := 17) 0 0 rfl rfl dX9_takes_17 ?_
      refine Y_getR C (pc := 18) hk0 q_fi_RX9_7 (by decide) dX9_takes_18 ?_
      refine Y_bipush C (pc := 21) (v := (109 : Int32)) (by decide) dX9_takes_21 ?_
      refine Y_iload_n C (pc := 23) 1 1 rfl rfl dX9_takes_23 ?_
      refine Y_iadd C (pc := 24) dX9_takes_24 ?_
      obtain ⟨v3, hv3, h⟩ := Option.bind_eq_some_iff.mp h
      refine Y_iald C (pc := 25) (q_kr_9_0 hk0) hv3 dX9_takes_25 ?_
      obtain ⟨s4, hs4, h⟩ := Option.bind_eq_some_iff.mp h
      refine Y_iast C (pc := 26) hW (q_kr_9_7 hk0) (q_lr_9_7 hk0) hs4 dX9_takes_26 ?_
      refine Y_iinc C (pc := 27) (v := (s1.1 + 1)) (lv' := [(1, .int (s1.1 + 1)), (0, .ref (ρ k0))]) 1 rfl (congrArg (fun z => s1.1 + z) (by decide : Int32.ofInt (1) = (1))) (by decide) rfl dX9_takes_27 ?_
      refine Y_goto C (pc := 30) (tgt := 2) dX9_takes_30 (by decide) ?_
      have h := Option.some.inj h
      exact Y_sub [1, 0] rfl (hLp _ h.symm)
  · cases h
    exact Y_vret C dX9_takes_33

noncomputable def f_X9_firsts_L2 (k0 : Nat) : (Int32 × Sg) → Option ((Int32 × Sg) ⊕ (Sg)) := fun s1 => if (6 : Int32) ≤ s1.1 then (some (.inr s1.2)) else ((ast s1.2 (k0 + 5) s1.1 s1.1).bind fun s2 => some (.inl ((s1.1 + 1), s2)))
noncomputable def f_X9_firsts (σ : Sg) (k0 : Nat) : Option (Sg) := (lo (f_X9_firsts_L2 k0) ((0 : Int32), σ)).bind fun e4 => some e4
set_option maxRecDepth 100000 in
set_option maxHeartbeats 4000000 in
theorem c_X9_firsts {l : Launch} {D : va_G} {cA ρ : Nat → Nat} {σ : Sg} {τ : Tg} {k0 : Nat} (hI : Inj ρ) (hk0 : kd k0 = (0, 9)) {r : Sg} (h : f_X9_firsts σ k0 = some r) : Ct l yX9_firsts cX9_firsts 2 none 0 0 D cA ρ (Aw ρ) [.ref (ρ k0)] σ τ none r τ := by
  refine Ct_of (by decide +kernel) (Nat.le_of_ble_eq_true rfl) (fun p e s m args below meth c C => ?_)
  have C : Ctx p l s m args meth c cX9_firsts RX9 2 none D cA ρ (Aw ρ) := C
  have hW : Wr ρ (Aw ρ) := ⟨hI, fun k hk => ⟨k, hk, rfl⟩⟩
  unfold f_X9_firsts at h
  refine Y_sub [0] (lv' := [(0, .ref (ρ k0))]) rfl ?_
  refine Y_iconst C (pc := 0) (v := (0 : Int32)) (by decide) dX9_firsts_0 ?_
  refine Y_istore_n C (pc := 1) (lv' := [(1, .int (0 : Int32)), (0, .ref (ρ k0))]) 1 rfl (by decide) rfl dX9_firsts_1 ?_
  obtain ⟨e4, he4, h⟩ := Option.bind_eq_some_iff.mp h
  refine Y_sub [1, 0] (lv' := [(0, .ref (ρ k0)), (1, .int (0 : Int32))]) rfl ?_
  refine lo_rule (f := (f_X9_firsts_L2 k0)) (YS := fun s1 => Y p l e (Rm 0 0) s m args below meth c 2 D cA ρ (Aw ρ) 0 0 (MQ below (QC D cA ρ (Aw ρ) none r τ) args s 0 0 (Aw ρ)) s1.2 τ 2 [(0, .ref (ρ k0)), (1, .int s1.1)] []) (YE := fun e4 => Y p l e (Rm 0 0) s m args below meth c 2 D cA ρ (Aw ρ) 0 0 (MQ below (QC D cA ρ (Aw ρ) none r τ) args s 0 0 (Aw ρ)) e4 τ 21 [] []) ?_ he4 ?_
  · intro s1 x h hLp hE
    unfold f_X9_firsts_L2 at h
    refine Y_iload_n C (pc := 2) 1 1 rfl rfl dX9_firsts_2 ?_
    refine Y_bipush C (pc := 3) (v := (6 : Int32)) (by decide) dX9_firsts_3 ?_
    refine Y_icmp_ge C (pc := 5) (tgt := 21) dX9_firsts_5 (by decide) (fun c3 => ?_) (fun c3 => ?_)
    · rw [if_pos c3] at h
      have h := Option.some.inj h
      exact Y_sub [] rfl (hE _ h.symm)
    · rw [if_neg c3] at h
      refine Y_aload_n C (pc := 8) 0 0 rfl rfl dX9_firsts_8 ?_
      refine Y_getR C (pc := 9) hk0 q_fi_RX9_22 (by decide) dX9_firsts_9 ?_
      refine Y_iload_n C (pc := 12) 1 1 rfl rfl dX9_firsts_12 ?_
      refine Y_iload_n C (pc := 13) 1 1 rfl rfl dX9_firsts_13 ?_
      obtain ⟨s2, hs2, h⟩ := Option.bind_eq_some_iff.mp h
      refine Y_iast C (pc := 14) hW (q_kr_9_7 hk0) (q_lr_9_7 hk0) hs2 dX9_firsts_14 ?_
      refine Y_iinc C (pc := 15) (v := (s1.1 + 1)) (lv' := [(1, .int (s1.1 + 1)), (0, .ref (ρ k0))]) 1 rfl (congrArg (fun z => s1.1 + z) (by decide : Int32.ofInt (1) = (1))) (by decide) rfl dX9_firsts_15 ?_
      refine Y_goto C (pc := 18) (tgt := 2) dX9_firsts_18 (by decide) ?_
      have h := Option.some.inj h
      exact Y_sub [1, 0] rfl (hLp _ h.symm)
  · cases h
    exact Y_vret C dX9_firsts_21

noncomputable def f_X9_swaps (σ : Sg) (k0 : Nat) (i1 : Int32) (i2 : Int32) : Option (Sg) := (ald σ (k0 + 5) i1).bind fun v1 => (ald σ (k0 + 5) i2).bind fun v2 => (ast σ (k0 + 5) i1 v2).bind fun s3 => (ast s3 (k0 + 5) i2 v1).bind fun s4 => some s4
set_option maxRecDepth 100000 in
set_option maxHeartbeats 4000000 in
theorem c_X9_swaps {l : Launch} {D : va_G} {cA ρ : Nat → Nat} {σ : Sg} {τ : Tg} {k0 : Nat} {i1 : Int32} {i2 : Int32} (hI : Inj ρ) (hk0 : kd k0 = (0, 9)) {r : Sg} (h : f_X9_swaps σ k0 i1 i2 = some r) : Ct l yX9_swaps cX9_swaps 4 none 0 0 D cA ρ (Aw ρ) [.ref (ρ k0), .int i1, .int i2] σ τ none r τ := by
  refine Ct_of (by decide +kernel) (Nat.le_of_ble_eq_true rfl) (fun p e s m args below meth c C => ?_)
  have C : Ctx p l s m args meth c cX9_swaps RX9 4 none D cA ρ (Aw ρ) := C
  have hW : Wr ρ (Aw ρ) := ⟨hI, fun k hk => ⟨k, hk, rfl⟩⟩
  unfold f_X9_swaps at h
  refine Y_sub [0, 1, 2] (lv' := [(0, .ref (ρ k0)), (1, .int i1), (2, .int i2)]) rfl ?_
  refine Y_aload_n C (pc := 0) 0 0 rfl rfl dX9_swaps_0 ?_
  refine Y_getR C (pc := 1) hk0 q_fi_RX9_22 (by decide) dX9_swaps_1 ?_
  refine Y_iload_n C (pc := 4) 1 1 rfl rfl dX9_swaps_4 ?_
  obtain ⟨v1, hv1, h⟩ := Option.bind_eq_some_iff.mp h
  refine Y_iald C (pc := 5) (q_kr_9_7 hk0) hv1 dX9_swaps_5 ?_
  refine Y_istore_n C (pc := 6) (lv' := [(3, .int v1), (0, .ref (ρ k0)), (1, .int i1), (2, .int i2)]) 3 rfl (by decide) rfl dX9_swaps_6 ?_
  refine Y_aload_n C (pc := 7) 0 1 rfl rfl dX9_swaps_7 ?_
  refine Y_getR C (pc := 8) hk0 q_fi_RX9_22 (by decide) dX9_swaps_8 ?_
  refine Y_iload_n C (pc := 11) 1 2 rfl rfl dX9_swaps_11 ?_
  refine Y_aload_n C (pc := 12) 0 1 rfl rfl dX9_swaps_12 ?_
  refine Y_getR C (pc := 13) hk0 q_fi_RX9_22 (by decide) dX9_swaps_13 ?_
  refine Y_iload_n C (pc := 16) 2 3 rfl rfl dX9_swaps_16 ?_
  obtain ⟨v2, hv2, h⟩ := Option.bind_eq_some_iff.mp h
  refine Y_iald C (pc := 17) (q_kr_9_7 hk0) hv2 dX9_swaps_17 ?_
  obtain ⟨s3, hs3, h⟩ := Option.bind_eq_some_iff.mp h
  refine Y_iast C (pc := 18) hW (q_kr_9_7 hk0) (q_lr_9_7 hk0) hs3 dX9_swaps_18 ?_
  refine Y_aload_n C (pc := 19) 0 1 rfl rfl dX9_swaps_19 ?_
  refine Y_getR C (pc := 20) hk0 q_fi_RX9_22 (by decide) dX9_swaps_20 ?_
  refine Y_iload_n C (pc := 23) 2 3 rfl rfl dX9_swaps_23 ?_
  refine Y_iload_n C (pc := 24) 3 0 rfl rfl dX9_swaps_24 ?_
  obtain ⟨s4, hs4, h⟩ := Option.bind_eq_some_iff.mp h
  refine Y_iast C (pc := 25) hW (q_kr_9_7 hk0) (q_lr_9_7 hk0) hs4 dX9_swaps_25 ?_
  cases h
  exact Y_vret C dX9_swaps_26

noncomputable def f_X9_goesOn_L9 (σ : Sg) (k0 : Nat) : Int32 → Option ((Int32) ⊕ (Int32)) := fun s2 => if s2 < (0 : Int32) then (some (.inr s2)) else ((ald σ (k0 + 5) s2).bind fun v3 => (ald σ (k0 + 5) (s2 + (1 : Int32))).bind fun v4 => if v3 ≤ v4 then (some (.inr s2)) else (some (.inl ((s2 + (-1))))))
noncomputable def f_X9_goesOn_L51 (σ : Sg) (k0 : Nat) (e7 : Int32) : Int32 → Option ((Int32) ⊕ (Int32)) := fun s9 => (ald σ (k0 + 5) s9).bind fun v10 => (ald σ (k0 + 5) e7).bind fun v11 => if v11 ≤ v10 then (some (.inr s9)) else (some (.inl ((s9 + (-1)))))
noncomputable def f_X9_goesOn_L92 (k0 : Nat) : (Int32 × Int32 × Sg) → Option ((Int32 × Int32 × Sg) ⊕ (Sg)) := fun s16 => if s16.2.1 ≤ s16.1 then (some (.inr s16.2.2)) else ((f_X9_swaps s16.2.2 k0 s16.1 s16.2.1).bind fun v17 => some (.inl ((s16.1 + 1), (s16.2.1 + (-1)), v17)))
noncomputable def f_X9_goesOn (σ : Sg) (k0 : Nat) : Option (Int32 × Sg) := (ald σ (k0 + 1) (0 : Int32)).bind fun v1 => (lo (f_X9_goesOn_L9 σ k0) ((v1 - (2 : Int32)))).bind fun e7 => if (0 : Int32) ≤ e7 then ((ald σ (k0 + 1) (0 : Int32)).bind fun v8 => (lo (f_X9_goesOn_L51 σ k0 e7) ((v8 - (1 : Int32)))).bind fun e13 => (f_X9_swaps σ k0 e7 e13).bind fun v14 => (ald v14 (k0 + 1) (0 : Int32)).bind fun v15 => (lo (f_X9_goesOn_L92 k0) ((e7 + (1 : Int32)), (v15 - (1 : Int32)), v14)).bind fun e19 => some ((1 : Int32), e19)) else (some ((0 : Int32), σ))
set_option maxRecDepth 100000 in
set_option maxHeartbeats 4000000 in
theorem c_X9_goesOn {l : Launch} {D : va_G} {cA ρ : Nat → Nat} {σ : Sg} {τ : Tg} {k0 : Nat} (hI : Inj ρ) (hk0 : kd k0 = (0, 9)) {r : Int32 × Sg} (h : f_X9_goesOn σ k0 = some r) : Ct l yX9_goesOn cX9_goesOn 5 (some .boolean) 1 23 D cA ρ (Aw ρ) [.ref (ρ k0)] σ τ (some (.int r.1)) r.2 τ := by
  refine Ct_of (by decide +kernel) (Nat.le_of_ble_eq_true rfl) (fun p e s m args below meth c C => ?_)
  have C : Ctx p l s m args meth c cX9_goesOn RX9 5 (some .boolean) D cA ρ (Aw ρ) := C
  have hW : Wr ρ (Aw ρ) := ⟨hI, fun k hk => ⟨k, hk, rfl⟩⟩
  unfold f_X9_goesOn at h
  refine Y_sub [0] (lv' := [(0, .ref (ρ k0))]) rfl ?_
  refine Y_aload_n C (pc := 0) 0 0 rfl rfl dX9_goesOn_0 ?_
  refine Y_getR C (pc := 1) hk0 q_fi_RX9_7 (by decide) dX9_goesOn_1 ?_
  refine Y_iconst C (pc := 4) (v := (0 : Int32)) (by decide) dX9_goesOn_4 ?_
  obtain ⟨v1, hv1, h⟩ := Option.bind_eq_some_iff.mp h
  refine Y_iald C (pc := 5) (q_kr_9_0 hk0) hv1 dX9_goesOn_5 ?_
  refine Y_iconst C (pc := 6) (v := (2 : Int32)) (by decide) dX9_goesOn_6 ?_
  refine Y_isub C (pc := 7) dX9_goesOn_7 ?_
  refine Y_istore_n C (pc := 8) (lv' := [(1, .int (v1 - (2 : Int32))), (0, .ref (ρ k0))]) 1 rfl (by decide) rfl dX9_goesOn_8 ?_
  obtain ⟨e7, he7, h⟩ := Option.bind_eq_some_iff.mp h
  refine Y_sub [1, 0] (lv' := [(0, .ref (ρ k0)), (1, .int (v1 - (2 : Int32)))]) rfl ?_
  refine lo_rule (f := (f_X9_goesOn_L9 σ k0)) (YS := fun s2 => Y p l e (Rm 1 23) s m args below meth c 5 D cA ρ (Aw ρ) 0 0 (MQ below (QC D cA ρ (Aw ρ) (some (.int r.1)) r.2 τ) args s 0 0 (Aw ρ)) σ τ 9 [(0, .ref (ρ k0)), (1, .int s2)] []) (YE := fun e7 => Y p l e (Rm 1 23) s m args below meth c 5 D cA ρ (Aw ρ) 0 0 (MQ below (QC D cA ρ (Aw ρ) (some (.int r.1)) r.2 τ) args s 0 0 (Aw ρ)) σ τ 36 [(0, .ref (ρ k0)), (1, .int e7)] []) ?_ he7 ?_
  · intro s2 x h hLp hE
    unfold f_X9_goesOn_L9 at h
    refine Y_iload_n C (pc := 9) 1 1 rfl rfl dX9_goesOn_9 ?_
    refine Y_if_lt C (pc := 10) (tgt := 36) dX9_goesOn_10 (by decide) (fun c6 => ?_) (fun c6 => ?_)
    · rw [if_pos c6] at h
      have h := Option.some.inj h
      exact Y_sub [0, 1] rfl (hE _ h.symm)
    · rw [if_neg c6] at h
      refine Y_aload_n C (pc := 13) 0 0 rfl rfl dX9_goesOn_13 ?_
      refine Y_getR C (pc := 14) hk0 q_fi_RX9_22 (by decide) dX9_goesOn_14 ?_
      refine Y_iload_n C (pc := 17) 1 1 rfl rfl dX9_goesOn_17 ?_
      obtain ⟨v3, hv3, h⟩ := Option.bind_eq_some_iff.mp h
      refine Y_iald C (pc := 18) (q_kr_9_7 hk0) hv3 dX9_goesOn_18 ?_
      refine Y_aload_n C (pc := 19) 0 0 rfl rfl dX9_goesOn_19 ?_
      refine Y_getR C (pc := 20) hk0 q_fi_RX9_22 (by decide) dX9_goesOn_20 ?_
      refine Y_iload_n C (pc := 23) 1 1 rfl rfl dX9_goesOn_23 ?_
      refine Y_iconst C (pc := 24) (v := (1 : Int32)) (by decide) dX9_goesOn_24 ?_
      refine Y_iadd C (pc := 25) dX9_goesOn_25 ?_
      obtain ⟨v4, hv4, h⟩ := Option.bind_eq_some_iff.mp h
      refine Y_iald C (pc := 26) (q_kr_9_7 hk0) hv4 dX9_goesOn_26 ?_
      refine Y_icmp_le C (pc := 27) (tgt := 36) dX9_goesOn_27 (by decide) (fun c5 => ?_) (fun c5 => ?_)
      · rw [if_pos c5] at h
        have h := Option.some.inj h
        exact Y_sub [0, 1] rfl (hE _ h.symm)
      · rw [if_neg c5] at h
        refine Y_iinc C (pc := 30) (v := (s2 + (-1))) (lv' := [(1, .int (s2 + (-1))), (0, .ref (ρ k0))]) 1 rfl (congrArg (fun z => s2 + z) (by decide : Int32.ofInt (-1) = (-1))) (by decide) rfl dX9_goesOn_30 ?_
        refine Y_goto C (pc := 33) (tgt := 9) dX9_goesOn_33 (by decide) ?_
        have h := Option.some.inj h
        exact Y_sub [1, 0] rfl (hLp _ h.symm)
  · refine Y_iload_n C (pc := 36) 1 1 rfl rfl dX9_goesOn_36 ?_
    refine Y_if_ge C (pc := 37) (tgt := 42) dX9_goesOn_37 (by decide) (fun c20 => ?_) (fun c20 => ?_)
    · rw [if_pos c20] at h
      refine Y_aload_n C (pc := 42) 0 0 rfl rfl dX9_goesOn_42 ?_
      refine Y_getR C (pc := 43) hk0 q_fi_RX9_7 (by decide) dX9_goesOn_43 ?_
      refine Y_iconst C (pc := 46) (v := (0 : Int32)) (by decide) dX9_goesOn_46 ?_
      obtain ⟨v8, hv8, h⟩ := Option.bind_eq_some_iff.mp h
      refine Y_iald C (pc := 47) (q_kr_9_0 hk0) hv8 dX9_goesOn_47 ?_
      refine Y_iconst C (pc := 48) (v := (1 : Int32)) (by decide) dX9_goesOn_48 ?_
      refine Y_isub C (pc := 49) dX9_goesOn_49 ?_
      refine Y_istore_n C (pc := 50) (lv' := [(2, .int (v8 - (1 : Int32))), (0, .ref (ρ k0)), (1, .int e7)]) 2 rfl (by decide) rfl dX9_goesOn_50 ?_
      obtain ⟨e13, he13, h⟩ := Option.bind_eq_some_iff.mp h
      refine Y_sub [1, 2, 0] (lv' := [(0, .ref (ρ k0)), (1, .int e7), (2, .int (v8 - (1 : Int32)))]) rfl ?_
      refine lo_rule (f := (f_X9_goesOn_L51 σ k0 e7)) (YS := fun s9 => Y p l e (Rm 1 23) s m args below meth c 5 D cA ρ (Aw ρ) 0 0 (MQ below (QC D cA ρ (Aw ρ) (some (.int r.1)) r.2 τ) args s 0 0 (Aw ρ)) σ τ 51 [(0, .ref (ρ k0)), (1, .int e7), (2, .int s9)] []) (YE := fun e13 => Y p l e (Rm 1 23) s m args below meth c 5 D cA ρ (Aw ρ) 0 0 (MQ below (QC D cA ρ (Aw ρ) (some (.int r.1)) r.2 τ) args s 0 0 (Aw ρ)) σ τ 72 [(0, .ref (ρ k0)), (1, .int e7), (2, .int e13)] []) ?_ he13 ?_
      · intro s9 x h hLp hE
        unfold f_X9_goesOn_L51 at h
        refine Y_aload_n C (pc := 51) 0 0 rfl rfl dX9_goesOn_51 ?_
        refine Y_getR C (pc := 52) hk0 q_fi_RX9_22 (by decide) dX9_goesOn_52 ?_
        refine Y_iload_n C (pc := 55) 2 2 rfl rfl dX9_goesOn_55 ?_
        obtain ⟨v10, hv10, h⟩ := Option.bind_eq_some_iff.mp h
        refine Y_iald C (pc := 56) (q_kr_9_7 hk0) hv10 dX9_goesOn_56 ?_
        refine Y_aload_n C (pc := 57) 0 0 rfl rfl dX9_goesOn_57 ?_
        refine Y_getR C (pc := 58) hk0 q_fi_RX9_22 (by decide) dX9_goesOn_58 ?_
        refine Y_iload_n C (pc := 61) 1 1 rfl rfl dX9_goesOn_61 ?_
        obtain ⟨v11, hv11, h⟩ := Option.bind_eq_some_iff.mp h
        refine Y_iald C (pc := 62) (q_kr_9_7 hk0) hv11 dX9_goesOn_62 ?_
        refine Y_icmp_ge C (pc := 63) (tgt := 72) dX9_goesOn_63 (by decide) (fun c12 => ?_) (fun c12 => ?_)
        · rw [if_pos c12] at h
          have h := Option.some.inj h
          exact Y_sub [0, 1, 2] rfl (hE _ h.symm)
        · rw [if_neg c12] at h
          refine Y_iinc C (pc := 66) (v := (s9 + (-1))) (lv' := [(2, .int (s9 + (-1))), (0, .ref (ρ k0)), (1, .int e7)]) 2 rfl (congrArg (fun z => s9 + z) (by decide : Int32.ofInt (-1) = (-1))) (by decide) rfl dX9_goesOn_66 ?_
          refine Y_goto C (pc := 69) (tgt := 51) dX9_goesOn_69 (by decide) ?_
          have h := Option.some.inj h
          exact Y_sub [1, 2, 0] rfl (hLp _ h.symm)
      · refine Y_aload_n C (pc := 72) 0 0 rfl rfl dX9_goesOn_72 ?_
        refine Y_iload_n C (pc := 73) 1 1 rfl rfl dX9_goesOn_73 ?_
        refine Y_iload_n C (pc := 74) 2 2 rfl rfl dX9_goesOn_74 ?_
        obtain ⟨v14, hv14, h⟩ := Option.bind_eq_some_iff.mp h
        refine Y_callV C [.int e7, .int e13] [] [] hk0 rfl rfl (c_X9_swaps hI hk0 hv14) (fun _ h => h) q_cw_yX9_swaps q_ml_RX9_115 ⟨q_im_yX9_swaps, q_se_yX9_swaps⟩ ⟨⟨Nat.le_of_ble_eq_true rfl, Nat.le_of_ble_eq_true rfl⟩, ⟨Nat.zero_le _, Nat.zero_le _⟩, Nat.le_of_ble_eq_true rfl⟩ rfl rfl rfl dX9_goesOn_75 ?_
        refine Y_iload_n C (pc := 78) 1 1 rfl rfl dX9_goesOn_78 ?_
        refine Y_iconst C (pc := 79) (v := (1 : Int32)) (by decide) dX9_goesOn_79 ?_
        refine Y_iadd C (pc := 80) dX9_goesOn_80 ?_
        refine Y_istore_n C (pc := 81) (lv' := [(3, .int (e7 + (1 : Int32))), (0, .ref (ρ k0)), (1, .int e7), (2, .int e13)]) 3 rfl (by decide) rfl dX9_goesOn_81 ?_
        refine Y_aload_n C (pc := 82) 0 1 rfl rfl dX9_goesOn_82 ?_
        refine Y_getR C (pc := 83) hk0 q_fi_RX9_7 (by decide) dX9_goesOn_83 ?_
        refine Y_iconst C (pc := 86) (v := (0 : Int32)) (by decide) dX9_goesOn_86 ?_
        obtain ⟨v15, hv15, h⟩ := Option.bind_eq_some_iff.mp h
        refine Y_iald C (pc := 87) (q_kr_9_0 hk0) hv15 dX9_goesOn_87 ?_
        refine Y_iconst C (pc := 88) (v := (1 : Int32)) (by decide) dX9_goesOn_88 ?_
        refine Y_isub C (pc := 89) dX9_goesOn_89 ?_
        refine Y_istore C (pc := 90) (lv' := [(4, .int (v15 - (1 : Int32))), (3, .int (e7 + (1 : Int32))), (0, .ref (ρ k0)), (1, .int e7), (2, .int e13)]) (by decide) rfl dX9_goesOn_90 ?_
        obtain ⟨e19, he19, h⟩ := Option.bind_eq_some_iff.mp h
        refine Y_sub [2, 1, 0] (lv' := [(0, .ref (ρ k0)), (3, .int (e7 + (1 : Int32))), (4, .int (v15 - (1 : Int32)))]) rfl ?_
        refine lo_rule (f := (f_X9_goesOn_L92 k0)) (YS := fun s16 => Y p l e (Rm 1 23) s m args below meth c 5 D cA ρ (Aw ρ) 0 0 (MQ below (QC D cA ρ (Aw ρ) (some (.int r.1)) r.2 τ) args s 0 0 (Aw ρ)) s16.2.2 τ 92 [(0, .ref (ρ k0)), (3, .int s16.1), (4, .int s16.2.1)] []) (YE := fun e19 => Y p l e (Rm 1 23) s m args below meth c 5 D cA ρ (Aw ρ) 0 0 (MQ below (QC D cA ρ (Aw ρ) (some (.int r.1)) r.2 τ) args s 0 0 (Aw ρ)) e19 τ 114 [] []) ?_ he19 ?_
        · intro s16 x h hLp hE
          unfold f_X9_goesOn_L92 at h
          refine Y_iload_n C (pc := 92) 3 1 rfl rfl dX9_goesOn_92 ?_
          refine Y_iload C (pc := 93) 2 rfl dX9_goesOn_93 ?_
          refine Y_icmp_ge C (pc := 95) (tgt := 114) dX9_goesOn_95 (by decide) (fun c18 => ?_) (fun c18 => ?_)
          · rw [if_pos c18] at h
            have h := Option.some.inj h
            exact Y_sub [] rfl (hE _ h.symm)
          · rw [if_neg c18] at h
            refine Y_aload_n C (pc := 98) 0 0 rfl rfl dX9_goesOn_98 ?_
            refine Y_iload_n C (pc := 99) 3 1 rfl rfl dX9_goesOn_99 ?_
            refine Y_iload C (pc := 100) 2 rfl dX9_goesOn_100 ?_
            obtain ⟨v17, hv17, h⟩ := Option.bind_eq_some_iff.mp h
            refine Y_callV C [.int s16.1, .int s16.2.1] [] [] hk0 rfl rfl (c_X9_swaps hI hk0 hv17) (fun _ h => h) q_cw_yX9_swaps q_ml_RX9_115 ⟨q_im_yX9_swaps, q_se_yX9_swaps⟩ ⟨⟨Nat.le_of_ble_eq_true rfl, Nat.le_of_ble_eq_true rfl⟩, ⟨Nat.zero_le _, Nat.zero_le _⟩, Nat.le_of_ble_eq_true rfl⟩ rfl rfl rfl dX9_goesOn_102 ?_
            refine Y_iinc C (pc := 105) (v := (s16.1 + 1)) (lv' := [(3, .int (s16.1 + 1)), (0, .ref (ρ k0)), (4, .int s16.2.1)]) 1 rfl (congrArg (fun z => s16.1 + z) (by decide : Int32.ofInt (1) = (1))) (by decide) rfl dX9_goesOn_105 ?_
            refine Y_iinc C (pc := 108) (v := (s16.2.1 + (-1))) (lv' := [(4, .int (s16.2.1 + (-1))), (3, .int (s16.1 + 1)), (0, .ref (ρ k0))]) 2 rfl (congrArg (fun z => s16.2.1 + z) (by decide : Int32.ofInt (-1) = (-1))) (by decide) rfl dX9_goesOn_108 ?_
            refine Y_goto C (pc := 111) (tgt := 92) dX9_goesOn_111 (by decide) ?_
            have h := Option.some.inj h
            exact Y_sub [2, 1, 0] rfl (hLp _ h.symm)
        · refine Y_iconst C (pc := 114) (v := (1 : Int32)) (by decide) dX9_goesOn_114 ?_
          cases h
          exact Y_zret (by decide) C dX9_goesOn_115
    · rw [if_neg c20] at h
      refine Y_iconst C (pc := 40) (v := (0 : Int32)) (by decide) dX9_goesOn_40 ?_
      cases h
      exact Y_zret (by decide) C dX9_goesOn_41

noncomputable def f_X9_costOf_L30 (σ : Sg) (k0 : Nat) (s1 : Int32 × Int32) : (Int32 × Int32) → Option ((Int32 × Int32) ⊕ (Int32)) := fun s5 => (ald σ (k0 + 1) (0 : Int32)).bind fun v6 => if v6 ≤ s5.2 then (some (.inr s5.1)) else ((f_X9_flow σ k0 s1.2 s5.2).bind fun v7 => (ald σ (k0 + 5) s1.2).bind fun v8 => (ald σ (k0 + 5) s5.2).bind fun v9 => (f_X9_far σ k0 v8 v9).bind fun v10 => some (.inl ((s5.1 + (v7 * v10)), (s5.2 + 1))))
noncomputable def f_X9_costOf_L4 (σ : Sg) (k0 : Nat) : (Int32 × Int32) → Option ((Int32 × Int32) ⊕ (Int32)) := fun s1 => (ald σ (k0 + 1) (0 : Int32)).bind fun v2 => if v2 ≤ s1.2 then (some (.inr s1.1)) else ((ald σ (k0 + 5) s1.2).bind fun v3 => (f_X9_price σ k0 s1.2 v3).bind fun v4 => (lo (f_X9_costOf_L30 σ k0 s1) ((s1.1 + v4), (0 : Int32))).bind fun e12 => some (.inl (e12, (s1.2 + 1))))
noncomputable def f_X9_costOf (σ : Sg) (k0 : Nat) : Option (Int32) := (lo (f_X9_costOf_L4 σ k0) ((0 : Int32), (0 : Int32))).bind fun e14 => some e14
set_option maxRecDepth 100000 in
set_option maxHeartbeats 4000000 in
theorem c_X9_costOf {l : Launch} {D : va_G} {cA ρ : Nat → Nat} {σ : Sg} {τ : Tg} {k0 : Nat} (hk0 : kd k0 = (0, 9)) {r : Int32} (h : f_X9_costOf σ k0 = some r) : Ct l yX9_costOf cX9_costOf 4 (some .int) 2 44 D cA ρ A0 [.ref (ρ k0)] σ τ (some (.int r)) σ τ := by
  refine Ct_of (by decide +kernel) (Nat.le_of_ble_eq_true rfl) (fun p e s m args below meth c C => ?_)
  have C : Ctx p l s m args meth c cX9_costOf RX9 4 (some .int) D cA ρ A0 := C
  unfold f_X9_costOf at h
  refine Y_sub [0] (lv' := [(0, .ref (ρ k0))]) rfl ?_
  refine Y_iconst C (pc := 0) (v := (0 : Int32)) (by decide) dX9_costOf_0 ?_
  refine Y_istore_n C (pc := 1) (lv' := [(1, .int (0 : Int32)), (0, .ref (ρ k0))]) 1 rfl (by decide) rfl dX9_costOf_1 ?_
  refine Y_iconst C (pc := 2) (v := (0 : Int32)) (by decide) dX9_costOf_2 ?_
  refine Y_istore_n C (pc := 3) (lv' := [(2, .int (0 : Int32)), (1, .int (0 : Int32)), (0, .ref (ρ k0))]) 2 rfl (by decide) rfl dX9_costOf_3 ?_
  obtain ⟨e14, he14, h⟩ := Option.bind_eq_some_iff.mp h
  refine Y_sub [2, 1, 0] (lv' := [(0, .ref (ρ k0)), (1, .int (0 : Int32)), (2, .int (0 : Int32))]) rfl ?_
  refine lo_rule (f := (f_X9_costOf_L4 σ k0)) (YS := fun s1 => Y p l e (Rm 2 44) s m args below meth c 4 D cA ρ A0 0 0 (MQ below (QC D cA ρ A0 (some (.int r)) σ τ) args s 0 0 A0) σ τ 4 [(0, .ref (ρ k0)), (1, .int s1.1), (2, .int s1.2)] []) (YE := fun e14 => Y p l e (Rm 2 44) s m args below meth c 4 D cA ρ A0 0 0 (MQ below (QC D cA ρ A0 (some (.int r)) σ τ) args s 0 0 A0) σ τ 78 [(1, .int e14)] []) ?_ he14 ?_
  · intro s1 x h hLp hE
    unfold f_X9_costOf_L4 at h
    refine Y_iload_n C (pc := 4) 2 2 rfl rfl dX9_costOf_4 ?_
    refine Y_aload_n C (pc := 5) 0 0 rfl rfl dX9_costOf_5 ?_
    refine Y_getR C (pc := 6) hk0 q_fi_RX9_7 (by decide) dX9_costOf_6 ?_
    refine Y_iconst C (pc := 9) (v := (0 : Int32)) (by decide) dX9_costOf_9 ?_
    obtain ⟨v2, hv2, h⟩ := Option.bind_eq_some_iff.mp h
    refine Y_iald C (pc := 10) (q_kr_9_0 hk0) hv2 dX9_costOf_10 ?_
    refine Y_icmp_ge C (pc := 11) (tgt := 78) dX9_costOf_11 (by decide) (fun c13 => ?_) (fun c13 => ?_)
    · rw [if_pos c13] at h
      have h := Option.some.inj h
      exact Y_sub [1] rfl (hE _ h.symm)
    · rw [if_neg c13] at h
      refine Y_iload_n C (pc := 14) 1 1 rfl rfl dX9_costOf_14 ?_
      refine Y_aload_n C (pc := 15) 0 0 rfl rfl dX9_costOf_15 ?_
      refine Y_iload_n C (pc := 16) 2 2 rfl rfl dX9_costOf_16 ?_
      refine Y_aload_n C (pc := 17) 0 0 rfl rfl dX9_costOf_17 ?_
      refine Y_getR C (pc := 18) hk0 q_fi_RX9_22 (by decide) dX9_costOf_18 ?_
      refine Y_iload_n C (pc := 21) 2 2 rfl rfl dX9_costOf_21 ?_
      obtain ⟨v3, hv3, h⟩ := Option.bind_eq_some_iff.mp h
      refine Y_iald C (pc := 22) (q_kr_9_7 hk0) hv3 dX9_costOf_22 ?_
      obtain ⟨v4, hv4, h⟩ := Option.bind_eq_some_iff.mp h
      refine Y_callV C [.int s1.2, .int v3] [.int s1.1] [.int v4, .int s1.1] hk0 rfl rfl (c_X9_price hk0 hv4) (fun _ h => h.elim) q_cw_yX9_price q_ml_RX9_119 ⟨q_im_yX9_price, q_se_yX9_price⟩ ⟨⟨Nat.le_of_ble_eq_true rfl, Nat.le_of_ble_eq_true rfl⟩, ⟨Nat.zero_le _, Nat.zero_le _⟩, Nat.le_of_ble_eq_true rfl⟩ rfl rfl rfl dX9_costOf_23 ?_
      refine Y_iadd C (pc := 26) dX9_costOf_26 ?_
      refine Y_istore_n C (pc := 27) (lv' := [(1, .int (s1.1 + v4)), (0, .ref (ρ k0)), (2, .int s1.2)]) 1 rfl (by decide) rfl dX9_costOf_27 ?_
      refine Y_iconst C (pc := 28) (v := (0 : Int32)) (by decide) dX9_costOf_28 ?_
      refine Y_istore_n C (pc := 29) (lv' := [(3, .int (0 : Int32)), (1, .int (s1.1 + v4)), (0, .ref (ρ k0)), (2, .int s1.2)]) 3 rfl (by decide) rfl dX9_costOf_29 ?_
      obtain ⟨e12, he12, h⟩ := Option.bind_eq_some_iff.mp h
      refine Y_sub [2, 1, 3, 0] (lv' := [(0, .ref (ρ k0)), (1, .int (s1.1 + v4)), (2, .int s1.2), (3, .int (0 : Int32))]) rfl ?_
      refine lo_rule (f := (f_X9_costOf_L30 σ k0 s1)) (YS := fun s5 => Y p l e (Rm 2 44) s m args below meth c 4 D cA ρ A0 0 0 (MQ below (QC D cA ρ A0 (some (.int r)) σ τ) args s 0 0 A0) σ τ 30 [(0, .ref (ρ k0)), (1, .int s5.1), (2, .int s1.2), (3, .int s5.2)] []) (YE := fun e12 => Y p l e (Rm 2 44) s m args below meth c 4 D cA ρ A0 0 0 (MQ below (QC D cA ρ A0 (some (.int r)) σ τ) args s 0 0 A0) σ τ 72 [(0, .ref (ρ k0)), (1, .int e12), (2, .int s1.2)] []) ?_ he12 ?_
      · intro s5 x h hLp hE
        unfold f_X9_costOf_L30 at h
        refine Y_iload_n C (pc := 30) 3 3 rfl rfl dX9_costOf_30 ?_
        refine Y_aload_n C (pc := 31) 0 0 rfl rfl dX9_costOf_31 ?_
        refine Y_getR C (pc := 32) hk0 q_fi_RX9_7 (by decide) dX9_costOf_32 ?_
        refine Y_iconst C (pc := 35) (v := (0 : Int32)) (by decide) dX9_costOf_35 ?_
        obtain ⟨v6, hv6, h⟩ := Option.bind_eq_some_iff.mp h
        refine Y_iald C (pc := 36) (q_kr_9_0 hk0) hv6 dX9_costOf_36 ?_
        refine Y_icmp_ge C (pc := 37) (tgt := 72) dX9_costOf_37 (by decide) (fun c11 => ?_) (fun c11 => ?_)
        · rw [if_pos c11] at h
          have h := Option.some.inj h
          exact Y_sub [0, 1, 2] rfl (hE _ h.symm)
        · rw [if_neg c11] at h
          refine Y_iload_n C (pc := 40) 1 1 rfl rfl dX9_costOf_40 ?_
          refine Y_aload_n C (pc := 41) 0 0 rfl rfl dX9_costOf_41 ?_
          refine Y_iload_n C (pc := 42) 2 2 rfl rfl dX9_costOf_42 ?_
          refine Y_iload_n C (pc := 43) 3 3 rfl rfl dX9_costOf_43 ?_
          obtain ⟨v7, hv7, h⟩ := Option.bind_eq_some_iff.mp h
          refine Y_callV C [.int s1.2, .int s5.2] [.int s5.1] [.int v7, .int s5.1] hk0 rfl rfl (c_X9_flow hk0 hv7) (fun _ h => h.elim) q_cw_yX9_flow q_ml_RX9_123 ⟨q_im_yX9_flow, q_se_yX9_flow⟩ ⟨⟨Nat.le_of_ble_eq_true rfl, Nat.le_of_ble_eq_true rfl⟩, ⟨Nat.zero_le _, Nat.zero_le _⟩, Nat.le_of_ble_eq_true rfl⟩ rfl rfl rfl dX9_costOf_44 ?_
          refine Y_aload_n C (pc := 47) 0 0 rfl rfl dX9_costOf_47 ?_
          refine Y_aload_n C (pc := 48) 0 0 rfl rfl dX9_costOf_48 ?_
          refine Y_getR C (pc := 49) hk0 q_fi_RX9_22 (by decide) dX9_costOf_49 ?_
          refine Y_iload_n C (pc := 52) 2 2 rfl rfl dX9_costOf_52 ?_
          obtain ⟨v8, hv8, h⟩ := Option.bind_eq_some_iff.mp h
          refine Y_iald C (pc := 53) (q_kr_9_7 hk0) hv8 dX9_costOf_53 ?_
          refine Y_aload_n C (pc := 54) 0 0 rfl rfl dX9_costOf_54 ?_
          refine Y_getR C (pc := 55) hk0 q_fi_RX9_22 (by decide) dX9_costOf_55 ?_
          refine Y_iload_n C (pc := 58) 3 3 rfl rfl dX9_costOf_58 ?_
          obtain ⟨v9, hv9, h⟩ := Option.bind_eq_some_iff.mp h
          refine Y_iald C (pc := 59) (q_kr_9_7 hk0) hv9 dX9_costOf_59 ?_
          obtain ⟨v10, hv10, h⟩ := Option.bind_eq_some_iff.mp h
          refine Y_callV C [.int v8, .int v9] [.int v7, .int s5.1] [.int v10, .int v7, .int s5.1] hk0 rfl rfl (c_X9_far hk0 hv10) (fun _ h => h.elim) q_cw_yX9_far q_ml_RX9_126 ⟨q_im_yX9_far, q_se_yX9_far⟩ ⟨⟨Nat.le_of_ble_eq_true rfl, Nat.le_of_ble_eq_true rfl⟩, ⟨Nat.zero_le _, Nat.zero_le _⟩, Nat.le_of_ble_eq_true rfl⟩ rfl rfl rfl dX9_costOf_60 ?_
          refine Y_imul C (pc := 63) dX9_costOf_63 ?_
          refine Y_iadd C (pc := 64) dX9_costOf_64 ?_
          refine Y_istore_n C (pc := 65) (lv' := [(1, .int (s5.1 + (v7 * v10))), (0, .ref (ρ k0)), (2, .int s1.2), (3, .int s5.2)]) 1 rfl (by decide) rfl dX9_costOf_65 ?_
          refine Y_iinc C (pc := 66) (v := (s5.2 + 1)) (lv' := [(3, .int (s5.2 + 1)), (1, .int (s5.1 + (v7 * v10))), (0, .ref (ρ k0)), (2, .int s1.2)]) 3 rfl (congrArg (fun z => s5.2 + z) (by decide : Int32.ofInt (1) = (1))) (by decide) rfl dX9_costOf_66 ?_
          refine Y_goto C (pc := 69) (tgt := 30) dX9_costOf_69 (by decide) ?_
          have h := Option.some.inj h
          exact Y_sub [2, 1, 3, 0] rfl (hLp _ h.symm)
      · refine Y_iinc C (pc := 72) (v := (s1.2 + 1)) (lv' := [(2, .int (s1.2 + 1)), (0, .ref (ρ k0)), (1, .int e12)]) 2 rfl (congrArg (fun z => s1.2 + z) (by decide : Int32.ofInt (1) = (1))) (by decide) rfl dX9_costOf_72 ?_
        refine Y_goto C (pc := 75) (tgt := 4) dX9_costOf_75 (by decide) ?_
        have h := Option.some.inj h
        exact Y_sub [1, 2, 0] rfl (hLp _ h.symm)
  · refine Y_iload_n C (pc := 78) 1 0 rfl rfl dX9_costOf_78 ?_
    cases h
    exact Y_iret C dX9_costOf_79

noncomputable def f_X9_numberOf_J54 (j7 : Int32) (j8 : Int32) (j9 : Int32) : Option ((Int32 × Int32) ⊕ (Int32)) := some (.inl ((j9 + j8), (j7 + 1)))
noncomputable def f_X9_numberOf_L21 (σ : Sg) (k0 : Nat) (s1 : Int32 × Int32) : (Int32 × Int32) → Option ((Int32 × Int32) ⊕ (Int32)) := fun s3 => (ald σ (k0 + 1) (0 : Int32)).bind fun v4 => if v4 ≤ s3.2 then (some (.inr s3.1)) else ((ald σ (k0 + 5) s3.2).bind fun v5 => (ald σ (k0 + 5) s1.2).bind fun v6 => if v6 ≤ v5 then (f_X9_numberOf_J54 s3.2 ((0 : Int32)) s3.1) else (f_X9_numberOf_J54 s3.2 ((1 : Int32)) s3.1))
noncomputable def f_X9_numberOf_L4 (σ : Sg) (k0 : Nat) : (Int32 × Int32) → Option ((Int32 × Int32) ⊕ (Int32)) := fun s1 => (ald σ (k0 + 1) (0 : Int32)).bind fun v2 => if v2 ≤ s1.2 then (some (.inr s1.1)) else ((lo (f_X9_numberOf_L21 σ k0 s1) ((0 : Int32), (s1.2 + (1 : Int32)))).bind fun e12 => (ald σ (k0 + 1) (0 : Int32)).bind fun v13 => some (.inl (((s1.1 * (v13 - s1.2)) + e12), (s1.2 + 1))))
noncomputable def f_X9_numberOf (σ : Sg) (k0 : Nat) : Option (Int32) := (lo (f_X9_numberOf_L4 σ k0) ((0 : Int32), (0 : Int32))).bind fun e15 => some e15
set_option maxRecDepth 100000 in
set_option maxHeartbeats 4000000 in
theorem c_X9_numberOf {l : Launch} {D : va_G} {cA ρ : Nat → Nat} {σ : Sg} {τ : Tg} {k0 : Nat} (hk0 : kd k0 = (0, 9)) {r : Int32} (h : f_X9_numberOf σ k0 = some r) : Ct l yX9_numberOf cX9_numberOf 5 (some .int) 0 0 D cA ρ A0 [.ref (ρ k0)] σ τ (some (.int r)) σ τ := by
  refine Ct_of (by decide +kernel) (Nat.le_of_ble_eq_true rfl) (fun p e s m args below meth c C => ?_)
  have C : Ctx p l s m args meth c cX9_numberOf RX9 5 (some .int) D cA ρ A0 := C
  unfold f_X9_numberOf at h
  refine Y_sub [0] (lv' := [(0, .ref (ρ k0))]) rfl ?_
  refine Y_iconst C (pc := 0) (v := (0 : Int32)) (by decide) dX9_numberOf_0 ?_
  refine Y_istore_n C (pc := 1) (lv' := [(1, .int (0 : Int32)), (0, .ref (ρ k0))]) 1 rfl (by decide) rfl dX9_numberOf_1 ?_
  refine Y_iconst C (pc := 2) (v := (0 : Int32)) (by decide) dX9_numberOf_2 ?_
  refine Y_istore_n C (pc := 3) (lv' := [(2, .int (0 : Int32)), (1, .int (0 : Int32)), (0, .ref (ρ k0))]) 2 rfl (by decide) rfl dX9_numberOf_3 ?_
  obtain ⟨e15, he15, h⟩ := Option.bind_eq_some_iff.mp h
  refine Y_sub [2, 1, 0] (lv' := [(0, .ref (ρ k0)), (1, .int (0 : Int32)), (2, .int (0 : Int32))]) rfl ?_
  refine lo_rule (f := (f_X9_numberOf_L4 σ k0)) (YS := fun s1 => Y p l e (Rm 0 0) s m args below meth c 5 D cA ρ A0 0 0 (MQ below (QC D cA ρ A0 (some (.int r)) σ τ) args s 0 0 A0) σ τ 4 [(0, .ref (ρ k0)), (1, .int s1.1), (2, .int s1.2)] []) (YE := fun e15 => Y p l e (Rm 0 0) s m args below meth c 5 D cA ρ A0 0 0 (MQ below (QC D cA ρ A0 (some (.int r)) σ τ) args s 0 0 A0) σ τ 81 [(1, .int e15)] []) ?_ he15 ?_
  · intro s1 x h hLp hE
    unfold f_X9_numberOf_L4 at h
    refine Y_iload_n C (pc := 4) 2 2 rfl rfl dX9_numberOf_4 ?_
    refine Y_aload_n C (pc := 5) 0 0 rfl rfl dX9_numberOf_5 ?_
    refine Y_getR C (pc := 6) hk0 q_fi_RX9_7 (by decide) dX9_numberOf_6 ?_
    refine Y_iconst C (pc := 9) (v := (0 : Int32)) (by decide) dX9_numberOf_9 ?_
    obtain ⟨v2, hv2, h⟩ := Option.bind_eq_some_iff.mp h
    refine Y_iald C (pc := 10) (q_kr_9_0 hk0) hv2 dX9_numberOf_10 ?_
    refine Y_icmp_ge C (pc := 11) (tgt := 81) dX9_numberOf_11 (by decide) (fun c14 => ?_) (fun c14 => ?_)
    · rw [if_pos c14] at h
      have h := Option.some.inj h
      exact Y_sub [1] rfl (hE _ h.symm)
    · rw [if_neg c14] at h
      refine Y_iconst C (pc := 14) (v := (0 : Int32)) (by decide) dX9_numberOf_14 ?_
      refine Y_istore_n C (pc := 15) (lv' := [(3, .int (0 : Int32)), (0, .ref (ρ k0)), (1, .int s1.1), (2, .int s1.2)]) 3 rfl (by decide) rfl dX9_numberOf_15 ?_
      refine Y_iload_n C (pc := 16) 2 3 rfl rfl dX9_numberOf_16 ?_
      refine Y_iconst C (pc := 17) (v := (1 : Int32)) (by decide) dX9_numberOf_17 ?_
      refine Y_iadd C (pc := 18) dX9_numberOf_18 ?_
      refine Y_istore C (pc := 19) (lv' := [(4, .int (s1.2 + (1 : Int32))), (3, .int (0 : Int32)), (0, .ref (ρ k0)), (1, .int s1.1), (2, .int s1.2)]) (by decide) rfl dX9_numberOf_19 ?_
      obtain ⟨e12, he12, h⟩ := Option.bind_eq_some_iff.mp h
      refine Y_sub [2, 3, 4, 1, 0] (lv' := [(0, .ref (ρ k0)), (1, .int s1.1), (2, .int s1.2), (3, .int (0 : Int32)), (4, .int (s1.2 + (1 : Int32)))]) rfl ?_
      refine lo_rule (f := (f_X9_numberOf_L21 σ k0 s1)) (YS := fun s3 => Y p l e (Rm 0 0) s m args below meth c 5 D cA ρ A0 0 0 (MQ below (QC D cA ρ A0 (some (.int r)) σ τ) args s 0 0 A0) σ τ 21 [(0, .ref (ρ k0)), (1, .int s1.1), (2, .int s1.2), (3, .int s3.1), (4, .int s3.2)] []) (YE := fun e12 => Y p l e (Rm 0 0) s m args below meth c 5 D cA ρ A0 0 0 (MQ below (QC D cA ρ A0 (some (.int r)) σ τ) args s 0 0 A0) σ τ 62 [(0, .ref (ρ k0)), (1, .int s1.1), (2, .int s1.2), (3, .int e12)] []) ?_ he12 ?_
      · intro s3 x h hLp hE
        unfold f_X9_numberOf_L21 at h
        have hJ54 : ∀ (j7 : Int32) (j8 : Int32) (j9 : Int32), f_X9_numberOf_J54 j7 j8 j9 = some x → Y p l e (Rm 0 0) s m args below meth c 5 D cA ρ A0 0 0 (MQ below (QC D cA ρ A0 (some (.int r)) σ τ) args s 0 0 A0) σ τ 54 [(0, .ref (ρ k0)), (1, .int s1.1), (2, .int s1.2), (4, .int j7)] [.int j8, .int j9] := by
          intro j7 j8 j9 h
          unfold f_X9_numberOf_J54 at h
          refine Y_iadd C (pc := 54) dX9_numberOf_54 ?_
          refine Y_istore_n C (pc := 55) (lv' := [(3, .int (j9 + j8)), (0, .ref (ρ k0)), (1, .int s1.1), (2, .int s1.2), (4, .int j7)]) 3 rfl (by decide) rfl dX9_numberOf_55 ?_
          refine Y_iinc C (pc := 56) (v := (j7 + 1)) (lv' := [(4, .int (j7 + 1)), (3, .int (j9 + j8)), (0, .ref (ρ k0)), (1, .int s1.1), (2, .int s1.2)]) 4 rfl (congrArg (fun z => j7 + z) (by decide : Int32.ofInt (1) = (1))) (by decide) rfl dX9_numberOf_56 ?_
          refine Y_goto C (pc := 59) (tgt := 21) dX9_numberOf_59 (by decide) ?_
          have h := Option.some.inj h
          exact Y_sub [2, 3, 4, 1, 0] rfl (hLp _ h.symm)
        refine Y_iload C (pc := 21) 4 rfl dX9_numberOf_21 ?_
        refine Y_aload_n C (pc := 23) 0 0 rfl rfl dX9_numberOf_23 ?_
        refine Y_getR C (pc := 24) hk0 q_fi_RX9_7 (by decide) dX9_numberOf_24 ?_
        refine Y_iconst C (pc := 27) (v := (0 : Int32)) (by decide) dX9_numberOf_27 ?_
        obtain ⟨v4, hv4, h⟩ := Option.bind_eq_some_iff.mp h
        refine Y_iald C (pc := 28) (q_kr_9_0 hk0) hv4 dX9_numberOf_28 ?_
        refine Y_icmp_ge C (pc := 29) (tgt := 62) dX9_numberOf_29 (by decide) (fun c11 => ?_) (fun c11 => ?_)
        · rw [if_pos c11] at h
          have h := Option.some.inj h
          exact Y_sub [0, 1, 2, 3] rfl (hE _ h.symm)
        · rw [if_neg c11] at h
          refine Y_iload_n C (pc := 32) 3 3 rfl rfl dX9_numberOf_32 ?_
          refine Y_aload_n C (pc := 33) 0 0 rfl rfl dX9_numberOf_33 ?_
          refine Y_getR C (pc := 34) hk0 q_fi_RX9_22 (by decide) dX9_numberOf_34 ?_
          refine Y_iload C (pc := 37) 4 rfl dX9_numberOf_37 ?_
          obtain ⟨v5, hv5, h⟩ := Option.bind_eq_some_iff.mp h
          refine Y_iald C (pc := 39) (q_kr_9_7 hk0) hv5 dX9_numberOf_39 ?_
          refine Y_aload_n C (pc := 40) 0 0 rfl rfl dX9_numberOf_40 ?_
          refine Y_getR C (pc := 41) hk0 q_fi_RX9_22 (by decide) dX9_numberOf_41 ?_
          refine Y_iload_n C (pc := 44) 2 2 rfl rfl dX9_numberOf_44 ?_
          obtain ⟨v6, hv6, h⟩ := Option.bind_eq_some_iff.mp h
          refine Y_iald C (pc := 45) (q_kr_9_7 hk0) hv6 dX9_numberOf_45 ?_
          refine Y_icmp_ge C (pc := 46) (tgt := 53) dX9_numberOf_46 (by decide) (fun c10 => ?_) (fun c10 => ?_)
          · rw [if_pos c10] at h
            refine Y_iconst C (pc := 53) (v := (0 : Int32)) (by decide) dX9_numberOf_53 ?_
            exact Y_sub [0, 1, 2, 4] rfl (hJ54 _ _ _ h)
          · rw [if_neg c10] at h
            refine Y_iconst C (pc := 49) (v := (1 : Int32)) (by decide) dX9_numberOf_49 ?_
            refine Y_goto C (pc := 50) (tgt := 54) dX9_numberOf_50 (by decide) ?_
            exact Y_sub [0, 1, 2, 4] rfl (hJ54 _ _ _ h)
      · refine Y_iload_n C (pc := 62) 1 1 rfl rfl dX9_numberOf_62 ?_
        refine Y_aload_n C (pc := 63) 0 0 rfl rfl dX9_numberOf_63 ?_
        refine Y_getR C (pc := 64) hk0 q_fi_RX9_7 (by decide) dX9_numberOf_64 ?_
        refine Y_iconst C (pc := 67) (v := (0 : Int32)) (by decide) dX9_numberOf_67 ?_
        obtain ⟨v13, hv13, h⟩ := Option.bind_eq_some_iff.mp h
        refine Y_iald C (pc := 68) (q_kr_9_0 hk0) hv13 dX9_numberOf_68 ?_
        refine Y_iload_n C (pc := 69) 2 2 rfl rfl dX9_numberOf_69 ?_
        refine Y_isub C (pc := 70) dX9_numberOf_70 ?_
        refine Y_imul C (pc := 71) dX9_numberOf_71 ?_
        refine Y_iload_n C (pc := 72) 3 3 rfl rfl dX9_numberOf_72 ?_
        refine Y_iadd C (pc := 73) dX9_numberOf_73 ?_
        refine Y_istore_n C (pc := 74) (lv' := [(1, .int ((s1.1 * (v13 - s1.2)) + e12)), (0, .ref (ρ k0)), (2, .int s1.2), (3, .int e12)]) 1 rfl (by decide) rfl dX9_numberOf_74 ?_
        refine Y_iinc C (pc := 75) (v := (s1.2 + 1)) (lv' := [(2, .int (s1.2 + 1)), (1, .int ((s1.1 * (v13 - s1.2)) + e12)), (0, .ref (ρ k0)), (3, .int e12)]) 2 rfl (congrArg (fun z => s1.2 + z) (by decide : Int32.ofInt (1) = (1))) (by decide) rfl dX9_numberOf_75 ?_
        refine Y_goto C (pc := 78) (tgt := 4) dX9_numberOf_78 (by decide) ?_
        have h := Option.some.inj h
        exact Y_sub [2, 1, 0] rfl (hLp _ h.symm)
  · refine Y_iload_n C (pc := 81) 1 0 rfl rfl dX9_numberOf_81 ?_
    cases h
    exact Y_iret C dX9_numberOf_82

