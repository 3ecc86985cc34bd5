noncomputable def f_X9_fixedCost (σ : Sg) (k0 : Nat) : Option (Int32 × Sg) := (f_X9_looks σ k0).bind fun v1 => (f_X9_fixedPart v1 k0).bind fun v2 => (f_X9_tells v1 k0 v2).bind fun v3 => some (v3.1, v3.2)
set_option maxRecDepth 100000 in
set_option maxHeartbeats 4000000 in
theorem c_X9_fixedCost {l : Launch} {D : va_G} {cA ρ : Nat → Nat} {σ : Sg} {τ : Tg} {k0 : Nat} (hI : Inj ρ) (hk0 : kd k0 = (0, 9)) {r : Int32 × Sg} (h : f_X9_fixedCost σ k0 = some r) : Ct l yX9_fixedCost cX9_fixedCost 1 (some .int) 3 67 D cA ρ (Aw ρ) [.ref (ρ k0)] σ τ (some (.int r.1)) r.2 τ := by
  refine Ct_of (by decide +kernel) (Nat.le_of_ble_eq_true rfl) (fun p e s m args below meth c C => ?_)
  have C : Ctx p l s m args meth c cX9_fixedCost RX9 1 (some .int) D cA ρ (Aw ρ) := C
  have hW : Wr ρ (Aw ρ) := ⟨hI, fun k hk => ⟨k, hk, rfl⟩⟩
  unfold f_X9_fixedCost at h
  refine Y_sub [0] (lv' := [(0, .ref (ρ k0))]) rfl ?_
  refine Y_aload_n C (pc := 0) 0 0 rfl rfl dX9_fixedCost_0 ?_
  obtain ⟨v1, hv1, h⟩ := Option.bind_eq_some_iff.mp h
  refine Y_callV C [] [] [] hk0 rfl rfl (c_X9_looks hI hk0 hv1) (fun _ h => h) q_cw_yX9_looks q_ml_RX9_177 ⟨q_im_yX9_looks, q_se_yX9_looks⟩ ⟨⟨Nat.le_of_ble_eq_true rfl, Nat.le_of_ble_eq_true rfl⟩, ⟨Nat.zero_le _, Nat.zero_le _⟩, Nat.le_of_ble_eq_true rfl⟩ rfl rfl rfl dX9_fixedCost_1 ?_
  refine Y_aload_n C (pc := 4) 0 0 rfl rfl dX9_fixedCost_4 ?_
  refine Y_aload_n C (pc := 5) 0 0 rfl rfl dX9_fixedCost_5 ?_
  obtain ⟨v2, hv2, h⟩ := Option.bind_eq_some_iff.mp h
  refine Y_callV C [] [.ref (ρ k0)] [.int v2, .ref (ρ k0)] hk0 rfl rfl (c_X9_fixedPart hk0 hv2) (fun _ h => h.elim) q_cw_yX9_fixedPart q_ml_RX9_190 ⟨q_im_yX9_fixedPart, q_se_yX9_fixedPart⟩ ⟨⟨Nat.le_of_ble_eq_true rfl, Nat.le_of_ble_eq_true rfl⟩, ⟨Nat.zero_le _, Nat.zero_le _⟩, Nat.le_of_ble_eq_true rfl⟩ rfl rfl rfl dX9_fixedCost_6 ?_
  obtain ⟨v3, hv3, h⟩ := Option.bind_eq_some_iff.mp h
  refine Y_callV C [.int v2] [] [.int v3.1] hk0 rfl rfl (c_X9_tells hI hk0 hv3) (fun _ h => h) q_cw_yX9_tells q_ml_RX9_82 ⟨q_im_yX9_tells, q_se_yX9_tells⟩ ⟨⟨Nat.le_of_ble_eq_true rfl, Nat.le_of_ble_eq_true rfl⟩, ⟨Nat.zero_le _, Nat.zero_le _⟩, Nat.le_of_ble_eq_true rfl⟩ rfl rfl rfl dX9_fixedCost_9 ?_
  cases h
  exact Y_iret C dX9_fixedCost_12

noncomputable def f_X9_sorts_L9 (k0 : Nat) : (Int32 × Sg) → Option ((Int32 × Sg) ⊕ (Sg)) := fun s2 => if s2.1 ≤ (0 : Int32) then (some (.inr s2.2)) else ((ald s2.2 k0 s2.1).bind fun v3 => (ald s2.2 k0 (s2.1 - (1 : Int32))).bind fun v4 => if v4 ≤ v3 then (some (.inr s2.2)) else ((ald s2.2 k0 s2.1).bind fun v5 => (ald s2.2 k0 (s2.1 - (1 : Int32))).bind fun v6 => (ast s2.2 k0 s2.1 v6).bind fun s7 => (ast s7 k0 (s2.1 - (1 : Int32)) v5).bind fun s8 => some (.inl ((s2.1 + (-1)), s8))))
noncomputable def f_X9_sorts_L2 (i1 : Int32) (k0 : Nat) : (Int32 × Sg) → Option ((Int32 × Sg) ⊕ (Sg)) := fun s1 => if i1 ≤ s1.1 then (some (.inr s1.2)) else ((lo (f_X9_sorts_L9 k0) (s1.1, s1.2)).bind fun e11 => some (.inl ((s1.1 + 1), e11)))
noncomputable def f_X9_sorts (σ : Sg) (k0 : Nat) (i1 : Int32) : Option (Sg) := (lo (f_X9_sorts_L2 i1 k0) ((1 : Int32), σ)).bind fun e13 => some e13
set_option maxRecDepth 100000 in
set_option maxHeartbeats 4000000 in
theorem c_X9_sorts {l : Launch} {D : va_G} {cA ρ : Nat → Nat} {σ : Sg} {τ : Tg} {k0 : Nat} {i1 : Int32} (hI : Inj ρ) (hk0 : (kd k0).1 = 1) (hn0 : k0 < 97) {r : Sg} (h : f_X9_sorts σ k0 i1 = some r) : Ct l yX9_sorts cX9_sorts 5 none 0 0 D cA ρ (Aw ρ) [.ref (ρ k0), .int i1] σ τ none r τ := by
  refine Ct_of (by decide +kernel) (Nat.le_of_ble_eq_true rfl) (fun p e s m args below meth c C => ?_)
  have C : Ctx p l s m args meth c cX9_sorts RX9 5 none D cA ρ (Aw ρ) := C
  have hW : Wr ρ (Aw ρ) := ⟨hI, fun k hk => ⟨k, hk, rfl⟩⟩
  unfold f_X9_sorts at h
  refine Y_sub [0, 1] (lv' := [(0, .ref (ρ k0)), (1, .int i1)]) rfl ?_
  refine Y_iconst C (pc := 0) (v := (1 : Int32)) (by decide) dX9_sorts_0 ?_
  refine Y_istore_n C (pc := 1) (lv' := [(2, .int (1 : Int32)), (0, .ref (ρ k0)), (1, .int i1)]) 2 rfl (by decide) rfl dX9_sorts_1 ?_
  obtain ⟨e13, he13, h⟩ := Option.bind_eq_some_iff.mp h
  refine Y_sub [1, 2, 0] (lv' := [(0, .ref (ρ k0)), (1, .int i1), (2, .int (1 : Int32))]) rfl ?_
  refine lo_rule (f := (f_X9_sorts_L2 i1 k0)) (YS := fun s1 => Y p l e (Rm 0 0) s m args below meth c 5 D cA ρ (Aw ρ) 0 0 (MQ below (QC D cA ρ (Aw ρ) none r τ) args s 0 0 (Aw ρ)) s1.2 τ 2 [(0, .ref (ρ k0)), (1, .int i1), (2, .int s1.1)] []) (YE := fun e13 => Y p l e (Rm 0 0) s m args below meth c 5 D cA ρ (Aw ρ) 0 0 (MQ below (QC D cA ρ (Aw ρ) none r τ) args s 0 0 (Aw ρ)) e13 τ 56 [] []) ?_ he13 ?_
  · intro s1 x h hLp hE
    unfold f_X9_sorts_L2 at h
    refine Y_iload_n C (pc := 2) 2 2 rfl rfl dX9_sorts_2 ?_
    refine Y_iload_n C (pc := 3) 1 1 rfl rfl dX9_sorts_3 ?_
    refine Y_icmp_ge C (pc := 4) (tgt := 56) dX9_sorts_4 (by decide) (fun c12 => ?_) (fun c12 => ?_)
    · rw [if_pos c12] at h
      have h := Option.some.inj h
      exact Y_sub [] rfl (hE _ h.symm)
    · rw [if_neg c12] at h
      refine Y_iload_n C (pc := 7) 2 2 rfl rfl dX9_sorts_7 ?_
      refine Y_istore_n C (pc := 8) (lv' := [(3, .int s1.1), (0, .ref (ρ k0)), (1, .int i1), (2, .int s1.1)]) 3 rfl (by decide) rfl dX9_sorts_8 ?_
      obtain ⟨e11, he11, h⟩ := Option.bind_eq_some_iff.mp h
      refine Y_sub [1, 2, 3, 0] (lv' := [(0, .ref (ρ k0)), (1, .int i1), (2, .int s1.1), (3, .int s1.1)]) rfl ?_
      refine lo_rule (f := (f_X9_sorts_L9 k0)) (YS := fun s2 => Y p l e (Rm 0 0) s m args below meth c 5 D cA ρ (Aw ρ) 0 0 (MQ below (QC D cA ρ (Aw ρ) none r τ) args s 0 0 (Aw ρ)) s2.2 τ 9 [(0, .ref (ρ k0)), (1, .int i1), (2, .int s1.1), (3, .int s2.1)] []) (YE := fun e11 => Y p l e (Rm 0 0) s m args below meth c 5 D cA ρ (Aw ρ) 0 0 (MQ below (QC D cA ρ (Aw ρ) none r τ) args s 0 0 (Aw ρ)) e11 τ 50 [(0, .ref (ρ k0)), (1, .int i1), (2, .int s1.1)] []) ?_ he11 ?_
      · intro s2 x h hLp hE
        unfold f_X9_sorts_L9 at h
        refine Y_iload_n C (pc := 9) 3 3 rfl rfl dX9_sorts_9 ?_
        refine Y_if_le C (pc := 10) (tgt := 50) dX9_sorts_10 (by decide) (fun c10 => ?_) (fun c10 => ?_)
        · rw [if_pos c10] at h
          have h := Option.some.inj h
          exact Y_sub [0, 1, 2] rfl (hE _ h.symm)
        · rw [if_neg c10] at h
          refine Y_aload_n C (pc := 13) 0 0 rfl rfl dX9_sorts_13 ?_
          refine Y_iload_n C (pc := 14) 3 3 rfl rfl dX9_sorts_14 ?_
          obtain ⟨v3, hv3, h⟩ := Option.bind_eq_some_iff.mp h
          refine Y_iald C (pc := 15) hk0 hv3 dX9_sorts_15 ?_
          refine Y_aload_n C (pc := 16) 0 0 rfl rfl dX9_sorts_16 ?_
          refine Y_iload_n C (pc := 17) 3 3 rfl rfl dX9_sorts_17 ?_
          refine Y_iconst C (pc := 18) (v := (1 : Int32)) (by decide) dX9_sorts_18 ?_
          refine Y_isub C (pc := 19) dX9_sorts_19 ?_
          obtain ⟨v4, hv4, h⟩ := Option.bind_eq_some_iff.mp h
          refine Y_iald C (pc := 20) hk0 hv4 dX9_sorts_20 ?_
          refine Y_icmp_ge C (pc := 21) (tgt := 50) dX9_sorts_21 (by decide) (fun c9 => ?_) (fun c9 => ?_)
          · rw [if_pos c9] at h
            have h := Option.some.inj h
            exact Y_sub [0, 1, 2] rfl (hE _ h.symm)
          · rw [if_neg c9] at h
            refine Y_aload_n C (pc := 24) 0 0 rfl rfl dX9_sorts_24 ?_
            refine Y_iload_n C (pc := 25) 3 3 rfl rfl dX9_sorts_25 ?_
            obtain ⟨v5, hv5, h⟩ := Option.bind_eq_some_iff.mp h
            refine Y_iald C (pc := 26) hk0 hv5 dX9_sorts_26 ?_
            refine Y_istore C (pc := 27) (lv' := [(4, .int v5), (0, .ref (ρ k0)), (1, .int i1), (2, .int s1.1), (3, .int s2.1)]) (by decide) rfl dX9_sorts_27 ?_
            refine Y_aload_n C (pc := 29) 0 1 rfl rfl dX9_sorts_29 ?_
            refine Y_iload_n C (pc := 30) 3 4 rfl rfl dX9_sorts_30 ?_
            refine Y_aload_n C (pc := 31) 0 1 rfl rfl dX9_sorts_31 ?_
            refine Y_iload_n C (pc := 32) 3 4 rfl rfl dX9_sorts_32 ?_
            refine Y_iconst C (pc := 33) (v := (1 : Int32)) (by decide) dX9_sorts_33 ?_
            refine Y_isub C (pc := 34) dX9_sorts_34 ?_
            obtain ⟨v6, hv6, h⟩ := Option.bind_eq_some_iff.mp h
            refine Y_iald C (pc := 35) hk0 hv6 dX9_sorts_35 ?_
            obtain ⟨s7, hs7, h⟩ := Option.bind_eq_some_iff.mp h
            refine Y_iast C (pc := 36) hW hk0 hn0 hs7 dX9_sorts_36 ?_
            refine Y_aload_n C (pc := 37) 0 1 rfl rfl dX9_sorts_37 ?_
            refine Y_iload_n C (pc := 38) 3 4 rfl rfl dX9_sorts_38 ?_
            refine Y_iconst C (pc := 39) (v := (1 : Int32)) (by decide) dX9_sorts_39 ?_
            refine Y_isub C (pc := 40) dX9_sorts_40 ?_
            refine Y_iload C (pc := 41) 0 rfl dX9_sorts_41 ?_
            obtain ⟨s8, hs8, h⟩ := Option.bind_eq_some_iff.mp h
            refine Y_iast C (pc := 43) hW hk0 hn0 hs8 dX9_sorts_43 ?_
            refine Y_iinc C (pc := 44) (v := (s2.1 + (-1))) (lv' := [(3, .int (s2.1 + (-1))), (4, .int v5), (0, .ref (ρ k0)), (1, .int i1), (2, .int s1.1)]) 4 rfl (congrArg (fun z => s2.1 + z) (by decide : Int32.ofInt (-1) = (-1))) (by decide) rfl dX9_sorts_44 ?_
            refine Y_goto C (pc := 47) (tgt := 9) dX9_sorts_47 (by decide) ?_
            have h := Option.some.inj h
            exact Y_sub [2, 3, 4, 0] rfl (hLp _ h.symm)
      · refine Y_iinc C (pc := 50) (v := (s1.1 + 1)) (lv' := [(2, .int (s1.1 + 1)), (0, .ref (ρ k0)), (1, .int i1)]) 2 rfl (congrArg (fun z => s1.1 + z) (by decide : Int32.ofInt (1) = (1))) (by decide) rfl dX9_sorts_50 ?_
        refine Y_goto C (pc := 53) (tgt := 2) dX9_sorts_53 (by decide) ?_
        have h := Option.some.inj h
        exact Y_sub [1, 2, 0] rfl (hLp _ h.symm)
  · cases h
    exact Y_vret C dX9_sorts_56

noncomputable def f_X9_leastProduct_J49 (j3 : Int32) (j4 : Int32) (sj5 : Sg) : Option ((Int32 × Int32 × Sg) ⊕ (Int32 × Sg)) := some (.inl (j3, (j4 + 1), sj5))
noncomputable def f_X9_leastProduct_L5 (k0 : Nat) (i1 : Int32) : (Int32 × Int32 × Sg) → Option ((Int32 × Int32 × Sg) ⊕ (Int32 × Sg)) := fun s1 => (ald s1.2.2 (k0 + 1) (0 : Int32)).bind fun v2 => if v2 ≤ s1.2.1 then (some (.inr (s1.1, s1.2.2))) else (if s1.2.1 = i1 then (f_X9_leastProduct_J49 s1.1 s1.2.1 s1.2.2) else ((ald s1.2.2 (k0 + 6) s1.2.1).bind fun v6 => if v6 = (-1 : Int32) then ((f_X9_flow s1.2.2 k0 i1 s1.2.1).bind fun v7 => (ast s1.2.2 (k0 + 7) s1.1 v7).bind fun s8 => f_X9_leastProduct_J49 ((s1.1 + 1)) s1.2.1 s8) else (f_X9_leastProduct_J49 s1.1 s1.2.1 s1.2.2)))
noncomputable def f_X9_leastProduct_J104 (j15 : Int32) (j16 : Int32) (sj17 : Sg) : Option ((Int32 × Int32 × Sg) ⊕ (Int32 × Sg)) := some (.inl (j15, (j16 + 1), sj17))
noncomputable def f_X9_leastProduct_L61 (k0 : Nat) (i2 : Int32) : (Int32 × Int32 × Sg) → Option ((Int32 × Int32 × Sg) ⊕ (Int32 × Sg)) := fun s13 => (ald s13.2.2 (k0 + 1) (0 : Int32)).bind fun v14 => if v14 ≤ s13.2.1 then (some (.inr (s13.1, s13.2.2))) else (if s13.2.1 = i2 then (f_X9_leastProduct_J104 s13.1 s13.2.1 s13.2.2) else ((f_X9_isTaken s13.2.2 k0 s13.2.1).bind fun v18 => if v18 = (0 : Int32) then ((f_X9_far s13.2.2 k0 i2 s13.2.1).bind fun v19 => (ast s13.2.2 (k0 + 8) s13.1 v19).bind fun s20 => f_X9_leastProduct_J104 ((s13.1 + 1)) s13.2.1 s20) else (f_X9_leastProduct_J104 s13.1 s13.2.1 s13.2.2)))
noncomputable def f_X9_leastProduct_L133 (e12 : Int32 × Sg) (v26 : Sg) (k0 : Nat) : (Int32 × Int32) → Option ((Int32 × Int32) ⊕ (Int32)) := fun s27 => if e12.1 ≤ s27.2 then (some (.inr s27.1)) else ((ald v26 (k0 + 7) s27.2).bind fun v28 => (ald v26 (k0 + 8) ((e12.1 - (1 : Int32)) - s27.2)).bind fun v29 => some (.inl ((s27.1 + (v28 * v29)), (s27.2 + 1))))
noncomputable def f_X9_leastProduct (σ : Sg) (k0 : Nat) (i1 : Int32) (i2 : Int32) : Option (Int32 × Sg) := (lo (f_X9_leastProduct_L5 k0 i1) ((0 : Int32), (0 : Int32), σ)).bind fun e12 => (lo (f_X9_leastProduct_L61 k0 i2) ((0 : Int32), (0 : Int32), e12.2)).bind fun e24 => (f_X9_sorts e24.2 ((k0 + 7)) e12.1).bind fun v25 => (f_X9_sorts v25 ((k0 + 8)) e24.1).bind fun v26 => (lo (f_X9_leastProduct_L133 e12 v26 k0) ((0 : Int32), (0 : Int32))).bind fun e31 => some (e31, v26)
set_option maxRecDepth 100000 in
set_option maxHeartbeats 4000000 in
theorem c_X9_leastProduct {l : Launch} {D : va_G} {cA ρ : Nat → Nat} {σ : Sg} {τ : Tg} {k0 : Nat} {i1 : Int32} {i2 : Int32} (hI : Inj ρ) (hk0 : kd k0 = (0, 9)) {r : Int32 × Sg} (h : f_X9_leastProduct σ k0 i1 i2 = some r) : Ct l yX9_leastProduct cX9_leastProduct 7 (some .int) 2 44 D cA ρ (Aw ρ) [.ref (ρ k0), .int i1, .int i2] σ τ (some (.int r.1)) r.2 τ := by
  refine Ct_of (by decide +kernel) (Nat.le_of_ble_eq_true rfl) (fun p e s m args below meth c C => ?_)
  have C : Ctx p l s m args meth c cX9_leastProduct RX9 7 (some .int) D cA ρ (Aw ρ) := C
  have hW : Wr ρ (Aw ρ) := ⟨hI, fun k hk => ⟨k, hk, rfl⟩⟩
  unfold f_X9_leastProduct at h
  refine Y_sub [0, 1, 2] (lv' := [(0, .ref (ρ k0)), (1, .int i1), (2, .int i2)]) rfl ?_
  refine Y_iconst C (pc := 0) (v := (0 : Int32)) (by decide) dX9_leastProduct_0 ?_
  refine Y_istore_n C (pc := 1) (lv' := [(3, .int (0 : Int32)), (0, .ref (ρ k0)), (1, .int i1), (2, .int i2)]) 3 rfl (by decide) rfl dX9_leastProduct_1 ?_
  refine Y_iconst C (pc := 2) (v := (0 : Int32)) (by decide) dX9_leastProduct_2 ?_
  refine Y_istore C (pc := 3) (lv' := [(4, .int (0 : Int32)), (3, .int (0 : Int32)), (0, .ref (ρ k0)), (1, .int i1), (2, .int i2)]) (by decide) rfl dX9_leastProduct_3 ?_
  obtain ⟨e12, he12, h⟩ := Option.bind_eq_some_iff.mp h
  refine Y_sub [2, 3, 4, 1, 0] (lv' := [(0, .ref (ρ k0)), (1, .int i1), (2, .int i2), (3, .int (0 : Int32)), (4, .int (0 : Int32))]) rfl ?_
  refine lo_rule (f := (f_X9_leastProduct_L5 k0 i1)) (YS := fun s1 => Y p l e (Rm 2 44) s m args below meth c 7 D cA ρ (Aw ρ) 0 0 (MQ below (QC D cA ρ (Aw ρ) (some (.int r.1)) r.2 τ) args s 0 0 (Aw ρ)) s1.2.2 τ 5 [(0, .ref (ρ k0)), (1, .int i1), (2, .int i2), (3, .int s1.1), (4, .int s1.2.1)] []) (YE := fun e12 => Y p l e (Rm 2 44) s m args below meth c 7 D cA ρ (Aw ρ) 0 0 (MQ below (QC D cA ρ (Aw ρ) (some (.int r.1)) r.2 τ) args s 0 0 (Aw ρ)) e12.2 τ 55 [(0, .ref (ρ k0)), (2, .int i2), (3, .int e12.1)] []) ?_ he12 ?_
  · intro s1 x h hLp hE
    unfold f_X9_leastProduct_L5 at h
    have hJ49 : ∀ (j3 : Int32) (j4 : Int32) (sj5 : Sg), f_X9_leastProduct_J49 j3 j4 sj5 = some x → Y p l e (Rm 2 44) s m args below meth c 7 D cA ρ (Aw ρ) 0 0 (MQ below (QC D cA ρ (Aw ρ) (some (.int r.1)) r.2 τ) args s 0 0 (Aw ρ)) sj5 τ 49 [(0, .ref (ρ k0)), (1, .int i1), (2, .int i2), (3, .int j3), (4, .int j4)] [] := by
      intro j3 j4 sj5 h
      unfold f_X9_leastProduct_J49 at h
      refine Y_iinc C (pc := 49) (v := (j4 + 1)) (lv' := [(4, .int (j4 + 1)), (0, .ref (ρ k0)), (1, .int i1), (2, .int i2), (3, .int j3)]) 4 rfl (congrArg (fun z => j4 + z) (by decide : Int32.ofInt (1) = (1))) (by decide) rfl dX9_leastProduct_49 ?_
      refine Y_goto C (pc := 52) (tgt := 5) dX9_leastProduct_52 (by decide) ?_
      have h := Option.some.inj h
      exact Y_sub [1, 2, 3, 4, 0] rfl (hLp _ h.symm)
    refine Y_iload C (pc := 5) 4 rfl dX9_leastProduct_5 ?_
    refine Y_aload_n C (pc := 7) 0 0 rfl rfl dX9_leastProduct_7 ?_
    refine Y_getR C (pc := 8) hk0 q_fi_RX9_7 (by decide) dX9_leastProduct_8 ?_
    refine Y_iconst C (pc := 11) (v := (0 : Int32)) (by decide) dX9_leastProduct_11 ?_
    obtain ⟨v2, hv2, h⟩ := Option.bind_eq_some_iff.mp h
    refine Y_iald C (pc := 12) (q_kr_9_0 hk0) hv2 dX9_leastProduct_12 ?_
    refine Y_icmp_ge C (pc := 13) (tgt := 55) dX9_leastProduct_13 (by decide) (fun c11 => ?_) (fun c11 => ?_)
    · rw [if_pos c11] at h
      have h := Option.some.inj h
      exact Y_sub [0, 2, 3] rfl (hE _ h.symm)
    · rw [if_neg c11] at h
      refine Y_iload C (pc := 16) 4 rfl dX9_leastProduct_16 ?_
      refine Y_iload_n C (pc := 18) 1 1 rfl rfl dX9_leastProduct_18 ?_
      refine Y_icmp_eq C (pc := 19) (tgt := 49) dX9_leastProduct_19 (by decide) (fun c10 => ?_) (fun c10 => ?_)
      · rw [if_pos c10] at h
        exact Y_sub [0, 1, 2, 3, 4] rfl (hJ49 _ _ _ h)
      · rw [if_neg c10] at h
        refine Y_aload_n C (pc := 22) 0 0 rfl rfl dX9_leastProduct_22 ?_
        refine Y_getR C (pc := 23) hk0 q_fi_RX9_25 (by decide) dX9_leastProduct_23 ?_
        refine Y_iload C (pc := 26) 4 rfl dX9_leastProduct_26 ?_
        obtain ⟨v6, hv6, h⟩ := Option.bind_eq_some_iff.mp h
        refine Y_iald C (pc := 28) (q_kr_9_8 hk0) hv6 dX9_leastProduct_28 ?_
        refine Y_iconst C (pc := 29) (v := (-1 : Int32)) (by decide) dX9_leastProduct_29 ?_
        refine Y_icmp_ne C (pc := 30) (tgt := 49) dX9_leastProduct_30 (by decide) (fun c9 => ?_) (fun c9 => ?_)
        · rw [if_neg c9] at h
          exact Y_sub [0, 1, 2, 3, 4] rfl (hJ49 _ _ _ h)
        · rw [if_pos c9] at h
          refine Y_aload_n C (pc := 33) 0 0 rfl rfl dX9_leastProduct_33 ?_
          refine Y_getR C (pc := 34) hk0 q_fi_RX9_28 (by decide) dX9_leastProduct_34 ?_
          refine Y_iload_n C (pc := 37) 3 3 rfl rfl dX9_leastProduct_37 ?_
          refine Y_aload_n C (pc := 38) 0 0 rfl rfl dX9_leastProduct_38 ?_
          refine Y_iload_n C (pc := 39) 1 1 rfl rfl dX9_leastProduct_39 ?_
          refine Y_iload C (pc := 40) 4 rfl dX9_leastProduct_40 ?_
          obtain ⟨v7, hv7, h⟩ := Option.bind_eq_some_iff.mp h
          refine Y_callV C [.int i1, .int s1.2.1] [.int s1.1, .ref (ρ (k0 + 7))] [.int v7, .int s1.1, .ref (ρ (k0 + 7))] hk0 rfl rfl (c_X9_flow hk0 hv7) (fun _ h => h.elim) q_cw_yX9_flow q_ml_RX9_123 ⟨q_im_yX9_flow, q_se_yX9_flow⟩ ⟨⟨Nat.le_of_ble_eq_true rfl, Nat.le_of_ble_eq_true rfl⟩, ⟨Nat.zero_le _, Nat.zero_le _⟩, Nat.le_of_ble_eq_true rfl⟩ rfl rfl rfl dX9_leastProduct_42 ?_
          obtain ⟨s8, hs8, h⟩ := Option.bind_eq_some_iff.mp h
          refine Y_iast C (pc := 45) hW (q_kr_9_9 hk0) (q_lr_9_9 hk0) hs8 dX9_leastProduct_45 ?_
          refine Y_iinc C (pc := 46) (v := (s1.1 + 1)) (lv' := [(3, .int (s1.1 + 1)), (0, .ref (ρ k0)), (1, .int i1), (2, .int i2), (4, .int s1.2.1)]) 3 rfl (congrArg (fun z => s1.1 + z) (by decide : Int32.ofInt (1) = (1))) (by decide) rfl dX9_leastProduct_46 ?_
          exact Y_sub [1, 2, 3, 0, 4] rfl (hJ49 _ _ _ h)
  · refine Y_iconst C (pc := 55) (v := (0 : Int32)) (by decide) dX9_leastProduct_55 ?_
    refine Y_istore C (pc := 56) (lv' := [(4, .int (0 : Int32)), (0, .ref (ρ k0)), (2, .int i2), (3, .int e12.1)]) (by decide) rfl dX9_leastProduct_56 ?_
    refine Y_iconst C (pc := 58) (v := (0 : Int32)) (by decide) dX9_leastProduct_58 ?_
    refine Y_istore C (pc := 59) (lv' := [(5, .int (0 : Int32)), (4, .int (0 : Int32)), (0, .ref (ρ k0)), (2, .int i2), (3, .int e12.1)]) (by decide) rfl dX9_leastProduct_59 ?_
    obtain ⟨e24, he24, h⟩ := Option.bind_eq_some_iff.mp h
    refine Y_sub [2, 3, 4, 1, 0] (lv' := [(0, .ref (ρ k0)), (2, .int i2), (3, .int e12.1), (4, .int (0 : Int32)), (5, .int (0 : Int32))]) rfl ?_
    refine lo_rule (f := (f_X9_leastProduct_L61 k0 i2)) (YS := fun s13 => Y p l e (Rm 2 44) s m args below meth c 7 D cA ρ (Aw ρ) 0 0 (MQ below (QC D cA ρ (Aw ρ) (some (.int r.1)) r.2 τ) args s 0 0 (Aw ρ)) s13.2.2 τ 61 [(0, .ref (ρ k0)), (2, .int i2), (3, .int e12.1), (4, .int s13.1), (5, .int s13.2.1)] []) (YE := fun e24 => Y p l e (Rm 2 44) s m args below meth c 7 D cA ρ (Aw ρ) 0 0 (MQ below (QC D cA ρ (Aw ρ) (some (.int r.1)) r.2 τ) args s 0 0 (Aw ρ)) e24.2 τ 110 [(0, .ref (ρ k0)), (3, .int e12.1), (4, .int e24.1)] []) ?_ he24 ?_
    · intro s13 x h hLp hE
      unfold f_X9_leastProduct_L61 at h
      have hJ104 : ∀ (j15 : Int32) (j16 : Int32) (sj17 : Sg), f_X9_leastProduct_J104 j15 j16 sj17 = some x → Y p l e (Rm 2 44) s m args below meth c 7 D cA ρ (Aw ρ) 0 0 (MQ below (QC D cA ρ (Aw ρ) (some (.int r.1)) r.2 τ) args s 0 0 (Aw ρ)) sj17 τ 104 [(0, .ref (ρ k0)), (2, .int i2), (3, .int e12.1), (4, .int j15), (5, .int j16)] [] := by
        intro j15 j16 sj17 h
        unfold f_X9_leastProduct_J104 at h
        refine Y_iinc C (pc := 104) (v := (j16 + 1)) (lv' := [(5, .int (j16 + 1)), (0, .ref (ρ k0)), (2, .int i2), (3, .int e12.1), (4, .int j15)]) 4 rfl (congrArg (fun z => j16 + z) (by decide : Int32.ofInt (1) = (1))) (by decide) rfl dX9_leastProduct_104 ?_
        refine Y_goto C (pc := 107) (tgt := 61) dX9_leastProduct_107 (by decide) ?_
        have h := Option.some.inj h
        exact Y_sub [1, 2, 3, 4, 0] rfl (hLp _ h.symm)
      refine Y_iload C (pc := 61) 4 rfl dX9_leastProduct_61 ?_
      refine Y_aload_n C (pc := 63) 0 0 rfl rfl dX9_leastProduct_63 ?_
      refine Y_getR C (pc := 64) hk0 q_fi_RX9_7 (by decide) dX9_leastProduct_64 ?_
      refine Y_iconst C (pc := 67) (v := (0 : Int32)) (by decide) dX9_leastProduct_67 ?_
      obtain ⟨v14, hv14, h⟩ := Option.bind_eq_some_iff.mp h
      refine Y_iald C (pc := 68) (q_kr_9_0 hk0) hv14 dX9_leastProduct_68 ?_
      refine Y_icmp_ge C (pc := 69) (tgt := 110) dX9_leastProduct_69 (by decide) (fun c23 => ?_) (fun c23 => ?_)
      · rw [if_pos c23] at h
        have h := Option.some.inj h
        exact Y_sub [0, 2, 3] rfl (hE _ h.symm)
      · rw [if_neg c23] at h
        refine Y_iload C (pc := 72) 4 rfl dX9_leastProduct_72 ?_
        refine Y_iload_n C (pc := 74) 2 1 rfl rfl dX9_leastProduct_74 ?_
        refine Y_icmp_eq C (pc := 75) (tgt := 104) dX9_leastProduct_75 (by decide) (fun c22 => ?_) (fun c22 => ?_)
        · rw [if_pos c22] at h
          exact Y_sub [0, 1, 2, 3, 4] rfl (hJ104 _ _ _ h)
        · rw [if_neg c22] at h
          refine Y_aload_n C (pc := 78) 0 0 rfl rfl dX9_leastProduct_78 ?_
          refine Y_iload C (pc := 79) 4 rfl dX9_leastProduct_79 ?_
          obtain ⟨v18, hv18, h⟩ := Option.bind_eq_some_iff.mp h
          refine Y_callV C [.int s13.2.1] [] [.int v18] hk0 rfl rfl (c_X9_isTaken hk0 hv18) (fun _ h => h.elim) q_cw_yX9_isTaken q_ml_RX9_180 ⟨q_im_yX9_isTaken, q_se_yX9_isTaken⟩ ⟨⟨Nat.le_of_ble_eq_true rfl, Nat.le_of_ble_eq_true rfl⟩, ⟨Nat.zero_le _, Nat.zero_le _⟩, Nat.le_of_ble_eq_true rfl⟩ rfl rfl rfl dX9_leastProduct_81 ?_
          refine Y_if_ne C (pc := 84) (tgt := 104) dX9_leastProduct_84 (by decide) (fun c21 => ?_) (fun c21 => ?_)
          · rw [if_neg c21] at h
            exact Y_sub [0, 1, 2, 3, 4] rfl (hJ104 _ _ _ h)
          · rw [if_pos c21] at h
            refine Y_aload_n C (pc := 87) 0 0 rfl rfl dX9_leastProduct_87 ?_
            refine Y_getR C (pc := 88) hk0 q_fi_RX9_31 (by decide) dX9_leastProduct_88 ?_
            refine Y_iload C (pc := 91) 3 rfl dX9_leastProduct_91 ?_
            refine Y_aload_n C (pc := 93) 0 0 rfl rfl dX9_leastProduct_93 ?_
            refine Y_iload_n C (pc := 94) 2 1 rfl rfl dX9_leastProduct_94 ?_
            refine Y_iload C (pc := 95) 4 rfl dX9_leastProduct_95 ?_
            obtain ⟨v19, hv19, h⟩ := Option.bind_eq_some_iff.mp h
            refine Y_callV C [.int i2, .int s13.2.1] [.int s13.1, .ref (ρ (k0 + 8))] [.int v19, .int s13.1, .ref (ρ (k0 + 8))] hk0 rfl rfl (c_X9_far hk0 hv19) (fun _ h => h.elim) q_cw_yX9_far q_ml_RX9_126 ⟨q_im_yX9_far, q_se_yX9_far⟩ ⟨⟨Nat.le_of_ble_eq_true rfl, Nat.le_of_ble_eq_true rfl⟩, ⟨Nat.zero_le _, Nat.zero_le _⟩, Nat.le_of_ble_eq_true rfl⟩ rfl rfl rfl dX9_leastProduct_97 ?_
            obtain ⟨s20, hs20, h⟩ := Option.bind_eq_some_iff.mp h
            refine Y_iast C (pc := 100) hW (q_kr_9_10 hk0) (q_lr_9_10 hk0) hs20 dX9_leastProduct_100 ?_
            refine Y_iinc C (pc := 101) (v := (s13.1 + 1)) (lv' := [(4, .int (s13.1 + 1)), (0, .ref (ρ k0)), (2, .int i2), (3, .int e12.1), (5, .int s13.2.1)]) 3 rfl (congrArg (fun z => s13.1 + z) (by decide : Int32.ofInt (1) = (1))) (by decide) rfl dX9_leastProduct_101 ?_
            exact Y_sub [1, 2, 3, 0, 4] rfl (hJ104 _ _ _ h)
    · refine Y_aload_n C (pc := 110) 0 0 rfl rfl dX9_leastProduct_110 ?_
      refine Y_getR C (pc := 111) hk0 q_fi_RX9_28 (by decide) dX9_leastProduct_111 ?_
      refine Y_iload_n C (pc := 114) 3 1 rfl rfl dX9_leastProduct_114 ?_
      obtain ⟨v25, hv25, h⟩ := Option.bind_eq_some_iff.mp h
      refine Y_callS C [.ref (ρ (k0 + 7)), .int e12.1] [] [] (c_X9_sorts hI (q_kr_9_9 hk0) (q_lr_9_9 hk0) hv25) (fun _ h => h) q_cw_yX9_sorts q_ml_RX9_193 q_st_yX9_sorts ⟨⟨Nat.le_of_ble_eq_true rfl, Nat.le_of_ble_eq_true rfl⟩, ⟨Nat.zero_le _, Nat.zero_le _⟩, Nat.le_of_ble_eq_true rfl⟩ rfl rfl rfl dX9_leastProduct_115 ?_
      refine Y_aload_n C (pc := 118) 0 0 rfl rfl dX9_leastProduct_118 ?_
      refine Y_getR C (pc := 119) hk0 q_fi_RX9_31 (by decide) dX9_leastProduct_119 ?_
      refine Y_iload C (pc := 122) 2 rfl dX9_leastProduct_122 ?_
      obtain ⟨v26, hv26, h⟩ := Option.bind_eq_some_iff.mp h
      refine Y_callS C [.ref (ρ (k0 + 8)), .int e24.1] [] [] (c_X9_sorts hI (q_kr_9_10 hk0) (q_lr_9_10 hk0) hv26) (fun _ h => h) q_cw_yX9_sorts q_ml_RX9_193 q_st_yX9_sorts ⟨⟨Nat.le_of_ble_eq_true rfl, Nat.le_of_ble_eq_true rfl⟩, ⟨Nat.zero_le _, Nat.zero_le _⟩, Nat.le_of_ble_eq_true rfl⟩ rfl rfl rfl dX9_leastProduct_124 ?_
      refine Y_iconst C (pc := 127) (v := (0 : Int32)) (by decide) dX9_leastProduct_127 ?_
      refine Y_istore C (pc := 128) (lv' := [(5, .int (0 : Int32)), (0, .ref (ρ k0)), (3, .int e12.1), (4, .int e24.1)]) (by decide) rfl dX9_leastProduct_128 ?_
      refine Y_iconst C (pc := 130) (v := (0 : Int32)) (by decide) dX9_leastProduct_130 ?_
      refine Y_istore C (pc := 131) (lv' := [(6, .int (0 : Int32)), (5, .int (0 : Int32)), (0, .ref (ρ k0)), (3, .int e12.1), (4, .int e24.1)]) (by decide) rfl dX9_leastProduct_131 ?_
      obtain ⟨e31, he31, h⟩ := Option.bind_eq_some_iff.mp h
      refine Y_sub [2, 3, 1, 0] (lv' := [(0, .ref (ρ k0)), (3, .int e12.1), (5, .int (0 : Int32)), (6, .int (0 : Int32))]) rfl ?_
      refine lo_rule (f := (f_X9_leastProduct_L133 e12 v26 k0)) (YS := fun s27 => Y p l e (Rm 2 44) s m args below meth c 7 D cA ρ (Aw ρ) 0 0 (MQ below (QC D cA ρ (Aw ρ) (some (.int r.1)) r.2 τ) args s 0 0 (Aw ρ)) v26 τ 133 [(0, .ref (ρ k0)), (3, .int e12.1), (5, .int s27.1), (6, .int s27.2)] []) (YE := fun e31 => Y p l e (Rm 2 44) s m args below meth c 7 D cA ρ (Aw ρ) 0 0 (MQ below (QC D cA ρ (Aw ρ) (some (.int r.1)) r.2 τ) args s 0 0 (Aw ρ)) v26 τ 169 [(5, .int e31)] []) ?_ he31 ?_
      · intro s27 x h hLp hE
        unfold f_X9_leastProduct_L133 at h
        refine Y_iload C (pc := 133) 3 rfl dX9_leastProduct_133 ?_
        refine Y_iload_n C (pc := 135) 3 1 rfl rfl dX9_leastProduct_135 ?_
        refine Y_icmp_ge C (pc := 136) (tgt := 169) dX9_leastProduct_136 (by decide) (fun c30 => ?_) (fun c30 => ?_)
        · rw [if_pos c30] at h
          have h := Option.some.inj h
          exact Y_sub [2] rfl (hE _ h.symm)
        · rw [if_neg c30] at h
          refine Y_iload C (pc := 139) 2 rfl dX9_leastProduct_139 ?_
          refine Y_aload_n C (pc := 141) 0 0 rfl rfl dX9_leastProduct_141 ?_
          refine Y_getR C (pc := 142) hk0 q_fi_RX9_28 (by decide) dX9_leastProduct_142 ?_
          refine Y_iload C (pc := 145) 3 rfl dX9_leastProduct_145 ?_
          obtain ⟨v28, hv28, h⟩ := Option.bind_eq_some_iff.mp h
          refine Y_iald C (pc := 147) (q_kr_9_9 hk0) hv28 dX9_leastProduct_147 ?_
          refine Y_aload_n C (pc := 148) 0 0 rfl rfl dX9_leastProduct_148 ?_
          refine Y_getR C (pc := 149) hk0 q_fi_RX9_31 (by decide) dX9_leastProduct_149 ?_
          refine Y_iload_n C (pc := 152) 3 1 rfl rfl dX9_leastProduct_152 ?_
          refine Y_iconst C (pc := 153) (v := (1 : Int32)) (by decide) dX9_leastProduct_153 ?_
          refine Y_isub C (pc := 154) dX9_leastProduct_154 ?_
          refine Y_iload C (pc := 155) 3 rfl dX9_leastProduct_155 ?_
          refine Y_isub C (pc := 157) dX9_leastProduct_157 ?_
          obtain ⟨v29, hv29, h⟩ := Option.bind_eq_some_iff.mp h
          refine Y_iald C (pc := 158) (q_kr_9_10 hk0) hv29 dX9_leastProduct_158 ?_
          refine Y_imul C (pc := 159) dX9_leastProduct_159 ?_
          refine Y_iadd C (pc := 160) dX9_leastProduct_160 ?_
          refine Y_istore C (pc := 161) (lv' := [(5, .int (s27.1 + (v28 * v29))), (0, .ref (ρ k0)), (3, .int e12.1), (6, .int s27.2)]) (by decide) rfl dX9_leastProduct_161 ?_
          refine Y_iinc C (pc := 163) (v := (s27.2 + 1)) (lv' := [(6, .int (s27.2 + 1)), (5, .int (s27.1 + (v28 * v29))), (0, .ref (ρ k0)), (3, .int e12.1)]) 3 rfl (congrArg (fun z => s27.2 + z) (by decide : Int32.ofInt (1) = (1))) (by decide) rfl dX9_leastProduct_163 ?_
          refine Y_goto C (pc := 166) (tgt := 133) dX9_leastProduct_166 (by decide) ?_
          have h := Option.some.inj h
          exact Y_sub [2, 3, 1, 0] rfl (hLp _ h.symm)
      · refine Y_iload C (pc := 169) 0 rfl dX9_leastProduct_169 ?_
        cases h
        exact Y_iret C dX9_leastProduct_171

noncomputable def f_X9_entryOf_J92 (j13 : Int32) (j14 : Int32) (j15 : Int32) (sj16 : Sg) : Option ((Int32 × Int32) ⊕ (Int32)) := some (.inl ((j15 + j14), (j13 + 1)))
noncomputable def f_X9_entryOf_L24 (σ : Sg) (k0 : Nat) (i1 : Int32) (i2 : Int32) : (Int32 × Int32) → Option ((Int32 × Int32) ⊕ (Int32)) := fun s4 => (ald σ (k0 + 1) (0 : Int32)).bind fun v5 => if v5 ≤ s4.2 then (some (.inr s4.1)) else ((ald σ (k0 + 6) s4.2).bind fun v6 => if v6 = (-1 : Int32) then (f_X9_entryOf_J92 s4.2 ((0 : Int32)) s4.1 σ) else ((f_X9_flow σ k0 i1 s4.2).bind fun v7 => (ald σ (k0 + 6) s4.2).bind fun v8 => (f_X9_far σ k0 i2 v8).bind fun v9 => (f_X9_flow σ k0 s4.2 i1).bind fun v10 => (ald σ (k0 + 6) s4.2).bind fun v11 => (f_X9_far σ k0 v11 i2).bind fun v12 => f_X9_entryOf_J92 s4.2 (((v7 * v9) + (v10 * v12))) s4.1 σ))
noncomputable def f_X9_entryOf (σ : Sg) (k0 : Nat) (i1 : Int32) (i2 : Int32) : Option (Int32 × Sg) := (f_X9_price σ k0 i1 i2).bind fun v1 => (f_X9_flow σ k0 i1 i1).bind fun v2 => (f_X9_far σ k0 i2 i2).bind fun v3 => (lo (f_X9_entryOf_L24 σ k0 i1 i2) ((v1 + (v2 * v3)), (0 : Int32))).bind fun e19 => (f_X9_leastProduct σ k0 i1 i2).bind fun v20 => some ((e19 + v20.1), v20.2)
set_option maxRecDepth 100000 in
set_option maxHeartbeats 4000000 in
theorem c_X9_entryOf {l : Launch} {D : va_G} {cA ρ : Nat → Nat} {σ : Sg} {τ : Tg} {k0 : Nat} {i1 : Int32} {i2 : Int32} (hI : Inj ρ) (hk0 : kd k0 = (0, 9)) {r : Int32 × Sg} (h : f_X9_entryOf σ k0 i1 i2 = some r) : Ct l yX9_entryOf cX9_entryOf 5 (some .int) 3 70 D cA ρ (Aw ρ) [.ref (ρ k0), .int i1, .int i2] σ τ (some (.int r.1)) r.2 τ := by
  refine Ct_of (by decide +kernel) (Nat.le_of_ble_eq_true rfl) (fun p e s m args below meth c C => ?_)
  have C : Ctx p l s m args meth c cX9_entryOf RX9 5 (some .int) D cA ρ (Aw ρ) := C
  have hW : Wr ρ (Aw ρ) := ⟨hI, fun k hk => ⟨k, hk, rfl⟩⟩
  unfold f_X9_entryOf at h
  refine Y_sub [0, 1, 2] (lv' := [(0, .ref (ρ k0)), (1, .int i1), (2, .int i2)]) rfl ?_
  refine Y_aload_n C (pc := 0) 0 0 rfl rfl dX9_entryOf_0 ?_
  refine Y_iload_n C (pc := 1) 1 1 rfl rfl dX9_entryOf_1 ?_
  refine Y_iload_n C (pc := 2) 2 2 rfl rfl dX9_entryOf_2 ?_
  obtain ⟨v1, hv1, h⟩ := Option.bind_eq_some_iff.mp h
  refine Y_callV C [.int i1, .int i2] [] [.int v1] hk0 rfl rfl (c_X9_price hk0 hv1) (fun _ h => h.elim) q_cw_yX9_price q_ml_RX9_119 ⟨q_im_yX9_price, q_se_yX9_price⟩ ⟨⟨Nat.le_of_ble_eq_true rfl, Nat.le_of_ble_eq_true rfl⟩, ⟨Nat.zero_le _, Nat.zero_le _⟩, Nat.le_of_ble_eq_true rfl⟩ rfl rfl rfl dX9_entryOf_3 ?_
  refine Y_aload_n C (pc := 6) 0 0 rfl rfl dX9_entryOf_6 ?_
  refine Y_iload_n C (pc := 7) 1 1 rfl rfl dX9_entryOf_7 ?_
  refine Y_iload_n C (pc := 8) 1 1 rfl rfl dX9_entryOf_8 ?_
  obtain ⟨v2, hv2, h⟩ := Option.bind_eq_some_iff.mp h
  refine Y_callV C [.int i1, .int i1] [.int v1] [.int v2, .int v1] hk0 rfl rfl (c_X9_flow hk0 hv2) (fun _ h => h.elim) q_cw_yX9_flow q_ml_RX9_123 ⟨q_im_yX9_flow, q_se_yX9_flow⟩ ⟨⟨Nat.le_of_ble_eq_true rfl, Nat.le_of_ble_eq_true rfl⟩, ⟨Nat.zero_le _, Nat.zero_le _⟩, Nat.le_of_ble_eq_true rfl⟩ rfl rfl rfl dX9_entryOf_9 ?_
  refine Y_aload_n C (pc := 12) 0 0 rfl rfl dX9_entryOf_12 ?_
  refine Y_iload_n C (pc := 13) 2 2 rfl rfl dX9_entryOf_13 ?_
  refine Y_iload_n C (pc := 14) 2 2 rfl rfl dX9_entryOf_14 ?_
  obtain ⟨v3, hv3, h⟩ := Option.bind_eq_some_iff.mp h
  refine Y_callV C [.int i2, .int i2] [.int v2, .int v1] [.int v3, .int v2, .int v1] hk0 rfl rfl (c_X9_far hk0 hv3) (fun _ h => h.elim) q_cw_yX9_far q_ml_RX9_126 ⟨q_im_yX9_far, q_se_yX9_far⟩ ⟨⟨Nat.le_of_ble_eq_true rfl, Nat.le_of_ble_eq_true rfl⟩, ⟨Nat.zero_le _, Nat.zero_le _⟩, Nat.le_of_ble_eq_true rfl⟩ rfl rfl rfl dX9_entryOf_15 ?_
  refine Y_imul C (pc := 18) dX9_entryOf_18 ?_
  refine Y_iadd C (pc := 19) dX9_entryOf_19 ?_
  refine Y_istore_n C (pc := 20) (lv' := [(3, .int (v1 + (v2 * v3))), (0, .ref (ρ k0)), (1, .int i1), (2, .int i2)]) 3 rfl (by decide) rfl dX9_entryOf_20 ?_
  refine Y_iconst C (pc := 21) (v := (0 : Int32)) (by decide) dX9_entryOf_21 ?_
  refine Y_istore C (pc := 22) (lv' := [(4, .int (0 : Int32)), (3, .int (v1 + (v2 * v3))), (0, .ref (ρ k0)), (1, .int i1), (2, .int i2)]) (by decide) rfl dX9_entryOf_22 ?_
  obtain ⟨e19, he19, h⟩ := Option.bind_eq_some_iff.mp h
  refine Y_sub [2, 3, 4, 1, 0] (lv' := [(0, .ref (ρ k0)), (1, .int i1), (2, .int i2), (3, .int (v1 + (v2 * v3))), (4, .int (0 : Int32))]) rfl ?_
  refine lo_rule (f := (f_X9_entryOf_L24 σ k0 i1 i2)) (YS := fun s4 => Y p l e (Rm 3 70) s m args below meth c 5 D cA ρ (Aw ρ) 0 0 (MQ below (QC D cA ρ (Aw ρ) (some (.int r.1)) r.2 τ) args s 0 0 (Aw ρ)) σ τ 24 [(0, .ref (ρ k0)), (1, .int i1), (2, .int i2), (3, .int s4.1), (4, .int s4.2)] []) (YE := fun e19 => Y p l e (Rm 3 70) s m args below meth c 5 D cA ρ (Aw ρ) 0 0 (MQ below (QC D cA ρ (Aw ρ) (some (.int r.1)) r.2 τ) args s 0 0 (Aw ρ)) σ τ 100 [(0, .ref (ρ k0)), (1, .int i1), (2, .int i2), (3, .int e19)] []) ?_ he19 ?_
  · intro s4 x h hLp hE
    unfold f_X9_entryOf_L24 at h
    have hJ92 : ∀ (j13 : Int32) (j14 : Int32) (j15 : Int32) (sj16 : Sg), f_X9_entryOf_J92 j13 j14 j15 sj16 = some x → Y p l e (Rm 3 70) s m args below meth c 5 D cA ρ (Aw ρ) 0 0 (MQ below (QC D cA ρ (Aw ρ) (some (.int r.1)) r.2 τ) args s 0 0 (Aw ρ)) sj16 τ 92 [(0, .ref (ρ k0)), (1, .int i1), (2, .int i2), (4, .int j13)] [.int j14, .int j15] := by
      intro j13 j14 j15 sj16 h
      unfold f_X9_entryOf_J92 at h
      refine Y_iadd C (pc := 92) dX9_entryOf_92 ?_
      refine Y_istore_n C (pc := 93) (lv' := [(3, .int (j15 + j14)), (0, .ref (ρ k0)), (1, .int i1), (2, .int i2), (4, .int j13)]) 3 rfl (by decide) rfl dX9_entryOf_93 ?_
      refine Y_iinc C (pc := 94) (v := (j13 + 1)) (lv' := [(4, .int (j13 + 1)), (3, .int (j15 + j14)), (0, .ref (ρ k0)), (1, .int i1), (2, .int i2)]) 4 rfl (congrArg (fun z => j13 + z) (by decide : Int32.ofInt (1) = (1))) (by decide) rfl dX9_entryOf_94 ?_
      refine Y_goto C (pc := 97) (tgt := 24) dX9_entryOf_97 (by decide) ?_
      have h := Option.some.inj h
      exact Y_sub [2, 3, 4, 1, 0] rfl (hLp _ h.symm)
    refine Y_iload C (pc := 24) 4 rfl dX9_entryOf_24 ?_
    refine Y_aload_n C (pc := 26) 0 0 rfl rfl dX9_entryOf_26 ?_
    refine Y_getR C (pc := 27) hk0 q_fi_RX9_7 (by decide) dX9_entryOf_27 ?_
    refine Y_iconst C (pc := 30) (v := (0 : Int32)) (by decide) dX9_entryOf_30 ?_
    obtain ⟨v5, hv5, h⟩ := Option.bind_eq_some_iff.mp h
    refine Y_iald C (pc := 31) (q_kr_9_0 hk0) hv5 dX9_entryOf_31 ?_
    refine Y_icmp_ge C (pc := 32) (tgt := 100) dX9_entryOf_32 (by decide) (fun c18 => ?_) (fun c18 => ?_)
    · rw [if_pos c18] at h
      have h := Option.some.inj h
      exact Y_sub [0, 1, 2, 3] rfl (hE _ h.symm)
    · rw [if_neg c18] at h
      refine Y_iload_n C (pc := 35) 3 3 rfl rfl dX9_entryOf_35 ?_
      refine Y_aload_n C (pc := 36) 0 0 rfl rfl dX9_entryOf_36 ?_
      refine Y_getR C (pc := 37) hk0 q_fi_RX9_25 (by decide) dX9_entryOf_37 ?_
      refine Y_iload C (pc := 40) 4 rfl dX9_entryOf_40 ?_
      obtain ⟨v6, hv6, h⟩ := Option.bind_eq_some_iff.mp h
      refine Y_iald C (pc := 42) (q_kr_9_8 hk0) hv6 dX9_entryOf_42 ?_
      refine Y_iconst C (pc := 43) (v := (-1 : Int32)) (by decide) dX9_entryOf_43 ?_
      refine Y_icmp_ne C (pc := 44) (tgt := 51) dX9_entryOf_44 (by decide) (fun c17 => ?_) (fun c17 => ?_)
      · rw [if_neg c17] at h
        refine Y_aload_n C (pc := 51) 0 0 rfl rfl dX9_entryOf_51 ?_
        refine Y_iload_n C (pc := 52) 1 1 rfl rfl dX9_entryOf_52 ?_
        refine Y_iload C (pc := 53) 4 rfl dX9_entryOf_53 ?_
        obtain ⟨v7, hv7, h⟩ := Option.bind_eq_some_iff.mp h
        refine Y_callV C [.int i1, .int s4.2] [.int s4.1] [.int v7, .int s4.1] hk0 rfl rfl (c_X9_flow hk0 hv7) (fun _ h => h.elim) q_cw_yX9_flow q_ml_RX9_123 ⟨q_im_yX9_flow, q_se_yX9_flow⟩ ⟨⟨Nat.le_of_ble_eq_true rfl, Nat.le_of_ble_eq_true rfl⟩, ⟨Nat.zero_le _, Nat.zero_le _⟩, Nat.le_of_ble_eq_true rfl⟩ rfl rfl rfl dX9_entryOf_55 ?_
        refine Y_aload_n C (pc := 58) 0 0 rfl rfl dX9_entryOf_58 ?_
        refine Y_iload_n C (pc := 59) 2 2 rfl rfl dX9_entryOf_59 ?_
        refine Y_aload_n C (pc := 60) 0 0 rfl rfl dX9_entryOf_60 ?_
        refine Y_getR C (pc := 61) hk0 q_fi_RX9_25 (by decide) dX9_entryOf_61 ?_
        refine Y_iload C (pc := 64) 4 rfl dX9_entryOf_64 ?_
        obtain ⟨v8, hv8, h⟩ := Option.bind_eq_some_iff.mp h
        refine Y_iald C (pc := 66) (q_kr_9_8 hk0) hv8 dX9_entryOf_66 ?_
        obtain ⟨v9, hv9, h⟩ := Option.bind_eq_some_iff.mp h
        refine Y_callV C [.int i2, .int v8] [.int v7, .int s4.1] [.int v9, .int v7, .int s4.1] hk0 rfl rfl (c_X9_far hk0 hv9) (fun _ h => h.elim) q_cw_yX9_far q_ml_RX9_126 ⟨q_im_yX9_far, q_se_yX9_far⟩ ⟨⟨Nat.le_of_ble_eq_true rfl, Nat.le_of_ble_eq_true rfl⟩, ⟨Nat.zero_le _, Nat.zero_le _⟩, Nat.le_of_ble_eq_true rfl⟩ rfl rfl rfl dX9_entryOf_67 ?_
        refine Y_imul C (pc := 70) dX9_entryOf_70 ?_
        refine Y_aload_n C (pc := 71) 0 0 rfl rfl dX9_entryOf_71 ?_
        refine Y_iload C (pc := 72) 4 rfl dX9_entryOf_72 ?_
        refine Y_iload_n C (pc := 74) 1 1 rfl rfl dX9_entryOf_74 ?_
        obtain ⟨v10, hv10, h⟩ := Option.bind_eq_some_iff.mp h
        refine Y_callV C [.int s4.2, .int i1] [.int (v7 * v9), .int s4.1] [.int v10, .int (v7 * v9), .int s4.1] hk0 rfl rfl (c_X9_flow hk0 hv10) (fun _ h => h.elim) q_cw_yX9_flow q_ml_RX9_123 ⟨q_im_yX9_flow, q_se_yX9_flow⟩ ⟨⟨Nat.le_of_ble_eq_true rfl, Nat.le_of_ble_eq_true rfl⟩, ⟨Nat.zero_le _, Nat.zero_le _⟩, Nat.le_of_ble_eq_true rfl⟩ rfl rfl rfl dX9_entryOf_75 ?_
        refine Y_aload_n C (pc := 78) 0 0 rfl rfl dX9_entryOf_78 ?_
        refine Y_aload_n C (pc := 79) 0 0 rfl rfl dX9_entryOf_79 ?_
        refine Y_getR C (pc := 80) hk0 q_fi_RX9_25 (by decide) dX9_entryOf_80 ?_
        refine Y_iload C (pc := 83) 4 rfl dX9_entryOf_83 ?_
        obtain ⟨v11, hv11, h⟩ := Option.bind_eq_some_iff.mp h
        refine Y_iald C (pc := 85) (q_kr_9_8 hk0) hv11 dX9_entryOf_85 ?_
        refine Y_iload_n C (pc := 86) 2 2 rfl rfl dX9_entryOf_86 ?_
        obtain ⟨v12, hv12, h⟩ := Option.bind_eq_some_iff.mp h
        refine Y_callV C [.int v11, .int i2] [.int v10, .int (v7 * v9), .int s4.1] [.int v12, .int v10, .int (v7 * v9), .int s4.1] hk0 rfl rfl (c_X9_far hk0 hv12) (fun _ h => h.elim) q_cw_yX9_far q_ml_RX9_126 ⟨q_im_yX9_far, q_se_yX9_far⟩ ⟨⟨Nat.le_of_ble_eq_true rfl, Nat.le_of_ble_eq_true rfl⟩, ⟨Nat.zero_le _, Nat.zero_le _⟩, Nat.le_of_ble_eq_true rfl⟩ rfl rfl rfl dX9_entryOf_87 ?_
        refine Y_imul C (pc := 90) dX9_entryOf_90 ?_
        refine Y_iadd C (pc := 91) dX9_entryOf_91 ?_
        exact Y_sub [0, 1, 2, 4] rfl (hJ92 _ _ _ _ h)
      · rw [if_pos c17] at h
        refine Y_iconst C (pc := 47) (v := (0 : Int32)) (by decide) dX9_entryOf_47 ?_
        refine Y_goto C (pc := 48) (tgt := 92) dX9_entryOf_48 (by decide) ?_
        exact Y_sub [0, 1, 2, 4] rfl (hJ92 _ _ _ _ h)
  · refine Y_iload_n C (pc := 100) 3 3 rfl rfl dX9_entryOf_100 ?_
    refine Y_aload_n C (pc := 101) 0 0 rfl rfl dX9_entryOf_101 ?_
    refine Y_iload_n C (pc := 102) 1 1 rfl rfl dX9_entryOf_102 ?_
    refine Y_iload_n C (pc := 103) 2 2 rfl rfl dX9_entryOf_103 ?_
    obtain ⟨v20, hv20, h⟩ := Option.bind_eq_some_iff.mp h
    refine Y_callV C [.int i1, .int i2] [.int e19] [.int v20.1, .int e19] hk0 rfl rfl (c_X9_leastProduct hI hk0 hv20) (fun _ h => h) q_cw_yX9_leastProduct q_ml_RX9_197 ⟨q_im_yX9_leastProduct, q_se_yX9_leastProduct⟩ ⟨⟨Nat.le_of_ble_eq_true rfl, Nat.le_of_ble_eq_true rfl⟩, ⟨Nat.zero_le _, Nat.zero_le _⟩, Nat.le_of_ble_eq_true rfl⟩ rfl rfl rfl dX9_entryOf_104 ?_
    refine Y_iadd C (pc := 107) dX9_entryOf_107 ?_
    cases h
    exact Y_iret C dX9_entryOf_108

noncomputable def f_X9_entry_J16 (k0 : Nat) (sj2 : Sg) : Option (Int32 × Sg) := (f_X9_fails sj2 k0 ((1 : Int32))).bind fun v3 => some (v3.1, v3.2)
noncomputable def f_X9_entry (σ : Sg) (k0 : Nat) (i1 : Int32) (i2 : Int32) : Option (Int32 × Sg) := (f_X9_isOne σ k0 i1).bind fun v1 => if v1 = (0 : Int32) then (f_X9_entry_J16 k0 σ) else ((f_X9_isOne σ k0 i2).bind fun v4 => if v4 = (0 : Int32) then (f_X9_entry_J16 k0 σ) else ((f_X9_areFree σ k0 i1 i2).bind fun v5 => if v5.1 = (0 : Int32) then ((f_X9_fails v5.2 k0 ((2 : Int32))).bind fun v6 => some (v6.1, v6.2)) else ((f_X9_entryOf v5.2 k0 i1 i2).bind fun v7 => (f_X9_tells v7.2 k0 v7.1).bind fun v8 => some (v8.1, v8.2))))
set_option maxRecDepth 100000 in
set_option maxHeartbeats 4000000 in
theorem c_X9_entry {l : Launch} {D : va_G} {cA ρ : Nat → Nat} {σ : Sg} {τ : Tg} {k0 : Nat} {i1 : Int32} {i2 : Int32} (hI : Inj ρ) (hk0 : kd k0 = (0, 9)) {r : Int32 × Sg} (h : f_X9_entry σ k0 i1 i2 = some r) : Ct l yX9_entry cX9_entry 3 (some .int) 4 94 D cA ρ (Aw ρ) [.ref (ρ k0), .int i1, .int i2] σ τ (some (.int r.1)) r.2 τ := by
  refine Ct_of (by decide +kernel) (Nat.le_of_ble_eq_true rfl) (fun p e s m args below meth c C => ?_)
  have C : Ctx p l s m args meth c cX9_entry RX9 3 (some .int) D cA ρ (Aw ρ) := C
  have hW : Wr ρ (Aw ρ) := ⟨hI, fun k hk => ⟨k, hk, rfl⟩⟩
  unfold f_X9_entry at h
  refine Y_sub [0, 1, 2] (lv' := [(0, .ref (ρ k0)), (1, .int i1), (2, .int i2)]) rfl ?_
  have hJ16 : ∀ (sj2 : Sg), f_X9_entry_J16 k0 sj2 = some r → Y p l e (Rm 4 94) s m args below meth c 3 D cA ρ (Aw ρ) 0 0 (MQ below (QC D cA ρ (Aw ρ) (some (.int r.1)) r.2 τ) args s 0 0 (Aw ρ)) sj2 τ 16 [(0, .ref (ρ k0))] [] := by
    intro sj2 h
    unfold f_X9_entry_J16 at h
    refine Y_aload_n C (pc := 16) 0 0 rfl rfl dX9_entry_16 ?_
    refine Y_iconst C (pc := 17) (v := (1 : Int32)) (by decide) dX9_entry_17 ?_
    obtain ⟨v3, hv3, h⟩ := Option.bind_eq_some_iff.mp h
    refine Y_callV C [.int (1 : Int32)] [] [.int v3.1] hk0 rfl rfl (c_X9_fails hI hk0 hv3) (fun _ h => h) q_cw_yX9_fails q_ml_RX9_94 ⟨q_im_yX9_fails, q_se_yX9_fails⟩ ⟨⟨Nat.le_of_ble_eq_true rfl, Nat.le_of_ble_eq_true rfl⟩, ⟨Nat.zero_le _, Nat.zero_le _⟩, Nat.le_of_ble_eq_true rfl⟩ rfl rfl rfl dX9_entry_18 ?_
    cases h
    exact Y_iret C dX9_entry_21
  refine Y_aload_n C (pc := 0) 0 0 rfl rfl dX9_entry_0 ?_
  refine Y_iload_n C (pc := 1) 1 1 rfl rfl dX9_entry_1 ?_
  obtain ⟨v1, hv1, h⟩ := Option.bind_eq_some_iff.mp h
  refine Y_callV C [.int i1] [] [.int v1] hk0 rfl rfl (c_X9_isOne hk0 hv1) (fun _ h => h.elim) q_cw_yX9_isOne q_ml_RX9_103 ⟨q_im_yX9_isOne, q_se_yX9_isOne⟩ ⟨⟨Nat.le_of_ble_eq_true rfl, Nat.le_of_ble_eq_true rfl⟩, ⟨Nat.zero_le _, Nat.zero_le _⟩, Nat.le_of_ble_eq_true rfl⟩ rfl rfl rfl dX9_entry_2 ?_
  refine Y_if_eq C (pc := 5) (tgt := 16) dX9_entry_5 (by decide) (fun c11 => ?_) (fun c11 => ?_)
  · rw [if_pos c11] at h
    exact Y_sub [0] rfl (hJ16 _ h)
  · rw [if_neg c11] at h
    refine Y_aload_n C (pc := 8) 0 0 rfl rfl dX9_entry_8 ?_
    refine Y_iload_n C (pc := 9) 2 2 rfl rfl dX9_entry_9 ?_
    obtain ⟨v4, hv4, h⟩ := Option.bind_eq_some_iff.mp h
    refine Y_callV C [.int i2] [] [.int v4] hk0 rfl rfl (c_X9_isOne hk0 hv4) (fun _ h => h.elim) q_cw_yX9_isOne q_ml_RX9_103 ⟨q_im_yX9_isOne, q_se_yX9_isOne⟩ ⟨⟨Nat.le_of_ble_eq_true rfl, Nat.le_of_ble_eq_true rfl⟩, ⟨Nat.zero_le _, Nat.zero_le _⟩, Nat.le_of_ble_eq_true rfl⟩ rfl rfl rfl dX9_entry_10 ?_
    refine Y_if_ne C (pc := 13) (tgt := 22) dX9_entry_13 (by decide) (fun c10 => ?_) (fun c10 => ?_)
    · rw [if_neg c10] at h
      refine Y_aload_n C (pc := 22) 0 0 rfl rfl dX9_entry_22 ?_
      refine Y_iload_n C (pc := 23) 1 1 rfl rfl dX9_entry_23 ?_
      refine Y_iload_n C (pc := 24) 2 2 rfl rfl dX9_entry_24 ?_
      obtain ⟨v5, hv5, h⟩ := Option.bind_eq_some_iff.mp h
      refine Y_callV C [.int i1, .int i2] [] [.int v5.1] hk0 rfl rfl (c_X9_areFree hI hk0 hv5) (fun _ h => h) q_cw_yX9_areFree q_ml_RX9_183 ⟨q_im_yX9_areFree, q_se_yX9_areFree⟩ ⟨⟨Nat.le_of_ble_eq_true rfl, Nat.le_of_ble_eq_true rfl⟩, ⟨Nat.zero_le _, Nat.zero_le _⟩, Nat.le_of_ble_eq_true rfl⟩ rfl rfl rfl dX9_entry_25 ?_
      refine Y_if_eq C (pc := 28) (tgt := 44) dX9_entry_28 (by decide) (fun c9 => ?_) (fun c9 => ?_)
      · rw [if_pos c9] at h
        refine Y_aload_n C (pc := 44) 0 0 rfl rfl dX9_entry_44 ?_
        refine Y_iconst C (pc := 45) (v := (2 : Int32)) (by decide) dX9_entry_45 ?_
        obtain ⟨v6, hv6, h⟩ := Option.bind_eq_some_iff.mp h
        refine Y_callV C [.int (2 : Int32)] [] [.int v6.1] hk0 rfl rfl (c_X9_fails hI hk0 hv6) (fun _ h => h) q_cw_yX9_fails q_ml_RX9_94 ⟨q_im_yX9_fails, q_se_yX9_fails⟩ ⟨⟨Nat.le_of_ble_eq_true rfl, Nat.le_of_ble_eq_true rfl⟩, ⟨Nat.zero_le _, Nat.zero_le _⟩, Nat.le_of_ble_eq_true rfl⟩ rfl rfl rfl dX9_entry_46 ?_
        cases h
        exact Y_iret C dX9_entry_49
      · rw [if_neg c9] at h
        refine Y_aload_n C (pc := 31) 0 0 rfl rfl dX9_entry_31 ?_
        refine Y_aload_n C (pc := 32) 0 0 rfl rfl dX9_entry_32 ?_
        refine Y_iload_n C (pc := 33) 1 1 rfl rfl dX9_entry_33 ?_
        refine Y_iload_n C (pc := 34) 2 2 rfl rfl dX9_entry_34 ?_
        obtain ⟨v7, hv7, h⟩ := Option.bind_eq_some_iff.mp h
        refine Y_callV C [.int i1, .int i2] [.ref (ρ k0)] [.int v7.1, .ref (ρ k0)] hk0 rfl rfl (c_X9_entryOf hI hk0 hv7) (fun _ h => h) q_cw_yX9_entryOf q_ml_RX9_200 ⟨q_im_yX9_entryOf, q_se_yX9_entryOf⟩ ⟨⟨Nat.le_of_ble_eq_true rfl, Nat.le_of_ble_eq_true rfl⟩, ⟨Nat.zero_le _, Nat.zero_le _⟩, Nat.le_of_ble_eq_true rfl⟩ rfl rfl rfl dX9_entry_35 ?_
        obtain ⟨v8, hv8, h⟩ := Option.bind_eq_some_iff.mp h
        refine Y_callV C [.int v7.1] [] [.int v8.1] hk0 rfl rfl (c_X9_tells hI hk0 hv8) (fun _ h => h) q_cw_yX9_tells q_ml_RX9_82 ⟨q_im_yX9_tells, q_se_yX9_tells⟩ ⟨⟨Nat.le_of_ble_eq_true rfl, Nat.le_of_ble_eq_true rfl⟩, ⟨Nat.zero_le _, Nat.zero_le _⟩, Nat.le_of_ble_eq_true rfl⟩ rfl rfl rfl dX9_entry_38 ?_
        refine Y_goto C (pc := 41) (tgt := 49) dX9_entry_41 (by decide) ?_
        cases h
        exact Y_iret C dX9_entry_49
    · rw [if_pos c10] at h
      exact Y_sub [0] rfl (hJ16 _ h)

noncomputable def f_X9_addsFacility_J36 (k0 : Nat) (j5 : Int32) (j6 : Int32) (j7 : Int32) (sj8 : Sg) : Option ((Int32 × Sg) ⊕ (Sg)) := (ast sj8 (k0 + 10) j7 j6).bind fun s9 => some (.inl ((j5 + 1), s9))
noncomputable def f_X9_addsFacility_L2 (k0 : Nat) (i1 : Int32) : (Int32 × Sg) → Option ((Int32 × Sg) ⊕ (Sg)) := fun s1 => (ald s1.2 (k0 + 1) (0 : Int32)).bind fun v2 => if v2 ≤ s1.1 then (some (.inr s1.2)) else ((f_X9_isTaken s1.2 k0 s1.1).bind fun v3 => if v3 = (0 : Int32) then ((f_X9_entryOf s1.2 k0 i1 s1.1).bind fun v4 => f_X9_addsFacility_J36 k0 s1.1 v4.1 s1.1 v4.2) else (f_X9_addsFacility_J36 k0 s1.1 ((1000000 : Int32)) s1.1 s1.2))
noncomputable def f_X9_addsFacility_J143 (j16 : Int32) (j17 : Int32) (sj18 : Sg) : Option ((Int32 × Int32) ⊕ (Int32)) := some (.inl (j16, (j17 + 1)))
noncomputable def f_X9_addsFacility_J142 (j23 : Int32) (j24 : Int32) (sj25 : Sg) : Option ((Int32 × Int32) ⊕ (Int32)) := f_X9_addsFacility_J143 j24 j23 sj25
noncomputable def f_X9_addsFacility_L56 (s13 : Int32 × Sg) (k0 : Nat) : (Int32 × Int32) → Option ((Int32 × Int32) ⊕ (Int32)) := fun s14 => (ald s13.2 (k0 + 1) (0 : Int32)).bind fun v15 => if v15 ≤ s14.2 then (some (.inr s14.1)) else (if ((s13.1 >>> (s14.2 &&& 31)) &&& (1 : Int32)) = (1 : Int32) then ((ald s13.2 (k0 + 10) s14.2).bind fun v19 => if (1000000 : Int32) ≤ v19 then (f_X9_addsFacility_J143 s14.1 s14.2 s13.2) else ((ald s13.2 (k0 + 9) (s13.1 &&& (((1 : Int32) <<< (s14.2 &&& 31)) ^^^ (-1 : Int32)))).bind fun v20 => if (1000000 : Int32) ≤ v20 then (f_X9_addsFacility_J143 s14.1 s14.2 s13.2) else ((ald s13.2 (k0 + 9) (s13.1 &&& (((1 : Int32) <<< (s14.2 &&& 31)) ^^^ (-1 : Int32)))).bind fun v21 => (ald s13.2 (k0 + 10) s14.2).bind fun v22 => if s14.1 ≤ (v21 + v22) then (f_X9_addsFacility_J142 s14.2 s14.1 s13.2) else (f_X9_addsFacility_J142 s14.2 ((v21 + v22)) s13.2)))) else (f_X9_addsFacility_J143 s14.1 s14.2 s13.2))
noncomputable def f_X9_addsFacility_L46 (k0 : Nat) : (Int32 × Sg) → Option ((Int32 × Sg) ⊕ (Sg)) := fun s13 => if s13.1 < (0 : Int32) then (some (.inr s13.2)) else ((lo (f_X9_addsFacility_L56 s13 k0) ((1000000 : Int32), (0 : Int32))).bind fun e31 => (ast s13.2 (k0 + 9) s13.1 e31).bind fun s32 => some (.inl ((s13.1 + (-1)), s32)))
noncomputable def f_X9_addsFacility (σ : Sg) (k0 : Nat) (i1 : Int32) : Option (Sg) := (lo (f_X9_addsFacility_L2 k0 i1) ((0 : Int32), σ)).bind fun e12 => (lo (f_X9_addsFacility_L46 k0) ((63 : Int32), e12)).bind fun e34 => some e34
set_option maxRecDepth 100000 in
set_option maxHeartbeats 4000000 in
theorem c_X9_addsFacility {l : Launch} {D : va_G} {cA ρ : Nat → Nat} {σ : Sg} {τ : Tg} {k0 : Nat} {i1 : Int32} (hI : Inj ρ) (hk0 : kd k0 = (0, 9)) {r : Sg} (h : f_X9_addsFacility σ k0 i1 = some r) : Ct l yX9_addsFacility cX9_addsFacility 6 none 4 94 D cA ρ (Aw ρ) [.ref (ρ k0), .int i1] σ τ none r τ := by
  refine Ct_of (by decide +kernel) (Nat.le_of_ble_eq_true rfl) (fun p e s m args below meth c C => ?_)
  have C : Ctx p l s m args meth c cX9_addsFacility RX9 6 none D cA ρ (Aw ρ) := C
  have hW : Wr ρ (Aw ρ) := ⟨hI, fun k hk => ⟨k, hk, rfl⟩⟩
  unfold f_X9_addsFacility at h
  refine Y_sub [0, 1] (lv' := [(0, .ref (ρ k0)), (1, .int i1)]) rfl ?_
  refine Y_iconst C (pc := 0) (v := (0 : Int32)) (by decide) dX9_addsFacility_0 ?_
  refine Y_istore_n C (pc := 1) (lv' := [(2, .int (0 : Int32)), (0, .ref (ρ k0)), (1, .int i1)]) 2 rfl (by decide) rfl dX9_addsFacility_1 ?_
  obtain ⟨e12, he12, h⟩ := Option.bind_eq_some_iff.mp h
  refine Y_sub [1, 2, 0] (lv' := [(0, .ref (ρ k0)), (1, .int i1), (2, .int (0 : Int32))]) rfl ?_
  refine lo_rule (f := (f_X9_addsFacility_L2 k0 i1)) (YS := fun s1 => Y p l e (Rm 4 94) s m args below meth c 6 D cA ρ (Aw ρ) 0 0 (MQ below (QC D cA ρ (Aw ρ) none r τ) args s 0 0 (Aw ρ)) s1.2 τ 2 [(0, .ref (ρ k0)), (1, .int i1), (2, .int s1.1)] []) (YE := fun e12 => Y p l e (Rm 4 94) s m args below meth c 6 D cA ρ (Aw ρ) 0 0 (MQ below (QC D cA ρ (Aw ρ) none r τ) args s 0 0 (Aw ρ)) e12 τ 43 [(0, .ref (ρ k0))] []) ?_ he12 ?_
  · intro s1 x h hLp hE
    unfold f_X9_addsFacility_L2 at h
    have hJ36 : ∀ (j5 : Int32) (j6 : Int32) (j7 : Int32) (sj8 : Sg), f_X9_addsFacility_J36 k0 j5 j6 j7 sj8 = some x → Y p l e (Rm 4 94) s m args below meth c 6 D cA ρ (Aw ρ) 0 0 (MQ below (QC D cA ρ (Aw ρ) none r τ) args s 0 0 (Aw ρ)) sj8 τ 36 [(0, .ref (ρ k0)), (1, .int i1), (2, .int j5)] [.int j6, .int j7, .ref (ρ (k0 + 10))] := by
      intro j5 j6 j7 sj8 h
      unfold f_X9_addsFacility_J36 at h
      obtain ⟨s9, hs9, h⟩ := Option.bind_eq_some_iff.mp h
      refine Y_iast C (pc := 36) hW (q_kr_9_12 hk0) (q_lr_9_12 hk0) hs9 dX9_addsFacility_36 ?_
      refine Y_iinc C (pc := 37) (v := (j5 + 1)) (lv' := [(2, .int (j5 + 1)), (0, .ref (ρ k0)), (1, .int i1)]) 2 rfl (congrArg (fun z => j5 + z) (by decide : Int32.ofInt (1) = (1))) (by decide) rfl dX9_addsFacility_37 ?_
      refine Y_goto C (pc := 40) (tgt := 2) dX9_addsFacility_40 (by decide) ?_
      have h := Option.some.inj h
      exact Y_sub [1, 2, 0] rfl (hLp _ h.symm)
    refine Y_iload_n C (pc := 2) 2 2 rfl rfl dX9_addsFacility_2 ?_
    refine Y_aload_n C (pc := 3) 0 0 rfl rfl dX9_addsFacility_3 ?_
    refine Y_getR C (pc := 4) hk0 q_fi_RX9_7 (by decide) dX9_addsFacility_4 ?_
    refine Y_iconst C (pc := 7) (v := (0 : Int32)) (by decide) dX9_addsFacility_7 ?_
    obtain ⟨v2, hv2, h⟩ := Option.bind_eq_some_iff.mp h
    refine Y_iald C (pc := 8) (q_kr_9_0 hk0) hv2 dX9_addsFacility_8 ?_
    refine Y_icmp_ge C (pc := 9) (tgt := 43) dX9_addsFacility_9 (by decide) (fun c11 => ?_) (fun c11 => ?_)
    · rw [if_pos c11] at h
      have h := Option.some.inj h
      exact Y_sub [0] rfl (hE _ h.symm)
    · rw [if_neg c11] at h
      refine Y_aload_n C (pc := 12) 0 0 rfl rfl dX9_addsFacility_12 ?_
      refine Y_getR C (pc := 13) hk0 q_fi_RX9_37 (by decide) dX9_addsFacility_13 ?_
      refine Y_iload_n C (pc := 16) 2 2 rfl rfl dX9_addsFacility_16 ?_
      refine Y_aload_n C (pc := 17) 0 0 rfl rfl dX9_addsFacility_17 ?_
      refine Y_iload_n C (pc := 18) 2 2 rfl rfl dX9_addsFacility_18 ?_
      obtain ⟨v3, hv3, h⟩ := Option.bind_eq_some_iff.mp h
      refine Y_callV C [.int s1.1] [.int s1.1, .ref (ρ (k0 + 10))] [.int v3, .int s1.1, .ref (ρ (k0 + 10))] hk0 rfl rfl (c_X9_isTaken hk0 hv3) (fun _ h => h.elim) q_cw_yX9_isTaken q_ml_RX9_180 ⟨q_im_yX9_isTaken, q_se_yX9_isTaken⟩ ⟨⟨Nat.le_of_ble_eq_true rfl, Nat.le_of_ble_eq_true rfl⟩, ⟨Nat.zero_le _, Nat.zero_le _⟩, Nat.le_of_ble_eq_true rfl⟩ rfl rfl rfl dX9_addsFacility_19 ?_
      refine Y_if_eq C (pc := 22) (tgt := 30) dX9_addsFacility_22 (by decide) (fun c10 => ?_) (fun c10 => ?_)
      · rw [if_pos c10] at h
        refine Y_aload_n C (pc := 30) 0 0 rfl rfl dX9_addsFacility_30 ?_
        refine Y_iload_n C (pc := 31) 1 1 rfl rfl dX9_addsFacility_31 ?_
        refine Y_iload_n C (pc := 32) 2 2 rfl rfl dX9_addsFacility_32 ?_
        obtain ⟨v4, hv4, h⟩ := Option.bind_eq_some_iff.mp h
        refine Y_callV C [.int i1, .int s1.1] [.int s1.1, .ref (ρ (k0 + 10))] [.int v4.1, .int s1.1, .ref (ρ (k0 + 10))] hk0 rfl rfl (c_X9_entryOf hI hk0 hv4) (fun _ h => h) q_cw_yX9_entryOf q_ml_RX9_200 ⟨q_im_yX9_entryOf, q_se_yX9_entryOf⟩ ⟨⟨Nat.le_of_ble_eq_true rfl, Nat.le_of_ble_eq_true rfl⟩, ⟨Nat.zero_le _, Nat.zero_le _⟩, Nat.le_of_ble_eq_true rfl⟩ rfl rfl rfl dX9_addsFacility_33 ?_
        exact Y_sub [0, 1, 2] rfl (hJ36 _ _ _ _ h)
      · rw [if_neg c10] at h
        refine Y_ldc C q_ct_RX9_167 dX9_addsFacility_25 ?_
        refine Y_goto C (pc := 27) (tgt := 36) dX9_addsFacility_27 (by decide) ?_
        exact Y_sub [0, 1, 2] rfl (hJ36 _ _ _ _ h)
  · refine Y_bipush C (pc := 43) (v := (63 : Int32)) (by decide) dX9_addsFacility_43 ?_
    refine Y_istore_n C (pc := 45) (lv' := [(2, .int (63 : Int32)), (0, .ref (ρ k0))]) 2 rfl (by decide) rfl dX9_addsFacility_45 ?_
    obtain ⟨e34, he34, h⟩ := Option.bind_eq_some_iff.mp h
    refine Y_sub [1, 0] (lv' := [(0, .ref (ρ k0)), (2, .int (63 : Int32))]) rfl ?_
    refine lo_rule (f := (f_X9_addsFacility_L46 k0)) (YS := fun s13 => Y p l e (Rm 4 94) s m args below meth c 6 D cA ρ (Aw ρ) 0 0 (MQ below (QC D cA ρ (Aw ρ) none r τ) args s 0 0 (Aw ρ)) s13.2 τ 46 [(0, .ref (ρ k0)), (2, .int s13.1)] []) (YE := fun e34 => Y p l e (Rm 4 94) s m args below meth c 6 D cA ρ (Aw ρ) 0 0 (MQ below (QC D cA ρ (Aw ρ) none r τ) args s 0 0 (Aw ρ)) e34 τ 162 [] []) ?_ he34 ?_
    · intro s13 x h hLp hE
      unfold f_X9_addsFacility_L46 at h
      refine Y_iload_n C (pc := 46) 2 1 rfl rfl dX9_addsFacility_46 ?_
      refine Y_if_lt C (pc := 47) (tgt := 162) dX9_addsFacility_47 (by decide) (fun c33 => ?_) (fun c33 => ?_)
      · rw [if_pos c33] at h
        have h := Option.some.inj h
        exact Y_sub [] rfl (hE _ h.symm)
      · rw [if_neg c33] at h
        refine Y_ldc C q_ct_RX9_167 dX9_addsFacility_50 ?_
        refine Y_istore_n C (pc := 52) (lv' := [(3, .int (1000000 : Int32)), (0, .ref (ρ k0)), (2, .int s13.1)]) 3 rfl (by decide) rfl dX9_addsFacility_52 ?_
        refine Y_iconst C (pc := 53) (v := (0 : Int32)) (by decide) dX9_addsFacility_53 ?_
        refine Y_istore C (pc := 54) (lv' := [(4, .int (0 : Int32)), (3, .int (1000000 : Int32)), (0, .ref (ρ k0)), (2, .int s13.1)]) (by decide) rfl dX9_addsFacility_54 ?_
        obtain ⟨e31, he31, h⟩ := Option.bind_eq_some_iff.mp h
        refine Y_sub [2, 3, 1, 0] (lv' := [(0, .ref (ρ k0)), (2, .int s13.1), (3, .int (1000000 : Int32)), (4, .int (0 : Int32))]) rfl ?_
        refine lo_rule (f := (f_X9_addsFacility_L56 s13 k0)) (YS := fun s14 => Y p l e (Rm 4 94) s m args below meth c 6 D cA ρ (Aw ρ) 0 0 (MQ below (QC D cA ρ (Aw ρ) none r τ) args s 0 0 (Aw ρ)) s13.2 τ 56 [(0, .ref (ρ k0)), (2, .int s13.1), (3, .int s14.1), (4, .int s14.2)] []) (YE := fun e31 => Y p l e (Rm 4 94) s m args below meth c 6 D cA ρ (Aw ρ) 0 0 (MQ below (QC D cA ρ (Aw ρ) none r τ) args s 0 0 (Aw ρ)) s13.2 τ 149 [(0, .ref (ρ k0)), (2, .int s13.1), (3, .int e31)] []) ?_ he31 ?_
        · intro s14 x h hLp hE
          unfold f_X9_addsFacility_L56 at h
          have hJ143 : ∀ (j16 : Int32) (j17 : Int32) (sj18 : Sg), f_X9_addsFacility_J143 j16 j17 sj18 = some x → Y p l e (Rm 4 94) s m args below meth c 6 D cA ρ (Aw ρ) 0 0 (MQ below (QC D cA ρ (Aw ρ) none r τ) args s 0 0 (Aw ρ)) sj18 τ 143 [(0, .ref (ρ k0)), (2, .int s13.1), (3, .int j16), (4, .int j17)] [] := by
            intro j16 j17 sj18 h
            unfold f_X9_addsFacility_J143 at h
            refine Y_iinc C (pc := 143) (v := (j17 + 1)) (lv' := [(4, .int (j17 + 1)), (0, .ref (ρ k0)), (2, .int s13.1), (3, .int j16)]) 3 rfl (congrArg (fun z => j17 + z) (by decide : Int32.ofInt (1) = (1))) (by decide) rfl dX9_addsFacility_143 ?_
            refine Y_goto C (pc := 146) (tgt := 56) dX9_addsFacility_146 (by decide) ?_
            have h := Option.some.inj h
            exact Y_sub [1, 2, 3, 0] rfl (hLp _ h.symm)
          have hJ142 : ∀ (j23 : Int32) (j24 : Int32) (sj25 : Sg), f_X9_addsFacility_J142 j23 j24 sj25 = some x → Y p l e (Rm 4 94) s m args below meth c 6 D cA ρ (Aw ρ) 0 0 (MQ below (QC D cA ρ (Aw ρ) none r τ) args s 0 0 (Aw ρ)) sj25 τ 142 [(0, .ref (ρ k0)), (2, .int s13.1), (4, .int j23)] [.int j24] := by
            intro j23 j24 sj25 h
            unfold f_X9_addsFacility_J142 at h
            refine Y_istore_n C (pc := 142) (lv' := [(3, .int j24), (0, .ref (ρ k0)), (2, .int s13.1), (4, .int j23)]) 3 rfl (by decide) rfl dX9_addsFacility_142 ?_
            exact Y_sub [1, 2, 0, 3] rfl (hJ143 _ _ _ h)
          refine Y_iload C (pc := 56) 3 rfl dX9_addsFacility_56 ?_
          refine Y_aload_n C (pc := 58) 0 0 rfl rfl dX9_addsFacility_58 ?_
          refine Y_getR C (pc := 59) hk0 q_fi_RX9_7 (by decide) dX9_addsFacility_59 ?_
          refine Y_iconst C (pc := 62) (v := (0 : Int32)) (by decide) dX9_addsFacility_62 ?_
          obtain ⟨v15, hv15, h⟩ := Option.bind_eq_some_iff.mp h
          refine Y_iald C (pc := 63) (q_kr_9_0 hk0) hv15 dX9_addsFacility_63 ?_
          refine Y_icmp_ge C (pc := 64) (tgt := 149) dX9_addsFacility_64 (by decide) (fun c30 => ?_) (fun c30 => ?_)
          · rw [if_pos c30] at h
            have h := Option.some.inj h
            exact Y_sub [0, 1, 2] rfl (hE _ h.symm)
          · rw [if_neg c30] at h
            refine Y_iload_n C (pc := 67) 2 1 rfl rfl dX9_addsFacility_67 ?_
            refine Y_iload C (pc := 68) 3 rfl dX9_addsFacility_68 ?_
            refine Y_ishr C (pc := 70) dX9_addsFacility_70 ?_
            refine Y_iconst C (pc := 71) (v := (1 : Int32)) (by decide) dX9_addsFacility_71 ?_
            refine Y_iand C (pc := 72) dX9_addsFacility_72 ?_
            refine Y_iconst C (pc := 73) (v := (1 : Int32)) (by decide) dX9_addsFacility_73 ?_
            refine Y_icmp_ne C (pc := 74) (tgt := 143) dX9_addsFacility_74 (by decide) (fun c29 => ?_) (fun c29 => ?_)
            · rw [if_neg c29] at h
              exact Y_sub [0, 1, 2, 3] rfl (hJ143 _ _ _ h)
            · rw [if_pos c29] at h
              refine Y_aload_n C (pc := 77) 0 0 rfl rfl dX9_addsFacility_77 ?_
              refine Y_getR C (pc := 78) hk0 q_fi_RX9_37 (by decide) dX9_addsFacility_78 ?_
              refine Y_iload C (pc := 81) 3 rfl dX9_addsFacility_81 ?_
              obtain ⟨v19, hv19, h⟩ := Option.bind_eq_some_iff.mp h
              refine Y_iald C (pc := 83) (q_kr_9_12 hk0) hv19 dX9_addsFacility_83 ?_
              refine Y_ldc C q_ct_RX9_167 dX9_addsFacility_84 ?_
              refine Y_icmp_ge C (pc := 86) (tgt := 143) dX9_addsFacility_86 (by decide) (fun c28 => ?_) (fun c28 => ?_)
              · rw [if_pos c28] at h
                exact Y_sub [0, 1, 2, 3] rfl (hJ143 _ _ _ h)
              · rw [if_neg c28] at h
                refine Y_aload_n C (pc := 89) 0 0 rfl rfl dX9_addsFacility_89 ?_
                refine Y_getR C (pc := 90) hk0 q_fi_RX9_34 (by decide) dX9_addsFacility_90 ?_
                refine Y_iload_n C (pc := 93) 2 1 rfl rfl dX9_addsFacility_93 ?_
                refine Y_iconst C (pc := 94) (v := (1 : Int32)) (by decide) dX9_addsFacility_94 ?_
                refine Y_iload C (pc := 95) 3 rfl dX9_addsFacility_95 ?_
                refine Y_ishl C (pc := 97) dX9_addsFacility_97 ?_
                refine Y_iconst C (pc := 98) (v := (-1 : Int32)) (by decide) dX9_addsFacility_98 ?_
                refine Y_ixor C (pc := 99) dX9_addsFacility_99 ?_
                refine Y_iand C (pc := 100) dX9_addsFacility_100 ?_
                obtain ⟨v20, hv20, h⟩ := Option.bind_eq_some_iff.mp h
                refine Y_iald C (pc := 101) (q_kr_9_11 hk0) hv20 dX9_addsFacility_101 ?_
                refine Y_ldc C q_ct_RX9_167 dX9_addsFacility_102 ?_
                refine Y_icmp_ge C (pc := 104) (tgt := 143) dX9_addsFacility_104 (by decide) (fun c27 => ?_) (fun c27 => ?_)
                · rw [if_pos c27] at h
                  exact Y_sub [0, 1, 2, 3] rfl (hJ143 _ _ _ h)
                · rw [if_neg c27] at h
                  refine Y_aload_n C (pc := 107) 0 0 rfl rfl dX9_addsFacility_107 ?_
                  refine Y_getR C (pc := 108) hk0 q_fi_RX9_34 (by decide) dX9_addsFacility_108 ?_
                  refine Y_iload_n C (pc := 111) 2 1 rfl rfl dX9_addsFacility_111 ?_
                  refine Y_iconst C (pc := 112) (v := (1 : Int32)) (by decide) dX9_addsFacility_112 ?_
                  refine Y_iload C (pc := 113) 3 rfl dX9_addsFacility_113 ?_
                  refine Y_ishl C (pc := 115) dX9_addsFacility_115 ?_
                  refine Y_iconst C (pc := 116) (v := (-1 : Int32)) (by decide) dX9_addsFacility_116 ?_
                  refine Y_ixor C (pc := 117) dX9_addsFacility_117 ?_
                  refine Y_iand C (pc := 118) dX9_addsFacility_118 ?_
                  obtain ⟨v21, hv21, h⟩ := Option.bind_eq_some_iff.mp h
                  refine Y_iald C (pc := 119) (q_kr_9_11 hk0) hv21 dX9_addsFacility_119 ?_
                  refine Y_aload_n C (pc := 120) 0 0 rfl rfl dX9_addsFacility_120 ?_
                  refine Y_getR C (pc := 121) hk0 q_fi_RX9_37 (by decide) dX9_addsFacility_121 ?_
                  refine Y_iload C (pc := 124) 3 rfl dX9_addsFacility_124 ?_
                  obtain ⟨v22, hv22, h⟩ := Option.bind_eq_some_iff.mp h
                  refine Y_iald C (pc := 126) (q_kr_9_12 hk0) hv22 dX9_addsFacility_126 ?_
                  refine Y_iadd C (pc := 127) dX9_addsFacility_127 ?_
                  refine Y_istore C (pc := 128) (lv' := [(5, .int (v21 + v22)), (0, .ref (ρ k0)), (2, .int s13.1), (3, .int s14.1), (4, .int s14.2)]) (by decide) rfl dX9_addsFacility_128 ?_
                  refine Y_iload C (pc := 130) 0 rfl dX9_addsFacility_130 ?_
                  refine Y_iload_n C (pc := 132) 3 3 rfl rfl dX9_addsFacility_132 ?_
                  refine Y_icmp_ge C (pc := 133) (tgt := 141) dX9_addsFacility_133 (by decide) (fun c26 => ?_) (fun c26 => ?_)
                  · rw [if_pos c26] at h
                    refine Y_iload_n C (pc := 141) 3 3 rfl rfl dX9_addsFacility_141 ?_
                    exact Y_sub [1, 2, 4] rfl (hJ142 _ _ _ h)
                  · rw [if_neg c26] at h
                    refine Y_iload C (pc := 136) 0 rfl dX9_addsFacility_136 ?_
                    refine Y_goto C (pc := 138) (tgt := 142) dX9_addsFacility_138 (by decide) ?_
                    exact Y_sub [1, 2, 4] rfl (hJ142 _ _ _ h)
        · refine Y_aload_n C (pc := 149) 0 0 rfl rfl dX9_addsFacility_149 ?_
          refine Y_getR C (pc := 150) hk0 q_fi_RX9_34 (by decide) dX9_addsFacility_150 ?_
          refine Y_iload_n C (pc := 153) 2 1 rfl rfl dX9_addsFacility_153 ?_
          refine Y_iload_n C (pc := 154) 3 2 rfl rfl dX9_addsFacility_154 ?_
          obtain ⟨s32, hs32, h⟩ := Option.bind_eq_some_iff.mp h
          refine Y_iast C (pc := 155) hW (q_kr_9_11 hk0) (q_lr_9_11 hk0) hs32 dX9_addsFacility_155 ?_
          refine Y_iinc C (pc := 156) (v := (s13.1 + (-1))) (lv' := [(2, .int (s13.1 + (-1))), (0, .ref (ρ k0)), (3, .int e31)]) 1 rfl (congrArg (fun z => s13.1 + z) (by decide : Int32.ofInt (-1) = (-1))) (by decide) rfl dX9_addsFacility_156 ?_
          refine Y_goto C (pc := 159) (tgt := 46) dX9_addsFacility_159 (by decide) ?_
          have h := Option.some.inj h
          exact Y_sub [1, 0] rfl (hLp _ h.symm)
    · cases h
      exact Y_vret C dX9_addsFacility_162

noncomputable def f_X9_boundOf_J23 (k0 : Nat) (j2 : Int32) (j3 : Int32) (j4 : Int32) (sj5 : Sg) : Option ((Int32 × Sg) ⊕ (Sg)) := (ast sj5 (k0 + 9) j4 j3).bind fun s6 => some (.inl ((j2 + 1), s6))
noncomputable def f_X9_boundOf_L2 (k0 : Nat) : (Int32 × Sg) → Option ((Int32 × Sg) ⊕ (Sg)) := fun s1 => if (64 : Int32) ≤ s1.1 then (some (.inr s1.2)) else (if s1.1 = (0 : Int32) then (f_X9_boundOf_J23 k0 s1.1 ((0 : Int32)) s1.1 s1.2) else (f_X9_boundOf_J23 k0 s1.1 ((1000000 : Int32)) s1.1 s1.2))
noncomputable def f_X9_boundOf_J57 (j13 : Int32) (sj14 : Sg) : Option ((Int32 × Sg) ⊕ (Sg)) := some (.inl ((j13 + 1), sj14))
noncomputable def f_X9_boundOf_L32 (k0 : Nat) : (Int32 × Sg) → Option ((Int32 × Sg) ⊕ (Sg)) := fun s10 => (ald s10.2 (k0 + 1) (0 : Int32)).bind fun v11 => if v11 ≤ s10.1 then (some (.inr s10.2)) else ((ald s10.2 (k0 + 6) s10.1).bind fun v12 => if v12 = (-1 : Int32) then ((f_X9_addsFacility s10.2 k0 s10.1).bind fun v15 => f_X9_boundOf_J57 s10.1 v15) else (f_X9_boundOf_J57 s10.1 s10.2))
noncomputable def f_X9_boundOf_J94 (j21 : Int32) (j22 : Int32) (sj23 : Sg) : Option ((Int32 × Int32) ⊕ (Int32)) := some (.inl (j22, (j21 + 1)))
noncomputable def f_X9_boundOf_L68 (e18 : Sg) (k0 : Nat) : (Int32 × Int32) → Option ((Int32 × Int32) ⊕ (Int32)) := fun s19 => if (64 : Int32) ≤ s19.2 then (some (.inr s19.1)) else ((ald e18 (k0 + 9) s19.2).bind fun v20 => if s19.1 ≤ v20 then (f_X9_boundOf_J94 s19.2 s19.1 e18) else ((ald e18 (k0 + 9) s19.2).bind fun v24 => f_X9_boundOf_J94 s19.2 v24 e18))
noncomputable def f_X9_boundOf (σ : Sg) (k0 : Nat) : Option (Int32 × Sg) := (lo (f_X9_boundOf_L2 k0) ((0 : Int32), σ)).bind fun e9 => (lo (f_X9_boundOf_L32 k0) ((0 : Int32), e9)).bind fun e18 => (lo (f_X9_boundOf_L68 e18 k0) ((1000000 : Int32), (0 : Int32))).bind fun e27 => (f_X9_fixedPart e18 k0).bind fun v28 => some ((v28 + e27), e18)
set_option maxRecDepth 100000 in
set_option maxHeartbeats 4000000 in
theorem c_X9_boundOf {l : Launch} {D : va_G} {cA ρ : Nat → Nat} {σ : Sg} {τ : Tg} {k0 : Nat} (hI : Inj ρ) (hk0 : kd k0 = (0, 9)) {r : Int32 × Sg} (h : f_X9_boundOf σ k0 = some r) : Ct l yX9_boundOf cX9_boundOf 3 (some .int) 5 119 D cA ρ (Aw ρ) [.ref (ρ k0)] σ τ (some (.int r.1)) r.2 τ := by
  refine Ct_of (by decide +kernel) (Nat.le_of_ble_eq_true rfl) (fun p e s m args below meth c C => ?_)
  have C : Ctx p l s m args meth c cX9_boundOf RX9 3 (some .int) D cA ρ (Aw ρ) := C
  have hW : Wr ρ (Aw ρ) := ⟨hI, fun k hk => ⟨k, hk, rfl⟩⟩
  unfold f_X9_boundOf at h
  refine Y_sub [0] (lv' := [(0, .ref (ρ k0))]) rfl ?_
  refine Y_iconst C (pc := 0) (v := (0 : Int32)) (by decide) dX9_boundOf_0 ?_
  refine Y_istore_n C (pc := 1) (lv' := [(1, .int (0 : Int32)), (0, .ref (ρ k0))]) 1 rfl (by decide) rfl dX9_boundOf_1 ?_
  obtain ⟨e9, he9, h⟩ := Option.bind_eq_some_iff.mp h
  refine Y_sub [1, 0] (lv' := [(0, .ref (ρ k0)), (1, .int (0 : Int32))]) rfl ?_
  refine lo_rule (f := (f_X9_boundOf_L2 k0)) (YS := fun s1 => Y p l e (Rm 5 119) s m args below meth c 3 D cA ρ (Aw ρ) 0 0 (MQ below (QC D cA ρ (Aw ρ) (some (.int r.1)) r.2 τ) args s 0 0 (Aw ρ)) s1.2 τ 2 [(0, .ref (ρ k0)), (1, .int s1.1)] []) (YE := fun e9 => Y p l e (Rm 5 119) s m args below meth c 3 D cA ρ (Aw ρ) 0 0 (MQ below (QC D cA ρ (Aw ρ) (some (.int r.1)) r.2 τ) args s 0 0 (Aw ρ)) e9 τ 30 [(0, .ref (ρ k0))] []) ?_ he9 ?_
  · intro s1 x h hLp hE
    unfold f_X9_boundOf_L2 at h
    have hJ23 : ∀ (j2 : Int32) (j3 : Int32) (j4 : Int32) (sj5 : Sg), f_X9_boundOf_J23 k0 j2 j3 j4 sj5 = some x → Y p l e (Rm 5 119) s m args below meth c 3 D cA ρ (Aw ρ) 0 0 (MQ below (QC D cA ρ (Aw ρ) (some (.int r.1)) r.2 τ) args s 0 0 (Aw ρ)) sj5 τ 23 [(0, .ref (ρ k0)), (1, .int j2)] [.int j3, .int j4, .ref (ρ (k0 + 9))] := by
      intro j2 j3 j4 sj5 h
      unfold f_X9_boundOf_J23 at h
      obtain ⟨s6, hs6, h⟩ := Option.bind_eq_some_iff.mp h
      refine Y_iast C (pc := 23) hW (q_kr_9_11 hk0) (q_lr_9_11 hk0) hs6 dX9_boundOf_23 ?_
      refine Y_iinc C (pc := 24) (v := (j2 + 1)) (lv' := [(1, .int (j2 + 1)), (0, .ref (ρ k0))]) 1 rfl (congrArg (fun z => j2 + z) (by decide : Int32.ofInt (1) = (1))) (by decide) rfl dX9_boundOf_24 ?_
      refine Y_goto C (pc := 27) (tgt := 2) dX9_boundOf_27 (by decide) ?_
      have h := Option.some.inj h
      exact Y_sub [1, 0] rfl (hLp _ h.symm)
    refine Y_iload_n C (pc := 2) 1 1 rfl rfl dX9_boundOf_2 ?_
    refine Y_bipush C (pc := 3) (v := (64 : Int32)) (by decide) dX9_boundOf_3 ?_
    refine Y_icmp_ge C (pc := 5) (tgt := 30) dX9_boundOf_5 (by decide) (fun c8 => ?_) (fun c8 => ?_)
    · rw [if_pos c8] at h
      have h := Option.some.inj h
      exact Y_sub [0] rfl (hE _ h.symm)
    · rw [if_neg c8] at h
      refine Y_aload_n C (pc := 8) 0 0 rfl rfl dX9_boundOf_8 ?_
      refine Y_getR C (pc := 9) hk0 q_fi_RX9_34 (by decide) dX9_boundOf_9 ?_
      refine Y_iload_n C (pc := 12) 1 1 rfl rfl dX9_boundOf_12 ?_
      refine Y_iload_n C (pc := 13) 1 1 rfl rfl dX9_boundOf_13 ?_
      refine Y_if_ne C (pc := 14) (tgt := 21) dX9_boundOf_14 (by decide) (fun c7 => ?_) (fun c7 => ?_)
      · rw [if_neg c7] at h
        refine Y_ldc C q_ct_RX9_167 dX9_boundOf_21 ?_
        exact Y_sub [0, 1] rfl (hJ23 _ _ _ _ h)
      · rw [if_pos c7] at h
        refine Y_iconst C (pc := 17) (v := (0 : Int32)) (by decide) dX9_boundOf_17 ?_
        refine Y_goto C (pc := 18) (tgt := 23) dX9_boundOf_18 (by decide) ?_
        exact Y_sub [0, 1] rfl (hJ23 _ _ _ _ h)
  · refine Y_iconst C (pc := 30) (v := (0 : Int32)) (by decide) dX9_boundOf_30 ?_
    refine Y_istore_n C (pc := 31) (lv' := [(1, .int (0 : Int32)), (0, .ref (ρ k0))]) 1 rfl (by decide) rfl dX9_boundOf_31 ?_
    obtain ⟨e18, he18, h⟩ := Option.bind_eq_some_iff.mp h
    refine Y_sub [1, 0] (lv' := [(0, .ref (ρ k0)), (1, .int (0 : Int32))]) rfl ?_
    refine lo_rule (f := (f_X9_boundOf_L32 k0)) (YS := fun s10 => Y p l e (Rm 5 119) s m args below meth c 3 D cA ρ (Aw ρ) 0 0 (MQ below (QC D cA ρ (Aw ρ) (some (.int r.1)) r.2 τ) args s 0 0 (Aw ρ)) s10.2 τ 32 [(0, .ref (ρ k0)), (1, .int s10.1)] []) (YE := fun e18 => Y p l e (Rm 5 119) s m args below meth c 3 D cA ρ (Aw ρ) 0 0 (MQ below (QC D cA ρ (Aw ρ) (some (.int r.1)) r.2 τ) args s 0 0 (Aw ρ)) e18 τ 63 [(0, .ref (ρ k0))] []) ?_ he18 ?_
    · intro s10 x h hLp hE
      unfold f_X9_boundOf_L32 at h
      have hJ57 : ∀ (j13 : Int32) (sj14 : Sg), f_X9_boundOf_J57 j13 sj14 = some x → Y p l e (Rm 5 119) s m args below meth c 3 D cA ρ (Aw ρ) 0 0 (MQ below (QC D cA ρ (Aw ρ) (some (.int r.1)) r.2 τ) args s 0 0 (Aw ρ)) sj14 τ 57 [(0, .ref (ρ k0)), (1, .int j13)] [] := by
        intro j13 sj14 h
        unfold f_X9_boundOf_J57 at h
        refine Y_iinc C (pc := 57) (v := (j13 + 1)) (lv' := [(1, .int (j13 + 1)), (0, .ref (ρ k0))]) 1 rfl (congrArg (fun z => j13 + z) (by decide : Int32.ofInt (1) = (1))) (by decide) rfl dX9_boundOf_57 ?_
        refine Y_goto C (pc := 60) (tgt := 32) dX9_boundOf_60 (by decide) ?_
        have h := Option.some.inj h
        exact Y_sub [1, 0] rfl (hLp _ h.symm)
      refine Y_iload_n C (pc := 32) 1 1 rfl rfl dX9_boundOf_32 ?_
      refine Y_aload_n C (pc := 33) 0 0 rfl rfl dX9_boundOf_33 ?_
      refine Y_getR C (pc := 34) hk0 q_fi_RX9_7 (by decide) dX9_boundOf_34 ?_
      refine Y_iconst C (pc := 37) (v := (0 : Int32)) (by decide) dX9_boundOf_37 ?_
      obtain ⟨v11, hv11, h⟩ := Option.bind_eq_some_iff.mp h
      refine Y_iald C (pc := 38) (q_kr_9_0 hk0) hv11 dX9_boundOf_38 ?_
      refine Y_icmp_ge C (pc := 39) (tgt := 63) dX9_boundOf_39 (by decide) (fun c17 => ?_) (fun c17 => ?_)
      · rw [if_pos c17] at h
        have h := Option.some.inj h
        exact Y_sub [0] rfl (hE _ h.symm)
      · rw [if_neg c17] at h
        refine Y_aload_n C (pc := 42) 0 0 rfl rfl dX9_boundOf_42 ?_
        refine Y_getR C (pc := 43) hk0 q_fi_RX9_25 (by decide) dX9_boundOf_43 ?_
        refine Y_iload_n C (pc := 46) 1 1 rfl rfl dX9_boundOf_46 ?_
        obtain ⟨v12, hv12, h⟩ := Option.bind_eq_some_iff.mp h
        refine Y_iald C (pc := 47) (q_kr_9_8 hk0) hv12 dX9_boundOf_47 ?_
        refine Y_iconst C (pc := 48) (v := (-1 : Int32)) (by decide) dX9_boundOf_48 ?_
        refine Y_icmp_ne C (pc := 49) (tgt := 57) dX9_boundOf_49 (by decide) (fun c16 => ?_) (fun c16 => ?_)
        · rw [if_neg c16] at h
          exact Y_sub [0, 1] rfl (hJ57 _ _ h)
        · rw [if_pos c16] at h
          refine Y_aload_n C (pc := 52) 0 0 rfl rfl dX9_boundOf_52 ?_
          refine Y_iload_n C (pc := 53) 1 1 rfl rfl dX9_boundOf_53 ?_
          obtain ⟨v15, hv15, h⟩ := Option.bind_eq_some_iff.mp h
          refine Y_callV C [.int s10.1] [] [] hk0 rfl rfl (c_X9_addsFacility hI hk0 hv15) (fun _ h => h) q_cw_yX9_addsFacility q_ml_RX9_203 ⟨q_im_yX9_addsFacility, q_se_yX9_addsFacility⟩ ⟨⟨Nat.le_of_ble_eq_true rfl, Nat.le_of_ble_eq_true rfl⟩, ⟨Nat.zero_le _, Nat.zero_le _⟩, Nat.le_of_ble_eq_true rfl⟩ rfl rfl rfl dX9_boundOf_54 ?_
          exact Y_sub [0, 1] rfl (hJ57 _ _ h)
    · refine Y_ldc C q_ct_RX9_167 dX9_boundOf_63 ?_
      refine Y_istore_n C (pc := 65) (lv' := [(1, .int (1000000 : Int32)), (0, .ref (ρ k0))]) 1 rfl (by decide) rfl dX9_boundOf_65 ?_
      refine Y_iconst C (pc := 66) (v := (0 : Int32)) (by decide) dX9_boundOf_66 ?_
      refine Y_istore_n C (pc := 67) (lv' := [(2, .int (0 : Int32)), (1, .int (1000000 : Int32)), (0, .ref (ρ k0))]) 2 rfl (by decide) rfl dX9_boundOf_67 ?_
      obtain ⟨e27, he27, h⟩ := Option.bind_eq_some_iff.mp h
      refine Y_sub [2, 1, 0] (lv' := [(0, .ref (ρ k0)), (1, .int (1000000 : Int32)), (2, .int (0 : Int32))]) rfl ?_
      refine lo_rule (f := (f_X9_boundOf_L68 e18 k0)) (YS := fun s19 => Y p l e (Rm 5 119) s m args below meth c 3 D cA ρ (Aw ρ) 0 0 (MQ below (QC D cA ρ (Aw ρ) (some (.int r.1)) r.2 τ) args s 0 0 (Aw ρ)) e18 τ 68 [(0, .ref (ρ k0)), (1, .int s19.1), (2, .int s19.2)] []) (YE := fun e27 => Y p l e (Rm 5 119) s m args below meth c 3 D cA ρ (Aw ρ) 0 0 (MQ below (QC D cA ρ (Aw ρ) (some (.int r.1)) r.2 τ) args s 0 0 (Aw ρ)) e18 τ 101 [(0, .ref (ρ k0)), (1, .int e27)] []) ?_ he27 ?_
      · intro s19 x h hLp hE
        unfold f_X9_boundOf_L68 at h
        have hJ94 : ∀ (j21 : Int32) (j22 : Int32) (sj23 : Sg), f_X9_boundOf_J94 j21 j22 sj23 = some x → Y p l e (Rm 5 119) s m args below meth c 3 D cA ρ (Aw ρ) 0 0 (MQ below (QC D cA ρ (Aw ρ) (some (.int r.1)) r.2 τ) args s 0 0 (Aw ρ)) sj23 τ 94 [(0, .ref (ρ k0)), (2, .int j21)] [.int j22] := by
          intro j21 j22 sj23 h
          unfold f_X9_boundOf_J94 at h
          refine Y_istore_n C (pc := 94) (lv' := [(1, .int j22), (0, .ref (ρ k0)), (2, .int j21)]) 1 rfl (by decide) rfl dX9_boundOf_94 ?_
          refine Y_iinc C (pc := 95) (v := (j21 + 1)) (lv' := [(2, .int (j21 + 1)), (1, .int j22), (0, .ref (ρ k0))]) 2 rfl (congrArg (fun z => j21 + z) (by decide : Int32.ofInt (1) = (1))) (by decide) rfl dX9_boundOf_95 ?_
          refine Y_goto C (pc := 98) (tgt := 68) dX9_boundOf_98 (by decide) ?_
          have h := Option.some.inj h
          exact Y_sub [2, 1, 0] rfl (hLp _ h.symm)
        refine Y_iload_n C (pc := 68) 2 2 rfl rfl dX9_boundOf_68 ?_
        refine Y_bipush C (pc := 69) (v := (64 : Int32)) (by decide) dX9_boundOf_69 ?_
        refine Y_icmp_ge C (pc := 71) (tgt := 101) dX9_boundOf_71 (by decide) (fun c26 => ?_) (fun c26 => ?_)
        · rw [if_pos c26] at h
          have h := Option.some.inj h
          exact Y_sub [0, 1] rfl (hE _ h.symm)
        · rw [if_neg c26] at h
          refine Y_aload_n C (pc := 74) 0 0 rfl rfl dX9_boundOf_74 ?_
          refine Y_getR C (pc := 75) hk0 q_fi_RX9_34 (by decide) dX9_boundOf_75 ?_
          refine Y_iload_n C (pc := 78) 2 2 rfl rfl dX9_boundOf_78 ?_
          obtain ⟨v20, hv20, h⟩ := Option.bind_eq_some_iff.mp h
          refine Y_iald C (pc := 79) (q_kr_9_11 hk0) hv20 dX9_boundOf_79 ?_
          refine Y_iload_n C (pc := 80) 1 1 rfl rfl dX9_boundOf_80 ?_
          refine Y_icmp_ge C (pc := 81) (tgt := 93) dX9_boundOf_81 (by decide) (fun c25 => ?_) (fun c25 => ?_)
          · rw [if_pos c25] at h
            refine Y_iload_n C (pc := 93) 1 1 rfl rfl dX9_boundOf_93 ?_
            exact Y_sub [0, 2] rfl (hJ94 _ _ _ h)
          · rw [if_neg c25] at h
            refine Y_aload_n C (pc := 84) 0 0 rfl rfl dX9_boundOf_84 ?_
            refine Y_getR C (pc := 85) hk0 q_fi_RX9_34 (by decide) dX9_boundOf_85 ?_
            refine Y_iload_n C (pc := 88) 2 2 rfl rfl dX9_boundOf_88 ?_
            obtain ⟨v24, hv24, h⟩ := Option.bind_eq_some_iff.mp h
            refine Y_iald C (pc := 89) (q_kr_9_11 hk0) hv24 dX9_boundOf_89 ?_
            refine Y_goto C (pc := 90) (tgt := 94) dX9_boundOf_90 (by decide) ?_
            exact Y_sub [0, 2] rfl (hJ94 _ _ _ h)
      · refine Y_aload_n C (pc := 101) 0 0 rfl rfl dX9_boundOf_101 ?_
        obtain ⟨v28, hv28, h⟩ := Option.bind_eq_some_iff.mp h
        refine Y_callV C [] [] [.int v28] hk0 rfl rfl (c_X9_fixedPart hk0 hv28) (fun _ h => h.elim) q_cw_yX9_fixedPart q_ml_RX9_190 ⟨q_im_yX9_fixedPart, q_se_yX9_fixedPart⟩ ⟨⟨Nat.le_of_ble_eq_true rfl, Nat.le_of_ble_eq_true rfl⟩, ⟨Nat.zero_le _, Nat.zero_le _⟩, Nat.le_of_ble_eq_true rfl⟩ rfl rfl rfl dX9_boundOf_102 ?_
        refine Y_iload_n C (pc := 105) 1 1 rfl rfl dX9_boundOf_105 ?_
        refine Y_iadd C (pc := 106) dX9_boundOf_106 ?_
        cases h
        exact Y_iret C dX9_boundOf_107

noncomputable def f_X9_bound (σ : Sg) (k0 : Nat) : Option (Int32 × Sg) := (f_X9_looks σ k0).bind fun v1 => (f_X9_boundOf v1 k0).bind fun v2 => (f_X9_tells v2.2 k0 v2.1).bind fun v3 => some (v3.1, v3.2)
set_option maxRecDepth 100000 in
set_option maxHeartbeats 4000000 in
theorem c_X9_bound {l : Launch} {D : va_G} {cA ρ : Nat → Nat} {σ : Sg} {τ : Tg} {k0 : Nat} (hI : Inj ρ) (hk0 : kd k0 = (0, 9)) {r : Int32 × Sg} (h : f_X9_bound σ k0 = some r) : Ct l yX9_bound cX9_bound 1 (some .int) 6 141 D cA ρ (Aw ρ) [.ref (ρ k0)] σ τ (some (.int r.1)) r.2 τ := by
  refine Ct_of (by decide +kernel) (Nat.le_of_ble_eq_true rfl) (fun p e s m args below meth c C => ?_)
  have C : Ctx p l s m args meth c cX9_bound RX9 1 (some .int) D cA ρ (Aw ρ) := C
  have hW : Wr ρ (Aw ρ) := ⟨hI, fun k hk => ⟨k, hk, rfl⟩⟩
  unfold f_X9_bound at h
  refine Y_sub [0] (lv' := [(0, .ref (ρ k0))]) rfl ?_
  refine Y_aload_n C (pc := 0) 0 0 rfl rfl dX9_bound_0 ?_
  obtain ⟨v1, hv1, h⟩ := Option.bind_eq_some_iff.mp h
  refine Y_callV C [] [] [] hk0 rfl rfl (c_X9_looks hI hk0 hv1) (fun _ h => h) q_cw_yX9_looks q_ml_RX9_177 ⟨q_im_yX9_looks, q_se_yX9_looks⟩ ⟨⟨Nat.le_of_ble_eq_true rfl, Nat.le_of_ble_eq_true rfl⟩, ⟨Nat.zero_le _, Nat.zero_le _⟩, Nat.le_of_ble_eq_true rfl⟩ rfl rfl rfl dX9_bound_1 ?_
  refine Y_aload_n C (pc := 4) 0 0 rfl rfl dX9_bound_4 ?_
  refine Y_aload_n C (pc := 5) 0 0 rfl rfl dX9_bound_5 ?_
  obtain ⟨v2, hv2, h⟩ := Option.bind_eq_some_iff.mp h
  refine Y_callV C [] [.ref (ρ k0)] [.int v2.1, .ref (ρ k0)] hk0 rfl rfl (c_X9_boundOf hI hk0 hv2) (fun _ h => h) q_cw_yX9_boundOf q_ml_RX9_206 ⟨q_im_yX9_boundOf, q_se_yX9_boundOf⟩ ⟨⟨Nat.le_of_ble_eq_true rfl, Nat.le_of_ble_eq_true rfl⟩, ⟨Nat.zero_le _, Nat.zero_le _⟩, Nat.le_of_ble_eq_true rfl⟩ rfl rfl rfl dX9_bound_6 ?_
  obtain ⟨v3, hv3, h⟩ := Option.bind_eq_some_iff.mp h
  refine Y_callV C [.int v2.1] [] [.int v3.1] hk0 rfl rfl (c_X9_tells hI hk0 hv3) (fun _ h => h) q_cw_yX9_tells q_ml_RX9_82 ⟨q_im_yX9_tells, q_se_yX9_tells⟩ ⟨⟨Nat.le_of_ble_eq_true rfl, Nat.le_of_ble_eq_true rfl⟩, ⟨Nat.zero_le _, Nat.zero_le _⟩, Nat.le_of_ble_eq_true rfl⟩ rfl rfl rfl dX9_bound_9 ?_
  cases h
  exact Y_iret C dX9_bound_12

noncomputable def f_X9_boundWith_J16 (k0 : Nat) (sj2 : Sg) : Option (Int32 × Sg) := (f_X9_fails sj2 k0 ((1 : Int32))).bind fun v3 => some (v3.1, v3.2)
noncomputable def f_X9_boundWith (σ : Sg) (k0 : Nat) (i1 : Int32) (i2 : Int32) : Option (Int32 × Sg) := (f_X9_isOne σ k0 i1).bind fun v1 => if v1 = (0 : Int32) then (f_X9_boundWith_J16 k0 σ) else ((f_X9_isOne σ k0 i2).bind fun v4 => if v4 = (0 : Int32) then (f_X9_boundWith_J16 k0 σ) else ((f_X9_areFree σ k0 i1 i2).bind fun v5 => if v5.1 = (0 : Int32) then ((f_X9_fails v5.2 k0 ((2 : Int32))).bind fun v9 => some (v9.1, v9.2)) else ((ast v5.2 (k0 + 6) i1 i2).bind fun s6 => (f_X9_boundOf s6 k0).bind fun v7 => (f_X9_tells v7.2 k0 v7.1).bind fun v8 => some (v8.1, v8.2))))
set_option maxRecDepth 100000 in
set_option maxHeartbeats 4000000 in
theorem c_X9_boundWith {l : Launch} {D : va_G} {cA ρ : Nat → Nat} {σ : Sg} {τ : Tg} {k0 : Nat} {i1 : Int32} {i2 : Int32} (hI : Inj ρ) (hk0 : kd k0 = (0, 9)) {r : Int32 × Sg} (h : f_X9_boundWith σ k0 i1 i2 = some r) : Ct l yX9_boundWith cX9_boundWith 3 (some .int) 6 141 D cA ρ (Aw ρ) [.ref (ρ k0), .int i1, .int i2] σ τ (some (.int r.1)) r.2 τ := by
  refine Ct_of (by decide +kernel) (Nat.le_of_ble_eq_true rfl) (fun p e s m args below meth c C => ?_)
  have C : Ctx p l s m args meth c cX9_boundWith RX9 3 (some .int) D cA ρ (Aw ρ) := C
  have hW : Wr ρ (Aw ρ) := ⟨hI, fun k hk => ⟨k, hk, rfl⟩⟩
  unfold f_X9_boundWith at h
  refine Y_sub [0, 1, 2] (lv' := [(0, .ref (ρ k0)), (1, .int i1), (2, .int i2)]) rfl ?_
  have hJ16 : ∀ (sj2 : Sg), f_X9_boundWith_J16 k0 sj2 = some r → Y p l e (Rm 6 141) s m args below meth c 3 D cA ρ (Aw ρ) 0 0 (MQ below (QC D cA ρ (Aw ρ) (some (.int r.1)) r.2 τ) args s 0 0 (Aw ρ)) sj2 τ 16 [(0, .ref (ρ k0))] [] := by
    intro sj2 h
    unfold f_X9_boundWith_J16 at h
    refine Y_aload_n C (pc := 16) 0 0 rfl rfl dX9_boundWith_16 ?_
    refine Y_iconst C (pc := 17) (v := (1 : Int32)) (by decide) dX9_boundWith_17 ?_
    obtain ⟨v3, hv3, h⟩ := Option.bind_eq_some_iff.mp h
    refine Y_callV C [.int (1 : Int32)] [] [.int v3.1] hk0 rfl rfl (c_X9_fails hI hk0 hv3) (fun _ h => h) q_cw_yX9_fails q_ml_RX9_94 ⟨q_im_yX9_fails, q_se_yX9_fails⟩ ⟨⟨Nat.le_of_ble_eq_true rfl, Nat.le_of_ble_eq_true rfl⟩, ⟨Nat.zero_le _, Nat.zero_le _⟩, Nat.le_of_ble_eq_true rfl⟩ rfl rfl rfl dX9_boundWith_18 ?_
    cases h
    exact Y_iret C dX9_boundWith_21
  refine Y_aload_n C (pc := 0) 0 0 rfl rfl dX9_boundWith_0 ?_
  refine Y_iload_n C (pc := 1) 1 1 rfl rfl dX9_boundWith_1 ?_
  obtain ⟨v1, hv1, h⟩ := Option.bind_eq_some_iff.mp h
  refine Y_callV C [.int i1] [] [.int v1] hk0 rfl rfl (c_X9_isOne hk0 hv1) (fun _ h => h.elim) q_cw_yX9_isOne q_ml_RX9_103 ⟨q_im_yX9_isOne, q_se_yX9_isOne⟩ ⟨⟨Nat.le_of_ble_eq_true rfl, Nat.le_of_ble_eq_true rfl⟩, ⟨Nat.zero_le _, Nat.zero_le _⟩, Nat.le_of_ble_eq_true rfl⟩ rfl rfl rfl dX9_boundWith_2 ?_
  refine Y_if_eq C (pc := 5) (tgt := 16) dX9_boundWith_5 (by decide) (fun c12 => ?_) (fun c12 => ?_)
  · rw [if_pos c12] at h
    exact Y_sub [0] rfl (hJ16 _ h)
  · rw [if_neg c12] at h
    refine Y_aload_n C (pc := 8) 0 0 rfl rfl dX9_boundWith_8 ?_
    refine Y_iload_n C (pc := 9) 2 2 rfl rfl dX9_boundWith_9 ?_
    obtain ⟨v4, hv4, h⟩ := Option.bind_eq_some_iff.mp h
    refine Y_callV C [.int i2] [] [.int v4] hk0 rfl rfl (c_X9_isOne hk0 hv4) (fun _ h => h.elim) q_cw_yX9_isOne q_ml_RX9_103 ⟨q_im_yX9_isOne, q_se_yX9_isOne⟩ ⟨⟨Nat.le_of_ble_eq_true rfl, Nat.le_of_ble_eq_true rfl⟩, ⟨Nat.zero_le _, Nat.zero_le _⟩, Nat.le_of_ble_eq_true rfl⟩ rfl rfl rfl dX9_boundWith_10 ?_
    refine Y_if_ne C (pc := 13) (tgt := 22) dX9_boundWith_13 (by decide) (fun c11 => ?_) (fun c11 => ?_)
    · rw [if_neg c11] at h
      refine Y_aload_n C (pc := 22) 0 0 rfl rfl dX9_boundWith_22 ?_
      refine Y_iload_n C (pc := 23) 1 1 rfl rfl dX9_boundWith_23 ?_
      refine Y_iload_n C (pc := 24) 2 2 rfl rfl dX9_boundWith_24 ?_
      obtain ⟨v5, hv5, h⟩ := Option.bind_eq_some_iff.mp h
      refine Y_callV C [.int i1, .int i2] [] [.int v5.1] hk0 rfl rfl (c_X9_areFree hI hk0 hv5) (fun _ h => h) q_cw_yX9_areFree q_ml_RX9_183 ⟨q_im_yX9_areFree, q_se_yX9_areFree⟩ ⟨⟨Nat.le_of_ble_eq_true rfl, Nat.le_of_ble_eq_true rfl⟩, ⟨Nat.zero_le _, Nat.zero_le _⟩, Nat.le_of_ble_eq_true rfl⟩ rfl rfl rfl dX9_boundWith_25 ?_
      refine Y_if_ne C (pc := 28) (tgt := 37) dX9_boundWith_28 (by decide) (fun c10 => ?_) (fun c10 => ?_)
      · rw [if_neg c10] at h
        refine Y_aload_n C (pc := 37) 0 0 rfl rfl dX9_boundWith_37 ?_
        refine Y_getR C (pc := 38) hk0 q_fi_RX9_25 (by decide) dX9_boundWith_38 ?_
        refine Y_iload_n C (pc := 41) 1 1 rfl rfl dX9_boundWith_41 ?_
        refine Y_iload_n C (pc := 42) 2 2 rfl rfl dX9_boundWith_42 ?_
        obtain ⟨s6, hs6, h⟩ := Option.bind_eq_some_iff.mp h
        refine Y_iast C (pc := 43) hW (q_kr_9_8 hk0) (q_lr_9_8 hk0) hs6 dX9_boundWith_43 ?_
        refine Y_aload_n C (pc := 44) 0 0 rfl rfl dX9_boundWith_44 ?_
        refine Y_aload_n C (pc := 45) 0 0 rfl rfl dX9_boundWith_45 ?_
        obtain ⟨v7, hv7, h⟩ := Option.bind_eq_some_iff.mp h
        refine Y_callV C [] [.ref (ρ k0)] [.int v7.1, .ref (ρ k0)] hk0 rfl rfl (c_X9_boundOf hI hk0 hv7) (fun _ h => h) q_cw_yX9_boundOf q_ml_RX9_206 ⟨q_im_yX9_boundOf, q_se_yX9_boundOf⟩ ⟨⟨Nat.le_of_ble_eq_true rfl, Nat.le_of_ble_eq_true rfl⟩, ⟨Nat.zero_le _, Nat.zero_le _⟩, Nat.le_of_ble_eq_true rfl⟩ rfl rfl rfl dX9_boundWith_46 ?_
        obtain ⟨v8, hv8, h⟩ := Option.bind_eq_some_iff.mp h
        refine Y_callV C [.int v7.1] [] [.int v8.1] hk0 rfl rfl (c_X9_tells hI hk0 hv8) (fun _ h => h) q_cw_yX9_tells q_ml_RX9_82 ⟨q_im_yX9_tells, q_se_yX9_tells⟩ ⟨⟨Nat.le_of_ble_eq_true rfl, Nat.le_of_ble_eq_true rfl⟩, ⟨Nat.zero_le _, Nat.zero_le _⟩, Nat.le_of_ble_eq_true rfl⟩ rfl rfl rfl dX9_boundWith_49 ?_
        cases h
        exact Y_iret C dX9_boundWith_52
      · rw [if_pos c10] at h
        refine Y_aload_n C (pc := 31) 0 0 rfl rfl dX9_boundWith_31 ?_
        refine Y_iconst C (pc := 32) (v := (2 : Int32)) (by decide) dX9_boundWith_32 ?_
        obtain ⟨v9, hv9, h⟩ := Option.bind_eq_some_iff.mp h
        refine Y_callV C [.int (2 : Int32)] [] [.int v9.1] hk0 rfl rfl (c_X9_fails hI hk0 hv9) (fun _ h => h) q_cw_yX9_fails q_ml_RX9_94 ⟨q_im_yX9_fails, q_se_yX9_fails⟩ ⟨⟨Nat.le_of_ble_eq_true rfl, Nat.le_of_ble_eq_true rfl⟩, ⟨Nat.zero_le _, Nat.zero_le _⟩, Nat.le_of_ble_eq_true rfl⟩ rfl rfl rfl dX9_boundWith_33 ?_
        cases h
        exact Y_iret C dX9_boundWith_36
    · rw [if_pos c11] at h
      exact Y_sub [0] rfl (hJ16 _ h)

noncomputable def f_X9_regretOf_J80 (j4 : Int32) (j5 : Int32) (j6 : Int32) (j7 : Int32) (sj8 : Sg) : Option ((Int32 × Int32 × Int32 × Int32 × Sg) ⊕ (Int32 × Int32 × Int32 × Sg)) := some (.inl (j4, j5, j6, (j7 + 1), sj8))
noncomputable def f_X9_regretOf_J76 (j16 : Int32) (j17 : Int32) (j18 : Int32) (j19 : Int32) (sj20 : Sg) : Option ((Int32 × Int32 × Int32 × Int32 × Sg) ⊕ (Int32 × Int32 × Int32 × Sg)) := f_X9_regretOf_J80 j19 j16 ((j17 + 1)) j18 sj20
noncomputable def f_X9_regretOf_J63 (j10 : Int32) (j11 : Int32) (j12 : Int32) (j13 : Int32) (j14 : Int32) (sj15 : Sg) : Option ((Int32 × Int32 × Int32 × Int32 × Sg) ⊕ (Int32 × Int32 × Int32 × Sg)) := if j10 ≤ j13 then (f_X9_regretOf_J76 j14 j11 j12 j10 sj15) else (f_X9_regretOf_J76 j14 j11 j12 j13 sj15)
noncomputable def f_X9_regretOf_L12 (k0 : Nat) (i1 : Int32) : (Int32 × Int32 × Int32 × Int32 × Sg) → Option ((Int32 × Int32 × Int32 × Int32 × Sg) ⊕ (Int32 × Int32 × Int32 × Sg)) := fun s1 => (ald s1.2.2.2.2 (k0 + 1) (0 : Int32)).bind fun v2 => if v2 ≤ s1.2.2.2.1 then (some (.inr (s1.1, s1.2.1, s1.2.2.1, s1.2.2.2.2))) else ((f_X9_isTaken s1.2.2.2.2 k0 s1.2.2.2.1).bind fun v3 => if v3 = (0 : Int32) then ((f_X9_entryOf s1.2.2.2.2 k0 i1 s1.2.2.2.1).bind fun v9 => if s1.1 ≤ v9.1 then (if s1.2.1 ≤ v9.1 then (f_X9_regretOf_J63 s1.1 s1.2.2.1 s1.2.2.2.1 v9.1 s1.2.1 v9.2) else (f_X9_regretOf_J63 s1.1 s1.2.2.1 s1.2.2.2.1 v9.1 v9.1 v9.2)) else (f_X9_regretOf_J63 s1.1 s1.2.2.1 s1.2.2.2.1 v9.1 s1.1 v9.2)) else (f_X9_regretOf_J80 s1.1 s1.2.1 s1.2.2.1 s1.2.2.2.1 s1.2.2.2.2))
noncomputable def f_X9_regretOf (σ : Sg) (k0 : Nat) (i1 : Int32) : Option (Int32 × Sg) := (lo (f_X9_regretOf_L12 k0 i1) ((1000000 : Int32), (1000000 : Int32), (0 : Int32), (0 : Int32), σ)).bind fun e26 => if e26.2.2.1 = (1 : Int32) then (some ((1000000 : Int32), e26.2.2.2)) else (some ((e26.2.1 - e26.1), e26.2.2.2))
set_option maxRecDepth 100000 in
set_option maxHeartbeats 4000000 in
theorem c_X9_regretOf {l : Launch} {D : va_G} {cA ρ : Nat → Nat} {σ : Sg} {τ : Tg} {k0 : Nat} {i1 : Int32} (hI : Inj ρ) (hk0 : kd k0 = (0, 9)) {r : Int32 × Sg} (h : f_X9_regretOf σ k0 i1 = some r) : Ct l yX9_regretOf cX9_regretOf 7 (some .int) 4 94 D cA ρ (Aw ρ) [.ref (ρ k0), .int i1] σ τ (some (.int r.1)) r.2 τ := by
  refine Ct_of (by decide +kernel) (Nat.le_of_ble_eq_true rfl) (fun p e s m args below meth c C => ?_)
  have C : Ctx p l s m args meth c cX9_regretOf RX9 7 (some .int) D cA ρ (Aw ρ) := C
  have hW : Wr ρ (Aw ρ) := ⟨hI, fun k hk => ⟨k, hk, rfl⟩⟩
  unfold f_X9_regretOf at h
  refine Y_sub [0, 1] (lv' := [(0, .ref (ρ k0)), (1, .int i1)]) rfl ?_
  refine Y_ldc C q_ct_RX9_167 dX9_regretOf_0 ?_
  refine Y_istore_n C (pc := 2) (lv' := [(2, .int (1000000 : Int32)), (0, .ref (ρ k0)), (1, .int i1)]) 2 rfl (by decide) rfl dX9_regretOf_2 ?_
  refine Y_ldc C q_ct_RX9_167 dX9_regretOf_3 ?_
  refine Y_istore_n C (pc := 5) (lv' := [(3, .int (1000000 : Int32)), (2, .int (1000000 : Int32)), (0, .ref (ρ k0)), (1, .int i1)]) 3 rfl (by decide) rfl dX9_regretOf_5 ?_
  refine Y_iconst C (pc := 6) (v := (0 : Int32)) (by decide) dX9_regretOf_6 ?_
  refine Y_istore C (pc := 7) (lv' := [(4, .int (0 : Int32)), (3, .int (1000000 : Int32)), (2, .int (1000000 : Int32)), (0, .ref (ρ k0)), (1, .int i1)]) (by decide) rfl dX9_regretOf_7 ?_
  refine Y_iconst C (pc := 9) (v := (0 : Int32)) (by decide) dX9_regretOf_9 ?_
  refine Y_istore C (pc := 10) (lv' := [(5, .int (0 : Int32)), (4, .int (0 : Int32)), (3, .int (1000000 : Int32)), (2, .int (1000000 : Int32)), (0, .ref (ρ k0)), (1, .int i1)]) (by decide) rfl dX9_regretOf_10 ?_
  obtain ⟨e26, he26, h⟩ := Option.bind_eq_some_iff.mp h
  refine Y_sub [4, 5, 3, 2, 1, 0] (lv' := [(0, .ref (ρ k0)), (1, .int i1), (2, .int (1000000 : Int32)), (3, .int (1000000 : Int32)), (4, .int (0 : Int32)), (5, .int (0 : Int32))]) rfl ?_
  refine lo_rule (f := (f_X9_regretOf_L12 k0 i1)) (YS := fun s1 => Y p l e (Rm 4 94) s m args below meth c 7 D cA ρ (Aw ρ) 0 0 (MQ below (QC D cA ρ (Aw ρ) (some (.int r.1)) r.2 τ) args s 0 0 (Aw ρ)) s1.2.2.2.2 τ 12 [(0, .ref (ρ k0)), (1, .int i1), (2, .int s1.1), (3, .int s1.2.1), (4, .int s1.2.2.1), (5, .int s1.2.2.2.1)] []) (YE := fun e26 => Y p l e (Rm 4 94) s m args below meth c 7 D cA ρ (Aw ρ) 0 0 (MQ below (QC D cA ρ (Aw ρ) (some (.int r.1)) r.2 τ) args s 0 0 (Aw ρ)) e26.2.2.2 τ 86 [(2, .int e26.1), (3, .int e26.2.1), (4, .int e26.2.2.1)] []) ?_ he26 ?_
  · intro s1 x h hLp hE
    unfold f_X9_regretOf_L12 at h
    have hJ80 : ∀ (j4 : Int32) (j5 : Int32) (j6 : Int32) (j7 : Int32) (sj8 : Sg), f_X9_regretOf_J80 j4 j5 j6 j7 sj8 = some x → Y p l e (Rm 4 94) s m args below meth c 7 D cA ρ (Aw ρ) 0 0 (MQ below (QC D cA ρ (Aw ρ) (some (.int r.1)) r.2 τ) args s 0 0 (Aw ρ)) sj8 τ 80 [(0, .ref (ρ k0)), (1, .int i1), (2, .int j4), (3, .int j5), (4, .int j6), (5, .int j7)] [] := by
      intro j4 j5 j6 j7 sj8 h
      unfold f_X9_regretOf_J80 at h
      refine Y_iinc C (pc := 80) (v := (j7 + 1)) (lv' := [(5, .int (j7 + 1)), (0, .ref (ρ k0)), (1, .int i1), (2, .int j4), (3, .int j5), (4, .int j6)]) 5 rfl (congrArg (fun z => j7 + z) (by decide : Int32.ofInt (1) = (1))) (by decide) rfl dX9_regretOf_80 ?_
      refine Y_goto C (pc := 83) (tgt := 12) dX9_regretOf_83 (by decide) ?_
      have h := Option.some.inj h
      exact Y_sub [1, 2, 3, 4, 5, 0] rfl (hLp _ h.symm)
    have hJ76 : ∀ (j16 : Int32) (j17 : Int32) (j18 : Int32) (j19 : Int32) (sj20 : Sg), f_X9_regretOf_J76 j16 j17 j18 j19 sj20 = some x → Y p l e (Rm 4 94) s m args below meth c 7 D cA ρ (Aw ρ) 0 0 (MQ below (QC D cA ρ (Aw ρ) (some (.int r.1)) r.2 τ) args s 0 0 (Aw ρ)) sj20 τ 76 [(0, .ref (ρ k0)), (1, .int i1), (3, .int j16), (4, .int j17), (5, .int j18)] [.int j19] := by
      intro j16 j17 j18 j19 sj20 h
      unfold f_X9_regretOf_J76 at h
      refine Y_istore_n C (pc := 76) (lv' := [(2, .int j19), (0, .ref (ρ k0)), (1, .int i1), (3, .int j16), (4, .int j17), (5, .int j18)]) 2 rfl (by decide) rfl dX9_regretOf_76 ?_
      refine Y_iinc C (pc := 77) (v := (j17 + 1)) (lv' := [(4, .int (j17 + 1)), (2, .int j19), (0, .ref (ρ k0)), (1, .int i1), (3, .int j16), (5, .int j18)]) 4 rfl (congrArg (fun z => j17 + z) (by decide : Int32.ofInt (1) = (1))) (by decide) rfl dX9_regretOf_77 ?_
      exact Y_sub [2, 3, 1, 4, 0, 5] rfl (hJ80 _ _ _ _ _ h)
    have hJ63 : ∀ (j10 : Int32) (j11 : Int32) (j12 : Int32) (j13 : Int32) (j14 : Int32) (sj15 : Sg), f_X9_regretOf_J63 j10 j11 j12 j13 j14 sj15 = some x → Y p l e (Rm 4 94) s m args below meth c 7 D cA ρ (Aw ρ) 0 0 (MQ below (QC D cA ρ (Aw ρ) (some (.int r.1)) r.2 τ) args s 0 0 (Aw ρ)) sj15 τ 63 [(0, .ref (ρ k0)), (1, .int i1), (2, .int j10), (4, .int j11), (5, .int j12), (6, .int j13)] [.int j14] := by
      intro j10 j11 j12 j13 j14 sj15 h
      unfold f_X9_regretOf_J63 at h
      refine Y_istore_n C (pc := 63) (lv' := [(3, .int j14), (0, .ref (ρ k0)), (1, .int i1), (2, .int j10), (4, .int j11), (5, .int j12), (6, .int j13)]) 3 rfl (by decide) rfl dX9_regretOf_63 ?_
      refine Y_iload C (pc := 64) 6 rfl dX9_regretOf_64 ?_
      refine Y_iload_n C (pc := 66) 2 3 rfl rfl dX9_regretOf_66 ?_
      refine Y_icmp_ge C (pc := 67) (tgt := 75) dX9_regretOf_67 (by decide) (fun c21 => ?_) (fun c21 => ?_)
      · rw [if_pos c21] at h
        refine Y_iload_n C (pc := 75) 2 3 rfl rfl dX9_regretOf_75 ?_
        exact Y_sub [1, 2, 0, 4, 5] rfl (hJ76 _ _ _ _ _ h)
      · rw [if_neg c21] at h
        refine Y_iload C (pc := 70) 6 rfl dX9_regretOf_70 ?_
        refine Y_goto C (pc := 72) (tgt := 76) dX9_regretOf_72 (by decide) ?_
        exact Y_sub [1, 2, 0, 4, 5] rfl (hJ76 _ _ _ _ _ h)
    refine Y_iload C (pc := 12) 5 rfl dX9_regretOf_12 ?_
    refine Y_aload_n C (pc := 14) 0 0 rfl rfl dX9_regretOf_14 ?_
    refine Y_getR C (pc := 15) hk0 q_fi_RX9_7 (by decide) dX9_regretOf_15 ?_
    refine Y_iconst C (pc := 18) (v := (0 : Int32)) (by decide) dX9_regretOf_18 ?_
    obtain ⟨v2, hv2, h⟩ := Option.bind_eq_some_iff.mp h
    refine Y_iald C (pc := 19) (q_kr_9_0 hk0) hv2 dX9_regretOf_19 ?_
    refine Y_icmp_ge C (pc := 20) (tgt := 86) dX9_regretOf_20 (by decide) (fun c25 => ?_) (fun c25 => ?_)
    · rw [if_pos c25] at h
      have h := Option.some.inj h
      exact Y_sub [2, 3, 4] rfl (hE _ h.symm)
    · rw [if_neg c25] at h
      refine Y_aload_n C (pc := 23) 0 0 rfl rfl dX9_regretOf_23 ?_
      refine Y_iload C (pc := 24) 5 rfl dX9_regretOf_24 ?_
      obtain ⟨v3, hv3, h⟩ := Option.bind_eq_some_iff.mp h
      refine Y_callV C [.int s1.2.2.2.1] [] [.int v3] hk0 rfl rfl (c_X9_isTaken hk0 hv3) (fun _ h => h.elim) q_cw_yX9_isTaken q_ml_RX9_180 ⟨q_im_yX9_isTaken, q_se_yX9_isTaken⟩ ⟨⟨Nat.le_of_ble_eq_true rfl, Nat.le_of_ble_eq_true rfl⟩, ⟨Nat.zero_le _, Nat.zero_le _⟩, Nat.le_of_ble_eq_true rfl⟩ rfl rfl rfl dX9_regretOf_26 ?_
      refine Y_if_ne C (pc := 29) (tgt := 80) dX9_regretOf_29 (by decide) (fun c24 => ?_) (fun c24 => ?_)
      · rw [if_neg c24] at h
        exact Y_sub [0, 1, 2, 3, 4, 5] rfl (hJ80 _ _ _ _ _ h)
      · rw [if_pos c24] at h
        refine Y_aload_n C (pc := 32) 0 0 rfl rfl dX9_regretOf_32 ?_
        refine Y_iload_n C (pc := 33) 1 1 rfl rfl dX9_regretOf_33 ?_
        refine Y_iload C (pc := 34) 5 rfl dX9_regretOf_34 ?_
        obtain ⟨v9, hv9, h⟩ := Option.bind_eq_some_iff.mp h
        refine Y_callV C [.int i1, .int s1.2.2.2.1] [] [.int v9.1] hk0 rfl rfl (c_X9_entryOf hI hk0 hv9) (fun _ h => h) q_cw_yX9_entryOf q_ml_RX9_200 ⟨q_im_yX9_entryOf, q_se_yX9_entryOf⟩ ⟨⟨Nat.le_of_ble_eq_true rfl, Nat.le_of_ble_eq_true rfl⟩, ⟨Nat.zero_le _, Nat.zero_le _⟩, Nat.le_of_ble_eq_true rfl⟩ rfl rfl rfl dX9_regretOf_36 ?_
        refine Y_istore C (pc := 39) (lv' := [(6, .int v9.1), (0, .ref (ρ k0)), (1, .int i1), (2, .int s1.1), (3, .int s1.2.1), (4, .int s1.2.2.1), (5, .int s1.2.2.2.1)]) (by decide) rfl dX9_regretOf_39 ?_
        refine Y_iload C (pc := 41) 0 rfl dX9_regretOf_41 ?_
        refine Y_iload_n C (pc := 43) 2 3 rfl rfl dX9_regretOf_43 ?_
        refine Y_icmp_ge C (pc := 44) (tgt := 51) dX9_regretOf_44 (by decide) (fun c23 => ?_) (fun c23 => ?_)
        · rw [if_pos c23] at h
          refine Y_iload C (pc := 51) 0 rfl dX9_regretOf_51 ?_
          refine Y_iload_n C (pc := 53) 3 4 rfl rfl dX9_regretOf_53 ?_
          refine Y_icmp_ge C (pc := 54) (tgt := 62) dX9_regretOf_54 (by decide) (fun c22 => ?_) (fun c22 => ?_)
          · rw [if_pos c22] at h
            refine Y_iload_n C (pc := 62) 3 4 rfl rfl dX9_regretOf_62 ?_
            exact Y_sub [1, 2, 3, 5, 6, 0] rfl (hJ63 _ _ _ _ _ _ h)
          · rw [if_neg c22] at h
            refine Y_iload C (pc := 57) 0 rfl dX9_regretOf_57 ?_
            refine Y_goto C (pc := 59) (tgt := 63) dX9_regretOf_59 (by decide) ?_
            exact Y_sub [1, 2, 3, 5, 6, 0] rfl (hJ63 _ _ _ _ _ _ h)
        · rw [if_neg c23] at h
          refine Y_iload_n C (pc := 47) 2 3 rfl rfl dX9_regretOf_47 ?_
          refine Y_goto C (pc := 48) (tgt := 63) dX9_regretOf_48 (by decide) ?_
          exact Y_sub [1, 2, 3, 5, 6, 0] rfl (hJ63 _ _ _ _ _ _ h)
  · refine Y_iload C (pc := 86) 2 rfl dX9_regretOf_86 ?_
    refine Y_iconst C (pc := 88) (v := (1 : Int32)) (by decide) dX9_regretOf_88 ?_
    refine Y_icmp_ne C (pc := 89) (tgt := 97) dX9_regretOf_89 (by decide) (fun c27 => ?_) (fun c27 => ?_)
    · rw [if_neg c27] at h
      refine Y_iload_n C (pc := 97) 3 1 rfl rfl dX9_regretOf_97 ?_
      refine Y_iload_n C (pc := 98) 2 0 rfl rfl dX9_regretOf_98 ?_
      refine Y_isub C (pc := 99) dX9_regretOf_99 ?_
      cases h
      exact Y_iret C dX9_regretOf_100
    · rw [if_pos c27] at h
      refine Y_ldc C q_ct_RX9_167 dX9_regretOf_92 ?_
      refine Y_goto C (pc := 94) (tgt := 100) dX9_regretOf_94 (by decide) ?_
      cases h
      exact Y_iret C dX9_regretOf_100

noncomputable def f_X9_regret (σ : Sg) (k0 : Nat) (i1 : Int32) : Option (Int32 × Sg) := (f_X9_isOne σ k0 i1).bind fun v1 => if v1 = (0 : Int32) then ((f_X9_fails σ k0 ((1 : Int32))).bind fun v8 => some (v8.1, v8.2)) else ((f_X9_looks σ k0).bind fun v2 => (ald v2 (k0 + 6) i1).bind fun v3 => if v3 = (-1 : Int32) then ((f_X9_regretOf v2 k0 i1).bind fun v5 => (f_X9_tells v5.2 k0 v5.1).bind fun v6 => some (v6.1, v6.2)) else ((f_X9_fails v2 k0 ((2 : Int32))).bind fun v4 => some (v4.1, v4.2)))
set_option maxRecDepth 100000 in
set_option maxHeartbeats 4000000 in
theorem c_X9_regret {l : Launch} {D : va_G} {cA ρ : Nat → Nat} {σ : Sg} {τ : Tg} {k0 : Nat} {i1 : Int32} (hI : Inj ρ) (hk0 : kd k0 = (0, 9)) {r : Int32 × Sg} (h : f_X9_regret σ k0 i1 = some r) : Ct l yX9_regret cX9_regret 2 (some .int) 5 120 D cA ρ (Aw ρ) [.ref (ρ k0), .int i1] σ τ (some (.int r.1)) r.2 τ := by
  refine Ct_of (by decide +kernel) (Nat.le_of_ble_eq_true rfl) (fun p e s m args below meth c C => ?_)
  have C : Ctx p l s m args meth c cX9_regret RX9 2 (some .int) D cA ρ (Aw ρ) := C
  have hW : Wr ρ (Aw ρ) := ⟨hI, fun k hk => ⟨k, hk, rfl⟩⟩
  unfold f_X9_regret at h
  refine Y_sub [0, 1] (lv' := [(0, .ref (ρ k0)), (1, .int i1)]) rfl ?_
  refine Y_aload_n C (pc := 0) 0 0 rfl rfl dX9_regret_0 ?_
  refine Y_iload_n C (pc := 1) 1 1 rfl rfl dX9_regret_1 ?_
  obtain ⟨v1, hv1, h⟩ := Option.bind_eq_some_iff.mp h
  refine Y_callV C [.int i1] [] [.int v1] hk0 rfl rfl (c_X9_isOne hk0 hv1) (fun _ h => h.elim) q_cw_yX9_isOne q_ml_RX9_103 ⟨q_im_yX9_isOne, q_se_yX9_isOne⟩ ⟨⟨Nat.le_of_ble_eq_true rfl, Nat.le_of_ble_eq_true rfl⟩, ⟨Nat.zero_le _, Nat.zero_le _⟩, Nat.le_of_ble_eq_true rfl⟩ rfl rfl rfl dX9_regret_2 ?_
  refine Y_if_ne C (pc := 5) (tgt := 14) dX9_regret_5 (by decide) (fun c9 => ?_) (fun c9 => ?_)
  · rw [if_neg c9] at h
    refine Y_aload_n C (pc := 14) 0 0 rfl rfl dX9_regret_14 ?_
    obtain ⟨v2, hv2, h⟩ := Option.bind_eq_some_iff.mp h
    refine Y_callV C [] [] [] hk0 rfl rfl (c_X9_looks hI hk0 hv2) (fun _ h => h) q_cw_yX9_looks q_ml_RX9_177 ⟨q_im_yX9_looks, q_se_yX9_looks⟩ ⟨⟨Nat.le_of_ble_eq_true rfl, Nat.le_of_ble_eq_true rfl⟩, ⟨Nat.zero_le _, Nat.zero_le _⟩, Nat.le_of_ble_eq_true rfl⟩ rfl rfl rfl dX9_regret_15 ?_
    refine Y_aload_n C (pc := 18) 0 0 rfl rfl dX9_regret_18 ?_
    refine Y_getR C (pc := 19) hk0 q_fi_RX9_25 (by decide) dX9_regret_19 ?_
    refine Y_iload_n C (pc := 22) 1 1 rfl rfl dX9_regret_22 ?_
    obtain ⟨v3, hv3, h⟩ := Option.bind_eq_some_iff.mp h
    refine Y_iald C (pc := 23) (q_kr_9_8 hk0) hv3 dX9_regret_23 ?_
    refine Y_iconst C (pc := 24) (v := (-1 : Int32)) (by decide) dX9_regret_24 ?_
    refine Y_icmp_ne C (pc := 25) (tgt := 40) dX9_regret_25 (by decide) (fun c7 => ?_) (fun c7 => ?_)
    · rw [if_neg c7] at h
      refine Y_aload_n C (pc := 40) 0 0 rfl rfl dX9_regret_40 ?_
      refine Y_iconst C (pc := 41) (v := (2 : Int32)) (by decide) dX9_regret_41 ?_
      obtain ⟨v4, hv4, h⟩ := Option.bind_eq_some_iff.mp h
      refine Y_callV C [.int (2 : Int32)] [] [.int v4.1] hk0 rfl rfl (c_X9_fails hI hk0 hv4) (fun _ h => h) q_cw_yX9_fails q_ml_RX9_94 ⟨q_im_yX9_fails, q_se_yX9_fails⟩ ⟨⟨Nat.le_of_ble_eq_true rfl, Nat.le_of_ble_eq_true rfl⟩, ⟨Nat.zero_le _, Nat.zero_le _⟩, Nat.le_of_ble_eq_true rfl⟩ rfl rfl rfl dX9_regret_42 ?_
      cases h
      exact Y_iret C dX9_regret_45
    · rw [if_pos c7] at h
      refine Y_aload_n C (pc := 28) 0 0 rfl rfl dX9_regret_28 ?_
      refine Y_aload_n C (pc := 29) 0 0 rfl rfl dX9_regret_29 ?_
      refine Y_iload_n C (pc := 30) 1 1 rfl rfl dX9_regret_30 ?_
      obtain ⟨v5, hv5, h⟩ := Option.bind_eq_some_iff.mp h
      refine Y_callV C [.int i1] [.ref (ρ k0)] [.int v5.1, .ref (ρ k0)] hk0 rfl rfl (c_X9_regretOf hI hk0 hv5) (fun _ h => h) q_cw_yX9_regretOf q_ml_RX9_209 ⟨q_im_yX9_regretOf, q_se_yX9_regretOf⟩ ⟨⟨Nat.le_of_ble_eq_true rfl, Nat.le_of_ble_eq_true rfl⟩, ⟨Nat.zero_le _, Nat.zero_le _⟩, Nat.le_of_ble_eq_true rfl⟩ rfl rfl rfl dX9_regret_31 ?_
      obtain ⟨v6, hv6, h⟩ := Option.bind_eq_some_iff.mp h
      refine Y_callV C [.int v5.1] [] [.int v6.1] hk0 rfl rfl (c_X9_tells hI hk0 hv6) (fun _ h => h) q_cw_yX9_tells q_ml_RX9_82 ⟨q_im_yX9_tells, q_se_yX9_tells⟩ ⟨⟨Nat.le_of_ble_eq_true rfl, Nat.le_of_ble_eq_true rfl⟩, ⟨Nat.zero_le _, Nat.zero_le _⟩, Nat.le_of_ble_eq_true rfl⟩ rfl rfl rfl dX9_regret_34 ?_
      refine Y_goto C (pc := 37) (tgt := 45) dX9_regret_37 (by decide) ?_
      cases h
      exact Y_iret C dX9_regret_45
  · rw [if_pos c9] at h
    refine Y_aload_n C (pc := 8) 0 0 rfl rfl dX9_regret_8 ?_
    refine Y_iconst C (pc := 9) (v := (1 : Int32)) (by decide) dX9_regret_9 ?_
    obtain ⟨v8, hv8, h⟩ := Option.bind_eq_some_iff.mp h
    refine Y_callV C [.int (1 : Int32)] [] [.int v8.1] hk0 rfl rfl (c_X9_fails hI hk0 hv8) (fun _ h => h) q_cw_yX9_fails q_ml_RX9_94 ⟨q_im_yX9_fails, q_se_yX9_fails⟩ ⟨⟨Nat.le_of_ble_eq_true rfl, Nat.le_of_ble_eq_true rfl⟩, ⟨Nat.zero_le _, Nat.zero_le _⟩, Nat.le_of_ble_eq_true rfl⟩ rfl rfl rfl dX9_regret_10 ?_
    cases h
    exact Y_iret C dX9_regret_13

noncomputable def f_X9_branch_J62 (j4 : Int32) (j5 : Int32) (j6 : Int32) (sj7 : Sg) : Option ((Int32 × Int32 × Int32 × Sg) ⊕ (Int32 × Sg)) := some (.inl (j4, j5, (j6 + 1), sj7))
noncomputable def f_X9_branch_J61 (j18 : Int32) (j19 : Int32) (j20 : Int32) (sj21 : Sg) : Option ((Int32 × Int32 × Int32 × Sg) ⊕ (Int32 × Sg)) := f_X9_branch_J62 j18 j20 j19 sj21
noncomputable def f_X9_branch_J49 (j13 : Int32) (j14 : Int32) (j15 : Int32) (j16 : Int32) (sj17 : Sg) : Option ((Int32 × Int32 × Int32 × Sg) ⊕ (Int32 × Sg)) := if j16 = j14 then (f_X9_branch_J61 j16 j14 j15 sj17) else (f_X9_branch_J61 j16 j14 j13 sj17)
noncomputable def f_X9_branch_J44 (j9 : Int32) (j10 : Int32) (j11 : Int32) (sj12 : Sg) : Option ((Int32 × Int32 × Int32 × Sg) ⊕ (Int32 × Sg)) := f_X9_branch_J49 j9 j10 j11 j10 sj12
noncomputable def f_X9_branch_L6 (k0 : Nat) : (Int32 × Int32 × Int32 × Sg) → Option ((Int32 × Int32 × Int32 × Sg) ⊕ (Int32 × Sg)) := fun s1 => (ald s1.2.2.2 (k0 + 1) (0 : Int32)).bind fun v2 => if v2 ≤ s1.2.2.1 then (some (.inr (s1.1, s1.2.2.2))) else ((ald s1.2.2.2 (k0 + 6) s1.2.2.1).bind fun v3 => if v3 = (-1 : Int32) then ((f_X9_regretOf s1.2.2.2 k0 s1.2.2.1).bind fun v8 => if s1.1 = (-1 : Int32) then (f_X9_branch_J44 s1.2.1 s1.2.2.1 v8.1 v8.2) else (if v8.1 ≤ s1.2.1 then (f_X9_branch_J49 s1.2.1 s1.2.2.1 v8.1 s1.1 v8.2) else (f_X9_branch_J44 s1.2.1 s1.2.2.1 v8.1 v8.2))) else (f_X9_branch_J62 s1.1 s1.2.1 s1.2.2.1 s1.2.2.2))
noncomputable def f_X9_branch (σ : Sg) (k0 : Nat) : Option (Int32 × Sg) := (lo (f_X9_branch_L6 k0) ((-1 : Int32), (0 : Int32), (0 : Int32), σ)).bind fun e27 => some (e27.1, e27.2)
set_option maxRecDepth 100000 in
set_option maxHeartbeats 4000000 in
theorem c_X9_branch {l : Launch} {D : va_G} {cA ρ : Nat → Nat} {σ : Sg} {τ : Tg} {k0 : Nat} (hI : Inj ρ) (hk0 : kd k0 = (0, 9)) {r : Int32 × Sg} (h : f_X9_branch σ k0 = some r) : Ct l yX9_branch cX9_branch 5 (some .int) 5 120 D cA ρ (Aw ρ) [.ref (ρ k0)] σ τ (some (.int r.1)) r.2 τ := by
  refine Ct_of (by decide +kernel) (Nat.le_of_ble_eq_true rfl) (fun p e s m args below meth c C => ?_)
  have C : Ctx p l s m args meth c cX9_branch RX9 5 (some .int) D cA ρ (Aw ρ) := C
  have hW : Wr ρ (Aw ρ) := ⟨hI, fun k hk => ⟨k, hk, rfl⟩⟩
  unfold f_X9_branch at h
  refine Y_sub [0] (lv' := [(0, .ref (ρ k0))]) rfl ?_
  refine Y_iconst C (pc := 0) (v := (-1 : Int32)) (by decide) dX9_branch_0 ?_
  refine Y_istore_n C (pc := 1) (lv' := [(1, .int (-1 : Int32)), (0, .ref (ρ k0))]) 1 rfl (by decide) rfl dX9_branch_1 ?_
  refine Y_iconst C (pc := 2) (v := (0 : Int32)) (by decide) dX9_branch_2 ?_
  refine Y_istore_n C (pc := 3) (lv' := [(2, .int (0 : Int32)), (1, .int (-1 : Int32)), (0, .ref (ρ k0))]) 2 rfl (by decide) rfl dX9_branch_3 ?_
  refine Y_iconst C (pc := 4) (v := (0 : Int32)) (by decide) dX9_branch_4 ?_
  refine Y_istore_n C (pc := 5) (lv' := [(3, .int (0 : Int32)), (2, .int (0 : Int32)), (1, .int (-1 : Int32)), (0, .ref (ρ k0))]) 3 rfl (by decide) rfl dX9_branch_5 ?_
  obtain ⟨e27, he27, h⟩ := Option.bind_eq_some_iff.mp h
  refine Y_sub [3, 2, 1, 0] (lv' := [(0, .ref (ρ k0)), (1, .int (-1 : Int32)), (2, .int (0 : Int32)), (3, .int (0 : Int32))]) rfl ?_
  refine lo_rule (f := (f_X9_branch_L6 k0)) (YS := fun s1 => Y p l e (Rm 5 120) s m args below meth c 5 D cA ρ (Aw ρ) 0 0 (MQ below (QC D cA ρ (Aw ρ) (some (.int r.1)) r.2 τ) args s 0 0 (Aw ρ)) s1.2.2.2 τ 6 [(0, .ref (ρ k0)), (1, .int s1.1), (2, .int s1.2.1), (3, .int s1.2.2.1)] []) (YE := fun e27 => Y p l e (Rm 5 120) s m args below meth c 5 D cA ρ (Aw ρ) 0 0 (MQ below (QC D cA ρ (Aw ρ) (some (.int r.1)) r.2 τ) args s 0 0 (Aw ρ)) e27.2 τ 68 [(1, .int e27.1)] []) ?_ he27 ?_
  · intro s1 x h hLp hE
    unfold f_X9_branch_L6 at h
    have hJ62 : ∀ (j4 : Int32) (j5 : Int32) (j6 : Int32) (sj7 : Sg), f_X9_branch_J62 j4 j5 j6 sj7 = some x → Y p l e (Rm 5 120) s m args below meth c 5 D cA ρ (Aw ρ) 0 0 (MQ below (QC D cA ρ (Aw ρ) (some (.int r.1)) r.2 τ) args s 0 0 (Aw ρ)) sj7 τ 62 [(0, .ref (ρ k0)), (1, .int j4), (2, .int j5), (3, .int j6)] [] := by
      intro j4 j5 j6 sj7 h
      unfold f_X9_branch_J62 at h
      refine Y_iinc C (pc := 62) (v := (j6 + 1)) (lv' := [(3, .int (j6 + 1)), (0, .ref (ρ k0)), (1, .int j4), (2, .int j5)]) 3 rfl (congrArg (fun z => j6 + z) (by decide : Int32.ofInt (1) = (1))) (by decide) rfl dX9_branch_62 ?_
      refine Y_goto C (pc := 65) (tgt := 6) dX9_branch_65 (by decide) ?_
      have h := Option.some.inj h
      exact Y_sub [1, 2, 3, 0] rfl (hLp _ h.symm)
    have hJ61 : ∀ (j18 : Int32) (j19 : Int32) (j20 : Int32) (sj21 : Sg), f_X9_branch_J61 j18 j19 j20 sj21 = some x → Y p l e (Rm 5 120) s m args below meth c 5 D cA ρ (Aw ρ) 0 0 (MQ below (QC D cA ρ (Aw ρ) (some (.int r.1)) r.2 τ) args s 0 0 (Aw ρ)) sj21 τ 61 [(0, .ref (ρ k0)), (1, .int j18), (3, .int j19)] [.int j20] := by
      intro j18 j19 j20 sj21 h
      unfold f_X9_branch_J61 at h
      refine Y_istore_n C (pc := 61) (lv' := [(2, .int j20), (0, .ref (ρ k0)), (1, .int j18), (3, .int j19)]) 2 rfl (by decide) rfl dX9_branch_61 ?_
      exact Y_sub [1, 2, 0, 3] rfl (hJ62 _ _ _ _ h)
    have hJ49 : ∀ (j13 : Int32) (j14 : Int32) (j15 : Int32) (j16 : Int32) (sj17 : Sg), f_X9_branch_J49 j13 j14 j15 j16 sj17 = some x → Y p l e (Rm 5 120) s m args below meth c 5 D cA ρ (Aw ρ) 0 0 (MQ below (QC D cA ρ (Aw ρ) (some (.int r.1)) r.2 τ) args s 0 0 (Aw ρ)) sj17 τ 49 [(0, .ref (ρ k0)), (2, .int j13), (3, .int j14), (4, .int j15)] [.int j16] := by
      intro j13 j14 j15 j16 sj17 h
      unfold f_X9_branch_J49 at h
      refine Y_istore_n C (pc := 49) (lv' := [(1, .int j16), (0, .ref (ρ k0)), (2, .int j13), (3, .int j14), (4, .int j15)]) 1 rfl (by decide) rfl dX9_branch_49 ?_
      refine Y_iload_n C (pc := 50) 1 0 rfl rfl dX9_branch_50 ?_
      refine Y_iload_n C (pc := 51) 3 3 rfl rfl dX9_branch_51 ?_
      refine Y_icmp_ne C (pc := 52) (tgt := 60) dX9_branch_52 (by decide) (fun c22 => ?_) (fun c22 => ?_)
      · rw [if_neg c22] at h
        refine Y_iload_n C (pc := 60) 2 2 rfl rfl dX9_branch_60 ?_
        exact Y_sub [1, 0, 3] rfl (hJ61 _ _ _ _ h)
      · rw [if_pos c22] at h
        refine Y_iload C (pc := 55) 4 rfl dX9_branch_55 ?_
        refine Y_goto C (pc := 57) (tgt := 61) dX9_branch_57 (by decide) ?_
        exact Y_sub [1, 0, 3] rfl (hJ61 _ _ _ _ h)
    have hJ44 : ∀ (j9 : Int32) (j10 : Int32) (j11 : Int32) (sj12 : Sg), f_X9_branch_J44 j9 j10 j11 sj12 = some x → Y p l e (Rm 5 120) s m args below meth c 5 D cA ρ (Aw ρ) 0 0 (MQ below (QC D cA ρ (Aw ρ) (some (.int r.1)) r.2 τ) args s 0 0 (Aw ρ)) sj12 τ 44 [(0, .ref (ρ k0)), (2, .int j9), (3, .int j10), (4, .int j11)] [] := by
      intro j9 j10 j11 sj12 h
      unfold f_X9_branch_J44 at h
      refine Y_iload_n C (pc := 44) 3 2 rfl rfl dX9_branch_44 ?_
      refine Y_goto C (pc := 45) (tgt := 49) dX9_branch_45 (by decide) ?_
      exact Y_sub [0, 1, 2, 3] rfl (hJ49 _ _ _ _ _ h)
    refine Y_iload_n C (pc := 6) 3 3 rfl rfl dX9_branch_6 ?_
    refine Y_aload_n C (pc := 7) 0 0 rfl rfl dX9_branch_7 ?_
    refine Y_getR C (pc := 8) hk0 q_fi_RX9_7 (by decide) dX9_branch_8 ?_
    refine Y_iconst C (pc := 11) (v := (0 : Int32)) (by decide) dX9_branch_11 ?_
    obtain ⟨v2, hv2, h⟩ := Option.bind_eq_some_iff.mp h
    refine Y_iald C (pc := 12) (q_kr_9_0 hk0) hv2 dX9_branch_12 ?_
    refine Y_icmp_ge C (pc := 13) (tgt := 68) dX9_branch_13 (by decide) (fun c26 => ?_) (fun c26 => ?_)
    · rw [if_pos c26] at h
      have h := Option.some.inj h
      exact Y_sub [1] rfl (hE _ h.symm)
    · rw [if_neg c26] at h
      refine Y_aload_n C (pc := 16) 0 0 rfl rfl dX9_branch_16 ?_
      refine Y_getR C (pc := 17) hk0 q_fi_RX9_25 (by decide) dX9_branch_17 ?_
      refine Y_iload_n C (pc := 20) 3 3 rfl rfl dX9_branch_20 ?_
      obtain ⟨v3, hv3, h⟩ := Option.bind_eq_some_iff.mp h
      refine Y_iald C (pc := 21) (q_kr_9_8 hk0) hv3 dX9_branch_21 ?_
      refine Y_iconst C (pc := 22) (v := (-1 : Int32)) (by decide) dX9_branch_22 ?_
      refine Y_icmp_ne C (pc := 23) (tgt := 62) dX9_branch_23 (by decide) (fun c25 => ?_) (fun c25 => ?_)
      · rw [if_neg c25] at h
        exact Y_sub [0, 1, 2, 3] rfl (hJ62 _ _ _ _ h)
      · rw [if_pos c25] at h
        refine Y_aload_n C (pc := 26) 0 0 rfl rfl dX9_branch_26 ?_
        refine Y_iload_n C (pc := 27) 3 3 rfl rfl dX9_branch_27 ?_
        obtain ⟨v8, hv8, h⟩ := Option.bind_eq_some_iff.mp h
        refine Y_callV C [.int s1.2.2.1] [] [.int v8.1] hk0 rfl rfl (c_X9_regretOf hI hk0 hv8) (fun _ h => h) q_cw_yX9_regretOf q_ml_RX9_209 ⟨q_im_yX9_regretOf, q_se_yX9_regretOf⟩ ⟨⟨Nat.le_of_ble_eq_true rfl, Nat.le_of_ble_eq_true rfl⟩, ⟨Nat.zero_le _, Nat.zero_le _⟩, Nat.le_of_ble_eq_true rfl⟩ rfl rfl rfl dX9_branch_28 ?_
        refine Y_istore C (pc := 31) (lv' := [(4, .int v8.1), (0, .ref (ρ k0)), (1, .int s1.1), (2, .int s1.2.1), (3, .int s1.2.2.1)]) (by decide) rfl dX9_branch_31 ?_
        refine Y_iload_n C (pc := 33) 1 2 rfl rfl dX9_branch_33 ?_
        refine Y_iconst C (pc := 34) (v := (-1 : Int32)) (by decide) dX9_branch_34 ?_
        refine Y_icmp_eq C (pc := 35) (tgt := 44) dX9_branch_35 (by decide) (fun c24 => ?_) (fun c24 => ?_)
        · rw [if_pos c24] at h
          exact Y_sub [1, 3, 4, 0] rfl (hJ44 _ _ _ _ h)
        · rw [if_neg c24] at h
          refine Y_iload C (pc := 38) 0 rfl dX9_branch_38 ?_
          refine Y_iload_n C (pc := 40) 2 3 rfl rfl dX9_branch_40 ?_
          refine Y_icmp_le C (pc := 41) (tgt := 48) dX9_branch_41 (by decide) (fun c23 => ?_) (fun c23 => ?_)
          · rw [if_pos c23] at h
            refine Y_iload_n C (pc := 48) 1 2 rfl rfl dX9_branch_48 ?_
            exact Y_sub [1, 3, 4, 0] rfl (hJ49 _ _ _ _ _ h)
          · rw [if_neg c23] at h
            exact Y_sub [1, 3, 4, 0] rfl (hJ44 _ _ _ _ h)
  · refine Y_iload_n C (pc := 68) 1 0 rfl rfl dX9_branch_68 ?_
    cases h
    exact Y_iret C dX9_branch_69

noncomputable def f_X9_branchOn (σ : Sg) (k0 : Nat) : Option (Int32 × Sg) := (f_X9_looks σ k0).bind fun v1 => (f_X9_branch v1 k0).bind fun v2 => (f_X9_tells v2.2 k0 v2.1).bind fun v3 => some (v3.1, v3.2)
set_option maxRecDepth 100000 in
set_option maxHeartbeats 4000000 in
theorem c_X9_branchOn {l : Launch} {D : va_G} {cA ρ : Nat → Nat} {σ : Sg} {τ : Tg} {k0 : Nat} (hI : Inj ρ) (hk0 : kd k0 = (0, 9)) {r : Int32 × Sg} (h : f_X9_branchOn σ k0 = some r) : Ct l yX9_branchOn cX9_branchOn 1 (some .int) 6 144 D cA ρ (Aw ρ) [.ref (ρ k0)] σ τ (some (.int r.1)) r.2 τ := by
  refine Ct_of (by decide +kernel) (Nat.le_of_ble_eq_true rfl) (fun p e s m args below meth c C => ?_)
  have C : Ctx p l s m args meth c cX9_branchOn RX9 1 (some .int) D cA ρ (Aw ρ) := C
  have hW : Wr ρ (Aw ρ) := ⟨hI, fun k hk => ⟨k, hk, rfl⟩⟩
  unfold f_X9_branchOn at h
  refine Y_sub [0] (lv' := [(0, .ref (ρ k0))]) rfl ?_
  refine Y_aload_n C (pc := 0) 0 0 rfl rfl dX9_branchOn_0 ?_
  obtain ⟨v1, hv1, h⟩ := Option.bind_eq_some_iff.mp h
  refine Y_callV C [] [] [] hk0 rfl rfl (c_X9_looks hI hk0 hv1) (fun _ h => h) q_cw_yX9_looks q_ml_RX9_177 ⟨q_im_yX9_looks, q_se_yX9_looks⟩ ⟨⟨Nat.le_of_ble_eq_true rfl, Nat.le_of_ble_eq_true rfl⟩, ⟨Nat.zero_le _, Nat.zero_le _⟩, Nat.le_of_ble_eq_true rfl⟩ rfl rfl rfl dX9_branchOn_1 ?_
  refine Y_aload_n C (pc := 4) 0 0 rfl rfl dX9_branchOn_4 ?_
  refine Y_aload_n C (pc := 5) 0 0 rfl rfl dX9_branchOn_5 ?_
  obtain ⟨v2, hv2, h⟩ := Option.bind_eq_some_iff.mp h
  refine Y_callV C [] [.ref (ρ k0)] [.int v2.1, .ref (ρ k0)] hk0 rfl rfl (c_X9_branch hI hk0 hv2) (fun _ h => h) q_cw_yX9_branch q_ml_RX9_212 ⟨q_im_yX9_branch, q_se_yX9_branch⟩ ⟨⟨Nat.le_of_ble_eq_true rfl, Nat.le_of_ble_eq_true rfl⟩, ⟨Nat.zero_le _, Nat.zero_le _⟩, Nat.le_of_ble_eq_true rfl⟩ rfl rfl rfl dX9_branchOn_6 ?_
  obtain ⟨v3, hv3, h⟩ := Option.bind_eq_some_iff.mp h
  refine Y_callV C [.int v2.1] [] [.int v3.1] hk0 rfl rfl (c_X9_tells hI hk0 hv3) (fun _ h => h) q_cw_yX9_tells q_ml_RX9_82 ⟨q_im_yX9_tells, q_se_yX9_tells⟩ ⟨⟨Nat.le_of_ble_eq_true rfl, Nat.le_of_ble_eq_true rfl⟩, ⟨Nat.zero_le _, Nat.zero_le _⟩, Nat.le_of_ble_eq_true rfl⟩ rfl rfl rfl dX9_branchOn_9 ?_
  cases h
  exact Y_iret C dX9_branchOn_12

noncomputable def f_X9_isTurn_L14 (σ : Sg) (k0 : Nat) (s1 : Int32) : Int32 → Option ((Int32) ⊕ ((Unit) ⊕ (Unit))) := fun s3 => (ald σ (k0 + 1) (0 : Int32)).bind fun v4 => if v4 ≤ s3 then (some (.inr (.inr ()))) else ((ald σ (k0 + 5) s1).bind fun v5 => (ald σ (k0 + 5) s3).bind fun v6 => (f_X9_far σ k0 v5 v6).bind fun v7 => (f_X9_far σ k0 s1 s3).bind fun v8 => if v7 = v8 then ((ald σ (k0 + 5) s1).bind fun v9 => (f_X9_price σ k0 s3 v9).bind fun v10 => (f_X9_price σ k0 s3 s1).bind fun v11 => if v10 = v11 then (some (.inl ((s3 + 1)))) else (some (.inr (.inl ())))) else (some (.inr (.inl ()))))
noncomputable def f_X9_isTurn_L2 (σ : Sg) (k0 : Nat) : Int32 → Option ((Int32) ⊕ ((Unit) ⊕ (Unit))) := fun s1 => (ald σ (k0 + 1) (0 : Int32)).bind fun v2 => if v2 ≤ s1 then (some (.inr (.inr ()))) else ((lo (f_X9_isTurn_L14 σ k0 s1) ((0 : Int32))).bind (Sum.elim (fun e16 => some (.inr (.inl ()))) (fun e17 => some (.inl ((s1 + 1))))))
noncomputable def f_X9_isTurn (σ : Sg) (k0 : Nat) : Option (Int32) := (lo (f_X9_isTurn_L2 σ k0) ((0 : Int32))).bind (Sum.elim (fun e20 => some ((0 : Int32))) (fun e21 => some ((1 : Int32))))
set_option maxRecDepth 100000 in
set_option maxHeartbeats 4000000 in
theorem c_X9_isTurn {l : Launch} {D : va_G} {cA ρ : Nat → Nat} {σ : Sg} {τ : Tg} {k0 : Nat} (hk0 : kd k0 = (0, 9)) {r : Int32} (h : f_X9_isTurn σ k0 = some r) : Ct l yX9_isTurn cX9_isTurn 3 (some .boolean) 2 44 D cA ρ A0 [.ref (ρ k0)] σ τ (some (.int r)) σ τ := by
  refine Ct_of (by decide +kernel) (Nat.le_of_ble_eq_true rfl) (fun p e s m args below meth c C => ?_)
  have C : Ctx p l s m args meth c cX9_isTurn RX9 3 (some .boolean) D cA ρ A0 := C
  unfold f_X9_isTurn at h
  refine Y_sub [0] (lv' := [(0, .ref (ρ k0))]) rfl ?_
  refine Y_iconst C (pc := 0) (v := (0 : Int32)) (by decide) dX9_isTurn_0 ?_
  refine Y_istore_n C (pc := 1) (lv' := [(1, .int (0 : Int32)), (0, .ref (ρ k0))]) 1 rfl (by decide) rfl dX9_isTurn_1 ?_
  obtain ⟨e19, he19, h⟩ := Option.bind_eq_some_iff.mp h
  refine Y_sub [1, 0] (lv' := [(0, .ref (ρ k0)), (1, .int (0 : Int32))]) rfl ?_
  refine lo_rule (f := (f_X9_isTurn_L2 σ k0)) (YS := fun s1 => Y p l e (Rm 2 44) s m args below meth c 3 D cA ρ A0 0 0 (MQ below (QC D cA ρ A0 (some (.int r)) σ τ) args s 0 0 A0) σ τ 2 [(0, .ref (ρ k0)), (1, .int s1)] []) (YE := fun e19 => (∀ e20, e19 = (.inl e20) → Y p l e (Rm 2 44) s m args below meth c 3 D cA ρ A0 0 0 (MQ below (QC D cA ρ A0 (some (.int r)) σ τ) args s 0 0 A0) σ τ 69 [] []) ∧ (∀ e21, e19 = (.inr e21) → Y p l e (Rm 2 44) s m args below meth c 3 D cA ρ A0 0 0 (MQ below (QC D cA ρ A0 (some (.int r)) σ τ) args s 0 0 A0) σ τ 83 [] [])) ?_ he19 ?_
  · intro s1 x h hLp hE
    have hE0 : ∀ y, x = .inr (.inl y) → _ := fun y q => (hE _ q).1 y rfl
    have hE1 : ∀ y, x = .inr (.inr y) → _ := fun y q => (hE _ q).2 y rfl
    unfold f_X9_isTurn_L2 at h
    refine Y_iload_n C (pc := 2) 1 1 rfl rfl dX9_isTurn_2 ?_
    refine Y_aload_n C (pc := 3) 0 0 rfl rfl dX9_isTurn_3 ?_
    refine Y_getR C (pc := 4) hk0 q_fi_RX9_7 (by decide) dX9_isTurn_4 ?_
    refine Y_iconst C (pc := 7) (v := (0 : Int32)) (by decide) dX9_isTurn_7 ?_
    obtain ⟨v2, hv2, h⟩ := Option.bind_eq_some_iff.mp h
    refine Y_iald C (pc := 8) (q_kr_9_0 hk0) hv2 dX9_isTurn_8 ?_
    refine Y_icmp_ge C (pc := 9) (tgt := 83) dX9_isTurn_9 (by decide) (fun c18 => ?_) (fun c18 => ?_)
    · rw [if_pos c18] at h
      have h := Option.some.inj h
      exact Y_sub [] rfl (hE1 _ h.symm)
    · rw [if_neg c18] at h
      refine Y_iconst C (pc := 12) (v := (0 : Int32)) (by decide) dX9_isTurn_12 ?_
      refine Y_istore_n C (pc := 13) (lv' := [(2, .int (0 : Int32)), (0, .ref (ρ k0)), (1, .int s1)]) 2 rfl (by decide) rfl dX9_isTurn_13 ?_
      obtain ⟨e15, he15, h⟩ := Option.bind_eq_some_iff.mp h
      refine Y_sub [1, 2, 0] (lv' := [(0, .ref (ρ k0)), (1, .int s1), (2, .int (0 : Int32))]) rfl ?_
      refine lo_rule (f := (f_X9_isTurn_L14 σ k0 s1)) (YS := fun s3 => Y p l e (Rm 2 44) s m args below meth c 3 D cA ρ A0 0 0 (MQ below (QC D cA ρ A0 (some (.int r)) σ τ) args s 0 0 A0) σ τ 14 [(0, .ref (ρ k0)), (1, .int s1), (2, .int s3)] []) (YE := fun e15 => (∀ e16, e15 = (.inl e16) → Y p l e (Rm 2 44) s m args below meth c 3 D cA ρ A0 0 0 (MQ below (QC D cA ρ A0 (some (.int r)) σ τ) args s 0 0 A0) σ τ 69 [] []) ∧ (∀ e17, e15 = (.inr e17) → Y p l e (Rm 2 44) s m args below meth c 3 D cA ρ A0 0 0 (MQ below (QC D cA ρ A0 (some (.int r)) σ τ) args s 0 0 A0) σ τ 77 [(0, .ref (ρ k0)), (1, .int s1)] [])) ?_ he15 ?_
      · intro s3 x h hLp hE
        have hE0 : ∀ y, x = .inr (.inl y) → _ := fun y q => (hE _ q).1 y rfl
        have hE1 : ∀ y, x = .inr (.inr y) → _ := fun y q => (hE _ q).2 y rfl
        unfold f_X9_isTurn_L14 at h
        refine Y_iload_n C (pc := 14) 2 2 rfl rfl dX9_isTurn_14 ?_
        refine Y_aload_n C (pc := 15) 0 0 rfl rfl dX9_isTurn_15 ?_
        refine Y_getR C (pc := 16) hk0 q_fi_RX9_7 (by decide) dX9_isTurn_16 ?_
        refine Y_iconst C (pc := 19) (v := (0 : Int32)) (by decide) dX9_isTurn_19 ?_
        obtain ⟨v4, hv4, h⟩ := Option.bind_eq_some_iff.mp h
        refine Y_iald C (pc := 20) (q_kr_9_0 hk0) hv4 dX9_isTurn_20 ?_
        refine Y_icmp_ge C (pc := 21) (tgt := 77) dX9_isTurn_21 (by decide) (fun c14 => ?_) (fun c14 => ?_)
        · rw [if_pos c14] at h
          have h := Option.some.inj h
          exact Y_sub [0, 1] rfl (hE1 _ h.symm)
        · rw [if_neg c14] at h
          refine Y_aload_n C (pc := 24) 0 0 rfl rfl dX9_isTurn_24 ?_
          refine Y_aload_n C (pc := 25) 0 0 rfl rfl dX9_isTurn_25 ?_
          refine Y_getR C (pc := 26) hk0 q_fi_RX9_22 (by decide) dX9_isTurn_26 ?_
          refine Y_iload_n C (pc := 29) 1 1 rfl rfl dX9_isTurn_29 ?_
          obtain ⟨v5, hv5, h⟩ := Option.bind_eq_some_iff.mp h
          refine Y_iald C (pc := 30) (q_kr_9_7 hk0) hv5 dX9_isTurn_30 ?_
          refine Y_aload_n C (pc := 31) 0 0 rfl rfl dX9_isTurn_31 ?_
          refine Y_getR C (pc := 32) hk0 q_fi_RX9_22 (by decide) dX9_isTurn_32 ?_
          refine Y_iload_n C (pc := 35) 2 2 rfl rfl dX9_isTurn_35 ?_
          obtain ⟨v6, hv6, h⟩ := Option.bind_eq_some_iff.mp h
          refine Y_iald C (pc := 36) (q_kr_9_7 hk0) hv6 dX9_isTurn_36 ?_
          obtain ⟨v7, hv7, h⟩ := Option.bind_eq_some_iff.mp h
          refine Y_callV C [.int v5, .int v6] [] [.int v7] hk0 rfl rfl (c_X9_far hk0 hv7) (fun _ h => h.elim) q_cw_yX9_far q_ml_RX9_126 ⟨q_im_yX9_far, q_se_yX9_far⟩ ⟨⟨Nat.le_of_ble_eq_true rfl, Nat.le_of_ble_eq_true rfl⟩, ⟨Nat.zero_le _, Nat.zero_le _⟩, Nat.le_of_ble_eq_true rfl⟩ rfl rfl rfl dX9_isTurn_37 ?_
          refine Y_aload_n C (pc := 40) 0 0 rfl rfl dX9_isTurn_40 ?_
          refine Y_iload_n C (pc := 41) 1 1 rfl rfl dX9_isTurn_41 ?_
          refine Y_iload_n C (pc := 42) 2 2 rfl rfl dX9_isTurn_42 ?_
          obtain ⟨v8, hv8, h⟩ := Option.bind_eq_some_iff.mp h
          refine Y_callV C [.int s1, .int s3] [.int v7] [.int v8, .int v7] hk0 rfl rfl (c_X9_far hk0 hv8) (fun _ h => h.elim) q_cw_yX9_far q_ml_RX9_126 ⟨q_im_yX9_far, q_se_yX9_far⟩ ⟨⟨Nat.le_of_ble_eq_true rfl, Nat.le_of_ble_eq_true rfl⟩, ⟨Nat.zero_le _, Nat.zero_le _⟩, Nat.le_of_ble_eq_true rfl⟩ rfl rfl rfl dX9_isTurn_43 ?_
          refine Y_icmp_ne C (pc := 46) (tgt := 69) dX9_isTurn_46 (by decide) (fun c13 => ?_) (fun c13 => ?_)
          · rw [if_neg c13] at h
            have h := Option.some.inj h
            exact Y_sub [] rfl (hE0 _ h.symm)
          · rw [if_pos c13] at h
            refine Y_aload_n C (pc := 49) 0 0 rfl rfl dX9_isTurn_49 ?_
            refine Y_iload_n C (pc := 50) 2 2 rfl rfl dX9_isTurn_50 ?_
            refine Y_aload_n C (pc := 51) 0 0 rfl rfl dX9_isTurn_51 ?_
            refine Y_getR C (pc := 52) hk0 q_fi_RX9_22 (by decide) dX9_isTurn_52 ?_
            refine Y_iload_n C (pc := 55) 1 1 rfl rfl dX9_isTurn_55 ?_
            obtain ⟨v9, hv9, h⟩ := Option.bind_eq_some_iff.mp h
            refine Y_iald C (pc := 56) (q_kr_9_7 hk0) hv9 dX9_isTurn_56 ?_
            obtain ⟨v10, hv10, h⟩ := Option.bind_eq_some_iff.mp h
            refine Y_callV C [.int s3, .int v9] [] [.int v10] hk0 rfl rfl (c_X9_price hk0 hv10) (fun _ h => h.elim) q_cw_yX9_price q_ml_RX9_119 ⟨q_im_yX9_price, q_se_yX9_price⟩ ⟨⟨Nat.le_of_ble_eq_true rfl, Nat.le_of_ble_eq_true rfl⟩, ⟨Nat.zero_le _, Nat.zero_le _⟩, Nat.le_of_ble_eq_true rfl⟩ rfl rfl rfl dX9_isTurn_57 ?_
            refine Y_aload_n C (pc := 60) 0 0 rfl rfl dX9_isTurn_60 ?_
            refine Y_iload_n C (pc := 61) 2 2 rfl rfl dX9_isTurn_61 ?_
            refine Y_iload_n C (pc := 62) 1 1 rfl rfl dX9_isTurn_62 ?_
            obtain ⟨v11, hv11, h⟩ := Option.bind_eq_some_iff.mp h
            refine Y_callV C [.int s3, .int s1] [.int v10] [.int v11, .int v10] hk0 rfl rfl (c_X9_price hk0 hv11) (fun _ h => h.elim) q_cw_yX9_price q_ml_RX9_119 ⟨q_im_yX9_price, q_se_yX9_price⟩ ⟨⟨Nat.le_of_ble_eq_true rfl, Nat.le_of_ble_eq_true rfl⟩, ⟨Nat.zero_le _, Nat.zero_le _⟩, Nat.le_of_ble_eq_true rfl⟩ rfl rfl rfl dX9_isTurn_63 ?_
            refine Y_icmp_eq C (pc := 66) (tgt := 71) dX9_isTurn_66 (by decide) (fun c12 => ?_) (fun c12 => ?_)
            · rw [if_pos c12] at h
              refine Y_iinc C (pc := 71) (v := (s3 + 1)) (lv' := [(2, .int (s3 + 1)), (0, .ref (ρ k0)), (1, .int s1)]) 2 rfl (congrArg (fun z => s3 + z) (by decide : Int32.ofInt (1) = (1))) (by decide) rfl dX9_isTurn_71 ?_
              refine Y_goto C (pc := 74) (tgt := 14) dX9_isTurn_74 (by decide) ?_
              have h := Option.some.inj h
              exact Y_sub [1, 2, 0] rfl (hLp _ h.symm)
            · rw [if_neg c12] at h
              have h := Option.some.inj h
              exact Y_sub [] rfl (hE0 _ h.symm)
      refine ⟨?_, ?_⟩
      · intro e16 q
        subst q
        simp only [Sum.elim_inl, Sum.elim_inr] at h
        have h := Option.some.inj h
        exact Y_sub [] rfl (hE0 _ h.symm)
      · intro e17 q
        subst q
        simp only [Sum.elim_inl, Sum.elim_inr] at h
        refine Y_iinc C (pc := 77) (v := (s1 + 1)) (lv' := [(1, .int (s1 + 1)), (0, .ref (ρ k0))]) 1 rfl (congrArg (fun z => s1 + z) (by decide : Int32.ofInt (1) = (1))) (by decide) rfl dX9_isTurn_77 ?_
        refine Y_goto C (pc := 80) (tgt := 2) dX9_isTurn_80 (by decide) ?_
        have h := Option.some.inj h
        exact Y_sub [1, 0] rfl (hLp _ h.symm)
  refine ⟨?_, ?_⟩
  · intro e20 q
    subst q
    simp only [Sum.elim_inl, Sum.elim_inr] at h
    refine Y_iconst C (pc := 69) (v := (0 : Int32)) (by decide) dX9_isTurn_69 ?_
    cases h
    exact Y_zret (by decide) C dX9_isTurn_70
  · intro e21 q
    subst q
    simp only [Sum.elim_inl, Sum.elim_inr] at h
    refine Y_iconst C (pc := 83) (v := (1 : Int32)) (by decide) dX9_isTurn_83 ?_
    cases h
    exact Y_zret (by decide) C dX9_isTurn_84

noncomputable def f_X9_laysTurns_J66 (k0 : Nat) (sj4 : Sg) : Option ((Int32 × Sg) ⊕ (Sg)) := (f_X9_goesOn sj4 k0).bind fun v5 => some (.inl (v5.1, v5.2))
noncomputable def f_X9_laysTurns_L24 (k0 : Nat) : (Int32 × Sg) → Option ((Int32 × Sg) ⊕ (Sg)) := fun s6 => if (6 : Int32) ≤ s6.1 then (some (.inr s6.2)) else ((ald s6.2 (k0 + 5) s6.1).bind fun v7 => (ast s6.2 (k0 + 11) (((6 : Int32) * (s6.2 k0 14)) + s6.1) v7).bind fun s8 => some (.inl ((s6.1 + 1), s8)))
noncomputable def f_X9_laysTurns_L11 (k0 : Nat) : (Int32 × Sg) → Option ((Int32 × Sg) ⊕ (Sg)) := fun s2 => if s2.1 = (0 : Int32) then (some (.inr s2.2)) else ((f_X9_isTurn s2.2 k0).bind fun v3 => if v3 = (0 : Int32) then (f_X9_laysTurns_J66 k0 s2.2) else ((lo (f_X9_laysTurns_L24 k0) ((0 : Int32), s2.2)).bind fun e10 => f_X9_laysTurns_J66 k0 ((si e10 k0 14 ((e10 k0 14) + (1 : Int32))))))
noncomputable def f_X9_laysTurns (σ : Sg) (k0 : Nat) : Option (Sg) := (f_X9_firsts ((si σ k0 14 (0 : Int32))) k0).bind fun v1 => (lo (f_X9_laysTurns_L11 k0) ((1 : Int32), v1)).bind fun e13 => some e13
set_option maxRecDepth 100000 in
set_option maxHeartbeats 4000000 in
theorem c_X9_laysTurns {l : Launch} {D : va_G} {cA ρ : Nat → Nat} {σ : Sg} {τ : Tg} {k0 : Nat} (hI : Inj ρ) (hk0 : kd k0 = (0, 9)) {r : Sg} (h : f_X9_laysTurns σ k0 = some r) : Ct l yX9_laysTurns cX9_laysTurns 3 none 3 66 D cA ρ (Aw ρ) [.ref (ρ k0)] σ τ none r τ := by
  refine Ct_of (by decide +kernel) (Nat.le_of_ble_eq_true rfl) (fun p e s m args below meth c C => ?_)
  have C : Ctx p l s m args meth c cX9_laysTurns RX9 3 none D cA ρ (Aw ρ) := C
  have hW : Wr ρ (Aw ρ) := ⟨hI, fun k hk => ⟨k, hk, rfl⟩⟩
  unfold f_X9_laysTurns at h
  refine Y_sub [0] (lv' := [(0, .ref (ρ k0))]) rfl ?_
  refine Y_aload_n C (pc := 0) 0 0 rfl rfl dX9_laysTurns_0 ?_
  refine Y_iconst C (pc := 1) (v := (0 : Int32)) (by decide) dX9_laysTurns_1 ?_
  refine Y_putI C (pc := 2) hW hk0 (q_lo_9 hk0) q_fp_RX9_215 dX9_laysTurns_2 ?_
  refine Y_aload_n C (pc := 5) 0 0 rfl rfl dX9_laysTurns_5 ?_
  obtain ⟨v1, hv1, h⟩ := Option.bind_eq_some_iff.mp h
  refine Y_callV C [] [] [] hk0 rfl rfl (c_X9_firsts hI hk0 hv1) (fun _ h => h) q_cw_yX9_firsts q_ml_RX9_142 ⟨q_im_yX9_firsts, q_se_yX9_firsts⟩ ⟨⟨Nat.le_of_ble_eq_true rfl, Nat.le_of_ble_eq_true rfl⟩, ⟨Nat.zero_le _, Nat.zero_le _⟩, Nat.le_of_ble_eq_true rfl⟩ rfl rfl rfl dX9_laysTurns_6 ?_
  refine Y_iconst C (pc := 9) (v := (1 : Int32)) (by decide) dX9_laysTurns_9 ?_
  refine Y_istore_n C (pc := 10) (lv' := [(1, .int (1 : Int32)), (0, .ref (ρ k0))]) 1 rfl (by decide) rfl dX9_laysTurns_10 ?_
  obtain ⟨e13, he13, h⟩ := Option.bind_eq_some_iff.mp h
  refine Y_sub [1, 0] (lv' := [(0, .ref (ρ k0)), (1, .int (1 : Int32))]) rfl ?_
  refine lo_rule (f := (f_X9_laysTurns_L11 k0)) (YS := fun s2 => Y p l e (Rm 3 66) s m args below meth c 3 D cA ρ (Aw ρ) 0 0 (MQ below (QC D cA ρ (Aw ρ) none r τ) args s 0 0 (Aw ρ)) s2.2 τ 11 [(0, .ref (ρ k0)), (1, .int s2.1)] []) (YE := fun e13 => Y p l e (Rm 3 66) s m args below meth c 3 D cA ρ (Aw ρ) 0 0 (MQ below (QC D cA ρ (Aw ρ) none r τ) args s 0 0 (Aw ρ)) e13 τ 74 [] []) ?_ he13 ?_
  · intro s2 x h hLp hE
    unfold f_X9_laysTurns_L11 at h
    have hJ66 : ∀ (sj4 : Sg), f_X9_laysTurns_J66 k0 sj4 = some x → Y p l e (Rm 3 66) s m args below meth c 3 D cA ρ (Aw ρ) 0 0 (MQ below (QC D cA ρ (Aw ρ) none r τ) args s 0 0 (Aw ρ)) sj4 τ 66 [(0, .ref (ρ k0))] [] := by
      intro sj4 h
      unfold f_X9_laysTurns_J66 at h
      refine Y_aload_n C (pc := 66) 0 0 rfl rfl dX9_laysTurns_66 ?_
      obtain ⟨v5, hv5, h⟩ := Option.bind_eq_some_iff.mp h
      refine Y_callV C [] [] [.int v5.1] hk0 rfl rfl (c_X9_goesOn hI hk0 hv5) (fun _ h => h) q_cw_yX9_goesOn q_ml_RX9_145 ⟨q_im_yX9_goesOn, q_se_yX9_goesOn⟩ ⟨⟨Nat.le_of_ble_eq_true rfl, Nat.le_of_ble_eq_true rfl⟩, ⟨Nat.zero_le _, Nat.zero_le _⟩, Nat.le_of_ble_eq_true rfl⟩ rfl rfl rfl dX9_laysTurns_67 ?_
      refine Y_istore_n C (pc := 70) (lv' := [(1, .int v5.1), (0, .ref (ρ k0))]) 1 rfl (by decide) rfl dX9_laysTurns_70 ?_
      refine Y_goto C (pc := 71) (tgt := 11) dX9_laysTurns_71 (by decide) ?_
      have h := Option.some.inj h
      exact Y_sub [1, 0] rfl (hLp _ h.symm)
    refine Y_iload_n C (pc := 11) 1 1 rfl rfl dX9_laysTurns_11 ?_
    refine Y_if_eq C (pc := 12) (tgt := 74) dX9_laysTurns_12 (by decide) (fun c12 => ?_) (fun c12 => ?_)
    · rw [if_pos c12] at h
      have h := Option.some.inj h
      exact Y_sub [] rfl (hE _ h.symm)
    · rw [if_neg c12] at h
      refine Y_aload_n C (pc := 15) 0 0 rfl rfl dX9_laysTurns_15 ?_
      obtain ⟨v3, hv3, h⟩ := Option.bind_eq_some_iff.mp h
      refine Y_callV C [] [] [.int v3] hk0 rfl rfl (c_X9_isTurn hk0 hv3) (fun _ h => h.elim) q_cw_yX9_isTurn q_ml_RX9_218 ⟨q_im_yX9_isTurn, q_se_yX9_isTurn⟩ ⟨⟨Nat.le_of_ble_eq_true rfl, Nat.le_of_ble_eq_true rfl⟩, ⟨Nat.zero_le _, Nat.zero_le _⟩, Nat.le_of_ble_eq_true rfl⟩ rfl rfl rfl dX9_laysTurns_16 ?_
      refine Y_if_eq C (pc := 19) (tgt := 66) dX9_laysTurns_19 (by decide) (fun c11 => ?_) (fun c11 => ?_)
      · rw [if_pos c11] at h
        exact Y_sub [0] rfl (hJ66 _ h)
      · rw [if_neg c11] at h
        refine Y_iconst C (pc := 22) (v := (0 : Int32)) (by decide) dX9_laysTurns_22 ?_
        refine Y_istore_n C (pc := 23) (lv' := [(2, .int (0 : Int32)), (0, .ref (ρ k0)), (1, .int s2.1)]) 2 rfl (by decide) rfl dX9_laysTurns_23 ?_
        obtain ⟨e10, he10, h⟩ := Option.bind_eq_some_iff.mp h
        refine Y_sub [1, 0] (lv' := [(0, .ref (ρ k0)), (2, .int (0 : Int32))]) rfl ?_
        refine lo_rule (f := (f_X9_laysTurns_L24 k0)) (YS := fun s6 => Y p l e (Rm 3 66) s m args below meth c 3 D cA ρ (Aw ρ) 0 0 (MQ below (QC D cA ρ (Aw ρ) none r τ) args s 0 0 (Aw ρ)) s6.2 τ 24 [(0, .ref (ρ k0)), (2, .int s6.1)] []) (YE := fun e10 => Y p l e (Rm 3 66) s m args below meth c 3 D cA ρ (Aw ρ) 0 0 (MQ below (QC D cA ρ (Aw ρ) none r τ) args s 0 0 (Aw ρ)) e10 τ 56 [(0, .ref (ρ k0))] []) ?_ he10 ?_
        · intro s6 x h hLp hE
          unfold f_X9_laysTurns_L24 at h
          refine Y_iload_n C (pc := 24) 2 1 rfl rfl dX9_laysTurns_24 ?_
          refine Y_bipush C (pc := 25) (v := (6 : Int32)) (by decide) dX9_laysTurns_25 ?_
          refine Y_icmp_ge C (pc := 27) (tgt := 56) dX9_laysTurns_27 (by decide) (fun c9 => ?_) (fun c9 => ?_)
          · rw [if_pos c9] at h
            have h := Option.some.inj h
            exact Y_sub [0] rfl (hE _ h.symm)
          · rw [if_neg c9] at h
            refine Y_aload_n C (pc := 30) 0 0 rfl rfl dX9_laysTurns_30 ?_
            refine Y_getR C (pc := 31) hk0 q_fi_RX9_40 (by decide) dX9_laysTurns_31 ?_
            refine Y_bipush C (pc := 34) (v := (6 : Int32)) (by decide) dX9_laysTurns_34 ?_
            refine Y_aload_n C (pc := 36) 0 0 rfl rfl dX9_laysTurns_36 ?_
            refine Y_getI C (pc := 37) hk0 q_fi_RX9_215 dX9_laysTurns_37 ?_
            refine Y_imul C (pc := 40) dX9_laysTurns_40 ?_
            refine Y_iload_n C (pc := 41) 2 1 rfl rfl dX9_laysTurns_41 ?_
            refine Y_iadd C (pc := 42) dX9_laysTurns_42 ?_
            refine Y_aload_n C (pc := 43) 0 0 rfl rfl dX9_laysTurns_43 ?_
            refine Y_getR C (pc := 44) hk0 q_fi_RX9_22 (by decide) dX9_laysTurns_44 ?_
            refine Y_iload_n C (pc := 47) 2 1 rfl rfl dX9_laysTurns_47 ?_
            obtain ⟨v7, hv7, h⟩ := Option.bind_eq_some_iff.mp h
            refine Y_iald C (pc := 48) (q_kr_9_7 hk0) hv7 dX9_laysTurns_48 ?_
            obtain ⟨s8, hs8, h⟩ := Option.bind_eq_some_iff.mp h
            refine Y_iast C (pc := 49) hW (q_kr_9_13 hk0) (q_lr_9_13 hk0) hs8 dX9_laysTurns_49 ?_
            refine Y_iinc C (pc := 50) (v := (s6.1 + 1)) (lv' := [(2, .int (s6.1 + 1)), (0, .ref (ρ k0))]) 1 rfl (congrArg (fun z => s6.1 + z) (by decide : Int32.ofInt (1) = (1))) (by decide) rfl dX9_laysTurns_50 ?_
            refine Y_goto C (pc := 53) (tgt := 24) dX9_laysTurns_53 (by decide) ?_
            have h := Option.some.inj h
            exact Y_sub [1, 0] rfl (hLp _ h.symm)
        · refine Y_aload_n C (pc := 56) 0 0 rfl rfl dX9_laysTurns_56 ?_
          refine Y_dup C (pc := 57) rfl dX9_laysTurns_57 ?_
          refine Y_getI C (pc := 58) hk0 q_fi_RX9_215 dX9_laysTurns_58 ?_
          refine Y_iconst C (pc := 61) (v := (1 : Int32)) (by decide) dX9_laysTurns_61 ?_
          refine Y_iadd C (pc := 62) dX9_laysTurns_62 ?_
          refine Y_putI C (pc := 63) hW hk0 (q_lo_9 hk0) q_fp_RX9_215 dX9_laysTurns_63 ?_
          exact Y_sub [0] rfl (hJ66 _ h)
  · cases h
    exact Y_vret C dX9_laysTurns_74

noncomputable def f_X9_isKept_J58 (j4 : Int32) (j5 : Int32) : Option ((Int32 × Int32) ⊕ (Int32)) := some (.inl (j5, (j4 + 1)))
noncomputable def f_X9_isKept_J57 (j3 : Int32) : Option ((Int32 × Int32) ⊕ (Int32)) := f_X9_isKept_J58 j3 ((0 : Int32))
noncomputable def f_X9_isKept_J53 (j7 : Int32) : Option ((Int32 × Int32) ⊕ (Int32)) := f_X9_isKept_J58 j7 ((1 : Int32))
noncomputable def f_X9_isKept_L4 (σ : Sg) (k0 : Nat) (i1 : Int32) : (Int32 × Int32) → Option ((Int32 × Int32) ⊕ (Int32)) := fun s1 => (ald σ (k0 + 1) (0 : Int32)).bind fun v2 => if v2 ≤ s1.2 then (some (.inr s1.1)) else (if s1.1 = (0 : Int32) then (f_X9_isKept_J57 s1.2) else ((ald σ (k0 + 6) s1.2).bind fun v6 => if v6 = (-1 : Int32) then (f_X9_isKept_J53 s1.2) else ((ald σ (k0 + 6) s1.2).bind fun v8 => (ald σ (k0 + 11) (((6 : Int32) * i1) + v8)).bind fun v9 => (ald σ (k0 + 6) s1.2).bind fun v10 => if v9 = v10 then (f_X9_isKept_J53 s1.2) else (f_X9_isKept_J57 s1.2))))
noncomputable def f_X9_isKept (σ : Sg) (k0 : Nat) (i1 : Int32) : Option (Int32) := (lo (f_X9_isKept_L4 σ k0 i1) ((1 : Int32), (0 : Int32))).bind fun e15 => (gb e15).bind fun v16 => some v16
set_option maxRecDepth 100000 in
set_option maxHeartbeats 4000000 in
theorem c_X9_isKept {l : Launch} {D : va_G} {cA ρ : Nat → Nat} {σ : Sg} {τ : Tg} {k0 : Nat} {i1 : Int32} (hk0 : kd k0 = (0, 9)) {r : Int32} (h : f_X9_isKept σ k0 i1 = some r) : Ct l yX9_isKept cX9_isKept 4 (some .boolean) 0 0 D cA ρ A0 [.ref (ρ k0), .int i1] σ τ (some (.int r)) σ τ := by
  refine Ct_of (by decide +kernel) (Nat.le_of_ble_eq_true rfl) (fun p e s m args below meth c C => ?_)
  have C : Ctx p l s m args meth c cX9_isKept RX9 4 (some .boolean) D cA ρ A0 := C
  unfold f_X9_isKept at h
  refine Y_sub [0, 1] (lv' := [(0, .ref (ρ k0)), (1, .int i1)]) rfl ?_
  refine Y_iconst C (pc := 0) (v := (1 : Int32)) (by decide) dX9_isKept_0 ?_
  refine Y_istore_n C (pc := 1) (lv' := [(2, .int (1 : Int32)), (0, .ref (ρ k0)), (1, .int i1)]) 2 rfl (by decide) rfl dX9_isKept_1 ?_
  refine Y_iconst C (pc := 2) (v := (0 : Int32)) (by decide) dX9_isKept_2 ?_
  refine Y_istore_n C (pc := 3) (lv' := [(3, .int (0 : Int32)), (2, .int (1 : Int32)), (0, .ref (ρ k0)), (1, .int i1)]) 3 rfl (by decide) rfl dX9_isKept_3 ?_
  obtain ⟨e15, he15, h⟩ := Option.bind_eq_some_iff.mp h
  refine Y_sub [2, 3, 1, 0] (lv' := [(0, .ref (ρ k0)), (1, .int i1), (2, .int (1 : Int32)), (3, .int (0 : Int32))]) rfl ?_
  refine lo_rule (f := (f_X9_isKept_L4 σ k0 i1)) (YS := fun s1 => Y p l e (Rm 0 0) s m args below meth c 4 D cA ρ A0 0 0 (MQ below (QC D cA ρ A0 (some (.int r)) σ τ) args s 0 0 A0) σ τ 4 [(0, .ref (ρ k0)), (1, .int i1), (2, .int s1.1), (3, .int s1.2)] []) (YE := fun e15 => Y p l e (Rm 0 0) s m args below meth c 4 D cA ρ A0 0 0 (MQ below (QC D cA ρ A0 (some (.int r)) σ τ) args s 0 0 A0) σ τ 65 [(2, .int e15)] []) ?_ he15 ?_
  · intro s1 x h hLp hE
    unfold f_X9_isKept_L4 at h
    have hJ58 : ∀ (j4 : Int32) (j5 : Int32), f_X9_isKept_J58 j4 j5 = some x → Y p l e (Rm 0 0) s m args below meth c 4 D cA ρ A0 0 0 (MQ below (QC D cA ρ A0 (some (.int r)) σ τ) args s 0 0 A0) σ τ 58 [(0, .ref (ρ k0)), (1, .int i1), (3, .int j4)] [.int j5] := by
      intro j4 j5 h
      unfold f_X9_isKept_J58 at h
      refine Y_istore_n C (pc := 58) (lv' := [(2, .int j5), (0, .ref (ρ k0)), (1, .int i1), (3, .int j4)]) 2 rfl (by decide) rfl dX9_isKept_58 ?_
      refine Y_iinc C (pc := 59) (v := (j4 + 1)) (lv' := [(3, .int (j4 + 1)), (2, .int j5), (0, .ref (ρ k0)), (1, .int i1)]) 3 rfl (congrArg (fun z => j4 + z) (by decide : Int32.ofInt (1) = (1))) (by decide) rfl dX9_isKept_59 ?_
      refine Y_goto C (pc := 62) (tgt := 4) dX9_isKept_62 (by decide) ?_
      have h := Option.some.inj h
      exact Y_sub [2, 3, 1, 0] rfl (hLp _ h.symm)
    have hJ57 : ∀ (j3 : Int32), f_X9_isKept_J57 j3 = some x → Y p l e (Rm 0 0) s m args below meth c 4 D cA ρ A0 0 0 (MQ below (QC D cA ρ A0 (some (.int r)) σ τ) args s 0 0 A0) σ τ 57 [(0, .ref (ρ k0)), (1, .int i1), (3, .int j3)] [] := by
      intro j3 h
      unfold f_X9_isKept_J57 at h
      refine Y_iconst C (pc := 57) (v := (0 : Int32)) (by decide) dX9_isKept_57 ?_
      exact Y_sub [0, 1, 2] rfl (hJ58 _ _ h)
    have hJ53 : ∀ (j7 : Int32), f_X9_isKept_J53 j7 = some x → Y p l e (Rm 0 0) s m args below meth c 4 D cA ρ A0 0 0 (MQ below (QC D cA ρ A0 (some (.int r)) σ τ) args s 0 0 A0) σ τ 53 [(0, .ref (ρ k0)), (1, .int i1), (3, .int j7)] [] := by
      intro j7 h
      unfold f_X9_isKept_J53 at h
      refine Y_iconst C (pc := 53) (v := (1 : Int32)) (by decide) dX9_isKept_53 ?_
      refine Y_goto C (pc := 54) (tgt := 58) dX9_isKept_54 (by decide) ?_
      exact Y_sub [0, 1, 2] rfl (hJ58 _ _ h)
    refine Y_iload_n C (pc := 4) 3 3 rfl rfl dX9_isKept_4 ?_
    refine Y_aload_n C (pc := 5) 0 0 rfl rfl dX9_isKept_5 ?_
    refine Y_getR C (pc := 6) hk0 q_fi_RX9_7 (by decide) dX9_isKept_6 ?_
    refine Y_iconst C (pc := 9) (v := (0 : Int32)) (by decide) dX9_isKept_9 ?_
    obtain ⟨v2, hv2, h⟩ := Option.bind_eq_some_iff.mp h
    refine Y_iald C (pc := 10) (q_kr_9_0 hk0) hv2 dX9_isKept_10 ?_
    refine Y_icmp_ge C (pc := 11) (tgt := 65) dX9_isKept_11 (by decide) (fun c14 => ?_) (fun c14 => ?_)
    · rw [if_pos c14] at h
      have h := Option.some.inj h
      exact Y_sub [2] rfl (hE _ h.symm)
    · rw [if_neg c14] at h
      refine Y_iload_n C (pc := 14) 2 2 rfl rfl dX9_isKept_14 ?_
      refine Y_if_eq C (pc := 15) (tgt := 57) dX9_isKept_15 (by decide) (fun c13 => ?_) (fun c13 => ?_)
      · rw [if_pos c13] at h
        exact Y_sub [0, 1, 3] rfl (hJ57 _ h)
      · rw [if_neg c13] at h
        refine Y_aload_n C (pc := 18) 0 0 rfl rfl dX9_isKept_18 ?_
        refine Y_getR C (pc := 19) hk0 q_fi_RX9_25 (by decide) dX9_isKept_19 ?_
        refine Y_iload_n C (pc := 22) 3 3 rfl rfl dX9_isKept_22 ?_
        obtain ⟨v6, hv6, h⟩ := Option.bind_eq_some_iff.mp h
        refine Y_iald C (pc := 23) (q_kr_9_8 hk0) hv6 dX9_isKept_23 ?_
        refine Y_iconst C (pc := 24) (v := (-1 : Int32)) (by decide) dX9_isKept_24 ?_
        refine Y_icmp_eq C (pc := 25) (tgt := 53) dX9_isKept_25 (by decide) (fun c12 => ?_) (fun c12 => ?_)
        · rw [if_pos c12] at h
          exact Y_sub [0, 1, 3] rfl (hJ53 _ h)
        · rw [if_neg c12] at h
          refine Y_aload_n C (pc := 28) 0 0 rfl rfl dX9_isKept_28 ?_
          refine Y_getR C (pc := 29) hk0 q_fi_RX9_40 (by decide) dX9_isKept_29 ?_
          refine Y_bipush C (pc := 32) (v := (6 : Int32)) (by decide) dX9_isKept_32 ?_
          refine Y_iload_n C (pc := 34) 1 1 rfl rfl dX9_isKept_34 ?_
          refine Y_imul C (pc := 35) dX9_isKept_35 ?_
          refine Y_aload_n C (pc := 36) 0 0 rfl rfl dX9_isKept_36 ?_
          refine Y_getR C (pc := 37) hk0 q_fi_RX9_25 (by decide) dX9_isKept_37 ?_
          refine Y_iload_n C (pc := 40) 3 3 rfl rfl dX9_isKept_40 ?_
          obtain ⟨v8, hv8, h⟩ := Option.bind_eq_some_iff.mp h
          refine Y_iald C (pc := 41) (q_kr_9_8 hk0) hv8 dX9_isKept_41 ?_
          refine Y_iadd C (pc := 42) dX9_isKept_42 ?_
          obtain ⟨v9, hv9, h⟩ := Option.bind_eq_some_iff.mp h
          refine Y_iald C (pc := 43) (q_kr_9_13 hk0) hv9 dX9_isKept_43 ?_
          refine Y_aload_n C (pc := 44) 0 0 rfl rfl dX9_isKept_44 ?_
          refine Y_getR C (pc := 45) hk0 q_fi_RX9_25 (by decide) dX9_isKept_45 ?_
          refine Y_iload_n C (pc := 48) 3 3 rfl rfl dX9_isKept_48 ?_
          obtain ⟨v10, hv10, h⟩ := Option.bind_eq_some_iff.mp h
          refine Y_iald C (pc := 49) (q_kr_9_8 hk0) hv10 dX9_isKept_49 ?_
          refine Y_icmp_ne C (pc := 50) (tgt := 57) dX9_isKept_50 (by decide) (fun c11 => ?_) (fun c11 => ?_)
          · rw [if_neg c11] at h
            exact Y_sub [0, 1, 3] rfl (hJ57 _ h)
          · rw [if_pos c11] at h
            exact Y_sub [0, 1, 3] rfl (hJ53 _ h)
  · refine Y_iload_n C (pc := 65) 2 0 rfl rfl dX9_isKept_65 ?_
    obtain ⟨v16, hv16, h⟩ := Option.bind_eq_some_iff.mp h
    obtain ⟨hv16, rfl⟩ := gb_in hv16
    cases h
    exact Y_zret hv16 C dX9_isKept_66

noncomputable def f_X9_keptTurns_J30 (j4 : Int32) (j5 : Int32) (j6 : Int32) (sj7 : Sg) : Option ((Int32 × Int32) ⊕ (Int32)) := some (.inl ((j6 + j5), (j4 + 1)))
noncomputable def f_X9_keptTurns_L8 (v1 : Sg) (k0 : Nat) : (Int32 × Int32) → Option ((Int32 × Int32) ⊕ (Int32)) := fun s2 => if (v1 k0 14) ≤ s2.2 then (some (.inr s2.1)) else ((f_X9_isKept v1 k0 s2.2).bind fun v3 => if v3 = (0 : Int32) then (f_X9_keptTurns_J30 s2.2 ((0 : Int32)) s2.1 v1) else (f_X9_keptTurns_J30 s2.2 ((1 : Int32)) s2.1 v1))
noncomputable def f_X9_keptTurns (σ : Sg) (k0 : Nat) : Option (Int32 × Sg) := (f_X9_laysTurns σ k0).bind fun v1 => (lo (f_X9_keptTurns_L8 v1 k0) ((0 : Int32), (0 : Int32))).bind fun e10 => some (e10, v1)
set_option maxRecDepth 100000 in
set_option maxHeartbeats 4000000 in
theorem c_X9_keptTurns {l : Launch} {D : va_G} {cA ρ : Nat → Nat} {σ : Sg} {τ : Tg} {k0 : Nat} (hI : Inj ρ) (hk0 : kd k0 = (0, 9)) {r : Int32 × Sg} (h : f_X9_keptTurns σ k0 = some r) : Ct l yX9_keptTurns cX9_keptTurns 3 (some .int) 4 88 D cA ρ (Aw ρ) [.ref (ρ k0)] σ τ (some (.int r.1)) r.2 τ := by
  refine Ct_of (by decide +kernel) (Nat.le_of_ble_eq_true rfl) (fun p e s m args below meth c C => ?_)
  have C : Ctx p l s m args meth c cX9_keptTurns RX9 3 (some .int) D cA ρ (Aw ρ) := C
  have hW : Wr ρ (Aw ρ) := ⟨hI, fun k hk => ⟨k, hk, rfl⟩⟩
  unfold f_X9_keptTurns at h
  refine Y_sub [0] (lv' := [(0, .ref (ρ k0))]) rfl ?_
  refine Y_aload_n C (pc := 0) 0 0 rfl rfl dX9_keptTurns_0 ?_
  obtain ⟨v1, hv1, h⟩ := Option.bind_eq_some_iff.mp h
  refine Y_callV C [] [] [] hk0 rfl rfl (c_X9_laysTurns hI hk0 hv1) (fun _ h => h) q_cw_yX9_laysTurns q_ml_RX9_221 ⟨q_im_yX9_laysTurns, q_se_yX9_laysTurns⟩ ⟨⟨Nat.le_of_ble_eq_true rfl, Nat.le_of_ble_eq_true rfl⟩, ⟨Nat.zero_le _, Nat.zero_le _⟩, Nat.le_of_ble_eq_true rfl⟩ rfl rfl rfl dX9_keptTurns_1 ?_
  refine Y_iconst C (pc := 4) (v := (0 : Int32)) (by decide) dX9_keptTurns_4 ?_
  refine Y_istore_n C (pc := 5) (lv' := [(1, .int (0 : Int32)), (0, .ref (ρ k0))]) 1 rfl (by decide) rfl dX9_keptTurns_5 ?_
  refine Y_iconst C (pc := 6) (v := (0 : Int32)) (by decide) dX9_keptTurns_6 ?_
  refine Y_istore_n C (pc := 7) (lv' := [(2, .int (0 : Int32)), (1, .int (0 : Int32)), (0, .ref (ρ k0))]) 2 rfl (by decide) rfl dX9_keptTurns_7 ?_
  obtain ⟨e10, he10, h⟩ := Option.bind_eq_some_iff.mp h
  refine Y_sub [2, 1, 0] (lv' := [(0, .ref (ρ k0)), (1, .int (0 : Int32)), (2, .int (0 : Int32))]) rfl ?_
  refine lo_rule (f := (f_X9_keptTurns_L8 v1 k0)) (YS := fun s2 => Y p l e (Rm 4 88) s m args below meth c 3 D cA ρ (Aw ρ) 0 0 (MQ below (QC D cA ρ (Aw ρ) (some (.int r.1)) r.2 τ) args s 0 0 (Aw ρ)) v1 τ 8 [(0, .ref (ρ k0)), (1, .int s2.1), (2, .int s2.2)] []) (YE := fun e10 => Y p l e (Rm 4 88) s m args below meth c 3 D cA ρ (Aw ρ) 0 0 (MQ below (QC D cA ρ (Aw ρ) (some (.int r.1)) r.2 τ) args s 0 0 (Aw ρ)) v1 τ 38 [(1, .int e10)] []) ?_ he10 ?_
  · intro s2 x h hLp hE
    unfold f_X9_keptTurns_L8 at h
    have hJ30 : ∀ (j4 : Int32) (j5 : Int32) (j6 : Int32) (sj7 : Sg), f_X9_keptTurns_J30 j4 j5 j6 sj7 = some x → Y p l e (Rm 4 88) s m args below meth c 3 D cA ρ (Aw ρ) 0 0 (MQ below (QC D cA ρ (Aw ρ) (some (.int r.1)) r.2 τ) args s 0 0 (Aw ρ)) sj7 τ 30 [(0, .ref (ρ k0)), (2, .int j4)] [.int j5, .int j6] := by
      intro j4 j5 j6 sj7 h
      unfold f_X9_keptTurns_J30 at h
      refine Y_iadd C (pc := 30) dX9_keptTurns_30 ?_
      refine Y_istore_n C (pc := 31) (lv' := [(1, .int (j6 + j5)), (0, .ref (ρ k0)), (2, .int j4)]) 1 rfl (by decide) rfl dX9_keptTurns_31 ?_
      refine Y_iinc C (pc := 32) (v := (j4 + 1)) (lv' := [(2, .int (j4 + 1)), (1, .int (j6 + j5)), (0, .ref (ρ k0))]) 2 rfl (congrArg (fun z => j4 + z) (by decide : Int32.ofInt (1) = (1))) (by decide) rfl dX9_keptTurns_32 ?_
      refine Y_goto C (pc := 35) (tgt := 8) dX9_keptTurns_35 (by decide) ?_
      have h := Option.some.inj h
      exact Y_sub [2, 1, 0] rfl (hLp _ h.symm)
    refine Y_iload_n C (pc := 8) 2 2 rfl rfl dX9_keptTurns_8 ?_
    refine Y_aload_n C (pc := 9) 0 0 rfl rfl dX9_keptTurns_9 ?_
    refine Y_getI C (pc := 10) hk0 q_fi_RX9_215 dX9_keptTurns_10 ?_
    refine Y_icmp_ge C (pc := 13) (tgt := 38) dX9_keptTurns_13 (by decide) (fun c9 => ?_) (fun c9 => ?_)
    · rw [if_pos c9] at h
      have h := Option.some.inj h
      exact Y_sub [1] rfl (hE _ h.symm)
    · rw [if_neg c9] at h
      refine Y_iload_n C (pc := 16) 1 1 rfl rfl dX9_keptTurns_16 ?_
      refine Y_aload_n C (pc := 17) 0 0 rfl rfl dX9_keptTurns_17 ?_
      refine Y_iload_n C (pc := 18) 2 2 rfl rfl dX9_keptTurns_18 ?_
      obtain ⟨v3, hv3, h⟩ := Option.bind_eq_some_iff.mp h
      refine Y_callV C [.int s2.2] [.int s2.1] [.int v3, .int s2.1] hk0 rfl rfl (c_X9_isKept hk0 hv3) (fun _ h => h.elim) q_cw_yX9_isKept q_ml_RX9_224 ⟨q_im_yX9_isKept, q_se_yX9_isKept⟩ ⟨⟨Nat.le_of_ble_eq_true rfl, Nat.le_of_ble_eq_true rfl⟩, ⟨Nat.zero_le _, Nat.zero_le _⟩, Nat.le_of_ble_eq_true rfl⟩ rfl rfl rfl dX9_keptTurns_19 ?_
      refine Y_if_eq C (pc := 22) (tgt := 29) dX9_keptTurns_22 (by decide) (fun c8 => ?_) (fun c8 => ?_)
      · rw [if_pos c8] at h
        refine Y_iconst C (pc := 29) (v := (0 : Int32)) (by decide) dX9_keptTurns_29 ?_
        exact Y_sub [0, 2] rfl (hJ30 _ _ _ _ h)
      · rw [if_neg c8] at h
        refine Y_iconst C (pc := 25) (v := (1 : Int32)) (by decide) dX9_keptTurns_25 ?_
        refine Y_goto C (pc := 26) (tgt := 30) dX9_keptTurns_26 (by decide) ?_
        exact Y_sub [0, 2] rfl (hJ30 _ _ _ _ h)
  · refine Y_iload_n C (pc := 38) 1 0 rfl rfl dX9_keptTurns_38 ?_
    cases h
    exact Y_iret C dX9_keptTurns_39

noncomputable def f_X9_symmetries (σ : Sg) (k0 : Nat) : Option (Int32 × Sg) := (f_X9_looks σ k0).bind fun v1 => (f_X9_keptTurns v1 k0).bind fun v2 => (f_X9_tells v2.2 k0 v2.1).bind fun v3 => some (v3.1, v3.2)
set_option maxRecDepth 100000 in
set_option maxHeartbeats 4000000 in
theorem c_X9_symmetries {l : Launch} {D : va_G} {cA ρ : Nat → Nat} {σ : Sg} {τ : Tg} {k0 : Nat} (hI : Inj ρ) (hk0 : kd k0 = (0, 9)) {r : Int32 × Sg} (h : f_X9_symmetries σ k0 = some r) : Ct l yX9_symmetries cX9_symmetries 1 (some .int) 5 110 D cA ρ (Aw ρ) [.ref (ρ k0)] σ τ (some (.int r.1)) r.2 τ := by
  refine Ct_of (by decide +kernel) (Nat.le_of_ble_eq_true rfl) (fun p e s m args below meth c C => ?_)
  have C : Ctx p l s m args meth c cX9_symmetries RX9 1 (some .int) D cA ρ (Aw ρ) := C
  have hW : Wr ρ (Aw ρ) := ⟨hI, fun k hk => ⟨k, hk, rfl⟩⟩
  unfold f_X9_symmetries at h
  refine Y_sub [0] (lv' := [(0, .ref (ρ k0))]) rfl ?_
  refine Y_aload_n C (pc := 0) 0 0 rfl rfl dX9_symmetries_0 ?_
  obtain ⟨v1, hv1, h⟩ := Option.bind_eq_some_iff.mp h
  refine Y_callV C [] [] [] hk0 rfl rfl (c_X9_looks hI hk0 hv1) (fun _ h => h) q_cw_yX9_looks q_ml_RX9_177 ⟨q_im_yX9_looks, q_se_yX9_looks⟩ ⟨⟨Nat.le_of_ble_eq_true rfl, Nat.le_of_ble_eq_true rfl⟩, ⟨Nat.zero_le _, Nat.zero_le _⟩, Nat.le_of_ble_eq_true rfl⟩ rfl rfl rfl dX9_symmetries_1 ?_
  refine Y_aload_n C (pc := 4) 0 0 rfl rfl dX9_symmetries_4 ?_
  refine Y_aload_n C (pc := 5) 0 0 rfl rfl dX9_symmetries_5 ?_
  obtain ⟨v2, hv2, h⟩ := Option.bind_eq_some_iff.mp h
  refine Y_callV C [] [.ref (ρ k0)] [.int v2.1, .ref (ρ k0)] hk0 rfl rfl (c_X9_keptTurns hI hk0 hv2) (fun _ h => h) q_cw_yX9_keptTurns q_ml_RX9_227 ⟨q_im_yX9_keptTurns, q_se_yX9_keptTurns⟩ ⟨⟨Nat.le_of_ble_eq_true rfl, Nat.le_of_ble_eq_true rfl⟩, ⟨Nat.zero_le _, Nat.zero_le _⟩, Nat.le_of_ble_eq_true rfl⟩ rfl rfl rfl dX9_symmetries_6 ?_
  obtain ⟨v3, hv3, h⟩ := Option.bind_eq_some_iff.mp h
  refine Y_callV C [.int v2.1] [] [.int v3.1] hk0 rfl rfl (c_X9_tells hI hk0 hv3) (fun _ h => h) q_cw_yX9_tells q_ml_RX9_82 ⟨q_im_yX9_tells, q_se_yX9_tells⟩ ⟨⟨Nat.le_of_ble_eq_true rfl, Nat.le_of_ble_eq_true rfl⟩, ⟨Nat.zero_le _, Nat.zero_le _⟩, Nat.le_of_ble_eq_true rfl⟩ rfl rfl rfl dX9_symmetries_9 ?_
  cases h
  exact Y_iret C dX9_symmetries_12

noncomputable def f_X9_lowest_J45 (j5 : Int32) (j6 : Int32) : Option ((Int32 × Int32) ⊕ (Int32)) := some (.inl (j6, (j5 + 1)))
noncomputable def f_X9_lowest_J44 (j3 : Int32) (j4 : Int32) : Option ((Int32 × Int32) ⊕ (Int32)) := f_X9_lowest_J45 j4 j3
noncomputable def f_X9_lowest_L4 (σ : Sg) (k0 : Nat) (i1 : Int32) : (Int32 × Int32) → Option ((Int32 × Int32) ⊕ (Int32)) := fun s1 => if (σ k0 14) ≤ s1.2 then (some (.inr s1.1)) else ((ald σ (k0 + 11) (((6 : Int32) * s1.2) + i1)).bind fun v2 => if s1.1 ≤ v2 then (f_X9_lowest_J44 s1.1 s1.2) else ((f_X9_isKept σ k0 s1.2).bind fun v7 => if v7 = (0 : Int32) then (f_X9_lowest_J44 s1.1 s1.2) else (f_X9_lowest_J45 s1.2 v2)))
noncomputable def f_X9_lowest (σ : Sg) (k0 : Nat) (i1 : Int32) : Option (Int32) := (lo (f_X9_lowest_L4 σ k0 i1) (i1, (0 : Int32))).bind fun e11 => some e11
set_option maxRecDepth 100000 in
set_option maxHeartbeats 4000000 in
theorem c_X9_lowest {l : Launch} {D : va_G} {cA ρ : Nat → Nat} {σ : Sg} {τ : Tg} {k0 : Nat} {i1 : Int32} (hk0 : kd k0 = (0, 9)) {r : Int32} (h : f_X9_lowest σ k0 i1 = some r) : Ct l yX9_lowest cX9_lowest 5 (some .int) 1 23 D cA ρ A0 [.ref (ρ k0), .int i1] σ τ (some (.int r)) σ τ := by
  refine Ct_of (by decide +kernel) (Nat.le_of_ble_eq_true rfl) (fun p e s m args below meth c C => ?_)
  have C : Ctx p l s m args meth c cX9_lowest RX9 5 (some .int) D cA ρ A0 := C
  unfold f_X9_lowest at h
  refine Y_sub [0, 1] (lv' := [(0, .ref (ρ k0)), (1, .int i1)]) rfl ?_
  refine Y_iload_n C (pc := 0) 1 1 rfl rfl dX9_lowest_0 ?_
  refine Y_istore_n C (pc := 1) (lv' := [(2, .int i1), (0, .ref (ρ k0)), (1, .int i1)]) 2 rfl (by decide) rfl dX9_lowest_1 ?_
  refine Y_iconst C (pc := 2) (v := (0 : Int32)) (by decide) dX9_lowest_2 ?_
  refine Y_istore_n C (pc := 3) (lv' := [(3, .int (0 : Int32)), (2, .int i1), (0, .ref (ρ k0)), (1, .int i1)]) 3 rfl (by decide) rfl dX9_lowest_3 ?_
  obtain ⟨e11, he11, h⟩ := Option.bind_eq_some_iff.mp h
  refine Y_sub [2, 3, 1, 0] (lv' := [(0, .ref (ρ k0)), (1, .int i1), (2, .int i1), (3, .int (0 : Int32))]) rfl ?_
  refine lo_rule (f := (f_X9_lowest_L4 σ k0 i1)) (YS := fun s1 => Y p l e (Rm 1 23) s m args below meth c 5 D cA ρ A0 0 0 (MQ below (QC D cA ρ A0 (some (.int r)) σ τ) args s 0 0 A0) σ τ 4 [(0, .ref (ρ k0)), (1, .int i1), (2, .int s1.1), (3, .int s1.2)] []) (YE := fun e11 => Y p l e (Rm 1 23) s m args below meth c 5 D cA ρ A0 0 0 (MQ below (QC D cA ρ A0 (some (.int r)) σ τ) args s 0 0 A0) σ τ 52 [(2, .int e11)] []) ?_ he11 ?_
  · intro s1 x h hLp hE
    unfold f_X9_lowest_L4 at h
    have hJ45 : ∀ (j5 : Int32) (j6 : Int32), f_X9_lowest_J45 j5 j6 = some x → Y p l e (Rm 1 23) s m args below meth c 5 D cA ρ A0 0 0 (MQ below (QC D cA ρ A0 (some (.int r)) σ τ) args s 0 0 A0) σ τ 45 [(0, .ref (ρ k0)), (1, .int i1), (3, .int j5)] [.int j6] := by
      intro j5 j6 h
      unfold f_X9_lowest_J45 at h
      refine Y_istore_n C (pc := 45) (lv' := [(2, .int j6), (0, .ref (ρ k0)), (1, .int i1), (3, .int j5)]) 2 rfl (by decide) rfl dX9_lowest_45 ?_
      refine Y_iinc C (pc := 46) (v := (j5 + 1)) (lv' := [(3, .int (j5 + 1)), (2, .int j6), (0, .ref (ρ k0)), (1, .int i1)]) 3 rfl (congrArg (fun z => j5 + z) (by decide : Int32.ofInt (1) = (1))) (by decide) rfl dX9_lowest_46 ?_
      refine Y_goto C (pc := 49) (tgt := 4) dX9_lowest_49 (by decide) ?_
      have h := Option.some.inj h
      exact Y_sub [2, 3, 1, 0] rfl (hLp _ h.symm)
    have hJ44 : ∀ (j3 : Int32) (j4 : Int32), f_X9_lowest_J44 j3 j4 = some x → Y p l e (Rm 1 23) s m args below meth c 5 D cA ρ A0 0 0 (MQ below (QC D cA ρ A0 (some (.int r)) σ τ) args s 0 0 A0) σ τ 44 [(0, .ref (ρ k0)), (1, .int i1), (2, .int j3), (3, .int j4)] [] := by
      intro j3 j4 h
      unfold f_X9_lowest_J44 at h
      refine Y_iload_n C (pc := 44) 2 2 rfl rfl dX9_lowest_44 ?_
      exact Y_sub [0, 1, 3] rfl (hJ45 _ _ h)
    refine Y_iload_n C (pc := 4) 3 3 rfl rfl dX9_lowest_4 ?_
    refine Y_aload_n C (pc := 5) 0 0 rfl rfl dX9_lowest_5 ?_
    refine Y_getI C (pc := 6) hk0 q_fi_RX9_215 dX9_lowest_6 ?_
    refine Y_icmp_ge C (pc := 9) (tgt := 52) dX9_lowest_9 (by decide) (fun c10 => ?_) (fun c10 => ?_)
    · rw [if_pos c10] at h
      have h := Option.some.inj h
      exact Y_sub [2] rfl (hE _ h.symm)
    · rw [if_neg c10] at h
      refine Y_aload_n C (pc := 12) 0 0 rfl rfl dX9_lowest_12 ?_
      refine Y_getR C (pc := 13) hk0 q_fi_RX9_40 (by decide) dX9_lowest_13 ?_
      refine Y_bipush C (pc := 16) (v := (6 : Int32)) (by decide) dX9_lowest_16 ?_
      refine Y_iload_n C (pc := 18) 3 3 rfl rfl dX9_lowest_18 ?_
      refine Y_imul C (pc := 19) dX9_lowest_19 ?_
      refine Y_iload_n C (pc := 20) 1 1 rfl rfl dX9_lowest_20 ?_
      refine Y_iadd C (pc := 21) dX9_lowest_21 ?_
      obtain ⟨v2, hv2, h⟩ := Option.bind_eq_some_iff.mp h
      refine Y_iald C (pc := 22) (q_kr_9_13 hk0) hv2 dX9_lowest_22 ?_
      refine Y_istore C (pc := 23) (lv' := [(4, .int v2), (0, .ref (ρ k0)), (1, .int i1), (2, .int s1.1), (3, .int s1.2)]) (by decide) rfl dX9_lowest_23 ?_
      refine Y_iload C (pc := 25) 0 rfl dX9_lowest_25 ?_
      refine Y_iload_n C (pc := 27) 2 3 rfl rfl dX9_lowest_27 ?_
      refine Y_icmp_ge C (pc := 28) (tgt := 44) dX9_lowest_28 (by decide) (fun c9 => ?_) (fun c9 => ?_)
      · rw [if_pos c9] at h
        exact Y_sub [1, 2, 3, 4] rfl (hJ44 _ _ h)
      · rw [if_neg c9] at h
        refine Y_aload_n C (pc := 31) 0 1 rfl rfl dX9_lowest_31 ?_
        refine Y_iload_n C (pc := 32) 3 4 rfl rfl dX9_lowest_32 ?_
        obtain ⟨v7, hv7, h⟩ := Option.bind_eq_some_iff.mp h
        refine Y_callV C [.int s1.2] [] [.int v7] hk0 rfl rfl (c_X9_isKept hk0 hv7) (fun _ h => h.elim) q_cw_yX9_isKept q_ml_RX9_224 ⟨q_im_yX9_isKept, q_se_yX9_isKept⟩ ⟨⟨Nat.le_of_ble_eq_true rfl, Nat.le_of_ble_eq_true rfl⟩, ⟨Nat.zero_le _, Nat.zero_le _⟩, Nat.le_of_ble_eq_true rfl⟩ rfl rfl rfl dX9_lowest_33 ?_
        refine Y_if_eq C (pc := 36) (tgt := 44) dX9_lowest_36 (by decide) (fun c8 => ?_) (fun c8 => ?_)
        · rw [if_pos c8] at h
          exact Y_sub [1, 2, 3, 4] rfl (hJ44 _ _ h)
        · rw [if_neg c8] at h
          refine Y_iload C (pc := 39) 0 rfl dX9_lowest_39 ?_
          refine Y_goto C (pc := 41) (tgt := 45) dX9_lowest_41 (by decide) ?_
          exact Y_sub [1, 2, 4] rfl (hJ45 _ _ h)
  · refine Y_iload_n C (pc := 52) 2 0 rfl rfl dX9_lowest_52 ?_
    cases h
    exact Y_iret C dX9_lowest_53

noncomputable def f_X9_representative (σ : Sg) (k0 : Nat) (i1 : Int32) : Option (Int32 × Sg) := (f_X9_isOne σ k0 i1).bind fun v1 => if v1 = (0 : Int32) then ((f_X9_fails σ k0 ((1 : Int32))).bind fun v6 => some (v6.1, v6.2)) else ((f_X9_looks σ k0).bind fun v2 => (f_X9_laysTurns v2 k0).bind fun v3 => (f_X9_lowest v3 k0 i1).bind fun v4 => (f_X9_tells v3 k0 v4).bind fun v5 => some (v5.1, v5.2))
set_option maxRecDepth 100000 in
set_option maxHeartbeats 4000000 in
theorem c_X9_representative {l : Launch} {D : va_G} {cA ρ : Nat → Nat} {σ : Sg} {τ : Tg} {k0 : Nat} {i1 : Int32} (hI : Inj ρ) (hk0 : kd k0 = (0, 9)) {r : Int32 × Sg} (h : f_X9_representative σ k0 i1 = some r) : Ct l yX9_representative cX9_representative 2 (some .int) 4 88 D cA ρ (Aw ρ) [.ref (ρ k0), .int i1] σ τ (some (.int r.1)) r.2 τ := by
  refine Ct_of (by decide +kernel) (Nat.le_of_ble_eq_true rfl) (fun p e s m args below meth c C => ?_)
  have C : Ctx p l s m args meth c cX9_representative RX9 2 (some .int) D cA ρ (Aw ρ) := C
  have hW : Wr ρ (Aw ρ) := ⟨hI, fun k hk => ⟨k, hk, rfl⟩⟩
  unfold f_X9_representative at h
  refine Y_sub [0, 1] (lv' := [(0, .ref (ρ k0)), (1, .int i1)]) rfl ?_
  refine Y_aload_n C (pc := 0) 0 0 rfl rfl dX9_representative_0 ?_
  refine Y_iload_n C (pc := 1) 1 1 rfl rfl dX9_representative_1 ?_
  obtain ⟨v1, hv1, h⟩ := Option.bind_eq_some_iff.mp h
  refine Y_callV C [.int i1] [] [.int v1] hk0 rfl rfl (c_X9_isOne hk0 hv1) (fun _ h => h.elim) q_cw_yX9_isOne q_ml_RX9_103 ⟨q_im_yX9_isOne, q_se_yX9_isOne⟩ ⟨⟨Nat.le_of_ble_eq_true rfl, Nat.le_of_ble_eq_true rfl⟩, ⟨Nat.zero_le _, Nat.zero_le _⟩, Nat.le_of_ble_eq_true rfl⟩ rfl rfl rfl dX9_representative_2 ?_
  refine Y_if_ne C (pc := 5) (tgt := 14) dX9_representative_5 (by decide) (fun c7 => ?_) (fun c7 => ?_)
  · rw [if_neg c7] at h
    refine Y_aload_n C (pc := 14) 0 0 rfl rfl dX9_representative_14 ?_
    obtain ⟨v2, hv2, h⟩ := Option.bind_eq_some_iff.mp h
    refine Y_callV C [] [] [] hk0 rfl rfl (c_X9_looks hI hk0 hv2) (fun _ h => h) q_cw_yX9_looks q_ml_RX9_177 ⟨q_im_yX9_looks, q_se_yX9_looks⟩ ⟨⟨Nat.le_of_ble_eq_true rfl, Nat.le_of_ble_eq_true rfl⟩, ⟨Nat.zero_le _, Nat.zero_le _⟩, Nat.le_of_ble_eq_true rfl⟩ rfl rfl rfl dX9_representative_15 ?_
    refine Y_aload_n C (pc := 18) 0 0 rfl rfl dX9_representative_18 ?_
    obtain ⟨v3, hv3, h⟩ := Option.bind_eq_some_iff.mp h
    refine Y_callV C [] [] [] hk0 rfl rfl (c_X9_laysTurns hI hk0 hv3) (fun _ h => h) q_cw_yX9_laysTurns q_ml_RX9_221 ⟨q_im_yX9_laysTurns, q_se_yX9_laysTurns⟩ ⟨⟨Nat.le_of_ble_eq_true rfl, Nat.le_of_ble_eq_true rfl⟩, ⟨Nat.zero_le _, Nat.zero_le _⟩, Nat.le_of_ble_eq_true rfl⟩ rfl rfl rfl dX9_representative_19 ?_
    refine Y_aload_n C (pc := 22) 0 0 rfl rfl dX9_representative_22 ?_
    refine Y_aload_n C (pc := 23) 0 0 rfl rfl dX9_representative_23 ?_
    refine Y_iload_n C (pc := 24) 1 1 rfl rfl dX9_representative_24 ?_
    obtain ⟨v4, hv4, h⟩ := Option.bind_eq_some_iff.mp h
    refine Y_callV C [.int i1] [.ref (ρ k0)] [.int v4, .ref (ρ k0)] hk0 rfl rfl (c_X9_lowest hk0 hv4) (fun _ h => h.elim) q_cw_yX9_lowest q_ml_RX9_230 ⟨q_im_yX9_lowest, q_se_yX9_lowest⟩ ⟨⟨Nat.le_of_ble_eq_true rfl, Nat.le_of_ble_eq_true rfl⟩, ⟨Nat.zero_le _, Nat.zero_le _⟩, Nat.le_of_ble_eq_true rfl⟩ rfl rfl rfl dX9_representative_25 ?_
    obtain ⟨v5, hv5, h⟩ := Option.bind_eq_some_iff.mp h
    refine Y_callV C [.int v4] [] [.int v5.1] hk0 rfl rfl (c_X9_tells hI hk0 hv5) (fun _ h => h) q_cw_yX9_tells q_ml_RX9_82 ⟨q_im_yX9_tells, q_se_yX9_tells⟩ ⟨⟨Nat.le_of_ble_eq_true rfl, Nat.le_of_ble_eq_true rfl⟩, ⟨Nat.zero_le _, Nat.zero_le _⟩, Nat.le_of_ble_eq_true rfl⟩ rfl rfl rfl dX9_representative_28 ?_
    cases h
    exact Y_iret C dX9_representative_31
  · rw [if_pos c7] at h
    refine Y_aload_n C (pc := 8) 0 0 rfl rfl dX9_representative_8 ?_
    refine Y_iconst C (pc := 9) (v := (1 : Int32)) (by decide) dX9_representative_9 ?_
    obtain ⟨v6, hv6, h⟩ := Option.bind_eq_some_iff.mp h
    refine Y_callV C [.int (1 : Int32)] [] [.int v6.1] hk0 rfl rfl (c_X9_fails hI hk0 hv6) (fun _ h => h) q_cw_yX9_fails q_ml_RX9_94 ⟨q_im_yX9_fails, q_se_yX9_fails⟩ ⟨⟨Nat.le_of_ble_eq_true rfl, Nat.le_of_ble_eq_true rfl⟩, ⟨Nat.zero_le _, Nat.zero_le _⟩, Nat.le_of_ble_eq_true rfl⟩ rfl rfl rfl dX9_representative_10 ?_
    cases h
    exact Y_iret C dX9_representative_13

noncomputable def f_X9_adds_L2 (k0 : Nat) : (Int32 × Sg) → Option ((Int32 × Sg) ⊕ (Sg)) := fun s1 => if (6 : Int32) ≤ s1.1 then (some (.inr s1.2)) else ((ald s1.2 (k0 + 6) s1.1).bind fun v2 => (ast s1.2 (k0 + 12) (((6 : Int32) * (s1.2 k0 19)) + s1.1) v2).bind fun s3 => some (.inl ((s1.1 + 1), s3)))
noncomputable def f_X9_adds_J54 (k0 : Nat) (j6 : Int32) (j7 : Int32) (sj8 : Sg) : Option (Sg) := (ast sj8 (k0 + 13) j7 j6).bind fun s9 => (f_X9_pairs s9 k0).bind fun v10 => (ast s9 (k0 + 14) (s9 k0 19) v10).bind fun s11 => (ast s11 (k0 + 15) (s11 k0 19) (vp_nar .boolean (1 : Int32))).bind fun s12 => some ((si s12 k0 19 ((s12 k0 19) + (1 : Int32))))
noncomputable def f_X9_adds (σ : Sg) (k0 : Nat) (i1 : Int32) : Option (Sg) := (lo (f_X9_adds_L2 k0) ((0 : Int32), σ)).bind fun e5 => if i1 = (0 : Int32) then (f_X9_adds_J54 k0 ((0 : Int32)) ((e5 k0 19)) e5) else ((f_X9_boundOf e5 k0).bind fun v13 => f_X9_adds_J54 k0 v13.1 ((e5 k0 19)) v13.2)
set_option maxRecDepth 100000 in
set_option maxHeartbeats 4000000 in
theorem c_X9_adds {l : Launch} {D : va_G} {cA ρ : Nat → Nat} {σ : Sg} {τ : Tg} {k0 : Nat} {i1 : Int32} (hI : Inj ρ) (hk0 : kd k0 = (0, 9)) {r : Sg} (h : f_X9_adds σ k0 i1 = some r) : Ct l yX9_adds cX9_adds 3 none 6 141 D cA ρ (Aw ρ) [.ref (ρ k0), .int i1] σ τ none r τ := by
  refine Ct_of (by decide +kernel) (Nat.le_of_ble_eq_true rfl) (fun p e s m args below meth c C => ?_)
  have C : Ctx p l s m args meth c cX9_adds RX9 3 none D cA ρ (Aw ρ) := C
  have hW : Wr ρ (Aw ρ) := ⟨hI, fun k hk => ⟨k, hk, rfl⟩⟩
  unfold f_X9_adds at h
  refine Y_sub [0, 1] (lv' := [(0, .ref (ρ k0)), (1, .int i1)]) rfl ?_
  have hJ54 : ∀ (j6 : Int32) (j7 : Int32) (sj8 : Sg), f_X9_adds_J54 k0 j6 j7 sj8 = some r → Y p l e (Rm 6 141) s m args below meth c 3 D cA ρ (Aw ρ) 0 0 (MQ below (QC D cA ρ (Aw ρ) none r τ) args s 0 0 (Aw ρ)) sj8 τ 54 [(0, .ref (ρ k0))] [.int j6, .int j7, .ref (ρ (k0 + 13))] := by
    intro j6 j7 sj8 h
    unfold f_X9_adds_J54 at h
    obtain ⟨s9, hs9, h⟩ := Option.bind_eq_some_iff.mp h
    refine Y_iast C (pc := 54) hW (q_kr_9_16 hk0) (q_lr_9_16 hk0) hs9 dX9_adds_54 ?_
    refine Y_aload_n C (pc := 55) 0 0 rfl rfl dX9_adds_55 ?_
    refine Y_getR C (pc := 56) hk0 q_fi_RX9_49 (by decide) dX9_adds_56 ?_
    refine Y_aload_n C (pc := 59) 0 0 rfl rfl dX9_adds_59 ?_
    refine Y_getI C (pc := 60) hk0 q_fi_RX9_233 dX9_adds_60 ?_
    refine Y_aload_n C (pc := 63) 0 0 rfl rfl dX9_adds_63 ?_
    obtain ⟨v10, hv10, h⟩ := Option.bind_eq_some_iff.mp h
    refine Y_callV C [] [.int (s9 k0 19), .ref (ρ (k0 + 14))] [.int v10, .int (s9 k0 19), .ref (ρ (k0 + 14))] hk0 rfl rfl (c_X9_pairs hk0 hv10) (fun _ h => h.elim) q_cw_yX9_pairs q_ml_RX9_187 ⟨q_im_yX9_pairs, q_se_yX9_pairs⟩ ⟨⟨Nat.le_of_ble_eq_true rfl, Nat.le_of_ble_eq_true rfl⟩, ⟨Nat.zero_le _, Nat.zero_le _⟩, Nat.le_of_ble_eq_true rfl⟩ rfl rfl rfl dX9_adds_64 ?_
    obtain ⟨s11, hs11, h⟩ := Option.bind_eq_some_iff.mp h
    refine Y_iast C (pc := 67) hW (q_kr_9_17 hk0) (q_lr_9_17 hk0) hs11 dX9_adds_67 ?_
    refine Y_aload_n C (pc := 68) 0 0 rfl rfl dX9_adds_68 ?_
    refine Y_getR C (pc := 69) hk0 q_fi_RX9_52 (by decide) dX9_adds_69 ?_
    refine Y_aload_n C (pc := 72) 0 0 rfl rfl dX9_adds_72 ?_
    refine Y_getI C (pc := 73) hk0 q_fi_RX9_233 dX9_adds_73 ?_
    refine Y_iconst C (pc := 76) (v := (1 : Int32)) (by decide) dX9_adds_76 ?_
    obtain ⟨s12, hs12, h⟩ := Option.bind_eq_some_iff.mp h
    refine Y_zast C (pc := 77) hW (q_kr_9_18 hk0) (q_lr_9_18 hk0) hs12 dX9_adds_77 ?_
    refine Y_aload_n C (pc := 78) 0 0 rfl rfl dX9_adds_78 ?_
    refine Y_dup C (pc := 79) rfl dX9_adds_79 ?_
    refine Y_getI C (pc := 80) hk0 q_fi_RX9_233 dX9_adds_80 ?_
    refine Y_iconst C (pc := 83) (v := (1 : Int32)) (by decide) dX9_adds_83 ?_
    refine Y_iadd C (pc := 84) dX9_adds_84 ?_
    refine Y_putI C (pc := 85) hW hk0 (q_lo_9 hk0) q_fp_RX9_233 dX9_adds_85 ?_
    cases h
    exact Y_vret C dX9_adds_88
  refine Y_iconst C (pc := 0) (v := (0 : Int32)) (by decide) dX9_adds_0 ?_
  refine Y_istore_n C (pc := 1) (lv' := [(2, .int (0 : Int32)), (0, .ref (ρ k0)), (1, .int i1)]) 2 rfl (by decide) rfl dX9_adds_1 ?_
  obtain ⟨e5, he5, h⟩ := Option.bind_eq_some_iff.mp h
  refine Y_sub [1, 2, 0] (lv' := [(0, .ref (ρ k0)), (1, .int i1), (2, .int (0 : Int32))]) rfl ?_
  refine lo_rule (f := (f_X9_adds_L2 k0)) (YS := fun s1 => Y p l e (Rm 6 141) s m args below meth c 3 D cA ρ (Aw ρ) 0 0 (MQ below (QC D cA ρ (Aw ρ) none r τ) args s 0 0 (Aw ρ)) s1.2 τ 2 [(0, .ref (ρ k0)), (1, .int i1), (2, .int s1.1)] []) (YE := fun e5 => Y p l e (Rm 6 141) s m args below meth c 3 D cA ρ (Aw ρ) 0 0 (MQ below (QC D cA ρ (Aw ρ) none r τ) args s 0 0 (Aw ρ)) e5 τ 34 [(0, .ref (ρ k0)), (1, .int i1)] []) ?_ he5 ?_
  · intro s1 x h hLp hE
    unfold f_X9_adds_L2 at h
    refine Y_iload_n C (pc := 2) 2 2 rfl rfl dX9_adds_2 ?_
    refine Y_bipush C (pc := 3) (v := (6 : Int32)) (by decide) dX9_adds_3 ?_
    refine Y_icmp_ge C (pc := 5) (tgt := 34) dX9_adds_5 (by decide) (fun c4 => ?_) (fun c4 => ?_)
    · rw [if_pos c4] at h
      have h := Option.some.inj h
      exact Y_sub [0, 1] rfl (hE _ h.symm)
    · rw [if_neg c4] at h
      refine Y_aload_n C (pc := 8) 0 0 rfl rfl dX9_adds_8 ?_
      refine Y_getR C (pc := 9) hk0 q_fi_RX9_43 (by decide) dX9_adds_9 ?_
      refine Y_bipush C (pc := 12) (v := (6 : Int32)) (by decide) dX9_adds_12 ?_
      refine Y_aload_n C (pc := 14) 0 0 rfl rfl dX9_adds_14 ?_
      refine Y_getI C (pc := 15) hk0 q_fi_RX9_233 dX9_adds_15 ?_
      refine Y_imul C (pc := 18) dX9_adds_18 ?_
      refine Y_iload_n C (pc := 19) 2 2 rfl rfl dX9_adds_19 ?_
      refine Y_iadd C (pc := 20) dX9_adds_20 ?_
      refine Y_aload_n C (pc := 21) 0 0 rfl rfl dX9_adds_21 ?_
      refine Y_getR C (pc := 22) hk0 q_fi_RX9_25 (by decide) dX9_adds_22 ?_
      refine Y_iload_n C (pc := 25) 2 2 rfl rfl dX9_adds_25 ?_
      obtain ⟨v2, hv2, h⟩ := Option.bind_eq_some_iff.mp h
      refine Y_iald C (pc := 26) (q_kr_9_8 hk0) hv2 dX9_adds_26 ?_
      obtain ⟨s3, hs3, h⟩ := Option.bind_eq_some_iff.mp h
      refine Y_iast C (pc := 27) hW (q_kr_9_15 hk0) (q_lr_9_15 hk0) hs3 dX9_adds_27 ?_
      refine Y_iinc C (pc := 28) (v := (s1.1 + 1)) (lv' := [(2, .int (s1.1 + 1)), (0, .ref (ρ k0)), (1, .int i1)]) 2 rfl (congrArg (fun z => s1.1 + z) (by decide : Int32.ofInt (1) = (1))) (by decide) rfl dX9_adds_28 ?_
      refine Y_goto C (pc := 31) (tgt := 2) dX9_adds_31 (by decide) ?_
      have h := Option.some.inj h
      exact Y_sub [1, 2, 0] rfl (hLp _ h.symm)
  · refine Y_aload_n C (pc := 34) 0 0 rfl rfl dX9_adds_34 ?_
    refine Y_getR C (pc := 35) hk0 q_fi_RX9_46 (by decide) dX9_adds_35 ?_
    refine Y_aload_n C (pc := 38) 0 0 rfl rfl dX9_adds_38 ?_
    refine Y_getI C (pc := 39) hk0 q_fi_RX9_233 dX9_adds_39 ?_
    refine Y_iload_n C (pc := 42) 1 1 rfl rfl dX9_adds_42 ?_
    refine Y_if_eq C (pc := 43) (tgt := 53) dX9_adds_43 (by decide) (fun c14 => ?_) (fun c14 => ?_)
    · rw [if_pos c14] at h
      refine Y_iconst C (pc := 53) (v := (0 : Int32)) (by decide) dX9_adds_53 ?_
      exact Y_sub [0] rfl (hJ54 _ _ _ h)
    · rw [if_neg c14] at h
      refine Y_aload_n C (pc := 46) 0 0 rfl rfl dX9_adds_46 ?_
      obtain ⟨v13, hv13, h⟩ := Option.bind_eq_some_iff.mp h
      refine Y_callV C [] [.int (e5 k0 19), .ref (ρ (k0 + 13))] [.int v13.1, .int (e5 k0 19), .ref (ρ (k0 + 13))] hk0 rfl rfl (c_X9_boundOf hI hk0 hv13) (fun _ h => h) q_cw_yX9_boundOf q_ml_RX9_206 ⟨q_im_yX9_boundOf, q_se_yX9_boundOf⟩ ⟨⟨Nat.le_of_ble_eq_true rfl, Nat.le_of_ble_eq_true rfl⟩, ⟨Nat.zero_le _, Nat.zero_le _⟩, Nat.le_of_ble_eq_true rfl⟩ rfl rfl rfl dX9_adds_47 ?_
      refine Y_goto C (pc := 50) (tgt := 54) dX9_adds_50 (by decide) ?_
      exact Y_sub [0] rfl (hJ54 _ _ _ h)

noncomputable def f_X9_looksAt_L2 (k0 : Nat) (i1 : Int32) : (Int32 × Sg) → Option ((Int32 × Sg) ⊕ (Sg)) := fun s1 => if (6 : Int32) ≤ s1.1 then (some (.inr s1.2)) else ((ald s1.2 (k0 + 12) (((6 : Int32) * i1) + s1.1)).bind fun v2 => (ast s1.2 (k0 + 6) s1.1 v2).bind fun s3 => some (.inl ((s1.1 + 1), s3)))
noncomputable def f_X9_looksAt (σ : Sg) (k0 : Nat) (i1 : Int32) : Option (Sg) := (lo (f_X9_looksAt_L2 k0 i1) ((0 : Int32), σ)).bind fun e5 => some e5
set_option maxRecDepth 100000 in
set_option maxHeartbeats 4000000 in
theorem c_X9_looksAt {l : Launch} {D : va_G} {cA ρ : Nat → Nat} {σ : Sg} {τ : Tg} {k0 : Nat} {i1 : Int32} (hI : Inj ρ) (hk0 : kd k0 = (0, 9)) {r : Sg} (h : f_X9_looksAt σ k0 i1 = some r) : Ct l yX9_looksAt cX9_looksAt 3 none 0 0 D cA ρ (Aw ρ) [.ref (ρ k0), .int i1] σ τ none r τ := by
  refine Ct_of (by decide +kernel) (Nat.le_of_ble_eq_true rfl) (fun p e s m args below meth c C => ?_)
  have C : Ctx p l s m args meth c cX9_looksAt RX9 3 none D cA ρ (Aw ρ) := C
  have hW : Wr ρ (Aw ρ) := ⟨hI, fun k hk => ⟨k, hk, rfl⟩⟩
  unfold f_X9_looksAt at h
  refine Y_sub [0, 1] (lv' := [(0, .ref (ρ k0)), (1, .int i1)]) rfl ?_
  refine Y_iconst C (pc := 0) (v := (0 : Int32)) (by decide) dX9_looksAt_0 ?_
  refine Y_istore_n C (pc := 1) (lv' := [(2, .int (0 : Int32)), (0, .ref (ρ k0)), (1, .int i1)]) 2 rfl (by decide) rfl dX9_looksAt_1 ?_
  obtain ⟨e5, he5, h⟩ := Option.bind_eq_some_iff.mp h
  refine Y_sub [1, 2, 0] (lv' := [(0, .ref (ρ k0)), (1, .int i1), (2, .int (0 : Int32))]) rfl ?_
  refine lo_rule (f := (f_X9_looksAt_L2 k0 i1)) (YS := fun s1 => Y p l e (Rm 0 0) s m args below meth c 3 D cA ρ (Aw ρ) 0 0 (MQ below (QC D cA ρ (Aw ρ) none r τ) args s 0 0 (Aw ρ)) s1.2 τ 2 [(0, .ref (ρ k0)), (1, .int i1), (2, .int s1.1)] []) (YE := fun e5 => Y p l e (Rm 0 0) s m args below meth c 3 D cA ρ (Aw ρ) 0 0 (MQ below (QC D cA ρ (Aw ρ) none r τ) args s 0 0 (Aw ρ)) e5 τ 31 [] []) ?_ he5 ?_
  · intro s1 x h hLp hE
    unfold f_X9_looksAt_L2 at h
    refine Y_iload_n C (pc := 2) 2 2 rfl rfl dX9_looksAt_2 ?_
    refine Y_bipush C (pc := 3) (v := (6 : Int32)) (by decide) dX9_looksAt_3 ?_
    refine Y_icmp_ge C (pc := 5) (tgt := 31) dX9_looksAt_5 (by decide) (fun c4 => ?_) (fun c4 => ?_)
    · rw [if_pos c4] at h
      have h := Option.some.inj h
      exact Y_sub [] rfl (hE _ h.symm)
    · rw [if_neg c4] at h
      refine Y_aload_n C (pc := 8) 0 0 rfl rfl dX9_looksAt_8 ?_
      refine Y_getR C (pc := 9) hk0 q_fi_RX9_25 (by decide) dX9_looksAt_9 ?_
      refine Y_iload_n C (pc := 12) 2 2 rfl rfl dX9_looksAt_12 ?_
      refine Y_aload_n C (pc := 13) 0 0 rfl rfl dX9_looksAt_13 ?_
      refine Y_getR C (pc := 14) hk0 q_fi_RX9_43 (by decide) dX9_looksAt_14 ?_
      refine Y_bipush C (pc := 17) (v := (6 : Int32)) (by decide) dX9_looksAt_17 ?_
      refine Y_iload_n C (pc := 19) 1 1 rfl rfl dX9_looksAt_19 ?_
      refine Y_imul C (pc := 20) dX9_looksAt_20 ?_
      refine Y_iload_n C (pc := 21) 2 2 rfl rfl dX9_looksAt_21 ?_
      refine Y_iadd C (pc := 22) dX9_looksAt_22 ?_
      obtain ⟨v2, hv2, h⟩ := Option.bind_eq_some_iff.mp h
      refine Y_iald C (pc := 23) (q_kr_9_15 hk0) hv2 dX9_looksAt_23 ?_
      obtain ⟨s3, hs3, h⟩ := Option.bind_eq_some_iff.mp h
      refine Y_iast C (pc := 24) hW (q_kr_9_8 hk0) (q_lr_9_8 hk0) hs3 dX9_looksAt_24 ?_
      refine Y_iinc C (pc := 25) (v := (s1.1 + 1)) (lv' := [(2, .int (s1.1 + 1)), (0, .ref (ρ k0)), (1, .int i1)]) 2 rfl (congrArg (fun z => s1.1 + z) (by decide : Int32.ofInt (1) = (1))) (by decide) rfl dX9_looksAt_25 ?_
      refine Y_goto C (pc := 28) (tgt := 2) dX9_looksAt_28 (by decide) ?_
      have h := Option.some.inj h
      exact Y_sub [1, 2, 0] rfl (hLp _ h.symm)
  · cases h
    exact Y_vret C dX9_looksAt_31

