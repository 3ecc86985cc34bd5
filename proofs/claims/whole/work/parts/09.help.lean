set_option maxRecDepth 100000 in
set_option maxHeartbeats 4000000 in
theorem c_L_resize {l : Launch} {D : va_G} {cA ρ : Nat → Nat} {σ : Sg} {τ : Tg} {k0 : Nat} {i1 : Int32} {ko : Nat} (hI : Inj ρ) (hk0 : kd k0 = (0, 8)) (hko : (kd ko).1 = 2) (hn9 : ko < 97) {r : Int32 × Sg × Tg} (h : f_L_resize σ τ k0 i1 ko = some r) : CtA l yL_resize cL_resize 4 (some .int) [(0, 9, 12, 13)] 7 112 D cA ρ [.ref (ρ k0), .int i1, .ref (ρ ko)] σ τ (some (.int r.1)) r.2.1 r.2.2 := by
  refine CtA_of (by decide +kernel) (Nat.le_of_ble_eq_true rfl) (fun p e s m args below meth c C X ht => ?_)
  have C : Ctx p l s m args meth c cL_resize RL 4 (some .int) D cA ρ (Ax ρ s.heap.size) := C
  have hW : Wr ρ (Ax ρ s.heap.size) := ⟨hI, fun k hk => Or.inl ⟨k, hk, rfl⟩⟩
  unfold f_L_resize at h
  obtain ⟨v, hv, h⟩ := Option.bind_eq_some_iff.mp h
  refine Y_sub [0, 1, 2] (lv' := [(0, .ref (ρ k0)), (1, .int i1), (2, .ref (ρ ko))]) rfl ?_
  refine Y_aload_n C (pc := 0) 2 2 rfl rfl dL_resize_0 ?_
  refine Y_iconst C (pc := 1) (v := (0 : Int32)) (by decide) dL_resize_1 ?_
  refine Y_aload_n C (pc := 2) 0 0 rfl rfl dL_resize_2 ?_
  refine Y_iload_n C (pc := 3) 1 1 rfl rfl dL_resize_3 ?_
  rcases v with n | w
  · simp only [Sum.elim_inl] at h
    by_cases e0 : n.1 = 0
    · rw [if_pos e0] at h
      cases h
      have tc := t_X8_resize (l := l) (D := D) (cA := cA) (ρ := ρ) (τ := τ) hI hk0 hv
      rw [e0] at tc
      refine Y_callVC C X ht (pc := 4) [.int i1] [.int (0 : Int32), .ref (ρ ko)] hk0 rfl rfl tc q_cw_yX8_resize q_ml_RL_7 ⟨q_im_yX8_resize, q_se_yX8_resize⟩ ⟨⟨Nat.le_of_ble_eq_true rfl, Nat.le_of_ble_eq_true rfl⟩, ⟨Nat.le_of_ble_eq_true rfl, Nat.le_of_ble_eq_true rfl⟩, Nat.le_of_ble_eq_true rfl⟩ rfl rfl dL_resize_4 [] ⟨0, 9, 12, 13⟩ [] rfl (fun z hz => nomatch hz) (by decide +kernel) (by decide +kernel) q_cl_RL_13 q_ca_0 (fun q => ?_)
      refine Y_astore_n C (pc := 12) (lv' := [(3, .ref q), (0, .ref (ρ k0)), (1, .int i1), (2, .ref (ρ ko))]) 3 rfl (by decide) rfl dL_resize_12 ?_
      refine Y_iconst C (pc := 13) (v := (1 : Int32)) (by decide) dL_resize_13 ?_
      exact Y_iret C dL_resize_14
    rw [if_neg e0] at h
    cases h
  · simp only [Sum.elim_inr] at h
    obtain ⟨t, ht9, h⟩ := Option.bind_eq_some_iff.mp h
    cases h
    refine Y_callV C (pc := 4) [.int i1] [.int (0 : Int32), .ref (ρ ko)] (.int w.1 :: [.int (0 : Int32), .ref (ρ ko)]) hk0 rfl rfl (c_X8_resize hI hk0 hv) (fun _ h => Or.inl h) q_cw_yX8_resize q_ml_RL_7 ⟨q_im_yX8_resize, q_se_yX8_resize⟩ ⟨⟨Nat.le_of_ble_eq_true rfl, Nat.le_of_ble_eq_true rfl⟩, ⟨Nat.zero_le _, Nat.zero_le _⟩, Nat.le_of_ble_eq_true rfl⟩ rfl rfl rfl dL_resize_4 ?_
    refine Y_widen (k := 1) (n := 6) (Nat.le_of_ble_eq_true rfl) (Nat.le_of_ble_eq_true rfl) ?_
    refine Y_i2l C (pc := 7) dL_resize_7 ?_
    refine Y_last C (pc := 8) hW hko hn9 ht9 dL_resize_8 ?_
    refine Y_goto C (pc := 9) (tgt := 15) dL_resize_9 (by decide) ?_
    refine Y_iconst C (pc := 15) (v := (0 : Int32)) (by decide) dL_resize_15 ?_
    exact Y_iret C dL_resize_16

set_option maxRecDepth 100000 in
set_option maxHeartbeats 4000000 in
theorem c_L_set {l : Launch} {D : va_G} {cA ρ : Nat → Nat} {σ : Sg} {τ : Tg} {k0 : Nat} {i1 : Int32} {i2 : Int32} {i3 : Int32} {i4 : Int32} {ko : Nat} (hI : Inj ρ) (hk0 : kd k0 = (0, 8)) (hko : (kd ko).1 = 2) (hn9 : ko < 97) {r : Int32 × Sg × Tg} (h : f_L_set σ τ k0 i1 i2 i3 i4 ko = some r) : CtA l yL_set cL_set 7 (some .int) [(0, 14, 17, 19), (0, 14, 21, 13)] 8 136 D cA ρ [.ref (ρ k0), .int i1, .int i2, .int i3, .int i4, .ref (ρ ko)] σ τ (some (.int r.1)) r.2.1 r.2.2 := by
  refine CtA_of (by decide +kernel) (Nat.le_of_ble_eq_true rfl) (fun p e s m args below meth c C X ht => ?_)
  have C : Ctx p l s m args meth c cL_set RL 7 (some .int) D cA ρ (Ax ρ s.heap.size) := C
  have hW : Wr ρ (Ax ρ s.heap.size) := ⟨hI, fun k hk => Or.inl ⟨k, hk, rfl⟩⟩
  unfold f_L_set at h
  obtain ⟨v, hv, h⟩ := Option.bind_eq_some_iff.mp h
  refine Y_sub [0, 1, 2, 3, 4, 5] (lv' := [(0, .ref (ρ k0)), (1, .int i1), (2, .int i2), (3, .int i3), (4, .int i4), (5, .ref (ρ ko))]) rfl ?_
  refine Y_aload C (pc := 0) 5 rfl dL_set_0 ?_
  refine Y_iconst C (pc := 2) (v := (0 : Int32)) (by decide) dL_set_2 ?_
  refine Y_aload_n C (pc := 3) 0 0 rfl rfl dL_set_3 ?_
  refine Y_iload_n C (pc := 4) 1 1 rfl rfl dL_set_4 ?_
  refine Y_iload_n C (pc := 5) 2 2 rfl rfl dL_set_5 ?_
  refine Y_iload_n C (pc := 6) 3 3 rfl rfl dL_set_6 ?_
  refine Y_iload C (pc := 7) 4 rfl dL_set_7 ?_
  rcases v with n | w
  · simp only [Sum.elim_inl] at h
    by_cases e0 : n.1 = 2
    · rw [if_pos e0] at h
      cases h
      have tc := t_X8_set (l := l) (D := D) (cA := cA) (ρ := ρ) (τ := τ) hI hk0 hv
      rw [e0] at tc
      refine Y_callVC C X ht (pc := 9) [.int i1, .int i2, .int i3, .int i4] [.int (0 : Int32), .ref (ρ ko)] hk0 rfl rfl tc q_cw_yX8_set q_ml_RL_15 ⟨q_im_yX8_set, q_se_yX8_set⟩ ⟨⟨Nat.le_of_ble_eq_true rfl, Nat.le_of_ble_eq_true rfl⟩, ⟨Nat.le_of_ble_eq_true rfl, Nat.le_of_ble_eq_true rfl⟩, Nat.le_of_ble_eq_true rfl⟩ rfl rfl dL_set_9 [] ⟨0, 14, 17, 19⟩ [⟨0, 14, 21, 13⟩] rfl (fun z hz => nomatch hz) (by decide +kernel) (by decide +kernel) q_cl_RL_19 q_ca_2 (fun q => ?_)
      refine Y_astore C (pc := 17) (lv' := [(6, .ref q), (0, .ref (ρ k0)), (1, .int i1), (2, .int i2), (3, .int i3), (4, .int i4), (5, .ref (ρ ko))]) (by decide) rfl dL_set_17 ?_
      refine Y_iconst C (pc := 19) (v := (1 : Int32)) (by decide) dL_set_19 ?_
      exact Y_iret C dL_set_20
    rw [if_neg e0] at h
    by_cases e1 : n.1 = 0
    · rw [if_pos e1] at h
      cases h
      have tc := t_X8_set (l := l) (D := D) (cA := cA) (ρ := ρ) (τ := τ) hI hk0 hv
      rw [e1] at tc
      refine Y_callVC C X ht (pc := 9) [.int i1, .int i2, .int i3, .int i4] [.int (0 : Int32), .ref (ρ ko)] hk0 rfl rfl tc q_cw_yX8_set q_ml_RL_15 ⟨q_im_yX8_set, q_se_yX8_set⟩ ⟨⟨Nat.le_of_ble_eq_true rfl, Nat.le_of_ble_eq_true rfl⟩, ⟨Nat.le_of_ble_eq_true rfl, Nat.le_of_ble_eq_true rfl⟩, Nat.le_of_ble_eq_true rfl⟩ rfl rfl dL_set_9 [⟨0, 14, 17, 19⟩] ⟨0, 14, 21, 13⟩ [] rfl (fun z hz => by rw [List.mem_singleton.mp hz]; exact ⟨by decide +kernel, xn 2, q_cl_RL_19, by decide +kernel⟩) (by decide +kernel) (by decide +kernel) q_cl_RL_13 q_ca_0 (fun q => ?_)
      refine Y_astore C (pc := 21) (lv' := [(6, .ref q), (0, .ref (ρ k0)), (1, .int i1), (2, .int i2), (3, .int i3), (4, .int i4), (5, .ref (ρ ko))]) (by decide) rfl dL_set_21 ?_
      refine Y_iconst C (pc := 23) (v := (2 : Int32)) (by decide) dL_set_23 ?_
      exact Y_iret C dL_set_24
    rw [if_neg e1] at h
    cases h
  · simp only [Sum.elim_inr] at h
    obtain ⟨t, ht9, h⟩ := Option.bind_eq_some_iff.mp h
    cases h
    refine Y_callV C (pc := 9) [.int i1, .int i2, .int i3, .int i4] [.int (0 : Int32), .ref (ρ ko)] (.int w.1 :: [.int (0 : Int32), .ref (ρ ko)]) hk0 rfl rfl (c_X8_set hI hk0 hv) (fun _ h => Or.inl h) q_cw_yX8_set q_ml_RL_15 ⟨q_im_yX8_set, q_se_yX8_set⟩ ⟨⟨Nat.le_of_ble_eq_true rfl, Nat.le_of_ble_eq_true rfl⟩, ⟨Nat.zero_le _, Nat.zero_le _⟩, Nat.le_of_ble_eq_true rfl⟩ rfl rfl rfl dL_set_9 ?_
    refine Y_widen (k := 1) (n := 6) (Nat.le_of_ble_eq_true rfl) (Nat.le_of_ble_eq_true rfl) ?_
    refine Y_i2l C (pc := 12) dL_set_12 ?_
    refine Y_last C (pc := 13) hW hko hn9 ht9 dL_set_13 ?_
    refine Y_goto C (pc := 14) (tgt := 25) dL_set_14 (by decide) ?_
    refine Y_iconst C (pc := 25) (v := (0 : Int32)) (by decide) dL_set_25 ?_
    exact Y_iret C dL_set_26

set_option maxRecDepth 100000 in
set_option maxHeartbeats 4000000 in
theorem c_L_get {l : Launch} {D : va_G} {cA ρ : Nat → Nat} {σ : Sg} {τ : Tg} {k0 : Nat} {i1 : Int32} {i2 : Int32} {i3 : Int32} {ko : Nat} (hI : Inj ρ) (hk0 : kd k0 = (0, 8)) (hko : (kd ko).1 = 2) (hn9 : ko < 97) {r : Int32 × Sg × Tg} (h : f_L_get σ τ k0 i1 i2 i3 ko = some r) : CtA l yL_get cL_get 6 (some .int) [(0, 12, 15, 19), (0, 12, 19, 13)] 8 134 D cA ρ [.ref (ρ k0), .int i1, .int i2, .int i3, .ref (ρ ko)] σ τ (some (.int r.1)) r.2.1 r.2.2 := by
  refine CtA_of (by decide +kernel) (Nat.le_of_ble_eq_true rfl) (fun p e s m args below meth c C X ht => ?_)
  have C : Ctx p l s m args meth c cL_get RL 6 (some .int) D cA ρ (Ax ρ s.heap.size) := C
  have hW : Wr ρ (Ax ρ s.heap.size) := ⟨hI, fun k hk => Or.inl ⟨k, hk, rfl⟩⟩
  unfold f_L_get at h
  obtain ⟨v, hv, h⟩ := Option.bind_eq_some_iff.mp h
  refine Y_sub [0, 1, 2, 3, 4] (lv' := [(0, .ref (ρ k0)), (1, .int i1), (2, .int i2), (3, .int i3), (4, .ref (ρ ko))]) rfl ?_
  refine Y_aload C (pc := 0) 4 rfl dL_get_0 ?_
  refine Y_iconst C (pc := 2) (v := (0 : Int32)) (by decide) dL_get_2 ?_
  refine Y_aload_n C (pc := 3) 0 0 rfl rfl dL_get_3 ?_
  refine Y_iload_n C (pc := 4) 1 1 rfl rfl dL_get_4 ?_
  refine Y_iload_n C (pc := 5) 2 2 rfl rfl dL_get_5 ?_
  refine Y_iload_n C (pc := 6) 3 3 rfl rfl dL_get_6 ?_
  rcases v with n | w
  · simp only [Sum.elim_inl] at h
    by_cases e0 : n = 2
    · rw [if_pos e0] at h
      cases h
      have tc := t_X8_get (l := l) (D := D) (cA := cA) (ρ := ρ) (τ := τ) hk0 hv
      rw [e0] at tc
      refine Y_callVC C X ht (pc := 7) [.int i1, .int i2, .int i3] [.int (0 : Int32), .ref (ρ ko)] hk0 rfl rfl tc q_cw_yX8_get q_ml_RL_21 ⟨q_im_yX8_get, q_se_yX8_get⟩ ⟨⟨Nat.le_of_ble_eq_true rfl, Nat.le_of_ble_eq_true rfl⟩, ⟨Nat.le_of_ble_eq_true rfl, Nat.le_of_ble_eq_true rfl⟩, Nat.le_of_ble_eq_true rfl⟩ rfl rfl dL_get_7 [] ⟨0, 12, 15, 19⟩ [⟨0, 12, 19, 13⟩] rfl (fun z hz => nomatch hz) (by decide +kernel) (by decide +kernel) q_cl_RL_19 q_ca_2 (fun q => ?_)
      refine Y_astore C (pc := 15) (lv' := [(5, .ref q), (0, .ref (ρ k0)), (1, .int i1), (2, .int i2), (3, .int i3), (4, .ref (ρ ko))]) (by decide) rfl dL_get_15 ?_
      refine Y_iconst C (pc := 17) (v := (1 : Int32)) (by decide) dL_get_17 ?_
      exact Y_iret C dL_get_18
    rw [if_neg e0] at h
    by_cases e1 : n = 0
    · rw [if_pos e1] at h
      cases h
      have tc := t_X8_get (l := l) (D := D) (cA := cA) (ρ := ρ) (τ := τ) hk0 hv
      rw [e1] at tc
      refine Y_callVC C X ht (pc := 7) [.int i1, .int i2, .int i3] [.int (0 : Int32), .ref (ρ ko)] hk0 rfl rfl tc q_cw_yX8_get q_ml_RL_21 ⟨q_im_yX8_get, q_se_yX8_get⟩ ⟨⟨Nat.le_of_ble_eq_true rfl, Nat.le_of_ble_eq_true rfl⟩, ⟨Nat.le_of_ble_eq_true rfl, Nat.le_of_ble_eq_true rfl⟩, Nat.le_of_ble_eq_true rfl⟩ rfl rfl dL_get_7 [⟨0, 12, 15, 19⟩] ⟨0, 12, 19, 13⟩ [] rfl (fun z hz => by rw [List.mem_singleton.mp hz]; exact ⟨by decide +kernel, xn 2, q_cl_RL_19, by decide +kernel⟩) (by decide +kernel) (by decide +kernel) q_cl_RL_13 q_ca_0 (fun q => ?_)
      refine Y_astore C (pc := 19) (lv' := [(5, .ref q), (0, .ref (ρ k0)), (1, .int i1), (2, .int i2), (3, .int i3), (4, .ref (ρ ko))]) (by decide) rfl dL_get_19 ?_
      refine Y_iconst C (pc := 21) (v := (2 : Int32)) (by decide) dL_get_21 ?_
      exact Y_iret C dL_get_22
    rw [if_neg e1] at h
    cases h
  · simp only [Sum.elim_inr] at h
    obtain ⟨t, ht9, h⟩ := Option.bind_eq_some_iff.mp h
    cases h
    refine Y_callV C (pc := 7) [.int i1, .int i2, .int i3] [.int (0 : Int32), .ref (ρ ko)] (.int w :: [.int (0 : Int32), .ref (ρ ko)]) hk0 rfl rfl (c_X8_get hk0 hv) (fun _ h => h.elim) q_cw_yX8_get q_ml_RL_21 ⟨q_im_yX8_get, q_se_yX8_get⟩ ⟨⟨Nat.le_of_ble_eq_true rfl, Nat.le_of_ble_eq_true rfl⟩, ⟨Nat.zero_le _, Nat.zero_le _⟩, Nat.le_of_ble_eq_true rfl⟩ rfl rfl rfl dL_get_7 ?_
    refine Y_widen (k := 1) (n := 6) (Nat.le_of_ble_eq_true rfl) (Nat.le_of_ble_eq_true rfl) ?_
    refine Y_i2l C (pc := 10) dL_get_10 ?_
    refine Y_last C (pc := 11) hW hko hn9 ht9 dL_get_11 ?_
    refine Y_goto C (pc := 12) (tgt := 23) dL_get_12 (by decide) ?_
    refine Y_iconst C (pc := 23) (v := (0 : Int32)) (by decide) dL_get_23 ?_
    exact Y_iret C dL_get_24

set_option maxRecDepth 100000 in
set_option maxHeartbeats 4000000 in
theorem c_L_fill {l : Launch} {D : va_G} {cA ρ : Nat → Nat} {σ : Sg} {τ : Tg} {k0 : Nat} {i1 : Int32} {i2 : Int32} {i3 : Int32} {i4 : Int32} {ko : Nat} (hI : Inj ρ) (hk0 : kd k0 = (0, 8)) (hko : (kd ko).1 = 2) (hn9 : ko < 97) {r : Int32 × Sg × Tg} (h : f_L_fill σ τ k0 i1 i2 i3 i4 ko = some r) : CtA l yL_fill cL_fill 7 (some .int) [(0, 14, 17, 13)] 8 135 D cA ρ [.ref (ρ k0), .int i1, .int i2, .int i3, .int i4, .ref (ρ ko)] σ τ (some (.int r.1)) r.2.1 r.2.2 := by
  refine CtA_of (by decide +kernel) (Nat.le_of_ble_eq_true rfl) (fun p e s m args below meth c C X ht => ?_)
  have C : Ctx p l s m args meth c cL_fill RL 7 (some .int) D cA ρ (Ax ρ s.heap.size) := C
  have hW : Wr ρ (Ax ρ s.heap.size) := ⟨hI, fun k hk => Or.inl ⟨k, hk, rfl⟩⟩
  unfold f_L_fill at h
  obtain ⟨v, hv, h⟩ := Option.bind_eq_some_iff.mp h
  refine Y_sub [0, 1, 2, 3, 4, 5] (lv' := [(0, .ref (ρ k0)), (1, .int i1), (2, .int i2), (3, .int i3), (4, .int i4), (5, .ref (ρ ko))]) rfl ?_
  refine Y_aload C (pc := 0) 5 rfl dL_fill_0 ?_
  refine Y_iconst C (pc := 2) (v := (0 : Int32)) (by decide) dL_fill_2 ?_
  refine Y_aload_n C (pc := 3) 0 0 rfl rfl dL_fill_3 ?_
  refine Y_iload_n C (pc := 4) 1 1 rfl rfl dL_fill_4 ?_
  refine Y_iload_n C (pc := 5) 2 2 rfl rfl dL_fill_5 ?_
  refine Y_iload_n C (pc := 6) 3 3 rfl rfl dL_fill_6 ?_
  refine Y_iload C (pc := 7) 4 rfl dL_fill_7 ?_
  rcases v with n | w
  · simp only [Sum.elim_inl] at h
    by_cases e0 : n.1 = 0
    · rw [if_pos e0] at h
      cases h
      have tc := t_X8_fill (l := l) (D := D) (cA := cA) (ρ := ρ) (τ := τ) hI hk0 hv
      rw [e0] at tc
      refine Y_callVC C X ht (pc := 9) [.int i1, .int i2, .int i3, .int i4] [.int (0 : Int32), .ref (ρ ko)] hk0 rfl rfl tc q_cw_yX8_fill q_ml_RL_25 ⟨q_im_yX8_fill, q_se_yX8_fill⟩ ⟨⟨Nat.le_of_ble_eq_true rfl, Nat.le_of_ble_eq_true rfl⟩, ⟨Nat.le_of_ble_eq_true rfl, Nat.le_of_ble_eq_true rfl⟩, Nat.le_of_ble_eq_true rfl⟩ rfl rfl dL_fill_9 [] ⟨0, 14, 17, 13⟩ [] rfl (fun z hz => nomatch hz) (by decide +kernel) (by decide +kernel) q_cl_RL_13 q_ca_0 (fun q => ?_)
      refine Y_astore C (pc := 17) (lv' := [(6, .ref q), (0, .ref (ρ k0)), (1, .int i1), (2, .int i2), (3, .int i3), (4, .int i4), (5, .ref (ρ ko))]) (by decide) rfl dL_fill_17 ?_
      refine Y_iconst C (pc := 19) (v := (1 : Int32)) (by decide) dL_fill_19 ?_
      exact Y_iret C dL_fill_20
    rw [if_neg e0] at h
    cases h
  · simp only [Sum.elim_inr] at h
    obtain ⟨t, ht9, h⟩ := Option.bind_eq_some_iff.mp h
    cases h
    refine Y_callV C (pc := 9) [.int i1, .int i2, .int i3, .int i4] [.int (0 : Int32), .ref (ρ ko)] (.int w.1 :: [.int (0 : Int32), .ref (ρ ko)]) hk0 rfl rfl (c_X8_fill hI hk0 hv) (fun _ h => Or.inl h) q_cw_yX8_fill q_ml_RL_25 ⟨q_im_yX8_fill, q_se_yX8_fill⟩ ⟨⟨Nat.le_of_ble_eq_true rfl, Nat.le_of_ble_eq_true rfl⟩, ⟨Nat.zero_le _, Nat.zero_le _⟩, Nat.le_of_ble_eq_true rfl⟩ rfl rfl rfl dL_fill_9 ?_
    refine Y_widen (k := 1) (n := 6) (Nat.le_of_ble_eq_true rfl) (Nat.le_of_ble_eq_true rfl) ?_
    refine Y_i2l C (pc := 12) dL_fill_12 ?_
    refine Y_last C (pc := 13) hW hko hn9 ht9 dL_fill_13 ?_
    refine Y_goto C (pc := 14) (tgt := 21) dL_fill_14 (by decide) ?_
    refine Y_iconst C (pc := 21) (v := (0 : Int32)) (by decide) dL_fill_21 ?_
    exact Y_iret C dL_fill_22

set_option maxRecDepth 100000 in
set_option maxHeartbeats 4000000 in
theorem c_L_location {l : Launch} {D : va_G} {cA ρ : Nat → Nat} {σ : Sg} {τ : Tg} {k0 : Nat} {i1 : Int32} {ko : Nat} (hI : Inj ρ) (hk0 : kd k0 = (0, 8)) (hko : (kd ko).1 = 2) (hn9 : ko < 97) {r : Int32 × Sg × Tg} (h : f_L_location σ τ k0 i1 ko = some r) : CtA l yL_location cL_location 4 (some .int) [(0, 9, 12, 19)] 8 132 D cA ρ [.ref (ρ k0), .int i1, .ref (ρ ko)] σ τ (some (.int r.1)) r.2.1 r.2.2 := by
  refine CtA_of (by decide +kernel) (Nat.le_of_ble_eq_true rfl) (fun p e s m args below meth c C X ht => ?_)
  have C : Ctx p l s m args meth c cL_location RL 4 (some .int) D cA ρ (Ax ρ s.heap.size) := C
  have hW : Wr ρ (Ax ρ s.heap.size) := ⟨hI, fun k hk => Or.inl ⟨k, hk, rfl⟩⟩
  unfold f_L_location at h
  obtain ⟨v, hv, h⟩ := Option.bind_eq_some_iff.mp h
  refine Y_sub [0, 1, 2] (lv' := [(0, .ref (ρ k0)), (1, .int i1), (2, .ref (ρ ko))]) rfl ?_
  refine Y_aload_n C (pc := 0) 2 2 rfl rfl dL_location_0 ?_
  refine Y_iconst C (pc := 1) (v := (0 : Int32)) (by decide) dL_location_1 ?_
  refine Y_aload_n C (pc := 2) 0 0 rfl rfl dL_location_2 ?_
  refine Y_iload_n C (pc := 3) 1 1 rfl rfl dL_location_3 ?_
  rcases v with n | w
  · simp only [Sum.elim_inl] at h
    by_cases e0 : n = 2
    · rw [if_pos e0] at h
      cases h
      have tc := t_X8_location (l := l) (D := D) (cA := cA) (ρ := ρ) (τ := τ) hk0 hv
      rw [e0] at tc
      refine Y_callVC C X ht (pc := 4) [.int i1] [.int (0 : Int32), .ref (ρ ko)] hk0 rfl rfl tc q_cw_yX8_location q_ml_RL_29 ⟨q_im_yX8_location, q_se_yX8_location⟩ ⟨⟨Nat.le_of_ble_eq_true rfl, Nat.le_of_ble_eq_true rfl⟩, ⟨Nat.le_of_ble_eq_true rfl, Nat.le_of_ble_eq_true rfl⟩, Nat.le_of_ble_eq_true rfl⟩ rfl rfl dL_location_4 [] ⟨0, 9, 12, 19⟩ [] rfl (fun z hz => nomatch hz) (by decide +kernel) (by decide +kernel) q_cl_RL_19 q_ca_2 (fun q => ?_)
      refine Y_astore_n C (pc := 12) (lv' := [(3, .ref q), (0, .ref (ρ k0)), (1, .int i1), (2, .ref (ρ ko))]) 3 rfl (by decide) rfl dL_location_12 ?_
      refine Y_iconst C (pc := 13) (v := (1 : Int32)) (by decide) dL_location_13 ?_
      exact Y_iret C dL_location_14
    rw [if_neg e0] at h
    cases h
  · simp only [Sum.elim_inr] at h
    obtain ⟨t, ht9, h⟩ := Option.bind_eq_some_iff.mp h
    cases h
    refine Y_callV C (pc := 4) [.int i1] [.int (0 : Int32), .ref (ρ ko)] (.int w :: [.int (0 : Int32), .ref (ρ ko)]) hk0 rfl rfl (c_X8_location hk0 hv) (fun _ h => h.elim) q_cw_yX8_location q_ml_RL_29 ⟨q_im_yX8_location, q_se_yX8_location⟩ ⟨⟨Nat.le_of_ble_eq_true rfl, Nat.le_of_ble_eq_true rfl⟩, ⟨Nat.zero_le _, Nat.zero_le _⟩, Nat.le_of_ble_eq_true rfl⟩ rfl rfl rfl dL_location_4 ?_
    refine Y_widen (k := 1) (n := 6) (Nat.le_of_ble_eq_true rfl) (Nat.le_of_ble_eq_true rfl) ?_
    refine Y_i2l C (pc := 7) dL_location_7 ?_
    refine Y_last C (pc := 8) hW hko hn9 ht9 dL_location_8 ?_
    refine Y_goto C (pc := 9) (tgt := 15) dL_location_9 (by decide) ?_
    refine Y_iconst C (pc := 15) (v := (0 : Int32)) (by decide) dL_location_15 ?_
    exact Y_iret C dL_location_16

set_option maxRecDepth 100000 in
set_option maxHeartbeats 4000000 in
theorem c_L_choose {l : Launch} {D : va_G} {cA ρ : Nat → Nat} {σ : Sg} {τ : Tg} {k0 : Nat} {i1 : Int32} {ko : Nat} (hI : Inj ρ) (hk0 : kd k0 = (0, 8)) (hko : (kd ko).1 = 2) (hn9 : ko < 97) {r : Int32 × Sg × Tg} (h : f_L_choose σ τ k0 i1 ko = some r) : CtA l yL_choose cL_choose 4 (some .int) [(0, 9, 12, 19)] 7 111 D cA ρ [.ref (ρ k0), .int i1, .ref (ρ ko)] σ τ (some (.int r.1)) r.2.1 r.2.2 := by
  refine CtA_of (by decide +kernel) (Nat.le_of_ble_eq_true rfl) (fun p e s m args below meth c C X ht => ?_)
  have C : Ctx p l s m args meth c cL_choose RL 4 (some .int) D cA ρ (Ax ρ s.heap.size) := C
  have hW : Wr ρ (Ax ρ s.heap.size) := ⟨hI, fun k hk => Or.inl ⟨k, hk, rfl⟩⟩
  unfold f_L_choose at h
  obtain ⟨v, hv, h⟩ := Option.bind_eq_some_iff.mp h
  refine Y_sub [0, 1, 2] (lv' := [(0, .ref (ρ k0)), (1, .int i1), (2, .ref (ρ ko))]) rfl ?_
  refine Y_aload_n C (pc := 0) 2 2 rfl rfl dL_choose_0 ?_
  refine Y_iconst C (pc := 1) (v := (0 : Int32)) (by decide) dL_choose_1 ?_
  refine Y_aload_n C (pc := 2) 0 0 rfl rfl dL_choose_2 ?_
  refine Y_iload_n C (pc := 3) 1 1 rfl rfl dL_choose_3 ?_
  rcases v with n | w
  · simp only [Sum.elim_inl] at h
    by_cases e0 : n.1 = 2
    · rw [if_pos e0] at h
      cases h
      have tc := t_X8_choose (l := l) (D := D) (cA := cA) (ρ := ρ) (τ := τ) hI hk0 hv
      rw [e0] at tc
      refine Y_callVC C X ht (pc := 4) [.int i1] [.int (0 : Int32), .ref (ρ ko)] hk0 rfl rfl tc q_cw_yX8_choose q_ml_RL_32 ⟨q_im_yX8_choose, q_se_yX8_choose⟩ ⟨⟨Nat.le_of_ble_eq_true rfl, Nat.le_of_ble_eq_true rfl⟩, ⟨Nat.le_of_ble_eq_true rfl, Nat.le_of_ble_eq_true rfl⟩, Nat.le_of_ble_eq_true rfl⟩ rfl rfl dL_choose_4 [] ⟨0, 9, 12, 19⟩ [] rfl (fun z hz => nomatch hz) (by decide +kernel) (by decide +kernel) q_cl_RL_19 q_ca_2 (fun q => ?_)
      refine Y_astore_n C (pc := 12) (lv' := [(3, .ref q), (0, .ref (ρ k0)), (1, .int i1), (2, .ref (ρ ko))]) 3 rfl (by decide) rfl dL_choose_12 ?_
      refine Y_iconst C (pc := 13) (v := (1 : Int32)) (by decide) dL_choose_13 ?_
      exact Y_iret C dL_choose_14
    rw [if_neg e0] at h
    cases h
  · simp only [Sum.elim_inr] at h
    obtain ⟨t, ht9, h⟩ := Option.bind_eq_some_iff.mp h
    cases h
    refine Y_callV C (pc := 4) [.int i1] [.int (0 : Int32), .ref (ρ ko)] (.int w.1 :: [.int (0 : Int32), .ref (ρ ko)]) hk0 rfl rfl (c_X8_choose hI hk0 hv) (fun _ h => Or.inl h) q_cw_yX8_choose q_ml_RL_32 ⟨q_im_yX8_choose, q_se_yX8_choose⟩ ⟨⟨Nat.le_of_ble_eq_true rfl, Nat.le_of_ble_eq_true rfl⟩, ⟨Nat.zero_le _, Nat.zero_le _⟩, Nat.le_of_ble_eq_true rfl⟩ rfl rfl rfl dL_choose_4 ?_
    refine Y_widen (k := 1) (n := 6) (Nat.le_of_ble_eq_true rfl) (Nat.le_of_ble_eq_true rfl) ?_
    refine Y_i2l C (pc := 7) dL_choose_7 ?_
    refine Y_last C (pc := 8) hW hko hn9 ht9 dL_choose_8 ?_
    refine Y_goto C (pc := 9) (tgt := 15) dL_choose_9 (by decide) ?_
    refine Y_iconst C (pc := 15) (v := (0 : Int32)) (by decide) dL_choose_15 ?_
    exact Y_iret C dL_choose_16

set_option maxRecDepth 100000 in
set_option maxHeartbeats 4000000 in
theorem c_L_exchange {l : Launch} {D : va_G} {cA ρ : Nat → Nat} {σ : Sg} {τ : Tg} {k0 : Nat} {i1 : Int32} {i2 : Int32} {ko : Nat} (hI : Inj ρ) (hk0 : kd k0 = (0, 8)) (hko : (kd ko).1 = 2) (hn9 : ko < 97) {r : Int32 × Sg × Tg} (h : f_L_exchange σ τ k0 i1 i2 ko = some r) : CtA l yL_exchange cL_exchange 5 (some .int) [(0, 10, 13, 19)] 8 134 D cA ρ [.ref (ρ k0), .int i1, .int i2, .ref (ρ ko)] σ τ (some (.int r.1)) r.2.1 r.2.2 := by
  refine CtA_of (by decide +kernel) (Nat.le_of_ble_eq_true rfl) (fun p e s m args below meth c C X ht => ?_)
  have C : Ctx p l s m args meth c cL_exchange RL 5 (some .int) D cA ρ (Ax ρ s.heap.size) := C
  have hW : Wr ρ (Ax ρ s.heap.size) := ⟨hI, fun k hk => Or.inl ⟨k, hk, rfl⟩⟩
  unfold f_L_exchange at h
  obtain ⟨v, hv, h⟩ := Option.bind_eq_some_iff.mp h
  refine Y_sub [0, 1, 2, 3] (lv' := [(0, .ref (ρ k0)), (1, .int i1), (2, .int i2), (3, .ref (ρ ko))]) rfl ?_
  refine Y_aload_n C (pc := 0) 3 3 rfl rfl dL_exchange_0 ?_
  refine Y_iconst C (pc := 1) (v := (0 : Int32)) (by decide) dL_exchange_1 ?_
  refine Y_aload_n C (pc := 2) 0 0 rfl rfl dL_exchange_2 ?_
  refine Y_iload_n C (pc := 3) 1 1 rfl rfl dL_exchange_3 ?_
  refine Y_iload_n C (pc := 4) 2 2 rfl rfl dL_exchange_4 ?_
  rcases v with n | w
  · simp only [Sum.elim_inl] at h
    by_cases e0 : n.1 = 2
    · rw [if_pos e0] at h
      cases h
      have tc := t_X8_exchange (l := l) (D := D) (cA := cA) (ρ := ρ) (τ := τ) hI hk0 hv
      rw [e0] at tc
      refine Y_callVC C X ht (pc := 5) [.int i1, .int i2] [.int (0 : Int32), .ref (ρ ko)] hk0 rfl rfl tc q_cw_yX8_exchange q_ml_RL_35 ⟨q_im_yX8_exchange, q_se_yX8_exchange⟩ ⟨⟨Nat.le_of_ble_eq_true rfl, Nat.le_of_ble_eq_true rfl⟩, ⟨Nat.le_of_ble_eq_true rfl, Nat.le_of_ble_eq_true rfl⟩, Nat.le_of_ble_eq_true rfl⟩ rfl rfl dL_exchange_5 [] ⟨0, 10, 13, 19⟩ [] rfl (fun z hz => nomatch hz) (by decide +kernel) (by decide +kernel) q_cl_RL_19 q_ca_2 (fun q => ?_)
      refine Y_astore C (pc := 13) (lv' := [(4, .ref q), (0, .ref (ρ k0)), (1, .int i1), (2, .int i2), (3, .ref (ρ ko))]) (by decide) rfl dL_exchange_13 ?_
      refine Y_iconst C (pc := 15) (v := (1 : Int32)) (by decide) dL_exchange_15 ?_
      exact Y_iret C dL_exchange_16
    rw [if_neg e0] at h
    cases h
  · simp only [Sum.elim_inr] at h
    obtain ⟨t, ht9, h⟩ := Option.bind_eq_some_iff.mp h
    cases h
    refine Y_callV C (pc := 5) [.int i1, .int i2] [.int (0 : Int32), .ref (ρ ko)] (.int w.1 :: [.int (0 : Int32), .ref (ρ ko)]) hk0 rfl rfl (c_X8_exchange hI hk0 hv) (fun _ h => Or.inl h) q_cw_yX8_exchange q_ml_RL_35 ⟨q_im_yX8_exchange, q_se_yX8_exchange⟩ ⟨⟨Nat.le_of_ble_eq_true rfl, Nat.le_of_ble_eq_true rfl⟩, ⟨Nat.zero_le _, Nat.zero_le _⟩, Nat.le_of_ble_eq_true rfl⟩ rfl rfl rfl dL_exchange_5 ?_
    refine Y_widen (k := 1) (n := 6) (Nat.le_of_ble_eq_true rfl) (Nat.le_of_ble_eq_true rfl) ?_
    refine Y_i2l C (pc := 8) dL_exchange_8 ?_
    refine Y_last C (pc := 9) hW hko hn9 ht9 dL_exchange_9 ?_
    refine Y_goto C (pc := 10) (tgt := 17) dL_exchange_10 (by decide) ?_
    refine Y_iconst C (pc := 17) (v := (0 : Int32)) (by decide) dL_exchange_17 ?_
    exact Y_iret C dL_exchange_18

set_option maxRecDepth 100000 in
set_option maxHeartbeats 4000000 in
theorem c_L_gain {l : Launch} {D : va_G} {cA ρ : Nat → Nat} {σ : Sg} {τ : Tg} {k0 : Nat} {i1 : Int32} {i2 : Int32} {ko : Nat} (hI : Inj ρ) (hk0 : kd k0 = (0, 8)) (hko : (kd ko).1 = 2) (hn9 : ko < 97) {r : Int32 × Sg × Tg} (h : f_L_gain σ τ k0 i1 i2 ko = some r) : CtA l yL_gain cL_gain 5 (some .int) [(0, 10, 13, 19)] 8 133 D cA ρ [.ref (ρ k0), .int i1, .int i2, .ref (ρ ko)] σ τ (some (.int r.1)) r.2.1 r.2.2 := by
  refine CtA_of (by decide +kernel) (Nat.le_of_ble_eq_true rfl) (fun p e s m args below meth c C X ht => ?_)
  have C : Ctx p l s m args meth c cL_gain RL 5 (some .int) D cA ρ (Ax ρ s.heap.size) := C
  have hW : Wr ρ (Ax ρ s.heap.size) := ⟨hI, fun k hk => Or.inl ⟨k, hk, rfl⟩⟩
  unfold f_L_gain at h
  obtain ⟨v, hv, h⟩ := Option.bind_eq_some_iff.mp h
  refine Y_sub [0, 1, 2, 3] (lv' := [(0, .ref (ρ k0)), (1, .int i1), (2, .int i2), (3, .ref (ρ ko))]) rfl ?_
  refine Y_aload_n C (pc := 0) 3 3 rfl rfl dL_gain_0 ?_
  refine Y_iconst C (pc := 1) (v := (0 : Int32)) (by decide) dL_gain_1 ?_
  refine Y_aload_n C (pc := 2) 0 0 rfl rfl dL_gain_2 ?_
  refine Y_iload_n C (pc := 3) 1 1 rfl rfl dL_gain_3 ?_
  refine Y_iload_n C (pc := 4) 2 2 rfl rfl dL_gain_4 ?_
  rcases v with n | w
  · simp only [Sum.elim_inl] at h
    by_cases e0 : n = 2
    · rw [if_pos e0] at h
      cases h
      have tc := t_X8_gain (l := l) (D := D) (cA := cA) (ρ := ρ) (τ := τ) hk0 hv
      rw [e0] at tc
      refine Y_callVC C X ht (pc := 5) [.int i1, .int i2] [.int (0 : Int32), .ref (ρ ko)] hk0 rfl rfl tc q_cw_yX8_gain q_ml_RL_39 ⟨q_im_yX8_gain, q_se_yX8_gain⟩ ⟨⟨Nat.le_of_ble_eq_true rfl, Nat.le_of_ble_eq_true rfl⟩, ⟨Nat.le_of_ble_eq_true rfl, Nat.le_of_ble_eq_true rfl⟩, Nat.le_of_ble_eq_true rfl⟩ rfl rfl dL_gain_5 [] ⟨0, 10, 13, 19⟩ [] rfl (fun z hz => nomatch hz) (by decide +kernel) (by decide +kernel) q_cl_RL_19 q_ca_2 (fun q => ?_)
      refine Y_astore C (pc := 13) (lv' := [(4, .ref q), (0, .ref (ρ k0)), (1, .int i1), (2, .int i2), (3, .ref (ρ ko))]) (by decide) rfl dL_gain_13 ?_
      refine Y_iconst C (pc := 15) (v := (1 : Int32)) (by decide) dL_gain_15 ?_
      exact Y_iret C dL_gain_16
    rw [if_neg e0] at h
    cases h
  · simp only [Sum.elim_inr] at h
    obtain ⟨t, ht9, h⟩ := Option.bind_eq_some_iff.mp h
    cases h
    refine Y_callV C (pc := 5) [.int i1, .int i2] [.int (0 : Int32), .ref (ρ ko)] (.int w :: [.int (0 : Int32), .ref (ρ ko)]) hk0 rfl rfl (c_X8_gain hk0 hv) (fun _ h => h.elim) q_cw_yX8_gain q_ml_RL_39 ⟨q_im_yX8_gain, q_se_yX8_gain⟩ ⟨⟨Nat.le_of_ble_eq_true rfl, Nat.le_of_ble_eq_true rfl⟩, ⟨Nat.zero_le _, Nat.zero_le _⟩, Nat.le_of_ble_eq_true rfl⟩ rfl rfl rfl dL_gain_5 ?_
    refine Y_widen (k := 1) (n := 6) (Nat.le_of_ble_eq_true rfl) (Nat.le_of_ble_eq_true rfl) ?_
    refine Y_i2l C (pc := 8) dL_gain_8 ?_
    refine Y_last C (pc := 9) hW hko hn9 ht9 dL_gain_9 ?_
    refine Y_goto C (pc := 10) (tgt := 17) dL_gain_10 (by decide) ?_
    refine Y_iconst C (pc := 17) (v := (0 : Int32)) (by decide) dL_gain_17 ?_
    exact Y_iret C dL_gain_18

set_option maxRecDepth 100000 in
set_option maxHeartbeats 4000000 in
theorem c_L_mean {l : Launch} {D : va_G} {cA ρ : Nat → Nat} {σ : Sg} {τ : Tg} {k0 : Nat} {i1 : Int32} {ko : Nat} (hI : Inj ρ) (hk0 : kd k0 = (0, 8)) (hko : (kd ko).1 = 2) (hn9 : ko < 97) {r : Int32 × Sg × Tg} (h : f_L_mean σ τ k0 i1 ko = some r) : CtA l yL_mean cL_mean 4 (some .int) [(0, 9, 12, 13)] 7 116 D cA ρ [.ref (ρ k0), .int i1, .ref (ρ ko)] σ τ (some (.int r.1)) r.2.1 r.2.2 := by
  refine CtA_of (by decide +kernel) (Nat.le_of_ble_eq_true rfl) (fun p e s m args below meth c C X ht => ?_)
  have C : Ctx p l s m args meth c cL_mean RL 4 (some .int) D cA ρ (Ax ρ s.heap.size) := C
  have hW : Wr ρ (Ax ρ s.heap.size) := ⟨hI, fun k hk => Or.inl ⟨k, hk, rfl⟩⟩
  unfold f_L_mean at h
  obtain ⟨v, hv, h⟩ := Option.bind_eq_some_iff.mp h
  refine Y_sub [0, 1, 2] (lv' := [(0, .ref (ρ k0)), (1, .int i1), (2, .ref (ρ ko))]) rfl ?_
  refine Y_aload_n C (pc := 0) 2 2 rfl rfl dL_mean_0 ?_
  refine Y_iconst C (pc := 1) (v := (0 : Int32)) (by decide) dL_mean_1 ?_
  refine Y_aload_n C (pc := 2) 0 0 rfl rfl dL_mean_2 ?_
  refine Y_iload_n C (pc := 3) 1 1 rfl rfl dL_mean_3 ?_
  rcases v with n | w
  · simp only [Sum.elim_inl] at h
    by_cases e0 : n.1 = 0
    · rw [if_pos e0] at h
      cases h
      have tc := t_X8_mean (l := l) (D := D) (cA := cA) (ρ := ρ) (τ := τ) hI hk0 hv
      rw [e0] at tc
      refine Y_callVC C X ht (pc := 4) [.int i1] [.int (0 : Int32), .ref (ρ ko)] hk0 rfl rfl tc q_cw_yX8_mean q_ml_RL_42 ⟨q_im_yX8_mean, q_se_yX8_mean⟩ ⟨⟨Nat.le_of_ble_eq_true rfl, Nat.le_of_ble_eq_true rfl⟩, ⟨Nat.le_of_ble_eq_true rfl, Nat.le_of_ble_eq_true rfl⟩, Nat.le_of_ble_eq_true rfl⟩ rfl rfl dL_mean_4 [] ⟨0, 9, 12, 13⟩ [] rfl (fun z hz => nomatch hz) (by decide +kernel) (by decide +kernel) q_cl_RL_13 q_ca_0 (fun q => ?_)
      refine Y_astore_n C (pc := 12) (lv' := [(3, .ref q), (0, .ref (ρ k0)), (1, .int i1), (2, .ref (ρ ko))]) 3 rfl (by decide) rfl dL_mean_12 ?_
      refine Y_iconst C (pc := 13) (v := (1 : Int32)) (by decide) dL_mean_13 ?_
      exact Y_iret C dL_mean_14
    rw [if_neg e0] at h
    cases h
  · simp only [Sum.elim_inr] at h
    obtain ⟨t, ht9, h⟩ := Option.bind_eq_some_iff.mp h
    cases h
    refine Y_callV C (pc := 4) [.int i1] [.int (0 : Int32), .ref (ρ ko)] (.int w.1 :: [.int (0 : Int32), .ref (ρ ko)]) hk0 rfl rfl (c_X8_mean hI hk0 hv) (fun _ h => Or.inl h) q_cw_yX8_mean q_ml_RL_42 ⟨q_im_yX8_mean, q_se_yX8_mean⟩ ⟨⟨Nat.le_of_ble_eq_true rfl, Nat.le_of_ble_eq_true rfl⟩, ⟨Nat.zero_le _, Nat.zero_le _⟩, Nat.le_of_ble_eq_true rfl⟩ rfl rfl rfl dL_mean_4 ?_
    refine Y_widen (k := 1) (n := 6) (Nat.le_of_ble_eq_true rfl) (Nat.le_of_ble_eq_true rfl) ?_
    refine Y_i2l C (pc := 7) dL_mean_7 ?_
    refine Y_last C (pc := 8) hW hko hn9 ht9 dL_mean_8 ?_
    refine Y_goto C (pc := 9) (tgt := 15) dL_mean_9 (by decide) ?_
    refine Y_iconst C (pc := 15) (v := (0 : Int32)) (by decide) dL_mean_15 ?_
    exact Y_iret C dL_mean_16

set_option maxRecDepth 100000 in
set_option maxHeartbeats 4000000 in
theorem c_L_fix {l : Launch} {D : va_G} {cA ρ : Nat → Nat} {σ : Sg} {τ : Tg} {k0 : Nat} {i1 : Int32} {i2 : Int32} {ko : Nat} (hI : Inj ρ) (hk0 : kd k0 = (0, 8)) (hko : (kd ko).1 = 2) (hn9 : ko < 97) {r : Int32 × Sg × Tg} (h : f_L_fix σ τ k0 i1 i2 ko = some r) : CtA l yL_fix cL_fix 5 (some .int) [(0, 10, 13, 19), (0, 10, 17, 48)] 9 155 D cA ρ [.ref (ρ k0), .int i1, .int i2, .ref (ρ ko)] σ τ (some (.int r.1)) r.2.1 r.2.2 := by
  refine CtA_of (by decide +kernel) (Nat.le_of_ble_eq_true rfl) (fun p e s m args below meth c C X ht => ?_)
  have C : Ctx p l s m args meth c cL_fix RL 5 (some .int) D cA ρ (Ax ρ s.heap.size) := C
  have hW : Wr ρ (Ax ρ s.heap.size) := ⟨hI, fun k hk => Or.inl ⟨k, hk, rfl⟩⟩
  unfold f_L_fix at h
  obtain ⟨v, hv, h⟩ := Option.bind_eq_some_iff.mp h
  refine Y_sub [0, 1, 2, 3] (lv' := [(0, .ref (ρ k0)), (1, .int i1), (2, .int i2), (3, .ref (ρ ko))]) rfl ?_
  refine Y_aload_n C (pc := 0) 3 3 rfl rfl dL_fix_0 ?_
  refine Y_iconst C (pc := 1) (v := (0 : Int32)) (by decide) dL_fix_1 ?_
  refine Y_aload_n C (pc := 2) 0 0 rfl rfl dL_fix_2 ?_
  refine Y_iload_n C (pc := 3) 1 1 rfl rfl dL_fix_3 ?_
  refine Y_iload_n C (pc := 4) 2 2 rfl rfl dL_fix_4 ?_
  rcases v with n | w
  · simp only [Sum.elim_inl] at h
    by_cases e0 : n.1 = 2
    · rw [if_pos e0] at h
      cases h
      have tc := t_X8_fix (l := l) (D := D) (cA := cA) (ρ := ρ) (τ := τ) hI hk0 hv
      rw [e0] at tc
      refine Y_callVC C X ht (pc := 5) [.int i1, .int i2] [.int (0 : Int32), .ref (ρ ko)] hk0 rfl rfl tc q_cw_yX8_fix q_ml_RL_45 ⟨q_im_yX8_fix, q_se_yX8_fix⟩ ⟨⟨Nat.le_of_ble_eq_true rfl, Nat.le_of_ble_eq_true rfl⟩, ⟨Nat.le_of_ble_eq_true rfl, Nat.le_of_ble_eq_true rfl⟩, Nat.le_of_ble_eq_true rfl⟩ rfl rfl dL_fix_5 [] ⟨0, 10, 13, 19⟩ [⟨0, 10, 17, 48⟩] rfl (fun z hz => nomatch hz) (by decide +kernel) (by decide +kernel) q_cl_RL_19 q_ca_2 (fun q => ?_)
      refine Y_astore C (pc := 13) (lv' := [(4, .ref q), (0, .ref (ρ k0)), (1, .int i1), (2, .int i2), (3, .ref (ρ ko))]) (by decide) rfl dL_fix_13 ?_
      refine Y_iconst C (pc := 15) (v := (1 : Int32)) (by decide) dL_fix_15 ?_
      exact Y_iret C dL_fix_16
    rw [if_neg e0] at h
    by_cases e1 : n.1 = 1
    · rw [if_pos e1] at h
      cases h
      have tc := t_X8_fix (l := l) (D := D) (cA := cA) (ρ := ρ) (τ := τ) hI hk0 hv
      rw [e1] at tc
      refine Y_callVC C X ht (pc := 5) [.int i1, .int i2] [.int (0 : Int32), .ref (ρ ko)] hk0 rfl rfl tc q_cw_yX8_fix q_ml_RL_45 ⟨q_im_yX8_fix, q_se_yX8_fix⟩ ⟨⟨Nat.le_of_ble_eq_true rfl, Nat.le_of_ble_eq_true rfl⟩, ⟨Nat.le_of_ble_eq_true rfl, Nat.le_of_ble_eq_true rfl⟩, Nat.le_of_ble_eq_true rfl⟩ rfl rfl dL_fix_5 [⟨0, 10, 13, 19⟩] ⟨0, 10, 17, 48⟩ [] rfl (fun z hz => by rw [List.mem_singleton.mp hz]; exact ⟨by decide +kernel, xn 2, q_cl_RL_19, by decide +kernel⟩) (by decide +kernel) (by decide +kernel) q_cl_RL_48 q_ca_1 (fun q => ?_)
      refine Y_astore C (pc := 17) (lv' := [(4, .ref q), (0, .ref (ρ k0)), (1, .int i1), (2, .int i2), (3, .ref (ρ ko))]) (by decide) rfl dL_fix_17 ?_
      refine Y_iconst C (pc := 19) (v := (2 : Int32)) (by decide) dL_fix_19 ?_
      exact Y_iret C dL_fix_20
    rw [if_neg e1] at h
    cases h
  · simp only [Sum.elim_inr] at h
    obtain ⟨t, ht9, h⟩ := Option.bind_eq_some_iff.mp h
    cases h
    refine Y_callV C (pc := 5) [.int i1, .int i2] [.int (0 : Int32), .ref (ρ ko)] (.int w.1 :: [.int (0 : Int32), .ref (ρ ko)]) hk0 rfl rfl (c_X8_fix hI hk0 hv) (fun _ h => Or.inl h) q_cw_yX8_fix q_ml_RL_45 ⟨q_im_yX8_fix, q_se_yX8_fix⟩ ⟨⟨Nat.le_of_ble_eq_true rfl, Nat.le_of_ble_eq_true rfl⟩, ⟨Nat.zero_le _, Nat.zero_le _⟩, Nat.le_of_ble_eq_true rfl⟩ rfl rfl rfl dL_fix_5 ?_
    refine Y_widen (k := 1) (n := 6) (Nat.le_of_ble_eq_true rfl) (Nat.le_of_ble_eq_true rfl) ?_
    refine Y_i2l C (pc := 8) dL_fix_8 ?_
    refine Y_last C (pc := 9) hW hko hn9 ht9 dL_fix_9 ?_
    refine Y_goto C (pc := 10) (tgt := 21) dL_fix_10 (by decide) ?_
    refine Y_iconst C (pc := 21) (v := (0 : Int32)) (by decide) dL_fix_21 ?_
    exact Y_iret C dL_fix_22

set_option maxRecDepth 100000 in
set_option maxHeartbeats 4000000 in
theorem c_L_free {l : Launch} {D : va_G} {cA ρ : Nat → Nat} {σ : Sg} {τ : Tg} {k0 : Nat} {i1 : Int32} {ko : Nat} (hI : Inj ρ) (hk0 : kd k0 = (0, 8)) (hko : (kd ko).1 = 2) (hn9 : ko < 97) {r : Int32 × Sg × Tg} (h : f_L_free σ τ k0 i1 ko = some r) : CtA l yL_free cL_free 4 (some .int) [(0, 9, 12, 19), (0, 9, 15, 48)] 8 133 D cA ρ [.ref (ρ k0), .int i1, .ref (ρ ko)] σ τ (some (.int r.1)) r.2.1 r.2.2 := by
  refine CtA_of (by decide +kernel) (Nat.le_of_ble_eq_true rfl) (fun p e s m args below meth c C X ht => ?_)
  have C : Ctx p l s m args meth c cL_free RL 4 (some .int) D cA ρ (Ax ρ s.heap.size) := C
  have hW : Wr ρ (Ax ρ s.heap.size) := ⟨hI, fun k hk => Or.inl ⟨k, hk, rfl⟩⟩
  unfold f_L_free at h
  obtain ⟨v, hv, h⟩ := Option.bind_eq_some_iff.mp h
  refine Y_sub [0, 1, 2] (lv' := [(0, .ref (ρ k0)), (1, .int i1), (2, .ref (ρ ko))]) rfl ?_
  refine Y_aload_n C (pc := 0) 2 2 rfl rfl dL_free_0 ?_
  refine Y_iconst C (pc := 1) (v := (0 : Int32)) (by decide) dL_free_1 ?_
  refine Y_aload_n C (pc := 2) 0 0 rfl rfl dL_free_2 ?_
  refine Y_iload_n C (pc := 3) 1 1 rfl rfl dL_free_3 ?_
  rcases v with n | w
  · simp only [Sum.elim_inl] at h
    by_cases e0 : n.1 = 2
    · rw [if_pos e0] at h
      cases h
      have tc := t_X8_free (l := l) (D := D) (cA := cA) (ρ := ρ) (τ := τ) hI hk0 hv
      rw [e0] at tc
      refine Y_callVC C X ht (pc := 4) [.int i1] [.int (0 : Int32), .ref (ρ ko)] hk0 rfl rfl tc q_cw_yX8_free q_ml_RL_50 ⟨q_im_yX8_free, q_se_yX8_free⟩ ⟨⟨Nat.le_of_ble_eq_true rfl, Nat.le_of_ble_eq_true rfl⟩, ⟨Nat.le_of_ble_eq_true rfl, Nat.le_of_ble_eq_true rfl⟩, Nat.le_of_ble_eq_true rfl⟩ rfl rfl dL_free_4 [] ⟨0, 9, 12, 19⟩ [⟨0, 9, 15, 48⟩] rfl (fun z hz => nomatch hz) (by decide +kernel) (by decide +kernel) q_cl_RL_19 q_ca_2 (fun q => ?_)
      refine Y_astore_n C (pc := 12) (lv' := [(3, .ref q), (0, .ref (ρ k0)), (1, .int i1), (2, .ref (ρ ko))]) 3 rfl (by decide) rfl dL_free_12 ?_
      refine Y_iconst C (pc := 13) (v := (1 : Int32)) (by decide) dL_free_13 ?_
      exact Y_iret C dL_free_14
    rw [if_neg e0] at h
    by_cases e1 : n.1 = 1
    · rw [if_pos e1] at h
      cases h
      have tc := t_X8_free (l := l) (D := D) (cA := cA) (ρ := ρ) (τ := τ) hI hk0 hv
      rw [e1] at tc
      refine Y_callVC C X ht (pc := 4) [.int i1] [.int (0 : Int32), .ref (ρ ko)] hk0 rfl rfl tc q_cw_yX8_free q_ml_RL_50 ⟨q_im_yX8_free, q_se_yX8_free⟩ ⟨⟨Nat.le_of_ble_eq_true rfl, Nat.le_of_ble_eq_true rfl⟩, ⟨Nat.le_of_ble_eq_true rfl, Nat.le_of_ble_eq_true rfl⟩, Nat.le_of_ble_eq_true rfl⟩ rfl rfl dL_free_4 [⟨0, 9, 12, 19⟩] ⟨0, 9, 15, 48⟩ [] rfl (fun z hz => by rw [List.mem_singleton.mp hz]; exact ⟨by decide +kernel, xn 2, q_cl_RL_19, by decide +kernel⟩) (by decide +kernel) (by decide +kernel) q_cl_RL_48 q_ca_1 (fun q => ?_)
      refine Y_astore_n C (pc := 15) (lv' := [(3, .ref q), (0, .ref (ρ k0)), (1, .int i1), (2, .ref (ρ ko))]) 3 rfl (by decide) rfl dL_free_15 ?_
      refine Y_iconst C (pc := 16) (v := (2 : Int32)) (by decide) dL_free_16 ?_
      exact Y_iret C dL_free_17
    rw [if_neg e1] at h
    cases h
  · simp only [Sum.elim_inr] at h
    obtain ⟨t, ht9, h⟩ := Option.bind_eq_some_iff.mp h
    cases h
    refine Y_callV C (pc := 4) [.int i1] [.int (0 : Int32), .ref (ρ ko)] (.int w.1 :: [.int (0 : Int32), .ref (ρ ko)]) hk0 rfl rfl (c_X8_free hI hk0 hv) (fun _ h => Or.inl h) q_cw_yX8_free q_ml_RL_50 ⟨q_im_yX8_free, q_se_yX8_free⟩ ⟨⟨Nat.le_of_ble_eq_true rfl, Nat.le_of_ble_eq_true rfl⟩, ⟨Nat.zero_le _, Nat.zero_le _⟩, Nat.le_of_ble_eq_true rfl⟩ rfl rfl rfl dL_free_4 ?_
    refine Y_widen (k := 1) (n := 6) (Nat.le_of_ble_eq_true rfl) (Nat.le_of_ble_eq_true rfl) ?_
    refine Y_i2l C (pc := 7) dL_free_7 ?_
    refine Y_last C (pc := 8) hW hko hn9 ht9 dL_free_8 ?_
    refine Y_goto C (pc := 9) (tgt := 18) dL_free_9 (by decide) ?_
    refine Y_iconst C (pc := 18) (v := (0 : Int32)) (by decide) dL_free_18 ?_
    exact Y_iret C dL_free_19

set_option maxRecDepth 100000 in
set_option maxHeartbeats 4000000 in
theorem c_L_fixed {l : Launch} {D : va_G} {cA ρ : Nat → Nat} {σ : Sg} {τ : Tg} {k0 : Nat} {i1 : Int32} {ko : Nat} (hI : Inj ρ) (hk0 : kd k0 = (0, 8)) (hko : (kd ko).1 = 2) (hn9 : ko < 97) {r : Int32 × Sg × Tg} (h : f_L_fixed σ τ k0 i1 ko = some r) : CtA l yL_fixed cL_fixed 4 (some .int) [(0, 9, 12, 19)] 8 132 D cA ρ [.ref (ρ k0), .int i1, .ref (ρ ko)] σ τ (some (.int r.1)) r.2.1 r.2.2 := by
  refine CtA_of (by decide +kernel) (Nat.le_of_ble_eq_true rfl) (fun p e s m args below meth c C X ht => ?_)
  have C : Ctx p l s m args meth c cL_fixed RL 4 (some .int) D cA ρ (Ax ρ s.heap.size) := C
  have hW : Wr ρ (Ax ρ s.heap.size) := ⟨hI, fun k hk => Or.inl ⟨k, hk, rfl⟩⟩
  unfold f_L_fixed at h
  obtain ⟨v, hv, h⟩ := Option.bind_eq_some_iff.mp h
  refine Y_sub [0, 1, 2] (lv' := [(0, .ref (ρ k0)), (1, .int i1), (2, .ref (ρ ko))]) rfl ?_
  refine Y_aload_n C (pc := 0) 2 2 rfl rfl dL_fixed_0 ?_
  refine Y_iconst C (pc := 1) (v := (0 : Int32)) (by decide) dL_fixed_1 ?_
  refine Y_aload_n C (pc := 2) 0 0 rfl rfl dL_fixed_2 ?_
  refine Y_iload_n C (pc := 3) 1 1 rfl rfl dL_fixed_3 ?_
  rcases v with n | w
  · simp only [Sum.elim_inl] at h
    by_cases e0 : n = 2
    · rw [if_pos e0] at h
      cases h
      have tc := t_X8_fixed (l := l) (D := D) (cA := cA) (ρ := ρ) (τ := τ) hk0 hv
      rw [e0] at tc
      refine Y_callVC C X ht (pc := 4) [.int i1] [.int (0 : Int32), .ref (ρ ko)] hk0 rfl rfl tc q_cw_yX8_fixed q_ml_RL_53 ⟨q_im_yX8_fixed, q_se_yX8_fixed⟩ ⟨⟨Nat.le_of_ble_eq_true rfl, Nat.le_of_ble_eq_true rfl⟩, ⟨Nat.le_of_ble_eq_true rfl, Nat.le_of_ble_eq_true rfl⟩, Nat.le_of_ble_eq_true rfl⟩ rfl rfl dL_fixed_4 [] ⟨0, 9, 12, 19⟩ [] rfl (fun z hz => nomatch hz) (by decide +kernel) (by decide +kernel) q_cl_RL_19 q_ca_2 (fun q => ?_)
      refine Y_astore_n C (pc := 12) (lv' := [(3, .ref q), (0, .ref (ρ k0)), (1, .int i1), (2, .ref (ρ ko))]) 3 rfl (by decide) rfl dL_fixed_12 ?_
      refine Y_iconst C (pc := 13) (v := (1 : Int32)) (by decide) dL_fixed_13 ?_
      exact Y_iret C dL_fixed_14
    rw [if_neg e0] at h
    cases h
  · simp only [Sum.elim_inr] at h
    obtain ⟨t, ht9, h⟩ := Option.bind_eq_some_iff.mp h
    cases h
    refine Y_callV C (pc := 4) [.int i1] [.int (0 : Int32), .ref (ρ ko)] (.int w :: [.int (0 : Int32), .ref (ρ ko)]) hk0 rfl rfl (c_X8_fixed hk0 hv) (fun _ h => h.elim) q_cw_yX8_fixed q_ml_RL_53 ⟨q_im_yX8_fixed, q_se_yX8_fixed⟩ ⟨⟨Nat.le_of_ble_eq_true rfl, Nat.le_of_ble_eq_true rfl⟩, ⟨Nat.zero_le _, Nat.zero_le _⟩, Nat.le_of_ble_eq_true rfl⟩ rfl rfl rfl dL_fixed_4 ?_
    refine Y_widen (k := 1) (n := 6) (Nat.le_of_ble_eq_true rfl) (Nat.le_of_ble_eq_true rfl) ?_
    refine Y_i2l C (pc := 7) dL_fixed_7 ?_
    refine Y_last C (pc := 8) hW hko hn9 ht9 dL_fixed_8 ?_
    refine Y_goto C (pc := 9) (tgt := 15) dL_fixed_9 (by decide) ?_
    refine Y_iconst C (pc := 15) (v := (0 : Int32)) (by decide) dL_fixed_15 ?_
    exact Y_iret C dL_fixed_16

set_option maxRecDepth 100000 in
set_option maxHeartbeats 4000000 in
theorem c_L_entry {l : Launch} {D : va_G} {cA ρ : Nat → Nat} {σ : Sg} {τ : Tg} {k0 : Nat} {i1 : Int32} {i2 : Int32} {ko : Nat} (hI : Inj ρ) (hk0 : kd k0 = (0, 8)) (hko : (kd ko).1 = 2) (hn9 : ko < 97) {r : Int32 × Sg × Tg} (h : f_L_entry σ τ k0 i1 i2 ko = some r) : CtA l yL_entry cL_entry 5 (some .int) [(0, 10, 13, 19), (0, 10, 17, 48)] 9 155 D cA ρ [.ref (ρ k0), .int i1, .int i2, .ref (ρ ko)] σ τ (some (.int r.1)) r.2.1 r.2.2 := by
  refine CtA_of (by decide +kernel) (Nat.le_of_ble_eq_true rfl) (fun p e s m args below meth c C X ht => ?_)
  have C : Ctx p l s m args meth c cL_entry RL 5 (some .int) D cA ρ (Ax ρ s.heap.size) := C
  have hW : Wr ρ (Ax ρ s.heap.size) := ⟨hI, fun k hk => Or.inl ⟨k, hk, rfl⟩⟩
  unfold f_L_entry at h
  obtain ⟨v, hv, h⟩ := Option.bind_eq_some_iff.mp h
  refine Y_sub [0, 1, 2, 3] (lv' := [(0, .ref (ρ k0)), (1, .int i1), (2, .int i2), (3, .ref (ρ ko))]) rfl ?_
  refine Y_aload_n C (pc := 0) 3 3 rfl rfl dL_entry_0 ?_
  refine Y_iconst C (pc := 1) (v := (0 : Int32)) (by decide) dL_entry_1 ?_
  refine Y_aload_n C (pc := 2) 0 0 rfl rfl dL_entry_2 ?_
  refine Y_iload_n C (pc := 3) 1 1 rfl rfl dL_entry_3 ?_
  refine Y_iload_n C (pc := 4) 2 2 rfl rfl dL_entry_4 ?_
  rcases v with n | w
  · simp only [Sum.elim_inl] at h
    by_cases e0 : n.1 = 2
    · rw [if_pos e0] at h
      cases h
      have tc := t_X8_entry (l := l) (D := D) (cA := cA) (ρ := ρ) (τ := τ) hI hk0 hv
      rw [e0] at tc
      refine Y_callVC C X ht (pc := 5) [.int i1, .int i2] [.int (0 : Int32), .ref (ρ ko)] hk0 rfl rfl tc q_cw_yX8_entry q_ml_RL_56 ⟨q_im_yX8_entry, q_se_yX8_entry⟩ ⟨⟨Nat.le_of_ble_eq_true rfl, Nat.le_of_ble_eq_true rfl⟩, ⟨Nat.le_of_ble_eq_true rfl, Nat.le_of_ble_eq_true rfl⟩, Nat.le_of_ble_eq_true rfl⟩ rfl rfl dL_entry_5 [] ⟨0, 10, 13, 19⟩ [⟨0, 10, 17, 48⟩] rfl (fun z hz => nomatch hz) (by decide +kernel) (by decide +kernel) q_cl_RL_19 q_ca_2 (fun q => ?_)
      refine Y_astore C (pc := 13) (lv' := [(4, .ref q), (0, .ref (ρ k0)), (1, .int i1), (2, .int i2), (3, .ref (ρ ko))]) (by decide) rfl dL_entry_13 ?_
      refine Y_iconst C (pc := 15) (v := (1 : Int32)) (by decide) dL_entry_15 ?_
      exact Y_iret C dL_entry_16
    rw [if_neg e0] at h
    by_cases e1 : n.1 = 1
    · rw [if_pos e1] at h
      cases h
      have tc := t_X8_entry (l := l) (D := D) (cA := cA) (ρ := ρ) (τ := τ) hI hk0 hv
      rw [e1] at tc
      refine Y_callVC C X ht (pc := 5) [.int i1, .int i2] [.int (0 : Int32), .ref (ρ ko)] hk0 rfl rfl tc q_cw_yX8_entry q_ml_RL_56 ⟨q_im_yX8_entry, q_se_yX8_entry⟩ ⟨⟨Nat.le_of_ble_eq_true rfl, Nat.le_of_ble_eq_true rfl⟩, ⟨Nat.le_of_ble_eq_true rfl, Nat.le_of_ble_eq_true rfl⟩, Nat.le_of_ble_eq_true rfl⟩ rfl rfl dL_entry_5 [⟨0, 10, 13, 19⟩] ⟨0, 10, 17, 48⟩ [] rfl (fun z hz => by rw [List.mem_singleton.mp hz]; exact ⟨by decide +kernel, xn 2, q_cl_RL_19, by decide +kernel⟩) (by decide +kernel) (by decide +kernel) q_cl_RL_48 q_ca_1 (fun q => ?_)
      refine Y_astore C (pc := 17) (lv' := [(4, .ref q), (0, .ref (ρ k0)), (1, .int i1), (2, .int i2), (3, .ref (ρ ko))]) (by decide) rfl dL_entry_17 ?_
      refine Y_iconst C (pc := 19) (v := (2 : Int32)) (by decide) dL_entry_19 ?_
      exact Y_iret C dL_entry_20
    rw [if_neg e1] at h
    cases h
  · simp only [Sum.elim_inr] at h
    obtain ⟨t, ht9, h⟩ := Option.bind_eq_some_iff.mp h
    cases h
    refine Y_callV C (pc := 5) [.int i1, .int i2] [.int (0 : Int32), .ref (ρ ko)] (.int w.1 :: [.int (0 : Int32), .ref (ρ ko)]) hk0 rfl rfl (c_X8_entry hI hk0 hv) (fun _ h => Or.inl h) q_cw_yX8_entry q_ml_RL_56 ⟨q_im_yX8_entry, q_se_yX8_entry⟩ ⟨⟨Nat.le_of_ble_eq_true rfl, Nat.le_of_ble_eq_true rfl⟩, ⟨Nat.zero_le _, Nat.zero_le _⟩, Nat.le_of_ble_eq_true rfl⟩ rfl rfl rfl dL_entry_5 ?_
    refine Y_widen (k := 1) (n := 6) (Nat.le_of_ble_eq_true rfl) (Nat.le_of_ble_eq_true rfl) ?_
    refine Y_i2l C (pc := 8) dL_entry_8 ?_
    refine Y_last C (pc := 9) hW hko hn9 ht9 dL_entry_9 ?_
    refine Y_goto C (pc := 10) (tgt := 21) dL_entry_10 (by decide) ?_
    refine Y_iconst C (pc := 21) (v := (0 : Int32)) (by decide) dL_entry_21 ?_
    exact Y_iret C dL_entry_22

set_option maxRecDepth 100000 in
set_option maxHeartbeats 4000000 in
theorem c_L_boundWith {l : Launch} {D : va_G} {cA ρ : Nat → Nat} {σ : Sg} {τ : Tg} {k0 : Nat} {i1 : Int32} {i2 : Int32} {ko : Nat} (hI : Inj ρ) (hk0 : kd k0 = (0, 8)) (hko : (kd ko).1 = 2) (hn9 : ko < 97) {r : Int32 × Sg × Tg} (h : f_L_boundWith σ τ k0 i1 i2 ko = some r) : CtA l yL_boundWith cL_boundWith 5 (some .int) [(0, 10, 13, 19), (0, 10, 17, 48)] 9 155 D cA ρ [.ref (ρ k0), .int i1, .int i2, .ref (ρ ko)] σ τ (some (.int r.1)) r.2.1 r.2.2 := by
  refine CtA_of (by decide +kernel) (Nat.le_of_ble_eq_true rfl) (fun p e s m args below meth c C X ht => ?_)
  have C : Ctx p l s m args meth c cL_boundWith RL 5 (some .int) D cA ρ (Ax ρ s.heap.size) := C
  have hW : Wr ρ (Ax ρ s.heap.size) := ⟨hI, fun k hk => Or.inl ⟨k, hk, rfl⟩⟩
  unfold f_L_boundWith at h
  obtain ⟨v, hv, h⟩ := Option.bind_eq_some_iff.mp h
  refine Y_sub [0, 1, 2, 3] (lv' := [(0, .ref (ρ k0)), (1, .int i1), (2, .int i2), (3, .ref (ρ ko))]) rfl ?_
  refine Y_aload_n C (pc := 0) 3 3 rfl rfl dL_boundWith_0 ?_
  refine Y_iconst C (pc := 1) (v := (0 : Int32)) (by decide) dL_boundWith_1 ?_
  refine Y_aload_n C (pc := 2) 0 0 rfl rfl dL_boundWith_2 ?_
  refine Y_iload_n C (pc := 3) 1 1 rfl rfl dL_boundWith_3 ?_
  refine Y_iload_n C (pc := 4) 2 2 rfl rfl dL_boundWith_4 ?_
  rcases v with n | w
  · simp only [Sum.elim_inl] at h
    by_cases e0 : n.1 = 2
    · rw [if_pos e0] at h
      cases h
      have tc := t_X8_boundWith (l := l) (D := D) (cA := cA) (ρ := ρ) (τ := τ) hI hk0 hv
      rw [e0] at tc
      refine Y_callVC C X ht (pc := 5) [.int i1, .int i2] [.int (0 : Int32), .ref (ρ ko)] hk0 rfl rfl tc q_cw_yX8_boundWith q_ml_RL_59 ⟨q_im_yX8_boundWith, q_se_yX8_boundWith⟩ ⟨⟨Nat.le_of_ble_eq_true rfl, Nat.le_of_ble_eq_true rfl⟩, ⟨Nat.le_of_ble_eq_true rfl, Nat.le_of_ble_eq_true rfl⟩, Nat.le_of_ble_eq_true rfl⟩ rfl rfl dL_boundWith_5 [] ⟨0, 10, 13, 19⟩ [⟨0, 10, 17, 48⟩] rfl (fun z hz => nomatch hz) (by decide +kernel) (by decide +kernel) q_cl_RL_19 q_ca_2 (fun q => ?_)
      refine Y_astore C (pc := 13) (lv' := [(4, .ref q), (0, .ref (ρ k0)), (1, .int i1), (2, .int i2), (3, .ref (ρ ko))]) (by decide) rfl dL_boundWith_13 ?_
      refine Y_iconst C (pc := 15) (v := (1 : Int32)) (by decide) dL_boundWith_15 ?_
      exact Y_iret C dL_boundWith_16
    rw [if_neg e0] at h
    by_cases e1 : n.1 = 1
    · rw [if_pos e1] at h
      cases h
      have tc := t_X8_boundWith (l := l) (D := D) (cA := cA) (ρ := ρ) (τ := τ) hI hk0 hv
      rw [e1] at tc
      refine Y_callVC C X ht (pc := 5) [.int i1, .int i2] [.int (0 : Int32), .ref (ρ ko)] hk0 rfl rfl tc q_cw_yX8_boundWith q_ml_RL_59 ⟨q_im_yX8_boundWith, q_se_yX8_boundWith⟩ ⟨⟨Nat.le_of_ble_eq_true rfl, Nat.le_of_ble_eq_true rfl⟩, ⟨Nat.le_of_ble_eq_true rfl, Nat.le_of_ble_eq_true rfl⟩, Nat.le_of_ble_eq_true rfl⟩ rfl rfl dL_boundWith_5 [⟨0, 10, 13, 19⟩] ⟨0, 10, 17, 48⟩ [] rfl (fun z hz => by rw [List.mem_singleton.mp hz]; exact ⟨by decide +kernel, xn 2, q_cl_RL_19, by decide +kernel⟩) (by decide +kernel) (by decide +kernel) q_cl_RL_48 q_ca_1 (fun q => ?_)
      refine Y_astore C (pc := 17) (lv' := [(4, .ref q), (0, .ref (ρ k0)), (1, .int i1), (2, .int i2), (3, .ref (ρ ko))]) (by decide) rfl dL_boundWith_17 ?_
      refine Y_iconst C (pc := 19) (v := (2 : Int32)) (by decide) dL_boundWith_19 ?_
      exact Y_iret C dL_boundWith_20
    rw [if_neg e1] at h
    cases h
  · simp only [Sum.elim_inr] at h
    obtain ⟨t, ht9, h⟩ := Option.bind_eq_some_iff.mp h
    cases h
    refine Y_callV C (pc := 5) [.int i1, .int i2] [.int (0 : Int32), .ref (ρ ko)] (.int w.1 :: [.int (0 : Int32), .ref (ρ ko)]) hk0 rfl rfl (c_X8_boundWith hI hk0 hv) (fun _ h => Or.inl h) q_cw_yX8_boundWith q_ml_RL_59 ⟨q_im_yX8_boundWith, q_se_yX8_boundWith⟩ ⟨⟨Nat.le_of_ble_eq_true rfl, Nat.le_of_ble_eq_true rfl⟩, ⟨Nat.zero_le _, Nat.zero_le _⟩, Nat.le_of_ble_eq_true rfl⟩ rfl rfl rfl dL_boundWith_5 ?_
    refine Y_widen (k := 1) (n := 6) (Nat.le_of_ble_eq_true rfl) (Nat.le_of_ble_eq_true rfl) ?_
    refine Y_i2l C (pc := 8) dL_boundWith_8 ?_
    refine Y_last C (pc := 9) hW hko hn9 ht9 dL_boundWith_9 ?_
    refine Y_goto C (pc := 10) (tgt := 21) dL_boundWith_10 (by decide) ?_
    refine Y_iconst C (pc := 21) (v := (0 : Int32)) (by decide) dL_boundWith_21 ?_
    exact Y_iret C dL_boundWith_22

set_option maxRecDepth 100000 in
set_option maxHeartbeats 4000000 in
theorem c_L_regret {l : Launch} {D : va_G} {cA ρ : Nat → Nat} {σ : Sg} {τ : Tg} {k0 : Nat} {i1 : Int32} {ko : Nat} (hI : Inj ρ) (hk0 : kd k0 = (0, 8)) (hko : (kd ko).1 = 2) (hn9 : ko < 97) {r : Int32 × Sg × Tg} (h : f_L_regret σ τ k0 i1 ko = some r) : CtA l yL_regret cL_regret 4 (some .int) [(0, 9, 12, 19), (0, 9, 15, 48)] 8 132 D cA ρ [.ref (ρ k0), .int i1, .ref (ρ ko)] σ τ (some (.int r.1)) r.2.1 r.2.2 := by
  refine CtA_of (by decide +kernel) (Nat.le_of_ble_eq_true rfl) (fun p e s m args below meth c C X ht => ?_)
  have C : Ctx p l s m args meth c cL_regret RL 4 (some .int) D cA ρ (Ax ρ s.heap.size) := C
  have hW : Wr ρ (Ax ρ s.heap.size) := ⟨hI, fun k hk => Or.inl ⟨k, hk, rfl⟩⟩
  unfold f_L_regret at h
  obtain ⟨v, hv, h⟩ := Option.bind_eq_some_iff.mp h
  refine Y_sub [0, 1, 2] (lv' := [(0, .ref (ρ k0)), (1, .int i1), (2, .ref (ρ ko))]) rfl ?_
  refine Y_aload_n C (pc := 0) 2 2 rfl rfl dL_regret_0 ?_
  refine Y_iconst C (pc := 1) (v := (0 : Int32)) (by decide) dL_regret_1 ?_
  refine Y_aload_n C (pc := 2) 0 0 rfl rfl dL_regret_2 ?_
  refine Y_iload_n C (pc := 3) 1 1 rfl rfl dL_regret_3 ?_
  rcases v with n | w
  · simp only [Sum.elim_inl] at h
    by_cases e0 : n.1 = 2
    · rw [if_pos e0] at h
      cases h
      have tc := t_X8_regret (l := l) (D := D) (cA := cA) (ρ := ρ) (τ := τ) hI hk0 hv
      rw [e0] at tc
      refine Y_callVC C X ht (pc := 4) [.int i1] [.int (0 : Int32), .ref (ρ ko)] hk0 rfl rfl tc q_cw_yX8_regret q_ml_RL_62 ⟨q_im_yX8_regret, q_se_yX8_regret⟩ ⟨⟨Nat.le_of_ble_eq_true rfl, Nat.le_of_ble_eq_true rfl⟩, ⟨Nat.le_of_ble_eq_true rfl, Nat.le_of_ble_eq_true rfl⟩, Nat.le_of_ble_eq_true rfl⟩ rfl rfl dL_regret_4 [] ⟨0, 9, 12, 19⟩ [⟨0, 9, 15, 48⟩] rfl (fun z hz => nomatch hz) (by decide +kernel) (by decide +kernel) q_cl_RL_19 q_ca_2 (fun q => ?_)
      refine Y_astore_n C (pc := 12) (lv' := [(3, .ref q), (0, .ref (ρ k0)), (1, .int i1), (2, .ref (ρ ko))]) 3 rfl (by decide) rfl dL_regret_12 ?_
      refine Y_iconst C (pc := 13) (v := (1 : Int32)) (by decide) dL_regret_13 ?_
      exact Y_iret C dL_regret_14
    rw [if_neg e0] at h
    by_cases e1 : n.1 = 1
    · rw [if_pos e1] at h
      cases h
      have tc := t_X8_regret (l := l) (D := D) (cA := cA) (ρ := ρ) (τ := τ) hI hk0 hv
      rw [e1] at tc
      refine Y_callVC C X ht (pc := 4) [.int i1] [.int (0 : Int32), .ref (ρ ko)] hk0 rfl rfl tc q_cw_yX8_regret q_ml_RL_62 ⟨q_im_yX8_regret, q_se_yX8_regret⟩ ⟨⟨Nat.le_of_ble_eq_true rfl, Nat.le_of_ble_eq_true rfl⟩, ⟨Nat.le_of_ble_eq_true rfl, Nat.le_of_ble_eq_true rfl⟩, Nat.le_of_ble_eq_true rfl⟩ rfl rfl dL_regret_4 [⟨0, 9, 12, 19⟩] ⟨0, 9, 15, 48⟩ [] rfl (fun z hz => by rw [List.mem_singleton.mp hz]; exact ⟨by decide +kernel, xn 2, q_cl_RL_19, by decide +kernel⟩) (by decide +kernel) (by decide +kernel) q_cl_RL_48 q_ca_1 (fun q => ?_)
      refine Y_astore_n C (pc := 15) (lv' := [(3, .ref q), (0, .ref (ρ k0)), (1, .int i1), (2, .ref (ρ ko))]) 3 rfl (by decide) rfl dL_regret_15 ?_
      refine Y_iconst C (pc := 16) (v := (2 : Int32)) (by decide) dL_regret_16 ?_
      exact Y_iret C dL_regret_17
    rw [if_neg e1] at h
    cases h
  · simp only [Sum.elim_inr] at h
    obtain ⟨t, ht9, h⟩ := Option.bind_eq_some_iff.mp h
    cases h
    refine Y_callV C (pc := 4) [.int i1] [.int (0 : Int32), .ref (ρ ko)] (.int w.1 :: [.int (0 : Int32), .ref (ρ ko)]) hk0 rfl rfl (c_X8_regret hI hk0 hv) (fun _ h => Or.inl h) q_cw_yX8_regret q_ml_RL_62 ⟨q_im_yX8_regret, q_se_yX8_regret⟩ ⟨⟨Nat.le_of_ble_eq_true rfl, Nat.le_of_ble_eq_true rfl⟩, ⟨Nat.zero_le _, Nat.zero_le _⟩, Nat.le_of_ble_eq_true rfl⟩ rfl rfl rfl dL_regret_4 ?_
    refine Y_widen (k := 1) (n := 6) (Nat.le_of_ble_eq_true rfl) (Nat.le_of_ble_eq_true rfl) ?_
    refine Y_i2l C (pc := 7) dL_regret_7 ?_
    refine Y_last C (pc := 8) hW hko hn9 ht9 dL_regret_8 ?_
    refine Y_goto C (pc := 9) (tgt := 18) dL_regret_9 (by decide) ?_
    refine Y_iconst C (pc := 18) (v := (0 : Int32)) (by decide) dL_regret_18 ?_
    exact Y_iret C dL_regret_19

set_option maxRecDepth 100000 in
set_option maxHeartbeats 4000000 in
theorem c_L_representative {l : Launch} {D : va_G} {cA ρ : Nat → Nat} {σ : Sg} {τ : Tg} {k0 : Nat} {i1 : Int32} {ko : Nat} (hI : Inj ρ) (hk0 : kd k0 = (0, 8)) (hko : (kd ko).1 = 2) (hn9 : ko < 97) {r : Int32 × Sg × Tg} (h : f_L_representative σ τ k0 i1 ko = some r) : CtA l yL_representative cL_representative 4 (some .int) [(0, 9, 12, 19)] 8 132 D cA ρ [.ref (ρ k0), .int i1, .ref (ρ ko)] σ τ (some (.int r.1)) r.2.1 r.2.2 := by
  refine CtA_of (by decide +kernel) (Nat.le_of_ble_eq_true rfl) (fun p e s m args below meth c C X ht => ?_)
  have C : Ctx p l s m args meth c cL_representative RL 4 (some .int) D cA ρ (Ax ρ s.heap.size) := C
  have hW : Wr ρ (Ax ρ s.heap.size) := ⟨hI, fun k hk => Or.inl ⟨k, hk, rfl⟩⟩
  unfold f_L_representative at h
  obtain ⟨v, hv, h⟩ := Option.bind_eq_some_iff.mp h
  refine Y_sub [0, 1, 2] (lv' := [(0, .ref (ρ k0)), (1, .int i1), (2, .ref (ρ ko))]) rfl ?_
  refine Y_aload_n C (pc := 0) 2 2 rfl rfl dL_representative_0 ?_
  refine Y_iconst C (pc := 1) (v := (0 : Int32)) (by decide) dL_representative_1 ?_
  refine Y_aload_n C (pc := 2) 0 0 rfl rfl dL_representative_2 ?_
  refine Y_iload_n C (pc := 3) 1 1 rfl rfl dL_representative_3 ?_
  rcases v with n | w
  · simp only [Sum.elim_inl] at h
    by_cases e0 : n.1 = 2
    · rw [if_pos e0] at h
      cases h
      have tc := t_X8_representative (l := l) (D := D) (cA := cA) (ρ := ρ) (τ := τ) hI hk0 hv
      rw [e0] at tc
      refine Y_callVC C X ht (pc := 4) [.int i1] [.int (0 : Int32), .ref (ρ ko)] hk0 rfl rfl tc q_cw_yX8_representative q_ml_RL_65 ⟨q_im_yX8_representative, q_se_yX8_representative⟩ ⟨⟨Nat.le_of_ble_eq_true rfl, Nat.le_of_ble_eq_true rfl⟩, ⟨Nat.le_of_ble_eq_true rfl, Nat.le_of_ble_eq_true rfl⟩, Nat.le_of_ble_eq_true rfl⟩ rfl rfl dL_representative_4 [] ⟨0, 9, 12, 19⟩ [] rfl (fun z hz => nomatch hz) (by decide +kernel) (by decide +kernel) q_cl_RL_19 q_ca_2 (fun q => ?_)
      refine Y_astore_n C (pc := 12) (lv' := [(3, .ref q), (0, .ref (ρ k0)), (1, .int i1), (2, .ref (ρ ko))]) 3 rfl (by decide) rfl dL_representative_12 ?_
      refine Y_iconst C (pc := 13) (v := (1 : Int32)) (by decide) dL_representative_13 ?_
      exact Y_iret C dL_representative_14
    rw [if_neg e0] at h
    cases h
  · simp only [Sum.elim_inr] at h
    obtain ⟨t, ht9, h⟩ := Option.bind_eq_some_iff.mp h
    cases h
    refine Y_callV C (pc := 4) [.int i1] [.int (0 : Int32), .ref (ρ ko)] (.int w.1 :: [.int (0 : Int32), .ref (ρ ko)]) hk0 rfl rfl (c_X8_representative hI hk0 hv) (fun _ h => Or.inl h) q_cw_yX8_representative q_ml_RL_65 ⟨q_im_yX8_representative, q_se_yX8_representative⟩ ⟨⟨Nat.le_of_ble_eq_true rfl, Nat.le_of_ble_eq_true rfl⟩, ⟨Nat.zero_le _, Nat.zero_le _⟩, Nat.le_of_ble_eq_true rfl⟩ rfl rfl rfl dL_representative_4 ?_
    refine Y_widen (k := 1) (n := 6) (Nat.le_of_ble_eq_true rfl) (Nat.le_of_ble_eq_true rfl) ?_
    refine Y_i2l C (pc := 7) dL_representative_7 ?_
    refine Y_last C (pc := 8) hW hko hn9 ht9 dL_representative_8 ?_
    refine Y_goto C (pc := 9) (tgt := 15) dL_representative_9 (by decide) ?_
    refine Y_iconst C (pc := 15) (v := (0 : Int32)) (by decide) dL_representative_15 ?_
    exact Y_iret C dL_representative_16

set_option maxRecDepth 100000 in
set_option maxHeartbeats 4000000 in
theorem c_L_found {l : Launch} {D : va_G} {cA ρ : Nat → Nat} {σ : Sg} {τ : Tg} {k0 : Nat} {i1 : Int32} {ko : Nat} (hI : Inj ρ) (hk0 : kd k0 = (0, 8)) (hko : (kd ko).1 = 2) (hn9 : ko < 97) {r : Int32 × Sg × Tg} (h : f_L_found σ τ k0 i1 ko = some r) : CtA l yL_found cL_found 4 (some .int) [(0, 9, 12, 13)] 7 111 D cA ρ [.ref (ρ k0), .int i1, .ref (ρ ko)] σ τ (some (.int r.1)) r.2.1 r.2.2 := by
  refine CtA_of (by decide +kernel) (Nat.le_of_ble_eq_true rfl) (fun p e s m args below meth c C X ht => ?_)
  have C : Ctx p l s m args meth c cL_found RL 4 (some .int) D cA ρ (Ax ρ s.heap.size) := C
  have hW : Wr ρ (Ax ρ s.heap.size) := ⟨hI, fun k hk => Or.inl ⟨k, hk, rfl⟩⟩
  unfold f_L_found at h
  obtain ⟨v, hv, h⟩ := Option.bind_eq_some_iff.mp h
  refine Y_sub [0, 1, 2] (lv' := [(0, .ref (ρ k0)), (1, .int i1), (2, .ref (ρ ko))]) rfl ?_
  refine Y_aload_n C (pc := 0) 2 2 rfl rfl dL_found_0 ?_
  refine Y_iconst C (pc := 1) (v := (0 : Int32)) (by decide) dL_found_1 ?_
  refine Y_aload_n C (pc := 2) 0 0 rfl rfl dL_found_2 ?_
  refine Y_iload_n C (pc := 3) 1 1 rfl rfl dL_found_3 ?_
  rcases v with n | w
  · simp only [Sum.elim_inl] at h
    by_cases e0 : n = 0
    · rw [if_pos e0] at h
      cases h
      have tc := t_X8_found (l := l) (D := D) (cA := cA) (ρ := ρ) (τ := τ) hk0 hv
      rw [e0] at tc
      refine Y_callVC C X ht (pc := 4) [.int i1] [.int (0 : Int32), .ref (ρ ko)] hk0 rfl rfl tc q_cw_yX8_found q_ml_RL_68 ⟨q_im_yX8_found, q_se_yX8_found⟩ ⟨⟨Nat.le_of_ble_eq_true rfl, Nat.le_of_ble_eq_true rfl⟩, ⟨Nat.le_of_ble_eq_true rfl, Nat.le_of_ble_eq_true rfl⟩, Nat.le_of_ble_eq_true rfl⟩ rfl rfl dL_found_4 [] ⟨0, 9, 12, 13⟩ [] rfl (fun z hz => nomatch hz) (by decide +kernel) (by decide +kernel) q_cl_RL_13 q_ca_0 (fun q => ?_)
      refine Y_astore_n C (pc := 12) (lv' := [(3, .ref q), (0, .ref (ρ k0)), (1, .int i1), (2, .ref (ρ ko))]) 3 rfl (by decide) rfl dL_found_12 ?_
      refine Y_iconst C (pc := 13) (v := (1 : Int32)) (by decide) dL_found_13 ?_
      exact Y_iret C dL_found_14
    rw [if_neg e0] at h
    cases h
  · simp only [Sum.elim_inr] at h
    obtain ⟨t, ht9, h⟩ := Option.bind_eq_some_iff.mp h
    cases h
    refine Y_callV C (pc := 4) [.int i1] [.int (0 : Int32), .ref (ρ ko)] (.int w :: [.int (0 : Int32), .ref (ρ ko)]) hk0 rfl rfl (c_X8_found hk0 hv) (fun _ h => h.elim) q_cw_yX8_found q_ml_RL_68 ⟨q_im_yX8_found, q_se_yX8_found⟩ ⟨⟨Nat.le_of_ble_eq_true rfl, Nat.le_of_ble_eq_true rfl⟩, ⟨Nat.zero_le _, Nat.zero_le _⟩, Nat.le_of_ble_eq_true rfl⟩ rfl rfl rfl dL_found_4 ?_
    refine Y_widen (k := 1) (n := 6) (Nat.le_of_ble_eq_true rfl) (Nat.le_of_ble_eq_true rfl) ?_
    refine Y_i2l C (pc := 7) dL_found_7 ?_
    refine Y_last C (pc := 8) hW hko hn9 ht9 dL_found_8 ?_
    refine Y_goto C (pc := 9) (tgt := 15) dL_found_9 (by decide) ?_
    refine Y_iconst C (pc := 15) (v := (0 : Int32)) (by decide) dL_found_15 ?_
    exact Y_iret C dL_found_16

set_option maxRecDepth 100000 in
set_option maxHeartbeats 4000000 in
theorem c_L_nodes {l : Launch} {D : va_G} {cA ρ : Nat → Nat} {σ : Sg} {τ : Tg} {k0 : Nat} {i1 : Int32} {ko : Nat} (hI : Inj ρ) (hk0 : kd k0 = (0, 8)) (hko : (kd ko).1 = 2) (hn9 : ko < 97) {r : Int32 × Sg × Tg} (h : f_L_nodes σ τ k0 i1 ko = some r) : CtA l yL_nodes cL_nodes 4 (some .int) [(0, 9, 12, 13)] 7 111 D cA ρ [.ref (ρ k0), .int i1, .ref (ρ ko)] σ τ (some (.int r.1)) r.2.1 r.2.2 := by
  refine CtA_of (by decide +kernel) (Nat.le_of_ble_eq_true rfl) (fun p e s m args below meth c C X ht => ?_)
  have C : Ctx p l s m args meth c cL_nodes RL 4 (some .int) D cA ρ (Ax ρ s.heap.size) := C
  have hW : Wr ρ (Ax ρ s.heap.size) := ⟨hI, fun k hk => Or.inl ⟨k, hk, rfl⟩⟩
  unfold f_L_nodes at h
  obtain ⟨v, hv, h⟩ := Option.bind_eq_some_iff.mp h
  refine Y_sub [0, 1, 2] (lv' := [(0, .ref (ρ k0)), (1, .int i1), (2, .ref (ρ ko))]) rfl ?_
  refine Y_aload_n C (pc := 0) 2 2 rfl rfl dL_nodes_0 ?_
  refine Y_iconst C (pc := 1) (v := (0 : Int32)) (by decide) dL_nodes_1 ?_
  refine Y_aload_n C (pc := 2) 0 0 rfl rfl dL_nodes_2 ?_
  refine Y_iload_n C (pc := 3) 1 1 rfl rfl dL_nodes_3 ?_
  rcases v with n | w
  · simp only [Sum.elim_inl] at h
    by_cases e0 : n = 0
    · rw [if_pos e0] at h
      cases h
      have tc := t_X8_nodes (l := l) (D := D) (cA := cA) (ρ := ρ) (τ := τ) hk0 hv
      rw [e0] at tc
      refine Y_callVC C X ht (pc := 4) [.int i1] [.int (0 : Int32), .ref (ρ ko)] hk0 rfl rfl tc q_cw_yX8_nodes q_ml_RL_71 ⟨q_im_yX8_nodes, q_se_yX8_nodes⟩ ⟨⟨Nat.le_of_ble_eq_true rfl, Nat.le_of_ble_eq_true rfl⟩, ⟨Nat.le_of_ble_eq_true rfl, Nat.le_of_ble_eq_true rfl⟩, Nat.le_of_ble_eq_true rfl⟩ rfl rfl dL_nodes_4 [] ⟨0, 9, 12, 13⟩ [] rfl (fun z hz => nomatch hz) (by decide +kernel) (by decide +kernel) q_cl_RL_13 q_ca_0 (fun q => ?_)
      refine Y_astore_n C (pc := 12) (lv' := [(3, .ref q), (0, .ref (ρ k0)), (1, .int i1), (2, .ref (ρ ko))]) 3 rfl (by decide) rfl dL_nodes_12 ?_
      refine Y_iconst C (pc := 13) (v := (1 : Int32)) (by decide) dL_nodes_13 ?_
      exact Y_iret C dL_nodes_14
    rw [if_neg e0] at h
    cases h
  · simp only [Sum.elim_inr] at h
    obtain ⟨t, ht9, h⟩ := Option.bind_eq_some_iff.mp h
    cases h
    refine Y_callV C (pc := 4) [.int i1] [.int (0 : Int32), .ref (ρ ko)] (.int w :: [.int (0 : Int32), .ref (ρ ko)]) hk0 rfl rfl (c_X8_nodes hk0 hv) (fun _ h => h.elim) q_cw_yX8_nodes q_ml_RL_71 ⟨q_im_yX8_nodes, q_se_yX8_nodes⟩ ⟨⟨Nat.le_of_ble_eq_true rfl, Nat.le_of_ble_eq_true rfl⟩, ⟨Nat.zero_le _, Nat.zero_le _⟩, Nat.le_of_ble_eq_true rfl⟩ rfl rfl rfl dL_nodes_4 ?_
    refine Y_widen (k := 1) (n := 6) (Nat.le_of_ble_eq_true rfl) (Nat.le_of_ble_eq_true rfl) ?_
    refine Y_i2l C (pc := 7) dL_nodes_7 ?_
    refine Y_last C (pc := 8) hW hko hn9 ht9 dL_nodes_8 ?_
    refine Y_goto C (pc := 9) (tgt := 15) dL_nodes_9 (by decide) ?_
    refine Y_iconst C (pc := 15) (v := (0 : Int32)) (by decide) dL_nodes_15 ?_
    exact Y_iret C dL_nodes_16

set_option maxRecDepth 100000 in
set_option maxHeartbeats 4000000 in
theorem c_L_type {l : Launch} {D : va_G} {cA ρ : Nat → Nat} {σ : Sg} {τ : Tg} {k0 : Nat} {i1 : Int32} {ko : Nat} (hI : Inj ρ) (hk0 : kd k0 = (0, 8)) (hko : (kd ko).1 = 2) (hn9 : ko < 97) {r : Int32 × Sg × Tg} (h : f_L_type σ τ k0 i1 ko = some r) : CtA l yL_type cL_type 4 (some .int) [(0, 9, 12, 13), (0, 9, 15, 48)] 7 111 D cA ρ [.ref (ρ k0), .int i1, .ref (ρ ko)] σ τ (some (.int r.1)) r.2.1 r.2.2 := by
  refine CtA_of (by decide +kernel) (Nat.le_of_ble_eq_true rfl) (fun p e s m args below meth c C X ht => ?_)
  have C : Ctx p l s m args meth c cL_type RL 4 (some .int) D cA ρ (Ax ρ s.heap.size) := C
  have hW : Wr ρ (Ax ρ s.heap.size) := ⟨hI, fun k hk => Or.inl ⟨k, hk, rfl⟩⟩
  unfold f_L_type at h
  obtain ⟨v, hv, h⟩ := Option.bind_eq_some_iff.mp h
  refine Y_sub [0, 1, 2] (lv' := [(0, .ref (ρ k0)), (1, .int i1), (2, .ref (ρ ko))]) rfl ?_
  refine Y_aload_n C (pc := 0) 2 2 rfl rfl dL_type_0 ?_
  refine Y_iconst C (pc := 1) (v := (0 : Int32)) (by decide) dL_type_1 ?_
  refine Y_aload_n C (pc := 2) 0 0 rfl rfl dL_type_2 ?_
  refine Y_iload_n C (pc := 3) 1 1 rfl rfl dL_type_3 ?_
  rcases v with n | w
  · simp only [Sum.elim_inl] at h
    by_cases e0 : n.1 = 0
    · rw [if_pos e0] at h
      cases h
      have tc := t_X8_type (l := l) (D := D) (cA := cA) (ρ := ρ) (τ := τ) hI hk0 hv
      rw [e0] at tc
      refine Y_callVC C X ht (pc := 4) [.int i1] [.int (0 : Int32), .ref (ρ ko)] hk0 rfl rfl tc q_cw_yX8_type q_ml_RL_74 ⟨q_im_yX8_type, q_se_yX8_type⟩ ⟨⟨Nat.le_of_ble_eq_true rfl, Nat.le_of_ble_eq_true rfl⟩, ⟨Nat.le_of_ble_eq_true rfl, Nat.le_of_ble_eq_true rfl⟩, Nat.le_of_ble_eq_true rfl⟩ rfl rfl dL_type_4 [] ⟨0, 9, 12, 13⟩ [⟨0, 9, 15, 48⟩] rfl (fun z hz => nomatch hz) (by decide +kernel) (by decide +kernel) q_cl_RL_13 q_ca_0 (fun q => ?_)
      refine Y_astore_n C (pc := 12) (lv' := [(3, .ref q), (0, .ref (ρ k0)), (1, .int i1), (2, .ref (ρ ko))]) 3 rfl (by decide) rfl dL_type_12 ?_
      refine Y_iconst C (pc := 13) (v := (1 : Int32)) (by decide) dL_type_13 ?_
      exact Y_iret C dL_type_14
    rw [if_neg e0] at h
    by_cases e1 : n.1 = 1
    · rw [if_pos e1] at h
      cases h
      have tc := t_X8_type (l := l) (D := D) (cA := cA) (ρ := ρ) (τ := τ) hI hk0 hv
      rw [e1] at tc
      refine Y_callVC C X ht (pc := 4) [.int i1] [.int (0 : Int32), .ref (ρ ko)] hk0 rfl rfl tc q_cw_yX8_type q_ml_RL_74 ⟨q_im_yX8_type, q_se_yX8_type⟩ ⟨⟨Nat.le_of_ble_eq_true rfl, Nat.le_of_ble_eq_true rfl⟩, ⟨Nat.le_of_ble_eq_true rfl, Nat.le_of_ble_eq_true rfl⟩, Nat.le_of_ble_eq_true rfl⟩ rfl rfl dL_type_4 [⟨0, 9, 12, 13⟩] ⟨0, 9, 15, 48⟩ [] rfl (fun z hz => by rw [List.mem_singleton.mp hz]; exact ⟨by decide +kernel, xn 0, q_cl_RL_13, by decide +kernel⟩) (by decide +kernel) (by decide +kernel) q_cl_RL_48 q_ca_1 (fun q => ?_)
      refine Y_astore_n C (pc := 15) (lv' := [(3, .ref q), (0, .ref (ρ k0)), (1, .int i1), (2, .ref (ρ ko))]) 3 rfl (by decide) rfl dL_type_15 ?_
      refine Y_iconst C (pc := 16) (v := (2 : Int32)) (by decide) dL_type_16 ?_
      exact Y_iret C dL_type_17
    rw [if_neg e1] at h
    cases h
  · simp only [Sum.elim_inr] at h
    obtain ⟨t, ht9, h⟩ := Option.bind_eq_some_iff.mp h
    cases h
    refine Y_callV C (pc := 4) [.int i1] [.int (0 : Int32), .ref (ρ ko)] (.int w.1 :: [.int (0 : Int32), .ref (ρ ko)]) hk0 rfl rfl (c_X8_type hI hk0 hv) (fun _ h => Or.inl h) q_cw_yX8_type q_ml_RL_74 ⟨q_im_yX8_type, q_se_yX8_type⟩ ⟨⟨Nat.le_of_ble_eq_true rfl, Nat.le_of_ble_eq_true rfl⟩, ⟨Nat.zero_le _, Nat.zero_le _⟩, Nat.le_of_ble_eq_true rfl⟩ rfl rfl rfl dL_type_4 ?_
    refine Y_widen (k := 1) (n := 6) (Nat.le_of_ble_eq_true rfl) (Nat.le_of_ble_eq_true rfl) ?_
    refine Y_i2l C (pc := 7) dL_type_7 ?_
    refine Y_last C (pc := 8) hW hko hn9 ht9 dL_type_8 ?_
    refine Y_goto C (pc := 9) (tgt := 18) dL_type_9 (by decide) ?_
    refine Y_iconst C (pc := 18) (v := (0 : Int32)) (by decide) dL_type_18 ?_
    exact Y_iret C dL_type_19

set_option maxRecDepth 100000 in
set_option maxHeartbeats 4000000 in
theorem c_L_run {l : Launch} {D : va_G} {cA ρ : Nat → Nat} {σ : Sg} {τ : Tg} {k0 : Nat}  {ko : Nat} (hI : Inj ρ) (hk0 : kd k0 = (0, 8)) (hko : (kd ko).1 = 2) (hn9 : ko < 97) {r : Int32 × Sg × Tg} (h : f_L_run σ τ k0  ko = some r) : CtA l yL_run cL_run 3 (some .int) [(0, 8, 11, 13)] 7 144 D cA ρ [.ref (ρ k0), .ref (ρ ko)] σ τ (some (.int r.1)) r.2.1 r.2.2 := by
  refine CtA_of (by decide +kernel) (Nat.le_of_ble_eq_true rfl) (fun p e s m args below meth c C X ht => ?_)
  have C : Ctx p l s m args meth c cL_run RL 3 (some .int) D cA ρ (Ax ρ s.heap.size) := C
  have hW : Wr ρ (Ax ρ s.heap.size) := ⟨hI, fun k hk => Or.inl ⟨k, hk, rfl⟩⟩
  unfold f_L_run at h
  obtain ⟨v, hv, h⟩ := Option.bind_eq_some_iff.mp h
  refine Y_sub [0, 1] (lv' := [(0, .ref (ρ k0)), (1, .ref (ρ ko))]) rfl ?_
  refine Y_aload_n C (pc := 0) 1 1 rfl rfl dL_run_0 ?_
  refine Y_iconst C (pc := 1) (v := (0 : Int32)) (by decide) dL_run_1 ?_
  refine Y_aload_n C (pc := 2) 0 0 rfl rfl dL_run_2 ?_
  rcases v with n | w
  · simp only [Sum.elim_inl] at h
    by_cases e0 : n.1 = 0
    · rw [if_pos e0] at h
      cases h
      have tc := t_X8_run (l := l) (D := D) (cA := cA) (ρ := ρ) (τ := τ) hI hk0 hv
      rw [e0] at tc
      refine Y_callVC C X ht (pc := 3) [] [.int (0 : Int32), .ref (ρ ko)] hk0 rfl rfl tc q_cw_yX8_run q_ml_RL_77 ⟨q_im_yX8_run, q_se_yX8_run⟩ ⟨⟨Nat.le_of_ble_eq_true rfl, Nat.le_of_ble_eq_true rfl⟩, ⟨Nat.le_of_ble_eq_true rfl, Nat.le_of_ble_eq_true rfl⟩, Nat.le_of_ble_eq_true rfl⟩ rfl rfl dL_run_3 [] ⟨0, 8, 11, 13⟩ [] rfl (fun z hz => nomatch hz) (by decide +kernel) (by decide +kernel) q_cl_RL_13 q_ca_0 (fun q => ?_)
      refine Y_astore_n C (pc := 11) (lv' := [(2, .ref q), (0, .ref (ρ k0)), (1, .ref (ρ ko))]) 2 rfl (by decide) rfl dL_run_11 ?_
      refine Y_iconst C (pc := 12) (v := (1 : Int32)) (by decide) dL_run_12 ?_
      exact Y_iret C dL_run_13
    rw [if_neg e0] at h
    cases h
  · simp only [Sum.elim_inr] at h
    obtain ⟨t, ht9, h⟩ := Option.bind_eq_some_iff.mp h
    cases h
    refine Y_callV C (pc := 3) [] [.int (0 : Int32), .ref (ρ ko)] (.int w.1 :: [.int (0 : Int32), .ref (ρ ko)]) hk0 rfl rfl (c_X8_run hI hk0 hv) (fun _ h => Or.inl h) q_cw_yX8_run q_ml_RL_77 ⟨q_im_yX8_run, q_se_yX8_run⟩ ⟨⟨Nat.le_of_ble_eq_true rfl, Nat.le_of_ble_eq_true rfl⟩, ⟨Nat.zero_le _, Nat.zero_le _⟩, Nat.le_of_ble_eq_true rfl⟩ rfl rfl rfl dL_run_3 ?_
    refine Y_widen (k := 1) (n := 6) (Nat.le_of_ble_eq_true rfl) (Nat.le_of_ble_eq_true rfl) ?_
    refine Y_i2l C (pc := 6) dL_run_6 ?_
    refine Y_last C (pc := 7) hW hko hn9 ht9 dL_run_7 ?_
    refine Y_goto C (pc := 8) (tgt := 14) dL_run_8 (by decide) ?_
    refine Y_iconst C (pc := 14) (v := (0 : Int32)) (by decide) dL_run_14 ?_
    exact Y_iret C dL_run_15

set_option maxRecDepth 100000 in
set_option maxHeartbeats 4000000 in
theorem c_L_undo {l : Launch} {D : va_G} {cA ρ : Nat → Nat} {σ : Sg} {τ : Tg} {k0 : Nat}  {ko : Nat} (hI : Inj ρ) (hk0 : kd k0 = (0, 8)) (hko : (kd ko).1 = 2) (hn9 : ko < 97) {r : Int32 × Sg × Tg} (h : f_L_undo σ τ k0  ko = some r) : CtA l yL_undo cL_undo 3 (some .int) [(0, 8, 11, 48)] 7 110 D cA ρ [.ref (ρ k0), .ref (ρ ko)] σ τ (some (.int r.1)) r.2.1 r.2.2 := by
  refine CtA_of (by decide +kernel) (Nat.le_of_ble_eq_true rfl) (fun p e s m args below meth c C X ht => ?_)
  have C : Ctx p l s m args meth c cL_undo RL 3 (some .int) D cA ρ (Ax ρ s.heap.size) := C
  have hW : Wr ρ (Ax ρ s.heap.size) := ⟨hI, fun k hk => Or.inl ⟨k, hk, rfl⟩⟩
  unfold f_L_undo at h
  obtain ⟨v, hv, h⟩ := Option.bind_eq_some_iff.mp h
  refine Y_sub [0, 1] (lv' := [(0, .ref (ρ k0)), (1, .ref (ρ ko))]) rfl ?_
  refine Y_aload_n C (pc := 0) 1 1 rfl rfl dL_undo_0 ?_
  refine Y_iconst C (pc := 1) (v := (0 : Int32)) (by decide) dL_undo_1 ?_
  refine Y_aload_n C (pc := 2) 0 0 rfl rfl dL_undo_2 ?_
  rcases v with n | w
  · simp only [Sum.elim_inl] at h
    by_cases e0 : n.1 = 1
    · rw [if_pos e0] at h
      cases h
      have tc := t_X8_undo (l := l) (D := D) (cA := cA) (ρ := ρ) (τ := τ) hI hk0 hv
      rw [e0] at tc
      refine Y_callVC C X ht (pc := 3) [] [.int (0 : Int32), .ref (ρ ko)] hk0 rfl rfl tc q_cw_yX8_undo q_ml_RL_81 ⟨q_im_yX8_undo, q_se_yX8_undo⟩ ⟨⟨Nat.le_of_ble_eq_true rfl, Nat.le_of_ble_eq_true rfl⟩, ⟨Nat.le_of_ble_eq_true rfl, Nat.le_of_ble_eq_true rfl⟩, Nat.le_of_ble_eq_true rfl⟩ rfl rfl dL_undo_3 [] ⟨0, 8, 11, 48⟩ [] rfl (fun z hz => nomatch hz) (by decide +kernel) (by decide +kernel) q_cl_RL_48 q_ca_1 (fun q => ?_)
      refine Y_astore_n C (pc := 11) (lv' := [(2, .ref q), (0, .ref (ρ k0)), (1, .ref (ρ ko))]) 2 rfl (by decide) rfl dL_undo_11 ?_
      refine Y_iconst C (pc := 12) (v := (1 : Int32)) (by decide) dL_undo_12 ?_
      exact Y_iret C dL_undo_13
    rw [if_neg e0] at h
    cases h
  · simp only [Sum.elim_inr] at h
    obtain ⟨t, ht9, h⟩ := Option.bind_eq_some_iff.mp h
    cases h
    refine Y_callV C (pc := 3) [] [.int (0 : Int32), .ref (ρ ko)] (.int w.1 :: [.int (0 : Int32), .ref (ρ ko)]) hk0 rfl rfl (c_X8_undo hI hk0 hv) (fun _ h => Or.inl h) q_cw_yX8_undo q_ml_RL_81 ⟨q_im_yX8_undo, q_se_yX8_undo⟩ ⟨⟨Nat.le_of_ble_eq_true rfl, Nat.le_of_ble_eq_true rfl⟩, ⟨Nat.zero_le _, Nat.zero_le _⟩, Nat.le_of_ble_eq_true rfl⟩ rfl rfl rfl dL_undo_3 ?_
    refine Y_widen (k := 1) (n := 6) (Nat.le_of_ble_eq_true rfl) (Nat.le_of_ble_eq_true rfl) ?_
    refine Y_i2l C (pc := 6) dL_undo_6 ?_
    refine Y_last C (pc := 7) hW hko hn9 ht9 dL_undo_7 ?_
    refine Y_goto C (pc := 8) (tgt := 14) dL_undo_8 (by decide) ?_
    refine Y_iconst C (pc := 14) (v := (0 : Int32)) (by decide) dL_undo_14 ?_
    exact Y_iret C dL_undo_15

