set_option maxRecDepth 100000 in
set_option maxHeartbeats 40000000 in
/-- the law's loop, at its head, runs to its end with 1 if f_law does -/
theorem law_loop {p : Program} {l : Launch} {e : Env} {s : State} {m : MethodId} {below : List Frame} {meth : Method} {c : Code} {D : va_G} {cA ρ : Nat → Nat} {A : Nat → Prop} {b L : Nat} {xs : Nat → Int32} (c0 s0 : Nat) (hc0 : c0 ≤ 600000) (hs0 : s0 ≤ 7000000) (hL : L ≤ 2560) (C : Ctx p l s m #[Value.ref b] meth c code RL 7 ret D cA ρ A) (X : Xc l A s) (hX : va_X b L xs s s.heap) (hbl : b < s.heap.size) (hbA : ¬ A b) (hA0 : ∀ q, s.heap.size ≤ q → A q) (hA1 : ∀ q, A q → s.heap.size ≤ q) (hI : Inj ρ) (hW : Wr ρ A) {σ : Sg} {τ : Tg} {i : Int32} (hi0 : 0 ≤ i.toInt ∧ i.toInt ≤ 2560) (h : lo (f_law xs L) (i, σ, τ) = some 1) : Y p l e room_1 s m #[Value.ref b] below meth c 7 D cA ρ A (c0 + i.toNatClampNeg / 5) (s0 + 6 * (i.toNatClampNeg / 5)) (lw_Z below #[Value.ref b] s) σ τ 23 [(0, .ref b), (1, .ref (ρ 0)), (2, .ref (ρ 75)), (3, .ref (ρ 96)), (4, .int i)] [] := by
  have hAw : ∀ q, Aw ρ q → A q := fun q h => by obtain ⟨j, hj, rfl⟩ := h; exact hW.2 j hj
  refine lo_rule (f := f_law xs L) (YS := fun s1 => 0 ≤ s1.1.toInt ∧ s1.1.toInt ≤ 2560 → Y p l e room_1 s m #[Value.ref b] below meth c 7 D cA ρ A (c0 + s1.1.toNatClampNeg / 5) (s0 + 6 * (s1.1.toNatClampNeg / 5)) (lw_Z below #[Value.ref b] s) s1.2.1 s1.2.2 23 [(0, .ref b), (1, .ref (ρ 0)), (2, .ref (ρ 75)), (3, .ref (ρ 96)), (4, .int s1.1)] []) (YE := fun v => v = 1) ?_ h rfl hi0
  intro s1 x h hLp hE hi9
  have hi := hi9.1
  have hcl := law_cl hi9
  unfold f_law at h
  refine Y_iload C (pc := 23) 4 rfl dL_law_23 ?_
  refine Y_aload_n C (pc := 25) 0 0 rfl rfl dL_law_25 ?_
  refine Y_slen C (pc := 26) hX hbl hbA dL_law_26 ?_
  refine Y_iconst C (pc := 27) (v := (5 : Int32)) (by decide) dL_law_27 ?_
  refine Y_isub C (pc := 28) dL_law_28 ?_
  refine Y_icmp_gt C (pc := 29) (tgt := 1853) dL_law_29 (by decide) (fun c2 => ?_) (fun c2 => ?_)
  · rw [if_pos c2] at h
    refine Y_iconst C (pc := 1853) (v := (1 : Int32)) (by decide) dL_law_1853 ?_
    exact Y_lawret C hA1 dL_law_1854 (by omega) (by omega)
  · rw [if_neg c2] at h
    have hiL := law_le hL c2
    obtain ⟨hi5, hwA, hwB, hwC, hwD, hb5⟩ := law_wid c0 s0 hi hiL
    have hJ1847 : ∀ (sj13 : Sg) (tj14 : Tg), f_law_J1847 s1 sj13 tj14 = some x → Y p l e room_1 s m #[Value.ref b] below meth c 7 D cA ρ A (c0 + s1.1.toNatClampNeg / 5 + 1) (s0 + 6 * (s1.1.toNatClampNeg / 5) + 6) (lw_Z below #[Value.ref b] s) sj13 tj14 1847 [(0, .ref b), (1, .ref (ρ 0)), (2, .ref (ρ 75)), (3, .ref (ρ 96)), (4, .int s1.1)] [] := by
      intro sj13 tj14 h
      unfold f_law_J1847 at h
      refine Y_iinc C (pc := 1847) (v := (s1.1 + 5)) (lv' := [(4, .int (s1.1 + 5)), (0, .ref b), (1, .ref (ρ 0)), (2, .ref (ρ 75)), (3, .ref (ρ 96))]) 4 rfl (congrArg (fun z => s1.1 + z) (by decide : Int32.ofInt (5) = (5))) (by decide) rfl dL_law_1847 ?_
      refine Y_goto C (pc := 1850) (tgt := 23) dL_law_1850 (by decide) ?_
      have h := Option.some.inj h
      exact Y_widen (k := c0 + ((s1.1 + 5)).toNatClampNeg / 5) (n := s0 + 6 * (((s1.1 + 5)).toNatClampNeg / 5)) hwA hwB (Y_sub [1, 2, 3, 4, 0] rfl (hLp _ h.symm hi5))
    have hJ1830 : ∀ (sj349 : Sg) (tj350 : Tg), f_law_J1830 s1 sj349 tj350 = some x → Y p l e room_1 s m #[Value.ref b] below meth c 7 D cA ρ A (c0 + s1.1.toNatClampNeg / 5 + 1) (s0 + 6 * (s1.1.toNatClampNeg / 5) + 6) (lw_Z below #[Value.ref b] s) sj349 tj350 1830 [(0, .ref b), (1, .ref (ρ 0)), (2, .ref (ρ 75)), (3, .ref (ρ 96)), (4, .int s1.1)] [] := by
      intro sj349 tj350 h
      unfold f_law_J1830 at h
      refine Y_goto C (pc := 1830) (tgt := 1847) dL_law_1830 (by decide) ?_
      exact Y_sub [0, 1, 2, 3, 4] rfl (hJ1847 _ _ h)
    have hJ1786 : ∀ (sj340 : Sg) (tj341 : Tg), f_law_J1786 s1 sj340 tj341 = some x → Y p l e room_1 s m #[Value.ref b] below meth c 7 D cA ρ A (c0 + s1.1.toNatClampNeg / 5 + 1) (s0 + 6 * (s1.1.toNatClampNeg / 5) + 6) (lw_Z below #[Value.ref b] s) sj340 tj341 1786 [(0, .ref b), (1, .ref (ρ 0)), (2, .ref (ρ 75)), (3, .ref (ρ 96)), (4, .int s1.1)] [] := by
      intro sj340 tj341 h
      unfold f_law_J1786 at h
      refine Y_goto C (pc := 1786) (tgt := 1847) dL_law_1786 (by decide) ?_
      exact Y_sub [0, 1, 2, 3, 4] rfl (hJ1847 _ _ h)
    have hJ1716 : ∀ (sj325 : Sg) (tj326 : Tg), f_law_J1716 s1 sj325 tj326 = some x → Y p l e room_1 s m #[Value.ref b] below meth c 7 D cA ρ A (c0 + s1.1.toNatClampNeg / 5 + 1) (s0 + 6 * (s1.1.toNatClampNeg / 5) + 6) (lw_Z below #[Value.ref b] s) sj325 tj326 1716 [(0, .ref b), (1, .ref (ρ 0)), (2, .ref (ρ 75)), (3, .ref (ρ 96)), (4, .int s1.1)] [] := by
      intro sj325 tj326 h
      unfold f_law_J1716 at h
      refine Y_goto C (pc := 1716) (tgt := 1847) dL_law_1716 (by decide) ?_
      exact Y_sub [0, 1, 2, 3, 4] rfl (hJ1847 _ _ h)
    have hJ1660 : ∀ (sj314 : Sg) (tj315 : Tg), f_law_J1660 s1 sj314 tj315 = some x → Y p l e room_1 s m #[Value.ref b] below meth c 7 D cA ρ A (c0 + s1.1.toNatClampNeg / 5 + 1) (s0 + 6 * (s1.1.toNatClampNeg / 5) + 6) (lw_Z below #[Value.ref b] s) sj314 tj315 1660 [(0, .ref b), (1, .ref (ρ 0)), (2, .ref (ρ 75)), (3, .ref (ρ 96)), (4, .int s1.1)] [] := by
      intro sj314 tj315 h
      unfold f_law_J1660 at h
      refine Y_goto C (pc := 1660) (tgt := 1847) dL_law_1660 (by decide) ?_
      exact Y_sub [0, 1, 2, 3, 4] rfl (hJ1847 _ _ h)
    have hJ1604 : ∀ (sj303 : Sg) (tj304 : Tg), f_law_J1604 s1 sj303 tj304 = some x → Y p l e room_1 s m #[Value.ref b] below meth c 7 D cA ρ A (c0 + s1.1.toNatClampNeg / 5 + 1) (s0 + 6 * (s1.1.toNatClampNeg / 5) + 6) (lw_Z below #[Value.ref b] s) sj303 tj304 1604 [(0, .ref b), (1, .ref (ρ 0)), (2, .ref (ρ 75)), (3, .ref (ρ 96)), (4, .int s1.1)] [] := by
      intro sj303 tj304 h
      unfold f_law_J1604 at h
      refine Y_goto C (pc := 1604) (tgt := 1847) dL_law_1604 (by decide) ?_
      exact Y_sub [0, 1, 2, 3, 4] rfl (hJ1847 _ _ h)
    have hJ1543 : ∀ (j289 : Int32) (j290 : Int32) (j291 : Int32) (sj292 : Sg) (tj293 : Tg), f_law_J1543 s1 j289 j290 j291 sj292 tj293 = some x → Y p l e room_1 s m #[Value.ref b] below meth c 7 D cA ρ A (c0 + s1.1.toNatClampNeg / 5 + 1) (s0 + 6 * (s1.1.toNatClampNeg / 5) + 6) (lw_Z below #[Value.ref b] s) sj292 tj293 1543 [(0, .ref b), (1, .ref (ρ 0)), (2, .ref (ρ 75)), (3, .ref (ρ 96)), (4, .int s1.1)] [.int j289, .int j290, .ref (ρ 75), .int j291] := by
      intro j289 j290 j291 sj292 tj293 h
      unfold f_law_J1543 at h
      obtain ⟨v294, hv294, h⟩ := Option.bind_eq_some_iff.mp h
      refine Y_callV C (pc := 1543) [.int j290, .int j289] [.int j291] [.int v294.1, .int j291] (kb := 75) kd75 rfl rfl (c_X9_search hI kd75 hv294) hAw q_cw_yX9_search q_ml_RL_206 ⟨q_im_yX9_search, q_se_yX9_search⟩ ⟨⟨Nat.le_of_ble_eq_true rfl, Nat.le_of_ble_eq_true rfl⟩, ⟨by show _ ≤ 601024; omega, by show _ ≤ 7293033; omega⟩, Nat.le_of_ble_eq_true rfl⟩ rfl rfl rfl dL_law_1543 ?_
      refine Y_icmp_eq C (pc := 1546) (tgt := 1847) dL_law_1546 (by decide) (fun c295 => ?_) (fun c295 => ?_)
      · rw [if_pos c295] at h
        exact Y_sub [0, 1, 2, 3, 4] rfl (hJ1847 _ _ h)
      · rw [if_neg c295] at h
        exact absurd (hE _ (Option.some.inj h).symm) (by decide)
    have hJ1529 : ∀ (j283 : Int32) (j284 : Int32) (sj285 : Sg) (tj286 : Tg), f_law_J1529 xs L s1 j283 j284 sj285 tj286 = some x → Y p l e room_1 s m #[Value.ref b] below meth c 7 D cA ρ A (c0 + s1.1.toNatClampNeg / 5 + 1) (s0 + 6 * (s1.1.toNatClampNeg / 5) + 6) (lw_Z below #[Value.ref b] s) sj285 tj286 1529 [(0, .ref b), (1, .ref (ρ 0)), (2, .ref (ρ 75)), (3, .ref (ρ 96)), (4, .int s1.1)] [.int j283, .ref (ρ 75), .int j284] := by
      intro j283 j284 sj285 tj286 h
      unfold f_law_J1529 at h
      refine Y_aload_n C (pc := 1529) 0 0 rfl rfl dL_law_1529 ?_
      refine Y_iload C (pc := 1530) 4 rfl dL_law_1530 ?_
      refine Y_iconst C (pc := 1532) (v := (2 : Int32)) (by decide) dL_law_1532 ?_
      refine Y_iadd C (pc := 1533) dL_law_1533 ?_
      obtain ⟨v287, hv287, h⟩ := Option.bind_eq_some_iff.mp h
      refine Y_sld C (pc := 1534) hX hbl hbA hv287 dL_law_1534 ?_
      refine Y_if_eq C (pc := 1535) (tgt := 1542) dL_law_1535 (by decide) (fun c288 => ?_) (fun c288 => ?_)
      · rw [if_pos c288] at h
        refine Y_iconst C (pc := 1542) (v := (0 : Int32)) (by decide) dL_law_1542 ?_
        exact Y_sub [0, 1, 2, 3, 4] rfl (hJ1543 _ _ _ _ _ h)
      · rw [if_neg c288] at h
        refine Y_iconst C (pc := 1538) (v := (1 : Int32)) (by decide) dL_law_1538 ?_
        refine Y_goto C (pc := 1539) (tgt := 1543) dL_law_1539 (by decide) ?_
        exact Y_sub [0, 1, 2, 3, 4] rfl (hJ1543 _ _ _ _ _ h)
    have hJ1511 : ∀ (j276 : Int32) (j277 : Int32) (sj278 : Sg) (tj279 : Tg), f_law_J1511 xs L s1 j276 j277 sj278 tj279 = some x → Y p l e room_1 s m #[Value.ref b] below meth c 7 D cA ρ A (c0 + s1.1.toNatClampNeg / 5 + 1) (s0 + 6 * (s1.1.toNatClampNeg / 5) + 6) (lw_Z below #[Value.ref b] s) sj278 tj279 1511 [(0, .ref b), (1, .ref (ρ 0)), (2, .ref (ρ 75)), (3, .ref (ρ 96)), (4, .int s1.1)] [.int j276, .int j277, .ref (ρ 0)] := by
      intro j276 j277 sj278 tj279 h
      unfold f_law_J1511 at h
      obtain ⟨v280, hv280, h⟩ := Option.bind_eq_some_iff.mp h
      refine Y_callV C (pc := 1511) [.int j277, .int j276] [] [.int v280.1] (kb := 0) kd0 rfl rfl (c_X8_search hI kd0 hv280) hAw q_cw_yX8_search q_ml_RL_202 ⟨q_im_yX8_search, q_se_yX8_search⟩ ⟨⟨Nat.le_of_ble_eq_true rfl, Nat.le_of_ble_eq_true rfl⟩, ⟨by show _ ≤ 601024; omega, by show _ ≤ 7293033; omega⟩, Nat.le_of_ble_eq_true rfl⟩ rfl rfl rfl dL_law_1511 ?_
      refine Y_aload_n C (pc := 1514) 2 2 rfl rfl dL_law_1514 ?_
      refine Y_aload_n C (pc := 1515) 0 0 rfl rfl dL_law_1515 ?_
      refine Y_iload C (pc := 1516) 4 rfl dL_law_1516 ?_
      refine Y_iconst C (pc := 1518) (v := (1 : Int32)) (by decide) dL_law_1518 ?_
      refine Y_iadd C (pc := 1519) dL_law_1519 ?_
      obtain ⟨v281, hv281, h⟩ := Option.bind_eq_some_iff.mp h
      refine Y_sld C (pc := 1520) hX hbl hbA hv281 dL_law_1520 ?_
      refine Y_if_eq C (pc := 1521) (tgt := 1528) dL_law_1521 (by decide) (fun c282 => ?_) (fun c282 => ?_)
      · rw [if_pos c282] at h
        refine Y_iconst C (pc := 1528) (v := (0 : Int32)) (by decide) dL_law_1528 ?_
        exact Y_sub [0, 1, 2, 3, 4] rfl (hJ1529 _ _ _ _ h)
      · rw [if_neg c282] at h
        refine Y_iconst C (pc := 1524) (v := (1 : Int32)) (by decide) dL_law_1524 ?_
        refine Y_goto C (pc := 1525) (tgt := 1529) dL_law_1525 (by decide) ?_
        exact Y_sub [0, 1, 2, 3, 4] rfl (hJ1529 _ _ _ _ h)
    have hJ1497 : ∀ (j271 : Int32) (sj272 : Sg) (tj273 : Tg), f_law_J1497 xs L s1 j271 sj272 tj273 = some x → Y p l e room_1 s m #[Value.ref b] below meth c 7 D cA ρ A (c0 + s1.1.toNatClampNeg / 5 + 1) (s0 + 6 * (s1.1.toNatClampNeg / 5) + 6) (lw_Z below #[Value.ref b] s) sj272 tj273 1497 [(0, .ref b), (1, .ref (ρ 0)), (2, .ref (ρ 75)), (3, .ref (ρ 96)), (4, .int s1.1)] [.int j271, .ref (ρ 0)] := by
      intro j271 sj272 tj273 h
      unfold f_law_J1497 at h
      refine Y_aload_n C (pc := 1497) 0 0 rfl rfl dL_law_1497 ?_
      refine Y_iload C (pc := 1498) 4 rfl dL_law_1498 ?_
      refine Y_iconst C (pc := 1500) (v := (2 : Int32)) (by decide) dL_law_1500 ?_
      refine Y_iadd C (pc := 1501) dL_law_1501 ?_
      obtain ⟨v274, hv274, h⟩ := Option.bind_eq_some_iff.mp h
      refine Y_sld C (pc := 1502) hX hbl hbA hv274 dL_law_1502 ?_
      refine Y_if_eq C (pc := 1503) (tgt := 1510) dL_law_1503 (by decide) (fun c275 => ?_) (fun c275 => ?_)
      · rw [if_pos c275] at h
        refine Y_iconst C (pc := 1510) (v := (0 : Int32)) (by decide) dL_law_1510 ?_
        exact Y_sub [0, 1, 2, 3, 4] rfl (hJ1511 _ _ _ _ h)
      · rw [if_neg c275] at h
        refine Y_iconst C (pc := 1506) (v := (1 : Int32)) (by decide) dL_law_1506 ?_
        refine Y_goto C (pc := 1507) (tgt := 1511) dL_law_1507 (by decide) ?_
        exact Y_sub [0, 1, 2, 3, 4] rfl (hJ1511 _ _ _ _ h)
    have hJ1479 : ∀ (sj265 : Sg) (tj266 : Tg), f_law_J1479 s1 sj265 tj266 = some x → Y p l e room_1 s m #[Value.ref b] below meth c 7 D cA ρ A (c0 + s1.1.toNatClampNeg / 5 + 1) (s0 + 6 * (s1.1.toNatClampNeg / 5) + 6) (lw_Z below #[Value.ref b] s) sj265 tj266 1479 [(0, .ref b), (1, .ref (ρ 0)), (2, .ref (ρ 75)), (3, .ref (ρ 96)), (4, .int s1.1)] [] := by
      intro sj265 tj266 h
      unfold f_law_J1479 at h
      refine Y_goto C (pc := 1479) (tgt := 1847) dL_law_1479 (by decide) ?_
      exact Y_sub [0, 1, 2, 3, 4] rfl (hJ1847 _ _ h)
    have hJ1397 : ∀ (sj248 : Sg) (tj249 : Tg), f_law_J1397 s1 sj248 tj249 = some x → Y p l e room_1 s m #[Value.ref b] below meth c 7 D cA ρ A (c0 + s1.1.toNatClampNeg / 5 + 1) (s0 + 6 * (s1.1.toNatClampNeg / 5) + 6) (lw_Z below #[Value.ref b] s) sj248 tj249 1397 [(0, .ref b), (1, .ref (ρ 0)), (2, .ref (ρ 75)), (3, .ref (ρ 96)), (4, .int s1.1)] [] := by
      intro sj248 tj249 h
      unfold f_law_J1397 at h
      refine Y_goto C (pc := 1397) (tgt := 1847) dL_law_1397 (by decide) ?_
      exact Y_sub [0, 1, 2, 3, 4] rfl (hJ1847 _ _ h)
    have hJ1341 : ∀ (sj237 : Sg) (tj238 : Tg), f_law_J1341 s1 sj237 tj238 = some x → Y p l e room_1 s m #[Value.ref b] below meth c 7 D cA ρ A (c0 + s1.1.toNatClampNeg / 5 + 1) (s0 + 6 * (s1.1.toNatClampNeg / 5) + 6) (lw_Z below #[Value.ref b] s) sj237 tj238 1341 [(0, .ref b), (1, .ref (ρ 0)), (2, .ref (ρ 75)), (3, .ref (ρ 96)), (4, .int s1.1)] [] := by
      intro sj237 tj238 h
      unfold f_law_J1341 at h
      refine Y_goto C (pc := 1341) (tgt := 1847) dL_law_1341 (by decide) ?_
      exact Y_sub [0, 1, 2, 3, 4] rfl (hJ1847 _ _ h)
    have hJ1260 : ∀ (sj221 : Sg) (tj222 : Tg), f_law_J1260 s1 sj221 tj222 = some x → Y p l e room_1 s m #[Value.ref b] below meth c 7 D cA ρ A (c0 + s1.1.toNatClampNeg / 5 + 1) (s0 + 6 * (s1.1.toNatClampNeg / 5) + 6) (lw_Z below #[Value.ref b] s) sj221 tj222 1260 [(0, .ref b), (1, .ref (ρ 0)), (2, .ref (ρ 75)), (3, .ref (ρ 96)), (4, .int s1.1)] [] := by
      intro sj221 tj222 h
      unfold f_law_J1260 at h
      refine Y_goto C (pc := 1260) (tgt := 1847) dL_law_1260 (by decide) ?_
      exact Y_sub [0, 1, 2, 3, 4] rfl (hJ1847 _ _ h)
    have hJ1179 : ∀ (sj205 : Sg) (tj206 : Tg), f_law_J1179 s1 sj205 tj206 = some x → Y p l e room_1 s m #[Value.ref b] below meth c 7 D cA ρ A (c0 + s1.1.toNatClampNeg / 5 + 1) (s0 + 6 * (s1.1.toNatClampNeg / 5) + 6) (lw_Z below #[Value.ref b] s) sj205 tj206 1179 [(0, .ref b), (1, .ref (ρ 0)), (2, .ref (ρ 75)), (3, .ref (ρ 96)), (4, .int s1.1)] [] := by
      intro sj205 tj206 h
      unfold f_law_J1179 at h
      refine Y_goto C (pc := 1179) (tgt := 1847) dL_law_1179 (by decide) ?_
      exact Y_sub [0, 1, 2, 3, 4] rfl (hJ1847 _ _ h)
    have hJ1123 : ∀ (sj194 : Sg) (tj195 : Tg), f_law_J1123 s1 sj194 tj195 = some x → Y p l e room_1 s m #[Value.ref b] below meth c 7 D cA ρ A (c0 + s1.1.toNatClampNeg / 5 + 1) (s0 + 6 * (s1.1.toNatClampNeg / 5) + 6) (lw_Z below #[Value.ref b] s) sj194 tj195 1123 [(0, .ref b), (1, .ref (ρ 0)), (2, .ref (ρ 75)), (3, .ref (ρ 96)), (4, .int s1.1)] [] := by
      intro sj194 tj195 h
      unfold f_law_J1123 at h
      refine Y_goto C (pc := 1123) (tgt := 1847) dL_law_1123 (by decide) ?_
      exact Y_sub [0, 1, 2, 3, 4] rfl (hJ1847 _ _ h)
    have hJ1067 : ∀ (sj183 : Sg) (tj184 : Tg), f_law_J1067 s1 sj183 tj184 = some x → Y p l e room_1 s m #[Value.ref b] below meth c 7 D cA ρ A (c0 + s1.1.toNatClampNeg / 5 + 1) (s0 + 6 * (s1.1.toNatClampNeg / 5) + 6) (lw_Z below #[Value.ref b] s) sj183 tj184 1067 [(0, .ref b), (1, .ref (ρ 0)), (2, .ref (ρ 75)), (3, .ref (ρ 96)), (4, .int s1.1)] [] := by
      intro sj183 tj184 h
      unfold f_law_J1067 at h
      refine Y_goto C (pc := 1067) (tgt := 1847) dL_law_1067 (by decide) ?_
      exact Y_sub [0, 1, 2, 3, 4] rfl (hJ1847 _ _ h)
    have hJ986 : ∀ (sj167 : Sg) (tj168 : Tg), f_law_J986 s1 sj167 tj168 = some x → Y p l e room_1 s m #[Value.ref b] below meth c 7 D cA ρ A (c0 + s1.1.toNatClampNeg / 5 + 1) (s0 + 6 * (s1.1.toNatClampNeg / 5) + 6) (lw_Z below #[Value.ref b] s) sj167 tj168 986 [(0, .ref b), (1, .ref (ρ 0)), (2, .ref (ρ 75)), (3, .ref (ρ 96)), (4, .int s1.1)] [] := by
      intro sj167 tj168 h
      unfold f_law_J986 at h
      refine Y_goto C (pc := 986) (tgt := 1847) dL_law_986 (by decide) ?_
      exact Y_sub [0, 1, 2, 3, 4] rfl (hJ1847 _ _ h)
    have hJ828 : ∀ (sj134 : Sg) (tj135 : Tg), f_law_J828 s1 sj134 tj135 = some x → Y p l e room_1 s m #[Value.ref b] below meth c 7 D cA ρ A (c0 + s1.1.toNatClampNeg / 5 + 1) (s0 + 6 * (s1.1.toNatClampNeg / 5) + 6) (lw_Z below #[Value.ref b] s) sj134 tj135 828 [(0, .ref b), (1, .ref (ρ 0)), (2, .ref (ρ 75)), (3, .ref (ρ 96)), (4, .int s1.1)] [] := by
      intro sj134 tj135 h
      unfold f_law_J828 at h
      refine Y_goto C (pc := 828) (tgt := 1847) dL_law_828 (by decide) ?_
      exact Y_sub [0, 1, 2, 3, 4] rfl (hJ1847 _ _ h)
    have hJ760 : ∀ (sj121 : Sg) (tj122 : Tg), f_law_J760 s1 sj121 tj122 = some x → Y p l e room_1 s m #[Value.ref b] below meth c 7 D cA ρ A (c0 + s1.1.toNatClampNeg / 5 + 1) (s0 + 6 * (s1.1.toNatClampNeg / 5) + 6) (lw_Z below #[Value.ref b] s) sj121 tj122 760 [(0, .ref b), (1, .ref (ρ 0)), (2, .ref (ρ 75)), (3, .ref (ρ 96)), (4, .int s1.1)] [] := by
      intro sj121 tj122 h
      unfold f_law_J760 at h
      refine Y_goto C (pc := 760) (tgt := 1847) dL_law_760 (by decide) ?_
      exact Y_sub [0, 1, 2, 3, 4] rfl (hJ1847 _ _ h)
    have hJ679 : ∀ (sj105 : Sg) (tj106 : Tg), f_law_J679 s1 sj105 tj106 = some x → Y p l e room_1 s m #[Value.ref b] below meth c 7 D cA ρ A (c0 + s1.1.toNatClampNeg / 5 + 1) (s0 + 6 * (s1.1.toNatClampNeg / 5) + 6) (lw_Z below #[Value.ref b] s) sj105 tj106 679 [(0, .ref b), (1, .ref (ρ 0)), (2, .ref (ρ 75)), (3, .ref (ρ 96)), (4, .int s1.1)] [] := by
      intro sj105 tj106 h
      unfold f_law_J679 at h
      refine Y_goto C (pc := 679) (tgt := 1847) dL_law_679 (by decide) ?_
      exact Y_sub [0, 1, 2, 3, 4] rfl (hJ1847 _ _ h)
    have hJ610 : ∀ (sj91 : Sg) (tj92 : Tg), f_law_J610 s1 sj91 tj92 = some x → Y p l e room_1 s m #[Value.ref b] below meth c 7 D cA ρ A (c0 + s1.1.toNatClampNeg / 5 + 1) (s0 + 6 * (s1.1.toNatClampNeg / 5) + 6) (lw_Z below #[Value.ref b] s) sj91 tj92 610 [(0, .ref b), (1, .ref (ρ 0)), (2, .ref (ρ 75)), (3, .ref (ρ 96)), (4, .int s1.1)] [] := by
      intro sj91 tj92 h
      unfold f_law_J610 at h
      refine Y_goto C (pc := 610) (tgt := 1847) dL_law_610 (by decide) ?_
      exact Y_sub [0, 1, 2, 3, 4] rfl (hJ1847 _ _ h)
    have hJ554 : ∀ (sj80 : Sg) (tj81 : Tg), f_law_J554 s1 sj80 tj81 = some x → Y p l e room_1 s m #[Value.ref b] below meth c 7 D cA ρ A (c0 + s1.1.toNatClampNeg / 5 + 1) (s0 + 6 * (s1.1.toNatClampNeg / 5) + 6) (lw_Z below #[Value.ref b] s) sj80 tj81 554 [(0, .ref b), (1, .ref (ρ 0)), (2, .ref (ρ 75)), (3, .ref (ρ 96)), (4, .int s1.1)] [] := by
      intro sj80 tj81 h
      unfold f_law_J554 at h
      refine Y_goto C (pc := 554) (tgt := 1847) dL_law_554 (by decide) ?_
      exact Y_sub [0, 1, 2, 3, 4] rfl (hJ1847 _ _ h)
    have hJ521 : ∀ (j69 : Int32) (j70 : Int32) (j71 : Int32) (j72 : Int32) (j73 : Int32) (sj74 : Sg) (tj75 : Tg), f_law_J521 s1 j69 j70 j71 j72 j73 sj74 tj75 = some x → Y p l e room_1 s m #[Value.ref b] below meth c 7 D cA ρ A (c0 + s1.1.toNatClampNeg / 5 + 1) (s0 + 6 * (s1.1.toNatClampNeg / 5) + 6) (lw_Z below #[Value.ref b] s) sj74 tj75 521 [(0, .ref b), (1, .ref (ρ 0)), (2, .ref (ρ 75)), (3, .ref (ρ 96)), (4, .int s1.1), (5, .int j69)] [.int j70, .int j71, .int j72, .int j73, .ref (ρ 75)] := by
      intro j69 j70 j71 j72 j73 sj74 tj75 h
      unfold f_law_J521 at h
      obtain ⟨v76, hv76, h⟩ := Option.bind_eq_some_iff.mp h
      refine Y_callV C (pc := 521) [.int j73, .int j72, .int j71, .int j70] [] [.int v76.1] (kb := 75) kd75 rfl rfl (c_X9_fill hI kd75 hv76) hAw q_cw_yX9_fill q_ml_RL_112 ⟨q_im_yX9_fill, q_se_yX9_fill⟩ ⟨⟨Nat.le_of_ble_eq_true rfl, Nat.le_of_ble_eq_true rfl⟩, ⟨by show _ ≤ 601024; omega, by show _ ≤ 7293033; omega⟩, Nat.le_of_ble_eq_true rfl⟩ rfl rfl rfl dL_law_521 ?_
      refine Y_istore C (pc := 524) (lv' := [(6, .int v76.1), (0, .ref b), (1, .ref (ρ 0)), (2, .ref (ρ 75)), (3, .ref (ρ 96)), (4, .int s1.1), (5, .int j69)]) (by decide) rfl dL_law_524 ?_
      refine Y_aload_n C (pc := 526) 2 3 rfl rfl dL_law_526 ?_
      obtain ⟨v77, hv77, h⟩ := Option.bind_eq_some_iff.mp h
      refine Y_callV C (pc := 527) [] [] [.int v77] (kb := 75) kd75 rfl rfl (c_X9_thrown kd75 hv77) (fun _ h => h.elim) q_cw_yX9_thrown q_ml_RL_94 ⟨q_im_yX9_thrown, q_se_yX9_thrown⟩ ⟨⟨Nat.le_of_ble_eq_true rfl, Nat.le_of_ble_eq_true rfl⟩, ⟨by show _ ≤ 601024; omega, by show _ ≤ 7293033; omega⟩, Nat.le_of_ble_eq_true rfl⟩ rfl rfl rfl dL_law_527 ?_
      refine Y_iload C (pc := 530) 6 rfl dL_law_530 ?_
      refine Y_icmp_eq C (pc := 532) (tgt := 537) dL_law_532 (by decide) (fun c78 => ?_) (fun c78 => ?_)
      · rw [if_pos c78] at h
        refine Y_iload C (pc := 537) 6 rfl dL_law_537 ?_
        refine Y_if_ne C (pc := 539) (tgt := 554) dL_law_539 (by decide) (fun c79 => ?_) (fun c79 => ?_)
        · rw [if_neg c79] at h
          exact Y_sub [1, 2, 3, 4, 5] rfl (hJ554 _ _ h)
        · rw [if_pos c79] at h
          refine Y_aload_n C (pc := 542) 3 4 rfl rfl dL_law_542 ?_
          refine Y_iconst C (pc := 543) (v := (0 : Int32)) (by decide) dL_law_543 ?_
          obtain ⟨v82, hv82, h⟩ := Option.bind_eq_some_iff.mp h
          refine Y_lald C (pc := 544) (by decide +kernel) hv82 dL_law_544 ?_
          refine Y_iload C (pc := 545) 0 rfl dL_law_545 ?_
          refine Y_i2l C (pc := 547) dL_law_547 ?_
          refine Y_lcmp C (pc := 548) dL_law_548 ?_
          refine Y_if_eq C (pc := 549) (tgt := 554) dL_law_549 (by decide) (fun c83 => ?_) (fun c83 => ?_)
          · rw [if_pos c83] at h
            exact Y_sub [1, 2, 3, 4, 5] rfl (hJ554 _ _ h)
          · rw [if_neg c83] at h
            exact absurd (hE _ (Option.some.inj h).symm) (by decide)
      · rw [if_neg c78] at h
        exact absurd (hE _ (Option.some.inj h).symm) (by decide)
    have hJ482 : ∀ (j57 : Int32) (j58 : Int32) (j59 : Int32) (j60 : Int32) (sj61 : Sg) (tj62 : Tg), f_law_J482 xs L s1 j57 j58 j59 j60 sj61 tj62 = some x → Y p l e room_1 s m #[Value.ref b] below meth c 7 D cA ρ A (c0 + s1.1.toNatClampNeg / 5) (s0 + 6 * (s1.1.toNatClampNeg / 5)) (lw_Z below #[Value.ref b] s) sj61 tj62 482 [(0, .ref b), (1, .ref (ρ 0)), (2, .ref (ρ 75)), (3, .ref (ρ 96)), (4, .int s1.1)] [.int j57, .int j58, .int j59, .int j60, .ref (ρ 0)] := by
      intro j57 j58 j59 j60 sj61 tj62 h
      unfold f_law_J482 at h
      refine Y_aload_n C (pc := 482) 3 3 rfl rfl dL_law_482 ?_
      obtain ⟨v63, hv63, h⟩ := Option.bind_eq_some_iff.mp h
      refine Y_callH C X (pc := 483) [.ref (ρ 0), .int j60, .int j59, .int j58, .int j57, .ref (ρ 96)] [] [.int v63.1] (c_L_fill hI (by decide +kernel) (by decide +kernel) (by decide) hv63) hA0 hW q_cdw_yL_fill q_in_RL q_ml_RL_109 q_st_yL_fill (na := 6) (by decide +kernel) (by decide +kernel) (by decide +kernel) ⟨Nat.le_of_ble_eq_true rfl, Nat.le_of_ble_eq_true rfl⟩ (by show _ + 1 ≤ 601024; omega) (by show _ + 6 ≤ 7293033; omega) (Nat.le_of_ble_eq_true rfl) rfl rfl rfl dL_law_483 ?_
      refine Y_istore C (pc := 486) (lv' := [(5, .int v63.1), (0, .ref b), (1, .ref (ρ 0)), (2, .ref (ρ 75)), (3, .ref (ρ 96)), (4, .int s1.1)]) (by decide) rfl dL_law_486 ?_
      refine Y_aload_n C (pc := 488) 2 3 rfl rfl dL_law_488 ?_
      refine Y_aload_n C (pc := 489) 0 1 rfl rfl dL_law_489 ?_
      refine Y_iload C (pc := 490) 5 rfl dL_law_490 ?_
      refine Y_iconst C (pc := 492) (v := (1 : Int32)) (by decide) dL_law_492 ?_
      refine Y_iadd C (pc := 493) dL_law_493 ?_
      obtain ⟨v64, hv64, h⟩ := Option.bind_eq_some_iff.mp h
      refine Y_sld C (pc := 494) hX hbl hbA hv64 dL_law_494 ?_
      refine Y_aload_n C (pc := 495) 0 1 rfl rfl dL_law_495 ?_
      refine Y_iload C (pc := 496) 5 rfl dL_law_496 ?_
      refine Y_iconst C (pc := 498) (v := (2 : Int32)) (by decide) dL_law_498 ?_
      refine Y_iadd C (pc := 499) dL_law_499 ?_
      obtain ⟨v65, hv65, h⟩ := Option.bind_eq_some_iff.mp h
      refine Y_sld C (pc := 500) hX hbl hbA hv65 dL_law_500 ?_
      refine Y_aload_n C (pc := 501) 0 1 rfl rfl dL_law_501 ?_
      refine Y_iload C (pc := 502) 5 rfl dL_law_502 ?_
      refine Y_iconst C (pc := 504) (v := (3 : Int32)) (by decide) dL_law_504 ?_
      refine Y_iadd C (pc := 505) dL_law_505 ?_
      obtain ⟨v66, hv66, h⟩ := Option.bind_eq_some_iff.mp h
      refine Y_sld C (pc := 506) hX hbl hbA hv66 dL_law_506 ?_
      refine Y_aload_n C (pc := 507) 0 1 rfl rfl dL_law_507 ?_
      refine Y_iload C (pc := 508) 5 rfl dL_law_508 ?_
      refine Y_iconst C (pc := 510) (v := (4 : Int32)) (by decide) dL_law_510 ?_
      refine Y_iadd C (pc := 511) dL_law_511 ?_
      obtain ⟨v67, hv67, h⟩ := Option.bind_eq_some_iff.mp h
      refine Y_sld C (pc := 512) hX hbl hbA hv67 dL_law_512 ?_
      refine Y_if_eq C (pc := 513) (tgt := 520) dL_law_513 (by decide) (fun c68 => ?_) (fun c68 => ?_)
      · rw [if_pos c68] at h
        refine Y_iconst C (pc := 520) (v := (0 : Int32)) (by decide) dL_law_520 ?_
        exact Y_sub [1, 2, 3, 4, 5, 0] rfl (hJ521 _ _ _ _ _ _ _ h)
      · rw [if_neg c68] at h
        refine Y_iconst C (pc := 516) (v := (1 : Int32)) (by decide) dL_law_516 ?_
        refine Y_goto C (pc := 517) (tgt := 521) dL_law_517 (by decide) ?_
        exact Y_sub [1, 2, 3, 4, 5, 0] rfl (hJ521 _ _ _ _ _ _ _ h)
    have hJ446 : ∀ (sj48 : Sg) (tj49 : Tg), f_law_J446 s1 sj48 tj49 = some x → Y p l e room_1 s m #[Value.ref b] below meth c 7 D cA ρ A (c0 + s1.1.toNatClampNeg / 5 + 1) (s0 + 6 * (s1.1.toNatClampNeg / 5) + 6) (lw_Z below #[Value.ref b] s) sj48 tj49 446 [(0, .ref b), (1, .ref (ρ 0)), (2, .ref (ρ 75)), (3, .ref (ρ 96)), (4, .int s1.1)] [] := by
      intro sj48 tj49 h
      unfold f_law_J446 at h
      refine Y_goto C (pc := 446) (tgt := 1847) dL_law_446 (by decide) ?_
      exact Y_sub [0, 1, 2, 3, 4] rfl (hJ1847 _ _ h)
    have hJ366 : ∀ (sj33 : Sg) (tj34 : Tg), f_law_J366 s1 sj33 tj34 = some x → Y p l e room_1 s m #[Value.ref b] below meth c 7 D cA ρ A (c0 + s1.1.toNatClampNeg / 5 + 1) (s0 + 6 * (s1.1.toNatClampNeg / 5) + 6) (lw_Z below #[Value.ref b] s) sj33 tj34 366 [(0, .ref b), (1, .ref (ρ 0)), (2, .ref (ρ 75)), (3, .ref (ρ 96)), (4, .int s1.1)] [] := by
      intro sj33 tj34 h
      unfold f_law_J366 at h
      refine Y_goto C (pc := 366) (tgt := 1847) dL_law_366 (by decide) ?_
      exact Y_sub [0, 1, 2, 3, 4] rfl (hJ1847 _ _ h)
    have hJ261 : ∀ (sj11 : Sg) (tj12 : Tg), f_law_J261 s1 sj11 tj12 = some x → Y p l e room_1 s m #[Value.ref b] below meth c 7 D cA ρ A (c0 + s1.1.toNatClampNeg / 5 + 1) (s0 + 6 * (s1.1.toNatClampNeg / 5) + 6) (lw_Z below #[Value.ref b] s) sj11 tj12 261 [(0, .ref b), (1, .ref (ρ 0)), (2, .ref (ρ 75)), (3, .ref (ρ 96)), (4, .int s1.1)] [] := by
      intro sj11 tj12 h
      unfold f_law_J261 at h
      refine Y_goto C (pc := 261) (tgt := 1847) dL_law_261 (by decide) ?_
      exact Y_sub [0, 1, 2, 3, 4] rfl (hJ1847 _ _ h)
    refine Y_aload_n C (pc := 32) 0 0 rfl rfl dL_law_32 ?_
    refine Y_iload C (pc := 33) 4 rfl dL_law_33 ?_
    obtain ⟨v3, hv3, h⟩ := Option.bind_eq_some_iff.mp h
    refine Y_sld C (pc := 35) hX hbl hbA hv3 dL_law_35 ?_
    refine Y_bipush C (pc := 36) (v := (63 : Int32)) (by decide) dL_law_36 ?_
    refine Y_iand C (pc := 38) dL_law_38 ?_
    by_cases w0 : (v3 &&& (63 : Int32)) = (0 : Int32)
    · rw [if_pos w0] at h
      refine Y_tableIn C (pc := 39) dL_law_39 (by rw [w0]; decide) (by rw [w0]; decide) (off := 169) (tgt := 208) (by rw [w0]; rfl) (by decide) ?_
      refine Y_aload_n C (pc := 208) 1 1 rfl rfl dL_law_208 ?_
      refine Y_aload_n C (pc := 209) 0 0 rfl rfl dL_law_209 ?_
      refine Y_iload C (pc := 210) 4 rfl dL_law_210 ?_
      refine Y_iconst C (pc := 212) (v := (1 : Int32)) (by decide) dL_law_212 ?_
      refine Y_iadd C (pc := 213) dL_law_213 ?_
      obtain ⟨v4, hv4, h⟩ := Option.bind_eq_some_iff.mp h
      refine Y_sld C (pc := 214) hX hbl hbA hv4 dL_law_214 ?_
      refine Y_aload_n C (pc := 215) 3 3 rfl rfl dL_law_215 ?_
      obtain ⟨v5, hv5, h⟩ := Option.bind_eq_some_iff.mp h
      refine Y_callH C X (pc := 216) [.ref (ρ 0), .int v4, .ref (ρ 96)] [] [.int v5.1] (c_L_resize hI (by decide +kernel) (by decide +kernel) (by decide) hv5) hA0 hW q_cdw_yL_resize q_in_RL q_ml_RL_88 q_st_yL_resize (na := 3) (by decide +kernel) (by decide +kernel) (by decide +kernel) ⟨Nat.le_of_ble_eq_true rfl, Nat.le_of_ble_eq_true rfl⟩ (by show _ + 1 ≤ 601024; omega) (by show _ + 6 ≤ 7293033; omega) (Nat.le_of_ble_eq_true rfl) rfl rfl rfl dL_law_216 ?_
      refine Y_istore C (pc := 219) (lv' := [(5, .int v5.1), (0, .ref b), (1, .ref (ρ 0)), (2, .ref (ρ 75)), (3, .ref (ρ 96)), (4, .int s1.1)]) (by decide) rfl dL_law_219 ?_
      refine Y_aload_n C (pc := 221) 2 3 rfl rfl dL_law_221 ?_
      refine Y_aload_n C (pc := 222) 0 1 rfl rfl dL_law_222 ?_
      refine Y_iload C (pc := 223) 5 rfl dL_law_223 ?_
      refine Y_iconst C (pc := 225) (v := (1 : Int32)) (by decide) dL_law_225 ?_
      refine Y_iadd C (pc := 226) dL_law_226 ?_
      obtain ⟨v6, hv6, h⟩ := Option.bind_eq_some_iff.mp h
      refine Y_sld C (pc := 227) hX hbl hbA hv6 dL_law_227 ?_
      obtain ⟨v7, hv7, h⟩ := Option.bind_eq_some_iff.mp h
      refine Y_callV C (pc := 228) [.int v6] [] [.int v7.1] (kb := 75) kd75 rfl rfl (c_X9_resize hI kd75 hv7) hAw q_cw_yX9_resize q_ml_RL_93 ⟨q_im_yX9_resize, q_se_yX9_resize⟩ ⟨⟨Nat.le_of_ble_eq_true rfl, Nat.le_of_ble_eq_true rfl⟩, ⟨by show _ ≤ 601024; omega, by show _ ≤ 7293033; omega⟩, Nat.le_of_ble_eq_true rfl⟩ rfl rfl rfl dL_law_228 ?_
      refine Y_istore C (pc := 231) (lv' := [(6, .int v7.1), (5, .int v5.1), (0, .ref b), (1, .ref (ρ 0)), (2, .ref (ρ 75)), (3, .ref (ρ 96)), (4, .int s1.1)]) (by decide) rfl dL_law_231 ?_
      refine Y_aload_n C (pc := 233) 2 4 rfl rfl dL_law_233 ?_
      obtain ⟨v8, hv8, h⟩ := Option.bind_eq_some_iff.mp h
      refine Y_callV C (pc := 234) [] [] [.int v8] (kb := 75) kd75 rfl rfl (c_X9_thrown kd75 hv8) (fun _ h => h.elim) q_cw_yX9_thrown q_ml_RL_94 ⟨q_im_yX9_thrown, q_se_yX9_thrown⟩ ⟨⟨Nat.le_of_ble_eq_true rfl, Nat.le_of_ble_eq_true rfl⟩, ⟨by show _ ≤ 601024; omega, by show _ ≤ 7293033; omega⟩, Nat.le_of_ble_eq_true rfl⟩ rfl rfl rfl dL_law_234 ?_
      refine Y_iload C (pc := 237) 1 rfl dL_law_237 ?_
      refine Y_icmp_eq C (pc := 239) (tgt := 244) dL_law_239 (by decide) (fun c9 => ?_) (fun c9 => ?_)
      · rw [if_pos c9] at h
        refine Y_iload C (pc := 244) 1 rfl dL_law_244 ?_
        refine Y_if_ne C (pc := 246) (tgt := 261) dL_law_246 (by decide) (fun c10 => ?_) (fun c10 => ?_)
        · rw [if_neg c10] at h
          exact Y_sub [2, 3, 4, 5, 6] rfl (hJ261 _ _ h)
        · rw [if_pos c10] at h
          refine Y_aload_n C (pc := 249) 3 5 rfl rfl dL_law_249 ?_
          refine Y_iconst C (pc := 250) (v := (0 : Int32)) (by decide) dL_law_250 ?_
          obtain ⟨v15, hv15, h⟩ := Option.bind_eq_some_iff.mp h
          refine Y_lald C (pc := 251) (by decide +kernel) hv15 dL_law_251 ?_
          refine Y_iload C (pc := 252) 0 rfl dL_law_252 ?_
          refine Y_i2l C (pc := 254) dL_law_254 ?_
          refine Y_lcmp C (pc := 255) dL_law_255 ?_
          refine Y_if_eq C (pc := 256) (tgt := 261) dL_law_256 (by decide) (fun c16 => ?_) (fun c16 => ?_)
          · rw [if_pos c16] at h
            exact Y_sub [2, 3, 4, 5, 6] rfl (hJ261 _ _ h)
          · rw [if_neg c16] at h
            exact absurd (hE _ (Option.some.inj h).symm) (by decide)
      · rw [if_neg c9] at h
        exact absurd (hE _ (Option.some.inj h).symm) (by decide)
    rw [if_neg w0] at h
    by_cases w1 : (v3 &&& (63 : Int32)) = (1 : Int32)
    · rw [if_pos w1] at h
      refine Y_tableIn C (pc := 39) dL_law_39 (by rw [w1]; decide) (by rw [w1]; decide) (off := 225) (tgt := 264) (by rw [w1]; rfl) (by decide) ?_
      refine Y_aload_n C (pc := 264) 1 1 rfl rfl dL_law_264 ?_
      obtain ⟨v17, hv17, h⟩ := Option.bind_eq_some_iff.mp h
      refine Y_callV C (pc := 265) [] [] [.int v17] (kb := 0) kd0 rfl rfl (c_X8_size kd0 hv17) (fun _ h => h.elim) q_cw_yX8_size q_ml_RL_97 ⟨q_im_yX8_size, q_se_yX8_size⟩ ⟨⟨Nat.le_of_ble_eq_true rfl, Nat.le_of_ble_eq_true rfl⟩, ⟨by show _ ≤ 601024; omega, by show _ ≤ 7293033; omega⟩, Nat.le_of_ble_eq_true rfl⟩ rfl rfl rfl dL_law_265 ?_
      refine Y_aload_n C (pc := 268) 2 2 rfl rfl dL_law_268 ?_
      obtain ⟨v18, hv18, h⟩ := Option.bind_eq_some_iff.mp h
      refine Y_callV C (pc := 269) [] [.int v17] [.int v18.1, .int v17] (kb := 75) kd75 rfl rfl (c_X9_size hI kd75 hv18) hAw q_cw_yX9_size q_ml_RL_100 ⟨q_im_yX9_size, q_se_yX9_size⟩ ⟨⟨Nat.le_of_ble_eq_true rfl, Nat.le_of_ble_eq_true rfl⟩, ⟨by show _ ≤ 601024; omega, by show _ ≤ 7293033; omega⟩, Nat.le_of_ble_eq_true rfl⟩ rfl rfl rfl dL_law_269 ?_
      refine Y_icmp_eq C (pc := 272) (tgt := 1847) dL_law_272 (by decide) (fun c19 => ?_) (fun c19 => ?_)
      · rw [if_pos c19] at h
        exact Y_widen (Nat.le_add_right _ 1) (Nat.le_add_right _ 6) (Y_sub [0, 1, 2, 3, 4] rfl (hJ1847 _ _ h))
      · rw [if_neg c19] at h
        exact absurd (hE _ (Option.some.inj h).symm) (by decide)
    rw [if_neg w1] at h
    by_cases w2 : (v3 &&& (63 : Int32)) = (2 : Int32)
    · rw [if_pos w2] at h
      refine Y_tableIn C (pc := 39) dL_law_39 (by rw [w2]; decide) (by rw [w2]; decide) (off := 238) (tgt := 277) (by rw [w2]; rfl) (by decide) ?_
      refine Y_aload_n C (pc := 277) 1 1 rfl rfl dL_law_277 ?_
      refine Y_aload_n C (pc := 278) 0 0 rfl rfl dL_law_278 ?_
      refine Y_iload C (pc := 279) 4 rfl dL_law_279 ?_
      refine Y_iconst C (pc := 281) (v := (1 : Int32)) (by decide) dL_law_281 ?_
      refine Y_iadd C (pc := 282) dL_law_282 ?_
      obtain ⟨v20, hv20, h⟩ := Option.bind_eq_some_iff.mp h
      refine Y_sld C (pc := 283) hX hbl hbA hv20 dL_law_283 ?_
      refine Y_aload_n C (pc := 284) 0 0 rfl rfl dL_law_284 ?_
      refine Y_iload C (pc := 285) 4 rfl dL_law_285 ?_
      refine Y_iconst C (pc := 287) (v := (2 : Int32)) (by decide) dL_law_287 ?_
      refine Y_iadd C (pc := 288) dL_law_288 ?_
      obtain ⟨v21, hv21, h⟩ := Option.bind_eq_some_iff.mp h
      refine Y_sld C (pc := 289) hX hbl hbA hv21 dL_law_289 ?_
      refine Y_aload_n C (pc := 290) 0 0 rfl rfl dL_law_290 ?_
      refine Y_iload C (pc := 291) 4 rfl dL_law_291 ?_
      refine Y_iconst C (pc := 293) (v := (3 : Int32)) (by decide) dL_law_293 ?_
      refine Y_iadd C (pc := 294) dL_law_294 ?_
      obtain ⟨v22, hv22, h⟩ := Option.bind_eq_some_iff.mp h
      refine Y_sld C (pc := 295) hX hbl hbA hv22 dL_law_295 ?_
      refine Y_aload_n C (pc := 296) 0 0 rfl rfl dL_law_296 ?_
      refine Y_iload C (pc := 297) 4 rfl dL_law_297 ?_
      refine Y_iconst C (pc := 299) (v := (4 : Int32)) (by decide) dL_law_299 ?_
      refine Y_iadd C (pc := 300) dL_law_300 ?_
      obtain ⟨v23, hv23, h⟩ := Option.bind_eq_some_iff.mp h
      refine Y_sld C (pc := 301) hX hbl hbA hv23 dL_law_301 ?_
      refine Y_aload_n C (pc := 302) 3 3 rfl rfl dL_law_302 ?_
      obtain ⟨v24, hv24, h⟩ := Option.bind_eq_some_iff.mp h
      refine Y_callH C X (pc := 303) [.ref (ρ 0), .int v20, .int v21, .int v22, .int v23, .ref (ρ 96)] [] [.int v24.1] (c_L_set hI (by decide +kernel) (by decide +kernel) (by decide) hv24) hA0 hW q_cdw_yL_set q_in_RL q_ml_RL_101 q_st_yL_set (na := 6) (by decide +kernel) (by decide +kernel) (by decide +kernel) ⟨Nat.le_of_ble_eq_true rfl, Nat.le_of_ble_eq_true rfl⟩ (by show _ + 1 ≤ 601024; omega) (by show _ + 6 ≤ 7293033; omega) (Nat.le_of_ble_eq_true rfl) rfl rfl rfl dL_law_303 ?_
      refine Y_istore C (pc := 306) (lv' := [(5, .int v24.1), (0, .ref b), (1, .ref (ρ 0)), (2, .ref (ρ 75)), (3, .ref (ρ 96)), (4, .int s1.1)]) (by decide) rfl dL_law_306 ?_
      refine Y_aload_n C (pc := 308) 2 3 rfl rfl dL_law_308 ?_
      refine Y_aload_n C (pc := 309) 0 1 rfl rfl dL_law_309 ?_
      refine Y_iload C (pc := 310) 5 rfl dL_law_310 ?_
      refine Y_iconst C (pc := 312) (v := (1 : Int32)) (by decide) dL_law_312 ?_
      refine Y_iadd C (pc := 313) dL_law_313 ?_
      obtain ⟨v25, hv25, h⟩ := Option.bind_eq_some_iff.mp h
      refine Y_sld C (pc := 314) hX hbl hbA hv25 dL_law_314 ?_
      refine Y_aload_n C (pc := 315) 0 1 rfl rfl dL_law_315 ?_
      refine Y_iload C (pc := 316) 5 rfl dL_law_316 ?_
      refine Y_iconst C (pc := 318) (v := (2 : Int32)) (by decide) dL_law_318 ?_
      refine Y_iadd C (pc := 319) dL_law_319 ?_
      obtain ⟨v26, hv26, h⟩ := Option.bind_eq_some_iff.mp h
      refine Y_sld C (pc := 320) hX hbl hbA hv26 dL_law_320 ?_
      refine Y_aload_n C (pc := 321) 0 1 rfl rfl dL_law_321 ?_
      refine Y_iload C (pc := 322) 5 rfl dL_law_322 ?_
      refine Y_iconst C (pc := 324) (v := (3 : Int32)) (by decide) dL_law_324 ?_
      refine Y_iadd C (pc := 325) dL_law_325 ?_
      obtain ⟨v27, hv27, h⟩ := Option.bind_eq_some_iff.mp h
      refine Y_sld C (pc := 326) hX hbl hbA hv27 dL_law_326 ?_
      refine Y_aload_n C (pc := 327) 0 1 rfl rfl dL_law_327 ?_
      refine Y_iload C (pc := 328) 5 rfl dL_law_328 ?_
      refine Y_iconst C (pc := 330) (v := (4 : Int32)) (by decide) dL_law_330 ?_
      refine Y_iadd C (pc := 331) dL_law_331 ?_
      obtain ⟨v28, hv28, h⟩ := Option.bind_eq_some_iff.mp h
      refine Y_sld C (pc := 332) hX hbl hbA hv28 dL_law_332 ?_
      obtain ⟨v29, hv29, h⟩ := Option.bind_eq_some_iff.mp h
      refine Y_callV C (pc := 333) [.int v25, .int v26, .int v27, .int v28] [] [.int v29.1] (kb := 75) kd75 rfl rfl (c_X9_set hI kd75 hv29) hAw q_cw_yX9_set q_ml_RL_104 ⟨q_im_yX9_set, q_se_yX9_set⟩ ⟨⟨Nat.le_of_ble_eq_true rfl, Nat.le_of_ble_eq_true rfl⟩, ⟨by show _ ≤ 601024; omega, by show _ ≤ 7293033; omega⟩, Nat.le_of_ble_eq_true rfl⟩ rfl rfl rfl dL_law_333 ?_
      refine Y_istore C (pc := 336) (lv' := [(6, .int v29.1), (5, .int v24.1), (0, .ref b), (1, .ref (ρ 0)), (2, .ref (ρ 75)), (3, .ref (ρ 96)), (4, .int s1.1)]) (by decide) rfl dL_law_336 ?_
      refine Y_aload_n C (pc := 338) 2 4 rfl rfl dL_law_338 ?_
      obtain ⟨v30, hv30, h⟩ := Option.bind_eq_some_iff.mp h
      refine Y_callV C (pc := 339) [] [] [.int v30] (kb := 75) kd75 rfl rfl (c_X9_thrown kd75 hv30) (fun _ h => h.elim) q_cw_yX9_thrown q_ml_RL_94 ⟨q_im_yX9_thrown, q_se_yX9_thrown⟩ ⟨⟨Nat.le_of_ble_eq_true rfl, Nat.le_of_ble_eq_true rfl⟩, ⟨by show _ ≤ 601024; omega, by show _ ≤ 7293033; omega⟩, Nat.le_of_ble_eq_true rfl⟩ rfl rfl rfl dL_law_339 ?_
      refine Y_iload C (pc := 342) 1 rfl dL_law_342 ?_
      refine Y_icmp_eq C (pc := 344) (tgt := 349) dL_law_344 (by decide) (fun c31 => ?_) (fun c31 => ?_)
      · rw [if_pos c31] at h
        refine Y_iload C (pc := 349) 1 rfl dL_law_349 ?_
        refine Y_if_ne C (pc := 351) (tgt := 366) dL_law_351 (by decide) (fun c32 => ?_) (fun c32 => ?_)
        · rw [if_neg c32] at h
          exact Y_sub [2, 3, 4, 5, 6] rfl (hJ366 _ _ h)
        · rw [if_pos c32] at h
          refine Y_aload_n C (pc := 354) 3 5 rfl rfl dL_law_354 ?_
          refine Y_iconst C (pc := 355) (v := (0 : Int32)) (by decide) dL_law_355 ?_
          obtain ⟨v35, hv35, h⟩ := Option.bind_eq_some_iff.mp h
          refine Y_lald C (pc := 356) (by decide +kernel) hv35 dL_law_356 ?_
          refine Y_iload C (pc := 357) 0 rfl dL_law_357 ?_
          refine Y_i2l C (pc := 359) dL_law_359 ?_
          refine Y_lcmp C (pc := 360) dL_law_360 ?_
          refine Y_if_eq C (pc := 361) (tgt := 366) dL_law_361 (by decide) (fun c36 => ?_) (fun c36 => ?_)
          · rw [if_pos c36] at h
            exact Y_sub [2, 3, 4, 5, 6] rfl (hJ366 _ _ h)
          · rw [if_neg c36] at h
            exact absurd (hE _ (Option.some.inj h).symm) (by decide)
      · rw [if_neg c31] at h
        exact absurd (hE _ (Option.some.inj h).symm) (by decide)
    rw [if_neg w2] at h
    by_cases w3 : (v3 &&& (63 : Int32)) = (3 : Int32)
    · rw [if_pos w3] at h
      refine Y_tableIn C (pc := 39) dL_law_39 (by rw [w3]; decide) (by rw [w3]; decide) (off := 330) (tgt := 369) (by rw [w3]; rfl) (by decide) ?_
      refine Y_aload_n C (pc := 369) 1 1 rfl rfl dL_law_369 ?_
      refine Y_aload_n C (pc := 370) 0 0 rfl rfl dL_law_370 ?_
      refine Y_iload C (pc := 371) 4 rfl dL_law_371 ?_
      refine Y_iconst C (pc := 373) (v := (1 : Int32)) (by decide) dL_law_373 ?_
      refine Y_iadd C (pc := 374) dL_law_374 ?_
      obtain ⟨v37, hv37, h⟩ := Option.bind_eq_some_iff.mp h
      refine Y_sld C (pc := 375) hX hbl hbA hv37 dL_law_375 ?_
      refine Y_aload_n C (pc := 376) 0 0 rfl rfl dL_law_376 ?_
      refine Y_iload C (pc := 377) 4 rfl dL_law_377 ?_
      refine Y_iconst C (pc := 379) (v := (2 : Int32)) (by decide) dL_law_379 ?_
      refine Y_iadd C (pc := 380) dL_law_380 ?_
      obtain ⟨v38, hv38, h⟩ := Option.bind_eq_some_iff.mp h
      refine Y_sld C (pc := 381) hX hbl hbA hv38 dL_law_381 ?_
      refine Y_aload_n C (pc := 382) 0 0 rfl rfl dL_law_382 ?_
      refine Y_iload C (pc := 383) 4 rfl dL_law_383 ?_
      refine Y_iconst C (pc := 385) (v := (3 : Int32)) (by decide) dL_law_385 ?_
      refine Y_iadd C (pc := 386) dL_law_386 ?_
      obtain ⟨v39, hv39, h⟩ := Option.bind_eq_some_iff.mp h
      refine Y_sld C (pc := 387) hX hbl hbA hv39 dL_law_387 ?_
      refine Y_aload_n C (pc := 388) 3 3 rfl rfl dL_law_388 ?_
      obtain ⟨v40, hv40, h⟩ := Option.bind_eq_some_iff.mp h
      refine Y_callH C X (pc := 389) [.ref (ρ 0), .int v37, .int v38, .int v39, .ref (ρ 96)] [] [.int v40.1] (c_L_get hI (by decide +kernel) (by decide +kernel) (by decide) hv40) hA0 hW q_cdw_yL_get q_in_RL q_ml_RL_105 q_st_yL_get (na := 5) (by decide +kernel) (by decide +kernel) (by decide +kernel) ⟨Nat.le_of_ble_eq_true rfl, Nat.le_of_ble_eq_true rfl⟩ (by show _ + 1 ≤ 601024; omega) (by show _ + 6 ≤ 7293033; omega) (Nat.le_of_ble_eq_true rfl) rfl rfl rfl dL_law_389 ?_
      refine Y_istore C (pc := 392) (lv' := [(5, .int v40.1), (0, .ref b), (1, .ref (ρ 0)), (2, .ref (ρ 75)), (3, .ref (ρ 96)), (4, .int s1.1)]) (by decide) rfl dL_law_392 ?_
      refine Y_aload_n C (pc := 394) 2 3 rfl rfl dL_law_394 ?_
      refine Y_aload_n C (pc := 395) 0 1 rfl rfl dL_law_395 ?_
      refine Y_iload C (pc := 396) 5 rfl dL_law_396 ?_
      refine Y_iconst C (pc := 398) (v := (1 : Int32)) (by decide) dL_law_398 ?_
      refine Y_iadd C (pc := 399) dL_law_399 ?_
      obtain ⟨v41, hv41, h⟩ := Option.bind_eq_some_iff.mp h
      refine Y_sld C (pc := 400) hX hbl hbA hv41 dL_law_400 ?_
      refine Y_aload_n C (pc := 401) 0 1 rfl rfl dL_law_401 ?_
      refine Y_iload C (pc := 402) 5 rfl dL_law_402 ?_
      refine Y_iconst C (pc := 404) (v := (2 : Int32)) (by decide) dL_law_404 ?_
      refine Y_iadd C (pc := 405) dL_law_405 ?_
      obtain ⟨v42, hv42, h⟩ := Option.bind_eq_some_iff.mp h
      refine Y_sld C (pc := 406) hX hbl hbA hv42 dL_law_406 ?_
      refine Y_aload_n C (pc := 407) 0 1 rfl rfl dL_law_407 ?_
      refine Y_iload C (pc := 408) 5 rfl dL_law_408 ?_
      refine Y_iconst C (pc := 410) (v := (3 : Int32)) (by decide) dL_law_410 ?_
      refine Y_iadd C (pc := 411) dL_law_411 ?_
      obtain ⟨v43, hv43, h⟩ := Option.bind_eq_some_iff.mp h
      refine Y_sld C (pc := 412) hX hbl hbA hv43 dL_law_412 ?_
      obtain ⟨v44, hv44, h⟩ := Option.bind_eq_some_iff.mp h
      refine Y_callV C (pc := 413) [.int v41, .int v42, .int v43] [] [.int v44.1] (kb := 75) kd75 rfl rfl (c_X9_get hI kd75 hv44) hAw q_cw_yX9_get q_ml_RL_108 ⟨q_im_yX9_get, q_se_yX9_get⟩ ⟨⟨Nat.le_of_ble_eq_true rfl, Nat.le_of_ble_eq_true rfl⟩, ⟨by show _ ≤ 601024; omega, by show _ ≤ 7293033; omega⟩, Nat.le_of_ble_eq_true rfl⟩ rfl rfl rfl dL_law_413 ?_
      refine Y_istore C (pc := 416) (lv' := [(6, .int v44.1), (5, .int v40.1), (0, .ref b), (1, .ref (ρ 0)), (2, .ref (ρ 75)), (3, .ref (ρ 96)), (4, .int s1.1)]) (by decide) rfl dL_law_416 ?_
      refine Y_aload_n C (pc := 418) 2 4 rfl rfl dL_law_418 ?_
      obtain ⟨v45, hv45, h⟩ := Option.bind_eq_some_iff.mp h
      refine Y_callV C (pc := 419) [] [] [.int v45] (kb := 75) kd75 rfl rfl (c_X9_thrown kd75 hv45) (fun _ h => h.elim) q_cw_yX9_thrown q_ml_RL_94 ⟨q_im_yX9_thrown, q_se_yX9_thrown⟩ ⟨⟨Nat.le_of_ble_eq_true rfl, Nat.le_of_ble_eq_true rfl⟩, ⟨by show _ ≤ 601024; omega, by show _ ≤ 7293033; omega⟩, Nat.le_of_ble_eq_true rfl⟩ rfl rfl rfl dL_law_419 ?_
      refine Y_iload C (pc := 422) 1 rfl dL_law_422 ?_
      refine Y_icmp_eq C (pc := 424) (tgt := 429) dL_law_424 (by decide) (fun c46 => ?_) (fun c46 => ?_)
      · rw [if_pos c46] at h
        refine Y_iload C (pc := 429) 1 rfl dL_law_429 ?_
        refine Y_if_ne C (pc := 431) (tgt := 446) dL_law_431 (by decide) (fun c47 => ?_) (fun c47 => ?_)
        · rw [if_neg c47] at h
          exact Y_sub [2, 3, 4, 5, 6] rfl (hJ446 _ _ h)
        · rw [if_pos c47] at h
          refine Y_aload_n C (pc := 434) 3 5 rfl rfl dL_law_434 ?_
          refine Y_iconst C (pc := 435) (v := (0 : Int32)) (by decide) dL_law_435 ?_
          obtain ⟨v50, hv50, h⟩ := Option.bind_eq_some_iff.mp h
          refine Y_lald C (pc := 436) (by decide +kernel) hv50 dL_law_436 ?_
          refine Y_iload C (pc := 437) 0 rfl dL_law_437 ?_
          refine Y_i2l C (pc := 439) dL_law_439 ?_
          refine Y_lcmp C (pc := 440) dL_law_440 ?_
          refine Y_if_eq C (pc := 441) (tgt := 446) dL_law_441 (by decide) (fun c51 => ?_) (fun c51 => ?_)
          · rw [if_pos c51] at h
            exact Y_sub [2, 3, 4, 5, 6] rfl (hJ446 _ _ h)
          · rw [if_neg c51] at h
            exact absurd (hE _ (Option.some.inj h).symm) (by decide)
      · rw [if_neg c46] at h
        exact absurd (hE _ (Option.some.inj h).symm) (by decide)
    rw [if_neg w3] at h
    by_cases w4 : (v3 &&& (63 : Int32)) = (4 : Int32)
    · rw [if_pos w4] at h
      refine Y_tableIn C (pc := 39) dL_law_39 (by rw [w4]; decide) (by rw [w4]; decide) (off := 410) (tgt := 449) (by rw [w4]; rfl) (by decide) ?_
      refine Y_aload_n C (pc := 449) 1 1 rfl rfl dL_law_449 ?_
      refine Y_aload_n C (pc := 450) 0 0 rfl rfl dL_law_450 ?_
      refine Y_iload C (pc := 451) 4 rfl dL_law_451 ?_
      refine Y_iconst C (pc := 453) (v := (1 : Int32)) (by decide) dL_law_453 ?_
      refine Y_iadd C (pc := 454) dL_law_454 ?_
      obtain ⟨v52, hv52, h⟩ := Option.bind_eq_some_iff.mp h
      refine Y_sld C (pc := 455) hX hbl hbA hv52 dL_law_455 ?_
      refine Y_aload_n C (pc := 456) 0 0 rfl rfl dL_law_456 ?_
      refine Y_iload C (pc := 457) 4 rfl dL_law_457 ?_
      refine Y_iconst C (pc := 459) (v := (2 : Int32)) (by decide) dL_law_459 ?_
      refine Y_iadd C (pc := 460) dL_law_460 ?_
      obtain ⟨v53, hv53, h⟩ := Option.bind_eq_some_iff.mp h
      refine Y_sld C (pc := 461) hX hbl hbA hv53 dL_law_461 ?_
      refine Y_aload_n C (pc := 462) 0 0 rfl rfl dL_law_462 ?_
      refine Y_iload C (pc := 463) 4 rfl dL_law_463 ?_
      refine Y_iconst C (pc := 465) (v := (3 : Int32)) (by decide) dL_law_465 ?_
      refine Y_iadd C (pc := 466) dL_law_466 ?_
      obtain ⟨v54, hv54, h⟩ := Option.bind_eq_some_iff.mp h
      refine Y_sld C (pc := 467) hX hbl hbA hv54 dL_law_467 ?_
      refine Y_aload_n C (pc := 468) 0 0 rfl rfl dL_law_468 ?_
      refine Y_iload C (pc := 469) 4 rfl dL_law_469 ?_
      refine Y_iconst C (pc := 471) (v := (4 : Int32)) (by decide) dL_law_471 ?_
      refine Y_iadd C (pc := 472) dL_law_472 ?_
      obtain ⟨v55, hv55, h⟩ := Option.bind_eq_some_iff.mp h
      refine Y_sld C (pc := 473) hX hbl hbA hv55 dL_law_473 ?_
      refine Y_if_eq C (pc := 474) (tgt := 481) dL_law_474 (by decide) (fun c56 => ?_) (fun c56 => ?_)
      · rw [if_pos c56] at h
        refine Y_iconst C (pc := 481) (v := (0 : Int32)) (by decide) dL_law_481 ?_
        exact Y_sub [0, 1, 2, 3, 4] rfl (hJ482 _ _ _ _ _ _ h)
      · rw [if_neg c56] at h
        refine Y_iconst C (pc := 477) (v := (1 : Int32)) (by decide) dL_law_477 ?_
        refine Y_goto C (pc := 478) (tgt := 482) dL_law_478 (by decide) ?_
        exact Y_sub [0, 1, 2, 3, 4] rfl (hJ482 _ _ _ _ _ _ h)
    rw [if_neg w4] at h
    by_cases w5 : (v3 &&& (63 : Int32)) = (5 : Int32)
    · rw [if_pos w5] at h
      refine Y_tableIn C (pc := 39) dL_law_39 (by rw [w5]; decide) (by rw [w5]; decide) (off := 518) (tgt := 557) (by rw [w5]; rfl) (by decide) ?_
      refine Y_aload_n C (pc := 557) 1 1 rfl rfl dL_law_557 ?_
      refine Y_aload_n C (pc := 558) 0 0 rfl rfl dL_law_558 ?_
      refine Y_iload C (pc := 559) 4 rfl dL_law_559 ?_
      refine Y_iconst C (pc := 561) (v := (1 : Int32)) (by decide) dL_law_561 ?_
      refine Y_iadd C (pc := 562) dL_law_562 ?_
      obtain ⟨v84, hv84, h⟩ := Option.bind_eq_some_iff.mp h
      refine Y_sld C (pc := 563) hX hbl hbA hv84 dL_law_563 ?_
      refine Y_aload_n C (pc := 564) 3 3 rfl rfl dL_law_564 ?_
      obtain ⟨v85, hv85, h⟩ := Option.bind_eq_some_iff.mp h
      refine Y_callH C X (pc := 565) [.ref (ρ 0), .int v84, .ref (ρ 96)] [] [.int v85.1] (c_L_location hI (by decide +kernel) (by decide +kernel) (by decide) hv85) hA0 hW q_cdw_yL_location q_in_RL q_ml_RL_113 q_st_yL_location (na := 3) (by decide +kernel) (by decide +kernel) (by decide +kernel) ⟨Nat.le_of_ble_eq_true rfl, Nat.le_of_ble_eq_true rfl⟩ (by show _ + 1 ≤ 601024; omega) (by show _ + 6 ≤ 7293033; omega) (Nat.le_of_ble_eq_true rfl) rfl rfl rfl dL_law_565 ?_
      refine Y_istore C (pc := 568) (lv' := [(5, .int v85.1), (0, .ref b), (1, .ref (ρ 0)), (2, .ref (ρ 75)), (3, .ref (ρ 96)), (4, .int s1.1)]) (by decide) rfl dL_law_568 ?_
      refine Y_aload_n C (pc := 570) 2 3 rfl rfl dL_law_570 ?_
      refine Y_aload_n C (pc := 571) 0 1 rfl rfl dL_law_571 ?_
      refine Y_iload C (pc := 572) 5 rfl dL_law_572 ?_
      refine Y_iconst C (pc := 574) (v := (1 : Int32)) (by decide) dL_law_574 ?_
      refine Y_iadd C (pc := 575) dL_law_575 ?_
      obtain ⟨v86, hv86, h⟩ := Option.bind_eq_some_iff.mp h
      refine Y_sld C (pc := 576) hX hbl hbA hv86 dL_law_576 ?_
      obtain ⟨v87, hv87, h⟩ := Option.bind_eq_some_iff.mp h
      refine Y_callV C (pc := 577) [.int v86] [] [.int v87.1] (kb := 75) kd75 rfl rfl (c_X9_location hI kd75 hv87) hAw q_cw_yX9_location q_ml_RL_115 ⟨q_im_yX9_location, q_se_yX9_location⟩ ⟨⟨Nat.le_of_ble_eq_true rfl, Nat.le_of_ble_eq_true rfl⟩, ⟨by show _ ≤ 601024; omega, by show _ ≤ 7293033; omega⟩, Nat.le_of_ble_eq_true rfl⟩ rfl rfl rfl dL_law_577 ?_
      refine Y_istore C (pc := 580) (lv' := [(6, .int v87.1), (5, .int v85.1), (0, .ref b), (1, .ref (ρ 0)), (2, .ref (ρ 75)), (3, .ref (ρ 96)), (4, .int s1.1)]) (by decide) rfl dL_law_580 ?_
      refine Y_aload_n C (pc := 582) 2 4 rfl rfl dL_law_582 ?_
      obtain ⟨v88, hv88, h⟩ := Option.bind_eq_some_iff.mp h
      refine Y_callV C (pc := 583) [] [] [.int v88] (kb := 75) kd75 rfl rfl (c_X9_thrown kd75 hv88) (fun _ h => h.elim) q_cw_yX9_thrown q_ml_RL_94 ⟨q_im_yX9_thrown, q_se_yX9_thrown⟩ ⟨⟨Nat.le_of_ble_eq_true rfl, Nat.le_of_ble_eq_true rfl⟩, ⟨by show _ ≤ 601024; omega, by show _ ≤ 7293033; omega⟩, Nat.le_of_ble_eq_true rfl⟩ rfl rfl rfl dL_law_583 ?_
      refine Y_iload C (pc := 586) 1 rfl dL_law_586 ?_
      refine Y_icmp_eq C (pc := 588) (tgt := 593) dL_law_588 (by decide) (fun c89 => ?_) (fun c89 => ?_)
      · rw [if_pos c89] at h
        refine Y_iload C (pc := 593) 1 rfl dL_law_593 ?_
        refine Y_if_ne C (pc := 595) (tgt := 610) dL_law_595 (by decide) (fun c90 => ?_) (fun c90 => ?_)
        · rw [if_neg c90] at h
          exact Y_sub [2, 3, 4, 5, 6] rfl (hJ610 _ _ h)
        · rw [if_pos c90] at h
          refine Y_aload_n C (pc := 598) 3 5 rfl rfl dL_law_598 ?_
          refine Y_iconst C (pc := 599) (v := (0 : Int32)) (by decide) dL_law_599 ?_
          obtain ⟨v93, hv93, h⟩ := Option.bind_eq_some_iff.mp h
          refine Y_lald C (pc := 600) (by decide +kernel) hv93 dL_law_600 ?_
          refine Y_iload C (pc := 601) 0 rfl dL_law_601 ?_
          refine Y_i2l C (pc := 603) dL_law_603 ?_
          refine Y_lcmp C (pc := 604) dL_law_604 ?_
          refine Y_if_eq C (pc := 605) (tgt := 610) dL_law_605 (by decide) (fun c94 => ?_) (fun c94 => ?_)
          · rw [if_pos c94] at h
            exact Y_sub [2, 3, 4, 5, 6] rfl (hJ610 _ _ h)
          · rw [if_neg c94] at h
            exact absurd (hE _ (Option.some.inj h).symm) (by decide)
      · rw [if_neg c89] at h
        exact absurd (hE _ (Option.some.inj h).symm) (by decide)
    rw [if_neg w5] at h
    by_cases w6 : (v3 &&& (63 : Int32)) = (6 : Int32)
    · rw [if_pos w6] at h
      refine Y_tableIn C (pc := 39) dL_law_39 (by rw [w6]; decide) (by rw [w6]; decide) (off := 574) (tgt := 613) (by rw [w6]; rfl) (by decide) ?_
      refine Y_aload_n C (pc := 613) 1 1 rfl rfl dL_law_613 ?_
      obtain ⟨v95, hv95, h⟩ := Option.bind_eq_some_iff.mp h
      refine Y_callV C (pc := 614) [] [] [.int v95] (kb := 0) kd0 rfl rfl (c_X8_cost kd0 hv95) (fun _ h => h.elim) q_cw_yX8_cost q_ml_RL_116 ⟨q_im_yX8_cost, q_se_yX8_cost⟩ ⟨⟨Nat.le_of_ble_eq_true rfl, Nat.le_of_ble_eq_true rfl⟩, ⟨by show _ ≤ 601024; omega, by show _ ≤ 7293033; omega⟩, Nat.le_of_ble_eq_true rfl⟩ rfl rfl rfl dL_law_614 ?_
      refine Y_aload_n C (pc := 617) 2 2 rfl rfl dL_law_617 ?_
      obtain ⟨v96, hv96, h⟩ := Option.bind_eq_some_iff.mp h
      refine Y_callV C (pc := 618) [] [.int v95] [.int v96.1, .int v95] (kb := 75) kd75 rfl rfl (c_X9_cost hI kd75 hv96) hAw q_cw_yX9_cost q_ml_RL_119 ⟨q_im_yX9_cost, q_se_yX9_cost⟩ ⟨⟨Nat.le_of_ble_eq_true rfl, Nat.le_of_ble_eq_true rfl⟩, ⟨by show _ ≤ 601024; omega, by show _ ≤ 7293033; omega⟩, Nat.le_of_ble_eq_true rfl⟩ rfl rfl rfl dL_law_618 ?_
      refine Y_icmp_eq C (pc := 621) (tgt := 1847) dL_law_621 (by decide) (fun c97 => ?_) (fun c97 => ?_)
      · rw [if_pos c97] at h
        exact Y_widen (Nat.le_add_right _ 1) (Nat.le_add_right _ 6) (Y_sub [0, 1, 2, 3, 4] rfl (hJ1847 _ _ h))
      · rw [if_neg c97] at h
        exact absurd (hE _ (Option.some.inj h).symm) (by decide)
    rw [if_neg w6] at h
    by_cases w7 : (v3 &&& (63 : Int32)) = (7 : Int32)
    · rw [if_pos w7] at h
      refine Y_tableIn C (pc := 39) dL_law_39 (by rw [w7]; decide) (by rw [w7]; decide) (off := 587) (tgt := 626) (by rw [w7]; rfl) (by decide) ?_
      refine Y_aload_n C (pc := 626) 1 1 rfl rfl dL_law_626 ?_
      refine Y_aload_n C (pc := 627) 0 0 rfl rfl dL_law_627 ?_
      refine Y_iload C (pc := 628) 4 rfl dL_law_628 ?_
      refine Y_iconst C (pc := 630) (v := (1 : Int32)) (by decide) dL_law_630 ?_
      refine Y_iadd C (pc := 631) dL_law_631 ?_
      obtain ⟨v98, hv98, h⟩ := Option.bind_eq_some_iff.mp h
      refine Y_sld C (pc := 632) hX hbl hbA hv98 dL_law_632 ?_
      refine Y_aload_n C (pc := 633) 3 3 rfl rfl dL_law_633 ?_
      obtain ⟨v99, hv99, h⟩ := Option.bind_eq_some_iff.mp h
      refine Y_callH C X (pc := 634) [.ref (ρ 0), .int v98, .ref (ρ 96)] [] [.int v99.1] (c_L_choose hI (by decide +kernel) (by decide +kernel) (by decide) hv99) hA0 hW q_cdw_yL_choose q_in_RL q_ml_RL_120 q_st_yL_choose (na := 3) (by decide +kernel) (by decide +kernel) (by decide +kernel) ⟨Nat.le_of_ble_eq_true rfl, Nat.le_of_ble_eq_true rfl⟩ (by show _ + 1 ≤ 601024; omega) (by show _ + 6 ≤ 7293033; omega) (Nat.le_of_ble_eq_true rfl) rfl rfl rfl dL_law_634 ?_
      refine Y_istore C (pc := 637) (lv' := [(5, .int v99.1), (0, .ref b), (1, .ref (ρ 0)), (2, .ref (ρ 75)), (3, .ref (ρ 96)), (4, .int s1.1)]) (by decide) rfl dL_law_637 ?_
      refine Y_aload_n C (pc := 639) 2 3 rfl rfl dL_law_639 ?_
      refine Y_aload_n C (pc := 640) 0 1 rfl rfl dL_law_640 ?_
      refine Y_iload C (pc := 641) 5 rfl dL_law_641 ?_
      refine Y_iconst C (pc := 643) (v := (1 : Int32)) (by decide) dL_law_643 ?_
      refine Y_iadd C (pc := 644) dL_law_644 ?_
      obtain ⟨v100, hv100, h⟩ := Option.bind_eq_some_iff.mp h
      refine Y_sld C (pc := 645) hX hbl hbA hv100 dL_law_645 ?_
      obtain ⟨v101, hv101, h⟩ := Option.bind_eq_some_iff.mp h
      refine Y_callV C (pc := 646) [.int v100] [] [.int v101.1] (kb := 75) kd75 rfl rfl (c_X9_choose hI kd75 hv101) hAw q_cw_yX9_choose q_ml_RL_122 ⟨q_im_yX9_choose, q_se_yX9_choose⟩ ⟨⟨Nat.le_of_ble_eq_true rfl, Nat.le_of_ble_eq_true rfl⟩, ⟨by show _ ≤ 601024; omega, by show _ ≤ 7293033; omega⟩, Nat.le_of_ble_eq_true rfl⟩ rfl rfl rfl dL_law_646 ?_
      refine Y_istore C (pc := 649) (lv' := [(6, .int v101.1), (5, .int v99.1), (0, .ref b), (1, .ref (ρ 0)), (2, .ref (ρ 75)), (3, .ref (ρ 96)), (4, .int s1.1)]) (by decide) rfl dL_law_649 ?_
      refine Y_aload_n C (pc := 651) 2 4 rfl rfl dL_law_651 ?_
      obtain ⟨v102, hv102, h⟩ := Option.bind_eq_some_iff.mp h
      refine Y_callV C (pc := 652) [] [] [.int v102] (kb := 75) kd75 rfl rfl (c_X9_thrown kd75 hv102) (fun _ h => h.elim) q_cw_yX9_thrown q_ml_RL_94 ⟨q_im_yX9_thrown, q_se_yX9_thrown⟩ ⟨⟨Nat.le_of_ble_eq_true rfl, Nat.le_of_ble_eq_true rfl⟩, ⟨by show _ ≤ 601024; omega, by show _ ≤ 7293033; omega⟩, Nat.le_of_ble_eq_true rfl⟩ rfl rfl rfl dL_law_652 ?_
      refine Y_iload C (pc := 655) 1 rfl dL_law_655 ?_
      refine Y_icmp_eq C (pc := 657) (tgt := 662) dL_law_657 (by decide) (fun c103 => ?_) (fun c103 => ?_)
      · rw [if_pos c103] at h
        refine Y_iload C (pc := 662) 1 rfl dL_law_662 ?_
        refine Y_if_ne C (pc := 664) (tgt := 679) dL_law_664 (by decide) (fun c104 => ?_) (fun c104 => ?_)
        · rw [if_neg c104] at h
          exact Y_sub [2, 3, 4, 5, 6] rfl (hJ679 _ _ h)
        · rw [if_pos c104] at h
          refine Y_aload_n C (pc := 667) 3 5 rfl rfl dL_law_667 ?_
          refine Y_iconst C (pc := 668) (v := (0 : Int32)) (by decide) dL_law_668 ?_
          obtain ⟨v107, hv107, h⟩ := Option.bind_eq_some_iff.mp h
          refine Y_lald C (pc := 669) (by decide +kernel) hv107 dL_law_669 ?_
          refine Y_iload C (pc := 670) 0 rfl dL_law_670 ?_
          refine Y_i2l C (pc := 672) dL_law_672 ?_
          refine Y_lcmp C (pc := 673) dL_law_673 ?_
          refine Y_if_eq C (pc := 674) (tgt := 679) dL_law_674 (by decide) (fun c108 => ?_) (fun c108 => ?_)
          · rw [if_pos c108] at h
            exact Y_sub [2, 3, 4, 5, 6] rfl (hJ679 _ _ h)
          · rw [if_neg c108] at h
            exact absurd (hE _ (Option.some.inj h).symm) (by decide)
      · rw [if_neg c103] at h
        exact absurd (hE _ (Option.some.inj h).symm) (by decide)
    rw [if_neg w7] at h
    by_cases w8 : (v3 &&& (63 : Int32)) = (8 : Int32)
    · rw [if_pos w8] at h
      refine Y_tableIn C (pc := 39) dL_law_39 (by rw [w8]; decide) (by rw [w8]; decide) (off := 643) (tgt := 682) (by rw [w8]; rfl) (by decide) ?_
      refine Y_aload_n C (pc := 682) 1 1 rfl rfl dL_law_682 ?_
      obtain ⟨v109, hv109, h⟩ := Option.bind_eq_some_iff.mp h
      refine Y_callV C (pc := 683) [] [] [.int v109] (kb := 0) kd0 rfl rfl (c_X8_number kd0 hv109) (fun _ h => h.elim) q_cw_yX8_number q_ml_RL_123 ⟨q_im_yX8_number, q_se_yX8_number⟩ ⟨⟨Nat.le_of_ble_eq_true rfl, Nat.le_of_ble_eq_true rfl⟩, ⟨by show _ ≤ 601024; omega, by show _ ≤ 7293033; omega⟩, Nat.le_of_ble_eq_true rfl⟩ rfl rfl rfl dL_law_683 ?_
      refine Y_aload_n C (pc := 686) 2 2 rfl rfl dL_law_686 ?_
      obtain ⟨v110, hv110, h⟩ := Option.bind_eq_some_iff.mp h
      refine Y_callV C (pc := 687) [] [.int v109] [.int v110.1, .int v109] (kb := 75) kd75 rfl rfl (c_X9_number hI kd75 hv110) hAw q_cw_yX9_number q_ml_RL_126 ⟨q_im_yX9_number, q_se_yX9_number⟩ ⟨⟨Nat.le_of_ble_eq_true rfl, Nat.le_of_ble_eq_true rfl⟩, ⟨by show _ ≤ 601024; omega, by show _ ≤ 7293033; omega⟩, Nat.le_of_ble_eq_true rfl⟩ rfl rfl rfl dL_law_687 ?_
      refine Y_icmp_eq C (pc := 690) (tgt := 1847) dL_law_690 (by decide) (fun c111 => ?_) (fun c111 => ?_)
      · rw [if_pos c111] at h
        exact Y_widen (Nat.le_add_right _ 1) (Nat.le_add_right _ 6) (Y_sub [0, 1, 2, 3, 4] rfl (hJ1847 _ _ h))
      · rw [if_neg c111] at h
        exact absurd (hE _ (Option.some.inj h).symm) (by decide)
    rw [if_neg w8] at h
    by_cases w9 : (v3 &&& (63 : Int32)) = (9 : Int32)
    · rw [if_pos w9] at h
      refine Y_tableIn C (pc := 39) dL_law_39 (by rw [w9]; decide) (by rw [w9]; decide) (off := 656) (tgt := 695) (by rw [w9]; rfl) (by decide) ?_
      refine Y_aload_n C (pc := 695) 1 1 rfl rfl dL_law_695 ?_
      refine Y_aload_n C (pc := 696) 0 0 rfl rfl dL_law_696 ?_
      refine Y_iload C (pc := 697) 4 rfl dL_law_697 ?_
      refine Y_iconst C (pc := 699) (v := (1 : Int32)) (by decide) dL_law_699 ?_
      refine Y_iadd C (pc := 700) dL_law_700 ?_
      obtain ⟨v112, hv112, h⟩ := Option.bind_eq_some_iff.mp h
      refine Y_sld C (pc := 701) hX hbl hbA hv112 dL_law_701 ?_
      refine Y_aload_n C (pc := 702) 0 0 rfl rfl dL_law_702 ?_
      refine Y_iload C (pc := 703) 4 rfl dL_law_703 ?_
      refine Y_iconst C (pc := 705) (v := (2 : Int32)) (by decide) dL_law_705 ?_
      refine Y_iadd C (pc := 706) dL_law_706 ?_
      obtain ⟨v113, hv113, h⟩ := Option.bind_eq_some_iff.mp h
      refine Y_sld C (pc := 707) hX hbl hbA hv113 dL_law_707 ?_
      refine Y_aload_n C (pc := 708) 3 3 rfl rfl dL_law_708 ?_
      obtain ⟨v114, hv114, h⟩ := Option.bind_eq_some_iff.mp h
      refine Y_callH C X (pc := 709) [.ref (ρ 0), .int v112, .int v113, .ref (ρ 96)] [] [.int v114.1] (c_L_exchange hI (by decide +kernel) (by decide +kernel) (by decide) hv114) hA0 hW q_cdw_yL_exchange q_in_RL q_ml_RL_127 q_st_yL_exchange (na := 4) (by decide +kernel) (by decide +kernel) (by decide +kernel) ⟨Nat.le_of_ble_eq_true rfl, Nat.le_of_ble_eq_true rfl⟩ (by show _ + 1 ≤ 601024; omega) (by show _ + 6 ≤ 7293033; omega) (Nat.le_of_ble_eq_true rfl) rfl rfl rfl dL_law_709 ?_
      refine Y_istore C (pc := 712) (lv' := [(5, .int v114.1), (0, .ref b), (1, .ref (ρ 0)), (2, .ref (ρ 75)), (3, .ref (ρ 96)), (4, .int s1.1)]) (by decide) rfl dL_law_712 ?_
      refine Y_aload_n C (pc := 714) 2 3 rfl rfl dL_law_714 ?_
      refine Y_aload_n C (pc := 715) 0 1 rfl rfl dL_law_715 ?_
      refine Y_iload C (pc := 716) 5 rfl dL_law_716 ?_
      refine Y_iconst C (pc := 718) (v := (1 : Int32)) (by decide) dL_law_718 ?_
      refine Y_iadd C (pc := 719) dL_law_719 ?_
      obtain ⟨v115, hv115, h⟩ := Option.bind_eq_some_iff.mp h
      refine Y_sld C (pc := 720) hX hbl hbA hv115 dL_law_720 ?_
      refine Y_aload_n C (pc := 721) 0 1 rfl rfl dL_law_721 ?_
      refine Y_iload C (pc := 722) 5 rfl dL_law_722 ?_
      refine Y_iconst C (pc := 724) (v := (2 : Int32)) (by decide) dL_law_724 ?_
      refine Y_iadd C (pc := 725) dL_law_725 ?_
      obtain ⟨v116, hv116, h⟩ := Option.bind_eq_some_iff.mp h
      refine Y_sld C (pc := 726) hX hbl hbA hv116 dL_law_726 ?_
      obtain ⟨v117, hv117, h⟩ := Option.bind_eq_some_iff.mp h
      refine Y_callV C (pc := 727) [.int v115, .int v116] [] [.int v117.1] (kb := 75) kd75 rfl rfl (c_X9_exchange hI kd75 hv117) hAw q_cw_yX9_exchange q_ml_RL_130 ⟨q_im_yX9_exchange, q_se_yX9_exchange⟩ ⟨⟨Nat.le_of_ble_eq_true rfl, Nat.le_of_ble_eq_true rfl⟩, ⟨by show _ ≤ 601024; omega, by show _ ≤ 7293033; omega⟩, Nat.le_of_ble_eq_true rfl⟩ rfl rfl rfl dL_law_727 ?_
      refine Y_istore C (pc := 730) (lv' := [(6, .int v117.1), (5, .int v114.1), (0, .ref b), (1, .ref (ρ 0)), (2, .ref (ρ 75)), (3, .ref (ρ 96)), (4, .int s1.1)]) (by decide) rfl dL_law_730 ?_
      refine Y_aload_n C (pc := 732) 2 4 rfl rfl dL_law_732 ?_
      obtain ⟨v118, hv118, h⟩ := Option.bind_eq_some_iff.mp h
      refine Y_callV C (pc := 733) [] [] [.int v118] (kb := 75) kd75 rfl rfl (c_X9_thrown kd75 hv118) (fun _ h => h.elim) q_cw_yX9_thrown q_ml_RL_94 ⟨q_im_yX9_thrown, q_se_yX9_thrown⟩ ⟨⟨Nat.le_of_ble_eq_true rfl, Nat.le_of_ble_eq_true rfl⟩, ⟨by show _ ≤ 601024; omega, by show _ ≤ 7293033; omega⟩, Nat.le_of_ble_eq_true rfl⟩ rfl rfl rfl dL_law_733 ?_
      refine Y_iload C (pc := 736) 1 rfl dL_law_736 ?_
      refine Y_icmp_eq C (pc := 738) (tgt := 743) dL_law_738 (by decide) (fun c119 => ?_) (fun c119 => ?_)
      · rw [if_pos c119] at h
        refine Y_iload C (pc := 743) 1 rfl dL_law_743 ?_
        refine Y_if_ne C (pc := 745) (tgt := 760) dL_law_745 (by decide) (fun c120 => ?_) (fun c120 => ?_)
        · rw [if_neg c120] at h
          exact Y_sub [2, 3, 4, 5, 6] rfl (hJ760 _ _ h)
        · rw [if_pos c120] at h
          refine Y_aload_n C (pc := 748) 3 5 rfl rfl dL_law_748 ?_
          refine Y_iconst C (pc := 749) (v := (0 : Int32)) (by decide) dL_law_749 ?_
          obtain ⟨v123, hv123, h⟩ := Option.bind_eq_some_iff.mp h
          refine Y_lald C (pc := 750) (by decide +kernel) hv123 dL_law_750 ?_
          refine Y_iload C (pc := 751) 0 rfl dL_law_751 ?_
          refine Y_i2l C (pc := 753) dL_law_753 ?_
          refine Y_lcmp C (pc := 754) dL_law_754 ?_
          refine Y_if_eq C (pc := 755) (tgt := 760) dL_law_755 (by decide) (fun c124 => ?_) (fun c124 => ?_)
          · rw [if_pos c124] at h
            exact Y_sub [2, 3, 4, 5, 6] rfl (hJ760 _ _ h)
          · rw [if_neg c124] at h
            exact absurd (hE _ (Option.some.inj h).symm) (by decide)
      · rw [if_neg c119] at h
        exact absurd (hE _ (Option.some.inj h).symm) (by decide)
    rw [if_neg w9] at h
    by_cases w10 : (v3 &&& (63 : Int32)) = (10 : Int32)
    · rw [if_pos w10] at h
      refine Y_tableIn C (pc := 39) dL_law_39 (by rw [w10]; decide) (by rw [w10]; decide) (off := 724) (tgt := 763) (by rw [w10]; rfl) (by decide) ?_
      refine Y_aload_n C (pc := 763) 1 1 rfl rfl dL_law_763 ?_
      refine Y_aload_n C (pc := 764) 0 0 rfl rfl dL_law_764 ?_
      refine Y_iload C (pc := 765) 4 rfl dL_law_765 ?_
      refine Y_iconst C (pc := 767) (v := (1 : Int32)) (by decide) dL_law_767 ?_
      refine Y_iadd C (pc := 768) dL_law_768 ?_
      obtain ⟨v125, hv125, h⟩ := Option.bind_eq_some_iff.mp h
      refine Y_sld C (pc := 769) hX hbl hbA hv125 dL_law_769 ?_
      refine Y_aload_n C (pc := 770) 0 0 rfl rfl dL_law_770 ?_
      refine Y_iload C (pc := 771) 4 rfl dL_law_771 ?_
      refine Y_iconst C (pc := 773) (v := (2 : Int32)) (by decide) dL_law_773 ?_
      refine Y_iadd C (pc := 774) dL_law_774 ?_
      obtain ⟨v126, hv126, h⟩ := Option.bind_eq_some_iff.mp h
      refine Y_sld C (pc := 775) hX hbl hbA hv126 dL_law_775 ?_
      refine Y_aload_n C (pc := 776) 3 3 rfl rfl dL_law_776 ?_
      obtain ⟨v127, hv127, h⟩ := Option.bind_eq_some_iff.mp h
      refine Y_callH C X (pc := 777) [.ref (ρ 0), .int v125, .int v126, .ref (ρ 96)] [] [.int v127.1] (c_L_gain hI (by decide +kernel) (by decide +kernel) (by decide) hv127) hA0 hW q_cdw_yL_gain q_in_RL q_ml_RL_131 q_st_yL_gain (na := 4) (by decide +kernel) (by decide +kernel) (by decide +kernel) ⟨Nat.le_of_ble_eq_true rfl, Nat.le_of_ble_eq_true rfl⟩ (by show _ + 1 ≤ 601024; omega) (by show _ + 6 ≤ 7293033; omega) (Nat.le_of_ble_eq_true rfl) rfl rfl rfl dL_law_777 ?_
      refine Y_istore C (pc := 780) (lv' := [(5, .int v127.1), (0, .ref b), (1, .ref (ρ 0)), (2, .ref (ρ 75)), (3, .ref (ρ 96)), (4, .int s1.1)]) (by decide) rfl dL_law_780 ?_
      refine Y_aload_n C (pc := 782) 2 3 rfl rfl dL_law_782 ?_
      refine Y_aload_n C (pc := 783) 0 1 rfl rfl dL_law_783 ?_
      refine Y_iload C (pc := 784) 5 rfl dL_law_784 ?_
      refine Y_iconst C (pc := 786) (v := (1 : Int32)) (by decide) dL_law_786 ?_
      refine Y_iadd C (pc := 787) dL_law_787 ?_
      obtain ⟨v128, hv128, h⟩ := Option.bind_eq_some_iff.mp h
      refine Y_sld C (pc := 788) hX hbl hbA hv128 dL_law_788 ?_
      refine Y_aload_n C (pc := 789) 0 1 rfl rfl dL_law_789 ?_
      refine Y_iload C (pc := 790) 5 rfl dL_law_790 ?_
      refine Y_iconst C (pc := 792) (v := (2 : Int32)) (by decide) dL_law_792 ?_
      refine Y_iadd C (pc := 793) dL_law_793 ?_
      obtain ⟨v129, hv129, h⟩ := Option.bind_eq_some_iff.mp h
      refine Y_sld C (pc := 794) hX hbl hbA hv129 dL_law_794 ?_
      obtain ⟨v130, hv130, h⟩ := Option.bind_eq_some_iff.mp h
      refine Y_callV C (pc := 795) [.int v128, .int v129] [] [.int v130.1] (kb := 75) kd75 rfl rfl (c_X9_gain hI kd75 hv130) hAw q_cw_yX9_gain q_ml_RL_133 ⟨q_im_yX9_gain, q_se_yX9_gain⟩ ⟨⟨Nat.le_of_ble_eq_true rfl, Nat.le_of_ble_eq_true rfl⟩, ⟨by show _ ≤ 601024; omega, by show _ ≤ 7293033; omega⟩, Nat.le_of_ble_eq_true rfl⟩ rfl rfl rfl dL_law_795 ?_
      refine Y_istore C (pc := 798) (lv' := [(6, .int v130.1), (5, .int v127.1), (0, .ref b), (1, .ref (ρ 0)), (2, .ref (ρ 75)), (3, .ref (ρ 96)), (4, .int s1.1)]) (by decide) rfl dL_law_798 ?_
      refine Y_aload_n C (pc := 800) 2 4 rfl rfl dL_law_800 ?_
      obtain ⟨v131, hv131, h⟩ := Option.bind_eq_some_iff.mp h
      refine Y_callV C (pc := 801) [] [] [.int v131] (kb := 75) kd75 rfl rfl (c_X9_thrown kd75 hv131) (fun _ h => h.elim) q_cw_yX9_thrown q_ml_RL_94 ⟨q_im_yX9_thrown, q_se_yX9_thrown⟩ ⟨⟨Nat.le_of_ble_eq_true rfl, Nat.le_of_ble_eq_true rfl⟩, ⟨by show _ ≤ 601024; omega, by show _ ≤ 7293033; omega⟩, Nat.le_of_ble_eq_true rfl⟩ rfl rfl rfl dL_law_801 ?_
      refine Y_iload C (pc := 804) 1 rfl dL_law_804 ?_
      refine Y_icmp_eq C (pc := 806) (tgt := 811) dL_law_806 (by decide) (fun c132 => ?_) (fun c132 => ?_)
      · rw [if_pos c132] at h
        refine Y_iload C (pc := 811) 1 rfl dL_law_811 ?_
        refine Y_if_ne C (pc := 813) (tgt := 828) dL_law_813 (by decide) (fun c133 => ?_) (fun c133 => ?_)
        · rw [if_neg c133] at h
          exact Y_sub [2, 3, 4, 5, 6] rfl (hJ828 _ _ h)
        · rw [if_pos c133] at h
          refine Y_aload_n C (pc := 816) 3 5 rfl rfl dL_law_816 ?_
          refine Y_iconst C (pc := 817) (v := (0 : Int32)) (by decide) dL_law_817 ?_
          obtain ⟨v136, hv136, h⟩ := Option.bind_eq_some_iff.mp h
          refine Y_lald C (pc := 818) (by decide +kernel) hv136 dL_law_818 ?_
          refine Y_iload C (pc := 819) 0 rfl dL_law_819 ?_
          refine Y_i2l C (pc := 821) dL_law_821 ?_
          refine Y_lcmp C (pc := 822) dL_law_822 ?_
          refine Y_if_eq C (pc := 823) (tgt := 828) dL_law_823 (by decide) (fun c137 => ?_) (fun c137 => ?_)
          · rw [if_pos c137] at h
            exact Y_sub [2, 3, 4, 5, 6] rfl (hJ828 _ _ h)
          · rw [if_neg c137] at h
            exact absurd (hE _ (Option.some.inj h).symm) (by decide)
      · rw [if_neg c132] at h
        exact absurd (hE _ (Option.some.inj h).symm) (by decide)
    rw [if_neg w10] at h
    by_cases w11 : (v3 &&& (63 : Int32)) = (11 : Int32)
    · rw [if_pos w11] at h
      refine Y_tableIn C (pc := 39) dL_law_39 (by rw [w11]; decide) (by rw [w11]; decide) (off := 792) (tgt := 831) (by rw [w11]; rfl) (by decide) ?_
      refine Y_aload_n C (pc := 831) 1 1 rfl rfl dL_law_831 ?_
      obtain ⟨v138, hv138, h⟩ := Option.bind_eq_some_iff.mp h
      refine Y_callV C (pc := 832) [] [] [.int v138] (kb := 0) kd0 rfl rfl (c_X8_bestExchange kd0 hv138) (fun _ h => h.elim) q_cw_yX8_bestExchange q_ml_RL_134 ⟨q_im_yX8_bestExchange, q_se_yX8_bestExchange⟩ ⟨⟨Nat.le_of_ble_eq_true rfl, Nat.le_of_ble_eq_true rfl⟩, ⟨by show _ ≤ 601024; omega, by show _ ≤ 7293033; omega⟩, Nat.le_of_ble_eq_true rfl⟩ rfl rfl rfl dL_law_832 ?_
      refine Y_aload_n C (pc := 835) 2 2 rfl rfl dL_law_835 ?_
      obtain ⟨v139, hv139, h⟩ := Option.bind_eq_some_iff.mp h
      refine Y_callV C (pc := 836) [] [.int v138] [.int v139.1, .int v138] (kb := 75) kd75 rfl rfl (c_X9_bestExchange hI kd75 hv139) hAw q_cw_yX9_bestExchange q_ml_RL_137 ⟨q_im_yX9_bestExchange, q_se_yX9_bestExchange⟩ ⟨⟨Nat.le_of_ble_eq_true rfl, Nat.le_of_ble_eq_true rfl⟩, ⟨by show _ ≤ 601024; omega, by show _ ≤ 7293033; omega⟩, Nat.le_of_ble_eq_true rfl⟩ rfl rfl rfl dL_law_836 ?_
      refine Y_icmp_eq C (pc := 839) (tgt := 1847) dL_law_839 (by decide) (fun c140 => ?_) (fun c140 => ?_)
      · rw [if_pos c140] at h
        exact Y_widen (Nat.le_add_right _ 1) (Nat.le_add_right _ 6) (Y_sub [0, 1, 2, 3, 4] rfl (hJ1847 _ _ h))
      · rw [if_neg c140] at h
        exact absurd (hE _ (Option.some.inj h).symm) (by decide)
    rw [if_neg w11] at h
    by_cases w12 : (v3 &&& (63 : Int32)) = (12 : Int32)
    · rw [if_pos w12] at h
      refine Y_tableIn C (pc := 39) dL_law_39 (by rw [w12]; decide) (by rw [w12]; decide) (off := 805) (tgt := 844) (by rw [w12]; rfl) (by decide) ?_
      refine Y_aload_n C (pc := 844) 1 1 rfl rfl dL_law_844 ?_
      obtain ⟨v141, hv141, h⟩ := Option.bind_eq_some_iff.mp h
      refine Y_callV C (pc := 845) [] [] [.int v141.1] (kb := 0) kd0 rfl rfl (c_X8_descend hI kd0 hv141) hAw q_cw_yX8_descend q_ml_RL_138 ⟨q_im_yX8_descend, q_se_yX8_descend⟩ ⟨⟨Nat.le_of_ble_eq_true rfl, Nat.le_of_ble_eq_true rfl⟩, ⟨by show _ ≤ 601024; omega, by show _ ≤ 7293033; omega⟩, Nat.le_of_ble_eq_true rfl⟩ rfl rfl rfl dL_law_845 ?_
      refine Y_aload_n C (pc := 848) 2 2 rfl rfl dL_law_848 ?_
      obtain ⟨v142, hv142, h⟩ := Option.bind_eq_some_iff.mp h
      refine Y_callV C (pc := 849) [] [.int v141.1] [.int v142.1, .int v141.1] (kb := 75) kd75 rfl rfl (c_X9_descend hI kd75 hv142) hAw q_cw_yX9_descend q_ml_RL_141 ⟨q_im_yX9_descend, q_se_yX9_descend⟩ ⟨⟨Nat.le_of_ble_eq_true rfl, Nat.le_of_ble_eq_true rfl⟩, ⟨by show _ ≤ 601024; omega, by show _ ≤ 7293033; omega⟩, Nat.le_of_ble_eq_true rfl⟩ rfl rfl rfl dL_law_849 ?_
      refine Y_icmp_eq C (pc := 852) (tgt := 1847) dL_law_852 (by decide) (fun c143 => ?_) (fun c143 => ?_)
      · rw [if_pos c143] at h
        exact Y_widen (Nat.le_add_right _ 1) (Nat.le_add_right _ 6) (Y_sub [0, 1, 2, 3, 4] rfl (hJ1847 _ _ h))
      · rw [if_neg c143] at h
        exact absurd (hE _ (Option.some.inj h).symm) (by decide)
    rw [if_neg w12] at h
    by_cases w13 : (v3 &&& (63 : Int32)) = (13 : Int32)
    · rw [if_pos w13] at h
      refine Y_tableIn C (pc := 39) dL_law_39 (by rw [w13]; decide) (by rw [w13]; decide) (off := 818) (tgt := 857) (by rw [w13]; rfl) (by decide) ?_
      refine Y_aload_n C (pc := 857) 1 1 rfl rfl dL_law_857 ?_
      refine Y_aload_n C (pc := 858) 0 0 rfl rfl dL_law_858 ?_
      refine Y_iload C (pc := 859) 4 rfl dL_law_859 ?_
      refine Y_iconst C (pc := 861) (v := (1 : Int32)) (by decide) dL_law_861 ?_
      refine Y_iadd C (pc := 862) dL_law_862 ?_
      obtain ⟨v144, hv144, h⟩ := Option.bind_eq_some_iff.mp h
      refine Y_sld C (pc := 863) hX hbl hbA hv144 dL_law_863 ?_
      obtain ⟨v145, hv145, h⟩ := Option.bind_eq_some_iff.mp h
      refine Y_callV C (pc := 864) [.int v144] [] [.int v145.1] (kb := 0) kd0 rfl rfl (c_X8_within hI kd0 hv145) hAw q_cw_yX8_within q_ml_RL_142 ⟨q_im_yX8_within, q_se_yX8_within⟩ ⟨⟨Nat.le_of_ble_eq_true rfl, Nat.le_of_ble_eq_true rfl⟩, ⟨by show _ ≤ 601024; omega, by show _ ≤ 7293033; omega⟩, Nat.le_of_ble_eq_true rfl⟩ rfl rfl rfl dL_law_864 ?_
      refine Y_aload_n C (pc := 867) 2 2 rfl rfl dL_law_867 ?_
      refine Y_aload_n C (pc := 868) 0 0 rfl rfl dL_law_868 ?_
      refine Y_iload C (pc := 869) 4 rfl dL_law_869 ?_
      refine Y_iconst C (pc := 871) (v := (1 : Int32)) (by decide) dL_law_871 ?_
      refine Y_iadd C (pc := 872) dL_law_872 ?_
      obtain ⟨v146, hv146, h⟩ := Option.bind_eq_some_iff.mp h
      refine Y_sld C (pc := 873) hX hbl hbA hv146 dL_law_873 ?_
      obtain ⟨v147, hv147, h⟩ := Option.bind_eq_some_iff.mp h
      refine Y_callV C (pc := 874) [.int v146] [.int v145.1] [.int v147.1, .int v145.1] (kb := 75) kd75 rfl rfl (c_X9_within hI kd75 hv147) hAw q_cw_yX9_within q_ml_RL_145 ⟨q_im_yX9_within, q_se_yX9_within⟩ ⟨⟨Nat.le_of_ble_eq_true rfl, Nat.le_of_ble_eq_true rfl⟩, ⟨by show _ ≤ 601024; omega, by show _ ≤ 7293033; omega⟩, Nat.le_of_ble_eq_true rfl⟩ rfl rfl rfl dL_law_874 ?_
      refine Y_icmp_eq C (pc := 877) (tgt := 1847) dL_law_877 (by decide) (fun c148 => ?_) (fun c148 => ?_)
      · rw [if_pos c148] at h
        exact Y_widen (Nat.le_add_right _ 1) (Nat.le_add_right _ 6) (Y_sub [0, 1, 2, 3, 4] rfl (hJ1847 _ _ h))
      · rw [if_neg c148] at h
        exact absurd (hE _ (Option.some.inj h).symm) (by decide)
    rw [if_neg w13] at h
    by_cases w14 : (v3 &&& (63 : Int32)) = (14 : Int32)
    · rw [if_pos w14] at h
      refine Y_tableIn C (pc := 39) dL_law_39 (by rw [w14]; decide) (by rw [w14]; decide) (off := 843) (tgt := 882) (by rw [w14]; rfl) (by decide) ?_
      refine Y_aload_n C (pc := 882) 1 1 rfl rfl dL_law_882 ?_
      obtain ⟨v149, hv149, h⟩ := Option.bind_eq_some_iff.mp h
      refine Y_callV C (pc := 883) [] [] [.int v149.1] (kb := 0) kd0 rfl rfl (c_X8_optimum hI kd0 hv149) hAw q_cw_yX8_optimum q_ml_RL_146 ⟨q_im_yX8_optimum, q_se_yX8_optimum⟩ ⟨⟨Nat.le_of_ble_eq_true rfl, Nat.le_of_ble_eq_true rfl⟩, ⟨by show _ ≤ 601024; omega, by show _ ≤ 7293033; omega⟩, Nat.le_of_ble_eq_true rfl⟩ rfl rfl rfl dL_law_883 ?_
      refine Y_aload_n C (pc := 886) 2 2 rfl rfl dL_law_886 ?_
      obtain ⟨v150, hv150, h⟩ := Option.bind_eq_some_iff.mp h
      refine Y_callV C (pc := 887) [] [.int v149.1] [.int v150.1, .int v149.1] (kb := 75) kd75 rfl rfl (c_X9_optimum hI kd75 hv150) hAw q_cw_yX9_optimum q_ml_RL_149 ⟨q_im_yX9_optimum, q_se_yX9_optimum⟩ ⟨⟨Nat.le_of_ble_eq_true rfl, Nat.le_of_ble_eq_true rfl⟩, ⟨by show _ ≤ 601024; omega, by show _ ≤ 7293033; omega⟩, Nat.le_of_ble_eq_true rfl⟩ rfl rfl rfl dL_law_887 ?_
      refine Y_icmp_eq C (pc := 890) (tgt := 1847) dL_law_890 (by decide) (fun c151 => ?_) (fun c151 => ?_)
      · rw [if_pos c151] at h
        exact Y_widen (Nat.le_add_right _ 1) (Nat.le_add_right _ 6) (Y_sub [0, 1, 2, 3, 4] rfl (hJ1847 _ _ h))
      · rw [if_neg c151] at h
        exact absurd (hE _ (Option.some.inj h).symm) (by decide)
    rw [if_neg w14] at h
    by_cases w15 : (v3 &&& (63 : Int32)) = (15 : Int32)
    · rw [if_pos w15] at h
      refine Y_tableIn C (pc := 39) dL_law_39 (by rw [w15]; decide) (by rw [w15]; decide) (off := 856) (tgt := 895) (by rw [w15]; rfl) (by decide) ?_
      refine Y_aload_n C (pc := 895) 1 1 rfl rfl dL_law_895 ?_
      obtain ⟨v152, hv152, h⟩ := Option.bind_eq_some_iff.mp h
      refine Y_callV C (pc := 896) [] [] [.int v152.1] (kb := 0) kd0 rfl rfl (c_X8_optima hI kd0 hv152) hAw q_cw_yX8_optima q_ml_RL_150 ⟨q_im_yX8_optima, q_se_yX8_optima⟩ ⟨⟨Nat.le_of_ble_eq_true rfl, Nat.le_of_ble_eq_true rfl⟩, ⟨by show _ ≤ 601024; omega, by show _ ≤ 7293033; omega⟩, Nat.le_of_ble_eq_true rfl⟩ rfl rfl rfl dL_law_896 ?_
      refine Y_aload_n C (pc := 899) 2 2 rfl rfl dL_law_899 ?_
      obtain ⟨v153, hv153, h⟩ := Option.bind_eq_some_iff.mp h
      refine Y_callV C (pc := 900) [] [.int v152.1] [.int v153.1, .int v152.1] (kb := 75) kd75 rfl rfl (c_X9_optima hI kd75 hv153) hAw q_cw_yX9_optima q_ml_RL_153 ⟨q_im_yX9_optima, q_se_yX9_optima⟩ ⟨⟨Nat.le_of_ble_eq_true rfl, Nat.le_of_ble_eq_true rfl⟩, ⟨by show _ ≤ 601024; omega, by show _ ≤ 7293033; omega⟩, Nat.le_of_ble_eq_true rfl⟩ rfl rfl rfl dL_law_900 ?_
      refine Y_icmp_eq C (pc := 903) (tgt := 1847) dL_law_903 (by decide) (fun c154 => ?_) (fun c154 => ?_)
      · rw [if_pos c154] at h
        exact Y_widen (Nat.le_add_right _ 1) (Nat.le_add_right _ 6) (Y_sub [0, 1, 2, 3, 4] rfl (hJ1847 _ _ h))
      · rw [if_neg c154] at h
        exact absurd (hE _ (Option.some.inj h).symm) (by decide)
    rw [if_neg w15] at h
    by_cases w16 : (v3 &&& (63 : Int32)) = (16 : Int32)
    · rw [if_pos w16] at h
      refine Y_tableIn C (pc := 39) dL_law_39 (by rw [w16]; decide) (by rw [w16]; decide) (off := 869) (tgt := 908) (by rw [w16]; rfl) (by decide) ?_
      refine Y_aload_n C (pc := 908) 1 1 rfl rfl dL_law_908 ?_
      refine Y_aload_n C (pc := 909) 0 0 rfl rfl dL_law_909 ?_
      refine Y_iload C (pc := 910) 4 rfl dL_law_910 ?_
      refine Y_iconst C (pc := 912) (v := (1 : Int32)) (by decide) dL_law_912 ?_
      refine Y_iadd C (pc := 913) dL_law_913 ?_
      obtain ⟨v155, hv155, h⟩ := Option.bind_eq_some_iff.mp h
      refine Y_sld C (pc := 914) hX hbl hbA hv155 dL_law_914 ?_
      obtain ⟨v156, hv156, h⟩ := Option.bind_eq_some_iff.mp h
      refine Y_callV C (pc := 915) [.int v155] [] [.int v156.1] (kb := 0) kd0 rfl rfl (c_X8_optimal hI kd0 hv156) hAw q_cw_yX8_optimal q_ml_RL_154 ⟨q_im_yX8_optimal, q_se_yX8_optimal⟩ ⟨⟨Nat.le_of_ble_eq_true rfl, Nat.le_of_ble_eq_true rfl⟩, ⟨by show _ ≤ 601024; omega, by show _ ≤ 7293033; omega⟩, Nat.le_of_ble_eq_true rfl⟩ rfl rfl rfl dL_law_915 ?_
      refine Y_aload_n C (pc := 918) 2 2 rfl rfl dL_law_918 ?_
      refine Y_aload_n C (pc := 919) 0 0 rfl rfl dL_law_919 ?_
      refine Y_iload C (pc := 920) 4 rfl dL_law_920 ?_
      refine Y_iconst C (pc := 922) (v := (1 : Int32)) (by decide) dL_law_922 ?_
      refine Y_iadd C (pc := 923) dL_law_923 ?_
      obtain ⟨v157, hv157, h⟩ := Option.bind_eq_some_iff.mp h
      refine Y_sld C (pc := 924) hX hbl hbA hv157 dL_law_924 ?_
      obtain ⟨v158, hv158, h⟩ := Option.bind_eq_some_iff.mp h
      refine Y_callV C (pc := 925) [.int v157] [.int v156.1] [.int v158.1, .int v156.1] (kb := 75) kd75 rfl rfl (c_X9_optimal hI kd75 hv158) hAw q_cw_yX9_optimal q_ml_RL_157 ⟨q_im_yX9_optimal, q_se_yX9_optimal⟩ ⟨⟨Nat.le_of_ble_eq_true rfl, Nat.le_of_ble_eq_true rfl⟩, ⟨by show _ ≤ 601024; omega, by show _ ≤ 7293033; omega⟩, Nat.le_of_ble_eq_true rfl⟩ rfl rfl rfl dL_law_925 ?_
      refine Y_icmp_eq C (pc := 928) (tgt := 1847) dL_law_928 (by decide) (fun c159 => ?_) (fun c159 => ?_)
      · rw [if_pos c159] at h
        exact Y_widen (Nat.le_add_right _ 1) (Nat.le_add_right _ 6) (Y_sub [0, 1, 2, 3, 4] rfl (hJ1847 _ _ h))
      · rw [if_neg c159] at h
        exact absurd (hE _ (Option.some.inj h).symm) (by decide)
    rw [if_neg w16] at h
    by_cases w17 : (v3 &&& (63 : Int32)) = (17 : Int32)
    · rw [if_pos w17] at h
      refine Y_tableIn C (pc := 39) dL_law_39 (by rw [w17]; decide) (by rw [w17]; decide) (off := 894) (tgt := 933) (by rw [w17]; rfl) (by decide) ?_
      refine Y_aload_n C (pc := 933) 1 1 rfl rfl dL_law_933 ?_
      refine Y_aload_n C (pc := 934) 0 0 rfl rfl dL_law_934 ?_
      refine Y_iload C (pc := 935) 4 rfl dL_law_935 ?_
      refine Y_iconst C (pc := 937) (v := (1 : Int32)) (by decide) dL_law_937 ?_
      refine Y_iadd C (pc := 938) dL_law_938 ?_
      obtain ⟨v160, hv160, h⟩ := Option.bind_eq_some_iff.mp h
      refine Y_sld C (pc := 939) hX hbl hbA hv160 dL_law_939 ?_
      refine Y_aload_n C (pc := 940) 3 3 rfl rfl dL_law_940 ?_
      obtain ⟨v161, hv161, h⟩ := Option.bind_eq_some_iff.mp h
      refine Y_callH C X (pc := 941) [.ref (ρ 0), .int v160, .ref (ρ 96)] [] [.int v161.1] (c_L_mean hI (by decide +kernel) (by decide +kernel) (by decide) hv161) hA0 hW q_cdw_yL_mean q_in_RL q_ml_RL_158 q_st_yL_mean (na := 3) (by decide +kernel) (by decide +kernel) (by decide +kernel) ⟨Nat.le_of_ble_eq_true rfl, Nat.le_of_ble_eq_true rfl⟩ (by show _ + 1 ≤ 601024; omega) (by show _ + 6 ≤ 7293033; omega) (Nat.le_of_ble_eq_true rfl) rfl rfl rfl dL_law_941 ?_
      refine Y_istore C (pc := 944) (lv' := [(5, .int v161.1), (0, .ref b), (1, .ref (ρ 0)), (2, .ref (ρ 75)), (3, .ref (ρ 96)), (4, .int s1.1)]) (by decide) rfl dL_law_944 ?_
      refine Y_aload_n C (pc := 946) 2 3 rfl rfl dL_law_946 ?_
      refine Y_aload_n C (pc := 947) 0 1 rfl rfl dL_law_947 ?_
      refine Y_iload C (pc := 948) 5 rfl dL_law_948 ?_
      refine Y_iconst C (pc := 950) (v := (1 : Int32)) (by decide) dL_law_950 ?_
      refine Y_iadd C (pc := 951) dL_law_951 ?_
      obtain ⟨v162, hv162, h⟩ := Option.bind_eq_some_iff.mp h
      refine Y_sld C (pc := 952) hX hbl hbA hv162 dL_law_952 ?_
      obtain ⟨v163, hv163, h⟩ := Option.bind_eq_some_iff.mp h
      refine Y_callV C (pc := 953) [.int v162] [] [.int v163.1] (kb := 75) kd75 rfl rfl (c_X9_mean hI kd75 hv163) hAw q_cw_yX9_mean q_ml_RL_160 ⟨q_im_yX9_mean, q_se_yX9_mean⟩ ⟨⟨Nat.le_of_ble_eq_true rfl, Nat.le_of_ble_eq_true rfl⟩, ⟨by show _ ≤ 601024; omega, by show _ ≤ 7293033; omega⟩, Nat.le_of_ble_eq_true rfl⟩ rfl rfl rfl dL_law_953 ?_
      refine Y_istore C (pc := 956) (lv' := [(6, .int v163.1), (5, .int v161.1), (0, .ref b), (1, .ref (ρ 0)), (2, .ref (ρ 75)), (3, .ref (ρ 96)), (4, .int s1.1)]) (by decide) rfl dL_law_956 ?_
      refine Y_aload_n C (pc := 958) 2 4 rfl rfl dL_law_958 ?_
      obtain ⟨v164, hv164, h⟩ := Option.bind_eq_some_iff.mp h
      refine Y_callV C (pc := 959) [] [] [.int v164] (kb := 75) kd75 rfl rfl (c_X9_thrown kd75 hv164) (fun _ h => h.elim) q_cw_yX9_thrown q_ml_RL_94 ⟨q_im_yX9_thrown, q_se_yX9_thrown⟩ ⟨⟨Nat.le_of_ble_eq_true rfl, Nat.le_of_ble_eq_true rfl⟩, ⟨by show _ ≤ 601024; omega, by show _ ≤ 7293033; omega⟩, Nat.le_of_ble_eq_true rfl⟩ rfl rfl rfl dL_law_959 ?_
      refine Y_iload C (pc := 962) 1 rfl dL_law_962 ?_
      refine Y_icmp_eq C (pc := 964) (tgt := 969) dL_law_964 (by decide) (fun c165 => ?_) (fun c165 => ?_)
      · rw [if_pos c165] at h
        refine Y_iload C (pc := 969) 1 rfl dL_law_969 ?_
        refine Y_if_ne C (pc := 971) (tgt := 986) dL_law_971 (by decide) (fun c166 => ?_) (fun c166 => ?_)
        · rw [if_neg c166] at h
          exact Y_sub [2, 3, 4, 5, 6] rfl (hJ986 _ _ h)
        · rw [if_pos c166] at h
          refine Y_aload_n C (pc := 974) 3 5 rfl rfl dL_law_974 ?_
          refine Y_iconst C (pc := 975) (v := (0 : Int32)) (by decide) dL_law_975 ?_
          obtain ⟨v169, hv169, h⟩ := Option.bind_eq_some_iff.mp h
          refine Y_lald C (pc := 976) (by decide +kernel) hv169 dL_law_976 ?_
          refine Y_iload C (pc := 977) 0 rfl dL_law_977 ?_
          refine Y_i2l C (pc := 979) dL_law_979 ?_
          refine Y_lcmp C (pc := 980) dL_law_980 ?_
          refine Y_if_eq C (pc := 981) (tgt := 986) dL_law_981 (by decide) (fun c170 => ?_) (fun c170 => ?_)
          · rw [if_pos c170] at h
            exact Y_sub [2, 3, 4, 5, 6] rfl (hJ986 _ _ h)
          · rw [if_neg c170] at h
            exact absurd (hE _ (Option.some.inj h).symm) (by decide)
      · rw [if_neg c165] at h
        exact absurd (hE _ (Option.some.inj h).symm) (by decide)
    rw [if_neg w17] at h
    by_cases w18 : (v3 &&& (63 : Int32)) = (18 : Int32)
    · rw [if_pos w18] at h
      refine Y_tableIn C (pc := 39) dL_law_39 (by rw [w18]; decide) (by rw [w18]; decide) (off := 950) (tgt := 989) (by rw [w18]; rfl) (by decide) ?_
      refine Y_aload_n C (pc := 989) 1 1 rfl rfl dL_law_989 ?_
      obtain ⟨v171, hv171, h⟩ := Option.bind_eq_some_iff.mp h
      refine Y_callV C (pc := 990) [] [] [.int v171.1] (kb := 0) kd0 rfl rfl (c_X8_localOptima hI kd0 hv171) hAw q_cw_yX8_localOptima q_ml_RL_161 ⟨q_im_yX8_localOptima, q_se_yX8_localOptima⟩ ⟨⟨Nat.le_of_ble_eq_true rfl, Nat.le_of_ble_eq_true rfl⟩, ⟨by show _ ≤ 601024; omega, by show _ ≤ 7293033; omega⟩, Nat.le_of_ble_eq_true rfl⟩ rfl rfl rfl dL_law_990 ?_
      refine Y_aload_n C (pc := 993) 2 2 rfl rfl dL_law_993 ?_
      obtain ⟨v172, hv172, h⟩ := Option.bind_eq_some_iff.mp h
      refine Y_callV C (pc := 994) [] [.int v171.1] [.int v172.1, .int v171.1] (kb := 75) kd75 rfl rfl (c_X9_localOptima hI kd75 hv172) hAw q_cw_yX9_localOptima q_ml_RL_164 ⟨q_im_yX9_localOptima, q_se_yX9_localOptima⟩ ⟨⟨Nat.le_of_ble_eq_true rfl, Nat.le_of_ble_eq_true rfl⟩, ⟨by show _ ≤ 601024; omega, by show _ ≤ 7293033; omega⟩, Nat.le_of_ble_eq_true rfl⟩ rfl rfl rfl dL_law_994 ?_
      refine Y_icmp_eq C (pc := 997) (tgt := 1847) dL_law_997 (by decide) (fun c173 => ?_) (fun c173 => ?_)
      · rw [if_pos c173] at h
        exact Y_widen (Nat.le_add_right _ 1) (Nat.le_add_right _ 6) (Y_sub [0, 1, 2, 3, 4] rfl (hJ1847 _ _ h))
      · rw [if_neg c173] at h
        exact absurd (hE _ (Option.some.inj h).symm) (by decide)
    rw [if_neg w18] at h
    by_cases w19 : (v3 &&& (63 : Int32)) = (19 : Int32)
    · rw [if_pos w19] at h
      refine Y_tableIn C (pc := 39) dL_law_39 (by rw [w19]; decide) (by rw [w19]; decide) (off := 963) (tgt := 1002) (by rw [w19]; rfl) (by decide) ?_
      refine Y_aload_n C (pc := 1002) 1 1 rfl rfl dL_law_1002 ?_
      refine Y_aload_n C (pc := 1003) 0 0 rfl rfl dL_law_1003 ?_
      refine Y_iload C (pc := 1004) 4 rfl dL_law_1004 ?_
      refine Y_iconst C (pc := 1006) (v := (1 : Int32)) (by decide) dL_law_1006 ?_
      refine Y_iadd C (pc := 1007) dL_law_1007 ?_
      obtain ⟨v174, hv174, h⟩ := Option.bind_eq_some_iff.mp h
      refine Y_sld C (pc := 1008) hX hbl hbA hv174 dL_law_1008 ?_
      refine Y_aload_n C (pc := 1009) 0 0 rfl rfl dL_law_1009 ?_
      refine Y_iload C (pc := 1010) 4 rfl dL_law_1010 ?_
      refine Y_iconst C (pc := 1012) (v := (2 : Int32)) (by decide) dL_law_1012 ?_
      refine Y_iadd C (pc := 1013) dL_law_1013 ?_
      obtain ⟨v175, hv175, h⟩ := Option.bind_eq_some_iff.mp h
      refine Y_sld C (pc := 1014) hX hbl hbA hv175 dL_law_1014 ?_
      refine Y_aload_n C (pc := 1015) 3 3 rfl rfl dL_law_1015 ?_
      obtain ⟨v176, hv176, h⟩ := Option.bind_eq_some_iff.mp h
      refine Y_callH C X (pc := 1016) [.ref (ρ 0), .int v174, .int v175, .ref (ρ 96)] [] [.int v176.1] (c_L_fix hI (by decide +kernel) (by decide +kernel) (by decide) hv176) hA0 hW q_cdw_yL_fix q_in_RL q_ml_RL_165 q_st_yL_fix (na := 4) (by decide +kernel) (by decide +kernel) (by decide +kernel) ⟨Nat.le_of_ble_eq_true rfl, Nat.le_of_ble_eq_true rfl⟩ (by show _ + 1 ≤ 601024; omega) (by show _ + 6 ≤ 7293033; omega) (Nat.le_of_ble_eq_true rfl) rfl rfl rfl dL_law_1016 ?_
      refine Y_istore C (pc := 1019) (lv' := [(5, .int v176.1), (0, .ref b), (1, .ref (ρ 0)), (2, .ref (ρ 75)), (3, .ref (ρ 96)), (4, .int s1.1)]) (by decide) rfl dL_law_1019 ?_
      refine Y_aload_n C (pc := 1021) 2 3 rfl rfl dL_law_1021 ?_
      refine Y_aload_n C (pc := 1022) 0 1 rfl rfl dL_law_1022 ?_
      refine Y_iload C (pc := 1023) 5 rfl dL_law_1023 ?_
      refine Y_iconst C (pc := 1025) (v := (1 : Int32)) (by decide) dL_law_1025 ?_
      refine Y_iadd C (pc := 1026) dL_law_1026 ?_
      obtain ⟨v177, hv177, h⟩ := Option.bind_eq_some_iff.mp h
      refine Y_sld C (pc := 1027) hX hbl hbA hv177 dL_law_1027 ?_
      refine Y_aload_n C (pc := 1028) 0 1 rfl rfl dL_law_1028 ?_
      refine Y_iload C (pc := 1029) 5 rfl dL_law_1029 ?_
      refine Y_iconst C (pc := 1031) (v := (2 : Int32)) (by decide) dL_law_1031 ?_
      refine Y_iadd C (pc := 1032) dL_law_1032 ?_
      obtain ⟨v178, hv178, h⟩ := Option.bind_eq_some_iff.mp h
      refine Y_sld C (pc := 1033) hX hbl hbA hv178 dL_law_1033 ?_
      obtain ⟨v179, hv179, h⟩ := Option.bind_eq_some_iff.mp h
      refine Y_callV C (pc := 1034) [.int v177, .int v178] [] [.int v179.1] (kb := 75) kd75 rfl rfl (c_X9_fix hI kd75 hv179) hAw q_cw_yX9_fix q_ml_RL_167 ⟨q_im_yX9_fix, q_se_yX9_fix⟩ ⟨⟨Nat.le_of_ble_eq_true rfl, Nat.le_of_ble_eq_true rfl⟩, ⟨by show _ ≤ 601024; omega, by show _ ≤ 7293033; omega⟩, Nat.le_of_ble_eq_true rfl⟩ rfl rfl rfl dL_law_1034 ?_
      refine Y_istore C (pc := 1037) (lv' := [(6, .int v179.1), (5, .int v176.1), (0, .ref b), (1, .ref (ρ 0)), (2, .ref (ρ 75)), (3, .ref (ρ 96)), (4, .int s1.1)]) (by decide) rfl dL_law_1037 ?_
      refine Y_aload_n C (pc := 1039) 2 4 rfl rfl dL_law_1039 ?_
      obtain ⟨v180, hv180, h⟩ := Option.bind_eq_some_iff.mp h
      refine Y_callV C (pc := 1040) [] [] [.int v180] (kb := 75) kd75 rfl rfl (c_X9_thrown kd75 hv180) (fun _ h => h.elim) q_cw_yX9_thrown q_ml_RL_94 ⟨q_im_yX9_thrown, q_se_yX9_thrown⟩ ⟨⟨Nat.le_of_ble_eq_true rfl, Nat.le_of_ble_eq_true rfl⟩, ⟨by show _ ≤ 601024; omega, by show _ ≤ 7293033; omega⟩, Nat.le_of_ble_eq_true rfl⟩ rfl rfl rfl dL_law_1040 ?_
      refine Y_iload C (pc := 1043) 1 rfl dL_law_1043 ?_
      refine Y_icmp_eq C (pc := 1045) (tgt := 1050) dL_law_1045 (by decide) (fun c181 => ?_) (fun c181 => ?_)
      · rw [if_pos c181] at h
        refine Y_iload C (pc := 1050) 1 rfl dL_law_1050 ?_
        refine Y_if_ne C (pc := 1052) (tgt := 1067) dL_law_1052 (by decide) (fun c182 => ?_) (fun c182 => ?_)
        · rw [if_neg c182] at h
          exact Y_sub [2, 3, 4, 5, 6] rfl (hJ1067 _ _ h)
        · rw [if_pos c182] at h
          refine Y_aload_n C (pc := 1055) 3 5 rfl rfl dL_law_1055 ?_
          refine Y_iconst C (pc := 1056) (v := (0 : Int32)) (by decide) dL_law_1056 ?_
          obtain ⟨v185, hv185, h⟩ := Option.bind_eq_some_iff.mp h
          refine Y_lald C (pc := 1057) (by decide +kernel) hv185 dL_law_1057 ?_
          refine Y_iload C (pc := 1058) 0 rfl dL_law_1058 ?_
          refine Y_i2l C (pc := 1060) dL_law_1060 ?_
          refine Y_lcmp C (pc := 1061) dL_law_1061 ?_
          refine Y_if_eq C (pc := 1062) (tgt := 1067) dL_law_1062 (by decide) (fun c186 => ?_) (fun c186 => ?_)
          · rw [if_pos c186] at h
            exact Y_sub [2, 3, 4, 5, 6] rfl (hJ1067 _ _ h)
          · rw [if_neg c186] at h
            exact absurd (hE _ (Option.some.inj h).symm) (by decide)
      · rw [if_neg c181] at h
        exact absurd (hE _ (Option.some.inj h).symm) (by decide)
    rw [if_neg w19] at h
    by_cases w20 : (v3 &&& (63 : Int32)) = (20 : Int32)
    · rw [if_pos w20] at h
      refine Y_tableIn C (pc := 39) dL_law_39 (by rw [w20]; decide) (by rw [w20]; decide) (off := 1031) (tgt := 1070) (by rw [w20]; rfl) (by decide) ?_
      refine Y_aload_n C (pc := 1070) 1 1 rfl rfl dL_law_1070 ?_
      refine Y_aload_n C (pc := 1071) 0 0 rfl rfl dL_law_1071 ?_
      refine Y_iload C (pc := 1072) 4 rfl dL_law_1072 ?_
      refine Y_iconst C (pc := 1074) (v := (1 : Int32)) (by decide) dL_law_1074 ?_
      refine Y_iadd C (pc := 1075) dL_law_1075 ?_
      obtain ⟨v187, hv187, h⟩ := Option.bind_eq_some_iff.mp h
      refine Y_sld C (pc := 1076) hX hbl hbA hv187 dL_law_1076 ?_
      refine Y_aload_n C (pc := 1077) 3 3 rfl rfl dL_law_1077 ?_
      obtain ⟨v188, hv188, h⟩ := Option.bind_eq_some_iff.mp h
      refine Y_callH C X (pc := 1078) [.ref (ρ 0), .int v187, .ref (ρ 96)] [] [.int v188.1] (c_L_free hI (by decide +kernel) (by decide +kernel) (by decide) hv188) hA0 hW q_cdw_yL_free q_in_RL q_ml_RL_168 q_st_yL_free (na := 3) (by decide +kernel) (by decide +kernel) (by decide +kernel) ⟨Nat.le_of_ble_eq_true rfl, Nat.le_of_ble_eq_true rfl⟩ (by show _ + 1 ≤ 601024; omega) (by show _ + 6 ≤ 7293033; omega) (Nat.le_of_ble_eq_true rfl) rfl rfl rfl dL_law_1078 ?_
      refine Y_istore C (pc := 1081) (lv' := [(5, .int v188.1), (0, .ref b), (1, .ref (ρ 0)), (2, .ref (ρ 75)), (3, .ref (ρ 96)), (4, .int s1.1)]) (by decide) rfl dL_law_1081 ?_
      refine Y_aload_n C (pc := 1083) 2 3 rfl rfl dL_law_1083 ?_
      refine Y_aload_n C (pc := 1084) 0 1 rfl rfl dL_law_1084 ?_
      refine Y_iload C (pc := 1085) 5 rfl dL_law_1085 ?_
      refine Y_iconst C (pc := 1087) (v := (1 : Int32)) (by decide) dL_law_1087 ?_
      refine Y_iadd C (pc := 1088) dL_law_1088 ?_
      obtain ⟨v189, hv189, h⟩ := Option.bind_eq_some_iff.mp h
      refine Y_sld C (pc := 1089) hX hbl hbA hv189 dL_law_1089 ?_
      obtain ⟨v190, hv190, h⟩ := Option.bind_eq_some_iff.mp h
      refine Y_callV C (pc := 1090) [.int v189] [] [.int v190.1] (kb := 75) kd75 rfl rfl (c_X9_free hI kd75 hv190) hAw q_cw_yX9_free q_ml_RL_170 ⟨q_im_yX9_free, q_se_yX9_free⟩ ⟨⟨Nat.le_of_ble_eq_true rfl, Nat.le_of_ble_eq_true rfl⟩, ⟨by show _ ≤ 601024; omega, by show _ ≤ 7293033; omega⟩, Nat.le_of_ble_eq_true rfl⟩ rfl rfl rfl dL_law_1090 ?_
      refine Y_istore C (pc := 1093) (lv' := [(6, .int v190.1), (5, .int v188.1), (0, .ref b), (1, .ref (ρ 0)), (2, .ref (ρ 75)), (3, .ref (ρ 96)), (4, .int s1.1)]) (by decide) rfl dL_law_1093 ?_
      refine Y_aload_n C (pc := 1095) 2 4 rfl rfl dL_law_1095 ?_
      obtain ⟨v191, hv191, h⟩ := Option.bind_eq_some_iff.mp h
      refine Y_callV C (pc := 1096) [] [] [.int v191] (kb := 75) kd75 rfl rfl (c_X9_thrown kd75 hv191) (fun _ h => h.elim) q_cw_yX9_thrown q_ml_RL_94 ⟨q_im_yX9_thrown, q_se_yX9_thrown⟩ ⟨⟨Nat.le_of_ble_eq_true rfl, Nat.le_of_ble_eq_true rfl⟩, ⟨by show _ ≤ 601024; omega, by show _ ≤ 7293033; omega⟩, Nat.le_of_ble_eq_true rfl⟩ rfl rfl rfl dL_law_1096 ?_
      refine Y_iload C (pc := 1099) 1 rfl dL_law_1099 ?_
      refine Y_icmp_eq C (pc := 1101) (tgt := 1106) dL_law_1101 (by decide) (fun c192 => ?_) (fun c192 => ?_)
      · rw [if_pos c192] at h
        refine Y_iload C (pc := 1106) 1 rfl dL_law_1106 ?_
        refine Y_if_ne C (pc := 1108) (tgt := 1123) dL_law_1108 (by decide) (fun c193 => ?_) (fun c193 => ?_)
        · rw [if_neg c193] at h
          exact Y_sub [2, 3, 4, 5, 6] rfl (hJ1123 _ _ h)
        · rw [if_pos c193] at h
          refine Y_aload_n C (pc := 1111) 3 5 rfl rfl dL_law_1111 ?_
          refine Y_iconst C (pc := 1112) (v := (0 : Int32)) (by decide) dL_law_1112 ?_
          obtain ⟨v196, hv196, h⟩ := Option.bind_eq_some_iff.mp h
          refine Y_lald C (pc := 1113) (by decide +kernel) hv196 dL_law_1113 ?_
          refine Y_iload C (pc := 1114) 0 rfl dL_law_1114 ?_
          refine Y_i2l C (pc := 1116) dL_law_1116 ?_
          refine Y_lcmp C (pc := 1117) dL_law_1117 ?_
          refine Y_if_eq C (pc := 1118) (tgt := 1123) dL_law_1118 (by decide) (fun c197 => ?_) (fun c197 => ?_)
          · rw [if_pos c197] at h
            exact Y_sub [2, 3, 4, 5, 6] rfl (hJ1123 _ _ h)
          · rw [if_neg c197] at h
            exact absurd (hE _ (Option.some.inj h).symm) (by decide)
      · rw [if_neg c192] at h
        exact absurd (hE _ (Option.some.inj h).symm) (by decide)
    rw [if_neg w20] at h
    by_cases w21 : (v3 &&& (63 : Int32)) = (21 : Int32)
    · rw [if_pos w21] at h
      refine Y_tableIn C (pc := 39) dL_law_39 (by rw [w21]; decide) (by rw [w21]; decide) (off := 1087) (tgt := 1126) (by rw [w21]; rfl) (by decide) ?_
      refine Y_aload_n C (pc := 1126) 1 1 rfl rfl dL_law_1126 ?_
      refine Y_aload_n C (pc := 1127) 0 0 rfl rfl dL_law_1127 ?_
      refine Y_iload C (pc := 1128) 4 rfl dL_law_1128 ?_
      refine Y_iconst C (pc := 1130) (v := (1 : Int32)) (by decide) dL_law_1130 ?_
      refine Y_iadd C (pc := 1131) dL_law_1131 ?_
      obtain ⟨v198, hv198, h⟩ := Option.bind_eq_some_iff.mp h
      refine Y_sld C (pc := 1132) hX hbl hbA hv198 dL_law_1132 ?_
      refine Y_aload_n C (pc := 1133) 3 3 rfl rfl dL_law_1133 ?_
      obtain ⟨v199, hv199, h⟩ := Option.bind_eq_some_iff.mp h
      refine Y_callH C X (pc := 1134) [.ref (ρ 0), .int v198, .ref (ρ 96)] [] [.int v199.1] (c_L_fixed hI (by decide +kernel) (by decide +kernel) (by decide) hv199) hA0 hW q_cdw_yL_fixed q_in_RL q_ml_RL_171 q_st_yL_fixed (na := 3) (by decide +kernel) (by decide +kernel) (by decide +kernel) ⟨Nat.le_of_ble_eq_true rfl, Nat.le_of_ble_eq_true rfl⟩ (by show _ + 1 ≤ 601024; omega) (by show _ + 6 ≤ 7293033; omega) (Nat.le_of_ble_eq_true rfl) rfl rfl rfl dL_law_1134 ?_
      refine Y_istore C (pc := 1137) (lv' := [(5, .int v199.1), (0, .ref b), (1, .ref (ρ 0)), (2, .ref (ρ 75)), (3, .ref (ρ 96)), (4, .int s1.1)]) (by decide) rfl dL_law_1137 ?_
      refine Y_aload_n C (pc := 1139) 2 3 rfl rfl dL_law_1139 ?_
      refine Y_aload_n C (pc := 1140) 0 1 rfl rfl dL_law_1140 ?_
      refine Y_iload C (pc := 1141) 5 rfl dL_law_1141 ?_
      refine Y_iconst C (pc := 1143) (v := (1 : Int32)) (by decide) dL_law_1143 ?_
      refine Y_iadd C (pc := 1144) dL_law_1144 ?_
      obtain ⟨v200, hv200, h⟩ := Option.bind_eq_some_iff.mp h
      refine Y_sld C (pc := 1145) hX hbl hbA hv200 dL_law_1145 ?_
      obtain ⟨v201, hv201, h⟩ := Option.bind_eq_some_iff.mp h
      refine Y_callV C (pc := 1146) [.int v200] [] [.int v201.1] (kb := 75) kd75 rfl rfl (c_X9_fixed hI kd75 hv201) hAw q_cw_yX9_fixed q_ml_RL_173 ⟨q_im_yX9_fixed, q_se_yX9_fixed⟩ ⟨⟨Nat.le_of_ble_eq_true rfl, Nat.le_of_ble_eq_true rfl⟩, ⟨by show _ ≤ 601024; omega, by show _ ≤ 7293033; omega⟩, Nat.le_of_ble_eq_true rfl⟩ rfl rfl rfl dL_law_1146 ?_
      refine Y_istore C (pc := 1149) (lv' := [(6, .int v201.1), (5, .int v199.1), (0, .ref b), (1, .ref (ρ 0)), (2, .ref (ρ 75)), (3, .ref (ρ 96)), (4, .int s1.1)]) (by decide) rfl dL_law_1149 ?_
      refine Y_aload_n C (pc := 1151) 2 4 rfl rfl dL_law_1151 ?_
      obtain ⟨v202, hv202, h⟩ := Option.bind_eq_some_iff.mp h
      refine Y_callV C (pc := 1152) [] [] [.int v202] (kb := 75) kd75 rfl rfl (c_X9_thrown kd75 hv202) (fun _ h => h.elim) q_cw_yX9_thrown q_ml_RL_94 ⟨q_im_yX9_thrown, q_se_yX9_thrown⟩ ⟨⟨Nat.le_of_ble_eq_true rfl, Nat.le_of_ble_eq_true rfl⟩, ⟨by show _ ≤ 601024; omega, by show _ ≤ 7293033; omega⟩, Nat.le_of_ble_eq_true rfl⟩ rfl rfl rfl dL_law_1152 ?_
      refine Y_iload C (pc := 1155) 1 rfl dL_law_1155 ?_
      refine Y_icmp_eq C (pc := 1157) (tgt := 1162) dL_law_1157 (by decide) (fun c203 => ?_) (fun c203 => ?_)
      · rw [if_pos c203] at h
        refine Y_iload C (pc := 1162) 1 rfl dL_law_1162 ?_
        refine Y_if_ne C (pc := 1164) (tgt := 1179) dL_law_1164 (by decide) (fun c204 => ?_) (fun c204 => ?_)
        · rw [if_neg c204] at h
          exact Y_sub [2, 3, 4, 5, 6] rfl (hJ1179 _ _ h)
        · rw [if_pos c204] at h
          refine Y_aload_n C (pc := 1167) 3 5 rfl rfl dL_law_1167 ?_
          refine Y_iconst C (pc := 1168) (v := (0 : Int32)) (by decide) dL_law_1168 ?_
          obtain ⟨v207, hv207, h⟩ := Option.bind_eq_some_iff.mp h
          refine Y_lald C (pc := 1169) (by decide +kernel) hv207 dL_law_1169 ?_
          refine Y_iload C (pc := 1170) 0 rfl dL_law_1170 ?_
          refine Y_i2l C (pc := 1172) dL_law_1172 ?_
          refine Y_lcmp C (pc := 1173) dL_law_1173 ?_
          refine Y_if_eq C (pc := 1174) (tgt := 1179) dL_law_1174 (by decide) (fun c208 => ?_) (fun c208 => ?_)
          · rw [if_pos c208] at h
            exact Y_sub [2, 3, 4, 5, 6] rfl (hJ1179 _ _ h)
          · rw [if_neg c208] at h
            exact absurd (hE _ (Option.some.inj h).symm) (by decide)
      · rw [if_neg c203] at h
        exact absurd (hE _ (Option.some.inj h).symm) (by decide)
    rw [if_neg w21] at h
    by_cases w22 : (v3 &&& (63 : Int32)) = (22 : Int32)
    · rw [if_pos w22] at h
      refine Y_tableIn C (pc := 39) dL_law_39 (by rw [w22]; decide) (by rw [w22]; decide) (off := 1143) (tgt := 1182) (by rw [w22]; rfl) (by decide) ?_
      refine Y_aload_n C (pc := 1182) 1 1 rfl rfl dL_law_1182 ?_
      obtain ⟨v209, hv209, h⟩ := Option.bind_eq_some_iff.mp h
      refine Y_callV C (pc := 1183) [] [] [.int v209] (kb := 0) kd0 rfl rfl (c_X8_fixedCost kd0 hv209) (fun _ h => h.elim) q_cw_yX8_fixedCost q_ml_RL_174 ⟨q_im_yX8_fixedCost, q_se_yX8_fixedCost⟩ ⟨⟨Nat.le_of_ble_eq_true rfl, Nat.le_of_ble_eq_true rfl⟩, ⟨by show _ ≤ 601024; omega, by show _ ≤ 7293033; omega⟩, Nat.le_of_ble_eq_true rfl⟩ rfl rfl rfl dL_law_1183 ?_
      refine Y_aload_n C (pc := 1186) 2 2 rfl rfl dL_law_1186 ?_
      obtain ⟨v210, hv210, h⟩ := Option.bind_eq_some_iff.mp h
      refine Y_callV C (pc := 1187) [] [.int v209] [.int v210.1, .int v209] (kb := 75) kd75 rfl rfl (c_X9_fixedCost hI kd75 hv210) hAw q_cw_yX9_fixedCost q_ml_RL_177 ⟨q_im_yX9_fixedCost, q_se_yX9_fixedCost⟩ ⟨⟨Nat.le_of_ble_eq_true rfl, Nat.le_of_ble_eq_true rfl⟩, ⟨by show _ ≤ 601024; omega, by show _ ≤ 7293033; omega⟩, Nat.le_of_ble_eq_true rfl⟩ rfl rfl rfl dL_law_1187 ?_
      refine Y_icmp_eq C (pc := 1190) (tgt := 1847) dL_law_1190 (by decide) (fun c211 => ?_) (fun c211 => ?_)
      · rw [if_pos c211] at h
        exact Y_widen (Nat.le_add_right _ 1) (Nat.le_add_right _ 6) (Y_sub [0, 1, 2, 3, 4] rfl (hJ1847 _ _ h))
      · rw [if_neg c211] at h
        exact absurd (hE _ (Option.some.inj h).symm) (by decide)
    rw [if_neg w22] at h
    by_cases w23 : (v3 &&& (63 : Int32)) = (23 : Int32)
    · rw [if_pos w23] at h
      refine Y_tableIn C (pc := 39) dL_law_39 (by rw [w23]; decide) (by rw [w23]; decide) (off := 1156) (tgt := 1195) (by rw [w23]; rfl) (by decide) ?_
      refine Y_aload_n C (pc := 1195) 1 1 rfl rfl dL_law_1195 ?_
      refine Y_aload_n C (pc := 1196) 0 0 rfl rfl dL_law_1196 ?_
      refine Y_iload C (pc := 1197) 4 rfl dL_law_1197 ?_
      refine Y_iconst C (pc := 1199) (v := (1 : Int32)) (by decide) dL_law_1199 ?_
      refine Y_iadd C (pc := 1200) dL_law_1200 ?_
      obtain ⟨v212, hv212, h⟩ := Option.bind_eq_some_iff.mp h
      refine Y_sld C (pc := 1201) hX hbl hbA hv212 dL_law_1201 ?_
      refine Y_aload_n C (pc := 1202) 0 0 rfl rfl dL_law_1202 ?_
      refine Y_iload C (pc := 1203) 4 rfl dL_law_1203 ?_
      refine Y_iconst C (pc := 1205) (v := (2 : Int32)) (by decide) dL_law_1205 ?_
      refine Y_iadd C (pc := 1206) dL_law_1206 ?_
      obtain ⟨v213, hv213, h⟩ := Option.bind_eq_some_iff.mp h
      refine Y_sld C (pc := 1207) hX hbl hbA hv213 dL_law_1207 ?_
      refine Y_aload_n C (pc := 1208) 3 3 rfl rfl dL_law_1208 ?_
      obtain ⟨v214, hv214, h⟩ := Option.bind_eq_some_iff.mp h
      refine Y_callH C X (pc := 1209) [.ref (ρ 0), .int v212, .int v213, .ref (ρ 96)] [] [.int v214.1] (c_L_entry hI (by decide +kernel) (by decide +kernel) (by decide) hv214) hA0 hW q_cdw_yL_entry q_in_RL q_ml_RL_178 q_st_yL_entry (na := 4) (by decide +kernel) (by decide +kernel) (by decide +kernel) ⟨Nat.le_of_ble_eq_true rfl, Nat.le_of_ble_eq_true rfl⟩ (by show _ + 1 ≤ 601024; omega) (by show _ + 6 ≤ 7293033; omega) (Nat.le_of_ble_eq_true rfl) rfl rfl rfl dL_law_1209 ?_
      refine Y_istore C (pc := 1212) (lv' := [(5, .int v214.1), (0, .ref b), (1, .ref (ρ 0)), (2, .ref (ρ 75)), (3, .ref (ρ 96)), (4, .int s1.1)]) (by decide) rfl dL_law_1212 ?_
      refine Y_aload_n C (pc := 1214) 2 3 rfl rfl dL_law_1214 ?_
      refine Y_aload_n C (pc := 1215) 0 1 rfl rfl dL_law_1215 ?_
      refine Y_iload C (pc := 1216) 5 rfl dL_law_1216 ?_
      refine Y_iconst C (pc := 1218) (v := (1 : Int32)) (by decide) dL_law_1218 ?_
      refine Y_iadd C (pc := 1219) dL_law_1219 ?_
      obtain ⟨v215, hv215, h⟩ := Option.bind_eq_some_iff.mp h
      refine Y_sld C (pc := 1220) hX hbl hbA hv215 dL_law_1220 ?_
      refine Y_aload_n C (pc := 1221) 0 1 rfl rfl dL_law_1221 ?_
      refine Y_iload C (pc := 1222) 5 rfl dL_law_1222 ?_
      refine Y_iconst C (pc := 1224) (v := (2 : Int32)) (by decide) dL_law_1224 ?_
      refine Y_iadd C (pc := 1225) dL_law_1225 ?_
      obtain ⟨v216, hv216, h⟩ := Option.bind_eq_some_iff.mp h
      refine Y_sld C (pc := 1226) hX hbl hbA hv216 dL_law_1226 ?_
      obtain ⟨v217, hv217, h⟩ := Option.bind_eq_some_iff.mp h
      refine Y_callV C (pc := 1227) [.int v215, .int v216] [] [.int v217.1] (kb := 75) kd75 rfl rfl (c_X9_entry hI kd75 hv217) hAw q_cw_yX9_entry q_ml_RL_180 ⟨q_im_yX9_entry, q_se_yX9_entry⟩ ⟨⟨Nat.le_of_ble_eq_true rfl, Nat.le_of_ble_eq_true rfl⟩, ⟨by show _ ≤ 601024; omega, by show _ ≤ 7293033; omega⟩, Nat.le_of_ble_eq_true rfl⟩ rfl rfl rfl dL_law_1227 ?_
      refine Y_istore C (pc := 1230) (lv' := [(6, .int v217.1), (5, .int v214.1), (0, .ref b), (1, .ref (ρ 0)), (2, .ref (ρ 75)), (3, .ref (ρ 96)), (4, .int s1.1)]) (by decide) rfl dL_law_1230 ?_
      refine Y_aload_n C (pc := 1232) 2 4 rfl rfl dL_law_1232 ?_
      obtain ⟨v218, hv218, h⟩ := Option.bind_eq_some_iff.mp h
      refine Y_callV C (pc := 1233) [] [] [.int v218] (kb := 75) kd75 rfl rfl (c_X9_thrown kd75 hv218) (fun _ h => h.elim) q_cw_yX9_thrown q_ml_RL_94 ⟨q_im_yX9_thrown, q_se_yX9_thrown⟩ ⟨⟨Nat.le_of_ble_eq_true rfl, Nat.le_of_ble_eq_true rfl⟩, ⟨by show _ ≤ 601024; omega, by show _ ≤ 7293033; omega⟩, Nat.le_of_ble_eq_true rfl⟩ rfl rfl rfl dL_law_1233 ?_
      refine Y_iload C (pc := 1236) 1 rfl dL_law_1236 ?_
      refine Y_icmp_eq C (pc := 1238) (tgt := 1243) dL_law_1238 (by decide) (fun c219 => ?_) (fun c219 => ?_)
      · rw [if_pos c219] at h
        refine Y_iload C (pc := 1243) 1 rfl dL_law_1243 ?_
        refine Y_if_ne C (pc := 1245) (tgt := 1260) dL_law_1245 (by decide) (fun c220 => ?_) (fun c220 => ?_)
        · rw [if_neg c220] at h
          exact Y_sub [2, 3, 4, 5, 6] rfl (hJ1260 _ _ h)
        · rw [if_pos c220] at h
          refine Y_aload_n C (pc := 1248) 3 5 rfl rfl dL_law_1248 ?_
          refine Y_iconst C (pc := 1249) (v := (0 : Int32)) (by decide) dL_law_1249 ?_
          obtain ⟨v223, hv223, h⟩ := Option.bind_eq_some_iff.mp h
          refine Y_lald C (pc := 1250) (by decide +kernel) hv223 dL_law_1250 ?_
          refine Y_iload C (pc := 1251) 0 rfl dL_law_1251 ?_
          refine Y_i2l C (pc := 1253) dL_law_1253 ?_
          refine Y_lcmp C (pc := 1254) dL_law_1254 ?_
          refine Y_if_eq C (pc := 1255) (tgt := 1260) dL_law_1255 (by decide) (fun c224 => ?_) (fun c224 => ?_)
          · rw [if_pos c224] at h
            exact Y_sub [2, 3, 4, 5, 6] rfl (hJ1260 _ _ h)
          · rw [if_neg c224] at h
            exact absurd (hE _ (Option.some.inj h).symm) (by decide)
      · rw [if_neg c219] at h
        exact absurd (hE _ (Option.some.inj h).symm) (by decide)
    rw [if_neg w23] at h
    by_cases w24 : (v3 &&& (63 : Int32)) = (24 : Int32)
    · rw [if_pos w24] at h
      refine Y_tableIn C (pc := 39) dL_law_39 (by rw [w24]; decide) (by rw [w24]; decide) (off := 1224) (tgt := 1263) (by rw [w24]; rfl) (by decide) ?_
      refine Y_aload_n C (pc := 1263) 1 1 rfl rfl dL_law_1263 ?_
      obtain ⟨v225, hv225, h⟩ := Option.bind_eq_some_iff.mp h
      refine Y_callV C (pc := 1264) [] [] [.int v225.1] (kb := 0) kd0 rfl rfl (c_X8_bound hI kd0 hv225) hAw q_cw_yX8_bound q_ml_RL_181 ⟨q_im_yX8_bound, q_se_yX8_bound⟩ ⟨⟨Nat.le_of_ble_eq_true rfl, Nat.le_of_ble_eq_true rfl⟩, ⟨by show _ ≤ 601024; omega, by show _ ≤ 7293033; omega⟩, Nat.le_of_ble_eq_true rfl⟩ rfl rfl rfl dL_law_1264 ?_
      refine Y_aload_n C (pc := 1267) 2 2 rfl rfl dL_law_1267 ?_
      obtain ⟨v226, hv226, h⟩ := Option.bind_eq_some_iff.mp h
      refine Y_callV C (pc := 1268) [] [.int v225.1] [.int v226.1, .int v225.1] (kb := 75) kd75 rfl rfl (c_X9_bound hI kd75 hv226) hAw q_cw_yX9_bound q_ml_RL_184 ⟨q_im_yX9_bound, q_se_yX9_bound⟩ ⟨⟨Nat.le_of_ble_eq_true rfl, Nat.le_of_ble_eq_true rfl⟩, ⟨by show _ ≤ 601024; omega, by show _ ≤ 7293033; omega⟩, Nat.le_of_ble_eq_true rfl⟩ rfl rfl rfl dL_law_1268 ?_
      refine Y_icmp_eq C (pc := 1271) (tgt := 1847) dL_law_1271 (by decide) (fun c227 => ?_) (fun c227 => ?_)
      · rw [if_pos c227] at h
        exact Y_widen (Nat.le_add_right _ 1) (Nat.le_add_right _ 6) (Y_sub [0, 1, 2, 3, 4] rfl (hJ1847 _ _ h))
      · rw [if_neg c227] at h
        exact absurd (hE _ (Option.some.inj h).symm) (by decide)
    rw [if_neg w24] at h
    by_cases w25 : (v3 &&& (63 : Int32)) = (25 : Int32)
    · rw [if_pos w25] at h
      refine Y_tableIn C (pc := 39) dL_law_39 (by rw [w25]; decide) (by rw [w25]; decide) (off := 1237) (tgt := 1276) (by rw [w25]; rfl) (by decide) ?_
      refine Y_aload_n C (pc := 1276) 1 1 rfl rfl dL_law_1276 ?_
      refine Y_aload_n C (pc := 1277) 0 0 rfl rfl dL_law_1277 ?_
      refine Y_iload C (pc := 1278) 4 rfl dL_law_1278 ?_
      refine Y_iconst C (pc := 1280) (v := (1 : Int32)) (by decide) dL_law_1280 ?_
      refine Y_iadd C (pc := 1281) dL_law_1281 ?_
      obtain ⟨v228, hv228, h⟩ := Option.bind_eq_some_iff.mp h
      refine Y_sld C (pc := 1282) hX hbl hbA hv228 dL_law_1282 ?_
      refine Y_aload_n C (pc := 1283) 0 0 rfl rfl dL_law_1283 ?_
      refine Y_iload C (pc := 1284) 4 rfl dL_law_1284 ?_
      refine Y_iconst C (pc := 1286) (v := (2 : Int32)) (by decide) dL_law_1286 ?_
      refine Y_iadd C (pc := 1287) dL_law_1287 ?_
      obtain ⟨v229, hv229, h⟩ := Option.bind_eq_some_iff.mp h
      refine Y_sld C (pc := 1288) hX hbl hbA hv229 dL_law_1288 ?_
      refine Y_aload_n C (pc := 1289) 3 3 rfl rfl dL_law_1289 ?_
      obtain ⟨v230, hv230, h⟩ := Option.bind_eq_some_iff.mp h
      refine Y_callH C X (pc := 1290) [.ref (ρ 0), .int v228, .int v229, .ref (ρ 96)] [] [.int v230.1] (c_L_boundWith hI (by decide +kernel) (by decide +kernel) (by decide) hv230) hA0 hW q_cdw_yL_boundWith q_in_RL q_ml_RL_185 q_st_yL_boundWith (na := 4) (by decide +kernel) (by decide +kernel) (by decide +kernel) ⟨Nat.le_of_ble_eq_true rfl, Nat.le_of_ble_eq_true rfl⟩ (by show _ + 1 ≤ 601024; omega) (by show _ + 6 ≤ 7293033; omega) (Nat.le_of_ble_eq_true rfl) rfl rfl rfl dL_law_1290 ?_
      refine Y_istore C (pc := 1293) (lv' := [(5, .int v230.1), (0, .ref b), (1, .ref (ρ 0)), (2, .ref (ρ 75)), (3, .ref (ρ 96)), (4, .int s1.1)]) (by decide) rfl dL_law_1293 ?_
      refine Y_aload_n C (pc := 1295) 2 3 rfl rfl dL_law_1295 ?_
      refine Y_aload_n C (pc := 1296) 0 1 rfl rfl dL_law_1296 ?_
      refine Y_iload C (pc := 1297) 5 rfl dL_law_1297 ?_
      refine Y_iconst C (pc := 1299) (v := (1 : Int32)) (by decide) dL_law_1299 ?_
      refine Y_iadd C (pc := 1300) dL_law_1300 ?_
      obtain ⟨v231, hv231, h⟩ := Option.bind_eq_some_iff.mp h
      refine Y_sld C (pc := 1301) hX hbl hbA hv231 dL_law_1301 ?_
      refine Y_aload_n C (pc := 1302) 0 1 rfl rfl dL_law_1302 ?_
      refine Y_iload C (pc := 1303) 5 rfl dL_law_1303 ?_
      refine Y_iconst C (pc := 1305) (v := (2 : Int32)) (by decide) dL_law_1305 ?_
      refine Y_iadd C (pc := 1306) dL_law_1306 ?_
      obtain ⟨v232, hv232, h⟩ := Option.bind_eq_some_iff.mp h
      refine Y_sld C (pc := 1307) hX hbl hbA hv232 dL_law_1307 ?_
      obtain ⟨v233, hv233, h⟩ := Option.bind_eq_some_iff.mp h
      refine Y_callV C (pc := 1308) [.int v231, .int v232] [] [.int v233.1] (kb := 75) kd75 rfl rfl (c_X9_boundWith hI kd75 hv233) hAw q_cw_yX9_boundWith q_ml_RL_187 ⟨q_im_yX9_boundWith, q_se_yX9_boundWith⟩ ⟨⟨Nat.le_of_ble_eq_true rfl, Nat.le_of_ble_eq_true rfl⟩, ⟨by show _ ≤ 601024; omega, by show _ ≤ 7293033; omega⟩, Nat.le_of_ble_eq_true rfl⟩ rfl rfl rfl dL_law_1308 ?_
      refine Y_istore C (pc := 1311) (lv' := [(6, .int v233.1), (5, .int v230.1), (0, .ref b), (1, .ref (ρ 0)), (2, .ref (ρ 75)), (3, .ref (ρ 96)), (4, .int s1.1)]) (by decide) rfl dL_law_1311 ?_
      refine Y_aload_n C (pc := 1313) 2 4 rfl rfl dL_law_1313 ?_
      obtain ⟨v234, hv234, h⟩ := Option.bind_eq_some_iff.mp h
      refine Y_callV C (pc := 1314) [] [] [.int v234] (kb := 75) kd75 rfl rfl (c_X9_thrown kd75 hv234) (fun _ h => h.elim) q_cw_yX9_thrown q_ml_RL_94 ⟨q_im_yX9_thrown, q_se_yX9_thrown⟩ ⟨⟨Nat.le_of_ble_eq_true rfl, Nat.le_of_ble_eq_true rfl⟩, ⟨by show _ ≤ 601024; omega, by show _ ≤ 7293033; omega⟩, Nat.le_of_ble_eq_true rfl⟩ rfl rfl rfl dL_law_1314 ?_
      refine Y_iload C (pc := 1317) 1 rfl dL_law_1317 ?_
      refine Y_icmp_eq C (pc := 1319) (tgt := 1324) dL_law_1319 (by decide) (fun c235 => ?_) (fun c235 => ?_)
      · rw [if_pos c235] at h
        refine Y_iload C (pc := 1324) 1 rfl dL_law_1324 ?_
        refine Y_if_ne C (pc := 1326) (tgt := 1341) dL_law_1326 (by decide) (fun c236 => ?_) (fun c236 => ?_)
        · rw [if_neg c236] at h
          exact Y_sub [2, 3, 4, 5, 6] rfl (hJ1341 _ _ h)
        · rw [if_pos c236] at h
          refine Y_aload_n C (pc := 1329) 3 5 rfl rfl dL_law_1329 ?_
          refine Y_iconst C (pc := 1330) (v := (0 : Int32)) (by decide) dL_law_1330 ?_
          obtain ⟨v239, hv239, h⟩ := Option.bind_eq_some_iff.mp h
          refine Y_lald C (pc := 1331) (by decide +kernel) hv239 dL_law_1331 ?_
          refine Y_iload C (pc := 1332) 0 rfl dL_law_1332 ?_
          refine Y_i2l C (pc := 1334) dL_law_1334 ?_
          refine Y_lcmp C (pc := 1335) dL_law_1335 ?_
          refine Y_if_eq C (pc := 1336) (tgt := 1341) dL_law_1336 (by decide) (fun c240 => ?_) (fun c240 => ?_)
          · rw [if_pos c240] at h
            exact Y_sub [2, 3, 4, 5, 6] rfl (hJ1341 _ _ h)
          · rw [if_neg c240] at h
            exact absurd (hE _ (Option.some.inj h).symm) (by decide)
      · rw [if_neg c235] at h
        exact absurd (hE _ (Option.some.inj h).symm) (by decide)
    rw [if_neg w25] at h
    by_cases w26 : (v3 &&& (63 : Int32)) = (26 : Int32)
    · rw [if_pos w26] at h
      refine Y_tableIn C (pc := 39) dL_law_39 (by rw [w26]; decide) (by rw [w26]; decide) (off := 1305) (tgt := 1344) (by rw [w26]; rfl) (by decide) ?_
      refine Y_aload_n C (pc := 1344) 1 1 rfl rfl dL_law_1344 ?_
      refine Y_aload_n C (pc := 1345) 0 0 rfl rfl dL_law_1345 ?_
      refine Y_iload C (pc := 1346) 4 rfl dL_law_1346 ?_
      refine Y_iconst C (pc := 1348) (v := (1 : Int32)) (by decide) dL_law_1348 ?_
      refine Y_iadd C (pc := 1349) dL_law_1349 ?_
      obtain ⟨v241, hv241, h⟩ := Option.bind_eq_some_iff.mp h
      refine Y_sld C (pc := 1350) hX hbl hbA hv241 dL_law_1350 ?_
      refine Y_aload_n C (pc := 1351) 3 3 rfl rfl dL_law_1351 ?_
      obtain ⟨v242, hv242, h⟩ := Option.bind_eq_some_iff.mp h
      refine Y_callH C X (pc := 1352) [.ref (ρ 0), .int v241, .ref (ρ 96)] [] [.int v242.1] (c_L_regret hI (by decide +kernel) (by decide +kernel) (by decide) hv242) hA0 hW q_cdw_yL_regret q_in_RL q_ml_RL_188 q_st_yL_regret (na := 3) (by decide +kernel) (by decide +kernel) (by decide +kernel) ⟨Nat.le_of_ble_eq_true rfl, Nat.le_of_ble_eq_true rfl⟩ (by show _ + 1 ≤ 601024; omega) (by show _ + 6 ≤ 7293033; omega) (Nat.le_of_ble_eq_true rfl) rfl rfl rfl dL_law_1352 ?_
      refine Y_istore C (pc := 1355) (lv' := [(5, .int v242.1), (0, .ref b), (1, .ref (ρ 0)), (2, .ref (ρ 75)), (3, .ref (ρ 96)), (4, .int s1.1)]) (by decide) rfl dL_law_1355 ?_
      refine Y_aload_n C (pc := 1357) 2 3 rfl rfl dL_law_1357 ?_
      refine Y_aload_n C (pc := 1358) 0 1 rfl rfl dL_law_1358 ?_
      refine Y_iload C (pc := 1359) 5 rfl dL_law_1359 ?_
      refine Y_iconst C (pc := 1361) (v := (1 : Int32)) (by decide) dL_law_1361 ?_
      refine Y_iadd C (pc := 1362) dL_law_1362 ?_
      obtain ⟨v243, hv243, h⟩ := Option.bind_eq_some_iff.mp h
      refine Y_sld C (pc := 1363) hX hbl hbA hv243 dL_law_1363 ?_
      obtain ⟨v244, hv244, h⟩ := Option.bind_eq_some_iff.mp h
      refine Y_callV C (pc := 1364) [.int v243] [] [.int v244.1] (kb := 75) kd75 rfl rfl (c_X9_regret hI kd75 hv244) hAw q_cw_yX9_regret q_ml_RL_190 ⟨q_im_yX9_regret, q_se_yX9_regret⟩ ⟨⟨Nat.le_of_ble_eq_true rfl, Nat.le_of_ble_eq_true rfl⟩, ⟨by show _ ≤ 601024; omega, by show _ ≤ 7293033; omega⟩, Nat.le_of_ble_eq_true rfl⟩ rfl rfl rfl dL_law_1364 ?_
      refine Y_istore C (pc := 1367) (lv' := [(6, .int v244.1), (5, .int v242.1), (0, .ref b), (1, .ref (ρ 0)), (2, .ref (ρ 75)), (3, .ref (ρ 96)), (4, .int s1.1)]) (by decide) rfl dL_law_1367 ?_
      refine Y_aload_n C (pc := 1369) 2 4 rfl rfl dL_law_1369 ?_
      obtain ⟨v245, hv245, h⟩ := Option.bind_eq_some_iff.mp h
      refine Y_callV C (pc := 1370) [] [] [.int v245] (kb := 75) kd75 rfl rfl (c_X9_thrown kd75 hv245) (fun _ h => h.elim) q_cw_yX9_thrown q_ml_RL_94 ⟨q_im_yX9_thrown, q_se_yX9_thrown⟩ ⟨⟨Nat.le_of_ble_eq_true rfl, Nat.le_of_ble_eq_true rfl⟩, ⟨by show _ ≤ 601024; omega, by show _ ≤ 7293033; omega⟩, Nat.le_of_ble_eq_true rfl⟩ rfl rfl rfl dL_law_1370 ?_
      refine Y_iload C (pc := 1373) 1 rfl dL_law_1373 ?_
      refine Y_icmp_eq C (pc := 1375) (tgt := 1380) dL_law_1375 (by decide) (fun c246 => ?_) (fun c246 => ?_)
      · rw [if_pos c246] at h
        refine Y_iload C (pc := 1380) 1 rfl dL_law_1380 ?_
        refine Y_if_ne C (pc := 1382) (tgt := 1397) dL_law_1382 (by decide) (fun c247 => ?_) (fun c247 => ?_)
        · rw [if_neg c247] at h
          exact Y_sub [2, 3, 4, 5, 6] rfl (hJ1397 _ _ h)
        · rw [if_pos c247] at h
          refine Y_aload_n C (pc := 1385) 3 5 rfl rfl dL_law_1385 ?_
          refine Y_iconst C (pc := 1386) (v := (0 : Int32)) (by decide) dL_law_1386 ?_
          obtain ⟨v250, hv250, h⟩ := Option.bind_eq_some_iff.mp h
          refine Y_lald C (pc := 1387) (by decide +kernel) hv250 dL_law_1387 ?_
          refine Y_iload C (pc := 1388) 0 rfl dL_law_1388 ?_
          refine Y_i2l C (pc := 1390) dL_law_1390 ?_
          refine Y_lcmp C (pc := 1391) dL_law_1391 ?_
          refine Y_if_eq C (pc := 1392) (tgt := 1397) dL_law_1392 (by decide) (fun c251 => ?_) (fun c251 => ?_)
          · rw [if_pos c251] at h
            exact Y_sub [2, 3, 4, 5, 6] rfl (hJ1397 _ _ h)
          · rw [if_neg c251] at h
            exact absurd (hE _ (Option.some.inj h).symm) (by decide)
      · rw [if_neg c246] at h
        exact absurd (hE _ (Option.some.inj h).symm) (by decide)
    rw [if_neg w26] at h
    by_cases w27 : (v3 &&& (63 : Int32)) = (27 : Int32)
    · rw [if_pos w27] at h
      refine Y_tableIn C (pc := 39) dL_law_39 (by rw [w27]; decide) (by rw [w27]; decide) (off := 1361) (tgt := 1400) (by rw [w27]; rfl) (by decide) ?_
      refine Y_aload_n C (pc := 1400) 1 1 rfl rfl dL_law_1400 ?_
      obtain ⟨v252, hv252, h⟩ := Option.bind_eq_some_iff.mp h
      refine Y_callV C (pc := 1401) [] [] [.int v252.1] (kb := 0) kd0 rfl rfl (c_X8_branchOn hI kd0 hv252) hAw q_cw_yX8_branchOn q_ml_RL_191 ⟨q_im_yX8_branchOn, q_se_yX8_branchOn⟩ ⟨⟨Nat.le_of_ble_eq_true rfl, Nat.le_of_ble_eq_true rfl⟩, ⟨by show _ ≤ 601024; omega, by show _ ≤ 7293033; omega⟩, Nat.le_of_ble_eq_true rfl⟩ rfl rfl rfl dL_law_1401 ?_
      refine Y_aload_n C (pc := 1404) 2 2 rfl rfl dL_law_1404 ?_
      obtain ⟨v253, hv253, h⟩ := Option.bind_eq_some_iff.mp h
      refine Y_callV C (pc := 1405) [] [.int v252.1] [.int v253.1, .int v252.1] (kb := 75) kd75 rfl rfl (c_X9_branchOn hI kd75 hv253) hAw q_cw_yX9_branchOn q_ml_RL_194 ⟨q_im_yX9_branchOn, q_se_yX9_branchOn⟩ ⟨⟨Nat.le_of_ble_eq_true rfl, Nat.le_of_ble_eq_true rfl⟩, ⟨by show _ ≤ 601024; omega, by show _ ≤ 7293033; omega⟩, Nat.le_of_ble_eq_true rfl⟩ rfl rfl rfl dL_law_1405 ?_
      refine Y_icmp_eq C (pc := 1408) (tgt := 1847) dL_law_1408 (by decide) (fun c254 => ?_) (fun c254 => ?_)
      · rw [if_pos c254] at h
        exact Y_widen (Nat.le_add_right _ 1) (Nat.le_add_right _ 6) (Y_sub [0, 1, 2, 3, 4] rfl (hJ1847 _ _ h))
      · rw [if_neg c254] at h
        exact absurd (hE _ (Option.some.inj h).symm) (by decide)
    rw [if_neg w27] at h
    by_cases w28 : (v3 &&& (63 : Int32)) = (28 : Int32)
    · rw [if_pos w28] at h
      refine Y_tableIn C (pc := 39) dL_law_39 (by rw [w28]; decide) (by rw [w28]; decide) (off := 1374) (tgt := 1413) (by rw [w28]; rfl) (by decide) ?_
      refine Y_aload_n C (pc := 1413) 1 1 rfl rfl dL_law_1413 ?_
      obtain ⟨v255, hv255, h⟩ := Option.bind_eq_some_iff.mp h
      refine Y_callV C (pc := 1414) [] [] [.int v255.1] (kb := 0) kd0 rfl rfl (c_X8_symmetries hI kd0 hv255) hAw q_cw_yX8_symmetries q_ml_RL_195 ⟨q_im_yX8_symmetries, q_se_yX8_symmetries⟩ ⟨⟨Nat.le_of_ble_eq_true rfl, Nat.le_of_ble_eq_true rfl⟩, ⟨by show _ ≤ 601024; omega, by show _ ≤ 7293033; omega⟩, Nat.le_of_ble_eq_true rfl⟩ rfl rfl rfl dL_law_1414 ?_
      refine Y_aload_n C (pc := 1417) 2 2 rfl rfl dL_law_1417 ?_
      obtain ⟨v256, hv256, h⟩ := Option.bind_eq_some_iff.mp h
      refine Y_callV C (pc := 1418) [] [.int v255.1] [.int v256.1, .int v255.1] (kb := 75) kd75 rfl rfl (c_X9_symmetries hI kd75 hv256) hAw q_cw_yX9_symmetries q_ml_RL_198 ⟨q_im_yX9_symmetries, q_se_yX9_symmetries⟩ ⟨⟨Nat.le_of_ble_eq_true rfl, Nat.le_of_ble_eq_true rfl⟩, ⟨by show _ ≤ 601024; omega, by show _ ≤ 7293033; omega⟩, Nat.le_of_ble_eq_true rfl⟩ rfl rfl rfl dL_law_1418 ?_
      refine Y_icmp_eq C (pc := 1421) (tgt := 1847) dL_law_1421 (by decide) (fun c257 => ?_) (fun c257 => ?_)
      · rw [if_pos c257] at h
        exact Y_widen (Nat.le_add_right _ 1) (Nat.le_add_right _ 6) (Y_sub [0, 1, 2, 3, 4] rfl (hJ1847 _ _ h))
      · rw [if_neg c257] at h
        exact absurd (hE _ (Option.some.inj h).symm) (by decide)
    rw [if_neg w28] at h
    by_cases w29 : (v3 &&& (63 : Int32)) = (29 : Int32)
    · rw [if_pos w29] at h
      refine Y_tableIn C (pc := 39) dL_law_39 (by rw [w29]; decide) (by rw [w29]; decide) (off := 1387) (tgt := 1426) (by rw [w29]; rfl) (by decide) ?_
      refine Y_aload_n C (pc := 1426) 1 1 rfl rfl dL_law_1426 ?_
      refine Y_aload_n C (pc := 1427) 0 0 rfl rfl dL_law_1427 ?_
      refine Y_iload C (pc := 1428) 4 rfl dL_law_1428 ?_
      refine Y_iconst C (pc := 1430) (v := (1 : Int32)) (by decide) dL_law_1430 ?_
      refine Y_iadd C (pc := 1431) dL_law_1431 ?_
      obtain ⟨v258, hv258, h⟩ := Option.bind_eq_some_iff.mp h
      refine Y_sld C (pc := 1432) hX hbl hbA hv258 dL_law_1432 ?_
      refine Y_aload_n C (pc := 1433) 3 3 rfl rfl dL_law_1433 ?_
      obtain ⟨v259, hv259, h⟩ := Option.bind_eq_some_iff.mp h
      refine Y_callH C X (pc := 1434) [.ref (ρ 0), .int v258, .ref (ρ 96)] [] [.int v259.1] (c_L_representative hI (by decide +kernel) (by decide +kernel) (by decide) hv259) hA0 hW q_cdw_yL_representative q_in_RL q_ml_RL_199 q_st_yL_representative (na := 3) (by decide +kernel) (by decide +kernel) (by decide +kernel) ⟨Nat.le_of_ble_eq_true rfl, Nat.le_of_ble_eq_true rfl⟩ (by show _ + 1 ≤ 601024; omega) (by show _ + 6 ≤ 7293033; omega) (Nat.le_of_ble_eq_true rfl) rfl rfl rfl dL_law_1434 ?_
      refine Y_istore C (pc := 1437) (lv' := [(5, .int v259.1), (0, .ref b), (1, .ref (ρ 0)), (2, .ref (ρ 75)), (3, .ref (ρ 96)), (4, .int s1.1)]) (by decide) rfl dL_law_1437 ?_
      refine Y_aload_n C (pc := 1439) 2 3 rfl rfl dL_law_1439 ?_
      refine Y_aload_n C (pc := 1440) 0 1 rfl rfl dL_law_1440 ?_
      refine Y_iload C (pc := 1441) 5 rfl dL_law_1441 ?_
      refine Y_iconst C (pc := 1443) (v := (1 : Int32)) (by decide) dL_law_1443 ?_
      refine Y_iadd C (pc := 1444) dL_law_1444 ?_
      obtain ⟨v260, hv260, h⟩ := Option.bind_eq_some_iff.mp h
      refine Y_sld C (pc := 1445) hX hbl hbA hv260 dL_law_1445 ?_
      obtain ⟨v261, hv261, h⟩ := Option.bind_eq_some_iff.mp h
      refine Y_callV C (pc := 1446) [.int v260] [] [.int v261.1] (kb := 75) kd75 rfl rfl (c_X9_representative hI kd75 hv261) hAw q_cw_yX9_representative q_ml_RL_201 ⟨q_im_yX9_representative, q_se_yX9_representative⟩ ⟨⟨Nat.le_of_ble_eq_true rfl, Nat.le_of_ble_eq_true rfl⟩, ⟨by show _ ≤ 601024; omega, by show _ ≤ 7293033; omega⟩, Nat.le_of_ble_eq_true rfl⟩ rfl rfl rfl dL_law_1446 ?_
      refine Y_istore C (pc := 1449) (lv' := [(6, .int v261.1), (5, .int v259.1), (0, .ref b), (1, .ref (ρ 0)), (2, .ref (ρ 75)), (3, .ref (ρ 96)), (4, .int s1.1)]) (by decide) rfl dL_law_1449 ?_
      refine Y_aload_n C (pc := 1451) 2 4 rfl rfl dL_law_1451 ?_
      obtain ⟨v262, hv262, h⟩ := Option.bind_eq_some_iff.mp h
      refine Y_callV C (pc := 1452) [] [] [.int v262] (kb := 75) kd75 rfl rfl (c_X9_thrown kd75 hv262) (fun _ h => h.elim) q_cw_yX9_thrown q_ml_RL_94 ⟨q_im_yX9_thrown, q_se_yX9_thrown⟩ ⟨⟨Nat.le_of_ble_eq_true rfl, Nat.le_of_ble_eq_true rfl⟩, ⟨by show _ ≤ 601024; omega, by show _ ≤ 7293033; omega⟩, Nat.le_of_ble_eq_true rfl⟩ rfl rfl rfl dL_law_1452 ?_
      refine Y_iload C (pc := 1455) 1 rfl dL_law_1455 ?_
      refine Y_icmp_eq C (pc := 1457) (tgt := 1462) dL_law_1457 (by decide) (fun c263 => ?_) (fun c263 => ?_)
      · rw [if_pos c263] at h
        refine Y_iload C (pc := 1462) 1 rfl dL_law_1462 ?_
        refine Y_if_ne C (pc := 1464) (tgt := 1479) dL_law_1464 (by decide) (fun c264 => ?_) (fun c264 => ?_)
        · rw [if_neg c264] at h
          exact Y_sub [2, 3, 4, 5, 6] rfl (hJ1479 _ _ h)
        · rw [if_pos c264] at h
          refine Y_aload_n C (pc := 1467) 3 5 rfl rfl dL_law_1467 ?_
          refine Y_iconst C (pc := 1468) (v := (0 : Int32)) (by decide) dL_law_1468 ?_
          obtain ⟨v267, hv267, h⟩ := Option.bind_eq_some_iff.mp h
          refine Y_lald C (pc := 1469) (by decide +kernel) hv267 dL_law_1469 ?_
          refine Y_iload C (pc := 1470) 0 rfl dL_law_1470 ?_
          refine Y_i2l C (pc := 1472) dL_law_1472 ?_
          refine Y_lcmp C (pc := 1473) dL_law_1473 ?_
          refine Y_if_eq C (pc := 1474) (tgt := 1479) dL_law_1474 (by decide) (fun c268 => ?_) (fun c268 => ?_)
          · rw [if_pos c268] at h
            exact Y_sub [2, 3, 4, 5, 6] rfl (hJ1479 _ _ h)
          · rw [if_neg c268] at h
            exact absurd (hE _ (Option.some.inj h).symm) (by decide)
      · rw [if_neg c263] at h
        exact absurd (hE _ (Option.some.inj h).symm) (by decide)
    rw [if_neg w29] at h
    by_cases w30 : (v3 &&& (63 : Int32)) = (30 : Int32)
    · rw [if_pos w30] at h
      refine Y_tableIn C (pc := 39) dL_law_39 (by rw [w30]; decide) (by rw [w30]; decide) (off := 1443) (tgt := 1482) (by rw [w30]; rfl) (by decide) ?_
      refine Y_aload_n C (pc := 1482) 1 1 rfl rfl dL_law_1482 ?_
      refine Y_aload_n C (pc := 1483) 0 0 rfl rfl dL_law_1483 ?_
      refine Y_iload C (pc := 1484) 4 rfl dL_law_1484 ?_
      refine Y_iconst C (pc := 1486) (v := (1 : Int32)) (by decide) dL_law_1486 ?_
      refine Y_iadd C (pc := 1487) dL_law_1487 ?_
      obtain ⟨v269, hv269, h⟩ := Option.bind_eq_some_iff.mp h
      refine Y_sld C (pc := 1488) hX hbl hbA hv269 dL_law_1488 ?_
      refine Y_if_eq C (pc := 1489) (tgt := 1496) dL_law_1489 (by decide) (fun c270 => ?_) (fun c270 => ?_)
      · rw [if_pos c270] at h
        refine Y_iconst C (pc := 1496) (v := (0 : Int32)) (by decide) dL_law_1496 ?_
        exact Y_widen (Nat.le_add_right _ 1) (Nat.le_add_right _ 6) (Y_sub [0, 1, 2, 3, 4] rfl (hJ1497 _ _ _ h))
      · rw [if_neg c270] at h
        refine Y_iconst C (pc := 1492) (v := (1 : Int32)) (by decide) dL_law_1492 ?_
        refine Y_goto C (pc := 1493) (tgt := 1497) dL_law_1493 (by decide) ?_
        exact Y_widen (Nat.le_add_right _ 1) (Nat.le_add_right _ 6) (Y_sub [0, 1, 2, 3, 4] rfl (hJ1497 _ _ _ h))
    rw [if_neg w30] at h
    by_cases w31 : (v3 &&& (63 : Int32)) = (31 : Int32)
    · rw [if_pos w31] at h
      refine Y_tableIn C (pc := 39) dL_law_39 (by rw [w31]; decide) (by rw [w31]; decide) (off := 1512) (tgt := 1551) (by rw [w31]; rfl) (by decide) ?_
      refine Y_aload_n C (pc := 1551) 1 1 rfl rfl dL_law_1551 ?_
      refine Y_aload_n C (pc := 1552) 0 0 rfl rfl dL_law_1552 ?_
      refine Y_iload C (pc := 1553) 4 rfl dL_law_1553 ?_
      refine Y_iconst C (pc := 1555) (v := (1 : Int32)) (by decide) dL_law_1555 ?_
      refine Y_iadd C (pc := 1556) dL_law_1556 ?_
      obtain ⟨v296, hv296, h⟩ := Option.bind_eq_some_iff.mp h
      refine Y_sld C (pc := 1557) hX hbl hbA hv296 dL_law_1557 ?_
      refine Y_aload_n C (pc := 1558) 3 3 rfl rfl dL_law_1558 ?_
      obtain ⟨v297, hv297, h⟩ := Option.bind_eq_some_iff.mp h
      refine Y_callH C X (pc := 1559) [.ref (ρ 0), .int v296, .ref (ρ 96)] [] [.int v297.1] (c_L_found hI (by decide +kernel) (by decide +kernel) (by decide) hv297) hA0 hW q_cdw_yL_found q_in_RL q_ml_RL_207 q_st_yL_found (na := 3) (by decide +kernel) (by decide +kernel) (by decide +kernel) ⟨Nat.le_of_ble_eq_true rfl, Nat.le_of_ble_eq_true rfl⟩ (by show _ + 1 ≤ 601024; omega) (by show _ + 6 ≤ 7293033; omega) (Nat.le_of_ble_eq_true rfl) rfl rfl rfl dL_law_1559 ?_
      refine Y_istore C (pc := 1562) (lv' := [(5, .int v297.1), (0, .ref b), (1, .ref (ρ 0)), (2, .ref (ρ 75)), (3, .ref (ρ 96)), (4, .int s1.1)]) (by decide) rfl dL_law_1562 ?_
      refine Y_aload_n C (pc := 1564) 2 3 rfl rfl dL_law_1564 ?_
      refine Y_aload_n C (pc := 1565) 0 1 rfl rfl dL_law_1565 ?_
      refine Y_iload C (pc := 1566) 5 rfl dL_law_1566 ?_
      refine Y_iconst C (pc := 1568) (v := (1 : Int32)) (by decide) dL_law_1568 ?_
      refine Y_iadd C (pc := 1569) dL_law_1569 ?_
      obtain ⟨v298, hv298, h⟩ := Option.bind_eq_some_iff.mp h
      refine Y_sld C (pc := 1570) hX hbl hbA hv298 dL_law_1570 ?_
      obtain ⟨v299, hv299, h⟩ := Option.bind_eq_some_iff.mp h
      refine Y_callV C (pc := 1571) [.int v298] [] [.int v299.1] (kb := 75) kd75 rfl rfl (c_X9_found hI kd75 hv299) hAw q_cw_yX9_found q_ml_RL_209 ⟨q_im_yX9_found, q_se_yX9_found⟩ ⟨⟨Nat.le_of_ble_eq_true rfl, Nat.le_of_ble_eq_true rfl⟩, ⟨by show _ ≤ 601024; omega, by show _ ≤ 7293033; omega⟩, Nat.le_of_ble_eq_true rfl⟩ rfl rfl rfl dL_law_1571 ?_
      refine Y_istore C (pc := 1574) (lv' := [(6, .int v299.1), (5, .int v297.1), (0, .ref b), (1, .ref (ρ 0)), (2, .ref (ρ 75)), (3, .ref (ρ 96)), (4, .int s1.1)]) (by decide) rfl dL_law_1574 ?_
      refine Y_aload_n C (pc := 1576) 2 4 rfl rfl dL_law_1576 ?_
      obtain ⟨v300, hv300, h⟩ := Option.bind_eq_some_iff.mp h
      refine Y_callV C (pc := 1577) [] [] [.int v300] (kb := 75) kd75 rfl rfl (c_X9_thrown kd75 hv300) (fun _ h => h.elim) q_cw_yX9_thrown q_ml_RL_94 ⟨q_im_yX9_thrown, q_se_yX9_thrown⟩ ⟨⟨Nat.le_of_ble_eq_true rfl, Nat.le_of_ble_eq_true rfl⟩, ⟨by show _ ≤ 601024; omega, by show _ ≤ 7293033; omega⟩, Nat.le_of_ble_eq_true rfl⟩ rfl rfl rfl dL_law_1577 ?_
      refine Y_iload C (pc := 1580) 1 rfl dL_law_1580 ?_
      refine Y_icmp_eq C (pc := 1582) (tgt := 1587) dL_law_1582 (by decide) (fun c301 => ?_) (fun c301 => ?_)
      · rw [if_pos c301] at h
        refine Y_iload C (pc := 1587) 1 rfl dL_law_1587 ?_
        refine Y_if_ne C (pc := 1589) (tgt := 1604) dL_law_1589 (by decide) (fun c302 => ?_) (fun c302 => ?_)
        · rw [if_neg c302] at h
          exact Y_sub [2, 3, 4, 5, 6] rfl (hJ1604 _ _ h)
        · rw [if_pos c302] at h
          refine Y_aload_n C (pc := 1592) 3 5 rfl rfl dL_law_1592 ?_
          refine Y_iconst C (pc := 1593) (v := (0 : Int32)) (by decide) dL_law_1593 ?_
          obtain ⟨v305, hv305, h⟩ := Option.bind_eq_some_iff.mp h
          refine Y_lald C (pc := 1594) (by decide +kernel) hv305 dL_law_1594 ?_
          refine Y_iload C (pc := 1595) 0 rfl dL_law_1595 ?_
          refine Y_i2l C (pc := 1597) dL_law_1597 ?_
          refine Y_lcmp C (pc := 1598) dL_law_1598 ?_
          refine Y_if_eq C (pc := 1599) (tgt := 1604) dL_law_1599 (by decide) (fun c306 => ?_) (fun c306 => ?_)
          · rw [if_pos c306] at h
            exact Y_sub [2, 3, 4, 5, 6] rfl (hJ1604 _ _ h)
          · rw [if_neg c306] at h
            exact absurd (hE _ (Option.some.inj h).symm) (by decide)
      · rw [if_neg c301] at h
        exact absurd (hE _ (Option.some.inj h).symm) (by decide)
    rw [if_neg w31] at h
    by_cases w32 : (v3 &&& (63 : Int32)) = (32 : Int32)
    · rw [if_pos w32] at h
      refine Y_tableIn C (pc := 39) dL_law_39 (by rw [w32]; decide) (by rw [w32]; decide) (off := 1568) (tgt := 1607) (by rw [w32]; rfl) (by decide) ?_
      refine Y_aload_n C (pc := 1607) 1 1 rfl rfl dL_law_1607 ?_
      refine Y_aload_n C (pc := 1608) 0 0 rfl rfl dL_law_1608 ?_
      refine Y_iload C (pc := 1609) 4 rfl dL_law_1609 ?_
      refine Y_iconst C (pc := 1611) (v := (1 : Int32)) (by decide) dL_law_1611 ?_
      refine Y_iadd C (pc := 1612) dL_law_1612 ?_
      obtain ⟨v307, hv307, h⟩ := Option.bind_eq_some_iff.mp h
      refine Y_sld C (pc := 1613) hX hbl hbA hv307 dL_law_1613 ?_
      refine Y_aload_n C (pc := 1614) 3 3 rfl rfl dL_law_1614 ?_
      obtain ⟨v308, hv308, h⟩ := Option.bind_eq_some_iff.mp h
      refine Y_callH C X (pc := 1615) [.ref (ρ 0), .int v307, .ref (ρ 96)] [] [.int v308.1] (c_L_nodes hI (by decide +kernel) (by decide +kernel) (by decide) hv308) hA0 hW q_cdw_yL_nodes q_in_RL q_ml_RL_210 q_st_yL_nodes (na := 3) (by decide +kernel) (by decide +kernel) (by decide +kernel) ⟨Nat.le_of_ble_eq_true rfl, Nat.le_of_ble_eq_true rfl⟩ (by show _ + 1 ≤ 601024; omega) (by show _ + 6 ≤ 7293033; omega) (Nat.le_of_ble_eq_true rfl) rfl rfl rfl dL_law_1615 ?_
      refine Y_istore C (pc := 1618) (lv' := [(5, .int v308.1), (0, .ref b), (1, .ref (ρ 0)), (2, .ref (ρ 75)), (3, .ref (ρ 96)), (4, .int s1.1)]) (by decide) rfl dL_law_1618 ?_
      refine Y_aload_n C (pc := 1620) 2 3 rfl rfl dL_law_1620 ?_
      refine Y_aload_n C (pc := 1621) 0 1 rfl rfl dL_law_1621 ?_
      refine Y_iload C (pc := 1622) 5 rfl dL_law_1622 ?_
      refine Y_iconst C (pc := 1624) (v := (1 : Int32)) (by decide) dL_law_1624 ?_
      refine Y_iadd C (pc := 1625) dL_law_1625 ?_
      obtain ⟨v309, hv309, h⟩ := Option.bind_eq_some_iff.mp h
      refine Y_sld C (pc := 1626) hX hbl hbA hv309 dL_law_1626 ?_
      obtain ⟨v310, hv310, h⟩ := Option.bind_eq_some_iff.mp h
      refine Y_callV C (pc := 1627) [.int v309] [] [.int v310.1] (kb := 75) kd75 rfl rfl (c_X9_nodes hI kd75 hv310) hAw q_cw_yX9_nodes q_ml_RL_212 ⟨q_im_yX9_nodes, q_se_yX9_nodes⟩ ⟨⟨Nat.le_of_ble_eq_true rfl, Nat.le_of_ble_eq_true rfl⟩, ⟨by show _ ≤ 601024; omega, by show _ ≤ 7293033; omega⟩, Nat.le_of_ble_eq_true rfl⟩ rfl rfl rfl dL_law_1627 ?_
      refine Y_istore C (pc := 1630) (lv' := [(6, .int v310.1), (5, .int v308.1), (0, .ref b), (1, .ref (ρ 0)), (2, .ref (ρ 75)), (3, .ref (ρ 96)), (4, .int s1.1)]) (by decide) rfl dL_law_1630 ?_
      refine Y_aload_n C (pc := 1632) 2 4 rfl rfl dL_law_1632 ?_
      obtain ⟨v311, hv311, h⟩ := Option.bind_eq_some_iff.mp h
      refine Y_callV C (pc := 1633) [] [] [.int v311] (kb := 75) kd75 rfl rfl (c_X9_thrown kd75 hv311) (fun _ h => h.elim) q_cw_yX9_thrown q_ml_RL_94 ⟨q_im_yX9_thrown, q_se_yX9_thrown⟩ ⟨⟨Nat.le_of_ble_eq_true rfl, Nat.le_of_ble_eq_true rfl⟩, ⟨by show _ ≤ 601024; omega, by show _ ≤ 7293033; omega⟩, Nat.le_of_ble_eq_true rfl⟩ rfl rfl rfl dL_law_1633 ?_
      refine Y_iload C (pc := 1636) 1 rfl dL_law_1636 ?_
      refine Y_icmp_eq C (pc := 1638) (tgt := 1643) dL_law_1638 (by decide) (fun c312 => ?_) (fun c312 => ?_)
      · rw [if_pos c312] at h
        refine Y_iload C (pc := 1643) 1 rfl dL_law_1643 ?_
        refine Y_if_ne C (pc := 1645) (tgt := 1660) dL_law_1645 (by decide) (fun c313 => ?_) (fun c313 => ?_)
        · rw [if_neg c313] at h
          exact Y_sub [2, 3, 4, 5, 6] rfl (hJ1660 _ _ h)
        · rw [if_pos c313] at h
          refine Y_aload_n C (pc := 1648) 3 5 rfl rfl dL_law_1648 ?_
          refine Y_iconst C (pc := 1649) (v := (0 : Int32)) (by decide) dL_law_1649 ?_
          obtain ⟨v316, hv316, h⟩ := Option.bind_eq_some_iff.mp h
          refine Y_lald C (pc := 1650) (by decide +kernel) hv316 dL_law_1650 ?_
          refine Y_iload C (pc := 1651) 0 rfl dL_law_1651 ?_
          refine Y_i2l C (pc := 1653) dL_law_1653 ?_
          refine Y_lcmp C (pc := 1654) dL_law_1654 ?_
          refine Y_if_eq C (pc := 1655) (tgt := 1660) dL_law_1655 (by decide) (fun c317 => ?_) (fun c317 => ?_)
          · rw [if_pos c317] at h
            exact Y_sub [2, 3, 4, 5, 6] rfl (hJ1660 _ _ h)
          · rw [if_neg c317] at h
            exact absurd (hE _ (Option.some.inj h).symm) (by decide)
      · rw [if_neg c312] at h
        exact absurd (hE _ (Option.some.inj h).symm) (by decide)
    rw [if_neg w32] at h
    by_cases w33 : (v3 &&& (63 : Int32)) = (33 : Int32)
    · rw [if_pos w33] at h
      refine Y_tableIn C (pc := 39) dL_law_39 (by rw [w33]; decide) (by rw [w33]; decide) (off := 1624) (tgt := 1663) (by rw [w33]; rfl) (by decide) ?_
      refine Y_aload_n C (pc := 1663) 1 1 rfl rfl dL_law_1663 ?_
      refine Y_aload_n C (pc := 1664) 0 0 rfl rfl dL_law_1664 ?_
      refine Y_iload C (pc := 1665) 4 rfl dL_law_1665 ?_
      refine Y_iconst C (pc := 1667) (v := (1 : Int32)) (by decide) dL_law_1667 ?_
      refine Y_iadd C (pc := 1668) dL_law_1668 ?_
      obtain ⟨v318, hv318, h⟩ := Option.bind_eq_some_iff.mp h
      refine Y_sld C (pc := 1669) hX hbl hbA hv318 dL_law_1669 ?_
      refine Y_aload_n C (pc := 1670) 3 3 rfl rfl dL_law_1670 ?_
      obtain ⟨v319, hv319, h⟩ := Option.bind_eq_some_iff.mp h
      refine Y_callH C X (pc := 1671) [.ref (ρ 0), .int v318, .ref (ρ 96)] [] [.int v319.1] (c_L_type hI (by decide +kernel) (by decide +kernel) (by decide) hv319) hA0 hW q_cdw_yL_type q_in_RL q_ml_RL_213 q_st_yL_type (na := 3) (by decide +kernel) (by decide +kernel) (by decide +kernel) ⟨Nat.le_of_ble_eq_true rfl, Nat.le_of_ble_eq_true rfl⟩ (by show _ + 1 ≤ 601024; omega) (by show _ + 6 ≤ 7293033; omega) (Nat.le_of_ble_eq_true rfl) rfl rfl rfl dL_law_1671 ?_
      refine Y_istore C (pc := 1674) (lv' := [(5, .int v319.1), (0, .ref b), (1, .ref (ρ 0)), (2, .ref (ρ 75)), (3, .ref (ρ 96)), (4, .int s1.1)]) (by decide) rfl dL_law_1674 ?_
      refine Y_aload_n C (pc := 1676) 2 3 rfl rfl dL_law_1676 ?_
      refine Y_aload_n C (pc := 1677) 0 1 rfl rfl dL_law_1677 ?_
      refine Y_iload C (pc := 1678) 5 rfl dL_law_1678 ?_
      refine Y_iconst C (pc := 1680) (v := (1 : Int32)) (by decide) dL_law_1680 ?_
      refine Y_iadd C (pc := 1681) dL_law_1681 ?_
      obtain ⟨v320, hv320, h⟩ := Option.bind_eq_some_iff.mp h
      refine Y_sld C (pc := 1682) hX hbl hbA hv320 dL_law_1682 ?_
      obtain ⟨v321, hv321, h⟩ := Option.bind_eq_some_iff.mp h
      refine Y_callV C (pc := 1683) [.int v320] [] [.int v321.1] (kb := 75) kd75 rfl rfl (c_X9_type hI kd75 hv321) hAw q_cw_yX9_type q_ml_RL_215 ⟨q_im_yX9_type, q_se_yX9_type⟩ ⟨⟨Nat.le_of_ble_eq_true rfl, Nat.le_of_ble_eq_true rfl⟩, ⟨by show _ ≤ 601024; omega, by show _ ≤ 7293033; omega⟩, Nat.le_of_ble_eq_true rfl⟩ rfl rfl rfl dL_law_1683 ?_
      refine Y_istore C (pc := 1686) (lv' := [(6, .int v321.1), (5, .int v319.1), (0, .ref b), (1, .ref (ρ 0)), (2, .ref (ρ 75)), (3, .ref (ρ 96)), (4, .int s1.1)]) (by decide) rfl dL_law_1686 ?_
      refine Y_aload_n C (pc := 1688) 2 4 rfl rfl dL_law_1688 ?_
      obtain ⟨v322, hv322, h⟩ := Option.bind_eq_some_iff.mp h
      refine Y_callV C (pc := 1689) [] [] [.int v322] (kb := 75) kd75 rfl rfl (c_X9_thrown kd75 hv322) (fun _ h => h.elim) q_cw_yX9_thrown q_ml_RL_94 ⟨q_im_yX9_thrown, q_se_yX9_thrown⟩ ⟨⟨Nat.le_of_ble_eq_true rfl, Nat.le_of_ble_eq_true rfl⟩, ⟨by show _ ≤ 601024; omega, by show _ ≤ 7293033; omega⟩, Nat.le_of_ble_eq_true rfl⟩ rfl rfl rfl dL_law_1689 ?_
      refine Y_iload C (pc := 1692) 1 rfl dL_law_1692 ?_
      refine Y_icmp_eq C (pc := 1694) (tgt := 1699) dL_law_1694 (by decide) (fun c323 => ?_) (fun c323 => ?_)
      · rw [if_pos c323] at h
        refine Y_iload C (pc := 1699) 1 rfl dL_law_1699 ?_
        refine Y_if_ne C (pc := 1701) (tgt := 1716) dL_law_1701 (by decide) (fun c324 => ?_) (fun c324 => ?_)
        · rw [if_neg c324] at h
          exact Y_sub [2, 3, 4, 5, 6] rfl (hJ1716 _ _ h)
        · rw [if_pos c324] at h
          refine Y_aload_n C (pc := 1704) 3 5 rfl rfl dL_law_1704 ?_
          refine Y_iconst C (pc := 1705) (v := (0 : Int32)) (by decide) dL_law_1705 ?_
          obtain ⟨v327, hv327, h⟩ := Option.bind_eq_some_iff.mp h
          refine Y_lald C (pc := 1706) (by decide +kernel) hv327 dL_law_1706 ?_
          refine Y_iload C (pc := 1707) 0 rfl dL_law_1707 ?_
          refine Y_i2l C (pc := 1709) dL_law_1709 ?_
          refine Y_lcmp C (pc := 1710) dL_law_1710 ?_
          refine Y_if_eq C (pc := 1711) (tgt := 1716) dL_law_1711 (by decide) (fun c328 => ?_) (fun c328 => ?_)
          · rw [if_pos c328] at h
            exact Y_sub [2, 3, 4, 5, 6] rfl (hJ1716 _ _ h)
          · rw [if_neg c328] at h
            exact absurd (hE _ (Option.some.inj h).symm) (by decide)
      · rw [if_neg c323] at h
        exact absurd (hE _ (Option.some.inj h).symm) (by decide)
    rw [if_neg w33] at h
    by_cases w34 : (v3 &&& (63 : Int32)) = (34 : Int32)
    · rw [if_pos w34] at h
      refine Y_tableIn C (pc := 39) dL_law_39 (by rw [w34]; decide) (by rw [w34]; decide) (off := 1680) (tgt := 1719) (by rw [w34]; rfl) (by decide) ?_
      refine Y_aload_n C (pc := 1719) 1 1 rfl rfl dL_law_1719 ?_
      obtain ⟨v329, hv329, h⟩ := Option.bind_eq_some_iff.mp h
      refine Y_callV C (pc := 1720) [] [] [.int v329.1] (kb := 0) kd0 rfl rfl (c_X8_clearText hI kd0 hv329) hAw q_cw_yX8_clearText q_ml_RL_216 ⟨q_im_yX8_clearText, q_se_yX8_clearText⟩ ⟨⟨Nat.le_of_ble_eq_true rfl, Nat.le_of_ble_eq_true rfl⟩, ⟨by show _ ≤ 601024; omega, by show _ ≤ 7293033; omega⟩, Nat.le_of_ble_eq_true rfl⟩ rfl rfl rfl dL_law_1720 ?_
      refine Y_aload_n C (pc := 1723) 2 2 rfl rfl dL_law_1723 ?_
      obtain ⟨v330, hv330, h⟩ := Option.bind_eq_some_iff.mp h
      refine Y_callV C (pc := 1724) [] [.int v329.1] [.int v330.1, .int v329.1] (kb := 75) kd75 rfl rfl (c_X9_clearText hI kd75 hv330) hAw q_cw_yX9_clearText q_ml_RL_219 ⟨q_im_yX9_clearText, q_se_yX9_clearText⟩ ⟨⟨Nat.le_of_ble_eq_true rfl, Nat.le_of_ble_eq_true rfl⟩, ⟨by show _ ≤ 601024; omega, by show _ ≤ 7293033; omega⟩, Nat.le_of_ble_eq_true rfl⟩ rfl rfl rfl dL_law_1724 ?_
      refine Y_icmp_eq C (pc := 1727) (tgt := 1847) dL_law_1727 (by decide) (fun c331 => ?_) (fun c331 => ?_)
      · rw [if_pos c331] at h
        exact Y_widen (Nat.le_add_right _ 1) (Nat.le_add_right _ 6) (Y_sub [0, 1, 2, 3, 4] rfl (hJ1847 _ _ h))
      · rw [if_neg c331] at h
        exact absurd (hE _ (Option.some.inj h).symm) (by decide)
    rw [if_neg w34] at h
    by_cases w35 : (v3 &&& (63 : Int32)) = (35 : Int32)
    · rw [if_pos w35] at h
      refine Y_tableIn C (pc := 39) dL_law_39 (by rw [w35]; decide) (by rw [w35]; decide) (off := 1693) (tgt := 1732) (by rw [w35]; rfl) (by decide) ?_
      refine Y_aload_n C (pc := 1732) 1 1 rfl rfl dL_law_1732 ?_
      obtain ⟨v332, hv332, h⟩ := Option.bind_eq_some_iff.mp h
      refine Y_callV C (pc := 1733) [] [] [.int v332.1] (kb := 0) kd0 rfl rfl (c_X8_fault hI kd0 hv332) hAw q_cw_yX8_fault q_ml_RL_220 ⟨q_im_yX8_fault, q_se_yX8_fault⟩ ⟨⟨Nat.le_of_ble_eq_true rfl, Nat.le_of_ble_eq_true rfl⟩, ⟨by show _ ≤ 601024; omega, by show _ ≤ 7293033; omega⟩, Nat.le_of_ble_eq_true rfl⟩ rfl rfl rfl dL_law_1733 ?_
      refine Y_aload_n C (pc := 1736) 2 2 rfl rfl dL_law_1736 ?_
      obtain ⟨v333, hv333, h⟩ := Option.bind_eq_some_iff.mp h
      refine Y_callV C (pc := 1737) [] [.int v332.1] [.int v333.1, .int v332.1] (kb := 75) kd75 rfl rfl (c_X9_fault hI kd75 hv333) hAw q_cw_yX9_fault q_ml_RL_223 ⟨q_im_yX9_fault, q_se_yX9_fault⟩ ⟨⟨Nat.le_of_ble_eq_true rfl, Nat.le_of_ble_eq_true rfl⟩, ⟨by show _ ≤ 601024; omega, by show _ ≤ 7293033; omega⟩, Nat.le_of_ble_eq_true rfl⟩ rfl rfl rfl dL_law_1737 ?_
      refine Y_icmp_eq C (pc := 1740) (tgt := 1847) dL_law_1740 (by decide) (fun c334 => ?_) (fun c334 => ?_)
      · rw [if_pos c334] at h
        exact Y_widen (Nat.le_add_right _ 1) (Nat.le_add_right _ 6) (Y_sub [0, 1, 2, 3, 4] rfl (hJ1847 _ _ h))
      · rw [if_neg c334] at h
        exact absurd (hE _ (Option.some.inj h).symm) (by decide)
    rw [if_neg w35] at h
    by_cases w36 : (v3 &&& (63 : Int32)) = (36 : Int32)
    · rw [if_pos w36] at h
      refine Y_tableIn C (pc := 39) dL_law_39 (by rw [w36]; decide) (by rw [w36]; decide) (off := 1706) (tgt := 1745) (by rw [w36]; rfl) (by decide) ?_
      refine Y_aload_n C (pc := 1745) 1 1 rfl rfl dL_law_1745 ?_
      refine Y_aload_n C (pc := 1746) 3 3 rfl rfl dL_law_1746 ?_
      obtain ⟨v335, hv335, h⟩ := Option.bind_eq_some_iff.mp h
      refine Y_callH C X (pc := 1747) [.ref (ρ 0), .ref (ρ 96)] [] [.int v335.1] (c_L_run hI (by decide +kernel) (by decide +kernel) (by decide) hv335) hA0 hW q_cdw_yL_run q_in_RL q_ml_RL_224 q_st_yL_run (na := 2) (by decide +kernel) (by decide +kernel) (by decide +kernel) ⟨Nat.le_of_ble_eq_true rfl, Nat.le_of_ble_eq_true rfl⟩ (by show _ + 1 ≤ 601024; omega) (by show _ + 6 ≤ 7293033; omega) (Nat.le_of_ble_eq_true rfl) rfl rfl rfl dL_law_1747 ?_
      refine Y_istore C (pc := 1750) (lv' := [(5, .int v335.1), (0, .ref b), (1, .ref (ρ 0)), (2, .ref (ρ 75)), (3, .ref (ρ 96)), (4, .int s1.1)]) (by decide) rfl dL_law_1750 ?_
      refine Y_aload_n C (pc := 1752) 2 3 rfl rfl dL_law_1752 ?_
      obtain ⟨v336, hv336, h⟩ := Option.bind_eq_some_iff.mp h
      refine Y_callV C (pc := 1753) [] [] [.int v336.1] (kb := 75) kd75 rfl rfl (c_X9_run hI kd75 hv336) hAw q_cw_yX9_run q_ml_RL_227 ⟨q_im_yX9_run, q_se_yX9_run⟩ ⟨⟨Nat.le_of_ble_eq_true rfl, Nat.le_of_ble_eq_true rfl⟩, ⟨by show _ ≤ 601024; omega, by show _ ≤ 7293033; omega⟩, Nat.le_of_ble_eq_true rfl⟩ rfl rfl rfl dL_law_1753 ?_
      refine Y_istore C (pc := 1756) (lv' := [(6, .int v336.1), (5, .int v335.1), (0, .ref b), (1, .ref (ρ 0)), (2, .ref (ρ 75)), (3, .ref (ρ 96)), (4, .int s1.1)]) (by decide) rfl dL_law_1756 ?_
      refine Y_aload_n C (pc := 1758) 2 4 rfl rfl dL_law_1758 ?_
      obtain ⟨v337, hv337, h⟩ := Option.bind_eq_some_iff.mp h
      refine Y_callV C (pc := 1759) [] [] [.int v337] (kb := 75) kd75 rfl rfl (c_X9_thrown kd75 hv337) (fun _ h => h.elim) q_cw_yX9_thrown q_ml_RL_94 ⟨q_im_yX9_thrown, q_se_yX9_thrown⟩ ⟨⟨Nat.le_of_ble_eq_true rfl, Nat.le_of_ble_eq_true rfl⟩, ⟨by show _ ≤ 601024; omega, by show _ ≤ 7293033; omega⟩, Nat.le_of_ble_eq_true rfl⟩ rfl rfl rfl dL_law_1759 ?_
      refine Y_iload C (pc := 1762) 1 rfl dL_law_1762 ?_
      refine Y_icmp_eq C (pc := 1764) (tgt := 1769) dL_law_1764 (by decide) (fun c338 => ?_) (fun c338 => ?_)
      · rw [if_pos c338] at h
        refine Y_iload C (pc := 1769) 1 rfl dL_law_1769 ?_
        refine Y_if_ne C (pc := 1771) (tgt := 1786) dL_law_1771 (by decide) (fun c339 => ?_) (fun c339 => ?_)
        · rw [if_neg c339] at h
          exact Y_sub [2, 3, 4, 5, 6] rfl (hJ1786 _ _ h)
        · rw [if_pos c339] at h
          refine Y_aload_n C (pc := 1774) 3 5 rfl rfl dL_law_1774 ?_
          refine Y_iconst C (pc := 1775) (v := (0 : Int32)) (by decide) dL_law_1775 ?_
          obtain ⟨v342, hv342, h⟩ := Option.bind_eq_some_iff.mp h
          refine Y_lald C (pc := 1776) (by decide +kernel) hv342 dL_law_1776 ?_
          refine Y_iload C (pc := 1777) 0 rfl dL_law_1777 ?_
          refine Y_i2l C (pc := 1779) dL_law_1779 ?_
          refine Y_lcmp C (pc := 1780) dL_law_1780 ?_
          refine Y_if_eq C (pc := 1781) (tgt := 1786) dL_law_1781 (by decide) (fun c343 => ?_) (fun c343 => ?_)
          · rw [if_pos c343] at h
            exact Y_sub [2, 3, 4, 5, 6] rfl (hJ1786 _ _ h)
          · rw [if_neg c343] at h
            exact absurd (hE _ (Option.some.inj h).symm) (by decide)
      · rw [if_neg c338] at h
        exact absurd (hE _ (Option.some.inj h).symm) (by decide)
    rw [if_neg w36] at h
    by_cases w37 : (v3 &&& (63 : Int32)) = (37 : Int32)
    · rw [if_pos w37] at h
      refine Y_tableIn C (pc := 39) dL_law_39 (by rw [w37]; decide) (by rw [w37]; decide) (off := 1750) (tgt := 1789) (by rw [w37]; rfl) (by decide) ?_
      refine Y_aload_n C (pc := 1789) 1 1 rfl rfl dL_law_1789 ?_
      refine Y_aload_n C (pc := 1790) 3 3 rfl rfl dL_law_1790 ?_
      obtain ⟨v344, hv344, h⟩ := Option.bind_eq_some_iff.mp h
      refine Y_callH C X (pc := 1791) [.ref (ρ 0), .ref (ρ 96)] [] [.int v344.1] (c_L_undo hI (by decide +kernel) (by decide +kernel) (by decide) hv344) hA0 hW q_cdw_yL_undo q_in_RL q_ml_RL_228 q_st_yL_undo (na := 2) (by decide +kernel) (by decide +kernel) (by decide +kernel) ⟨Nat.le_of_ble_eq_true rfl, Nat.le_of_ble_eq_true rfl⟩ (by show _ + 1 ≤ 601024; omega) (by show _ + 6 ≤ 7293033; omega) (Nat.le_of_ble_eq_true rfl) rfl rfl rfl dL_law_1791 ?_
      refine Y_istore C (pc := 1794) (lv' := [(5, .int v344.1), (0, .ref b), (1, .ref (ρ 0)), (2, .ref (ρ 75)), (3, .ref (ρ 96)), (4, .int s1.1)]) (by decide) rfl dL_law_1794 ?_
      refine Y_aload_n C (pc := 1796) 2 3 rfl rfl dL_law_1796 ?_
      obtain ⟨v345, hv345, h⟩ := Option.bind_eq_some_iff.mp h
      refine Y_callV C (pc := 1797) [] [] [.int v345.1] (kb := 75) kd75 rfl rfl (c_X9_undo hI kd75 hv345) hAw q_cw_yX9_undo q_ml_RL_230 ⟨q_im_yX9_undo, q_se_yX9_undo⟩ ⟨⟨Nat.le_of_ble_eq_true rfl, Nat.le_of_ble_eq_true rfl⟩, ⟨by show _ ≤ 601024; omega, by show _ ≤ 7293033; omega⟩, Nat.le_of_ble_eq_true rfl⟩ rfl rfl rfl dL_law_1797 ?_
      refine Y_istore C (pc := 1800) (lv' := [(6, .int v345.1), (5, .int v344.1), (0, .ref b), (1, .ref (ρ 0)), (2, .ref (ρ 75)), (3, .ref (ρ 96)), (4, .int s1.1)]) (by decide) rfl dL_law_1800 ?_
      refine Y_aload_n C (pc := 1802) 2 4 rfl rfl dL_law_1802 ?_
      obtain ⟨v346, hv346, h⟩ := Option.bind_eq_some_iff.mp h
      refine Y_callV C (pc := 1803) [] [] [.int v346] (kb := 75) kd75 rfl rfl (c_X9_thrown kd75 hv346) (fun _ h => h.elim) q_cw_yX9_thrown q_ml_RL_94 ⟨q_im_yX9_thrown, q_se_yX9_thrown⟩ ⟨⟨Nat.le_of_ble_eq_true rfl, Nat.le_of_ble_eq_true rfl⟩, ⟨by show _ ≤ 601024; omega, by show _ ≤ 7293033; omega⟩, Nat.le_of_ble_eq_true rfl⟩ rfl rfl rfl dL_law_1803 ?_
      refine Y_iload C (pc := 1806) 1 rfl dL_law_1806 ?_
      refine Y_icmp_eq C (pc := 1808) (tgt := 1813) dL_law_1808 (by decide) (fun c347 => ?_) (fun c347 => ?_)
      · rw [if_pos c347] at h
        refine Y_iload C (pc := 1813) 1 rfl dL_law_1813 ?_
        refine Y_if_ne C (pc := 1815) (tgt := 1830) dL_law_1815 (by decide) (fun c348 => ?_) (fun c348 => ?_)
        · rw [if_neg c348] at h
          exact Y_sub [2, 3, 4, 5, 6] rfl (hJ1830 _ _ h)
        · rw [if_pos c348] at h
          refine Y_aload_n C (pc := 1818) 3 5 rfl rfl dL_law_1818 ?_
          refine Y_iconst C (pc := 1819) (v := (0 : Int32)) (by decide) dL_law_1819 ?_
          obtain ⟨v351, hv351, h⟩ := Option.bind_eq_some_iff.mp h
          refine Y_lald C (pc := 1820) (by decide +kernel) hv351 dL_law_1820 ?_
          refine Y_iload C (pc := 1821) 0 rfl dL_law_1821 ?_
          refine Y_i2l C (pc := 1823) dL_law_1823 ?_
          refine Y_lcmp C (pc := 1824) dL_law_1824 ?_
          refine Y_if_eq C (pc := 1825) (tgt := 1830) dL_law_1825 (by decide) (fun c352 => ?_) (fun c352 => ?_)
          · rw [if_pos c352] at h
            exact Y_sub [2, 3, 4, 5, 6] rfl (hJ1830 _ _ h)
          · rw [if_neg c352] at h
            exact absurd (hE _ (Option.some.inj h).symm) (by decide)
      · rw [if_neg c347] at h
        exact absurd (hE _ (Option.some.inj h).symm) (by decide)
    rw [if_neg w37] at h
    by_cases w38 : (v3 &&& (63 : Int32)) = (38 : Int32)
    · rw [if_pos w38] at h
      refine Y_tableIn C (pc := 39) dL_law_39 (by rw [w38]; decide) (by rw [w38]; decide) (off := 1794) (tgt := 1833) (by rw [w38]; rfl) (by decide) ?_
      refine Y_aload_n C (pc := 1833) 1 1 rfl rfl dL_law_1833 ?_
      obtain ⟨v353, hv353, h⟩ := Option.bind_eq_some_iff.mp h
      refine Y_callV C (pc := 1834) [] [] [.long v353.1] (kb := 0) kd0 rfl rfl (c_X8_checksum hI kd0 hv353) hAw q_cw_yX8_checksum q_ml_RL_231 ⟨q_im_yX8_checksum, q_se_yX8_checksum⟩ ⟨⟨Nat.le_of_ble_eq_true rfl, Nat.le_of_ble_eq_true rfl⟩, ⟨by show _ ≤ 601024; omega, by show _ ≤ 7293033; omega⟩, Nat.le_of_ble_eq_true rfl⟩ rfl rfl rfl dL_law_1834 ?_
      refine Y_aload_n C (pc := 1837) 2 2 rfl rfl dL_law_1837 ?_
      obtain ⟨v354, hv354, h⟩ := Option.bind_eq_some_iff.mp h
      refine Y_callV C (pc := 1838) [] [.long v353.1] [.long v354.1, .long v353.1] (kb := 75) kd75 rfl rfl (c_X9_checksum hI kd75 hv354) hAw q_cw_yX9_checksum q_ml_RL_235 ⟨q_im_yX9_checksum, q_se_yX9_checksum⟩ ⟨⟨Nat.le_of_ble_eq_true rfl, Nat.le_of_ble_eq_true rfl⟩, ⟨by show _ ≤ 601024; omega, by show _ ≤ 7293033; omega⟩, Nat.le_of_ble_eq_true rfl⟩ rfl rfl rfl dL_law_1838 ?_
      refine Y_lcmp C (pc := 1841) dL_law_1841 ?_
      refine Y_if_eq C (pc := 1842) (tgt := 1847) dL_law_1842 (by decide) (fun c355 => ?_) (fun c355 => ?_)
      · rw [if_pos c355] at h
        exact Y_widen (Nat.le_add_right _ 1) (Nat.le_add_right _ 6) (Y_sub [0, 1, 2, 3, 4] rfl (hJ1847 _ _ h))
      · rw [if_neg c355] at h
        exact absurd (hE _ (Option.some.inj h).symm) (by decide)
    rw [if_neg w38] at h
    have n0 : Int32.toInt (v3 &&& (63 : Int32)) ≠ 0 := fun q => w0 (Int32.toInt_inj.mp (q.trans (by decide)))
    have n1 : Int32.toInt (v3 &&& (63 : Int32)) ≠ 1 := fun q => w1 (Int32.toInt_inj.mp (q.trans (by decide)))
    have n2 : Int32.toInt (v3 &&& (63 : Int32)) ≠ 2 := fun q => w2 (Int32.toInt_inj.mp (q.trans (by decide)))
    have n3 : Int32.toInt (v3 &&& (63 : Int32)) ≠ 3 := fun q => w3 (Int32.toInt_inj.mp (q.trans (by decide)))
    have n4 : Int32.toInt (v3 &&& (63 : Int32)) ≠ 4 := fun q => w4 (Int32.toInt_inj.mp (q.trans (by decide)))
    have n5 : Int32.toInt (v3 &&& (63 : Int32)) ≠ 5 := fun q => w5 (Int32.toInt_inj.mp (q.trans (by decide)))
    have n6 : Int32.toInt (v3 &&& (63 : Int32)) ≠ 6 := fun q => w6 (Int32.toInt_inj.mp (q.trans (by decide)))
    have n7 : Int32.toInt (v3 &&& (63 : Int32)) ≠ 7 := fun q => w7 (Int32.toInt_inj.mp (q.trans (by decide)))
    have n8 : Int32.toInt (v3 &&& (63 : Int32)) ≠ 8 := fun q => w8 (Int32.toInt_inj.mp (q.trans (by decide)))
    have n9 : Int32.toInt (v3 &&& (63 : Int32)) ≠ 9 := fun q => w9 (Int32.toInt_inj.mp (q.trans (by decide)))
    have n10 : Int32.toInt (v3 &&& (63 : Int32)) ≠ 10 := fun q => w10 (Int32.toInt_inj.mp (q.trans (by decide)))
    have n11 : Int32.toInt (v3 &&& (63 : Int32)) ≠ 11 := fun q => w11 (Int32.toInt_inj.mp (q.trans (by decide)))
    have n12 : Int32.toInt (v3 &&& (63 : Int32)) ≠ 12 := fun q => w12 (Int32.toInt_inj.mp (q.trans (by decide)))
    have n13 : Int32.toInt (v3 &&& (63 : Int32)) ≠ 13 := fun q => w13 (Int32.toInt_inj.mp (q.trans (by decide)))
    have n14 : Int32.toInt (v3 &&& (63 : Int32)) ≠ 14 := fun q => w14 (Int32.toInt_inj.mp (q.trans (by decide)))
    have n15 : Int32.toInt (v3 &&& (63 : Int32)) ≠ 15 := fun q => w15 (Int32.toInt_inj.mp (q.trans (by decide)))
    have n16 : Int32.toInt (v3 &&& (63 : Int32)) ≠ 16 := fun q => w16 (Int32.toInt_inj.mp (q.trans (by decide)))
    have n17 : Int32.toInt (v3 &&& (63 : Int32)) ≠ 17 := fun q => w17 (Int32.toInt_inj.mp (q.trans (by decide)))
    have n18 : Int32.toInt (v3 &&& (63 : Int32)) ≠ 18 := fun q => w18 (Int32.toInt_inj.mp (q.trans (by decide)))
    have n19 : Int32.toInt (v3 &&& (63 : Int32)) ≠ 19 := fun q => w19 (Int32.toInt_inj.mp (q.trans (by decide)))
    have n20 : Int32.toInt (v3 &&& (63 : Int32)) ≠ 20 := fun q => w20 (Int32.toInt_inj.mp (q.trans (by decide)))
    have n21 : Int32.toInt (v3 &&& (63 : Int32)) ≠ 21 := fun q => w21 (Int32.toInt_inj.mp (q.trans (by decide)))
    have n22 : Int32.toInt (v3 &&& (63 : Int32)) ≠ 22 := fun q => w22 (Int32.toInt_inj.mp (q.trans (by decide)))
    have n23 : Int32.toInt (v3 &&& (63 : Int32)) ≠ 23 := fun q => w23 (Int32.toInt_inj.mp (q.trans (by decide)))
    have n24 : Int32.toInt (v3 &&& (63 : Int32)) ≠ 24 := fun q => w24 (Int32.toInt_inj.mp (q.trans (by decide)))
    have n25 : Int32.toInt (v3 &&& (63 : Int32)) ≠ 25 := fun q => w25 (Int32.toInt_inj.mp (q.trans (by decide)))
    have n26 : Int32.toInt (v3 &&& (63 : Int32)) ≠ 26 := fun q => w26 (Int32.toInt_inj.mp (q.trans (by decide)))
    have n27 : Int32.toInt (v3 &&& (63 : Int32)) ≠ 27 := fun q => w27 (Int32.toInt_inj.mp (q.trans (by decide)))
    have n28 : Int32.toInt (v3 &&& (63 : Int32)) ≠ 28 := fun q => w28 (Int32.toInt_inj.mp (q.trans (by decide)))
    have n29 : Int32.toInt (v3 &&& (63 : Int32)) ≠ 29 := fun q => w29 (Int32.toInt_inj.mp (q.trans (by decide)))
    have n30 : Int32.toInt (v3 &&& (63 : Int32)) ≠ 30 := fun q => w30 (Int32.toInt_inj.mp (q.trans (by decide)))
    have n31 : Int32.toInt (v3 &&& (63 : Int32)) ≠ 31 := fun q => w31 (Int32.toInt_inj.mp (q.trans (by decide)))
    have n32 : Int32.toInt (v3 &&& (63 : Int32)) ≠ 32 := fun q => w32 (Int32.toInt_inj.mp (q.trans (by decide)))
    have n33 : Int32.toInt (v3 &&& (63 : Int32)) ≠ 33 := fun q => w33 (Int32.toInt_inj.mp (q.trans (by decide)))
    have n34 : Int32.toInt (v3 &&& (63 : Int32)) ≠ 34 := fun q => w34 (Int32.toInt_inj.mp (q.trans (by decide)))
    have n35 : Int32.toInt (v3 &&& (63 : Int32)) ≠ 35 := fun q => w35 (Int32.toInt_inj.mp (q.trans (by decide)))
    have n36 : Int32.toInt (v3 &&& (63 : Int32)) ≠ 36 := fun q => w36 (Int32.toInt_inj.mp (q.trans (by decide)))
    have n37 : Int32.toInt (v3 &&& (63 : Int32)) ≠ 37 := fun q => w37 (Int32.toInt_inj.mp (q.trans (by decide)))
    have n38 : Int32.toInt (v3 &&& (63 : Int32)) ≠ 38 := fun q => w38 (Int32.toInt_inj.mp (q.trans (by decide)))
    refine Y_tableOut C (pc := 39) dL_law_39 (by omega) (tgt := 1847) (by decide) ?_
    exact Y_widen (Nat.le_add_right _ 1) (Nat.le_add_right _ 6) (Y_sub [0, 1, 2, 3, 4] rfl (hJ1847 _ _ h))
