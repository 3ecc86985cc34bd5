-- best first: the whole search
noncomputable def bStep (n : Nat) (s : Nat → Int32) (sy : Int32) (b : Nat × Nat × Nat × (Nat → Nat → Int32) × (Nat → Bool) × (Nat → Int32)) : Nat × Nat × Nat × (Nat → Nat → Int32) × (Nat → Bool) × (Nat → Int32) := (b.1 + cN n s (b.2.2.2.1 (bL n s b.2.2.2.1 b.2.2.2.2.1 b.1)) b.2.2.2.2.2 sy, b.2.1 - 1 + cN n s (b.2.2.2.1 (bL n s b.2.2.2.1 b.2.2.2.2.1 b.1)) b.2.2.2.2.2 sy, max b.2.2.1 (b.2.1 - 1 + cN n s (b.2.2.2.1 (bL n s b.2.2.2.1 b.2.2.2.2.1 b.1)) b.2.2.2.2.2 sy), nZ n s sy b.1 b.2.2.2.1 (b.2.2.2.1 (bL n s b.2.2.2.1 b.2.2.2.2.1 b.1)), nW b.1 (bL n s b.2.2.2.1 b.2.2.2.2.1 b.1) b.2.2.2.2.1, vsR n s (b.2.2.2.1 (bL n s b.2.2.2.1 b.2.2.2.2.1 b.1)) b.2.2.2.2.2)
noncomputable def bRun (n : Nat) (s : Nat → Int32) (sy : Int32) (X0 rs0 : Nat → Int32) : Nat → Nat × Nat × Nat × (Nat → Nat → Int32) × (Nat → Bool) × (Nat → Int32)
  | 0 => (1, 1, 1, fun _ => X0, fun _ => true, rs0)
  | t + 1 => bStep n s sy (bRun n s sy X0 rs0 t)
def BX (n : Nat) (t : Nat) (b : Nat × Nat × Nat × (Nat → Nat → Int32) × (Nat → Bool) × (Nat → Int32)) : Prop := BV n b.1 b.2.1 b.2.2.1 b.2.2.2.1 b.2.2.2.2.1 ∧ b.1 = b.2.1 + t ∧ ∃ w, w ≤ 1000000 ∧ b.2.2.2.2.2 0 = nI w ∧ (w = 1000000 → 0 < b.2.1)
theorem b_inv {n : Nat} {s X0 rs0 : Nat → Int32} {sy : Int32} (hg : Gd n s) (hX : Fx n X0) (h0 : rs0 0 = nI 1000000) : ∀ t, (∀ i, i < t → 0 < (bRun n s sy X0 rs0 i).2.1) → BX n t (bRun n s sy X0 rs0 t)
  | 0, _ => by
    have hn := hX.2.1
    have hm := frn_le (n := n) (X := X0)
    have h1 := fac_720 (frn n X0) (by omega)
    have h2 := (Sc_1 (frn n X0) (by omega)).2
    refine ⟨⟨fun _ _ => hX, ?_, rfl, ?_, Nat.le_refl _, by show 1 ≤ 720; omega⟩, rfl, 1000000, Nat.le_refl _, h0, fun _ => by show 0 < 1; omega⟩
    · show 0 + fac (frn n X0) ≤ 720
      omega
    · show 0 + Sc (frn n X0) + 1 ≤ 1957 + 1
      omega
  | t + 1, h => by
    obtain ⟨h1, h2, w, w1, w2, w3⟩ := b_inv hg hX h0 t (fun i hi => h i (by omega))
    have hk := h t (by omega)
    show BX n (t + 1) (bStep n s sy (bRun n s sy X0 rs0 t))
    generalize bRun n s sy X0 rs0 t = b at *
    obtain ⟨A, k, g, Z, W, rs⟩ := b
    dsimp only at h1 h2 w2 w3 hk
    obtain ⟨hl, hV⟩ := b_step (s := s) (rs := rs) (sy := sy) h1 hk
    unfold bStep BX
    dsimp only
    have hXi := h1.1 _ hl.1
    generalize bL n s Z W A = i at *
    refine ⟨hV, by omega, ?_⟩
    obtain ⟨v, v1, v2⟩ := bd_lt hg hXi
    by_cases c : vsG n s (Z i) rs = true
    · have hc := vsG_free c
      refine ⟨w, w1, by rw [vsR_0, if_neg (fun z => hc z.2), w2], fun _ => ?_⟩
      have := kids_1 (s := s) (sy := sy) hXi hc
      unfold cN
      rw [if_pos c]
      omega
    · by_cases q : bdS n s (Z i) < rs 0
      · by_cases e : cnt (frf (Z i)) n = 0
        · exact ⟨v, by omega, by rw [vsR_0, if_pos ⟨q, e⟩, v2], fun z => by omega⟩
        · refine absurd ?_ c
          unfold vsG isL
          rw [decide_eq_true q, decide_eq_false e]
          rfl
      · refine ⟨w, w1, by rw [vsR_0, if_neg (fun z => q z.1), w2], fun z => ?_⟩
        refine absurd ?_ q
        rw [v2, w2]
        exact nI_lt (by omega) (by omega)
theorem b_end {n : Nat} {s X0 rs0 : Nat → Int32} {sy : Int32} (hg : Gd n s) (hX : Fx n X0) (h0 : rs0 0 = nI 1000000) : ∃ T, T ≤ 1957 ∧ (bRun n s sy X0 rs0 T).2.1 = 0 ∧ ∀ t, t < T → 0 < (bRun n s sy X0 rs0 t).2.1 := by
  rcases lst (P := fun t => 0 < (bRun n s sy X0 rs0 t).2.1) 1958 with h | ⟨T, h1, h2, h3⟩
  · obtain ⟨q1, q2, _⟩ := b_inv hg hX h0 1957 (fun i hi => h i (by omega))
    have := (BV_k q1).2
    have := h 1957 (by omega)
    omega
  · exact ⟨T, by omega, by omega, h3⟩
theorem J_best {σ : Sg} {τ : Tg} (H : Iv σ) (i2 : Int32) (h2 : i2 = 0 ∨ i2 = 1) : JS (f_X8_search σ τ 0 1 i2) (fun σ => f_X9_search σ 75 1 i2) := by
  obtain ⟨s, c, h, T0, tx, md, rs, hG, hC, hM⟩ := H
  obtain ⟨n, hg⟩ := hG.1
  have hX := hg.fx
  have hn := hX.2.1
  have hc0 := CI_n hC hg
  have hz : rz 0 = nI 1000000 := zl_1000000
  obtain ⟨T, t1, t2, t3⟩ := b_end (n := n) (s := s) (X0 := vS s 115) (rs0 := rz) (sy := i2) hg hX hz
  have hinv := fun t ht => b_inv (n := n) (s := s) (X0 := vS s 115) (rs0 := rz) (sy := i2) hg hX hz t ht
  obtain ⟨vT, _, w, w1, w2, w3⟩ := hinv T t3
  have hf : ¬ (bRun n s i2 (vS s 115) rz T).2.2.2.2.2 0 = 1000000 := by
    rw [w2, zl_1000000]
    intro z
    have := (nI_eq (by omega) (by omega)).mp z
    have := w3 this
    omega
  -- the class
  obtain ⟨σa, a1, a2, a3, ⟨a4, a5, a6, a7, a8⟩, a9, a10, a11⟩ := c_begin (i2 := 1) (i3 := i2) (Or.inr rfl) h2 hc0
  have aX : ∀ i, i < 6 → σa 70 i = vS s 115 i := fun i hi => by rw [a11 i hi, c_fxv hC.1.2.1 i hi]
  have aF : Fq σ σa := fun q hq => a2 q (fun z => by simp only [List.mem_cons, List.not_mem_nil, or_false] at z; omega)
  obtain ⟨h', τ', σ', j1, j2, j3, j4, j5, j6, j7, j8⟩ := c_admit1 (σ := σa) (τ := τ) (N := 0) (a := 0) (g0 := 0) (h := fun _ => 0) (s := s) (by rw [snap_fr (σ := σ) (fun d hd => aF _ (by omega))]; exact hC.1.2.1) hg hX aX a6 (by rw [a8]; exact zl_0) (by omega) (by rw [a9]; exact zl_0) (by rw [a10]; exact zl_0) (by omega) (by omega) ⟨fun i _ hi => absurd hi (by omega), fun i hi => absurd hi (by omega)⟩
  have h0c : cB n s i2 σ 1 1 1 (fun _ => vS s 115) (fun _ => true) rz σ' τ' := by
    refine ⟨h', fun q hq => by rw [j2 q (fun z => by simp only [List.mem_cons, List.not_mem_nil, or_false] at z; omega)]; exact aF q hq, ?_, j5, j6, j4, j7, fun v => ?_, by rw [j3 0 (by omega), a4], by rw [j3 8 (by omega), a5], by rw [j3 9 (by omega), a6], by rw [j3 10 (by omega), a7]⟩
    · obtain ⟨r0, r1, r2, r3, r4, r5⟩ := a3
      exact ⟨by rw [j3 3 (by omega)]; exact r0, fun z => by rw [j3 4 (by omega)]; exact r1 z, by rw [j3 1 (by omega)]; exact r2, by rw [j3 5 (by omega)]; exact r3, by rw [j3 6 (by omega)]; exact r4, fun j hj => by rw [j2.at (by decide)]; exact r5 j hj⟩
    · have := j8 v
      rw [this]
      rfl
  obtain ⟨e, b1, b2⟩ := lo_tc (f := f_X5_make_L15 57 1) (fun t st => st.1 = nI t ∧ cB n s i2 σ (bRun n s i2 (vS s 115) rz t).1 (bRun n s i2 (vS s 115) rz t).2.1 (bRun n s i2 (vS s 115) rz t).2.2.1 (bRun n s i2 (vS s 115) rz t).2.2.2.1 (bRun n s i2 (vS s 115) rz t).2.2.2.2.1 (bRun n s i2 (vS s 115) rz t).2.2.2.2.2 st.2.1 st.2.2) T (fun e => cB n s i2 σ (bRun n s i2 (vS s 115) rz T).1 (bRun n s i2 (vS s 115) rz T).2.1 (bRun n s i2 (vS s 115) rz T).2.2.1 (bRun n s i2 (vS s 115) rz T).2.2.2.1 (bRun n s i2 (vS s 115) rz T).2.2.2.2.1 (bRun n s i2 (vS s 115) rz T).2.2.2.2.2 e.1 e.2) (fun t st ht ⟨p1, p2⟩ => by
    obtain ⟨t', σ', τ'⟩ := st
    dsimp only at p1 p2
    subst p1
    obtain ⟨σ2, τ2, q1, q2⟩ := c_bstep (t := t) hC.1.2.1 hg hC.1.1 (hinv t (fun i hi => t3 i (by omega))).1 (t3 t ht) (by omega) p2
    exact ⟨_, q1, rfl, q2⟩) (fun st ⟨p1, p2⟩ => by
    obtain ⟨t', σ', τ'⟩ := st
    dsimp only at p1 p2
    subst p1
    refine ⟨(σ', τ'), ?_, p2⟩
    obtain ⟨_, _, _, p3, _⟩ := p2
    unfold f_X5_make_L15
    dsimp only
    rw [zl_1957]
    by_cases q : 1957 ≤ T
    · rw [if_pos (nI_le q (by omega))]
    · rw [if_neg (nI_ge (by omega) (by omega)), show 57 + 2 = 59 from rfl, if_pos (show σ' 59 0 ≤ (0 : Int32) by rw [p3, t2, zl_0]; exact nI_le (Nat.le_refl 0) (by omega))]) (s := (0, σ', τ')) ⟨zl_0, h0c⟩
  obtain ⟨σe, τe⟩ := e
  obtain ⟨hh, k1, k2, k3, k4, k5, k6, k7, k8, k9, k10, k11⟩ := b2
  dsimp only at k1 k2 k3 k4 k8 k9
  generalize hσ1 : si σe 57 7 (σe 59 1) = σ1
  have F1 : Fq σ σ1 := fun q hq => by rw [← hσ1, si_oth (by omega)]; exact k1 q hq
  have R1 : RC σ1 (bRun n s i2 (vS s 115) rz T).2.2.2.2.2 := by
    obtain ⟨r0, r1, r2, r3, r4, r5⟩ := k2
    rw [← hσ1]
    exact ⟨by rw [si_miss (by omega)]; exact r0, fun z => by rw [si_miss (by omega)]; exact r1 z, by rw [si_miss (by omega)]; exact r2, by rw [si_miss (by omega)]; exact r3, by rw [si_miss (by omega)]; exact r4, fun j hj => by rw [si_oth (by omega)]; exact r5 j hj⟩
  have hC1 := CI_FC (md' := true) (rs' := rsF n (nI (bRun n s i2 (vS s 115) rz T).2.2.1) (bRun n s i2 (vS s 115) rz T).2.2.2.2.2) hC F1 (FC_of R1 hf (by rw [← hσ1, si_miss (by omega), k8]) (by rw [← hσ1, si_hit, k4]) (by rw [← hσ1, si_miss (by omega), k9]))
  have hM1 := MI_Fq hM F1
  -- the model
  obtain ⟨σb, m1, m2, m3, m4, m5, m6, m7, m8, m9⟩ := m_start (σ := σ1) (i1 := 1) (i2 := i2) hM1.1.1 hg
  have b76 : σb 76 = σ1 76 := m2.at (by decide)
  have hsb : EqS (σb 76) s := by rw [b76]; exact hM1.1.1
  obtain ⟨σc0, madd, n1, n2, n3⟩ := m_adds1 (σ := σb) (N := 0) (n := n) (s := s) (X := vS s 115) hsb hg hX m9 m4 (by omega)
  rw [(bdV_ok hg hX).1] at madd
  generalize hσc : si (pushM σc0 0 n (vS s 115) (nI (bdV n s (vS s 115)))) 91 5 1 = σc
  have h0m : mB σb n s 1 1 (fun _ => vS s 115) (fun _ => true) rz σc := by
    rw [← hσc]
    unfold pushM
    refine ⟨?_, fun q hq => ?_, ?_, ?_, fun i hi => ?_, ?_, ?_⟩
    · exact (((((Fr.rf.tr n1 (by decide)).si (by decide)).si (by decide)).si (by decide)).si (by decide)).si (by decide)
    · rw [si_oth (by omega), si_miss hq, si_oth (by omega), si_oth (by omega), si_oth (by omega), n1.at (by decide)]
    · obtain ⟨r0, r1, r2, r3, r4, r5⟩ := m6
      have e91 : ∀ q, q ≠ 5 → si (si (si (si (si σc0 88 0 (nI (bdV n s (vS s 115)))) 89 0 (nI (n - cnt (frf (vS s 115)) n))) 90 0 1) 75 19 (nI (0 + 1))) 91 5 1 91 q = σb 91 q := fun q hq => by rw [si_miss hq, si_oth (by omega), si_oth (by omega), si_oth (by omega), si_oth (by omega), n1.at (by decide)]
      exact ⟨by rw [e91 0 (by omega)]; exact r0, fun z => by rw [e91 1 (by omega)]; exact r1 z, by rw [e91 2 (by omega)]; exact r2, by rw [e91 3 (by omega)]; exact r3, by rw [e91 4 (by omega)]; exact r4, fun j hj => by rw [si_oth (by omega), si_oth (by omega), si_oth (by omega), si_oth (by omega), si_oth (by omega), n1.at (by decide)]; exact r5 j hj⟩
    · rw [si_oth (by omega), si_hit]
    · have h1 : i = 0 := by omega
      subst h1
      refine ⟨fun j hj => ?_, ?_, ?_, ?_⟩
      · rw [si_oth (by omega), si_oth (by omega), si_oth (by omega), si_oth (by omega), si_oth (by omega)]
        exact n2 j hj
      · rw [si_oth (by omega), si_oth (by omega), si_oth (by omega), si_oth (by omega), si_hit]
      · rw [si_oth (by omega), si_oth (by omega), si_oth (by omega), si_hit]
        rfl
      · rw [si_oth (by omega), si_oth (by omega), si_hit, if_pos rfl]
    · exact si_hit
    · rw [si_miss (by omega), si_oth (by omega), si_oth (by omega), si_oth (by omega), si_oth (by omega), n1.at (by decide)]
  obtain ⟨e2, d1, d2⟩ := lo_tc (f := f_X9_searchesBest_L14 75 i2) (fun t st => st.1 = nI (bRun n s i2 (vS s 115) rz t).2.1 ∧ mB σb n s (bRun n s i2 (vS s 115) rz t).1 (bRun n s i2 (vS s 115) rz t).2.2.1 (bRun n s i2 (vS s 115) rz t).2.2.2.1 (bRun n s i2 (vS s 115) rz t).2.2.2.2.1 (bRun n s i2 (vS s 115) rz t).2.2.2.2.2 st.2) T (fun e => mB σb n s (bRun n s i2 (vS s 115) rz T).1 (bRun n s i2 (vS s 115) rz T).2.2.1 (bRun n s i2 (vS s 115) rz T).2.2.2.1 (bRun n s i2 (vS s 115) rz T).2.2.2.2.1 (bRun n s i2 (vS s 115) rz T).2.2.2.2.2 e) (fun t st ht ⟨p1, p2⟩ => by
    obtain ⟨k', σ'⟩ := st
    dsimp only at p1 p2
    subst p1
    obtain ⟨σ2, q1, q2⟩ := m_bstep (sy := i2) hsb hg m5 (hinv t (fun i hi => t3 i (by omega))).1 (t3 t ht) p2
    exact ⟨_, q1, rfl, q2⟩) (fun st ⟨p1, p2⟩ => by
    obtain ⟨k', σ'⟩ := st
    dsimp only at p1 p2
    subst p1
    refine ⟨σ', ?_, p2⟩
    unfold f_X9_searchesBest_L14
    dsimp only
    rw [t2, zl_0, if_pos (nI_le (Nat.le_refl 0) (by omega))]) (s := (1, σc)) ⟨rfl, h0m⟩
  obtain ⟨x1, x2, x3, x4, x5, x6, x7⟩ := d2
  have hM2 := MI_FM (σ := σ1) (σ' := e2) (md' := true) (rs' := rsF n (nI (bRun n s i2 (vS s 115) rz T).2.2.1) (bRun n s i2 (vS s 115) rz T).2.2.2.2.2) hM1 (fun q hq => by
    rw [x1 q (fun z => by unfold WM at z; simp only [List.mem_cons, List.not_mem_nil, or_false] at z; omega), m2 q (fun z => by simp only [List.mem_cons, List.not_mem_nil, or_false] at z; omega)]) (by rw [x2 3 (by omega), m3 3 (by omega) (by omega)]) (by rw [x2 5 (by omega), m3 5 (by omega) (by omega)]) (FM_of x3 hf x6 (by rw [x7, m8]) (by omega))
  have hC2 := CI_eq hC1 (σ' := e2) (fun q hq => by
    have hk := of_decide_eq_true hq
    rw [x1 q (fun z => by unfold WM at z; simp only [List.mem_cons, List.not_mem_nil, or_false] at z; omega), m2 q (fun z => by simp only [List.mem_cons, List.not_mem_nil, or_false] at z; omega)])
  refine ⟨(bRun n s i2 (vS s 115) rz T).2.2.2.2.2 2, σ1, τe, si e2 75 6 0, ?_, ?_, Iv_75 (Iv_of hG hC2 hM2) (by decide) (by decide)⟩
  · unfold f_X8_search f_X5_make
    rw [show 0 + 57 = 57 from rfl, show 0 + 1 = 1 from rfl, a1]
    simp only [obs]
    rw [j1]
    simp only [obs]
    rw [b1]
    simp only [obs]
    rw [show 57 + 2 = 59 from rfl, hσ1, R1.2.2.1]
  · dsimp only
    rw [m1, if_neg (by decide)]
    unfold f_X9_searchesBest
    rw [madd]
    simp only [obs]
    rw [show 75 + 16 = 91 from rfl, zl_5, s_91 (by omega)]
    simp only [obs]
    rw [hσc, d1]
    simp only [obs]
    unfold f_X9_search_J79
    rw [show 75 + 16 = 91 from rfl, zl_2, a_91 (by omega)]
    simp only [obs]
    rw [x3.2.2.1]
    rfl
theorem J_search {σ : Sg} {τ : Tg} (H : Iv σ) (i1 i2 : Int32) (h1 : i1 = 0 ∨ i1 = 1) (h2 : i2 = 0 ∨ i2 = 1) : JS (f_X8_search σ τ 0 i1 i2) (fun σ => f_X9_search σ 75 i1 i2) := by
  rcases h1 with e | e
  · subst e
    exact J_deep H i2 h2
  · subst e
    exact J_best H i2 h2
