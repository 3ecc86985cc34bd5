-- depth first: both loops follow one course
noncomputable def dStep (n : Nat) (s : Nat → Int32) (sy : Int32) (d : Nat × (Nat → Nat → Int32) × (Nat → Int32)) : Nat × (Nat → Nat → Int32) × (Nat → Int32) := if vsG n s (d.2.1 (d.1 - 1)) d.2.2 = true then (d.1 - 1 + (chP n s (d.2.1 (d.1 - 1)) sy).1, (fun i => if i < d.1 - 1 then d.2.1 i else kid n s (d.2.1 (d.1 - 1)) sy ((chP n s (d.2.1 (d.1 - 1)) sy).1 - 1 - (i - (d.1 - 1)))), vsR n s (d.2.1 (d.1 - 1)) d.2.2) else (d.1 - 1, d.2.1, vsR n s (d.2.1 (d.1 - 1)) d.2.2)
noncomputable def dRun (n : Nat) (s : Nat → Int32) (sy : Int32) (X0 rs0 : Nat → Int32) : Nat → Nat × (Nat → Nat → Int32) × (Nat → Int32)
  | 0 => (1, fun _ => X0, rs0)
  | t + 1 => dStep n s sy (dRun n s sy X0 rs0 t)
def sN (f : Nat → Nat) : Nat → Nat
  | 0 => 0
  | N + 1 => sN f N + f N
theorem sN_cong {f g : Nat → Nat} : ∀ N, (∀ i, i < N → f i = g i) → sN f N = sN g N
  | 0, _ => rfl
  | N + 1, h => by
    unfold sN
    rw [sN_cong N (fun i hi => h i (by omega)), h N (by omega)]
theorem sN_add {f : Nat → Nat} {N : Nat} : ∀ M, sN f (N + M) = sN f N + sN (fun i => f (N + i)) M
  | 0 => rfl
  | M + 1 => by
    show sN f (N + M) + f (N + M) = _
    rw [sN_add M]
    show _ = sN f N + (sN (fun i => f (N + i)) M + f (N + M))
    omega
theorem sN_le {f : Nat → Nat} {v : Nat} : ∀ N, (∀ i, i < N → f i ≤ v) → sN f N ≤ N * v
  | 0, _ => by show 0 ≤ _; omega
  | N + 1, h => by
    have h1 := sN_le N (fun i hi => h i (by omega))
    have h2 := h N (by omega)
    show sN f N + f N ≤ (N + 1) * v
    rw [Nat.add_mul, Nat.one_mul]
    omega
theorem sN_ge {f : Nat → Nat} : ∀ N, (∀ i, i < N → 1 ≤ f i) → N ≤ sN f N
  | 0, _ => Nat.zero_le _
  | N + 1, h => by
    have h1 := sN_ge N (fun i hi => h i (by omega))
    have h2 := h N (by omega)
    show N + 1 ≤ sN f N + f N
    omega
def Sc : Nat → Nat
  | 0 => 1
  | m + 1 => 1 + (m + 1) * Sc m
def frn (n : Nat) (X : Nat → Int32) : Nat := cnt (frf X) n
def DI (n : Nat) (d : Nat × (Nat → Nat → Int32) × (Nat → Int32)) : Prop := (∀ i, i < d.1 → Fx n (d.2.1 i)) ∧ sN (fun i => fac (frn n (d.2.1 i))) d.1 ≤ 720
def muD (n : Nat) (d : Nat × (Nat → Nat → Int32) × (Nat → Int32)) : Nat := sN (fun i => Sc (frn n (d.2.1 i))) d.1
theorem fac_s : ∀ m, m < 7 → 1 ≤ m → m * fac (m - 1) ≤ fac m := by decide +kernel
theorem fac_1 : ∀ m, m < 7 → 1 ≤ fac m := by decide +kernel
theorem Sc_s : ∀ m, m < 7 → 1 ≤ m → 1 + m * Sc (m - 1) = Sc m := by decide +kernel
theorem Sc_1 : ∀ m, m < 7 → 1 ≤ Sc m ∧ Sc m ≤ 1957 := by decide +kernel
theorem frn_le {n : Nat} {X : Nat → Int32} : frn n X ≤ n := cnt_le n
theorem vsG_free {n : Nat} {s X rs : Nat → Int32} (h : vsG n s X rs = true) : ¬ cnt (frf X) n = 0 := by
  unfold vsG isL at h
  intro z
  rw [decide_eq_true z, Bool.not_true, Bool.and_false] at h
  cases h
theorem d_step {n : Nat} {s : Nat → Int32} {sy : Int32} {d : Nat × (Nat → Nat → Int32) × (Nat → Int32)} (hd : DI n d) (hN : 0 < d.1) : DI n (dStep n s sy d) ∧ muD n (dStep n s sy d) + 1 ≤ muD n d := by
  obtain ⟨N, Z, rs⟩ := d
  obtain ⟨h1, h2⟩ := hd
  dsimp only at h1 h2 hN
  obtain ⟨M, rfl⟩ : ∃ M, N = M + 1 := ⟨N - 1, by omega⟩
  have hX := h1 M (by omega)
  have hn := hX.2.1
  have hm := frn_le (n := n) (X := Z M)
  unfold dStep
  dsimp only
  rw [Nat.add_sub_cancel]
  by_cases c : vsG n s (Z M) rs = true
  · rw [if_pos c]
    have hc := vsG_free c
    have hC := chP_cnt (s := s) (sy := sy) hX
    have hk : ∀ i, i < (chP n s (Z M) sy).1 → _ := fun i hi => kid_ok (s := s) (sy := sy) hX hc hi
    generalize (chP n s (Z M) sy).1 = C at *
    have hm1 : 1 ≤ frn n (Z M) := by unfold frn; omega
    have key : ∀ (g : Nat → Nat), sN (fun i => g (frn n (if i < M then Z i else kid n s (Z M) sy (C - 1 - (i - M))))) (M + C) ≤ sN (fun i => g (frn n (Z i))) M + frn n (Z M) * g (frn n (Z M) - 1) := fun g => by
      rw [sN_add]
      have a : sN (fun i => g (frn n (if i < M then Z i else kid n s (Z M) sy (C - 1 - (i - M))))) M = sN (fun i => g (frn n (Z i))) M := sN_cong M (fun i hi => by rw [if_pos hi])
      have b := sN_le (f := fun i => g (frn n (if M + i < M then Z (M + i) else kid n s (Z M) sy (C - 1 - (M + i - M))))) (v := g (frn n (Z M) - 1)) C (fun i hi => by
        have q := (hk (C - 1 - (M + i - M)) (by omega)).2
        rw [if_neg (by omega)]
        have e : frn n (kid n s (Z M) sy (C - 1 - (M + i - M))) = frn n (Z M) - 1 := by unfold frn; omega
        rw [e]
        exact Nat.le_refl _)
      have e : C * g (frn n (Z M) - 1) ≤ frn n (Z M) * g (frn n (Z M) - 1) := Nat.mul_le_mul_right _ hC
      omega
    refine ⟨⟨fun i hi => ?_, ?_⟩, ?_⟩
    · dsimp only at hi ⊢
      by_cases q : i < M
      · rw [if_pos q]
        exact h1 i (by omega)
      · rw [if_neg q]
        exact (hk _ (by omega)).1
    · have k1 := key fac
      have k2 := fac_s (frn n (Z M)) (by omega) hm1
      have k3 : sN (fun i => fac (frn n (Z i))) (M + 1) = sN (fun i => fac (frn n (Z i))) M + fac (frn n (Z M)) := rfl
      dsimp only
      omega
    · have k1 := key Sc
      have k2 := Sc_s (frn n (Z M)) (by omega) hm1
      have k3 : sN (fun i => Sc (frn n (Z i))) (M + 1) = sN (fun i => Sc (frn n (Z i))) M + Sc (frn n (Z M)) := rfl
      unfold muD
      dsimp only
      omega
  · rw [if_neg c]
    have k3 : sN (fun i => Sc (frn n (Z i))) (M + 1) = sN (fun i => Sc (frn n (Z i))) M + Sc (frn n (Z M)) := rfl
    have k4 : sN (fun i => fac (frn n (Z i))) (M + 1) = sN (fun i => fac (frn n (Z i))) M + fac (frn n (Z M)) := rfl
    have k5 := (Sc_1 (frn n (Z M)) (by omega)).1
    refine ⟨⟨fun i hi => h1 i (by dsimp only at hi; omega), ?_⟩, ?_⟩
    · dsimp only
      omega
    · unfold muD
      dsimp only
      omega
theorem d_inv {n : Nat} {s X0 rs0 : Nat → Int32} {sy : Int32} (hX : Fx n X0) : ∀ t, (∀ i, i < t → 0 < (dRun n s sy X0 rs0 i).1) → DI n (dRun n s sy X0 rs0 t) ∧ muD n (dRun n s sy X0 rs0 t) + t ≤ 1957
  | 0, _ => by
    have hn := hX.2.1
    have hm := frn_le (n := n) (X := X0)
    refine ⟨⟨fun _ _ => hX, ?_⟩, ?_⟩
    · show 0 + fac (frn n X0) ≤ 720
      have := fac_720 (frn n X0) (by omega)
      omega
    · show 0 + Sc (frn n X0) + 0 ≤ 1957
      have := (Sc_1 (frn n X0) (by omega)).2
      omega
  | t + 1, h => by
    obtain ⟨h1, h2⟩ := d_inv hX t (fun i hi => h i (by omega))
    obtain ⟨h3, h4⟩ := d_step (s := s) (sy := sy) h1 (h t (by omega))
    exact ⟨h3, by show muD n (dStep n s sy (dRun n s sy X0 rs0 t)) + (t + 1) ≤ 1957; omega⟩
theorem d_end {n : Nat} {s X0 rs0 : Nat → Int32} {sy : Int32} (hX : Fx n X0) : ∃ T, T ≤ 1957 ∧ (dRun n s sy X0 rs0 T).1 = 0 ∧ ∀ t, t < T → 0 < (dRun n s sy X0 rs0 t).1 := by
  rcases lst (P := fun t => 0 < (dRun n s sy X0 rs0 t).1) 1958 with h | ⟨T, h1, h2, h3⟩
  · have := (d_inv (s := s) (rs0 := rs0) (sy := sy) hX 1958 h).2
    omega
  · exact ⟨T, by omega, by omega, h3⟩
theorem mxN {p : Nat} (h : p < 2147483648) : mx (0 : Int32) (nI p) = nI p := by
  unfold mx
  rw [zl_0]
  by_cases c : p = 0
  · rw [c, if_neg (nI_nlt (Nat.le_refl 0) (by omega))]
  · rw [if_pos (nI_lt (by omega) h)]
def Fq (σ σ' : Sg) : Prop := ∀ q, (q < 57 ∨ 71 < q) → σ' q = σ q
/-- the class's part of the course -/
def cD (n : Nat) (sy : Int32) (σ0 : Sg) (d : Nat × (Nat → Nat → Int32) × (Nat → Int32)) (σ : Sg) (τ : Tg) : Prop := Fq σ0 σ ∧ RC σ d.2.2 ∧ σ 59 0 = nI d.1 ∧ (∀ i, i < d.1 → τ 60 i = lN (pkN (d.2.1 i) 6)) ∧ σ 57 0 = 1 ∧ σ 57 8 = nI n ∧ σ 57 9 = 0 ∧ σ 57 10 = sy ∧ σ 59 1 = 0
theorem RC_eq {σ σ' : Sg} {rs : Nat → Int32} (h : RC σ rs) (h1 : σ' 57 = σ 57) (h2 : σ' 58 = σ 58) : RC σ' rs := by
  unfold RC
  rw [h1, h2]
  exact h
theorem c_deep {σ0 σ : Sg} {τ : Tg} {n t : Nat} {s : Nat → Int32} {sy : Int32} {d : Nat × (Nat → Nat → Int32) × (Nat → Int32)} (hs : EqS (snap σ0 1) s) (hg : Gd n s) (h97 : σ0 97 = fct) (hd : DI n d) (hN : 0 < d.1) (ht : t < 1957) (hD : cD n sy σ0 d σ τ) : ∃ σ' τ', f_X5_make_L15 57 1 (nI t, σ, τ) = some (.inl (nI (t + 1), σ', τ')) ∧ cD n sy σ0 (dStep n s sy d) σ' τ' := by
  have hd' := (d_step (s := s) (sy := sy) hd hN).1
  obtain ⟨N, Z, rs⟩ := d
  obtain ⟨c1, c2, c3, c4, c5, c6, c7, c8, c9⟩ := hD
  obtain ⟨h1, h2⟩ := hd
  unfold dStep at hd' ⊢
  dsimp only at h1 h2 hN c2 c3 c4 hd' ⊢
  obtain ⟨M, rfl⟩ : ∃ M, N = M + 1 := ⟨N - 1, by omega⟩
  rw [Nat.add_sub_cancel] at hd' ⊢
  have hN2 : M + 1 ≤ 720 := by
    have := sN_ge (f := fun i => fac (frn n (Z i))) (M + 1) (fun i hi => fac_1 _ (by have := frn_le (n := n) (X := Z i); have := hg.2.1; omega))
    omega
  have hX := h1 M (by omega)
  have hn := hX.2.1
  have e60 := c4 M (by omega)
  have hlt := pkN_lt hX.sml 6 (Nat.le_refl 6)
  obtain ⟨σa, hσa⟩ : ∃ σa, wo (si σ 59 0 (nI M)) 70 0 6 (Z M) = σa := ⟨_, rfl⟩
  have fa : ∀ q, q ≠ 59 → q ≠ 70 → σa q = σ q := fun q q1 q2 => by rw [← hσa, wo_oth q2, si_oth q1]
  have hsn : ∀ {σ' : Sg}, Fq σ0 σ' → EqS (snap σ' 1) s := fun {σ'} h => by rw [snap_fr (σ := σ0) (fun d hd => h _ (by omega))]; exact hs
  have Fa : Fq σ0 σa := fun q hq => by rw [fa q (by omega) (by omega)]; exact c1 q hq
  obtain ⟨σb, b1, b2, b3, b4, b5⟩ := c_visit (σ := σa) (rs := rs) (hsn Fa) hg hX (fun i hi => by rw [← hσa, wo_in0 hi]) (by rw [Fa 97 (by omega), h97]) (RC_eq c2 (fa 57 (by omega) (by omega)) (fa 58 (by omega) (by omega)))
  have Fb' : Fq σ0 σb := fun q hq => by rw [b4 q (fun z => by simp only [List.mem_cons, List.not_mem_nil, or_false] at z; omega)]; exact Fa q hq
  have b57 : ∀ q, q ∉ [1, 3, 4, 5, 6] → σb 57 q = σ 57 q := fun q hq => by rw [b5 q hq, fa 57 (by omega) (by omega)]
  have b59 : σb 59 = si σ 59 0 (nI M) 59 := by rw [b4.at (by decide), ← hσa, wo_oth (by omega)]
  unfold f_X5_make_L15
  dsimp only
  rw [zl_1957, if_neg (nI_ge ht (by omega)), show 57 + 2 = 59 from rfl, if_neg (show ¬ σ 59 0 ≤ (0 : Int32) by rw [c3, zl_0]; exact nI_ge (by omega) (by omega)), if_pos c7]
  unfold f_X3_takeLast
  rw [c3, isub1 (by omega), Nat.add_sub_cancel, mxN (by omega), si_hit, c_node (by omega)]
  simp only [obs]
  unfold f_X5_make_J58
  rw [e60, c_unpack hX.sml (by rw [Nat.mod_eq_of_lt hlt]) (by omega)]
  simp only [obs]
  rw [hσa, b1]
  simp only [obs]
  by_cases c : vsG n s (Z M) rs = true
  · rw [if_pos c, if_neg (by decide), if_pos c]
    have hc := vsG_free c
    obtain ⟨σc, k1, k2, k3⟩ := c_kids (σ := σb) (τ := τ) (sy := sy) (hsn Fb') hg hX (fun i hi => by rw [b4.at (by decide), ← hσa, wo_in0 hi]) b3 hc (by rw [b57 10 (by decide)]; exact c8)
    have hCN : M + (chP n s (Z M) sy).1 ≤ 720 := by
      rw [if_pos c] at hd'
      have h3 := hd'.2
      have h4 := hd'.1
      dsimp only at h3 h4
      have := sN_ge (f := fun i => fac (frn n (if i < M then Z i else kid n s (Z M) sy ((chP n s (Z M) sy).1 - 1 - (i - M))))) (M + (chP n s (Z M) sy).1) (fun i hi => fac_1 _ (by have := frn_le (n := n) (X := if i < M then Z i else kid n s (Z M) sy ((chP n s (Z M) sy).1 - 1 - (i - M))); omega))
      omega
    obtain ⟨σd, τd, p1, p2, p3, p4, p5, p6⟩ := c_push0 (σ := σc) (τ := τ) (n := n) (N := M) (s := s) (X := Z M) (sy := sy) (by rw [k2.at (by decide), b57 9 (by decide)]; exact c7) hX hc (fun i hi => by rw [k2.at (by decide), b4.at (by decide), ← hσa, wo_in0 hi]) (by rw [k2.at (by decide), b59, si_hit]) hCN k3
    rw [k1, p1]
    simp only [obs]
    unfold f_X5_make_J74
    have Fd : Fq σ0 σd := fun q hq => by rw [p2 q (fun z => by simp only [List.mem_cons, List.not_mem_nil, or_false] at z; omega), k2 q (fun z => by simp only [List.mem_cons, List.not_mem_nil, or_false] at z; omega)]; exact Fb' q hq
    have d57 : σd 57 = σb 57 := by rw [p2.at (by decide), k2.at (by decide)]
    have d58 : σd 58 = σb 58 := by rw [p2.at (by decide), k2.at (by decide)]
    refine ⟨σd, τd, by rw [nI_s], Fd, RC_eq b2 d57 d58, p3, fun i hi => ?_, by rw [d57, b57 0 (by decide), c5], by rw [d57, b57 8 (by decide), c6], by rw [d57, b57 9 (by decide), c7], by rw [d57, b57 10 (by decide), c8], by rw [p4 1 (by omega), k2.at (by decide), b59, si_miss (by omega), c9]⟩
    dsimp only at hi ⊢
    by_cases q : i < M
    · rw [if_pos q, p5 i q]
      exact c4 i (by omega)
    · have := p6 (i - M) (by omega)
      rw [show M + (i - M) = i by omega] at this
      rw [if_neg q, this]
  · rw [if_neg c, if_pos rfl, if_neg c]
    unfold f_X5_make_J74
    exact ⟨σb, τ, by rw [nI_s], Fb', b2, by rw [b59, si_hit], fun i hi => c4 i (by dsimp only at hi; omega), by rw [b57 0 (by decide), c5], by rw [b57 8 (by decide), c6], by rw [b57 9 (by decide), c7], by rw [b57 10 (by decide), c8], by rw [b59, si_miss (by omega), c9]⟩
def WM : List Nat := [75, 80, 81, 82, 83, 84, 85, 87, 88, 89, 90, 91, 92, 93, 94]
/-- the model's part of the course -/
def mD (σ0 : Sg) (d : Nat × (Nat → Nat → Int32) × (Nat → Int32)) (σ : Sg) : Prop := Fr WM σ0 σ ∧ (∀ q, q ≠ 19 → σ 75 q = σ0 75 q) ∧ RM σ d.2.2 ∧ σ 75 19 = nI d.1 ∧ (∀ i, i < d.1 → ∀ j, j < 6 → σ 87 (6 * i + j) = d.2.1 i j) ∧ ∀ q, 5 ≤ q → σ 91 q = σ0 91 q
theorem RM_eq {σ σ' : Sg} {rs : Nat → Int32} (h : RM σ rs) (h1 : σ' 91 = σ 91) (h2 : σ' 92 = σ 92) : RM σ' rs := by
  unfold RM
  rw [h1, h2]
  exact h
theorem m_looksAt {σ : Sg} {i : Nat} (h : i < 2000) : f_X9_looksAt σ 75 (nI i) = some (wo σ 81 0 6 (fun j => σ 87 (6 * i + j))) := by
  unfold f_X9_looksAt
  rw [lo_wo (z := 0) (k := 81) (o := 0) (n := 6) (v := fun j => σ 87 (6 * i + j)) (fun j hj => by
    unfold f_X9_looksAt_L2
    simp (disch := omega) only [if_true, if_false, obs, Option.bind_none, Sum.elim_inl, Sum.elim_inr, Option.elim, Nat.reduceAdd, Nat.add_zero, Nat.zero_add, ile, igt, ilt, inl, ieq, ine, iq10, i1z, im1, im11, iml, imle, inm, nI_1, nI_add, isub1, isb, iaddm, pk_mul, si_hit, si_miss, si_oth, wo_oth, zl_0, zl_2, zl_3, zl_4, zl_5, zl_6, zl_7, zl_9, zl_10, zl_32, zl_35, zl_36, zl_48, zl_57, zl_59, zl_60, zl_61, zl_62, zl_63, zl_64, zl_65, zl_99, zl_100, zl_102, zl_109, zl_110, zl_115, zl_116, zl_119, zl_120, zl_121, zl_126, zl_605, zl_720, zl_1957, zl_1000000, a_2, a_3, a_4, a_5, a_6, a_46, a_47, a_55, a_56, a_58, a_68, a_69, a_70, a_73, a_74, a_76, a_77, a_78, a_79, a_80, a_81, a_82, a_83, a_84, a_85, a_86, a_87, a_88, a_89, a_90, a_91, a_92, a_93, a_94, a_95, s_2, s_3, s_4, s_5, s_6, s_46, s_47, s_55, s_56, s_58, s_68, s_69, s_70, s_73, s_74, s_76, s_77, s_78, s_79, s_80, s_81, s_82, s_83, s_84, s_85, s_86, s_87, s_88, s_89, s_90, s_91, s_92, s_93, s_94, s_95, it_5, it_6, it_46, it_47, it_50, it_53, it_55, it_56, it_58, it_63, it_66, it_68, it_69, it_70, it_71, it_74, it_97, se_5, se_6, se_46, se_47, se_50, se_53, se_55, se_56, se_58, se_63, se_66, se_68, se_69, se_70, se_71, se_74, se_97, at_2, at_3, at_4, at_49, at_51, at_52, at_62, at_64, at_65, pu_2, pu_3, pu_4, pu_49, pu_51, pu_52, pu_62, pu_64, pu_65]
    rw [wo_s0 rfl]) (by
    unfold f_X9_looksAt_L2
    simp (disch := omega) only [if_true, if_false, obs, Option.bind_none, Sum.elim_inl, Sum.elim_inr, Option.elim, Nat.reduceAdd, Nat.add_zero, Nat.zero_add, ile, igt, ilt, inl, ieq, ine, iq10, i1z, im1, im11, iml, imle, inm, nI_1, nI_add, isub1, isb, iaddm, pk_mul, si_hit, si_miss, si_oth, wo_oth, zl_0, zl_2, zl_3, zl_4, zl_5, zl_6, zl_7, zl_9, zl_10, zl_32, zl_35, zl_36, zl_48, zl_57, zl_59, zl_60, zl_61, zl_62, zl_63, zl_64, zl_65, zl_99, zl_100, zl_102, zl_109, zl_110, zl_115, zl_116, zl_119, zl_120, zl_121, zl_126, zl_605, zl_720, zl_1957, zl_1000000, a_2, a_3, a_4, a_5, a_6, a_46, a_47, a_55, a_56, a_58, a_68, a_69, a_70, a_73, a_74, a_76, a_77, a_78, a_79, a_80, a_81, a_82, a_83, a_84, a_85, a_86, a_87, a_88, a_89, a_90, a_91, a_92, a_93, a_94, a_95, s_2, s_3, s_4, s_5, s_6, s_46, s_47, s_55, s_56, s_58, s_68, s_69, s_70, s_73, s_74, s_76, s_77, s_78, s_79, s_80, s_81, s_82, s_83, s_84, s_85, s_86, s_87, s_88, s_89, s_90, s_91, s_92, s_93, s_94, s_95, it_5, it_6, it_46, it_47, it_50, it_53, it_55, it_56, it_58, it_63, it_66, it_68, it_69, it_70, it_71, it_74, it_97, se_5, se_6, se_46, se_47, se_50, se_53, se_55, se_56, se_58, se_63, se_66, se_68, se_69, se_70, se_71, se_74, se_97, at_2, at_3, at_4, at_49, at_51, at_52, at_62, at_64, at_65, pu_2, pu_3, pu_4, pu_49, pu_51, pu_52, pu_62, pu_64, pu_65]) zl_0]
  rfl
theorem m_deep {σ0 σ : Sg} {n : Nat} {s : Nat → Int32} {sy : Int32} {d : Nat × (Nat → Nat → Int32) × (Nat → Int32)} (hs : EqS (σ0 76) s) (hg : Gd n s) (hL : LYs n s σ0) (hd : DI n d) (hN : 0 < d.1) (hD : mD σ0 d σ) : ∃ σ', f_X9_searchesDeep_L5 75 sy σ = some (.inl σ') ∧ mD σ0 (dStep n s sy d) σ' := by
  have hd' := (d_step (s := s) (sy := sy) hd hN).1
  obtain ⟨N, Z, rs⟩ := d
  obtain ⟨c1, c2, c3, c4, c5, c6⟩ := hD
  obtain ⟨h1, h2⟩ := hd
  unfold dStep at hd' ⊢
  dsimp only at h1 h2 hN c3 c4 c5 hd' ⊢
  obtain ⟨M, rfl⟩ : ∃ M, N = M + 1 := ⟨N - 1, by omega⟩
  rw [Nat.add_sub_cancel] at hd' ⊢
  have hN2 : M + 1 ≤ 720 := by
    have := sN_ge (f := fun i => fac (frn n (Z i))) (M + 1) (fun i hi => fac_1 _ (by have := frn_le (n := n) (X := Z i); have := hg.2.1; omega))
    omega
  have hX := h1 M (by omega)
  have hn := hX.2.1
  obtain ⟨σa, hσa⟩ : ∃ σa, wo (si σ 75 19 (nI M)) 81 0 6 (fun j => si σ 75 19 (nI M) 87 (6 * M + j)) = σa := ⟨_, rfl⟩
  have fa : ∀ q, q ≠ 75 → q ≠ 81 → σa q = σ q := fun q q1 q2 => by rw [← hσa, wo_oth q2, si_oth q1]
  have a75 : ∀ q, q ≠ 19 → σa 75 q = σ0 75 q := fun q hq => by rw [← hσa, wo_oth (by omega), si_miss hq, c2 q hq]
  have a19 : σa 75 19 = nI M := by rw [← hσa, wo_oth (by omega), si_hit]
  have a81 : ∀ i, i < 6 → σa 81 i = Z M i := fun i hi => by rw [← hσa, wo_in0 hi, si_oth (by omega), c5 M (by omega) i hi]
  have hs76 : ∀ {σ' : Sg}, σ' 76 = σ0 76 → EqS (σ' 76) s := fun {σ'} h => by rw [h]; exact hs
  have a76 : σa 76 = σ0 76 := by rw [fa 76 (by omega) (by omega), c1.at (by decide)]
  obtain ⟨σb, b1, b2⟩ := m_boundOf (σ := σa) (hs76 a76) hg hX a81
  obtain ⟨σc, d1, d2, d3, d4⟩ := m_counts (σ := σb) (rs := rs) (hs76 (by rw [b2.at (by decide), a76])) hg hX (fun i hi => by rw [b2.at (by decide)]; exact a81 i hi) (RM_eq c3 (by rw [b2.at (by decide), fa 91 (by omega) (by omega)]) (by rw [b2.at (by decide), fa 92 (by omega) (by omega)]))
  have fc : Fr [80, 82, 83, 84, 85, 91, 92] σa σc := fun q hq => by
    simp only [List.mem_cons, List.not_mem_nil, or_false] at hq
    rw [d3 q (fun z => by simp only [List.mem_cons, List.not_mem_nil, or_false] at z; omega), b2 q (fun z => by simp only [List.mem_cons, List.not_mem_nil, or_false] at z; omega)]
  have Fa : Fr WM σ0 σa := by rw [← hσa]; exact wo_fr (c1.si (by decide)) (by decide)
  have Fc : Fr WM σ0 σc := Fa.tr fc (by decide)
  have c91 : ∀ q, 5 ≤ q → σc 91 q = σ0 91 q := fun q hq => by rw [d4 q hq, b2.at (by decide), fa 91 (by omega) (by omega)]; exact c6 q hq
  have c75 : ∀ q, q ≠ 19 → σc 75 q = σ0 75 q := fun q hq => by rw [fc.at (by decide)]; exact a75 q hq
  unfold f_X9_searchesDeep_L5
  rw [c4, zl_0, if_neg (nI_ge (by omega) (by omega)), isub1 (by omega), Nat.add_sub_cancel, si_hit, m_looksAt (by omega)]
  simp only [obs]
  rw [hσa, b1]
  simp only [obs]
  rw [d1]
  simp only [obs]
  by_cases c : vsG n s (Z M) rs = true
  · rw [if_pos c, if_neg (by decide), if_pos c]
    have hc := vsG_free c
    have hCN : M + (chP n s (Z M) sy).1 ≤ 720 := by
      rw [if_pos c] at hd'
      have h3 := hd'.2
      have h4 := hd'.1
      dsimp only at h3 h4
      have := sN_ge (f := fun i => fac (frn n (if i < M then Z i else kid n s (Z M) sy ((chP n s (Z M) sy).1 - 1 - (i - M))))) (M + (chP n s (Z M) sy).1) (fun i hi => fac_1 _ (by have := frn_le (n := n) (X := if i < M then Z i else kid n s (Z M) sy ((chP n s (Z M) sy).1 - 1 - (i - M))); omega))
      omega
    obtain ⟨σd, p1, p2, p3, p4, p5, p6⟩ := m_push0 (σ := σc) (n := n) (N := M) (s := s) (X := Z M) (sy := sy) (hs76 (Fc.at (by decide))) hg hX (fun i hi => by rw [fc.at (by decide)]; exact a81 i hi) (by unfold LYs; rw [c75 14 (by omega), Fc.at (by decide)]; exact hL) hc (by rw [fc.at (by decide)]; exact a19) hCN
    rw [p1]
    simp only [obs]
    refine ⟨σd, rfl, Fc.tr p2 (by decide), fun q hq => by rw [p3 q hq]; exact c75 q hq, RM_eq d2 (p2.at (by decide)) (p2.at (by decide)), p4, fun i hi j hj => ?_, fun q hq => by rw [p2.at (by decide)]; exact c91 q hq⟩
    dsimp only at hi ⊢
    by_cases q : i < M
    · rw [if_pos q, p5 _ (by omega), fc.at (by decide), fa 87 (by omega) (by omega)]
      exact c5 i (by omega) j hj
    · have := p6 (i - M) (by omega) j hj
      rw [show M + (i - M) = i by omega] at this
      rw [if_neg q, this]
  · rw [if_neg c, if_pos zl_0, if_neg c]
    exact ⟨σc, rfl, Fc, c75, d2, by rw [fc.at (by decide)]; exact a19, fun i hi j hj => by dsimp only at hi; rw [fc.at (by decide), fa 87 (by omega) (by omega)]; exact c5 i (by omega) j hj, c91⟩
