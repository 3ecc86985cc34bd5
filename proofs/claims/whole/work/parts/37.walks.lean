-- calls that go through all assignments
theorem nI_m1b {l : Nat} (h : l < 2147483648) : ¬ nI l = -1 := by
  intro e
  have h1 := nI_toInt (n := l) (by omega)
  rw [e] at h1
  have h2 : (-1 : Int32).toInt = -1 := by decide
  omega
theorem co_ne {n t : Nat} {s : Nat → Int32} (hg : Gd n s) (ht : t < fac n) : ¬ coQ n (tS s 1) (tS s 37) (tS s 73) t = -1 := by
  obtain ⟨c, h1, h2⟩ := coQ_ne (t := t) hg.2.1 hg.2.2.2.1.1 hg.2.2.2.1.2.1 hg.2.2.2.1.2.2 ht
  rw [h2]
  exact nI_m1b (by omega)
theorem Ld_s {σ σ' : Sg} {s : Nat → Int32} {n : Nat} (hs : EqS (snap σ 1) s) (h : Ld σ n (fac n) σ') : Fr [45, 46, 47] σ σ' ∧ σ' 45 0 = cnQ n (vS s 115) (fac n) ∧ σ' 45 1 = suQ n (tS s 1) (tS s 37) (tS s 73) (vS s 115) (fac n) ∧ σ' 45 2 = lsQ n (tS s 1) (tS s 37) (tS s 73) (vS s 115) (fac n) := by
  obtain ⟨f1, f2, f3, f4, f5, f6, f7⟩ := h
  rw [rc_F hs, rc_D hs, rc_C hs, rc_X hs] at f5 f6
  rw [rc_X hs] at f4
  exact ⟨f1, f4, f5, f6⟩
theorem J_within {σ : Sg} (H : Iv σ) (lim : Int32) : JB (f_X8_within σ 0 lim) (fun σ => f_X9_within σ 75 lim) := by
  have H' := H
  obtain ⟨s, c, h, T, tx, md, rs, hG, hC, hM⟩ := H'
  obtain ⟨n, hg⟩ := hG.1
  have hc0 := CI_n hC hg
  obtain ⟨σ1, q1, q2⟩ := load0_ok hC.1.1 hc0 hg.1 hg.2.1
  have hF := q2.1
  have hM1 := MI_fr hM hF (by decide)
  obtain ⟨σ2, r1, r2⟩ := m_within (σ := σ1) (MI_n hM1 hg) hg.1 hg.2.1 lim
  have hs := hC.1.2.1
  have e1 := countUpTo_ok (lim := lim) hg.2.1 q2 (fun t ht => by rw [rc_F hs, rc_D hs, rc_C hs]; exact co_ne hg ht)
  rw [rc_F hs, rc_D hs, rc_C hs, rc_X hs] at e1
  rw [rm_t hM1.1.1 (by omega), rm_t hM1.1.1 (by omega), rm_t hM1.1.1 (by omega), rm_v hM1.1.1 (by omega)] at r1
  refine ⟨_, σ1, _, ?_, r1, Iv_75 (Iv_fr (Iv_fr H hF (by decide) (by decide)) r2 (by decide) (by decide)) (by decide) (by decide)⟩
  unfold f_X8_within
  simp (disch := omega) only [if_true, if_false, obs, Option.bind_none, Sum.elim_inl, Sum.elim_inr, Option.elim, Nat.reduceAdd, Nat.add_zero, Nat.zero_add, ile, igt, ilt, inl, ieq, ine, iq10, i1z, im1, im11, iml, imle, inm, nI_1, nI_add, isub1, isb, iaddm, pk_mul, si_hit, si_miss, si_oth, wo_oth, zl_0, zl_2, zl_3, zl_4, zl_5, zl_6, zl_7, zl_9, zl_10, zl_32, zl_35, zl_36, zl_48, zl_57, zl_59, zl_60, zl_61, zl_62, zl_63, zl_64, zl_65, zl_99, zl_100, zl_102, zl_109, zl_110, zl_115, zl_116, zl_119, zl_120, zl_121, zl_126, zl_605, zl_720, zl_1957, zl_1000000, a_2, a_3, a_4, a_5, a_6, a_46, a_47, a_55, a_56, a_58, a_68, a_69, a_70, a_73, a_74, a_76, a_77, a_78, a_79, a_80, a_81, a_82, a_83, a_84, a_85, a_86, a_87, a_88, a_89, a_90, a_91, a_92, a_93, a_94, a_95, s_2, s_3, s_4, s_5, s_6, s_46, s_47, s_55, s_56, s_58, s_68, s_69, s_70, s_73, s_74, s_76, s_77, s_78, s_79, s_80, s_81, s_82, s_83, s_84, s_85, s_86, s_87, s_88, s_89, s_90, s_91, s_92, s_93, s_94, s_95, it_5, it_6, it_46, it_47, it_50, it_53, it_55, it_56, it_58, it_63, it_66, it_68, it_69, it_70, it_71, it_74, it_97, se_5, se_6, se_46, se_47, se_50, se_53, se_55, se_56, se_58, se_63, se_66, se_68, se_69, se_70, se_71, se_74, se_97, at_2, at_3, at_4, at_49, at_51, at_52, at_62, at_64, at_65, pu_2, pu_3, pu_4, pu_49, pu_51, pu_52, pu_62, pu_64, pu_65, q1, e1]
theorem J_optimum {σ : Sg} (H : Iv σ) : JB (f_X8_optimum σ 0) (fun σ => f_X9_optimum σ 75) := by
  have H' := H
  obtain ⟨s, c, h, T, tx, md, rs, hG, hC, hM⟩ := H'
  obtain ⟨n, hg⟩ := hG.1
  have hc0 := CI_n hC hg
  obtain ⟨σ1, q1, q2⟩ := load0_ok hC.1.1 hc0 hg.1 hg.2.1
  have hF := q2.1
  have hM1 := MI_fr hM hF (by decide)
  obtain ⟨σ2, r1, r2⟩ := m_least (σ := σ1) (MI_n hM1 hg) hg.1 hg.2.1
  obtain ⟨-, -, -, e1⟩ := Ld_s hC.1.2.1 q2
  rw [rm_t hM1.1.1 (by omega), rm_t hM1.1.1 (by omega), rm_t hM1.1.1 (by omega), rm_v hM1.1.1 (by omega)] at r1
  refine ⟨lsQ n (tS s 1) (tS s 37) (tS s 73) (vS s 115) (fac n), σ1, si σ2 75 6 0, ?_, ?_, Iv_75 (Iv_fr (Iv_fr H hF (by decide) (by decide)) r2 (by decide) (by decide)) (by decide) (by decide)⟩
  · unfold f_X8_optimum
    simp (disch := omega) only [if_true, if_false, obs, Option.bind_none, Sum.elim_inl, Sum.elim_inr, Option.elim, Nat.reduceAdd, Nat.add_zero, Nat.zero_add, ile, igt, ilt, inl, ieq, ine, iq10, i1z, im1, im11, iml, imle, inm, nI_1, nI_add, isub1, isb, iaddm, pk_mul, si_hit, si_miss, si_oth, wo_oth, zl_0, zl_2, zl_3, zl_4, zl_5, zl_6, zl_7, zl_9, zl_10, zl_32, zl_35, zl_36, zl_48, zl_57, zl_59, zl_60, zl_61, zl_62, zl_63, zl_64, zl_65, zl_99, zl_100, zl_102, zl_109, zl_110, zl_115, zl_116, zl_119, zl_120, zl_121, zl_126, zl_605, zl_720, zl_1957, zl_1000000, a_2, a_3, a_4, a_5, a_6, a_46, a_47, a_55, a_56, a_58, a_68, a_69, a_70, a_73, a_74, a_76, a_77, a_78, a_79, a_80, a_81, a_82, a_83, a_84, a_85, a_86, a_87, a_88, a_89, a_90, a_91, a_92, a_93, a_94, a_95, s_2, s_3, s_4, s_5, s_6, s_46, s_47, s_55, s_56, s_58, s_68, s_69, s_70, s_73, s_74, s_76, s_77, s_78, s_79, s_80, s_81, s_82, s_83, s_84, s_85, s_86, s_87, s_88, s_89, s_90, s_91, s_92, s_93, s_94, s_95, it_5, it_6, it_46, it_47, it_50, it_53, it_55, it_56, it_58, it_63, it_66, it_68, it_69, it_70, it_71, it_74, it_97, se_5, se_6, se_46, se_47, se_50, se_53, se_55, se_56, se_58, se_63, se_66, se_68, se_69, se_70, se_71, se_74, se_97, at_2, at_3, at_4, at_49, at_51, at_52, at_62, at_64, at_65, pu_2, pu_3, pu_4, pu_49, pu_51, pu_52, pu_62, pu_64, pu_65, q1, e1]
  · show f_X9_optimum σ1 75 = _
    unfold f_X9_optimum
    simp (disch := omega) only [if_true, if_false, obs, Option.bind_none, Sum.elim_inl, Sum.elim_inr, Option.elim, Nat.reduceAdd, Nat.add_zero, Nat.zero_add, ile, igt, ilt, inl, ieq, ine, iq10, i1z, im1, im11, iml, imle, inm, nI_1, nI_add, isub1, isb, iaddm, pk_mul, si_hit, si_miss, si_oth, wo_oth, zl_0, zl_2, zl_3, zl_4, zl_5, zl_6, zl_7, zl_9, zl_10, zl_32, zl_35, zl_36, zl_48, zl_57, zl_59, zl_60, zl_61, zl_62, zl_63, zl_64, zl_65, zl_99, zl_100, zl_102, zl_109, zl_110, zl_115, zl_116, zl_119, zl_120, zl_121, zl_126, zl_605, zl_720, zl_1957, zl_1000000, a_2, a_3, a_4, a_5, a_6, a_46, a_47, a_55, a_56, a_58, a_68, a_69, a_70, a_73, a_74, a_76, a_77, a_78, a_79, a_80, a_81, a_82, a_83, a_84, a_85, a_86, a_87, a_88, a_89, a_90, a_91, a_92, a_93, a_94, a_95, s_2, s_3, s_4, s_5, s_6, s_46, s_47, s_55, s_56, s_58, s_68, s_69, s_70, s_73, s_74, s_76, s_77, s_78, s_79, s_80, s_81, s_82, s_83, s_84, s_85, s_86, s_87, s_88, s_89, s_90, s_91, s_92, s_93, s_94, s_95, it_5, it_6, it_46, it_47, it_50, it_53, it_55, it_56, it_58, it_63, it_66, it_68, it_69, it_70, it_71, it_74, it_97, se_5, se_6, se_46, se_47, se_50, se_53, se_55, se_56, se_58, se_63, se_66, se_68, se_69, se_70, se_71, se_74, se_97, at_2, at_3, at_4, at_49, at_51, at_52, at_62, at_64, at_65, pu_2, pu_3, pu_4, pu_49, pu_51, pu_52, pu_62, pu_64, pu_65, r1, tells_ok]
theorem ls_ne {n : Nat} {s : Nat → Int32} (hg : Gd n s) : ¬ lsQ n (tS s 1) (tS s 37) (tS s 73) (vS s 115) (fac n) = -1 := by
  obtain ⟨c, h1, h2⟩ := lsQ_nI (X := vS s 115) hg.2.1 hg.2.2.2.1.1 hg.2.2.2.1.2.1 hg.2.2.2.1.2.2 (fac n) (Nat.le_refl _)
  rw [h2]
  exact nI_m1b (by omega)
theorem J_optimal {σ : Sg} (H : Iv σ) (k : Int32) : JB (f_X8_optimal σ 0 k) (fun σ => f_X9_optimal σ 75 k) := by
  have H' := H
  obtain ⟨s, c, h, T, tx, md, rs, hG, hC, hM⟩ := H'
  obtain ⟨n, hg⟩ := hG.1
  have hc0 := CI_n hC hg
  have hs := hC.1.2.1
  have hf := (fac_6 n (by have := hg.2.1; omega)).2
  obtain ⟨σ1, q1, q2⟩ := load0_ok hC.1.1 hc0 hg.1 hg.2.1
  have hF := q2.1
  have hM1 := MI_fr hM hF (by decide)
  have e1 := cheapestAt_ok (k := k) hg.2.1 q2 (by rw [rc_F hs, rc_D hs, rc_C hs, rc_X hs]; exact ls_ne hg)
  rw [rc_F hs, rc_D hs, rc_C hs, rc_X hs] at e1
  have ec : f_X8_optimal σ 0 k = some ((opQ n (tS s 1) (tS s 37) (tS s 73) (vS s 115) (lsQ n (tS s 1) (tS s 37) (tS s 73) (vS s 115) (fac n)) k (fac n)).2, σ1) := by
    unfold f_X8_optimal
    simp (disch := omega) only [if_true, if_false, obs, Option.bind_none, Sum.elim_inl, Sum.elim_inr, Option.elim, Nat.reduceAdd, Nat.add_zero, Nat.zero_add, ile, igt, ilt, inl, ieq, ine, iq10, i1z, im1, im11, iml, imle, inm, nI_1, nI_add, isub1, isb, iaddm, pk_mul, si_hit, si_miss, si_oth, wo_oth, zl_0, zl_2, zl_3, zl_4, zl_5, zl_6, zl_7, zl_9, zl_10, zl_32, zl_35, zl_36, zl_48, zl_57, zl_59, zl_60, zl_61, zl_62, zl_63, zl_64, zl_65, zl_99, zl_100, zl_102, zl_109, zl_110, zl_115, zl_116, zl_119, zl_120, zl_121, zl_126, zl_605, zl_720, zl_1957, zl_1000000, a_2, a_3, a_4, a_5, a_6, a_46, a_47, a_55, a_56, a_58, a_68, a_69, a_70, a_73, a_74, a_76, a_77, a_78, a_79, a_80, a_81, a_82, a_83, a_84, a_85, a_86, a_87, a_88, a_89, a_90, a_91, a_92, a_93, a_94, a_95, s_2, s_3, s_4, s_5, s_6, s_46, s_47, s_55, s_56, s_58, s_68, s_69, s_70, s_73, s_74, s_76, s_77, s_78, s_79, s_80, s_81, s_82, s_83, s_84, s_85, s_86, s_87, s_88, s_89, s_90, s_91, s_92, s_93, s_94, s_95, it_5, it_6, it_46, it_47, it_50, it_53, it_55, it_56, it_58, it_63, it_66, it_68, it_69, it_70, it_71, it_74, it_97, se_5, se_6, se_46, se_47, se_50, se_53, se_55, se_56, se_58, se_63, se_66, se_68, se_69, se_70, se_71, se_74, se_97, at_2, at_3, at_4, at_49, at_51, at_52, at_62, at_64, at_65, pu_2, pu_3, pu_4, pu_49, pu_51, pu_52, pu_62, pu_64, pu_65, q1, e1]
  by_cases hk : 0 ≤ k
  · obtain ⟨σ2, r1, r2⟩ := m_optimumAt (σ := σ1) (MI_n hM1 hg) hg.1 hg.2.1 k
    rw [rm_t hM1.1.1 (by omega), rm_t hM1.1.1 (by omega), rm_t hM1.1.1 (by omega), rm_v hM1.1.1 (by omega), if_pos hk] at r1
    refine ⟨_, σ1, si σ2 75 6 0, ec, ?_, Iv_75 (Iv_fr (Iv_fr H hF (by decide) (by decide)) r2 (by decide) (by decide)) (by decide) (by decide)⟩
    show f_X9_optimal σ1 75 k = _
    unfold f_X9_optimal f_X9_optimal_J14
    rw [if_pos hk, r1]
    rfl
  · refine ⟨_, σ1, si σ1 75 6 0, ec, ?_, Iv_75 (Iv_fr H hF (by decide) (by decide)) (by decide) (by decide)⟩
    show f_X9_optimal σ1 75 k = _
    unfold f_X9_optimal f_X9_optimal_J14
    rw [if_neg hk, op_neg (by grind) _ (by omega)]
    rfl
/-- below 0 the count goes on as for any other k that never comes -/
theorem op_cnt {n : Nat} {F D C : Nat → Nat → Int32} {X : Nat → Int32} {ls k : Int32} : ∀ T, (opQ n F D C X ls k T).1 = sm T fun t => if agQ n X t = true ∧ coQ n F D C t = ls then 1 else 0
  | 0 => rfl
  | T + 1 => by
    have ih := op_cnt (n := n) (F := F) (D := D) (C := C) (X := X) (ls := ls) (k := k) T
    simp only [opQ, sm]
    rw [← ih]
    split
    · rfl
    · rw [Int32.add_zero]
theorem wi_ls {n : Nat} {F D C : Nat → Nat → Int32} {X : Nat → Int32} : wiQ n F D C X (lsQ n F D C X (fac n)) (fac n) = sm (fac n) fun t => if agQ n X t = true ∧ coQ n F D C t = lsQ n F D C X (fac n) then 1 else 0 := by
  have key : ∀ T t, t < T → agQ n X t = true → lsQ n F D C X T ≤ coQ n F D C t := by
    intro T
    induction T with
    | zero => intro t ht; omega
    | succ T ih =>
      intro t ht ha
      unfold lsQ mn
      by_cases c : t = T
      · subst c
        rw [if_pos ha]
        split
        · grind
        · next h => grind
      · have := ih t (by omega) ha
        split
        · next h => grind
        · grind
  refine sm_cong fun t ht => ?_
  by_cases ha : agQ n X t = true
  · have h1 := key (fac n) t ht ha
    by_cases c : coQ n F D C t = lsQ n F D C X (fac n)
    · rw [if_pos ⟨ha, by grind⟩, if_pos ⟨ha, c⟩]
    · rw [if_neg (fun z => c (by grind)), if_neg (fun z => c z.2)]
  · rw [if_neg (fun z => ha z.1), if_neg (fun z => ha z.1)]
theorem J_optima {σ : Sg} (H : Iv σ) : JB (f_X8_optima σ 0) (fun σ => f_X9_optima σ 75) := by
  have H' := H
  obtain ⟨s, c, h, T, tx, md, rs, hG, hC, hM⟩ := H'
  obtain ⟨n, hg⟩ := hG.1
  have hc0 := CI_n hC hg
  have hs := hC.1.2.1
  obtain ⟨σ1, q1, q2⟩ := load0_ok hC.1.1 hc0 hg.1 hg.2.1
  have hF := q2.1
  have hM1 := MI_fr hM hF (by decide)
  obtain ⟨-, -, -, e2⟩ := Ld_s hC.1.2.1 q2
  have e1 := countUpTo_ok (lim := lsQ n (tS s 1) (tS s 37) (tS s 73) (vS s 115) (fac n)) hg.2.1 q2 (fun t ht => by rw [rc_F hs, rc_D hs, rc_C hs]; exact co_ne hg ht)
  rw [rc_F hs, rc_D hs, rc_C hs, rc_X hs] at e1
  obtain ⟨σ2, r1, r2⟩ := m_optimumAt (σ := σ1) (MI_n hM1 hg) hg.1 hg.2.1 (-1)
  rw [rm_t hM1.1.1 (by omega), rm_t hM1.1.1 (by omega), rm_t hM1.1.1 (by omega), rm_v hM1.1.1 (by omega), if_neg (by decide), op_cnt] at r1
  refine ⟨wiQ n (tS s 1) (tS s 37) (tS s 73) (vS s 115) (lsQ n (tS s 1) (tS s 37) (tS s 73) (vS s 115) (fac n)) (fac n), σ1, si σ2 75 6 0, ?_, ?_, Iv_75 (Iv_fr (Iv_fr H hF (by decide) (by decide)) r2 (by decide) (by decide)) (by decide) (by decide)⟩
  · unfold f_X8_optima
    simp (disch := omega) only [if_true, if_false, obs, Option.bind_none, Sum.elim_inl, Sum.elim_inr, Option.elim, Nat.reduceAdd, Nat.add_zero, Nat.zero_add, ile, igt, ilt, inl, ieq, ine, iq10, i1z, im1, im11, iml, imle, inm, nI_1, nI_add, isub1, isb, iaddm, pk_mul, si_hit, si_miss, si_oth, wo_oth, zl_0, zl_2, zl_3, zl_4, zl_5, zl_6, zl_7, zl_9, zl_10, zl_32, zl_35, zl_36, zl_48, zl_57, zl_59, zl_60, zl_61, zl_62, zl_63, zl_64, zl_65, zl_99, zl_100, zl_102, zl_109, zl_110, zl_115, zl_116, zl_119, zl_120, zl_121, zl_126, zl_605, zl_720, zl_1957, zl_1000000, a_2, a_3, a_4, a_5, a_6, a_46, a_47, a_55, a_56, a_58, a_68, a_69, a_70, a_73, a_74, a_76, a_77, a_78, a_79, a_80, a_81, a_82, a_83, a_84, a_85, a_86, a_87, a_88, a_89, a_90, a_91, a_92, a_93, a_94, a_95, s_2, s_3, s_4, s_5, s_6, s_46, s_47, s_55, s_56, s_58, s_68, s_69, s_70, s_73, s_74, s_76, s_77, s_78, s_79, s_80, s_81, s_82, s_83, s_84, s_85, s_86, s_87, s_88, s_89, s_90, s_91, s_92, s_93, s_94, s_95, it_5, it_6, it_46, it_47, it_50, it_53, it_55, it_56, it_58, it_63, it_66, it_68, it_69, it_70, it_71, it_74, it_97, se_5, se_6, se_46, se_47, se_50, se_53, se_55, se_56, se_58, se_63, se_66, se_68, se_69, se_70, se_71, se_74, se_97, at_2, at_3, at_4, at_49, at_51, at_52, at_62, at_64, at_65, pu_2, pu_3, pu_4, pu_49, pu_51, pu_52, pu_62, pu_64, pu_65, q1, e2, e1]
  · show f_X9_optima σ1 75 = _
    unfold f_X9_optima
    rw [r1, wi_ls]
    rfl
theorem J_localOptima {σ : Sg} (H : Iv σ) : JB (f_X8_localOptima σ 0) (fun σ => f_X9_localOptima σ 75) := by
  have H' := H
  obtain ⟨s, c, h, T, tx, md, rs, hG, hC, hM⟩ := H'
  obtain ⟨n, hg⟩ := hG.1
  have hc0 := CI_n hC hg
  have hs := hC.1.2.1
  obtain ⟨σ1, q1, hF⟩ := countLocal_ok hC.1.1 hc0 hg.1 hg.2.1
  have hM1 := MI_fr hM hF (by decide)
  obtain ⟨σ2, r1, r2⟩ := m_localOptima (σ := σ1) (MI_n hM1 hg) hg.1 hg.2.1
  rw [rc_F hs, rc_D hs, rc_C hs, rc_X hs] at q1
  rw [rm_t hM1.1.1 (by omega), rm_t hM1.1.1 (by omega), rm_t hM1.1.1 (by omega), rm_v hM1.1.1 (by omega)] at r1
  refine ⟨_, σ1, _, ?_, r1, Iv_75 (Iv_fr (Iv_fr H hF (by decide) (by decide)) r2 (by decide) (by decide)) (by decide) (by decide)⟩
  unfold f_X8_localOptima
  simp (disch := omega) only [if_true, if_false, obs, Option.bind_none, Sum.elim_inl, Sum.elim_inr, Option.elim, Nat.reduceAdd, Nat.add_zero, Nat.zero_add, ile, igt, ilt, inl, ieq, ine, iq10, i1z, im1, im11, iml, imle, inm, nI_1, nI_add, isub1, isb, iaddm, pk_mul, si_hit, si_miss, si_oth, wo_oth, zl_0, zl_2, zl_3, zl_4, zl_5, zl_6, zl_7, zl_9, zl_10, zl_32, zl_35, zl_36, zl_48, zl_57, zl_59, zl_60, zl_61, zl_62, zl_63, zl_64, zl_65, zl_99, zl_100, zl_102, zl_109, zl_110, zl_115, zl_116, zl_119, zl_120, zl_121, zl_126, zl_605, zl_720, zl_1957, zl_1000000, a_2, a_3, a_4, a_5, a_6, a_46, a_47, a_55, a_56, a_58, a_68, a_69, a_70, a_73, a_74, a_76, a_77, a_78, a_79, a_80, a_81, a_82, a_83, a_84, a_85, a_86, a_87, a_88, a_89, a_90, a_91, a_92, a_93, a_94, a_95, s_2, s_3, s_4, s_5, s_6, s_46, s_47, s_55, s_56, s_58, s_68, s_69, s_70, s_73, s_74, s_76, s_77, s_78, s_79, s_80, s_81, s_82, s_83, s_84, s_85, s_86, s_87, s_88, s_89, s_90, s_91, s_92, s_93, s_94, s_95, it_5, it_6, it_46, it_47, it_50, it_53, it_55, it_56, it_58, it_63, it_66, it_68, it_69, it_70, it_71, it_74, it_97, se_5, se_6, se_46, se_47, se_50, se_53, se_55, se_56, se_58, se_63, se_66, se_68, se_69, se_70, se_71, se_74, se_97, at_2, at_3, at_4, at_49, at_51, at_52, at_62, at_64, at_65, pu_2, pu_3, pu_4, pu_49, pu_51, pu_52, pu_62, pu_64, pu_65, q1]
theorem J_mean {σ : Sg} (H : Iv σ) (a : Int32) : JU 0 9 (f_X8_mean σ 0 a) (fun σ => f_X9_mean σ 75 a) := by
  have H' := H
  obtain ⟨s, c, h, T, tx, md, rs, hG, hC, hM⟩ := H'
  obtain ⟨n, hg⟩ := hG.1
  have hc0 := CI_n hC hg
  have hs := hC.1.2.1
  have hf := (fac_6 n (by have := hg.2.1; omega)).2
  rcases rng 1 (by omega) a with ha | ⟨w, hw, rfl⟩
  · refine Or.inr (Or.inl ⟨0, σ, si σ 75 6 1, ?_, ?_, si_hit, Iv_75 H (by decide) (by decide)⟩)
    · unfold f_X8_mean
      have n0 : ¬ a = 0 := fun e => by
        subst e
        rcases ha with z | z
        · exact absurd z (by decide)
        · exact absurd z (by decide)
      have n1 : ¬ a = 1 := fun e => by
        subst e
        rcases ha with z | z
        · exact absurd z (by decide)
        · exact absurd z (by decide)
      rw [if_neg n0, if_neg n1]
    · show f_X9_mean σ 75 a = _
      unfold f_X9_mean
      rw [show (0 : Int32) = nI 0 from rfl, show (1 : Int32) = nI 1 from rfl, in_no ha]
      rfl
  · obtain ⟨σ1, q1, q2⟩ := load0_ok hC.1.1 hc0 hg.1 hg.2.1
    have hF := q2.1
    have hM1 := MI_fr hM hF (by decide)
    obtain ⟨-, e2, e3, -⟩ := Ld_s hC.1.2.1 q2
    obtain ⟨u, u1, u2⟩ := suQ_nI (X := vS s 115) hg.2.1 hg.2.2.2.1.1 hg.2.2.2.1.2.1 hg.2.2.2.1.2.2 (fac n) (Nat.le_refl _)
    obtain ⟨v, v1, v2, v3⟩ := cnQ_nI (n := n) (X := vS s 115) (fac n)
    obtain ⟨t, ht, hat⟩ := hg.2.2.2.2.2.1
    have v0 := v3 t ht hat
    have u3 : u < 2 ^ 31 := by
      have := Nat.mul_le_mul_right 353430 hf.2
      omega
    have hgc : 0 < Nat.gcd u v := Nat.gcd_pos_of_pos_right _ v0
    have hgl : Nat.gcd u v ≤ v := Nat.gcd_le_right _ v0
    obtain ⟨σ2, p1, p2, -, p3⟩ := m_firsts (σ := σ1) hg.2.1
    obtain ⟨σ3, r1, r2⟩ := m_meanL (σ := σ1) (MI_n hM1 hg) hg.1 hg.2.1 p2 p3
    rw [rm_t hM1.1.1 (by omega), rm_t hM1.1.1 (by omega), rm_t hM1.1.1 (by omega), rm_v hM1.1.1 (by omega), u2, v2] at r1
    rw [v2] at e2
    rw [u2] at e3
    have hIv := Iv_75 (x := 0) (Iv_fr (Iv_fr H hF (by decide) (by decide)) r2 (by decide) (by decide)) (show 6 ≠ 3 by decide) (show 6 ≠ 5 by decide)
    have hc := c_divisor (a := u) (b := v) u3 (by omega)
    have hm := m_divisor v u u3 (by omega)
    rcases (show w = 0 ∨ w = 1 by omega) with rfl | rfl
    · refine Or.inl ⟨nI (u / Nat.gcd u v), σ1, si σ3 75 6 0, ?_, ?_, si_hit, hIv⟩
      · unfold f_X8_mean f_X8_mean_J19 f_X8_mean_J51
        rw [if_pos (show nI 0 = 0 from rfl)]
        simp (disch := omega) only [if_true, if_false, obs, Option.bind_none, Sum.elim_inl, Sum.elim_inr, Option.elim, Nat.reduceAdd, Nat.add_zero, Nat.zero_add, ile, igt, ilt, inl, ieq, ine, iq10, i1z, im1, im11, iml, imle, inm, nI_1, nI_add, isub1, isb, iaddm, pk_mul, si_hit, si_miss, si_oth, wo_oth, zl_0, zl_2, zl_3, zl_4, zl_5, zl_6, zl_7, zl_9, zl_10, zl_32, zl_35, zl_36, zl_48, zl_57, zl_59, zl_60, zl_61, zl_62, zl_63, zl_64, zl_65, zl_99, zl_100, zl_102, zl_109, zl_110, zl_115, zl_116, zl_119, zl_120, zl_121, zl_126, zl_605, zl_720, zl_1957, zl_1000000, a_2, a_3, a_4, a_5, a_6, a_46, a_47, a_55, a_56, a_58, a_68, a_69, a_70, a_73, a_74, a_76, a_77, a_78, a_79, a_80, a_81, a_82, a_83, a_84, a_85, a_86, a_87, a_88, a_89, a_90, a_91, a_92, a_93, a_94, a_95, s_2, s_3, s_4, s_5, s_6, s_46, s_47, s_55, s_56, s_58, s_68, s_69, s_70, s_73, s_74, s_76, s_77, s_78, s_79, s_80, s_81, s_82, s_83, s_84, s_85, s_86, s_87, s_88, s_89, s_90, s_91, s_92, s_93, s_94, s_95, it_5, it_6, it_46, it_47, it_50, it_53, it_55, it_56, it_58, it_63, it_66, it_68, it_69, it_70, it_71, it_74, it_97, se_5, se_6, se_46, se_47, se_50, se_53, se_55, se_56, se_58, se_63, se_66, se_68, se_69, se_70, se_71, se_74, se_97, at_2, at_3, at_4, at_49, at_51, at_52, at_62, at_64, at_65, pu_2, pu_3, pu_4, pu_49, pu_51, pu_52, pu_62, pu_64, pu_65, q1, e2, e3, hc, nI_dvN (show u < 2 ^ 31 from u3) hgc (show Nat.gcd u v < 2 ^ 31 by omega)]
      · show f_X9_mean σ1 75 (nI 0) = _
        unfold f_X9_mean f_X9_mean_J98
        rw [show (0 : Int32) = nI 0 from rfl, show (1 : Int32) = nI 1 from rfl, in_yes (by omega) (by omega) (by omega)]
        rw [show (nI 0 : Int32) = 0 from rfl, show (nI 1 : Int32) = 1 from rfl]
        simp only [obs]
        rw [if_neg (by decide), p1]
        simp only [obs]
        rw [r1]
        simp only [obs]
        rw [hm]
        simp only [obs]
        rw [if_pos trivial, nI_dvN u3 hgc (by omega)]
        rfl
    · refine Or.inl ⟨nI (v / Nat.gcd u v), σ1, si σ3 75 6 0, ?_, ?_, si_hit, hIv⟩
      · unfold f_X8_mean f_X8_mean_J19 f_X8_mean_J51
        rw [if_neg (show ¬ nI 1 = 0 by decide), if_pos (show nI 1 = 1 by decide)]
        simp (disch := omega) only [if_true, if_false, obs, Option.bind_none, Sum.elim_inl, Sum.elim_inr, Option.elim, Nat.reduceAdd, Nat.add_zero, Nat.zero_add, ile, igt, ilt, inl, ieq, ine, iq10, i1z, im1, im11, iml, imle, inm, nI_1, nI_add, isub1, isb, iaddm, pk_mul, si_hit, si_miss, si_oth, wo_oth, zl_0, zl_2, zl_3, zl_4, zl_5, zl_6, zl_7, zl_9, zl_10, zl_32, zl_35, zl_36, zl_48, zl_57, zl_59, zl_60, zl_61, zl_62, zl_63, zl_64, zl_65, zl_99, zl_100, zl_102, zl_109, zl_110, zl_115, zl_116, zl_119, zl_120, zl_121, zl_126, zl_605, zl_720, zl_1957, zl_1000000, a_2, a_3, a_4, a_5, a_6, a_46, a_47, a_55, a_56, a_58, a_68, a_69, a_70, a_73, a_74, a_76, a_77, a_78, a_79, a_80, a_81, a_82, a_83, a_84, a_85, a_86, a_87, a_88, a_89, a_90, a_91, a_92, a_93, a_94, a_95, s_2, s_3, s_4, s_5, s_6, s_46, s_47, s_55, s_56, s_58, s_68, s_69, s_70, s_73, s_74, s_76, s_77, s_78, s_79, s_80, s_81, s_82, s_83, s_84, s_85, s_86, s_87, s_88, s_89, s_90, s_91, s_92, s_93, s_94, s_95, it_5, it_6, it_46, it_47, it_50, it_53, it_55, it_56, it_58, it_63, it_66, it_68, it_69, it_70, it_71, it_74, it_97, se_5, se_6, se_46, se_47, se_50, se_53, se_55, se_56, se_58, se_63, se_66, se_68, se_69, se_70, se_71, se_74, se_97, at_2, at_3, at_4, at_49, at_51, at_52, at_62, at_64, at_65, pu_2, pu_3, pu_4, pu_49, pu_51, pu_52, pu_62, pu_64, pu_65, q1, e2, e3, hc, nI_dvN (show v < 2 ^ 31 by omega) hgc (show Nat.gcd u v < 2 ^ 31 by omega)]
      · show f_X9_mean σ1 75 (nI 1) = _
        unfold f_X9_mean f_X9_mean_J98
        rw [show (0 : Int32) = nI 0 from rfl, show (1 : Int32) = nI 1 from rfl, in_yes (by omega) (by omega) (by omega)]
        rw [show (nI 0 : Int32) = 0 from rfl, show (nI 1 : Int32) = 1 from rfl]
        simp only [obs]
        rw [if_neg (by decide), p1]
        simp only [obs]
        rw [r1]
        simp only [obs]
        rw [hm]
        simp only [obs]
        rw [if_neg (by decide), nI_dvN (by omega) hgc (by omega)]
        rfl
-- descend
def bstE (n : Nat) (s a : Nat → Int32) : Int32 := (bAll n (vS s 115) (gS n (tS s 1) (tS s 37) (tS s 73) a) n).1
def dI (n : Nat) (s a : Nat → Int32) : Nat := (bstE n s a).toNatClampNeg / 10
def dJ (n : Nat) (s a : Nat → Int32) : Nat := (bstE n s a).toNatClampNeg % 10
def trj (n : Nat) (s : Nat → Int32) : Nat → Nat → Int32
  | 0 => vS s 109
  | k + 1 => sw (trj n s k) (dI n s (trj n s k)) (dJ n s (trj n s k))
def lcB (n : Nat) (s a : Nat → Int32) : Bool := locB n (vS s 115) (gS n (tS s 1) (tS s 37) (tS s 73) a)
theorem not_loc {n : Nat} {s a : Nat → Int32} (hn : n ≤ 6) (h : lcB n s a = false) : ∃ i j, i < j ∧ j < n ∧ bstE n s a = nI (10 * i + j) ∧ dI n s a = i ∧ dJ n s a = j ∧ 0 < gS n (tS s 1) (tS s 37) (tS s 73) a i j := by
  unfold lcB locB at h
  unfold dI dJ
  unfold bstE
  rcases bAll_ok (X := vS s 115) (g := gS n (tS s 1) (tS s 37) (tS s 73) a) hn n (Nat.le_refl n) with ⟨q1, q2⟩ | ⟨i, j, q1, q2, q3, q4, q5, q6⟩
  · rw [q1] at h
    simp at h
  · rw [q5] at h ⊢
    have hm : ¬ nI (10 * i + j) = -1 := nI_m1 (by omega)
    simp only [hm, decide_false, Bool.false_or, decide_eq_false_iff_not] at h
    refine ⟨i, j, q1, q2, rfl, ?_, ?_, by grind⟩
    · rw [nI_clamp (by omega)]; omega
    · rw [nI_clamp (by omega)]; omega
/-- how many assignments cost more -/
def mor (n : Nat) (s : Nat → Int32) (c : Int32) : Nat → Nat
  | 0 => 0
  | t + 1 => mor n s c t + if c < coQ n (tS s 1) (tS s 37) (tS s 73) t then 1 else 0
theorem mor_le {n : Nat} {s : Nat → Int32} {c : Int32} : ∀ T, mor n s c T ≤ T
  | 0 => Nat.le_refl 0
  | T + 1 => by
    have := mor_le (n := n) (s := s) (c := c) T
    unfold mor
    split <;> omega
theorem mor_lt {n : Nat} {s : Nat → Int32} {c : Int32} {t : Nat} (h : coQ n (tS s 1) (tS s 37) (tS s 73) t = c) : ∀ T, t < T → mor n s c T < T
  | 0, h => by omega
  | T + 1, ht => by
    unfold mor
    by_cases e : t = T
    · subst e
      rw [if_neg (by rw [h]; grind)]
      have := mor_le (n := n) (s := s) (c := c) t
      omega
    · have := mor_lt h T (by omega)
      split <;> omega
theorem mor_mono {n : Nat} {s : Nat → Int32} {c c' : Int32} (hc : c' < c) : ∀ T, mor n s c T ≤ mor n s c' T
  | 0 => Nat.le_refl 0
  | T + 1 => by
    have := mor_mono (n := n) (s := s) hc T
    unfold mor
    by_cases h : c < coQ n (tS s 1) (tS s 37) (tS s 73) T
    · rw [if_pos h, if_pos (by grind)]
      omega
    · rw [if_neg h]
      omega
theorem mor_step {n : Nat} {s : Nat → Int32} {c c' : Int32} {t : Nat} (h : coQ n (tS s 1) (tS s 37) (tS s 73) t = c) (hc : c' < c) : ∀ T, t < T → mor n s c T + 1 ≤ mor n s c' T
  | 0, h => by omega
  | T + 1, ht => by
    unfold mor
    by_cases e : t = T
    · subst e
      rw [if_neg (by rw [h]; grind), if_pos (by rw [h]; exact hc)]
      have := mor_mono (n := n) (s := s) hc t
      omega
    · have := mor_step h hc T (by omega)
      by_cases h2 : c < coQ n (tS s 1) (tS s 37) (tS s 73) T
      · rw [if_pos h2, if_pos (by grind)]
        omega
      · rw [if_neg h2]
        omega
theorem trj_ok {n : Nat} {s : Nat → Int32} (hg : Gd n s) : ∀ k, (∀ j, j < k → lcB n s (trj n s j) = false) → ∃ t, t < fac n ∧ (∀ i, i < n → trj n s k i = aV n t i) ∧ k ≤ mor n s (coQ n (tS s 1) (tS s 37) (tS s 73) t) (fac n)
  | 0, _ => by
    obtain ⟨t, h1, h2⟩ := hg.2.2.2.2.1
    exact ⟨t, h1, fun i hi => by show vS s 109 i = _; rw [vS_at (by have := hg.2.1; omega), h2 i hi], Nat.zero_le _⟩
  | k + 1, h => by
    obtain ⟨t, h1, h2, h3⟩ := trj_ok hg k (fun j hj => h j (by omega))
    obtain ⟨i, j, p1, p2, p3, p4, p5, p6⟩ := not_loc hg.2.1 (h k (by omega))
    obtain ⟨t', h1', h2'⟩ := sw_sur hg.2.1 h1 h2 (show i < n by omega) p2
    refine ⟨t', h1', fun q hq => by show sw (trj n s k) (dI n s (trj n s k)) (dJ n s (trj n s k)) q = _; rw [p4, p5]; exact h2' q hq, ?_⟩
    have e1 : coQ n (tS s 1) (tS s 37) (tS s 73) t = costS n (tS s 1) (tS s 37) (tS s 73) (trj n s k) := costS_cong fun i hi => (h2 i hi).symm
    have e2 : coQ n (tS s 1) (tS s 37) (tS s 73) t' = costS n (tS s 1) (tS s 37) (tS s 73) (sw (trj n s k) i j) := costS_cong fun i hi => (h2' i hi).symm
    obtain ⟨c, c1, c2⟩ := coQ_ne (t := t) hg.2.1 hg.2.2.2.1.1 hg.2.2.2.1.2.1 hg.2.2.2.1.2.2 h1
    obtain ⟨c', c1', c2'⟩ := coQ_ne (t := t') hg.2.1 hg.2.2.2.1.1 hg.2.2.2.1.2.1 hg.2.2.2.1.2.2 h1'
    unfold gS at p6
    rw [← e1, ← e2, c2, c2'] at p6
    have hlt : nI c' < nI c := by
      by_cases q : c' < c
      · exact nI_lt q (by omega)
      · exfalso
        have := pk_sub_toInt (a := c) (b := c') (by omega) (by omega)
        rw [Int32.lt_iff_toInt_lt, this] at p6
        have z : (0 : Int32).toInt = 0 := rfl
        omega
    have := mor_step (n := n) (s := s) (c := nI c) (c' := nI c') c2 hlt (fac n) h1
    rw [c2] at h3
    rw [c2']
    omega
theorem trj_end {n : Nat} {s : Nat → Int32} (hg : Gd n s) : ∃ K, K < fac n ∧ lcB n s (trj n s K) = true ∧ ∀ j, j < K → lcB n s (trj n s j) = false := by
  have key : ∀ m, (∃ K, K < m ∧ lcB n s (trj n s K) = true ∧ ∀ j, j < K → lcB n s (trj n s j) = false) ∨ ∀ j, j < m → lcB n s (trj n s j) = false := by
    intro m
    induction m with
    | zero => exact Or.inr fun j hj => by omega
    | succ m ih =>
      rcases ih with ⟨K, h1, h2, h3⟩ | h
      · exact Or.inl ⟨K, by omega, h2, h3⟩
      · by_cases c : lcB n s (trj n s m) = true
        · exact Or.inl ⟨m, by omega, c, h⟩
        · refine Or.inr fun j hj => ?_
          by_cases e : j = m
          · rw [e]
            exact Bool.eq_false_iff.mpr c
          · exact h j (by omega)
  rcases key (fac n) with h | h
  · exact h
  · exfalso
    obtain ⟨t, h1, h2, h3⟩ := trj_ok hg (fac n) h
    have := mor_lt (n := n) (s := s) (t := t) rfl (fac n) h1
    omega
/-- the store along the way -/
def trS (n : Nat) (s : Nat → Int32) (k : Nat) (σ : Sg) : Nat → Sg
  | 0 => σ
  | m + 1 => swS (trS n s k σ m) k (dI n s (trj n s m)) (dJ n s (trj n s m))
theorem trS_fr {n k : Nat} {s : Nat → Int32} {σ : Sg} : ∀ m, Fr [k] σ (trS n s k σ m)
  | 0 => Fr.rf
  | m + 1 => (trS_fr m).tr fr_sw (fun q h => h)
theorem trS_at {n k : Nat} {s : Nat → Int32} {σ : Sg} (hn : n ≤ 6) (h0 : ∀ i, i < n → σ k i = vS s 109 i) : ∀ m, (∀ j, j < m → lcB n s (trj n s j) = false) → ∀ i, i < n → trS n s k σ m k i = trj n s m i
  | 0, _ => h0
  | m + 1, h => fun q hq => by
    have ih := trS_at hn h0 m (fun j hj => h j (by omega))
    obtain ⟨i, j, p1, p2, p3, p4, p5, p6⟩ := not_loc hn (h m (by omega))
    show swS (trS n s k σ m) k (dI n s (trj n s m)) (dJ n s (trj n s m)) k q = sw (trj n s m) (dI n s (trj n s m)) (dJ n s (trj n s m)) q
    rw [swS_at, p4, p5]
    unfold sw
    rw [ih i (by omega), ih j p2, ih q hq]
theorem c_descend {σ σ1 : Sg} {s : Nat → Int32} {n K : Nat} (hg : Gd n s) (k1 : K < fac n) (k2 : lcB n s (trj n s K) = true) (k3 : ∀ j, j < K → lcB n s (trj n s j) = false) (q1 : f_X2_push σ 7 1 = some σ1) (hs1 : EqS (snap σ1 1) s) : f_X8_descend σ 0 = some (nI K, trS n s 5 σ1 K) ∧ EqS (snap (trS n s 5 σ1 K) 1) (setP s (trj n s K) n) ∧ Gd n (setP s (trj n s K) n) := by
  have h1 := hg.1
  have hn := hg.2.1
  have hfn := (fac_6 n (by omega)).2
  have pt : ∀ m, m ≤ K → Pt n (trj n s m) := fun m hm => by
    obtain ⟨t, t1, t2, -⟩ := trj_ok hg m (fun j hj => k3 j (by omega))
    exact Pt.cong t2 (aV_pt hn t1)
  -- the class's way
  have v1 : ∀ i, i < n → σ1 5 i = vS s 109 i := fun i hi => by rw [← rc_P hs1, vec_at (by omega), Nat.zero_add]
  have snk : ∀ m, m ≤ K → EqS (snap (trS n s 5 σ1 m) 1) (setP s (trj n s m) n) := fun m hm => snap_P (trS_fr m) hs1 hn (trS_at hn v1 m (fun j hj => k3 j (by omega))) (fun i h1 h2 => by
    have : ∀ m, m ≤ K → trS n s 5 σ1 m 5 i = σ1 5 i := by
      intro m
      induction m with
      | zero => exact fun _ => rfl
      | succ m ih =>
        intro hm
        obtain ⟨a, b, p1, p2, p3, p4, p5, p6⟩ := not_loc hn (k3 m (by omega))
        show swS (trS n s 5 σ1 m) 5 (dI n s (trj n s m)) (dJ n s (trj n s m)) 5 i = _
        rw [swS_at, p4, p5]
        unfold sw
        rw [if_neg (by omega), if_neg (by omega), ih (by omega)]
    exact this m hm)
  have gdk : ∀ m, m ≤ K → Gd n (setP s (trj n s m) n) := fun m hm => by
    obtain ⟨t, t1, t2, -⟩ := trj_ok hg m (fun j hj => k3 j (by omega))
    exact Gd_setP hg t1 t2
  have vk : ∀ m, m ≤ K → ∀ i, i < n → vec (trS n s 5 σ1 m) 5 0 i = trj n s m i := fun m hm i hi => by rw [vec_at (by omega), Nat.zero_add, trS_at hn v1 m (fun j hj => k3 j (by omega)) i hi]
  have bk : ∀ m, m ≤ K → f_X6_bestPair (trS n s 5 σ1 m) 1 = some (bstE n s (trj n s m)) := fun m hm => by
    have hsm := snk m hm
    rw [bestPair6_ok (by rw [rc_0 hsm, (gdk m hm).2.2.1]) hn (Pt.cong (vk m hm) (pt m hm)), rc_X hsm, rc_F hsm, rc_D hsm, rc_C hsm, setP_t (by omega), setP_t (by omega), setP_t (by omega), setP_x hn, bAll_cong (fun i j hi hj => gS_cong (vk m hm) hi hj) n (Nat.le_refl n)]
    rfl
  have gk : ∀ m i j, m ≤ K → i < n → j < n → f_X6_gainOf (trS n s 5 σ1 m) 1 5 (nI i) (nI j) = some (gS n (tS s 1) (tS s 37) (tS s 73) (trj n s m) i j) := fun m i j hm hi hj => by
    rw [cc_gain (snk m hm) (gdk m hm) l5 (vk m hm) (pt m hm) hi hj, setP_t (by omega), setP_t (by omega), setP_t (by omega)]
  have cl : f_X8_descend σ 0 = some (nI K, trS n s 5 σ1 K) := by
    unfold f_X8_descend
    simp (disch := omega) only [if_true, if_false, obs, Option.bind_none, Sum.elim_inl, Sum.elim_inr, Option.elim, Nat.reduceAdd, Nat.add_zero, Nat.zero_add, ile, igt, ilt, inl, ieq, ine, iq10, i1z, im1, im11, iml, imle, inm, nI_1, nI_add, isub1, isb, iaddm, pk_mul, si_hit, si_miss, si_oth, wo_oth, zl_0, zl_2, zl_3, zl_4, zl_5, zl_6, zl_7, zl_9, zl_10, zl_32, zl_35, zl_36, zl_48, zl_57, zl_59, zl_60, zl_61, zl_62, zl_63, zl_64, zl_65, zl_99, zl_100, zl_102, zl_109, zl_110, zl_115, zl_116, zl_119, zl_120, zl_121, zl_126, zl_605, zl_720, zl_1957, zl_1000000, a_2, a_3, a_4, a_5, a_6, a_46, a_47, a_55, a_56, a_58, a_68, a_69, a_70, a_73, a_74, a_76, a_77, a_78, a_79, a_80, a_81, a_82, a_83, a_84, a_85, a_86, a_87, a_88, a_89, a_90, a_91, a_92, a_93, a_94, a_95, s_2, s_3, s_4, s_5, s_6, s_46, s_47, s_55, s_56, s_58, s_68, s_69, s_70, s_73, s_74, s_76, s_77, s_78, s_79, s_80, s_81, s_82, s_83, s_84, s_85, s_86, s_87, s_88, s_89, s_90, s_91, s_92, s_93, s_94, s_95, it_5, it_6, it_46, it_47, it_50, it_53, it_55, it_56, it_58, it_63, it_66, it_68, it_69, it_70, it_71, it_74, it_97, se_5, se_6, se_46, se_47, se_50, se_53, se_55, se_56, se_58, se_63, se_66, se_68, se_69, se_70, se_71, se_74, se_97, at_2, at_3, at_4, at_49, at_51, at_52, at_62, at_64, at_65, pu_2, pu_3, pu_4, pu_49, pu_51, pu_52, pu_62, pu_64, pu_65, q1]
    have stp : ∀ m, m < K → f_X8_descend_L15 0 (nI m, nI m, trS n s 5 σ1 m) = some (.inl (nI (m + 1), nI (m + 1), trS n s 5 σ1 (m + 1))) := fun m hm => by
      obtain ⟨i, j, p1, p2, p3, p4, p5, p6⟩ := not_loc hn (k3 m hm)
      unfold f_X8_descend_L15
      simp only
      rw [zl_720, if_neg (nI_ge (show m < 720 by omega) (by omega)), show (0 + 1) = 1 from rfl, bk m (by omega)]
      simp only [obs]
      rw [p3, if_neg (nI_m1 (by omega)), nI_dv (by omega) (by omega), nI_rm (by omega) (by omega)]
      simp only [obs]
      rw [show (1 + 4) = 5 from rfl, gk m i j (by omega) (by omega) p2]
      simp only [obs]
      rw [if_pos p6, swap6 l5 (by omega) (by omega)]
      simp only [obs]
      rw [show nI m + 1 = nI (m + 1) from nI_s m]
      have e9 : trS n s 5 σ1 (m + 1) = swS (trS n s 5 σ1 m) 5 i j := by
        show swS (trS n s 5 σ1 m) 5 (dI n s (trj n s m)) (dJ n s (trj n s m)) = _
        rw [p4, p5]
      rw [e9]
    have fin : ∃ e, f_X8_descend_L15 0 (nI K, nI K, trS n s 5 σ1 K) = some (.inr e) ∧ Sum.elim (fun e14 => some (e14.1, e14.2)) (fun e15 => some (e15.1, e15.2)) e = some (nI K, trS n s 5 σ1 K) := by
      unfold f_X8_descend_L15
      simp only
      rw [zl_720, if_neg (nI_ge (show K < 720 by omega) (by omega)), show (0 + 1) = 1 from rfl, bk K (Nat.le_refl K)]
      simp only [obs]
      unfold lcB locB at k2
      have hb : bstE n s (trj n s K) = (bAll n (vS s 115) (gS n (tS s 1) (tS s 37) (tS s 73) (trj n s K)) n).1 := rfl
      rcases bAll_ok (X := vS s 115) (g := gS n (tS s 1) (tS s 37) (tS s 73) (trj n s K)) hn n (Nat.le_refl n) with ⟨z1, z2⟩ | ⟨i, j, z1, z2, z3, z4, z5, z6⟩
      · rw [hb, z1, if_pos rfl]
        exact ⟨_, rfl, rfl⟩
      · rw [z5] at k2
        have hm : ¬ nI (10 * i + j) = -1 := nI_m1 (by omega)
        simp only [hm, decide_false, Bool.false_or, decide_eq_true_eq] at k2
        rw [hb, z5]
        simp only
        rw [if_neg hm, nI_dv (by omega) (by omega), nI_rm (by omega) (by omega)]
        simp only [obs]
        rw [show (1 + 4) = 5 from rfl, gk K i j (Nat.le_refl K) (by omega) z2]
        simp only [obs]
        rw [if_neg (by grind)]
        exact ⟨_, rfl, rfl⟩
    obtain ⟨e, f1, f2⟩ := fin
    rw [lo_run (f := f_X8_descend_L15 0) (fun m => (nI m, nI m, trS n s 5 σ1 m)) (n := K) stp f1 (s := (nI 0, nI 0, σ1)) rfl]
    exact f2
  exact ⟨cl, snk K (Nat.le_refl K), gdk K (Nat.le_refl K)⟩
theorem dL_1 {σ3 : Sg} {s : Nat → Int32} {n : Nat} (s3 : EqS (σ3 76) s) : ∀ m, EqS ((trS n s 80 σ3 m) 76) s := fun m j hj => by
  have e : (trS n s 80 σ3 m) 76 = σ3 76 := trS_fr m 76 (by decide)
  rw [e]
  exact s3 j hj
theorem dL_2 {σ : Sg} {s a : Nat → Int32} {n c : Nat} (hg : Gd n s) (s3 : EqS (σ 76) s) (hv : ∀ i, i < n → vec σ 80 0 i = a i) (pt : Pt n a) (hl : lcB n s a = true) : f_X9_descend_L10 75 (nI c, σ) = some (.inr (nI c, σ)) := by
  unfold f_X9_descend_L10
  simp only
  unfold lcB at hl
  rw [mm_local s3 hg hv pt, hl]
  rfl
theorem dL_4 {σ : Sg} {s a : Nat → Int32} {n i j : Nat} (hg : Gd n s) (s3 : EqS (σ 76) s) (hv : ∀ i, i < n → vec σ 80 0 i = a i) (pt : Pt n a) (hb : bstE n s a = nI (10 * i + j)) : f_X9_bestOf σ 75 = some (nI (10 * i + j), σ) := by
  unfold bstE at hb
  rw [mm_best s3 hg hv pt, hb]
theorem dL_5 {σ : Sg} {s a : Nat → Int32} {n : Nat} (hg : Gd n s) (s3 : EqS (σ 76) s) (hv : ∀ i, i < n → vec σ 80 0 i = a i) (pt : Pt n a) (hl : lcB n s a = false) : f_X9_isLocal σ 75 = some (0, σ) := by
  unfold lcB at hl
  rw [mm_local s3 hg hv pt, hl]
  rfl
theorem dL_6 {σ : Sg} {c i j : Nat} (hi : i < 6) (hj : j < 6) (hloc : f_X9_isLocal σ 75 = some (0, σ)) (hbest : f_X9_bestOf σ 75 = some (nI (10 * i + j), σ)) : f_X9_descend_L10 75 (nI c, σ) = some (.inl (nI (c + 1), swS σ 80 i j)) := by
  have h4 := m_swaps (σ := σ) hi hj
  have h5 := nI_dv hi hj
  have h6 := nI_rm hi hj
  generalize nI (10 * i + j) = z at hbest h5 h6
  unfold f_X9_descend_L10
  show (f_X9_isLocal σ 75).bind _ = _
  rw [hloc, obs]
  refine (if_pos (show (0 : Int32) = 0 from rfl)).trans ?_
  show (f_X9_bestOf σ 75).bind _ = _
  rw [hbest, obs]
  show (dv z (10 : Int32)).bind _ = _
  rw [h5, obs]
  show (rm z (10 : Int32)).bind _ = _
  rw [h6, obs]
  show (f_X9_swaps σ 75 (nI i) (nI j)).bind _ = _
  rw [h4, obs, ← nI_s]
theorem dL_3 {σ : Sg} {s a : Nat → Int32} {n c i j : Nat} (hg : Gd n s) (s3 : EqS (σ 76) s) (hv : ∀ i, i < n → vec σ 80 0 i = a i) (pt : Pt n a) (hl : lcB n s a = false) (h1 : i < j) (h2 : j < n) (hb : bstE n s a = nI (10 * i + j)) : f_X9_descend_L10 75 (nI c, σ) = some (.inl (nI (c + 1), swS σ 80 i j)) := by
  have hn := hg.2.1
  exact dL_6 (by omega) (by omega) (dL_5 hg s3 hv pt hl) (dL_4 hg s3 hv pt hb)
theorem m_descendL {σ3 : Sg} {s : Nat → Int32} {n K : Nat} (hg : Gd n s) (k2 : lcB n s (trj n s K) = true) (k3 : ∀ j, j < K → lcB n s (trj n s j) = false) (s3 : EqS (σ3 76) s) (v3 : ∀ i, i < n → vec σ3 80 0 i = vS s 109 i) : lo (f_X9_descend_L10 75) (0, σ3) = some (nI K, trS n s 80 σ3 K) := by
  have hn := hg.2.1
  have pt : ∀ m, m ≤ K → Pt n (trj n s m) := fun m hm => by
    obtain ⟨t, t1, t2, -⟩ := trj_ok hg m (fun j hj => k3 j (by omega))
    exact Pt.cong t2 (aV_pt hn t1)
  have v3' : ∀ i, i < n → σ3 80 i = vS s 109 i := fun i hi => by rw [← v3 i hi, vec_at (by omega), Nat.zero_add]
  have vm : ∀ m, m ≤ K → ∀ i, i < n → vec (trS n s 80 σ3 m) 80 0 i = trj n s m i := fun m hm i hi => by rw [vec_at (by omega), Nat.zero_add, trS_at hn v3' m (fun j hj => k3 j (by omega)) i hi]
  refine lo_run (fun m => (nI m, trS n s 80 σ3 m)) (n := K) (fun m hm => ?_) (dL_2 hg (dL_1 s3 K) (vm K (Nat.le_refl K)) (pt K (Nat.le_refl K)) k2) rfl
  obtain ⟨i, j, p1, p2, p3, p4, p5, p6⟩ := not_loc hn (k3 m hm)
  rw [dL_3 hg (dL_1 s3 m) (vm m (by omega)) (pt m (by omega)) (k3 m hm) p1 p2 p3]
  have e9 : trS n s 80 σ3 (m + 1) = swS (trS n s 80 σ3 m) 80 i j := by
    show swS (trS n s 80 σ3 m) 80 (dI n s (trj n s m)) (dJ n s (trj n s m)) = _
    rw [p4, p5]
  rw [e9]
theorem J_descend {σ : Sg} (H : Iv σ) : ∃ v σ1 σ', f_X8_descend σ 0 = some (v, σ1) ∧ f_X9_descend σ1 75 = some (v, σ') ∧ Iv σ' := by
  have H' := H
  obtain ⟨s, c, h, T, tx, md, rs, hG, hC, hM⟩ := H'
  obtain ⟨n, hg⟩ := hG.1
  have h1 := hg.1
  have hn := hg.2.1
  have hfn := (fac_6 n (by omega)).2
  obtain ⟨K, k1, k2, k3⟩ := trj_end hg
  obtain ⟨tK, tk1, tk2, -⟩ := trj_ok hg K k3
  have pt : ∀ m, m ≤ K → Pt n (trj n s m) := fun m hm => by
    obtain ⟨t, t1, t2, -⟩ := trj_ok hg m (fun j hj => k3 j (by omega))
    exact Pt.cong t2 (aV_pt hn t1)
  obtain ⟨σ1, q1, q2, q3⟩ := CI_push hC
  have hs1 := q3.1.2.1
  obtain ⟨cl, hsK, gdK⟩ := c_descend hg k1 k2 k3 q1 hs1
  have hF : Fr [1, 2, 3, 4, 5, 6] σ1 (trS n s 5 σ1 K) := Fr.tr Fr.rf (trS_fr K) (by decide)
  have hs2 := MI_und hM q2 hF
  generalize trS n s 5 σ1 K = σ2 at cl hF hs2 hsK
  have hm2 : σ2 76 0 = nI n := by rw [hs2 0 (by omega), hg.2.2.1]
  have e3 : (wo σ2 78 0 121 (σ2 76)) 76 0 = nI n := by rw [wo_oth (by omega), hm2]
  generalize hσ3 : wo (wo σ2 78 0 121 (σ2 76)) 80 0 n (fun i => (wo σ2 78 0 121 (σ2 76)) 76 (109 + i)) = σ3
  have f3 : Fr [76, 78, 80, 81] σ2 σ3 := by rw [← hσ3]; exact wo_fr fr_hold (by decide)
  have s3 : EqS (σ3 76) s := fun j hj => by rw [← hσ3, wo_oth (by omega)]; exact hold76 hs2 j hj
  have v3 : ∀ i, i < n → vec σ3 80 0 i = vS s 109 i := by rw [← hσ3]; exact wo80 (hold76 hs2) hn
  have k3' : EqS (σ3 78) s := fun j hj => by rw [← hσ3, wo_oth (by omega)]; exact hold78 hs2 j hj
  have v3' : ∀ i, i < n → σ3 80 i = vS s 109 i := fun i hi => by rw [← v3 i hi, vec_at (by omega), Nat.zero_add]
  have sm3 : ∀ m, EqS ((trS n s 80 σ3 m) 76) s := fun m j hj => by rw [(trS_fr m).at (by decide)]; exact s3 j hj
  have ml := m_descendL hg k2 k3 s3 v3
  have eK : (trS n s 80 σ3 K) 76 0 = nI n := by rw [sm3 K 0 (by omega), hg.2.2.1]
  obtain ⟨σ', u1, u2, u3⟩ := J_und hG hM q2 q3 hF hsK (σ3 := wo (trS n s 80 σ3 K) 76 109 n ((trS n s 80 σ3 K) 80)) (wo_fr (Fr.tr f3 (trS_fr K) (by decide)) (by decide)) (fun j hj => by rw [wo_oth (by omega), (trS_fr K).at (by decide)]; exact k3' j hj) (keeps_P (sm3 K) (trS_at hn v3' K k3)) ⟨n, gdK⟩ (nI K)
  refine ⟨nI K, σ2, σ', cl, ?_, u3⟩
  unfold f_X9_descend
  rw [m_hold]
  simp only [obs]
  rw [m_takes e3 hn]
  simp only [obs]
  rw [hσ3, ml]
  simp only [obs]
  rw [m_keeps eK hn]
  simp only [obs]
  rw [u1]
  rfl
