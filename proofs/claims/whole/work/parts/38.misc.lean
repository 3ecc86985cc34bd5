-- undo, results, the text
theorem J_undo {σ : Sg} (H : Iv σ) : JU 1 9 (f_X8_undo σ 0) (fun σ => f_X9_undo σ 75) := by
  have H' := H
  obtain ⟨s, c, h, T, tx, md, rs, hG, hC, hM⟩ := H'
  obtain ⟨nx, a1, a2, a3, a4, a5⟩ := hC.1.2.2
  obtain ⟨b1, b2, b3⟩ := hM.1.2
  by_cases hc : c = 0
  · subst hc
    refine Or.inr (Or.inl ⟨0, σ, si σ 75 6 1, ?_, ?_, si_hit, Iv_75 H (by decide) (by decide)⟩)
    · unfold f_X8_undo
      simp (disch := omega) only [if_true, if_false, obs, Option.bind_none, Sum.elim_inl, Sum.elim_inr, Option.elim, Nat.reduceAdd, Nat.add_zero, Nat.zero_add, ile, igt, ilt, inl, ieq, ine, iq10, i1z, im1, im11, iml, imle, inm, nI_1, nI_add, isub1, isb, iaddm, pk_mul, si_hit, si_miss, si_oth, wo_oth, zl_0, zl_2, zl_3, zl_4, zl_5, zl_6, zl_7, zl_9, zl_10, zl_32, zl_35, zl_36, zl_48, zl_57, zl_59, zl_60, zl_61, zl_62, zl_63, zl_64, zl_65, zl_99, zl_100, zl_102, zl_109, zl_110, zl_115, zl_116, zl_119, zl_120, zl_121, zl_126, zl_605, zl_720, zl_1957, zl_1000000, a_2, a_3, a_4, a_5, a_6, a_46, a_47, a_55, a_56, a_58, a_68, a_69, a_70, a_73, a_74, a_76, a_77, a_78, a_79, a_80, a_81, a_82, a_83, a_84, a_85, a_86, a_87, a_88, a_89, a_90, a_91, a_92, a_93, a_94, a_95, s_2, s_3, s_4, s_5, s_6, s_46, s_47, s_55, s_56, s_58, s_68, s_69, s_70, s_73, s_74, s_76, s_77, s_78, s_79, s_80, s_81, s_82, s_83, s_84, s_85, s_86, s_87, s_88, s_89, s_90, s_91, s_92, s_93, s_94, s_95, it_5, it_6, it_46, it_47, it_50, it_53, it_55, it_56, it_58, it_63, it_66, it_68, it_69, it_70, it_71, it_74, it_97, se_5, se_6, se_46, se_47, se_50, se_53, se_55, se_56, se_58, se_63, se_66, se_68, se_69, se_70, se_71, se_74, se_97, at_2, at_3, at_4, at_49, at_51, at_52, at_62, at_64, at_65, pu_2, pu_3, pu_4, pu_49, pu_51, pu_52, pu_62, pu_64, pu_65, a3]
    · show f_X9_undo σ 75 = _
      unfold f_X9_undo
      rw [b2]
      exact if_pos rfl
  · obtain ⟨σ1, q1, q2, q3, q4⟩ := popInto_ok (by omega) hC.1.2.2
    have e7 : σ1 7 0 = nI (c - 1) := by
      obtain ⟨_, _, _, z, _⟩ := q3
      exact z
    have e3 : σ1 75 3 = nI c := by rw [q2.at (by decide), b2]
    have hl := m_undoL (σ := si σ1 75 3 (nI (c - 1))) (c := c - 1) (by omega) si_hit
    have e77 : ∀ j, (si σ1 75 3 (nI (c - 1))) 77 j = σ 77 j := fun j => by rw [si_oth (by omega), q2.at (by decide)]
    generalize hσ2 : wo (si σ1 75 3 (nI (c - 1))) 76 0 121 (fun j => (si σ1 75 3 (nI (c - 1))) 77 (121 * (c - 1) + j)) = σ2 at hl
    have f2 : Fr [75, 76] σ1 σ2 := by rw [← hσ2]; exact wo_fr (Fr.rf.si (by decide)) (by decide)
    have e3' : σ2 75 3 = nI (c - 1) := by rw [← hσ2, wo_oth (by omega), si_hit]
    refine Or.inl ⟨nI (c - 1), σ1, si σ2 75 6 0, ?_, ?_, si_hit, ?_⟩
    · unfold f_X8_undo
      simp (disch := omega) only [if_true, if_false, obs, Option.bind_none, Sum.elim_inl, Sum.elim_inr, Option.elim, Nat.reduceAdd, Nat.add_zero, Nat.zero_add, ile, igt, ilt, inl, ieq, ine, iq10, i1z, im1, im11, iml, imle, inm, nI_1, nI_add, isub1, isb, iaddm, pk_mul, si_hit, si_miss, si_oth, wo_oth, zl_0, zl_2, zl_3, zl_4, zl_5, zl_6, zl_7, zl_9, zl_10, zl_32, zl_35, zl_36, zl_48, zl_57, zl_59, zl_60, zl_61, zl_62, zl_63, zl_64, zl_65, zl_99, zl_100, zl_102, zl_109, zl_110, zl_115, zl_116, zl_119, zl_120, zl_121, zl_126, zl_605, zl_720, zl_1957, zl_1000000, a_2, a_3, a_4, a_5, a_6, a_46, a_47, a_55, a_56, a_58, a_68, a_69, a_70, a_73, a_74, a_76, a_77, a_78, a_79, a_80, a_81, a_82, a_83, a_84, a_85, a_86, a_87, a_88, a_89, a_90, a_91, a_92, a_93, a_94, a_95, s_2, s_3, s_4, s_5, s_6, s_46, s_47, s_55, s_56, s_58, s_68, s_69, s_70, s_73, s_74, s_76, s_77, s_78, s_79, s_80, s_81, s_82, s_83, s_84, s_85, s_86, s_87, s_88, s_89, s_90, s_91, s_92, s_93, s_94, s_95, it_5, it_6, it_46, it_47, it_50, it_53, it_55, it_56, it_58, it_63, it_66, it_68, it_69, it_70, it_71, it_74, it_97, se_5, se_6, se_46, se_47, se_50, se_53, se_55, se_56, se_58, se_63, se_66, se_68, se_69, se_70, se_71, se_74, se_97, at_2, at_3, at_4, at_49, at_51, at_52, at_62, at_64, at_65, pu_2, pu_3, pu_4, pu_49, pu_51, pu_52, pu_62, pu_64, pu_65, a3, q1, e7]
    · show f_X9_undo σ1 75 = _
      unfold f_X9_undo
      simp (disch := omega) only [if_true, if_false, obs, Option.bind_none, Sum.elim_inl, Sum.elim_inr, Option.elim, Nat.reduceAdd, Nat.add_zero, Nat.zero_add, ile, igt, ilt, inl, ieq, ine, iq10, i1z, im1, im11, iml, imle, inm, nI_1, nI_add, isub1, isb, iaddm, pk_mul, si_hit, si_miss, si_oth, wo_oth, zl_0, zl_2, zl_3, zl_4, zl_5, zl_6, zl_7, zl_9, zl_10, zl_32, zl_35, zl_36, zl_48, zl_57, zl_59, zl_60, zl_61, zl_62, zl_63, zl_64, zl_65, zl_99, zl_100, zl_102, zl_109, zl_110, zl_115, zl_116, zl_119, zl_120, zl_121, zl_126, zl_605, zl_720, zl_1957, zl_1000000, a_2, a_3, a_4, a_5, a_6, a_46, a_47, a_55, a_56, a_58, a_68, a_69, a_70, a_73, a_74, a_76, a_77, a_78, a_79, a_80, a_81, a_82, a_83, a_84, a_85, a_86, a_87, a_88, a_89, a_90, a_91, a_92, a_93, a_94, a_95, s_2, s_3, s_4, s_5, s_6, s_46, s_47, s_55, s_56, s_58, s_68, s_69, s_70, s_73, s_74, s_76, s_77, s_78, s_79, s_80, s_81, s_82, s_83, s_84, s_85, s_86, s_87, s_88, s_89, s_90, s_91, s_92, s_93, s_94, s_95, it_5, it_6, it_46, it_47, it_50, it_53, it_55, it_56, it_58, it_63, it_66, it_68, it_69, it_70, it_71, it_74, it_97, se_5, se_6, se_46, se_47, se_50, se_53, se_55, se_56, se_58, se_63, se_66, se_68, se_69, se_70, se_71, se_74, se_97, at_2, at_3, at_4, at_49, at_51, at_52, at_62, at_64, at_65, pu_2, pu_3, pu_4, pu_49, pu_51, pu_52, pu_62, pu_64, pu_65, e3, hl, e3', tells_ok]
    · have hC' : CI σ1 (h (c - 1)) (c - 1) h T tx md rs := ⟨⟨by rw [q2.at (by decide), hC.1.1], q4, q3⟩, TC_fr hC.2.1 (by rw [q2.at (by decide)]) (q2.at (by decide)), FC_fr hC.2.2 (q2.at (by decide)) (q2.at (by decide))⟩
      have hM' : MI σ2 (h (c - 1)) (c - 1) h T tx md rs := by
        refine ⟨⟨fun j hj => ?_, by omega, e3', fun r hr j hj => ?_⟩, TM_fr hM.2.1 ?_ ?_, FM_fr hM.2.2 ?_ ?_⟩
        · rw [← hσ2, wo_in0 hj, e77, b3 (c - 1) (by omega) j hj]
        · rw [f2.at (by decide), q2.at (by decide), b3 r (by omega) j hj]
        · rw [← hσ2, wo_oth (by omega), si_miss (by omega), q2.at (by decide)]
        · rw [f2.at (by decide), q2.at (by decide)]
        · rw [f2.at (by decide), q2.at (by decide)]
        · rw [f2.at (by decide), q2.at (by decide)]
      have hG' : GI (h (c - 1)) (c - 1) h T tx := ⟨hG.2.1 (c - 1) (by omega), fun r hr => hG.2.1 r (by omega), hG.2.2⟩
      exact Iv_75 (Iv_of hG' (CI_fr hC' f2 (by decide)) hM') (by decide) (by decide)
theorem c_result {σ : Sg} {md : Bool} {rs : Nat → Int32} {j : Nat} (h : FC σ md rs) (hj : j < 7) : f_X5_result σ 57 (nI j) = some (if md = true then rs j else -1) := by
  unfold FC at h
  unfold f_X5_result
  cases md with
  | false =>
    simp only [Bool.false_eq_true, if_false] at h ⊢
    rw [h, if_pos rfl]
  | true =>
    simp only [if_true] at h ⊢
    obtain ⟨h0, h1, h2, h3, h4, h5, h6, h7, -⟩ := h
    rw [h0, if_neg (by decide), h1, h2, h3, h4, h5, h6, h7]
    have hj : j = 0 ∨ j = 1 ∨ j = 2 ∨ j = 3 ∨ j = 4 ∨ j = 5 ∨ j = 6 := by omega
    rcases hj with rfl | rfl | rfl | rfl | rfl | rfl | rfl <;> rfl
theorem m_result {σ : Sg} {md : Bool} {rs : Nat → Int32} {j : Nat} (h : FM σ md rs) (hj : j < 7) : f_X9_result σ 75 (nI j) = some (if md = true then rs j else -1) := by
  unfold FM at h
  unfold f_X9_result
  cases md with
  | false =>
    simp only [Bool.false_eq_true, if_false] at h ⊢
    simp (disch := omega) only [if_true, if_false, obs, Option.bind_none, Sum.elim_inl, Sum.elim_inr, Option.elim, Nat.reduceAdd, Nat.add_zero, Nat.zero_add, ile, igt, ilt, inl, ieq, ine, iq10, i1z, im1, im11, iml, imle, inm, nI_1, nI_add, isub1, isb, iaddm, pk_mul, si_hit, si_miss, si_oth, wo_oth, zl_0, zl_2, zl_3, zl_4, zl_5, zl_6, zl_7, zl_9, zl_10, zl_32, zl_35, zl_36, zl_48, zl_57, zl_59, zl_60, zl_61, zl_62, zl_63, zl_64, zl_65, zl_99, zl_100, zl_102, zl_109, zl_110, zl_115, zl_116, zl_119, zl_120, zl_121, zl_126, zl_605, zl_720, zl_1957, zl_1000000, a_2, a_3, a_4, a_5, a_6, a_46, a_47, a_55, a_56, a_58, a_68, a_69, a_70, a_73, a_74, a_76, a_77, a_78, a_79, a_80, a_81, a_82, a_83, a_84, a_85, a_86, a_87, a_88, a_89, a_90, a_91, a_92, a_93, a_94, a_95, s_2, s_3, s_4, s_5, s_6, s_46, s_47, s_55, s_56, s_58, s_68, s_69, s_70, s_73, s_74, s_76, s_77, s_78, s_79, s_80, s_81, s_82, s_83, s_84, s_85, s_86, s_87, s_88, s_89, s_90, s_91, s_92, s_93, s_94, s_95, it_5, it_6, it_46, it_47, it_50, it_53, it_55, it_56, it_58, it_63, it_66, it_68, it_69, it_70, it_71, it_74, it_97, se_5, se_6, se_46, se_47, se_50, se_53, se_55, se_56, se_58, se_63, se_66, se_68, se_69, se_70, se_71, se_74, se_97, at_2, at_3, at_4, at_49, at_51, at_52, at_62, at_64, at_65, pu_2, pu_3, pu_4, pu_49, pu_51, pu_52, pu_62, pu_64, pu_65, h]
  | true =>
    simp only [if_true] at h ⊢
    obtain ⟨h0, h1, h2⟩ := h
    simp (disch := omega) only [if_true, if_false, obs, Option.bind_none, Sum.elim_inl, Sum.elim_inr, Option.elim, Nat.reduceAdd, Nat.add_zero, Nat.zero_add, ile, igt, ilt, inl, ieq, ine, iq10, i1z, im1, im11, iml, imle, inm, nI_1, nI_add, isub1, isb, iaddm, pk_mul, si_hit, si_miss, si_oth, wo_oth, zl_0, zl_2, zl_3, zl_4, zl_5, zl_6, zl_7, zl_9, zl_10, zl_32, zl_35, zl_36, zl_48, zl_57, zl_59, zl_60, zl_61, zl_62, zl_63, zl_64, zl_65, zl_99, zl_100, zl_102, zl_109, zl_110, zl_115, zl_116, zl_119, zl_120, zl_121, zl_126, zl_605, zl_720, zl_1957, zl_1000000, a_2, a_3, a_4, a_5, a_6, a_46, a_47, a_55, a_56, a_58, a_68, a_69, a_70, a_73, a_74, a_76, a_77, a_78, a_79, a_80, a_81, a_82, a_83, a_84, a_85, a_86, a_87, a_88, a_89, a_90, a_91, a_92, a_93, a_94, a_95, s_2, s_3, s_4, s_5, s_6, s_46, s_47, s_55, s_56, s_58, s_68, s_69, s_70, s_73, s_74, s_76, s_77, s_78, s_79, s_80, s_81, s_82, s_83, s_84, s_85, s_86, s_87, s_88, s_89, s_90, s_91, s_92, s_93, s_94, s_95, it_5, it_6, it_46, it_47, it_50, it_53, it_55, it_56, it_58, it_63, it_66, it_68, it_69, it_70, it_71, it_74, it_97, se_5, se_6, se_46, se_47, se_50, se_53, se_55, se_56, se_58, se_63, se_66, se_68, se_69, se_70, se_71, se_74, se_97, at_2, at_3, at_4, at_49, at_51, at_52, at_62, at_64, at_65, pu_2, pu_3, pu_4, pu_49, pu_51, pu_52, pu_62, pu_64, pu_65]
    rw [if_neg h0, h1 j hj]
theorem J_found {σ : Sg} (H : Iv σ) (a : Int32) : JT 0 9 (f_X8_found σ 0 a) (fun σ => f_X9_found σ 75 a) σ := by
  have H' := H
  obtain ⟨s, c, h, T, tx, md, rs, hG, hC, hM⟩ := H'
  rcases rng 6 (by omega) a with ha | ⟨w, hw, rfl⟩
  · refine Or.inr (Or.inl ⟨0, si σ 75 6 1, ?_, ?_, si_hit, Iv_75 H (by decide) (by decide)⟩)
    · unfold f_X8_found
      by_cases c : a < 0
      · rw [if_pos c]
      · have h6 := ha.resolve_left c
        rw [if_neg c, show (7 : Int32) = nI 7 from rfl, if_neg (fun z : a < nI 7 => by
          rw [Int32.lt_iff_toInt_lt, nI_toInt (by omega)] at h6 z
          omega)]
    · show f_X9_found σ 75 a = _
      unfold f_X9_found
      rw [show (0 : Int32) = nI 0 from rfl, show (6 : Int32) = nI 6 from rfl, in_no ha]
      rfl
  · refine Or.inl ⟨if md = true then rs w else -1, si σ 75 6 0, ?_, ?_, si_hit, Iv_75 H (by decide) (by decide)⟩
    · unfold f_X8_found
      simp (disch := omega) only [if_true, if_false, obs, Option.bind_none, Sum.elim_inl, Sum.elim_inr, Option.elim, Nat.reduceAdd, Nat.add_zero, Nat.zero_add, ile, igt, ilt, inl, ieq, ine, iq10, i1z, im1, im11, iml, imle, inm, nI_1, nI_add, isub1, isb, iaddm, pk_mul, si_hit, si_miss, si_oth, wo_oth, zl_0, zl_2, zl_3, zl_4, zl_5, zl_6, zl_7, zl_9, zl_10, zl_32, zl_35, zl_36, zl_48, zl_57, zl_59, zl_60, zl_61, zl_62, zl_63, zl_64, zl_65, zl_99, zl_100, zl_102, zl_109, zl_110, zl_115, zl_116, zl_119, zl_120, zl_121, zl_126, zl_605, zl_720, zl_1957, zl_1000000, a_2, a_3, a_4, a_5, a_6, a_46, a_47, a_55, a_56, a_58, a_68, a_69, a_70, a_73, a_74, a_76, a_77, a_78, a_79, a_80, a_81, a_82, a_83, a_84, a_85, a_86, a_87, a_88, a_89, a_90, a_91, a_92, a_93, a_94, a_95, s_2, s_3, s_4, s_5, s_6, s_46, s_47, s_55, s_56, s_58, s_68, s_69, s_70, s_73, s_74, s_76, s_77, s_78, s_79, s_80, s_81, s_82, s_83, s_84, s_85, s_86, s_87, s_88, s_89, s_90, s_91, s_92, s_93, s_94, s_95, it_5, it_6, it_46, it_47, it_50, it_53, it_55, it_56, it_58, it_63, it_66, it_68, it_69, it_70, it_71, it_74, it_97, se_5, se_6, se_46, se_47, se_50, se_53, se_55, se_56, se_58, se_63, se_66, se_68, se_69, se_70, se_71, se_74, se_97, at_2, at_3, at_4, at_49, at_51, at_52, at_62, at_64, at_65, pu_2, pu_3, pu_4, pu_49, pu_51, pu_52, pu_62, pu_64, pu_65, c_result hC.2.2 (show w < 7 by omega)]
    · show f_X9_found σ 75 (nI w) = _
      unfold f_X9_found
      rw [show (0 : Int32) = nI 0 from rfl, show (6 : Int32) = nI 6 from rfl, in_yes (by omega) hw (by omega)]
      simp (disch := omega) only [if_true, if_false, obs, Option.bind_none, Sum.elim_inl, Sum.elim_inr, Option.elim, Nat.reduceAdd, Nat.add_zero, Nat.zero_add, ile, igt, ilt, inl, ieq, ine, iq10, i1z, im1, im11, iml, imle, inm, nI_1, nI_add, isub1, isb, iaddm, pk_mul, si_hit, si_miss, si_oth, wo_oth, zl_0, zl_2, zl_3, zl_4, zl_5, zl_6, zl_7, zl_9, zl_10, zl_32, zl_35, zl_36, zl_48, zl_57, zl_59, zl_60, zl_61, zl_62, zl_63, zl_64, zl_65, zl_99, zl_100, zl_102, zl_109, zl_110, zl_115, zl_116, zl_119, zl_120, zl_121, zl_126, zl_605, zl_720, zl_1957, zl_1000000, a_2, a_3, a_4, a_5, a_6, a_46, a_47, a_55, a_56, a_58, a_68, a_69, a_70, a_73, a_74, a_76, a_77, a_78, a_79, a_80, a_81, a_82, a_83, a_84, a_85, a_86, a_87, a_88, a_89, a_90, a_91, a_92, a_93, a_94, a_95, s_2, s_3, s_4, s_5, s_6, s_46, s_47, s_55, s_56, s_58, s_68, s_69, s_70, s_73, s_74, s_76, s_77, s_78, s_79, s_80, s_81, s_82, s_83, s_84, s_85, s_86, s_87, s_88, s_89, s_90, s_91, s_92, s_93, s_94, s_95, it_5, it_6, it_46, it_47, it_50, it_53, it_55, it_56, it_58, it_63, it_66, it_68, it_69, it_70, it_71, it_74, it_97, se_5, se_6, se_46, se_47, se_50, se_53, se_55, se_56, se_58, se_63, se_66, se_68, se_69, se_70, se_71, se_74, se_97, at_2, at_3, at_4, at_49, at_51, at_52, at_62, at_64, at_65, pu_2, pu_3, pu_4, pu_49, pu_51, pu_52, pu_62, pu_64, pu_65, m_result hM.2.2 (show w < 7 by omega), tells_ok]
theorem J_nodes {σ : Sg} (H : Iv σ) (a : Int32) : JT 0 9 (f_X8_nodes σ 0 a) (fun σ => f_X9_nodes σ 75 a) σ := by
  have H' := H
  obtain ⟨s, c, h, T, tx, md, rs, hG, hC, hM⟩ := H'
  rcases rng 6 (by omega) a with ha | ⟨w, hw, rfl⟩
  · refine Or.inr (Or.inl ⟨0, si σ 75 6 1, ?_, ?_, si_hit, Iv_75 H (by decide) (by decide)⟩)
    · unfold f_X8_nodes
      by_cases c : a < 0
      · rw [if_pos c]
      · have h6 := ha.resolve_left c
        rw [if_neg c, show (6 : Int32) = nI 6 from rfl, if_neg (fun z : a ≤ nI 6 => by grind)]
    · show f_X9_nodes σ 75 a = _
      unfold f_X9_nodes
      rw [show (0 : Int32) = nI 0 from rfl, show (6 : Int32) = nI 6 from rfl, in_no ha]
      rfl
  · have hc := hC.2.2
    have hm := hM.2.2
    unfold FC at hc
    unfold FM at hm
    refine Or.inl ⟨if md = true then rs (7 + w) else -1, si σ 75 6 0, ?_, ?_, si_hit, Iv_75 H (by decide) (by decide)⟩
    · unfold f_X8_nodes
      cases md with
      | false =>
        simp only [Bool.false_eq_true, if_false] at hc ⊢
        simp (disch := omega) only [if_true, if_false, obs, Option.bind_none, Sum.elim_inl, Sum.elim_inr, Option.elim, Nat.reduceAdd, Nat.add_zero, Nat.zero_add, ile, igt, ilt, inl, ieq, ine, iq10, i1z, im1, im11, iml, imle, inm, nI_1, nI_add, isub1, isb, iaddm, pk_mul, si_hit, si_miss, si_oth, wo_oth, zl_0, zl_2, zl_3, zl_4, zl_5, zl_6, zl_7, zl_9, zl_10, zl_32, zl_35, zl_36, zl_48, zl_57, zl_59, zl_60, zl_61, zl_62, zl_63, zl_64, zl_65, zl_99, zl_100, zl_102, zl_109, zl_110, zl_115, zl_116, zl_119, zl_120, zl_121, zl_126, zl_605, zl_720, zl_1957, zl_1000000, a_2, a_3, a_4, a_5, a_6, a_46, a_47, a_55, a_56, a_58, a_68, a_69, a_70, a_73, a_74, a_76, a_77, a_78, a_79, a_80, a_81, a_82, a_83, a_84, a_85, a_86, a_87, a_88, a_89, a_90, a_91, a_92, a_93, a_94, a_95, s_2, s_3, s_4, s_5, s_6, s_46, s_47, s_55, s_56, s_58, s_68, s_69, s_70, s_73, s_74, s_76, s_77, s_78, s_79, s_80, s_81, s_82, s_83, s_84, s_85, s_86, s_87, s_88, s_89, s_90, s_91, s_92, s_93, s_94, s_95, it_5, it_6, it_46, it_47, it_50, it_53, it_55, it_56, it_58, it_63, it_66, it_68, it_69, it_70, it_71, it_74, it_97, se_5, se_6, se_46, se_47, se_50, se_53, se_55, se_56, se_58, se_63, se_66, se_68, se_69, se_70, se_71, se_74, se_97, at_2, at_3, at_4, at_49, at_51, at_52, at_62, at_64, at_65, pu_2, pu_3, pu_4, pu_49, pu_51, pu_52, pu_62, pu_64, pu_65, hc]
      | true =>
        simp only [if_true] at hc ⊢
        obtain ⟨h0, h1, h2, h3, h4, h5, h6, h7, h8⟩ := hc
        have e := h8 w (by omega)
        simp (disch := omega) only [if_true, if_false, obs, Option.bind_none, Sum.elim_inl, Sum.elim_inr, Option.elim, Nat.reduceAdd, Nat.add_zero, Nat.zero_add, ile, igt, ilt, inl, ieq, ine, iq10, i1z, im1, im11, iml, imle, inm, nI_1, nI_add, isub1, isb, iaddm, pk_mul, si_hit, si_miss, si_oth, wo_oth, zl_0, zl_2, zl_3, zl_4, zl_5, zl_6, zl_7, zl_9, zl_10, zl_32, zl_35, zl_36, zl_48, zl_57, zl_59, zl_60, zl_61, zl_62, zl_63, zl_64, zl_65, zl_99, zl_100, zl_102, zl_109, zl_110, zl_115, zl_116, zl_119, zl_120, zl_121, zl_126, zl_605, zl_720, zl_1957, zl_1000000, a_2, a_3, a_4, a_5, a_6, a_46, a_47, a_55, a_56, a_58, a_68, a_69, a_70, a_73, a_74, a_76, a_77, a_78, a_79, a_80, a_81, a_82, a_83, a_84, a_85, a_86, a_87, a_88, a_89, a_90, a_91, a_92, a_93, a_94, a_95, s_2, s_3, s_4, s_5, s_6, s_46, s_47, s_55, s_56, s_58, s_68, s_69, s_70, s_73, s_74, s_76, s_77, s_78, s_79, s_80, s_81, s_82, s_83, s_84, s_85, s_86, s_87, s_88, s_89, s_90, s_91, s_92, s_93, s_94, s_95, it_5, it_6, it_46, it_47, it_50, it_53, it_55, it_56, it_58, it_63, it_66, it_68, it_69, it_70, it_71, it_74, it_97, se_5, se_6, se_46, se_47, se_50, se_53, se_55, se_56, se_58, se_63, se_66, se_68, se_69, se_70, se_71, se_74, se_97, at_2, at_3, at_4, at_49, at_51, at_52, at_62, at_64, at_65, pu_2, pu_3, pu_4, pu_49, pu_51, pu_52, pu_62, pu_64, pu_65, h0, e]
    · show f_X9_nodes σ 75 (nI w) = _
      unfold f_X9_nodes f_X9_nodes_J38
      rw [show (0 : Int32) = nI 0 from rfl, show (6 : Int32) = nI 6 from rfl, in_yes (by omega) hw (by omega)]
      cases md with
      | false =>
        simp only [Bool.false_eq_true, if_false] at hm ⊢
        simp (disch := omega) only [if_true, if_false, obs, Option.bind_none, Sum.elim_inl, Sum.elim_inr, Option.elim, Nat.reduceAdd, Nat.add_zero, Nat.zero_add, ile, igt, ilt, inl, ieq, ine, iq10, i1z, im1, im11, iml, imle, inm, nI_1, nI_add, isub1, isb, iaddm, pk_mul, si_hit, si_miss, si_oth, wo_oth, zl_0, zl_2, zl_3, zl_4, zl_5, zl_6, zl_7, zl_9, zl_10, zl_32, zl_35, zl_36, zl_48, zl_57, zl_59, zl_60, zl_61, zl_62, zl_63, zl_64, zl_65, zl_99, zl_100, zl_102, zl_109, zl_110, zl_115, zl_116, zl_119, zl_120, zl_121, zl_126, zl_605, zl_720, zl_1957, zl_1000000, a_2, a_3, a_4, a_5, a_6, a_46, a_47, a_55, a_56, a_58, a_68, a_69, a_70, a_73, a_74, a_76, a_77, a_78, a_79, a_80, a_81, a_82, a_83, a_84, a_85, a_86, a_87, a_88, a_89, a_90, a_91, a_92, a_93, a_94, a_95, s_2, s_3, s_4, s_5, s_6, s_46, s_47, s_55, s_56, s_58, s_68, s_69, s_70, s_73, s_74, s_76, s_77, s_78, s_79, s_80, s_81, s_82, s_83, s_84, s_85, s_86, s_87, s_88, s_89, s_90, s_91, s_92, s_93, s_94, s_95, it_5, it_6, it_46, it_47, it_50, it_53, it_55, it_56, it_58, it_63, it_66, it_68, it_69, it_70, it_71, it_74, it_97, se_5, se_6, se_46, se_47, se_50, se_53, se_55, se_56, se_58, se_63, se_66, se_68, se_69, se_70, se_71, se_74, se_97, at_2, at_3, at_4, at_49, at_51, at_52, at_62, at_64, at_65, pu_2, pu_3, pu_4, pu_49, pu_51, pu_52, pu_62, pu_64, pu_65, hm, tells_ok]
      | true =>
        simp only [if_true] at hm ⊢
        obtain ⟨h0, h1, h2⟩ := hm
        have e := h2 w (by omega)
        simp (disch := omega) only [if_true, if_false, obs, Option.bind_none, Sum.elim_inl, Sum.elim_inr, Option.elim, Nat.reduceAdd, Nat.add_zero, Nat.zero_add, ile, igt, ilt, inl, ieq, ine, iq10, i1z, im1, im11, iml, imle, inm, nI_1, nI_add, isub1, isb, iaddm, pk_mul, si_hit, si_miss, si_oth, wo_oth, zl_0, zl_2, zl_3, zl_4, zl_5, zl_6, zl_7, zl_9, zl_10, zl_32, zl_35, zl_36, zl_48, zl_57, zl_59, zl_60, zl_61, zl_62, zl_63, zl_64, zl_65, zl_99, zl_100, zl_102, zl_109, zl_110, zl_115, zl_116, zl_119, zl_120, zl_121, zl_126, zl_605, zl_720, zl_1957, zl_1000000, a_2, a_3, a_4, a_5, a_6, a_46, a_47, a_55, a_56, a_58, a_68, a_69, a_70, a_73, a_74, a_76, a_77, a_78, a_79, a_80, a_81, a_82, a_83, a_84, a_85, a_86, a_87, a_88, a_89, a_90, a_91, a_92, a_93, a_94, a_95, s_2, s_3, s_4, s_5, s_6, s_46, s_47, s_55, s_56, s_58, s_68, s_69, s_70, s_73, s_74, s_76, s_77, s_78, s_79, s_80, s_81, s_82, s_83, s_84, s_85, s_86, s_87, s_88, s_89, s_90, s_91, s_92, s_93, s_94, s_95, it_5, it_6, it_46, it_47, it_50, it_53, it_55, it_56, it_58, it_63, it_66, it_68, it_69, it_70, it_71, it_74, it_97, se_5, se_6, se_46, se_47, se_50, se_53, se_55, se_56, se_58, se_63, se_66, se_68, se_69, se_70, se_71, se_74, se_97, at_2, at_3, at_4, at_49, at_51, at_52, at_62, at_64, at_65, pu_2, pu_3, pu_4, pu_49, pu_51, pu_52, pu_62, pu_64, pu_65, e, tells_ok]
        rw [if_neg h0]
theorem char_ok : ∀ v, v < 127 → ((nI v).toUInt32 % 65536).toInt32 = nI v ∧ vp_nar .char (nI v) = nI v := by decide +kernel
def txU (tx : Nat → Nat) (T v : Nat) : Nat → Nat := fun i => if i = T then v else tx i
theorem txU_h {tx : Nat → Nat} {T v : Nat} : txU tx T v T = v := if_pos rfl
theorem txU_n {tx : Nat → Nat} {T v i : Nat} (h : i ≠ T) : txU tx T v i = tx i := if_neg h
theorem CI_tx {σ : Sg} {s : Nat → Int32} {c : Nat} {h : Nat → Nat → Int32} {T T' : Nat} {tx tx' : Nat → Nat} {md : Bool} {rs : Nat → Int32} {σ' : Sg} (H : CI σ s c h T tx md rs) (hF : Fr [72, 73] σ σ') (ht : TC σ' T' tx') : CI σ' s c h T' tx' md rs := by
  obtain ⟨⟨h1, h2, h3⟩, h4, h5⟩ := H
  refine ⟨⟨by rw [hF.at (by decide), h1], ?_, HC_fr h3 (fun q hq => hF q (fun z => by simp only [List.mem_cons, List.not_mem_nil, or_false] at z; omega))⟩, ht, FC_fr h5 (hF.at (by decide)) (hF.at (by decide))⟩
  rw [snap_fr (σ := σ) (fun d hd => hF _ (fun z => by simp only [List.mem_cons, List.not_mem_nil, or_false] at z; omega))]
  exact h2
theorem J_type {σ : Sg} (H : Iv σ) (a : Int32) : JU 0 1 (f_X8_type σ 0 a) (fun σ => f_X9_type σ 75 a) := by
  have H' := H
  obtain ⟨s, c, h, T, tx, md, rs, hG, hC, hM⟩ := H'
  obtain ⟨t1, t2⟩ := hG.2.2
  obtain ⟨c1, c2⟩ := hC.2.1
  obtain ⟨m1, m2⟩ := hM.2.1
  by_cases hb : a < nI 32 ∨ nI 126 < a
  · refine Or.inr (Or.inl ⟨0, σ, si σ 75 6 1, ?_, ?_, si_hit, Iv_75 H (by decide) (by decide)⟩)
    · unfold f_X8_type
      rw [show (32 : Int32) = nI 32 from rfl, show (126 : Int32) = nI 126 from rfl]
      by_cases c1 : a < nI 32
      · rw [if_pos c1]
      · have := hb.resolve_left c1
        rw [if_neg c1, if_neg (by grind)]
    · show f_X9_type σ 75 a = _
      unfold f_X9_type
      rw [show (32 : Int32) = nI 32 from rfl, show (126 : Int32) = nI 126 from rfl, in_no hb]
      rfl
  · have h0 : ¬ a < 0 := fun z => hb (Or.inl (by have : (0 : Int32) < nI 32 := by decide
                                                 grind))
    obtain ⟨v, hv, rfl⟩ := nI_of2 (M := 126) (n := 126) (by decide) h0 (by
      have : ¬ nI 126 < a := fun z => hb (Or.inr z)
      show a ≤ nI 126
      grind)
    have hv1 : 32 ≤ v := by
      by_cases q : 32 ≤ v
      · exact q
      · exact (hb (Or.inl (nI_lt (by omega) (by omega)))).elim
    by_cases hT : T = 120
    · refine Or.inr (Or.inr ⟨0, σ, si σ 75 6 2, ?_, ?_, si_hit, Iv_75 H (by decide) (by decide), by decide⟩)
      · unfold f_X8_type
        simp (disch := omega) only [if_true, if_false, obs, Option.bind_none, Sum.elim_inl, Sum.elim_inr, Option.elim, Nat.reduceAdd, Nat.add_zero, Nat.zero_add, ile, igt, ilt, inl, ieq, ine, iq10, i1z, im1, im11, iml, imle, inm, nI_1, nI_add, isub1, isb, iaddm, pk_mul, si_hit, si_miss, si_oth, wo_oth, zl_0, zl_2, zl_3, zl_4, zl_5, zl_6, zl_7, zl_9, zl_10, zl_32, zl_35, zl_36, zl_48, zl_57, zl_59, zl_60, zl_61, zl_62, zl_63, zl_64, zl_65, zl_99, zl_100, zl_102, zl_109, zl_110, zl_115, zl_116, zl_119, zl_120, zl_121, zl_126, zl_605, zl_720, zl_1957, zl_1000000, a_2, a_3, a_4, a_5, a_6, a_46, a_47, a_55, a_56, a_58, a_68, a_69, a_70, a_73, a_74, a_76, a_77, a_78, a_79, a_80, a_81, a_82, a_83, a_84, a_85, a_86, a_87, a_88, a_89, a_90, a_91, a_92, a_93, a_94, a_95, s_2, s_3, s_4, s_5, s_6, s_46, s_47, s_55, s_56, s_58, s_68, s_69, s_70, s_73, s_74, s_76, s_77, s_78, s_79, s_80, s_81, s_82, s_83, s_84, s_85, s_86, s_87, s_88, s_89, s_90, s_91, s_92, s_93, s_94, s_95, it_5, it_6, it_46, it_47, it_50, it_53, it_55, it_56, it_58, it_63, it_66, it_68, it_69, it_70, it_71, it_74, it_97, se_5, se_6, se_46, se_47, se_50, se_53, se_55, se_56, se_58, se_63, se_66, se_68, se_69, se_70, se_71, se_74, se_97, at_2, at_3, at_4, at_49, at_51, at_52, at_62, at_64, at_65, pu_2, pu_3, pu_4, pu_49, pu_51, pu_52, pu_62, pu_64, pu_65, c1, hT]
      · show f_X9_type σ 75 (nI v) = _
        unfold f_X9_type
        rw [show (32 : Int32) = nI 32 from rfl, show (126 : Int32) = nI 126 from rfl, in_yes hv1 hv (by omega)]
        rw [m1, hT]
        simp only [obs]
        rw [if_neg (by decide), if_pos (show nI 120 = 120 from rfl)]
        rfl
    · have cl : f_X8_type σ 0 (nI v) = some (.inr (nI (T + 1), si (si σ 73 T (nI v)) 72 0 (nI (T + 1)))) := by
        unfold f_X8_type f_X4_append
        simp (disch := omega) only [if_true, if_false, obs, Option.bind_none, Sum.elim_inl, Sum.elim_inr, Option.elim, Nat.reduceAdd, Nat.add_zero, Nat.zero_add, ile, igt, ilt, inl, ieq, ine, iq10, i1z, im1, im11, iml, imle, inm, nI_1, nI_add, isub1, isb, iaddm, pk_mul, si_hit, si_miss, si_oth, wo_oth, zl_0, zl_2, zl_3, zl_4, zl_5, zl_6, zl_7, zl_9, zl_10, zl_32, zl_35, zl_36, zl_48, zl_57, zl_59, zl_60, zl_61, zl_62, zl_63, zl_64, zl_65, zl_99, zl_100, zl_102, zl_109, zl_110, zl_115, zl_116, zl_119, zl_120, zl_121, zl_126, zl_605, zl_720, zl_1957, zl_1000000, a_2, a_3, a_4, a_5, a_6, a_46, a_47, a_55, a_56, a_58, a_68, a_69, a_70, a_73, a_74, a_76, a_77, a_78, a_79, a_80, a_81, a_82, a_83, a_84, a_85, a_86, a_87, a_88, a_89, a_90, a_91, a_92, a_93, a_94, a_95, s_2, s_3, s_4, s_5, s_6, s_46, s_47, s_55, s_56, s_58, s_68, s_69, s_70, s_73, s_74, s_76, s_77, s_78, s_79, s_80, s_81, s_82, s_83, s_84, s_85, s_86, s_87, s_88, s_89, s_90, s_91, s_92, s_93, s_94, s_95, it_5, it_6, it_46, it_47, it_50, it_53, it_55, it_56, it_58, it_63, it_66, it_68, it_69, it_70, it_71, it_74, it_97, se_5, se_6, se_46, se_47, se_50, se_53, se_55, se_56, se_58, se_63, se_66, se_68, se_69, se_70, se_71, se_74, se_97, at_2, at_3, at_4, at_49, at_51, at_52, at_62, at_64, at_65, pu_2, pu_3, pu_4, pu_49, pu_51, pu_52, pu_62, pu_64, pu_65, c1, (char_ok v (by omega)).1, (char_ok v (by omega)).2, show Int32.ofNat (ln 73) = nI 120 from by rw [ln_73]; rfl]
      generalize hσ1 : si (si σ 73 T (nI v)) 72 0 (nI (T + 1)) = σ1 at cl
      have f1 : Fr [72, 73] σ σ1 := by rw [← hσ1]; exact (Fr.rf.si (by decide)).si (by decide)
      have hC' : CI σ1 s c h (T + 1) (txU tx T v) md rs := CI_tx hC f1 ⟨by rw [← hσ1, si_hit], fun i hi => by
        rw [← hσ1, si_oth (by omega)]
        by_cases q : i = T
        · rw [q, si_hit, txU_h]
        · rw [si_miss q, txU_n q, c2 i (by omega)]⟩
      have hM1 := MI_fr hM f1 (by decide)
      obtain ⟨w1, w2⟩ := hM1.2.1
      generalize hσ2 : si (si σ1 79 T (nI v)) 75 5 (nI (T + 1)) = σ2
      have f2 : Fr [75, 79] σ1 σ2 := by rw [← hσ2]; exact (Fr.rf.si (by decide)).si (by decide)
      have hM' : MI σ2 s c h (T + 1) (txU tx T v) md rs := ⟨⟨by rw [f2.at (by decide)]; exact hM1.1.1, HM_fr hM1.1.2 (by rw [← hσ2, si_miss (by omega), si_oth (by omega)]) (f2.at (by decide))⟩, ⟨by rw [← hσ2, si_hit], fun i hi => by
        rw [← hσ2, si_oth (by omega)]
        by_cases q : i = T
        · rw [q, si_hit, txU_h]
        · rw [si_miss q, txU_n q, w2 i (by omega)]⟩, FM_fr hM1.2.2 (f2.at (by decide)) (f2.at (by decide))⟩
      have hG' : GI s c h (T + 1) (txU tx T v) := ⟨hG.1, hG.2.1, by omega, fun i hi => by
        by_cases q : i = T
        · rw [q, txU_h]; exact ⟨hv1, hv⟩
        · rw [txU_n q]; exact t2 i (by omega)⟩
      refine Or.inl ⟨nI (T + 1), σ1, si σ2 75 6 0, cl, ?_, si_hit, Iv_75 (Iv_of hG' (CI_fr hC' f2 (by decide)) hM') (by decide) (by decide)⟩
      show f_X9_type σ1 75 (nI v) = _
      unfold f_X9_type
      rw [show (32 : Int32) = nI 32 from rfl, show (126 : Int32) = nI 126 from rfl, in_yes hv1 hv (by omega)]
      simp (disch := omega) only [if_true, if_false, obs, Option.bind_none, Sum.elim_inl, Sum.elim_inr, Option.elim, Nat.reduceAdd, Nat.add_zero, Nat.zero_add, ile, igt, ilt, inl, ieq, ine, iq10, i1z, im1, im11, iml, imle, inm, nI_1, nI_add, isub1, isb, iaddm, pk_mul, si_hit, si_miss, si_oth, wo_oth, zl_0, zl_2, zl_3, zl_4, zl_5, zl_6, zl_7, zl_9, zl_10, zl_32, zl_35, zl_36, zl_48, zl_57, zl_59, zl_60, zl_61, zl_62, zl_63, zl_64, zl_65, zl_99, zl_100, zl_102, zl_109, zl_110, zl_115, zl_116, zl_119, zl_120, zl_121, zl_126, zl_605, zl_720, zl_1957, zl_1000000, a_2, a_3, a_4, a_5, a_6, a_46, a_47, a_55, a_56, a_58, a_68, a_69, a_70, a_73, a_74, a_76, a_77, a_78, a_79, a_80, a_81, a_82, a_83, a_84, a_85, a_86, a_87, a_88, a_89, a_90, a_91, a_92, a_93, a_94, a_95, s_2, s_3, s_4, s_5, s_6, s_46, s_47, s_55, s_56, s_58, s_68, s_69, s_70, s_73, s_74, s_76, s_77, s_78, s_79, s_80, s_81, s_82, s_83, s_84, s_85, s_86, s_87, s_88, s_89, s_90, s_91, s_92, s_93, s_94, s_95, it_5, it_6, it_46, it_47, it_50, it_53, it_55, it_56, it_58, it_63, it_66, it_68, it_69, it_70, it_71, it_74, it_97, se_5, se_6, se_46, se_47, se_50, se_53, se_55, se_56, se_58, se_63, se_66, se_68, se_69, se_70, se_71, se_74, se_97, at_2, at_3, at_4, at_49, at_51, at_52, at_62, at_64, at_65, pu_2, pu_3, pu_4, pu_49, pu_51, pu_52, pu_62, pu_64, pu_65, w1, hσ2, tells_ok]
theorem J_clearText {σ : Sg} (H : Iv σ) : JB (f_X8_clearText σ 0) (fun σ => f_X9_clearText σ 75) := by
  have H' := H
  obtain ⟨s, c, h, T, tx, md, rs, hG, hC, hM⟩ := H'
  obtain ⟨c1, c2⟩ := hC.2.1
  have f1 : Fr [72, 73] σ (si σ 72 0 0) := Fr.rf.si (by decide)
  have hC' : CI (si σ 72 0 0) s c h 0 tx md rs := CI_tx hC f1 ⟨si_hit, fun i hi => by omega⟩
  have hM1 := MI_fr hM f1 (by decide)
  obtain ⟨w1, w2⟩ := hM1.2.1
  have f2 : Fr [75] (si σ 72 0 0) (si (si σ 72 0 0) 75 5 0) := Fr.rf.si (by decide)
  have hM' : MI (si (si σ 72 0 0) 75 5 0) s c h 0 tx md rs := ⟨⟨by rw [f2.at (by decide)]; exact hM1.1.1, HM_fr hM1.1.2 (by rw [si_miss (by omega)]) (f2.at (by decide))⟩, ⟨si_hit, fun i hi => by omega⟩, FM_fr hM1.2.2 (f2.at (by decide)) (f2.at (by decide))⟩
  refine ⟨nI T, si σ 72 0 0, si (si (si σ 72 0 0) 75 5 0) 75 6 0, ?_, ?_, Iv_75 (Iv_of ⟨hG.1, hG.2.1, by omega, fun i hi => by omega⟩ (CI_75 hC' (by decide)) hM') (by decide) (by decide)⟩
  · unfold f_X8_clearText
    simp (disch := omega) only [if_true, if_false, obs, Option.bind_none, Sum.elim_inl, Sum.elim_inr, Option.elim, Nat.reduceAdd, Nat.add_zero, Nat.zero_add, ile, igt, ilt, inl, ieq, ine, iq10, i1z, im1, im11, iml, imle, inm, nI_1, nI_add, isub1, isb, iaddm, pk_mul, si_hit, si_miss, si_oth, wo_oth, zl_0, zl_2, zl_3, zl_4, zl_5, zl_6, zl_7, zl_9, zl_10, zl_32, zl_35, zl_36, zl_48, zl_57, zl_59, zl_60, zl_61, zl_62, zl_63, zl_64, zl_65, zl_99, zl_100, zl_102, zl_109, zl_110, zl_115, zl_116, zl_119, zl_120, zl_121, zl_126, zl_605, zl_720, zl_1957, zl_1000000, a_2, a_3, a_4, a_5, a_6, a_46, a_47, a_55, a_56, a_58, a_68, a_69, a_70, a_73, a_74, a_76, a_77, a_78, a_79, a_80, a_81, a_82, a_83, a_84, a_85, a_86, a_87, a_88, a_89, a_90, a_91, a_92, a_93, a_94, a_95, s_2, s_3, s_4, s_5, s_6, s_46, s_47, s_55, s_56, s_58, s_68, s_69, s_70, s_73, s_74, s_76, s_77, s_78, s_79, s_80, s_81, s_82, s_83, s_84, s_85, s_86, s_87, s_88, s_89, s_90, s_91, s_92, s_93, s_94, s_95, it_5, it_6, it_46, it_47, it_50, it_53, it_55, it_56, it_58, it_63, it_66, it_68, it_69, it_70, it_71, it_74, it_97, se_5, se_6, se_46, se_47, se_50, se_53, se_55, se_56, se_58, se_63, se_66, se_68, se_69, se_70, se_71, se_74, se_97, at_2, at_3, at_4, at_49, at_51, at_52, at_62, at_64, at_65, pu_2, pu_3, pu_4, pu_49, pu_51, pu_52, pu_62, pu_64, pu_65, c1]
  · show f_X9_clearText (si σ 72 0 0) 75 = _
    unfold f_X9_clearText
    rw [w1]
    rfl
