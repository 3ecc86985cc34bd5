-- calls on the current assignment
theorem bIn_cong {n : Nat} {X : Nat → Int32} {g g' : Nat → Nat → Int32} {i m : Nat} {s : Int32 × Int32} (h : g i m = g' i m) : bIn X g i m s = bIn X g' i m s := by
  unfold bIn
  rw [h]
theorem bRow_cong {X : Nat → Int32} {g g' : Nat → Nat → Int32} {i : Nat} {s : Int32 × Int32} : ∀ c, (∀ j, i < j → j < i + 1 + c → g i j = g' i j) → bRow X g i s c = bRow X g' i s c
  | 0, _ => rfl
  | c + 1, h => by
    unfold bRow
    rw [bRow_cong c (fun j h1 h2 => h j h1 (by omega))]
    exact bIn_cong (n := 0) (h _ (by omega) (by omega))
theorem bAll_cong {n : Nat} {X : Nat → Int32} {g g' : Nat → Nat → Int32} (h : ∀ i j, i < n → j < n → g i j = g' i j) : ∀ m, m ≤ n → bAll n X g m = bAll n X g' m
  | 0, _ => rfl
  | m + 1, hm => by
    unfold bAll
    rw [bAll_cong h m (by omega)]
    exact bRow_cong _ (fun j h1 h2 => h m j (by omega) (by omega))
theorem Gd.pt {n : Nat} {s : Nat → Int32} (h : Gd n s) : Pt n (vS s 109) := by
  obtain ⟨h1, h2, -, -, ⟨t, h5, h6⟩, -⟩ := h
  exact Pt.cong (fun i hi => by rw [vS_at (by omega), h6 i hi]) (aV_pt h2 h5)
theorem mm_cost {σ : Sg} {s a : Nat → Int32} {n : Nat} (hs : EqS (σ 76) s) (hg : Gd n s) (hv : ∀ i, i < n → vec σ 80 0 i = a i) (ha : Pt n a) : f_X9_costOf σ 75 = some (costS n (tS s 1) (tS s 37) (tS s 73) a) := by
  rw [m_costOf (by rw [hs 0 (by omega), hg.2.2.1]) hg.2.1 (Pt.cong hv ha), rm_t hs (by omega), rm_t hs (by omega), rm_t hs (by omega), costS_cong hv]
theorem mm_gain {σ : Sg} {s a : Nat → Int32} {n i j : Nat} (hs : EqS (σ 76) s) (hg : Gd n s) (hv : ∀ i, i < n → vec σ 80 0 i = a i) (ha : Pt n a) (hi : i < n) (hj : j < n) : f_X9_gainOf σ 75 (nI i) (nI j) = some (gS n (tS s 1) (tS s 37) (tS s 73) a i j, σ) := by
  rw [m_gainOf (by rw [hs 0 (by omega), hg.2.2.1]) hg.2.1 (Pt.cong hv ha) hi hj, rm_t hs (by omega), rm_t hs (by omega), rm_t hs (by omega), ← gS_cong hv hi hj]
  rfl
theorem mm_best {σ : Sg} {s a : Nat → Int32} {n : Nat} (hs : EqS (σ 76) s) (hg : Gd n s) (hv : ∀ i, i < n → vec σ 80 0 i = a i) (ha : Pt n a) : f_X9_bestOf σ 75 = some ((bAll n (vS s 115) (gS n (tS s 1) (tS s 37) (tS s 73) a) n).1, σ) := by
  rw [m_bestOf (by rw [hs 0 (by omega), hg.2.2.1]) hg.2.1 (Pt.cong hv ha), rm_t hs (by omega), rm_t hs (by omega), rm_t hs (by omega), rm_v hs (by omega), bAll_cong (fun i j hi hj => gS_cong hv hi hj) n (Nat.le_refl n)]
theorem mm_local {σ : Sg} {s a : Nat → Int32} {n : Nat} (hs : EqS (σ 76) s) (hg : Gd n s) (hv : ∀ i, i < n → vec σ 80 0 i = a i) (ha : Pt n a) : f_X9_isLocal σ 75 = some (if locB n (vS s 115) (gS n (tS s 1) (tS s 37) (tS s 73) a) then 1 else 0, σ) := by
  rw [m_isLocal (by rw [hs 0 (by omega), hg.2.2.1]) hg.2.1 (Pt.cong hv ha), rm_t hs (by omega), rm_t hs (by omega), rm_t hs (by omega), rm_v hs (by omega), locB_cong hg.2.1 (fun i j hi hj => gS_cong hv hi hj)]
theorem mm_num {σ : Sg} {s a : Nat → Int32} {n : Nat} (hs : EqS (σ 76) s) (hg : Gd n s) (hv : ∀ i, i < n → vec σ 80 0 i = a i) : f_X9_numberOf σ 75 = some (numS n a) := by
  rw [m_numberOf (by rw [hs 0 (by omega), hg.2.2.1]) hg.2.1, numS_cong hv]
theorem cc_cost {σ : Sg} {s a : Nat → Int32} {k n : Nat} (hs : EqS (snap σ 1) s) (hg : Gd n s) (hk : ln k = 6) (hv : ∀ i, i < n → vec σ k 0 i = a i) (ha : Pt n a) : f_X6_costOf σ 1 k = some (costS n (tS s 1) (tS s 37) (tS s 73) a) := by
  rw [costOf6_ok (by rw [rc_0 hs, hg.2.2.1]) hg.2.1 hk (Pt.cong hv ha), rc_F hs, rc_D hs, rc_C hs, costS_cong hv]
theorem cc_gain {σ : Sg} {s a : Nat → Int32} {k n i j : Nat} (hs : EqS (snap σ 1) s) (hg : Gd n s) (hk : ln k = 6) (hv : ∀ i, i < n → vec σ k 0 i = a i) (ha : Pt n a) (hi : i < n) (hj : j < n) : f_X6_gainOf σ 1 k (nI i) (nI j) = some (gS n (tS s 1) (tS s 37) (tS s 73) a i j) := by
  rw [gainOf6_ok (by rw [rc_0 hs, hg.2.2.1]) hg.2.1 hk (Pt.cong hv ha) hi hj, rc_F hs, rc_D hs, rc_C hs, ← gS_cong hv hi hj]
  rfl
theorem wo80 {σ : Sg} {s : Nat → Int32} {n : Nat} (hs : EqS (σ 76) s) (hn : n ≤ 6) : ∀ i, i < n → vec (wo σ 80 0 n (fun i => σ 76 (109 + i))) 80 0 i = vS s 109 i := fun i hi => by
  rw [vec_at (by omega), Nat.zero_add, wo_in0 hi, vS_at (by omega), hs _ (by omega)]
theorem fr_80 {σ : Sg} {n : Nat} {v : Nat → Int32} : Fr [80] σ (wo σ 80 0 n v) := wo_fr Fr.rf (by decide)
theorem Iv_fr {W : List Nat} {σ σ' : Sg} (H : Iv σ) (hF : Fr W σ σ') (h1 : W.all (fun q => !keepC q) = true) (h2 : W.all (fun q => !keepM q) = true) : Iv σ' := by
  obtain ⟨s, c, h, T, tx, md, rs, hG, hC, hM⟩ := H
  exact ⟨s, c, h, T, tx, md, rs, hG, CI_fr hC hF h1, MI_fr hM hF h2⟩
theorem J_cost {σ : Sg} (H : Iv σ) : JA (f_X8_cost σ 0) (fun σ => f_X9_cost σ 75) σ := by
  have H' := H
  obtain ⟨s, c, h, T, tx, md, rs, hG, hC, hM⟩ := H'
  obtain ⟨n, hg⟩ := hG.1
  have hm0 := MI_n hM hg
  have hw : EqS ((wo σ 80 0 n (fun i => σ 76 (109 + i))) 76) s := fun j hj => by rw [wo_oth (by omega)]; exact hM.1.1 j hj
  refine ⟨costS n (tS s 1) (tS s 37) (tS s 73) (vS s 109), si (wo σ 80 0 n (fun i => σ 76 (109 + i))) 75 6 0, ?_, ?_, Iv_75 (Iv_fr H fr_80 (by decide) (by decide)) (by decide) (by decide)⟩
  · unfold f_X8_cost
    simp (disch := omega) only [if_true, if_false, obs, Option.bind_none, Sum.elim_inl, Sum.elim_inr, Option.elim, Nat.reduceAdd, Nat.add_zero, Nat.zero_add, ile, igt, ilt, inl, ieq, ine, iq10, i1z, im1, im11, iml, imle, inm, nI_1, nI_add, isub1, isb, iaddm, pk_mul, si_hit, si_miss, si_oth, wo_oth, zl_0, zl_2, zl_3, zl_4, zl_5, zl_6, zl_7, zl_9, zl_10, zl_32, zl_35, zl_36, zl_48, zl_57, zl_59, zl_60, zl_61, zl_62, zl_63, zl_64, zl_65, zl_99, zl_100, zl_102, zl_109, zl_110, zl_115, zl_116, zl_119, zl_120, zl_121, zl_126, zl_605, zl_720, zl_1957, zl_1000000, a_2, a_3, a_4, a_5, a_6, a_46, a_47, a_55, a_56, a_58, a_68, a_69, a_70, a_73, a_74, a_76, a_77, a_78, a_79, a_80, a_81, a_82, a_83, a_84, a_85, a_86, a_87, a_88, a_89, a_90, a_91, a_92, a_93, a_94, a_95, s_2, s_3, s_4, s_5, s_6, s_46, s_47, s_55, s_56, s_58, s_68, s_69, s_70, s_73, s_74, s_76, s_77, s_78, s_79, s_80, s_81, s_82, s_83, s_84, s_85, s_86, s_87, s_88, s_89, s_90, s_91, s_92, s_93, s_94, s_95, it_5, it_6, it_46, it_47, it_50, it_53, it_55, it_56, it_58, it_63, it_66, it_68, it_69, it_70, it_71, it_74, it_97, se_5, se_6, se_46, se_47, se_50, se_53, se_55, se_56, se_58, se_63, se_66, se_68, se_69, se_70, se_71, se_74, se_97, at_2, at_3, at_4, at_49, at_51, at_52, at_62, at_64, at_65, pu_2, pu_3, pu_4, pu_49, pu_51, pu_52, pu_62, pu_64, pu_65, cc_cost hC.1.2.1 hg l5 (fun i hi => by rw [rc_P hC.1.2.1]) hg.pt]
  · show f_X9_cost σ 75 = _
    unfold f_X9_cost f_X9_presentCost
    simp (disch := omega) only [if_true, if_false, obs, Option.bind_none, Sum.elim_inl, Sum.elim_inr, Option.elim, Nat.reduceAdd, Nat.add_zero, Nat.zero_add, ile, igt, ilt, inl, ieq, ine, iq10, i1z, im1, im11, iml, imle, inm, nI_1, nI_add, isub1, isb, iaddm, pk_mul, si_hit, si_miss, si_oth, wo_oth, zl_0, zl_2, zl_3, zl_4, zl_5, zl_6, zl_7, zl_9, zl_10, zl_32, zl_35, zl_36, zl_48, zl_57, zl_59, zl_60, zl_61, zl_62, zl_63, zl_64, zl_65, zl_99, zl_100, zl_102, zl_109, zl_110, zl_115, zl_116, zl_119, zl_120, zl_121, zl_126, zl_605, zl_720, zl_1957, zl_1000000, a_2, a_3, a_4, a_5, a_6, a_46, a_47, a_55, a_56, a_58, a_68, a_69, a_70, a_73, a_74, a_76, a_77, a_78, a_79, a_80, a_81, a_82, a_83, a_84, a_85, a_86, a_87, a_88, a_89, a_90, a_91, a_92, a_93, a_94, a_95, s_2, s_3, s_4, s_5, s_6, s_46, s_47, s_55, s_56, s_58, s_68, s_69, s_70, s_73, s_74, s_76, s_77, s_78, s_79, s_80, s_81, s_82, s_83, s_84, s_85, s_86, s_87, s_88, s_89, s_90, s_91, s_92, s_93, s_94, s_95, it_5, it_6, it_46, it_47, it_50, it_53, it_55, it_56, it_58, it_63, it_66, it_68, it_69, it_70, it_71, it_74, it_97, se_5, se_6, se_46, se_47, se_50, se_53, se_55, se_56, se_58, se_63, se_66, se_68, se_69, se_70, se_71, se_74, se_97, at_2, at_3, at_4, at_49, at_51, at_52, at_62, at_64, at_65, pu_2, pu_3, pu_4, pu_49, pu_51, pu_52, pu_62, pu_64, pu_65, m_takes hm0 hg.2.1, mm_cost hw hg (wo80 hM.1.1 hg.2.1) hg.pt, tells_ok]
theorem J_number {σ : Sg} (H : Iv σ) : JA (f_X8_number σ 0) (fun σ => f_X9_number σ 75) σ := by
  have H' := H
  obtain ⟨s, c, h, T, tx, md, rs, hG, hC, hM⟩ := H'
  obtain ⟨n, hg⟩ := hG.1
  have hc0 := CI_n hC hg
  have hm0 := MI_n hM hg
  have hw : EqS ((wo σ 80 0 n (fun i => σ 76 (109 + i))) 76) s := fun j hj => by rw [wo_oth (by omega)]; exact hM.1.1 j hj
  refine ⟨numS n (vS s 109), si (wo σ 80 0 n (fun i => σ 76 (109 + i))) 75 6 0, ?_, ?_, Iv_75 (Iv_fr H fr_80 (by decide) (by decide)) (by decide) (by decide)⟩
  · unfold f_X8_number
    simp (disch := omega) only [if_true, if_false, obs, Option.bind_none, Sum.elim_inl, Sum.elim_inr, Option.elim, Nat.reduceAdd, Nat.add_zero, Nat.zero_add, ile, igt, ilt, inl, ieq, ine, iq10, i1z, im1, im11, iml, imle, inm, nI_1, nI_add, isub1, isb, iaddm, pk_mul, si_hit, si_miss, si_oth, wo_oth, zl_0, zl_2, zl_3, zl_4, zl_5, zl_6, zl_7, zl_9, zl_10, zl_32, zl_35, zl_36, zl_48, zl_57, zl_59, zl_60, zl_61, zl_62, zl_63, zl_64, zl_65, zl_99, zl_100, zl_102, zl_109, zl_110, zl_115, zl_116, zl_119, zl_120, zl_121, zl_126, zl_605, zl_720, zl_1957, zl_1000000, a_2, a_3, a_4, a_5, a_6, a_46, a_47, a_55, a_56, a_58, a_68, a_69, a_70, a_73, a_74, a_76, a_77, a_78, a_79, a_80, a_81, a_82, a_83, a_84, a_85, a_86, a_87, a_88, a_89, a_90, a_91, a_92, a_93, a_94, a_95, s_2, s_3, s_4, s_5, s_6, s_46, s_47, s_55, s_56, s_58, s_68, s_69, s_70, s_73, s_74, s_76, s_77, s_78, s_79, s_80, s_81, s_82, s_83, s_84, s_85, s_86, s_87, s_88, s_89, s_90, s_91, s_92, s_93, s_94, s_95, it_5, it_6, it_46, it_47, it_50, it_53, it_55, it_56, it_58, it_63, it_66, it_68, it_69, it_70, it_71, it_74, it_97, se_5, se_6, se_46, se_47, se_50, se_53, se_55, se_56, se_58, se_63, se_66, se_68, se_69, se_70, se_71, se_74, se_97, at_2, at_3, at_4, at_49, at_51, at_52, at_62, at_64, at_65, pu_2, pu_3, pu_4, pu_49, pu_51, pu_52, pu_62, pu_64, pu_65, hc0, numberOf8_ok hC.1.1 hg.2.1 l5, rc_P hC.1.2.1]
  · show f_X9_number σ 75 = _
    unfold f_X9_number
    simp (disch := omega) only [if_true, if_false, obs, Option.bind_none, Sum.elim_inl, Sum.elim_inr, Option.elim, Nat.reduceAdd, Nat.add_zero, Nat.zero_add, ile, igt, ilt, inl, ieq, ine, iq10, i1z, im1, im11, iml, imle, inm, nI_1, nI_add, isub1, isb, iaddm, pk_mul, si_hit, si_miss, si_oth, wo_oth, zl_0, zl_2, zl_3, zl_4, zl_5, zl_6, zl_7, zl_9, zl_10, zl_32, zl_35, zl_36, zl_48, zl_57, zl_59, zl_60, zl_61, zl_62, zl_63, zl_64, zl_65, zl_99, zl_100, zl_102, zl_109, zl_110, zl_115, zl_116, zl_119, zl_120, zl_121, zl_126, zl_605, zl_720, zl_1957, zl_1000000, a_2, a_3, a_4, a_5, a_6, a_46, a_47, a_55, a_56, a_58, a_68, a_69, a_70, a_73, a_74, a_76, a_77, a_78, a_79, a_80, a_81, a_82, a_83, a_84, a_85, a_86, a_87, a_88, a_89, a_90, a_91, a_92, a_93, a_94, a_95, s_2, s_3, s_4, s_5, s_6, s_46, s_47, s_55, s_56, s_58, s_68, s_69, s_70, s_73, s_74, s_76, s_77, s_78, s_79, s_80, s_81, s_82, s_83, s_84, s_85, s_86, s_87, s_88, s_89, s_90, s_91, s_92, s_93, s_94, s_95, it_5, it_6, it_46, it_47, it_50, it_53, it_55, it_56, it_58, it_63, it_66, it_68, it_69, it_70, it_71, it_74, it_97, se_5, se_6, se_46, se_47, se_50, se_53, se_55, se_56, se_58, se_63, se_66, se_68, se_69, se_70, se_71, se_74, se_97, at_2, at_3, at_4, at_49, at_51, at_52, at_62, at_64, at_65, pu_2, pu_3, pu_4, pu_49, pu_51, pu_52, pu_62, pu_64, pu_65, m_takes hm0 hg.2.1, mm_num hw hg (wo80 hM.1.1 hg.2.1), tells_ok]
theorem J_bestExchange {σ : Sg} (H : Iv σ) : JA (f_X8_bestExchange σ 0) (fun σ => f_X9_bestExchange σ 75) σ := by
  have H' := H
  obtain ⟨s, c, h, T, tx, md, rs, hG, hC, hM⟩ := H'
  obtain ⟨n, hg⟩ := hG.1
  have hc0 := CI_n hC hg
  have hm0 := MI_n hM hg
  have hw : EqS ((wo σ 80 0 n (fun i => σ 76 (109 + i))) 76) s := fun j hj => by rw [wo_oth (by omega)]; exact hM.1.1 j hj
  refine ⟨(bAll n (vS s 115) (gS n (tS s 1) (tS s 37) (tS s 73) (vS s 109)) n).1, si (wo σ 80 0 n (fun i => σ 76 (109 + i))) 75 6 0, ?_, ?_, Iv_75 (Iv_fr H fr_80 (by decide) (by decide)) (by decide) (by decide)⟩
  · unfold f_X8_bestExchange
    rw [bestPair6_ok hc0 hg.2.1 (by rw [rc_P hC.1.2.1]; exact hg.pt), rc_P hC.1.2.1, rc_X hC.1.2.1, rc_F hC.1.2.1, rc_D hC.1.2.1, rc_C hC.1.2.1]
    rfl
  · show f_X9_bestExchange σ 75 = _
    unfold f_X9_bestExchange
    simp (disch := omega) only [if_true, if_false, obs, Option.bind_none, Sum.elim_inl, Sum.elim_inr, Option.elim, Nat.reduceAdd, Nat.add_zero, Nat.zero_add, ile, igt, ilt, inl, ieq, ine, iq10, i1z, im1, im11, iml, imle, inm, nI_1, nI_add, isub1, isb, iaddm, pk_mul, si_hit, si_miss, si_oth, wo_oth, zl_0, zl_2, zl_3, zl_4, zl_5, zl_6, zl_7, zl_9, zl_10, zl_32, zl_35, zl_36, zl_48, zl_57, zl_59, zl_60, zl_61, zl_62, zl_63, zl_64, zl_65, zl_99, zl_100, zl_102, zl_109, zl_110, zl_115, zl_116, zl_119, zl_120, zl_121, zl_126, zl_605, zl_720, zl_1957, zl_1000000, a_2, a_3, a_4, a_5, a_6, a_46, a_47, a_55, a_56, a_58, a_68, a_69, a_70, a_73, a_74, a_76, a_77, a_78, a_79, a_80, a_81, a_82, a_83, a_84, a_85, a_86, a_87, a_88, a_89, a_90, a_91, a_92, a_93, a_94, a_95, s_2, s_3, s_4, s_5, s_6, s_46, s_47, s_55, s_56, s_58, s_68, s_69, s_70, s_73, s_74, s_76, s_77, s_78, s_79, s_80, s_81, s_82, s_83, s_84, s_85, s_86, s_87, s_88, s_89, s_90, s_91, s_92, s_93, s_94, s_95, it_5, it_6, it_46, it_47, it_50, it_53, it_55, it_56, it_58, it_63, it_66, it_68, it_69, it_70, it_71, it_74, it_97, se_5, se_6, se_46, se_47, se_50, se_53, se_55, se_56, se_58, se_63, se_66, se_68, se_69, se_70, se_71, se_74, se_97, at_2, at_3, at_4, at_49, at_51, at_52, at_62, at_64, at_65, pu_2, pu_3, pu_4, pu_49, pu_51, pu_52, pu_62, pu_64, pu_65, m_takes hm0 hg.2.1, mm_best hw hg (wo80 hM.1.1 hg.2.1) hg.pt, tells_ok]
theorem J_gain {σ : Sg} (H : Iv σ) (a b : Int32) : JT 2 9 (f_X8_gain σ 0 a b) (fun σ => f_X9_gain σ 75 a b) σ := by
  have H' := H
  obtain ⟨s, c, h, T, tx, md, rs, hG, hC, hM⟩ := H'
  obtain ⟨n, hg⟩ := hG.1
  have hc0 := CI_n hC hg
  have hm0 := MI_n hM hg
  have h1 := hg.1
  have hn := hg.2.1
  have bad1 : f_X8_gain σ 0 a b = some (.inl 2) → f_X9_gain σ 75 a b = some (0, si σ 75 6 1) → JT 2 9 (f_X8_gain σ 0 a b) (fun σ1 => f_X9_gain σ1 75 a b) σ := fun e1 e2 => Or.inr (Or.inl ⟨0, si σ 75 6 1, e1, e2, si_hit, Iv_75 H (by decide) (by decide)⟩)
  unfold f_X8_gain at bad1 ⊢
  unfold f_X9_gain f_X9_gain_J16 at bad1
  rcases ixc n (by omega) a with ha | ⟨i, hi, rfl⟩
  · exact bad1 (by rw [rq_no hc0 ha]; rfl) (by rw [one_no hm0 h1 hn ha]; rfl)
  rcases ixc n (by omega) b with hb | ⟨j, hj, rfl⟩
  · exact bad1 (by rw [rq_yes hc0 hn hi, rq_no hc0 hb]; rfl) (by rw [one_yes hm0 hn hi, one_no hm0 h1 hn hb]; rfl)
  have hw : EqS ((wo σ 80 0 n (fun i => σ 76 (109 + i))) 76) s := fun j hj => by rw [wo_oth (by omega)]; exact hM.1.1 j hj
  refine Or.inl ⟨gS n (tS s 1) (tS s 37) (tS s 73) (vS s 109) i j, si (wo σ 80 0 n (fun i => σ 76 (109 + i))) 75 6 0, ?_, ?_, si_hit, Iv_75 (Iv_fr H fr_80 (by decide) (by decide)) (by decide) (by decide)⟩
  · rw [rq_yes hc0 hn hi, rq_yes hc0 hn hj]
    simp (disch := omega) only [if_true, if_false, obs, Option.bind_none, Sum.elim_inl, Sum.elim_inr, Option.elim, Nat.reduceAdd, Nat.add_zero, Nat.zero_add, ile, igt, ilt, inl, ieq, ine, iq10, i1z, im1, im11, iml, imle, inm, nI_1, nI_add, isub1, isb, iaddm, pk_mul, si_hit, si_miss, si_oth, wo_oth, zl_0, zl_2, zl_3, zl_4, zl_5, zl_6, zl_7, zl_9, zl_10, zl_32, zl_35, zl_36, zl_48, zl_57, zl_59, zl_60, zl_61, zl_62, zl_63, zl_64, zl_65, zl_99, zl_100, zl_102, zl_109, zl_110, zl_115, zl_116, zl_119, zl_120, zl_121, zl_126, zl_605, zl_720, zl_1957, zl_1000000, a_2, a_3, a_4, a_5, a_6, a_46, a_47, a_55, a_56, a_58, a_68, a_69, a_70, a_73, a_74, a_76, a_77, a_78, a_79, a_80, a_81, a_82, a_83, a_84, a_85, a_86, a_87, a_88, a_89, a_90, a_91, a_92, a_93, a_94, a_95, s_2, s_3, s_4, s_5, s_6, s_46, s_47, s_55, s_56, s_58, s_68, s_69, s_70, s_73, s_74, s_76, s_77, s_78, s_79, s_80, s_81, s_82, s_83, s_84, s_85, s_86, s_87, s_88, s_89, s_90, s_91, s_92, s_93, s_94, s_95, it_5, it_6, it_46, it_47, it_50, it_53, it_55, it_56, it_58, it_63, it_66, it_68, it_69, it_70, it_71, it_74, it_97, se_5, se_6, se_46, se_47, se_50, se_53, se_55, se_56, se_58, se_63, se_66, se_68, se_69, se_70, se_71, se_74, se_97, at_2, at_3, at_4, at_49, at_51, at_52, at_62, at_64, at_65, pu_2, pu_3, pu_4, pu_49, pu_51, pu_52, pu_62, pu_64, pu_65, cc_gain hC.1.2.1 hg l5 (fun i hi => by rw [rc_P hC.1.2.1]) hg.pt hi hj]
  · show f_X9_gain σ 75 (nI i) (nI j) = _
    unfold f_X9_gain
    rw [one_yes hm0 hn hi, one_yes hm0 hn hj]
    simp (disch := omega) only [if_true, if_false, obs, Option.bind_none, Sum.elim_inl, Sum.elim_inr, Option.elim, Nat.reduceAdd, Nat.add_zero, Nat.zero_add, ile, igt, ilt, inl, ieq, ine, iq10, i1z, im1, im11, iml, imle, inm, nI_1, nI_add, isub1, isb, iaddm, pk_mul, si_hit, si_miss, si_oth, wo_oth, zl_0, zl_2, zl_3, zl_4, zl_5, zl_6, zl_7, zl_9, zl_10, zl_32, zl_35, zl_36, zl_48, zl_57, zl_59, zl_60, zl_61, zl_62, zl_63, zl_64, zl_65, zl_99, zl_100, zl_102, zl_109, zl_110, zl_115, zl_116, zl_119, zl_120, zl_121, zl_126, zl_605, zl_720, zl_1957, zl_1000000, a_2, a_3, a_4, a_5, a_6, a_46, a_47, a_55, a_56, a_58, a_68, a_69, a_70, a_73, a_74, a_76, a_77, a_78, a_79, a_80, a_81, a_82, a_83, a_84, a_85, a_86, a_87, a_88, a_89, a_90, a_91, a_92, a_93, a_94, a_95, s_2, s_3, s_4, s_5, s_6, s_46, s_47, s_55, s_56, s_58, s_68, s_69, s_70, s_73, s_74, s_76, s_77, s_78, s_79, s_80, s_81, s_82, s_83, s_84, s_85, s_86, s_87, s_88, s_89, s_90, s_91, s_92, s_93, s_94, s_95, it_5, it_6, it_46, it_47, it_50, it_53, it_55, it_56, it_58, it_63, it_66, it_68, it_69, it_70, it_71, it_74, it_97, se_5, se_6, se_46, se_47, se_50, se_53, se_55, se_56, se_58, se_63, se_66, se_68, se_69, se_70, se_71, se_74, se_97, at_2, at_3, at_4, at_49, at_51, at_52, at_62, at_64, at_65, pu_2, pu_3, pu_4, pu_49, pu_51, pu_52, pu_62, pu_64, pu_65, m_takes hm0 hg.2.1, mm_gain hw hg (wo80 hM.1.1 hg.2.1) hg.pt hi hj, tells_ok]
-- new places
def setP (s a : Nat → Int32) (n : Nat) : Nat → Int32 := fun q => if 109 ≤ q ∧ q < 109 + n then a (q - 109) else s q
theorem setP_at {s a : Nat → Int32} {n i : Nat} (h : i < n) : setP s a n (109 + i) = a i := by
  unfold setP
  rw [if_pos (by omega), Nat.add_sub_cancel_left]
theorem setP_ne {s a : Nat → Int32} {n q : Nat} (h : q < 109 ∨ 109 + n ≤ q) : setP s a n q = s q := by
  unfold setP
  rw [if_neg (by omega)]
theorem setP_t {s a : Nat → Int32} {n o : Nat} (ho : o ≤ 73) : tS (setP s a n) o = tS s o := by
  funext i j
  unfold tS
  by_cases c : i < 6 ∧ j < 6
  · rw [if_pos c, if_pos c, setP_ne (by omega)]
  · rw [if_neg c, if_neg c]
theorem setP_x {s a : Nat → Int32} {n : Nat} (hn : n ≤ 6) : vS (setP s a n) 115 = vS s 115 := by
  funext i
  unfold vS
  by_cases c : i < 6
  · rw [if_pos c, if_pos c, setP_ne (by omega)]
  · rw [if_neg c, if_neg c]
theorem Gd_setP {n t : Nat} {s a : Nat → Int32} (h : Gd n s) (ht : t < fac n) (ha : ∀ i, i < n → a i = aV n t i) : Gd n (setP s a n) := by
  obtain ⟨g1, g2, g3, g4, -, g9, g10⟩ := h
  refine ⟨g1, g2, by rw [setP_ne (by omega), g3], by rw [setP_t (by omega), setP_t (by omega), setP_t (by omega)]; exact g4, ⟨t, ht, fun i hi => by rw [setP_at hi, ha i hi]⟩, by rw [setP_x g2]; exact g9, fun i hi h6 => by rw [setP_ne (by omega), g10 i hi h6]⟩
theorem snap_P {σ σ' : Sg} {s a : Nat → Int32} {n : Nat} (hF : Fr [5] σ σ') (hs : EqS (snap σ 1) s) (hn : n ≤ 6) (h1 : ∀ i, i < n → σ' 5 i = a i) (h2 : ∀ i, n ≤ i → i < 6 → σ' 5 i = σ 5 i) : EqS (snap σ' 1) (setP s a n) := by
  refine snap_case ?_ (fun j hj => ?_) (fun j hj => ?_) (fun j hj => ?_) (fun j hj => ?_) (fun j hj => ?_)
  · rw [snap_0, hF.at (by decide), setP_ne (by omega), ← hs 0 (by omega)]
    rfl
  · rw [snap_f hj, hF.at (by decide), setP_ne (by omega), ← hs _ (by omega), snap_f hj]
  · rw [snap_d hj, hF.at (by decide), setP_ne (by omega), ← hs _ (by omega), snap_d hj]
  · rw [snap_c hj, hF.at (by decide), setP_ne (by omega), ← hs _ (by omega), snap_c hj]
  · rw [snap_p hj]
    by_cases c : j < n
    · rw [setP_at c]
      exact h1 j c
    · rw [setP_ne (by omega), ← hs _ (by omega), snap_p hj]
      exact h2 j (by omega) hj
  · rw [snap_x, hF.at (by decide), setP_ne (by omega), ← hs _ (by omega), snap_x]
theorem keeps_P {σ : Sg} {s a v : Nat → Int32} {n : Nat} (hs : EqS (σ 76) s) (hv : ∀ i, i < n → v i = a i) : EqS ((wo σ 76 109 n v) 76) (setP s a n) := by
  intro j hj
  by_cases c : 109 ≤ j ∧ j < 109 + n
  · obtain ⟨i, rfl⟩ : ∃ i, j = 109 + i := ⟨j - 109, by omega⟩
    rw [wo_in (by omega), setP_at (by omega), hv i (by omega)]
  · rw [wo_out (by omega), setP_ne (by omega), hs j hj]
theorem fr_sw {σ : Sg} {k i j : Nat} : Fr [k] σ (swS σ k i j) := fun q hq => swS_ne _ _ _ (fun e => hq (by rw [e]; exact List.mem_singleton.mpr rfl))
theorem J_exchange {σ : Sg} (H : Iv σ) (a b : Int32) : JU 2 9 (f_X8_exchange σ 0 a b) (fun σ => f_X9_exchange σ 75 a b) := by
  have H' := H
  obtain ⟨s, c, h, T, tx, md, rs, hG, hC, hM⟩ := H'
  obtain ⟨n, hg⟩ := hG.1
  have hc0 := CI_n hC hg
  have hm0 := MI_n hM hg
  have h1 := hg.1
  have hn := hg.2.1
  have bad1 : f_X8_exchange σ 0 a b = some (.inl (2, σ)) → f_X9_exchange σ 75 a b = some (0, si σ 75 6 1) → JU 2 9 (f_X8_exchange σ 0 a b) (fun σ1 => f_X9_exchange σ1 75 a b) := fun e1 e2 => Or.inr (Or.inl ⟨0, σ, si σ 75 6 1, e1, e2, si_hit, Iv_75 H (by decide) (by decide)⟩)
  unfold f_X8_exchange at bad1 ⊢
  unfold f_X9_exchange f_X9_exchange_J16 at bad1
  rcases ixc n (by omega) a with ha | ⟨i, hi, rfl⟩
  · exact bad1 (by rw [rq_no hc0 ha]; rfl) (by rw [one_no hm0 h1 hn ha]; rfl)
  rcases ixc n (by omega) b with hb | ⟨j, hj, rfl⟩
  · exact bad1 (by rw [rq_yes hc0 hn hi, rq_no hc0 hb]; rfl) (by rw [one_yes hm0 hn hi, one_no hm0 h1 hn hb]; rfl)
  clear bad1
  obtain ⟨σ1, q1, q2, q3⟩ := CI_push hC
  obtain ⟨t, ht, hat⟩ := hg.2.2.2.2.1
  obtain ⟨t', ht', hat'⟩ := sw_sur (i := i) (j := j) hn ht (a := vS s 109) (fun q hq => by rw [vS_at (by omega), hat q hq]) hi hj
  have hs1 : EqS (snap (swS σ1 5 i j) 1) (setP s (sw (vS s 109) i j) n) := snap_P fr_sw q3.1.2.1 hn (fun r hr => by
    rw [swS_at]
    have e : ∀ q, q < 6 → σ1 5 q = vS s 109 q := fun q hq => by rw [← rc_P q3.1.2.1, vec_at hq, Nat.zero_add]
    unfold sw
    rw [e i (by omega), e j (by omega), e r (by omega)]) (fun r h1 h2 => by
    rw [swS_at]
    unfold sw
    rw [if_neg (by omega), if_neg (by omega)])
  have hF : Fr [1, 2, 3, 4, 5, 6] σ1 (swS σ1 5 i j) := Fr.tr Fr.rf fr_sw (by decide)
  have hs2 := MI_und hM q2 hF
  generalize hσ2 : swS σ1 5 i j = σ2 at hF hs1 hs2
  have hm2 : σ2 76 0 = nI n := by rw [hs2 0 (by omega), hg.2.2.1]
  -- the model
  have e3 : (wo σ2 78 0 121 (σ2 76)) 76 0 = nI n := by rw [wo_oth (by omega), hm2]
  generalize hσ3 : wo (wo σ2 78 0 121 (σ2 76)) 80 0 n (fun i => (wo σ2 78 0 121 (σ2 76)) 76 (109 + i)) = σ3
  have f3 : Fr [76, 78, 80, 81] σ2 σ3 := by rw [← hσ3]; exact wo_fr fr_hold (by decide)
  have s3 : EqS (σ3 76) s := fun j hj => by rw [← hσ3, wo_oth (by omega)]; exact hold76 hs2 j hj
  have v3 : ∀ i, i < n → vec σ3 80 0 i = vS s 109 i := by rw [← hσ3]; exact wo80 (hold76 hs2) hn
  have k3 : EqS (σ3 78) s := fun j hj => by rw [← hσ3, wo_oth (by omega)]; exact hold78 hs2 j hj
  have e4 : (swS σ3 80 i j) 76 0 = nI n := by rw [swS_ne _ _ _ (by omega), s3 0 (by omega), hg.2.2.1]
  obtain ⟨σ', u1, u2, u3⟩ := J_und hG hM q2 q3 hF hs1 (σ3 := wo (swS σ3 80 i j) 76 109 n ((swS σ3 80 i j) 80)) (wo_fr (Fr.tr f3 fr_sw (by decide)) (by decide)) (fun j hj => by rw [wo_oth (by omega), swS_ne _ _ _ (by omega)]; exact k3 j hj) (keeps_P (fun j hj => by rw [swS_ne _ _ _ (by omega)]; exact s3 j hj) (fun r hr => by
    rw [swS_at]
    have e : ∀ q, q < n → σ3 80 q = vS s 109 q := fun q hq => by rw [← v3 q hq, vec_at (by omega), Nat.zero_add]
    unfold sw
    rw [e i hi, e j hj, e r hr])) ⟨n, Gd_setP hg ht' hat'⟩ (gS n (tS s 1) (tS s 37) (tS s 73) (vS s 109) i j)
  refine Or.inl ⟨gS n (tS s 1) (tS s 37) (tS s 73) (vS s 109) i j, σ2, σ', ?_, ?_, u2, u3⟩
  · rw [rq_yes hc0 hn hi, rq_yes hc0 hn hj]
    simp (disch := omega) only [if_true, if_false, obs, Option.bind_none, Sum.elim_inl, Sum.elim_inr, Option.elim, Nat.reduceAdd, Nat.add_zero, Nat.zero_add, ile, igt, ilt, inl, ieq, ine, iq10, i1z, im1, im11, iml, imle, inm, nI_1, nI_add, isub1, isb, iaddm, pk_mul, si_hit, si_miss, si_oth, wo_oth, zl_0, zl_2, zl_3, zl_4, zl_5, zl_6, zl_7, zl_9, zl_10, zl_32, zl_35, zl_36, zl_48, zl_57, zl_59, zl_60, zl_61, zl_62, zl_63, zl_64, zl_65, zl_99, zl_100, zl_102, zl_109, zl_110, zl_115, zl_116, zl_119, zl_120, zl_121, zl_126, zl_605, zl_720, zl_1957, zl_1000000, a_2, a_3, a_4, a_5, a_6, a_46, a_47, a_55, a_56, a_58, a_68, a_69, a_70, a_73, a_74, a_76, a_77, a_78, a_79, a_80, a_81, a_82, a_83, a_84, a_85, a_86, a_87, a_88, a_89, a_90, a_91, a_92, a_93, a_94, a_95, s_2, s_3, s_4, s_5, s_6, s_46, s_47, s_55, s_56, s_58, s_68, s_69, s_70, s_73, s_74, s_76, s_77, s_78, s_79, s_80, s_81, s_82, s_83, s_84, s_85, s_86, s_87, s_88, s_89, s_90, s_91, s_92, s_93, s_94, s_95, it_5, it_6, it_46, it_47, it_50, it_53, it_55, it_56, it_58, it_63, it_66, it_68, it_69, it_70, it_71, it_74, it_97, se_5, se_6, se_46, se_47, se_50, se_53, se_55, se_56, se_58, se_63, se_66, se_68, se_69, se_70, se_71, se_74, se_97, at_2, at_3, at_4, at_49, at_51, at_52, at_62, at_64, at_65, pu_2, pu_3, pu_4, pu_49, pu_51, pu_52, pu_62, pu_64, pu_65, cc_gain hC.1.2.1 hg l5 (fun i hi => by rw [rc_P hC.1.2.1]) hg.pt hi hj, q1, swap6 l5 (show i < 6 by omega) (show j < 6 by omega), hσ2]
  · show f_X9_exchange σ2 75 (nI i) (nI j) = _
    unfold f_X9_exchange
    rw [one_yes hm2 hn hi, one_yes hm2 hn hj]
    simp only [obs]
    rw [if_neg (by decide), if_neg (by decide), m_hold]
    simp only [obs]
    rw [m_takes e3 hn, hσ3]
    simp only [obs]
    rw [mm_gain s3 hg v3 hg.pt hi hj]
    simp only [obs]
    rw [m_swaps (σ := σ3) (show i < 6 by omega) (show j < 6 by omega)]
    simp only [obs]
    rw [m_keeps e4 hn]
    simp only [obs]
    rw [u1]
    rfl
-- choose
def arV (n t i : Nat) : Nat := frF (arA n t i).2.1 n ((arA n t i).1 / fac (n - 1 - i)) n 0
theorem arA_l (n t : Nat) : ∀ m, (arA n t m).2.2 = (List.range m).map (arV n t)
  | 0 => rfl
  | m + 1 => by
    rw [List.range_succ, List.map_append, ← arA_l n t m]
    rfl
theorem arL_v {n t i : Nat} (hi : i < n) : (arL n t).getD i 0 = arV n t i := by
  unfold arL
  rw [arA_l, List.getD_eq_getElem?_getD, List.getElem?_map, List.getElem?_range hi]
  rfl
theorem frF_lt {u n x : Nat} : ∀ f seen, f ≤ n → 0 < n → frF u n x f seen < n
  | 0, _, _, h => h
  | f + 1, seen, hf, h => by
    unfold frF
    split
    · exact frF_lt f seen (by omega) h
    · split
      · omega
      · exact frF_lt f (seen + 1) (by omega) h
theorem or_64 : ∀ u, u < 64 → ∀ v, v < 6 → u ||| 2 ^ v < 64 ∧ nI u ||| nI (2 ^ v) = nI (u ||| 2 ^ v) := by decide +kernel
theorem shl_6 : ∀ v, v < 6 → (1 : Int32) <<< (nI v &&& 31) = nI (2 ^ v) := by decide +kernel
theorem freeLoc_ok {u n x : Nat} (hu : u < 64) (hn : n ≤ 6) (hx : x < 1000) : f_X8_freeLocation (nI u) (nI n) (nI x) = some (nI (frF u n x n 0)) := by
  unfold f_X8_freeLocation
  obtain ⟨e, h1, h2⟩ := lo_tx (f := f_X8_freeLocation_L5 (nI n) (nI u) (nI x)) (fun l s => ∃ seen, s = (nI seen, nI l) ∧ seen ≤ l ∧ frF u n x (n - l) seen = frF u n x n 0) n (fun e => Sum.elim (fun e9 => some e9) (fun e10 => some ((0 : Int32))) e = some (nI (frF u n x n 0))) (fun l s hl ⟨seen, e1, e2, e3⟩ => by
    subst e1
    unfold f_X8_freeLocation_L5 f_X8_freeLocation_J31
    obtain ⟨f, hf⟩ : ∃ f, n - l = f + 1 := ⟨n - l - 1, by omega⟩
    rw [hf, show frF u n x (f + 1) seen = if u.testBit (n - (f + 1)) then frF u n x f seen else if seen = x then n - (f + 1) else frF u n x f (seen + 1) from rfl, show n - (f + 1) = l by omega] at e3
    rw [if_neg (nI_ge hl (by omega)), has_ok hu (by omega)]
    simp only [obs]
    by_cases c : u.testBit l = true
    · rw [if_pos c] at e3
      rw [if_pos c, if_neg (by decide)]
      exact Or.inl ⟨_, rfl, seen, by rw [nI_s], by omega, by rw [show n - (l + 1) = f by omega]; exact e3⟩
    · rw [if_neg c] at e3
      rw [if_neg c, if_pos rfl]
      by_cases c2 : seen = x
      · rw [if_pos c2] at e3
        rw [if_pos (by rw [c2])]
        exact Or.inr ⟨_, rfl, by rw [← e3]; rfl⟩
      · rw [if_neg c2] at e3
        rw [if_neg (fun z => c2 ((nI_eq (by omega) (by omega)).mp z))]
        exact Or.inl ⟨_, rfl, seen + 1, by rw [nI_s, nI_s], by omega, by rw [show n - (l + 1) = f by omega]; exact e3⟩) (fun s ⟨seen, e1, e2, e3⟩ => by
    subst e1
    unfold f_X8_freeLocation_L5
    rw [if_pos (nI_le (Nat.le_refl n) (by omega))]
    refine ⟨_, rfl, ?_⟩
    rw [← e3, Nat.sub_self]
    rfl) (s := (0, 0)) ⟨0, rfl, by omega, rfl⟩
  rw [h1]
  exact h2
theorem nI_dvN {a b : Nat} (ha : a < 2 ^ 31) (h0 : 0 < b) (hb : b < 2 ^ 31) : dv (nI a) (nI b) = some (nI (a / b)) := by
  unfold dv
  rw [if_neg (nI_ne0 h0 hb), pk_div ha h0 hb]
theorem arrange_ok {σ : Sg} {n t : Nat} (h97 : σ 97 = fct) (hn : n ≤ 6) (h1 : 1 ≤ n) (ht : t < fac n) : f_X8_arrange σ (nI t) (nI n) 5 = some (wo σ 5 0 n (aV n t)) := by
  have hfn := (fac_6 n (by omega)).2
  have inv : ∀ i, i ≤ n → (arA n t i).1 ≤ t ∧ (arA n t i).2.1 < 64 := by
    intro i
    induction i with
    | zero => exact fun _ => ⟨Nat.le_refl t, by show 0 < 64; omega⟩
    | succ i ih =>
      intro hi
      obtain ⟨a1, a2⟩ := ih (by omega)
      refine ⟨Nat.le_trans (Nat.mod_le _ _) a1, ?_⟩
      have hv : arV n t i < n := frF_lt n 0 (Nat.le_refl n) h1
      exact (or_64 _ a2 (arV n t i) (by omega)).1
  unfold f_X8_arrange
  rw [lo_run (f := f_X8_arrange_L8 (nI n) 5) (fun i => (nI (arA n t i).1, nI (arA n t i).2.1, nI i, wo σ 5 0 i (aV n t))) (n := n) (e := wo σ 5 0 n (aV n t)) (fun i hi => by
    obtain ⟨a1, a2⟩ := inv i (by omega)
    have hv : arV n t i < n := frF_lt n 0 (Nat.le_refl n) h1
    have hb := (fac_6 (n - 1 - i) (by omega)).2
    have hq : (arA n t i).1 / fac (n - 1 - i) < 1000 := Nat.lt_of_le_of_lt (Nat.div_le_self _ _) (by omega)
    have e1 : f_X8_freeLocation (nI (arA n t i).2.1) (nI n) (nI ((arA n t i).1 / fac (n - 1 - i))) = some (nI (arV n t i)) := freeLoc_ok a2 hn hq
    unfold f_X8_arrange_L8
    have h97' : (wo σ 5 0 i (aV n t)) 97 = fct := by rw [wo_oth (by omega), h97]
    simp (disch := omega) only [if_true, if_false, obs, Option.bind_none, Sum.elim_inl, Sum.elim_inr, Option.elim, Nat.reduceAdd, Nat.add_zero, Nat.zero_add, ile, igt, ilt, inl, ieq, ine, iq10, i1z, im1, im11, iml, imle, inm, nI_1, nI_add, isub1, isb, iaddm, pk_mul, si_hit, si_miss, si_oth, wo_oth, zl_0, zl_2, zl_3, zl_4, zl_5, zl_6, zl_7, zl_9, zl_10, zl_32, zl_35, zl_36, zl_48, zl_57, zl_59, zl_60, zl_61, zl_62, zl_63, zl_64, zl_65, zl_99, zl_100, zl_102, zl_109, zl_110, zl_115, zl_116, zl_119, zl_120, zl_121, zl_126, zl_605, zl_720, zl_1957, zl_1000000, a_2, a_3, a_4, a_5, a_6, a_46, a_47, a_55, a_56, a_58, a_68, a_69, a_70, a_73, a_74, a_76, a_77, a_78, a_79, a_80, a_81, a_82, a_83, a_84, a_85, a_86, a_87, a_88, a_89, a_90, a_91, a_92, a_93, a_94, a_95, s_2, s_3, s_4, s_5, s_6, s_46, s_47, s_55, s_56, s_58, s_68, s_69, s_70, s_73, s_74, s_76, s_77, s_78, s_79, s_80, s_81, s_82, s_83, s_84, s_85, s_86, s_87, s_88, s_89, s_90, s_91, s_92, s_93, s_94, s_95, it_5, it_6, it_46, it_47, it_50, it_53, it_55, it_56, it_58, it_63, it_66, it_68, it_69, it_70, it_71, it_74, it_97, se_5, se_6, se_46, se_47, se_50, se_53, se_55, se_56, se_58, se_63, se_66, se_68, se_69, se_70, se_71, se_74, se_97, at_2, at_3, at_4, at_49, at_51, at_52, at_62, at_64, at_65, pu_2, pu_3, pu_4, pu_49, pu_51, pu_52, pu_62, pu_64, pu_65, factorial_ok h97' (show n - 1 - i < 7 by omega), nI_dvN (show (arA n t i).1 < 2 ^ 31 by omega) (show 0 < fac (n - 1 - i) by omega) (show fac (n - 1 - i) < 2 ^ 31 by omega), e1, nI_rmN (show (arA n t i).1 < 2 ^ 31 by omega) (show 0 < fac (n - 1 - i) by omega) (show fac (n - 1 - i) < 2 ^ 31 by omega), shl_6 _ (show arV n t i < 6 by omega), (or_64 _ a2 _ (show arV n t i < 6 by omega)).2]
    rw [wo_s0 (by unfold aV; rw [arL_v hi])]
    rfl) (by
    unfold f_X8_arrange_L8
    simp (disch := omega) only [if_true, if_false, obs, Option.bind_none, Sum.elim_inl, Sum.elim_inr, Option.elim, Nat.reduceAdd, Nat.add_zero, Nat.zero_add, ile, igt, ilt, inl, ieq, ine, iq10, i1z, im1, im11, iml, imle, inm, nI_1, nI_add, isub1, isb, iaddm, pk_mul, si_hit, si_miss, si_oth, wo_oth, zl_0, zl_2, zl_3, zl_4, zl_5, zl_6, zl_7, zl_9, zl_10, zl_32, zl_35, zl_36, zl_48, zl_57, zl_59, zl_60, zl_61, zl_62, zl_63, zl_64, zl_65, zl_99, zl_100, zl_102, zl_109, zl_110, zl_115, zl_116, zl_119, zl_120, zl_121, zl_126, zl_605, zl_720, zl_1957, zl_1000000, a_2, a_3, a_4, a_5, a_6, a_46, a_47, a_55, a_56, a_58, a_68, a_69, a_70, a_73, a_74, a_76, a_77, a_78, a_79, a_80, a_81, a_82, a_83, a_84, a_85, a_86, a_87, a_88, a_89, a_90, a_91, a_92, a_93, a_94, a_95, s_2, s_3, s_4, s_5, s_6, s_46, s_47, s_55, s_56, s_58, s_68, s_69, s_70, s_73, s_74, s_76, s_77, s_78, s_79, s_80, s_81, s_82, s_83, s_84, s_85, s_86, s_87, s_88, s_89, s_90, s_91, s_92, s_93, s_94, s_95, it_5, it_6, it_46, it_47, it_50, it_53, it_55, it_56, it_58, it_63, it_66, it_68, it_69, it_70, it_71, it_74, it_97, se_5, se_6, se_46, se_47, se_50, se_53, se_55, se_56, se_58, se_63, se_66, se_68, se_69, se_70, se_71, se_74, se_97, at_2, at_3, at_4, at_49, at_51, at_52, at_62, at_64, at_65, pu_2, pu_3, pu_4, pu_49, pu_51, pu_52, pu_62, pu_64, pu_65]) (by rw [wo_0]; rfl)]
  rfl
theorem assignments_ok {σ : Sg} {n : Nat} (h0 : σ 76 0 = nI n) (h1 : 1 ≤ n) (hn : n ≤ 6) : f_X9_assignments σ 75 = some (nI (fac n)) := by
  unfold f_X9_assignments
  rw [lo_run (f := f_X9_assignments_L4 σ 75) (fun k => (nI (fac (k + 1)), nI (k + 2))) (n := n - 1) (e := nI (fac n)) (fun k hk => by
    unfold f_X9_assignments_L4
    simp (disch := omega) only [if_true, if_false, obs, Option.bind_none, Sum.elim_inl, Sum.elim_inr, Option.elim, Nat.reduceAdd, Nat.add_zero, Nat.zero_add, ile, igt, ilt, inl, ieq, ine, iq10, i1z, im1, im11, iml, imle, inm, nI_1, nI_add, isub1, isb, iaddm, pk_mul, si_hit, si_miss, si_oth, wo_oth, zl_0, zl_2, zl_3, zl_4, zl_5, zl_6, zl_7, zl_9, zl_10, zl_32, zl_35, zl_36, zl_48, zl_57, zl_59, zl_60, zl_61, zl_62, zl_63, zl_64, zl_65, zl_99, zl_100, zl_102, zl_109, zl_110, zl_115, zl_116, zl_119, zl_120, zl_121, zl_126, zl_605, zl_720, zl_1957, zl_1000000, a_2, a_3, a_4, a_5, a_6, a_46, a_47, a_55, a_56, a_58, a_68, a_69, a_70, a_73, a_74, a_76, a_77, a_78, a_79, a_80, a_81, a_82, a_83, a_84, a_85, a_86, a_87, a_88, a_89, a_90, a_91, a_92, a_93, a_94, a_95, s_2, s_3, s_4, s_5, s_6, s_46, s_47, s_55, s_56, s_58, s_68, s_69, s_70, s_73, s_74, s_76, s_77, s_78, s_79, s_80, s_81, s_82, s_83, s_84, s_85, s_86, s_87, s_88, s_89, s_90, s_91, s_92, s_93, s_94, s_95, it_5, it_6, it_46, it_47, it_50, it_53, it_55, it_56, it_58, it_63, it_66, it_68, it_69, it_70, it_71, it_74, it_97, se_5, se_6, se_46, se_47, se_50, se_53, se_55, se_56, se_58, se_63, se_66, se_68, se_69, se_70, se_71, se_74, se_97, at_2, at_3, at_4, at_49, at_51, at_52, at_62, at_64, at_65, pu_2, pu_3, pu_4, pu_49, pu_51, pu_52, pu_62, pu_64, pu_65, h0]
    rw [Nat.mul_comm]
    rfl) (by
    unfold f_X9_assignments_L4
    simp (disch := omega) only [if_true, if_false, obs, Option.bind_none, Sum.elim_inl, Sum.elim_inr, Option.elim, Nat.reduceAdd, Nat.add_zero, Nat.zero_add, ile, igt, ilt, inl, ieq, ine, iq10, i1z, im1, im11, iml, imle, inm, nI_1, nI_add, isub1, isb, iaddm, pk_mul, si_hit, si_miss, si_oth, wo_oth, zl_0, zl_2, zl_3, zl_4, zl_5, zl_6, zl_7, zl_9, zl_10, zl_32, zl_35, zl_36, zl_48, zl_57, zl_59, zl_60, zl_61, zl_62, zl_63, zl_64, zl_65, zl_99, zl_100, zl_102, zl_109, zl_110, zl_115, zl_116, zl_119, zl_120, zl_121, zl_126, zl_605, zl_720, zl_1957, zl_1000000, a_2, a_3, a_4, a_5, a_6, a_46, a_47, a_55, a_56, a_58, a_68, a_69, a_70, a_73, a_74, a_76, a_77, a_78, a_79, a_80, a_81, a_82, a_83, a_84, a_85, a_86, a_87, a_88, a_89, a_90, a_91, a_92, a_93, a_94, a_95, s_2, s_3, s_4, s_5, s_6, s_46, s_47, s_55, s_56, s_58, s_68, s_69, s_70, s_73, s_74, s_76, s_77, s_78, s_79, s_80, s_81, s_82, s_83, s_84, s_85, s_86, s_87, s_88, s_89, s_90, s_91, s_92, s_93, s_94, s_95, it_5, it_6, it_46, it_47, it_50, it_53, it_55, it_56, it_58, it_63, it_66, it_68, it_69, it_70, it_71, it_74, it_97, se_5, se_6, se_46, se_47, se_50, se_53, se_55, se_56, se_58, se_63, se_66, se_68, se_69, se_70, se_71, se_74, se_97, at_2, at_3, at_4, at_49, at_51, at_52, at_62, at_64, at_65, pu_2, pu_3, pu_4, pu_49, pu_51, pu_52, pu_62, pu_64, pu_65, h0]
    rw [show n - 1 + 1 = n by omega]) (s := (1, 2)) rfl]
  rfl
theorem J_choose {σ : Sg} (H : Iv σ) (a : Int32) : JU 2 9 (f_X8_choose σ 0 a) (fun σ => f_X9_choose σ 75 a) := by
  have H' := H
  obtain ⟨s, c, h, T, tx, md, rs, hG, hC, hM⟩ := H'
  obtain ⟨n, hg⟩ := hG.1
  have hc0 := CI_n hC hg
  have hm0 := MI_n hM hg
  have h1 := hg.1
  have hn := hg.2.1
  have hfn := (fac_6 n (by omega)).2
  rcases ixc (fac n) (by omega) a with ha | ⟨t, ht, rfl⟩
  · refine Or.inr (Or.inl ⟨0, σ, si σ 75 6 1, ?_, ?_, si_hit, Iv_75 H (by decide) (by decide)⟩)
    · unfold f_X8_choose
      by_cases c : a < 0
      · rw [if_pos c]
      · rw [if_neg c, show (0 + 1) = 1 from rfl, hc0, factorial_ok hC.1.1 (by omega)]
        simp only [obs]
        rw [if_neg (by have := ha.resolve_left c; grind)]
    · show f_X9_choose σ 75 a = _
      unfold f_X9_choose
      rw [assignments_ok hm0 h1 hn]
      simp only [obs]
      rw [isub1 (by omega), show (0 : Int32) = nI 0 from rfl, in_no (ha.imp (fun h => h) (nlt_pred (by omega) (by omega)))]
      rfl
  · obtain ⟨σ1, q1, q2, q3⟩ := CI_push hC
    have hs1 : EqS (snap (wo σ1 5 0 n (aV n t)) 1) (setP s (aV n t) n) := snap_P (wo_fr Fr.rf (by decide)) q3.1.2.1 hn (fun r hr => wo_in0 hr) (fun r h1 h2 => wo_out (by omega))
    have hF : Fr [1, 2, 3, 4, 5, 6] σ1 (wo σ1 5 0 n (aV n t)) := wo_fr Fr.rf (by decide)
    have hs2 := MI_und hM q2 hF
    have c97 : σ1 97 = fct := q3.1.1
    have c10 : σ1 1 0 = nI n := CI_n q3 hg
    have hg' : Gd n (setP s (aV n t) n) := Gd_setP hg ht (fun _ _ => rfl)
    have har := arrange_ok (σ := σ1) c97 hn h1 ht
    generalize hσ2 : wo σ1 5 0 n (aV n t) = σ2 at hF hs1 hs2 har
    have v2 : ∀ i, i < n → vec σ2 5 0 i = aV n t i := fun i hi => by rw [← hσ2, vec_at (by omega), Nat.zero_add, wo_in0 hi]
    have hm2 : σ2 76 0 = nI n := by rw [hs2 0 (by omega), hg.2.2.1]
    obtain ⟨σ4, p1, p2, -, p3⟩ := m_firsts (σ := wo σ2 78 0 121 (σ2 76)) hn
    have s4 : EqS (σ4 76) s := fun j hj => by rw [p2.at (by decide)]; exact hold76 hs2 j hj
    have k4 : EqS (σ4 78) s := fun j hj => by rw [p2.at (by decide)]; exact hold78 hs2 j hj
    obtain ⟨σ5, w1, w2, w3⟩ := lo_tc (f := f_X9_choose_L32 (nI t) 75) (fun k z => z.1 = 1 ∧ z.2.1 = nI k ∧ Fr [80] σ4 z.2.2 ∧ Asg z.2.2 80 n k) t (fun e => Fr [80] σ4 e ∧ Asg e 80 n t) (fun k z hk ⟨e1, e2, e3, e4⟩ => by
      obtain ⟨z1, z2, z3⟩ := z
      simp only at e1 e2 e3 e4
      subst e1 e2
      obtain ⟨r, σ', g1, g2, g3, g4⟩ := m_goesOn (n := n) (t := k) (by rw [e3.at (by decide), s4 0 (by omega), hg.2.2.1]) h1 hn (by omega) e4
      obtain ⟨rfl, g5⟩ := g3 (by omega)
      unfold f_X9_choose_L32
      simp (disch := omega) only [if_true, if_false, obs, Option.bind_none, Sum.elim_inl, Sum.elim_inr, Option.elim, Nat.reduceAdd, Nat.add_zero, Nat.zero_add, ile, igt, ilt, inl, ieq, ine, iq10, i1z, im1, im11, iml, imle, inm, nI_1, nI_add, isub1, isb, iaddm, pk_mul, si_hit, si_miss, si_oth, wo_oth, zl_0, zl_2, zl_3, zl_4, zl_5, zl_6, zl_7, zl_9, zl_10, zl_32, zl_35, zl_36, zl_48, zl_57, zl_59, zl_60, zl_61, zl_62, zl_63, zl_64, zl_65, zl_99, zl_100, zl_102, zl_109, zl_110, zl_115, zl_116, zl_119, zl_120, zl_121, zl_126, zl_605, zl_720, zl_1957, zl_1000000, a_2, a_3, a_4, a_5, a_6, a_46, a_47, a_55, a_56, a_58, a_68, a_69, a_70, a_73, a_74, a_76, a_77, a_78, a_79, a_80, a_81, a_82, a_83, a_84, a_85, a_86, a_87, a_88, a_89, a_90, a_91, a_92, a_93, a_94, a_95, s_2, s_3, s_4, s_5, s_6, s_46, s_47, s_55, s_56, s_58, s_68, s_69, s_70, s_73, s_74, s_76, s_77, s_78, s_79, s_80, s_81, s_82, s_83, s_84, s_85, s_86, s_87, s_88, s_89, s_90, s_91, s_92, s_93, s_94, s_95, it_5, it_6, it_46, it_47, it_50, it_53, it_55, it_56, it_58, it_63, it_66, it_68, it_69, it_70, it_71, it_74, it_97, se_5, se_6, se_46, se_47, se_50, se_53, se_55, se_56, se_58, se_63, se_66, se_68, se_69, se_70, se_71, se_74, se_97, at_2, at_3, at_4, at_49, at_51, at_52, at_62, at_64, at_65, pu_2, pu_3, pu_4, pu_49, pu_51, pu_52, pu_62, pu_64, pu_65, g1]
      exact ⟨_, rfl, rfl, rfl, e3.tr g2 (fun q hq => hq), g5⟩) (fun z ⟨e1, e2, e3, e4⟩ => by
      obtain ⟨z1, z2, z3⟩ := z
      simp only at e1 e2 e3 e4
      subst e1 e2
      unfold f_X9_choose_L32
      simp (disch := omega) only [if_true, if_false, obs, Option.bind_none, Sum.elim_inl, Sum.elim_inr, Option.elim, Nat.reduceAdd, Nat.add_zero, Nat.zero_add, ile, igt, ilt, inl, ieq, ine, iq10, i1z, im1, im11, iml, imle, inm, nI_1, nI_add, isub1, isb, iaddm, pk_mul, si_hit, si_miss, si_oth, wo_oth, zl_0, zl_2, zl_3, zl_4, zl_5, zl_6, zl_7, zl_9, zl_10, zl_32, zl_35, zl_36, zl_48, zl_57, zl_59, zl_60, zl_61, zl_62, zl_63, zl_64, zl_65, zl_99, zl_100, zl_102, zl_109, zl_110, zl_115, zl_116, zl_119, zl_120, zl_121, zl_126, zl_605, zl_720, zl_1957, zl_1000000, a_2, a_3, a_4, a_5, a_6, a_46, a_47, a_55, a_56, a_58, a_68, a_69, a_70, a_73, a_74, a_76, a_77, a_78, a_79, a_80, a_81, a_82, a_83, a_84, a_85, a_86, a_87, a_88, a_89, a_90, a_91, a_92, a_93, a_94, a_95, s_2, s_3, s_4, s_5, s_6, s_46, s_47, s_55, s_56, s_58, s_68, s_69, s_70, s_73, s_74, s_76, s_77, s_78, s_79, s_80, s_81, s_82, s_83, s_84, s_85, s_86, s_87, s_88, s_89, s_90, s_91, s_92, s_93, s_94, s_95, it_5, it_6, it_46, it_47, it_50, it_53, it_55, it_56, it_58, it_63, it_66, it_68, it_69, it_70, it_71, it_74, it_97, se_5, se_6, se_46, se_47, se_50, se_53, se_55, se_56, se_58, se_63, se_66, se_68, se_69, se_70, se_71, se_74, se_97, at_2, at_3, at_4, at_49, at_51, at_52, at_62, at_64, at_65, pu_2, pu_3, pu_4, pu_49, pu_51, pu_52, pu_62, pu_64, pu_65]
      exact ⟨_, rfl, e3, e4⟩) (s := (1, 0, σ4)) ⟨rfl, rfl, Fr.rf, p3⟩
    have s5 : EqS (σ5 76) s := fun j hj => by rw [w2.at (by decide)]; exact s4 j hj
    have e5 : σ5 76 0 = nI n := by rw [s5 0 (by omega), hg.2.2.1]
    have s6 : EqS ((wo σ5 76 109 n (σ5 80)) 76) (setP s (aV n t) n) := keeps_P s5 (fun r hr => w3 r hr)
    have v6 : ∀ i, i < n → vec (wo σ5 76 109 n (σ5 80)) 80 0 i = aV n t i := fun i hi => by rw [vec_at (by omega), Nat.zero_add, wo_oth (by omega)]; exact w3 i hi
    have f6 : Fr [76, 78, 80, 81] σ2 (wo σ5 76 109 n (σ5 80)) := wo_fr (Fr.tr (Fr.tr fr_hold p2 (by decide)) w2 (by decide)) (by decide)
    obtain ⟨σ', u1, u2, u3⟩ := J_und hG hM q2 q3 hF hs1 f6 (fun j hj => by rw [wo_oth (by omega), w2.at (by decide)]; exact k4 j hj) s6 ⟨n, hg'⟩ (costS n (tS (setP s (aV n t) n) 1) (tS (setP s (aV n t) n) 37) (tS (setP s (aV n t) n) 73) (aV n t))
    refine Or.inl ⟨costS n (tS (setP s (aV n t) n) 1) (tS (setP s (aV n t) n) 37) (tS (setP s (aV n t) n) 73) (aV n t), σ2, σ', ?_, ?_, u2, u3⟩
    · unfold f_X8_choose
      simp (disch := omega) only [if_true, if_false, obs, Option.bind_none, Sum.elim_inl, Sum.elim_inr, Option.elim, Nat.reduceAdd, Nat.add_zero, Nat.zero_add, ile, igt, ilt, inl, ieq, ine, iq10, i1z, im1, im11, iml, imle, inm, nI_1, nI_add, isub1, isb, iaddm, pk_mul, si_hit, si_miss, si_oth, wo_oth, zl_0, zl_2, zl_3, zl_4, zl_5, zl_6, zl_7, zl_9, zl_10, zl_32, zl_35, zl_36, zl_48, zl_57, zl_59, zl_60, zl_61, zl_62, zl_63, zl_64, zl_65, zl_99, zl_100, zl_102, zl_109, zl_110, zl_115, zl_116, zl_119, zl_120, zl_121, zl_126, zl_605, zl_720, zl_1957, zl_1000000, a_2, a_3, a_4, a_5, a_6, a_46, a_47, a_55, a_56, a_58, a_68, a_69, a_70, a_73, a_74, a_76, a_77, a_78, a_79, a_80, a_81, a_82, a_83, a_84, a_85, a_86, a_87, a_88, a_89, a_90, a_91, a_92, a_93, a_94, a_95, s_2, s_3, s_4, s_5, s_6, s_46, s_47, s_55, s_56, s_58, s_68, s_69, s_70, s_73, s_74, s_76, s_77, s_78, s_79, s_80, s_81, s_82, s_83, s_84, s_85, s_86, s_87, s_88, s_89, s_90, s_91, s_92, s_93, s_94, s_95, it_5, it_6, it_46, it_47, it_50, it_53, it_55, it_56, it_58, it_63, it_66, it_68, it_69, it_70, it_71, it_74, it_97, se_5, se_6, se_46, se_47, se_50, se_53, se_55, se_56, se_58, se_63, se_66, se_68, se_69, se_70, se_71, se_74, se_97, at_2, at_3, at_4, at_49, at_51, at_52, at_62, at_64, at_65, pu_2, pu_3, pu_4, pu_49, pu_51, pu_52, pu_62, pu_64, pu_65, hc0, factorial_ok hC.1.1 (show n < 7 by omega), q1, c10, har, cc_cost hs1 hg' l5 v2 (aV_pt hn ht)]
    · show f_X9_choose σ2 75 (nI t) = _
      unfold f_X9_choose
      rw [assignments_ok hm2 h1 hn]
      simp only [obs]
      rw [isub1 (by omega), show (0 : Int32) = nI 0 from rfl, in_yes (by omega) (by omega) (by omega)]
      rw [show (nI 0 : Int32) = 0 from rfl]
      simp only [obs]
      rw [if_neg (by decide), m_hold]
      simp only [obs]
      rw [p1]
      simp only [obs]
      rw [w1]
      simp only [obs]
      rw [m_keeps e5 hn]
      simp only [obs]
      rw [mm_cost s6 hg' v6 (aV_pt hn ht)]
      simp only [obs]
      rw [u1]
      rfl
