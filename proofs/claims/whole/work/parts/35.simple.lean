-- the calls without a search
theorem rq_no {σ : Sg} {n : Nat} {a : Int32} (h0 : σ 1 0 = nI n) (h : a < 0 ∨ nI n ≤ a) : f_X8_requireIndex σ 0 a = some (.inl 2) := by
  unfold f_X8_requireIndex
  rw [show (0 + 1) = 1 from rfl, h0]
  by_cases c : a < 0
  · rw [if_pos c]
  · rw [if_neg c, if_neg (by have := h.resolve_left c; grind)]
theorem rq_yes {σ : Sg} {n i : Nat} (h0 : σ 1 0 = nI n) (hn : n ≤ 6) (hi : i < n) : f_X8_requireIndex σ 0 (nI i) = some (.inr ()) := by
  unfold f_X8_requireIndex
  simp (disch := omega) only [if_true, if_false, obs, Option.bind_none, Sum.elim_inl, Sum.elim_inr, Option.elim, Nat.reduceAdd, Nat.add_zero, Nat.zero_add, ile, igt, ilt, inl, ieq, ine, iq10, i1z, im1, im11, iml, imle, inm, nI_1, nI_add, isub1, isb, iaddm, pk_mul, si_hit, si_miss, si_oth, wo_oth, zl_0, zl_2, zl_3, zl_4, zl_5, zl_6, zl_7, zl_9, zl_10, zl_32, zl_35, zl_36, zl_48, zl_57, zl_59, zl_60, zl_61, zl_62, zl_63, zl_64, zl_65, zl_99, zl_100, zl_102, zl_109, zl_110, zl_115, zl_116, zl_119, zl_120, zl_121, zl_126, zl_605, zl_720, zl_1957, zl_1000000, a_2, a_3, a_4, a_5, a_6, a_46, a_47, a_55, a_56, a_58, a_68, a_69, a_70, a_73, a_74, a_76, a_77, a_78, a_79, a_80, a_81, a_82, a_83, a_84, a_85, a_86, a_87, a_88, a_89, a_90, a_91, a_92, a_93, a_94, a_95, s_2, s_3, s_4, s_5, s_6, s_46, s_47, s_55, s_56, s_58, s_68, s_69, s_70, s_73, s_74, s_76, s_77, s_78, s_79, s_80, s_81, s_82, s_83, s_84, s_85, s_86, s_87, s_88, s_89, s_90, s_91, s_92, s_93, s_94, s_95, it_5, it_6, it_46, it_47, it_50, it_53, it_55, it_56, it_58, it_63, it_66, it_68, it_69, it_70, it_71, it_74, it_97, se_5, se_6, se_46, se_47, se_50, se_53, se_55, se_56, se_58, se_63, se_66, se_68, se_69, se_70, se_71, se_74, se_97, at_2, at_3, at_4, at_49, at_51, at_52, at_62, at_64, at_65, pu_2, pu_3, pu_4, pu_49, pu_51, pu_52, pu_62, pu_64, pu_65, h0]
theorem in_no {a : Int32} {l M : Nat} (h : a < nI l ∨ nI M < a) : f_X9_in a (nI l) (nI M) = some 0 := by
  unfold f_X9_in
  by_cases c : a < nI l
  · rw [if_pos c]
  · rw [if_neg c, if_pos (h.resolve_left c)]
theorem in_yes {j l M : Nat} (h1 : l ≤ j) (h2 : j ≤ M) (hM : M < 2147483648) : f_X9_in (nI j) (nI l) (nI M) = some 1 := by
  unfold f_X9_in
  simp (disch := omega) only [if_true, if_false, obs, Option.bind_none, Sum.elim_inl, Sum.elim_inr, Option.elim, Nat.reduceAdd, Nat.add_zero, Nat.zero_add, ile, igt, ilt, inl, ieq, ine, iq10, i1z, im1, im11, iml, imle, inm, nI_1, nI_add, isub1, isb, iaddm, pk_mul, si_hit, si_miss, si_oth, wo_oth, zl_0, zl_2, zl_3, zl_4, zl_5, zl_6, zl_7, zl_9, zl_10, zl_32, zl_35, zl_36, zl_48, zl_57, zl_59, zl_60, zl_61, zl_62, zl_63, zl_64, zl_65, zl_99, zl_100, zl_102, zl_109, zl_110, zl_115, zl_116, zl_119, zl_120, zl_121, zl_126, zl_605, zl_720, zl_1957, zl_1000000, a_2, a_3, a_4, a_5, a_6, a_46, a_47, a_55, a_56, a_58, a_68, a_69, a_70, a_73, a_74, a_76, a_77, a_78, a_79, a_80, a_81, a_82, a_83, a_84, a_85, a_86, a_87, a_88, a_89, a_90, a_91, a_92, a_93, a_94, a_95, s_2, s_3, s_4, s_5, s_6, s_46, s_47, s_55, s_56, s_58, s_68, s_69, s_70, s_73, s_74, s_76, s_77, s_78, s_79, s_80, s_81, s_82, s_83, s_84, s_85, s_86, s_87, s_88, s_89, s_90, s_91, s_92, s_93, s_94, s_95, it_5, it_6, it_46, it_47, it_50, it_53, it_55, it_56, it_58, it_63, it_66, it_68, it_69, it_70, it_71, it_74, it_97, se_5, se_6, se_46, se_47, se_50, se_53, se_55, se_56, se_58, se_63, se_66, se_68, se_69, se_70, se_71, se_74, se_97, at_2, at_3, at_4, at_49, at_51, at_52, at_62, at_64, at_65, pu_2, pu_3, pu_4, pu_49, pu_51, pu_52, pu_62, pu_64, pu_65]
theorem nlt_pred {a : Int32} {n : Nat} (h1 : 1 ≤ n) (hn : n < 2147483648) (h : nI n ≤ a) : nI (n - 1) < a := by
  rw [Int32.le_iff_toInt_le, nI_toInt (by omega)] at h
  rw [Int32.lt_iff_toInt_lt, nI_toInt (by omega)]
  omega
theorem one_no {σ : Sg} {n : Nat} {a : Int32} (h0 : σ 76 0 = nI n) (h1 : 1 ≤ n) (hn : n ≤ 6) (h : a < 0 ∨ nI n ≤ a) : f_X9_isOne σ 75 a = some 0 := by
  unfold f_X9_isOne
  simp (disch := omega) only [if_true, if_false, obs, Option.bind_none, Sum.elim_inl, Sum.elim_inr, Option.elim, Nat.reduceAdd, Nat.add_zero, Nat.zero_add, ile, igt, ilt, inl, ieq, ine, iq10, i1z, im1, im11, iml, imle, inm, nI_1, nI_add, isub1, isb, iaddm, pk_mul, si_hit, si_miss, si_oth, wo_oth, zl_0, zl_2, zl_3, zl_4, zl_5, zl_6, zl_7, zl_9, zl_10, zl_32, zl_35, zl_36, zl_48, zl_57, zl_59, zl_60, zl_61, zl_62, zl_63, zl_64, zl_65, zl_99, zl_100, zl_102, zl_109, zl_110, zl_115, zl_116, zl_119, zl_120, zl_121, zl_126, zl_605, zl_720, zl_1957, zl_1000000, a_2, a_3, a_4, a_5, a_6, a_46, a_47, a_55, a_56, a_58, a_68, a_69, a_70, a_73, a_74, a_76, a_77, a_78, a_79, a_80, a_81, a_82, a_83, a_84, a_85, a_86, a_87, a_88, a_89, a_90, a_91, a_92, a_93, a_94, a_95, s_2, s_3, s_4, s_5, s_6, s_46, s_47, s_55, s_56, s_58, s_68, s_69, s_70, s_73, s_74, s_76, s_77, s_78, s_79, s_80, s_81, s_82, s_83, s_84, s_85, s_86, s_87, s_88, s_89, s_90, s_91, s_92, s_93, s_94, s_95, it_5, it_6, it_46, it_47, it_50, it_53, it_55, it_56, it_58, it_63, it_66, it_68, it_69, it_70, it_71, it_74, it_97, se_5, se_6, se_46, se_47, se_50, se_53, se_55, se_56, se_58, se_63, se_66, se_68, se_69, se_70, se_71, se_74, se_97, at_2, at_3, at_4, at_49, at_51, at_52, at_62, at_64, at_65, pu_2, pu_3, pu_4, pu_49, pu_51, pu_52, pu_62, pu_64, pu_65, h0]
  rw [in_no (h.imp (fun h => h) (nlt_pred h1 (by omega)))]
  simp only [obs]
  unfold gb
  rw [if_pos (Or.inl rfl)]
  rfl
theorem one_yes {σ : Sg} {n i : Nat} (h0 : σ 76 0 = nI n) (hn : n ≤ 6) (hi : i < n) : f_X9_isOne σ 75 (nI i) = some 1 := by
  unfold f_X9_isOne
  simp (disch := omega) only [if_true, if_false, obs, Option.bind_none, Sum.elim_inl, Sum.elim_inr, Option.elim, Nat.reduceAdd, Nat.add_zero, Nat.zero_add, ile, igt, ilt, inl, ieq, ine, iq10, i1z, im1, im11, iml, imle, inm, nI_1, nI_add, isub1, isb, iaddm, pk_mul, si_hit, si_miss, si_oth, wo_oth, zl_0, zl_2, zl_3, zl_4, zl_5, zl_6, zl_7, zl_9, zl_10, zl_32, zl_35, zl_36, zl_48, zl_57, zl_59, zl_60, zl_61, zl_62, zl_63, zl_64, zl_65, zl_99, zl_100, zl_102, zl_109, zl_110, zl_115, zl_116, zl_119, zl_120, zl_121, zl_126, zl_605, zl_720, zl_1957, zl_1000000, a_2, a_3, a_4, a_5, a_6, a_46, a_47, a_55, a_56, a_58, a_68, a_69, a_70, a_73, a_74, a_76, a_77, a_78, a_79, a_80, a_81, a_82, a_83, a_84, a_85, a_86, a_87, a_88, a_89, a_90, a_91, a_92, a_93, a_94, a_95, s_2, s_3, s_4, s_5, s_6, s_46, s_47, s_55, s_56, s_58, s_68, s_69, s_70, s_73, s_74, s_76, s_77, s_78, s_79, s_80, s_81, s_82, s_83, s_84, s_85, s_86, s_87, s_88, s_89, s_90, s_91, s_92, s_93, s_94, s_95, it_5, it_6, it_46, it_47, it_50, it_53, it_55, it_56, it_58, it_63, it_66, it_68, it_69, it_70, it_71, it_74, it_97, se_5, se_6, se_46, se_47, se_50, se_53, se_55, se_56, se_58, se_63, se_66, se_68, se_69, se_70, se_71, se_74, se_97, at_2, at_3, at_4, at_49, at_51, at_52, at_62, at_64, at_65, pu_2, pu_3, pu_4, pu_49, pu_51, pu_52, pu_62, pu_64, pu_65, h0]
  rw [in_yes (by omega) (by omega) (by omega)]
  simp only [obs]
  unfold gb
  rw [if_pos (Or.inr rfl)]
  rfl
theorem ixc (n : Nat) (hn : n < 2147483648) (a : Int32) : (a < 0 ∨ nI n ≤ a) ∨ ∃ i, i < n ∧ a = nI i := by
  rcases pk_ix a (n := n) (by omega) with h | h | h
  · exact Or.inl (Or.inl h)
  · exact Or.inl (Or.inr h)
  · exact Or.inr h
theorem rng (M : Nat) (hM : M < 2147483647) (a : Int32) : (a < 0 ∨ nI M < a) ∨ ∃ i, i ≤ M ∧ a = nI i := by
  rcases ixc (M + 1) (by omega) a with h | ⟨i, hi, e⟩
  · refine Or.inl (h.imp (fun h => h) (fun h => ?_))
    exact nlt_pred (n := M + 1) (by omega) (by omega) h
  · exact Or.inr ⟨i, by omega, e⟩
theorem tb_no {a : Int32} (h : a < 0 ∨ nI 2 < a) : f_X8_requireTable a = some (.inl 0) := by
  unfold f_X8_requireTable
  by_cases c : a < 0
  · rw [if_pos c]
  · rw [if_neg c, if_neg (by have := h.resolve_left c; rw [show (2 : Int32) = nI 2 from rfl]; grind)]
theorem tb_yes {w : Nat} (h : w ≤ 2) : f_X8_requireTable (nI w) = some (.inr ()) := by
  unfold f_X8_requireTable
  simp (disch := omega) only [if_true, if_false, obs, Option.bind_none, Sum.elim_inl, Sum.elim_inr, Option.elim, Nat.reduceAdd, Nat.add_zero, Nat.zero_add, ile, igt, ilt, inl, ieq, ine, iq10, i1z, im1, im11, iml, imle, inm, nI_1, nI_add, isub1, isb, iaddm, pk_mul, si_hit, si_miss, si_oth, wo_oth, zl_0, zl_2, zl_3, zl_4, zl_5, zl_6, zl_7, zl_9, zl_10, zl_32, zl_35, zl_36, zl_48, zl_57, zl_59, zl_60, zl_61, zl_62, zl_63, zl_64, zl_65, zl_99, zl_100, zl_102, zl_109, zl_110, zl_115, zl_116, zl_119, zl_120, zl_121, zl_126, zl_605, zl_720, zl_1957, zl_1000000, a_2, a_3, a_4, a_5, a_6, a_46, a_47, a_55, a_56, a_58, a_68, a_69, a_70, a_73, a_74, a_76, a_77, a_78, a_79, a_80, a_81, a_82, a_83, a_84, a_85, a_86, a_87, a_88, a_89, a_90, a_91, a_92, a_93, a_94, a_95, s_2, s_3, s_4, s_5, s_6, s_46, s_47, s_55, s_56, s_58, s_68, s_69, s_70, s_73, s_74, s_76, s_77, s_78, s_79, s_80, s_81, s_82, s_83, s_84, s_85, s_86, s_87, s_88, s_89, s_90, s_91, s_92, s_93, s_94, s_95, it_5, it_6, it_46, it_47, it_50, it_53, it_55, it_56, it_58, it_63, it_66, it_68, it_69, it_70, it_71, it_74, it_97, se_5, se_6, se_46, se_47, se_50, se_53, se_55, se_56, se_58, se_63, se_66, se_68, se_69, se_70, se_71, se_74, se_97, at_2, at_3, at_4, at_49, at_51, at_52, at_62, at_64, at_65, pu_2, pu_3, pu_4, pu_49, pu_51, pu_52, pu_62, pu_64, pu_65]
theorem va_no {a : Int32} (h : a < 0 ∨ nI 99 < a) : f_X8_requireValue a = some (.inl 0) := by
  unfold f_X8_requireValue
  by_cases c : a < 0
  · rw [if_pos c]
  · rw [if_neg c, if_neg (by have := h.resolve_left c; rw [show (99 : Int32) = nI 99 from rfl]; grind)]
theorem va_yes {w : Nat} (h : w ≤ 99) : f_X8_requireValue (nI w) = some (.inr ()) := by
  unfold f_X8_requireValue
  simp (disch := omega) only [if_true, if_false, obs, Option.bind_none, Sum.elim_inl, Sum.elim_inr, Option.elim, Nat.reduceAdd, Nat.add_zero, Nat.zero_add, ile, igt, ilt, inl, ieq, ine, iq10, i1z, im1, im11, iml, imle, inm, nI_1, nI_add, isub1, isb, iaddm, pk_mul, si_hit, si_miss, si_oth, wo_oth, zl_0, zl_2, zl_3, zl_4, zl_5, zl_6, zl_7, zl_9, zl_10, zl_32, zl_35, zl_36, zl_48, zl_57, zl_59, zl_60, zl_61, zl_62, zl_63, zl_64, zl_65, zl_99, zl_100, zl_102, zl_109, zl_110, zl_115, zl_116, zl_119, zl_120, zl_121, zl_126, zl_605, zl_720, zl_1957, zl_1000000, a_2, a_3, a_4, a_5, a_6, a_46, a_47, a_55, a_56, a_58, a_68, a_69, a_70, a_73, a_74, a_76, a_77, a_78, a_79, a_80, a_81, a_82, a_83, a_84, a_85, a_86, a_87, a_88, a_89, a_90, a_91, a_92, a_93, a_94, a_95, s_2, s_3, s_4, s_5, s_6, s_46, s_47, s_55, s_56, s_58, s_68, s_69, s_70, s_73, s_74, s_76, s_77, s_78, s_79, s_80, s_81, s_82, s_83, s_84, s_85, s_86, s_87, s_88, s_89, s_90, s_91, s_92, s_93, s_94, s_95, it_5, it_6, it_46, it_47, it_50, it_53, it_55, it_56, it_58, it_63, it_66, it_68, it_69, it_70, it_71, it_74, it_97, se_5, se_6, se_46, se_47, se_50, se_53, se_55, se_56, se_58, se_63, se_66, se_68, se_69, se_70, se_71, se_74, se_97, at_2, at_3, at_4, at_49, at_51, at_52, at_62, at_64, at_65, pu_2, pu_3, pu_4, pu_49, pu_51, pu_52, pu_62, pu_64, pu_65]
theorem table_ok {w : Nat} (hw : w ≤ 2) : f_X6_tableOf 1 (nI w) = some (2 + w) := by
  unfold f_X6_tableOf
  by_cases h0 : w = 0
  · subst h0; rfl
  · by_cases h1 : w = 1
    · subst h1
      rw [if_neg (nI_ne0 (by omega) (by omega)), if_pos (by decide)]
    · have : w = 2 := by omega
      subst this
      rw [if_neg (nI_ne0 (by omega) (by omega)), if_neg (by decide)]
theorem ln_w : ∀ w, w ≤ 2 → ln (2 + w) = 36 := by decide +kernel
theorem snap_w {σ : Sg} {w j : Nat} (hw : w ≤ 2) (hj : j < 36) : snap σ 1 (1 + 36 * w + j) = σ (2 + w) j := by
  have h3 : w = 0 ∨ w = 1 ∨ w = 2 := by omega
  rcases h3 with rfl | rfl | rfl
  · exact snap_f hj
  · exact snap_d hj
  · exact snap_c hj
theorem snap_si_w {σ : Sg} {w j : Nat} {x : Int32} (hw : w ≤ 2) (hj : j < 36) : EqS (snap (si σ (2 + w) j x) 1) (upd (snap σ 1) (1 + 36 * w + j) x) := by
  intro q hq
  by_cases h : q = 1 + 36 * w + j
  · subst h
    rw [pk_us, snap_w hw hj, si_hit]
  · rw [pk_un h]
    have h3 : w = 0 ∨ w = 1 ∨ w = 2 := by omega
    unfold snap
    rcases h3 with rfl | rfl | rfl
    · by_cases c : 1 ≤ q ∧ q < 37
      · rw [if_neg (by omega), if_pos (by omega), if_neg (by omega), if_pos (by omega), si_miss (by omega)]
      · rw [si_oth (by omega), si_oth (q := 1 + 2) (by omega), si_oth (q := 1 + 3) (by omega), si_oth (q := 1 + 4) (by omega), si_oth (q := 1 + 5) (by omega)]
        by_cases c0 : q = 0
        · rw [if_pos c0, if_pos c0]
        · simp only [c0, show ¬ q < 37 by omega, if_false]
    · by_cases c : 37 ≤ q ∧ q < 73
      · rw [if_neg (by omega), if_neg (by omega), if_pos (by omega), if_neg (by omega), if_neg (by omega), if_pos (by omega), si_miss (by omega)]
      · rw [si_oth (by omega), si_oth (q := 1 + 1) (by omega), si_oth (q := 1 + 3) (by omega), si_oth (q := 1 + 4) (by omega), si_oth (q := 1 + 5) (by omega)]
        by_cases c0 : q = 0
        · rw [if_pos c0, if_pos c0]
        · by_cases c1 : q < 37
          · rw [if_neg c0, if_neg c0, if_pos c1, if_pos c1]
          · simp only [c0, c1, show ¬ q < 73 by omega, if_false]
    · by_cases c : 73 ≤ q ∧ q < 109
      · rw [if_neg (by omega), if_neg (by omega), if_neg (by omega), if_pos (by omega), if_neg (by omega), if_neg (by omega), if_neg (by omega), if_pos (by omega), si_miss (by omega)]
      · rw [si_oth (by omega), si_oth (q := 1 + 1) (by omega), si_oth (q := 1 + 2) (by omega), si_oth (q := 1 + 4) (by omega), si_oth (q := 1 + 5) (by omega)]
        by_cases c0 : q = 0
        · rw [if_pos c0, if_pos c0]
        · by_cases c1 : q < 37
          · rw [if_neg c0, if_neg c0, if_pos c1, if_pos c1]
          · by_cases c2 : q < 73
            · rw [if_neg c0, if_neg c0, if_neg c1, if_neg c1, if_pos c2, if_pos c2]
            · simp only [c0, c1, c2, show ¬ q < 109 by omega, if_false]
theorem VT_upd {s : Nat → Int32} {o q v : Nat} (h : VT (tS s o)) (hv : v ≤ 99) : VT (tS (upd s q (nI v)) o) := by
  intro i j hi hj
  obtain ⟨x, h1, h2⟩ := h i j hi hj
  rw [tS_at hi hj] at h2 ⊢
  by_cases c : o + 6 * i + j = q
  · rw [c, pk_us]
    exact ⟨v, hv, rfl⟩
  · rw [pk_un c]
    exact ⟨x, h1, h2⟩
theorem Gd_upd {n q v : Nat} {s : Nat → Int32} (h : Gd n s) (h1 : 1 ≤ q) (h2 : q < 109) (hv : v ≤ 99) : Gd n (upd s q (nI v)) := by
  obtain ⟨g1, g2, g3, ⟨g4, g5, g6⟩, ⟨t, g7, g8⟩, g9, g10⟩ := h
  refine ⟨g1, g2, by rw [pk_un (by omega), g3], ⟨VT_upd g4 hv, VT_upd g5 hv, VT_upd g6 hv⟩, ⟨t, g7, fun i hi => by rw [pk_un (by omega), g8 i hi]⟩, ?_, fun i hi h6 => by rw [pk_un (by omega), g10 i hi h6]⟩
  have : vS (upd s q (nI v)) 115 = vS s 115 := by
    funext i
    unfold vS
    rw [pk_un (by omega)]
  rw [this]
  exact g9
theorem hold78 {σ : Sg} {s : Nat → Int32} (h : EqS (σ 76) s) : EqS ((wo σ 78 0 121 (σ 76)) 78) s := fun j hj => by rw [wo_in0 hj, h j hj]
theorem hold76 {σ : Sg} {s : Nat → Int32} (h : EqS (σ 76) s) : EqS ((wo σ 78 0 121 (σ 76)) 76) s := fun j hj => by rw [wo_oth (by omega), h j hj]
theorem fr_hold {σ : Sg} : Fr [76, 78, 80, 81] σ (wo σ 78 0 121 (σ 76)) := wo_fr Fr.rf (by decide)
theorem J_und {σ σ1 σ2 σ3 : Sg} {s s' : Nat → Int32} {c : Nat} {h : Nat → Nat → Int32} {T : Nat} {tx : Nat → Nat} {md : Bool} {rs : Nat → Int32} (hG : GI s c h T tx) (hM : MI σ s c h T tx md rs) (q2 : Fr HW σ σ1) (q3 : CI σ1 s (pushC c) (pushH c h s) T tx md rs) (hF : Fr [1, 2, 3, 4, 5, 6] σ1 σ2) (hs : EqS (snap σ2 1) s') (hF2 : Fr [76, 78, 80, 81] σ2 σ3) (h78 : EqS (σ3 78) s) (hs3 : EqS (σ3 76) s') (hg' : ∃ n, Gd n s') (x : Int32) : ∃ σ', f_X9_ends σ3 75 x = some (x, σ') ∧ σ' 75 6 = 0 ∧ Iv σ' := by
  obtain ⟨σ', r1, r2, r3, r4⟩ := MI_ends x (MI_fr (MI_fr hM q2 (by decide)) hF (by decide)) hF2 h78 hs3
  exact ⟨σ', r1, r4, Iv_of (GI_push hG hg') (CI_fr (CI_fr (CI_set q3 hF hs) hF2 (by decide)) r2 (by decide)) r3⟩
theorem MI_und {σ σ1 σ2 : Sg} {s : Nat → Int32} {c : Nat} {h : Nat → Nat → Int32} {T : Nat} {tx : Nat → Nat} {md : Bool} {rs : Nat → Int32} (hM : MI σ s c h T tx md rs) (q2 : Fr HW σ σ1) (hF : Fr [1, 2, 3, 4, 5, 6] σ1 σ2) : EqS (σ2 76) s := by
  have := MI_fr (MI_fr hM q2 (by decide)) hF (by decide)
  exact this.1.1
/-- the model says why it failed -/
theorem Iv_75 {σ : Sg} {j : Nat} {x : Int32} (H : Iv σ) (h3 : j ≠ 3) (h5 : j ≠ 5) : Iv (si σ 75 j x) := by
  obtain ⟨s, c, h, T, tx, md, rs, hG, hC, hM⟩ := H
  exact ⟨s, c, h, T, tx, md, rs, hG, CI_75 hC (by decide), MI_75 hM h3 h5⟩
theorem fails_ok {σ : Sg} {x : Int32} : f_X9_fails σ 75 x = some (0, si σ 75 6 x) := rfl
theorem tells_ok {σ : Sg} {x : Int32} : f_X9_tells σ 75 x = some (x, si σ 75 6 0) := rfl
theorem J_size {σ : Sg} (H : Iv σ) : JA (f_X8_size σ 0) (fun σ => f_X9_size σ 75) σ := by
  have H' := H
  obtain ⟨s, c, h, T, tx, md, rs, ⟨⟨n, hg⟩, hG⟩, hC, hM⟩ := H'
  have hc0 := CI_n hC hg
  have hm0 := MI_n hM hg
  refine ⟨nI n, si σ 75 6 0, ?_, ?_, Iv_75 H (by decide) (by decide)⟩
  · unfold f_X8_size
    simp (disch := omega) only [if_true, if_false, obs, Option.bind_none, Sum.elim_inl, Sum.elim_inr, Option.elim, Nat.reduceAdd, Nat.add_zero, Nat.zero_add, ile, igt, ilt, inl, ieq, ine, iq10, i1z, im1, im11, iml, imle, inm, nI_1, nI_add, isub1, isb, iaddm, pk_mul, si_hit, si_miss, si_oth, wo_oth, zl_0, zl_2, zl_3, zl_4, zl_5, zl_6, zl_7, zl_9, zl_10, zl_32, zl_35, zl_36, zl_48, zl_57, zl_59, zl_60, zl_61, zl_62, zl_63, zl_64, zl_65, zl_99, zl_100, zl_102, zl_109, zl_110, zl_115, zl_116, zl_119, zl_120, zl_121, zl_126, zl_605, zl_720, zl_1957, zl_1000000, a_2, a_3, a_4, a_5, a_6, a_46, a_47, a_55, a_56, a_58, a_68, a_69, a_70, a_73, a_74, a_76, a_77, a_78, a_79, a_80, a_81, a_82, a_83, a_84, a_85, a_86, a_87, a_88, a_89, a_90, a_91, a_92, a_93, a_94, a_95, s_2, s_3, s_4, s_5, s_6, s_46, s_47, s_55, s_56, s_58, s_68, s_69, s_70, s_73, s_74, s_76, s_77, s_78, s_79, s_80, s_81, s_82, s_83, s_84, s_85, s_86, s_87, s_88, s_89, s_90, s_91, s_92, s_93, s_94, s_95, it_5, it_6, it_46, it_47, it_50, it_53, it_55, it_56, it_58, it_63, it_66, it_68, it_69, it_70, it_71, it_74, it_97, se_5, se_6, se_46, se_47, se_50, se_53, se_55, se_56, se_58, se_63, se_66, se_68, se_69, se_70, se_71, se_74, se_97, at_2, at_3, at_4, at_49, at_51, at_52, at_62, at_64, at_65, pu_2, pu_3, pu_4, pu_49, pu_51, pu_52, pu_62, pu_64, pu_65, hc0]
  · show f_X9_size σ 75 = _
    unfold f_X9_size
    simp (disch := omega) only [if_true, if_false, obs, Option.bind_none, Sum.elim_inl, Sum.elim_inr, Option.elim, Nat.reduceAdd, Nat.add_zero, Nat.zero_add, ile, igt, ilt, inl, ieq, ine, iq10, i1z, im1, im11, iml, imle, inm, nI_1, nI_add, isub1, isb, iaddm, pk_mul, si_hit, si_miss, si_oth, wo_oth, zl_0, zl_2, zl_3, zl_4, zl_5, zl_6, zl_7, zl_9, zl_10, zl_32, zl_35, zl_36, zl_48, zl_57, zl_59, zl_60, zl_61, zl_62, zl_63, zl_64, zl_65, zl_99, zl_100, zl_102, zl_109, zl_110, zl_115, zl_116, zl_119, zl_120, zl_121, zl_126, zl_605, zl_720, zl_1957, zl_1000000, a_2, a_3, a_4, a_5, a_6, a_46, a_47, a_55, a_56, a_58, a_68, a_69, a_70, a_73, a_74, a_76, a_77, a_78, a_79, a_80, a_81, a_82, a_83, a_84, a_85, a_86, a_87, a_88, a_89, a_90, a_91, a_92, a_93, a_94, a_95, s_2, s_3, s_4, s_5, s_6, s_46, s_47, s_55, s_56, s_58, s_68, s_69, s_70, s_73, s_74, s_76, s_77, s_78, s_79, s_80, s_81, s_82, s_83, s_84, s_85, s_86, s_87, s_88, s_89, s_90, s_91, s_92, s_93, s_94, s_95, it_5, it_6, it_46, it_47, it_50, it_53, it_55, it_56, it_58, it_63, it_66, it_68, it_69, it_70, it_71, it_74, it_97, se_5, se_6, se_46, se_47, se_50, se_53, se_55, se_56, se_58, se_63, se_66, se_68, se_69, se_70, se_71, se_74, se_97, at_2, at_3, at_4, at_49, at_51, at_52, at_62, at_64, at_65, pu_2, pu_3, pu_4, pu_49, pu_51, pu_52, pu_62, pu_64, pu_65, hm0, tells_ok]
-- resize
def s0n (n : Nat) : Nat → Int32 := fun j => if j = 0 then nI n else if j < 109 then 0 else if j < 115 then nI (j - 109) else -1
theorem reset_ok {σ : Sg} {n : Nat} : ∃ σ', f_X6_reset σ 1 (nI n) = some σ' ∧ Fr [1, 2, 3, 4, 5, 6] σ σ' ∧ EqS (snap σ' 1) (s0n n) := by
  unfold f_X6_reset
  obtain ⟨e, h1, h2, h3⟩ := lo_it (f := f_X6_reset_L7 1) (fun j σ' => Fr [2, 3, 4] (si σ 1 0 (nI n)) σ' ∧ ∀ i, i < j → σ' 2 i = 0 ∧ σ' 3 i = 0 ∧ σ' 4 i = 0) 36 (fun e => Fr [2, 3, 4] (si σ 1 0 (nI n)) e ∧ ∀ i, i < 36 → e 2 i = 0 ∧ e 3 i = 0 ∧ e 4 i = 0) (fun j σ' hj ⟨hF, hv⟩ => by
    unfold f_X6_reset_L7
    simp (disch := omega) only [if_true, if_false, obs, Option.bind_none, Sum.elim_inl, Sum.elim_inr, Option.elim, Nat.reduceAdd, Nat.add_zero, Nat.zero_add, ile, igt, ilt, inl, ieq, ine, iq10, i1z, im1, im11, iml, imle, inm, nI_1, nI_add, isub1, isb, iaddm, pk_mul, si_hit, si_miss, si_oth, wo_oth, zl_0, zl_2, zl_3, zl_4, zl_5, zl_6, zl_7, zl_9, zl_10, zl_32, zl_35, zl_36, zl_48, zl_57, zl_59, zl_60, zl_61, zl_62, zl_63, zl_64, zl_65, zl_99, zl_100, zl_102, zl_109, zl_110, zl_115, zl_116, zl_119, zl_120, zl_121, zl_126, zl_605, zl_720, zl_1957, zl_1000000, a_2, a_3, a_4, a_5, a_6, a_46, a_47, a_55, a_56, a_58, a_68, a_69, a_70, a_73, a_74, a_76, a_77, a_78, a_79, a_80, a_81, a_82, a_83, a_84, a_85, a_86, a_87, a_88, a_89, a_90, a_91, a_92, a_93, a_94, a_95, s_2, s_3, s_4, s_5, s_6, s_46, s_47, s_55, s_56, s_58, s_68, s_69, s_70, s_73, s_74, s_76, s_77, s_78, s_79, s_80, s_81, s_82, s_83, s_84, s_85, s_86, s_87, s_88, s_89, s_90, s_91, s_92, s_93, s_94, s_95, it_5, it_6, it_46, it_47, it_50, it_53, it_55, it_56, it_58, it_63, it_66, it_68, it_69, it_70, it_71, it_74, it_97, se_5, se_6, se_46, se_47, se_50, se_53, se_55, se_56, se_58, se_63, se_66, se_68, se_69, se_70, se_71, se_74, se_97, at_2, at_3, at_4, at_49, at_51, at_52, at_62, at_64, at_65, pu_2, pu_3, pu_4, pu_49, pu_51, pu_52, pu_62, pu_64, pu_65]
    refine ⟨_, rfl, ((hF.si (by decide)).si (by decide)).si (by decide), fun i hi => ?_⟩
    by_cases c : i = j
    · subst c
      exact ⟨by rw [si_oth (by omega), si_oth (by omega), si_hit], by rw [si_oth (by omega), si_hit], by rw [si_hit]⟩
    · simp (disch := omega) only [if_true, if_false, obs, Option.bind_none, Sum.elim_inl, Sum.elim_inr, Option.elim, Nat.reduceAdd, Nat.add_zero, Nat.zero_add, ile, igt, ilt, inl, ieq, ine, iq10, i1z, im1, im11, iml, imle, inm, nI_1, nI_add, isub1, isb, iaddm, pk_mul, si_hit, si_miss, si_oth, wo_oth, zl_0, zl_2, zl_3, zl_4, zl_5, zl_6, zl_7, zl_9, zl_10, zl_32, zl_35, zl_36, zl_48, zl_57, zl_59, zl_60, zl_61, zl_62, zl_63, zl_64, zl_65, zl_99, zl_100, zl_102, zl_109, zl_110, zl_115, zl_116, zl_119, zl_120, zl_121, zl_126, zl_605, zl_720, zl_1957, zl_1000000, a_2, a_3, a_4, a_5, a_6, a_46, a_47, a_55, a_56, a_58, a_68, a_69, a_70, a_73, a_74, a_76, a_77, a_78, a_79, a_80, a_81, a_82, a_83, a_84, a_85, a_86, a_87, a_88, a_89, a_90, a_91, a_92, a_93, a_94, a_95, s_2, s_3, s_4, s_5, s_6, s_46, s_47, s_55, s_56, s_58, s_68, s_69, s_70, s_73, s_74, s_76, s_77, s_78, s_79, s_80, s_81, s_82, s_83, s_84, s_85, s_86, s_87, s_88, s_89, s_90, s_91, s_92, s_93, s_94, s_95, it_5, it_6, it_46, it_47, it_50, it_53, it_55, it_56, it_58, it_63, it_66, it_68, it_69, it_70, it_71, it_74, it_97, se_5, se_6, se_46, se_47, se_50, se_53, se_55, se_56, se_58, se_63, se_66, se_68, se_69, se_70, se_71, se_74, se_97, at_2, at_3, at_4, at_49, at_51, at_52, at_62, at_64, at_65, pu_2, pu_3, pu_4, pu_49, pu_51, pu_52, pu_62, pu_64, pu_65]
      exact hv i (by omega)) (fun σ' ⟨hF, hv⟩ => by
    unfold f_X6_reset_L7
    simp (disch := omega) only [if_true, if_false, obs, Option.bind_none, Sum.elim_inl, Sum.elim_inr, Option.elim, Nat.reduceAdd, Nat.add_zero, Nat.zero_add, ile, igt, ilt, inl, ieq, ine, iq10, i1z, im1, im11, iml, imle, inm, nI_1, nI_add, isub1, isb, iaddm, pk_mul, si_hit, si_miss, si_oth, wo_oth, zl_0, zl_2, zl_3, zl_4, zl_5, zl_6, zl_7, zl_9, zl_10, zl_32, zl_35, zl_36, zl_48, zl_57, zl_59, zl_60, zl_61, zl_62, zl_63, zl_64, zl_65, zl_99, zl_100, zl_102, zl_109, zl_110, zl_115, zl_116, zl_119, zl_120, zl_121, zl_126, zl_605, zl_720, zl_1957, zl_1000000, a_2, a_3, a_4, a_5, a_6, a_46, a_47, a_55, a_56, a_58, a_68, a_69, a_70, a_73, a_74, a_76, a_77, a_78, a_79, a_80, a_81, a_82, a_83, a_84, a_85, a_86, a_87, a_88, a_89, a_90, a_91, a_92, a_93, a_94, a_95, s_2, s_3, s_4, s_5, s_6, s_46, s_47, s_55, s_56, s_58, s_68, s_69, s_70, s_73, s_74, s_76, s_77, s_78, s_79, s_80, s_81, s_82, s_83, s_84, s_85, s_86, s_87, s_88, s_89, s_90, s_91, s_92, s_93, s_94, s_95, it_5, it_6, it_46, it_47, it_50, it_53, it_55, it_56, it_58, it_63, it_66, it_68, it_69, it_70, it_71, it_74, it_97, se_5, se_6, se_46, se_47, se_50, se_53, se_55, se_56, se_58, se_63, se_66, se_68, se_69, se_70, se_71, se_74, se_97, at_2, at_3, at_4, at_49, at_51, at_52, at_62, at_64, at_65, pu_2, pu_3, pu_4, pu_49, pu_51, pu_52, pu_62, pu_64, pu_65]
    exact ⟨_, rfl, hF, hv⟩) (σ := si σ 1 0 (nI n)) (z := 0) rfl ⟨Fr.rf, fun i hi => by omega⟩
  rw [h1]
  simp only [obs]
  obtain ⟨e', h4, h5, h6⟩ := lo_it (f := f_X6_reset_L42 1) (fun j σ' => Fr [5, 6] e σ' ∧ ∀ i, i < j → σ' 5 i = nI i ∧ σ' 6 i = -1) 6 (fun e' => Fr [5, 6] e e' ∧ ∀ i, i < 6 → e' 5 i = nI i ∧ e' 6 i = -1) (fun j σ' hj ⟨hF, hv⟩ => by
    unfold f_X6_reset_L42
    simp (disch := omega) only [if_true, if_false, obs, Option.bind_none, Sum.elim_inl, Sum.elim_inr, Option.elim, Nat.reduceAdd, Nat.add_zero, Nat.zero_add, ile, igt, ilt, inl, ieq, ine, iq10, i1z, im1, im11, iml, imle, inm, nI_1, nI_add, isub1, isb, iaddm, pk_mul, si_hit, si_miss, si_oth, wo_oth, zl_0, zl_2, zl_3, zl_4, zl_5, zl_6, zl_7, zl_9, zl_10, zl_32, zl_35, zl_36, zl_48, zl_57, zl_59, zl_60, zl_61, zl_62, zl_63, zl_64, zl_65, zl_99, zl_100, zl_102, zl_109, zl_110, zl_115, zl_116, zl_119, zl_120, zl_121, zl_126, zl_605, zl_720, zl_1957, zl_1000000, a_2, a_3, a_4, a_5, a_6, a_46, a_47, a_55, a_56, a_58, a_68, a_69, a_70, a_73, a_74, a_76, a_77, a_78, a_79, a_80, a_81, a_82, a_83, a_84, a_85, a_86, a_87, a_88, a_89, a_90, a_91, a_92, a_93, a_94, a_95, s_2, s_3, s_4, s_5, s_6, s_46, s_47, s_55, s_56, s_58, s_68, s_69, s_70, s_73, s_74, s_76, s_77, s_78, s_79, s_80, s_81, s_82, s_83, s_84, s_85, s_86, s_87, s_88, s_89, s_90, s_91, s_92, s_93, s_94, s_95, it_5, it_6, it_46, it_47, it_50, it_53, it_55, it_56, it_58, it_63, it_66, it_68, it_69, it_70, it_71, it_74, it_97, se_5, se_6, se_46, se_47, se_50, se_53, se_55, se_56, se_58, se_63, se_66, se_68, se_69, se_70, se_71, se_74, se_97, at_2, at_3, at_4, at_49, at_51, at_52, at_62, at_64, at_65, pu_2, pu_3, pu_4, pu_49, pu_51, pu_52, pu_62, pu_64, pu_65]
    refine ⟨_, rfl, (hF.si (by decide)).si (by decide), fun i hi => ?_⟩
    by_cases c : i = j
    · subst c
      exact ⟨by rw [si_oth (by omega), si_hit], by rw [si_hit]⟩
    · simp (disch := omega) only [if_true, if_false, obs, Option.bind_none, Sum.elim_inl, Sum.elim_inr, Option.elim, Nat.reduceAdd, Nat.add_zero, Nat.zero_add, ile, igt, ilt, inl, ieq, ine, iq10, i1z, im1, im11, iml, imle, inm, nI_1, nI_add, isub1, isb, iaddm, pk_mul, si_hit, si_miss, si_oth, wo_oth, zl_0, zl_2, zl_3, zl_4, zl_5, zl_6, zl_7, zl_9, zl_10, zl_32, zl_35, zl_36, zl_48, zl_57, zl_59, zl_60, zl_61, zl_62, zl_63, zl_64, zl_65, zl_99, zl_100, zl_102, zl_109, zl_110, zl_115, zl_116, zl_119, zl_120, zl_121, zl_126, zl_605, zl_720, zl_1957, zl_1000000, a_2, a_3, a_4, a_5, a_6, a_46, a_47, a_55, a_56, a_58, a_68, a_69, a_70, a_73, a_74, a_76, a_77, a_78, a_79, a_80, a_81, a_82, a_83, a_84, a_85, a_86, a_87, a_88, a_89, a_90, a_91, a_92, a_93, a_94, a_95, s_2, s_3, s_4, s_5, s_6, s_46, s_47, s_55, s_56, s_58, s_68, s_69, s_70, s_73, s_74, s_76, s_77, s_78, s_79, s_80, s_81, s_82, s_83, s_84, s_85, s_86, s_87, s_88, s_89, s_90, s_91, s_92, s_93, s_94, s_95, it_5, it_6, it_46, it_47, it_50, it_53, it_55, it_56, it_58, it_63, it_66, it_68, it_69, it_70, it_71, it_74, it_97, se_5, se_6, se_46, se_47, se_50, se_53, se_55, se_56, se_58, se_63, se_66, se_68, se_69, se_70, se_71, se_74, se_97, at_2, at_3, at_4, at_49, at_51, at_52, at_62, at_64, at_65, pu_2, pu_3, pu_4, pu_49, pu_51, pu_52, pu_62, pu_64, pu_65]
      exact hv i (by omega)) (fun σ' ⟨hF, hv⟩ => by
    unfold f_X6_reset_L42
    simp (disch := omega) only [if_true, if_false, obs, Option.bind_none, Sum.elim_inl, Sum.elim_inr, Option.elim, Nat.reduceAdd, Nat.add_zero, Nat.zero_add, ile, igt, ilt, inl, ieq, ine, iq10, i1z, im1, im11, iml, imle, inm, nI_1, nI_add, isub1, isb, iaddm, pk_mul, si_hit, si_miss, si_oth, wo_oth, zl_0, zl_2, zl_3, zl_4, zl_5, zl_6, zl_7, zl_9, zl_10, zl_32, zl_35, zl_36, zl_48, zl_57, zl_59, zl_60, zl_61, zl_62, zl_63, zl_64, zl_65, zl_99, zl_100, zl_102, zl_109, zl_110, zl_115, zl_116, zl_119, zl_120, zl_121, zl_126, zl_605, zl_720, zl_1957, zl_1000000, a_2, a_3, a_4, a_5, a_6, a_46, a_47, a_55, a_56, a_58, a_68, a_69, a_70, a_73, a_74, a_76, a_77, a_78, a_79, a_80, a_81, a_82, a_83, a_84, a_85, a_86, a_87, a_88, a_89, a_90, a_91, a_92, a_93, a_94, a_95, s_2, s_3, s_4, s_5, s_6, s_46, s_47, s_55, s_56, s_58, s_68, s_69, s_70, s_73, s_74, s_76, s_77, s_78, s_79, s_80, s_81, s_82, s_83, s_84, s_85, s_86, s_87, s_88, s_89, s_90, s_91, s_92, s_93, s_94, s_95, it_5, it_6, it_46, it_47, it_50, it_53, it_55, it_56, it_58, it_63, it_66, it_68, it_69, it_70, it_71, it_74, it_97, se_5, se_6, se_46, se_47, se_50, se_53, se_55, se_56, se_58, se_63, se_66, se_68, se_69, se_70, se_71, se_74, se_97, at_2, at_3, at_4, at_49, at_51, at_52, at_62, at_64, at_65, pu_2, pu_3, pu_4, pu_49, pu_51, pu_52, pu_62, pu_64, pu_65]
    exact ⟨_, rfl, hF, hv⟩) (σ := e) (z := 0) rfl ⟨Fr.rf, fun i hi => by omega⟩
  rw [h4]
  simp only [obs]
  refine ⟨e', rfl, ?_, snap_case ?_ (fun j hj => ?_) (fun j hj => ?_) (fun j hj => ?_) (fun j hj => ?_) (fun j hj => ?_)⟩
  · exact Fr.tr (Fr.tr (Fr.rf.si (by decide)) h2 (by decide)) h5 (by decide)
  · rw [snap_0, h5.at (by decide), h2.at (by decide), si_hit]
    rfl
  · rw [snap_f hj, h5.at (by decide), (h3 j hj).1]
    unfold s0n
    rw [if_neg (by omega), if_pos (by omega)]
  · rw [snap_d hj, h5.at (by decide), (h3 j hj).2.1]
    unfold s0n
    rw [if_neg (by omega), if_pos (by omega)]
  · rw [snap_c hj, h5.at (by decide), (h3 j hj).2.2]
    unfold s0n
    rw [if_neg (by omega), if_pos (by omega)]
  · rw [snap_p hj, (h6 j hj).1]
    unfold s0n
    rw [if_neg (by omega), if_neg (by omega), if_pos (by omega), Nat.add_sub_cancel_left]
  · rw [snap_x, (h6 j hj).2]
    unfold s0n
    rw [if_neg (by omega), if_neg (by omega), if_neg (by omega)]
theorem m_begins {σ : Sg} {n : Nat} : ∃ σ', f_X9_begins σ 75 (nI n) = some σ' ∧ Fr [76] σ σ' ∧ EqS (σ' 76) (s0n n) := by
  unfold f_X9_begins
  obtain ⟨e, h1, h2, h3⟩ := lo_it (f := f_X9_begins_L2 75) (fun j σ' => Fr [76] σ σ' ∧ ∀ i, i < j → σ' 76 i = if i < 115 then 0 else -1) 121 (fun e => Fr [76] σ e ∧ ∀ i, i < 121 → e 76 i = if i < 115 then 0 else -1) (fun j σ' hj ⟨hF, hv⟩ => by
    unfold f_X9_begins_L2 f_X9_begins_J24
    have fin : ∀ x : Int32, x = (if j < 115 then 0 else -1) → Fr [76] σ (si σ' 76 j x) ∧ ∀ i, i < j + 1 → (si σ' 76 j x) 76 i = if i < 115 then 0 else -1 := fun x hx => ⟨hF.si (by decide), fun i hi => by
      by_cases c : i = j
      · subst c
        rw [si_hit, hx]
      · rw [si_miss c]
        exact hv i (by omega)⟩
    by_cases c : j < 115
    · simp (disch := omega) only [if_true, if_false, obs, Option.bind_none, Sum.elim_inl, Sum.elim_inr, Option.elim, Nat.reduceAdd, Nat.add_zero, Nat.zero_add, ile, igt, ilt, inl, ieq, ine, iq10, i1z, im1, im11, iml, imle, inm, nI_1, nI_add, isub1, isb, iaddm, pk_mul, si_hit, si_miss, si_oth, wo_oth, zl_0, zl_2, zl_3, zl_4, zl_5, zl_6, zl_7, zl_9, zl_10, zl_32, zl_35, zl_36, zl_48, zl_57, zl_59, zl_60, zl_61, zl_62, zl_63, zl_64, zl_65, zl_99, zl_100, zl_102, zl_109, zl_110, zl_115, zl_116, zl_119, zl_120, zl_121, zl_126, zl_605, zl_720, zl_1957, zl_1000000, a_2, a_3, a_4, a_5, a_6, a_46, a_47, a_55, a_56, a_58, a_68, a_69, a_70, a_73, a_74, a_76, a_77, a_78, a_79, a_80, a_81, a_82, a_83, a_84, a_85, a_86, a_87, a_88, a_89, a_90, a_91, a_92, a_93, a_94, a_95, s_2, s_3, s_4, s_5, s_6, s_46, s_47, s_55, s_56, s_58, s_68, s_69, s_70, s_73, s_74, s_76, s_77, s_78, s_79, s_80, s_81, s_82, s_83, s_84, s_85, s_86, s_87, s_88, s_89, s_90, s_91, s_92, s_93, s_94, s_95, it_5, it_6, it_46, it_47, it_50, it_53, it_55, it_56, it_58, it_63, it_66, it_68, it_69, it_70, it_71, it_74, it_97, se_5, se_6, se_46, se_47, se_50, se_53, se_55, se_56, se_58, se_63, se_66, se_68, se_69, se_70, se_71, se_74, se_97, at_2, at_3, at_4, at_49, at_51, at_52, at_62, at_64, at_65, pu_2, pu_3, pu_4, pu_49, pu_51, pu_52, pu_62, pu_64, pu_65]
      exact ⟨_, rfl, fin _ (by rw [if_pos c]; rfl)⟩
    · simp (disch := omega) only [if_true, if_false, obs, Option.bind_none, Sum.elim_inl, Sum.elim_inr, Option.elim, Nat.reduceAdd, Nat.add_zero, Nat.zero_add, ile, igt, ilt, inl, ieq, ine, iq10, i1z, im1, im11, iml, imle, inm, nI_1, nI_add, isub1, isb, iaddm, pk_mul, si_hit, si_miss, si_oth, wo_oth, zl_0, zl_2, zl_3, zl_4, zl_5, zl_6, zl_7, zl_9, zl_10, zl_32, zl_35, zl_36, zl_48, zl_57, zl_59, zl_60, zl_61, zl_62, zl_63, zl_64, zl_65, zl_99, zl_100, zl_102, zl_109, zl_110, zl_115, zl_116, zl_119, zl_120, zl_121, zl_126, zl_605, zl_720, zl_1957, zl_1000000, a_2, a_3, a_4, a_5, a_6, a_46, a_47, a_55, a_56, a_58, a_68, a_69, a_70, a_73, a_74, a_76, a_77, a_78, a_79, a_80, a_81, a_82, a_83, a_84, a_85, a_86, a_87, a_88, a_89, a_90, a_91, a_92, a_93, a_94, a_95, s_2, s_3, s_4, s_5, s_6, s_46, s_47, s_55, s_56, s_58, s_68, s_69, s_70, s_73, s_74, s_76, s_77, s_78, s_79, s_80, s_81, s_82, s_83, s_84, s_85, s_86, s_87, s_88, s_89, s_90, s_91, s_92, s_93, s_94, s_95, it_5, it_6, it_46, it_47, it_50, it_53, it_55, it_56, it_58, it_63, it_66, it_68, it_69, it_70, it_71, it_74, it_97, se_5, se_6, se_46, se_47, se_50, se_53, se_55, se_56, se_58, se_63, se_66, se_68, se_69, se_70, se_71, se_74, se_97, at_2, at_3, at_4, at_49, at_51, at_52, at_62, at_64, at_65, pu_2, pu_3, pu_4, pu_49, pu_51, pu_52, pu_62, pu_64, pu_65]
      exact ⟨_, rfl, fin _ (by rw [if_neg c])⟩) (fun σ' ⟨hF, hv⟩ => by
    unfold f_X9_begins_L2
    simp (disch := omega) only [if_true, if_false, obs, Option.bind_none, Sum.elim_inl, Sum.elim_inr, Option.elim, Nat.reduceAdd, Nat.add_zero, Nat.zero_add, ile, igt, ilt, inl, ieq, ine, iq10, i1z, im1, im11, iml, imle, inm, nI_1, nI_add, isub1, isb, iaddm, pk_mul, si_hit, si_miss, si_oth, wo_oth, zl_0, zl_2, zl_3, zl_4, zl_5, zl_6, zl_7, zl_9, zl_10, zl_32, zl_35, zl_36, zl_48, zl_57, zl_59, zl_60, zl_61, zl_62, zl_63, zl_64, zl_65, zl_99, zl_100, zl_102, zl_109, zl_110, zl_115, zl_116, zl_119, zl_120, zl_121, zl_126, zl_605, zl_720, zl_1957, zl_1000000, a_2, a_3, a_4, a_5, a_6, a_46, a_47, a_55, a_56, a_58, a_68, a_69, a_70, a_73, a_74, a_76, a_77, a_78, a_79, a_80, a_81, a_82, a_83, a_84, a_85, a_86, a_87, a_88, a_89, a_90, a_91, a_92, a_93, a_94, a_95, s_2, s_3, s_4, s_5, s_6, s_46, s_47, s_55, s_56, s_58, s_68, s_69, s_70, s_73, s_74, s_76, s_77, s_78, s_79, s_80, s_81, s_82, s_83, s_84, s_85, s_86, s_87, s_88, s_89, s_90, s_91, s_92, s_93, s_94, s_95, it_5, it_6, it_46, it_47, it_50, it_53, it_55, it_56, it_58, it_63, it_66, it_68, it_69, it_70, it_71, it_74, it_97, se_5, se_6, se_46, se_47, se_50, se_53, se_55, se_56, se_58, se_63, se_66, se_68, se_69, se_70, se_71, se_74, se_97, at_2, at_3, at_4, at_49, at_51, at_52, at_62, at_64, at_65, pu_2, pu_3, pu_4, pu_49, pu_51, pu_52, pu_62, pu_64, pu_65]
    exact ⟨_, rfl, hF, hv⟩) (σ := σ) (z := 0) rfl ⟨Fr.rf, fun i hi => by omega⟩
  rw [h1]
  simp (disch := omega) only [if_true, if_false, obs, Option.bind_none, Sum.elim_inl, Sum.elim_inr, Option.elim, Nat.reduceAdd, Nat.add_zero, Nat.zero_add, ile, igt, ilt, inl, ieq, ine, iq10, i1z, im1, im11, iml, imle, inm, nI_1, nI_add, isub1, isb, iaddm, pk_mul, si_hit, si_miss, si_oth, wo_oth, zl_0, zl_2, zl_3, zl_4, zl_5, zl_6, zl_7, zl_9, zl_10, zl_32, zl_35, zl_36, zl_48, zl_57, zl_59, zl_60, zl_61, zl_62, zl_63, zl_64, zl_65, zl_99, zl_100, zl_102, zl_109, zl_110, zl_115, zl_116, zl_119, zl_120, zl_121, zl_126, zl_605, zl_720, zl_1957, zl_1000000, a_2, a_3, a_4, a_5, a_6, a_46, a_47, a_55, a_56, a_58, a_68, a_69, a_70, a_73, a_74, a_76, a_77, a_78, a_79, a_80, a_81, a_82, a_83, a_84, a_85, a_86, a_87, a_88, a_89, a_90, a_91, a_92, a_93, a_94, a_95, s_2, s_3, s_4, s_5, s_6, s_46, s_47, s_55, s_56, s_58, s_68, s_69, s_70, s_73, s_74, s_76, s_77, s_78, s_79, s_80, s_81, s_82, s_83, s_84, s_85, s_86, s_87, s_88, s_89, s_90, s_91, s_92, s_93, s_94, s_95, it_5, it_6, it_46, it_47, it_50, it_53, it_55, it_56, it_58, it_63, it_66, it_68, it_69, it_70, it_71, it_74, it_97, se_5, se_6, se_46, se_47, se_50, se_53, se_55, se_56, se_58, se_63, se_66, se_68, se_69, se_70, se_71, se_74, se_97, at_2, at_3, at_4, at_49, at_51, at_52, at_62, at_64, at_65, pu_2, pu_3, pu_4, pu_49, pu_51, pu_52, pu_62, pu_64, pu_65]
  rw [lo_wo (z := nI 0) (f := f_X9_begins_L40 75) (k := 76) (o := 109) (n := 6) (v := fun i => nI i) (fun j hj => by
    unfold f_X9_begins_L40
    simp (disch := omega) only [if_true, if_false, obs, Option.bind_none, Sum.elim_inl, Sum.elim_inr, Option.elim, Nat.reduceAdd, Nat.add_zero, Nat.zero_add, ile, igt, ilt, inl, ieq, ine, iq10, i1z, im1, im11, iml, imle, inm, nI_1, nI_add, isub1, isb, iaddm, pk_mul, si_hit, si_miss, si_oth, wo_oth, zl_0, zl_2, zl_3, zl_4, zl_5, zl_6, zl_7, zl_9, zl_10, zl_32, zl_35, zl_36, zl_48, zl_57, zl_59, zl_60, zl_61, zl_62, zl_63, zl_64, zl_65, zl_99, zl_100, zl_102, zl_109, zl_110, zl_115, zl_116, zl_119, zl_120, zl_121, zl_126, zl_605, zl_720, zl_1957, zl_1000000, a_2, a_3, a_4, a_5, a_6, a_46, a_47, a_55, a_56, a_58, a_68, a_69, a_70, a_73, a_74, a_76, a_77, a_78, a_79, a_80, a_81, a_82, a_83, a_84, a_85, a_86, a_87, a_88, a_89, a_90, a_91, a_92, a_93, a_94, a_95, s_2, s_3, s_4, s_5, s_6, s_46, s_47, s_55, s_56, s_58, s_68, s_69, s_70, s_73, s_74, s_76, s_77, s_78, s_79, s_80, s_81, s_82, s_83, s_84, s_85, s_86, s_87, s_88, s_89, s_90, s_91, s_92, s_93, s_94, s_95, it_5, it_6, it_46, it_47, it_50, it_53, it_55, it_56, it_58, it_63, it_66, it_68, it_69, it_70, it_71, it_74, it_97, se_5, se_6, se_46, se_47, se_50, se_53, se_55, se_56, se_58, se_63, se_66, se_68, se_69, se_70, se_71, se_74, se_97, at_2, at_3, at_4, at_49, at_51, at_52, at_62, at_64, at_65, pu_2, pu_3, pu_4, pu_49, pu_51, pu_52, pu_62, pu_64, pu_65]
    rw [wo_s rfl]) (by
    unfold f_X9_begins_L40
    simp (disch := omega) only [if_true, if_false, obs, Option.bind_none, Sum.elim_inl, Sum.elim_inr, Option.elim, Nat.reduceAdd, Nat.add_zero, Nat.zero_add, ile, igt, ilt, inl, ieq, ine, iq10, i1z, im1, im11, iml, imle, inm, nI_1, nI_add, isub1, isb, iaddm, pk_mul, si_hit, si_miss, si_oth, wo_oth, zl_0, zl_2, zl_3, zl_4, zl_5, zl_6, zl_7, zl_9, zl_10, zl_32, zl_35, zl_36, zl_48, zl_57, zl_59, zl_60, zl_61, zl_62, zl_63, zl_64, zl_65, zl_99, zl_100, zl_102, zl_109, zl_110, zl_115, zl_116, zl_119, zl_120, zl_121, zl_126, zl_605, zl_720, zl_1957, zl_1000000, a_2, a_3, a_4, a_5, a_6, a_46, a_47, a_55, a_56, a_58, a_68, a_69, a_70, a_73, a_74, a_76, a_77, a_78, a_79, a_80, a_81, a_82, a_83, a_84, a_85, a_86, a_87, a_88, a_89, a_90, a_91, a_92, a_93, a_94, a_95, s_2, s_3, s_4, s_5, s_6, s_46, s_47, s_55, s_56, s_58, s_68, s_69, s_70, s_73, s_74, s_76, s_77, s_78, s_79, s_80, s_81, s_82, s_83, s_84, s_85, s_86, s_87, s_88, s_89, s_90, s_91, s_92, s_93, s_94, s_95, it_5, it_6, it_46, it_47, it_50, it_53, it_55, it_56, it_58, it_63, it_66, it_68, it_69, it_70, it_71, it_74, it_97, se_5, se_6, se_46, se_47, se_50, se_53, se_55, se_56, se_58, se_63, se_66, se_68, se_69, se_70, se_71, se_74, se_97, at_2, at_3, at_4, at_49, at_51, at_52, at_62, at_64, at_65, pu_2, pu_3, pu_4, pu_49, pu_51, pu_52, pu_62, pu_64, pu_65]) rfl]
  refine ⟨_, rfl, wo_fr (h2.si (by decide)) (by decide), fun j hj => ?_⟩
  unfold s0n
  by_cases c0 : j = 0
  · subst c0
    rw [wo_out (by omega), si_hit, if_pos rfl]
  · rw [if_neg c0]
    by_cases c1 : j < 109
    · rw [wo_out (by omega), si_miss c0, h3 j hj, if_pos (by omega), if_pos c1]
    · rw [if_neg c1]
      by_cases c2 : j < 115
      · rw [if_pos c2]
        have := wo_in (σ := si e 76 0 (nI n)) (k := 76) (o := 109) (n := 6) (v := fun i => nI i) (j := j - 109) (by omega)
        rwa [show 109 + (j - 109) = j by omega] at this
      · rw [wo_out (by omega), si_miss c0, h3 j hj, if_neg (by omega), if_neg c2]
theorem Gd_s0 {n : Nat} (h1 : 1 ≤ n) (hn : n ≤ 6) : Gd n (s0n n) := by
  have vt : ∀ o, 1 ≤ o → o ≤ 73 → VT (tS (s0n n) o) := fun o h1 h2 i j hi hj => ⟨0, by omega, by
    rw [tS_at hi hj]
    unfold s0n
    rw [if_neg (by omega), if_pos (by omega)]
    rfl⟩
  have hf := (fac_6 n (by omega)).2.1
  refine ⟨h1, hn, rfl, ⟨vt 1 (by omega) (by omega), vt 37 (by omega) (by omega), vt 73 (by omega) (by omega)⟩, ⟨0, by omega, fun i hi => ?_⟩, ⟨0, by omega, agQ_iff.mpr fun i hi => Or.inl ?_⟩, fun i hi h6 => ?_⟩
  · unfold s0n aV
    rw [if_neg (by omega), if_neg (by omega), if_pos (by omega), Nat.add_sub_cancel_left, ar_0 n (by omega), List.getD_eq_getElem?_getD, List.getElem?_range hi]
    rfl
  · rw [vS_at (by omega)]
    unfold s0n
    rw [if_neg (by omega), if_neg (by omega), if_neg (by omega)]
  · unfold s0n
    rw [if_neg (by omega), if_neg (by omega), if_neg (by omega)]
theorem J_resize {σ : Sg} (H : Iv σ) (a : Int32) : JU 0 9 (f_X8_resize σ 0 a) (fun σ1 => f_X9_resize σ1 75 a) := by
  have H' := H
  obtain ⟨s, c, h, T, tx, md, rs, hG, hC, hM⟩ := H'
  obtain ⟨n, hg⟩ := hG.1
  have hc0 := CI_n hC hg
  have hm0 := MI_n hM hg
  by_cases ha : a < nI 1 ∨ nI 6 < a
  · refine Or.inr (Or.inl ⟨0, σ, si σ 75 6 1, ?_, ?_, si_hit, Iv_75 H (by decide) (by decide)⟩)
    · unfold f_X8_resize
      rw [show (1 : Int32) = nI 1 from rfl, show (6 : Int32) = nI 6 from rfl]
      by_cases c1 : a < nI 1
      · rw [if_pos c1]
      · have := ha.resolve_left c1
        rw [if_neg c1, if_neg (by grind)]
    · show f_X9_resize σ 75 a = _
      unfold f_X9_resize
      rw [show (1 : Int32) = nI 1 from rfl, show (6 : Int32) = nI 6 from rfl, in_no ha]
      rfl
  · have h0 : ¬ a < 0 := fun z => ha (Or.inl (by have : (0 : Int32) < nI 1 := by decide
                                                 grind))
    obtain ⟨m, hm, rfl⟩ := nI_of2 (M := 6) (n := 6) (by decide) h0 (by
      have : ¬ nI 6 < a := fun z => ha (Or.inr z)
      show a ≤ nI 6
      grind)
    have hm1 : 1 ≤ m := by
      by_cases c0 : m = 0
      · exact (ha (Or.inl (by subst c0; decide))).elim
      · omega
    obtain ⟨σ1, q1, q2, q3⟩ := CI_push hC
    obtain ⟨σ2, r1, r2, r3⟩ := reset_ok (σ := σ1) (n := m)
    have hs2 := MI_und hM q2 r2
    obtain ⟨σ3, t1, t2, t3⟩ := m_begins (σ := wo σ2 78 0 121 (σ2 76)) (n := m)
    have hm2 : σ2 76 0 = nI n := by rw [hs2 0 (by omega), hg.2.2.1]
    obtain ⟨σ', u1, u2, u3⟩ := J_und hG hM q2 q3 r2 r3 (Fr.tr fr_hold t2 (by decide)) (fun j hj => by rw [t2.at (by decide)]; exact hold78 hs2 j hj) t3 ⟨m, Gd_s0 hm1 hm⟩ (nI n)
    refine Or.inl ⟨nI n, σ2, σ', ?_, ?_, u2, u3⟩
    · unfold f_X8_resize
      rw [show (1 : Int32) = nI 1 from rfl]
      simp (disch := omega) only [if_true, if_false, obs, Option.bind_none, Sum.elim_inl, Sum.elim_inr, Option.elim, Nat.reduceAdd, Nat.add_zero, Nat.zero_add, ile, igt, ilt, inl, ieq, ine, iq10, i1z, im1, im11, iml, imle, inm, nI_1, nI_add, isub1, isb, iaddm, pk_mul, si_hit, si_miss, si_oth, wo_oth, zl_0, zl_2, zl_3, zl_4, zl_5, zl_6, zl_7, zl_9, zl_10, zl_32, zl_35, zl_36, zl_48, zl_57, zl_59, zl_60, zl_61, zl_62, zl_63, zl_64, zl_65, zl_99, zl_100, zl_102, zl_109, zl_110, zl_115, zl_116, zl_119, zl_120, zl_121, zl_126, zl_605, zl_720, zl_1957, zl_1000000, a_2, a_3, a_4, a_5, a_6, a_46, a_47, a_55, a_56, a_58, a_68, a_69, a_70, a_73, a_74, a_76, a_77, a_78, a_79, a_80, a_81, a_82, a_83, a_84, a_85, a_86, a_87, a_88, a_89, a_90, a_91, a_92, a_93, a_94, a_95, s_2, s_3, s_4, s_5, s_6, s_46, s_47, s_55, s_56, s_58, s_68, s_69, s_70, s_73, s_74, s_76, s_77, s_78, s_79, s_80, s_81, s_82, s_83, s_84, s_85, s_86, s_87, s_88, s_89, s_90, s_91, s_92, s_93, s_94, s_95, it_5, it_6, it_46, it_47, it_50, it_53, it_55, it_56, it_58, it_63, it_66, it_68, it_69, it_70, it_71, it_74, it_97, se_5, se_6, se_46, se_47, se_50, se_53, se_55, se_56, se_58, se_63, se_66, se_68, se_69, se_70, se_71, se_74, se_97, at_2, at_3, at_4, at_49, at_51, at_52, at_62, at_64, at_65, pu_2, pu_3, pu_4, pu_49, pu_51, pu_52, pu_62, pu_64, pu_65, q1, r1, hc0]
    · show f_X9_resize σ2 75 (nI m) = _
      unfold f_X9_resize
      rw [show (1 : Int32) = nI 1 from rfl, show (6 : Int32) = nI 6 from rfl, in_yes hm1 hm (by omega)]
      simp (disch := omega) only [if_true, if_false, obs, Option.bind_none, Sum.elim_inl, Sum.elim_inr, Option.elim, Nat.reduceAdd, Nat.add_zero, Nat.zero_add, ile, igt, ilt, inl, ieq, ine, iq10, i1z, im1, im11, iml, imle, inm, nI_1, nI_add, isub1, isb, iaddm, pk_mul, si_hit, si_miss, si_oth, wo_oth, zl_0, zl_2, zl_3, zl_4, zl_5, zl_6, zl_7, zl_9, zl_10, zl_32, zl_35, zl_36, zl_48, zl_57, zl_59, zl_60, zl_61, zl_62, zl_63, zl_64, zl_65, zl_99, zl_100, zl_102, zl_109, zl_110, zl_115, zl_116, zl_119, zl_120, zl_121, zl_126, zl_605, zl_720, zl_1957, zl_1000000, a_2, a_3, a_4, a_5, a_6, a_46, a_47, a_55, a_56, a_58, a_68, a_69, a_70, a_73, a_74, a_76, a_77, a_78, a_79, a_80, a_81, a_82, a_83, a_84, a_85, a_86, a_87, a_88, a_89, a_90, a_91, a_92, a_93, a_94, a_95, s_2, s_3, s_4, s_5, s_6, s_46, s_47, s_55, s_56, s_58, s_68, s_69, s_70, s_73, s_74, s_76, s_77, s_78, s_79, s_80, s_81, s_82, s_83, s_84, s_85, s_86, s_87, s_88, s_89, s_90, s_91, s_92, s_93, s_94, s_95, it_5, it_6, it_46, it_47, it_50, it_53, it_55, it_56, it_58, it_63, it_66, it_68, it_69, it_70, it_71, it_74, it_97, se_5, se_6, se_46, se_47, se_50, se_53, se_55, se_56, se_58, se_63, se_66, se_68, se_69, se_70, se_71, se_74, se_97, at_2, at_3, at_4, at_49, at_51, at_52, at_62, at_64, at_65, pu_2, pu_3, pu_4, pu_49, pu_51, pu_52, pu_62, pu_64, pu_65, m_hold, hm2, t1, u1]
theorem J_set {σ : Sg} (H : Iv σ) (w a b v : Int32) : JU 2 0 (f_X8_set σ 0 w a b v) (fun σ1 => f_X9_set σ1 75 w a b v) := by
  have H' := H
  obtain ⟨s, c, h, T, tx, md, rs, hG, hC, hM⟩ := H'
  obtain ⟨n, hg⟩ := hG.1
  have hc0 := CI_n hC hg
  have hm0 := MI_n hM hg
  have h1 := hg.1
  have hn := hg.2.1
  have bad1 : f_X8_set σ 0 w a b v = some (.inl (2, σ)) → f_X9_set σ 75 w a b v = some (0, si σ 75 6 1) → JU 2 0 (f_X8_set σ 0 w a b v) (fun σ1 => f_X9_set σ1 75 w a b v) := fun e1 e2 => Or.inr (Or.inl ⟨0, σ, si σ 75 6 1, e1, e2, si_hit, Iv_75 H (by decide) (by decide)⟩)
  have bad2 : f_X8_set σ 0 w a b v = some (.inl (0, σ)) → f_X9_set σ 75 w a b v = some (0, si σ 75 6 2) → JU 2 0 (f_X8_set σ 0 w a b v) (fun σ1 => f_X9_set σ1 75 w a b v) := fun e1 e2 => Or.inr (Or.inr ⟨0, σ, si σ 75 6 2, e1, e2, si_hit, Iv_75 H (by decide) (by decide), by decide⟩)
  unfold f_X8_set at bad1 bad2 ⊢
  unfold f_X9_set f_X9_set_J16 f_X9_set_J42 at bad1 bad2
  rcases ixc n (by omega) a with ha | ⟨i, hi, rfl⟩
  · exact bad1 (by rw [rq_no hc0 ha]; rfl) (by rw [one_no hm0 h1 hn ha]; rfl)
  rcases ixc n (by omega) b with hb | ⟨j, hj, rfl⟩
  · exact bad1 (by rw [rq_yes hc0 hn hi, rq_no hc0 hb]; rfl) (by rw [one_yes hm0 hn hi, one_no hm0 h1 hn hb]; rfl)
  rcases rng 2 (by omega) w with hw | ⟨w, hw, rfl⟩
  · exact bad2 (by rw [rq_yes hc0 hn hi, rq_yes hc0 hn hj, tb_no hw]; rfl) (by rw [one_yes hm0 hn hi, one_yes hm0 hn hj, show (0 : Int32) = nI 0 from rfl, show (2 : Int32) = nI 2 from rfl, in_no hw]; rfl)
  rcases rng 99 (by omega) v with hv | ⟨v, hv, rfl⟩
  · exact bad2 (by rw [rq_yes hc0 hn hi, rq_yes hc0 hn hj, tb_yes hw, va_no hv]; rfl) (by rw [one_yes hm0 hn hi, one_yes hm0 hn hj, show (0 : Int32) = nI 0 from rfl, show (2 : Int32) = nI 2 from rfl, in_yes (by omega) hw (by omega), show (99 : Int32) = nI 99 from rfl, in_no hv]; rfl)
  clear bad1 bad2
  obtain ⟨σ1, q1, q2, q3⟩ := CI_push hC
  have hk := ln_w w hw
  have hF : Fr [1, 2, 3, 4, 5, 6] σ1 (si σ1 (2 + w) (6 * i + j) (nI v)) := Fr.rf.si (by
    have h3 : w = 0 ∨ w = 1 ∨ w = 2 := by omega
    rcases h3 with rfl | rfl | rfl <;> decide)
  have hs : EqS (snap (si σ1 (2 + w) (6 * i + j) (nI v)) 1) (upd s (1 + 36 * w + 6 * i + j) (nI v)) := fun q hq => by
    rw [snap_si_w hw (by omega) q hq]
    rw [show 1 + 36 * w + (6 * i + j) = 1 + 36 * w + 6 * i + j by omega]
    unfold upd
    split
    · rfl
    · exact q3.1.2.1 q hq
  have hs2 := MI_und hM q2 hF
  generalize hσ2 : si σ1 (2 + w) (6 * i + j) (nI v) = σ2 at hF hs hs2
  have hm2 : σ2 76 0 = nI n := by rw [hs2 0 (by omega), hg.2.2.1]
  obtain ⟨σ', u1, u2, u3⟩ := J_und hG hM q2 q3 hF hs (σ3 := si (wo σ2 78 0 121 (σ2 76)) 76 (1 + 36 * w + 6 * i + j) (nI v)) (fr_hold.si (by decide)) (fun j hj => by rw [si_oth (by omega)]; exact hold78 hs2 j hj) (fun q hq => by
    rw [si_self]
    unfold upd
    split
    · rfl
    · exact hold76 hs2 q hq) ⟨n, Gd_upd hg (by omega) (by omega) hv⟩ (s (1 + 36 * w + 6 * i + j))
  refine Or.inl ⟨s (1 + 36 * w + 6 * i + j), σ2, σ', ?_, ?_, u2, u3⟩
  · rw [rq_yes hc0 hn hi, rq_yes hc0 hn hj, tb_yes hw, va_yes hv]
    simp only [obs, Sum.elim_inr]
    rw [show (0 + 1) = 1 from rfl, show (0 + 7) = 7 from rfl, table_ok hw]
    simp only [obs]
    rw [at_ok (by omega) (ln_le _)]
    simp only [obs]
    rw [q1]
    simp only [obs]
    rw [put_ok (by omega) (ln_le _)]
    simp only [obs]
    have e9 : σ (2 + w) (6 * i + j) = s (1 + 36 * w + 6 * i + j) := by rw [← snap_w (σ := σ) hw (by omega), hC.1.2.1 _ (by omega), show 1 + 36 * w + (6 * i + j) = 1 + 36 * w + 6 * i + j by omega]
    rw [hσ2, e9]
  · show f_X9_set σ2 75 (nI w) (nI i) (nI j) (nI v) = _
    unfold f_X9_set
    rw [one_yes hm2 hn hi, one_yes hm2 hn hj, show (0 : Int32) = nI 0 from rfl, show (2 : Int32) = nI 2 from rfl, show (99 : Int32) = nI 99 from rfl, in_yes (by omega) hw (by omega), in_yes (by omega) hv (by omega)]
    have e76 : σ2 76 (1 + 36 * w + 6 * i + j) = s (1 + 36 * w + 6 * i + j) := hs2 _ (by omega)
    simp (disch := omega) only [if_true, if_false, obs, Option.bind_none, Sum.elim_inl, Sum.elim_inr, Option.elim, Nat.reduceAdd, Nat.add_zero, Nat.zero_add, ile, igt, ilt, inl, ieq, ine, iq10, i1z, im1, im11, iml, imle, inm, nI_1, nI_add, isub1, isb, iaddm, pk_mul, si_hit, si_miss, si_oth, wo_oth, zl_0, zl_2, zl_3, zl_4, zl_5, zl_6, zl_7, zl_9, zl_10, zl_32, zl_35, zl_36, zl_48, zl_57, zl_59, zl_60, zl_61, zl_62, zl_63, zl_64, zl_65, zl_99, zl_100, zl_102, zl_109, zl_110, zl_115, zl_116, zl_119, zl_120, zl_121, zl_126, zl_605, zl_720, zl_1957, zl_1000000, a_2, a_3, a_4, a_5, a_6, a_46, a_47, a_55, a_56, a_58, a_68, a_69, a_70, a_73, a_74, a_76, a_77, a_78, a_79, a_80, a_81, a_82, a_83, a_84, a_85, a_86, a_87, a_88, a_89, a_90, a_91, a_92, a_93, a_94, a_95, s_2, s_3, s_4, s_5, s_6, s_46, s_47, s_55, s_56, s_58, s_68, s_69, s_70, s_73, s_74, s_76, s_77, s_78, s_79, s_80, s_81, s_82, s_83, s_84, s_85, s_86, s_87, s_88, s_89, s_90, s_91, s_92, s_93, s_94, s_95, it_5, it_6, it_46, it_47, it_50, it_53, it_55, it_56, it_58, it_63, it_66, it_68, it_69, it_70, it_71, it_74, it_97, se_5, se_6, se_46, se_47, se_50, se_53, se_55, se_56, se_58, se_63, se_66, se_68, se_69, se_70, se_71, se_74, se_97, at_2, at_3, at_4, at_49, at_51, at_52, at_62, at_64, at_65, pu_2, pu_3, pu_4, pu_49, pu_51, pu_52, pu_62, pu_64, pu_65, m_hold, m_placeOf, e76, u1]
theorem J_get {σ : Sg} (H : Iv σ) (w a b : Int32) : JT 2 0 (f_X8_get σ 0 w a b) (fun σ1 => f_X9_get σ1 75 w a b) σ := by
  have H' := H
  obtain ⟨s, c, h, T, tx, md, rs, hG, hC, hM⟩ := H'
  obtain ⟨n, hg⟩ := hG.1
  have hc0 := CI_n hC hg
  have hm0 := MI_n hM hg
  have h1 := hg.1
  have hn := hg.2.1
  have bad1 : f_X8_get σ 0 w a b = some (.inl 2) → f_X9_get σ 75 w a b = some (0, si σ 75 6 1) → JT 2 0 (f_X8_get σ 0 w a b) (fun σ1 => f_X9_get σ1 75 w a b) σ := fun e1 e2 => Or.inr (Or.inl ⟨0, si σ 75 6 1, e1, e2, si_hit, Iv_75 H (by decide) (by decide)⟩)
  have bad2 : f_X8_get σ 0 w a b = some (.inl 0) → f_X9_get σ 75 w a b = some (0, si σ 75 6 2) → JT 2 0 (f_X8_get σ 0 w a b) (fun σ1 => f_X9_get σ1 75 w a b) σ := fun e1 e2 => Or.inr (Or.inr ⟨0, si σ 75 6 2, e1, e2, si_hit, Iv_75 H (by decide) (by decide), by decide⟩)
  unfold f_X8_get at bad1 bad2 ⊢
  unfold f_X9_get f_X9_get_J16 at bad1 bad2
  rcases ixc n (by omega) a with ha | ⟨i, hi, rfl⟩
  · exact bad1 (by rw [rq_no hc0 ha]; rfl) (by rw [one_no hm0 h1 hn ha]; rfl)
  rcases ixc n (by omega) b with hb | ⟨j, hj, rfl⟩
  · exact bad1 (by rw [rq_yes hc0 hn hi, rq_no hc0 hb]; rfl) (by rw [one_yes hm0 hn hi, one_no hm0 h1 hn hb]; rfl)
  rcases rng 2 (by omega) w with hw | ⟨w, hw, rfl⟩
  · exact bad2 (by rw [rq_yes hc0 hn hi, rq_yes hc0 hn hj, tb_no hw]; rfl) (by rw [one_yes hm0 hn hi, one_yes hm0 hn hj, show (0 : Int32) = nI 0 from rfl, show (2 : Int32) = nI 2 from rfl, in_no hw]; rfl)
  have hk := ln_w w hw
  refine Or.inl ⟨s (1 + 36 * w + 6 * i + j), si σ 75 6 0, ?_, ?_, si_hit, Iv_75 H (by decide) (by decide)⟩
  · rw [rq_yes hc0 hn hi, rq_yes hc0 hn hj, tb_yes hw]
    simp only [obs, Sum.elim_inr]
    rw [show (0 + 1) = 1 from rfl, table_ok hw]
    simp only [obs]
    rw [at_ok (by omega) (ln_le _)]
    simp only [obs]
    have e9 : σ (2 + w) (6 * i + j) = s (1 + 36 * w + 6 * i + j) := by rw [← snap_w (σ := σ) hw (by omega), hC.1.2.1 _ (by omega), show 1 + 36 * w + (6 * i + j) = 1 + 36 * w + 6 * i + j by omega]
    rw [e9]
  · show f_X9_get σ 75 (nI w) (nI i) (nI j) = _
    unfold f_X9_get
    rw [one_yes hm0 hn hi, one_yes hm0 hn hj, show (0 : Int32) = nI 0 from rfl, show (2 : Int32) = nI 2 from rfl, in_yes (by omega) hw (by omega)]
    have e76 : σ 76 (1 + 36 * w + 6 * i + j) = s (1 + 36 * w + 6 * i + j) := hM.1.1 _ (by omega)
    simp (disch := omega) only [if_true, if_false, obs, Option.bind_none, Sum.elim_inl, Sum.elim_inr, Option.elim, Nat.reduceAdd, Nat.add_zero, Nat.zero_add, ile, igt, ilt, inl, ieq, ine, iq10, i1z, im1, im11, iml, imle, inm, nI_1, nI_add, isub1, isb, iaddm, pk_mul, si_hit, si_miss, si_oth, wo_oth, zl_0, zl_2, zl_3, zl_4, zl_5, zl_6, zl_7, zl_9, zl_10, zl_32, zl_35, zl_36, zl_48, zl_57, zl_59, zl_60, zl_61, zl_62, zl_63, zl_64, zl_65, zl_99, zl_100, zl_102, zl_109, zl_110, zl_115, zl_116, zl_119, zl_120, zl_121, zl_126, zl_605, zl_720, zl_1957, zl_1000000, a_2, a_3, a_4, a_5, a_6, a_46, a_47, a_55, a_56, a_58, a_68, a_69, a_70, a_73, a_74, a_76, a_77, a_78, a_79, a_80, a_81, a_82, a_83, a_84, a_85, a_86, a_87, a_88, a_89, a_90, a_91, a_92, a_93, a_94, a_95, s_2, s_3, s_4, s_5, s_6, s_46, s_47, s_55, s_56, s_58, s_68, s_69, s_70, s_73, s_74, s_76, s_77, s_78, s_79, s_80, s_81, s_82, s_83, s_84, s_85, s_86, s_87, s_88, s_89, s_90, s_91, s_92, s_93, s_94, s_95, it_5, it_6, it_46, it_47, it_50, it_53, it_55, it_56, it_58, it_63, it_66, it_68, it_69, it_70, it_71, it_74, it_97, se_5, se_6, se_46, se_47, se_50, se_53, se_55, se_56, se_58, se_63, se_66, se_68, se_69, se_70, se_71, se_74, se_97, at_2, at_3, at_4, at_49, at_51, at_52, at_62, at_64, at_65, pu_2, pu_3, pu_4, pu_49, pu_51, pu_52, pu_62, pu_64, pu_65, m_placeOf, e76, tells_ok]
theorem J_location {σ : Sg} (H : Iv σ) (a : Int32) : JT 2 9 (f_X8_location σ 0 a) (fun σ1 => f_X9_location σ1 75 a) σ := by
  have H' := H
  obtain ⟨s, c, h, T, tx, md, rs, hG, hC, hM⟩ := H'
  obtain ⟨n, hg⟩ := hG.1
  have hc0 := CI_n hC hg
  have hm0 := MI_n hM hg
  have h1 := hg.1
  have hn := hg.2.1
  rcases ixc n (by omega) a with ha | ⟨i, hi, rfl⟩
  · refine Or.inr (Or.inl ⟨0, si σ 75 6 1, ?_, ?_, si_hit, Iv_75 H (by decide) (by decide)⟩)
    · unfold f_X8_location
      rw [rq_no hc0 ha]
      rfl
    · show f_X9_location σ 75 a = _
      unfold f_X9_location
      rw [one_no hm0 h1 hn ha]
      rfl
  · refine Or.inl ⟨s (109 + i), si σ 75 6 0, ?_, ?_, si_hit, Iv_75 H (by decide) (by decide)⟩
    · unfold f_X8_location
      have e5 : σ 5 i = s (109 + i) := rc_p hC.1.2.1 (by omega)
      rw [rq_yes hc0 hn hi]
      simp (disch := omega) only [if_true, if_false, obs, Option.bind_none, Sum.elim_inl, Sum.elim_inr, Option.elim, Nat.reduceAdd, Nat.add_zero, Nat.zero_add, ile, igt, ilt, inl, ieq, ine, iq10, i1z, im1, im11, iml, imle, inm, nI_1, nI_add, isub1, isb, iaddm, pk_mul, si_hit, si_miss, si_oth, wo_oth, zl_0, zl_2, zl_3, zl_4, zl_5, zl_6, zl_7, zl_9, zl_10, zl_32, zl_35, zl_36, zl_48, zl_57, zl_59, zl_60, zl_61, zl_62, zl_63, zl_64, zl_65, zl_99, zl_100, zl_102, zl_109, zl_110, zl_115, zl_116, zl_119, zl_120, zl_121, zl_126, zl_605, zl_720, zl_1957, zl_1000000, a_2, a_3, a_4, a_5, a_6, a_46, a_47, a_55, a_56, a_58, a_68, a_69, a_70, a_73, a_74, a_76, a_77, a_78, a_79, a_80, a_81, a_82, a_83, a_84, a_85, a_86, a_87, a_88, a_89, a_90, a_91, a_92, a_93, a_94, a_95, s_2, s_3, s_4, s_5, s_6, s_46, s_47, s_55, s_56, s_58, s_68, s_69, s_70, s_73, s_74, s_76, s_77, s_78, s_79, s_80, s_81, s_82, s_83, s_84, s_85, s_86, s_87, s_88, s_89, s_90, s_91, s_92, s_93, s_94, s_95, it_5, it_6, it_46, it_47, it_50, it_53, it_55, it_56, it_58, it_63, it_66, it_68, it_69, it_70, it_71, it_74, it_97, se_5, se_6, se_46, se_47, se_50, se_53, se_55, se_56, se_58, se_63, se_66, se_68, se_69, se_70, se_71, se_74, se_97, at_2, at_3, at_4, at_49, at_51, at_52, at_62, at_64, at_65, pu_2, pu_3, pu_4, pu_49, pu_51, pu_52, pu_62, pu_64, pu_65, e5]
    · show f_X9_location σ 75 (nI i) = _
      unfold f_X9_location
      have e76 : σ 76 (109 + i) = s (109 + i) := hM.1.1 _ (by omega)
      rw [one_yes hm0 hn hi]
      simp (disch := omega) only [if_true, if_false, obs, Option.bind_none, Sum.elim_inl, Sum.elim_inr, Option.elim, Nat.reduceAdd, Nat.add_zero, Nat.zero_add, ile, igt, ilt, inl, ieq, ine, iq10, i1z, im1, im11, iml, imle, inm, nI_1, nI_add, isub1, isb, iaddm, pk_mul, si_hit, si_miss, si_oth, wo_oth, zl_0, zl_2, zl_3, zl_4, zl_5, zl_6, zl_7, zl_9, zl_10, zl_32, zl_35, zl_36, zl_48, zl_57, zl_59, zl_60, zl_61, zl_62, zl_63, zl_64, zl_65, zl_99, zl_100, zl_102, zl_109, zl_110, zl_115, zl_116, zl_119, zl_120, zl_121, zl_126, zl_605, zl_720, zl_1957, zl_1000000, a_2, a_3, a_4, a_5, a_6, a_46, a_47, a_55, a_56, a_58, a_68, a_69, a_70, a_73, a_74, a_76, a_77, a_78, a_79, a_80, a_81, a_82, a_83, a_84, a_85, a_86, a_87, a_88, a_89, a_90, a_91, a_92, a_93, a_94, a_95, s_2, s_3, s_4, s_5, s_6, s_46, s_47, s_55, s_56, s_58, s_68, s_69, s_70, s_73, s_74, s_76, s_77, s_78, s_79, s_80, s_81, s_82, s_83, s_84, s_85, s_86, s_87, s_88, s_89, s_90, s_91, s_92, s_93, s_94, s_95, it_5, it_6, it_46, it_47, it_50, it_53, it_55, it_56, it_58, it_63, it_66, it_68, it_69, it_70, it_71, it_74, it_97, se_5, se_6, se_46, se_47, se_50, se_53, se_55, se_56, se_58, se_63, se_66, se_68, se_69, se_70, se_71, se_74, se_97, at_2, at_3, at_4, at_49, at_51, at_52, at_62, at_64, at_65, pu_2, pu_3, pu_4, pu_49, pu_51, pu_52, pu_62, pu_64, pu_65, e76, tells_ok]
theorem J_fixed {σ : Sg} (H : Iv σ) (a : Int32) : JT 2 9 (f_X8_fixed σ 0 a) (fun σ1 => f_X9_fixed σ1 75 a) σ := by
  have H' := H
  obtain ⟨s, c, h, T, tx, md, rs, hG, hC, hM⟩ := H'
  obtain ⟨n, hg⟩ := hG.1
  have hc0 := CI_n hC hg
  have hm0 := MI_n hM hg
  have h1 := hg.1
  have hn := hg.2.1
  rcases ixc n (by omega) a with ha | ⟨i, hi, rfl⟩
  · refine Or.inr (Or.inl ⟨0, si σ 75 6 1, ?_, ?_, si_hit, Iv_75 H (by decide) (by decide)⟩)
    · unfold f_X8_fixed
      rw [rq_no hc0 ha]
      rfl
    · show f_X9_fixed σ 75 a = _
      unfold f_X9_fixed
      rw [one_no hm0 h1 hn ha]
      rfl
  · refine Or.inl ⟨s (115 + i), si σ 75 6 0, ?_, ?_, si_hit, Iv_75 H (by decide) (by decide)⟩
    · unfold f_X8_fixed
      have e5 : σ 6 i = s (115 + i) := rc_x hC.1.2.1 (by omega)
      rw [rq_yes hc0 hn hi]
      simp (disch := omega) only [if_true, if_false, obs, Option.bind_none, Sum.elim_inl, Sum.elim_inr, Option.elim, Nat.reduceAdd, Nat.add_zero, Nat.zero_add, ile, igt, ilt, inl, ieq, ine, iq10, i1z, im1, im11, iml, imle, inm, nI_1, nI_add, isub1, isb, iaddm, pk_mul, si_hit, si_miss, si_oth, wo_oth, zl_0, zl_2, zl_3, zl_4, zl_5, zl_6, zl_7, zl_9, zl_10, zl_32, zl_35, zl_36, zl_48, zl_57, zl_59, zl_60, zl_61, zl_62, zl_63, zl_64, zl_65, zl_99, zl_100, zl_102, zl_109, zl_110, zl_115, zl_116, zl_119, zl_120, zl_121, zl_126, zl_605, zl_720, zl_1957, zl_1000000, a_2, a_3, a_4, a_5, a_6, a_46, a_47, a_55, a_56, a_58, a_68, a_69, a_70, a_73, a_74, a_76, a_77, a_78, a_79, a_80, a_81, a_82, a_83, a_84, a_85, a_86, a_87, a_88, a_89, a_90, a_91, a_92, a_93, a_94, a_95, s_2, s_3, s_4, s_5, s_6, s_46, s_47, s_55, s_56, s_58, s_68, s_69, s_70, s_73, s_74, s_76, s_77, s_78, s_79, s_80, s_81, s_82, s_83, s_84, s_85, s_86, s_87, s_88, s_89, s_90, s_91, s_92, s_93, s_94, s_95, it_5, it_6, it_46, it_47, it_50, it_53, it_55, it_56, it_58, it_63, it_66, it_68, it_69, it_70, it_71, it_74, it_97, se_5, se_6, se_46, se_47, se_50, se_53, se_55, se_56, se_58, se_63, se_66, se_68, se_69, se_70, se_71, se_74, se_97, at_2, at_3, at_4, at_49, at_51, at_52, at_62, at_64, at_65, pu_2, pu_3, pu_4, pu_49, pu_51, pu_52, pu_62, pu_64, pu_65, e5]
    · show f_X9_fixed σ 75 (nI i) = _
      unfold f_X9_fixed
      have e76 : σ 76 (115 + i) = s (115 + i) := hM.1.1 _ (by omega)
      rw [one_yes hm0 hn hi]
      simp (disch := omega) only [if_true, if_false, obs, Option.bind_none, Sum.elim_inl, Sum.elim_inr, Option.elim, Nat.reduceAdd, Nat.add_zero, Nat.zero_add, ile, igt, ilt, inl, ieq, ine, iq10, i1z, im1, im11, iml, imle, inm, nI_1, nI_add, isub1, isb, iaddm, pk_mul, si_hit, si_miss, si_oth, wo_oth, zl_0, zl_2, zl_3, zl_4, zl_5, zl_6, zl_7, zl_9, zl_10, zl_32, zl_35, zl_36, zl_48, zl_57, zl_59, zl_60, zl_61, zl_62, zl_63, zl_64, zl_65, zl_99, zl_100, zl_102, zl_109, zl_110, zl_115, zl_116, zl_119, zl_120, zl_121, zl_126, zl_605, zl_720, zl_1957, zl_1000000, a_2, a_3, a_4, a_5, a_6, a_46, a_47, a_55, a_56, a_58, a_68, a_69, a_70, a_73, a_74, a_76, a_77, a_78, a_79, a_80, a_81, a_82, a_83, a_84, a_85, a_86, a_87, a_88, a_89, a_90, a_91, a_92, a_93, a_94, a_95, s_2, s_3, s_4, s_5, s_6, s_46, s_47, s_55, s_56, s_58, s_68, s_69, s_70, s_73, s_74, s_76, s_77, s_78, s_79, s_80, s_81, s_82, s_83, s_84, s_85, s_86, s_87, s_88, s_89, s_90, s_91, s_92, s_93, s_94, s_95, it_5, it_6, it_46, it_47, it_50, it_53, it_55, it_56, it_58, it_63, it_66, it_68, it_69, it_70, it_71, it_74, it_97, se_5, se_6, se_46, se_47, se_50, se_53, se_55, se_56, se_58, se_63, se_66, se_68, se_69, se_70, se_71, se_74, se_97, at_2, at_3, at_4, at_49, at_51, at_52, at_62, at_64, at_65, pu_2, pu_3, pu_4, pu_49, pu_51, pu_52, pu_62, pu_64, pu_65, e76, tells_ok]
