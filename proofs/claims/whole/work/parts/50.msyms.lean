-- the symmetries, in the model
theorem m_isTurn {σ : Sg} {n t : Nat} (h0 : σ 76 0 = nI n) (hn : n ≤ 6) (ht : t < fac n) (hA : Asg σ 80 n t) : f_X9_isTurn σ 75 = some (pif (TU n (tb σ 76 37) (tb σ 76 73) t) 1 0) := by
  have hp : ∀ i, i < n → σ 80 i = nI (aN n t i) ∧ aN n t i < 6 := fun i hi => ⟨hA i hi, by have := aN_lt hn ht hi; omega⟩
  have inner : ∀ i, i < n → _ := fun i hi => lo_all (f := f_X9_isTurn_L14 σ 75 (nI i)) (n := n) (fun j => tb σ 76 37 (aN n t i) (aN n t j) = tb σ 76 37 i j ∧ tb σ 76 73 j (aN n t i) = tb σ 76 73 j i) (.inl ()) (.inr ()) (fun j hj ⟨p1, p2⟩ => by
    obtain ⟨i1, i2⟩ := hp i hi
    obtain ⟨j1, j2⟩ := hp j hj
    unfold f_X9_isTurn_L14
    simp (disch := omega) only [if_true, if_false, obs, Option.bind_none, Sum.elim_inl, Sum.elim_inr, Option.elim, Nat.reduceAdd, Nat.add_zero, Nat.zero_add, ile, igt, ilt, inl, ieq, ine, iq10, i1z, im1, im11, iml, imle, inm, nI_1, nI_add, isub1, isb, iaddm, pk_mul, si_hit, si_miss, si_oth, wo_oth, zl_0, zl_2, zl_3, zl_4, zl_5, zl_6, zl_7, zl_9, zl_10, zl_32, zl_35, zl_36, zl_48, zl_57, zl_59, zl_60, zl_61, zl_62, zl_63, zl_64, zl_65, zl_99, zl_100, zl_102, zl_109, zl_110, zl_115, zl_116, zl_119, zl_120, zl_121, zl_126, zl_605, zl_720, zl_1957, zl_1000000, a_2, a_3, a_4, a_5, a_6, a_46, a_47, a_55, a_56, a_58, a_68, a_69, a_70, a_73, a_74, a_76, a_77, a_78, a_79, a_80, a_81, a_82, a_83, a_84, a_85, a_86, a_87, a_88, a_89, a_90, a_91, a_92, a_93, a_94, a_95, s_2, s_3, s_4, s_5, s_6, s_46, s_47, s_55, s_56, s_58, s_68, s_69, s_70, s_73, s_74, s_76, s_77, s_78, s_79, s_80, s_81, s_82, s_83, s_84, s_85, s_86, s_87, s_88, s_89, s_90, s_91, s_92, s_93, s_94, s_95, it_5, it_6, it_46, it_47, it_50, it_53, it_55, it_56, it_58, it_63, it_66, it_68, it_69, it_70, it_71, it_74, it_97, se_5, se_6, se_46, se_47, se_50, se_53, se_55, se_56, se_58, se_63, se_66, se_68, se_69, se_70, se_71, se_74, se_97, at_2, at_3, at_4, at_49, at_51, at_52, at_62, at_64, at_65, pu_2, pu_3, pu_4, pu_49, pu_51, pu_52, pu_62, pu_64, pu_65, h0, i1, j1, m_far, m_price]
    rw [if_pos p1, if_pos p2]) (fun j hj hq => by
    obtain ⟨i1, i2⟩ := hp i hi
    obtain ⟨j1, j2⟩ := hp j hj
    unfold f_X9_isTurn_L14
    simp (disch := omega) only [if_true, if_false, obs, Option.bind_none, Sum.elim_inl, Sum.elim_inr, Option.elim, Nat.reduceAdd, Nat.add_zero, Nat.zero_add, ile, igt, ilt, inl, ieq, ine, iq10, i1z, im1, im11, iml, imle, inm, nI_1, nI_add, isub1, isb, iaddm, pk_mul, si_hit, si_miss, si_oth, wo_oth, zl_0, zl_2, zl_3, zl_4, zl_5, zl_6, zl_7, zl_9, zl_10, zl_32, zl_35, zl_36, zl_48, zl_57, zl_59, zl_60, zl_61, zl_62, zl_63, zl_64, zl_65, zl_99, zl_100, zl_102, zl_109, zl_110, zl_115, zl_116, zl_119, zl_120, zl_121, zl_126, zl_605, zl_720, zl_1957, zl_1000000, a_2, a_3, a_4, a_5, a_6, a_46, a_47, a_55, a_56, a_58, a_68, a_69, a_70, a_73, a_74, a_76, a_77, a_78, a_79, a_80, a_81, a_82, a_83, a_84, a_85, a_86, a_87, a_88, a_89, a_90, a_91, a_92, a_93, a_94, a_95, s_2, s_3, s_4, s_5, s_6, s_46, s_47, s_55, s_56, s_58, s_68, s_69, s_70, s_73, s_74, s_76, s_77, s_78, s_79, s_80, s_81, s_82, s_83, s_84, s_85, s_86, s_87, s_88, s_89, s_90, s_91, s_92, s_93, s_94, s_95, it_5, it_6, it_46, it_47, it_50, it_53, it_55, it_56, it_58, it_63, it_66, it_68, it_69, it_70, it_71, it_74, it_97, se_5, se_6, se_46, se_47, se_50, se_53, se_55, se_56, se_58, se_63, se_66, se_68, se_69, se_70, se_71, se_74, se_97, at_2, at_3, at_4, at_49, at_51, at_52, at_62, at_64, at_65, pu_2, pu_3, pu_4, pu_49, pu_51, pu_52, pu_62, pu_64, pu_65, h0, i1, j1, m_far, m_price]
    by_cases p1 : tb σ 76 37 (aN n t i) (aN n t j) = tb σ 76 37 i j
    · rw [if_pos p1, if_neg (fun p2 => hq ⟨p1, p2⟩)]
    · rw [if_neg p1]) (by
    unfold f_X9_isTurn_L14
    simp (disch := omega) only [if_true, if_false, obs, Option.bind_none, Sum.elim_inl, Sum.elim_inr, Option.elim, Nat.reduceAdd, Nat.add_zero, Nat.zero_add, ile, igt, ilt, inl, ieq, ine, iq10, i1z, im1, im11, iml, imle, inm, nI_1, nI_add, isub1, isb, iaddm, pk_mul, si_hit, si_miss, si_oth, wo_oth, zl_0, zl_2, zl_3, zl_4, zl_5, zl_6, zl_7, zl_9, zl_10, zl_32, zl_35, zl_36, zl_48, zl_57, zl_59, zl_60, zl_61, zl_62, zl_63, zl_64, zl_65, zl_99, zl_100, zl_102, zl_109, zl_110, zl_115, zl_116, zl_119, zl_120, zl_121, zl_126, zl_605, zl_720, zl_1957, zl_1000000, a_2, a_3, a_4, a_5, a_6, a_46, a_47, a_55, a_56, a_58, a_68, a_69, a_70, a_73, a_74, a_76, a_77, a_78, a_79, a_80, a_81, a_82, a_83, a_84, a_85, a_86, a_87, a_88, a_89, a_90, a_91, a_92, a_93, a_94, a_95, s_2, s_3, s_4, s_5, s_6, s_46, s_47, s_55, s_56, s_58, s_68, s_69, s_70, s_73, s_74, s_76, s_77, s_78, s_79, s_80, s_81, s_82, s_83, s_84, s_85, s_86, s_87, s_88, s_89, s_90, s_91, s_92, s_93, s_94, s_95, it_5, it_6, it_46, it_47, it_50, it_53, it_55, it_56, it_58, it_63, it_66, it_68, it_69, it_70, it_71, it_74, it_97, se_5, se_6, se_46, se_47, se_50, se_53, se_55, se_56, se_58, se_63, se_66, se_68, se_69, se_70, se_71, se_74, se_97, at_2, at_3, at_4, at_49, at_51, at_52, at_62, at_64, at_65, pu_2, pu_3, pu_4, pu_49, pu_51, pu_52, pu_62, pu_64, pu_65, h0]) zl_0
  have outer := lo_all (f := f_X9_isTurn_L2 σ 75) (n := n) (fun i => ∀ j, j < n → tb σ 76 37 (aN n t i) (aN n t j) = tb σ 76 37 i j ∧ tb σ 76 73 j (aN n t i) = tb σ 76 73 j i) (.inl ()) (.inr ()) (fun i hi hP => by
    unfold f_X9_isTurn_L2
    simp (disch := omega) only [if_true, if_false, obs, Option.bind_none, Sum.elim_inl, Sum.elim_inr, Option.elim, Nat.reduceAdd, Nat.add_zero, Nat.zero_add, ile, igt, ilt, inl, ieq, ine, iq10, i1z, im1, im11, iml, imle, inm, nI_1, nI_add, isub1, isb, iaddm, pk_mul, si_hit, si_miss, si_oth, wo_oth, zl_0, zl_2, zl_3, zl_4, zl_5, zl_6, zl_7, zl_9, zl_10, zl_32, zl_35, zl_36, zl_48, zl_57, zl_59, zl_60, zl_61, zl_62, zl_63, zl_64, zl_65, zl_99, zl_100, zl_102, zl_109, zl_110, zl_115, zl_116, zl_119, zl_120, zl_121, zl_126, zl_605, zl_720, zl_1957, zl_1000000, a_2, a_3, a_4, a_5, a_6, a_46, a_47, a_55, a_56, a_58, a_68, a_69, a_70, a_73, a_74, a_76, a_77, a_78, a_79, a_80, a_81, a_82, a_83, a_84, a_85, a_86, a_87, a_88, a_89, a_90, a_91, a_92, a_93, a_94, a_95, s_2, s_3, s_4, s_5, s_6, s_46, s_47, s_55, s_56, s_58, s_68, s_69, s_70, s_73, s_74, s_76, s_77, s_78, s_79, s_80, s_81, s_82, s_83, s_84, s_85, s_86, s_87, s_88, s_89, s_90, s_91, s_92, s_93, s_94, s_95, it_5, it_6, it_46, it_47, it_50, it_53, it_55, it_56, it_58, it_63, it_66, it_68, it_69, it_70, it_71, it_74, it_97, se_5, se_6, se_46, se_47, se_50, se_53, se_55, se_56, se_58, se_63, se_66, se_68, se_69, se_70, se_71, se_74, se_97, at_2, at_3, at_4, at_49, at_51, at_52, at_62, at_64, at_65, pu_2, pu_3, pu_4, pu_49, pu_51, pu_52, pu_62, pu_64, pu_65, h0]
    rw [← zl_0, (inner i hi).1 hP]
    rfl) (fun i hi hP => by
    unfold f_X9_isTurn_L2
    simp (disch := omega) only [if_true, if_false, obs, Option.bind_none, Sum.elim_inl, Sum.elim_inr, Option.elim, Nat.reduceAdd, Nat.add_zero, Nat.zero_add, ile, igt, ilt, inl, ieq, ine, iq10, i1z, im1, im11, iml, imle, inm, nI_1, nI_add, isub1, isb, iaddm, pk_mul, si_hit, si_miss, si_oth, wo_oth, zl_0, zl_2, zl_3, zl_4, zl_5, zl_6, zl_7, zl_9, zl_10, zl_32, zl_35, zl_36, zl_48, zl_57, zl_59, zl_60, zl_61, zl_62, zl_63, zl_64, zl_65, zl_99, zl_100, zl_102, zl_109, zl_110, zl_115, zl_116, zl_119, zl_120, zl_121, zl_126, zl_605, zl_720, zl_1957, zl_1000000, a_2, a_3, a_4, a_5, a_6, a_46, a_47, a_55, a_56, a_58, a_68, a_69, a_70, a_73, a_74, a_76, a_77, a_78, a_79, a_80, a_81, a_82, a_83, a_84, a_85, a_86, a_87, a_88, a_89, a_90, a_91, a_92, a_93, a_94, a_95, s_2, s_3, s_4, s_5, s_6, s_46, s_47, s_55, s_56, s_58, s_68, s_69, s_70, s_73, s_74, s_76, s_77, s_78, s_79, s_80, s_81, s_82, s_83, s_84, s_85, s_86, s_87, s_88, s_89, s_90, s_91, s_92, s_93, s_94, s_95, it_5, it_6, it_46, it_47, it_50, it_53, it_55, it_56, it_58, it_63, it_66, it_68, it_69, it_70, it_71, it_74, it_97, se_5, se_6, se_46, se_47, se_50, se_53, se_55, se_56, se_58, se_63, se_66, se_68, se_69, se_70, se_71, se_74, se_97, at_2, at_3, at_4, at_49, at_51, at_52, at_62, at_64, at_65, pu_2, pu_3, pu_4, pu_49, pu_51, pu_52, pu_62, pu_64, pu_65, h0]
    rw [← zl_0, (inner i hi).2 hP]
    rfl) (by
    unfold f_X9_isTurn_L2
    simp (disch := omega) only [if_true, if_false, obs, Option.bind_none, Sum.elim_inl, Sum.elim_inr, Option.elim, Nat.reduceAdd, Nat.add_zero, Nat.zero_add, ile, igt, ilt, inl, ieq, ine, iq10, i1z, im1, im11, iml, imle, inm, nI_1, nI_add, isub1, isb, iaddm, pk_mul, si_hit, si_miss, si_oth, wo_oth, zl_0, zl_2, zl_3, zl_4, zl_5, zl_6, zl_7, zl_9, zl_10, zl_32, zl_35, zl_36, zl_48, zl_57, zl_59, zl_60, zl_61, zl_62, zl_63, zl_64, zl_65, zl_99, zl_100, zl_102, zl_109, zl_110, zl_115, zl_116, zl_119, zl_120, zl_121, zl_126, zl_605, zl_720, zl_1957, zl_1000000, a_2, a_3, a_4, a_5, a_6, a_46, a_47, a_55, a_56, a_58, a_68, a_69, a_70, a_73, a_74, a_76, a_77, a_78, a_79, a_80, a_81, a_82, a_83, a_84, a_85, a_86, a_87, a_88, a_89, a_90, a_91, a_92, a_93, a_94, a_95, s_2, s_3, s_4, s_5, s_6, s_46, s_47, s_55, s_56, s_58, s_68, s_69, s_70, s_73, s_74, s_76, s_77, s_78, s_79, s_80, s_81, s_82, s_83, s_84, s_85, s_86, s_87, s_88, s_89, s_90, s_91, s_92, s_93, s_94, s_95, it_5, it_6, it_46, it_47, it_50, it_53, it_55, it_56, it_58, it_63, it_66, it_68, it_69, it_70, it_71, it_74, it_97, se_5, se_6, se_46, se_47, se_50, se_53, se_55, se_56, se_58, se_63, se_66, se_68, se_69, se_70, se_71, se_74, se_97, at_2, at_3, at_4, at_49, at_51, at_52, at_62, at_64, at_65, pu_2, pu_3, pu_4, pu_49, pu_51, pu_52, pu_62, pu_64, pu_65, h0]) zl_0
  unfold f_X9_isTurn
  by_cases c : TU n (tb σ 76 37) (tb σ 76 73) t
  · rw [outer.1 c, pT c]
    rfl
  · rw [outer.2 c, pF c]
    rfl
noncomputable def TLr (n : Nat) (D C : Nat → Nat → Int32) : Nat → List Nat
  | 0 => []
  | T + 1 => pif (TU n D C T) (TLr n D C T ++ [T]) (TLr n D C T)
theorem TLr_y {n T : Nat} {D C : Nat → Nat → Int32} (h : TU n D C T) : TLr n D C (T + 1) = TLr n D C T ++ [T] := pT h
theorem TLr_n {n T : Nat} {D C : Nat → Nat → Int32} (h : ¬ TU n D C T) : TLr n D C (T + 1) = TLr n D C T := pF h
theorem TLr_len {n : Nat} {D C : Nat → Nat → Int32} : ∀ T, (TLr n D C T).length ≤ T
  | 0 => Nat.le_refl _
  | T + 1 => by
    by_cases h : TU n D C T
    · rw [TLr_y h, List.length_append]
      have := TLr_len (n := n) (D := D) (C := C) T
      simp only [List.length_cons, List.length_nil]
      omega
    · rw [TLr_n h]
      have := TLr_len (n := n) (D := D) (C := C) T
      omega
theorem TLr_lt {n : Nat} {D C : Nat → Nat → Int32} : ∀ T m, m < (TLr n D C T).length → (TLr n D C T).getD m 0 < T
  | 0, m, h => absurd h (by simp [TLr])
  | T + 1, m, hm => by
    by_cases h : TU n D C T
    · rw [TLr_y h] at hm ⊢
      rw [List.length_append] at hm
      simp only [List.length_cons, List.length_nil] at hm
      rw [gd_app]
      by_cases c : m < (TLr n D C T).length
      · rw [if_pos c]
        have := TLr_lt T m c
        omega
      · rw [if_neg c, if_pos (by omega)]
        omega
    · rw [TLr_n h] at hm ⊢
      have := TLr_lt T m hm
      omega
def LT (n : Nat) (L : List Nat) (σ0 σ : Sg) : Prop := Fr [75, 80, 86] σ0 σ ∧ (∀ q, q ≠ 14 → σ 75 q = σ0 75 q) ∧ σ 75 14 = nI L.length ∧ ∀ m i, m < L.length → i < n → σ 86 (6 * m + i) = nI (aN n (L.getD m 0) i)
theorem fac_720 : ∀ n, n < 7 → fac n ≤ 720 := by decide
theorem m_lays {σ : Sg} {n : Nat} (h0 : σ 76 0 = nI n) (h1 : 1 ≤ n) (hn : n ≤ 6) : ∃ σ', f_X9_laysTurns σ 75 = some σ' ∧ LT n (TLr n (tb σ 76 37) (tb σ 76 73) (fac n)) σ σ' := by
  have hfac := fac_720 n (by omega)
  unfold f_X9_laysTurns
  obtain ⟨σ1, a1, a2, _, a3⟩ := m_firsts (σ := si σ 75 14 (0 : Int32)) hn
  rw [a1]
  simp only [obs]
  have goes : ∀ (t : Nat) (σ' : Sg), t < fac n → Asg σ' 80 n t → LT n (TLr n (tb σ 76 37) (tb σ 76 73) (t + 1)) σ σ' → ∃ s', f_X9_laysTurns_J66 75 σ' = some (.inl s') ∧ ((t + 1 < fac n → s'.1 = 1 ∧ Asg s'.2 80 n (t + 1)) ∧ (t + 1 = fac n → s'.1 = 0) ∧ LT n (TLr n (tb σ 76 37) (tb σ 76 73) (t + 1)) σ s'.2) := by
    intro t σ' ht hA ⟨l1, l2, l3, l4⟩
    obtain ⟨r, σ2, g1, g2, g3, g4⟩ := m_goesOn (n := n) (t := t) (σ := σ') (by rw [l1.at (by decide), h0]) h1 hn ht hA
    unfold f_X9_laysTurns_J66
    rw [g1]
    simp only [obs]
    exact ⟨_, rfl, g3, fun e => (g4 (by omega)).1, l1.tr g2 (by decide), fun q hq => by show σ2 75 q = σ 75 q; rw [g2.at (by decide)]; exact l2 q hq, by show σ2 75 14 = _; rw [g2.at (by decide)]; exact l3, fun m i hm hi => by show σ2 86 _ = _; rw [g2.at (by decide)]; exact l4 m i hm hi⟩
  obtain ⟨σ2, b1, b2⟩ := lo_tc (f := f_X9_laysTurns_L11 75) (fun t s => (t < fac n → s.1 = 1 ∧ Asg s.2 80 n t) ∧ (t = fac n → s.1 = 0) ∧ LT n (TLr n (tb σ 76 37) (tb σ 76 73) t) σ s.2) (fac n) (fun e => LT n (TLr n (tb σ 76 37) (tb σ 76 73) (fac n)) σ e) (fun t s ht ⟨p1, _, p3⟩ => by
    obtain ⟨f, σ'⟩ := s
    obtain ⟨p1a, p1b⟩ := p1 ht
    simp only at p1a p1b p3
    subst p1a
    have p3' := p3
    obtain ⟨l1, l2, l3, l4⟩ := p3
    have e76 : σ' 76 = σ 76 := l1.at (by decide)
    have hT := m_isTurn (n := n) (t := t) (σ := σ') (by rw [e76, h0]) hn ht p1b
    have htb : ∀ o, tb σ' 76 o = tb σ 76 o := fun o => by
      funext i j
      unfold tb
      rw [e76]
    rw [htb, htb] at hT
    unfold f_X9_laysTurns_L11
    simp only
    rw [if_neg (by decide), hT]
    simp only [obs]
    by_cases c : TU n (tb σ 76 37) (tb σ 76 73) t
    · rw [pT c, if_neg (by decide)]
      have hlen := TLr_len (n := n) (D := tb σ 76 37) (C := tb σ 76 73) t
      rw [lo_wo (f := f_X9_laysTurns_L24 75) (σ := σ') (k := 86) (o := 6 * (TLr n (tb σ 76 37) (tb σ 76 73) t).length) (n := 6) (v := σ' 80) (fun j hj => by
        have e75 : wo σ' 86 (6 * (TLr n (tb σ 76 37) (tb σ 76 73) t).length) j (σ' 80) 75 14 = nI (TLr n (tb σ 76 37) (tb σ 76 73) t).length := by rw [wo_oth (by omega)]; exact l3
        unfold f_X9_laysTurns_L24
        simp (disch := omega) only [if_true, if_false, obs, Option.bind_none, Sum.elim_inl, Sum.elim_inr, Option.elim, Nat.reduceAdd, Nat.add_zero, Nat.zero_add, ile, igt, ilt, inl, ieq, ine, iq10, i1z, im1, im11, iml, imle, inm, nI_1, nI_add, isub1, isb, iaddm, pk_mul, si_hit, si_miss, si_oth, wo_oth, zl_0, zl_2, zl_3, zl_4, zl_5, zl_6, zl_7, zl_9, zl_10, zl_32, zl_35, zl_36, zl_48, zl_57, zl_59, zl_60, zl_61, zl_62, zl_63, zl_64, zl_65, zl_99, zl_100, zl_102, zl_109, zl_110, zl_115, zl_116, zl_119, zl_120, zl_121, zl_126, zl_605, zl_720, zl_1957, zl_1000000, a_2, a_3, a_4, a_5, a_6, a_46, a_47, a_55, a_56, a_58, a_68, a_69, a_70, a_73, a_74, a_76, a_77, a_78, a_79, a_80, a_81, a_82, a_83, a_84, a_85, a_86, a_87, a_88, a_89, a_90, a_91, a_92, a_93, a_94, a_95, s_2, s_3, s_4, s_5, s_6, s_46, s_47, s_55, s_56, s_58, s_68, s_69, s_70, s_73, s_74, s_76, s_77, s_78, s_79, s_80, s_81, s_82, s_83, s_84, s_85, s_86, s_87, s_88, s_89, s_90, s_91, s_92, s_93, s_94, s_95, it_5, it_6, it_46, it_47, it_50, it_53, it_55, it_56, it_58, it_63, it_66, it_68, it_69, it_70, it_71, it_74, it_97, se_5, se_6, se_46, se_47, se_50, se_53, se_55, se_56, se_58, se_63, se_66, se_68, se_69, se_70, se_71, se_74, se_97, at_2, at_3, at_4, at_49, at_51, at_52, at_62, at_64, at_65, pu_2, pu_3, pu_4, pu_49, pu_51, pu_52, pu_62, pu_64, pu_65, e75]
        rw [wo_s rfl]) (by
        unfold f_X9_laysTurns_L24
        simp (disch := omega) only [if_true, if_false, obs, Option.bind_none, Sum.elim_inl, Sum.elim_inr, Option.elim, Nat.reduceAdd, Nat.add_zero, Nat.zero_add, ile, igt, ilt, inl, ieq, ine, iq10, i1z, im1, im11, iml, imle, inm, nI_1, nI_add, isub1, isb, iaddm, pk_mul, si_hit, si_miss, si_oth, wo_oth, zl_0, zl_2, zl_3, zl_4, zl_5, zl_6, zl_7, zl_9, zl_10, zl_32, zl_35, zl_36, zl_48, zl_57, zl_59, zl_60, zl_61, zl_62, zl_63, zl_64, zl_65, zl_99, zl_100, zl_102, zl_109, zl_110, zl_115, zl_116, zl_119, zl_120, zl_121, zl_126, zl_605, zl_720, zl_1957, zl_1000000, a_2, a_3, a_4, a_5, a_6, a_46, a_47, a_55, a_56, a_58, a_68, a_69, a_70, a_73, a_74, a_76, a_77, a_78, a_79, a_80, a_81, a_82, a_83, a_84, a_85, a_86, a_87, a_88, a_89, a_90, a_91, a_92, a_93, a_94, a_95, s_2, s_3, s_4, s_5, s_6, s_46, s_47, s_55, s_56, s_58, s_68, s_69, s_70, s_73, s_74, s_76, s_77, s_78, s_79, s_80, s_81, s_82, s_83, s_84, s_85, s_86, s_87, s_88, s_89, s_90, s_91, s_92, s_93, s_94, s_95, it_5, it_6, it_46, it_47, it_50, it_53, it_55, it_56, it_58, it_63, it_66, it_68, it_69, it_70, it_71, it_74, it_97, se_5, se_6, se_46, se_47, se_50, se_53, se_55, se_56, se_58, se_63, se_66, se_68, se_69, se_70, se_71, se_74, se_97, at_2, at_3, at_4, at_49, at_51, at_52, at_62, at_64, at_65, pu_2, pu_3, pu_4, pu_49, pu_51, pu_52, pu_62, pu_64, pu_65]) zl_0]
      simp only [obs]
      refine goes t _ ht (fun i hi => by rw [si_oth (by omega), wo_oth (by omega)]; exact p1b i hi) ⟨((l1.tr (wo_fr Fr.rf (show 86 ∈ [75, 80, 86] by decide)) (fun q hq => hq)).si (by decide)), fun q hq => by rw [si_miss hq, wo_oth (by omega)]; exact l2 q hq, ?_, fun m i hm hi => ?_⟩
      · rw [si_hit, wo_oth (by omega), l3, nI_s, TLr_y c, List.length_append]
        rfl
      · rw [TLr_y c, List.length_append] at hm
        simp only [List.length_cons, List.length_nil] at hm
        rw [si_oth (by omega), TLr_y c, gd_app]
        by_cases q : m < (TLr n (tb σ 76 37) (tb σ 76 73) t).length
        · rw [if_pos q, wo_out (by omega)]
          exact l4 m i q hi
        · rw [if_neg q, if_pos (by omega), show m = (TLr n (tb σ 76 37) (tb σ 76 73) t).length by omega, wo_in (by omega)]
          exact p1b i hi
    · rw [pF c, if_pos rfl]
      refine goes t _ ht p1b ?_
      rw [TLr_n c]
      exact p3') (fun s ⟨_, p2, p3⟩ => by
    obtain ⟨f, σ'⟩ := s
    have p2' := p2 rfl
    simp only at p2' p3
    subst p2'
    unfold f_X9_laysTurns_L11
    simp only
    rw [if_pos trivial]
    exact ⟨_, rfl, p3⟩) (s := (1, σ1)) ⟨fun _ => ⟨rfl, a3⟩, fun e => absurd ((by decide : ∀ n, n < 7 → 1 ≤ fac n) n (by omega)) (by omega), (Fr.rf.si (by decide)).tr a2 (by decide), fun q hq => by show σ1 75 q = σ 75 q; rw [a2.at (by decide), si_miss hq], by show σ1 75 14 = _; rw [a2.at (by decide), si_hit]; exact zl_0, fun m i hm => absurd hm (by simp [TLr])⟩
  rw [b1]
  exact ⟨σ2, rfl, b2⟩
theorem m_isKept {σ : Sg} {n m t : Nat} {X : Nat → Int32} (h0 : σ 76 0 = nI n) (hX : Fx n X) (ht : t < fac n) (hv : ∀ i, i < 6 → σ 81 i = X i) (hm : m < 720) (hT : ∀ i, i < n → σ 86 (6 * m + i) = nI (aN n t i)) : f_X9_isKept σ 75 (nI m) = some (pif (KE n X t) 1 0) := by
  have hn := hX.2.1
  unfold f_X9_isKept
  rw [lo_run (f := f_X9_isKept_L4 σ 75 (nI m)) (fun i => (pif (∀ q, q < i → ∀ l, l < n → X q = nI l → aN n t l = l) 1 0, nI i)) (n := n) (e := pif (KE n X t) 1 0) (fun i hi => by
    have e81 := hv i (by omega)
    unfold f_X9_isKept_L4 f_X9_isKept_J57 f_X9_isKept_J53 f_X9_isKept_J58
    simp (disch := omega) only [if_true, if_false, obs, Option.bind_none, Sum.elim_inl, Sum.elim_inr, Option.elim, Nat.reduceAdd, Nat.add_zero, Nat.zero_add, ile, igt, ilt, inl, ieq, ine, iq10, i1z, im1, im11, iml, imle, inm, nI_1, nI_add, isub1, isb, iaddm, pk_mul, si_hit, si_miss, si_oth, wo_oth, zl_0, zl_2, zl_3, zl_4, zl_5, zl_6, zl_7, zl_9, zl_10, zl_32, zl_35, zl_36, zl_48, zl_57, zl_59, zl_60, zl_61, zl_62, zl_63, zl_64, zl_65, zl_99, zl_100, zl_102, zl_109, zl_110, zl_115, zl_116, zl_119, zl_120, zl_121, zl_126, zl_605, zl_720, zl_1957, zl_1000000, a_2, a_3, a_4, a_5, a_6, a_46, a_47, a_55, a_56, a_58, a_68, a_69, a_70, a_73, a_74, a_76, a_77, a_78, a_79, a_80, a_81, a_82, a_83, a_84, a_85, a_86, a_87, a_88, a_89, a_90, a_91, a_92, a_93, a_94, a_95, s_2, s_3, s_4, s_5, s_6, s_46, s_47, s_55, s_56, s_58, s_68, s_69, s_70, s_73, s_74, s_76, s_77, s_78, s_79, s_80, s_81, s_82, s_83, s_84, s_85, s_86, s_87, s_88, s_89, s_90, s_91, s_92, s_93, s_94, s_95, it_5, it_6, it_46, it_47, it_50, it_53, it_55, it_56, it_58, it_63, it_66, it_68, it_69, it_70, it_71, it_74, it_97, se_5, se_6, se_46, se_47, se_50, se_53, se_55, se_56, se_58, se_63, se_66, se_68, se_69, se_70, se_71, se_74, se_97, at_2, at_3, at_4, at_49, at_51, at_52, at_62, at_64, at_65, pu_2, pu_3, pu_4, pu_49, pu_51, pu_52, pu_62, pu_64, pu_65, h0, e81]
    by_cases c : ∀ q, q < i → ∀ l, l < n → X q = nI l → aN n t l = l
    · rw [pT c, if_neg (by decide)]
      rcases hX.2.2.1 i hi with e | ⟨l, hl, e⟩
      · rw [e, if_pos rfl, pT]
        intro q hq l hl e2
        by_cases cq : q = i
        · rw [cq, e] at e2
          exact absurd e2.symm (nI_m1b (by omega))
        · exact c q (by omega) l hl e2
      · have eT := hT l hl
        have hal := aN_lt hn ht hl
        rw [e, if_neg (nI_m1b (by omega))]
        simp (disch := omega) only [if_true, if_false, obs, Option.bind_none, Sum.elim_inl, Sum.elim_inr, Option.elim, Nat.reduceAdd, Nat.add_zero, Nat.zero_add, ile, igt, ilt, inl, ieq, ine, iq10, i1z, im1, im11, iml, imle, inm, nI_1, nI_add, isub1, isb, iaddm, pk_mul, si_hit, si_miss, si_oth, wo_oth, zl_0, zl_2, zl_3, zl_4, zl_5, zl_6, zl_7, zl_9, zl_10, zl_32, zl_35, zl_36, zl_48, zl_57, zl_59, zl_60, zl_61, zl_62, zl_63, zl_64, zl_65, zl_99, zl_100, zl_102, zl_109, zl_110, zl_115, zl_116, zl_119, zl_120, zl_121, zl_126, zl_605, zl_720, zl_1957, zl_1000000, a_2, a_3, a_4, a_5, a_6, a_46, a_47, a_55, a_56, a_58, a_68, a_69, a_70, a_73, a_74, a_76, a_77, a_78, a_79, a_80, a_81, a_82, a_83, a_84, a_85, a_86, a_87, a_88, a_89, a_90, a_91, a_92, a_93, a_94, a_95, s_2, s_3, s_4, s_5, s_6, s_46, s_47, s_55, s_56, s_58, s_68, s_69, s_70, s_73, s_74, s_76, s_77, s_78, s_79, s_80, s_81, s_82, s_83, s_84, s_85, s_86, s_87, s_88, s_89, s_90, s_91, s_92, s_93, s_94, s_95, it_5, it_6, it_46, it_47, it_50, it_53, it_55, it_56, it_58, it_63, it_66, it_68, it_69, it_70, it_71, it_74, it_97, se_5, se_6, se_46, se_47, se_50, se_53, se_55, se_56, se_58, se_63, se_66, se_68, se_69, se_70, se_71, se_74, se_97, at_2, at_3, at_4, at_49, at_51, at_52, at_62, at_64, at_65, pu_2, pu_3, pu_4, pu_49, pu_51, pu_52, pu_62, pu_64, pu_65, eT]
        by_cases c2 : aN n t l = l
        · rw [if_pos (by rw [c2]), pT]
          intro q hq l' hl' e2
          by_cases cq : q = i
          · rw [cq, e] at e2
            rw [← (nI_eq (by omega) (by omega)).mp e2]
            exact c2
          · exact c q (by omega) l' hl' e2
        · rw [if_neg (fun z => c2 ((nI_eq (by omega) (by omega)).mp z)), pF]
          intro z
          exact c2 (z i (by omega) l hl e)
    · rw [pF c, if_pos rfl, pF]
      exact fun z => c (fun q hq => z q (by omega))) (by
    unfold f_X9_isKept_L4
    simp (disch := omega) only [if_true, if_false, obs, Option.bind_none, Sum.elim_inl, Sum.elim_inr, Option.elim, Nat.reduceAdd, Nat.add_zero, Nat.zero_add, ile, igt, ilt, inl, ieq, ine, iq10, i1z, im1, im11, iml, imle, inm, nI_1, nI_add, isub1, isb, iaddm, pk_mul, si_hit, si_miss, si_oth, wo_oth, zl_0, zl_2, zl_3, zl_4, zl_5, zl_6, zl_7, zl_9, zl_10, zl_32, zl_35, zl_36, zl_48, zl_57, zl_59, zl_60, zl_61, zl_62, zl_63, zl_64, zl_65, zl_99, zl_100, zl_102, zl_109, zl_110, zl_115, zl_116, zl_119, zl_120, zl_121, zl_126, zl_605, zl_720, zl_1957, zl_1000000, a_2, a_3, a_4, a_5, a_6, a_46, a_47, a_55, a_56, a_58, a_68, a_69, a_70, a_73, a_74, a_76, a_77, a_78, a_79, a_80, a_81, a_82, a_83, a_84, a_85, a_86, a_87, a_88, a_89, a_90, a_91, a_92, a_93, a_94, a_95, s_2, s_3, s_4, s_5, s_6, s_46, s_47, s_55, s_56, s_58, s_68, s_69, s_70, s_73, s_74, s_76, s_77, s_78, s_79, s_80, s_81, s_82, s_83, s_84, s_85, s_86, s_87, s_88, s_89, s_90, s_91, s_92, s_93, s_94, s_95, it_5, it_6, it_46, it_47, it_50, it_53, it_55, it_56, it_58, it_63, it_66, it_68, it_69, it_70, it_71, it_74, it_97, se_5, se_6, se_46, se_47, se_50, se_53, se_55, se_56, se_58, se_63, se_66, se_68, se_69, se_70, se_71, se_74, se_97, at_2, at_3, at_4, at_49, at_51, at_52, at_62, at_64, at_65, pu_2, pu_3, pu_4, pu_49, pu_51, pu_52, pu_62, pu_64, pu_65, h0]
    rfl) (by rw [pT (fun q hq => absurd hq (by omega))]; rfl)]
  simp only [obs]
  by_cases c : KE n X t
  · rw [pT c]
    rfl
  · rw [pF c]
    rfl
noncomputable def ckT (n : Nat) (X : Nat → Int32) (L : List Nat) (m : Nat) : Nat := (L.take m).foldl (fun a t => pif (KE n X t) (a + 1) a) 0
noncomputable def lwT (n : Nat) (X : Nat → Int32) (k : Nat) (L : List Nat) (m : Nat) : Nat := (L.take m).foldl (fun a t => pif (KE n X t) (min a (aN n t k)) a) k
theorem take_s {L : List Nat} {m : Nat} (h : m < L.length) : L.take (m + 1) = L.take m ++ [L.getD m 0] := by
  rw [List.take_succ_eq_append_getElem h, List.getD_eq_getElem?_getD, List.getElem?_eq_getElem h]
  rfl
theorem ckT_s {n m : Nat} {X : Nat → Int32} {L : List Nat} (h : m < L.length) : ckT n X L (m + 1) = pif (KE n X (L.getD m 0)) (ckT n X L m + 1) (ckT n X L m) := by
  unfold ckT
  rw [take_s h, List.foldl_append]
  rfl
theorem lwT_s {n m k : Nat} {X : Nat → Int32} {L : List Nat} (h : m < L.length) : lwT n X k L (m + 1) = pif (KE n X (L.getD m 0)) (min (lwT n X k L m) (aN n (L.getD m 0) k)) (lwT n X k L m) := by
  unfold lwT
  rw [take_s h, List.foldl_append]
  rfl
theorem lwT_le {n k : Nat} {X : Nat → Int32} {L : List Nat} : ∀ m, m ≤ L.length → lwT n X k L m ≤ k
  | 0, _ => Nat.le_refl _
  | m + 1, h => by
    rw [lwT_s (by omega)]
    have := lwT_le (n := n) (k := k) (X := X) (L := L) m (by omega)
    by_cases c : KE n X (L.getD m 0)
    · rw [pT c]; omega
    · rw [pF c]; omega
theorem sym_TL {n : Nat} {D C : Nat → Nat → Int32} {X : Nat → Int32} : ∀ T, (symQ n D C X T).1 = (TLr n D C T).foldl (fun a t => pif (KE n X t) (a + 1) a) 0 ∧ ∀ k, (symQ n D C X T).2 k = (TLr n D C T).foldl (fun a t => pif (KE n X t) (min a (aN n t k)) a) k
  | 0 => ⟨rfl, fun _ => rfl⟩
  | T + 1 => by
    obtain ⟨h1, h2⟩ := sym_TL (n := n) (D := D) (C := C) (X := X) T
    unfold symQ
    by_cases c : TU n D C T
    · rw [TLr_y c]
      by_cases d : KE n X T
      · rw [pT ⟨c, d⟩]
        refine ⟨?_, fun k => ?_⟩
        · rw [List.foldl_append, ← h1]
          exact (pT d).symm
        · rw [List.foldl_append, ← h2]
          exact (pT d).symm
      · rw [pF (fun z => d z.2)]
        refine ⟨?_, fun k => ?_⟩
        · rw [List.foldl_append, ← h1]
          exact (pF d).symm
        · rw [List.foldl_append, ← h2]
          exact (pF d).symm
    · rw [pF (fun z => c z.1), TLr_n c]
      exact ⟨h1, h2⟩
theorem m_kept {σ : Sg} {n : Nat} {X : Nat → Int32} (h0 : σ 76 0 = nI n) (hX : Fx n X) (hv : ∀ i, i < 6 → σ 81 i = X i) : ∃ σ', f_X9_keptTurns σ 75 = some (nI (symQ n (tb σ 76 37) (tb σ 76 73) X (fac n)).1, σ') ∧ LT n (TLr n (tb σ 76 37) (tb σ 76 73) (fac n)) σ σ' := by
  have hn := hX.2.1
  have hfac := fac_720 n (by omega)
  obtain ⟨σ1, a1, a2⟩ := m_lays h0 hX.1 hn
  have a2' := a2
  obtain ⟨l1, l2, l3, l4⟩ := a2'
  have hlen := TLr_len (n := n) (D := tb σ 76 37) (C := tb σ 76 73) (fac n)
  have hlt := TLr_lt (n := n) (D := tb σ 76 37) (C := tb σ 76 73) (fac n)
  rw [(sym_TL (n := n) (D := tb σ 76 37) (C := tb σ 76 73) (X := X) (fac n)).1]
  generalize TLr n (tb σ 76 37) (tb σ 76 73) (fac n) = L at *
  refine ⟨σ1, ?_, a2⟩
  unfold f_X9_keptTurns
  rw [a1]
  simp only [obs]
  rw [lo_run (f := f_X9_keptTurns_L8 σ1 75) (fun m => (nI (ckT n X L m), nI m)) (n := L.length) (e := nI (ckT n X L L.length)) (fun m hm => by
    have hk := m_isKept (σ := σ1) (m := m) (t := L.getD m 0) (n := n) (X := X) (by rw [l1.at (by decide), h0]) hX (hlt m hm) (fun i hi => by rw [l1.at (by decide)]; exact hv i hi) (by omega) (fun i hi => l4 m i hm hi)
    unfold f_X9_keptTurns_L8 f_X9_keptTurns_J30
    simp only
    rw [l3, if_neg (nI_ge hm (by omega)), hk]
    simp only [obs]
    rw [ckT_s hm]
    by_cases c : KE n X (L.getD m 0)
    · rw [pT c, pT c, if_neg (by decide), nI_s, nI_s]
    · rw [pF c, pF c, if_pos rfl, nI_s, zl_0, nI_add]
      rfl) (by
    unfold f_X9_keptTurns_L8
    simp only
    rw [l3, if_pos (nI_le (Nat.le_refl _) (by omega))]) (by rw [← zl_0]; rfl)]
  simp only [obs]
  unfold ckT
  rw [List.take_of_length_le (Nat.le_refl _)]
theorem m_lowest {σ σ1 : Sg} {n k : Nat} {X : Nat → Int32} (h0 : σ 76 0 = nI n) (hX : Fx n X) (hv : ∀ i, i < 6 → σ1 81 i = X i) (h1 : σ1 76 = σ 76) (hL : ∃ σ0, LT n (TLr n (tb σ 76 37) (tb σ 76 73) (fac n)) σ0 σ1) (hk : k < n) : f_X9_lowest σ1 75 (nI k) = some (nI ((symQ n (tb σ 76 37) (tb σ 76 73) X (fac n)).2 k)) := by
  have hn := hX.2.1
  have hfac := fac_720 n (by omega)
  obtain ⟨σ0, l1, l2, l3, l4⟩ := hL
  have hlen := TLr_len (n := n) (D := tb σ 76 37) (C := tb σ 76 73) (fac n)
  have hlt := TLr_lt (n := n) (D := tb σ 76 37) (C := tb σ 76 73) (fac n)
  rw [(sym_TL (n := n) (D := tb σ 76 37) (C := tb σ 76 73) (X := X) (fac n)).2 k]
  generalize TLr n (tb σ 76 37) (tb σ 76 73) (fac n) = L at *
  unfold f_X9_lowest
  rw [lo_run (f := f_X9_lowest_L4 σ1 75 (nI k)) (fun m => (nI (lwT n X k L m), nI m)) (n := L.length) (e := nI (lwT n X k L L.length)) (fun m hm => by
    have hke := m_isKept (σ := σ1) (m := m) (t := L.getD m 0) (n := n) (X := X) (by rw [h1, h0]) hX (hlt m hm) hv (by omega) (fun i hi => l4 m i hm hi)
    have e86 := l4 m k hm hk
    have hal := aN_lt hn (hlt m hm) hk
    have hle := lwT_le (n := n) (k := k) (X := X) (L := L) m (by omega)
    unfold f_X9_lowest_L4 f_X9_lowest_J44 f_X9_lowest_J45
    simp (disch := omega) only [if_true, if_false, obs, Option.bind_none, Sum.elim_inl, Sum.elim_inr, Option.elim, Nat.reduceAdd, Nat.add_zero, Nat.zero_add, ile, igt, ilt, inl, ieq, ine, iq10, i1z, im1, im11, iml, imle, inm, nI_1, nI_add, isub1, isb, iaddm, pk_mul, si_hit, si_miss, si_oth, wo_oth, zl_0, zl_2, zl_3, zl_4, zl_5, zl_6, zl_7, zl_9, zl_10, zl_32, zl_35, zl_36, zl_48, zl_57, zl_59, zl_60, zl_61, zl_62, zl_63, zl_64, zl_65, zl_99, zl_100, zl_102, zl_109, zl_110, zl_115, zl_116, zl_119, zl_120, zl_121, zl_126, zl_605, zl_720, zl_1957, zl_1000000, a_2, a_3, a_4, a_5, a_6, a_46, a_47, a_55, a_56, a_58, a_68, a_69, a_70, a_73, a_74, a_76, a_77, a_78, a_79, a_80, a_81, a_82, a_83, a_84, a_85, a_86, a_87, a_88, a_89, a_90, a_91, a_92, a_93, a_94, a_95, s_2, s_3, s_4, s_5, s_6, s_46, s_47, s_55, s_56, s_58, s_68, s_69, s_70, s_73, s_74, s_76, s_77, s_78, s_79, s_80, s_81, s_82, s_83, s_84, s_85, s_86, s_87, s_88, s_89, s_90, s_91, s_92, s_93, s_94, s_95, it_5, it_6, it_46, it_47, it_50, it_53, it_55, it_56, it_58, it_63, it_66, it_68, it_69, it_70, it_71, it_74, it_97, se_5, se_6, se_46, se_47, se_50, se_53, se_55, se_56, se_58, se_63, se_66, se_68, se_69, se_70, se_71, se_74, se_97, at_2, at_3, at_4, at_49, at_51, at_52, at_62, at_64, at_65, pu_2, pu_3, pu_4, pu_49, pu_51, pu_52, pu_62, pu_64, pu_65, l3, e86]
    rw [lwT_s hm]
    by_cases c1 : lwT n X k L m ≤ aN n (L.getD m 0) k
    · rw [if_pos (nI_le c1 (by omega))]
      by_cases c : KE n X (L.getD m 0)
      · rw [pT c, Nat.min_eq_left c1]
      · rw [pF c]
    · rw [if_neg (nI_ge (by omega) (by omega)), hke]
      by_cases c : KE n X (L.getD m 0)
      · rw [pT c, pT c, Nat.min_eq_right (by omega)]
        rfl
      · rw [pF c, pF c]
        simp only [obs]
        rw [if_pos zl_0]) (by
    unfold f_X9_lowest_L4
    simp (disch := omega) only [if_true, if_false, obs, Option.bind_none, Sum.elim_inl, Sum.elim_inr, Option.elim, Nat.reduceAdd, Nat.add_zero, Nat.zero_add, ile, igt, ilt, inl, ieq, ine, iq10, i1z, im1, im11, iml, imle, inm, nI_1, nI_add, isub1, isb, iaddm, pk_mul, si_hit, si_miss, si_oth, wo_oth, zl_0, zl_2, zl_3, zl_4, zl_5, zl_6, zl_7, zl_9, zl_10, zl_32, zl_35, zl_36, zl_48, zl_57, zl_59, zl_60, zl_61, zl_62, zl_63, zl_64, zl_65, zl_99, zl_100, zl_102, zl_109, zl_110, zl_115, zl_116, zl_119, zl_120, zl_121, zl_126, zl_605, zl_720, zl_1957, zl_1000000, a_2, a_3, a_4, a_5, a_6, a_46, a_47, a_55, a_56, a_58, a_68, a_69, a_70, a_73, a_74, a_76, a_77, a_78, a_79, a_80, a_81, a_82, a_83, a_84, a_85, a_86, a_87, a_88, a_89, a_90, a_91, a_92, a_93, a_94, a_95, s_2, s_3, s_4, s_5, s_6, s_46, s_47, s_55, s_56, s_58, s_68, s_69, s_70, s_73, s_74, s_76, s_77, s_78, s_79, s_80, s_81, s_82, s_83, s_84, s_85, s_86, s_87, s_88, s_89, s_90, s_91, s_92, s_93, s_94, s_95, it_5, it_6, it_46, it_47, it_50, it_53, it_55, it_56, it_58, it_63, it_66, it_68, it_69, it_70, it_71, it_74, it_97, se_5, se_6, se_46, se_47, se_50, se_53, se_55, se_56, se_58, se_63, se_66, se_68, se_69, se_70, se_71, se_74, se_97, at_2, at_3, at_4, at_49, at_51, at_52, at_62, at_64, at_65, pu_2, pu_3, pu_4, pu_49, pu_51, pu_52, pu_62, pu_64, pu_65, l3]) (by rw [← zl_0]; rfl)]
  simp only [obs]
  unfold lwT
  rw [List.take_of_length_le (Nat.le_refl _)]
theorem tbX {σ : Sg} {s : Nat → Int32} {o : Nat} (h : EqS (σ 76) s) (ho : o ≤ 73) : tb σ 76 o = tS s o := tS_eq h ho
theorem Iv_lt {n : Nat} {L : List Nat} {σ0 σ1 : Sg} (H : Iv σ0) (hF : LT n L σ0 σ1) : Iv σ1 := by
  obtain ⟨s, c, h, T, tx, md, rs, hG, hC, hM⟩ := H
  obtain ⟨l1, l2, l3, l4⟩ := hF
  refine Iv_of hG (CI_fr hC l1 (by decide)) (MI_eq hM (fun q hq => l1 q (fun z => by simp only [List.mem_cons, List.not_mem_nil, or_false] at z; omega)) (l2 3 (by omega)) (l2 5 (by omega)))
theorem J_symmetries {σ : Sg} (H : Iv σ) : JB (f_X8_symmetries σ 0) (fun σ => f_X9_symmetries σ 75) := by
  have H' := H
  obtain ⟨s, c, h, T, tx, md, rs, hG, hC, hM⟩ := H'
  obtain ⟨n, hg⟩ := hG.1
  have hX := hg.fx
  obtain ⟨σ1, a1, a2, a3, a4⟩ := c_sym (kb := 54) (kf := 6) (Or.inl rfl) (Or.inl rfl) hX hg (c_fxv hC.1.2.1) hC.1.2.1
  have H2 := Iv_fr H a2 (by decide) (by decide)
  have hM2 := MI_fr hM a2 (by decide)
  have hs1 : EqS ((wo σ1 81 0 6 (fun i => σ1 76 (115 + i))) 76) s := fun q hq => by rw [wo_oth (by omega)]; exact hM2.1.1 q hq
  obtain ⟨σ3, d1, d2⟩ := m_kept (n := n) (X := vS s 115) (by rw [hs1 0 (by omega), hg.2.2.1]) hX (m_w81 hM2.1.1)
  rw [tbX hs1 (by omega), tbX hs1 (by omega)] at d1 d2
  refine ⟨nI (symQ n (tS s 37) (tS s 73) (vS s 115) (fac n)).1, σ1, si σ3 75 6 0, ?_, ?_, Iv_75 (Iv_lt (Iv_fr H2 fr_81 (by decide) (by decide)) d2) (by decide) (by decide)⟩
  · unfold f_X8_symmetries
    rw [show 0 + 54 = 54 from rfl, show 0 + 1 = 1 from rfl, show 1 + 5 = 6 from rfl, a1]
    simp only [obs]
    rw [a3]
  · show f_X9_symmetries σ1 75 = _
    unfold f_X9_symmetries
    rw [m_looks]
    simp only [obs]
    rw [d1]
    rfl
theorem J_representative {σ : Sg} (H : Iv σ) (a : Int32) : JU 2 9 (f_X8_representative σ 0 a) (fun σ => f_X9_representative σ 75 a) := by
  have H' := H
  obtain ⟨s, c, h, T, tx, md, rs, hG, hC, hM⟩ := H'
  obtain ⟨n, hg⟩ := hG.1
  have hX := hg.fx
  have hc0 := CI_n hC hg
  have hm0 := MI_n hM hg
  have h1 := hg.1
  have hn := hg.2.1
  rcases ixc n (by omega) a with ha | ⟨i, hi, rfl⟩
  · refine Or.inr (Or.inl ⟨0, σ, si σ 75 6 1, ?_, ?_, si_hit, Iv_75 H (by decide) (by decide)⟩)
    · unfold f_X8_representative
      rw [rq_no hc0 ha]
      rfl
    · show f_X9_representative σ 75 a = _
      unfold f_X9_representative
      rw [one_no hm0 h1 hn ha]
      rfl
  · obtain ⟨σ1, a1, a2, a3, a4⟩ := c_sym (kb := 54) (kf := 6) (Or.inl rfl) (Or.inl rfl) hX hg (c_fxv hC.1.2.1) hC.1.2.1
    have H2 := Iv_fr H a2 (by decide) (by decide)
    have hM2 := MI_fr hM a2 (by decide)
    have hs1 : EqS ((wo σ1 81 0 6 (fun i => σ1 76 (115 + i))) 76) s := fun q hq => by rw [wo_oth (by omega)]; exact hM2.1.1 q hq
    have hw0 : (wo σ1 81 0 6 (fun i => σ1 76 (115 + i))) 76 0 = nI n := by rw [hs1 0 (by omega), hg.2.2.1]
    obtain ⟨σ3, d1, d2⟩ := m_lays (n := n) hw0 h1 hn
    have d3 := m_lowest (σ := wo σ1 81 0 6 (fun i => σ1 76 (115 + i))) (σ1 := σ3) (n := n) (k := i) (X := vS s 115) hw0 hX (fun i hi => by rw [d2.1.at (by decide)]; exact m_w81 hM2.1.1 i hi) (d2.1.at (by decide)) ⟨_, d2⟩ hi
    rw [tbX hs1 (by omega), tbX hs1 (by omega)] at d2 d3
    refine Or.inl ⟨nI ((symQ n (tS s 37) (tS s 73) (vS s 115) (fac n)).2 i), σ1, si σ3 75 6 0, ?_, ?_, si_hit, Iv_75 (Iv_lt (Iv_fr H2 fr_81 (by decide) (by decide)) d2) (by decide) (by decide)⟩
    · unfold f_X8_representative
      rw [rq_yes hc0 hn hi]
      simp only [obs, Sum.elim_inr]
      rw [show 0 + 54 = 54 from rfl, show 0 + 1 = 1 from rfl, show 1 + 5 = 6 from rfl, a1]
      simp only [obs]
      rw [show 54 + 1 = 55 from rfl, it_55 (by omega)]
      simp only [obs]
      rw [a4 i hi]
    · show f_X9_representative σ1 75 (nI i) = _
      unfold f_X9_representative
      rw [one_yes (by rw [a2.at (by decide)]; exact hm0) hn hi]
      simp only [obs]
      rw [if_neg (by decide), m_looks]
      simp only [obs]
      rw [d1]
      simp only [obs]
      rw [d3]
      rfl
