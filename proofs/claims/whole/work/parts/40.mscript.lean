-- the model's reader
def MR (T : Nat) (tx : Nat → Nat) (σ : Sg) (p : Nat) : Prop := T ≤ 120 ∧ (∀ i, i < T → 32 ≤ tx i ∧ tx i ≤ 126) ∧ (∀ i, i < T → σ 79 i = nI (tx i)) ∧ σ 75 5 = nI T ∧ σ 75 24 = nI p ∧ p ≤ T
def MK (σ σ' : Sg) : Prop := (∀ x, x ≠ 75 → x ≠ 95 → σ' x = σ x) ∧ ∀ j, j ≠ 24 → j ≠ 25 → σ' 75 j = σ 75 j
theorem MK.rf {σ : Sg} : MK σ σ := ⟨fun _ _ _ => rfl, fun _ _ _ => rfl⟩
theorem MK.tr {σ σ1 σ2 : Sg} (h : MK σ σ1) (h2 : MK σ1 σ2) : MK σ σ2 := ⟨fun x a b => (h2.1 x a b).trans (h.1 x a b), fun j a b => (h2.2 j a b).trans (h.2 j a b)⟩
theorem MK.s24 {σ σ1 : Sg} {x : Int32} (h : MK σ σ1) : MK σ (si σ1 75 24 x) := ⟨fun q a b => by rw [si_oth (by omega)]; exact h.1 q a b, fun j a b => by rw [si_miss (by omega)]; exact h.2 j a b⟩
theorem MK.s25 {σ σ1 : Sg} {x : Int32} (h : MK σ σ1) : MK σ (si σ1 75 25 x) := ⟨fun q a b => by rw [si_oth (by omega)]; exact h.1 q a b, fun j a b => by rw [si_miss (by omega)]; exact h.2 j a b⟩
theorem MK.s95 {σ σ1 : Sg} {j : Nat} {x : Int32} (h : MK σ σ1) : MK σ (si σ1 95 j x) := ⟨fun q a b => by rw [si_oth (by omega)]; exact h.1 q a b, fun j a b => by rw [si_oth (by omega)]; exact h.2 j a b⟩
theorem MR_to {T : Nat} {tx : Nat → Nat} {σ σ' : Sg} {p q : Nat} (h : MR T tx σ p) (k : MK σ σ') (e : σ' 75 24 = nI q) (hq : q ≤ T) : MR T tx σ' q := by
  obtain ⟨h1, h2, h3, h4, h5, h6⟩ := h
  exact ⟨h1, h2, fun i hi => by rw [k.1 79 (by omega) (by omega), h3 i hi], by rw [k.2 5 (by omega) (by omega), h4], e, hq⟩
theorem m_at {T : Nat} {tx : Nat → Nat} {σ : Sg} {p a b : Nat} (h : MR T tx σ p) (hab : a < 1000 ∧ b < 1000) : f_X9_isAt σ 75 (nI a) (nI b) = some (if p < T ∧ a ≤ tx p ∧ tx p ≤ b then 1 else 0) := by
  obtain ⟨h1, h2, h3, h4, h5, h6⟩ := h
  unfold f_X9_isAt
  rw [h4, h5]
  by_cases c : p < T
  · have := h2 p c
    rw [if_neg (nI_ge c (by omega)), show 75 + 4 = 79 from rfl, a_79 (by omega), h3 p c]
    simp only [obs]
    by_cases c2 : a ≤ tx p ∧ tx p ≤ b
    · rw [in_yes c2.1 c2.2 (by omega)]
      simp only [obs]
      rw [if_neg (show ¬ (1 : Int32) = 0 by decide)]
      exact congrArg some (if_pos ⟨c, c2⟩).symm
    · have hn : nI (tx p) < nI a ∨ nI b < nI (tx p) := by
        by_cases c3 : tx p < a
        · exact Or.inl (nI_lt c3 (by omega))
        · exact Or.inr (nI_lt (by omega) (by omega))
      rw [in_no hn]
      refine Eq.trans (b := some (0 : Int32)) rfl ?_
      exact congrArg some (if_neg (fun z => c2 z.2)).symm
  · rw [if_pos (nI_le (by omega) (by omega))]
    exact congrArg some (if_neg (fun z => c z.1)).symm
theorem m_skips {T : Nat} {tx : Nat → Nat} {σ : Sg} {p : Nat} (h : MR T tx σ p) : f_X9_skips σ 75 = some (if p < sp T tx p then 1 else 0, si σ 75 24 (nI (sp T tx p))) := by
  have hT := h.1
  have key : ∀ f p, f = T - p → p ≤ T → lo (f_X9_skips_L5 75) (si σ 75 24 (nI p)) = some (si σ 75 24 (nI (spF T tx f p))) := by
    intro f
    induction f with
    | zero =>
      intro p hf hp
      have hr := MR_to h (MK.rf.s24 (x := nI p)) si_hit hp
      refine lo_inr ?_
      unfold f_X9_skips_L5
      rw [show (32 : Int32) = nI 32 from rfl, m_at hr (by omega), if_neg (by omega)]
      rfl
    | succ f ih =>
      intro p hf hp
      have hr := MR_to h (MK.rf.s24 (x := nI p)) si_hit hp
      unfold spF
      by_cases c : tx p = 32
      · rw [if_pos ⟨by omega, c⟩, lo_inl (s' := si σ 75 24 (nI (p + 1))) ?_, ih (p + 1) (by omega) (by omega)]
        unfold f_X9_skips_L5
        rw [show (32 : Int32) = nI 32 from rfl, m_at hr (by omega), if_pos (by omega)]
        simp only [obs]
        rw [if_neg (by decide), si_hit, si_si, nI_s]
      · rw [if_neg (fun z => c z.2)]
        refine lo_inr ?_
        unfold f_X9_skips_L5
        rw [show (32 : Int32) = nI 32 from rfl, m_at hr (by omega), if_neg (by omega)]
        rfl
  have hs := sp_ok (tx := tx) h.2.2.2.2.2
  unfold f_X9_skips
  have := key (T - p) p rfl h.2.2.2.2.2
  rw [si_same h.2.2.2.2.1] at this
  rw [this]
  simp only [obs]
  rw [si_hit, h.2.2.2.2.1]
  show (if nI (sp T tx p) ≤ nI p then _ else _) = _
  by_cases c : p < sp T tx p
  · rw [if_neg (nI_ge c (by omega)), if_pos c]
    rfl
  · rw [if_pos (nI_le (by omega) (by omega)), if_neg c]
    rfl
theorem MR_d {T : Nat} {tx : Nat → Nat} {σ : Sg} {p : Nat} (h : MR T tx σ p) : f_X9_isAt σ 75 (48 : Int32) (57 : Int32) = some (if dg T tx p = true then 1 else 0) := by
  rw [show (48 : Int32) = nI 48 from rfl, show (57 : Int32) = nI 57 from rfl, m_at h (by omega)]
  by_cases c : dg T tx p = true
  · rw [if_pos (dg_t c), if_pos c]
  · rw [if_neg (dg_f c), if_neg c]
/-- one more digit -/
theorem m_dstep {T : Nat} {tx : Nat → Nat} {σ σ1 : Sg} {p q k x : Nat} (h : MR T tx σ p) (h1 : MR T tx σ1 q) (hk : k < 3) (hd : dg T tx q = true) (hq : p ≤ q ∧ q < p + 2) (hx : σ1 95 k = nI x) (hxx : x ≤ 9) : f_X9_isNumber_L12 75 σ (nI k) σ1 = some (.inl (si (si σ1 95 k (nI (10 * x + (tx q - 48)))) 75 24 (nI (q + 1)))) := by
  have hT := h.1
  have hh := dg_t hd
  unfold f_X9_isNumber_L12
  rw [MR_d h1, if_pos hd]
  simp only [obs]
  rw [if_neg (by decide), h1.2.2.2.2.1, h.2.2.2.2.1]
  have e79 := h1.2.2.1 q hh.1
  simp (disch := omega) only [if_true, if_false, obs, Option.bind_none, Sum.elim_inl, Sum.elim_inr, Option.elim, Nat.reduceAdd, Nat.add_zero, Nat.zero_add, ile, igt, ilt, inl, ieq, ine, iq10, i1z, im1, im11, iml, imle, inm, nI_1, nI_add, isub1, isb, iaddm, pk_mul, si_hit, si_miss, si_oth, wo_oth, zl_0, zl_2, zl_3, zl_4, zl_5, zl_6, zl_7, zl_9, zl_10, zl_32, zl_35, zl_36, zl_48, zl_57, zl_59, zl_60, zl_61, zl_62, zl_63, zl_64, zl_65, zl_99, zl_100, zl_102, zl_109, zl_110, zl_115, zl_116, zl_119, zl_120, zl_121, zl_126, zl_605, zl_720, zl_1957, zl_1000000, a_2, a_3, a_4, a_5, a_6, a_46, a_47, a_55, a_56, a_58, a_68, a_69, a_70, a_73, a_74, a_76, a_77, a_78, a_79, a_80, a_81, a_82, a_83, a_84, a_85, a_86, a_87, a_88, a_89, a_90, a_91, a_92, a_93, a_94, a_95, s_2, s_3, s_4, s_5, s_6, s_46, s_47, s_55, s_56, s_58, s_68, s_69, s_70, s_73, s_74, s_76, s_77, s_78, s_79, s_80, s_81, s_82, s_83, s_84, s_85, s_86, s_87, s_88, s_89, s_90, s_91, s_92, s_93, s_94, s_95, it_5, it_6, it_46, it_47, it_50, it_53, it_55, it_56, it_58, it_63, it_66, it_68, it_69, it_70, it_71, it_74, it_97, se_5, se_6, se_46, se_47, se_50, se_53, se_55, se_56, se_58, se_63, se_66, se_68, se_69, se_70, se_71, se_74, se_97, at_2, at_3, at_4, at_49, at_51, at_52, at_62, at_64, at_65, pu_2, pu_3, pu_4, pu_49, pu_51, pu_52, pu_62, pu_64, pu_65, hx, e79]
  rw [show 10 * x + tx q - 48 = 10 * x + (tx q - 48) by omega]
  rw [h1.2.2.2.2.1, nI_1]
theorem m_num {T : Nat} {tx : Nat → Nat} {σ : Sg} {p k : Nat} (h : MR T tx σ p) (hk : k < 3) : ∃ σ', f_X9_isNumber σ 75 (nI k) = some (if dg T tx p = true then 1 else 0, σ') ∧ MK σ σ' ∧ MR T tx σ' (if dg T tx p = true then nend T tx p else p) ∧ σ' 75 25 = σ 75 25 ∧ (∀ j, j ≠ k → σ' 95 j = σ 95 j) ∧ (dg T tx p = true → σ' 95 k = nI (nval T tx p)) := by
  have hT := h.1
  unfold f_X9_isNumber
  simp (disch := omega) only [if_true, if_false, obs, Option.bind_none, Sum.elim_inl, Sum.elim_inr, Option.elim, Nat.reduceAdd, Nat.add_zero, Nat.zero_add, ile, igt, ilt, inl, ieq, ine, iq10, i1z, im1, im11, iml, imle, inm, nI_1, nI_add, isub1, isb, iaddm, pk_mul, si_hit, si_miss, si_oth, wo_oth, zl_0, zl_2, zl_3, zl_4, zl_5, zl_6, zl_7, zl_9, zl_10, zl_32, zl_35, zl_36, zl_48, zl_57, zl_59, zl_60, zl_61, zl_62, zl_63, zl_64, zl_65, zl_99, zl_100, zl_102, zl_109, zl_110, zl_115, zl_116, zl_119, zl_120, zl_121, zl_126, zl_605, zl_720, zl_1957, zl_1000000, a_2, a_3, a_4, a_5, a_6, a_46, a_47, a_55, a_56, a_58, a_68, a_69, a_70, a_73, a_74, a_76, a_77, a_78, a_79, a_80, a_81, a_82, a_83, a_84, a_85, a_86, a_87, a_88, a_89, a_90, a_91, a_92, a_93, a_94, a_95, s_2, s_3, s_4, s_5, s_6, s_46, s_47, s_55, s_56, s_58, s_68, s_69, s_70, s_73, s_74, s_76, s_77, s_78, s_79, s_80, s_81, s_82, s_83, s_84, s_85, s_86, s_87, s_88, s_89, s_90, s_91, s_92, s_93, s_94, s_95, it_5, it_6, it_46, it_47, it_50, it_53, it_55, it_56, it_58, it_63, it_66, it_68, it_69, it_70, it_71, it_74, it_97, se_5, se_6, se_46, se_47, se_50, se_53, se_55, se_56, se_58, se_63, se_66, se_68, se_69, se_70, se_71, se_74, se_97, at_2, at_3, at_4, at_49, at_51, at_52, at_62, at_64, at_65, pu_2, pu_3, pu_4, pu_49, pu_51, pu_52, pu_62, pu_64, pu_65]
  have k0 : MK σ (si σ 95 k (nI 0)) := MK.rf.s95
  have h0 : MR T tx (si σ 95 k (nI 0)) p := MR_to h k0 (by rw [si_oth (by omega)]; exact h.2.2.2.2.1) h.2.2.2.2.2
  by_cases c : dg T tx p = true
  · have hd := dg_t c
    have s1 := m_dstep h h0 hk c ⟨Nat.le_refl p, by omega⟩ si_hit (by omega)
    rw [Nat.mul_zero, Nat.zero_add] at s1
    generalize hσ1 : si (si (si σ 95 k (nI 0)) 95 k (nI (tx p - 48))) 75 24 (nI (p + 1)) = σ1 at s1
    have k1 : MK σ σ1 := by rw [← hσ1]; exact k0.s95.s24
    have h1 : MR T tx σ1 (p + 1) := MR_to h k1 (by rw [← hσ1, si_hit]) (by omega)
    have x1 : σ1 95 k = nI (tx p - 48) := by rw [← hσ1, si_oth (by omega), si_hit]
    have o1 : ∀ j, j ≠ k → σ1 95 j = σ 95 j := fun j hj => by rw [← hσ1, si_oth (by omega), si_miss hj, si_miss hj]
    have t1 : σ1 75 25 = σ 75 25 := by rw [← hσ1, si_miss (by omega), si_oth (by omega), si_oth (by omega)]
    unfold nend nval
    rw [if_pos c, if_pos c, lo_inl s1]
    by_cases c2 : dg T tx (p + 1) = true
    · have hd2 := dg_t c2
      have s2 := m_dstep h h1 hk c2 ⟨by omega, by omega⟩ x1 (by omega)
      generalize hσ2 : si (si σ1 95 k (nI (10 * (tx p - 48) + (tx (p + 1) - 48)))) 75 24 (nI (p + 1 + 1)) = σ2 at s2
      have k2 : MK σ σ2 := by rw [← hσ2]; exact k1.s95.s24
      have h2 : MR T tx σ2 (p + 1 + 1) := MR_to h k2 (by rw [← hσ2, si_hit]) (by omega)
      have s3 : f_X9_isNumber_L12 75 σ (nI k) σ2 = some (.inr σ2) := by
        unfold f_X9_isNumber_L12
        rw [MR_d h2]
        by_cases c3 : dg T tx (p + 1 + 1) = true
        · rw [if_pos c3]
          simp only [obs]
          rw [if_neg (by decide), h2.2.2.2.2.1, h.2.2.2.2.1]
          simp (disch := omega) only [if_true, if_false, obs, Option.bind_none, Sum.elim_inl, Sum.elim_inr, Option.elim, Nat.reduceAdd, Nat.add_zero, Nat.zero_add, ile, igt, ilt, inl, ieq, ine, iq10, i1z, im1, im11, iml, imle, inm, nI_1, nI_add, isub1, isb, iaddm, pk_mul, si_hit, si_miss, si_oth, wo_oth, zl_0, zl_2, zl_3, zl_4, zl_5, zl_6, zl_7, zl_9, zl_10, zl_32, zl_35, zl_36, zl_48, zl_57, zl_59, zl_60, zl_61, zl_62, zl_63, zl_64, zl_65, zl_99, zl_100, zl_102, zl_109, zl_110, zl_115, zl_116, zl_119, zl_120, zl_121, zl_126, zl_605, zl_720, zl_1957, zl_1000000, a_2, a_3, a_4, a_5, a_6, a_46, a_47, a_55, a_56, a_58, a_68, a_69, a_70, a_73, a_74, a_76, a_77, a_78, a_79, a_80, a_81, a_82, a_83, a_84, a_85, a_86, a_87, a_88, a_89, a_90, a_91, a_92, a_93, a_94, a_95, s_2, s_3, s_4, s_5, s_6, s_46, s_47, s_55, s_56, s_58, s_68, s_69, s_70, s_73, s_74, s_76, s_77, s_78, s_79, s_80, s_81, s_82, s_83, s_84, s_85, s_86, s_87, s_88, s_89, s_90, s_91, s_92, s_93, s_94, s_95, it_5, it_6, it_46, it_47, it_50, it_53, it_55, it_56, it_58, it_63, it_66, it_68, it_69, it_70, it_71, it_74, it_97, se_5, se_6, se_46, se_47, se_50, se_53, se_55, se_56, se_58, se_63, se_66, se_68, se_69, se_70, se_71, se_74, se_97, at_2, at_3, at_4, at_49, at_51, at_52, at_62, at_64, at_65, pu_2, pu_3, pu_4, pu_49, pu_51, pu_52, pu_62, pu_64, pu_65]
        · rw [if_neg c3]
          rfl
      rw [if_pos c2, if_pos c2, lo_inl s2, lo_inr s3]
      simp only [obs]
      rw [h2.2.2.2.2.1, h.2.2.2.2.1, if_neg (nI_ge (by omega) (by omega))]
      exact ⟨σ2, rfl, k2, h2, by rw [← hσ2, si_miss (by omega), si_oth (by omega)]; exact t1, fun j hj => by rw [← hσ2, si_oth (by omega), si_miss hj]; exact o1 j hj, fun _ => by rw [← hσ2, si_oth (by omega), si_hit]⟩
    · have s3 : f_X9_isNumber_L12 75 σ (nI k) σ1 = some (.inr σ1) := by
        unfold f_X9_isNumber_L12
        rw [MR_d h1, if_neg c2]
        rfl
      rw [if_neg c2, if_neg c2, lo_inr s3]
      simp only [obs]
      rw [h1.2.2.2.2.1, h.2.2.2.2.1, if_neg (nI_ge (by omega) (by omega))]
      exact ⟨σ1, rfl, k1, h1, t1, o1, fun _ => x1⟩
  · have s3 : f_X9_isNumber_L12 75 σ (nI k) (si σ 95 k (nI 0)) = some (.inr (si σ 95 k (nI 0))) := by
      unfold f_X9_isNumber_L12
      rw [MR_d h0, if_neg c]
      rfl
    rw [lo_inr s3, if_neg c]
    simp only [obs]
    have hp := h.2.2.2.2.2
    rw [h0.2.2.2.2.1, h.2.2.2.2.1, if_pos (nI_le (Nat.le_refl _) (by omega))]
    exact ⟨_, rfl, k0, by rw [if_neg c]; exact h0, by rw [si_oth (by omega)], fun j hj => by rw [si_miss hj], fun z => absurd z c⟩
/-- the loop over the numbers and what follows it -/
noncomputable def LTt (σ : Sg) (k : Nat) : Option (Int32 × Sg) := (lo (f_X9_isCommand_L77 75) (nI k, σ)).bind (Sum.elim (fun e17 => some ((0 : Int32), e17)) (fun e18 => (f_X9_skips e18 75).bind fun v19 => (f_X9_isAt v19.2 75 ((59 : Int32)) ((59 : Int32))).bind fun v20 => if v20 = (0 : Int32) then (some ((0 : Int32), v19.2)) else (some ((1 : Int32), (si v19.2 75 24 ((v19.2 75 24) + (1 : Int32)))))))
def MW (T : Nat) (tx : Nat → Nat) (σ σ' : Sg) (z : Option (Nat × Nat × Nat × Nat) × Nat) : Prop := MR T tx σ' z.2 ∧ MK σ σ' ∧ ∀ w a b v, z.1 = some (w, a, b, v) → σ' 75 25 = nI w ∧ σ' 95 0 = nI a ∧ σ' 95 1 = nI b ∧ σ' 95 2 = nI v
theorem LT3 {T : Nat} {tx : Nat → Nat} {σ0 σ : Sg} {w a b v p : Nat} (h : MR T tx σ p) (hk : MK σ0 σ) (e1 : σ 75 25 = nI w) (e2 : σ 95 0 = nI a) (e3 : σ 95 1 = nI b) (e4 : σ 95 2 = nI v) : ∃ σ', LTt σ 3 = some (if (cm4 T tx w a b v p).1.isSome = true then 1 else 0, σ') ∧ MW T tx σ0 σ' (cm4 T tx w a b v p) := by
  obtain ⟨p1, p2, p3⟩ := sp_ok (tx := tx) h.2.2.2.2.2
  have hT := h.1
  unfold LTt
  rw [lo_inr (show f_X9_isCommand_L77 75 (nI 3, σ) = some (.inr (.inr σ)) by
    unfold f_X9_isCommand_L77
    exact if_pos (show (3 : Int32) ≤ nI 3 by decide))]
  simp only [obs, Sum.elim_inr]
  rw [m_skips h]
  simp only [obs]
  have hq := MR_to h (MK.rf.s24 (x := nI (sp T tx p))) si_hit p2
  rw [show (59 : Int32) = nI 59 from rfl, m_at hq (by omega)]
  simp only [obs]
  unfold cm4 chr
  by_cases c : sp T tx p < T
  · rw [if_pos c]
    by_cases c2 : tx (sp T tx p) = 59
    · rw [if_pos (show sp T tx p < T ∧ 59 ≤ tx (sp T tx p) ∧ tx (sp T tx p) ≤ 59 by omega), if_pos c2, if_neg (by decide), si_hit, si_si, nI_s]
      refine ⟨_, rfl, MR_to h (MK.rf.s24 (x := nI (sp T tx p + 1))) si_hit c, hk.s24, fun w' a' b' v' z => ?_⟩
      cases z
      refine ⟨?_, ?_, ?_, ?_⟩
      · rw [si_miss (by omega), e1]
      · rw [si_oth (by omega), e2]
      · rw [si_oth (by omega), e3]
      · rw [si_oth (by omega), e4]
    · rw [if_neg (show ¬ (sp T tx p < T ∧ 59 ≤ tx (sp T tx p) ∧ tx (sp T tx p) ≤ 59) by omega), if_neg c2, if_pos rfl]
      exact ⟨_, rfl, hq, hk.s24, fun _ _ _ _ z => by cases z⟩
  · rw [if_neg c, if_neg (show ¬ (sp T tx p < T ∧ 59 ≤ tx (sp T tx p) ∧ tx (sp T tx p) ≤ 59) by omega), if_neg (show ¬ (0 : Nat) = 59 by omega), if_pos rfl]
    exact ⟨_, rfl, hq, hk.s24, fun _ _ _ _ z => by cases z⟩
theorem LT_0n {T : Nat} {tx : Nat → Nat} {σ : Sg} {p : Nat} (h : MR T tx σ p) (hd : ¬ dg T tx p = true) : ∃ σ', LTt σ 0 = some (0, σ') ∧ MR T tx σ' p ∧ MK σ σ' := by
  obtain ⟨σ1, r1, r2, r3, r4, r5, r6⟩ := m_num (k := 0) h (by omega)
  rw [if_neg hd] at r1 r3
  unfold LTt
  rw [lo_inr (show f_X9_isCommand_L77 75 (nI 0, σ) = some (.inr (.inl σ1)) by
    unfold f_X9_isCommand_L77 f_X9_isCommand_J93
    simp only
    rw [if_neg (by decide), if_pos (by decide), r1]
    rfl)]
  exact ⟨σ1, rfl, r3, r2⟩
theorem LT_0y {T : Nat} {tx : Nat → Nat} {σ : Sg} {p : Nat} (h : MR T tx σ p) (hd : dg T tx p = true) : ∃ σ', LTt σ 0 = LTt σ' 1 ∧ MR T tx σ' (nend T tx p) ∧ MK σ σ' ∧ σ' 75 25 = σ 75 25 ∧ σ' 95 0 = nI (nval T tx p) := by
  obtain ⟨σ1, r1, r2, r3, r4, r5, r6⟩ := m_num (k := 0) h (by omega)
  rw [if_pos hd] at r1 r3
  refine ⟨σ1, ?_, r3, r2, r4, r6 hd⟩
  unfold LTt
  rw [lo_inl (show f_X9_isCommand_L77 75 (nI 0, σ) = some (.inl (nI 1, σ1)) by
    unfold f_X9_isCommand_L77 f_X9_isCommand_J93
    simp only
    rw [if_neg (by decide), if_pos (by decide), r1]
    rfl)]
theorem LT_kn {T : Nat} {tx : Nat → Nat} {σ : Sg} {p k : Nat} (h : MR T tx σ p) (hk : k = 1 ∨ k = 2) (hd : ¬ (p < sp T tx p ∧ dg T tx (sp T tx p) = true)) : ∃ σ', LTt σ k = some (0, σ') ∧ MR T tx σ' (sp T tx p) ∧ MK σ σ' := by
  obtain ⟨p1, p2, p3⟩ := sp_ok (tx := tx) h.2.2.2.2.2
  have hq := MR_to h (MK.rf.s24 (x := nI (sp T tx p))) si_hit p2
  unfold LTt
  have c3 : ¬ (3 : Int32) ≤ nI k := nI_ge (b := 3) (by omega) (by omega)
  have c0 : ¬ nI k ≤ (0 : Int32) := nI_nle (by omega) (by omega)
  by_cases c : p < sp T tx p
  · have hd2 : ¬ dg T tx (sp T tx p) = true := fun z => hd ⟨c, z⟩
    obtain ⟨σ1, r1, r2, r3, r4, r5, r6⟩ := m_num (k := k) hq (by omega)
    rw [if_neg hd2] at r1 r3
    rw [lo_inr (show f_X9_isCommand_L77 75 (nI k, σ) = some (.inr (.inl σ1)) by
      unfold f_X9_isCommand_L77 f_X9_isCommand_J93
      simp only
      rw [if_neg c3, if_neg c0, m_skips h, if_pos c]
      simp only [obs]
      rw [if_neg (by decide), r1]
      rfl)]
    exact ⟨σ1, rfl, r3, MK.rf.s24.tr r2⟩
  · rw [lo_inr (show f_X9_isCommand_L77 75 (nI k, σ) = some (.inr (.inl (si σ 75 24 (nI (sp T tx p))))) by
      unfold f_X9_isCommand_L77
      simp only
      rw [if_neg c3, if_neg c0, m_skips h, if_neg c]
      rfl)]
    exact ⟨_, rfl, hq, MK.rf.s24⟩
theorem LT_ky {T : Nat} {tx : Nat → Nat} {σ : Sg} {p k : Nat} (h : MR T tx σ p) (hk : k = 1 ∨ k = 2) (c : p < sp T tx p) (hd : dg T tx (sp T tx p) = true) : ∃ σ', LTt σ k = LTt σ' (k + 1) ∧ MR T tx σ' (nend T tx (sp T tx p)) ∧ MK σ σ' ∧ σ' 75 25 = σ 75 25 ∧ σ' 95 k = nI (nval T tx (sp T tx p)) ∧ ∀ j, j ≠ k → σ' 95 j = σ 95 j := by
  obtain ⟨p1, p2, p3⟩ := sp_ok (tx := tx) h.2.2.2.2.2
  have hq := MR_to h (MK.rf.s24 (x := nI (sp T tx p))) si_hit p2
  have c3 : ¬ (3 : Int32) ≤ nI k := nI_ge (b := 3) (by omega) (by omega)
  have c0 : ¬ nI k ≤ (0 : Int32) := nI_nle (by omega) (by omega)
  obtain ⟨σ1, r1, r2, r3, r4, r5, r6⟩ := m_num (k := k) hq (by omega)
  rw [if_pos hd] at r1 r3
  refine ⟨σ1, ?_, r3, MK.rf.s24.tr r2, by rw [r4, si_miss (by omega)], r6 hd, fun j hj => by rw [r5 j hj, si_oth (by omega)]⟩
  unfold LTt
  rw [lo_inl (show f_X9_isCommand_L77 75 (nI k, σ) = some (.inl (nI (k + 1), σ1)) by
    unfold f_X9_isCommand_L77 f_X9_isCommand_J93
    simp only
    rw [if_neg c3, if_neg c0, m_skips h, if_pos c]
    simp only [obs]
    rw [if_neg (by decide), r1]
    simp only [obs]
    rw [if_neg (by decide), nI_s])]
theorem rn_n {T : Nat} {tx : Nat → Nat} {p : Nat} (h : ¬ dg T tx (sp T tx p) = true) : rn T tx p = (none, sp T tx p) := by
  unfold rn
  rw [if_neg h]
theorem rn_d {T : Nat} {tx : Nat → Nat} {p : Nat} (h : dg T tx (sp T tx p) = true) (h2 : dg T tx (nend T tx (sp T tx p)) = true) : rn T tx p = (none, nend T tx (sp T tx p)) := by
  unfold rn
  rw [if_pos h, if_pos h2]
theorem rn_v {T : Nat} {tx : Nat → Nat} {p : Nat} (h : dg T tx (sp T tx p) = true) (h2 : ¬ dg T tx (nend T tx (sp T tx p)) = true) : rn T tx p = (some (nval T tx (sp T tx p)), nend T tx (sp T tx p)) := by
  unfold rn
  rw [if_pos h, if_neg h2]
theorem sp_dg {T : Nat} {tx : Nat → Nat} {p : Nat} (h : dg T tx p = true) : sp T tx p = p := sp_ge (fun z => by have := dg_t h; omega)
theorem sp_mv {T : Nat} {tx : Nat → Nat} {p : Nat} (hp : p ≤ T) (h : ¬ dg T tx p = true) (h2 : dg T tx (sp T tx p) = true) : p < sp T tx p := by
  have := (sp_ok (tx := tx) hp).1
  by_cases c : sp T tx p = p
  · rw [c] at h2
    exact absurd h2 h
  · omega
theorem LT2 {T : Nat} {tx : Nat → Nat} {σ0 σ : Sg} {w a b p : Nat} (h : MR T tx σ p) (hd : ¬ dg T tx p = true) (hk : MK σ0 σ) (e1 : σ 75 25 = nI w) (e2 : σ 95 0 = nI a) (e3 : σ 95 1 = nI b) : ∃ σ', LTt σ 2 = some (if (cm3 T tx w a b p).1.isSome = true then 1 else 0, σ') ∧ MW T tx σ0 σ' (cm3 T tx w a b p) := by
  unfold cm3
  by_cases c : dg T tx (sp T tx p) = true
  · obtain ⟨σ1, r1, r2, r3, r4, r5, r6⟩ := LT_ky (k := 2) h (Or.inr rfl) (sp_mv h.2.2.2.2.2 hd c) c
    obtain ⟨σ2, s1, s2, s3, s4⟩ := LT3 (w := w) (a := a) (b := b) (v := nval T tx (sp T tx p)) r2 (hk.tr r3) (by rw [r4, e1]) (by rw [r6 0 (by omega), e2]) (by rw [r6 1 (by omega), e3]) r5
    by_cases c2 : dg T tx (nend T tx (sp T tx p)) = true
    · rw [rn_d c c2]
      have hsp := sp_dg c2
      have hh := dg_t c2
      have e : cm4 T tx w a b (nval T tx (sp T tx p)) (nend T tx (sp T tx p)) = (none, nend T tx (sp T tx p)) := by
        unfold cm4 chr
        rw [hsp, if_pos hh.1, if_neg (by omega)]
      rw [e] at s1 s2 s4
      exact ⟨σ2, by rw [r1, s1], s2, s3, fun _ _ _ _ z => by cases z⟩
    · rw [rn_v c c2]
      exact ⟨σ2, by rw [r1, s1], s2, s3, s4⟩
  · obtain ⟨σ1, r1, r2, r3⟩ := LT_kn (k := 2) h (Or.inr rfl) (fun z => c z.2)
    rw [rn_n c]
    exact ⟨σ1, r1, r2, hk.tr r3, fun _ _ _ _ z => by cases z⟩
theorem LT_dg {T : Nat} {tx : Nat → Nat} {σ : Sg} {p k : Nat} (h : MR T tx σ p) (hk : k = 1 ∨ k = 2) (hd : dg T tx p = true) : ∃ σ', LTt σ k = some (0, σ') ∧ MR T tx σ' p ∧ MK σ σ' := by
  obtain ⟨σ1, r1, r2, r3⟩ := LT_kn (k := k) h hk (fun z => by have := sp_dg hd; omega)
  rw [sp_dg hd] at r2
  exact ⟨σ1, r1, r2, r3⟩
theorem LT1 {T : Nat} {tx : Nat → Nat} {σ0 σ : Sg} {w a p : Nat} (h : MR T tx σ p) (hd : ¬ dg T tx p = true) (hk : MK σ0 σ) (e1 : σ 75 25 = nI w) (e2 : σ 95 0 = nI a) : ∃ σ', LTt σ 1 = some (if (cm2 T tx w a p).1.isSome = true then 1 else 0, σ') ∧ MW T tx σ0 σ' (cm2 T tx w a p) := by
  unfold cm2
  by_cases c : dg T tx (sp T tx p) = true
  · obtain ⟨σ1, r1, r2, r3, r4, r5, r6⟩ := LT_ky (k := 1) h (Or.inl rfl) (sp_mv h.2.2.2.2.2 hd c) c
    by_cases c2 : dg T tx (nend T tx (sp T tx p)) = true
    · obtain ⟨σ2, s1, s2, s3⟩ := LT_dg (k := 2) r2 (Or.inr rfl) c2
      rw [rn_d c c2]
      exact ⟨σ2, by rw [r1, s1]; rfl, s2, hk.tr (r3.tr s3), fun _ _ _ _ z => by cases z⟩
    · rw [rn_v c c2]
      obtain ⟨σ2, s1, s2⟩ := LT2 (w := w) (a := a) (b := nval T tx (sp T tx p)) r2 c2 (hk.tr r3) (by rw [r4, e1]) (by rw [r6 0 (by omega), e2]) r5
      exact ⟨σ2, by rw [r1]; exact s1, s2⟩
  · obtain ⟨σ1, r1, r2, r3⟩ := LT_kn (k := 1) h (Or.inl rfl) (fun z => c z.2)
    rw [rn_n c]
    exact ⟨σ1, r1, r2, hk.tr r3, fun _ _ _ _ z => by cases z⟩
theorem LT0 {T : Nat} {tx : Nat → Nat} {σ0 σ : Sg} {w p : Nat} (h : MR T tx σ (sp T tx p)) (hk : MK σ0 σ) (e1 : σ 75 25 = nI w) : ∃ σ', LTt σ 0 = some (if (cm1 T tx w p).1.isSome = true then 1 else 0, σ') ∧ MW T tx σ0 σ' (cm1 T tx w p) := by
  unfold cm1
  by_cases c : dg T tx (sp T tx p) = true
  · obtain ⟨σ1, r1, r2, r3, r4, r5⟩ := LT_0y h c
    by_cases c2 : dg T tx (nend T tx (sp T tx p)) = true
    · obtain ⟨σ2, s1, s2, s3⟩ := LT_dg (k := 1) r2 (Or.inl rfl) c2
      rw [rn_d c c2]
      exact ⟨σ2, by rw [r1, s1]; rfl, s2, hk.tr (r3.tr s3), fun _ _ _ _ z => by cases z⟩
    · rw [rn_v c c2]
      obtain ⟨σ2, s1, s2⟩ := LT1 (w := w) (a := nval T tx (sp T tx p)) r2 c2 (hk.tr r3) (by rw [r4, e1]) r5
      exact ⟨σ2, by rw [r1]; exact s1, s2⟩
  · obtain ⟨σ1, r1, r2, r3⟩ := LT_0n h c
    rw [rn_n c]
    exact ⟨σ1, r1, r2, hk.tr r3, fun _ _ _ _ z => by cases z⟩
theorem m_47 {T : Nat} {tx : Nat → Nat} {σ : Sg} {w p : Nat} (h : MR T tx σ p) (hp : p < T) (hw : w ≤ 2) : ∃ σ', f_X9_isCommand_J47 75 (nI w) σ = some (if (cm1 T tx w (p + 1)).1.isSome = true then 1 else 0, σ') ∧ MW T tx σ σ' (cm1 T tx w (p + 1)) := by
  unfold f_X9_isCommand_J47
  rw [si_hit, if_neg (nI_m1 (by omega))]
  have k1 : MK σ (si (si σ 75 25 (nI w)) 75 24 (nI (p + 1))) := MK.rf.s25.s24
  have h1 : MR T tx (si (si σ 75 25 (nI w)) 75 24 (nI (p + 1))) (p + 1) := MR_to h k1 si_hit hp
  have e24 : (si σ 75 25 (nI w)) 75 24 = nI p := by rw [si_miss (by omega), h.2.2.2.2.1]
  rw [e24, nI_s, m_skips h1]
  simp only [obs]
  have hs := sp_ok (tx := tx) h1.2.2.2.2.2
  have k2 : MK σ (si (si (si σ 75 25 (nI w)) 75 24 (nI (p + 1))) 75 24 (nI (sp T tx (p + 1)))) := k1.s24
  exact LT0 (MR_to h k2 si_hit hs.2.1) k2 (by rw [si_miss (by omega), si_miss (by omega), si_hit])
theorem cmd_w {T : Nat} {tx : Nat → Nat} {p w : Nat} (hp : p < T) (h : ltr (tx p) = some w) : cmd T tx p = cm1 T tx w (p + 1) := by
  unfold cmd
  rw [show chr T tx p = tx p from if_pos hp, h]
theorem cmd_n {T : Nat} {tx : Nat → Nat} {p : Nat} (h : ltr (chr T tx p) = none) : cmd T tx p = (none, p) := by
  unfold cmd
  rw [h]
theorem m_command {T : Nat} {tx : Nat → Nat} {σ : Sg} {p : Nat} (h : MR T tx σ p) : ∃ σ', f_X9_isCommand σ 75 = some (if (cmd T tx p).1.isSome = true then 1 else 0, σ') ∧ MW T tx σ σ' (cmd T tx p) := by
  unfold f_X9_isCommand
  rw [show (102 : Int32) = nI 102 from rfl, show (100 : Int32) = nI 100 from rfl, show (99 : Int32) = nI 99 from rfl, m_at h (by omega), m_at h (by omega), m_at h (by omega)]
  have neg : ∃ σ', f_X9_isCommand_J47 75 (-1) σ = some (0, σ') ∧ MW T tx σ σ' (none, p) := by
    unfold f_X9_isCommand_J47
    rw [si_hit, if_pos rfl]
    exact ⟨_, rfl, MR_to h MK.rf.s25 (by rw [si_miss (by omega), h.2.2.2.2.1]) h.2.2.2.2.2, MK.rf.s25, fun _ _ _ _ z => by cases z⟩
  simp only [obs]
  by_cases c : p < T
  · by_cases c1 : tx p = 102
    · rw [if_pos (show p < T ∧ 102 ≤ tx p ∧ tx p ≤ 102 by omega), if_neg (show ¬ (1 : Int32) = 0 by decide), cmd_w c (w := 0) (by rw [c1]; rfl)]
      exact m_47 (w := 0) h c (by omega)
    · rw [if_neg (show ¬ (p < T ∧ 102 ≤ tx p ∧ tx p ≤ 102) by omega), if_pos rfl]
      by_cases c2 : tx p = 100
      · rw [if_pos (show p < T ∧ 100 ≤ tx p ∧ tx p ≤ 100 by omega), if_neg (show ¬ (1 : Int32) = 0 by decide), cmd_w c (w := 1) (by rw [c2]; rfl)]
        exact m_47 (w := 1) h c (by omega)
      · rw [if_neg (show ¬ (p < T ∧ 100 ≤ tx p ∧ tx p ≤ 100) by omega), if_pos rfl]
        by_cases c3 : tx p = 99
        · rw [if_pos (show p < T ∧ 99 ≤ tx p ∧ tx p ≤ 99 by omega), if_neg (show ¬ (1 : Int32) = 0 by decide), cmd_w c (w := 2) (by rw [c3]; rfl)]
          exact m_47 (w := 2) h c (by omega)
        · rw [if_neg (show ¬ (p < T ∧ 99 ≤ tx p ∧ tx p ≤ 99) by omega), if_pos rfl, cmd_n (by
            rw [show chr T tx p = tx p from if_pos c]
            unfold ltr
            rw [if_neg c3, if_neg c2, if_neg c1])]
          exact neg
  · rw [if_neg (show ¬ (p < T ∧ 102 ≤ tx p ∧ tx p ≤ 102) by omega), if_neg (show ¬ (p < T ∧ 100 ≤ tx p ∧ tx p ≤ 100) by omega), if_neg (show ¬ (p < T ∧ 99 ≤ tx p ∧ tx p ≤ 99) by omega), if_pos rfl, if_pos rfl, if_pos rfl, cmd_n (by rw [show chr T tx p = 0 from if_neg c]; rfl)]
    exact neg
theorem m_faultOf {T : Nat} {tx : Nat → Nat} {σ : Sg} {p : Nat} (h : MR T tx σ p) : ∃ σ', f_X9_faultOf σ 75 = some (oI (scn T tx 120 0), σ') ∧ MK σ σ' := by
  have hT := h.1
  have key : ∀ f p σ1, T ≤ p + f → p ≤ T → MR T tx σ1 (sp T tx p) → MK σ σ1 → ∃ e, lo (f_X9_faultOf_L10 75) σ1 = some e ∧ ∃ σ', Sum.elim (fun e8 => some ((e8 75 24), e8)) (fun e9 => some ((-1 : Int32), e9)) e = some (oI (scn T tx f p), σ') ∧ MK σ σ' := by
    intro f
    induction f with
    | zero =>
      intro p σ1 hf hp hR hK
      have hs := sp_ok (tx := tx) hp
      refine ⟨.inr σ1, lo_inr ?_, σ1, rfl, hK⟩
      unfold f_X9_faultOf_L10
      rw [hR.2.2.2.1, hR.2.2.2.2.1, if_pos (nI_le (by omega) (by omega))]
    | succ f ih =>
      intro p σ1 hf hp hR hK
      have hs := sp_ok (tx := tx) hp
      unfold scn
      by_cases c : sp T tx p < T
      · rw [if_pos c]
        obtain ⟨σ2, r1, r2, r3, r4⟩ := m_command hR
        have hst : ∀ x, f_X9_isCommand σ1 75 = some x → f_X9_faultOf_L10 75 σ1 = if x.1 = (0 : Int32) then (some (.inr (.inl x.2))) else ((f_X9_skips x.2 75).bind fun v4 => some (.inl v4.2)) := fun x hx => by
          unfold f_X9_faultOf_L10
          rw [hR.2.2.2.1, hR.2.2.2.2.1, if_neg (nI_ge c (by omega)), hx]
          rfl
        rcases hz : (cmd T tx (sp T tx p)).1 with _ | z
        · rw [hz] at r1
          refine ⟨.inl σ2, lo_inr ?_, σ2, ?_, hK.tr r3⟩
          · rw [hst _ r1]
            rfl
          · simp only [Sum.elim_inl]
            rw [r2.2.2.2.2.1]
            rfl
        · have hb := (cmd_ok (T := T) (tx := tx) (p := sp T tx p) hs.2.1)
          have hb2 := hb.2 z hz
          have hs2 := sp_ok (tx := tx) hb.1
          have hR3 : MR T tx (si σ2 75 24 (nI (sp T tx (cmd T tx (sp T tx p)).2))) (sp T tx (cmd T tx (sp T tx p)).2) := MR_to r2 MK.rf.s24 si_hit hs2.2.1
          obtain ⟨e, i1, i2⟩ := ih (cmd T tx (sp T tx p)).2 _ (by omega) hb.1 hR3 ((hK.tr r3).s24)
          refine ⟨e, ?_, i2⟩
          rw [lo_inl ?_, i1]
          rw [hz] at r1
          rw [hst _ r1, m_skips r2]
          rfl
      · rw [if_neg c]
        refine ⟨.inr σ1, lo_inr ?_, σ1, rfl, hK⟩
        unfold f_X9_faultOf_L10
        rw [hR.2.2.2.1, hR.2.2.2.2.1, if_pos (nI_le (by omega) (by omega))]
  have h0 : MR T tx (si σ 75 24 0) 0 := MR_to h MK.rf.s24 si_hit (by omega)
  have hs := sp_ok (T := T) (tx := tx) (p := 0) (by omega)
  have k1 : MK σ (si (si σ 75 24 0) 75 24 (nI (sp T tx 0))) := MK.rf.s24.s24
  obtain ⟨e, i1, σ', i2, i3⟩ := key 120 0 _ (by omega) (by omega) (MR_to h k1 si_hit hs.2.1) k1
  unfold f_X9_faultOf
  rw [m_skips h0]
  simp only [obs]
  rw [i1]
  exact ⟨σ', i2, i3⟩
theorem MI_mk {σ σ' : Sg} {s : Nat → Int32} {c : Nat} {h : Nat → Nat → Int32} {T : Nat} {tx : Nat → Nat} {md : Bool} {rs : Nat → Int32} (H : MI σ s c h T tx md rs) (k : MK σ σ') : MI σ' s c h T tx md rs := MI_eq H (fun q hq => k.1 q (by omega) (by omega)) (k.2 3 (by omega) (by omega)) (k.2 5 (by omega) (by omega))
theorem CI_mk {σ σ' : Sg} {s : Nat → Int32} {c : Nat} {h : Nat → Nat → Int32} {T : Nat} {tx : Nat → Nat} {md : Bool} {rs : Nat → Int32} (H : CI σ s c h T tx md rs) (k : MK σ σ') : CI σ' s c h T tx md rs := CI_eq H (fun q hq => k.1 q (fun z => by subst z; exact absurd hq (by decide)) (fun z => by subst z; exact absurd hq (by decide)))
theorem CI_72 {σ σ' : Sg} {s : Nat → Int32} {c : Nat} {h : Nat → Nat → Int32} {T : Nat} {tx : Nat → Nat} {md : Bool} {rs : Nat → Int32} {q : Nat} (H : CI σ s c h T tx md rs) (hF : Fr [72] σ σ') (hR : CR T tx σ' q) : CI σ' s c h T tx md rs := CI_tx H (Fr.tr Fr.rf hF (by decide)) ⟨hR.2.2.2.1, hR.2.2.1⟩
theorem CR_of {σ : Sg} {T : Nat} {tx : Nat → Nat} (h : TC σ T tx) (g : TG T tx) (x : σ 72 5 = nI 0) : CR T tx σ 0 := ⟨g.1, g.2, h.2, h.1, x, by omega⟩
theorem c_fault' {T : Nat} {tx : Nat → Nat} {σ : Sg} (h : TC σ T tx) (g : TG T tx) : ∃ σ', f_X4_firstFault σ 72 = some (oI (scn T tx 120 0), σ') ∧ Fr [72] σ σ' ∧ ∃ q, CR T tx σ' q := by
  have hc : CR T tx (si σ 72 5 (nI 0)) 0 := ⟨g.1, g.2, fun i hi => by rw [si_oth (by omega), h.2 i hi], by rw [si_miss (by omega), h.1], si_hit, by omega⟩
  obtain ⟨σ', h1, h2, h3⟩ := c_fault hc
  refine ⟨σ', ?_, ?_, h3⟩
  · rw [← h1]
    unfold f_X4_firstFault f_X4_rewind
    rw [show (0 : Int32) = nI 0 from rfl, si_si]
  · exact (Fr.rf.si (by decide)).tr h2 (fun q h => h)
theorem m_fault' {T : Nat} {tx : Nat → Nat} {σ : Sg} (h : TM σ T tx) (g : TG T tx) : ∃ σ', f_X9_faultOf σ 75 = some (oI (scn T tx 120 0), σ') ∧ MK σ σ' := by
  have hc : MR T tx (si σ 75 24 (nI 0)) 0 := ⟨g.1, g.2, fun i hi => by rw [si_oth (by omega), h.2 i hi], by rw [si_miss (by omega), h.1], si_hit, by omega⟩
  obtain ⟨σ', h1, h2⟩ := m_faultOf hc
  refine ⟨σ', ?_, MK.rf.s24.tr h2⟩
  rw [← h1]
  unfold f_X9_faultOf
  rw [show (0 : Int32) = nI 0 from rfl, si_si]
theorem J_fault {σ : Sg} (H : Iv σ) : JB (f_X8_fault σ 0) (fun σ => f_X9_fault σ 75) := by
  obtain ⟨s, c, h, T, tx, md, rs, hG, hC, hM⟩ := H
  obtain ⟨σ1, q1, q2, q, q3⟩ := c_fault' hC.2.1 hG.2.2
  have hC1 := CI_72 hC q2 q3
  have hM1 := MI_fr hM q2 (by decide)
  obtain ⟨σ2, r1, r2⟩ := m_fault' hM1.2.1 hG.2.2
  refine ⟨oI (scn T tx 120 0), σ1, si σ2 75 6 0, ?_, ?_, Iv_75 (Iv_of hG (CI_mk hC1 r2) (MI_mk hM1 r2)) (by decide) (by decide)⟩
  · unfold f_X8_fault
    rw [show 0 + 72 = 72 from rfl, q1]
    rfl
  · show f_X9_fault σ1 75 = _
    unfold f_X9_fault
    rw [r1]
    rfl
-- run
def rnS (n T : Nat) (tx : Nat → Nat) : Nat → Nat → (Nat → Int32) → Nat → (Nat → Int32) × Nat
  | 0, _, s, c => (s, c)
  | f + 1, p, s, c => if sp T tx p < T then (match (cmd T tx (sp T tx p)).1 with
    | none => (s, c)
    | some z => if z.2.1 < n ∧ z.2.2.1 < n then rnS n T tx f (cmd T tx (sp T tx p)).2 (upd s (1 + 36 * z.1 + 6 * z.2.1 + z.2.2.1) (nI z.2.2.2)) (c + 1) else rnS n T tx f (cmd T tx (sp T tx p)).2 s c) else (s, c)
theorem rnS_gd {n T : Nat} {tx : Nat → Nat} : ∀ f p s c, p ≤ T → Gd n s → Gd n (rnS n T tx f p s c).1
  | 0, _, _, _, _, h => h
  | f + 1, p, s, c, hp, h => by
    have hs := sp_ok (tx := tx) hp
    unfold rnS
    split
    · next h1 =>
      have hb := cmd_ok (T := T) (tx := tx) (p := sp T tx p) hs.2.1
      rcases hz : (cmd T tx (sp T tx p)).1 with _ | z
      · exact h
      · have hb2 := hb.2 z hz
        simp only
        split
        · next h2 => exact rnS_gd f _ _ _ hb.1 (Gd_upd h (by omega) (by have := h.2.1; omega) (by omega))
        · exact rnS_gd f _ _ _ hb.1 h
    · exact h
def RW1 : List Nat := [1, 2, 3, 4, 5, 6, 72]
theorem c_run {n T : Nat} {tx : Nat → Nat} : ∀ f k p s c σ, k + f = 120 → c ≤ k → n ≤ 6 → CR T tx σ p → EqS (snap σ 1) s → s 0 = nI n → ∃ σ', lo (f_X8_run_L44 0) (nI c, nI k, σ) = some (nI (rnS n T tx f p s c).2, σ') ∧ Fr RW1 σ σ' ∧ EqS (snap σ' 1) (rnS n T tx f p s c).1 ∧ ∃ q, CR T tx σ' q := by
  intro f
  induction f with
  | zero =>
    intro k p s c σ hk hc hn hR hs h0
    have : k = 120 := by omega
    subst this
    exact ⟨σ, lo_inr (by unfold f_X8_run_L44; exact if_pos (show (120 : Int32) ≤ nI 120 by decide)), Fr.rf, hs, p, hR⟩
  | succ f ih =>
    intro k p s c σ hk hc hn hR hs h0
    have hsp := sp_ok (tx := tx) hR.2.2.2.2.2
    obtain ⟨σ2, r1, r2, r3, r4⟩ := c_next hR
    have hF2 : Fr RW1 σ σ2 := Fr.tr Fr.rf r2 (by decide)
    have hsn2 : snap σ2 1 = snap σ 1 := snap_fr fun d hd => r2 _ (fun z => by simp only [List.mem_cons, List.not_mem_nil, or_false] at z; omega)
    have hs2 : EqS (snap σ2 1) s := by rw [hsn2]; exact hs
    have hn2 : σ2 1 0 = nI n := by rw [rc_0 hs2, h0]
    have k120 : ¬ (120 : Int32) ≤ nI k := nI_ge (b := 120) (by omega) (by omega)
    unfold rnS
    by_cases c1 : sp T tx p < T
    · rw [if_pos c1]
      obtain ⟨r5, r6, r7⟩ := r4 c1
      have hb := cmd_ok (T := T) (tx := tx) (p := sp T tx p) hsp.2.1
      rcases hz : (cmd T tx (sp T tx p)).1 with _ | z
      · rw [hz] at r1
        rw [if_neg (fun z => by cases z.2)] at r1
        refine ⟨σ2, lo_inr ?_, hF2, hs2, _, r5⟩
        unfold f_X8_run_L44
        simp only
        rw [if_neg k120, show 0 + 72 = 72 from rfl, r1]
        rfl
      · obtain ⟨w, a, b, v⟩ := z
        rw [hz] at r1 r7
        rw [if_pos ⟨c1, rfl⟩] at r1
        obtain ⟨y1, y2, y3, y4⟩ := r7 w a b v rfl
        obtain ⟨g0, g1, g2, g3, g4⟩ := hb.2 _ hz
        simp only at g1 g2 g3 g4
        have st : f_X8_run_L44 0 (nI c, nI k, σ) = if nI n ≤ nI a then f_X8_run_J135 (nI c) (nI k) σ2 else if nI n ≤ nI b then f_X8_run_J135 (nI c) (nI k) σ2 else ((f_X6_tableOf 1 (nI w)).bind fun v9 => (f_X8_put σ2 v9 (nI a) (nI b) (nI v)).bind fun v10 => f_X8_run_J135 ((nI c + 1)) (nI k) v10) := by
          unfold f_X8_run_L44
          simp only
          rw [if_neg k120, show 0 + 72 = 72 from rfl, r1]
          simp only [obs]
          rw [if_neg (show ¬ (1 : Int32) = 0 by decide), show 0 + 1 = 1 from rfl, hn2, y1, y2, y3, y4]
        simp only
        by_cases c2 : a < n ∧ b < n
        · rw [if_pos c2]
          have hkk := ln_w w g1
          have st2 : f_X8_run_L44 0 (nI c, nI k, σ) = some (.inl (nI (c + 1), nI (k + 1), si σ2 (2 + w) (6 * a + b) (nI v))) := by
            rw [st, if_neg (nI_ge c2.1 (by omega)), if_neg (nI_ge c2.2 (by omega)), table_ok g1]
            simp only [obs]
            rw [put_ok (by omega) (ln_le _)]
            simp only [obs]
            unfold f_X8_run_J135
            rw [nI_s, nI_s]
          have hw3 : w = 0 ∨ w = 1 ∨ w = 2 := by omega
          have hR3 : CR T tx (si σ2 (2 + w) (6 * a + b) (nI v)) (cmd T tx (sp T tx p)).2 := by
            obtain ⟨x1, x2, x3, x4, x5, x6⟩ := r5
            exact ⟨x1, x2, fun i hi => by rw [si_oth (by omega), x3 i hi], by rw [si_oth (by omega), x4], by rw [si_oth (by omega), x5], x6⟩
          have hs3 : EqS (snap (si σ2 (2 + w) (6 * a + b) (nI v)) 1) (upd s (1 + 36 * w + 6 * a + b) (nI v)) := fun q hq => by
            rw [snap_si_w g1 (by omega) q hq, show 1 + 36 * w + (6 * a + b) = 1 + 36 * w + 6 * a + b by omega]
            unfold upd
            split
            · rfl
            · exact hs2 q hq
          obtain ⟨σ', i1, i2, i3, i4⟩ := ih (k + 1) _ _ (c + 1) _ (by omega) (by omega) hn hR3 hs3 (by rw [pk_un (by omega), h0])
          refine ⟨σ', by rw [lo_inl st2, i1], Fr.tr (hF2.si ?_) i2 (fun q hq => hq), i3, i4⟩
          rcases hw3 with rfl | rfl | rfl <;> decide
        · rw [if_neg c2]
          have st2 : f_X8_run_L44 0 (nI c, nI k, σ) = some (.inl (nI c, nI (k + 1), σ2)) := by
            rw [st]
            unfold f_X8_run_J135
            by_cases c3 : a < n
            · rw [if_neg (nI_ge c3 (by omega)), if_pos (nI_le (by omega) (by omega)), nI_s]
            · rw [if_pos (nI_le (by omega) (by omega)), nI_s]
          obtain ⟨σ', i1, i2, i3, i4⟩ := ih (k + 1) _ _ c _ (by omega) (by omega) hn r5 hs2 h0
          exact ⟨σ', by rw [lo_inl st2, i1], Fr.tr hF2 i2 (fun q hq => hq), i3, i4⟩
    · rw [if_neg c1]
      obtain ⟨r5, r6⟩ := r3 c1
      rw [if_neg (fun z => c1 z.1)] at r1
      refine ⟨σ2, lo_inr ?_, hF2, hs2, _, r5⟩
      unfold f_X8_run_L44
      simp only
      rw [if_neg k120, show 0 + 72 = 72 from rfl, r1]
      rfl
/-- the model's run changes its numbers and its s -/
def M6 (σ σ' : Sg) : Prop := (∀ x, x ≠ 75 → x ≠ 95 → x ≠ 76 → σ' x = σ x) ∧ ∀ j, j ≠ 24 → j ≠ 25 → σ' 75 j = σ 75 j
theorem M6.tr {σ σ1 σ2 : Sg} (h : M6 σ σ1) (h2 : M6 σ1 σ2) : M6 σ σ2 := ⟨fun x a b d => (h2.1 x a b d).trans (h.1 x a b d), fun j a b => (h2.2 j a b).trans (h.2 j a b)⟩
theorem MK.m6 {σ σ' : Sg} (h : MK σ σ') : M6 σ σ' := ⟨fun x a b _ => h.1 x a b, h.2⟩
theorem MR_76 {T : Nat} {tx : Nat → Nat} {σ : Sg} {p j : Nat} {x : Int32} (h : MR T tx σ p) : MR T tx (si σ 76 j x) p := by
  obtain ⟨h1, h2, h3, h4, h5, h6⟩ := h
  exact ⟨h1, h2, fun i hi => by rw [si_oth (by omega), h3 i hi], by rw [si_oth (by omega), h4], by rw [si_oth (by omega), h5], h6⟩
theorem m_runst {n T p c w a b v : Nat} {tx : Nat → Nat} {σ σ2 : Sg} (hn : n ≤ 6) (hR : MR T tx σ p) (c1 : p < T) (r1 : f_X9_isCommand σ 75 = some (if (some (w, a, b, v)).isSome = true then 1 else 0, σ2)) (g2 : a ≤ 99) (g3 : b ≤ 99) (y2 : σ2 95 0 = nI a) (y3' : ald σ2 95 (1 : Int32) = some (nI b)) (one : ∀ x, x ≤ 99 → f_X9_isOne σ2 75 (nI x) = some (if x < n then 1 else 0)) : f_X9_run_L30 75 (nI c, σ) = if a < n ∧ b < n then f_X9_run_J79 75 (nI c) 1 σ2 else f_X9_run_J78 75 (nI c) σ2 := by
  have hT := hR.1
  unfold f_X9_run_L30
  simp only
  rw [hR.2.2.2.1, hR.2.2.2.2.1, if_neg (nI_ge c1 (by omega)), r1]
  simp only [obs]
  rw [if_neg (show ¬ (if (some (w, a, b, v)).isSome = true then (1 : Int32) else 0) = 0 from by simp), show 75 + 20 = 95 from rfl, show (0 : Int32) = nI 0 from rfl, a_95 (by omega), y2]
  simp only [obs]
  rw [one a g2]
  simp only [obs]
  by_cases q1 : a < n
  · rw [if_pos q1, if_neg (show ¬ (1 : Int32) = nI 0 by decide), y3']
    simp only [obs]
    rw [one b g3]
    simp only [obs]
    by_cases q2 : b < n
    · rw [if_pos q2, if_neg (show ¬ (1 : Int32) = nI 0 by decide), if_pos ⟨q1, q2⟩]
    · rw [if_neg q2, if_pos (show (0 : Int32) = nI 0 from rfl), if_neg (fun z => q2 z.2)]
  · rw [if_neg q1, if_pos (show (0 : Int32) = nI 0 from rfl), if_neg (fun z => q1 z.1)]
theorem m_run {n T : Nat} {tx : Nat → Nat} : ∀ f p s c σ, T ≤ p + f → p ≤ T → n ≤ 6 → 1 ≤ n → scn T tx f p = none → MR T tx σ (sp T tx p) → EqS (σ 76) s → s 0 = nI n → ∃ σ', lo (f_X9_run_L30 75) (nI c, σ) = some (nI (rnS n T tx f p s c).2, σ') ∧ M6 σ σ' ∧ EqS (σ' 76) (rnS n T tx f p s c).1 := by
  intro f
  induction f with
  | zero =>
    intro p s c σ hf hp hn hn1 hsc hR hs h0
    have hsp := sp_ok (tx := tx) hp
    have hT := hR.1
    refine ⟨σ, lo_inr ?_, MK.rf.m6, hs⟩
    unfold f_X9_run_L30
    simp only
    rw [hR.2.2.2.1, hR.2.2.2.2.1, if_pos (nI_le (by omega) (by omega))]
    rfl
  | succ f ih =>
    intro p s c σ hf hp hn hn1 hsc hR hs h0
    have hsp := sp_ok (tx := tx) hp
    have hT := hR.1
    unfold scn at hsc
    unfold rnS
    by_cases c1 : sp T tx p < T
    · rw [if_pos c1] at hsc ⊢
      obtain ⟨σ2, r1, r2, r3, r4⟩ := m_command hR
      have hb := cmd_ok (T := T) (tx := tx) (p := sp T tx p) hsp.2.1
      rcases hz : (cmd T tx (sp T tx p)).1 with _ | z
      · rw [hz] at hsc
        cases hsc
      · obtain ⟨w, a, b, v⟩ := z
        rw [hz] at hsc r1 r4
        simp only at hsc ⊢
        obtain ⟨y1, y2, y3, y4⟩ := r4 w a b v rfl
        obtain ⟨g0, g1, g2, g3, g4⟩ := hb.2 _ hz
        simp only at g1 g2 g3 g4
        have hs2 : EqS (σ2 76) s := by rw [r3.1 76 (by omega) (by omega)]; exact hs
        have hn2 : σ2 76 0 = nI n := by rw [hs2 0 (by omega), h0]
        have hspr := sp_ok (tx := tx) hb.1
        have one : ∀ x, x ≤ 99 → f_X9_isOne σ2 75 (nI x) = some (if x < n then 1 else 0) := fun x hx => by
          by_cases q : x < n
          · rw [if_pos q, one_yes hn2 hn q]
          · rw [if_neg q, one_no hn2 hn1 hn (Or.inr (nI_le (by omega) (by omega)))]
        have y3' : ald σ2 95 (1 : Int32) = some (nI b) := by rw [show (1 : Int32) = nI 1 from rfl, a_95 (by omega), y3]
        have st : f_X9_run_L30 75 (nI c, σ) = if a < n ∧ b < n then f_X9_run_J79 75 (nI c) 1 σ2 else f_X9_run_J78 75 (nI c) σ2 := m_runst hn hR c1 r1 g2 g3 y2 y3' one
        by_cases c2 : a < n ∧ b < n
        · rw [if_pos c2] at st ⊢
          have st2 : f_X9_run_L30 75 (nI c, σ) = some (.inl (nI (c + 1), si (si σ2 76 (1 + 36 * w + 6 * a + b) (nI v)) 75 24 (nI (sp T tx (cmd T tx (sp T tx p)).2)))) := by
            rw [st]
            unfold f_X9_run_J79 f_X9_run_J117
            rw [if_neg (show ¬ (1 : Int32) = 0 by decide), y1, show 75 + 20 = 95 from rfl, show 75 + 1 = 76 from rfl, show (0 : Int32) = nI 0 from rfl, a_95 (by omega), y2, obs, y3', obs, m_placeOf, obs, show (2 : Int32) = nI 2 from rfl, a_95 (by omega), y4, obs, s_76 (by omega), obs, m_skips (MR_76 r2), obs, ← nI_s]
          obtain ⟨σ', i1, i2, i3⟩ := ih (cmd T tx (sp T tx p)).2 (upd s (1 + 36 * w + 6 * a + b) (nI v)) (c + 1) (si (si σ2 76 (1 + 36 * w + 6 * a + b) (nI v)) 75 24 (nI (sp T tx (cmd T tx (sp T tx p)).2))) (by omega) hb.1 hn hn1 hsc (MR_to (MR_76 r2) MK.rf.s24 si_hit hspr.2.1) (fun q hq => by
            rw [si_oth (by omega), si_self]
            unfold upd
            split
            · rfl
            · exact hs2 q hq) (by rw [pk_un (by omega), h0])
          refine ⟨σ', by rw [lo_inl st2, i1], M6.tr (r3.m6.tr ⟨fun x a b d => ?_, fun j a b => ?_⟩) i2, i3⟩
          · rw [si_oth a, si_oth d]
          · rw [si_miss a, si_oth (by omega)]
        · rw [if_neg c2] at st ⊢
          have st2 : f_X9_run_L30 75 (nI c, σ) = some (.inl (nI c, si σ2 75 24 (nI (sp T tx (cmd T tx (sp T tx p)).2)))) := by
            rw [st]
            unfold f_X9_run_J78 f_X9_run_J79 f_X9_run_J117
            rw [if_pos rfl, m_skips r2]
            rfl
          obtain ⟨σ', i1, i2, i3⟩ := ih (cmd T tx (sp T tx p)).2 s c (si σ2 75 24 (nI (sp T tx (cmd T tx (sp T tx p)).2))) (by omega) hb.1 hn hn1 hsc (MR_to r2 MK.rf.s24 si_hit hspr.2.1) (fun q hq => by rw [si_oth (by omega)]; exact hs2 q hq) h0
          exact ⟨σ', by rw [lo_inl st2, i1], M6.tr (r3.m6.tr (MK.rf.s24.m6)) i2, i3⟩
    · rw [if_neg c1]
      refine ⟨σ, lo_inr ?_, MK.rf.m6, hs⟩
      unfold f_X9_run_L30
      simp only
      rw [hR.2.2.2.1, hR.2.2.2.2.1, if_pos (nI_le (by omega) (by omega))]
theorem J_run {σ : Sg} (H : Iv σ) : JU 0 9 (f_X8_run σ 0) (fun σ => f_X9_run σ 75) := by
  obtain ⟨s, c, h, T, tx, md, rs, hG, hC, hM⟩ := H
  obtain ⟨n, hg⟩ := hG.1
  have h1 := hg.1
  have hn := hg.2.1
  have hT := hG.2.2.1
  obtain ⟨σ1, q1, q2, q, q3⟩ := c_fault' hC.2.1 hG.2.2
  have hC1 := CI_72 hC q2 q3
  have hM1 := MI_fr hM q2 (by decide)
  rcases hsc : scn T tx 120 0 with _ | r
  · rw [hsc] at q1
    obtain ⟨σ2, p1, p2, p3⟩ := CI_push hC1
    -- the class
    have hR2 : CR T tx (si (si σ2 72 5 0) 72 6 0) 0 := by
      have hz : CR T tx (si σ2 72 5 (nI 0)) 0 := ⟨hT, hG.2.2.2, fun i hi => by rw [si_oth (by omega), p3.2.1.2 i hi], by rw [si_miss (by omega), p3.2.1.1], si_hit, by omega⟩
      exact CR_j hz (by omega) (by omega)
    have hs2 : EqS (snap (si (si σ2 72 5 0) 72 6 0) 1) s := by
      rw [snap_fr (σ := σ2) (fun d hd => by rw [si_oth (by omega), si_oth (by omega)])]
      exact p3.1.2.1
    obtain ⟨σ3, t1, t2, t3, qq, t4⟩ := c_run (n := n) 120 0 0 s 0 _ rfl (Nat.le_refl 0) hn hR2 hs2 hg.2.2.1
    generalize hs' : (rnS n T tx 120 0 s 0).1 = s' at t3
    have hg' : Gd n s' := by rw [← hs']; exact rnS_gd 120 0 s 0 (by omega) hg
    have F23 : Fr [1, 2, 3, 4, 5, 6, 72] σ2 σ3 := Fr.tr ((Fr.rf.si (by decide)).si (by decide)) t2 (fun q hq => hq)
    have C3 : CI σ3 s' (pushC c) (pushH c h s) T tx md rs := by
      obtain ⟨⟨a1, a2, a3⟩, a4, a5⟩ := p3
      exact ⟨⟨by rw [F23.at (by decide), a1], t3, HC_fr a3 (fun q hq => F23 q (fun z => by simp only [List.mem_cons, List.not_mem_nil, or_false] at z; omega))⟩, ⟨t4.2.2.2.1, t4.2.2.1⟩, FC_fr a5 (F23.at (by decide)) (F23.at (by decide))⟩
    have M3 := MI_fr (MI_fr hM1 p2 (by decide)) F23 (by decide)
    -- the model
    obtain ⟨σ4, u1, u2⟩ := m_fault' M3.2.1 hG.2.2
    rw [hsc] at u1
    have M4 := MI_mk M3 u2
    have C4 := CI_mk C3 u2
    have hw : EqS ((wo σ4 78 0 121 (σ4 76)) 78) s := hold78 M4.1.1
    have hw6 : EqS ((wo σ4 78 0 121 (σ4 76)) 76) s := hold76 M4.1.1
    have hR5 : MR T tx (si (wo σ4 78 0 121 (σ4 76)) 75 24 0) 0 := ⟨hT, hG.2.2.2, fun i hi => by rw [si_oth (by omega), wo_oth (by omega), M4.2.1.2 i hi], by rw [si_miss (by omega), wo_oth (by omega), M4.2.1.1], si_hit, by omega⟩
    have hsp0 := sp_ok (T := T) (tx := tx) (p := 0) (by omega)
    generalize hσ5 : si (si (wo σ4 78 0 121 (σ4 76)) 75 24 0) 75 24 (nI (sp T tx 0)) = σ5
    have hsk : f_X9_skips (si (wo σ4 78 0 121 (σ4 76)) 75 24 0) 75 = some (if 0 < sp T tx 0 then 1 else 0, σ5) := by rw [m_skips hR5, hσ5]
    have hR5' : MR T tx σ5 (sp T tx 0) := by rw [← hσ5]; exact MR_to hR5 MK.rf.s24 si_hit hsp0.2.1
    have e5 : ∀ x, x ≠ 75 → σ5 x = (wo σ4 78 0 121 (σ4 76)) x := fun x hx => by rw [← hσ5, si_oth hx, si_oth hx]
    obtain ⟨σ6, w1, w2, w3⟩ := m_run (n := n) 120 0 s 0 σ5 (by omega) (by omega) hn h1 hsc hR5' (by rw [e5 76 (by omega)]; exact hw6) hg.2.2.1
    rw [hs'] at w3
    have e56 : ∀ x, x ≠ 75 → x ≠ 95 → x ≠ 76 → x ≠ 78 → σ6 x = σ4 x := fun x a b d e => by rw [w2.1 x a b d, e5 x a, wo_oth e]
    have j56 : ∀ j, j ≠ 24 → j ≠ 25 → σ6 75 j = σ4 75 j := fun j a b => by rw [w2.2 j a b, ← hσ5, si_miss a, si_miss a, wo_oth (by omega)]
    obtain ⟨σ7, x1, x2, x3, x4, x5⟩ := m_ends (x := nI (rnS n T tx 120 0 s 0).2) (HM_fr M4.1.2 (σ' := σ6) (j56 3 (by omega) (by omega)) (e56 77 (by omega) (by omega) (by omega) (by omega)))
    have e78 : EqS (σ6 78) s := by rw [w2.1 78 (by omega) (by omega) (by omega), e5 78 (by omega)]; exact hw
    have M7 : MI σ7 s' (pushC c) (pushH c h s) T tx md rs := by
      refine ⟨⟨by rw [x2.at (by decide)]; exact w3, ?_⟩, TM_fr M4.2.1 (by rw [x4 5 (by omega) (by omega), j56 5 (by omega) (by omega)]) (by rw [x2.at (by decide), e56 79 (by omega) (by omega) (by omega) (by omega)]), FM_fr M4.2.2 (by rw [x2.at (by decide), e56 91 (by omega) (by omega) (by omega) (by omega)]) (by rw [x2.at (by decide), e56 92 (by omega) (by omega) (by omega) (by omega)])⟩
      obtain ⟨z1, z2, z3⟩ := x3
      refine ⟨z1, z2, fun r hr j hj => ?_⟩
      rw [z3 r hr j hj]
      unfold pushH
      split
      · split
        · rfl
        · exact e78 j hj
      · split
        · rfl
        · exact e78 j hj
    have C7 : CI σ7 s' (pushC c) (pushH c h s) T tx md rs := CI_eq C4 (fun q hq => by
      have k : ∀ x, keepC x = false → q ≠ x := fun x hx z => by subst z; rw [hx] at hq; cases hq
      have hq7 : q ∉ [75, 77] := fun z => by
        simp only [List.mem_cons, List.not_mem_nil, or_false] at z
        rcases z with z | z
        · exact k 75 (by decide) z
        · exact k 77 (by decide) z
      rw [x2.at hq7, e56 q (k 75 (by decide)) (k 95 (by decide)) (k 76 (by decide)) (k 78 (by decide))])
    refine Or.inl ⟨nI (rnS n T tx 120 0 s 0).2, σ3, σ7, ?_, ?_, x5, Iv_of (GI_push hG ⟨n, hg'⟩) C7 M7⟩
    · unfold f_X8_run f_X4_rewind
      rw [show 0 + 72 = 72 from rfl, show 0 + 7 = 7 from rfl, show 0 + 1 = 1 from rfl, q1]
      simp only [obs]
      rw [if_pos (by rfl), p1]
      simp only [obs]
      rw [show ((0 : Int32), (0 : Int32), si (si σ2 72 5 0) 72 6 0) = (nI 0, nI 0, si (si σ2 72 5 0) 72 6 0) from rfl, t1]
      rfl
    · show f_X9_run σ3 75 = _
      unfold f_X9_run
      rw [u1]
      simp only [obs]
      rw [if_pos (by rfl), m_hold]
      simp only [obs]
      rw [hsk]
      simp only [obs]
      rw [show ((0 : Int32), σ5) = (nI 0, σ5) from rfl, w1]
      simp only [obs]
      rw [x1]
      rfl
  · rw [hsc] at q1
    have hr : ¬ oI (some r) = -1 := by
      have hb : ∀ f p, p ≤ T → ∀ r, scn T tx f p = some r → r ≤ T := by
        intro f
        induction f with
        | zero => intro p hp r hr; cases hr
        | succ f ih =>
          intro p hp r hr
          have hsp := sp_ok (tx := tx) hp
          have hb := cmd_ok (T := T) (tx := tx) (p := sp T tx p) hsp.2.1
          unfold scn at hr
          split at hr
          · rcases hz : (cmd T tx (sp T tx p)).1 with _ | z
            · rw [hz] at hr
              cases hr
              exact hb.1
            · rw [hz] at hr
              exact ih _ hb.1 r hr
          · cases hr
      have := hb 120 0 (by omega) r hsc
      exact nI_m1 (by omega)
    obtain ⟨σ4, u1, u2⟩ := m_fault' hM1.2.1 hG.2.2
    rw [hsc] at u1
    refine Or.inr (Or.inl ⟨0, σ1, si σ4 75 6 1, ?_, ?_, si_hit, Iv_75 (Iv_of hG (CI_mk hC1 u2) (MI_mk hM1 u2)) (by decide) (by decide)⟩)
    · unfold f_X8_run
      rw [show 0 + 72 = 72 from rfl, q1]
      simp only [obs]
      rw [if_neg hr]
    · show f_X9_run σ1 75 = _
      unfold f_X9_run
      rw [u1]
      simp only [obs]
      rw [if_neg hr]
      rfl
