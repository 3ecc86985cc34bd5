-- the readers of the script
def chr (T : Nat) (tx : Nat → Nat) (p : Nat) : Nat := if p < T then tx p else 0
def spF (T : Nat) (tx : Nat → Nat) : Nat → Nat → Nat
  | 0, p => p
  | f + 1, p => if p < T ∧ tx p = 32 then spF T tx f (p + 1) else p
def sp (T : Nat) (tx : Nat → Nat) (p : Nat) : Nat := spF T tx (T - p) p
def dg (T : Nat) (tx : Nat → Nat) (p : Nat) : Bool := decide (p < T ∧ 48 ≤ tx p ∧ tx p ≤ 57)
theorem dg_t {T : Nat} {tx : Nat → Nat} {p : Nat} (h : dg T tx p = true) : p < T ∧ 48 ≤ tx p ∧ tx p ≤ 57 := of_decide_eq_true h
theorem dg_f {T : Nat} {tx : Nat → Nat} {p : Nat} (h : ¬ dg T tx p = true) : ¬ (p < T ∧ 48 ≤ tx p ∧ tx p ≤ 57) := fun z => h (decide_eq_true z)
theorem spF_ok {T : Nat} {tx : Nat → Nat} : ∀ f p, p ≤ T → p ≤ spF T tx f p ∧ spF T tx f p ≤ T ∧ (T ≤ p + f → ¬ (spF T tx f p < T ∧ tx (spF T tx f p) = 32))
  | 0, p, h => ⟨Nat.le_refl p, h, fun h1 z => by
    have : spF T tx 0 p = p := rfl
    omega⟩
  | f + 1, p, h => by
    unfold spF
    by_cases c : p < T ∧ tx p = 32
    · rw [if_pos c]
      obtain ⟨h1, h2, h3⟩ := spF_ok (tx := tx) f (p + 1) c.1
      exact ⟨by omega, h2, fun h4 => h3 (by omega)⟩
    · rw [if_neg c]
      exact ⟨Nat.le_refl p, h, fun _ => c⟩
theorem sp_ok {T : Nat} {tx : Nat → Nat} {p : Nat} (h : p ≤ T) : p ≤ sp T tx p ∧ sp T tx p ≤ T ∧ ¬ (sp T tx p < T ∧ tx (sp T tx p) = 32) := by
  obtain ⟨h1, h2, h3⟩ := spF_ok (tx := tx) (T - p) p h
  exact ⟨h1, h2, h3 (by omega)⟩
theorem sp_ge {T : Nat} {tx : Nat → Nat} {p : Nat} (h : ¬ (p < T ∧ tx p = 32)) : sp T tx p = p := by
  unfold sp
  cases T - p with
  | zero => rfl
  | succ f =>
    unfold spF
    rw [if_neg h]
theorem sp_sp {T : Nat} {tx : Nat → Nat} {p : Nat} (h : p ≤ T) : sp T tx (sp T tx p) = sp T tx p := sp_ge (sp_ok h).2.2
def nend (T : Nat) (tx : Nat → Nat) (q : Nat) : Nat := if dg T tx (q + 1) = true then q + 2 else q + 1
def nval (T : Nat) (tx : Nat → Nat) (q : Nat) : Nat := if dg T tx (q + 1) = true then 10 * (tx q - 48) + (tx (q + 1) - 48) else tx q - 48
def rn (T : Nat) (tx : Nat → Nat) (p : Nat) : Option Nat × Nat := if dg T tx (sp T tx p) = true then (if dg T tx (nend T tx (sp T tx p)) = true then none else some (nval T tx (sp T tx p)), nend T tx (sp T tx p)) else (none, sp T tx p)
theorem nend_ok {T : Nat} {tx : Nat → Nat} {q : Nat} (h : dg T tx q = true) : q < nend T tx q ∧ nend T tx q ≤ T ∧ nval T tx q ≤ 99 := by
  have h1 := dg_t h
  unfold nend nval
  by_cases c : dg T tx (q + 1) = true
  · have h2 := dg_t c
    rw [if_pos c, if_pos c]
    omega
  · rw [if_neg c, if_neg c]
    omega
theorem rn_ok {T : Nat} {tx : Nat → Nat} {p : Nat} (h : p ≤ T) : p ≤ (rn T tx p).2 ∧ (rn T tx p).2 ≤ T ∧ ∀ v, (rn T tx p).1 = some v → v ≤ 99 := by
  obtain ⟨h1, h2, h3⟩ := sp_ok (tx := tx) h
  unfold rn
  by_cases c : dg T tx (sp T tx p) = true
  · rw [if_pos c]
    obtain ⟨h4, h5, h6⟩ := nend_ok c
    refine ⟨by show p ≤ nend T tx (sp T tx p); omega, h5, fun v hv => ?_⟩
    simp only at hv
    split at hv
    · cases hv
    · cases hv
      exact h6
  · rw [if_neg c]
    exact ⟨h1, h2, fun v hv => by cases hv⟩
def cm4 (T : Nat) (tx : Nat → Nat) (w a b v p : Nat) : Option (Nat × Nat × Nat × Nat) × Nat := if chr T tx (sp T tx p) = 59 then (some (w, a, b, v), sp T tx p + 1) else (none, sp T tx p)
def cm3 (T : Nat) (tx : Nat → Nat) (w a b p : Nat) : Option (Nat × Nat × Nat × Nat) × Nat := match rn T tx p with
  | (none, r) => (none, r)
  | (some v, r) => cm4 T tx w a b v r
def cm2 (T : Nat) (tx : Nat → Nat) (w a p : Nat) : Option (Nat × Nat × Nat × Nat) × Nat := match rn T tx p with
  | (none, r) => (none, r)
  | (some b, r) => cm3 T tx w a b r
def cm1 (T : Nat) (tx : Nat → Nat) (w p : Nat) : Option (Nat × Nat × Nat × Nat) × Nat := match rn T tx p with
  | (none, r) => (none, r)
  | (some a, r) => cm2 T tx w a r
def ltr (c : Nat) : Option Nat := if c = 99 then some 2 else if c = 100 then some 1 else if c = 102 then some 0 else none
def cmd (T : Nat) (tx : Nat → Nat) (p : Nat) : Option (Nat × Nat × Nat × Nat) × Nat := match ltr (chr T tx p) with
  | none => (none, p)
  | some w => cm1 T tx w (p + 1)
theorem chr_lt {T : Nat} {tx : Nat → Nat} {p c : Nat} (h : chr T tx p = c) (hc : 0 < c) : p < T ∧ tx p = c := by
  unfold chr at h
  split at h
  · next q => exact ⟨q, h⟩
  · omega
theorem cm4_ok {T : Nat} {tx : Nat → Nat} {w a b v p : Nat} (h : p ≤ T) (hw : w ≤ 2) (ha : a ≤ 99) (hb : b ≤ 99) (hv : v ≤ 99) : p ≤ (cm4 T tx w a b v p).2 ∧ (cm4 T tx w a b v p).2 ≤ T ∧ ∀ z, (cm4 T tx w a b v p).1 = some z → z.1 ≤ 2 ∧ z.2.1 ≤ 99 ∧ z.2.2.1 ≤ 99 ∧ z.2.2.2 ≤ 99 := by
  obtain ⟨h1, h2, h3⟩ := sp_ok (tx := tx) h
  unfold cm4
  by_cases c : chr T tx (sp T tx p) = 59
  · have := (chr_lt c (by omega)).1
    rw [if_pos c]
    exact ⟨by show p ≤ sp T tx p + 1; omega, this, fun z hz => by cases hz; exact ⟨hw, ha, hb, hv⟩⟩
  · rw [if_neg c]
    exact ⟨h1, h2, fun z hz => by cases hz⟩
theorem cm3_ok {T : Nat} {tx : Nat → Nat} {w a b p : Nat} (h : p ≤ T) (hw : w ≤ 2) (ha : a ≤ 99) (hb : b ≤ 99) : p ≤ (cm3 T tx w a b p).2 ∧ (cm3 T tx w a b p).2 ≤ T ∧ ∀ z, (cm3 T tx w a b p).1 = some z → z.1 ≤ 2 ∧ z.2.1 ≤ 99 ∧ z.2.2.1 ≤ 99 ∧ z.2.2.2 ≤ 99 := by
  have h1 := rn_ok (tx := tx) h
  unfold cm3
  rcases hr : rn T tx p with ⟨_ | v, r⟩
  · rw [hr] at h1
    exact ⟨h1.1, h1.2.1, fun z hz => by cases hz⟩
  · rw [hr] at h1
    have := cm4_ok (tx := tx) (p := r) h1.2.1 hw ha hb (h1.2.2 v rfl)
    exact ⟨Nat.le_trans h1.1 this.1, this.2⟩
theorem cm2_ok {T : Nat} {tx : Nat → Nat} {w a p : Nat} (h : p ≤ T) (hw : w ≤ 2) (ha : a ≤ 99) : p ≤ (cm2 T tx w a p).2 ∧ (cm2 T tx w a p).2 ≤ T ∧ ∀ z, (cm2 T tx w a p).1 = some z → z.1 ≤ 2 ∧ z.2.1 ≤ 99 ∧ z.2.2.1 ≤ 99 ∧ z.2.2.2 ≤ 99 := by
  have h1 := rn_ok (tx := tx) h
  unfold cm2
  rcases hr : rn T tx p with ⟨_ | v, r⟩
  · rw [hr] at h1
    exact ⟨h1.1, h1.2.1, fun z hz => by cases hz⟩
  · rw [hr] at h1
    have := cm3_ok (tx := tx) (p := r) h1.2.1 hw ha (h1.2.2 v rfl)
    exact ⟨Nat.le_trans h1.1 this.1, this.2⟩
theorem cm1_ok {T : Nat} {tx : Nat → Nat} {w p : Nat} (h : p ≤ T) (hw : w ≤ 2) : p ≤ (cm1 T tx w p).2 ∧ (cm1 T tx w p).2 ≤ T ∧ ∀ z, (cm1 T tx w p).1 = some z → z.1 ≤ 2 ∧ z.2.1 ≤ 99 ∧ z.2.2.1 ≤ 99 ∧ z.2.2.2 ≤ 99 := by
  have h1 := rn_ok (tx := tx) h
  unfold cm1
  rcases hr : rn T tx p with ⟨_ | v, r⟩
  · rw [hr] at h1
    exact ⟨h1.1, h1.2.1, fun z hz => by cases hz⟩
  · rw [hr] at h1
    have := cm2_ok (tx := tx) (p := r) h1.2.1 hw (h1.2.2 v rfl)
    exact ⟨Nat.le_trans h1.1 this.1, this.2⟩
theorem ltr_ok {c w : Nat} (h : ltr c = some w) : w ≤ 2 ∧ 0 < c := by
  unfold ltr at h
  split at h
  · cases h; omega
  · split at h
    · cases h; omega
    · split at h
      · cases h; omega
      · cases h
theorem cmd_ok {T : Nat} {tx : Nat → Nat} {p : Nat} (h : p ≤ T) : (cmd T tx p).2 ≤ T ∧ ∀ z, (cmd T tx p).1 = some z → p < (cmd T tx p).2 ∧ z.1 ≤ 2 ∧ z.2.1 ≤ 99 ∧ z.2.2.1 ≤ 99 ∧ z.2.2.2 ≤ 99 := by
  unfold cmd
  rcases hl : ltr (chr T tx p) with _ | w
  · exact ⟨h, fun z hz => by cases hz⟩
  · obtain ⟨h1, h2⟩ := ltr_ok hl
    have := chr_lt (T := T) (tx := tx) (p := p) rfl h2
    obtain ⟨h3, h4, h5⟩ := cm1_ok (tx := tx) (p := p + 1) this.1 h1
    exact ⟨h4, fun z hz => ⟨by show p < (cm1 T tx w (p + 1)).2; omega, h5 z hz⟩⟩
-- the class's reader
theorem si_si {σ : Sg} {k j : Nat} {x y : Int32} : si (si σ k j x) k j y = si σ k j y := by
  funext q r
  by_cases h : q = k
  · subst h
    by_cases h2 : r = j
    · subst h2; rw [si_hit, si_hit]
    · rw [si_miss h2, si_miss h2, si_miss h2]
  · rw [si_oth h, si_oth h, si_oth h]
theorem si_same {σ : Sg} {k j : Nat} {x : Int32} (h : σ k j = x) : si σ k j x = σ := by
  funext q r
  by_cases h1 : q = k
  · subst h1
    by_cases h2 : r = j
    · subst h2; rw [si_hit, h]
    · rw [si_miss h2]
  · rw [si_oth h1]
def CR (T : Nat) (tx : Nat → Nat) (σ : Sg) (p : Nat) : Prop := T ≤ 120 ∧ (∀ i, i < T → 32 ≤ tx i ∧ tx i ≤ 126) ∧ (∀ i, i < T → σ 73 i = nI (tx i)) ∧ σ 72 0 = nI T ∧ σ 72 5 = nI p ∧ p ≤ T
theorem CR_5 {T : Nat} {tx : Nat → Nat} {σ : Sg} {p q : Nat} (h : CR T tx σ p) (hq : q ≤ T) : CR T tx (si σ 72 5 (nI q)) q := by
  obtain ⟨h1, h2, h3, h4, h5, h6⟩ := h
  exact ⟨h1, h2, fun i hi => by rw [si_oth (by omega), h3 i hi], by rw [si_miss (by omega), h4], si_hit, hq⟩
theorem CR_j {T : Nat} {tx : Nat → Nat} {σ : Sg} {p j : Nat} {x : Int32} (h : CR T tx σ p) (h0 : j ≠ 0) (h5' : j ≠ 5) : CR T tx (si σ 72 j x) p := by
  obtain ⟨h1, h2, h3, h4, h5, h6⟩ := h
  exact ⟨h1, h2, fun i hi => by rw [si_oth (by omega), h3 i hi], by rw [si_miss (by omega), h4], by rw [si_miss (by omega), h5], h6⟩
theorem chr_le {T : Nat} {tx : Nat → Nat} {p : Nat} (h2 : ∀ i, i < T → 32 ≤ tx i ∧ tx i ≤ 126) : chr T tx p ≤ 126 := by
  unfold chr
  split
  · next h => exact (h2 p h).2
  · omega
theorem c_here {T : Nat} {tx : Nat → Nat} {σ : Sg} {p : Nat} (h : CR T tx σ p) : f_X4_here σ 72 = some (nI (chr T tx p)) := by
  obtain ⟨h1, h2, h3, h4, h5, h6⟩ := h
  unfold f_X4_here
  have e73 : Int32.ofNat (ln (72 + 1)) = nI 120 := by rw [show 72 + 1 = 73 from rfl, ln_73]; rfl
  rw [h5, h4, e73, if_neg (nI_pos (by omega))]
  unfold chr
  by_cases c : p < T
  · rw [if_neg (nI_ge c (by omega)), if_neg (nI_ge (by omega) (by omega)), if_pos c]
    simp (disch := omega) only [if_true, if_false, obs, Option.bind_none, Sum.elim_inl, Sum.elim_inr, Option.elim, Nat.reduceAdd, Nat.add_zero, Nat.zero_add, ile, igt, ilt, inl, ieq, ine, iq10, i1z, im1, im11, iml, imle, inm, nI_1, nI_add, isub1, isb, iaddm, pk_mul, si_hit, si_miss, si_oth, wo_oth, zl_0, zl_2, zl_3, zl_4, zl_5, zl_6, zl_7, zl_9, zl_10, zl_32, zl_35, zl_36, zl_48, zl_57, zl_59, zl_60, zl_61, zl_62, zl_63, zl_64, zl_65, zl_99, zl_100, zl_102, zl_109, zl_110, zl_115, zl_116, zl_119, zl_120, zl_121, zl_126, zl_605, zl_720, zl_1957, zl_1000000, a_2, a_3, a_4, a_5, a_6, a_46, a_47, a_55, a_56, a_58, a_68, a_69, a_70, a_73, a_74, a_76, a_77, a_78, a_79, a_80, a_81, a_82, a_83, a_84, a_85, a_86, a_87, a_88, a_89, a_90, a_91, a_92, a_93, a_94, a_95, s_2, s_3, s_4, s_5, s_6, s_46, s_47, s_55, s_56, s_58, s_68, s_69, s_70, s_73, s_74, s_76, s_77, s_78, s_79, s_80, s_81, s_82, s_83, s_84, s_85, s_86, s_87, s_88, s_89, s_90, s_91, s_92, s_93, s_94, s_95, it_5, it_6, it_46, it_47, it_50, it_53, it_55, it_56, it_58, it_63, it_66, it_68, it_69, it_70, it_71, it_74, it_97, se_5, se_6, se_46, se_47, se_50, se_53, se_55, se_56, se_58, se_63, se_66, se_68, se_69, se_70, se_71, se_74, se_97, at_2, at_3, at_4, at_49, at_51, at_52, at_62, at_64, at_65, pu_2, pu_3, pu_4, pu_49, pu_51, pu_52, pu_62, pu_64, pu_65, h3 p c]
  · rw [if_pos (nI_le (by omega) (by omega)), if_neg c]
    rfl
theorem c_dig {T : Nat} {tx : Nat → Nat} {σ : Sg} {p : Nat} (h : CR T tx σ p) : f_X4_isDigitHere σ 72 = some (if dg T tx p = true then 1 else 0) := by
  have hc := chr_le (p := p) h.2.1
  unfold f_X4_isDigitHere
  rw [c_here h]
  by_cases c : dg T tx p = true
  · have := dg_t c
    have e : chr T tx p = tx p := if_pos this.1
    rw [e, if_pos c]
    simp (disch := omega) only [if_true, if_false, obs, Option.bind_none, Sum.elim_inl, Sum.elim_inr, Option.elim, Nat.reduceAdd, Nat.add_zero, Nat.zero_add, ile, igt, ilt, inl, ieq, ine, iq10, i1z, im1, im11, iml, imle, inm, nI_1, nI_add, isub1, isb, iaddm, pk_mul, si_hit, si_miss, si_oth, wo_oth, zl_0, zl_2, zl_3, zl_4, zl_5, zl_6, zl_7, zl_9, zl_10, zl_32, zl_35, zl_36, zl_48, zl_57, zl_59, zl_60, zl_61, zl_62, zl_63, zl_64, zl_65, zl_99, zl_100, zl_102, zl_109, zl_110, zl_115, zl_116, zl_119, zl_120, zl_121, zl_126, zl_605, zl_720, zl_1957, zl_1000000, a_2, a_3, a_4, a_5, a_6, a_46, a_47, a_55, a_56, a_58, a_68, a_69, a_70, a_73, a_74, a_76, a_77, a_78, a_79, a_80, a_81, a_82, a_83, a_84, a_85, a_86, a_87, a_88, a_89, a_90, a_91, a_92, a_93, a_94, a_95, s_2, s_3, s_4, s_5, s_6, s_46, s_47, s_55, s_56, s_58, s_68, s_69, s_70, s_73, s_74, s_76, s_77, s_78, s_79, s_80, s_81, s_82, s_83, s_84, s_85, s_86, s_87, s_88, s_89, s_90, s_91, s_92, s_93, s_94, s_95, it_5, it_6, it_46, it_47, it_50, it_53, it_55, it_56, it_58, it_63, it_66, it_68, it_69, it_70, it_71, it_74, it_97, se_5, se_6, se_46, se_47, se_50, se_53, se_55, se_56, se_58, se_63, se_66, se_68, se_69, se_70, se_71, se_74, se_97, at_2, at_3, at_4, at_49, at_51, at_52, at_62, at_64, at_65, pu_2, pu_3, pu_4, pu_49, pu_51, pu_52, pu_62, pu_64, pu_65]
  · rw [if_neg c]
    have h1 := dg_f c
    by_cases c1 : chr T tx p < 48
    · simp (disch := omega) only [if_true, if_false, obs, Option.bind_none, Sum.elim_inl, Sum.elim_inr, Option.elim, Nat.reduceAdd, Nat.add_zero, Nat.zero_add, ile, igt, ilt, inl, ieq, ine, iq10, i1z, im1, im11, iml, imle, inm, nI_1, nI_add, isub1, isb, iaddm, pk_mul, si_hit, si_miss, si_oth, wo_oth, zl_0, zl_2, zl_3, zl_4, zl_5, zl_6, zl_7, zl_9, zl_10, zl_32, zl_35, zl_36, zl_48, zl_57, zl_59, zl_60, zl_61, zl_62, zl_63, zl_64, zl_65, zl_99, zl_100, zl_102, zl_109, zl_110, zl_115, zl_116, zl_119, zl_120, zl_121, zl_126, zl_605, zl_720, zl_1957, zl_1000000, a_2, a_3, a_4, a_5, a_6, a_46, a_47, a_55, a_56, a_58, a_68, a_69, a_70, a_73, a_74, a_76, a_77, a_78, a_79, a_80, a_81, a_82, a_83, a_84, a_85, a_86, a_87, a_88, a_89, a_90, a_91, a_92, a_93, a_94, a_95, s_2, s_3, s_4, s_5, s_6, s_46, s_47, s_55, s_56, s_58, s_68, s_69, s_70, s_73, s_74, s_76, s_77, s_78, s_79, s_80, s_81, s_82, s_83, s_84, s_85, s_86, s_87, s_88, s_89, s_90, s_91, s_92, s_93, s_94, s_95, it_5, it_6, it_46, it_47, it_50, it_53, it_55, it_56, it_58, it_63, it_66, it_68, it_69, it_70, it_71, it_74, it_97, se_5, se_6, se_46, se_47, se_50, se_53, se_55, se_56, se_58, se_63, se_66, se_68, se_69, se_70, se_71, se_74, se_97, at_2, at_3, at_4, at_49, at_51, at_52, at_62, at_64, at_65, pu_2, pu_3, pu_4, pu_49, pu_51, pu_52, pu_62, pu_64, pu_65]
    · have h2 : 57 < chr T tx p := by
        have := (chr_lt (T := T) (tx := tx) (p := p) rfl (by omega))
        omega
      simp (disch := omega) only [if_true, if_false, obs, Option.bind_none, Sum.elim_inl, Sum.elim_inr, Option.elim, Nat.reduceAdd, Nat.add_zero, Nat.zero_add, ile, igt, ilt, inl, ieq, ine, iq10, i1z, im1, im11, iml, imle, inm, nI_1, nI_add, isub1, isb, iaddm, pk_mul, si_hit, si_miss, si_oth, wo_oth, zl_0, zl_2, zl_3, zl_4, zl_5, zl_6, zl_7, zl_9, zl_10, zl_32, zl_35, zl_36, zl_48, zl_57, zl_59, zl_60, zl_61, zl_62, zl_63, zl_64, zl_65, zl_99, zl_100, zl_102, zl_109, zl_110, zl_115, zl_116, zl_119, zl_120, zl_121, zl_126, zl_605, zl_720, zl_1957, zl_1000000, a_2, a_3, a_4, a_5, a_6, a_46, a_47, a_55, a_56, a_58, a_68, a_69, a_70, a_73, a_74, a_76, a_77, a_78, a_79, a_80, a_81, a_82, a_83, a_84, a_85, a_86, a_87, a_88, a_89, a_90, a_91, a_92, a_93, a_94, a_95, s_2, s_3, s_4, s_5, s_6, s_46, s_47, s_55, s_56, s_58, s_68, s_69, s_70, s_73, s_74, s_76, s_77, s_78, s_79, s_80, s_81, s_82, s_83, s_84, s_85, s_86, s_87, s_88, s_89, s_90, s_91, s_92, s_93, s_94, s_95, it_5, it_6, it_46, it_47, it_50, it_53, it_55, it_56, it_58, it_63, it_66, it_68, it_69, it_70, it_71, it_74, it_97, se_5, se_6, se_46, se_47, se_50, se_53, se_55, se_56, se_58, se_63, se_66, se_68, se_69, se_70, se_71, se_74, se_97, at_2, at_3, at_4, at_49, at_51, at_52, at_62, at_64, at_65, pu_2, pu_3, pu_4, pu_49, pu_51, pu_52, pu_62, pu_64, pu_65]
theorem c_skip {T : Nat} {tx : Nat → Nat} {σ : Sg} {p : Nat} (h : CR T tx σ p) : f_X4_skipSpaces σ 72 = some (si σ 72 5 (nI (sp T tx p))) := by
  have key : ∀ f p, f = T - p → p ≤ T → lo (f_X4_skipSpaces_L0 72) (si σ 72 5 (nI p)) = some (si σ 72 5 (nI (spF T tx f p))) := by
    intro f
    induction f with
    | zero =>
      intro p hf hp
      have hr := CR_5 h hp
      refine lo_inr ?_
      unfold f_X4_skipSpaces_L0
      rw [hr.2.2.2.1, hr.2.2.2.2.1, if_pos (nI_le (by omega) (by have := h.1; omega))]
      rfl
    | succ f ih =>
      intro p hf hp
      have hr := CR_5 h hp
      have hT := h.1
      unfold spF
      by_cases c : tx p = 32
      · rw [if_pos ⟨by omega, c⟩, lo_inl (s' := si σ 72 5 (nI (p + 1))) ?_, ih (p + 1) (by omega) (by omega)]
        unfold f_X4_skipSpaces_L0
        rw [zl_32, c_here hr, hr.2.2.2.1, hr.2.2.2.2.1, if_neg (nI_ge (by omega) (by omega))]
        unfold chr
        rw [if_pos (show p < T by omega), c]
        simp only [obs]
        rw [if_pos trivial, si_si, nI_s]
      · rw [if_neg (fun z => c z.2)]
        refine lo_inr ?_
        unfold f_X4_skipSpaces_L0
        rw [zl_32, c_here hr, hr.2.2.2.1, hr.2.2.2.2.1, if_neg (nI_ge (by omega) (by omega))]
        unfold chr
        rw [if_pos (show p < T by omega)]
        simp only [obs]
        have := (h.2.1 p (by omega)).2
        rw [if_neg (fun z : nI (tx p) = nI 32 => c ((nI_eq (by omega) (by omega)).mp z))]
  unfold f_X4_skipSpaces
  have := key (T - p) p rfl h.2.2.2.2.2
  rw [si_same h.2.2.2.2.1] at this
  rw [this]
  rfl
def oI (o : Option Nat) : Int32 := match o with
  | none => -1
  | some v => nI v
theorem c_num {T : Nat} {tx : Nat → Nat} {σ : Sg} {p : Nat} (h : CR T tx σ p) : f_X4_readNumber σ 72 = some (oI (rn T tx p).1, si σ 72 5 (nI (rn T tx p).2)) := by
  obtain ⟨p1, p2, p3⟩ := sp_ok (tx := tx) h.2.2.2.2.2
  have hT := h.1
  unfold f_X4_readNumber rn
  rw [c_skip h]
  have hq := CR_5 h p2
  generalize hqe : sp T tx p = q at p1 p2 p3 hq
  simp only [obs]
  rw [c_dig hq, c_here hq]
  by_cases c : dg T tx q = true
  · have hd := dg_t c
    have h5 : (si σ 72 5 (nI q)) 72 5 = nI q := si_hit
    have hq1 := CR_5 h (show q + 1 ≤ T by omega)
    rw [if_pos c, if_pos c]
    simp only [obs]
    rw [if_neg (by decide), h5, si_si, nI_s, c_dig hq1]
    have e : chr T tx q = tx q := if_pos hd.1
    rw [e]
    unfold nend nval
    by_cases c2 : dg T tx (q + 1) = true
    · have hd2 := dg_t c2
      have hq2 := CR_5 h (show q + 2 ≤ T by omega)
      have e2 : chr T tx (q + 1) = tx (q + 1) := if_pos hd2.1
      have h5' : (si σ 72 5 (nI (q + 1))) 72 5 = nI (q + 1) := si_hit
      rw [if_pos c2, if_pos c2, if_pos c2]
      simp only [obs]
      rw [if_neg (by decide), c_here hq1, e2]
      simp only [obs]
      unfold f_X4_readNumber_J61
      rw [h5', si_si, nI_s, c_dig hq2]
      simp only [obs]
      by_cases c3 : dg T tx (q + 1 + 1) = true
      · rw [if_pos c3, if_pos c3, if_neg (by decide)]
        rfl
      · rw [if_neg c3, if_neg c3, if_pos rfl]
        simp only [oI]
        simp (disch := omega) only [if_true, if_false, obs, Option.bind_none, Sum.elim_inl, Sum.elim_inr, Option.elim, Nat.reduceAdd, Nat.add_zero, Nat.zero_add, ile, igt, ilt, inl, ieq, ine, iq10, i1z, im1, im11, iml, imle, inm, nI_1, nI_add, isub1, isb, iaddm, pk_mul, si_hit, si_miss, si_oth, wo_oth, zl_0, zl_2, zl_3, zl_4, zl_5, zl_6, zl_7, zl_9, zl_10, zl_32, zl_35, zl_36, zl_48, zl_57, zl_59, zl_60, zl_61, zl_62, zl_63, zl_64, zl_65, zl_99, zl_100, zl_102, zl_109, zl_110, zl_115, zl_116, zl_119, zl_120, zl_121, zl_126, zl_605, zl_720, zl_1957, zl_1000000, a_2, a_3, a_4, a_5, a_6, a_46, a_47, a_55, a_56, a_58, a_68, a_69, a_70, a_73, a_74, a_76, a_77, a_78, a_79, a_80, a_81, a_82, a_83, a_84, a_85, a_86, a_87, a_88, a_89, a_90, a_91, a_92, a_93, a_94, a_95, s_2, s_3, s_4, s_5, s_6, s_46, s_47, s_55, s_56, s_58, s_68, s_69, s_70, s_73, s_74, s_76, s_77, s_78, s_79, s_80, s_81, s_82, s_83, s_84, s_85, s_86, s_87, s_88, s_89, s_90, s_91, s_92, s_93, s_94, s_95, it_5, it_6, it_46, it_47, it_50, it_53, it_55, it_56, it_58, it_63, it_66, it_68, it_69, it_70, it_71, it_74, it_97, se_5, se_6, se_46, se_47, se_50, se_53, se_55, se_56, se_58, se_63, se_66, se_68, se_69, se_70, se_71, se_74, se_97, at_2, at_3, at_4, at_49, at_51, at_52, at_62, at_64, at_65, pu_2, pu_3, pu_4, pu_49, pu_51, pu_52, pu_62, pu_64, pu_65]
        rw [show 10 * (tx q - 48) + tx (q + 1) - 48 = 10 * (tx q - 48) + (tx (q + 1) - 48) by omega]
    · rw [if_neg c2, if_neg c2, if_neg c2]
      simp only [obs]
      unfold f_X4_readNumber_J61
      rw [if_pos trivial, c_dig hq1]
      simp only [obs]
      rw [if_neg c2, if_neg c2, if_pos rfl]
      simp only [oI]
      simp (disch := omega) only [if_true, if_false, obs, Option.bind_none, Sum.elim_inl, Sum.elim_inr, Option.elim, Nat.reduceAdd, Nat.add_zero, Nat.zero_add, ile, igt, ilt, inl, ieq, ine, iq10, i1z, im1, im11, iml, imle, inm, nI_1, nI_add, isub1, isb, iaddm, pk_mul, si_hit, si_miss, si_oth, wo_oth, zl_0, zl_2, zl_3, zl_4, zl_5, zl_6, zl_7, zl_9, zl_10, zl_32, zl_35, zl_36, zl_48, zl_57, zl_59, zl_60, zl_61, zl_62, zl_63, zl_64, zl_65, zl_99, zl_100, zl_102, zl_109, zl_110, zl_115, zl_116, zl_119, zl_120, zl_121, zl_126, zl_605, zl_720, zl_1957, zl_1000000, a_2, a_3, a_4, a_5, a_6, a_46, a_47, a_55, a_56, a_58, a_68, a_69, a_70, a_73, a_74, a_76, a_77, a_78, a_79, a_80, a_81, a_82, a_83, a_84, a_85, a_86, a_87, a_88, a_89, a_90, a_91, a_92, a_93, a_94, a_95, s_2, s_3, s_4, s_5, s_6, s_46, s_47, s_55, s_56, s_58, s_68, s_69, s_70, s_73, s_74, s_76, s_77, s_78, s_79, s_80, s_81, s_82, s_83, s_84, s_85, s_86, s_87, s_88, s_89, s_90, s_91, s_92, s_93, s_94, s_95, it_5, it_6, it_46, it_47, it_50, it_53, it_55, it_56, it_58, it_63, it_66, it_68, it_69, it_70, it_71, it_74, it_97, se_5, se_6, se_46, se_47, se_50, se_53, se_55, se_56, se_58, se_63, se_66, se_68, se_69, se_70, se_71, se_74, se_97, at_2, at_3, at_4, at_49, at_51, at_52, at_62, at_64, at_65, pu_2, pu_3, pu_4, pu_49, pu_51, pu_52, pu_62, pu_64, pu_65]
  · rw [if_neg c, if_neg c]
    simp only [obs]
    rw [if_pos trivial]
    rfl
theorem c_letter {T : Nat} {tx : Nat → Nat} {σ : Sg} {p : Nat} (h : CR T tx σ p) : f_X4_readLetter σ 72 = some (match ltr (chr T tx p) with | none => (-1, σ) | some w => (nI w, si σ 72 5 (nI (p + 1)))) := by
  have hc := chr_le (p := p) h.2.1
  unfold f_X4_readLetter f_X4_readLetter_J53
  rw [zl_99, zl_100, zl_102, c_here h]
  simp only [obs]
  rw [h.2.2.2.2.1]
  unfold ltr
  by_cases c1 : chr T tx p = 99
  · rw [c1, if_pos rfl, if_pos rfl, nI_s]
    rfl
  · rw [if_neg (fun z : nI (chr T tx p) = nI 99 => c1 ((nI_eq (by omega) (by omega)).mp z)), if_neg c1]
    by_cases c2 : chr T tx p = 100
    · rw [c2, if_pos rfl, if_pos rfl, nI_s]
      rfl
    · rw [if_neg (fun z : nI (chr T tx p) = nI 100 => c2 ((nI_eq (by omega) (by omega)).mp z)), if_neg c2]
      by_cases c3 : chr T tx p = 102
      · rw [c3, if_pos rfl, if_pos rfl, nI_s]
        rfl
      · rw [if_neg (fun z : nI (chr T tx p) = nI 102 => c3 ((nI_eq (by omega) (by omega)).mp z)), if_neg c3]
theorem c_end {T : Nat} {tx : Nat → Nat} {σ : Sg} {w a b v p : Nat} (h : CR T tx σ p) : f_X4_readEnd σ 72 = some (if (cm4 T tx w a b v p).1.isSome = true then 1 else 0, si σ 72 5 (nI (cm4 T tx w a b v p).2)) := by
  obtain ⟨p1, p2, p3⟩ := sp_ok (tx := tx) h.2.2.2.2.2
  have hc := chr_le (p := sp T tx p) h.2.1
  have hq := CR_5 h p2
  unfold f_X4_readEnd cm4
  rw [zl_59, c_skip h]
  simp only [obs]
  rw [c_here hq]
  simp only [obs]
  have h5 : (si σ 72 5 (nI (sp T tx p))) 72 5 = nI (sp T tx p) := si_hit
  by_cases c : chr T tx (sp T tx p) = 59
  · rw [if_pos c, c, if_pos rfl, h5, si_si, nI_s]
    rfl
  · rw [if_neg c, if_neg (fun z : nI (chr T tx (sp T tx p)) = nI 59 => c ((nI_eq (by omega) (by omega)).mp z))]
    rfl
/-- what the class holds behind a command -/
def CW (T : Nat) (tx : Nat → Nat) (σ σ' : Sg) (z : Option (Nat × Nat × Nat × Nat) × Nat) : Prop := CR T tx σ' z.2 ∧ Fr [72] σ σ' ∧ σ' 72 6 = σ 72 6 ∧ ∀ w a b v, z.1 = some (w, a, b, v) → σ' 72 1 = nI w ∧ σ' 72 2 = nI a ∧ σ' 72 3 = nI b ∧ σ' 72 4 = nI v
theorem c_65 {T : Nat} {tx : Nat → Nat} {σ0 σ : Sg} {w a b p : Nat} (h : CR T tx σ p) (hF : Fr [72] σ0 σ) (h6 : σ 72 6 = σ0 72 6) (e1 : σ 72 1 = nI w) (e2 : σ 72 2 = nI a) (e3 : σ 72 3 = nI b) : ∃ σ', ((f_X4_readNumber σ 72).bind fun v8 => f_X4_readCommand_J65 72 v8.1 v8.2) = some (if (cm3 T tx w a b p).1.isSome = true then 1 else 0, σ') ∧ CW T tx σ0 σ' (cm3 T tx w a b p) := by
  obtain ⟨r1, r2, r3⟩ := rn_ok (tx := tx) h.2.2.2.2.2
  rw [c_num h]
  simp only [obs]
  unfold cm3
  rcases hr : rn T tx p with ⟨_ | v, r⟩
  · rw [hr] at r1 r2
    simp only [oI]
    unfold f_X4_readCommand_J65
    rw [si_hit, if_pos rfl]
    exact ⟨_, rfl, CR_j (CR_5 h r2) (by omega) (by omega), (hF.si (by decide)).si (by decide), by rw [si_miss (by omega), si_miss (by omega), h6], fun _ _ _ _ z => by cases z⟩
  · rw [hr] at r1 r2 r3
    have hv := r3 v rfl
    simp only [oI]
    unfold f_X4_readCommand_J65
    have hR := CR_j (j := 4) (x := nI v) (CR_5 h r2) (by omega) (by omega)
    rw [si_hit, if_neg (nI_m1 (by omega)), c_end (w := w) (a := a) (b := b) (v := v) hR]
    simp only [obs]
    have hz := cm4_ok (tx := tx) (w := 0) (a := 0) (b := 0) (v := 0) (p := r) r2 (by omega) (by omega) (by omega) (by omega)
    have hz2 : (cm4 T tx w a b v r).2 ≤ T := by
      have : (cm4 T tx w a b v r).2 = (cm4 T tx 0 0 0 0 r).2 := by unfold cm4; split <;> rfl
      rw [this]
      exact hz.2.1
    have fin : CW T tx σ0 (si (si (si σ 72 5 (nI r)) 72 4 (nI v)) 72 5 (nI (cm4 T tx w a b v r).2)) (cm4 T tx w a b v r) := ⟨CR_5 hR hz2, ((hF.si (by decide)).si (by decide)).si (by decide), by rw [si_miss (by omega), si_miss (by omega), si_miss (by omega), h6], fun w' a' b' v' z => by
      unfold cm4 at z
      split at z
      · cases z
        refine ⟨?_, ?_, ?_, ?_⟩
        · rw [si_miss (by omega), si_miss (by omega), si_miss (by omega), e1]
        · rw [si_miss (by omega), si_miss (by omega), si_miss (by omega), e2]
        · rw [si_miss (by omega), si_miss (by omega), si_miss (by omega), e3]
        · rw [si_miss (by omega), si_hit]
      · cases z⟩
    by_cases c : (cm4 T tx w a b v r).1.isSome = true
    · rw [if_pos c]
      exact ⟨_, rfl, fin⟩
    · rw [if_neg c]
      exact ⟨_, rfl, fin⟩
theorem c_45 {T : Nat} {tx : Nat → Nat} {σ0 σ : Sg} {w a p : Nat} (h : CR T tx σ p) (hF : Fr [72] σ0 σ) (h6 : σ 72 6 = σ0 72 6) (e1 : σ 72 1 = nI w) (e2 : σ 72 2 = nI a) : ∃ σ', ((f_X4_readNumber σ 72).bind fun v8 => f_X4_readCommand_J45 72 v8.1 v8.2) = some (if (cm2 T tx w a p).1.isSome = true then 1 else 0, σ') ∧ CW T tx σ0 σ' (cm2 T tx w a p) := by
  obtain ⟨r1, r2, r3⟩ := rn_ok (tx := tx) h.2.2.2.2.2
  rw [c_num h]
  simp only [obs]
  unfold cm2
  rcases hr : rn T tx p with ⟨_ | v, r⟩
  · rw [hr] at r1 r2
    simp only [oI]
    unfold f_X4_readCommand_J45 f_X4_readCommand_J65
    rw [si_hit, if_pos rfl, si_hit, if_pos rfl]
    exact ⟨_, rfl, CR_j (CR_j (CR_5 h r2) (by omega) (by omega)) (by omega) (by omega), ((hF.si (by decide)).si (by decide)).si (by decide), by rw [si_miss (by omega), si_miss (by omega), si_miss (by omega), h6], fun _ _ _ _ z => by cases z⟩
  · rw [hr] at r1 r2 r3
    have hv := r3 v rfl
    simp only [oI]
    unfold f_X4_readCommand_J45
    rw [si_hit, if_neg (nI_m1 (by omega))]
    exact c_65 (CR_j (j := 3) (x := nI v) (CR_5 h r2) (by omega) (by omega)) ((hF.si (by decide)).si (by decide)) (by rw [si_miss (by omega), si_miss (by omega), h6]) (by rw [si_miss (by omega), si_miss (by omega), e1]) (by rw [si_miss (by omega), si_miss (by omega), e2]) si_hit
theorem c_25 {T : Nat} {tx : Nat → Nat} {σ0 σ : Sg} {w p : Nat} (h : CR T tx σ p) (hF : Fr [72] σ0 σ) (h6 : σ 72 6 = σ0 72 6) (e1 : σ 72 1 = nI w) : ∃ σ', ((f_X4_readNumber σ 72).bind fun v8 => f_X4_readCommand_J25 72 v8.1 v8.2) = some (if (cm1 T tx w p).1.isSome = true then 1 else 0, σ') ∧ CW T tx σ0 σ' (cm1 T tx w p) := by
  obtain ⟨r1, r2, r3⟩ := rn_ok (tx := tx) h.2.2.2.2.2
  rw [c_num h]
  simp only [obs]
  unfold cm1
  rcases hr : rn T tx p with ⟨_ | v, r⟩
  · rw [hr] at r1 r2
    simp only [oI]
    unfold f_X4_readCommand_J25 f_X4_readCommand_J45 f_X4_readCommand_J65
    rw [si_hit, if_pos rfl, si_hit, if_pos rfl, si_hit, if_pos rfl]
    exact ⟨_, rfl, CR_j (CR_j (CR_j (CR_5 h r2) (by omega) (by omega)) (by omega) (by omega)) (by omega) (by omega), (((hF.si (by decide)).si (by decide)).si (by decide)).si (by decide), by rw [si_miss (by omega), si_miss (by omega), si_miss (by omega), si_miss (by omega), h6], fun _ _ _ _ z => by cases z⟩
  · rw [hr] at r1 r2 r3
    have hv := r3 v rfl
    simp only [oI]
    unfold f_X4_readCommand_J25
    rw [si_hit, if_neg (nI_m1 (by omega))]
    exact c_45 (CR_j (j := 2) (x := nI v) (CR_5 h r2) (by omega) (by omega)) ((hF.si (by decide)).si (by decide)) (by rw [si_miss (by omega), si_miss (by omega), h6]) (by rw [si_miss (by omega), si_miss (by omega), e1]) si_hit
theorem c_command {T : Nat} {tx : Nat → Nat} {σ : Sg} {p : Nat} (h : CR T tx σ p) : ∃ σ', f_X4_readCommand σ 72 = some (if (cmd T tx p).1.isSome = true then 1 else 0, σ') ∧ CW T tx σ σ' (cmd T tx p) := by
  unfold f_X4_readCommand cmd
  rw [c_letter h]
  rcases hl : ltr (chr T tx p) with _ | w
  · simp only [obs]
    unfold f_X4_readCommand_J25 f_X4_readCommand_J45 f_X4_readCommand_J65
    rw [si_hit, if_pos rfl, si_hit, if_pos rfl, si_hit, if_pos rfl, si_hit, if_pos rfl]
    exact ⟨_, rfl, CR_j (CR_j (CR_j (CR_j h (by omega) (by omega)) (by omega) (by omega)) (by omega) (by omega)) (by omega) (by omega), (((Fr.rf.si (by decide)).si (by decide)).si (by decide)).si (by decide), by rw [si_miss (by omega), si_miss (by omega), si_miss (by omega), si_miss (by omega)], fun _ _ _ _ z => by cases z⟩
  · obtain ⟨l1, l2⟩ := ltr_ok hl
    have hp := (chr_lt (T := T) (tx := tx) (p := p) rfl l2).1
    simp only [obs]
    rw [si_hit, if_neg (nI_m1 (by omega))]
    exact c_25 (CR_j (j := 1) (x := nI w) (CR_5 h hp) (by omega) (by omega)) ((Fr.rf.si (by decide)).si (by decide)) (by rw [si_miss (by omega), si_miss (by omega)]) si_hit
/-- the next command, with the spaces ahead of it -/
theorem c_next {T : Nat} {tx : Nat → Nat} {σ : Sg} {p : Nat} (h : CR T tx σ p) : ∃ σ', f_X4_nextCommand σ 72 = some (if sp T tx p < T ∧ (cmd T tx (sp T tx p)).1.isSome = true then 1 else 0, σ') ∧ Fr [72] σ σ' ∧ (¬ sp T tx p < T → CR T tx σ' (sp T tx p) ∧ σ' 72 6 = σ 72 6) ∧ (sp T tx p < T → CR T tx σ' (cmd T tx (sp T tx p)).2 ∧ σ' 72 6 = (if (cmd T tx (sp T tx p)).1.isSome = true then 0 else 1) ∧ ∀ w a b v, (cmd T tx (sp T tx p)).1 = some (w, a, b, v) → σ' 72 1 = nI w ∧ σ' 72 2 = nI a ∧ σ' 72 3 = nI b ∧ σ' 72 4 = nI v) := by
  obtain ⟨p1, p2, p3⟩ := sp_ok (tx := tx) h.2.2.2.2.2
  have hT := h.1
  have hq := CR_5 h p2
  unfold f_X4_nextCommand
  rw [c_skip h]
  simp only [obs]
  rw [hq.2.2.2.1, hq.2.2.2.2.1]
  by_cases c : sp T tx p < T
  · rw [if_pos (nI_lt c (by omega))]
    obtain ⟨σ1, r1, r2, r3, r4, r5⟩ := c_command hq
    rw [r1]
    simp only [obs]
    have h6 : ∀ x, CR T tx (si σ1 72 6 x) (cmd T tx (sp T tx p)).2 := fun x => CR_j r2 (by omega) (by omega)
    have hF : ∀ x, Fr [72] σ (si σ1 72 6 x) := fun x => ((Fr.rf.si (by decide)).tr r3 (fun q h => h)).si (by decide)
    have hw : ∀ x w a b v, (cmd T tx (sp T tx p)).1 = some (w, a, b, v) → (si σ1 72 6 x) 72 1 = nI w ∧ (si σ1 72 6 x) 72 2 = nI a ∧ (si σ1 72 6 x) 72 3 = nI b ∧ (si σ1 72 6 x) 72 4 = nI v := fun x w a b v z => by
      obtain ⟨z1, z2, z3, z4⟩ := r5 w a b v z
      rw [si_miss (by omega), si_miss (by omega), si_miss (by omega), si_miss (by omega)]
      exact ⟨z1, z2, z3, z4⟩
    by_cases c2 : (cmd T tx (sp T tx p)).1.isSome = true
    · rw [if_pos c2, if_neg (by decide), if_pos ⟨c, c2⟩]
      refine ⟨si σ1 72 6 0, ?_, hF 0, fun z => absurd c z, fun _ => ⟨h6 0, by rw [si_hit, if_pos c2], hw 0⟩⟩
      unfold f_X4_nextCommand_J30 gb
      rw [si_hit]
      rfl
    · rw [if_neg c2, if_pos rfl, if_neg (fun z => c2 z.2)]
      refine ⟨si σ1 72 6 1, ?_, hF 1, fun z => absurd c z, fun _ => ⟨h6 1, by rw [si_hit, if_neg c2], hw 1⟩⟩
      unfold f_X4_nextCommand_J30 gb
      rw [si_hit]
      rfl
  · rw [if_neg (nI_nlt (by omega) (by omega)), if_neg (fun z => c z.1)]
    exact ⟨_, rfl, Fr.rf.si (by decide), fun _ => ⟨hq, si_miss (by omega)⟩, fun z => absurd z c⟩
/-- the fault of the text -/
def scn (T : Nat) (tx : Nat → Nat) : Nat → Nat → Option Nat
  | 0, _ => none
  | f + 1, p => if sp T tx p < T then (match (cmd T tx (sp T tx p)).1 with | none => some (cmd T tx (sp T tx p)).2 | some _ => scn T tx f (cmd T tx (sp T tx p)).2) else none
theorem c_fault {T : Nat} {tx : Nat → Nat} {σ : Sg} {p : Nat} (h : CR T tx σ p) : ∃ σ', f_X4_firstFault σ 72 = some (oI (scn T tx 120 0), σ') ∧ Fr [72] σ σ' ∧ ∃ q, CR T tx σ' q := by
  have hT := h.1
  unfold f_X4_firstFault f_X4_rewind
  simp only [obs]
  have h0 : CR T tx (si (si σ 72 5 0) 72 6 0) 0 := CR_j (CR_5 h (q := 0) (by omega)) (by omega) (by omega)
  have h60 : (si (si σ 72 5 0) 72 6 0) 72 6 = 0 := si_hit
  have hF0 : Fr [72] σ (si (si σ 72 5 0) 72 6 0) := (Fr.rf.si (by decide)).si (by decide)
  generalize si (si σ 72 5 0) 72 6 0 = σ0 at h0 h60 hF0
  have key : ∀ f c p σ1, c + f = 120 → c ≤ p → CR T tx σ1 p → σ1 72 6 = 0 → Fr [72] σ σ1 → ∃ e, lo (f_X4_firstFault_L6 72) (nI c, σ1) = some e ∧ ∃ σ', Sum.elim (fun e7 => f_X4_firstFault_J28 72 e7) (fun e8 => f_X4_firstFault_J28 72 e8) e = some (oI (scn T tx f p), σ') ∧ Fr [72] σ σ' ∧ ∃ q, CR T tx σ' q := by
    intro f
    induction f with
    | zero =>
      intro c p σ1 hc hp hR h6 hF
      have : c = 120 := by omega
      subst this
      refine ⟨_, lo_inr (show f_X4_firstFault_L6 72 (nI 120, σ1) = some (.inr (.inr σ1)) by unfold f_X4_firstFault_L6; exact if_pos (show (120 : Int32) ≤ nI 120 by decide)), σ1, ?_, hF, p, hR⟩
      simp only [Sum.elim_inr]
      unfold f_X4_firstFault_J28
      rw [h6, if_pos rfl]
      rfl
    | succ f ih =>
      intro c p σ1 hc hp hR h6 hF
      obtain ⟨σ2, r1, r2, r3, r4⟩ := c_next hR
      unfold scn
      by_cases c1 : sp T tx p < T
      · obtain ⟨r5, r6, r7⟩ := r4 c1
        rcases hz : (cmd T tx (sp T tx p)).1 with _ | z
        · rw [if_pos c1]
          rw [hz] at r1 r6
          rw [if_neg (fun z => by cases z.2)] at r1
          refine ⟨.inl σ2, lo_inr ?_, σ2, ?_, hF.tr r2 (fun q h => h), _, r5⟩
          · unfold f_X4_firstFault_L6
            simp only
            rw [zl_120, if_neg (nI_ge (show c < 120 by omega) (by omega)), r1]
            rfl
          · simp only [Sum.elim_inl]
            unfold f_X4_firstFault_J28
            rw [r6, if_neg (by simp), r5.2.2.2.2.1]
            rfl
        · rw [if_pos c1]
          rw [hz] at r1 r6
          rw [if_pos ⟨c1, rfl⟩] at r1
          have hb := (cmd_ok (T := T) (tx := tx) (p := sp T tx p) (by omega)).2 z hz
          have hsp := sp_ok (tx := tx) hR.2.2.2.2.2
          obtain ⟨e, i1, i2⟩ := ih (c + 1) (cmd T tx (sp T tx p)).2 σ2 (by omega) (by omega) r5 (by rw [r6]; rfl) (hF.tr r2 (fun q h => h))
          refine ⟨e, ?_, i2⟩
          rw [lo_inl ?_, i1]
          unfold f_X4_firstFault_L6
          simp only
          rw [zl_120, if_neg (nI_ge (show c < 120 by omega) (by omega)), r1]
          simp only [obs]
          rw [if_neg (show ¬ (1 : Int32) = 0 by decide), nI_s]
      · obtain ⟨r5, r6⟩ := r3 c1
        rw [if_neg c1]
        rw [if_neg (fun z => c1 z.1)] at r1
        refine ⟨.inl σ2, lo_inr ?_, σ2, ?_, hF.tr r2 (fun q h => h), _, r5⟩
        · unfold f_X4_firstFault_L6
          simp only
          rw [zl_120, if_neg (nI_ge (show c < 120 by omega) (by omega)), r1]
          rfl
        · simp only [Sum.elim_inl]
          unfold f_X4_firstFault_J28
          rw [r6, h6, if_pos rfl]
          rfl
  obtain ⟨e, i1, σ', i2, i3, i4⟩ := key 120 0 0 σ0 rfl (Nat.le_refl 0) h0 h60 hF0
  rw [show (0 : Int32) = nI 0 from rfl, i1]
  exact ⟨σ', i2, i3, i4⟩
