-- the children in their order
def Od (c : Nat) (o w : Nat → Nat) (P : Nat → Prop) : Prop := (∀ i j, i < j → j < c → w (o i) * 8 + o i < w (o j) * 8 + o j) ∧ (∀ i, i < c → P (o i)) ∧ ∀ y, P y → ∃ i, i < c ∧ o i = y
def inA (o : Nat → Nat) (p x i : Nat) : Nat := if i < p then o i else if i = p then x else o (i - 1)
theorem inA_lo {o : Nat → Nat} {p x i : Nat} (h : i < p) : inA o p x i = o i := if_pos h
theorem inA_at {o : Nat → Nat} {p x : Nat} : inA o p x p = x := by
  unfold inA
  rw [if_neg (by omega), if_pos rfl]
theorem inA_hi {o : Nat → Nat} {p x i : Nat} (h : p < i) : inA o p x i = o (i - 1) := by
  unfold inA
  rw [if_neg (by omega), if_neg (by omega)]
theorem Od_ins {c p x : Nat} {o w : Nat → Nat} {P : Nat → Prop} (h : Od c o w P) (hx : ∀ y, P y → y < x) (h8 : x < 8) (hp : p ≤ c) (h1 : p = 0 ∨ w (o (p - 1)) ≤ w x) (h2 : ∀ i, p ≤ i → i < c → w x < w (o i)) : Od (c + 1) (inA o p x) w (fun y => P y ∨ y = x) := by
  obtain ⟨a1, a2, a3⟩ := h
  have lo8 : ∀ i, i < c → o i < 8 := fun i hi => by have := hx _ (a2 i hi); omega
  have low : ∀ i, i < p → w (o i) * 8 + o i < w x * 8 + x := fun i hi => by
    have e1 := hx _ (a2 i (by omega))
    have e2 := hx _ (a2 (p - 1) (by omega))
    have e3 := h1.resolve_left (by omega)
    by_cases c1 : i = p - 1
    · rw [c1]; omega
    · have := a1 i (p - 1) (by omega) (by omega)
      omega
  have hig : ∀ i, p ≤ i → i < c → w x * 8 + x < w (o i) * 8 + o i := fun i hi hc => by
    have := h2 i hi hc
    omega
  refine ⟨fun i j hij hj => ?_, fun i hi => ?_, fun y hy => ?_⟩
  · rcases Nat.lt_trichotomy j p with cj | cj | cj
    · rw [inA_lo (by omega), inA_lo cj]
      exact a1 i j hij (by omega)
    · subst cj
      rw [inA_lo hij, inA_at]
      exact low i hij
    · rw [inA_hi cj]
      rcases Nat.lt_trichotomy i p with ci | ci | ci
      · rw [inA_lo ci]
        exact a1 i (j - 1) (by omega) (by omega)
      · subst ci
        rw [inA_at]
        exact hig (j - 1) (by omega) (by omega)
      · rw [inA_hi ci]
        exact a1 (i - 1) (j - 1) (by omega) (by omega)
  · rcases Nat.lt_trichotomy i p with ci | ci | ci
    · rw [inA_lo ci]
      exact Or.inl (a2 i (by omega))
    · subst ci
      rw [inA_at]
      exact Or.inr rfl
    · rw [inA_hi ci]
      exact Or.inl (a2 (i - 1) (by omega))
  · rcases hy with hy | hy
    · obtain ⟨i, hi, e⟩ := a3 y hy
      by_cases ci : i < p
      · exact ⟨i, by omega, by rw [inA_lo ci, e]⟩
      · exact ⟨i + 1, by omega, by rw [inA_hi (by omega), Nat.add_sub_cancel, e]⟩
    · exact ⟨p, by omega, by rw [inA_at, hy]⟩
theorem Od_cong {c : Nat} {o w : Nat → Nat} {P Q : Nat → Prop} (h : Od c o w P) (e : ∀ y, P y ↔ Q y) : Od c o w Q := ⟨h.1, fun i hi => (e _).mp (h.2.1 i hi), fun y hy => h.2.2 y ((e y).mpr hy)⟩
theorem Od_uniq {c c' : Nat} {o o' w : Nat → Nat} {P : Nat → Prop} (h : Od c o w P) (h' : Od c' o' w P) : c = c' ∧ ∀ i, i < c → o i = o' i := by
  have one : ∀ {c c' : Nat} {o o' : Nat → Nat}, Od c o w P → Od c' o' w P → ∀ i, i < c → i < c' ∧ o' i = o i := by
    intro c c' o o' h h' i
    induction i using Nat.strongRecOn with
    | ind i ih =>
      intro hi
      have mono : ∀ {c : Nat} {o : Nat → Nat}, Od c o w P → ∀ a b, a ≤ b → b < c → w (o a) * 8 + o a ≤ w (o b) * 8 + o b := fun {c o} h a b hab hb => by
        by_cases e : a = b
        · rw [e]; exact Nat.le_refl _
        · exact Nat.le_of_lt (h.1 a b (by omega) hb)
      obtain ⟨j', hj', e'⟩ := h'.2.2 _ (h.2.1 i hi)
      have hge : i ≤ j' := by
        by_cases q : i ≤ j'
        · exact q
        · have q1 := (ih j' (by omega) (by omega)).2
          have q2 := h.1 j' i (by omega) hi
          rw [← q1, e'] at q2
          omega
      have hic : i < c' := by omega
      obtain ⟨j, hj, e⟩ := h.2.2 _ (h'.2.1 i hic)
      have hge2 : i ≤ j := by
        by_cases q : i ≤ j
        · exact q
        · have q1 := (ih j (by omega) (by omega)).2
          have q2 := h'.1 j i (by omega) hic
          rw [q1, e] at q2
          omega
      refine ⟨hic, ?_⟩
      by_cases q : i = j
      · rw [q, e, ← q]
      · have q1 := h.1 i j (by omega) hj
        have q2 := mono h' i j' hge hj'
        rw [e'] at q2
        rw [e] at q1
        omega
  have hc : c = c' := by
    have a : c ≤ c' := by
      by_cases q : c = 0
      · omega
      · have := (one h h' (c - 1) (by omega)).1
        omega
    have b : c' ≤ c := by
      by_cases q : c' = 0
      · omega
      · have := (one h' h (c' - 1) (by omega)).1
        omega
    omega
  exact ⟨hc, fun i hi => ((one h h' i hi).2).symm⟩
theorem eV_le {n i k : Nat} {s X : Nat → Int32} (hg : Gd n s) (hX : Fx n X) (hi : i < n) (hk : k < n) (hx : X i = -1) (hl : frl n X k = true) : eV n s X i k ≤ 160000 := (eV_ok hg hX hi hk hx hl).2
theorem c_place {σ : Sg} {n b x c : Nat} {s X : Nat → Int32} {o : Nat → Nat} (hn : n ≤ 6) (hb : b < n) (hE : ∀ k, k < n → frl n X k = true → σ 62 (6 * b + k) = nI (eV n s X b k) ∧ eV n s X b k ≤ 160000) (hx : x < n) (hfx : frl n X x = true) (ho : ∀ i, i < c → o i < n ∧ frl n X (o i) = true) (hc : c < 6) : ∀ p σ', p ≤ c → Fr [71] σ σ' → (∀ i, i < p → σ' 71 i = nI (o i)) → (∀ i, p ≤ i → i < c → σ' 71 (i + 1) = nI (o i) ∧ eV n s X b x < eV n s X b (o i)) → ∃ p' σ2, lo (f_X1_orderLocations_L44 71 61 (nI b) (nI (eV n s X b x))) (nI p, σ') = some (nI p', σ2) ∧ p' ≤ c ∧ Fr [71] σ σ2 ∧ (∀ i, i < p' → σ2 71 i = nI (o i)) ∧ (∀ i, p' ≤ i → i < c → σ2 71 (i + 1) = nI (o i) ∧ eV n s X b x < eV n s X b (o i)) ∧ (p' = 0 ∨ eV n s X b (o (p' - 1)) ≤ eV n s X b x) := by
  intro p
  induction p with
  | zero =>
    intro σ' hp hF h1 h2
    refine ⟨0, σ', lo_inr ?_, hp, hF, h1, h2, Or.inl rfl⟩
    unfold f_X1_orderLocations_L44
    simp only
    rw [zl_0, if_pos (nI_le (Nat.le_refl 0) (by omega))]
  | succ p ih =>
    intro σ' hp hF h1 h2
    obtain ⟨o1, o2⟩ := ho p (by omega)
    obtain ⟨e1, e2⟩ := hE (o p) o1 o2
    obtain ⟨_, e4⟩ := hE x hx hfx
    have r1 := h1 p (by omega)
    have r2 : σ' 62 (6 * b + o p) = nI (eV n s X b (o p)) := by rw [hF.at (by decide), e1]
    by_cases q : eV n s X b (o p) ≤ eV n s X b x
    · refine ⟨p + 1, σ', lo_inr ?_, hp, hF, h1, h2, Or.inr q⟩
      unfold f_X1_orderLocations_L44
      simp (disch := omega) only [if_true, if_false, obs, Option.bind_none, Sum.elim_inl, Sum.elim_inr, Option.elim, Nat.reduceAdd, Nat.add_zero, Nat.zero_add, ile, igt, ilt, inl, ieq, ine, iq10, i1z, im1, im11, iml, imle, inm, nI_1, nI_add, isub1, isb, iaddm, pk_mul, si_hit, si_miss, si_oth, wo_oth, zl_0, zl_2, zl_3, zl_4, zl_5, zl_6, zl_7, zl_9, zl_10, zl_32, zl_35, zl_36, zl_48, zl_57, zl_59, zl_60, zl_61, zl_62, zl_63, zl_64, zl_65, zl_99, zl_100, zl_102, zl_109, zl_110, zl_115, zl_116, zl_119, zl_120, zl_121, zl_126, zl_605, zl_720, zl_1957, zl_1000000, a_2, a_3, a_4, a_5, a_6, a_46, a_47, a_55, a_56, a_58, a_68, a_69, a_70, a_73, a_74, a_76, a_77, a_78, a_79, a_80, a_81, a_82, a_83, a_84, a_85, a_86, a_87, a_88, a_89, a_90, a_91, a_92, a_93, a_94, a_95, s_2, s_3, s_4, s_5, s_6, s_46, s_47, s_55, s_56, s_58, s_68, s_69, s_70, s_73, s_74, s_76, s_77, s_78, s_79, s_80, s_81, s_82, s_83, s_84, s_85, s_86, s_87, s_88, s_89, s_90, s_91, s_92, s_93, s_94, s_95, it_5, it_6, it_46, it_47, it_50, it_53, it_55, it_56, it_58, it_63, it_66, it_68, it_69, it_70, it_71, it_74, it_97, se_5, se_6, se_46, se_47, se_50, se_53, se_55, se_56, se_58, se_63, se_66, se_68, se_69, se_70, se_71, se_74, se_97, at_2, at_3, at_4, at_49, at_51, at_52, at_62, at_64, at_65, pu_2, pu_3, pu_4, pu_49, pu_51, pu_52, pu_62, pu_64, pu_65, r1, r2, Nat.add_sub_cancel]
    · have := ih (si σ' 71 (p + 1) (nI (o p))) (by omega) (hF.si (by decide)) (fun i hi => by rw [si_miss (by omega)]; exact h1 i (by omega)) (fun i hi hc => by
        by_cases ci : i = p
        · subst ci
          exact ⟨si_hit, by omega⟩
        · rw [si_miss (by omega)]
          exact h2 i (by omega) hc)
      obtain ⟨p', σ2, g1, g2⟩ := this
      refine ⟨p', σ2, ?_, g2⟩
      rw [← g1]
      refine lo_inl ?_
      unfold f_X1_orderLocations_L44
      simp (disch := omega) only [if_true, if_false, obs, Option.bind_none, Sum.elim_inl, Sum.elim_inr, Option.elim, Nat.reduceAdd, Nat.add_zero, Nat.zero_add, ile, igt, ilt, inl, ieq, ine, iq10, i1z, im1, im11, iml, imle, inm, nI_1, nI_add, isub1, isb, iaddm, pk_mul, si_hit, si_miss, si_oth, wo_oth, zl_0, zl_2, zl_3, zl_4, zl_5, zl_6, zl_7, zl_9, zl_10, zl_32, zl_35, zl_36, zl_48, zl_57, zl_59, zl_60, zl_61, zl_62, zl_63, zl_64, zl_65, zl_99, zl_100, zl_102, zl_109, zl_110, zl_115, zl_116, zl_119, zl_120, zl_121, zl_126, zl_605, zl_720, zl_1957, zl_1000000, a_2, a_3, a_4, a_5, a_6, a_46, a_47, a_55, a_56, a_58, a_68, a_69, a_70, a_73, a_74, a_76, a_77, a_78, a_79, a_80, a_81, a_82, a_83, a_84, a_85, a_86, a_87, a_88, a_89, a_90, a_91, a_92, a_93, a_94, a_95, s_2, s_3, s_4, s_5, s_6, s_46, s_47, s_55, s_56, s_58, s_68, s_69, s_70, s_73, s_74, s_76, s_77, s_78, s_79, s_80, s_81, s_82, s_83, s_84, s_85, s_86, s_87, s_88, s_89, s_90, s_91, s_92, s_93, s_94, s_95, it_5, it_6, it_46, it_47, it_50, it_53, it_55, it_56, it_58, it_63, it_66, it_68, it_69, it_70, it_71, it_74, it_97, se_5, se_6, se_46, se_47, se_50, se_53, se_55, se_56, se_58, se_63, se_66, se_68, se_69, se_70, se_71, se_74, se_97, at_2, at_3, at_4, at_49, at_51, at_52, at_62, at_64, at_65, pu_2, pu_3, pu_4, pu_49, pu_51, pu_52, pu_62, pu_64, pu_65, r1, r2, Nat.add_sub_cancel]
def frP (n : Nat) (X : Nat → Int32) (k : Nat) (y : Nat) : Prop := y < k ∧ frl n X y = true
theorem c_order {σ : Sg} {n b : Nat} {s X : Nat → Int32} (hg : Gd n s) (hX : Fx n X) (hb : b < n) (hbx : X b = -1) (hB : BL n s X σ 61) : ∃ c o σ', f_X1_orderLocations σ 61 (nI b) 71 = some (nI c, σ') ∧ Fr [71] σ σ' ∧ c ≤ n ∧ Od c o (eV n s X b) (frP n X n) ∧ ∀ i, i < c → σ' 71 i = nI (o i) := by
  have hn := hX.2.1
  obtain ⟨b1, b2, b3, b4, b5, b6⟩ := hB
  have hE : ∀ k, k < n → frl n X k = true → σ 62 (6 * b + k) = nI (eV n s X b k) ∧ eV n s X b k ≤ 160000 := fun k hk hl => by
    obtain ⟨w1, w2⟩ := eV_ok hg hX hb hk hbx hl
    exact ⟨by rw [show (62 : Nat) = 61 + 1 from rfl, b6 b k hb hk hbx hl, w1], w2⟩
  unfold f_X1_orderLocations
  obtain ⟨e, h1, c, o, h2, h3, h4, h5, h6⟩ := lo_tc (f := f_X1_orderLocations_L5 61 (nI b) 71) (fun k st => ∃ c o, st.1 = nI c ∧ st.2.1 = nI k ∧ Fr [71] σ st.2.2 ∧ c ≤ k ∧ Od c o (eV n s X b) (frP n X k) ∧ ∀ i, i < c → st.2.2 71 i = nI (o i)) n (fun e => ∃ c o, e.1 = nI c ∧ Fr [71] σ e.2 ∧ c ≤ n ∧ Od c o (eV n s X b) (frP n X n) ∧ ∀ i, i < c → e.2 71 i = nI (o i)) (fun k st hk ⟨c, o, p1, p2, p3, p4, p5, p6⟩ => by
    obtain ⟨c', k', σ'⟩ := st
    simp only at p1 p2 p3 p6
    subst p1 p2
    have en : σ' 61 2 = nI n := by rw [p3.at (by decide), b1]
    have e4 : σ' 61 4 = nI (FLs n X) := by rw [p3.at (by decide), b3]
    have h64 := FLs_lt hX
    unfold f_X1_orderLocations_L5
    simp only
    rw [en, if_neg (nI_ge hk (by omega)), show 61 + 1 = 62 from rfl, e4, has_ok h64 (by omega), show (FLs n X).testBit k = frl n X k from rfl]
    simp only [obs]
    by_cases hf : frl n X k = true
    · obtain ⟨x1, x2⟩ := hE k hk hf
      have ek : σ' 62 (6 * b + k) = nI (eV n s X b k) := by rw [p3.at (by decide), x1]
      rw [if_pos hf, if_neg (by decide), at_62 (by omega) (by omega)]
      simp only [obs]
      rw [ek]
      obtain ⟨q, σ2, g1, g2, g3, g4, g5, g6⟩ := c_place (σ := σ) (x := k) (c := c) (o := o) hn hb hE hk hf (fun i hi => by
        obtain ⟨y1, y2⟩ := p5.2.1 i hi
        exact ⟨by omega, y2⟩) (by omega) c σ' (Nat.le_refl _) p3 p6 (fun i hi hc => absurd hc (by omega))
      rw [g1]
      simp only [obs]
      rw [se_71 (by omega)]
      simp only [obs]
      unfold f_X1_orderLocations_J101
      refine ⟨_, rfl, c + 1, inA o q k, nI_s c, nI_s k, g3.si (by decide), by omega, ?_, fun i hi => ?_⟩
      · refine Od_cong (Od_ins p5 (fun y hy => hy.1) (by omega) g2 g6 (fun i hi hc => (g5 i hi hc).2)) (fun y => ?_)
        constructor
        · intro z
          rcases z with ⟨z1, z2⟩ | z
          · exact ⟨by omega, z2⟩
          · subst z
            exact ⟨by omega, hf⟩
        · intro ⟨z1, z2⟩
          by_cases z : y = k
          · exact Or.inr z
          · exact Or.inl ⟨by omega, z2⟩
      · show si σ2 71 q (nI k) 71 i = _
        rcases Nat.lt_trichotomy i q with ci | ci | ci
        · rw [si_miss (by omega), inA_lo ci]
          exact g4 i ci
        · subst ci
          rw [si_hit, inA_at]
        · rw [si_miss (by omega), inA_hi ci]
          have := (g5 (i - 1) (by omega) (by omega)).1
          rwa [Nat.sub_add_cancel (by omega)] at this
    · rw [if_neg hf, if_pos rfl]
      unfold f_X1_orderLocations_J101
      refine ⟨_, rfl, c, o, rfl, nI_s k, p3, by omega, Od_cong p5 (fun y => ?_), p6⟩
      constructor
      · exact fun ⟨z1, z2⟩ => ⟨by omega, z2⟩
      · intro ⟨z1, z2⟩
        by_cases z : y = k
        · exact absurd (by rw [← z]; exact z2) hf
        · exact ⟨by omega, z2⟩) (fun st ⟨c, o, p1, p2, p3, p4, p5, p6⟩ => by
    obtain ⟨c', k', σ'⟩ := st
    simp only at p1 p2 p3 p6
    subst p1 p2
    have en : σ' 61 2 = nI n := by rw [p3.at (by decide), b1]
    unfold f_X1_orderLocations_L5
    simp only
    rw [en, if_pos (nI_le (Nat.le_refl n) (by omega))]
    exact ⟨_, rfl, c, o, rfl, p3, p4, p5, p6⟩) (s := (0, 0, σ)) ⟨0, id, zl_0, zl_0, Fr.rf, Nat.le_refl _, ⟨fun i j hij hj => absurd hj (by omega), fun i hi => absurd hi (by omega), fun y hy => absurd hy.1 (by omega)⟩, fun i hi => absurd hi (by omega)⟩
  rw [h1]
  refine ⟨c, o, e.2, ?_, h3, h4, h5, h6⟩
  rw [← h2]
  rfl
theorem c_keep {σ : Sg} {n c : Nat} {o w lw : Nat → Nat} {P : Nat → Prop} (hn : n ≤ 6) (hc : c ≤ n) (hO : Od c o w P) (hP : ∀ y, P y → y < n) (ho : ∀ i, i < c → σ 71 i = nI (o i)) (hl : ∀ y, y < n → σ 68 y = nI (lw y) ∧ lw y < 6) : ∃ c' o' σ', f_X5_keepRepresentatives σ 57 (nI c) = some (nI c', σ') ∧ Fr [71] σ σ' ∧ c' ≤ n ∧ Od c' o' w (fun y => P y ∧ lw y = y) ∧ ∀ i, i < c' → σ' 71 i = nI (o' i) := by
  unfold f_X5_keepRepresentatives
  obtain ⟨e, h1, c', o', h2, h3, h4, h5, h6⟩ := lo_tc (f := f_X5_keepRepresentatives_L4 (nI c) 57) (fun k st => ∃ c' o', st.1 = nI c' ∧ st.2.1 = nI k ∧ Fr [71] σ st.2.2 ∧ c' ≤ k ∧ Od c' o' w (fun y => (∃ i, i < k ∧ o i = y) ∧ lw y = y) ∧ (∀ i, i < c' → st.2.2 71 i = nI (o' i)) ∧ ∀ i, k ≤ i → i < c → st.2.2 71 i = nI (o i)) c (fun e => ∃ c' o', e.1 = nI c' ∧ Fr [71] σ e.2 ∧ c' ≤ c ∧ Od c' o' w (fun y => (∃ i, i < c ∧ o i = y) ∧ lw y = y) ∧ ∀ i, i < c' → e.2 71 i = nI (o' i)) (fun k st hk ⟨c', o', p1, p2, p3, p4, p5, p6, p7⟩ => by
    obtain ⟨c1, k', σ'⟩ := st
    simp only at p1 p2 p3 p6 p7
    subst p1 p2
    have y1 := hP _ (hO.2.1 k hk)
    obtain ⟨l1, l2⟩ := hl _ y1
    have r1 := p7 k (Nat.le_refl k) hk
    have r2 : σ' 68 (o k) = nI (lw (o k)) := by rw [p3.at (by decide), l1]
    unfold f_X5_keepRepresentatives_L4
    simp only
    rw [if_neg (nI_ge hk (by omega)), show 57 + 14 = 71 from rfl, it_71 (by omega)]
    simp only [obs]
    rw [r1, show 57 + 10 + 1 = 68 from rfl, it_68 (by omega)]
    simp only [obs]
    rw [r2]
    by_cases q : lw (o k) = o k
    · rw [if_pos (by rw [q]), se_71 (by omega)]
      simp only [obs]
      unfold f_X5_keepRepresentatives_J49
      refine ⟨_, rfl, c' + 1, fun i => if i = c' then o k else o' i, nI_s c', nI_s k, p3.si (by decide), by omega, ⟨fun i j hij hj => ?_, fun i hi => ?_, fun y ⟨⟨i, hi, e⟩, hy⟩ => ?_⟩, fun i hi => ?_, fun i hi hc' => ?_⟩
      · simp only
        rw [if_neg (show ¬ i = c' by omega)]
        by_cases cj : j = c'
        · rw [if_pos cj]
          obtain ⟨⟨i', hi', e⟩, _⟩ := p5.2.1 i (by omega)
          rw [← e]
          exact hO.1 i' k hi' hk
        · rw [if_neg cj]
          exact p5.1 i j hij (by omega)
      · simp only
        by_cases ci : i = c'
        · rw [if_pos ci]
          exact ⟨⟨k, by omega, rfl⟩, q⟩
        · rw [if_neg ci]
          obtain ⟨⟨i', hi', e⟩, z⟩ := p5.2.1 i (by omega)
          exact ⟨⟨i', by omega, e⟩, z⟩
      · by_cases ci : i = k
        · exact ⟨c', by omega, by show (if c' = c' then o k else o' c') = y; rw [if_pos rfl, ← e, ci]⟩
        · obtain ⟨i', hi', e'⟩ := p5.2.2 y ⟨⟨i, by omega, e⟩, hy⟩
          exact ⟨i', by omega, by simp only; rw [if_neg (by omega), e']⟩
      · show si σ' 71 c' (nI (o k)) 71 i = _
        simp only
        by_cases ci : i = c'
        · rw [if_pos ci, ci, si_hit]
        · rw [if_neg ci, si_miss ci]
          exact p6 i (by omega)
      · show si σ' 71 c' (nI (o k)) 71 i = _
        rw [si_miss (by omega)]
        exact p7 i (by omega) hc'
    · rw [if_neg (fun z => q ((nI_eq (by omega) (by omega)).mp z))]
      unfold f_X5_keepRepresentatives_J49
      refine ⟨_, rfl, c', o', rfl, nI_s k, p3, by omega, Od_cong p5 (fun y => ?_), p6, fun i hi hc' => p7 i (by omega) hc'⟩
      constructor
      · intro ⟨⟨i, hi, e⟩, z⟩
        exact ⟨⟨i, by omega, e⟩, z⟩
      · intro ⟨⟨i, hi, e⟩, z⟩
        by_cases ci : i = k
        · rw [← e, ci] at z
          exact absurd z q
        · exact ⟨⟨i, by omega, e⟩, z⟩) (fun st ⟨c', o', p1, p2, p3, p4, p5, p6, p7⟩ => by
    obtain ⟨c1, k', σ'⟩ := st
    simp only at p1 p2 p3 p6
    subst p1 p2
    unfold f_X5_keepRepresentatives_L4
    simp only
    rw [if_pos (nI_le (Nat.le_refl c) (by omega))]
    exact ⟨_, rfl, c', o', rfl, p3, p4, p5, p6⟩) (s := (0, 0, σ)) ⟨0, id, zl_0, zl_0, Fr.rf, Nat.le_refl _, ⟨fun i j hij hj => absurd hj (by omega), fun i hi => absurd hi (by omega), fun y ⟨⟨i, hi, _⟩, _⟩ => absurd hi (by omega)⟩, fun i hi => absurd hi (by omega), fun i _ hi => ho i hi⟩
  rw [h1]
  refine ⟨c', o', e.2, ?_, h3, by omega, Od_cong h5 (fun y => ?_), h6⟩
  · rw [← h2]
    rfl
  · constructor
    · intro ⟨⟨i, hi, e⟩, z⟩
      exact ⟨by rw [← e]; exact hO.2.1 i hi, z⟩
    · intro ⟨z1, z2⟩
      exact ⟨hO.2.2 y z1, z2⟩
theorem m_place {σ : Sg} {v10 : Int32 × Sg} {c v : Nat} {o w : Nat → Nat} (hw : ∀ i, i < c → w (o i) ≤ 1000000) (hv : v ≤ 1000000) (hv10 : v10.1 = nI v) (hc : c < 6) : ∀ p σ', p ≤ c → Fr [93, 94] σ σ' → (∀ i, i < p → σ' 93 i = nI (o i) ∧ σ' 94 i = nI (w (o i))) → (∀ i, p ≤ i → i < c → (σ' 93 (i + 1) = nI (o i) ∧ σ' 94 (i + 1) = nI (w (o i))) ∧ v < w (o i)) → ∃ p' σ2, lo (f_X9_ranks_L52 75 v10) (nI p, σ') = some (nI p', σ2) ∧ p' ≤ c ∧ Fr [93, 94] σ σ2 ∧ (∀ i, i < p' → σ2 93 i = nI (o i) ∧ σ2 94 i = nI (w (o i))) ∧ (∀ i, p' ≤ i → i < c → (σ2 93 (i + 1) = nI (o i) ∧ σ2 94 (i + 1) = nI (w (o i))) ∧ v < w (o i)) ∧ (p' = 0 ∨ w (o (p' - 1)) ≤ v) := by
  intro p
  induction p with
  | zero =>
    intro σ' hp hF h1 h2
    refine ⟨0, σ', lo_inr ?_, hp, hF, h1, h2, Or.inl rfl⟩
    unfold f_X9_ranks_L52
    simp only
    rw [zl_0, if_pos (nI_le (Nat.le_refl 0) (by omega))]
  | succ p ih =>
    intro σ' hp hF h1 h2
    obtain ⟨r1, r2⟩ := h1 p (by omega)
    have hwp := hw p (by omega)
    by_cases q : w (o p) ≤ v
    · refine ⟨p + 1, σ', lo_inr ?_, hp, hF, h1, h2, Or.inr q⟩
      unfold f_X9_ranks_L52
      simp (disch := omega) only [if_true, if_false, obs, Option.bind_none, Sum.elim_inl, Sum.elim_inr, Option.elim, Nat.reduceAdd, Nat.add_zero, Nat.zero_add, ile, igt, ilt, inl, ieq, ine, iq10, i1z, im1, im11, iml, imle, inm, nI_1, nI_add, isub1, isb, iaddm, pk_mul, si_hit, si_miss, si_oth, wo_oth, zl_0, zl_2, zl_3, zl_4, zl_5, zl_6, zl_7, zl_9, zl_10, zl_32, zl_35, zl_36, zl_48, zl_57, zl_59, zl_60, zl_61, zl_62, zl_63, zl_64, zl_65, zl_99, zl_100, zl_102, zl_109, zl_110, zl_115, zl_116, zl_119, zl_120, zl_121, zl_126, zl_605, zl_720, zl_1957, zl_1000000, a_2, a_3, a_4, a_5, a_6, a_46, a_47, a_55, a_56, a_58, a_68, a_69, a_70, a_73, a_74, a_76, a_77, a_78, a_79, a_80, a_81, a_82, a_83, a_84, a_85, a_86, a_87, a_88, a_89, a_90, a_91, a_92, a_93, a_94, a_95, s_2, s_3, s_4, s_5, s_6, s_46, s_47, s_55, s_56, s_58, s_68, s_69, s_70, s_73, s_74, s_76, s_77, s_78, s_79, s_80, s_81, s_82, s_83, s_84, s_85, s_86, s_87, s_88, s_89, s_90, s_91, s_92, s_93, s_94, s_95, it_5, it_6, it_46, it_47, it_50, it_53, it_55, it_56, it_58, it_63, it_66, it_68, it_69, it_70, it_71, it_74, it_97, se_5, se_6, se_46, se_47, se_50, se_53, se_55, se_56, se_58, se_63, se_66, se_68, se_69, se_70, se_71, se_74, se_97, at_2, at_3, at_4, at_49, at_51, at_52, at_62, at_64, at_65, pu_2, pu_3, pu_4, pu_49, pu_51, pu_52, pu_62, pu_64, pu_65, r1, r2, hv10, Nat.add_sub_cancel]
    · have := ih (si (si σ' 94 (p + 1) (nI (w (o p)))) 93 (p + 1) (nI (o p))) (by omega) ((hF.si (by decide)).si (by decide)) (fun i hi => by rw [si_miss (by omega), si_oth (by omega), si_oth (by omega), si_miss (by omega)]; exact h1 i (by omega)) (fun i hi hc => by
        by_cases ci : i = p
        · subst ci
          exact ⟨⟨si_hit, by rw [si_oth (by omega), si_hit]⟩, by omega⟩
        · rw [si_miss (by omega), si_oth (by omega), si_oth (by omega), si_miss (by omega)]
          exact h2 i (by omega) hc)
      obtain ⟨p', σ2, g1, g2⟩ := this
      refine ⟨p', σ2, ?_, g2⟩
      rw [← g1]
      refine lo_inl ?_
      unfold f_X9_ranks_L52
      simp (disch := omega) only [if_true, if_false, obs, Option.bind_none, Sum.elim_inl, Sum.elim_inr, Option.elim, Nat.reduceAdd, Nat.add_zero, Nat.zero_add, ile, igt, ilt, inl, ieq, ine, iq10, i1z, im1, im11, iml, imle, inm, nI_1, nI_add, isub1, isb, iaddm, pk_mul, si_hit, si_miss, si_oth, wo_oth, zl_0, zl_2, zl_3, zl_4, zl_5, zl_6, zl_7, zl_9, zl_10, zl_32, zl_35, zl_36, zl_48, zl_57, zl_59, zl_60, zl_61, zl_62, zl_63, zl_64, zl_65, zl_99, zl_100, zl_102, zl_109, zl_110, zl_115, zl_116, zl_119, zl_120, zl_121, zl_126, zl_605, zl_720, zl_1957, zl_1000000, a_2, a_3, a_4, a_5, a_6, a_46, a_47, a_55, a_56, a_58, a_68, a_69, a_70, a_73, a_74, a_76, a_77, a_78, a_79, a_80, a_81, a_82, a_83, a_84, a_85, a_86, a_87, a_88, a_89, a_90, a_91, a_92, a_93, a_94, a_95, s_2, s_3, s_4, s_5, s_6, s_46, s_47, s_55, s_56, s_58, s_68, s_69, s_70, s_73, s_74, s_76, s_77, s_78, s_79, s_80, s_81, s_82, s_83, s_84, s_85, s_86, s_87, s_88, s_89, s_90, s_91, s_92, s_93, s_94, s_95, it_5, it_6, it_46, it_47, it_50, it_53, it_55, it_56, it_58, it_63, it_66, it_68, it_69, it_70, it_71, it_74, it_97, se_5, se_6, se_46, se_47, se_50, se_53, se_55, se_56, se_58, se_63, se_66, se_68, se_69, se_70, se_71, se_74, se_97, at_2, at_3, at_4, at_49, at_51, at_52, at_62, at_64, at_65, pu_2, pu_3, pu_4, pu_49, pu_51, pu_52, pu_62, pu_64, pu_65, r1, r2, hv10, Nat.add_sub_cancel]
def RQ (n : Nat) (s X : Nat → Int32) (i2 : Int32) (k y : Nat) : Prop := y < k ∧ frl n X y = true ∧ (i2 = 0 ∨ (symQ n (tS s 37) (tS s 73) X (fac n)).2 y = y)
def LYs (n : Nat) (s : Nat → Int32) (σ : Sg) : Prop := σ 75 14 = nI (TLr n (tS s 37) (tS s 73) (fac n)).length ∧ ∀ m i, m < (TLr n (tS s 37) (tS s 73) (fac n)).length → i < n → σ 86 (6 * m + i) = nI (aN n ((TLr n (tS s 37) (tS s 73) (fac n)).getD m 0) i)
theorem m_ranks {σ : Sg} {n b : Nat} {s X : Nat → Int32} {i2 : Int32} (hs : EqS (σ 76) s) (hg : Gd n s) (hX : Fx n X) (hw : ∀ i, i < 6 → σ 81 i = X i) (hb : b < n) (hbx : X b = -1) (hL : LYs n s σ) : ∃ c o σ', f_X9_ranks σ 75 (nI b) i2 = some (nI c, σ') ∧ Fr [82, 83, 93, 94] σ σ' ∧ c ≤ n ∧ Od c o (eV n s X b) (RQ n s X i2 n) ∧ ∀ i, i < c → σ' 93 i = nI (o i) := by
  have hn := hX.2.1
  have h0 : σ 76 0 = nI n := by rw [hs 0 (by omega), hg.2.2.1]
  unfold f_X9_ranks
  obtain ⟨e, h1, c, o, h2, h3, h4, h5, h6⟩ := lo_tc (f := f_X9_ranks_L5 75 i2 (nI b)) (fun k st => ∃ c o, st.1 = nI c ∧ st.2.1 = nI k ∧ Fr [82, 83, 93, 94] σ st.2.2 ∧ c ≤ k ∧ Od c o (eV n s X b) (RQ n s X i2 k) ∧ ∀ i, i < c → st.2.2 93 i = nI (o i) ∧ st.2.2 94 i = nI (eV n s X b (o i))) n (fun e => ∃ c o, e.1 = nI c ∧ Fr [82, 83, 93, 94] σ e.2 ∧ c ≤ n ∧ Od c o (eV n s X b) (RQ n s X i2 n) ∧ ∀ i, i < c → e.2 93 i = nI (o i) ∧ e.2 94 i = nI (eV n s X b (o i))) (fun k st hk ⟨c, o, p1, p2, p3, p4, p5, p6⟩ => by
    obtain ⟨c', k', σ'⟩ := st
    simp only at p1 p2 p3 p6
    subst p1 p2
    have e76 : σ' 76 = σ 76 := p3.at (by decide)
    have e81 : ∀ i, i < 6 → σ' 81 i = X i := fun i hi => by rw [p3.at (by decide)]; exact hw i hi
    have en : σ' 76 0 = nI n := by rw [e76, h0]
    have hs' : EqS (σ' 76) s := by rw [e76]; exact hs
    have skip : ¬ (frl n X k = true ∧ (i2 = 0 ∨ (symQ n (tS s 37) (tS s 73) X (fac n)).2 k = k)) → ∃ s', f_X9_ranks_J130 (nI c) (nI k) σ' = some (.inl s') ∧ ∃ c o, s'.1 = nI c ∧ s'.2.1 = nI (k + 1) ∧ Fr [82, 83, 93, 94] σ s'.2.2 ∧ c ≤ k + 1 ∧ Od c o (eV n s X b) (RQ n s X i2 (k + 1)) ∧ ∀ i, i < c → s'.2.2 93 i = nI (o i) ∧ s'.2.2 94 i = nI (eV n s X b (o i)) := fun hno => by
      unfold f_X9_ranks_J130
      refine ⟨_, rfl, c, o, rfl, nI_s k, p3, by omega, Od_cong p5 (fun y => ?_), p6⟩
      constructor
      · exact fun ⟨z1, z2⟩ => ⟨by omega, z2⟩
      · intro ⟨z1, z2⟩
        by_cases z : y = k
        · rw [z] at z2
          exact absurd z2 hno
        · exact ⟨by omega, z2⟩
    have put : frl n X k = true → (i2 = 0 ∨ (symQ n (tS s 37) (tS s 73) X (fac n)).2 k = k) → ∃ s', f_X9_ranks_J40 75 (nI b) (nI c) (nI k) σ' = some (.inl s') ∧ ∃ c o, s'.1 = nI c ∧ s'.2.1 = nI (k + 1) ∧ Fr [82, 83, 93, 94] σ s'.2.2 ∧ c ≤ k + 1 ∧ Od c o (eV n s X b) (RQ n s X i2 (k + 1)) ∧ ∀ i, i < c → s'.2.2 93 i = nI (o i) ∧ s'.2.2 94 i = nI (eV n s X b (o i)) := fun hf hr => by
      obtain ⟨σ1, d1, d2⟩ := m_entryOf hs' hg hX e81 hb hk hbx hf
      obtain ⟨w1, w2⟩ := eV_ok hg hX hb hk hbx hf
      rw [w1] at d1
      unfold f_X9_ranks_J40
      rw [d1]
      simp only [obs]
      obtain ⟨q, σ2, g1, g2, g3, g4, g5, g6⟩ := m_place (σ := σ1) (v10 := (nI (eV n s X b k), σ1)) (c := c) (v := eV n s X b k) (o := o) (w := eV n s X b) (fun i hi => by
        obtain ⟨y1, y2, _⟩ := p5.2.1 i hi
        have := eV_le hg hX hb (show o i < n by omega) hbx y2
        omega) (by omega) rfl (by omega) c σ1 (Nat.le_refl _) Fr.rf (fun i hi => by rw [d2.at (by decide), d2.at (by decide)]; exact p6 i hi) (fun i hi hc => absurd hc (by omega))
      rw [g1]
      simp only [obs]
      rw [show 75 + 19 = 94 from rfl, s_94 (by omega)]
      simp only [obs]
      rw [show 75 + 18 = 93 from rfl, s_93 (by omega)]
      simp only [obs]
      unfold f_X9_ranks_J130
      refine ⟨_, rfl, c + 1, inA o q k, nI_s c, nI_s k, (((p3.tr d2 (by decide)).tr g3 (by decide)).si (by decide)).si (by decide), by omega, ?_, fun i hi => ?_⟩
      · refine Od_cong (Od_ins p5 (fun y hy => hy.1) (by omega) g2 g6 (fun i hi hc => (g5 i hi hc).2)) (fun y => ?_)
        constructor
        · intro z
          rcases z with ⟨z1, z2⟩ | z
          · exact ⟨by omega, z2⟩
          · subst z
            exact ⟨by omega, hf, hr⟩
        · intro ⟨z1, z2⟩
          by_cases z : y = k
          · exact Or.inr z
          · exact Or.inl ⟨by omega, z2⟩
      · show si (si σ2 94 q (nI (eV n s X b k))) 93 q (nI k) 93 i = _ ∧ si (si σ2 94 q (nI (eV n s X b k))) 93 q (nI k) 94 i = _
        rcases Nat.lt_trichotomy i q with ci | ci | ci
        · rw [si_miss (by omega), si_oth (by omega), si_oth (by omega), si_miss (by omega), inA_lo ci]
          exact g4 i ci
        · subst ci
          rw [si_hit, si_oth (by omega), si_hit, inA_at]
          exact ⟨rfl, rfl⟩
        · rw [si_miss (by omega), si_oth (by omega), si_oth (by omega), si_miss (by omega), inA_hi ci]
          have := (g5 (i - 1) (by omega) (by omega)).1
          rwa [Nat.sub_add_cancel (by omega)] at this
    unfold f_X9_ranks_L5
    simp only
    rw [show 75 + 1 = 76 from rfl, zl_0, a_76 (by omega)]
    simp only [obs]
    rw [en, if_neg (nI_ge hk (by omega)), m_isTaken en hX e81 hk]
    simp only [obs]
    by_cases hf : frl n X k = true
    · rw [if_pos hf, ← zl_0, if_pos rfl]
      by_cases hi : i2 = 0
      · rw [if_pos hi]
        exact put hf (Or.inl hi)
      · have hlow := m_lowest (σ := σ') (σ1 := σ') (n := n) (k := k) (X := X) en hX e81 rfl ⟨σ', Fr.rf, fun _ _ => rfl, by rw [tbX hs' (by omega), tbX hs' (by omega), p3.at (by decide)]; exact hL.1, by rw [tbX hs' (by omega), tbX hs' (by omega), p3.at (by decide)]; exact hL.2⟩ hk
        rw [tbX hs' (by omega), tbX hs' (by omega)] at hlow
        rw [if_neg hi, hlow]
        simp only [obs]
        have hb6 : (symQ n (tS s 37) (tS s 73) X (fac n)).2 k ≤ k := by
          rw [(sym_TL (n := n) (D := tS s 37) (C := tS s 73) (X := X) (fac n)).2 k]
          have := lwT_le (n := n) (k := k) (X := X) (L := TLr n (tS s 37) (tS s 73) (fac n)) _ (Nat.le_refl _)
          unfold lwT at this
          rwa [List.take_of_length_le (Nat.le_refl _)] at this
        by_cases hl : (symQ n (tS s 37) (tS s 73) X (fac n)).2 k = k
        · rw [if_pos (by rw [hl])]
          exact put hf (Or.inr hl)
        · rw [if_neg (fun z => hl ((nI_eq (by omega) (by omega)).mp z))]
          exact skip (fun z => z.2.elim hi hl)
    · rw [if_neg hf, if_neg (by decide)]
      exact skip (fun z => hf z.1)) (fun st ⟨c, o, p1, p2, p3, p4, p5, p6⟩ => by
    obtain ⟨c', k', σ'⟩ := st
    simp only at p1 p2 p3 p6
    subst p1 p2
    have en : σ' 76 0 = nI n := by rw [p3.at (by decide), h0]
    unfold f_X9_ranks_L5
    simp only
    rw [show 75 + 1 = 76 from rfl, zl_0, a_76 (by omega)]
    simp only [obs]
    rw [en, if_pos (nI_le (Nat.le_refl n) (by omega))]
    exact ⟨_, rfl, c, o, rfl, p3, p4, p5, p6⟩) (s := (0, 0, σ)) ⟨0, id, zl_0, zl_0, Fr.rf, Nat.le_refl _, ⟨fun i j hij hj => absurd hj (by omega), fun i hi => absurd hi (by omega), fun y hy => absurd hy.1 (by omega)⟩, fun i hi => absurd hi (by omega)⟩
  rw [h1]
  refine ⟨c, o, e.2, ?_, h3, h4, h5, fun i hi => (h6 i hi).1⟩
  rw [← h2]
  rfl
