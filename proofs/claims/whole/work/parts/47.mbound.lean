-- the bound: the model
theorem HG_other {n : Nat} {s X : Nat → Int32} (hX : Fx n X) {t : Nat} (ht : t < 64) (h : t ≠ FLs n X) : HG n (FLs n X) X (eV n s X) n t = 1000000 := by
  have h1 := HG_le (n := n) (FL := FLs n X) (X := X) (e := eV n s X) n t
  by_cases c : HG n (FLs n X) X (eV n s X) n t < 1000000
  · obtain ⟨a, b⟩ := HG_sub hX.2.1 n t ht c
    exact absurd (sb_eq t ht (FLs n X) (FLs_lt hX) a (by rw [b, free_eq hX])) h
  · omega
theorem bdN_lt {n : Nat} {s X : Nat → Int32} (hg : Gd n s) (hX : Fx n X) : bdN n s X < 1000000 := by
  have h := HG_small hg hX n (FLs n X) (Nat.le_refl n) (FLs_lt hX) (fun l hl z => z) (free_eq hX)
  have hp := (pc_key (FLs n X) (FLs_lt hX)).2
  have : pc (FLs n X) * 160000 ≤ 6 * 160000 := Nat.mul_le_mul_right _ hp
  unfold bdN
  omega
theorem bit_if : ∀ t, t < 64 → ∀ k, k < 6 → (((nI t >>> (nI k &&& 31)) &&& (1 : Int32)) = 1 ↔ t.testBit k = true) := has_key
theorem m_adds {σ : Sg} {n i : Nat} {s X : Nat → Int32} (hs : EqS (σ 76) s) (hg : Gd n s) (hX : Fx n X) (hw : ∀ i, i < 6 → σ 81 i = X i) (hi : i < n) (hx : X i = -1) (hS : ∀ t, t < 64 → σ 84 t = nI (HG n (FLs n X) X (eV n s X) i t)) : ∃ σ', f_X9_addsFacility σ 75 (nI i) = some σ' ∧ Fr [82, 83, 84, 85] σ σ' ∧ ∀ t, t < 64 → σ' 84 t = nI (HG n (FLs n X) X (eV n s X) (i + 1) t) := by
  have hn := hX.2.1
  have h0 : σ 76 0 = nI n := by rw [hs 0 (by omega), hg.2.2.1]
  unfold f_X9_addsFacility
  obtain ⟨e, a1, a2, a3⟩ := lo_it (f := f_X9_addsFacility_L2 75 (nI i)) (fun k σ' => Fr [82, 83, 85] σ σ' ∧ ∀ k', k' < k → σ' 85 k' = nI (if frl n X k' = true then eV n s X i k' else 1000000)) n (fun e => Fr [82, 83, 85] σ e ∧ ∀ k', k' < n → e 85 k' = nI (if frl n X k' = true then eV n s X i k' else 1000000)) (fun k σ' hk ⟨e1, e2⟩ => by
    have s1 : EqS (σ' 76) s := fun q hq => by rw [e1.at (by decide)]; exact hs q hq
    have w1 : ∀ i, i < 6 → σ' 81 i = X i := fun i hi => by rw [e1.at (by decide), hw i hi]
    have h1 : σ' 76 0 = nI n := by rw [e1.at (by decide), h0]
    unfold f_X9_addsFacility_L2 f_X9_addsFacility_J36
    simp only
    rw [m_n h1]
    simp only [obs]
    rw [if_neg (nI_ge hk (by omega)), m_isTaken h1 hX w1 hk]
    simp only [obs]
    by_cases c : frl n X k = true
    · obtain ⟨σ2, t1, t2⟩ := m_entryOf s1 hg hX w1 hi hk hx c
      rw [if_pos c, if_pos rfl, t1]
      simp only [obs]
      rw [show 75 + 10 = 85 from rfl, s_85 (by omega)]
      simp only [obs]
      rw [nI_s]
      refine ⟨_, rfl, (e1.tr t2 (by decide)).si (by decide), fun k' hk' => ?_⟩
      by_cases q : k' = k
      · rw [q, si_hit, if_pos c]
        exact (eV_ok hg hX hi hk hx c).1
      · rw [si_miss q, t2.at (by decide)]
        exact e2 k' (by omega)
    · rw [if_neg c, if_neg (show ¬ (1 : Int32) = 0 by decide), show 75 + 10 = 85 from rfl, s_85 (by omega)]
      simp only [obs]
      rw [nI_s]
      refine ⟨_, rfl, e1.si (by decide), fun k' hk' => ?_⟩
      by_cases q : k' = k
      · rw [q, si_hit, if_neg c]
        rfl
      · rw [si_miss q]
        exact e2 k' (by omega)) (fun σ' ⟨e1, e2⟩ => by
    unfold f_X9_addsFacility_L2
    simp only
    rw [m_n (by rw [e1.at (by decide), h0])]
    simp only [obs]
    rw [if_pos (nI_le (Nat.le_refl n) (by omega))]
    exact ⟨_, rfl, e1, e2⟩) (σ := σ) (z := 0) rfl ⟨Fr.rf, fun k' h => by omega⟩
  rw [a1]
  simp only [obs]
  have hS2 : ∀ t, t < 64 → e 84 t = nI (HG n (FLs n X) X (eV n s X) i t) := fun t ht => by rw [a2.at (by decide), hS t ht]
  have inner : ∀ (t : Nat) (σ' : Sg), t < 64 → Fr [84] e σ' → (∀ r, r < t → σ' 84 r = nI (HG n (FLs n X) X (eV n s X) i r)) → lo (f_X9_addsFacility_L56 (nI t, σ') 75) ((1000000 : Int32), (0 : Int32)) = some (nI (stG n (FLs n X) (eV n s X i) (HG n (FLs n X) X (eV n s X) i) t)) := by
    intro t σ' ht hF hh
    have h1 : σ' 76 0 = nI n := by rw [hF.at (by decide), a2.at (by decide), h0]
    have r85 : ∀ k, k < n → σ' 85 k = nI (if frl n X k = true then eV n s X i k else 1000000) := fun k hk => by rw [hF.at (by decide), a3 k hk]
    unfold stG
    generalize hP : (fun k => t.testBit k && (FLs n X).testBit k && decide (HG n (FLs n X) X (eV n s X) i (t - 2 ^ k) < 1000000)) = P
    refine lo_run (fun k => (nI (miF P (fun k => HG n (FLs n X) X (eV n s X) i (t - 2 ^ k) + eV n s X i k) k), nI k)) (n := n) (fun k hk => ?_) ?_ rfl
    · have hst : miF P (fun k => HG n (FLs n X) X (eV n s X) i (t - 2 ^ k) + eV n s X i k) (k + 1) = if P k = true then min (miF P (fun k => HG n (FLs n X) X (eV n s X) i (t - 2 ^ k) + eV n s X i k) k) (HG n (FLs n X) X (eV n s X) i (t - 2 ^ k) + eV n s X i k) else miF P (fun k => HG n (FLs n X) X (eV n s X) i (t - 2 ^ k) + eV n s X i k) k := rfl
      have hle := miF_le (P := P) (v := fun k => HG n (FLs n X) X (eV n s X) i (t - 2 ^ k) + eV n s X i k) k
      have hGle := HG_le (n := n) (FL := FLs n X) (X := X) (e := eV n s X) i (t - 2 ^ k)
      unfold f_X9_addsFacility_L56 f_X9_addsFacility_J142 f_X9_addsFacility_J143
      simp only
      rw [m_n h1]
      simp only [obs]
      rw [if_neg (nI_ge hk (by omega)), hst]
      by_cases c : t.testBit k = true
      · obtain ⟨k1, k2, k3, k4⟩ := sb_key t ht k (by omega) c
        rw [if_pos ((bit_if t ht k (by omega)).mpr c), show 75 + 10 = 85 from rfl, show 75 + 9 = 84 from rfl, a_85 (by omega), r85 k hk]
        simp only [obs]
        by_cases c2 : frl n X k = true
        · obtain ⟨v1, v2⟩ := eV_ok hg hX hi hk hx c2
          rw [if_pos c2, zl_1000000, if_neg (nI_ge (by omega) (by omega)), k2, a_84 (by omega), hh _ k3]
          simp only [obs]
          by_cases c3 : HG n (FLs n X) X (eV n s X) i (t - 2 ^ k) < 1000000
          · have hp : P k = true := by
              have c2' : (FLs n X).testBit k = true := c2
              rw [← hP]
              simp [c, c2', c3]
            rw [if_neg (nI_ge c3 (by omega)), if_pos hp, nI_add, nI_s]
            by_cases c4 : miF P (fun k => HG n (FLs n X) X (eV n s X) i (t - 2 ^ k) + eV n s X i k) k ≤ HG n (FLs n X) X (eV n s X) i (t - 2 ^ k) + eV n s X i k
            · rw [if_pos (nI_le c4 (by omega)), Nat.min_eq_left c4]
            · rw [if_neg (nI_ge (by omega) (by omega)), Nat.min_eq_right (by omega)]
          · have hp : ¬ P k = true := by rw [← hP]; simp [c3]
            rw [if_pos (nI_le (by omega) (by omega)), if_neg hp, nI_s]
        · have c2' : ¬ (FLs n X).testBit k = true := c2
          have hp : ¬ P k = true := by rw [← hP]; simp [c2']
          rw [if_neg c2, zl_1000000, if_pos (nI_le (by omega) (by omega)), if_neg hp, nI_s]
      · have hp : ¬ P k = true := by rw [← hP]; simp [c]
        rw [if_neg (fun z => c ((bit_if t ht k (by omega)).mp z)), if_neg hp, nI_s]
    · unfold f_X9_addsFacility_L56
      simp only
      rw [m_n h1]
      simp only [obs]
      rw [if_pos (nI_le (Nat.le_refl n) (by omega))]
  obtain ⟨e', b1, b2, b3⟩ := lo_tc (f := f_X9_addsFacility_L46 75) (fun m z => z.1 = (if m = 64 then -1 else nI (63 - m)) ∧ Fr [84] e z.2 ∧ (∀ r, r < 64 - m → z.2 84 r = nI (HG n (FLs n X) X (eV n s X) i r)) ∧ ∀ r, 64 - m ≤ r → r < 64 → z.2 84 r = nI (stG n (FLs n X) (eV n s X i) (HG n (FLs n X) X (eV n s X) i) r)) 64 (fun e' => Fr [84] e e' ∧ ∀ r, r < 64 → e' 84 r = nI (stG n (FLs n X) (eV n s X i) (HG n (FLs n X) X (eV n s X) i) r)) (fun m z hm ⟨e1, e2, e3, e4⟩ => by
    obtain ⟨t', σ2⟩ := z
    simp only at e1 e2 e3 e4
    rw [if_neg (by omega)] at e1
    subst e1
    unfold f_X9_addsFacility_L46
    simp only
    rw [if_neg (nI_pos (by omega)), inner (63 - m) σ2 (by omega) e2 (fun r hr => e3 r (by omega))]
    simp only [obs]
    rw [show 75 + 9 = 84 from rfl, s_84 (by omega)]
    simp only [obs]
    refine ⟨_, rfl, ?_, e2.si (by decide), fun r hr => ?_, fun r h1 h2 => ?_⟩
    · simp only
      by_cases q : m = 63
      · subst q
        decide
      · rw [if_neg (by omega), iaddm (by omega), show 63 - m - 1 = 63 - (m + 1) by omega]
    · simp only
      rw [si_miss (by omega)]
      exact e3 r (by omega)
    · simp only
      by_cases q : r = 63 - m
      · rw [q, si_hit]
      · rw [si_miss q]
        exact e4 r (by omega) h2) (fun z ⟨e1, e2, e3, e4⟩ => by
    obtain ⟨t', σ2⟩ := z
    simp only at e1 e2 e3 e4
    rw [if_pos trivial] at e1
    subst e1
    unfold f_X9_addsFacility_L46
    simp only
    rw [if_pos (show (-1 : Int32) < 0 by decide)]
    exact ⟨_, rfl, e2, fun r hr => e4 r (by omega) hr⟩) (s := (63, e)) ⟨rfl, Fr.rf, fun r hr => hS2 r (by omega), fun r h1 h2 => by omega⟩
  rw [b1]
  refine ⟨e', rfl, fun q hq => ?_, fun t ht => ?_⟩
  · rw [b2 q (fun z => hq (by simp at z; simp [z])), a2 q (fun z => hq (by simp at z ⊢; omega))]
  · rw [b3 t ht]
    show _ = nI ((if X i = -1 then stG n (FLs n X) (eV n s X i) (HG n (FLs n X) X (eV n s X) i) else HG n (FLs n X) X (eV n s X) i) t)
    rw [if_pos hx]
theorem m_boundOf {σ : Sg} {n : Nat} {s X : Nat → Int32} (hs : EqS (σ 76) s) (hg : Gd n s) (hX : Fx n X) (hw : ∀ i, i < 6 → σ 81 i = X i) : ∃ σ', f_X9_boundOf σ 75 = some (bdS n s X, σ') ∧ Fr [82, 83, 84, 85] σ σ' := by
  have hn := hX.2.1
  have h0 : σ 76 0 = nI n := by rw [hs 0 (by omega), hg.2.2.1]
  unfold f_X9_boundOf
  rw [lo_wo (z := 0) (f := f_X9_boundOf_L2 75) (k := 84) (o := 0) (n := 64) (v := fun t => nI (HG n (FLs n X) X (eV n s X) 0 t)) (fun j hj => by
    unfold f_X9_boundOf_L2 f_X9_boundOf_J23
    simp only
    rw [zl_64, if_neg (nI_ge hj (by omega)), show 75 + 9 = 84 from rfl]
    by_cases c : j = 0
    · rw [if_pos (show nI j = 0 by rw [c]; rfl), s_84 (by omega)]
      simp only [obs]
      rw [nI_s, wo_s0 (by rw [c]; rfl)]
    · rw [if_neg (nI_ne0 (by omega) (by omega)), s_84 (by omega)]
      simp only [obs]
      rw [nI_s, wo_s0 (by
        show (1000000 : Int32) = nI (if j = 0 then 0 else 1000000)
        rw [if_neg c]
        rfl)]) (by
    unfold f_X9_boundOf_L2
    simp only
    rw [zl_64, if_pos (nI_le (Nat.le_refl _) (by omega))]) rfl]
  simp only [obs]
  obtain ⟨e, a1, a2, a3⟩ := lo_it (f := f_X9_boundOf_L32 75) (fun i σ' => Fr [82, 83, 84, 85] σ σ' ∧ ∀ t, t < 64 → σ' 84 t = nI (HG n (FLs n X) X (eV n s X) i t)) n (fun e => Fr [82, 83, 84, 85] σ e ∧ ∀ t, t < 64 → e 84 t = nI (HG n (FLs n X) X (eV n s X) n t)) (fun i σ' hi ⟨e1, e2⟩ => by
    have s1 : EqS (σ' 76) s := fun q hq => by rw [e1.at (by decide)]; exact hs q hq
    have w1 : ∀ i, i < 6 → σ' 81 i = X i := fun i hi => by rw [e1.at (by decide), hw i hi]
    unfold f_X9_boundOf_L32 f_X9_boundOf_J57
    simp only
    rw [m_n (by rw [e1.at (by decide), h0])]
    simp only [obs]
    rw [if_neg (nI_ge hi (by omega)), show 75 + 6 = 81 from rfl, a_81 (by omega), w1 i (by omega)]
    simp only [obs]
    by_cases c : X i = -1
    · obtain ⟨σ2, t1, t2, t3⟩ := m_adds s1 hg hX w1 hi c e2
      rw [if_pos c, t1]
      simp only [obs]
      rw [nI_s]
      exact ⟨_, rfl, e1.tr t2 (fun q h => h), t3⟩
    · rw [if_neg c, nI_s]
      refine ⟨_, rfl, e1, fun t ht => ?_⟩
      rw [e2 t ht]
      show _ = nI ((if X i = -1 then stG n (FLs n X) (eV n s X i) (HG n (FLs n X) X (eV n s X) i) else HG n (FLs n X) X (eV n s X) i) t)
      rw [if_neg c]) (fun σ' ⟨e1, e2⟩ => by
    unfold f_X9_boundOf_L32
    simp only
    rw [m_n (by rw [e1.at (by decide), h0])]
    simp only [obs]
    rw [if_pos (nI_le (Nat.le_refl n) (by omega))]
    exact ⟨_, rfl, e1, e2⟩) (σ := wo σ 84 0 64 (fun t => nI (HG n (FLs n X) X (eV n s X) 0 t))) (z := 0) rfl ⟨wo_fr Fr.rf (by decide), fun t ht => wo_in0 ht⟩
  rw [a1]
  simp only [obs]
  have hFl := FLs_lt hX
  have hbd := bdN_lt hg hX
  rw [lo_run (f := f_X9_boundOf_L68 e 75) (fun t => (nI (if FLs n X < t then bdN n s X else 1000000), nI t)) (n := 64) (e := nI (bdN n s X)) (fun t ht => by
    unfold f_X9_boundOf_L68 f_X9_boundOf_J94
    simp only
    rw [zl_64, if_neg (nI_ge ht (by omega)), show 75 + 9 = 84 from rfl, a_84 (by omega), a3 t ht]
    simp only [obs]
    rw [nI_s]
    by_cases c : t = FLs n X
    · have e1 : HG n (FLs n X) X (eV n s X) n t = bdN n s X := by rw [c]; rfl
      rw [e1, if_neg (show ¬ FLs n X < t by omega), if_pos (show FLs n X < t + 1 by omega), if_neg (nI_ge (by omega) (by omega))]
    · have e1 := HG_other (s := s) hX ht c
      rw [e1]
      by_cases c2 : FLs n X < t
      · rw [if_pos c2, if_pos (show FLs n X < t + 1 by omega), if_pos (nI_le (by omega) (by omega))]
      · rw [if_neg c2, if_neg (show ¬ FLs n X < t + 1 by omega), if_pos (nI_le (by omega) (by omega))]) (by
    unfold f_X9_boundOf_L68
    simp only
    rw [zl_64, if_pos (nI_le (Nat.le_refl _) (by omega)), if_pos (show FLs n X < 64 from hFl)]) (s := (1000000, 0)) rfl]
  simp only [obs]
  rw [m_fixedPart (fun q hq => by rw [a2.at (by decide)]; exact hs q hq) hg hX (fun i hi => by rw [a2.at (by decide), hw i hi])]
  exact ⟨e, rfl, a2⟩
-- the regret
def rF (FL : Nat) (e : Nat → Nat) : Nat → Nat × Nat
  | 0 => (1000000, 1000000)
  | k + 1 => if FL.testBit k = true then (min (rF FL e k).1 (e k), min (rF FL e k).2 (max (rF FL e k).1 (e k))) else rF FL e k
theorem rF_ok {FL : Nat} {e : Nat → Nat} : ∀ k, (rF FL e k).1 ≤ (rF FL e k).2 ∧ (rF FL e k).2 ≤ 1000000
  | 0 => ⟨Nat.le_refl _, Nat.le_refl _⟩
  | k + 1 => by
    obtain ⟨h1, h2⟩ := rF_ok (FL := FL) (e := e) k
    unfold rF
    split
    · simp only
      omega
    · exact ⟨h1, h2⟩
def rgS (n : Nat) (s X : Nat → Int32) (i : Nat) : Nat := if cnt (frf X) n = 1 then 1000000 else (rF (FLs n X) (eV n s X i) n).2 - (rF (FLs n X) (eV n s X i) n).1
theorem rgS_le {n : Nat} {s X : Nat → Int32} {i : Nat} : rgS n s X i ≤ 1000000 := by
  have := rF_ok (FL := FLs n X) (e := eV n s X i) n
  unfold rgS
  split <;> omega
theorem c_regretOf {σ : Sg} {kb n i : Nat} {s X : Nat → Int32} (hb : kb = 48 ∨ kb = 61) (hg : Gd n s) (hX : Fx n X) (hB : BL n s X σ kb) (hi : i < n) (hx : X i = -1) : f_X1_regretOf σ kb (nI i) = some (nI (rgS n s X i)) := by
  have hn := hX.2.1
  obtain ⟨l1, l2, l3, l4, l5⟩ := kb_ln kb hb
  obtain ⟨b1, b2, b3, b4, b5, b6⟩ := hB
  have hcl := cnt_le (P := frf X) n
  have hF := FLs_lt hX
  unfold f_X1_regretOf rgS
  rw [b4]
  by_cases c : cnt (frf X) n = 1
  · rw [if_pos c, if_pos (show nI (cnt (frf X) n) = 1 by rw [c]; rfl)]
    rfl
  · rw [if_neg c, show (1 : Int32) = nI 1 from rfl, if_neg (fun z : nI (cnt (frf X) n) = nI 1 => c ((nI_eq (by omega) (by omega)).mp z))]
    rw [lo_run (f := f_X1_regretOf_L20 σ kb (nI i)) (fun k => (nI (rF (FLs n X) (eV n s X i) k).1, nI (rF (FLs n X) (eV n s X i) k).2, nI k)) (n := n) (e := (nI (rF (FLs n X) (eV n s X i) n).1, nI (rF (FLs n X) (eV n s X i) n).2)) (fun k hk => by
      obtain ⟨r1, r2⟩ := rF_ok (FL := FLs n X) (e := eV n s X i) k
      have hst : rF (FLs n X) (eV n s X i) (k + 1) = if (FLs n X).testBit k = true then (min (rF (FLs n X) (eV n s X i) k).1 (eV n s X i k), min (rF (FLs n X) (eV n s X i) k).2 (max (rF (FLs n X) (eV n s X i) k).1 (eV n s X i k))) else rF (FLs n X) (eV n s X i) k := rfl
      unfold f_X1_regretOf_L20 f_X1_regretOf_J71
      simp only
      rw [b1, if_neg (nI_ge hk (by omega)), b3, has_ok hF (by omega), hst]
      simp only [obs]
      by_cases c2 : (FLs n X).testBit k = true
      · obtain ⟨v1, v2⟩ := eV_ok hg hX hi hk hx c2
        rw [if_pos c2, if_pos c2, if_neg (show ¬ (1 : Int32) = 0 by decide), at_ok (by omega) (ln_le _), b6 i k hi hk hx c2, v1]
        simp only [obs]
        rw [mn_nI (by omega) (by omega), mx_nI (by omega) (by omega), mn_nI (by omega) (by omega), nI_s]
      · rw [if_neg c2, if_neg c2, if_pos rfl, nI_s]) (by
      unfold f_X1_regretOf_L20
      simp only
      rw [b1, if_pos (nI_le (Nat.le_refl n) (by omega))]) (s := (1000000, 1000000, 0)) rfl]
    simp only [obs]
    have := rF_ok (FL := FLs n X) (e := eV n s X i) n
    rw [isb (by omega)]
theorem m_regretOf {σ : Sg} {n i : Nat} {s X : Nat → Int32} (hs : EqS (σ 76) s) (hg : Gd n s) (hX : Fx n X) (hw : ∀ i, i < 6 → σ 81 i = X i) (hi : i < n) (hx : X i = -1) : ∃ σ', f_X9_regretOf σ 75 (nI i) = some (nI (rgS n s X i), σ') ∧ Fr [82, 83] σ σ' := by
  have hn := hX.2.1
  have h0 : σ 76 0 = nI n := by rw [hs 0 (by omega), hg.2.2.1]
  unfold f_X9_regretOf
  obtain ⟨e, a1, a2, a3, a4, a5⟩ := lo_tc (f := f_X9_regretOf_L12 75 (nI i)) (fun k z => z.1 = nI (rF (FLs n X) (eV n s X i) k).1 ∧ z.2.1 = nI (rF (FLs n X) (eV n s X i) k).2 ∧ z.2.2.1 = nI (cnt (frl n X) k) ∧ z.2.2.2.1 = nI k ∧ Fr [82, 83] σ z.2.2.2.2) n (fun e => e.1 = nI (rF (FLs n X) (eV n s X i) n).1 ∧ e.2.1 = nI (rF (FLs n X) (eV n s X i) n).2 ∧ e.2.2.1 = nI (cnt (frl n X) n) ∧ Fr [82, 83] σ e.2.2.2) (fun k z hk ⟨e1, e2, e3, e4, e5⟩ => by
    obtain ⟨z1, z2, z3, z4, σ2⟩ := z
    simp only at e1 e2 e3 e4 e5
    subst e1 e2 e3 e4
    obtain ⟨r1, r2⟩ := rF_ok (FL := FLs n X) (e := eV n s X i) k
    have hst : rF (FLs n X) (eV n s X i) (k + 1) = if (FLs n X).testBit k = true then (min (rF (FLs n X) (eV n s X i) k).1 (eV n s X i k), min (rF (FLs n X) (eV n s X i) k).2 (max (rF (FLs n X) (eV n s X i) k).1 (eV n s X i k))) else rF (FLs n X) (eV n s X i) k := rfl
    have hct : cnt (frl n X) (k + 1) = cnt (frl n X) k + if frl n X k = true then 1 else 0 := rfl
    have s1 : EqS (σ2 76) s := fun q hq => by rw [e5.at (by decide)]; exact hs q hq
    have w1 : ∀ i, i < 6 → σ2 81 i = X i := fun i hi => by rw [e5.at (by decide), hw i hi]
    have h1 : σ2 76 0 = nI n := by rw [e5.at (by decide), h0]
    unfold f_X9_regretOf_L12 f_X9_regretOf_J63 f_X9_regretOf_J76 f_X9_regretOf_J80
    simp only
    rw [m_n h1]
    simp only [obs]
    rw [if_neg (nI_ge hk (by omega)), m_isTaken h1 hX w1 hk, hst, hct]
    simp only [obs]
    by_cases c : frl n X k = true
    · have c' : (FLs n X).testBit k = true := c
      obtain ⟨σ3, t1, t2⟩ := m_entryOf s1 hg hX w1 hi hk hx c
      obtain ⟨v1, v2⟩ := eV_ok hg hX hi hk hx c
      rw [if_pos c, if_pos c', if_pos c, if_pos rfl, t1, v1]
      simp only [obs]
      have F3 := e5.tr t2 (fun q h => h)
      by_cases d1 : (rF (FLs n X) (eV n s X i) k).1 ≤ eV n s X i k
      · rw [if_pos (nI_le d1 (by omega))]
        by_cases d2 : (rF (FLs n X) (eV n s X i) k).2 ≤ eV n s X i k
        · rw [if_pos (nI_le d2 (by omega)), if_pos (nI_le d1 (by omega))]
          refine ⟨_, rfl, ?_, ?_, nI_s _, nI_s k, F3⟩
          · simp only; rw [Nat.min_eq_left d1]
          · simp only; rw [Nat.max_eq_right d1, Nat.min_eq_left d2]
        · rw [if_neg (nI_ge (by omega) (by omega)), if_pos (nI_le d1 (by omega))]
          refine ⟨_, rfl, ?_, ?_, nI_s _, nI_s k, F3⟩
          · simp only; rw [Nat.min_eq_left d1]
          · simp only; rw [Nat.max_eq_right d1, Nat.min_eq_right (by omega)]
      · rw [if_neg (nI_ge (by omega) (by omega)), if_neg (nI_ge (by omega) (by omega))]
        refine ⟨_, rfl, ?_, ?_, nI_s _, nI_s k, F3⟩
        · simp only; rw [Nat.min_eq_right (by omega)]
        · simp only; rw [Nat.max_eq_left (by omega), Nat.min_eq_right r1]
    · have c' : ¬ (FLs n X).testBit k = true := c
      rw [if_neg c, if_neg c', if_neg c, if_neg (show ¬ (1 : Int32) = 0 by decide)]
      exact ⟨_, rfl, rfl, rfl, rfl, nI_s k, e5⟩) (fun z ⟨e1, e2, e3, e4, e5⟩ => by
    obtain ⟨z1, z2, z3, z4, σ2⟩ := z
    simp only at e1 e2 e3 e4 e5
    subst e1 e2 e3 e4
    unfold f_X9_regretOf_L12
    simp only
    rw [m_n (by rw [e5.at (by decide), h0])]
    simp only [obs]
    rw [if_pos (nI_le (Nat.le_refl n) (by omega))]
    exact ⟨_, rfl, rfl, rfl, rfl, e5⟩) (s := (1000000, 1000000, 0, 0, σ)) ⟨rfl, rfl, rfl, rfl, Fr.rf⟩
  obtain ⟨z1, z2, z3, σ2⟩ := e
  simp only at a2 a3 a4 a5
  subst a2 a3 a4
  rw [a1]
  simp only [obs]
  have hcc : cnt (frl n X) n = cnt (frf X) n := by rw [← pc_n hX, free_eq hX]
  have hcl := cnt_le (P := frf X) n
  have hr := rF_ok (FL := FLs n X) (e := eV n s X i) n
  rw [hcc]
  unfold rgS
  by_cases c : cnt (frf X) n = 1
  · rw [if_pos c, if_pos (show nI (cnt (frf X) n) = 1 by rw [c]; rfl)]
    exact ⟨_, rfl, a5⟩
  · rw [if_neg c, show (1 : Int32) = nI 1 from rfl, if_neg (fun z : nI (cnt (frf X) n) = nI 1 => c ((nI_eq (by omega) (by omega)).mp z)), isb (by omega)]
    exact ⟨_, rfl, a5⟩
-- the facility to branch on
def bFS (n : Nat) (s X : Nat → Int32) : Nat → Int32 × Int32
  | 0 => (-1, -1)
  | i + 1 => if X i = -1 then (if (bFS n s X i).2 < nI (rgS n s X i) then (nI i, nI (rgS n s X i)) else bFS n s X i) else bFS n s X i
def brS (n : Nat) (s X : Nat → Int32) : Int32 := (bFS n s X n).1
theorem bFS_ok {n : Nat} {s X : Nat → Int32} : ∀ i, (bFS n s X i = (-1, -1) ∧ ∀ j, j < i → ¬ X j = -1) ∨ ∃ b r, b < i ∧ r ≤ 1000000 ∧ X b = -1 ∧ bFS n s X i = (nI b, nI r)
  | 0 => Or.inl ⟨rfl, fun j hj => by omega⟩
  | i + 1 => by
    have hr := rgS_le (n := n) (s := s) (X := X) (i := i)
    unfold bFS
    by_cases c : X i = -1
    · rw [if_pos c]
      right
      rcases bFS_ok (n := n) (s := s) (X := X) i with ⟨h, _⟩ | ⟨b, r, h1, h2, h3, h4⟩
      · rw [h, if_pos (m1_lt (by omega))]
        exact ⟨i, _, by omega, hr, c, rfl⟩
      · rw [h4]
        by_cases d : nI r < nI (rgS n s X i)
        · rw [if_pos d]
          exact ⟨i, _, by omega, hr, c, rfl⟩
        · rw [if_neg d]
          exact ⟨b, r, by omega, h2, h3, rfl⟩
    · rw [if_neg c]
      rcases bFS_ok (n := n) (s := s) (X := X) i with ⟨h, h'⟩ | ⟨b, r, h1, h2⟩
      · refine Or.inl ⟨h, fun j hj => ?_⟩
        by_cases q : j = i
        · rw [q]; exact c
        · exact h' j (by omega)
      · exact Or.inr ⟨b, r, by omega, h2⟩
theorem cnt_mono {P : Nat → Bool} {i : Nat} : ∀ d, cnt P i ≤ cnt P (i + d)
  | 0 => Nat.le_refl _
  | d + 1 => by
    have := cnt_mono (P := P) (i := i) d
    have h : cnt P (i + d + 1) = cnt P (i + d) + if P (i + d) = true then 1 else 0 := rfl
    show _ ≤ cnt P (i + d + 1)
    omega
theorem bFS_same {n : Nat} {s X : Nat → Int32} {i : Nat} : ∀ d, cnt (frf X) i = cnt (frf X) (i + d) → bFS n s X (i + d) = bFS n s X i
  | 0, _ => rfl
  | d + 1, h => by
    have hs : cnt (frf X) (i + d + 1) = cnt (frf X) (i + d) + if frf X (i + d) = true then 1 else 0 := rfl
    have hm := cnt_mono (P := frf X) (i := i) d
    have h : cnt (frf X) i = cnt (frf X) (i + d + 1) := h
    have hf : ¬ frf X (i + d) = true := fun z => by
      rw [if_pos z] at hs
      omega
    rw [if_neg hf] at hs
    show (if X (i + d) = -1 then _ else bFS n s X (i + d)) = _
    rw [if_neg (show ¬ X (i + d) = -1 from fun z => hf (decide_eq_true z))]
    exact bFS_same d (by omega)
theorem cnt_ex {X : Nat → Int32} {a : Nat} : ∀ m, a < cnt (frf X) m → ∃ i, i < m ∧ X i = -1 ∧ cnt (frf X) i = a
  | 0, h => by
    have : cnt (frf X) 0 = 0 := rfl
    omega
  | m + 1, h => by
    have hs : cnt (frf X) (m + 1) = cnt (frf X) m + if frf X m = true then 1 else 0 := rfl
    by_cases q : a < cnt (frf X) m
    · obtain ⟨i, i1, i2⟩ := cnt_ex m q
      exact ⟨i, by omega, i2⟩
    · by_cases f : frf X m = true
      · rw [if_pos f] at hs
        exact ⟨m, by omega, of_decide_eq_true f, by omega⟩
      · rw [if_neg f] at hs
        omega
theorem c_branch {σ : Sg} {kb n : Nat} {s X : Nat → Int32} (hb : kb = 48 ∨ kb = 61) (hg : Gd n s) (hX : Fx n X) (hB : BL n s X σ kb) : f_X1_mostRegretted σ kb = some (brS n s X) := by
  have hn := hX.2.1
  obtain ⟨l1, l2, l3, l4, l5⟩ := kb_ln kb hb
  have hB' := hB
  obtain ⟨b1, b2, b3, b4, b5, b6⟩ := hB
  have hcl := cnt_le (P := frf X) n
  unfold f_X1_mostRegretted
  obtain ⟨e, a1, a2⟩ := lo_tc (f := f_X1_mostRegretted_L6 σ kb) (fun a z => z.2.2 = nI a ∧ ∀ i, i ≤ n → cnt (frf X) i = a → (z.1, z.2.1) = bFS n s X i) (cnt (frf X) n) (fun e => e = brS n s X) (fun a z ha ⟨e1, e2⟩ => by
    obtain ⟨z1, z2, z3⟩ := z
    simp only at e1 e2
    subst e1
    obtain ⟨i, i1, i2, i3⟩ := cnt_ex n ha
    have hz := e2 i (by omega) i3
    have hs1 : bFS n s X (i + 1) = if (bFS n s X i).2 < nI (rgS n s X i) then (nI i, nI (rgS n s X i)) else bFS n s X i := by
      show (if X i = -1 then _ else _) = _
      rw [if_pos i2]
    have hcs : cnt (frf X) (i + 1) = a + 1 := by
      have : cnt (frf X) (i + 1) = cnt (frf X) i + if frf X i = true then 1 else 0 := rfl
      rw [if_pos (show frf X i = true from decide_eq_true i2)] at this
      omega
    have nxt : ∀ y : Int32 × Int32, y = bFS n s X (i + 1) → ∀ i', i' ≤ n → cnt (frf X) i' = a + 1 → y = bFS n s X i' := fun y hy i' h1 h2 => by
      rw [hy]
      by_cases q : i + 1 ≤ i'
      · obtain ⟨d, rfl⟩ : ∃ d, i' = i + 1 + d := ⟨i' - (i + 1), by omega⟩
        exact (bFS_same d (by omega)).symm
      · obtain ⟨d, hd⟩ : ∃ d, i + 1 = i' + d := ⟨i + 1 - i', by omega⟩
        rw [hd]
        exact bFS_same d (by rw [← hd]; omega)
    unfold f_X1_mostRegretted_L6 f_X1_mostRegretted_J46
    simp only
    have it : f_X8_item σ (kb + 2) (nI a) = some (nI i) := by rw [item_ok (by omega) (ln_le _), ← i3, b5 i i1 i2]
    rw [b4, if_neg (nI_ge ha (by omega)), it]
    simp only [obs]
    rw [c_regretOf hb hg hX hB' i1 i2]
    simp only [obs]
    rw [← hz] at hs1
    simp only at hs1
    by_cases d : z2 < nI (rgS n s X i)
    · rw [if_pos d] at hs1
      rw [if_neg (lt_nle.mp d), nI_s]
      exact ⟨_, rfl, rfl, nxt _ hs1.symm⟩
    · rw [if_neg d] at hs1
      rw [if_pos (Decidable.not_not.mp (fun z => d (lt_nle.mpr z))), nI_s]
      exact ⟨_, rfl, rfl, nxt _ hs1.symm⟩) (fun z ⟨e1, e2⟩ => by
    obtain ⟨z1, z2, z3⟩ := z
    simp only at e1 e2
    subst e1
    unfold f_X1_mostRegretted_L6
    simp only
    rw [b4, if_pos (nI_le (Nat.le_refl _) (by omega))]
    refine ⟨_, rfl, ?_⟩
    unfold brS
    rw [← e2 n (Nat.le_refl n) rfl]) (s := (-1, -1, 0)) ⟨rfl, fun i hi hc => by
      have := bFS_same (n := n) (s := s) (X := X) (i := 0) i (by rw [Nat.zero_add, hc]; rfl)
      rw [Nat.zero_add] at this
      rw [this]
      rfl⟩
  rw [a1, a2]
  rfl
theorem m_branch {σ : Sg} {n : Nat} {s X : Nat → Int32} (hs : EqS (σ 76) s) (hg : Gd n s) (hX : Fx n X) (hw : ∀ i, i < 6 → σ 81 i = X i) : ∃ σ', f_X9_branch σ 75 = some (brS n s X, σ') ∧ Fr [82, 83] σ σ' := by
  have hn := hX.2.1
  have h0 : σ 76 0 = nI n := by rw [hs 0 (by omega), hg.2.2.1]
  unfold f_X9_branch
  obtain ⟨e, a1, a2, a3⟩ := lo_tc (f := f_X9_branch_L6 75) (fun i z => z.1 = (bFS n s X i).1 ∧ ((bFS n s X i).1 = -1 ∨ z.2.1 = (bFS n s X i).2) ∧ z.2.2.1 = nI i ∧ Fr [82, 83] σ z.2.2.2) n (fun e => e.1 = brS n s X ∧ Fr [82, 83] σ e.2) (fun i z hi ⟨e1, e2, e3, e4⟩ => by
    obtain ⟨z1, z2, z3, σ2⟩ := z
    simp only at e1 e2 e3 e4
    subst e1 e3
    have s1 : EqS (σ2 76) s := fun q hq => by rw [e4.at (by decide)]; exact hs q hq
    have w1 : ∀ i, i < 6 → σ2 81 i = X i := fun i hi => by rw [e4.at (by decide), hw i hi]
    unfold f_X9_branch_L6 f_X9_branch_J44 f_X9_branch_J49 f_X9_branch_J61 f_X9_branch_J62
    simp only
    rw [m_n (by rw [e4.at (by decide), h0])]
    simp only [obs]
    rw [if_neg (nI_ge hi (by omega)), show 75 + 6 = 81 from rfl, a_81 (by omega), w1 i (by omega)]
    simp only [obs]
    by_cases c : X i = -1
    · have hs1 : bFS n s X (i + 1) = if (bFS n s X i).2 < nI (rgS n s X i) then (nI i, nI (rgS n s X i)) else bFS n s X i := by
        show (if X i = -1 then _ else _) = _
        rw [if_pos c]
      obtain ⟨σ3, t1, t2⟩ := m_regretOf s1 hg hX w1 hi c
      have hr := rgS_le (n := n) (s := s) (X := X) (i := i)
      have F3 := e4.tr t2 (fun q h => h)
      rw [if_pos c, t1, hs1]
      simp only [obs]
      rcases bFS_ok (n := n) (s := s) (X := X) i with ⟨h, _⟩ | ⟨b, r, h1, h2, h3, h4⟩
      · rw [h]
        simp only
        simp only [if_true]
        rw [if_pos (m1_lt (by omega))]
        exact ⟨_, rfl, rfl, Or.inr rfl, nI_s i, F3⟩
      · rw [h4] at e2 ⊢
        simp only at e2 ⊢
        have e2' := e2.resolve_left (nI_m1b (by omega))
        subst e2'
        rw [if_neg (nI_m1b (by omega))]
        by_cases d : nI r < nI (rgS n s X i)
        · rw [if_neg (lt_nle.mp d), if_pos d, if_pos trivial]
          exact ⟨_, rfl, rfl, Or.inr rfl, nI_s i, F3⟩
        · rw [if_pos (Decidable.not_not.mp (fun z => d (lt_nle.mpr z))), if_neg d, if_neg (fun z => by have := (nI_eq (a := b) (b := i) (by omega) (by omega)).mp z; omega)]
          exact ⟨_, rfl, rfl, Or.inr rfl, nI_s i, F3⟩
    · rw [if_neg c]
      have hs1 : bFS n s X (i + 1) = bFS n s X i := by
        show (if X i = -1 then _ else _) = _
        rw [if_neg c]
      rw [hs1]
      exact ⟨_, rfl, rfl, e2, nI_s i, e4⟩) (fun z ⟨e1, e2, e3, e4⟩ => by
    obtain ⟨z1, z2, z3, σ2⟩ := z
    simp only at e1 e2 e3 e4
    subst e1 e3
    unfold f_X9_branch_L6
    simp only
    rw [m_n (by rw [e4.at (by decide), h0])]
    simp only [obs]
    rw [if_pos (nI_le (Nat.le_refl n) (by omega))]
    exact ⟨_, rfl, rfl, e4⟩) (s := (-1, 0, 0, σ)) ⟨rfl, Or.inl rfl, rfl, Fr.rf⟩
  obtain ⟨z1, σ2⟩ := e
  simp only at a2 a3
  subst a2
  rw [a1]
  exact ⟨σ2, rfl, a3⟩
