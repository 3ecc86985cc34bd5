-- best first: the model's step
def mB (σ0 : Sg) (n : Nat) (s : Nat → Int32) (A g : Nat) (Z : Nat → Nat → Int32) (W : Nat → Bool) (rs : Nat → Int32) (σ : Sg) : Prop := Fr WM σ0 σ ∧ (∀ q, q ≠ 19 → σ 75 q = σ0 75 q) ∧ RM σ rs ∧ σ 75 19 = nI A ∧ (∀ i, i < A → (∀ j, j < 6 → σ 87 (6 * i + j) = Z i j) ∧ σ 88 i = nI (bdV n s (Z i)) ∧ σ 89 i = nI (n - frn n (Z i)) ∧ σ 90 i = if W i = true then 1 else 0) ∧ σ 91 5 = nI g ∧ σ 91 6 = σ0 91 6
theorem kl {a1 a2 p1 p2 c : Nat} (h : a1 < a2) (hp : p1 < c) : a1 * c + p1 < a2 * c + p2 := by
  have h1 := Nat.mul_le_mul_right c (show a1 + 1 ≤ a2 by omega)
  rw [Nat.add_mul, Nat.one_mul] at h1
  omega
theorem key_le {n i j : Nat} {s : Nat → Int32} {Z : Nat → Nat → Int32} (hg : Gd n s) (hi : Fx n (Z i)) (hj : Fx n (Z j)) (h1 : i < 2048) (h2 : j < 2048) (h : bdV n s (Z i) < bdV n s (Z j) ∨ bdV n s (Z i) = bdV n s (Z j) ∧ (frn n (Z i) < frn n (Z j) ∨ frn n (Z i) = frn n (Z j) ∧ i < j)) : keyB n s Z i ≤ keyB n s Z j := by
  have a := pkN_lt hi.sml 6 (Nat.le_refl 6)
  obtain ⟨_, _, m1, _⟩ := keyB_ok hg hi h1
  obtain ⟨_, _, m2, _⟩ := keyB_ok hg hj h2
  unfold keyB
  refine Nat.le_of_lt (kl ?_ a)
  rcases h with h | ⟨h, h0 | ⟨h', h''⟩⟩
  · exact kl (by omega) h1
  · rw [h]
    exact kl (by omega) h1
  · rw [h, h']
    omega
theorem m_leastN {σ : Sg} {n A : Nat} {s : Nat → Int32} {Z : Nat → Nat → Int32} {W : Nat → Bool} (hg : Gd n s) (hZ : ∀ j, j < A → Fx n (Z j)) (hA : A ≤ 1957) (h19 : σ 75 19 = nI A) (hR : ∀ i, i < A → σ 88 i = nI (bdV n s (Z i)) ∧ σ 89 i = nI (n - frn n (Z i)) ∧ σ 90 i = if W i = true then 1 else 0) (hex : ∃ j, j < A ∧ W j = true) : f_X9_leastNode σ 75 = some (nI (bL n s Z W A)) := by
  have hn := hg.2.1
  unfold f_X9_leastNode
  obtain ⟨e, h1, h2⟩ := lo_tc (f := f_X9_leastNode_L4 σ 75) (fun m st => st.2 = nI m ∧ ((st.1 = -1 ∧ ∀ j, j < m → ¬ W j = true) ∨ ∃ i, st.1 = nI i ∧ isLst n s Z W m i)) A (fun e => (e = -1 ∧ ∀ j, j < A → ¬ W j = true) ∨ ∃ i, e = nI i ∧ isLst n s Z W A i) (fun m st hm ⟨p1, p2⟩ => by
    obtain ⟨b, m'⟩ := st
    dsimp only at p1 p2
    subst p1
    obtain ⟨r1, r2, r3⟩ := hR m hm
    have take : ∀ i0 : Int32, (∀ j, j < m → W j = true → keyB n s Z m ≤ keyB n s Z j) → W m = true → ∃ s', f_X9_leastNode_J71 i0 (nI m) = some (.inl s') ∧ s'.2 = nI (m + 1) ∧ ((s'.1 = -1 ∧ ∀ j, j < m + 1 → ¬ W j = true) ∨ ∃ i, s'.1 = nI i ∧ isLst n s Z W (m + 1) i) := fun i0 hle hw => by
      unfold f_X9_leastNode_J71 f_X9_leastNode_J76
      rw [if_neg (by decide)]
      unfold f_X9_leastNode_J86 f_X9_leastNode_J87
      refine ⟨_, rfl, nI_s m, Or.inr ⟨m, rfl, by omega, hw, fun j hj hwj => ?_⟩⟩
      by_cases c : j = m
      · rw [c]; exact Nat.le_refl _
      · exact hle j (by omega) hwj
    unfold f_X9_leastNode_L4
    dsimp only
    rw [h19, if_neg (nI_ge hm (by omega)), show 75 + 15 = 90 from rfl, a_90 (by omega)]
    simp only [obs]
    rw [r3]
    by_cases w : W m = true
    · rw [if_pos w, if_neg (by decide)]
      rcases p2 with ⟨e1, e2⟩ | ⟨i, e1, i1, i2, i3⟩
      · rw [if_pos e1]
        exact take b (fun j hj hw => absurd hw (e2 j hj)) w
      · subst e1
        obtain ⟨s1, s2, _⟩ := hR i (by omega)
        obtain ⟨_, _, km, kb⟩ := keyB_ok (Z := Z) hg (hZ m hm) (show m < 2048 by omega)
        obtain ⟨_, _, im', ib⟩ := keyB_ok (Z := Z) hg (hZ i (by omega)) (show i < 2048 by omega)
        have pm := pkN_lt (hZ m hm).sml 6 (Nat.le_refl 6)
        have pi := pkN_lt (hZ i (by omega)).sml 6 (Nat.le_refl 6)
        have fm := frn_le (n := n) (X := Z m)
        have fi := frn_le (n := n) (X := Z i)
        have keep : keyB n s Z i ≤ keyB n s Z m → ∃ s', f_X9_leastNode_J75 (nI i) (nI m) = some (.inl s') ∧ s'.2 = nI (m + 1) ∧ ((s'.1 = -1 ∧ ∀ j, j < m + 1 → ¬ W j = true) ∨ ∃ i, s'.1 = nI i ∧ isLst n s Z W (m + 1) i) := fun hle => by
          unfold f_X9_leastNode_J75 f_X9_leastNode_J76
          rw [if_pos rfl]
          unfold f_X9_leastNode_J86 f_X9_leastNode_J87
          refine ⟨_, rfl, nI_s m, Or.inr ⟨i, rfl, by omega, i2, fun j hj hwj => ?_⟩⟩
          by_cases c : j = m
          · rw [c]; exact hle
          · exact i3 j (by omega) hwj
        rw [if_neg (nI_m1b (by omega)), show 75 + 13 = 88 from rfl, show 75 + 14 = 89 from rfl, a_88 (by omega)]
        simp only [obs]
        rw [a_88 (by omega)]
        simp only [obs]
        rw [r1, s1]
        by_cases c1 : bdV n s (Z m) < bdV n s (Z i)
        · rw [if_pos (nI_lt c1 (by omega))]
          exact take (nI i) (fun j hj hw => Nat.le_trans (key_le hg (hZ m hm) (hZ i (by omega)) (by omega) (by omega) (Or.inl c1)) (i3 j hj hw)) w
        · rw [if_neg (nI_nlt (by omega) (by omega))]
          by_cases c2 : bdV n s (Z m) = bdV n s (Z i)
          · rw [if_pos (by rw [c2]), a_89 (by omega)]
            simp only [obs]
            rw [a_89 (by omega)]
            simp only [obs]
            rw [r2, s2]
            by_cases c3 : n - frn n (Z m) ≤ n - frn n (Z i)
            · rw [if_pos (nI_le c3 (by omega))]
              exact keep (key_le hg (hZ i (by omega)) (hZ m hm) (by omega) (by omega) (Or.inr ⟨c2.symm, by omega⟩))
            · rw [if_neg (nI_ge (by omega) (by omega))]
              exact take (nI i) (fun j hj hw => Nat.le_trans (key_le hg (hZ m hm) (hZ i (by omega)) (by omega) (by omega) (Or.inr ⟨c2, Or.inl (by omega)⟩)) (i3 j hj hw)) w
          · rw [if_neg (fun z => c2 ((nI_eq (by omega) (by omega)).mp z))]
            exact keep (key_le hg (hZ i (by omega)) (hZ m hm) (by omega) (by omega) (Or.inl (by omega)))
    · rw [if_neg w, if_pos rfl]
      unfold f_X9_leastNode_J87
      refine ⟨_, rfl, nI_s m, ?_⟩
      rcases p2 with ⟨e1, e2⟩ | ⟨i, e1, i1, i2, i3⟩
      · refine Or.inl ⟨e1, fun j hj hw => ?_⟩
        by_cases c : j = m
        · exact w (by rw [← c]; exact hw)
        · exact e2 j (by omega) hw
      · refine Or.inr ⟨i, e1, by omega, i2, fun j hj hw => ?_⟩
        by_cases c : j = m
        · exact absurd (by rw [← c]; exact hw) w
        · exact i3 j (by omega) hw) (fun st ⟨p1, p2⟩ => by
    obtain ⟨b, m'⟩ := st
    dsimp only at p1 p2
    subst p1
    unfold f_X9_leastNode_L4
    dsimp only
    rw [h19, if_pos (nI_le (Nat.le_refl _) (by omega))]
    exact ⟨_, rfl, p2⟩) (s := (-1, 0)) ⟨zl_0, Or.inl ⟨rfl, fun j hj => absurd hj (by omega)⟩⟩
  rw [h1]
  simp only [obs]
  rcases h2 with ⟨_, e2⟩ | ⟨i, e1, e2⟩
  · obtain ⟨j, j1, j2⟩ := hex
    exact absurd j2 (e2 j j1)
  · rw [e1, bL_uniq hg hZ (by omega) e2]
theorem m_adds1 {σ : Sg} {N n : Nat} {s X : Nat → Int32} (hs : EqS (σ 76) s) (hg : Gd n s) (hX : Fx n X) (hw : ∀ i, i < 6 → σ 81 i = X i) (h19 : σ 75 19 = nI N) (hN : N < 2000) : ∃ σ1, f_X9_adds σ 75 1 = some (pushM σ1 N n X (bdS n s X)) ∧ Fr [82, 83, 84, 85, 87] σ σ1 ∧ (∀ j, j < 6 → σ1 87 (6 * N + j) = X j) ∧ ∀ r, (r < 6 * N ∨ 6 * N + 6 ≤ r) → σ1 87 r = σ 87 r := by
  have hn := hX.2.1
  have h0 : σ 76 0 = nI n := by rw [hs 0 (by omega), hg.2.2.1]
  obtain ⟨σ1, b1, b2⟩ := m_boundOf (σ := wo σ 87 (6 * N) 6 (σ 81)) (by rw [wo_oth (by omega)]; exact hs) hg hX (fun i hi => by rw [wo_oth (by omega)]; exact hw i hi)
  refine ⟨σ1, ?_, (wo_fr Fr.rf (by decide)).tr b2 (by decide), fun j hj => by rw [b2.at (by decide), wo_in hj]; exact hw j hj, fun r hr => by rw [b2.at (by decide), wo_out (by omega)]⟩
  unfold f_X9_adds
  rw [m_addsL h19 hN]
  simp only [obs]
  rw [if_neg (by decide), b1]
  simp only [obs]
  rw [wo_oth (by omega), h19]
  exact m_addsJ (by rw [b2.at (by decide), wo_oth (by omega), h0]) hn (fun i hi => by rw [b2.at (by decide), wo_oth (by omega)]; exact hw i hi) (by rw [b2.at (by decide), wo_oth (by omega), h19]) hN
theorem m_push1 {σ : Sg} {n A : Nat} {s X : Nat → Int32} {sy : Int32} (hs : EqS (σ 76) s) (hg : Gd n s) (hX : Fx n X) (hw : ∀ i, i < 6 → σ 81 i = X i) (hL : LYs n s σ) (hc : ¬ cnt (frf X) n = 0) (h19 : σ 75 19 = nI A) (h7 : A + (chP n s X sy).1 ≤ 1957) : ∃ σ', f_X9_branches σ 75 sy 0 = some σ' ∧ Fr [75, 81, 82, 83, 84, 85, 87, 88, 89, 90, 93, 94] σ σ' ∧ (∀ q, q ≠ 19 → σ' 75 q = σ 75 q) ∧ σ' 75 19 = nI (A + (chP n s X sy).1) ∧ (∀ i, i < A → (∀ j, j < 6 → σ' 87 (6 * i + j) = σ 87 (6 * i + j)) ∧ σ' 88 i = σ 88 i ∧ σ' 89 i = σ 89 i ∧ σ' 90 i = σ 90 i) ∧ ∀ i, i < (chP n s X sy).1 → (∀ j, j < 6 → σ' 87 (6 * (A + i) + j) = kid n s X sy i j) ∧ σ' 88 (A + i) = nI (bdV n s (kid n s X sy i)) ∧ σ' 89 (A + i) = nI (n - frn n (kid n s X sy i)) ∧ σ' 90 (A + i) = 1 := by
  have hn := hX.2.1
  obtain ⟨b1, b2, b3⟩ := br_ok (s := s) hn hc
  obtain ⟨p1, p2⟩ := chP_ok (n := n) (s := s) (X := X) (sy := sy) hn
  obtain ⟨v1, v2, k1, k2, k3, k4, k5, k6⟩ := m_kids (sy := sy) hs hg hX hw hL hc
  have hkid : ∀ i, i < (chP n s X sy).1 → Fx n (kid n s X sy i) := fun i hi => (kid_ok hX hc hi).1
  have hke : ∀ i, kid n s X sy i = upd X (chB n s X) (nI ((chP n s X sy).2 i)) := fun _ => rfl
  generalize (chP n s X sy).1 = C at *
  generalize chB n s X = b at *
  unfold f_X9_branches
  rw [k1]
  simp only [obs]
  rw [k2, k3]
  simp only [obs]
  obtain ⟨e, h1, h2, h3, h4, h5, h6⟩ := lo_tc (f := f_X9_branches_L16 v2 0 75 v1) (fun k st => st.1 = nI k ∧ Fr [75, 81, 82, 83, 84, 85, 87, 88, 89, 90, 93, 94] σ st.2 ∧ (∀ q, q ≠ 19 → st.2 75 q = σ 75 q) ∧ st.2 75 19 = nI (A + k) ∧ (∀ q, q < 6 → q ≠ b → st.2 81 q = X q) ∧ st.2 93 = v2.2 93 ∧ (∀ i, i < A → (∀ j, j < 6 → st.2 87 (6 * i + j) = σ 87 (6 * i + j)) ∧ st.2 88 i = σ 88 i ∧ st.2 89 i = σ 89 i ∧ st.2 90 i = σ 90 i) ∧ ∀ i, i < k → (∀ j, j < 6 → st.2 87 (6 * (A + i) + j) = kid n s X sy i j) ∧ st.2 88 (A + i) = nI (bdV n s (kid n s X sy i)) ∧ st.2 89 (A + i) = nI (n - frn n (kid n s X sy i)) ∧ st.2 90 (A + i) = 1) C (fun e => Fr [75, 81, 82, 83, 84, 85, 87, 88, 89, 90, 93, 94] σ e ∧ (∀ q, q ≠ 19 → e 75 q = σ 75 q) ∧ e 75 19 = nI (A + C) ∧ (∀ i, i < A → (∀ j, j < 6 → e 87 (6 * i + j) = σ 87 (6 * i + j)) ∧ e 88 i = σ 88 i ∧ e 89 i = σ 89 i ∧ e 90 i = σ 90 i) ∧ ∀ i, i < C → (∀ j, j < 6 → e 87 (6 * (A + i) + j) = kid n s X sy i j) ∧ e 88 (A + i) = nI (bdV n s (kid n s X sy i)) ∧ e 89 (A + i) = nI (n - frn n (kid n s X sy i)) ∧ e 90 (A + i) = 1) (fun k st hk ⟨i1, i2, i3, i4, i5, i8, i6, i7⟩ => by
    obtain ⟨k', σ'⟩ := st
    simp only at i1 i2 i3 i4 i5 i6 i7 i8
    subst i1
    have e93 : σ' 93 k = nI ((chP n s X sy).2 k) := by rw [i8, k6 _ (by omega)]
    have w81 : ∀ i, i < 6 → si σ' 81 b (nI ((chP n s X sy).2 k)) 81 i = kid n s X sy k i := fun i hi => by
      rw [hke]
      by_cases c : i = b
      · rw [c, si_hit, pk_us]
      · rw [si_miss c, pk_un c, i5 i hi c]
    obtain ⟨σ1, d1, d2, d3, d4⟩ := m_adds1 (σ := si σ' 81 b (nI ((chP n s X sy).2 k))) (N := A + k) (n := n) (s := s) (X := kid n s X sy k) (by rw [si_oth (by omega), i2.at (by decide)]; exact hs) hg (hkid k hk) w81 (by rw [si_oth (by omega)]; exact i4) (by omega)
    rw [(bdV_ok hg (hkid k hk)).1] at d1
    unfold f_X9_branches_L16
    simp only
    rw [k4, if_neg (nI_ge hk (by omega)), if_pos trivial, k2]
    unfold f_X9_branches_J48
    rw [show 75 + 18 = 93 from rfl, show 75 + 6 = 81 from rfl, a_93 (by omega)]
    simp only [obs]
    rw [e93, s_81 (by omega)]
    simp only [obs]
    rw [if_pos trivial]
    unfold f_X9_branches_J60
    rw [d1]
    simp only [obs]
    refine ⟨_, rfl, nI_s k, ?_, fun q hq => ?_, ?_, fun q hq hqb => ?_, ?_, fun i hi => ⟨fun j hj => ?_, ?_, ?_, ?_⟩, fun i hi => ?_⟩
    · exact (((((i2.si (by decide)).tr d2 (by decide)).si (by decide)).si (by decide)).si (by decide)).si (by decide)
    · simp only [pushM]
      rw [si_miss hq, si_oth (by omega), si_oth (by omega), si_oth (by omega), d2.at (by decide), si_oth (by omega)]
      exact i3 q hq
    · simp only [pushM]
      rw [si_hit, Nat.add_assoc]
    · simp only [pushM]
      rw [si_oth (by omega), si_oth (by omega), si_oth (by omega), si_oth (by omega), d2.at (by decide), si_miss hqb]
      exact i5 q hq hqb
    · simp only [pushM]
      rw [si_oth (by omega), si_oth (by omega), si_oth (by omega), si_oth (by omega), d2.at (by decide), si_oth (by omega)]
      exact i8
    · simp only [pushM]
      rw [si_oth (by omega), si_oth (by omega), si_oth (by omega), si_oth (by omega), d4 _ (by omega), si_oth (by omega)]
      exact (i6 i hi).1 j hj
    · simp only [pushM]
      rw [si_oth (by omega), si_oth (by omega), si_oth (by omega), si_miss (by omega), d2.at (by decide), si_oth (by omega)]
      exact (i6 i hi).2.1
    · simp only [pushM]
      rw [si_oth (by omega), si_oth (by omega), si_miss (by omega), si_oth (by omega), d2.at (by decide), si_oth (by omega)]
      exact (i6 i hi).2.2.1
    · simp only [pushM]
      rw [si_oth (by omega), si_miss (by omega), si_oth (by omega), si_oth (by omega), d2.at (by decide), si_oth (by omega)]
      exact (i6 i hi).2.2.2
    · simp only [pushM]
      by_cases c : i = k
      · subst c
        refine ⟨fun j hj => ?_, ?_, ?_, ?_⟩
        · rw [si_oth (by omega), si_oth (by omega), si_oth (by omega), si_oth (by omega)]
          exact d3 j hj
        · rw [si_oth (by omega), si_oth (by omega), si_oth (by omega), si_hit]
        · rw [si_oth (by omega), si_oth (by omega), si_hit]
          rfl
        · rw [si_oth (by omega), si_hit]
      · obtain ⟨z1, z2, z3, z4⟩ := i7 i (by omega)
        refine ⟨fun j hj => ?_, ?_, ?_, ?_⟩
        · rw [si_oth (by omega), si_oth (by omega), si_oth (by omega), si_oth (by omega), d4 _ (by omega), si_oth (by omega)]
          exact z1 j hj
        · rw [si_oth (by omega), si_oth (by omega), si_oth (by omega), si_miss (by omega), d2.at (by decide), si_oth (by omega)]
          exact z2
        · rw [si_oth (by omega), si_oth (by omega), si_miss (by omega), si_oth (by omega), d2.at (by decide), si_oth (by omega)]
          exact z3
        · rw [si_oth (by omega), si_miss (by omega), si_oth (by omega), si_oth (by omega), d2.at (by decide), si_oth (by omega)]
          exact z4) (fun st ⟨i1, i2, i3, i4, i5, i8, i6, i7⟩ => by
    obtain ⟨k', σ'⟩ := st
    simp only at i1 i2 i3 i4 i5 i6 i7
    subst i1
    unfold f_X9_branches_L16
    simp only
    rw [k4, if_pos (nI_le (Nat.le_refl _) (by omega))]
    exact ⟨_, rfl, i2, i3, i4, i6, i7⟩) (s := (0, v2.2)) ⟨zl_0, fun q hq => k5 q (fun h => hq (by simp only [List.mem_cons, List.not_mem_nil, or_false] at h ⊢; omega)), fun q hq => by show v2.2 75 q = _; rw [k5.at (by decide)], by show v2.2 75 19 = _; rw [k5.at (by decide)]; exact h19, fun q hq _ => by show v2.2 81 q = _; rw [k5.at (by decide)]; exact hw q hq, rfl, fun i hi => ⟨fun j hj => by show v2.2 87 _ = _; rw [k5.at (by decide)], by show v2.2 88 _ = _; rw [k5.at (by decide)], by show v2.2 89 _ = _; rw [k5.at (by decide)], by show v2.2 90 _ = _; rw [k5.at (by decide)]⟩, fun i hi => absurd hi (by omega)⟩
  rw [h1]
  simp only [obs]
  rw [show 75 + 6 = 81 from rfl, s_81 (by omega)]
  simp only [obs]
  exact ⟨_, rfl, h2.si (by decide), fun q hq => by rw [si_oth (by omega)]; exact h3 q hq, by rw [si_oth (by omega)]; exact h4, fun i hi => by rw [si_oth (by omega), si_oth (by omega), si_oth (by omega), si_oth (by omega)]; exact h5 i hi, fun i hi => by rw [si_oth (by omega), si_oth (by omega), si_oth (by omega), si_oth (by omega)]; exact h6 i hi⟩
