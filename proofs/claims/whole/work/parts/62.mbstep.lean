-- best first: the model's step
theorem new_k {K C : Nat} : nI (K + 1) + (nI C - 1) = nI (K + C) := by
  rw [Int32.sub_eq_add_neg, ← Int32.add_assoc, ← Int32.sub_eq_add_neg, nI_addN, isub1 (by omega)]
  congr 1
  omega
theorem m_best60 {σ : Sg} {A C K g : Nat} (h19 : σ 75 19 = nI (A + C)) (h5 : σ 91 5 = nI g) (hb : K + C < 2147483648) (hg : g < 2147483648) : f_X9_searchesBest_J60 75 (nI (K + 1)) (nI A) σ = some (.inl (nI (K + C), si σ 91 5 (nI (max g (K + C))))) := by
  have z5 : (5 : Int32) = nI 5 := zl_5
  unfold f_X9_searchesBest_J60
  rw [show 75 + 16 = 91 from rfl, z5, a_91 (by omega)]
  simp only [obs]
  rw [h19, isb (by omega), Nat.add_sub_cancel_left, new_k, h5]
  unfold f_X9_searchesBest_J97
  by_cases c : K + C ≤ g
  · rw [if_pos (nI_le c (by omega)), show 75 + 16 = 91 from rfl, s_91 (by omega), Nat.max_eq_left c]
    rfl
  · rw [if_neg (nI_ge (by omega) (by omega)), show 75 + 16 = 91 from rfl, s_91 (by omega), Nat.max_eq_right (by omega)]
    rfl
theorem m_bstep {σ0 σ : Sg} {n A k g : Nat} {s rs : Nat → Int32} {sy : Int32} {Z : Nat → Nat → Int32} {W : Nat → Bool} (hs : EqS (σ0 76) s) (hg : Gd n s) (hL : LYs n s σ0) (hV : BV n A k g Z W) (hk : 0 < k) (hB : mB σ0 n s A g Z W rs σ) : ∃ σ', f_X9_searchesBest_L14 75 sy (nI k, σ) = some (.inl (nI (k - 1 + cN n s (Z (bL n s Z W A)) rs sy), σ')) ∧ mB σ0 n s (A + cN n s (Z (bL n s Z W A)) rs sy) (max g (k - 1 + cN n s (Z (bL n s Z W A)) rs sy)) (nZ n s sy A Z (Z (bL n s Z W A))) (nW A (bL n s Z W A) W) (vsR n s (Z (bL n s Z W A)) rs) σ' := by
  obtain ⟨hk7, hA7⟩ := BV_k hV
  obtain ⟨hl, hV'⟩ := b_step (s := s) (rs := rs) (sy := sy) hV hk
  obtain ⟨c1, c2, c3, c4, c5, c6, c7⟩ := hB
  obtain ⟨K, rfl⟩ : ∃ K, k = K + 1 := ⟨k - 1, by omega⟩
  rw [Nat.add_sub_cancel] at hV' ⊢
  have hleast := m_leastN (σ := σ) hg hV.1 hA7 c4 (fun i hi => (c5 i hi).2) ⟨_, hl.1, hl.2.1⟩
  obtain ⟨l1, l2, l3⟩ := hl
  generalize bL n s Z W A = i at *
  have hX := hV.1 i l1
  have hn := hX.2.1
  have hg7 := hV.2.2.2.2.2
  obtain ⟨σa, hσa⟩ : ∃ σa, wo (si σ 90 i 0) 81 0 6 (fun j => si σ 90 i 0 87 (6 * i + j)) = σa := ⟨_, rfl⟩
  have fa : ∀ q, q ≠ 90 → q ≠ 81 → σa q = σ q := fun q q1 q2 => by rw [← hσa, wo_oth q2, si_oth q1]
  have a90 : ∀ j, σa 90 j = if j = i then 0 else σ 90 j := fun j => by
    rw [← hσa, wo_oth (by omega)]
    by_cases c : j = i
    · rw [c, si_hit, if_pos rfl]
    · rw [si_miss c, if_neg c]
  have a81 : ∀ j, j < 6 → σa 81 j = Z i j := fun j hj => by rw [← hσa, wo_in0 hj, si_oth (by omega)]; exact (c5 i l1).1 j hj
  have Fa : Fr WM σ0 σa := by rw [← hσa]; exact wo_fr (c1.si (by decide)) (by decide)
  have hs76 : ∀ {σ' : Sg}, σ' 76 = σ0 76 → EqS (σ' 76) s := fun {σ'} h => by rw [h]; exact hs
  obtain ⟨σc, d1, d2, d3, d4⟩ := m_counts (σ := σa) (rs := rs) (hs76 (Fa.at (by decide))) hg hX a81 (RM_eq c3 (fa 91 (by omega) (by omega)) (fa 92 (by omega) (by omega)))
  have Fc : Fr WM σ0 σc := Fa.tr d3 (by decide)
  have e75 : σc 75 = σ 75 := by rw [d3.at (by decide), fa 75 (by omega) (by omega)]
  have e88 : σa 88 i = bdS n s (Z i) := by rw [fa 88 (by omega) (by omega), (bdV_ok hg hX).1]; exact (c5 i l1).2.1
  have c91 : ∀ q, 5 ≤ q → σc 91 q = σ 91 q := fun q hq => by rw [d4 q hq, fa 91 (by omega) (by omega)]
  unfold f_X9_searchesBest_L14
  dsimp only
  rw [if_neg (show ¬ nI (K + 1) ≤ (0 : Int32) by rw [zl_0]; exact nI_ge (by omega) (by omega)), hleast]
  simp only [obs]
  rw [show 75 + 15 = 90 from rfl, s_90 (by omega), vpn0]
  simp only [obs]
  rw [m_looksAt (by omega)]
  simp only [obs]
  rw [hσa, show 75 + 13 = 88 from rfl, a_88 (by omega)]
  simp only [obs]
  rw [e88, d1]
  simp only [obs]
  rw [si_oth (k := 90) (q := 75) (by omega), c4]
  by_cases c : vsG n s (Z i) rs = true
  · have hC : cN n s (Z i) rs sy = (chP n s (Z i) sy).1 := by unfold cN; rw [if_pos c]
    rw [if_pos c, if_neg (by decide), hC]
    rw [hC] at hV'
    have hk2 := BV_k hV'
    have hc := vsG_free c
    obtain ⟨σd, p1, p2, p3, p4, p5, p6⟩ := m_push1 (σ := σc) (n := n) (A := A) (s := s) (X := Z i) (sy := sy) (hs76 (Fc.at (by decide))) hg hX (fun j hj => by rw [d3.at (by decide)]; exact a81 j hj) (by unfold LYs; rw [e75, c2 14 (by omega), Fc.at (by decide)]; exact hL) hc (by rw [e75]; exact c4) hk2.2
    rw [p1]
    simp only [obs]
    rw [m_best60 (g := g) p4 (by rw [p2.at (by decide), c91 5 (by omega)]; exact c6) (by omega) (by omega)]
    refine ⟨_, rfl, (Fc.tr p2 (by decide)).si (by decide), fun q hq => by rw [si_oth (by omega), p3 q hq, e75]; exact c2 q hq, ?_, by rw [si_oth (by omega)]; exact p4, fun j hj => ?_, si_hit, by rw [si_miss (by omega), p2.at (by decide), c91 6 (by omega)]; exact c7⟩
    · obtain ⟨r0, r1, r2, r3, r4, r5⟩ := d2
      have e91 : ∀ q, q ≠ 5 → si σd 91 5 (nI (max g (K + (chP n s (Z i) sy).1))) 91 q = σc 91 q := fun q hq => by rw [si_miss hq, p2.at (by decide)]
      have e92 : si σd 91 5 (nI (max g (K + (chP n s (Z i) sy).1))) 92 = σc 92 := by rw [si_oth (by omega), p2.at (by decide)]
      exact ⟨by rw [e91 0 (by omega)]; exact r0, fun z => by rw [e91 1 (by omega)]; exact r1 z, by rw [e91 2 (by omega)]; exact r2, by rw [e91 3 (by omega)]; exact r3, by rw [e91 4 (by omega)]; exact r4, fun j hj => by rw [e92]; exact r5 j hj⟩
    · rw [si_oth (by omega), si_oth (by omega), si_oth (by omega), si_oth (by omega)]
      unfold nZ nW
      by_cases q : j < A
      · obtain ⟨z1, z2, z3, z4⟩ := p5 j q
        obtain ⟨y1, y2, y3, y4⟩ := c5 j q
        rw [if_pos q, if_pos q, z2, z3, z4]
        refine ⟨fun t ht => ?_, ?_, ?_, ?_⟩
        · rw [z1 t ht, d3.at (by decide), fa 87 (by omega) (by omega)]
          exact y1 t ht
        · rw [d3.at (by decide), fa 88 (by omega) (by omega)]
          exact y2
        · rw [d3.at (by decide), fa 89 (by omega) (by omega)]
          exact y3
        · rw [d3.at (by decide), a90]
          by_cases e : j = i
          · rw [if_pos e, if_neg (by simp [e])]
          · rw [if_neg e, y4]
            by_cases w : W j = true
            · rw [if_pos w, if_pos (by simp [w, e])]
            · rw [if_neg w, if_neg (by simp [w])]
      · obtain ⟨z1, z2, z3, z4⟩ := p6 (j - A) (by omega)
        rw [show A + (j - A) = j by omega] at z1 z2 z3 z4
        rw [if_neg q, if_neg q, if_pos rfl]
        exact ⟨z1, z2, z3, z4⟩
  · have hC : cN n s (Z i) rs sy = 0 := by unfold cN; rw [if_neg c]
    rw [if_neg c, if_pos rfl, hC, m_best60 (A := A) (C := 0) (g := g) (by rw [e75]; exact c4) (by rw [c91 5 (by omega)]; exact c6) (by omega) (by omega)]
    refine ⟨_, rfl, Fc.si (by decide), fun q hq => by rw [si_oth (by omega), e75]; exact c2 q hq, ?_, by rw [si_oth (by omega), e75]; exact c4, fun j hj => ?_, si_hit, by rw [si_miss (by omega), c91 6 (by omega)]; exact c7⟩
    · obtain ⟨r0, r1, r2, r3, r4, r5⟩ := d2
      exact ⟨by rw [si_miss (by omega)]; exact r0, fun z => by rw [si_miss (by omega)]; exact r1 z, by rw [si_miss (by omega)]; exact r2, by rw [si_miss (by omega)]; exact r3, by rw [si_miss (by omega)]; exact r4, fun j hj => by rw [si_oth (by omega)]; exact r5 j hj⟩
    · have q : j < A := by omega
      obtain ⟨y1, y2, y3, y4⟩ := c5 j q
      rw [si_oth (by omega), si_oth (by omega), si_oth (by omega), si_oth (by omega), d3.at (by decide), d3.at (by decide), d3.at (by decide), d3.at (by decide), fa 87 (by omega) (by omega), fa 88 (by omega) (by omega), fa 89 (by omega) (by omega), a90]
      unfold nZ nW
      rw [if_pos q, if_pos q]
      refine ⟨y1, y2, y3, ?_⟩
      by_cases e : j = i
      · rw [if_pos e, if_neg (by simp [e])]
      · rw [if_neg e, y4]
        by_cases w : W j = true
        · rw [if_pos w, if_pos (by simp [w, e])]
        · rw [if_neg w, if_neg (by simp [w])]
