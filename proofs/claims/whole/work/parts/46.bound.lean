-- the bound: the class
def eV (n : Nat) (s X : Nat → Int32) (i k : Nat) : Nat := (enS n (tS s 1) (tS s 37) (tS s 73) X i k).toNatClampNeg
theorem eV_ok {n i k : Nat} {s X : Nat → Int32} (hg : Gd n s) (hX : Fx n X) (hi : i < n) (hk : k < n) (hx : X i = -1) (hl : frl n X k = true) : enS n (tS s 1) (tS s 37) (tS s 73) X i k = nI (eV n s X i k) ∧ eV n s X i k ≤ 160000 := by
  obtain ⟨e, h1, h2⟩ := enS_nI hg hX hi hk hx hl
  unfold eV
  rw [h2, nI_clamp (by omega)]
  exact ⟨rfl, h1⟩
def bdN (n : Nat) (s X : Nat → Int32) : Nat := HG n (FLs n X) X (eV n s X) n (FLs n X)
def bdS (n : Nat) (s X : Nat → Int32) : Int32 := partS n (tS s 1) (tS s 37) (tS s 73) X + nI (bdN n s X)
theorem FL_n {n : Nat} {X : Nat → Int32} (hX : Fx n X) : ∀ l, l < 6 → (FLs n X).testBit l = true → l < n := fun l hl h => ((frl_iff hX hl).mp h).1
theorem HG_small {n : Nat} {s X : Nat → Int32} (hg : Gd n s) (hX : Fx n X) : ∀ i t, i ≤ n → t < 64 → Sb t (FLs n X) → pc t = cnt (frf X) i → HG n (FLs n X) X (eV n s X) i t ≤ pc t * 160000 := fun i t hi ht h1 h2 => HG_lt hX.2.1 (FL_n hX) (fun i k hi hk hx hl => (eV_ok hg hX hi hk hx hl).2) i t hi ht h1 h2
/-- the value of a set, whatever the number of fixed facilities passed -/
theorem HG_same {n FL : Nat} {X : Nat → Int32} {e : Nat → Nat → Nat} {t : Nat} : ∀ i d, cnt (frf X) i = cnt (frf X) (i + d) → HG n FL X e (i + d) t = HG n FL X e i t
  | i, 0, _ => rfl
  | i, d + 1, h => by
    have hs : cnt (frf X) (i + d + 1) = cnt (frf X) (i + d) + if frf X (i + d) = true then 1 else 0 := rfl
    have hm : cnt (frf X) i ≤ cnt (frf X) (i + d) := by
      clear h hs
      induction d with
      | zero => exact Nat.le_refl _
      | succ d ih =>
        have : cnt (frf X) (i + d + 1) = cnt (frf X) (i + d) + if frf X (i + d) = true then 1 else 0 := rfl
        show _ ≤ cnt (frf X) (i + d + 1)
        omega
    have h : cnt (frf X) i = cnt (frf X) (i + d + 1) := h
    have hf : ¬ frf X (i + d) = true := fun z => by
      rw [if_pos z] at hs
      omega
    rw [if_neg hf] at hs
    show (if X (i + d) = -1 then stG n FL (e (i + d)) (HG n FL X e (i + d)) else HG n FL X e (i + d)) t = _
    rw [if_neg (show ¬ X (i + d) = -1 from fun z => hf (decide_eq_true z))]
    exact HG_same i d (by omega)
theorem c_leastSum {σ : Sg} {kb n t i : Nat} {s X : Nat → Int32} (hb : kb = 48 ∨ kb = 61) (hg : Gd n s) (hX : Fx n X) (hB : BL n s X σ kb) (ht : t < 64) (hsb : Sb t (FLs n X)) (hi : i < n) (hx : X i = -1) (hc : pc t = cnt (frf X) i + 1) (hS : ∀ r, r < 64 → Sb r (FLs n X) → pc r = cnt (frf X) i → r < t → σ (kb + 5) r = nI (HG n (FLs n X) X (eV n s X) i r)) : f_X1_leastSum σ kb (nI t) = some (nI (HG n (FLs n X) X (eV n s X) (i + 1) t)) := by
  have hn := hX.2.1
  obtain ⟨l1, l2, l3, l4, l5⟩ := kb_ln kb hb
  obtain ⟨b1, b2, b3, b4, b5, b6⟩ := hB
  have hcl := cnt_le (P := frf X) i
  have e1 : HG n (FLs n X) X (eV n s X) (i + 1) t = stG n (FLs n X) (eV n s X i) (HG n (FLs n X) X (eV n s X) i) t := by
    show (if X i = -1 then stG n (FLs n X) (eV n s X i) (HG n (FLs n X) X (eV n s X) i) else HG n (FLs n X) X (eV n s X) i) t = _
    rw [if_pos hx]
  unfold f_X1_leastSum
  rw [(pc_key t ht).1]
  simp only [obs]
  rw [isub1 (by omega), show pc t - 1 = cnt (frf X) i by omega, item_ok (by omega) (ln_le _), b5 i hi hx]
  simp only [obs]
  rw [e1]
  unfold stG
  generalize hP : (fun k => t.testBit k && (FLs n X).testBit k && decide (HG n (FLs n X) X (eV n s X) i (t - 2 ^ k) < 1000000)) = P
  rw [lo_run (f := f_X1_leastSum_L20 σ kb (nI t) (nI i)) (fun k => (nI (miF P (fun k => HG n (FLs n X) X (eV n s X) i (t - 2 ^ k) + eV n s X i k) k), nI k)) (n := n) (e := nI (miF P (fun k => HG n (FLs n X) X (eV n s X) i (t - 2 ^ k) + eV n s X i k) n)) (fun k hk => by
    unfold f_X1_leastSum_L20 f_X1_leastSum_J67
    simp only
    rw [b1, if_neg (nI_ge hk (by omega)), has_ok ht (by omega)]
    have hs : miF P (fun k => HG n (FLs n X) X (eV n s X) i (t - 2 ^ k) + eV n s X i k) (k + 1) = if P k = true then min (miF P (fun k => HG n (FLs n X) X (eV n s X) i (t - 2 ^ k) + eV n s X i k) k) (HG n (FLs n X) X (eV n s X) i (t - 2 ^ k) + eV n s X i k) else miF P (fun k => HG n (FLs n X) X (eV n s X) i (t - 2 ^ k) + eV n s X i k) k := rfl
    have hle := miF_le (P := P) (v := fun k => HG n (FLs n X) X (eV n s X) i (t - 2 ^ k) + eV n s X i k) k
    rw [hs]
    simp only [obs]
    by_cases c : t.testBit k = true
    · obtain ⟨k1, k2, k3, k4⟩ := sb_key t ht k (by omega) c
      have kF := hsb k (by omega) c
      have sub : Sb (t - 2 ^ k) (FLs n X) := fun l hl z => hsb l hl (by
        rw [sb_bit t ht k (by omega) c l hl, Bool.and_eq_true] at z
        exact z.1)
      have hsm := HG_small hg hX i (t - 2 ^ k) (by omega) (by omega) sub (by omega)
      have hpc := (pc_key t ht).2
      have hlt : HG n (FLs n X) X (eV n s X) i (t - 2 ^ k) < 1000000 := by
        have : pc (t - 2 ^ k) * 160000 ≤ 5 * 160000 := Nat.mul_le_mul_right _ (by omega)
        omega
      have hp : P k = true := by rw [← hP]; simp [c, kF, hlt]
      obtain ⟨v1, v2⟩ := eV_ok hg hX hi hk hx kF
      rw [if_pos c, if_pos hp, if_neg (show ¬ (1 : Int32) = 0 by decide), k1, item_ok (by omega) (ln_le _), hS _ (by omega) sub (by omega) k3]
      simp only [obs]
      rw [at_ok (by omega) (ln_le _), b6 i k hi hk hx kF, v1]
      simp only [obs]
      rw [nI_add, mn_nI (by omega) (by omega), nI_s]
    · have hp : ¬ P k = true := by rw [← hP]; simp [c]
      rw [if_neg c, if_neg hp, if_pos rfl, nI_s]) (by
    unfold f_X1_leastSum_L20
    simp only
    rw [b1, if_pos (nI_le (Nat.le_refl n) (by omega))]) (s := (1000000, 0)) rfl]
  rfl
theorem c_lowest {σ : Sg} {kb n : Nat} {s X : Nat → Int32} (hb : kb = 48 ∨ kb = 61) (hg : Gd n s) (hX : Fx n X) (hB : BL n s X σ kb) : ∃ σ', f_X1_lowest σ kb = some (bdS n s X, σ') ∧ Fr [kb + 5] σ σ' := by
  have hn := hX.2.1
  obtain ⟨l1, l2, l3, l4, l5⟩ := kb_ln kb hb
  have hF := FLs_lt hX
  have BK : ∀ σ', Fr [kb + 5] σ σ' → BL n s X σ' kb := fun σ' h => by
    obtain ⟨b1, b2, b3, b4, b5, b6⟩ := hB
    have k : ∀ q, q ≠ kb + 5 → σ' q = σ q := fun q hq => h.at (fun z => hq (List.mem_singleton.mp z))
    exact ⟨by rw [k _ (by omega), b1], by rw [k _ (by omega), b2], by rw [k _ (by omega), b3], by rw [k _ (by omega), b4], fun i hi hx => by rw [k _ (by omega), b5 i hi hx], fun i k' hi hk hx hl => by rw [k _ (by omega), b6 i k' hi hk hx hl]⟩
  unfold f_X1_lowest
  rw [show (0 : Int32) = nI 0 from rfl, setItem_ok (by omega) (ln_le _)]
  simp only [obs]
  -- what is known of the sets below t
  obtain ⟨e, h1, h2, h3⟩ := lo_tc (f := f_X1_lowest_L11 kb) (fun j z => z.1 = nI (j + 1) ∧ Fr [kb + 5] σ z.2 ∧ ∀ r, r < j + 1 → r < 64 → Sb r (FLs n X) → ∀ i, i ≤ n → cnt (frf X) i = pc r → z.2 (kb + 5) r = nI (HG n (FLs n X) X (eV n s X) i r)) (FLs n X) (fun e => Fr [kb + 5] σ e ∧ ∀ r, r < FLs n X + 1 → r < 64 → Sb r (FLs n X) → ∀ i, i ≤ n → cnt (frf X) i = pc r → e (kb + 5) r = nI (HG n (FLs n X) X (eV n s X) i r)) (fun j z hj ⟨e1, e2, e3⟩ => by
    obtain ⟨t', σ2⟩ := z
    simp only at e1 e2 e3
    subst e1
    have hB2 := BK σ2 e2
    unfold f_X1_lowest_L11 f_X1_lowest_J43
    simp only
    rw [hB2.2.2.1, if_neg (nI_nlt (by omega) (by omega))]
    have hsbc := sb_c (j + 1) (by omega) (FLs n X) hF
    by_cases c : Sb (j + 1) (FLs n X)
    · rw [if_pos (hsbc.mpr c)]
      -- a free facility with that many ahead of it
      have hpos : 0 < pc (j + 1) := by
        by_cases q : pc (j + 1) = 0
        · have := pc_0 (j + 1) (by omega) q
          omega
        · omega
      have hle : pc (j + 1) ≤ cnt (frf X) n := by
        rw [← free_eq hX]
        exact (by
          have key : ∀ s, s < 64 → ∀ t, t < 64 → (∀ l, l < 6 → s.testBit l = true → t.testBit l = true) → pc s ≤ pc t := by decide +kernel
          exact key (j + 1) (by omega) (FLs n X) hF c)
      have hex : ∃ i, i < n ∧ X i = -1 ∧ cnt (frf X) i + 1 = pc (j + 1) := by
        have key : ∀ m, m ≤ n → pc (j + 1) ≤ cnt (frf X) m → ∃ i, i < m ∧ X i = -1 ∧ cnt (frf X) i + 1 = pc (j + 1) := by
          intro m
          induction m with
          | zero =>
            intro _ h
            have : cnt (frf X) 0 = 0 := rfl
            omega
          | succ m ih =>
            intro hm h
            have hs : cnt (frf X) (m + 1) = cnt (frf X) m + if frf X m = true then 1 else 0 := rfl
            by_cases q : pc (j + 1) ≤ cnt (frf X) m
            · obtain ⟨i, i1, i2⟩ := ih (by omega) q
              exact ⟨i, by omega, i2⟩
            · by_cases f : frf X m = true
              · rw [if_pos f] at hs
                exact ⟨m, by omega, of_decide_eq_true f, by omega⟩
              · rw [if_neg f] at hs
                omega
        exact key n (Nat.le_refl n) hle
      obtain ⟨i, hi, hx, hc⟩ := hex
      rw [c_leastSum hb hg hX hB2 (show j + 1 < 64 by omega) c hi hx hc.symm (fun r r1 r2 r3 r4 => e3 r r4 r1 r2 i (by omega) r3.symm)]
      simp only [obs]
      rw [setItem_ok (by omega) (ln_le _)]
      simp only [obs]
      rw [nI_s]
      refine ⟨_, rfl, rfl, e2.si (List.mem_singleton.mpr rfl), fun r r1 r2 r3 i' hi' hc' => ?_⟩
      simp only
      by_cases q : r = j + 1
      · subst q
        rw [si_hit]
        congr 1
        have hs : cnt (frf X) (i + 1) = cnt (frf X) i + if frf X i = true then 1 else 0 := rfl
        rw [if_pos (show frf X i = true from decide_eq_true hx)] at hs
        by_cases q2 : i + 1 ≤ i'
        · obtain ⟨d, rfl⟩ : ∃ d, i' = i + 1 + d := ⟨i' - (i + 1), by omega⟩
          exact (HG_same (i + 1) d (by omega)).symm
        · obtain ⟨d, hd⟩ : ∃ d, i + 1 = i' + d := ⟨i + 1 - i', by omega⟩
          rw [hd]
          exact HG_same i' d (by rw [← hd]; omega)
      · rw [si_miss q]
        exact e3 r (by omega) r2 r3 i' hi' hc'
    · rw [if_neg (fun z => c (hsbc.mp z)), nI_s]
      refine ⟨_, rfl, rfl, e2, fun r r1 r2 r3 i' hi' hc' => ?_⟩
      by_cases q : r = j + 1
      · subst q
        exact absurd r3 c
      · exact e3 r (by omega) r2 r3 i' hi' hc') (fun z ⟨e1, e2, e3⟩ => by
    obtain ⟨t', σ2⟩ := z
    simp only at e1 e2 e3
    subst e1
    have hB2 := BK σ2 e2
    unfold f_X1_lowest_L11
    simp only
    rw [hB2.2.2.1, if_pos (nI_lt (by omega) (by omega))]
    exact ⟨_, rfl, e2, e3⟩) (s := (1, si σ (kb + 5) 0 (nI 0))) ⟨rfl, Fr.rf.si (List.mem_singleton.mpr rfl), fun r r1 r2 r3 i hi hc => by
      have : r = 0 := by omega
      subst this
      simp only
      rw [si_hit]
      have h0 : pc 0 = 0 := by decide +kernel
      have := HG_same (n := n) (FL := FLs n X) (X := X) (e := eV n s X) (t := 0) 0 i (by rw [Nat.zero_add, hc, h0]; rfl)
      rw [Nat.zero_add] at this
      rw [this]
      rfl⟩
  rw [h1]
  simp only [obs]
  have hB3 := BK e h2
  rw [hB3.2.2.1, item_ok (by omega) (ln_le _), h3 (FLs n X) (by omega) hF (fun l hl z => z) n (Nat.le_refl n) (free_eq hX).symm, hB3.2.1]
  exact ⟨e, rfl, h2⟩
