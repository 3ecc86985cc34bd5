-- the law's loop: every case, and what the loop gives
theorem s0b_eq : EqS s0b (s0n 3) := (by decide +kernel : ∀ j, j < 121 → s0b j = s0n 3 j)
theorem σ0_snap : EqS (snap σ0 1) s0b := (by decide +kernel : ∀ j, j < 121 → snap σ0 1 j = s0b j)
theorem Iv_σ0 : Iv σ0 := by
  refine ⟨s0b, 0, fun _ _ => 0, 0, fun _ => 0, false, fun _ => 0, ⟨⟨3, (Gd_s0 (by omega) (by omega)).cong s0b_eq⟩, fun r hr => absurd hr (by omega), by omega, fun i hi => absurd hi (by omega)⟩, ⟨⟨rfl, σ0_snap, 0, by omega, by omega, by decide +kernel, by decide +kernel, fun r hr => absurd hr (by omega)⟩, ⟨by decide +kernel, fun i hi => absurd hi (by omega)⟩, ?_⟩, ⟨⟨fun j _ => rfl, by omega, by decide +kernel, fun r hr => absurd hr (by omega)⟩, ⟨by decide +kernel, fun i hi => absurd hi (by omega)⟩, ?_⟩⟩
  · unfold FC
    rw [if_neg (by decide)]
    decide +kernel
  · unfold FM
    rw [if_neg (by decide)]
    decide +kernel
def Okk (i : Int32) (x : Option ((Int32 × Sg × Tg) ⊕ Int32)) : Prop := ∃ σ' τ', x = some (.inl (i + 5, σ', τ')) ∧ Iv σ'
theorem Okk_ite {i : Int32} {c : Prop} {d : Decidable c} {a b : Option ((Int32 × Sg × Tg) ⊕ Int32)} (h1 : c → Okk i a) (h2 : ¬ c → Okk i b) : Okk i (@ite _ c d a b) := by
  by_cases h : c
  · rw [if_pos h]
    exact h1 h
  · rw [if_neg h]
    exact h2 h
/-- a call that may throw -/
theorem L_case {i : Int32} {s1 : Int32 × Sg × Tg} (hi : s1.1 = i) {c : Option (Int32 × Sg × Tg)} {m : Sg → Option (Int32 × Sg)} (H : ∃ k σ1 τ1 v σ', c = some (k, σ1, τ1) ∧ m σ1 = some (v, σ') ∧ σ' 75 6 = k ∧ Iv σ' ∧ (k = 0 → τ1 96 0 = Int32.toInt64 v)) : Okk i (c.bind fun v5 => (m v5.2.1).bind fun v7 => (f_X9_thrown v7.2 75).bind fun v8 => if v8 = v5.1 then (if v5.1 = (0 : Int32) then ((lald v5.2.2 96 (0 : Int32)).bind fun v15 => if (lg_cmp v15 (Int32.toInt64 v7.1)) = (0 : Int32) then (f_law_J1847 s1 v7.2 v5.2.2) else (some (.inr (0 : Int32)))) else (f_law_J1847 s1 v7.2 v5.2.2)) else (some (.inr (0 : Int32)))) := by
  obtain ⟨k, σ1, τ1, v, σ', h1, h2, h3, h4, h5⟩ := H
  rw [h1, Option.bind_some, h2, Option.bind_some]
  unfold f_X9_thrown
  rw [Option.bind_some]
  dsimp only
  rw [if_pos h3]
  have e : f_law_J1847 s1 σ' τ1 = some (.inl (i + 5, σ', τ1)) := by
    unfold f_law_J1847
    rw [hi]
  by_cases hk : k = 0
  · rw [if_pos hk, lald0, Option.bind_some, h5 hk, if_pos lgc_eq]
    exact ⟨_, _, e, h4⟩
  · rw [if_neg hk]
    exact ⟨_, _, e, h4⟩
theorem L_TU {c : Option (Int32 × Sg × Tg)} {m : Sg → Option (Int32 × Sg)} {σ : Sg} (H : ∃ k τ1 v σ', c = some (k, σ, τ1) ∧ m σ = some (v, σ') ∧ σ' 75 6 = k ∧ Iv σ' ∧ (k = 0 → τ1 96 0 = Int32.toInt64 v)) : ∃ k σ1 τ1 v σ', c = some (k, σ1, τ1) ∧ m σ1 = some (v, σ') ∧ σ' 75 6 = k ∧ Iv σ' ∧ (k = 0 → τ1 96 0 = Int32.toInt64 v) := by
  obtain ⟨k, τ1, v, σ', h⟩ := H
  exact ⟨k, σ, τ1, v, σ', h⟩
theorem L_A {i : Int32} {s1 : Int32 × Sg × Tg} (hi : s1.1 = i) {c : Option Int32} {m : Sg → Option (Int32 × Sg)} {σ : Sg} {τ : Tg} (H : JA c m σ) : Okk i (c.bind fun v17 => (m σ).bind fun v18 => if v17 = v18.1 then (f_law_J1847 s1 v18.2 τ) else (some (.inr (0 : Int32)))) := by
  obtain ⟨v, σ', h1, h2, h3⟩ := H
  rw [h1, Option.bind_some, h2, Option.bind_some]
  dsimp only
  rw [if_pos rfl]
  unfold f_law_J1847
  rw [hi]
  exact ⟨_, _, rfl, h3⟩
theorem L_B {i : Int32} {s1 : Int32 × Sg × Tg} (hi : s1.1 = i) {c : Option (Int32 × Sg)} {m : Sg → Option (Int32 × Sg)} {τ : Tg} (H : ∃ v σ1 σ', c = some (v, σ1) ∧ m σ1 = some (v, σ') ∧ Iv σ') : Okk i (c.bind fun v17 => (m v17.2).bind fun v18 => if v17.1 = v18.1 then (f_law_J1847 s1 v18.2 τ) else (some (.inr (0 : Int32)))) := by
  obtain ⟨v, σ1, σ', h1, h2, h3⟩ := H
  rw [h1, Option.bind_some, h2, Option.bind_some]
  dsimp only
  rw [if_pos rfl]
  unfold f_law_J1847
  rw [hi]
  exact ⟨_, _, rfl, h3⟩
theorem L_S {i : Int32} {s1 : Int32 × Sg × Tg} (hi : s1.1 = i) {c : Option (Int32 × Sg × Tg)} {m : Sg → Option (Int32 × Sg)} (H : JS c m) : Okk i (c.bind fun v17 => (m v17.2.1).bind fun v18 => if v17.1 = v18.1 then (f_law_J1847 s1 v18.2 v17.2.2) else (some (.inr (0 : Int32)))) := by
  obtain ⟨v, σ1, τ1, σ', h1, h2, h3⟩ := H
  rw [h1, Option.bind_some, h2, Option.bind_some]
  dsimp only
  rw [if_pos rfl]
  unfold f_law_J1847
  rw [hi]
  exact ⟨_, _, rfl, h3⟩
theorem L_K {i : Int32} {s1 : Int32 × Sg × Tg} (hi : s1.1 = i) {c : Option (Int64 × Sg)} {m : Sg → Option (Int64 × Sg × Tg)} (H : JK c m) : Okk i (c.bind fun v17 => (m v17.2).bind fun v18 => if (lg_cmp v17.1 v18.1) = (0 : Int32) then (f_law_J1847 s1 v18.2.1 v18.2.2) else (some (.inr (0 : Int32)))) := by
  obtain ⟨v, σ1, σ', τ', h1, h2, h3, h4⟩ := H
  rw [h1, Option.bind_some, h2, Option.bind_some]
  dsimp only
  rw [if_pos lgc_eq]
  unfold f_law_J1847
  rw [hi]
  exact ⟨_, _, rfl, h3⟩
theorem sld_ok {xs : Nat → Int32} {L j : Nat} (hL : L ≤ 2560) (h : j < L) : sld xs L (nI j) = some (xs j) := by
  unfold sld
  rw [nI_clamp (by omega), if_neg]
  rintro (h1 | h1)
  · exact absurd h1 (nI_nlt (Nat.zero_le _) (by omega))
  · omega
theorem sld_ad {xs : Nat → Int32} {L j : Nat} (hL : L ≤ 2560) (k : Nat) (h : j + k < L) : sld xs L (nI j + nI k) = some (xs (j + k)) := by
  rw [nI_add]
  exact sld_ok hL h
set_option maxHeartbeats 40000000 in
set_option maxRecDepth 100000 in
theorem law_step {xs : Nat → Int32} {L j : Nat} {σ : Sg} {τ : Tg} (hL : L ≤ 2560) (hj : j + 5 ≤ L) (hI : Iv σ) : Okk (nI j) (f_law xs L (nI j, σ, τ)) := by
  have hs0 : sld xs L (nI j) = some (xs j) := sld_ok hL (by omega)
  have hs1 : sld xs L (nI j + (1 : Int32)) = some (xs (j + 1)) := sld_ad hL 1 (by omega)
  have hs2 : sld xs L (nI j + (2 : Int32)) = some (xs (j + 2)) := sld_ad hL 2 (by omega)
  have hs3 : sld xs L (nI j + (3 : Int32)) = some (xs (j + 3)) := sld_ad hL 3 (by omega)
  have hs4 : sld xs L (nI j + (4 : Int32)) = some (xs (j + 4)) := sld_ad hL 4 (by omega)
  have hlt : ¬ nI L - (5 : Int32) < nI j := fun h => by
    have h3 : (nI L - (5 : Int32)).toInt = (L : Int) - 5 := pk_sub_toInt (a := L) (b := 5) (by omega) (by decide)
    rw [Int32.lt_iff_toInt_lt, h3, nI_toInt (by omega)] at h
    omega
  unfold f_law
  dsimp only
  rw [if_neg hlt, hs0, Option.bind_some]
  refine Okk_ite (fun _ => ?_) (fun _ => ?_)
  · simp only [hs1, obs]
    have H := L_case (i := nI j) (s1 := (nI j, σ, τ)) rfl (L_U1 (τ := τ) (J_resize hI (xs (j + 1))))
    exact H
  refine Okk_ite (fun _ => ?_) (fun _ => ?_)
  · have H := L_A (i := nI j) (s1 := (nI j, σ, τ)) (τ := τ) rfl (J_size hI)
    exact H
  refine Okk_ite (fun _ => ?_) (fun _ => ?_)
  · simp only [hs1, hs2, hs3, hs4, obs]
    have H := L_case (i := nI j) (s1 := (nI j, σ, τ)) rfl (L_U2 (τ := τ) (J_set hI (xs (j + 1)) (xs (j + 2)) (xs (j + 3)) (xs (j + 4))))
    exact H
  refine Okk_ite (fun _ => ?_) (fun _ => ?_)
  · simp only [hs1, hs2, hs3, obs]
    have H := L_case (i := nI j) (s1 := (nI j, σ, τ)) rfl (L_TU (L_T2 (τ := τ) (J_get hI (xs (j + 1)) (xs (j + 2)) (xs (j + 3)))))
    exact H
  refine Okk_ite (fun _ => ?_) (fun _ => ?_)
  · simp only [hs1, hs2, hs3, hs4, obs, f_law_J482, f_law_J521]
    by_cases h4 : xs (j + 4) = 0
    · simp only [if_pos h4]
      have H := L_case (i := nI j) (s1 := (nI j, σ, τ)) rfl (L_U1 (τ := τ) (J_fill hI (xs (j + 1)) (xs (j + 2)) (xs (j + 3)) 0 (Or.inl rfl)))
      exact H
    · simp only [if_neg h4]
      have H := L_case (i := nI j) (s1 := (nI j, σ, τ)) rfl (L_U1 (τ := τ) (J_fill hI (xs (j + 1)) (xs (j + 2)) (xs (j + 3)) 1 (Or.inr rfl)))
      exact H
  refine Okk_ite (fun _ => ?_) (fun _ => ?_)
  · simp only [hs1, obs]
    have H := L_case (i := nI j) (s1 := (nI j, σ, τ)) rfl (L_TU (L_T1 (τ := τ) (J_location hI (xs (j + 1)))))
    exact H
  refine Okk_ite (fun _ => ?_) (fun _ => ?_)
  · have H := L_A (i := nI j) (s1 := (nI j, σ, τ)) (τ := τ) rfl (J_cost hI)
    exact H
  refine Okk_ite (fun _ => ?_) (fun _ => ?_)
  · simp only [hs1, obs]
    have H := L_case (i := nI j) (s1 := (nI j, σ, τ)) rfl (L_U1 (τ := τ) (J_choose hI (xs (j + 1))))
    exact H
  refine Okk_ite (fun _ => ?_) (fun _ => ?_)
  · have H := L_A (i := nI j) (s1 := (nI j, σ, τ)) (τ := τ) rfl (J_number hI)
    exact H
  refine Okk_ite (fun _ => ?_) (fun _ => ?_)
  · simp only [hs1, hs2, obs]
    have H := L_case (i := nI j) (s1 := (nI j, σ, τ)) rfl (L_U1 (τ := τ) (J_exchange hI (xs (j + 1)) (xs (j + 2))))
    exact H
  refine Okk_ite (fun _ => ?_) (fun _ => ?_)
  · simp only [hs1, hs2, obs]
    have H := L_case (i := nI j) (s1 := (nI j, σ, τ)) rfl (L_TU (L_T1 (τ := τ) (J_gain hI (xs (j + 1)) (xs (j + 2)))))
    exact H
  refine Okk_ite (fun _ => ?_) (fun _ => ?_)
  · have H := L_A (i := nI j) (s1 := (nI j, σ, τ)) (τ := τ) rfl (J_bestExchange hI)
    exact H
  refine Okk_ite (fun _ => ?_) (fun _ => ?_)
  · have H := L_B (i := nI j) (s1 := (nI j, σ, τ)) (τ := τ) rfl (J_descend hI)
    exact H
  refine Okk_ite (fun _ => ?_) (fun _ => ?_)
  · simp only [hs1, obs]
    have H := L_B (i := nI j) (s1 := (nI j, σ, τ)) (τ := τ) rfl (J_within hI (xs (j + 1)))
    exact H
  refine Okk_ite (fun _ => ?_) (fun _ => ?_)
  · have H := L_B (i := nI j) (s1 := (nI j, σ, τ)) (τ := τ) rfl (J_optimum hI)
    exact H
  refine Okk_ite (fun _ => ?_) (fun _ => ?_)
  · have H := L_B (i := nI j) (s1 := (nI j, σ, τ)) (τ := τ) rfl (J_optima hI)
    exact H
  refine Okk_ite (fun _ => ?_) (fun _ => ?_)
  · simp only [hs1, obs]
    have H := L_B (i := nI j) (s1 := (nI j, σ, τ)) (τ := τ) rfl (J_optimal hI (xs (j + 1)))
    exact H
  refine Okk_ite (fun _ => ?_) (fun _ => ?_)
  · simp only [hs1, obs]
    have H := L_case (i := nI j) (s1 := (nI j, σ, τ)) rfl (L_U1 (τ := τ) (J_mean hI (xs (j + 1))))
    exact H
  refine Okk_ite (fun _ => ?_) (fun _ => ?_)
  · have H := L_B (i := nI j) (s1 := (nI j, σ, τ)) (τ := τ) rfl (J_localOptima hI)
    exact H
  refine Okk_ite (fun _ => ?_) (fun _ => ?_)
  · simp only [hs1, hs2, obs]
    have H := L_case (i := nI j) (s1 := (nI j, σ, τ)) rfl (L_U2 (τ := τ) (J_fix hI (xs (j + 1)) (xs (j + 2))))
    exact H
  refine Okk_ite (fun _ => ?_) (fun _ => ?_)
  · simp only [hs1, obs]
    have H := L_case (i := nI j) (s1 := (nI j, σ, τ)) rfl (L_U2 (τ := τ) (J_free hI (xs (j + 1))))
    exact H
  refine Okk_ite (fun _ => ?_) (fun _ => ?_)
  · simp only [hs1, obs]
    have H := L_case (i := nI j) (s1 := (nI j, σ, τ)) rfl (L_TU (L_T1 (τ := τ) (J_fixed hI (xs (j + 1)))))
    exact H
  refine Okk_ite (fun _ => ?_) (fun _ => ?_)
  · have H := L_A (i := nI j) (s1 := (nI j, σ, τ)) (τ := τ) rfl (J_fixedCost hI)
    exact H
  refine Okk_ite (fun _ => ?_) (fun _ => ?_)
  · simp only [hs1, hs2, obs]
    have H := L_case (i := nI j) (s1 := (nI j, σ, τ)) rfl (L_U2 (τ := τ) (J_entry hI (xs (j + 1)) (xs (j + 2))))
    exact H
  refine Okk_ite (fun _ => ?_) (fun _ => ?_)
  · have H := L_B (i := nI j) (s1 := (nI j, σ, τ)) (τ := τ) rfl (J_bound hI)
    exact H
  refine Okk_ite (fun _ => ?_) (fun _ => ?_)
  · simp only [hs1, hs2, obs]
    have H := L_case (i := nI j) (s1 := (nI j, σ, τ)) rfl (L_U2 (τ := τ) (J_boundWith hI (xs (j + 1)) (xs (j + 2))))
    exact H
  refine Okk_ite (fun _ => ?_) (fun _ => ?_)
  · simp only [hs1, obs]
    have H := L_case (i := nI j) (s1 := (nI j, σ, τ)) rfl (L_U2 (τ := τ) (J_regret hI (xs (j + 1))))
    exact H
  refine Okk_ite (fun _ => ?_) (fun _ => ?_)
  · have H := L_B (i := nI j) (s1 := (nI j, σ, τ)) (τ := τ) rfl (J_branchOn hI)
    exact H
  refine Okk_ite (fun _ => ?_) (fun _ => ?_)
  · have H := L_B (i := nI j) (s1 := (nI j, σ, τ)) (τ := τ) rfl (J_symmetries hI)
    exact H
  refine Okk_ite (fun _ => ?_) (fun _ => ?_)
  · simp only [hs1, obs]
    have H := L_case (i := nI j) (s1 := (nI j, σ, τ)) rfl (L_U1 (τ := τ) (J_representative hI (xs (j + 1))))
    exact H
  refine Okk_ite (fun _ => ?_) (fun _ => ?_)
  · simp only [hs1, hs2, obs, f_law_J1497, f_law_J1511, f_law_J1529, f_law_J1543]
    by_cases h1 : xs (j + 1) = 0
    · by_cases h2 : xs (j + 2) = 0
      · simp only [if_pos h1, if_pos h2]
        have H := L_S (i := nI j) (s1 := (nI j, σ, τ)) rfl (J_search (τ := τ) hI 0 0 (Or.inl rfl) (Or.inl rfl))
        exact H
      · simp only [if_pos h1, if_neg h2]
        have H := L_S (i := nI j) (s1 := (nI j, σ, τ)) rfl (J_search (τ := τ) hI 0 1 (Or.inl rfl) (Or.inr rfl))
        exact H
    · by_cases h2 : xs (j + 2) = 0
      · simp only [if_neg h1, if_pos h2]
        have H := L_S (i := nI j) (s1 := (nI j, σ, τ)) rfl (J_search (τ := τ) hI 1 0 (Or.inr rfl) (Or.inl rfl))
        exact H
      · simp only [if_neg h1, if_neg h2]
        have H := L_S (i := nI j) (s1 := (nI j, σ, τ)) rfl (J_search (τ := τ) hI 1 1 (Or.inr rfl) (Or.inr rfl))
        exact H
  refine Okk_ite (fun _ => ?_) (fun _ => ?_)
  · simp only [hs1, obs]
    have H := L_case (i := nI j) (s1 := (nI j, σ, τ)) rfl (L_TU (L_T1 (τ := τ) (J_found hI (xs (j + 1)))))
    exact H
  refine Okk_ite (fun _ => ?_) (fun _ => ?_)
  · simp only [hs1, obs]
    have H := L_case (i := nI j) (s1 := (nI j, σ, τ)) rfl (L_TU (L_T1 (τ := τ) (J_nodes hI (xs (j + 1)))))
    exact H
  refine Okk_ite (fun _ => ?_) (fun _ => ?_)
  · simp only [hs1, obs]
    have H := L_case (i := nI j) (s1 := (nI j, σ, τ)) rfl (L_U2 (τ := τ) (J_type hI (xs (j + 1))))
    exact H
  refine Okk_ite (fun _ => ?_) (fun _ => ?_)
  · have H := L_B (i := nI j) (s1 := (nI j, σ, τ)) (τ := τ) rfl (J_clearText hI)
    exact H
  refine Okk_ite (fun _ => ?_) (fun _ => ?_)
  · have H := L_B (i := nI j) (s1 := (nI j, σ, τ)) (τ := τ) rfl (J_fault hI)
    exact H
  refine Okk_ite (fun _ => ?_) (fun _ => ?_)
  · have H := L_case (i := nI j) (s1 := (nI j, σ, τ)) rfl (L_U1 (τ := τ) (J_run hI))
    exact H
  refine Okk_ite (fun _ => ?_) (fun _ => ?_)
  · have H := L_case (i := nI j) (s1 := (nI j, σ, τ)) rfl (L_U1 (τ := τ) (J_undo hI))
    exact H
  refine Okk_ite (fun _ => ?_) (fun _ => ?_)
  · have H := L_K (i := nI j) (s1 := (nI j, σ, τ)) rfl (J_checksum (τ := τ) hI)
    exact H
  exact ⟨_, _, rfl, hI⟩
theorem law_runs (xs : Nat → Int32) (L : Nat) (hL : L ≤ 2560) : lo (f_law xs L) (0, σ0, τ0) = some 1 := by
  have key : ∀ d j σ τ, L ≤ j + d → j ≤ L → Iv σ → lo (f_law xs L) (nI j, σ, τ) = some 1 := by
    intro d
    induction d using Nat.strongRecOn with
    | ind d ih =>
      intro j σ τ hd hj hI
      by_cases c : j + 5 ≤ L
      · obtain ⟨σ', τ', h1, h2⟩ := law_step (xs := xs) (τ := τ) hL c hI
        rw [lo_inl h1, show nI j + (5 : Int32) = nI (j + 5) from nI_add j 5]
        exact ih (d - 5) (by omega) (j + 5) σ' τ' (by omega) c h2
      · refine lo_inr ?_
        unfold f_law
        dsimp only
        rw [if_pos]
        have h3 : (nI L - (5 : Int32)).toInt = (L : Int) - 5 := pk_sub_toInt (a := L) (b := 5) (by omega) (by decide)
        rw [Int32.lt_iff_toInt_lt, h3, nI_toInt (by omega)]
        omega
  exact key L 0 σ0 τ0 (by omega) (by omega) Iv_σ0
