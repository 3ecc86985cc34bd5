theorem ar_lt {n t i : Nat} (hn : n ≤ 6) (ht : t < fac n) (hi : i < n) : (arL n t).getD i 0 < n := by
  obtain ⟨h1, h2, -⟩ := ar_ok n (by omega) t ht
  rw [List.getD_eq_getElem?_getD, List.getElem?_eq_getElem (by omega)]
  have := List.all_eq_true.mp h2 ((arL n t)[i]'(by omega)) (List.getElem_mem _)
  simpa using this
theorem nx_some {n t : Nat} (hn : n ≤ 6) (ht : t + 1 < fac n) : ∃ p, pvF (fun i => (arL n t).getD i 0) (n - 1) = some p ∧ ∀ i, i < n → rvF 6 (swN (fun i => (arL n t).getD i 0) p (lsF (fun i => (arL n t).getD i 0) p (n - 1))) (p + 1) (n - 1) i = (arL n (t + 1)).getD i 0 := by
  have h := nx_all n (by omega) t (by omega)
  rw [if_pos ht] at h
  unfold nxL nxF at h
  cases hp : pvF (fun i => (arL n t).getD i 0) (n - 1) with
  | none => rw [hp] at h; cases h
  | some p =>
    rw [hp] at h
    refine ⟨p, rfl, fun i hi => ?_⟩
    have h2 := Option.some.inj h
    rw [← h2, List.getD_eq_getElem?_getD, List.getElem?_map, List.getElem?_range hi]
    rfl
theorem nx_none {n t : Nat} (hn : n ≤ 6) (ht : t < fac n) (h1 : ¬ t + 1 < fac n) : pvF (fun i => (arL n t).getD i 0) (n - 1) = none := by
  have h := nx_all n (by omega) t ht
  rw [if_neg h1] at h
  unfold nxL nxF at h
  cases hp : pvF (fun i => (arL n t).getD i 0) (n - 1) with
  | none => rfl
  | some p => rw [hp] at h; cases h
theorem m_goesOn {σ : Sg} {n t : Nat} (h0 : σ 76 0 = nI n) (h1 : 1 ≤ n) (hn : n ≤ 6) (ht : t < fac n) (hA : Asg σ 80 n t) : ∃ r σ', f_X9_goesOn σ 75 = some (r, σ') ∧ Fr [80] σ σ' ∧ (t + 1 < fac n → r = 1 ∧ Asg σ' 80 n (t + 1)) ∧ (¬ t + 1 < fac n → r = 0 ∧ σ' = σ) := by
  have hb : ∀ i, i < n → (arL n t).getD i 0 < 6 := fun i hi => by
    have := ar_lt hn ht hi
    omega
  have hv : ∀ i, i < n → ald σ (75 + 5) (nI i) = some (nI ((arL n t).getD i 0)) := fun i hi => by
    rw [m_p (by omega), vec_at (by omega), Nat.zero_add, hA i hi]
  have e1 : lo (f_X9_goesOn_L9 σ 75) (nI n - (2 : Int32)) = some (match pvF (fun i => (arL n t).getD i 0) (n - 1) with | none => -1 | some p => nI p) := by
    have := pv_run (f := f_X9_goesOn_L9 σ 75) hb hn (by
      unfold f_X9_goesOn_L9
      rw [if_pos (by decide)]) (fun i hi => by
      unfold f_X9_goesOn_L9
      rw [if_neg (nI_pos (by omega)), hv i (by omega), show nI i + (1 : Int32) = nI (i + 1) from nI_s i, hv (i + 1) hi]
      simp only [Option.bind_some, nI_leI (show (arL n t).getD i 0 < 2 ^ 31 by have := hb i (by omega); omega) (show (arL n t).getD (i + 1) 0 < 2 ^ 31 by have := hb (i + 1) hi; omega)]) (n - 1) (by omega)
    rw [show nI (n - 1) - 1 = nI n - (2 : Int32) by
      obtain ⟨q, rfl⟩ : ∃ q, n = q + 1 := ⟨n - 1, by omega⟩
      rw [show q + 1 - 1 = q from rfl, ← nI_s]
      grind] at this
    exact this
  unfold f_X9_goesOn
  rw [m_n h0]
  simp only [Option.bind_some]
  rw [e1]
  simp only [Option.bind_some]
  by_cases c : t + 1 < fac n
  · obtain ⟨p, hp, hr⟩ := nx_some hn c
    have hpn := (pv_lt hp).1
    rw [hp]
    simp only
    rw [if_pos (nI_pos' (by omega)), show nI n - (1 : Int32) = nI (n - 1) from by
      obtain ⟨q, rfl⟩ : ∃ q, n = q + 1 := ⟨n - 1, by omega⟩
      exact nI_pred q]
    rw [ls_run (p := p) (b := fun i => (arL n t).getD i 0) (n := n) (f := f_X9_goesOn_L51 σ 75 (nI p)) (fun j hj hjn => by
      unfold f_X9_goesOn_L51
      rw [hv j hjn, hv p (by omega)]
      have q1 := hb j hjn
      have q2 := hb p (by omega)
      simp only [Option.bind_some]
      by_cases c2 : (arL n t).getD j 0 < (arL n t).getD p 0
      · rw [if_pos c2, if_neg (nI_ge c2 (by omega))]
      · rw [if_neg c2, if_pos (nI_le (by omega) (by omega))]) (n - 1) (by omega) (by omega)]
    simp only [Option.bind_some]
    have hl := ls_ge (b := fun i => (arL n t).getD i 0) (p := p) (j := n - 1) (by omega)
    rw [m_swaps (by omega) (by omega)]
    simp only [Option.bind_some]
    have h76 : (swS σ 80 p (lsF (fun i => (arL n t).getD i 0) p (n - 1))) 76 0 = nI n := by rw [swS_ne _ _ _ (by omega), h0]
    rw [m_n h76]
    simp only [Option.bind_some]
    obtain ⟨σ', r1, r2, r3⟩ := rv_ok (n := n) (k := 80) (step := f_X9_goesOn_L92 75) (G := fun _ => True) (fun _ _ _ _ => trivial) (fun i j σ1 hi hj _ => by
      unfold f_X9_goesOn_L92
      by_cases c3 : j ≤ i
      · rw [if_pos c3, if_pos (nI_le c3 (by omega))]
      · rw [if_neg c3, if_neg (nI_ge (by omega) (by omega)), m_swaps (by omega) hj]
        simp only [Option.bind_some, nI_s]
        obtain ⟨q, rfl⟩ : ∃ q, j = q + 1 := ⟨j - 1, by omega⟩
        rw [show nI (q + 1) + (-1) = nI q from pk_m1 q]
        rfl) 6 (p + 1) (n - 1) (swS σ 80 p (lsF (fun i => (arL n t).getD i 0) p (n - 1))) (swN (fun i => (arL n t).getD i 0) p (lsF (fun i => (arL n t).getD i 0) p (n - 1))) (by omega) (by omega) (by omega) trivial (fun q hq => by
        rw [swS_at]
        unfold sw swN
        rw [hA p (by omega), hA _ (show lsF (fun i => (arL n t).getD i 0) p (n - 1) < n by omega), hA q hq]
        split
        · rfl
        · split <;> rfl) (by omega)
    rw [show nI p + (1 : Int32) = nI (p + 1) from nI_s p, show nI n - (1 : Int32) = nI (n - 1) from by
      obtain ⟨q, rfl⟩ : ∃ q, n = q + 1 := ⟨n - 1, by omega⟩
      exact nI_pred q, r1]
    refine ⟨1, σ', rfl, fun q hq => ?_, fun _ => ⟨rfl, fun i hi => ?_⟩, fun z => absurd c z⟩
    · rw [r2 q hq]
      exact swS_ne _ _ _ (fun e => hq (by rw [e]; exact List.mem_singleton.mpr rfl))
    · rw [r3 i hi, hr i hi]
  · rw [nx_none hn ht c]
    simp only
    rw [if_neg (by decide)]
    exact ⟨0, σ, rfl, Fr.rf, fun z => absurd z c, fun _ => ⟨rfl, rfl⟩⟩
theorem advance8_ok {σ : Sg} {k n t : Nat} (hk : ln k = 6) (h1 : 1 ≤ n) (hn : n ≤ 6) (ht : t < fac n) (hA : Asg σ k n t) : ∃ σ', f_X8_advance σ k (nI n) = some σ' ∧ Fr [k] σ σ' ∧ (t + 1 < fac n → Asg σ' k n (t + 1)) := by
  have hb : ∀ i, i < n → (arL n t).getD i 0 < 6 := fun i hi => by
    have := ar_lt hn ht hi
    omega
  have hv : ∀ i, i < n → f_X8_item σ k (nI i) = some (nI ((arL n t).getD i 0)) := fun i hi => by
    rw [it6 hk (by omega), vec_at (by omega), Nat.zero_add, hA i hi]
  have e1 : lo (f_X8_advance_L4 σ k) (nI n - (2 : Int32)) = some (match pvF (fun i => (arL n t).getD i 0) (n - 1) with | none => -1 | some p => nI p) := by
    have := pv_run (f := f_X8_advance_L4 σ k) hb hn (by
      unfold f_X8_advance_L4
      rw [if_pos (by decide)]) (fun i hi => by
      unfold f_X8_advance_L4
      rw [if_neg (nI_pos (by omega)), hv i (by omega), show nI i + (1 : Int32) = nI (i + 1) from nI_s i, hv (i + 1) hi]
      simp only [Option.bind_some, nI_leI (show (arL n t).getD i 0 < 2 ^ 31 by have := hb i (by omega); omega) (show (arL n t).getD (i + 1) 0 < 2 ^ 31 by have := hb (i + 1) hi; omega)]) (n - 1) (by omega)
    rw [show nI (n - 1) - 1 = nI n - (2 : Int32) by
      obtain ⟨q, rfl⟩ : ∃ q, n = q + 1 := ⟨n - 1, by omega⟩
      rw [show q + 1 - 1 = q from rfl, ← nI_s]
      grind] at this
    exact this
  unfold f_X8_advance
  rw [e1]
  simp only [Option.bind_some]
  by_cases c : t + 1 < fac n
  · obtain ⟨p, hp, hr⟩ := nx_some hn c
    have hpn := (pv_lt hp).1
    rw [hp]
    simp only
    have hn1 : nI n - (1 : Int32) = nI (n - 1) := by
      obtain ⟨q, rfl⟩ : ∃ q, n = q + 1 := ⟨n - 1, by omega⟩
      exact nI_pred q
    rw [if_pos (nI_pos' (by omega)), hn1]
    rw [ls_run (p := p) (b := fun i => (arL n t).getD i 0) (n := n) (f := f_X8_advance_L38 (nI p) σ k) (fun j hj hjn => by
      unfold f_X8_advance_L38
      have q1 := hb j hjn
      have q2 := hb p (by omega)
      by_cases e : j = p
      · subst e
        rw [if_pos (nI_le (by omega) (by omega)), if_neg (by omega)]
      · rw [if_neg (nI_ge (by omega) (by omega)), hv j hjn, hv p (by omega)]
        simp only [Option.bind_some]
        by_cases c2 : (arL n t).getD j 0 < (arL n t).getD p 0
        · rw [if_pos c2, if_neg (nI_ge c2 (by omega))]
        · rw [if_neg c2, if_pos (nI_le (by omega) (by omega))]) (n - 1) (by omega) (by omega)]
    simp only [Option.bind_some]
    have hl := ls_ge (b := fun i => (arL n t).getD i 0) (p := p) (j := n - 1) (by omega)
    rw [swap6 hk (by omega) (by omega)]
    simp only [Option.bind_some]
    obtain ⟨σ', r1, r2, r3⟩ := rv_ok (n := n) (k := k) (step := f_X8_advance_L78 k) (G := fun _ => True) (fun _ _ _ _ => trivial) (fun i j σ1 hi hj _ => by
      unfold f_X8_advance_L78
      by_cases c3 : j ≤ i
      · rw [if_pos c3, if_pos (nI_le c3 (by omega))]
      · rw [if_neg c3, if_neg (nI_ge (by omega) (by omega)), swap6 hk (by omega) hj]
        simp only [Option.bind_some, nI_s]
        obtain ⟨q, rfl⟩ : ∃ q, j = q + 1 := ⟨j - 1, by omega⟩
        rw [show nI (q + 1) + (-1) = nI q from pk_m1 q]
        rfl) 6 (p + 1) (n - 1) (swS σ k p (lsF (fun i => (arL n t).getD i 0) p (n - 1))) (swN (fun i => (arL n t).getD i 0) p (lsF (fun i => (arL n t).getD i 0) p (n - 1))) (by omega) (by omega) (by omega) trivial (fun q hq => by
        rw [swS_at]
        unfold sw swN
        rw [hA p (by omega), hA _ (show lsF (fun i => (arL n t).getD i 0) p (n - 1) < n by omega), hA q hq]
        split
        · rfl
        · split <;> rfl) (by omega)
    rw [show nI p + (1 : Int32) = nI (p + 1) from nI_s p, r1]
    refine ⟨σ', rfl, fun q hq => ?_, fun _ i hi => ?_⟩
    · rw [r2 q hq]
      exact swS_ne _ _ _ (fun e => hq (by rw [e]; exact List.mem_singleton.mpr rfl))
    · rw [r3 i hi, hr i hi]
  · rw [nx_none hn ht c]
    simp only
    rw [if_neg (by decide)]
    exact ⟨σ, rfl, Fr.rf, fun z => absurd z c⟩
