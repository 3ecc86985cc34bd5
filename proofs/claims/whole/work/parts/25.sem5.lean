-- going through the assignments
def Asg (σ : Sg) (k n t : Nat) : Prop := ∀ i, i < n → σ k i = nI ((arL n t).getD i 0)
theorem rv_ok {n k : Nat} {step : (Int32 × Int32 × Sg) → Option ((Int32 × Int32 × Sg) ⊕ Sg)} {G : Sg → Prop} (hG : ∀ σ i j, G σ → G (swS σ k i j)) (hstep : ∀ (i j : Nat) (σ : Sg), i ≤ 6 → j < 6 → G σ → step (nI i, nI j, σ) = if j ≤ i then some (.inr σ) else some (.inl (nI (i + 1), nI (j - 1), swS σ k i j))) : ∀ (f : Nat) (i j : Nat) (σ : Sg) (b : Nat → Nat), j < 6 → i ≤ 6 → j < i + 2 * f → G σ → (∀ q, q < n → σ k q = nI (b q)) → j < n → ∃ σ', lo step (nI i, nI j, σ) = some σ' ∧ Fr [k] σ σ' ∧ ∀ q, q < n → σ' k q = nI (rvF f b i j q) := by
  intro f
  induction f with
  | zero =>
    intro i j σ b hj hi hf hg hb hjn
    exact ⟨σ, lo_inr (by rw [hstep i j σ hi hj hg, if_pos (by omega)]), Fr.rf, hb⟩
  | succ f ih =>
    intro i j σ b hj hi hf hg hb hjn
    by_cases h : i < j
    · have h1 := hstep i j σ (by omega) hj hg
      rw [if_neg (by omega)] at h1
      obtain ⟨σ', q1, q2, q3⟩ := ih (i + 1) (j - 1) (swS σ k i j) (swN b i j) (by omega) (by omega) (by omega) (hG _ _ _ hg) (fun q hq => by
        rw [swS_at]
        unfold sw swN
        rw [hb i (by omega), hb j hjn, hb q hq]
        split
        · rfl
        · split <;> rfl) (by omega)
      rw [lo_inl h1]
      refine ⟨σ', q1, fun q hq => ?_, fun q hq => ?_⟩
      · rw [q2 q hq]
        exact swS_ne _ _ _ (fun e => hq (by rw [e]; exact List.mem_singleton.mpr rfl))
      · rw [q3 q hq]
        show _ = nI ((if i < j then rvF f (swN b i j) (i + 1) (j - 1) else b) q)
        rw [if_pos h]
    · rw [lo_inr (show step (nI i, nI j, σ) = some (.inr σ) by rw [hstep i j σ hi hj hg, if_pos (by omega)])]
      refine ⟨σ, rfl, Fr.rf, fun q hq => ?_⟩
      rw [hb q hq]
      show _ = nI ((if i < j then rvF f (swN b i j) (i + 1) (j - 1) else b) q)
      rw [if_neg h]
theorem pv_lt {b : Nat → Nat} : ∀ {i p}, pvF b i = some p → p < i ∧ b p ≤ b (p + 1)
  | 0, p, h => by cases h
  | i + 1, p, h => by
    unfold pvF at h
    split at h
    · have := pv_lt h
      exact ⟨by omega, this.2⟩
    · cases h
      exact ⟨by omega, by omega⟩
theorem ls_ge {b : Nat → Nat} {p : Nat} : ∀ {j}, p ≤ j → p ≤ lsF b p j ∧ lsF b p j ≤ j
  | 0, h => by unfold lsF; omega
  | j + 1, h => by
    unfold lsF
    split
    · by_cases hp : p ≤ j
      · have := ls_ge (b := b) hp
        omega
      · have : p = j + 1 := by omega
        subst this
        omega
    · omega
/-- the two loops ahead of the exchange -/
theorem pv_run {n : Nat} {b : Nat → Nat} {f : Int32 → Option (Int32 ⊕ Int32)} (hb : ∀ i, i < n → b i < 6) (hn : n ≤ 6) (hm : f (-1) = some (.inr (-1))) (hs : ∀ i, i + 1 < n → f (nI i) = if b i ≤ b (i + 1) then some (.inr (nI i)) else some (.inl (nI i + (-1)))) : ∀ i, i + 1 ≤ n → lo f (nI i - 1) = some (match pvF b i with | none => -1 | some p => nI p)
  | 0, _ => by
    rw [show nI 0 - 1 = (-1 : Int32) from by decide]
    exact lo_inr hm
  | i + 1, h => by
    rw [show nI (i + 1) - 1 = nI i from nI_pred i]
    unfold pvF
    by_cases c : b (i + 1) < b i
    · rw [if_pos c]
      have h1 := hs i (by omega)
      rw [if_neg (by omega)] at h1
      rw [lo_inl h1, show nI i + (-1) = nI i - 1 from by grind]
      exact pv_run hb hn hm hs i (by omega)
    · rw [if_neg c]
      have h1 := hs i (by omega)
      rw [if_pos (by omega)] at h1
      exact lo_inr h1
theorem ls_run {n p : Nat} {b : Nat → Nat} {f : Int32 → Option (Int32 ⊕ Int32)} (hs : ∀ j, p ≤ j → j < n → f (nI j) = if b j < b p then some (.inl (nI j + (-1))) else some (.inr (nI j))) : ∀ j, p ≤ j → j < n → lo f (nI j) = some (nI (lsF b p j))
  | 0, h, hj => by
    have : p = 0 := by omega
    subst this
    have h1 := hs 0 (by omega) hj
    rw [if_neg (by omega)] at h1
    exact lo_inr h1
  | j + 1, h, hj => by
    unfold lsF
    have h1 := hs (j + 1) h hj
    by_cases c : b (j + 1) < b p
    · rw [if_pos c] at h1 ⊢
      have hp : p ≤ j := by
        by_cases e : p = j + 1
        · subst e
          omega
        · omega
      rw [lo_inl h1, show nI (j + 1) + (-1) = nI j from pk_m1 j]
      exact ls_run hs j hp (by omega)
    · rw [if_neg c] at h1 ⊢
      exact lo_inr h1
