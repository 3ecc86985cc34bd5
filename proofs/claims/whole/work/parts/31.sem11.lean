-- the common divisor
theorem nI_rmN {a b : Nat} (ha : a < 2 ^ 31) (h0 : 0 < b) (hb : b < 2 ^ 31) : rm (nI a) (nI b) = some (nI (a % b)) := by
  unfold rm
  rw [if_neg (nI_ne0 h0 hb), pk_rem ha h0 hb]
theorem m_divisor (b : Nat) : ∀ a, a < 2 ^ 31 → b < 2 ^ 31 → f_X9_divisor (nI a) (nI b) = some (nI (Nat.gcd a b)) := by
  have key : ∀ b a, a < 2 ^ 31 → b < 2 ^ 31 → lo f_X9_divisor_L4 (nI a, nI b) = some (nI (Nat.gcd a b)) := by
    intro b
    induction b using Nat.strongRecOn with
    | ind b ih =>
      intro a ha hb
      by_cases h : b = 0
      · subst h
        rw [Nat.gcd_zero_right]
        exact lo_inr (by
          unfold f_X9_divisor_L4
          simp only
          rw [if_pos (by decide)])
      · have hlt : a % b < b := Nat.mod_lt _ (by omega)
        rw [lo_inl (show f_X9_divisor_L4 (nI a, nI b) = some (.inl (nI b, nI (a % b))) by
          unfold f_X9_divisor_L4
          simp only
          rw [if_neg (nI_nle (by omega) hb), nI_rmN ha (by omega) hb]
          rfl), ih (a % b) hlt b hb (by omega), Nat.gcd_comm a b, Nat.gcd_rec b a, Nat.gcd_comm]
  intro a ha hb
  unfold f_X9_divisor
  rw [key b a ha hb]
  rfl
theorem c_divisor {a b : Nat} (ha : a < 2 ^ 31) (hb : b < 1024) : f_X8_commonDivisor (nI a) (nI b) = some (nI (Nat.gcd a b)) := by
  have stop : ∀ a st, st ≤ 64 → lo f_X8_commonDivisor_L7 (nI a, nI 0, nI st) = some (nI a) := fun a st h => lo_inr (by
    unfold f_X8_commonDivisor_L7
    simp only
    by_cases c : (64 : Int32) ≤ nI st
    · rw [if_pos c]
    · rw [if_neg c, if_pos nI_0])
  have step : ∀ a b st, a < 2 ^ 31 → 0 < b → b < 2 ^ 31 → st < 64 → lo f_X8_commonDivisor_L7 (nI a, nI b, nI st) = lo f_X8_commonDivisor_L7 (nI b, nI (a % b), nI (st + 1)) := fun a b st h1 h2 h3 h4 => lo_inl (by
    unfold f_X8_commonDivisor_L7
    simp only
    rw [if_neg (show ¬ (64 : Int32) ≤ nI st from nI_ge (b := 64) h4 (by omega)), if_neg (nI_ne0 h2 h3), nI_rmN h1 h2 h3, ← nI_s]
    rfl)
  have key : ∀ k a b st, a < 2 ^ 31 → b < 2 ^ 31 → b < 2 ^ k → st + 2 * k ≤ 63 → lo f_X8_commonDivisor_L7 (nI a, nI b, nI st) = some (nI (Nat.gcd a b)) := by
    intro k
    induction k with
    | zero =>
      intro a b st h1 h2 h3 h4
      have : b = 0 := by omega
      subst this
      rw [stop a st (by omega), Nat.gcd_zero_right]
    | succ k ih =>
      intro a b st h1 h2 h3 h4
      by_cases hb0 : b = 0
      · subst hb0
        rw [stop a st (by omega), Nat.gcd_zero_right]
      · have hr : a % b < b := Nat.mod_lt _ (by omega)
        have hg : Nat.gcd a b = Nat.gcd b (a % b) := by rw [Nat.gcd_comm a b, Nat.gcd_rec b a, Nat.gcd_comm]
        rw [step a b st h1 (by omega) h2 (by omega), hg]
        by_cases hr0 : a % b = 0
        · rw [hr0, stop b _ (by omega), Nat.gcd_zero_right]
        · have hr2 : b % (a % b) < a % b := Nat.mod_lt _ (by omega)
          have hg2 : Nat.gcd b (a % b) = Nat.gcd (a % b) (b % (a % b)) := by rw [Nat.gcd_comm b (a % b), Nat.gcd_rec (a % b) b, Nat.gcd_comm]
          rw [step b (a % b) (st + 1) h2 (by omega) (by omega) (by omega), hg2]
          refine ih _ _ _ (by omega) (by omega) ?_ (by omega)
          by_cases hh : 2 * (a % b) ≤ b
          · have := Nat.pow_succ 2 k
            omega
          · have : b % (a % b) = b - a % b := by
              rw [Nat.mod_eq_sub_mod (by omega), Nat.mod_eq_of_lt (by omega)]
            have := Nat.pow_succ 2 k
            omega
  unfold f_X8_commonDivisor
  rw [show (0 : Int32) = nI 0 from rfl, key 10 a b 0 ha (by omega) hb (by omega)]
  rfl
-- bounds of the answers
theorem suQ_nI {n : Nat} {F D C : Nat → Nat → Int32} {X : Nat → Int32} (hn : n ≤ 6) (hF : VT F) (hD : VT D) (hC : VT C) : ∀ T, T ≤ fac n → ∃ c, c ≤ T * 353430 ∧ suQ n F D C X T = nI c := fun T hT => sm_nI fun t ht => by
  split
  · exact costS_nI hn hF hD hC (aV_pt hn (by omega))
  · exact ⟨0, by omega, rfl⟩
theorem cnQ_nI {n : Nat} {X : Nat → Int32} : ∀ T, ∃ c, c ≤ T ∧ cnQ n X T = nI c ∧ ∀ t, t < T → agQ n X t = true → 0 < c
  | 0 => ⟨0, Nat.le_refl 0, rfl, fun t ht => by omega⟩
  | T + 1 => by
    obtain ⟨c, h1, h2, h3⟩ := cnQ_nI (n := n) (X := X) T
    unfold cnQ at h2 ⊢
    simp only [sm]
    by_cases ha : agQ n X T = true
    · rw [if_pos ha, h2]
      exact ⟨c + 1, by omega, nI_s c, fun _ _ _ => by omega⟩
    · rw [if_neg ha, h2]
      refine ⟨c, by omega, by grind, fun t ht h => ?_⟩
      by_cases e : t = T
      · exact absurd (e ▸ h) ha
      · exact h3 t (by omega) h
theorem coQ_ne {n t : Nat} {F D C : Nat → Nat → Int32} (hn : n ≤ 6) (hF : VT F) (hD : VT D) (hC : VT C) (ht : t < fac n) : ∃ c, c ≤ 353430 ∧ coQ n F D C t = nI c := costS_nI hn hF hD hC (aV_pt hn ht)
theorem lsQ_nI {n : Nat} {F D C : Nat → Nat → Int32} {X : Nat → Int32} (hn : n ≤ 6) (hF : VT F) (hD : VT D) (hC : VT C) : ∀ T, T ≤ fac n → ∃ c, c ≤ 1000000 ∧ lsQ n F D C X T = nI c
  | 0, _ => ⟨1000000, Nat.le_refl _, rfl⟩
  | T + 1, hT => by
    obtain ⟨c, h1, h2⟩ := lsQ_nI (X := X) hn hF hD hC T (by omega)
    obtain ⟨d, d1, d2⟩ := coQ_ne (t := T) hn hF hD hC (by omega)
    unfold lsQ
    rw [h2, d2]
    by_cases ha : agQ n X T = true
    · rw [if_pos ha]
      unfold mn
      split
      · exact ⟨d, by omega, rfl⟩
      · exact ⟨c, h1, rfl⟩
    · rw [if_neg ha]
      unfold mn
      split
      · exact ⟨1000000, Nat.le_refl _, rfl⟩
      · exact ⟨c, h1, rfl⟩
