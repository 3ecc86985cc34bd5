-- what the best exchange is
def Bst (n : Nat) (X : Nat → Int32) (g : Nat → Nat → Int32) (S : Nat → Nat → Prop) (s : Int32 × Int32) : Prop := (s.1 = -1 ∧ ∀ i j, S i j → ¬ (X i = -1 ∧ X j = -1)) ∨ ∃ i j, i < j ∧ j < n ∧ X i = -1 ∧ X j = -1 ∧ s = (nI (10 * i + j), g i j) ∧ ∀ i' j', S i' j' → X i' = -1 → X j' = -1 → g i' j' ≤ g i j
theorem bIn_ok {n : Nat} {X : Nat → Int32} {g : Nat → Nat → Int32} {S : Nat → Nat → Prop} {s : Int32 × Int32} {i m : Nat} (hn : n ≤ 6) (h1 : i < m) (h2 : m < n) (h : Bst n X g S s) : Bst n X g (fun a b => S a b ∨ (a = i ∧ b = m)) (bIn X g i m s) := by
  unfold bIn
  split
  · next c =>
    obtain ⟨c1, c2, c3⟩ := c
    refine Or.inr ⟨i, m, h1, h2, c1, c2, rfl, fun a b hab ha hb => ?_⟩
    rcases hab with hab | ⟨rfl, rfl⟩
    · rcases h with ⟨q1, q2⟩ | ⟨i', j', q1, q2, q3, q4, q5, q6⟩
      · exact absurd ⟨ha, hb⟩ (q2 a b hab)
      · have := q6 a b hab ha hb
        rcases c3 with c3 | c3
        · rw [q5] at c3
          exact absurd c3 (nI_m1 (by omega))
        · rw [q5] at c3
          grind
    · grind
  · next c =>
    rcases h with ⟨q1, q2⟩ | ⟨i', j', q1, q2, q3, q4, q5, q6⟩
    · refine Or.inl ⟨q1, fun a b hab => ?_⟩
      rcases hab with hab | ⟨rfl, rfl⟩
      · exact q2 a b hab
      · exact fun z => c ⟨z.1, z.2, Or.inl q1⟩
    · refine Or.inr ⟨i', j', q1, q2, q3, q4, q5, fun a b hab ha hb => ?_⟩
      rcases hab with hab | ⟨rfl, rfl⟩
      · exact q6 a b hab ha hb
      · have : ¬ s.2 < g a b := fun z => c ⟨ha, hb, Or.inr z⟩
        rw [q5] at this
        grind
theorem Bst.of {n : Nat} {X : Nat → Int32} {g : Nat → Nat → Int32} {S S' : Nat → Nat → Prop} {s : Int32 × Int32} (h : Bst n X g S s) (hs : ∀ a b, S' a b → S a b) : Bst n X g S' s := by
  rcases h with ⟨q1, q2⟩ | ⟨i', j', q1, q2, q3, q4, q5, q6⟩
  · exact Or.inl ⟨q1, fun a b hab => q2 a b (hs a b hab)⟩
  · exact Or.inr ⟨i', j', q1, q2, q3, q4, q5, fun a b hab ha hb => q6 a b (hs a b hab) ha hb⟩
theorem bRow_ok {n : Nat} {X : Nat → Int32} {g : Nat → Nat → Int32} {S : Nat → Nat → Prop} {s : Int32 × Int32} {i : Nat} (hn : n ≤ 6) (hi : i < n) (h : Bst n X g S s) : ∀ c, c ≤ n - 1 - i → Bst n X g (fun a b => S a b ∨ (a = i ∧ i < b ∧ b < i + 1 + c)) (bRow X g i s c)
  | 0, _ => h.of fun a b hab => hab.resolve_right (by omega)
  | c + 1, hc => (bIn_ok hn (by omega) (by omega) (bRow_ok hn hi h c (by omega))).of fun a b hab => by
    rcases hab with h | ⟨h1, h2, h3⟩
    · exact Or.inl (Or.inl h)
    · by_cases hb : b = i + 1 + c
      · exact Or.inr ⟨h1, hb⟩
      · exact Or.inl (Or.inr ⟨h1, h2, by omega⟩)
theorem bAll_ok {n : Nat} {X : Nat → Int32} {g : Nat → Nat → Int32} (hn : n ≤ 6) : ∀ m, m ≤ n → Bst n X g (fun a b => a < m ∧ a < b ∧ b < n) (bAll n X g m)
  | 0, _ => Or.inl ⟨rfl, fun a b h => by omega⟩
  | m + 1, hm => (bRow_ok hn (by omega) (bAll_ok hn m (by omega)) (n - 1 - m) (Nat.le_refl _)).of fun a b hab => by omega
def LocP (n : Nat) (X : Nat → Int32) (g : Nat → Nat → Int32) : Prop := ∀ i j, i < j → j < n → X i = -1 → X j = -1 → g i j ≤ 0
def locB (n : Nat) (X : Nat → Int32) (g : Nat → Nat → Int32) : Bool := decide ((bAll n X g n).1 = -1) || decide ((bAll n X g n).2 ≤ 0)
theorem locB_iff {n : Nat} {X : Nat → Int32} {g : Nat → Nat → Int32} (hn : n ≤ 6) : locB n X g = true ↔ LocP n X g := by
  unfold locB
  rcases bAll_ok (X := X) (g := g) hn n (Nat.le_refl n) with ⟨q1, q2⟩ | ⟨i, j, q1, q2, q3, q4, q5, q6⟩
  · rw [q1]
    refine ⟨fun _ i j h1 h2 h3 h4 => absurd ⟨h3, h4⟩ (q2 i j ⟨by omega, h1, h2⟩), fun _ => rfl⟩
  · rw [q5]
    have : ¬ nI (10 * i + j) = -1 := nI_m1 (by omega)
    simp only [this, decide_false, Bool.false_or, decide_eq_true_eq]
    refine ⟨fun h a b h1 h2 h3 h4 => ?_, fun h => h i j q1 q2 q3 q4⟩
    have := q6 a b ⟨by omega, h1, h2⟩ h3 h4
    grind
theorem nI_dv {i j : Nat} (hi : i < 6) (hj : j < 6) : dv (nI (10 * i + j)) (10 : Int32) = some (nI i) := by
  unfold dv
  rw [if_neg (by decide)]
  have h := pk_div (a := 10 * i + j) (d := 10) (by omega) (by omega) (by omega)
  rw [show (10 : Int32) = nI 10 from rfl, h, show (10 * i + j) / 10 = i by omega]
theorem nI_rm {i j : Nat} (hi : i < 6) (hj : j < 6) : rm (nI (10 * i + j)) (10 : Int32) = some (nI j) := by
  unfold rm
  rw [if_neg (by decide)]
  have h := pk_rem (a := 10 * i + j) (d := 10) (by omega) (by omega) (by omega)
  rw [show (10 : Int32) = nI 10 from rfl, h, show (10 * i + j) % 10 = j by omega]
theorem m_isLocal {σ : Sg} {n : Nat} (h0 : σ 76 0 = nI n) (hn : n ≤ 6) (ha : Pt n (vec σ 80 0)) : f_X9_isLocal σ 75 = some (if locB n (vec σ 76 115) (gS n (tb σ 76 1) (tb σ 76 37) (tb σ 76 73) (vec σ 80 0)) then 1 else 0, σ) := by
  unfold f_X9_isLocal
  rw [m_bestOf h0 hn ha]
  simp only [Option.bind_some]
  unfold locB
  rcases bAll_ok (X := vec σ 76 115) (g := gS n (tb σ 76 1) (tb σ 76 37) (tb σ 76 73) (vec σ 80 0)) hn n (Nat.le_refl n) with ⟨q1, q2⟩ | ⟨i, j, q1, q2, q3, q4, q5, q6⟩
  · rw [q1, if_pos rfl]
    rfl
  · rw [q5]
    have hm : ¬ nI (10 * i + j) = -1 := nI_m1 (by omega)
    simp only
    rw [if_neg hm, nI_dv (by omega) (by omega), nI_rm (by omega) (by omega)]
    simp only [Option.bind_some]
    have hg : f_X9_gainOf σ 75 (nI i) (nI j) = some (gS n (tb σ 76 1) (tb σ 76 37) (tb σ 76 73) (vec σ 80 0) i j, σ) := m_gainOf h0 hn ha (by omega) (by omega)
    rw [hg]
    simp only [Option.bind_some, hm, decide_false, Bool.false_or, decide_eq_true_eq]
    by_cases c : gS n (tb σ 76 1) (tb σ 76 37) (tb σ 76 73) (vec σ 80 0) i j ≤ 0
    · rw [if_pos c, if_neg (by grind)]
      rfl
    · rw [if_neg c, if_pos (by grind)]
theorem isLocal6_ok {σ : Sg} {k n : Nat} (h0 : σ 1 0 = nI n) (hn : n ≤ 6) (hk : ln k = 6) (ha : Pt n (vec σ k 0)) : f_X6_isLocalOptimum σ 1 k = some (if locB n (vec σ 6 0) (gS n (tb σ 2 0) (tb σ 3 0) (tb σ 4 0) (vec σ k 0)) then 1 else 0) := by
  unfold f_X6_isLocalOptimum
  generalize hX : vec σ 6 0 = X
  generalize hG : gS n (tb σ 2 0) (tb σ 3 0) (tb σ 4 0) (vec σ k 0) = g
  have hg : ∀ i j, i < n → j < n → f_X6_gainOf σ 1 k (nI i) (nI j) = some (g i j) := fun i j hi hj => by
    rw [gainOf6_ok h0 hn hk ha hi hj, ← hG]
    rfl
  have hf : ∀ i, i < 6 → f_X6_isFree σ 1 (nI i) = some (if X i = -1 then 1 else 0) := fun i hi => by rw [isFree6 hi, hX]
  have inner : ∀ i, i < n → ∃ e, lo (f_X6_isLocalOptimum_L14 σ 1 (nI i) k) (nI (i + 1)) = some e ∧ ((e = .inr () ∧ ∀ j, i < j → j < n → X i = -1 → X j = -1 → g i j ≤ 0) ∨ (e = .inl () ∧ ¬ LocP n X g)) := by
    intro i hi
    refine lo_tx (fun m s => s = nI (i + 1 + m) ∧ ∀ j, i < j → j < i + 1 + m → X i = -1 → X j = -1 → g i j ≤ 0) (n - 1 - i) _ (fun m s hm ⟨hs, hl⟩ => ?_) (fun s ⟨hs, hl⟩ => ?_) ⟨rfl, fun j h1 h2 => by omega⟩
    · subst hs
      unfold f_X6_isLocalOptimum_L14
      simp only [h0]
      rw [if_neg (nI_ge (by omega) (by omega)), hf i (by omega)]
      simp only [Option.bind_some]
      by_cases h1 : X i = -1
      · rw [if_pos h1, if_neg (by decide), hf _ (by omega)]
        simp only [Option.bind_some]
        by_cases h2 : X (i + 1 + m) = -1
        · rw [if_pos h2, if_neg (by decide), hg i _ hi (by omega)]
          simp only [Option.bind_some]
          by_cases h3 : g i (i + 1 + m) ≤ 0
          · rw [if_pos h3]
            refine Or.inl ⟨_, rfl, nI_s _, fun j q1 q2 q3 q4 => ?_⟩
            by_cases hj : j = i + 1 + m
            · rw [hj]
              exact h3
            · exact hl j q1 (by omega) q3 q4
          · rw [if_neg h3]
            exact Or.inr ⟨_, rfl, Or.inr ⟨rfl, fun z => h3 (z i (i + 1 + m) (by omega) (by omega) h1 h2)⟩⟩
        · rw [if_neg h2, if_pos rfl]
          refine Or.inl ⟨_, rfl, nI_s _, fun j q1 q2 q3 q4 => ?_⟩
          by_cases hj : j = i + 1 + m
          · exact absurd (hj ▸ q4) h2
          · exact hl j q1 (by omega) q3 q4
      · rw [if_neg h1, if_pos rfl]
        exact Or.inl ⟨_, rfl, nI_s _, fun j q1 q2 q3 q4 => absurd q3 h1⟩
    · subst hs
      unfold f_X6_isLocalOptimum_L14
      simp only [h0]
      rw [if_pos (nI_le (by omega) (by omega))]
      exact ⟨_, rfl, Or.inl ⟨rfl, fun j q1 q2 => hl j q1 (by omega)⟩⟩
  have outer : ∃ e, lo (f_X6_isLocalOptimum_L2 σ 1 k) 0 = some e ∧ ((e = .inr () ∧ LocP n X g) ∨ (e = .inl () ∧ ¬ LocP n X g)) := by
    refine lo_tx (fun m s => s = nI m ∧ ∀ i j, i < m → i < j → j < n → X i = -1 → X j = -1 → g i j ≤ 0) n _ (fun m s hm ⟨hs, hl⟩ => ?_) (fun s ⟨hs, hl⟩ => ?_) ⟨rfl, fun i j h1 h2 => by omega⟩
    · subst hs
      unfold f_X6_isLocalOptimum_L2
      simp only [h0]
      rw [if_neg (nI_ge hm (by omega)), show nI m + (1 : Int32) = nI (m + 1) from nI_s m]
      obtain ⟨e, h1, h2⟩ := inner m hm
      rw [h1]
      rcases h2 with ⟨rfl, h2⟩ | ⟨rfl, h2⟩
      · refine Or.inl ⟨_, rfl, rfl, fun i j q1 q2 q3 q4 q5 => ?_⟩
        by_cases hi : i = m
        · subst hi
          exact h2 j q2 q3 q4 q5
        · exact hl i j (by omega) q2 q3 q4 q5
      · exact Or.inr ⟨_, rfl, Or.inr ⟨rfl, h2⟩⟩
    · subst hs
      unfold f_X6_isLocalOptimum_L2
      simp only [h0]
      rw [if_pos (nI_le (Nat.le_refl n) (by omega))]
      exact ⟨_, rfl, Or.inl ⟨rfl, fun i j q1 q2 => hl i j (by omega) q1 q2⟩⟩
  obtain ⟨e, h1, h2⟩ := outer
  rw [h1]
  rcases h2 with ⟨rfl, h2⟩ | ⟨rfl, h2⟩
  · rw [if_pos ((locB_iff hn).mpr h2)]
    rfl
  · rw [if_neg (fun z => h2 ((locB_iff hn).mp z))]
    rfl
