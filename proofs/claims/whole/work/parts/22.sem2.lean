-- does an assignment agree
def agS (X a : Nat → Int32) : Nat → Bool
  | 0 => true
  | n + 1 => agS X a n && (decide (X n = -1) || decide (X n = a n))
theorem agS_false {X a : Nat → Int32} {n i : Nat} (hi : i < n) (h1 : ¬ X i = -1) (h2 : ¬ X i = a i) : agS X a n = false := by
  induction n with
  | zero => omega
  | succ n ih =>
    unfold agS
    by_cases h : i = n
    · subst h
      simp [h1, h2]
    · rw [ih (by omega)]
      rfl
theorem isFree6 {σ : Sg} {i : Nat} (hi : i < 6) : f_X6_isFree σ 1 (nI i) = some (if vec σ 6 0 i = -1 then 1 else 0) := by
  unfold f_X6_isFree
  rw [it6 l1_6 hi]
  simp only [Option.bind_some]
  split <;> rfl
theorem agrees6_ok {σ : Sg} {k n : Nat} (h0 : σ 1 0 = nI n) (hn : n ≤ 6) (hk : ln k = 6) : f_X6_agrees σ 1 k = some (if agS (vec σ 6 0) (vec σ k 0) n then 1 else 0) := by
  unfold f_X6_agrees
  have hx := lo_tx (f := f_X6_agrees_L2 σ 1 k) (fun i s => s = nI i ∧ agS (vec σ 6 0) (vec σ k 0) i = true) n (fun e => e = if agS (vec σ 6 0) (vec σ k 0) n then .inr () else .inl ()) (s := 0) (fun i s hi ⟨hs, ha⟩ => ?_) (fun s ⟨hs, ha⟩ => ?_) ⟨rfl, rfl⟩
  · obtain ⟨e, h1, h2⟩ := hx
    rw [h1, h2]
    split <;> rfl
  · subst hs
    unfold f_X6_agrees_L2
    simp only [h0]
    rw [if_neg (nI_ge hi (by omega)), isFree6 (by omega)]
    simp only [Option.bind_some]
    by_cases h : vec σ 6 0 i = -1
    · rw [if_pos h, if_neg (by decide)]
      exact Or.inl ⟨_, rfl, nI_s i, by simp [agS, ha, h]⟩
    · rw [if_neg h, if_pos rfl, it6 l1_6 (by omega), it6 hk (by omega)]
      simp only [Option.bind_some]
      by_cases h2 : vec σ 6 0 i = vec σ k 0 i
      · rw [show vec σ (1 + 5) 0 i = vec σ k 0 i from h2, if_pos rfl]
        exact Or.inl ⟨_, rfl, nI_s i, by simp [agS, ha, h2]⟩
      · rw [if_neg h2]
        exact Or.inr ⟨_, rfl, by rw [agS_false hi h h2]; rfl⟩
  · subst hs
    unfold f_X6_agrees_L2
    simp only [h0]
    rw [if_pos (nI_le (Nat.le_refl n) (by omega))]
    exact ⟨_, rfl, by rw [ha]; rfl⟩
theorem m_agrees {σ : Sg} {n : Nat} (h0 : σ 76 0 = nI n) (hn : n ≤ 6) : f_X9_agrees σ 75 = some (if agS (vec σ 76 115) (vec σ 80 0) n then 1 else 0) := by
  unfold f_X9_agrees
  rw [lo_run (f := f_X9_agrees_L4 σ 75) (fun i => (if agS (vec σ 76 115) (vec σ 80 0) i then 1 else 0, nI i)) (n := n) (e := if agS (vec σ 76 115) (vec σ 80 0) n then 1 else 0) (s := (1, 0)) (fun i hi => by
    unfold f_X9_agrees_L4
    simp only [m_n h0, Option.bind_some]
    rw [if_neg (nI_ge hi (by omega))]
    by_cases ha : agS (vec σ 76 115) (vec σ 80 0) i = true
    · rw [if_pos ha, if_neg (by decide), m_X (by omega)]
      simp only [Option.bind_some]
      by_cases h : vec σ 76 115 i = -1
      · rw [if_pos h]
        simp [f_X9_agrees_J49, f_X9_agrees_J54, agS, ha, h, nI_s]
      · rw [if_neg h, m_p (by omega)]
        simp only [Option.bind_some]
        by_cases h2 : vec σ 76 115 i = vec σ 80 0 i
        · rw [if_pos h2]
          simp [f_X9_agrees_J49, f_X9_agrees_J54, agS, ha, h2, nI_s]
        · rw [if_neg h2]
          simp [f_X9_agrees_J53, f_X9_agrees_J54, agS, ha, h2, h, nI_s]
    · rw [if_neg ha, if_pos rfl]
      simp [f_X9_agrees_J53, f_X9_agrees_J54, agS, ha, nI_s]) (by
    unfold f_X9_agrees_L4
    simp only [m_n h0, Option.bind_some]
    rw [if_pos (nI_le (Nat.le_refl n) (by omega))]) rfl]
  simp only [Option.bind_some]
  unfold gb
  split <;> rfl
-- the best exchange
def bIn (X : Nat → Int32) (g : Nat → Nat → Int32) (i m : Nat) (s : Int32 × Int32) : Int32 × Int32 := if X i = -1 ∧ X m = -1 ∧ (s.1 = -1 ∨ s.2 < g i m) then (nI (10 * i + m), g i m) else s
def bRow (X : Nat → Int32) (g : Nat → Nat → Int32) (i : Nat) (s : Int32 × Int32) : Nat → Int32 × Int32
  | 0 => s
  | m + 1 => bIn X g i (i + 1 + m) (bRow X g i s m)
def bAll (n : Nat) (X : Nat → Int32) (g : Nat → Nat → Int32) : Nat → Int32 × Int32
  | 0 => (-1, 0)
  | i + 1 => bRow X g i (bAll n X g i) (n - 1 - i)
def gS (n : Nat) (F D C : Nat → Nat → Int32) (a : Nat → Int32) (i j : Nat) : Int32 := costS n F D C a - costS n F D C (sw a i j)
theorem nI_10 (i j : Nat) : (10 : Int32) * nI i + nI j = nI (10 * i + j) := by
  rw [← nI_add, ← pk_mul]
  rfl
theorem lt_nle {x y : Int32} : x < y ↔ ¬ y ≤ x := by grind
theorem bestPair6_ok {σ : Sg} {n : Nat} (h0 : σ 1 0 = nI n) (hn : n ≤ 6) (ha : Pt n (vec σ 5 0)) : f_X6_bestPair σ 1 = some (bAll n (vec σ 6 0) (gS n (tb σ 2 0) (tb σ 3 0) (tb σ 4 0) (vec σ 5 0)) n).1 := by
  unfold f_X6_bestPair
  have inner : ∀ (i : Nat) (s : Int32 × Int32), i < n → lo (f_X6_bestPair_L19 σ 1 (s.1, s.2, nI i)) (s.1, s.2, nI i + 1) = some (bRow (vec σ 6 0) (gS n (tb σ 2 0) (tb σ 3 0) (tb σ 4 0) (vec σ 5 0)) i s (n - 1 - i)) := by
    intro i s hi
    refine lo_run (fun m => ((bRow (vec σ 6 0) (gS n (tb σ 2 0) (tb σ 3 0) (tb σ 4 0) (vec σ 5 0)) i s m).1, (bRow (vec σ 6 0) (gS n (tb σ 2 0) (tb σ 3 0) (tb σ 4 0) (vec σ 5 0)) i s m).2, nI (i + 1 + m))) (n := n - 1 - i) (fun m hm => ?_) ?_ (by simp [bRow, nI_s])
    · unfold f_X6_bestPair_L19
      simp only [h0]
      rw [if_neg (nI_ge (by omega) (by omega)), isFree6 (by omega)]
      simp only [Option.bind_some]
      by_cases h1 : vec σ 6 0 i = -1
      · rw [if_pos h1, if_neg (by decide), isFree6 (by omega)]
        simp only [Option.bind_some]
        by_cases h2 : vec σ 6 0 (i + 1 + m) = -1
        · have hg : f_X6_gainOf σ 1 (1 + 4) (nI i) (nI (i + 1 + m)) = some (gS n (tb σ 2 0) (tb σ 3 0) (tb σ 4 0) (vec σ 5 0) i (i + 1 + m)) := gainOf6_ok h0 hn (k := 1 + 4) l1_5 ha hi (by omega)
          rw [if_pos h2, if_neg (by decide), hg]
          simp only [Option.bind_some]
          generalize hq : bRow (vec σ 6 0) (gS n (tb σ 2 0) (tb σ 3 0) (tb σ 4 0) (vec σ 5 0)) i s m = q
          have hb : bRow (vec σ 6 0) (gS n (tb σ 2 0) (tb σ 3 0) (tb σ 4 0) (vec σ 5 0)) i s (m + 1) = bIn (vec σ 6 0) (gS n (tb σ 2 0) (tb σ 3 0) (tb σ 4 0) (vec σ 5 0)) i (i + 1 + m) q := by rw [← hq]; rfl
          rw [hb]
          unfold bIn
          simp only [h1, h2, true_and]
          by_cases h3 : q.1 = -1
          · rw [if_pos h3, if_pos (Or.inl h3)]
            simp only [f_X6_bestPair_J72, f_X6_bestPair_J83, nI_10, nI_s]
            rfl
          · rw [if_neg h3]
            by_cases h4 : q.2 < gS n (tb σ 2 0) (tb σ 3 0) (tb σ 4 0) (vec σ 5 0) i (i + 1 + m)
            · rw [if_pos (Or.inr h4), if_neg (lt_nle.mp h4)]
              simp only [f_X6_bestPair_J72, f_X6_bestPair_J83, nI_10, nI_s]
              rfl
            · rw [if_pos (Decidable.not_not.mp (fun z => h4 (lt_nle.mpr z))), if_neg (show ¬ (q.1 = -1 ∨ q.2 < _) from fun z => z.elim h3 h4)]
              simp only [f_X6_bestPair_J83, nI_s]
              rfl
        · rw [if_neg h2, if_pos rfl]
          simp only [f_X6_bestPair_J83, bRow, bIn, h2, false_and, and_false, if_false, nI_s]
          rfl
      · rw [if_neg h1, if_pos rfl]
        simp only [f_X6_bestPair_J83, bRow, bIn, h1, false_and, if_false, nI_s]
        rfl
    · unfold f_X6_bestPair_L19
      simp only [h0]
      rw [if_pos (nI_le (by omega) (by omega))]
  rw [lo_run (f := f_X6_bestPair_L6 σ 1) (fun i => ((bAll n (vec σ 6 0) (gS n (tb σ 2 0) (tb σ 3 0) (tb σ 4 0) (vec σ 5 0)) i).1, (bAll n (vec σ 6 0) (gS n (tb σ 2 0) (tb σ 3 0) (tb σ 4 0) (vec σ 5 0)) i).2, nI i)) (n := n) (e := (bAll n (vec σ 6 0) (gS n (tb σ 2 0) (tb σ 3 0) (tb σ 4 0) (vec σ 5 0)) n).1) (s := (-1, 0, 0)) (fun i hi => by
    unfold f_X6_bestPair_L6
    simp only [h0]
    rw [if_neg (nI_ge hi (by omega)), inner i _ hi]
    simp only [Option.bind_some, bAll, nI_s]) (by
    unfold f_X6_bestPair_L6
    simp only [h0]
    rw [if_pos (nI_le (Nat.le_refl n) (by omega))]) rfl]
  rfl
theorem m_bestOf {σ : Sg} {n : Nat} (h0 : σ 76 0 = nI n) (hn : n ≤ 6) (ha : Pt n (vec σ 80 0)) : f_X9_bestOf σ 75 = some ((bAll n (vec σ 76 115) (gS n (tb σ 76 1) (tb σ 76 37) (tb σ 76 73) (vec σ 80 0)) n).1, σ) := by
  unfold f_X9_bestOf
  have inner : ∀ (i : Nat) (s : Int32 × Int32), i < n → lo (f_X9_bestOf_L21 75 (s.1, s.2, nI i, σ)) (s.1, s.2, nI i + 1, σ) = some ((bRow (vec σ 76 115) (gS n (tb σ 76 1) (tb σ 76 37) (tb σ 76 73) (vec σ 80 0)) i s (n - 1 - i)).1, (bRow (vec σ 76 115) (gS n (tb σ 76 1) (tb σ 76 37) (tb σ 76 73) (vec σ 80 0)) i s (n - 1 - i)).2, σ) := by
    intro i s hi
    refine lo_run (fun m => ((bRow (vec σ 76 115) (gS n (tb σ 76 1) (tb σ 76 37) (tb σ 76 73) (vec σ 80 0)) i s m).1, (bRow (vec σ 76 115) (gS n (tb σ 76 1) (tb σ 76 37) (tb σ 76 73) (vec σ 80 0)) i s m).2, nI (i + 1 + m), σ)) (n := n - 1 - i) (fun m hm => ?_) ?_ (by simp [bRow, nI_s])
    · unfold f_X9_bestOf_L21
      simp only [m_n h0, Option.bind_some]
      rw [if_neg (nI_ge (by omega) (by omega)), m_X (by omega)]
      simp only [Option.bind_some]
      generalize hq : bRow (vec σ 76 115) (gS n (tb σ 76 1) (tb σ 76 37) (tb σ 76 73) (vec σ 80 0)) i s m = q
      have hb : bRow (vec σ 76 115) (gS n (tb σ 76 1) (tb σ 76 37) (tb σ 76 73) (vec σ 80 0)) i s (m + 1) = bIn (vec σ 76 115) (gS n (tb σ 76 1) (tb σ 76 37) (tb σ 76 73) (vec σ 80 0)) i (i + 1 + m) q := by rw [← hq]; rfl
      rw [hb]
      unfold bIn
      by_cases h1 : vec σ 76 115 i = -1
      · rw [if_pos h1, m_X (by omega)]
        simp only [Option.bind_some]
        by_cases h2 : vec σ 76 115 (i + 1 + m) = -1
        · rw [if_pos h2]
          unfold f_X9_bestOf_J64
          have hg : f_X9_gainOf σ 75 (nI i) (nI (i + 1 + m)) = some (gS n (tb σ 76 1) (tb σ 76 37) (tb σ 76 73) (vec σ 80 0) i (i + 1 + m), σ) := m_gainOf h0 hn ha hi (by omega)
          rw [if_neg (by decide), hg]
          simp only [Option.bind_some, h1, h2, true_and]
          unfold f_X9_bestOf_J82
          rw [if_neg (by decide)]
          by_cases h3 : q.1 = -1
          · rw [if_pos h3, if_pos (Or.inl h3)]
            simp only [f_X9_bestOf_J100, f_X9_bestOf_J111, nI_10, nI_s]
            rfl
          · rw [if_neg h3]
            by_cases h4 : q.2 < gS n (tb σ 76 1) (tb σ 76 37) (tb σ 76 73) (vec σ 80 0) i (i + 1 + m)
            · rw [if_pos (Or.inr h4), if_neg (lt_nle.mp h4)]
              simp only [f_X9_bestOf_J100, f_X9_bestOf_J111, nI_10, nI_s]
              rfl
            · rw [if_pos (Decidable.not_not.mp (fun z => h4 (lt_nle.mpr z))), if_neg (show ¬ (q.1 = -1 ∨ q.2 < _) from fun z => z.elim h3 h4)]
              simp only [f_X9_bestOf_J111, nI_s]
              rfl
        · rw [if_neg h2]
          unfold f_X9_bestOf_J63 f_X9_bestOf_J64 f_X9_bestOf_J82
          rw [if_pos rfl, if_pos rfl]
          simp only [f_X9_bestOf_J111, h2, false_and, and_false, if_false, nI_s]
          rfl
      · rw [if_neg h1]
        unfold f_X9_bestOf_J63 f_X9_bestOf_J64 f_X9_bestOf_J82
        rw [if_pos rfl, if_pos rfl]
        simp only [f_X9_bestOf_J111, h1, false_and, if_false, nI_s]
        rfl
    · unfold f_X9_bestOf_L21
      simp only [m_n h0, Option.bind_some]
      rw [if_pos (nI_le (by omega) (by omega))]
  rw [lo_run (f := f_X9_bestOf_L6 75) (fun i => ((bAll n (vec σ 76 115) (gS n (tb σ 76 1) (tb σ 76 37) (tb σ 76 73) (vec σ 80 0)) i).1, (bAll n (vec σ 76 115) (gS n (tb σ 76 1) (tb σ 76 37) (tb σ 76 73) (vec σ 80 0)) i).2, nI i, σ)) (n := n) (e := ((bAll n (vec σ 76 115) (gS n (tb σ 76 1) (tb σ 76 37) (tb σ 76 73) (vec σ 80 0)) n).1, σ)) (s := (-1, 0, 0, σ)) (fun i hi => by
    unfold f_X9_bestOf_L6
    simp only [m_n h0, Option.bind_some]
    rw [if_neg (nI_ge hi (by omega)), inner i _ hi]
    simp only [Option.bind_some, bAll, nI_s]) (by
    unfold f_X9_bestOf_L6
    simp only [m_n h0, Option.bind_some]
    rw [if_pos (nI_le (Nat.le_refl n) (by omega))]) rfl]
  rfl
