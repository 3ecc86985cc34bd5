-- what the class answers from its walk
theorem countUpTo_ok {σ0 σ : Sg} {n : Nat} {lim : Int32} (hn : n ≤ 6) (hL : Ld σ0 n (fac n) σ) (hc : ∀ t, t < fac n → ¬ coQ n (tb σ0 2 0) (tb σ0 3 0) (tb σ0 4 0) t = -1) : f_X0_countUpTo σ 45 lim = some (wiQ n (tb σ0 2 0) (tb σ0 3 0) (tb σ0 4 0) (vec σ0 6 0) lim (fac n)) := by
  have hf := (fac_6 n (by omega)).2
  obtain ⟨f1, f2, f3, f4, f5, f6, f7⟩ := hL
  unfold f_X0_countUpTo
  rw [lo_run (f := f_X0_countUpTo_L4 σ 45 lim) (fun t => (wiQ n (tb σ0 2 0) (tb σ0 3 0) (tb σ0 4 0) (vec σ0 6 0) lim t, nI t)) (n := fac n) (e := wiQ n (tb σ0 2 0) (tb σ0 3 0) (tb σ0 4 0) (vec σ0 6 0) lim (fac n)) (s := (0, 0)) (fun t ht => by
    unfold f_X0_countUpTo_L4
    simp only [f2]
    rw [if_neg (nI_ge ht (by omega)), item_ok (by rw [l46]; omega) (by rw [l46]; omega), show σ (45 + 1) t = _ from f7 t ht]
    simp only [Option.bind_some, wiQ, sm]
    by_cases c : agQ n (vec σ0 6 0) t = true
    · rw [if_pos c, if_neg (hc t ht)]
      by_cases c2 : lim < coQ n (tb σ0 2 0) (tb σ0 3 0) (tb σ0 4 0) t
      · rw [if_pos c2, if_neg (show ¬ (agQ n (vec σ0 6 0) t = true ∧ ¬ lim < coQ n (tb σ0 2 0) (tb σ0 3 0) (tb σ0 4 0) t) from fun z => z.2 c2)]
        simp only [f_X0_countUpTo_J37, nI_s, Int32.add_zero]
      · rw [if_neg c2, if_pos (show (agQ n (vec σ0 6 0) t = true ∧ ¬ lim < coQ n (tb σ0 2 0) (tb σ0 3 0) (tb σ0 4 0) t) from ⟨c, c2⟩)]
        simp only [f_X0_countUpTo_J37, nI_s]
    · rw [if_neg c, if_pos rfl, if_neg (show ¬ (agQ n (vec σ0 6 0) t = true ∧ ¬ lim < coQ n (tb σ0 2 0) (tb σ0 3 0) (tb σ0 4 0) t) from fun z => c z.1)]
      simp only [f_X0_countUpTo_J37, nI_s, Int32.add_zero]) (by
    unfold f_X0_countUpTo_L4
    simp only [f2]
    rw [if_pos (nI_le (Nat.le_refl _) (by omega))]) rfl]
  rfl
theorem op_small {n : Nat} {F D C : Nat → Nat → Int32} {X : Nat → Int32} {ls k : Int32} : ∀ T, ∃ m, m ≤ T ∧ (opQ n F D C X ls k T).1 = nI m
  | 0 => ⟨0, Nat.le_refl 0, rfl⟩
  | T + 1 => by
    obtain ⟨m, h1, h2⟩ := op_small (n := n) (F := F) (D := D) (C := C) (X := X) (ls := ls) (k := k) T
    unfold opQ
    simp only
    split
    · exact ⟨m + 1, by omega, by simp only [h2, nI_s]⟩
    · exact ⟨m, by omega, h2⟩
/-- once the count is past k, the answer stands -/
theorem op_past {n : Nat} {F D C : Nat → Nat → Int32} {X : Nat → Int32} {ls k : Int32} {T m : Nat} {kk : Nat} (hk : k = nI kk) (hkk : kk < 2 ^ 31) (h1 : (opQ n F D C X ls k T).1 = nI m) (hm : kk < m) (hT : T + 0 ≤ 720) : ∀ d, T + d ≤ 720 → m ≤ T → (opQ n F D C X ls k (T + d)).2 = (opQ n F D C X ls k T).2 ∧ ∃ m', m ≤ m' ∧ m' ≤ T + d ∧ (opQ n F D C X ls k (T + d)).1 = nI m' := by
  intro d
  induction d with
  | zero => intro _ h; exact ⟨rfl, m, Nat.le_refl m, h, h1⟩
  | succ d ih =>
    intro hd hmT
    obtain ⟨q1, m', q2, q3, q4⟩ := ih (by omega) hmT
    have hs : opQ n F D C X ls k (T + (d + 1)) = if agQ n X (T + d) = true ∧ coQ n F D C (T + d) = ls then ((opQ n F D C X ls k (T + d)).1 + 1, if (opQ n F D C X ls k (T + d)).1 = k then nI (T + d) else (opQ n F D C X ls k (T + d)).2) else opQ n F D C X ls k (T + d) := rfl
    rw [hs]
    split
    · refine ⟨?_, m' + 1, by omega, by omega, by simp only [q4, nI_s]⟩
      simp only
      rw [q4, hk, if_neg (fun e => by have := (nI_eq (by omega) hkk).mp e; omega), ← hk]
      exact q1
    · exact ⟨q1, m', q2, by omega, q4⟩
theorem op_neg {n : Nat} {F D C : Nat → Nat → Int32} {X : Nat → Int32} {ls k : Int32} (hk : k < 0) : ∀ T, T ≤ 720 → (opQ n F D C X ls k T).2 = -1
  | 0, _ => rfl
  | T + 1, h => by
    have ih := op_neg (n := n) (F := F) (D := D) (C := C) (X := X) (ls := ls) hk T (by omega)
    obtain ⟨m, h1, h2⟩ := op_small (n := n) (F := F) (D := D) (C := C) (X := X) (ls := ls) (k := k) T
    unfold opQ
    simp only
    split
    · rw [h2, if_neg (fun e => by rw [← e] at hk; exact nI_pos (by omega) hk)]
      exact ih
    · exact ih
theorem cheapestAt_ok {σ0 σ : Sg} {n : Nat} {k : Int32} (hn : n ≤ 6) (hL : Ld σ0 n (fac n) σ) (hls : ¬ lsQ n (tb σ0 2 0) (tb σ0 3 0) (tb σ0 4 0) (vec σ0 6 0) (fac n) = -1) : f_X0_cheapestAt σ 45 k = some (opQ n (tb σ0 2 0) (tb σ0 3 0) (tb σ0 4 0) (vec σ0 6 0) (lsQ n (tb σ0 2 0) (tb σ0 3 0) (tb σ0 4 0) (vec σ0 6 0) (fac n)) k (fac n)).2 := by
  have hf := (fac_6 n (by omega)).2
  obtain ⟨f1, f2, f3, f4, f5, f6, f7⟩ := hL
  generalize hls' : lsQ n (tb σ0 2 0) (tb σ0 3 0) (tb σ0 4 0) (vec σ0 6 0) (fac n) = ls at *
  generalize hO : opQ n (tb σ0 2 0) (tb σ0 3 0) (tb σ0 4 0) (vec σ0 6 0) ls k = O
  have hsm : ∀ T, ∃ m, m ≤ T ∧ (O T).1 = nI m := fun T => by rw [← hO]; exact op_small T
  unfold f_X0_cheapestAt
  have hx := lo_tx (f := f_X0_cheapestAt_L4 σ 45 k) (fun t s => s = ((O t).1, nI t) ∧ (O t).2 = -1) (fac n) (fun e => e = (if (O (fac n)).2 = -1 then .inr () else .inl (O (fac n)).2)) (s := (0, 0)) (fun t s ht ⟨hs, hm⟩ => ?_) (fun s ⟨hs, hm⟩ => ?_) ⟨by rw [← hO]; rfl, by rw [← hO]; rfl⟩
  · obtain ⟨e, h1, h2⟩ := hx
    rw [h1, h2]
    by_cases c : (O (fac n)).2 = -1
    · rw [if_pos c, c]
      rfl
    · rw [if_neg c]
      rfl
  · subst hs
    have hstep : O (t + 1) = if agQ n (vec σ0 6 0) t = true ∧ coQ n (tb σ0 2 0) (tb σ0 3 0) (tb σ0 4 0) t = ls then ((O t).1 + 1, if (O t).1 = k then nI t else (O t).2) else O t := by rw [← hO]; rfl
    unfold f_X0_cheapestAt_L4
    simp only [f2]
    rw [if_neg (nI_ge ht (by omega)), item_ok (by rw [l46]; omega) (by rw [l46]; omega), show σ (45 + 1) t = _ from f7 t ht, f6]
    simp only [Option.bind_some]
    by_cases c : agQ n (vec σ0 6 0) t = true ∧ coQ n (tb σ0 2 0) (tb σ0 3 0) (tb σ0 4 0) t = ls
    · rw [if_pos c.1, if_pos c.2]
      rw [if_pos c] at hstep
      by_cases c2 : (O t).1 = k
      · rw [if_pos c2]
        rw [if_pos c2] at hstep
        obtain ⟨m, m1, m2⟩ := hsm t
        have hk : k = nI m := c2.symm.trans m2
        have hp := op_past (n := n) (F := tb σ0 2 0) (D := tb σ0 3 0) (C := tb σ0 4 0) (X := vec σ0 6 0) (ls := ls) (k := k) (T := t + 1) (m := m + 1) (kk := m) hk (by omega) (by rw [hO, hstep, m2]; exact nI_s m) (by omega) (by omega) (fac n - (t + 1)) (by omega) (by omega)
        rw [show t + 1 + (fac n - (t + 1)) = fac n by omega, hO, hstep] at hp
        refine Or.inr ⟨_, rfl, ?_⟩
        rw [hp.1, if_neg (nI_m1 (by omega))]
      · rw [if_neg c2]
        rw [if_neg c2] at hstep
        refine Or.inl ⟨_, rfl, ?_, ?_⟩
        · rw [hstep, ← nI_s]
        · rw [hstep]
          exact hm
    · rw [if_neg c] at hstep
      have hne : ¬ (if agQ n (vec σ0 6 0) t = true then coQ n (tb σ0 2 0) (tb σ0 3 0) (tb σ0 4 0) t else -1) = ls := by
        split
        · next q => exact fun z => c ⟨q, z⟩
        · exact fun z => hls z.symm
      rw [if_neg hne]
      refine Or.inl ⟨_, rfl, ?_, ?_⟩
      · rw [hstep, ← nI_s]
      · rw [hstep]
        exact hm
  · subst hs
    unfold f_X0_cheapestAt_L4
    simp only [f2]
    rw [if_pos (nI_le (Nat.le_refl _) (by omega)), if_pos hm]
    exact ⟨_, rfl, rfl⟩
theorem countLocal_ok {σ : Sg} {n : Nat} (h97 : σ 97 = fct) (h0 : σ 1 0 = nI n) (h1 : 1 ≤ n) (hn : n ≤ 6) : ∃ σ', f_X0_countLocalOptima σ 45 1 = some (lcQ n (tb σ 2 0) (tb σ 3 0) (tb σ 4 0) (vec σ 6 0) (fac n), σ') ∧ Fr [45, 46, 47] σ σ' := by
  have hf := (fac_6 n (by omega)).2
  unfold f_X0_countLocalOptima
  rw [h0]
  obtain ⟨σ1, q1, q2, q3, q4⟩ := restart_ok h97 hn
  rw [q1]
  simp only [Option.bind_some]
  obtain ⟨e, r1, r2⟩ := lo_tc (f := f_X0_countLocalOptima_L12 45 1) (fun t s => s.1 = lcQ n (tb σ 2 0) (tb σ 3 0) (tb σ 4 0) (vec σ 6 0) t ∧ s.2.1 = nI t ∧ Fr [45, 46, 47] σ s.2.2 ∧ s.2.2 45 4 = nI (fac n) ∧ (t < fac n → Asg s.2.2 47 n t)) (fac n) (fun e => e.1 = lcQ n (tb σ 2 0) (tb σ 3 0) (tb σ 4 0) (vec σ 6 0) (fac n) ∧ Fr [45, 46, 47] σ e.2) (fun t s ht ⟨e1, e2, e3, e4, e5⟩ => by
    have hA := e5 ht
    have hJ : ∀ y : Int32, y = lcQ n (tb σ 2 0) (tb σ 3 0) (tb σ 4 0) (vec σ 6 0) (t + 1) → ∃ s', f_X0_countLocalOptima_J45 45 1 y (nI t) s.2.2 = some (.inl s') ∧ s'.1 = lcQ n (tb σ 2 0) (tb σ 3 0) (tb σ 4 0) (vec σ 6 0) (t + 1) ∧ s'.2.1 = nI (t + 1) ∧ Fr [45, 46, 47] σ s'.2.2 ∧ s'.2.2 45 4 = nI (fac n) ∧ (t + 1 < fac n → Asg s'.2.2 47 n (t + 1)) := by
      intro y hy
      unfold f_X0_countLocalOptima_J45
      have hn2 : s.2.2 1 0 = nI n := by rw [e3.at (by decide), h0]
      obtain ⟨σ3, a1, a2, a3⟩ := adv47 h1 hn ht hA
      rw [hn2, a1]
      refine ⟨(y, nI t + 1, σ3), rfl, hy, nI_s t, e3.tr a2 (by decide), ?_, a3⟩
      show σ3 45 4 = _
      rw [a2.at (by decide)]
      exact e4
    unfold f_X0_countLocalOptima_L12
    simp only [e1, e2, e4]
    rw [if_neg (nI_ge ht (by omega)), show f_X6_agrees s.2.2 1 (45 + 2) = _ from c_ag h0 hn e3 hA]
    simp only [Option.bind_some]
    by_cases c : agQ n (vec σ 6 0) t = true
    · rw [if_pos c, if_neg (by decide), show f_X6_isLocalOptimum s.2.2 1 (45 + 2) = _ from c_loc h0 hn e3 ht hA]
      simp only [Option.bind_some]
      by_cases c2 : loQ n (tb σ 2 0) (tb σ 3 0) (tb σ 4 0) (vec σ 6 0) t = true
      · rw [if_pos c2, if_neg (by decide)]
        exact hJ _ (by simp [lcQ, sm, c, c2])
      · rw [if_neg c2, if_pos rfl]
        exact hJ _ (by simp [lcQ, sm, c, c2])
    · rw [if_neg c, if_pos rfl]
      exact hJ _ (by simp [lcQ, sm, c])) (fun s ⟨e1, e2, e3, e4, e5⟩ => by
    unfold f_X0_countLocalOptima_L12
    simp only [e2, e4]
    rw [if_pos (nI_le (Nat.le_refl _) (by omega))]
    exact ⟨_, rfl, e1, e3⟩) (s := (0, 0, σ1)) ⟨rfl, rfl, fun q hq => q2 q (fun z => hq (by simp at z; simp; omega)), q3, fun _ => q4⟩
  rw [r1]
  refine ⟨e.2, ?_, r2.2⟩
  rw [← r2.1]
  rfl
