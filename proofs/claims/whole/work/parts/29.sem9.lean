-- the class's walks
theorem restart_ok {σ : Sg} {n : Nat} (h97 : σ 97 = fct) (hn : n ≤ 6) : ∃ σ', f_X0_restart σ 45 (nI n) = some σ' ∧ Fr [45, 47] σ σ' ∧ σ' 45 4 = nI (fac n) ∧ Asg σ' 47 n 0 := by
  unfold f_X0_restart
  rw [factorial_ok h97 (by omega)]
  simp only [Option.bind_some]
  obtain ⟨e, q1, q2⟩ := lo_tc (f := f_X0_restart_L10 45) (fun j s => s.1 = nI j ∧ Fr [45, 47] σ s.2 ∧ s.2 45 4 = nI (fac n) ∧ ∀ i, i < j → s.2 47 i = nI i) 6 (fun e => Fr [45, 47] σ e ∧ e 45 4 = nI (fac n) ∧ ∀ i, i < 6 → e 47 i = nI i) (fun j s hj ⟨e1, e2, e4, e3⟩ => by
    unfold f_X0_restart_L10
    rw [e1, if_neg (show ¬ (6 : Int32) ≤ nI j from nI_ge (b := 6) hj (by omega)), ast_ok (k := 45 + 2) (by show _ < ln 47; rw [l47]; exact hj) (by show ln 47 ≤ _; rw [l47]; omega)]
    refine ⟨_, rfl, nI_s j, e2.si (by decide), ?_, fun i hi => ?_⟩
    · show si s.2 47 j (nI j) 45 4 = _
      rw [si_ne _ _ _ (by decide)]
      exact e4
    · show si s.2 47 j (nI j) 47 i = nI i
      rw [si_self]
      by_cases h : i = j
      · rw [h, pk_us]
      · rw [pk_un h]
        exact e3 i (by omega)) (fun s ⟨e1, e2, e4, e3⟩ => by
    unfold f_X0_restart_L10
    rw [e1, if_pos (show (6 : Int32) ≤ nI 6 from nI_le (a := 6) (b := 6) (by omega) (by omega))]
    exact ⟨_, rfl, e2, e4, e3⟩) (s := (0, si σ 45 4 (nI (fac n)))) ⟨rfl, Fr.rf.si (by decide), by show si σ 45 4 (nI (fac n)) 45 4 = _; rw [si_self, pk_us], fun i hi => by omega⟩
  rw [q1]
  refine ⟨e, rfl, q2.1, q2.2.1, fun i hi => ?_⟩
  rw [q2.2.2 i (by omega), ar_0 n (by omega), List.getD_eq_getElem?_getD, List.getElem?_range hi]
  rfl
theorem c_ag {σ0 σ : Sg} {n t : Nat} (h0 : σ0 1 0 = nI n) (hn : n ≤ 6) (hF : Fr [45, 46, 47] σ0 σ) (hA : Asg σ 47 n t) : f_X6_agrees σ 1 47 = some (if agQ n (vec σ0 6 0) t then 1 else 0) := by
  rw [agrees6_ok (by rw [hF.at (by decide)]; exact h0) hn l47, vec_fr (hF.at (show 6 ∉ [45, 46, 47] by decide)), agS_cong (hA.vec hn)]
  rfl
theorem c_co {σ0 σ : Sg} {n t : Nat} (h0 : σ0 1 0 = nI n) (hn : n ≤ 6) (hF : Fr [45, 46, 47] σ0 σ) (ht : t < fac n) (hA : Asg σ 47 n t) : f_X6_costOf σ 1 47 = some (coQ n (tb σ0 2 0) (tb σ0 3 0) (tb σ0 4 0) t) := by
  rw [costOf6_ok (by rw [hF.at (by decide)]; exact h0) hn l47 (Pt.cong (hA.vec hn) (aV_pt hn ht)), tb_fr (hF.at (show 2 ∉ [45, 46, 47] by decide)), tb_fr (hF.at (show 3 ∉ [45, 46, 47] by decide)), tb_fr (hF.at (show 4 ∉ [45, 46, 47] by decide)), costS_cong (hA.vec hn)]
  rfl
theorem c_loc {σ0 σ : Sg} {n t : Nat} (h0 : σ0 1 0 = nI n) (hn : n ≤ 6) (hF : Fr [45, 46, 47] σ0 σ) (ht : t < fac n) (hA : Asg σ 47 n t) : f_X6_isLocalOptimum σ 1 47 = some (if loQ n (tb σ0 2 0) (tb σ0 3 0) (tb σ0 4 0) (vec σ0 6 0) t then 1 else 0) := by
  rw [isLocal6_ok (by rw [hF.at (by decide)]; exact h0) hn l47 (Pt.cong (hA.vec hn) (aV_pt hn ht)), tb_fr (hF.at (show 2 ∉ [45, 46, 47] by decide)), tb_fr (hF.at (show 3 ∉ [45, 46, 47] by decide)), tb_fr (hF.at (show 4 ∉ [45, 46, 47] by decide)), vec_fr (hF.at (show 6 ∉ [45, 46, 47] by decide))]
  unfold loQ
  rw [locB_cong hn (fun i j hi hj => gS_cong (hA.vec hn) hi hj)]
theorem l46 : ln (45 + 1) = 720 := by decide +kernel
theorem adv47 {σ : Sg} {n t : Nat} (h1 : 1 ≤ n) (hn : n ≤ 6) (ht : t < fac n) (hA : Asg σ 47 n t) : ∃ σ', f_X8_advance σ (45 + 2) (nI n) = some σ' ∧ Fr [47] σ σ' ∧ (t + 1 < fac n → Asg σ' 47 n (t + 1)) := advance8_ok l47 h1 hn ht hA
def Ld (σ0 : Sg) (n : Nat) (t : Nat) (σ : Sg) : Prop := Fr [45, 46, 47] σ0 σ ∧ σ 45 4 = nI (fac n) ∧ (t < fac n → Asg σ 47 n t) ∧ σ 45 0 = cnQ n (vec σ0 6 0) t ∧ σ 45 1 = suQ n (tb σ0 2 0) (tb σ0 3 0) (tb σ0 4 0) (vec σ0 6 0) t ∧ σ 45 2 = lsQ n (tb σ0 2 0) (tb σ0 3 0) (tb σ0 4 0) (vec σ0 6 0) t ∧ ∀ j, j < t → σ 46 j = if agQ n (vec σ0 6 0) j then coQ n (tb σ0 2 0) (tb σ0 3 0) (tb σ0 4 0) j else -1
theorem lsQ_le {n : Nat} {F D C : Nat → Nat → Int32} {X : Nat → Int32} : ∀ T, lsQ n F D C X T ≤ 1000000
  | 0 => by unfold lsQ; decide
  | T + 1 => by
    have := lsQ_le (n := n) (F := F) (D := D) (C := C) (X := X) T
    unfold lsQ mn
    grind
theorem load0_ok {σ : Sg} {n : Nat} (h97 : σ 97 = fct) (h0 : σ 1 0 = nI n) (h1 : 1 ≤ n) (hn : n ≤ 6) : ∃ σ', f_X0_load σ 45 1 = some σ' ∧ Ld σ n (fac n) σ' := by
  have hf := (fac_6 n (by omega)).2
  unfold f_X0_load
  rw [h0]
  obtain ⟨σ1, q1, q2, q3, q4⟩ := restart_ok h97 hn
  rw [q1]
  simp only [Option.bind_some]
  obtain ⟨e, r1, r2⟩ := lo_tc (f := f_X0_load_L26 45 1) (fun t s => s.1 = nI t ∧ Ld σ n t s.2) (fac n) (fun e => Ld σ n (fac n) e) (fun t s ht ⟨e1, e2⟩ => by
    obtain ⟨f1, f2, f3, f4, f5, f6, f7⟩ := e2
    have hA := f3 ht
    have hJ : ∀ (y : Int32) (σ2 : Sg), Fr [45] s.2 σ2 → σ2 45 4 = nI (fac n) → σ2 45 0 = cnQ n (vec σ 6 0) (t + 1) → σ2 45 1 = suQ n (tb σ 2 0) (tb σ 3 0) (tb σ 4 0) (vec σ 6 0) (t + 1) → σ2 45 2 = lsQ n (tb σ 2 0) (tb σ 3 0) (tb σ 4 0) (vec σ 6 0) (t + 1) → y = (if agQ n (vec σ 6 0) t then coQ n (tb σ 2 0) (tb σ 3 0) (tb σ 4 0) t else -1) → ∃ s', f_X0_load_J88 45 1 (nI t) y σ2 = some (.inl s') ∧ s'.1 = nI (t + 1) ∧ Ld σ n (t + 1) s'.2 := by
      intro y σ2 g1 g2 g3 g4 g5 g6
      unfold f_X0_load_J88
      rw [setItem_ok (k := 45 + 1) (by rw [l46]; omega) (by rw [l46]; omega)]
      simp only [Option.bind_some]
      have hA2 : Asg (si σ2 (45 + 1) t y) 47 n t := fun i hi => by
        rw [si_ne _ _ _ (by decide), g1.at (by decide)]
        exact hA i hi
      have hn2 : si σ2 (45 + 1) t y 1 0 = nI n := by rw [si_ne _ _ _ (by decide), g1.at (by decide), f1.at (by decide), h0]
      obtain ⟨σ3, a1, a2, a3⟩ := adv47 h1 hn ht hA2
      rw [hn2, a1]
      have w45 : σ3 45 = σ2 45 := by rw [a2.at (by decide), si_ne _ _ _ (by decide)]
      refine ⟨(nI t + 1, σ3), rfl, nI_s t, ?_, (congrFun w45 4).trans g2, a3, (congrFun w45 0).trans g3, (congrFun w45 1).trans g4, (congrFun w45 2).trans g5, fun j hj => ?_⟩
      · refine Fr.tr (W' := [46, 45, 47]) f1 (σ1 := s.2) (fun q hq => ?_) (by decide)
        show σ3 q = s.2 q
        rw [a2 q (fun z => hq (by simp at z; simp [z])), si_ne _ _ _ (fun z => hq (by simp at z; simp [z])), g1 q (fun z => hq (by simp at z; simp [z]))]
      · show σ3 46 j = _
        rw [a2.at (by decide)]
        show si σ2 46 t y 46 j = _
        rw [si_self]
        by_cases hjt : j = t
        · rw [hjt, pk_us, g6]
        · rw [pk_un hjt, g1.at (by decide)]
          exact f7 j (by omega)
    unfold f_X0_load_L26
    simp only [e1, f2]
    rw [if_neg (nI_ge ht (by omega)), show f_X6_agrees s.2 1 (45 + 2) = _ from c_ag h0 hn f1 hA]
    simp only [Option.bind_some]
    by_cases c : agQ n (vec σ 6 0) t = true
    · rw [if_pos c, if_neg (by decide), show f_X6_costOf s.2 1 (45 + 2) = _ from c_co h0 hn f1 ht hA]
      simp only [Option.bind_some]
      refine hJ _ _ (((Fr.rf.si (by decide)).si (by decide)).si (by decide)) ?_ ?_ ?_ ?_ (by rw [if_pos c])
      · simp only [si_self, pk_un (show (4 : Nat) ≠ 2 by decide), pk_un (show (4 : Nat) ≠ 1 by decide), pk_un (show (4 : Nat) ≠ 0 by decide), f2]
      · simp only [si_self, pk_un (show (0 : Nat) ≠ 2 by decide), pk_un (show (0 : Nat) ≠ 1 by decide), pk_us, f4, cnQ, sm, c, if_true]
      · simp only [si_self, pk_un (show (1 : Nat) ≠ 2 by decide), pk_un (show (1 : Nat) ≠ 0 by decide), pk_us, f5, suQ, sm, c, if_true]
      · simp only [si_self, pk_un (show (2 : Nat) ≠ 1 by decide), pk_un (show (2 : Nat) ≠ 0 by decide), pk_us, f6, lsQ, c, if_true]
    · rw [if_neg c, if_pos rfl]
      refine hJ _ _ Fr.rf f2 ?_ ?_ ?_ (by rw [if_neg c])
      · rw [f4]
        simp only [cnQ, sm, c]
        grind
      · rw [f5]
        simp only [suQ, sm, c]
        grind
      · rw [f6]
        have := lsQ_le (n := n) (F := tb σ 2 0) (D := tb σ 3 0) (C := tb σ 4 0) (X := vec σ 6 0) t
        simp only [lsQ, c, mn]
        grind) (fun s ⟨e1, e2⟩ => by
    unfold f_X0_load_L26
    rw [e1, e2.2.1, if_pos (nI_le (Nat.le_refl _) (by omega))]
    exact ⟨_, rfl, e2⟩) (s := (0, si (si (si σ1 45 0 0) 45 1 0) 45 2 1000000)) ⟨rfl, by
      refine ⟨?_, ?_, fun _ i hi => ?_, ?_, ?_, ?_, fun j hj => by omega⟩
      · refine ((Fr.si ?_ (by decide)).si (by decide)).si (by decide)
        exact fun q hq => q2 q (fun z => hq (by simp at z; simp; omega))
      · simp only [si_self, pk_un (show (4 : Nat) ≠ 2 by decide), pk_un (show (4 : Nat) ≠ 1 by decide), pk_un (show (4 : Nat) ≠ 0 by decide), q3]
      · show si (si (si σ1 45 0 0) 45 1 0) 45 2 1000000 47 i = _
        rw [si_ne _ _ _ (by decide), si_ne _ _ _ (by decide), si_ne _ _ _ (by decide)]
        exact q4 i hi
      · simp only [si_self, pk_un (show (0 : Nat) ≠ 2 by decide), pk_un (show (0 : Nat) ≠ 1 by decide), pk_us, cnQ, sm]
      · simp only [si_self, pk_un (show (1 : Nat) ≠ 2 by decide), pk_un (show (1 : Nat) ≠ 0 by decide), pk_us, suQ, sm]
      · simp only [si_self, pk_un (show (2 : Nat) ≠ 1 by decide), pk_un (show (2 : Nat) ≠ 0 by decide), pk_us, lsQ]⟩
  rw [r1]
  exact ⟨e, rfl, r2⟩
