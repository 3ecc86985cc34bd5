-- every assignment has its number
def pl : List Nat → Nat → List (List Nat)
  | _, 0 => [[]]
  | r, k + 1 => r.flatMap fun x => (pl (r.erase x) k).map fun l => x :: l
theorem mem_pl : ∀ (l r : List Nat), l.Nodup → (∀ x, x ∈ l → x ∈ r) → l ∈ pl r l.length
  | [], r, _, _ => List.mem_singleton.mpr rfl
  | x :: l, r, hn, hm => by
    have hn' := List.nodup_cons.mp hn
    show x :: l ∈ pl r (l.length + 1)
    unfold pl
    refine List.mem_flatMap.mpr ⟨x, hm x List.mem_cons_self, List.mem_map.mpr ⟨l, mem_pl l _ hn'.2 (fun y hy => ?_), rfl⟩⟩
    exact (List.mem_erase_of_ne (fun e => hn'.1 (by rw [← e]; exact hy))).mpr (hm y (List.mem_cons_of_mem _ hy))
set_option maxRecDepth 100000 in
theorem pl_ar : ∀ n, n < 7 → pl (List.range n) n = (List.range (fac n)).map (arL n) := by decide +kernel
theorem perm_sur {n : Nat} {a : Nat → Int32} (hn : n ≤ 6) (ha : Pt n a) (hi : ∀ i j, i < n → j < n → a i = a j → i = j) : ∃ t, t < fac n ∧ ∀ i, i < n → a i = aV n t i := by
  have hl : ((List.range n).map fun i => ix (a i)).Nodup := by
    unfold List.Nodup
    rw [List.pairwise_map]
    refine List.Pairwise.imp_of_mem ?_ List.pairwise_lt_range
    intro i j h1 h2 h3 h4
    have h1 := List.mem_range.mp h1
    have h2 := List.mem_range.mp h2
    obtain ⟨x, hx, ex⟩ := ha i h1
    obtain ⟨y, hy, ey⟩ := ha j h2
    rw [ex, ey, ix_nI (by omega), ix_nI (by omega)] at h4
    have := hi i j h1 h2 (by rw [ex, ey, h4])
    omega
  have hm := mem_pl _ (List.range n) hl (fun x hx => by
    obtain ⟨i, h1, h2⟩ := List.mem_map.mp hx
    obtain ⟨y, hy, ey⟩ := ha i (List.mem_range.mp h1)
    rw [ey, ix_nI (by omega)] at h2
    exact List.mem_range.mpr (by omega))
  rw [List.length_map, List.length_range, pl_ar n (by omega)] at hm
  obtain ⟨t, h1, h2⟩ := List.mem_map.mp hm
  refine ⟨t, List.mem_range.mp h1, fun i hi => ?_⟩
  unfold aV
  rw [h2, List.getD_eq_getElem?_getD, List.getElem?_map, List.getElem?_range hi]
  obtain ⟨y, hy, ey⟩ := ha i hi
  show a i = nI (ix (a i))
  rw [ey, ix_nI (by omega)]
theorem aV_inj {n t i j : Nat} (hn : n ≤ 6) (ht : t < fac n) (hi : i < n) (hj : j < n) (h : aV n t i = aV n t j) : i = j := by
  obtain ⟨h1, h2, h3⟩ := ar_ok n (by omega) t ht
  have li := ar_lt hn ht hi
  have lj := ar_lt hn ht hj
  have e := (nI_eq (by omega) (by omega)).mp h
  rw [List.getD_eq_getElem?_getD, List.getD_eq_getElem?_getD, List.getElem?_eq_getElem (by omega), List.getElem?_eq_getElem (by omega)] at e
  have hp := List.pairwise_iff_getElem.mp h3
  by_cases c : i = j
  · exact c
  · exfalso
    rcases Nat.lt_or_gt_of_ne c with c | c
    · exact hp i j (by omega) (by omega) c e
    · exact hp j i (by omega) (by omega) c e.symm
/-- an exchange of an assignment is an assignment -/
theorem sw_sur {n t i j : Nat} {a : Nat → Int32} (hn : n ≤ 6) (ht : t < fac n) (ha : ∀ q, q < n → a q = aV n t q) (hi : i < n) (hj : j < n) : ∃ t', t' < fac n ∧ ∀ q, q < n → sw a i j q = aV n t' q := by
  refine perm_sur hn (sw_pt hi hj (Pt.cong ha (aV_pt hn ht))) (fun p q hp hq e => ?_)
  unfold sw at e
  have inj : ∀ x y, x < n → y < n → a x = a y → x = y := fun x y hx hy h => aV_inj hn ht hx hy (by rw [← ha x hx, ← ha y hy, h])
  by_cases h1 : p = j
  · by_cases h2 : q = j
    · omega
    · rw [if_pos h1, if_neg h2] at e
      by_cases h3 : q = i
      · rw [if_pos h3] at e
        have := inj i j hi hj e
        omega
      · rw [if_neg h3] at e
        have := inj i q hi hq e
        omega
  · rw [if_neg h1] at e
    by_cases h4 : p = i
    · rw [if_pos h4] at e
      by_cases h2 : q = j
      · rw [if_pos h2] at e
        have := inj j i hj hi e
        omega
      · rw [if_neg h2] at e
        by_cases h3 : q = i
        · omega
        · rw [if_neg h3] at e
          have := inj j q hj hq e
          omega
    · rw [if_neg h4] at e
      by_cases h2 : q = j
      · rw [if_pos h2] at e
        have := inj p i hp hi e
        omega
      · rw [if_neg h2] at e
        by_cases h3 : q = i
        · rw [if_pos h3] at e
          have := inj p j hp hj e
          omega
        · rw [if_neg h3] at e
          exact inj p q hp hq e
-- fixings
theorem agS_iff {X a : Nat → Int32} : ∀ n, agS X a n = true ↔ ∀ i, i < n → X i = -1 ∨ X i = a i
  | 0 => ⟨fun _ i hi => by omega, fun _ => rfl⟩
  | n + 1 => by
    unfold agS
    rw [Bool.and_eq_true, agS_iff n, Bool.or_eq_true, decide_eq_true_eq, decide_eq_true_eq]
    refine ⟨fun h i hi => ?_, fun h => ⟨fun i hi => h i (by omega), h n (by omega)⟩⟩
    by_cases c : i = n
    · rw [c]; exact h.2
    · exact h.1 i (by omega)
theorem agQ_iff {n t : Nat} {X : Nat → Int32} : agQ n X t = true ↔ ∀ i, i < n → X i = -1 ∨ X i = aV n t i := agS_iff n
def InjX (n : Nat) (X : Nat → Int32) : Prop := ∀ i j, i < n → j < n → ¬ X i = -1 → X i = X j → i = j
theorem ag_pr {n t : Nat} {X : Nat → Int32} (hn : n ≤ 6) (ht : t < fac n) (h : agQ n X t = true) : Pr n X := fun i hi => by
  rcases agQ_iff.mp h i hi with c | c
  · exact Or.inl c
  · obtain ⟨l, hl, e⟩ := aV_pt hn ht i hi
    exact Or.inr ⟨l, hl, by rw [c, e]⟩
theorem ag_inj {n t : Nat} {X : Nat → Int32} (hn : n ≤ 6) (ht : t < fac n) (h : agQ n X t = true) : InjX n X := fun i j hi hj hm e => by
  have h1 := (agQ_iff.mp h i hi).resolve_left hm
  have h2 := (agQ_iff.mp h j hj).resolve_left (by rw [← e]; exact hm)
  exact aV_inj hn ht hi hj (by rw [← h1, ← h2, e])
set_option maxRecDepth 100000 in
theorem ar_full : ∀ n, n < 7 → ∀ t, t < fac n → (List.range n).all (fun l => (arL n t).contains l) = true := by decide +kernel
theorem perm_full {n t l : Nat} (hn : n ≤ 6) (ht : t < fac n) (hl : l < n) (h : ∀ i, i < n → ¬ aV n t i = nI l) : False := by
  have h1 := List.all_eq_true.mp (ar_full n (by omega) t ht) l (List.mem_range.mpr hl)
  have h2 : l ∈ arL n t := List.contains_iff_mem.mp h1
  obtain ⟨i, hi, e⟩ := List.mem_iff_getElem.mp h2
  obtain ⟨a1, -, -⟩ := ar_ok n (by omega) t ht
  refine h i (by omega) ?_
  unfold aV
  rw [List.getD_eq_getElem?_getD, List.getElem?_eq_getElem hi]
  show nI ((arL n t)[i]) = nI l
  rw [e]
/-- a pair of a free facility and a free location can come in -/
theorem ag_fix {n t f l : Nat} {X : Nat → Int32} (hn : n ≤ 6) (ht : t < fac n) (h : agQ n X t = true) (hf : f < n) (hl : l < n) (h1 : X f = -1) (h2 : ∀ i, i < n → ¬ X i = nI l) : ∃ t', t' < fac n ∧ agQ n (upd X f (nI l)) t' = true := by
  have hex : ∃ q, q < n ∧ aV n t q = nI l := by
    by_cases c : ∃ q, q < n ∧ aV n t q = nI l
    · exact c
    · exact (perm_full hn ht hl (fun i hi e => c ⟨i, hi, e⟩)).elim
  obtain ⟨q, hq, eq⟩ := hex
  obtain ⟨t', h3, h4⟩ := sw_sur hn ht (fun _ _ => rfl) hf hq
  refine ⟨t', h3, agQ_iff.mpr fun i hi => ?_⟩
  by_cases e : i = f
  · right
    rw [← h4 i hi, e]
    unfold upd sw
    rw [if_pos rfl]
    by_cases e2 : f = q
    · rw [if_pos e2, e2, eq]
    · rw [if_neg e2, if_pos rfl, eq]
  · have hu : upd X f (nI l) i = X i := pk_un e
    rw [hu]
    rcases agQ_iff.mp h i hi with c | c
    · exact Or.inl c
    · right
      rw [← h4 i hi, c]
      unfold sw
      by_cases e2 : i = q
      · exfalso
        exact h2 i hi (by rw [c, e2, eq])
      · rw [if_neg e2, if_neg e]
