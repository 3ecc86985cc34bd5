-- the symmetries, in the class
theorem lst {P : Nat → Prop} : ∀ m, (∀ i, i < m → P i) ∨ ∃ q, q < m ∧ ¬ P q ∧ ∀ i, i < q → P i
  | 0 => Or.inl fun i hi => absurd hi (by omega)
  | m + 1 => by
    rcases lst (P := P) m with h | ⟨q, h1, h2, h3⟩
    · by_cases c : P m
      · refine Or.inl fun i hi => ?_
        by_cases e : i = m
        · rw [e]; exact c
        · exact h i (by omega)
      · exact Or.inr ⟨m, by omega, c, h⟩
    · exact Or.inr ⟨q, by omega, h2, h3⟩
theorem lo_all {E : Type} {f : Int32 → Option (Int32 ⊕ E)} {n : Nat} (P : Nat → Prop) (e1 e2 : E) (hs : ∀ i, i < n → P i → f (nI i) = some (.inl (nI (i + 1)))) (hf : ∀ i, i < n → ¬ P i → f (nI i) = some (.inr e1)) (he : f (nI n) = some (.inr e2)) {z : Int32} (hz : z = nI 0) : ((∀ i, i < n → P i) → lo f z = some e2) ∧ ((¬ ∀ i, i < n → P i) → lo f z = some e1) := by
  subst hz
  have key : ∀ m, m ≤ n → (∀ i, i < m → P i) → lo f (nI 0) = lo f (nI m) := by
    intro m
    induction m with
    | zero => exact fun _ _ => rfl
    | succ m ih =>
      intro hm hp
      rw [ih (by omega) (fun i hi => hp i (by omega)), lo_inl (hs m (by omega) (hp m (by omega)))]
  refine ⟨fun h => ?_, fun h => ?_⟩
  · rw [key n (Nat.le_refl n) h]
    exact lo_inr he
  · rcases lst (P := P) n with h' | ⟨q, h1, h2, h3⟩
    · exact absurd h' h
    · rw [key q (by omega) h3]
      exact lo_inr (hf q h1 h2)
def vA (M k to : Nat) : Prop := k = to ∨ (¬ M.testBit k = true ∧ ¬ M.testBit to = true)
def vB (n : Nat) (C : Nat → Nat → Int32) (k to : Nat) : Prop := ∀ i, i < n → C i k = C i to
def vC (D : Nat → Nat → Int32) (l : List Nat) (to : Nat) : Prop := ∀ j, j < l.length → ¬ l.getD j 0 = to ∧ D l.length j = D to (l.getD j 0) ∧ D j l.length = D (l.getD j 0) to
def VL (n M : Nat) (D C : Nat → Nat → Int32) (l : List Nat) (to : Nat) : Prop := vA M l.length to ∧ vB n C l.length to ∧ vC D l to ∧ D l.length l.length = D to to
noncomputable def pif {α : Type} (P : Prop) (x y : α) : α := @ite α P (Classical.propDecidable P) x y
theorem pT {α : Type} {P : Prop} {x y : α} (h : P) : pif P x y = x := if_pos h
theorem pF {α : Type} {P : Prop} {x y : α} (h : ¬ P) : pif P x y = y := if_neg h
theorem pC {α : Type} {P Q : Prop} {x y : α} (h : P ↔ Q) : pif P x y = pif Q x y := by rw [propext h]
theorem c_suits {σ : Sg} {kb n M to : Nat} {D C : Nat → Nat → Int32} {l : List Nat} (hn : n ≤ 6) (hM : M < 64) (h2 : σ kb 2 = nI n) (h3 : σ kb 3 = nI M) (hD : ∀ i j, i < 6 → j < 6 → σ 3 (6 * i + j) = D i j) (hC : ∀ i j, i < 6 → j < 6 → σ 4 (6 * i + j) = C i j) (hk : ln (kb + 2) = 6) (hl : ∀ j, j < l.length → l.getD j 0 < n ∧ σ (kb + 2) j = nI (l.getD j 0)) (hkn : l.length < n) (ht : to < n) : f_X7_suits σ kb 1 (nI l.length) (nI to) = some (pif (VL n M D C l to) 1 0) := by
  have hJ : f_X7_suits_J29 σ kb 1 (nI l.length) (nI to) = some (pif (vB n C l.length to ∧ vC D l to ∧ D l.length l.length = D to to) 1 0) := by
    have q1 := lo_all (f := f_X7_suits_L32 σ kb 1 (nI l.length) (nI to)) (n := n) (fun i => C i l.length = C i to) (.inl ()) (.inr ()) (fun i hi hp => by
      unfold f_X7_suits_L32
      rw [h2, if_neg (nI_ge hi (by omega)), show 1 + 3 = 4 from rfl, at_4 (by omega) (by omega)]
      simp only [obs]
      rw [at_4 (by omega) (by omega)]
      simp only [obs]
      rw [hC i _ (by omega) (by omega), hC i _ (by omega) (by omega), if_pos hp, nI_s]) (fun i hi hp => by
      unfold f_X7_suits_L32
      rw [h2, if_neg (nI_ge hi (by omega)), show 1 + 3 = 4 from rfl, at_4 (by omega) (by omega)]
      simp only [obs]
      rw [at_4 (by omega) (by omega)]
      simp only [obs]
      rw [hC i _ (by omega) (by omega), hC i _ (by omega) (by omega), if_neg hp]) (by
      unfold f_X7_suits_L32
      rw [h2, if_pos (nI_le (Nat.le_refl n) (by omega))]) zl_0
    have q2 := lo_all (f := f_X7_suits_L81 (nI l.length) σ kb (nI to) 1) (n := l.length) (fun j => ¬ l.getD j 0 = to ∧ D l.length j = D to (l.getD j 0) ∧ D j l.length = D (l.getD j 0) to) (.inl ()) (.inr ()) (fun j hj ⟨p1, p2, p3⟩ => by
      obtain ⟨e1, e2⟩ := hl j hj
      unfold f_X7_suits_L81
      rw [if_neg (nI_ge hj (by omega)), item_ok (by omega) (ln_le _)]
      simp only [obs]
      rw [e2, if_neg (fun z => p1 ((nI_eq (by omega) (by omega)).mp z)), show 1 + 2 = 3 from rfl, at_3 (by omega) (by omega)]
      simp only [obs]
      rw [at_3 (by omega) (by omega)]
      simp only [obs]
      rw [hD _ _ (by omega) (by omega), hD _ _ (by omega) (by omega), if_pos p2, at_3 (by omega) (by omega)]
      simp only [obs]
      rw [at_3 (by omega) (by omega)]
      simp only [obs]
      rw [hD _ _ (by omega) (by omega), hD _ _ (by omega) (by omega), if_pos p3, nI_s]) (fun j hj hp => by
      obtain ⟨e1, e2⟩ := hl j hj
      unfold f_X7_suits_L81
      rw [if_neg (nI_ge hj (by omega)), item_ok (by omega) (ln_le _)]
      simp only [obs]
      rw [e2]
      by_cases p1 : l.getD j 0 = to
      · rw [if_pos (by rw [p1])]
      · rw [if_neg (fun z => p1 ((nI_eq (by omega) (by omega)).mp z)), show 1 + 2 = 3 from rfl, at_3 (by omega) (by omega)]
        simp only [obs]
        rw [at_3 (by omega) (by omega)]
        simp only [obs]
        rw [hD _ _ (by omega) (by omega), hD _ _ (by omega) (by omega)]
        by_cases p2 : D l.length j = D to (l.getD j 0)
        · rw [if_pos p2, at_3 (by omega) (by omega)]
          simp only [obs]
          rw [at_3 (by omega) (by omega)]
          simp only [obs]
          rw [hD _ _ (by omega) (by omega), hD _ _ (by omega) (by omega), if_neg (fun p3 => hp ⟨p1, p2, p3⟩)]
        · rw [if_neg p2]) (by
      unfold f_X7_suits_L81
      rw [if_pos (nI_le (Nat.le_refl _) (by omega))]) zl_0
    unfold f_X7_suits_J29
    by_cases b : vB n C l.length to
    · rw [q1.1 b]
      simp only [obs, Sum.elim_inr]
      by_cases c : vC D l to
      · rw [q2.1 c]
        simp only [obs, Sum.elim_inr]
        rw [show 1 + 2 = 3 from rfl, at_3 (by omega) (by omega)]
        simp only [obs]
        rw [at_3 (by omega) (by omega)]
        simp only [obs]
        rw [hD _ _ (by omega) (by omega), hD _ _ (by omega) (by omega)]
        by_cases e : D l.length l.length = D to to
        · rw [if_pos e, pT ⟨b, c, e⟩]
        · rw [if_neg e, pF (fun z => e z.2.2)]
      · rw [q2.2 c, pF (fun z => c z.2.1)]
        rfl
    · rw [q1.2 b, pF (fun z => b z.1)]
      rfl
  unfold f_X7_suits
  by_cases e : l.length = to
  · rw [if_pos (by rw [e]), hJ]
    congr 1
    exact pC ⟨fun z => ⟨Or.inl e, z⟩, fun z => z.2⟩
  · rw [if_neg (fun z => e ((nI_eq (by omega) (by omega)).mp z)), h3, has_ok hM (by omega)]
    simp only [obs]
    by_cases b1 : M.testBit l.length = true
    · rw [if_pos b1, if_neg (by decide), pF (fun z : VL n M D C l to => z.1.elim e (fun y => y.1 b1))]
    · rw [if_neg b1, if_pos rfl, has_ok hM (by omega)]
      simp only [obs]
      by_cases b2 : M.testBit to = true
      · rw [if_pos b2, if_neg (by decide), pF (fun z : VL n M D C l to => z.1.elim e (fun y => y.2 b2))]
      · rw [if_neg b2, if_pos rfl, hJ]
        congr 1
        exact pC ⟨fun z => ⟨Or.inr ⟨b1, b2⟩, z⟩, fun z => z.2⟩
theorem mx_0 : ∀ p, p < 7 → mx (0 : Int32) (nI p) = nI p := by decide +kernel
theorem c_nextI {σ : Sg} {kb n M p : Nat} {D C : Nat → Nat → Int32} {l : List Nat} (hn : n ≤ 6) (hM : M < 64) (h2 : σ kb 2 = nI n) (h3 : σ kb 3 = nI M) (hD : ∀ i j, i < 6 → j < 6 → σ 3 (6 * i + j) = D i j) (hC : ∀ i j, i < 6 → j < 6 → σ 4 (6 * i + j) = C i j) (hk : ln (kb + 2) = 6) (hl : ∀ j, j < l.length → l.getD j 0 < n ∧ σ (kb + 2) j = nI (l.getD j 0)) (hkn : l.length < n) (hp : p ≤ n) : (∃ t, p ≤ t ∧ t < n ∧ VL n M D C l t ∧ (∀ u, p ≤ u → u < t → ¬ VL n M D C l u) ∧ f_X7_nextImage σ kb 1 (nI l.length) (nI p) = some (nI t)) ∨ ((∀ u, p ≤ u → u < n → ¬ VL n M D C l u) ∧ f_X7_nextImage σ kb 1 (nI l.length) (nI p) = some (-1)) := by
  have st : ∀ i, i < n → ¬ VL n M D C l i → f_X7_nextImage_L7 σ kb 1 (nI l.length) (nI i) = some (.inl (nI (i + 1))) := fun i hi hv => by
    unfold f_X7_nextImage_L7
    rw [h2, if_neg (nI_ge hi (by omega)), c_suits hn hM h2 h3 hD hC hk hl hkn hi, pF hv]
    simp only [obs]
    rw [if_pos trivial, nI_s]
  have key : ∀ d, p + d ≤ n → (∀ i, i < d → ¬ VL n M D C l (p + i)) → lo (f_X7_nextImage_L7 σ kb 1 (nI l.length)) (nI p) = lo (f_X7_nextImage_L7 σ kb 1 (nI l.length)) (nI (p + d)) := by
    intro d
    induction d with
    | zero => exact fun _ _ => rfl
    | succ d ih =>
      intro hd hv
      rw [ih (by omega) (fun i hi => hv i (by omega)), lo_inl (st (p + d) (by omega) (hv d (by omega)))]
      rfl
  unfold f_X7_nextImage
  rw [mx_0 p (by omega)]
  rcases lst (P := fun i => ¬ VL n M D C l (p + i)) (n - p) with h | ⟨q, h1, h2', h4⟩
  · refine Or.inr ⟨fun u hu1 hu2 => ?_, ?_⟩
    · have := h (u - p) (by omega)
      rwa [show p + (u - p) = u by omega] at this
    · rw [key (n - p) (by omega) h, lo_inr (e := .inr ()) (by
        unfold f_X7_nextImage_L7
        rw [h2, if_pos (nI_le (by omega) (by omega))])]
      rfl
  · have hv : VL n M D C l (p + q) := Classical.not_not.mp h2'
    refine Or.inl ⟨p + q, by omega, by omega, hv, fun u hu1 hu2 => ?_, ?_⟩
    · have := h4 (u - p) (by omega)
      rwa [show p + (u - p) = u by omega] at this
    · rw [key q (by omega) h4, lo_inr (e := .inl (nI (p + q))) (by
        unfold f_X7_nextImage_L7
        rw [h2, if_neg (nI_ge (by omega) (by omega)), c_suits hn hM h2 h3 hD hC hk hl hkn (by omega), pT hv]
        simp only [obs]
        rw [if_neg (by decide)])]
      rfl
def ntA (a : Nat × (Nat → Nat)) (l : List Nat) : Nat × (Nat → Nat) := (a.1 + 1, fun k => min (a.2 k) (l.getD k 0))
theorem c_note {σ : Sg} {kb n : Nat} {l : List Nat} {a : Nat × (Nat → Nat)} (hn : n ≤ 6) (h2 : σ kb 2 = nI n) (k1 : ln (kb + 1) = 6) (k2 : ln (kb + 2) = 6) (hl : ∀ j, j < n → l.getD j 0 < 6 ∧ σ (kb + 2) j = nI (l.getD j 0)) (h0 : σ kb 0 = nI a.1) (ha : ∀ j, j < n → a.2 j < 6 ∧ σ (kb + 1) j = nI (a.2 j)) : f_X7_note σ kb = some (wo (si σ kb 0 (nI (a.1 + 1))) (kb + 1) 0 n (fun j => nI ((ntA a l).2 j))) := by
  unfold f_X7_note
  rw [h0, nI_s, lo_wo (σ := si σ kb 0 (nI (a.1 + 1))) (k := kb + 1) (o := 0) (n := n) (v := fun j => nI ((ntA a l).2 j)) (fun j hj => by
    obtain ⟨l1, l2⟩ := hl j hj
    obtain ⟨a1, a2⟩ := ha j hj
    unfold f_X7_note_L12
    simp only
    rw [wo_oth (by omega), si_miss (by omega), h2, if_neg (nI_ge hj (by omega)), item_ok (by omega) (ln_le _)]
    simp only [obs]
    rw [item_ok (by omega) (ln_le _)]
    simp only [obs]
    rw [setItem_ok (by omega) (ln_le _)]
    simp only [obs]
    rw [wo_out (by omega), si_oth (by omega), wo_oth (by omega), si_oth (by omega), a2, l2, mn_nI (by omega) (by omega), wo_s0 (v := fun j => nI ((ntA a l).2 j)) (x := nI (min (a.2 j) (l.getD j 0))) rfl, nI_s]) (by
    unfold f_X7_note_L12
    simp only
    rw [wo_oth (by omega), si_miss (by omega), h2, if_pos (nI_le (Nat.le_refl n) (by omega))]) zl_0]
  rfl
def SI (σ0 : Sg) (kb n M : Nat) (a : Nat × (Nat → Nat)) (σ : Sg) : Prop := Fr [kb, kb + 1, kb + 2] σ0 σ ∧ σ kb 2 = nI n ∧ σ kb 3 = nI M ∧ σ kb 0 = nI a.1 ∧ ∀ j, j < n → a.2 j < 6 ∧ σ (kb + 1) j = nI (a.2 j)
def IMg (σ : Sg) (kb : Nat) (l : List Nat) (v : Int32) : Prop := (∀ j, j < l.length → σ (kb + 2) j = nI (l.getD j 0)) ∧ σ (kb + 2) l.length = v ∧ ∀ j, l.length < j → j < 6 → σ (kb + 2) j = -1
noncomputable def exS (n M : Nat) (D C : Nat → Nat → Int32) : Nat → List Nat → Nat × (Nat → Nat) → Nat × (Nat → Nat)
  | 0, l, a => ntA a l
  | r + 1, l, a => (List.range n).foldl (fun a to => pif (VL n M D C l to) (exS n M D C r (l ++ [to]) a) a) a
noncomputable def exF (n M : Nat) (D C : Nat → Nat → Int32) (r : Nat) (l : List Nat) (p m : Nat) (a : Nat × (Nat → Nat)) : Nat × (Nat → Nat) := (List.range' p m).foldl (fun a to => pif (VL n M D C l to) (exS n M D C r (l ++ [to]) a) a) a
theorem exS_s {n M r : Nat} {D C : Nat → Nat → Int32} {l : List Nat} {a : Nat × (Nat → Nat)} : exS n M D C (r + 1) l a = exF n M D C r l 0 n a := by
  unfold exF
  rw [← List.range_eq_range']
  rfl
theorem exF_no {n M r : Nat} {D C : Nat → Nat → Int32} {l : List Nat} {a : Nat × (Nat → Nat)} : ∀ d p m, (∀ u, p ≤ u → u < p + d → ¬ VL n M D C l u) → exF n M D C r l p (d + m) a = exF n M D C r l (p + d) m a
  | 0, p, m, _ => by rw [Nat.zero_add, Nat.add_zero]
  | d + 1, p, m, h => by
    have e : exF n M D C r l p (d + 1 + m) a = exF n M D C r l (p + 1) (d + m) a := by
      unfold exF
      rw [show d + 1 + m = (d + m) + 1 by omega, List.range'_succ, List.foldl_cons, pF (h p (by omega) (by omega))]
    rw [e, exF_no d (p + 1) m (fun u h1 h2 => h u (by omega) (by omega)), show p + 1 + d = p + (d + 1) by omega]
theorem exF_0 {n M r p : Nat} {D C : Nat → Nat → Int32} {l : List Nat} {a : Nat × (Nat → Nat)} : exF n M D C r l p 0 a = a := rfl
theorem exF_yes {n M r p m : Nat} {D C : Nat → Nat → Int32} {l : List Nat} {a : Nat × (Nat → Nat)} (h : VL n M D C l p) : exF n M D C r l p (m + 1) a = exF n M D C r l (p + 1) m (exS n M D C r (l ++ [p]) a) := by
  unfold exF
  rw [List.range'_succ, List.foldl_cons, pT h]
def Sx : Nat → Nat
  | 0 => 0
  | r + 1 => 1 + 6 * (1 + Sx r)
theorem gd_app {l : List Nat} {t j : Nat} : (l ++ [t]).getD j 0 = if j < l.length then l.getD j 0 else if j = l.length then t else 0 := by
  rw [List.getD_eq_getElem?_getD, List.getD_eq_getElem?_getD, List.getElem?_append]
  by_cases h : j < l.length
  · rw [if_pos h, if_pos h]
  · rw [if_neg h, if_neg h]
    by_cases e : j = l.length
    · rw [if_pos e, e, Nat.sub_self]
      rfl
    · rw [if_neg e, List.getElem?_eq_none (by simp only [List.length_cons, List.length_nil]; omega)]
      rfl
theorem L54_no {σ : Sg} {kb p step : Nat} {l : List Nat} {v : Int32} (hstep : step < 1000000) (hlen : l.length < 6) (k2 : ln (kb + 2) = 6) (hv : σ (kb + 2) l.length = v) (hp : v + 1 = nI p) (hN : f_X7_nextImage σ kb 1 (nI l.length) (nI p) = some (-1)) : f_X7_load_L54 kb 1 (nI l.length, nI step, σ) = some (.inl (nI l.length + (-1), nI (step + 1), si σ (kb + 2) l.length (-1))) := by
  unfold f_X7_load_L54
  simp only
  rw [zl_1000000, if_neg (nI_ge hstep (by omega)), zl_0, if_neg (nI_nlt (Nat.zero_le _) (by omega)), item_ok (by omega) (ln_le _)]
  simp only [obs]
  rw [hv, hp, hN]
  simp only [obs]
  rw [setItem_ok (by omega) (ln_le _)]
  simp only [obs]
  rw [if_pos trivial]
  unfold f_X7_load_J125
  rw [nI_s]
theorem L54_in {σ : Sg} {kb n p step t : Nat} {l : List Nat} {v : Int32} (hn : n ≤ 6) (h2 : σ kb 2 = nI n) (hstep : step < 1000000) (hlen : l.length + 1 < n) (k2 : ln (kb + 2) = 6) (ht : t < n) (hv : σ (kb + 2) l.length = v) (hp : v + 1 = nI p) (hN : f_X7_nextImage σ kb 1 (nI l.length) (nI p) = some (nI t)) : f_X7_load_L54 kb 1 (nI l.length, nI step, σ) = some (.inl (nI (l ++ [t]).length, nI (step + 1), si σ (kb + 2) l.length (nI t))) := by
  unfold f_X7_load_L54
  simp only
  rw [zl_1000000, if_neg (nI_ge hstep (by omega)), zl_0, if_neg (nI_nlt (Nat.zero_le _) (by omega)), item_ok (by omega) (ln_le _)]
  simp only [obs]
  rw [hv, hp, hN]
  simp only [obs]
  rw [setItem_ok (by omega) (ln_le _)]
  simp only [obs]
  rw [if_neg (nI_m1b (by omega)), si_oth (by omega), h2, isub1 (by omega), if_neg (fun z => absurd ((nI_eq (by omega) (by omega)).mp z) (by omega))]
  unfold f_X7_load_J125
  rw [nI_s, nI_s, List.length_append]
  rfl
theorem L54_end {σ : Sg} {kb n p step t : Nat} {l : List Nat} {v : Int32} {a : Nat × (Nat → Nat)} (hn : n ≤ 6) (h2 : σ kb 2 = nI n) (hstep : step < 1000000) (hlen : l.length + 1 = n) (k1 : ln (kb + 1) = 6) (k2 : ln (kb + 2) = 6) (ht : t < n) (hv : σ (kb + 2) l.length = v) (hp : v + 1 = nI p) (hN : f_X7_nextImage σ kb 1 (nI l.length) (nI p) = some (nI t)) (hl : ∀ j, j < l.length → l.getD j 0 < n ∧ σ (kb + 2) j = nI (l.getD j 0)) (h0 : σ kb 0 = nI a.1) (ha : ∀ j, j < n → a.2 j < 6 ∧ σ (kb + 1) j = nI (a.2 j)) : f_X7_load_L54 kb 1 (nI l.length, nI step, σ) = some (.inl (nI l.length, nI (step + 1), wo (si (si σ (kb + 2) l.length (nI t)) kb 0 (nI (a.1 + 1))) (kb + 1) 0 n (fun j => nI ((ntA a (l ++ [t])).2 j)))) := by
  have hnote := c_note (σ := si σ (kb + 2) l.length (nI t)) (kb := kb) (l := l ++ [t]) (a := a) hn (by rw [si_oth (by omega), h2]) k1 k2 (fun j hj => by
    rw [gd_app]
    by_cases h : j < l.length
    · rw [if_pos h, si_miss (by omega)]
      exact ⟨by have := (hl j h).1; omega, (hl j h).2⟩
    · rw [if_neg h, if_pos (by omega), show j = l.length by omega, si_hit]
      exact ⟨by omega, rfl⟩) (by rw [si_oth (by omega), h0]) (fun j hj => by rw [si_oth (by omega)]; exact ha j hj)
  unfold f_X7_load_L54
  simp only
  rw [zl_1000000, if_neg (nI_ge hstep (by omega)), zl_0, if_neg (nI_nlt (Nat.zero_le _) (by omega)), item_ok (by omega) (ln_le _)]
  simp only [obs]
  rw [hv, hp, hN]
  simp only [obs]
  rw [setItem_ok (by omega) (ln_le _)]
  simp only [obs]
  rw [if_neg (nI_m1b (by omega)), si_oth (by omega), h2, isub1 (by omega), if_pos (by rw [show n - 1 = l.length by omega]), hnote]
  simp only [obs]
  unfold f_X7_load_J125
  rw [nI_s]
theorem nI_len {l : List Nat} {t : Nat} : nI (l ++ [t]).length + (-1) = nI l.length := by
  rw [List.length_append]
  exact iaddm (a := l.length + 1) (by omega)
theorem c_ex {σ0 : Sg} {kb n M : Nat} {D C : Nat → Nat → Int32} (hkb : kb = 54 ∨ kb = 67) (hn : n ≤ 6) (hM : M < 64) (hD : ∀ i j, i < 6 → j < 6 → σ0 3 (6 * i + j) = D i j) (hC : ∀ i j, i < 6 → j < 6 → σ0 4 (6 * i + j) = C i j) (k1 : ln (kb + 1) = 6) (k2 : ln (kb + 2) = 6) : ∀ r l, l.length + (r + 1) = n → (∀ j, j < l.length → l.getD j 0 < n) → ∀ m p a σ step v, p + m = n → v + 1 = nI p → SI σ0 kb n M a σ → IMg σ kb l v → step + (1 + m * (1 + Sx r)) ≤ 1000000 → ∃ s' σ', s' ≤ 1 + m * (1 + Sx r) ∧ lo (f_X7_load_L54 kb 1) (nI l.length, nI step, σ) = lo (f_X7_load_L54 kb 1) (nI l.length + (-1), nI (step + s'), σ') ∧ SI σ0 kb n M (exF n M D C r l p m a) σ' ∧ IMg σ' kb l (-1) := by
  intro r
  induction r with
  | zero =>
    intro l hlen hlb m
    induction m using Nat.strongRecOn with
    | ind m ih =>
      intro p a σ step v hpm hv hS hI hst
      obtain ⟨s1, s2, s3, s4, s5⟩ := hS
      obtain ⟨i1, i2, i3⟩ := hI
      have hl : ∀ j, j < l.length → l.getD j 0 < n ∧ σ (kb + 2) j = nI (l.getD j 0) := fun j hj => ⟨hlb j hj, i1 j hj⟩
      have hD' : ∀ i j, i < 6 → j < 6 → σ 3 (6 * i + j) = D i j := fun i j hi hj => by rw [s1 3 (by rcases hkb with e | e <;> subst e <;> decide), hD i j hi hj]
      have hC' : ∀ i j, i < 6 → j < 6 → σ 4 (6 * i + j) = C i j := fun i j hi hj => by rw [s1 4 (by rcases hkb with e | e <;> subst e <;> decide), hC i j hi hj]
      rcases c_nextI (p := p) hn hM s2 s3 hD' hC' k2 hl (by omega) (by omega) with ⟨t, t1, t2, t3, t4, t5⟩ | ⟨t1, t2⟩
      · have e := lo_inl (L54_end (a := a) (step := step) hn s2 (by omega) hlen k1 k2 t2 i2 hv t5 hl s4 s5)
        obtain ⟨d, hd⟩ : ∃ d, t = p + d := ⟨t - p, by omega⟩
        obtain ⟨m', hm'⟩ : ∃ m', m = d + (m' + 1) := ⟨m - d - 1, by omega⟩
        subst hd
        subst hm'
        have hmul : (d + (m' + 1)) * (1 + Sx 0) = d * (1 + Sx 0) + m' * (1 + Sx 0) + (1 + Sx 0) := by rw [Nat.add_mul, Nat.add_mul, Nat.one_mul, Nat.add_assoc]
        have hx : Sx 0 = 0 := rfl
        obtain ⟨s', σ', r1, r2, r3, r4⟩ := ih m' (by omega) (p + d + 1) (ntA a (l ++ [p + d])) (step := step + 1) (v := nI (p + d)) (σ := wo (si (si σ (kb + 2) l.length (nI (p + d))) kb 0 (nI (a.1 + 1))) (kb + 1) 0 n (fun j => nI ((ntA a (l ++ [p + d])).2 j))) (by omega) (nI_s _) ⟨wo_fr ((s1.si (by simp)).si (by simp)) (by simp), by rw [wo_oth (by omega), si_miss (by omega), si_oth (by omega), s2], by rw [wo_oth (by omega), si_miss (by omega), si_oth (by omega), s3], by rw [wo_oth (by omega), si_hit]; rfl, fun j hj => ⟨by show min (a.2 j) ((l ++ [p + d]).getD j 0) < 6; have := (s5 j hj).1; omega, wo_in0 hj⟩⟩ ⟨fun j hj => by rw [wo_oth (by omega), si_oth (by omega), si_miss (by omega)]; exact i1 j hj, by rw [wo_oth (by omega), si_oth (by omega), si_hit], fun j hj h6 => by rw [wo_oth (by omega), si_oth (by omega), si_miss (by omega)]; exact i3 j hj h6⟩ (by omega)
        refine ⟨1 + s', σ', by omega, by rw [e, r2, show step + 1 + s' = step + (1 + s') by omega], ?_, r4⟩
        rw [exF_no d p (m' + 1) (fun u h1 h2 => t4 u h1 h2), exF_yes t3]
        exact r3
      · have e := lo_inl (L54_no (step := step) (by omega) (by omega) k2 i2 hv t2)
        refine ⟨1, _, by omega, e, ?_, fun j hj => by rw [si_miss (by omega)]; exact i1 j hj, si_hit, fun j hj h6 => by rw [si_miss (by omega)]; exact i3 j hj h6⟩
        have e2 := exF_no (n := n) (M := M) (D := D) (C := C) (r := 0) (l := l) (a := a) m p 0 (fun u h1 h2 => t1 u h1 (by omega))
        rw [show m + 0 = m from rfl, exF_0] at e2
        rw [e2]
        exact ⟨s1.si (by simp), by rw [si_oth (by omega), s2], by rw [si_oth (by omega), s3], by rw [si_oth (by omega), s4], fun j hj => by rw [si_oth (by omega)]; exact s5 j hj⟩
  | succ r ihr =>
    intro l hlen hlb m
    induction m using Nat.strongRecOn with
    | ind m ih =>
      intro p a σ step v hpm hv hS hI hst
      obtain ⟨s1, s2, s3, s4, s5⟩ := hS
      obtain ⟨i1, i2, i3⟩ := hI
      have hl : ∀ j, j < l.length → l.getD j 0 < n ∧ σ (kb + 2) j = nI (l.getD j 0) := fun j hj => ⟨hlb j hj, i1 j hj⟩
      have hD' : ∀ i j, i < 6 → j < 6 → σ 3 (6 * i + j) = D i j := fun i j hi hj => by rw [s1 3 (by rcases hkb with e | e <;> subst e <;> decide), hD i j hi hj]
      have hC' : ∀ i j, i < 6 → j < 6 → σ 4 (6 * i + j) = C i j := fun i j hi hj => by rw [s1 4 (by rcases hkb with e | e <;> subst e <;> decide), hC i j hi hj]
      rcases c_nextI (p := p) hn hM s2 s3 hD' hC' k2 hl (by omega) (by omega) with ⟨t, t1, t2, t3, t4, t5⟩ | ⟨t1, t2⟩
      · have e := lo_inl (L54_in (step := step) hn s2 (by omega) (by omega) k2 t2 i2 hv t5)
        obtain ⟨d, hd⟩ : ∃ d, t = p + d := ⟨t - p, by omega⟩
        obtain ⟨m', hm'⟩ : ∃ m', m = d + (m' + 1) := ⟨m - d - 1, by omega⟩
        subst hd
        subst hm'
        have hmul : (d + (m' + 1)) * (1 + Sx (r + 1)) = d * (1 + Sx (r + 1)) + m' * (1 + Sx (r + 1)) + (1 + Sx (r + 1)) := by rw [Nat.add_mul, Nat.add_mul, Nat.one_mul, Nat.add_assoc]
        have hx : Sx (r + 1) = 1 + 6 * (1 + Sx r) := rfl
        have hmn : n * (1 + Sx r) ≤ 6 * (1 + Sx r) := Nat.mul_le_mul_right _ hn
        have hll : (l ++ [p + d]).length = l.length + 1 := by rw [List.length_append]; rfl
        obtain ⟨sa', σa, a1, a2, a3, a4⟩ := ihr (l ++ [p + d]) (by omega) (fun j hj => by
          rw [gd_app]
          by_cases h : j < l.length
          · rw [if_pos h]; exact hlb j h
          · rw [if_neg h, if_pos (by omega)]; exact t2) n 0 a (si σ (kb + 2) l.length (nI (p + d))) (step + 1) (-1) (by omega) (by decide) ⟨s1.si (by simp), by rw [si_oth (by omega), s2], by rw [si_oth (by omega), s3], by rw [si_oth (by omega), s4], fun j hj => by rw [si_oth (by omega)]; exact s5 j hj⟩ ⟨fun j hj => by
            rw [gd_app]
            by_cases h : j < l.length
            · rw [if_pos h, si_miss (by omega)]; exact i1 j h
            · rw [if_neg h, if_pos (by omega), show j = l.length by omega, si_hit], by rw [hll, si_miss (by omega)]; exact i3 _ (by omega) (by omega), fun j hj h6 => by rw [si_miss (by omega)]; exact i3 j (by omega) h6⟩ (by omega)
        rw [← exS_s] at a3
        obtain ⟨b1, b2, b3⟩ := a4
        obtain ⟨s', σ', r1, r2, r3, r4⟩ := ih m' (by omega) (p + d + 1) _ σa (step + 1 + sa') (nI (p + d)) (by omega) (nI_s _) a3 ⟨fun j hj => by
          have := b1 j (by omega)
          rw [this, gd_app, if_pos hj], by
          have := b1 l.length (by omega)
          rw [this, gd_app, if_neg (by omega), if_pos rfl], fun j hj h6 => by
          by_cases h : j = l.length + 1
          · rw [h, ← hll]; exact b2
          · exact b3 j (by omega) h6⟩ (by omega)
        refine ⟨1 + sa' + s', σ', by omega, by rw [e, a2, nI_len, r2, show step + 1 + sa' + s' = step + (1 + sa' + s') by omega], ?_, r4⟩
        rw [exF_no d p (m' + 1) (fun u h1 h2 => t4 u h1 h2), exF_yes t3]
        exact r3
      · have e := lo_inl (L54_no (step := step) (by omega) (by omega) k2 i2 hv t2)
        refine ⟨1, _, by omega, e, ?_, fun j hj => by rw [si_miss (by omega)]; exact i1 j hj, si_hit, fun j hj h6 => by rw [si_miss (by omega)]; exact i3 j hj h6⟩
        have e2 := exF_no (n := n) (M := M) (D := D) (C := C) (r := r + 1) (l := l) (a := a) m p 0 (fun u h1 h2 => t1 u h1 (by omega))
        rw [show m + 0 = m from rfl, exF_0] at e2
        rw [e2]
        exact ⟨s1.si (by simp), by rw [si_oth (by omega), s2], by rw [si_oth (by omega), s3], by rw [si_oth (by omega), s4], fun j hj => by rw [si_oth (by omega)]; exact s5 j hj⟩
-- the places that the images are tried in: all assignments in order
def VD (n M : Nat) (D C : Nat → Nat → Int32) (l : List Nat) : Prop := ∀ k, k < l.length → VL n M D C (l.take k) (l.getD k 0)
theorem VD_app {n M x : Nat} {D C : Nat → Nat → Int32} {l : List Nat} (h : VD n M D C l) (hx : VL n M D C l x) : VD n M D C (l ++ [x]) := fun k hk => by
  rw [List.length_append] at hk
  rw [gd_app]
  by_cases c : k < l.length
  · rw [if_pos c, List.take_append_of_le_length (by omega)]
    exact h k c
  · have e : k = l.length := by simp only [List.length_cons, List.length_nil] at hk; omega
    rw [if_neg c, if_pos e, e, List.take_left']
    · exact hx
    · rfl
theorem VD_mid {n M x : Nat} {D C : Nat → Nat → Int32} {l t : List Nat} (h : VD n M D C (l ++ x :: t)) : VL n M D C l x := by
  have := h l.length (by rw [List.length_append]; simp only [List.length_cons]; omega)
  rw [List.take_left' rfl, List.getD_eq_getElem?_getD, List.getElem?_append_right (Nat.le_refl _), Nat.sub_self] at this
  exact this
theorem foldl_cg {α β : Type} {f g : α → β → α} : ∀ (L : List β) (a : α), (∀ a x, x ∈ L → f a x = g a x) → L.foldl f a = L.foldl g a
  | [], _, _ => rfl
  | x :: L, a, h => by
    show L.foldl f (f a x) = L.foldl g (g a x)
    rw [h a x List.mem_cons_self]
    exact foldl_cg L _ (fun a y hy => h a y (List.mem_cons_of_mem _ hy))
theorem foldl_id {α β : Type} {f : α → β → α} : ∀ (L : List β) (a : α), (∀ a x, x ∈ L → f a x = a) → L.foldl f a = a
  | [], _, _ => rfl
  | x :: L, a, h => by
    show L.foldl f (f a x) = a
    rw [h a x List.mem_cons_self]
    exact foldl_id L _ (fun a y hy => h a y (List.mem_cons_of_mem _ hy))
theorem foldl_fm {α β γ : Type} {f : α → β → α} {h : γ → List β} : ∀ (L : List γ) (a : α), (L.flatMap h).foldl f a = L.foldl (fun a x => (h x).foldl f a) a
  | [], _ => rfl
  | x :: L, a => by
    rw [List.flatMap_cons, List.foldl_append]
    exact foldl_fm L _
theorem foldl_flt {α β : Type} {f : α → β → α} {p : β → Bool} : ∀ (L : List β) (a : α), (L.filter p).foldl f a = L.foldl (fun a x => if p x = true then f a x else a) a
  | [], _ => rfl
  | x :: L, a => by
    rw [List.filter_cons]
    by_cases c : p x = true
    · rw [if_pos c]
      show (L.filter p).foldl f (f a x) = L.foldl _ (if p x = true then f a x else a)
      rw [if_pos c]
      exact foldl_flt L _
    · rw [if_neg c]
      show (L.filter p).foldl f a = L.foldl _ (if p x = true then f a x else a)
      rw [if_neg c]
      exact foldl_flt L _
theorem rest_erase {n x : Nat} {l : List Nat} : ((List.range n).filter fun y => !l.contains y).erase x = (List.range n).filter fun y => !(l ++ [x]).contains y := by
  rw [List.Nodup.erase_eq_filter (List.Pairwise.filter _ List.nodup_range), List.filter_filter]
  refine List.filter_congr fun y hy => ?_
  by_cases c : y = x
  · subst c
    simp
  · simp [c]
theorem ex_pl {n M : Nat} {D C : Nat → Nat → Int32} : ∀ r l a, ((List.range n).filter fun y => !l.contains y).length = r → VD n M D C l → exS n M D C r l a = ((pl ((List.range n).filter fun y => !l.contains y) r).map (l ++ ·)).foldl (fun a t => pif (VD n M D C t) (ntA a t) a) a
  | 0, l, a, _, hv => by
    show ntA a l = pif (VD n M D C (l ++ [])) (ntA a (l ++ [])) a
    rw [List.append_nil, pT hv]
  | r + 1, l, a, hr, hv => by
    unfold exS pl
    rw [List.map_flatMap, foldl_fm, foldl_flt]
    refine foldl_cg _ _ fun a to hto => ?_
    have hfm : ∀ t : List Nat, (l ++ (to :: t)) = (l ++ [to]) ++ t := fun t => by rw [List.append_assoc]; rfl
    by_cases c : l.contains to = true
    · rw [if_neg (by rw [c]; decide), pF]
      intro z
      obtain ⟨j, hj, e⟩ := List.mem_iff_getElem.mp (List.contains_iff_mem.mp c)
      refine (z.2.2.1 j hj).1 ?_
      rw [List.getD_eq_getElem?_getD, List.getElem?_eq_getElem hj]
      exact e
    · have c' : l.contains to = false := by
        cases hc : l.contains to
        · rfl
        · exact absurd hc c
      rw [if_pos (by rw [c']; rfl), List.map_map]
      by_cases v : VL n M D C l to
      · have hm : to ∈ (List.range n).filter fun y => !l.contains y := List.mem_filter.mpr ⟨hto, by rw [c']; rfl⟩
        rw [pT v, ex_pl r (l ++ [to]) a (by rw [← rest_erase, List.length_erase_of_mem hm, hr]; rfl) (VD_app hv v), rest_erase]
        congr 1
        refine List.map_congr_left fun t _ => ?_
        exact (hfm t).symm
      · rw [pF v]
        refine (foldl_id _ _ fun a t ht => ?_).symm
        obtain ⟨t', _, e⟩ := List.mem_map.mp ht
        rw [← e, pF]
        exact fun z => v (VD_mid z)
-- what both sides count: the turns that keep a fixing
def aN (n t i : Nat) : Nat := (arL n t).getD i 0
theorem aV_N {n t i : Nat} : aV n t i = nI (aN n t i) := rfl
def TU (n : Nat) (D C : Nat → Nat → Int32) (t : Nat) : Prop := ∀ i, i < n → ∀ j, j < n → D (aN n t i) (aN n t j) = D i j ∧ C j (aN n t i) = C j i
def KE (n : Nat) (X : Nat → Int32) (t : Nat) : Prop := ∀ i, i < n → ∀ l, l < n → X i = nI l → aN n t l = l
noncomputable def symQ (n : Nat) (D C : Nat → Nat → Int32) (X : Nat → Int32) : Nat → Nat × (Nat → Nat)
  | 0 => (0, id)
  | T + 1 => pif (TU n D C T ∧ KE n X T) (ntA (symQ n D C X T) (arL n T)) (symQ n D C X T)
theorem ar_len : ∀ n, n < 7 → (List.range (fac n)).all (fun t => (arL n t).length == n) = true := by decide +kernel
theorem arL_len {n t : Nat} (hn : n ≤ 6) (ht : t < fac n) : (arL n t).length = n := by
  have := List.all_eq_true.mp (ar_len n (by omega)) t (List.mem_range.mpr ht)
  exact eq_of_beq this
theorem aN_inj {n t i j : Nat} (hn : n ≤ 6) (ht : t < fac n) (hi : i < n) (hj : j < n) (h : aN n t i = aN n t j) : i = j := aV_inj hn ht hi hj (by rw [aV_N, aV_N, h])
theorem aN_lt {n t i : Nat} (hn : n ≤ 6) (ht : t < fac n) (hi : i < n) : aN n t i < n := ar_lt hn ht hi
theorem VD_iff {n t : Nat} {D C : Nat → Nat → Int32} {X : Nat → Int32} (hX : Fx n X) (ht : t < fac n) : VD n (tkS X 6) D C (arL n t) ↔ (TU n D C t ∧ KE n X t) := by
  have hn := hX.2.1
  have hlen := arL_len hn ht
  have hb : ∀ l, l < n → ((tkS X 6).testBit l = true ↔ ∃ j, j < n ∧ X j = nI l) := fun l hl => by
    rw [(tkS_ok hX 6 (by omega)).2 l (by omega)]
    constructor
    · intro ⟨j, hj, e⟩
      by_cases c : j < n
      · exact ⟨j, c, e⟩
      · have := hX.2.2.2.2 j (by omega) hj
        rw [this] at e
        exact absurd e.symm (nI_m1b (by omega))
    · exact fun ⟨j, hj, e⟩ => ⟨j, by omega, e⟩
  have htk : ∀ k, k < n → ((arL n t).take k).length = k := fun k hk => by rw [List.length_take, hlen]; omega
  have htg : ∀ k j, k < n → j < k → ((arL n t).take k).getD j 0 = aN n t j := fun k j hk hj => by
    unfold aN
    rw [List.getD_eq_getElem?_getD, List.getD_eq_getElem?_getD, List.getElem?_take, if_pos hj]
  constructor
  · intro h
    have hA : ∀ k, k < n → vA (tkS X 6) k (aN n t k) ∧ vB n C k (aN n t k) ∧ (∀ j, j < k → D k j = D (aN n t k) (aN n t j) ∧ D j k = D (aN n t j) (aN n t k)) ∧ D k k = D (aN n t k) (aN n t k) := fun k hk => by
      obtain ⟨h1, h2, h3, h4⟩ := h k (by omega)
      unfold vC at h3
      rw [htk k hk] at h1 h2 h3 h4
      refine ⟨h1, h2, fun j hj => ?_, h4⟩
      have := (h3 j hj).2
      rwa [htg k j hk hj] at this
    refine ⟨fun i hi j hj => ⟨?_, (((hA i hi).2.1) j hj).symm⟩, fun i hi l hl e => ?_⟩
    · rcases Nat.lt_trichotomy i j with c | c | c
      · exact (((hA j hj).2.2.1 i c).2).symm
      · subst c
        exact (hA i hi).2.2.2.symm
      · exact (((hA i hi).2.2.1 j c).1).symm
    · rcases (hA l hl).1 with c | ⟨c, _⟩
      · exact c.symm
      · exact absurd ((hb l hl).mpr ⟨i, hi, e⟩) c
  · intro ⟨h1, h2⟩ k hk
    have hk' : k < n := by omega
    unfold VL vC
    rw [htk k hk']
    have ek : (arL n t).getD k 0 = aN n t k := rfl
    rw [ek]
    refine ⟨?_, fun i hi => ((h1 k hk' i hi).2).symm, fun j hj => ?_, ((h1 k hk' k hk').1).symm⟩
    · by_cases c : k = aN n t k
      · exact Or.inl c
      · refine Or.inr ⟨fun z => ?_, fun z => ?_⟩
        · obtain ⟨i, hi, e⟩ := (hb k hk').mp z
          exact c (h2 i hi k hk' e).symm
        · have hl := aN_lt hn ht hk'
          obtain ⟨i, hi, e⟩ := (hb _ hl).mp z
          exact c (aN_inj hn ht hk' hl (h2 i hi _ hl e).symm)
    · rw [htg k j hk' hj]
      exact ⟨fun z => absurd (aN_inj hn ht (by omega) hk' z) (by omega), (h1 k hk' j (by omega)).1.symm, (h1 j (by omega) k hk').1.symm⟩
theorem fold_symQ {n : Nat} {D C : Nat → Nat → Int32} {X : Nat → Int32} (hX : Fx n X) : ∀ T, T ≤ fac n → ((List.range T).map (arL n)).foldl (fun a t => pif (VD n (tkS X 6) D C t) (ntA a t) a) (0, id) = symQ n D C X T
  | 0, _ => rfl
  | T + 1, h => by
    rw [List.range_succ, List.map_append, List.foldl_append, fold_symQ hX T (by omega)]
    exact pC (VD_iff hX (by omega))
theorem ex_symQ {n : Nat} {D C : Nat → Nat → Int32} {X : Nat → Int32} (hX : Fx n X) : exS n (tkS X 6) D C n [] (0, id) = symQ n D C X (fac n) := by
  have hr : ((List.range n).filter fun y => !([] : List Nat).contains y) = List.range n := List.filter_eq_self.mpr fun y _ => rfl
  rw [ex_pl n [] (0, id) (by rw [hr, List.length_range]) (fun k hk => absurd hk (by simp)), hr, pl_ar n (by have := hX.2.1; omega), ← fold_symQ hX (fac n) (Nat.le_refl _)]
  congr 1
  exact List.map_id' _
theorem c_sym {σ : Sg} {kb kf n : Nat} {s X : Nat → Int32} (hkb : kb = 54 ∨ kb = 67) (hkf : kf = 6 ∨ kf = 70) (hX : Fx n X) (hg : Gd n s) (hv : ∀ i, i < 6 → σ kf i = X i) (hs : EqS (snap σ 1) s) : ∃ σ', f_X7_load σ kb 1 kf = some σ' ∧ Fr [kb, kb + 1, kb + 2] σ σ' ∧ σ' kb 0 = nI (symQ n (tS s 37) (tS s 73) X (fac n)).1 ∧ ∀ j, j < n → σ' (kb + 1) j = nI ((symQ n (tS s 37) (tS s 73) X (fac n)).2 j) := by
  have h1 := hX.1
  have hn := hX.2.1
  have k1 : ln (kb + 1) = 6 := by rcases hkb with e | e <;> subst e <;> decide +kernel
  have k2 : ln (kb + 2) = 6 := by rcases hkb with e | e <;> subst e <;> decide +kernel
  have k3 : ln kf = 6 := by rcases hkf with e | e <;> subst e <;> decide +kernel
  have hM := (tkS_ok hX 6 (by omega)).1
  have h10 : σ 1 0 = nI n := by rw [rc_0 hs, hg.2.2.1]
  unfold f_X7_load
  rw [h10, c_takenBy hX k3 (fun i hi => by rw [si_oth (by omega), si_oth (by omega)]; exact hv i hi)]
  simp only [obs]
  generalize hσ1 : si (si (si σ kb 2 (nI n)) kb 0 (0 : Int32)) kb 3 (nI (tkS X 6)) = σ1
  have f1 : Fr [kb, kb + 1, kb + 2] σ σ1 := by rw [← hσ1]; exact ((Fr.rf.si (by simp)).si (by simp)).si (by simp)
  obtain ⟨σ2, e1, e2, e3⟩ := lo_it (f := f_X7_load_L23 kb) (σ := σ1) (z := 0) (fun j σ' => Fr [kb + 1, kb + 2] σ1 σ' ∧ ∀ i, i < j → σ' (kb + 1) i = nI i ∧ σ' (kb + 2) i = -1) 6 (fun σ' => Fr [kb + 1, kb + 2] σ1 σ' ∧ ∀ i, i < 6 → σ' (kb + 1) i = nI i ∧ σ' (kb + 2) i = -1) (fun j σ' hj ⟨p1, p2⟩ => by
    refine ⟨si (si σ' (kb + 1) j (nI j)) (kb + 2) j (-1), ?_, (p1.si (by simp)).si (by simp), fun i hi => ?_⟩
    · unfold f_X7_load_L23
      simp only
      rw [zl_6, if_neg (nI_ge hj (by omega)), ast_ok (by omega) (ln_le _)]
      simp only [obs]
      rw [ast_ok (by omega) (ln_le _)]
      simp only [obs]
      rw [nI_s]
    · by_cases c : i = j
      · subst c
        exact ⟨by rw [si_oth (by omega), si_hit], si_hit⟩
      · obtain ⟨p3, p4⟩ := p2 i (by omega)
        exact ⟨by rw [si_oth (by omega), si_miss c, p3], by rw [si_miss c, si_oth (by omega), p4]⟩) (fun σ' hp => ⟨σ', by
    unfold f_X7_load_L23
    simp only
    rw [zl_6, if_pos (nI_le (Nat.le_refl 6) (by omega))], hp⟩) zl_0 ⟨Fr.rf, fun i hi => absurd hi (by omega)⟩
  rw [e1]
  simp only [obs]
  have f2 : Fr [kb, kb + 1, kb + 2] σ σ2 := f1.tr e2 (fun q hq => by simp only [List.mem_cons, List.not_mem_nil, or_false] at hq ⊢; omega)
  have hkb2 : σ2 kb = σ1 kb := e2 kb (by simp)
  obtain ⟨r, hr⟩ : ∃ r, n = r + 1 := ⟨n - 1, by omega⟩
  obtain ⟨s', σ3, g1, g2, g3, g4⟩ := c_ex (σ0 := σ) (kb := kb) (n := n) (M := tkS X 6) (D := tS s 37) (C := tS s 73) hkb hn hM (fun i j hi hj => by rw [rc_d hs (by omega), tS_at hi hj]; congr 1; omega) (fun i j hi hj => by rw [rc_c hs (by omega), tS_at hi hj]; congr 1; omega) k1 k2 r [] (by rw [hr]; simp) (fun j hj => absurd hj (by simp)) n 0 (0, id) σ2 0 (-1) (by omega) (by decide) ⟨f2, by rw [hkb2, ← hσ1, si_miss (by omega), si_miss (by omega), si_hit], by rw [hkb2, ← hσ1, si_hit], by rw [hkb2, ← hσ1, si_miss (by omega), si_hit]; decide, fun j hj => ⟨by show j < 6; omega, (e3 j (by omega)).1⟩⟩ ⟨fun j hj => absurd hj (by simp), (e3 0 (by omega)).2, fun j _ hj => (e3 j hj).2⟩ (by
    have b : Sx r ≤ Sx 5 := (by decide : ∀ r, r < 6 → Sx r ≤ Sx 5) r (by omega)
    have b5 : Sx 5 = 10885 := by decide
    have : n * (1 + Sx r) ≤ 6 * (1 + 10885) := Nat.mul_le_mul hn (by omega)
    omega)
  have z0 : (0 : Int32) = nI ([] : List Nat).length := by decide
  rw [show ((0 : Int32), (0 : Int32), σ2) = (nI ([] : List Nat).length, nI 0, σ2) by rw [← z0]; rfl, g2, lo_inr (e := σ3) (by
    have b : Sx r ≤ Sx 5 := (by decide : ∀ r, r < 6 → Sx r ≤ Sx 5) r (by omega)
    have b5 : Sx 5 = 10885 := by decide
    have : n * (1 + Sx r) ≤ 6 * (1 + 10885) := Nat.mul_le_mul hn (by omega)
    unfold f_X7_load_L54
    simp only
    rw [zl_1000000, if_neg (nI_ge (by omega) (by omega)), if_pos (by decide)])]
  rw [← exS_s, ← hr, ex_symQ hX] at g3
  obtain ⟨w1, w2, w3, w4, w5⟩ := g3
  exact ⟨σ3, rfl, w1, w4, fun j hj => (w5 j hj).2⟩
