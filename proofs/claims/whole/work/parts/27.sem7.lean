-- only the first n places count
theorem costS_cong {n : Nat} {F D C : Nat → Nat → Int32} {a b : Nat → Int32} (h : ∀ i, i < n → a i = b i) : costS n F D C a = costS n F D C b := sm_cong fun i hi => by
  rw [h i hi]
  congr 1
  exact sm_cong fun j hj => by rw [h j hj]
theorem agS_cong {X a b : Nat → Int32} : ∀ {n : Nat}, (∀ i, i < n → a i = b i) → agS X a n = agS X b n
  | 0, _ => rfl
  | n + 1, h => by
    unfold agS
    rw [agS_cong (n := n) (fun i hi => h i (by omega)), h n (by omega)]
theorem numS_cong {n : Nat} {a b : Nat → Int32} (h : ∀ i, i < n → a i = b i) : numS n a = numS n b := sm_cong fun i hi => by
  unfold lowS
  congr 1
  exact sm_cong fun m hm => by rw [h i hi, h (i + 1 + m) (by omega)]
theorem sw_cong {n i j : Nat} {a b : Nat → Int32} (h : ∀ i, i < n → a i = b i) (hi : i < n) (hj : j < n) : ∀ q, q < n → sw a i j q = sw b i j q := fun q hq => by
  unfold sw
  rw [h i hi, h j hj, h q hq]
theorem gS_cong {n i j : Nat} {F D C : Nat → Nat → Int32} {a b : Nat → Int32} (h : ∀ i, i < n → a i = b i) (hi : i < n) (hj : j < n) : gS n F D C a i j = gS n F D C b i j := by
  unfold gS
  rw [costS_cong h, costS_cong (sw_cong h hi hj)]
theorem LocP_cong {n : Nat} {X : Nat → Int32} {g g' : Nat → Nat → Int32} (h : ∀ i j, i < n → j < n → g i j = g' i j) : LocP n X g ↔ LocP n X g' := by
  unfold LocP
  constructor
  · intro q i j h1 h2 h3 h4
    rw [← h i j (by omega) h2]
    exact q i j h1 h2 h3 h4
  · intro q i j h1 h2 h3 h4
    rw [h i j (by omega) h2]
    exact q i j h1 h2 h3 h4
theorem locB_cong {n : Nat} {X : Nat → Int32} {g g' : Nat → Nat → Int32} (hn : n ≤ 6) (h : ∀ i j, i < n → j < n → g i j = g' i j) : locB n X g = locB n X g' := by
  rw [Bool.eq_iff_iff, locB_iff hn, locB_iff hn, LocP_cong h]
def aV (n t : Nat) : Nat → Int32 := fun i => nI ((arL n t).getD i 0)
theorem Asg.vec {σ : Sg} {k n t : Nat} (hn : n ≤ 6) (h : Asg σ k n t) : ∀ i, i < n → vec σ k 0 i = aV n t i := fun i hi => by
  rw [vec_at (by omega), Nat.zero_add]
  exact h i hi
theorem aV_pt {n t : Nat} (hn : n ≤ 6) (ht : t < fac n) : Pt n (aV n t) := fun i hi => ⟨_, ar_lt hn ht hi, rfl⟩
theorem Pt.cong {n : Nat} {a b : Nat → Int32} (h : ∀ i, i < n → a i = b i) (hb : Pt n b) : Pt n a := fun i hi => by
  rw [h i hi]
  exact hb i hi
def agQ (n : Nat) (X : Nat → Int32) (t : Nat) : Bool := agS X (aV n t) n
def coQ (n : Nat) (F D C : Nat → Nat → Int32) (t : Nat) : Int32 := costS n F D C (aV n t)
def loQ (n : Nat) (F D C : Nat → Nat → Int32) (X : Nat → Int32) (t : Nat) : Bool := locB n X (gS n F D C (aV n t))
-- costs are numbers
def VT (F : Nat → Nat → Int32) : Prop := ∀ i j, i < 6 → j < 6 → ∃ x, x ≤ 99 ∧ F i j = nI x
theorem sm_nI {n B : Nat} {f : Nat → Int32} (h : ∀ i, i < n → ∃ c, c ≤ B ∧ f i = nI c) : ∃ c, c ≤ n * B ∧ sm n f = nI c := by
  induction n with
  | zero => exact ⟨0, by omega, rfl⟩
  | succ n ih =>
    obtain ⟨c, h1, h2⟩ := ih fun i hi => h i (by omega)
    obtain ⟨d, h3, h4⟩ := h n (by omega)
    refine ⟨c + d, by rw [Nat.succ_mul]; omega, ?_⟩
    simp only [sm]
    rw [h2, h4, nI_add]
theorem mul_le99 {x y : Nat} (hx : x ≤ 99) (hy : y ≤ 99) : x * y ≤ 9801 := Nat.mul_le_mul hx hy
theorem costS_nI {n : Nat} {F D C : Nat → Nat → Int32} {a : Nat → Int32} (hn : n ≤ 6) (hF : VT F) (hD : VT D) (hC : VT C) (ha : Pt n a) : ∃ c, c ≤ 353430 ∧ costS n F D C a = nI c := by
  obtain ⟨c, h1, h2⟩ := sm_nI (n := n) (B := 58905) (f := fun i => C i (ix (a i)) + sm n fun j => F i j * D (ix (a i)) (ix (a j))) (fun i hi => by
    obtain ⟨x, hx, ex⟩ := ha i hi
    have ix1 : ix (a i) = x := by rw [ex, ix_nI (by omega)]
    obtain ⟨p, p1, p2⟩ := hC i x (by omega) (by omega)
    obtain ⟨q, q1, q2⟩ := sm_nI (n := n) (B := 9801) (f := fun j => F i j * D (ix (a i)) (ix (a j))) (fun j hj => by
      obtain ⟨y, hy, ey⟩ := ha j hj
      have iy1 : ix (a j) = y := by rw [ey, ix_nI (by omega)]
      obtain ⟨u, u1, u2⟩ := hF i j (by omega) (by omega)
      obtain ⟨v, v1, v2⟩ := hD x y (by omega) (by omega)
      exact ⟨u * v, mul_le99 u1 v1, by rw [ix1, iy1, u2, v2, pk_mul]⟩)
    refine ⟨p + q, ?_, ?_⟩
    · have := Nat.mul_le_mul_right 9801 hn
      omega
    · rw [q2, ix1, p2, nI_add])
  refine ⟨c, ?_, h2⟩
  have := Nat.mul_le_mul_right 58905 hn
  omega
-- a walk through all assignments
def itr {A : Type} (f : Nat → A → A) : Nat → A → A
  | 0, a => a
  | t + 1, a => f t (itr f t a)
theorem en_ok {S E A : Type} {f : S → Option (S ⊕ E)} {n : Nat} {σ0 : Sg} (mk : A → Int32 → Sg → S) (out : A → Sg → E) (step : Nat → A → A) (h0 : σ0 76 0 = nI n) (h1 : 1 ≤ n) (hn : n ≤ 6) (hend : ∀ a σ, f (mk a 0 σ) = some (.inr (out a σ))) (hstep : ∀ a σ t r σ', Fr [80] σ0 σ → Asg σ 80 n t → t < fac n → f_X9_goesOn σ 75 = some (r, σ') → f (mk a 1 σ) = some (.inl (mk (step t a) r σ'))) {a : A} {σ : Sg} (hF : Fr [80] σ0 σ) (hA : Asg σ 80 n 0) : ∃ σ', lo f (mk a 1 σ) = some (out (itr step (fac n) a) σ') ∧ Fr [80] σ0 σ' := by
  have key : ∀ m t σ, t + m + 1 = fac n → Fr [80] σ0 σ → Asg σ 80 n t → ∃ σ', lo f (mk (itr step t a) 1 σ) = some (out (itr step (fac n) a) σ') ∧ Fr [80] σ0 σ' := by
    intro m
    induction m with
    | zero =>
      intro t σ ht hF hA
      obtain ⟨r, σ', q1, q2, q3, q4⟩ := m_goesOn (by rw [hF 76 (by decide)]; exact h0) h1 hn (show t < fac n by omega) hA
      obtain ⟨rfl, rfl⟩ := q4 (by omega)
      rw [lo_inl (hstep _ _ t _ _ hF hA (by omega) q1), lo_inr (hend _ _)]
      exact ⟨_, by rw [← ht]; rfl, hF⟩
    | succ m ih =>
      intro t σ ht hF hA
      obtain ⟨r, σ', q1, q2, q3, q4⟩ := m_goesOn (by rw [hF 76 (by decide)]; exact h0) h1 hn (show t < fac n by omega) hA
      obtain ⟨rfl, q5⟩ := q3 (by omega)
      rw [lo_inl (hstep _ _ t _ _ hF hA (by omega) q1)]
      exact ih (t + 1) σ' (by omega) (hF.tr q2 (fun q hq => hq)) q5
  have hf := (fac_6 n (by omega)).2.1
  exact key (fac n - 1) 0 σ (by omega) hF hA
theorem m_firsts {σ : Sg} {n : Nat} (hn : n ≤ 6) : ∃ σ', f_X9_firsts σ 75 = some σ' ∧ Fr [80] σ σ' ∧ (∀ i, i < 6 → σ' 80 i = nI i) ∧ Asg σ' 80 n 0 := by
  unfold f_X9_firsts
  obtain ⟨e, q1, q2⟩ := lo_tc (f := f_X9_firsts_L2 75) (fun j s => s.1 = nI j ∧ Fr [80] σ s.2 ∧ ∀ i, i < j → s.2 80 i = nI i) 6 (fun e => Fr [80] σ e ∧ ∀ i, i < 6 → e 80 i = nI i) (fun j s hj ⟨e1, e2, e3⟩ => by
    unfold f_X9_firsts_L2
    rw [e1, if_neg (show ¬ (6 : Int32) ≤ nI j from nI_ge (b := 6) hj (by omega)), ast_ok (by rw [l80]; exact hj) (by rw [l80]; omega)]
    refine ⟨_, rfl, nI_s j, e2.si (by decide), fun i hi => ?_⟩
    show si s.2 80 j (nI j) 80 i = nI i
    rw [si_self]
    by_cases h : i = j
    · rw [h, pk_us]
    · rw [pk_un h]
      exact e3 i (by omega)) (fun s ⟨e1, e2, e3⟩ => by
    unfold f_X9_firsts_L2
    rw [e1, if_pos (show (6 : Int32) ≤ nI 6 from nI_le (a := 6) (b := 6) (by omega) (by omega))]
    exact ⟨_, rfl, e2, e3⟩) (s := (0, σ)) ⟨rfl, Fr.rf, fun i hi => by omega⟩
  rw [q1]
  refine ⟨e, rfl, q2.1, q2.2, fun i hi => ?_⟩
  rw [q2.2 i (by omega), ar_0 n (by omega), List.getD_eq_getElem?_getD, List.getElem?_range hi]
  rfl
