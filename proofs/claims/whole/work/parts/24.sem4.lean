-- numbers of assignments
def fac : Nat → Nat
  | 0 => 1
  | n + 1 => (n + 1) * fac n
theorem fac_6 : ∀ n, n < 7 → fct n = nI (fac n) ∧ 1 ≤ fac n ∧ fac n ≤ 720 := by decide +kernel
theorem l97 : ln 97 = 7 := by decide +kernel
theorem factorial_ok {σ : Sg} {m : Nat} (h : σ 97 = fct) (hm : m < 7) : f_X8_factorial σ (nI m) = some (nI (fac m)) := by
  unfold f_X8_factorial
  rw [item_ok (by rw [l97]; exact hm) (by rw [l97]; omega), h]
  simp only [Option.bind_some]
  exact (by decide +kernel : ∀ m, m < 7 → some (mx (1 : Int32) (fct m)) = some (nI (fac m))) m hm
def lowS (n : Nat) (a : Nat → Int32) (i : Nat) : Int32 := sm (n - 1 - i) fun m => if a (i + 1 + m) < a i then 1 else 0
def numS (n : Nat) (a : Nat → Int32) : Int32 := sm n fun i => lowS n a i * nI (fac (n - 1 - i))
theorem numberOf8_ok {σ : Sg} {k n : Nat} (h97 : σ 97 = fct) (hn : n ≤ 6) (hk : ln k = 6) : f_X8_numberOf σ k (nI n) = some (numS n (vec σ k 0)) := by
  unfold f_X8_numberOf
  have inner : ∀ (i : Nat) (x : Int32), i < n → lo (f_X8_numberOf_L17 (nI n) σ k (x, nI i)) (0, nI i + 1) = some (lowS n (vec σ k 0) i) := by
    intro i x hi
    refine lo_run (fun m => (sm m fun m => if vec σ k 0 (i + 1 + m) < vec σ k 0 i then 1 else 0, nI (i + 1 + m))) (n := n - 1 - i) (fun m hm => ?_) ?_ (by simp [sm, nI_s])
    · unfold f_X8_numberOf_L17
      rw [if_neg (nI_ge (by omega) (by omega)), it6 hk (by omega)]
      simp only [Option.bind_some]
      rw [it6 hk (by omega)]
      simp only [Option.bind_some, sm]
      by_cases h : vec σ k 0 (i + 1 + m) < vec σ k 0 i
      · rw [if_neg (lt_nle.mp h), if_pos h]
        simp only [f_X8_numberOf_J40, nI_s]
        rfl
      · rw [if_pos (Decidable.not_not.mp (fun z => h (lt_nle.mpr z))), if_neg h]
        simp only [f_X8_numberOf_J40, nI_s, Int32.add_zero]
        rfl
    · unfold f_X8_numberOf_L17
      rw [if_pos (nI_le (by omega) (by omega))]
      rfl
  rw [lo_run (f := f_X8_numberOf_L4 (nI n) σ k) (fun i => (sm i fun i => lowS n (vec σ k 0) i * nI (fac (n - 1 - i)), nI i)) (n := n) (e := numS n (vec σ k 0)) (s := (0, 0)) (fun i hi => by
    unfold f_X8_numberOf_L4
    rw [if_neg (nI_ge hi (by omega))]
    have := inner i (sm i fun i => lowS n (vec σ k 0) i * nI (fac (n - 1 - i))) hi
    simp only at this ⊢
    rw [show nI i + (1 : Int32) = nI i + 1 from rfl, this]
    simp only [Option.bind_some]
    rw [show (1 : Int32) = nI 1 from rfl, pk_sub (by omega), pk_sub (by omega), factorial_ok h97 (by omega)]
    simp only [Option.bind_some, sm, ← nI_s]
    rfl) (by
    unfold f_X8_numberOf_L4
    rw [if_pos (nI_le (Nat.le_refl n) (by omega))]
    rfl) rfl]
  rfl
def horS (n : Nat) (a : Nat → Int32) : Nat → Int32
  | 0 => 0
  | i + 1 => horS n a i * nI (n - i) + lowS n a i
theorem hor_sm {n : Nat} {a : Nat → Int32} : ∀ m, m ≤ n → horS n a m * nI (fac (n - m)) = sm m fun i => lowS n a i * nI (fac (n - 1 - i))
  | 0, _ => by
    simp only [horS, sm]
    grind
  | m + 1, hm => by
    have h := hor_sm (n := n) (a := a) m (by omega)
    simp only [horS, sm]
    rw [← h]
    have e : nI (fac (n - m)) = nI (n - m) * nI (fac (n - (m + 1))) := by
      obtain ⟨q, hq⟩ : ∃ q, n - m = q + 1 := ⟨n - m - 1, by omega⟩
      rw [hq, show n - (m + 1) = q by omega, pk_mul]
      rfl
    rw [e, show n - 1 - m = n - (m + 1) by omega]
    grind
theorem hor_num {n : Nat} {a : Nat → Int32} : horS n a n = numS n a := by
  have h := hor_sm (n := n) (a := a) n (Nat.le_refl n)
  rw [Nat.sub_self] at h
  unfold numS
  rw [← h]
  have : nI (fac 0) = 1 := rfl
  rw [this]
  grind
theorem m_numberOf {σ : Sg} {n : Nat} (h0 : σ 76 0 = nI n) (hn : n ≤ 6) : f_X9_numberOf σ 75 = some (numS n (vec σ 80 0)) := by
  unfold f_X9_numberOf
  have inner : ∀ (i : Nat) (x : Int32), i < n → lo (f_X9_numberOf_L21 σ 75 (x, nI i)) (0, nI i + 1) = some (lowS n (vec σ 80 0) i) := by
    intro i x hi
    refine lo_run (fun m => (sm m fun m => if vec σ 80 0 (i + 1 + m) < vec σ 80 0 i then 1 else 0, nI (i + 1 + m))) (n := n - 1 - i) (fun m hm => ?_) ?_ (by simp [sm, nI_s])
    · unfold f_X9_numberOf_L21
      simp only [m_n h0, Option.bind_some]
      rw [if_neg (nI_ge (by omega) (by omega)), m_p (by omega), m_p (by omega)]
      simp only [Option.bind_some, sm]
      by_cases h : vec σ 80 0 (i + 1 + m) < vec σ 80 0 i
      · rw [if_neg (lt_nle.mp h), if_pos h]
        simp only [f_X9_numberOf_J54, nI_s]
        rfl
      · rw [if_pos (Decidable.not_not.mp (fun z => h (lt_nle.mpr z))), if_neg h]
        simp only [f_X9_numberOf_J54, nI_s, Int32.add_zero]
        rfl
    · unfold f_X9_numberOf_L21
      simp only [m_n h0, Option.bind_some]
      rw [if_pos (nI_le (by omega) (by omega))]
      rfl
  rw [lo_run (f := f_X9_numberOf_L4 σ 75) (fun i => (horS n (vec σ 80 0) i, nI i)) (n := n) (e := horS n (vec σ 80 0) n) (s := (0, 0)) (fun i hi => by
    unfold f_X9_numberOf_L4
    simp only [m_n h0, Option.bind_some]
    rw [if_neg (nI_ge hi (by omega)), show nI i + (1 : Int32) = nI i + 1 from rfl, inner i _ hi]
    simp only [Option.bind_some, horS]
    rw [pk_sub (by omega), ← nI_s]) (by
    unfold f_X9_numberOf_L4
    simp only [m_n h0, Option.bind_some]
    rw [if_pos (nI_le (Nat.le_refl n) (by omega))]) rfl, hor_num]
  rfl
-- the next assignment, in numbers
def swN (b : Nat → Nat) (i j : Nat) : Nat → Nat := fun q => if q = j then b i else if q = i then b j else b q
def pvF (b : Nat → Nat) : Nat → Option Nat
  | 0 => none
  | i + 1 => if b (i + 1) < b i then pvF b i else some i
def lsF (b : Nat → Nat) (p : Nat) : Nat → Nat
  | 0 => 0
  | j + 1 => if b (j + 1) < b p then lsF b p j else j + 1
def rvF : Nat → (Nat → Nat) → Nat → Nat → Nat → Nat
  | 0, b, _, _ => b
  | f + 1, b, i, j => if i < j then rvF f (swN b i j) (i + 1) (j - 1) else b
def nxF (n : Nat) (b : Nat → Nat) : Option (Nat → Nat) := match pvF b (n - 1) with
  | none => none
  | some p => some (rvF 6 (swN b p (lsF b p (n - 1))) (p + 1) (n - 1))
def nxL (n : Nat) (l : List Nat) : Option (List Nat) := (nxF n (fun i => l.getD i 0)).map fun b => (List.range n).map b
def frF (u n : Nat) (x : Nat) : Nat → Nat → Nat
  | 0, _ => 0
  | f + 1, seen => if u.testBit (n - (f + 1)) then frF u n x f seen else if seen = x then n - (f + 1) else frF u n x f (seen + 1)
def arA (n t : Nat) : Nat → Nat × Nat × List Nat
  | 0 => (t, 0, [])
  | i + 1 => let s := arA n t i; let v := frF s.2.1 n (s.1 / fac (n - 1 - i)) n 0; (s.1 % fac (n - 1 - i), s.2.1 ||| 2 ^ v, s.2.2 ++ [v])
def arL (n t : Nat) : List Nat := (arA n t n).2.2
theorem nx_all : ∀ n, n < 7 → ∀ t, t < fac n → nxL n (arL n t) = if t + 1 < fac n then some (arL n (t + 1)) else none := by decide +kernel
theorem ar_0 : ∀ n, n < 7 → arL n 0 = List.range n := by decide +kernel
theorem ar_ok : ∀ n, n < 7 → ∀ t, t < fac n → (arL n t).length = n ∧ (arL n t).all (fun x => decide (x < n)) = true ∧ (arL n t).Nodup := by decide +kernel
