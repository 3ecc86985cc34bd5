-- exchanges
def sw (a : Nat → Int32) (i j : Nat) : Nat → Int32 := fun q => if q = j then a i else if q = i then a j else a q
def swS (σ : Sg) (k i j : Nat) : Sg := si (si σ k i (σ k j)) k j (σ k i)
theorem swS_at (σ : Sg) (k i j q : Nat) : swS σ k i j k q = sw (σ k) i j q := by
  unfold swS sw
  rw [si_self, si_self]
  unfold upd
  grind
theorem swS_ne (σ : Sg) {k q : Nat} (i j : Nat) (h : q ≠ k) : swS σ k i j q = σ q := by
  unfold swS
  rw [si_ne _ _ _ h, si_ne _ _ _ h]
theorem vec_sw {σ : Sg} {k i j : Nat} (hi : i < 6) (hj : j < 6) : vec (swS σ k i j) k 0 = sw (vec σ k 0) i j := by
  funext q
  unfold vec
  rw [Nat.zero_add, swS_at]
  unfold sw
  grind
theorem swS_swS (σ : Sg) (k i j : Nat) : swS (swS σ k i j) k i j = σ := by
  funext q r
  by_cases h : q = k
  · subst h
    rw [swS_at]
    unfold sw
    rw [swS_at, swS_at, swS_at]
    unfold sw
    grind
  · rw [swS_ne _ _ _ h, swS_ne _ _ _ h]
theorem swap6 {σ : Sg} {k i j : Nat} (hk : ln k = 6) (hi : i < 6) (hj : j < 6) : f_X8_swap σ k (nI i) (nI j) = some (swS σ k i j) := swap_ok (by omega) (by omega) (by omega)
theorem m_swaps {σ : Sg} {i j : Nat} (hi : i < 6) (hj : j < 6) : f_X9_swaps σ 75 (nI i) (nI j) = some (swS σ 80 i j) := by
  unfold f_X9_swaps
  rw [m_p hi, m_p hj]
  simp only [Option.bind_some]
  rw [ast_ok (by rw [l80]; exact hi) (by rw [l80]; omega)]
  simp only [Option.bind_some]
  rw [ast_ok (by rw [l80]; exact hj) (by rw [l80]; omega)]
  simp only [Option.bind_some, vec_at hi, vec_at hj, Nat.zero_add]
  rfl
theorem sw_pt {n : Nat} {a : Nat → Int32} {i j : Nat} (hi : i < n) (hj : j < n) (h : Pt n a) : Pt n (sw a i j) := by
  intro q hq
  unfold sw
  split
  · exact h i hi
  · split
    · exact h j hj
    · exact h q hq
theorem sm_add (n : Nat) (f g : Nat → Int32) : sm n (fun i => f i + g i) = sm n f + sm n g := by
  induction n with
  | zero => rfl
  | succ n ih =>
    unfold sm
    rw [ih]
    grind
theorem sm_sub (n : Nat) (f g : Nat → Int32) : sm n (fun i => f i - g i) = sm n f - sm n g := by
  induction n with
  | zero => simp only [sm]; grind
  | succ n ih =>
    unfold sm
    rw [ih]
    grind
theorem sm_one {n i : Nat} (hi : i < n) (x : Int32) : sm n (fun q => if q = i then x else 0) = x := by
  induction n with
  | zero => omega
  | succ n ih =>
    simp only [sm]
    by_cases h : n = i
    · subst h
      rw [if_pos rfl, sm_0 (fun q hq => if_neg (by omega))]
      grind
    · rw [if_neg h, ih (by omega)]
      grind
theorem sm_two {n i j : Nat} (hi : i < n) (hj : j < n) (h : i ≠ j) (f : Nat → Int32) : sm n f = f i + f j + sm n (fun q => if q = i ∨ q = j then 0 else f q) := by
  have h1 : sm n f = sm n (fun q => (if q = i then f i else 0) + ((if q = j then f j else 0) + (if q = i ∨ q = j then 0 else f q))) := sm_cong fun q hq => by
    grind
  rw [h1, sm_add, sm_add, sm_one hi, sm_one hj]
  grind
def gterm (F D : Nat → Nat → Int32) (A : Nat → Nat) (i j l : Nat) : Int32 := (F i l - F j l) * (D (A i) (A l) - D (A j) (A l)) + (F l i - F l j) * (D (A l) (A i) - D (A l) (A j))
def gbase (F D C : Nat → Nat → Int32) (A : Nat → Nat) (i j : Nat) : Int32 := C i (A i) + C j (A j) - C i (A j) - C j (A i) + (F i i - F j j) * (D (A i) (A i) - D (A j) (A j)) + (F i j - F j i) * (D (A i) (A j) - D (A j) (A i))
theorem gain_alg {n i j : Nat} (F D C : Nat → Nat → Int32) (a : Nat → Int32) (hi : i < n) (hj : j < n) (h : i ≠ j) : costS n F D C a - costS n F D C (sw a i j) = gbase F D C (fun q => ix (a q)) i j + sm n (fun l => if l = i ∨ l = j then 0 else gterm F D (fun q => ix (a q)) i j l) := by
  have e1 : sw a i j i = a j := by unfold sw; grind
  have e2 : sw a i j j = a i := by unfold sw; grind
  have e3 : ∀ q, q ≠ i → q ≠ j → sw a i j q = a q := fun q h1 h2 => by unfold sw; grind
  unfold costS
  rw [sm_two hi hj h (fun i_1 => C i_1 (ix (a i_1)) + sm n fun j => F i_1 j * D (ix (a i_1)) (ix (a j))), sm_two hi hj h (fun i_1 => C i_1 (ix (sw a i j i_1)) + sm n fun j_1 => F i_1 j_1 * D (ix (sw a i j i_1)) (ix (sw a i j j_1)))]
  have key : ∀ r (b : Nat → Int32), (sm n fun c => F r c * D (ix (b r)) (ix (b c))) = F r i * D (ix (b r)) (ix (b i)) + F r j * D (ix (b r)) (ix (b j)) + sm n (fun c => if c = i ∨ c = j then 0 else F r c * D (ix (b r)) (ix (b c))) := fun r b => sm_two hi hj h _
  have k1 : ∀ r, (sm n fun c => F r c * D (ix (a r)) (ix (a c))) = F r i * D (ix (a r)) (ix (a i)) + F r j * D (ix (a r)) (ix (a j)) + sm n (fun c => if c = i ∨ c = j then 0 else F r c * D (ix (a r)) (ix (a c))) := fun r => key r a
  have k2 : ∀ r, (sm n fun c => F r c * D (ix (sw a i j r)) (ix (sw a i j c))) = F r i * D (ix (sw a i j r)) (ix (a j)) + F r j * D (ix (sw a i j r)) (ix (a i)) + sm n (fun c => if c = i ∨ c = j then 0 else F r c * D (ix (sw a i j r)) (ix (a c))) := fun r => by
    rw [key r (sw a i j), e1, e2]
    congr 1
    refine sm_cong fun c hc => ?_
    by_cases hcc : c = i ∨ c = j
    · rw [if_pos hcc, if_pos hcc]
    · rw [if_neg hcc, if_neg hcc, e3 c (fun q => hcc (Or.inl q)) (fun q => hcc (Or.inr q))]
  have o1 : sm n (fun q => if q = i ∨ q = j then 0 else C q (ix (a q)) + sm n fun c => F q c * D (ix (a q)) (ix (a c))) - sm n (fun q => if q = i ∨ q = j then 0 else C q (ix (sw a i j q)) + sm n fun c => F q c * D (ix (sw a i j q)) (ix (sw a i j c))) = sm n (fun q => if q = i ∨ q = j then 0 else F q i * D (ix (a q)) (ix (a i)) + F q j * D (ix (a q)) (ix (a j)) - F q i * D (ix (a q)) (ix (a j)) - F q j * D (ix (a q)) (ix (a i))) := by
    rw [← sm_sub]
    refine sm_cong fun q hq => ?_
    by_cases hqq : q = i ∨ q = j
    · rw [if_pos hqq, if_pos hqq, if_pos hqq]
      grind
    · rw [if_neg hqq, if_neg hqq, if_neg hqq, k1 q, k2 q, e3 q (fun z => hqq (Or.inl z)) (fun z => hqq (Or.inr z))]
      grind
  have o2 : sm n (fun l => if l = i ∨ l = j then 0 else gterm F D (fun q => ix (a q)) i j l) = sm n (fun q => if q = i ∨ q = j then 0 else F q i * D (ix (a q)) (ix (a i)) + F q j * D (ix (a q)) (ix (a j)) - F q i * D (ix (a q)) (ix (a j)) - F q j * D (ix (a q)) (ix (a i))) + (sm n (fun c => if c = i ∨ c = j then 0 else F i c * D (ix (a i)) (ix (a c))) + sm n (fun c => if c = i ∨ c = j then 0 else F j c * D (ix (a j)) (ix (a c))) - sm n (fun c => if c = i ∨ c = j then 0 else F i c * D (ix (a j)) (ix (a c))) - sm n (fun c => if c = i ∨ c = j then 0 else F j c * D (ix (a i)) (ix (a c)))) := by
    rw [← sm_add, ← sm_sub, ← sm_sub, ← sm_add]
    refine sm_cong fun q hq => ?_
    by_cases hqq : q = i ∨ q = j
    · simp only [if_pos hqq]
      grind
    · simp only [if_neg hqq]
      unfold gterm
      grind
  rw [o2]
  have k1i := k1 i
  have k1j := k1 j
  have k2i := k2 i
  have k2j := k2 j
  rw [e1] at k2i
  rw [e2] at k2j
  simp only [e1, e2]
  rw [k1i, k1j, k2i, k2j]
  unfold gbase
  grind

-- the gain, as the class and as the model say it
theorem gainOf6_ok {σ : Sg} {k n i j : Nat} (h0 : σ 1 0 = nI n) (hn : n ≤ 6) (hk : ln k = 6) (ha : Pt n (vec σ k 0)) (hi : i < n) (hj : j < n) : f_X6_gainOf σ 1 k (nI i) (nI j) = some (costS n (tb σ 2 0) (tb σ 3 0) (tb σ 4 0) (vec σ k 0) - costS n (tb σ 2 0) (tb σ 3 0) (tb σ 4 0) (sw (vec σ k 0) i j)) := by
  unfold f_X6_gainOf
  by_cases hij : i = j
  · subst hij
    rw [if_pos rfl]
    have : sw (vec σ k 0) i i = vec σ k 0 := by
      funext q
      unfold sw
      grind
    rw [this]
    grind
  · rw [if_neg (fun e => hij ((nI_eq (by omega) (by omega)).mp e)), gain_alg _ _ _ _ hi hj hij]
    obtain ⟨x, hx, ex⟩ := ha i hi
    obtain ⟨y, hy, ey⟩ := ha j hj
    have hxi : ix (vec σ k 0 i) = x := by rw [ex, ix_nI (by omega)]
    have hyi : ix (vec σ k 0 j) = y := by rw [ey, ix_nI (by omega)]
    rw [it6 hk (by omega), it6 hk (by omega), ex, ey]
    simp only [Option.bind_some]
    rw [at6 l1_4 (by omega) (by omega), at6 l1_4 (by omega) (by omega), at6 l1_4 (by omega) (by omega), at6 l1_4 (by omega) (by omega), at6 l1_2 (by omega) (by omega), at6 l1_2 (by omega) (by omega), at6 l1_3 (by omega) (by omega), at6 l1_3 (by omega) (by omega), at6 l1_2 (by omega) (by omega), at6 l1_2 (by omega) (by omega), at6 l1_3 (by omega) (by omega), at6 l1_3 (by omega) (by omega)]
    simp only [Option.bind_some]
    have hl := lo_run (f := f_X6_gainOf_L165 σ 1 (nI i) (nI j) k (nI x) (nI y)) (fun m => (gbase (tb σ 2 0) (tb σ 3 0) (tb σ 4 0) (fun q => ix (vec σ k 0 q)) i j + sm m (fun l => if l = i ∨ l = j then 0 else gterm (tb σ 2 0) (tb σ 3 0) (fun q => ix (vec σ k 0 q)) i j l), nI m)) (n := n) (e := gbase (tb σ 2 0) (tb σ 3 0) (tb σ 4 0) (fun q => ix (vec σ k 0 q)) i j + sm n (fun l => if l = i ∨ l = j then 0 else gterm (tb σ 2 0) (tb σ 3 0) (fun q => ix (vec σ k 0 q)) i j l)) (s := (gbase (tb σ 2 0) (tb σ 3 0) (tb σ 4 0) (fun q => ix (vec σ k 0 q)) i j, 0)) (fun m hm => ?_) ?_ (by simp [sm, nI_0])
    · unfold gbase at hl ⊢
      simp only [hxi, hyi] at hl ⊢
      rw [hl]
      rfl
    · unfold f_X6_gainOf_L165
      simp only [h0]
      rw [if_neg (nI_ge hm (by omega))]
      by_cases hmi : m = i
      · subst hmi
        rw [if_pos rfl]
        simp only [f_X6_gainOf_J294, sm, true_or, if_true, nI_s, Int32.add_zero]
      · rw [if_neg (fun e => hmi ((nI_eq (by omega) (by omega)).mp e))]
        by_cases hmj : m = j
        · subst hmj
          rw [if_pos rfl]
          simp only [f_X6_gainOf_J294, sm, or_true, if_true, nI_s, Int32.add_zero]
        · rw [if_neg (fun e => hmj ((nI_eq (by omega) (by omega)).mp e))]
          obtain ⟨z, hz, ez⟩ := ha m hm
          have hzi : ix (vec σ k 0 m) = z := by rw [ez, ix_nI (by omega)]
          rw [it6 hk (by omega), ez]
          simp only [Option.bind_some]
          rw [at6 l1_2 (by omega) (by omega), at6 l1_2 (by omega) (by omega), at6 l1_3 (by omega) (by omega), at6 l1_3 (by omega) (by omega), at6 l1_2 (by omega) (by omega), at6 l1_2 (by omega) (by omega), at6 l1_3 (by omega) (by omega), at6 l1_3 (by omega) (by omega)]
          simp only [Option.bind_some, f_X6_gainOf_J294, sm, nI_s]
          rw [if_neg (show ¬ (m = i ∨ m = j) by omega)]
          unfold gterm
          simp only [hxi, hyi, hzi, Int32.add_assoc]
    · unfold f_X6_gainOf_L165
      simp only [h0]
      rw [if_pos (nI_le (Nat.le_refl n) (by omega))]
theorem m_gainOf {σ : Sg} {n i j : Nat} (h0 : σ 76 0 = nI n) (hn : n ≤ 6) (ha : Pt n (vec σ 80 0)) (hi : i < n) (hj : j < n) : f_X9_gainOf σ 75 (nI i) (nI j) = some (costS n (tb σ 76 1) (tb σ 76 37) (tb σ 76 73) (vec σ 80 0) - costS n (tb σ 76 1) (tb σ 76 37) (tb σ 76 73) (sw (vec σ 80 0) i j), σ) := by
  unfold f_X9_gainOf
  rw [m_costOf h0 hn ha]
  simp only [Option.bind_some]
  rw [m_swaps (by omega) (by omega)]
  simp only [Option.bind_some]
  have h76 : swS σ 80 i j 76 = σ 76 := swS_ne _ _ _ (by omega)
  have hv : vec (swS σ 80 i j) 80 0 = sw (vec σ 80 0) i j := vec_sw (by omega) (by omega)
  rw [m_costOf (by rw [h76]; exact h0) hn (by rw [hv]; exact sw_pt hi hj ha)]
  simp only [Option.bind_some]
  rw [m_swaps (by omega) (by omega)]
  simp only [Option.bind_some]
  rw [swS_swS, hv]
  have t1 : tb (swS σ 80 i j) 76 1 = tb σ 76 1 := by unfold tb; rw [h76]
  have t2 : tb (swS σ 80 i j) 76 37 = tb σ 76 37 := by unfold tb; rw [h76]
  have t3 : tb (swS σ 80 i j) 76 73 = tb σ 76 73 := by unfold tb; rw [h76]
  rw [t1, t2, t3]
