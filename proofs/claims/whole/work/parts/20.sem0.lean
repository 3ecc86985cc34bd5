-- tools for the functions
theorem lo_run {S E : Type} {f : S → Option (S ⊕ E)} (st : Nat → S) {n : Nat} {e : E} (hs : ∀ i, i < n → f (st i) = some (.inl (st (i + 1)))) (he : f (st n) = some (.inr e)) {s : S} (h0 : s = st 0) : lo f s = some e := by
  subst h0
  have key : ∀ m, m ≤ n → lo f (st (n - m)) = some e := by
    intro m
    induction m with
    | zero => intro _; exact lo_inr he
    | succ m ih =>
      intro hm
      rw [lo_inl (hs (n - (m + 1)) (by omega)), show n - (m + 1) + 1 = n - m by omega]
      exact ih (by omega)
  have := key n (Nat.le_refl n)
  rwa [Nat.sub_self] at this
def sm : Nat → (Nat → Int32) → Int32
  | 0, _ => 0
  | n + 1, f => sm n f + f n
theorem sm_cong {n : Nat} {f g : Nat → Int32} (h : ∀ i, i < n → f i = g i) : sm n f = sm n g := by
  induction n with
  | zero => rfl
  | succ n ih =>
    unfold sm
    rw [ih (fun i hi => h i (by omega)), h n (by omega)]
theorem sm_0 {n : Nat} {f : Nat → Int32} (h : ∀ i, i < n → f i = 0) : sm n f = 0 := by
  induction n with
  | zero => rfl
  | succ n ih =>
    unfold sm
    rw [ih (fun i hi => h i (by omega)), h n (by omega)]
    rfl
theorem nI_s (i : Nat) : nI i + 1 = nI (i + 1) := nI_1 i
theorem nI_z : (0 : Int32) = nI 0 := nI_0.symm
theorem nI_in' {j n : Nat} (h : j < n) (hn : n ≤ 12000) : ¬ (nI j < 0 ∨ n ≤ (nI j).toNatClampNeg) := nI_in h (by omega)
theorem ald_ok {σ : Sg} {k j : Nat} (h : j < ln k) (hk : ln k ≤ 12000) : ald σ k (nI j) = some (σ k j) := by
  unfold ald
  rw [if_neg (nI_in' h hk), nI_clamp (by omega)]
theorem ast_ok {σ : Sg} {k j : Nat} {x : Int32} (h : j < ln k) (hk : ln k ≤ 12000) : ast σ k (nI j) x = some (si σ k j x) := by
  unfold ast
  rw [if_neg (nI_in' h hk), nI_clamp (by omega)]
theorem item_ok {σ : Sg} {k j : Nat} (h : j < ln k) (hk : ln k ≤ 12000) : f_X8_item σ k (nI j) = some (σ k j) := by
  unfold f_X8_item
  have h1 : ¬ Int32.ofNat (ln k) ≤ nI j := nI_ge h (by omega)
  rw [if_neg (nI_pos (by omega)), if_neg h1, ald_ok h hk]
  rfl
theorem item_neg {σ : Sg} {k : Nat} {i : Int32} (h : i < 0) : f_X8_item σ k i = some 0 := by
  unfold f_X8_item
  rw [if_pos h]
theorem setItem_ok {σ : Sg} {k j : Nat} {x : Int32} (h : j < ln k) (hk : ln k ≤ 12000) : f_X8_setItem σ k (nI j) x = some (si σ k j x) := by
  unfold f_X8_setItem
  have h1 : ¬ Int32.ofNat (ln k) ≤ nI j := nI_ge h (by omega)
  rw [if_neg (nI_pos (by omega)), if_neg h1, ast_ok h hk]
  rfl
theorem ix_at (i j : Nat) : nI i * (6 : Int32) + nI j = nI (6 * i + j) := by
  have : nI i * (6 : Int32) = nI (i * 6) := pk_mul i 6
  rw [this, nI_add, Nat.mul_comm]
theorem at_ok {σ : Sg} {k i j : Nat} (h : 6 * i + j < ln k) (hk : ln k ≤ 12000) : f_X8_at σ k (nI i) (nI j) = some (σ k (6 * i + j)) := by
  unfold f_X8_at
  have h1 : ¬ Int32.ofNat (ln k) ≤ nI (6 * i + j) := nI_ge h (by omega)
  rw [ix_at, if_neg (nI_pos (by omega)), if_neg h1, ald_ok h hk]
  rfl
theorem put_ok {σ : Sg} {k i j : Nat} {x : Int32} (h : 6 * i + j < ln k) (hk : ln k ≤ 12000) : f_X8_put σ k (nI i) (nI j) x = some (si σ k (6 * i + j) x) := by
  unfold f_X8_put
  have h1 : ¬ Int32.ofNat (ln k) ≤ nI (6 * i + j) := nI_ge h (by omega)
  rw [ix_at, if_neg (nI_pos (by omega)), if_neg h1, ast_ok h hk]
  rfl
theorem swap_ok {σ : Sg} {k i j : Nat} (hi : i < ln k) (hj : j < ln k) (hk : ln k ≤ 12000) : f_X8_swap σ k (nI i) (nI j) = some (si (si σ k i (σ k j)) k j (σ k i)) := by
  unfold f_X8_swap
  rw [item_ok hi hk, item_ok hj hk]
  simp only [Option.bind_some]
  rw [setItem_ok hi hk]
  simp only [Option.bind_some]
  rw [setItem_ok hj hk]
  rfl
theorem has_key : ∀ s, s < 64 → ∀ m, m < 6 → (((nI s >>> (nI m &&& 31)) &&& (1 : Int32)) = 1 ↔ s.testBit m = true) := by decide +kernel
theorem has_ok {s m : Nat} (hs : s < 64) (hm : m < 6) : f_X8_has (nI s) (nI m) = some (if s.testBit m = true then 1 else 0) := by
  unfold f_X8_has
  by_cases h : s.testBit m = true
  · rw [if_pos ((has_key s hs m hm).mpr h), if_pos h]
  · rw [if_neg (fun q => h ((has_key s hs m hm).mp q)), if_neg h]
-- loops, with an invariant
theorem lo_tc {S E : Type} {f : S → Option (S ⊕ E)} (I : Nat → S → Prop) (n : Nat) (J : E → Prop) (hs : ∀ i s, i < n → I i s → ∃ s', f s = some (.inl s') ∧ I (i + 1) s') (he : ∀ s, I n s → ∃ e, f s = some (.inr e) ∧ J e) {s : S} (h0 : I 0 s) : ∃ e, lo f s = some e ∧ J e := by
  have key : ∀ m, m ≤ n → ∀ s, I (n - m) s → ∃ e, lo f s = some e ∧ J e := by
    intro m
    induction m with
    | zero =>
      intro _ s h
      obtain ⟨e, h1, h2⟩ := he s h
      exact ⟨e, lo_inr h1, h2⟩
    | succ m ih =>
      intro hm s h
      obtain ⟨s', h1, h2⟩ := hs _ s (by omega) h
      rw [lo_inl h1]
      exact ih (by omega) s' (by rw [show n - m = n - (m + 1) + 1 by omega]; exact h2)
  exact key n (Nat.le_refl n) s (by rw [Nat.sub_self]; exact h0)
theorem lo_tx {S E : Type} {f : S → Option (S ⊕ E)} (I : Nat → S → Prop) (n : Nat) (J : E → Prop) (hs : ∀ i s, i < n → I i s → (∃ s', f s = some (.inl s') ∧ I (i + 1) s') ∨ (∃ e, f s = some (.inr e) ∧ J e)) (he : ∀ s, I n s → ∃ e, f s = some (.inr e) ∧ J e) {s : S} (h0 : I 0 s) : ∃ e, lo f s = some e ∧ J e := by
  have key : ∀ m, m ≤ n → ∀ s, I (n - m) s → ∃ e, lo f s = some e ∧ J e := by
    intro m
    induction m with
    | zero =>
      intro _ s h
      obtain ⟨e, h1, h2⟩ := he s h
      exact ⟨e, lo_inr h1, h2⟩
    | succ m ih =>
      intro hm s h
      rcases hs _ s (by omega) h with ⟨s', h1, h2⟩ | ⟨e, h1, h2⟩
      · rw [lo_inl h1]
        exact ih (by omega) s' (by rw [show n - m = n - (m + 1) + 1 by omega]; exact h2)
      · exact ⟨e, lo_inr h1, h2⟩
  exact key n (Nat.le_refl n) s (by rw [Nat.sub_self]; exact h0)
theorem lo_mu {S E : Type} {f : S → Option (S ⊕ E)} (I : S → Prop) (μ : S → Nat) (J : E → Prop) (hs : ∀ s, I s → (∃ s', f s = some (.inl s') ∧ I s' ∧ μ s' < μ s) ∨ (∃ e, f s = some (.inr e) ∧ J e)) {s : S} (h0 : I s) : ∃ e, lo f s = some e ∧ J e := by
  have key : ∀ m s, μ s ≤ m → I s → ∃ e, lo f s = some e ∧ J e := by
    intro m
    induction m with
    | zero =>
      intro s hm h
      rcases hs s h with ⟨s', h1, h2, h3⟩ | ⟨e, h1, h2⟩
      · omega
      · exact ⟨e, lo_inr h1, h2⟩
    | succ m ih =>
      intro s hm h
      rcases hs s h with ⟨s', h1, h2, h3⟩ | ⟨e, h1, h2⟩
      · rw [lo_inl h1]
        exact ih s' (by omega) h2
      · exact ⟨e, lo_inr h1, h2⟩
  exact key _ s (Nat.le_refl _) h0
-- the views
def tb (σ : Sg) (k o : Nat) : Nat → Nat → Int32 := fun i j => if i < 6 ∧ j < 6 then σ k (o + 6 * i + j) else 0
def vec (σ : Sg) (k o : Nat) : Nat → Int32 := fun i => if i < 6 then σ k (o + i) else 0
theorem tb_at {σ : Sg} {k o i j : Nat} (hi : i < 6) (hj : j < 6) : tb σ k o i j = σ k (o + 6 * i + j) := by
  unfold tb
  rw [if_pos ⟨hi, hj⟩]
theorem vec_at {σ : Sg} {k o i : Nat} (hi : i < 6) : vec σ k o i = σ k (o + i) := by
  unfold vec
  rw [if_pos hi]
theorem tb_in {σ : Sg} {k o i j : Nat} (hi : i < 6) (hj : j < 6) : σ k (o + 6 * i + j) = tb σ k o i j := by
  unfold tb
  rw [if_pos ⟨hi, hj⟩]
theorem tb_in0 {σ : Sg} {k i j : Nat} (hi : i < 6) (hj : j < 6) : σ k (6 * i + j) = tb σ k 0 i j := by
  unfold tb
  rw [if_pos ⟨hi, hj⟩, Nat.zero_add]
theorem vec_in {σ : Sg} {k o i : Nat} (hi : i < 6) : σ k (o + i) = vec σ k o i := by
  unfold vec
  rw [if_pos hi]
theorem vec_in0 {σ : Sg} {k i : Nat} (hi : i < 6) : σ k i = vec σ k 0 i := by
  unfold vec
  rw [if_pos hi, Nat.zero_add]
theorem at6 {σ : Sg} {k i j : Nat} (hk : ln k = 36) (hi : i < 6) (hj : j < 6) : f_X8_at σ k (nI i) (nI j) = some (tb σ k 0 i j) := by
  rw [at_ok (by omega) (by omega), tb_at hi hj, Nat.zero_add]
theorem it6 {σ : Sg} {k i : Nat} (hk : ln k = 6) (hi : i < 6) : f_X8_item σ k (nI i) = some (vec σ k 0 i) := by
  rw [item_ok (by omega) (by omega), ← vec_in0 hi]
theorem l1_2 : ln (1 + 1) = 36 := by decide +kernel
theorem l1_3 : ln (1 + 2) = 36 := by decide +kernel
theorem l1_4 : ln (1 + 3) = 36 := by decide +kernel
theorem l1_5 : ln (1 + 4) = 6 := by decide +kernel
theorem l1_6 : ln (1 + 5) = 6 := by decide +kernel
theorem l5 : ln 5 = 6 := by decide +kernel
theorem l6 : ln 6 = 6 := by decide +kernel
theorem l47 : ln 47 = 6 := by decide +kernel
theorem l76 : ln (75 + 1) = 121 := by decide +kernel
theorem l80 : ln (75 + 5) = 6 := by decide +kernel
theorem l81 : ln (75 + 6) = 6 := by decide +kernel
def ix (x : Int32) : Nat := x.toNatClampNeg
theorem ix_nI {l : Nat} (h : l < 6) : ix (nI l) = l := nI_clamp (by omega)
def Pr (n : Nat) (a : Nat → Int32) : Prop := ∀ i, i < n → a i = -1 ∨ ∃ l, l < n ∧ a i = nI l
def Pt (n : Nat) (a : Nat → Int32) : Prop := ∀ i, i < n → ∃ l, l < n ∧ a i = nI l
theorem nI_m1 {l : Nat} (h : l < 12000) : ¬ nI l = -1 := by
  intro e
  have h1 := nI_toInt (n := l) (by omega)
  rw [e] at h1
  have h2 : (-1 : Int32).toInt = -1 := by decide
  omega
-- the model's numbers
theorem m_s {σ : Sg} {j : Nat} (h : j < 121) : ald σ (75 + 1) (nI j) = some (σ 76 j) := ald_ok (by rw [l76]; exact h) (by rw [l76]; omega)
theorem m_n {σ : Sg} {n : Nat} (h : σ 76 0 = nI n) : ald σ (75 + 1) (0 : Int32) = some (nI n) := by
  have := m_s (σ := σ) (j := 0) (by omega)
  rw [h] at this
  exact this
theorem m_placeOf (w a b : Nat) : f_X9_placeOf (nI w) (nI a) (nI b) = some (nI (1 + 36 * w + 6 * a + b)) := by
  unfold f_X9_placeOf
  have e1 : (1 : Int32) + (36 : Int32) * nI w = nI (1 + 36 * w) := by
    rw [← nI_add, ← pk_mul]
    rfl
  have e2 : (6 : Int32) * nI a = nI (6 * a) := by
    rw [← pk_mul]
    rfl
  rw [e1, e2, nI_add, nI_add]
theorem m_flow {σ : Sg} {i j : Nat} (hi : i < 6) (hj : j < 6) : f_X9_flow σ 75 (nI i) (nI j) = some (tb σ 76 1 i j) := by
  unfold f_X9_flow
  rw [show (0 : Int32) = nI 0 from rfl, m_placeOf]
  simp only [Option.bind_some]
  rw [m_s (by omega)]
  simp only [Option.bind_some]
  rw [show 1 + 36 * 0 + 6 * i + j = 1 + 6 * i + j by omega, tb_at hi hj]
theorem m_far {σ : Sg} {i j : Nat} (hi : i < 6) (hj : j < 6) : f_X9_far σ 75 (nI i) (nI j) = some (tb σ 76 37 i j) := by
  unfold f_X9_far
  rw [show (1 : Int32) = nI 1 from rfl, m_placeOf]
  simp only [Option.bind_some]
  rw [m_s (by omega)]
  simp only [Option.bind_some]
  rw [show 1 + 36 * 1 + 6 * i + j = 37 + 6 * i + j by omega, tb_at hi hj]
theorem m_price {σ : Sg} {i j : Nat} (hi : i < 6) (hj : j < 6) : f_X9_price σ 75 (nI i) (nI j) = some (tb σ 76 73 i j) := by
  unfold f_X9_price
  rw [show (2 : Int32) = nI 2 from rfl, m_placeOf]
  simp only [Option.bind_some]
  rw [m_s (by omega)]
  simp only [Option.bind_some]
  rw [show 1 + 36 * 2 + 6 * i + j = 73 + 6 * i + j by omega, tb_at hi hj]
theorem m_p {σ : Sg} {j : Nat} (h : j < 6) : ald σ (75 + 5) (nI j) = some (vec σ 80 0 j) := by
  rw [ald_ok (by rw [l80]; exact h) (by rw [l80]; omega), ← vec_in0 h]
theorem m_w {σ : Sg} {j : Nat} (h : j < 6) : ald σ (75 + 6) (nI j) = some (vec σ 81 0 j) := by
  rw [ald_ok (by rw [l81]; exact h) (by rw [l81]; omega), ← vec_in0 h]
theorem m_P {σ : Sg} {j : Nat} (h : j < 6) : ald σ (75 + 1) ((109 : Int32) + nI j) = some (vec σ 76 109 j) := by
  rw [show (109 : Int32) = nI 109 from rfl, nI_add, m_s (by omega), vec_at h]
theorem m_X {σ : Sg} {j : Nat} (h : j < 6) : ald σ (75 + 1) ((115 : Int32) + nI j) = some (vec σ 76 115 j) := by
  rw [show (115 : Int32) = nI 115 from rfl, nI_add, m_s (by omega), vec_at h]
-- the cost of a part
def partS (n : Nat) (F D C : Nat → Nat → Int32) (a : Nat → Int32) : Int32 := sm n fun i => if a i = -1 then 0 else C i (ix (a i)) + sm n fun j => if a j = -1 then 0 else F i j * D (ix (a i)) (ix (a j))
def costS (n : Nat) (F D C : Nat → Nat → Int32) (a : Nat → Int32) : Int32 := sm n fun i => C i (ix (a i)) + sm n fun j => F i j * D (ix (a i)) (ix (a j))
theorem Pt.pr {n : Nat} {a : Nat → Int32} (h : Pt n a) : Pr n a := fun i hi => Or.inr (h i hi)
theorem part_cost {n : Nat} {F D C : Nat → Nat → Int32} {a : Nat → Int32} (hn : n ≤ 6) (h : Pt n a) : partS n F D C a = costS n F D C a := by
  have h1 : ∀ i, i < n → ¬ a i = -1 := fun i hi => by
    obtain ⟨l, hl, e⟩ := h i hi
    rw [e]
    exact nI_m1 (by omega)
  refine sm_cong fun i hi => ?_
  rw [if_neg (h1 i hi)]
  congr 1
  refine sm_cong fun j hj => ?_
  rw [if_neg (h1 j hj)]
theorem partCost_ok {σ : Sg} {k n : Nat} (h0 : σ 1 0 = nI n) (hn : n ≤ 6) (hk : ln k = 6) (ha : Pr n (vec σ k 0)) : f_X6_partCost σ 1 k = some (partS n (tb σ 2 0) (tb σ 3 0) (tb σ 4 0) (vec σ k 0)) := by
  unfold f_X6_partCost
  have inner : ∀ (i l : Nat) (acc b : Int32), i < n → l < n → lo (f_X6_partCost_L44 σ 1 k (acc, nI i) (nI l)) (b, 0) = some (b + sm n fun j => if vec σ k 0 j = -1 then 0 else tb σ 2 0 i j * tb σ 3 0 l (ix (vec σ k 0 j))) := by
    intro i l acc b hi hl
    refine lo_run (fun j => (b + sm j fun j => if vec σ k 0 j = -1 then 0 else tb σ 2 0 i j * tb σ 3 0 l (ix (vec σ k 0 j)), nI j)) (n := n) (fun j hj => ?_) ?_ (by simp [sm, nI_0])
    · unfold f_X6_partCost_L44
      simp only [h0]
      rw [if_neg (nI_ge hj (by omega)), it6 hk (by omega)]
      simp only [Option.bind_some]
      by_cases hm : vec σ k 0 j = -1
      · rw [if_pos hm]
        simp only [f_X6_partCost_J92, sm, if_pos hm, nI_s, Int32.add_zero]
      · rw [if_neg hm]
        obtain ⟨x, hx, ex⟩ := (ha j hj).resolve_left hm
        rw [ex, at6 l1_2 (by omega) (by omega), at6 l1_3 (by omega) (by omega)]
        simp only [Option.bind_some, f_X6_partCost_J92, sm, if_neg hm, nI_s, ex, ix_nI (show x < 6 by omega)]
        rw [if_neg (nI_m1 (by omega)), Int32.add_assoc]
    · unfold f_X6_partCost_L44
      simp only [h0]
      rw [if_pos (nI_le (Nat.le_refl n) (by omega))]
  have outer : lo (f_X6_partCost_L4 σ 1 k) (0, 0) = some (partS n (tb σ 2 0) (tb σ 3 0) (tb σ 4 0) (vec σ k 0)) := by
    refine lo_run (fun i => (sm i fun i => if vec σ k 0 i = -1 then 0 else tb σ 4 0 i (ix (vec σ k 0 i)) + sm n fun j => if vec σ k 0 j = -1 then 0 else tb σ 2 0 i j * tb σ 3 0 (ix (vec σ k 0 i)) (ix (vec σ k 0 j)), nI i)) (n := n) (fun i hi => ?_) ?_ (by simp [sm, nI_0])
    · unfold f_X6_partCost_L4
      simp only [h0]
      rw [if_neg (nI_ge hi (by omega)), it6 hk (by omega)]
      simp only [Option.bind_some]
      by_cases hm : vec σ k 0 i = -1
      · rw [if_pos hm]
        simp only [f_X6_partCost_J98, sm, if_pos hm, nI_s, Int32.add_zero]
      · rw [if_neg hm]
        obtain ⟨x, hx, ex⟩ := (ha i hi).resolve_left hm
        rw [ex, at6 l1_4 (by omega) (by omega)]
        simp only [Option.bind_some]
        rw [inner i x _ _ hi hx]
        simp only [Option.bind_some, f_X6_partCost_J98, sm, nI_s, ex, ix_nI (show x < 6 by omega)]
        rw [if_neg (nI_m1 (by omega)), Int32.add_assoc]
    · unfold f_X6_partCost_L4
      simp only [h0]
      rw [if_pos (nI_le (Nat.le_refl n) (by omega))]
      rfl
  rw [outer]
  rfl
theorem costOf6_ok {σ : Sg} {k n : Nat} (h0 : σ 1 0 = nI n) (hn : n ≤ 6) (hk : ln k = 6) (ha : Pt n (vec σ k 0)) : f_X6_costOf σ 1 k = some (costS n (tb σ 2 0) (tb σ 3 0) (tb σ 4 0) (vec σ k 0)) := by
  unfold f_X6_costOf
  rw [partCost_ok h0 hn hk ha.pr, part_cost hn ha]
  rfl
theorem m_costOf {σ : Sg} {n : Nat} (h0 : σ 76 0 = nI n) (hn : n ≤ 6) (ha : Pt n (vec σ 80 0)) : f_X9_costOf σ 75 = some (costS n (tb σ 76 1) (tb σ 76 37) (tb σ 76 73) (vec σ 80 0)) := by
  unfold f_X9_costOf
  have inner : ∀ (i : Nat) (acc b : Int32), i < n → lo (f_X9_costOf_L30 σ 75 (acc, nI i)) (b, 0) = some (b + sm n fun j => tb σ 76 1 i j * tb σ 76 37 (ix (vec σ 80 0 i)) (ix (vec σ 80 0 j))) := by
    intro i acc b hi
    refine lo_run (fun j => (b + sm j fun j => tb σ 76 1 i j * tb σ 76 37 (ix (vec σ 80 0 i)) (ix (vec σ 80 0 j)), nI j)) (n := n) (fun j hj => ?_) ?_ (by simp [sm, nI_0])
    · unfold f_X9_costOf_L30
      simp only [m_n h0, Option.bind_some]
      rw [if_neg (nI_ge hj (by omega)), m_flow (by omega) (by omega), m_p (by omega), m_p (by omega)]
      obtain ⟨x, hx, ex⟩ := ha i hi
      obtain ⟨y, hy, ey⟩ := ha j hj
      simp only [Option.bind_some, ex, ey]
      rw [m_far (by omega) (by omega)]
      simp only [Option.bind_some, sm, nI_s, ex, ey, ix_nI (show x < 6 by omega), ix_nI (show y < 6 by omega), Int32.add_assoc]
    · unfold f_X9_costOf_L30
      simp only [m_n h0, Option.bind_some]
      rw [if_pos (nI_le (Nat.le_refl n) (by omega))]
  have outer : lo (f_X9_costOf_L4 σ 75) (0, 0) = some (costS n (tb σ 76 1) (tb σ 76 37) (tb σ 76 73) (vec σ 80 0)) := by
    refine lo_run (fun i => (sm i fun i => tb σ 76 73 i (ix (vec σ 80 0 i)) + sm n fun j => tb σ 76 1 i j * tb σ 76 37 (ix (vec σ 80 0 i)) (ix (vec σ 80 0 j)), nI i)) (n := n) (fun i hi => ?_) ?_ (by simp [sm, nI_0])
    · unfold f_X9_costOf_L4
      simp only [m_n h0, Option.bind_some]
      rw [if_neg (nI_ge hi (by omega)), m_p (by omega)]
      obtain ⟨x, hx, ex⟩ := ha i hi
      simp only [Option.bind_some, ex]
      rw [m_price (by omega) (by omega)]
      simp only [Option.bind_some]
      rw [inner i _ _ hi]
      simp only [Option.bind_some, sm, nI_s, ex, ix_nI (show x < 6 by omega), Int32.add_assoc]
    · unfold f_X9_costOf_L4
      simp only [m_n h0, Option.bind_some]
      rw [if_pos (nI_le (Nat.le_refl n) (by omega))]
      rfl
  rw [outer]
  rfl
