-- the checksum
def mx1 (h : Int64) (v : Int32) : Int64 := (31 : Int64) * h + Int32.toInt64 v
def mxL (h : Int64) (g : Nat → Int32) : Nat → Int64
  | 0 => h
  | N + 1 => mx1 (mxL h g N) (g N)
theorem mxL_cong {h : Int64} {g g' : Nat → Int32} : ∀ N, (∀ i, i < N → g i = g' i) → mxL h g N = mxL h g' N
  | 0, _ => rfl
  | N + 1, e => by
    show mx1 (mxL h g N) (g N) = mx1 (mxL h g' N) (g' N)
    rw [mxL_cong N (fun i hi => e i (by omega)), e N (by omega)]
theorem mxL_add {h : Int64} {g : Nat → Int32} {N : Nat} : ∀ M, mxL (mxL h g N) (fun j => g (N + j)) M = mxL h g (N + M)
  | 0 => rfl
  | M + 1 => by
    show mx1 (mxL (mxL h g N) (fun j => g (N + j)) M) (g (N + M)) = mx1 (mxL h g (N + M)) (g (N + M))
    rw [mxL_add M]
theorem c_mix (h : Int64) (v : Int32) : f_X8_mix h v = some (mx1 h v) := rfl
theorem c_mixRow {σ : Sg} {h : Int64} {k n : Nat} {g : Nat → Int32} (hn : n ≤ 6) (hk : ln k = 6) (hg : ∀ i, i < n → σ k i = g i) : f_X8_mixRow σ h k (nI n) = some (mxL h g n) := by
  unfold f_X8_mixRow
  rw [lo_run (f := f_X8_mixRow_L6 (nI n) σ k) (fun i => (mxL h g i, nI i)) (n := n) (e := mxL h g n) (fun i hi => by
    unfold f_X8_mixRow_L6
    dsimp only
    rw [if_neg (nI_ge hi (by omega)), item_ok (by omega) (ln_le _)]
    simp only [obs]
    rw [hg i hi, c_mix]
    simp only [obs]
    rw [nI_s]
    rfl) (by
    unfold f_X8_mixRow_L6
    dsimp only
    rw [if_pos (nI_le (Nat.le_refl n) (by omega))]) (by rw [zl_0]; rfl)]
  rfl
def tf (n : Nat) (F : Nat → Nat → Int32) : Nat → Int32 := fun t => F (t / n) (t % n)
theorem c_mixTable {σ : Sg} {h : Int64} {k n : Nat} {F : Nat → Nat → Int32} (h0 : σ 1 0 = nI n) (h1 : 1 ≤ n) (hn : n ≤ 6) (hk : ln k = 36) (hF : ∀ i j, i < n → j < n → σ k (6 * i + j) = F i j) : f_X8_mixTable σ 0 h k = some (mxL h (tf n F) (n * n)) := by
  unfold f_X8_mixTable
  rw [lo_run (f := f_X8_mixTable_L6 σ 0 k) (fun i => (mxL h (tf n F) (i * n), nI i)) (n := n) (e := mxL h (tf n F) (n * n)) (fun i hi => by
    unfold f_X8_mixTable_L6
    dsimp only
    rw [show 0 + 1 = 1 from rfl, if_neg (show ¬ σ 1 0 ≤ nI i by rw [h0]; exact nI_ge hi (by omega)), lo_run (f := f_X8_mixTable_L21 σ 0 k (mxL h (tf n F) (i * n), nI i)) (fun j => (mxL (mxL h (tf n F) (i * n)) (fun j => tf n F (i * n + j)) j, nI j)) (n := n) (e := mxL (mxL h (tf n F) (i * n)) (fun j => tf n F (i * n + j)) n) (fun j hj => by
      unfold f_X8_mixTable_L21
      dsimp only
      rw [show 0 + 1 = 1 from rfl, if_neg (show ¬ σ 1 0 ≤ nI j by rw [h0]; exact nI_ge hj (by omega)), at_ok (by omega) (ln_le _)]
      simp only [obs]
      have e : tf n F (i * n + j) = F i j := by
        unfold tf
        rw [Nat.mul_comm, Nat.mul_add_div (by omega), Nat.div_eq_of_lt hj, Nat.mul_add_mod, Nat.mod_eq_of_lt hj, Nat.add_zero]
      rw [hF i j hi hj, c_mix, ← e]
      simp only [obs]
      rw [nI_s]
      rfl) (by
      unfold f_X8_mixTable_L21
      dsimp only
      rw [show 0 + 1 = 1 from rfl, if_pos (show σ 1 0 ≤ nI n by rw [h0]; exact nI_le (Nat.le_refl n) (by omega))]) (by rw [zl_0]; rfl)]
    simp only [obs]
    rw [mxL_add, nI_s, Nat.add_mul, Nat.one_mul]) (by
    unfold f_X8_mixTable_L6
    dsimp only
    rw [show 0 + 1 = 1 from rfl, if_pos (show σ 1 0 ≤ nI n by rw [h0]; exact nI_le (Nat.le_refl n) (by omega))]) (by rw [Nat.zero_mul, zl_0]; rfl)]
  rfl
theorem sl_sl {τ : Tg} {k j : Nat} {x y : Int64} : sl (sl τ k j x) k j y = sl τ k j y := by
  funext q i
  by_cases c : q = k
  · subst c
    by_cases e : i = j
    · rw [e, sl_hit, sl_hit]
    · rw [sl_miss e, sl_miss e, sl_miss e]
  · rw [sl_ne _ _ _ c, sl_ne _ _ _ c, sl_ne _ _ _ c]
theorem m_mix {τ : Tg} {x : Int64} {v : Int32} : f_X9_mix (sl τ 75 27 x) 75 v = some (sl τ 75 27 (mx1 x v)) := by
  unfold f_X9_mix
  rw [sl_hit, sl_sl]
  rfl
theorem m_mixT {σ : Sg} {τ : Tg} {n w : Nat} {x : Int64} {s : Nat → Int32} (hs : EqS (σ 76) s) (hg : Gd n s) (hw : w < 3) : lo (f_X9_checksum_L31 σ 75 (nI w, sl τ 75 27 x)) ((0 : Int32), sl τ 75 27 x) = some (sl τ 75 27 (mxL x (tf n (tS s (1 + 36 * w))) (n * n))) := by
  have h1 := hg.1
  have hn := hg.2.1
  have h0 : σ 76 0 = nI n := by rw [hs 0 (by omega), hg.2.2.1]
  have hnn : n * n ≤ 6 * 6 := Nat.mul_le_mul hn hn
  refine lo_run (fun t => (nI t, sl τ 75 27 (mxL x (tf n (tS s (1 + 36 * w))) t))) (n := n * n) (fun t ht => ?_) ?_ (by rw [zl_0]; rfl)
  · have hd : t / n < n := Nat.div_lt_of_lt_mul ht
    have hm : t % n < n := Nat.mod_lt _ (by omega)
    unfold f_X9_checksum_L31
    dsimp only
    rw [show 75 + 1 = 76 from rfl, zl_0, a_76 (by omega)]
    simp only [obs]
    rw [si_oth (by omega), h0, nI_mulN, if_neg (nI_ge ht (by omega)), nI_dvN (by omega) (by omega) (by omega)]
    simp only [obs]
    rw [nI_rmN (by omega) (by omega) (by omega)]
    simp only [obs]
    rw [m_placeOf]
    simp only [obs]
    rw [a_76 (by omega)]
    simp only [obs]
    rw [si_oth (by omega), hs _ (by omega), m_mix]
    simp only [obs]
    rw [nI_s]
    have e : s (1 + 36 * w + 6 * (t / n) + t % n) = tf n (tS s (1 + 36 * w)) t := by
      unfold tf
      rw [tS_at (by omega) (by omega)]
    rw [e]
    rfl
  · unfold f_X9_checksum_L31
    dsimp only
    rw [show 75 + 1 = 76 from rfl, zl_0, a_76 (by omega)]
    simp only [obs]
    rw [si_oth (by omega), h0, nI_mulN, if_pos (nI_le (Nat.le_refl _) (by omega))]
def mx3 (n : Nat) (s : Nat → Int32) (x : Int64) : Nat → Int64
  | 0 => x
  | w + 1 => mxL (mx3 n s x w) (tf n (tS s (1 + 36 * w))) (n * n)
theorem m_mix3 {σ : Sg} {τ : Tg} {n : Nat} {x : Int64} {s : Nat → Int32} (hs : EqS (σ 76) s) (hg : Gd n s) : lo (f_X9_checksum_L24 σ 75) ((0 : Int32), sl τ 75 27 x) = some (sl τ 75 27 (mx3 n s x 3)) := by
  refine lo_run (fun w => (nI w, sl τ 75 27 (mx3 n s x w))) (n := 3) (fun w hw => ?_) ?_ (by rw [zl_0]; rfl)
  · unfold f_X9_checksum_L24
    dsimp only
    rw [zl_3, if_neg (nI_ge hw (by omega)), m_mixT hs hg hw]
    simp only [obs]
    rw [nI_s]
    rfl
  · unfold f_X9_checksum_L24
    dsimp only
    rw [zl_3, if_pos (nI_le (Nat.le_refl 3) (by omega))]
theorem m_mixP {σ : Sg} {τ : Tg} {n : Nat} {x : Int64} {s : Nat → Int32} (hs : EqS (σ 76) s) (hg : Gd n s) : lo (f_X9_checksum_L91 σ 75) ((0 : Int32), sl τ 75 27 x) = some (sl τ 75 27 (mxL x (vS s 109) n)) := by
  have hn := hg.2.1
  have h0 : σ 76 0 = nI n := by rw [hs 0 (by omega), hg.2.2.1]
  refine lo_run (fun i => (nI i, sl τ 75 27 (mxL x (vS s 109) i))) (n := n) (fun i hi => ?_) ?_ (by rw [zl_0]; rfl)
  · unfold f_X9_checksum_L91
    dsimp only
    rw [show 75 + 1 = 76 from rfl, zl_0, a_76 (by omega)]
    simp only [obs]
    rw [si_oth (by omega), h0, if_neg (nI_ge hi (by omega)), zl_109, nI_addN, a_76 (by omega)]
    simp only [obs]
    rw [si_oth (by omega), hs _ (by omega), ← vS_at (s := s) (o := 109) (show i < 6 by omega), m_mix]
    simp only [obs]
    rw [nI_s]
    rfl
  · unfold f_X9_checksum_L91
    dsimp only
    rw [show 75 + 1 = 76 from rfl, zl_0, a_76 (by omega)]
    simp only [obs]
    rw [si_oth (by omega), h0, if_pos (nI_le (Nat.le_refl _) (by omega))]
theorem m_mixX {σ : Sg} {τ : Tg} {n : Nat} {x : Int64} {s : Nat → Int32} (hs : EqS (σ 76) s) (hg : Gd n s) : lo (f_X9_checksum_L122 σ 75) ((0 : Int32), sl τ 75 27 x) = some (sl τ 75 27 (mxL x (vS s 115) n)) := by
  have hn := hg.2.1
  have h0 : σ 76 0 = nI n := by rw [hs 0 (by omega), hg.2.2.1]
  refine lo_run (fun i => (nI i, sl τ 75 27 (mxL x (vS s 115) i))) (n := n) (fun i hi => ?_) ?_ (by rw [zl_0]; rfl)
  · unfold f_X9_checksum_L122
    dsimp only
    rw [show 75 + 1 = 76 from rfl, zl_0, a_76 (by omega)]
    simp only [obs]
    rw [si_oth (by omega), h0, if_neg (nI_ge hi (by omega)), zl_115, nI_addN, a_76 (by omega)]
    simp only [obs]
    rw [si_oth (by omega), hs _ (by omega), ← vS_at (s := s) (o := 115) (show i < 6 by omega), m_mix]
    simp only [obs]
    rw [nI_s]
    rfl
  · unfold f_X9_checksum_L122
    dsimp only
    rw [show 75 + 1 = 76 from rfl, zl_0, a_76 (by omega)]
    simp only [obs]
    rw [si_oth (by omega), h0, if_pos (nI_le (Nat.le_refl _) (by omega))]
theorem c_mixF {σ : Sg} {md : Bool} {rs : Nat → Int32} {x : Int64} (h : FC σ md rs) : lo (f_X8_checksum_L184 σ 0) (x, (0 : Int32)) = some (mxL x (fun j => if md = true then rs j else -1) 7) := by
  refine lo_run (fun j => (mxL x (fun j => if md = true then rs j else -1) j, nI j)) (n := 7) (fun j hj => ?_) ?_ (by rw [zl_0]; rfl)
  · unfold f_X8_checksum_L184
    dsimp only
    rw [zl_7, if_neg (nI_ge hj (by omega)), show 0 + 57 = 57 from rfl, c_result h hj]
    simp only [obs]
    rw [c_mix]
    simp only [obs]
    rw [nI_s]
    rfl
  · unfold f_X8_checksum_L184
    dsimp only
    rw [zl_7, if_pos (nI_le (Nat.le_refl 7) (by omega))]
theorem m_mixF {v : Int32 × Sg} {τ : Tg} {md : Bool} {rs : Nat → Int32} {x : Int64} (h : FM v.2 md rs) : lo (f_X9_checksum_L189 v 75) ((0 : Int32), sl τ 75 27 x) = some (sl τ 75 27 (mxL x (fun j => if md = true then rs j else -1) 7)) := by
  refine lo_run (fun j => (nI j, sl τ 75 27 (mxL x (fun j => if md = true then rs j else -1) j))) (n := 7) (fun j hj => ?_) ?_ (by rw [zl_0]; rfl)
  · unfold f_X9_checksum_L189
    dsimp only
    rw [zl_7, if_neg (nI_ge hj (by omega)), m_result h hj]
    simp only [obs]
    rw [m_mix]
    simp only [obs]
    rw [nI_s]
    rfl
  · unfold f_X9_checksum_L189
    dsimp only
    rw [zl_7, if_pos (nI_le (Nat.le_refl 7) (by omega))]
def JK (c : Option (Int64 × Sg)) (m : Sg → Option (Int64 × Sg × Tg)) : Prop := ∃ v σ1 σ' τ', c = some (v, σ1) ∧ m σ1 = some (v, σ', τ') ∧ Iv σ' ∧ σ' 75 6 = 0
