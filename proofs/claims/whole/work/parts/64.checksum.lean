-- the checksum
def mx1 (h : Int64) (v : Int32) : Int64 := (31 : Int64) * h + Int32.toInt64 v
def mxL (h : Int64) (g : Nat → Int32) : Nat → Int64
  | 0 => h
  | N + 1 => mx1 (mxL h g N) (g N)
theorem mxL_cong {h : Int64} {g g' : Nat → Int32} : ∀ N, (∀ i, i < N → g i = g' i) → mxL h g N = mxL h g' N
  | 0, _ => rfl
  | N + 1, e => by
    show mx1 (mxL h g N) (g N) = mx1 (mxL h g' N) (g' N)
    rw [mxL_cong N (fun i hi => e i (by omega)), e N (by omega)]
theorem mxL_add {h : Int64} {g : Nat → Int32} {N : Nat} : ∀ M, mxL (mxL h g N) (fun j => g (N + j)) M = mxL h g (N + M)
  | 0 => rfl
  | M + 1 => by
    show mx1 (mxL (mxL h g N) (fun j => g (N + j)) M) (g (N + M)) = mx1 (mxL h g (N + M)) (g (N + M))
    rw [mxL_add M]
theorem c_mix (h : Int64) (v : Int32) : f_X8_mix h v = some (mx1 h v) := rfl
theorem c_mixRow {σ : Sg} {h : Int64} {k n : Nat} {g : Nat → Int32} (hn : n ≤ 6) (hk : ln k = 6) (hg : ∀ i, i < n → σ k i = g i) : f_X8_mixRow σ h k (nI n) = some (mxL h g n) := by
  unfold f_X8_mixRow
  rw [lo_run (f := f_X8_mixRow_L6 (nI n) σ k) (fun i => (mxL h g i, nI i)) (n := n) (e := mxL h g n) (fun i hi => by
    unfold f_X8_mixRow_L6
    dsimp only
    rw [if_neg (nI_ge hi (by omega)), item_ok (by omega) (ln_le _)]
    simp only [obs]
    rw [hg i hi, c_mix]
    simp only [obs]
    rw [nI_s]
    rfl) (by
    unfold f_X8_mixRow_L6
    dsimp only
    rw [if_pos (nI_le (Nat.le_refl n) (by omega))]) (by rw [zl_0]; rfl)]
  rfl
def tf (n : Nat) (F : Nat → Nat → Int32) : Nat → Int32 := fun t => F (t / n) (t % n)
theorem c_mixTable {σ : Sg} {h : Int64} {k n : Nat} {F : Nat → Nat → Int32} (h0 : σ 1 0 = nI n) (h1 : 1 ≤ n) (hn : n ≤ 6) (hk : ln k = 36) (hF : ∀ i j, i < n → j < n → σ k (6 * i + j) = F i j) : f_X8_mixTable σ 0 h k = some (mxL h (tf n F) (n * n)) := by
  unfold f_X8_mixTable
  rw [lo_run (f := f_X8_mixTable_L6 σ 0 k) (fun i => (mxL h (tf n F) (i * n), nI i)) (n := n) (e := mxL h (tf n F) (n * n)) (fun i hi => by
    unfold f_X8_mixTable_L6
    dsimp only
    rw [show 0 + 1 = 1 from rfl, if_neg (show ¬ σ 1 0 ≤ nI i by rw [h0]; exact nI_ge hi (by omega)), lo_run (f := f_X8_mixTable_L21 σ 0 k (mxL h (tf n F) (i * n), nI i)) (fun j => (mxL (mxL h (tf n F) (i * n)) (fun j => tf n F (i * n + j)) j, nI j)) (n := n) (e := mxL (mxL h (tf n F) (i * n)) (fun j => tf n F (i * n + j)) n) (fun j hj => by
      unfold f_X8_mixTable_L21
      dsimp only
      rw [show 0 + 1 = 1 from rfl, if_neg (show ¬ σ 1 0 ≤ nI j by rw [h0]; exact nI_ge hj (by omega)), at_ok (by omega) (ln_le _)]
      simp only [obs]
      have e : tf n F (i * n + j) = F i j := by
        unfold tf
        rw [Nat.mul_comm, Nat.mul_add_div (by omega), Nat.div_eq_of_lt hj, Nat.mul_add_mod, Nat.mod_eq_of_lt hj, Nat.add_zero]
      rw [hF i j hi hj, c_mix, ← e]
      simp only [obs]
      rw [nI_s]
      rfl) (by
      unfold f_X8_mixTable_L21
      dsimp only
      rw [show 0 + 1 = 1 from rfl, if_pos (show σ 1 0 ≤ nI n by rw [h0]; exact nI_le (Nat.le_refl n) (by omega))]) (by rw [zl_0]; rfl)]
    simp only [obs]
    rw [mxL_add, nI_s, Nat.add_mul, Nat.one_mul]) (by
    unfold f_X8_mixTable_L6
    dsimp only
    rw [show 0 + 1 = 1 from rfl, if_pos (show σ 1 0 ≤ nI n by rw [h0]; exact nI_le (Nat.le_refl n) (by omega))]) (by rw [Nat.zero_mul, zl_0]; rfl)]
  rfl
theorem sl_sl {τ : Tg} {k j : Nat} {x y : Int64} : sl (sl τ k j x) k j y = sl τ k j y := by
  funext q i
  by_cases c : q = k
  · subst c
    by_cases e : i = j
    · rw [e, sl_hit, sl_hit]
    · rw [sl_miss e, sl_miss e, sl_miss e]
  · rw [sl_ne _ _ _ c, sl_ne _ _ _ c, sl_ne _ _ _ c]
theorem m_mix {τ : Tg} {x : Int64} {v : Int32} : f_X9_mix (sl τ 75 27 x) 75 v = some (sl τ 75 27 (mx1 x v)) := by
  unfold f_X9_mix
  rw [sl_hit, sl_sl]
  rfl
theorem m_mixT {σ : Sg} {τ : Tg} {n w : Nat} {x : Int64} {s : Nat → Int32} (hs : EqS (σ 76) s) (hg : Gd n s) (hw : w < 3) : lo (f_X9_checksum_L31 σ 75 (nI w, sl τ 75 27 x)) ((0 : Int32), sl τ 75 27 x) = some (sl τ 75 27 (mxL x (tf n (tS s (1 + 36 * w))) (n * n))) := by
  have h1 := hg.1
  have hn := hg.2.1
  have h0 : σ 76 0 = nI n := by rw [hs 0 (by omega), hg.2.2.1]
  have hnn : n * n ≤ 6 * 6 := Nat.mul_le_mul hn hn
  refine lo_run (fun t => (nI t, sl τ 75 27 (mxL x (tf n (tS s (1 + 36 * w))) t))) (n := n * n) (fun t ht => ?_) ?_ (by rw [zl_0]; rfl)
  · have hd : t / n < n := Nat.div_lt_of_lt_mul ht
    have hm : t % n < n := Nat.mod_lt _ (by omega)
    unfold f_X9_checksum_L31
    dsimp only
    rw [show 75 + 1 = 76 from rfl, zl_0, a_76 (by omega)]
    simp only [obs]
    rw [si_oth (by omega), h0, nI_mulN, if_neg (nI_ge ht (by omega)), nI_dvN (by omega) (by omega) (by omega)]
    simp only [obs]
    rw [nI_rmN (by omega) (by omega) (by omega)]
    simp only [obs]
    rw [m_placeOf]
    simp only [obs]
    rw [a_76 (by omega)]
    simp only [obs]
    rw [si_oth (by omega), hs _ (by omega), m_mix]
    simp only [obs]
    rw [nI_s]
    have e : s (1 + 36 * w + 6 * (t / n) + t % n) = tf n (tS s (1 + 36 * w)) t := by
      unfold tf
      rw [tS_at (by omega) (by omega)]
    rw [e]
    rfl
  · unfold f_X9_checksum_L31
    dsimp only
    rw [show 75 + 1 = 76 from rfl, zl_0, a_76 (by omega)]
    simp only [obs]
    rw [si_oth (by omega), h0, nI_mulN, if_pos (nI_le (Nat.le_refl _) (by omega))]
def mx3 (n : Nat) (s : Nat → Int32) (x : Int64) : Nat → Int64
  | 0 => x
  | w + 1 => mxL (mx3 n s x w) (tf n (tS s (1 + 36 * w))) (n * n)
theorem m_mix3 {σ : Sg} {τ : Tg} {n : Nat} {x : Int64} {s : Nat → Int32} (hs : EqS (σ 76) s) (hg : Gd n s) : lo (f_X9_checksum_L24 σ 75) ((0 : Int32), sl τ 75 27 x) = some (sl τ 75 27 (mx3 n s x 3)) := by
  refine lo_run (fun w => (nI w, sl τ 75 27 (mx3 n s x w))) (n := 3) (fun w hw => ?_) ?_ (by rw [zl_0]; rfl)
  · unfold f_X9_checksum_L24
    dsimp only
    rw [zl_3, if_neg (nI_ge hw (by omega)), m_mixT hs hg hw]
    simp only [obs]
    rw [nI_s]
    rfl
  · unfold f_X9_checksum_L24
    dsimp only
    rw [zl_3, if_pos (nI_le (Nat.le_refl 3) (by omega))]
theorem m_mixP {σ : Sg} {τ : Tg} {n : Nat} {x : Int64} {s : Nat → Int32} (hs : EqS (σ 76) s) (hg : Gd n s) : lo (f_X9_checksum_L91 σ 75) ((0 : Int32), sl τ 75 27 x) = some (sl τ 75 27 (mxL x (vS s 109) n)) := by
  have hn := hg.2.1
  have h0 : σ 76 0 = nI n := by rw [hs 0 (by omega), hg.2.2.1]
  refine lo_run (fun i => (nI i, sl τ 75 27 (mxL x (vS s 109) i))) (n := n) (fun i hi => ?_) ?_ (by rw [zl_0]; rfl)
  · unfold f_X9_checksum_L91
    dsimp only
    rw [show 75 + 1 = 76 from rfl, zl_0, a_76 (by omega)]
    simp only [obs]
    rw [si_oth (by omega), h0, if_neg (nI_ge hi (by omega)), zl_109, nI_addN, a_76 (by omega)]
    simp only [obs]
    rw [si_oth (by omega), hs _ (by omega), ← vS_at (s := s) (o := 109) (show i < 6 by omega), m_mix]
    simp only [obs]
    rw [nI_s]
    rfl
  · unfold f_X9_checksum_L91
    dsimp only
    rw [show 75 + 1 = 76 from rfl, zl_0, a_76 (by omega)]
    simp only [obs]
    rw [si_oth (by omega), h0, if_pos (nI_le (Nat.le_refl _) (by omega))]
theorem m_mixX {σ : Sg} {τ : Tg} {n : Nat} {x : Int64} {s : Nat → Int32} (hs : EqS (σ 76) s) (hg : Gd n s) : lo (f_X9_checksum_L122 σ 75) ((0 : Int32), sl τ 75 27 x) = some (sl τ 75 27 (mxL x (vS s 115) n)) := by
  have hn := hg.2.1
  have h0 : σ 76 0 = nI n := by rw [hs 0 (by omega), hg.2.2.1]
  refine lo_run (fun i => (nI i, sl τ 75 27 (mxL x (vS s 115) i))) (n := n) (fun i hi => ?_) ?_ (by rw [zl_0]; rfl)
  · unfold f_X9_checksum_L122
    dsimp only
    rw [show 75 + 1 = 76 from rfl, zl_0, a_76 (by omega)]
    simp only [obs]
    rw [si_oth (by omega), h0, if_neg (nI_ge hi (by omega)), zl_115, nI_addN, a_76 (by omega)]
    simp only [obs]
    rw [si_oth (by omega), hs _ (by omega), ← vS_at (s := s) (o := 115) (show i < 6 by omega), m_mix]
    simp only [obs]
    rw [nI_s]
    rfl
  · unfold f_X9_checksum_L122
    dsimp only
    rw [show 75 + 1 = 76 from rfl, zl_0, a_76 (by omega)]
    simp only [obs]
    rw [si_oth (by omega), h0, if_pos (nI_le (Nat.le_refl _) (by omega))]
theorem c_mixF {σ : Sg} {md : Bool} {rs : Nat → Int32} {x : Int64} (h : FC σ md rs) : lo (f_X8_checksum_L184 σ 0) (x, (0 : Int32)) = some (mxL x (fun j => if md = true then rs j else -1) 7) := by
  refine lo_run (fun j => (mxL x (fun j => if md = true then rs j else -1) j, nI j)) (n := 7) (fun j hj => ?_) ?_ (by rw [zl_0]; rfl)
  · unfold f_X8_checksum_L184
    dsimp only
    rw [zl_7, if_neg (nI_ge hj (by omega)), show 0 + 57 = 57 from rfl, c_result h hj]
    simp only [obs]
    rw [c_mix]
    simp only [obs]
    rw [nI_s]
    rfl
  · unfold f_X8_checksum_L184
    dsimp only
    rw [zl_7, if_pos (nI_le (Nat.le_refl 7) (by omega))]
theorem m_mixF {v : Int32 × Sg} {τ : Tg} {md : Bool} {rs : Nat → Int32} {x : Int64} (h : FM v.2 md rs) : lo (f_X9_checksum_L189 v 75) ((0 : Int32), sl τ 75 27 x) = some (sl τ 75 27 (mxL x (fun j => if md = true then rs j else -1) 7)) := by
  refine lo_run (fun j => (nI j, sl τ 75 27 (mxL x (fun j => if md = true then rs j else -1) j))) (n := 7) (fun j hj => ?_) ?_ (by rw [zl_0]; rfl)
  · unfold f_X9_checksum_L189
    dsimp only
    rw [zl_7, if_neg (nI_ge hj (by omega)), m_result h hj]
    simp only [obs]
    rw [m_mix]
    simp only [obs]
    rw [nI_s]
    rfl
  · unfold f_X9_checksum_L189
    dsimp only
    rw [zl_7, if_pos (nI_le (Nat.le_refl 7) (by omega))]
def JK (c : Option (Int64 × Sg)) (m : Sg → Option (Int64 × Sg × Tg)) : Prop := ∃ v σ1 σ' τ', c = some (v, σ1) ∧ m σ1 = some (v, σ', τ') ∧ Iv σ' ∧ σ' 75 6 = 0
theorem J_checksum {σ : Sg} {τ : Tg} (H : Iv σ) : JK (f_X8_checksum σ 0) (fun σ => f_X9_checksum σ τ 75) := by
  obtain ⟨s, c, h, T, tx, md, rs, hG, hC, hM⟩ := H
  obtain ⟨n, hg⟩ := hG.1
  have hX := hg.fx
  have h1 := hX.1
  have hn := hX.2.1
  have h10 := CI_n hC hg
  -- the class
  obtain ⟨σ1, a1, a2, a3⟩ := c_load (kb := 48) (kf := 6) (Or.inl rfl) (Or.inl rfl) hX hg (c_fxv hC.1.2.1) hC.1.2.1
  obtain ⟨σ2, b1, b2⟩ := c_lowest (kb := 48) (Or.inl rfl) hg hX a3
  have B2 : BL n s (vS s 115) σ2 48 := by
    obtain ⟨w1, w2, w3, w4, w5, w6⟩ := a3
    exact ⟨by rw [b2.at (by decide), w1], by rw [b2.at (by decide), w2], by rw [b2.at (by decide), w3], by rw [b2.at (by decide), w4], fun i hi hx => by rw [b2.at (by decide), w5 i hi hx], fun i k hi hk hx hl => by rw [b2.at (by decide), w6 i k hi hk hx hl]⟩
  have F2 : Fr [48, 49, 50, 51, 52, 53] σ σ2 := (Fb_fr rfl a2).tr b2 (by decide)
  have hC2 := CI_fr hC F2 (by decide)
  obtain ⟨σ3, d1, d2, d3, d4⟩ := c_sym (σ := σ2) (kb := 54) (kf := 6) (Or.inl rfl) (Or.inl rfl) hX hg (c_fxv hC2.1.2.1) hC2.1.2.1
  have hC3 := CI_fr hC2 d2 (by decide)
  have hM3 := MI_fr (MI_fr hM F2 (by decide)) d2 (by decide)
  obtain ⟨nx, _, _, hc7, _⟩ := hC3.1.2.2
  -- the model
  have hM4 := MI_75 (j := 6) (x := 0) hM3 (by omega) (by omega)
  have hC4 := CI_75 (k := 75) (j := 6) (x := 0) hC3 (by decide)
  generalize hρ0 : si σ3 75 6 (0 : Int32) = ρ0 at hM4 hC4
  have hs0 : EqS (ρ0 76) s := hM4.1.1
  have hm0 := MI_n hM4 hg
  have hw : EqS ((wo ρ0 80 0 n (fun i => ρ0 76 (109 + i))) 76) s := fun j hj => by rw [wo_oth (by omega)]; exact hs0 j hj
  have hcost := mm_cost hw hg (wo80 hs0 hg.2.1) hg.pt
  have htakes := m_takes hm0 hn
  have F5 : Fr [80] ρ0 (wo ρ0 80 0 n (fun i => ρ0 76 (109 + i))) := wo_fr Fr.rf (by decide)
  generalize wo ρ0 80 0 n (fun i => ρ0 76 (109 + i)) = ρ1 at hw hcost htakes F5
  have hw81 := m_w81 hw
  have hs1 : EqS ((wo ρ1 81 0 6 (fun i => ρ1 76 (115 + i))) 76) s := fun q hq => by rw [wo_oth (by omega)]; exact hw q hq
  have F6 : Fr [81] ρ1 (wo ρ1 81 0 6 (fun i => ρ1 76 (115 + i))) := fr_81
  have hlooks : f_X9_looks ρ1 75 = some (wo ρ1 81 0 6 (fun i => ρ1 76 (115 + i))) := m_looks
  generalize wo ρ1 81 0 6 (fun i => ρ1 76 (115 + i)) = ρ2 at hw81 hs1 F6 hlooks
  obtain ⟨ρ3, e1, e2⟩ := m_boundOf hs1 hg hX hw81
  have hs3 : EqS (ρ3 76) s := by rw [e2.at (by decide)]; exact hs1
  obtain ⟨ρ4, f1, f2⟩ := m_branch hs3 hg hX (fun i hi => by rw [e2.at (by decide)]; exact hw81 i hi)
  have hs4 : EqS (ρ4 76) s := by rw [f2.at (by decide)]; exact hs3
  obtain ⟨ρ5, g1, g2⟩ := m_kept (σ := ρ4) (n := n) (X := vS s 115) (by rw [hs4 0 (by omega), hg.2.2.1]) hX (fun i hi => by rw [f2.at (by decide), e2.at (by decide)]; exact hw81 i hi)
  rw [tbX hs4 (by omega), tbX hs4 (by omega)] at g1 g2
  have FF : Fr [80, 81, 82, 83, 84, 85] ρ0 ρ4 := ((((Fr.rf : Fr [80, 81, 82, 83, 84, 85] ρ0 ρ0).tr F5 (by decide)).tr F6 (by decide)).tr e2 (by decide)).tr f2 (by decide)
  have hM5 := MI_fr hM4 FF (by decide)
  have hC5 := CI_fr hC4 FF (by decide)
  have hM6 := MI_eq hM5 (σ' := ρ5) (fun q hq => g2.1 q (fun z => by simp only [List.mem_cons, List.not_mem_nil, or_false] at z; omega)) (g2.2.1 3 (by omega)) (g2.2.1 5 (by omega))
  have hC6 := CI_fr hC5 g2.1 (by decide)
  have h756 : ρ5 75 6 = 0 := by rw [g2.2.1 6 (by omega), FF.at (by decide), ← hρ0, si_hit]
  refine ⟨mx1 (mx1 (mxL (mx1 (mx1 (mx1 (mx1 (mxL (mxL (mx3 n s (mx1 18459 (nI n)) 3) (vS s 109) n) (vS s 115) n) (costS n (tS s 1) (tS s 37) (tS s 73) (vS s 109))) (bdS n s (vS s 115))) (brS n s (vS s 115))) (nI (symQ n (tS s 37) (tS s 73) (vS s 115) (fac n)).1)) (fun j => if md = true then rs j else -1) 7) (nI T)) (nI c), σ3, ρ5, sl τ 75 27 (mx1 (mx1 (mxL (mx1 (mx1 (mx1 (mx1 (mxL (mxL (mx3 n s (mx1 18459 (nI n)) 3) (vS s 109) n) (vS s 115) n) (costS n (tS s 1) (tS s 37) (tS s 73) (vS s 109))) (bdS n s (vS s 115))) (brS n s (vS s 115))) (nI (symQ n (tS s 37) (tS s 73) (vS s 115) (fac n)).1)) (fun j => if md = true then rs j else -1) 7) (nI T)) (nI c)), ?_, ?_, Iv_of hG hC6 hM6, h756⟩
  · have t1 := fun x => c_mixTable (σ := σ) (h := x) (k := 2) (n := n) (F := tS s 1) h10 h1 hn (by decide +kernel) (fun i j hi hj => by rw [rc_f hC.1.2.1 (by omega), tS_at (by omega) (by omega)]; congr 1; omega)
    have t2 := fun x => c_mixTable (σ := σ) (h := x) (k := 3) (n := n) (F := tS s 37) h10 h1 hn (by decide +kernel) (fun i j hi hj => by rw [rc_d hC.1.2.1 (by omega), tS_at (by omega) (by omega)]; congr 1; omega)
    have t3 := fun x => c_mixTable (σ := σ) (h := x) (k := 4) (n := n) (F := tS s 73) h10 h1 hn (by decide +kernel) (fun i j hi hj => by rw [rc_c hC.1.2.1 (by omega), tS_at (by omega) (by omega)]; congr 1; omega)
    have t4 := fun x => c_mixRow (σ := σ) (h := x) (k := 5) (n := n) (g := vS s 109) hn (by decide +kernel) (fun i hi => by
      have := congrFun (rc_P hC.1.2.1) i
      unfold vec at this
      rw [if_pos (by omega), Nat.zero_add] at this
      exact this)
    have t5 := fun x => c_mixRow (σ := σ) (h := x) (k := 6) (n := n) (g := vS s 115) hn (by decide +kernel) (fun i hi => c_fxv hC.1.2.1 i (by omega))
    unfold f_X8_checksum
    simp only [Nat.reduceAdd]
    rw [h10, c_mix]
    simp only [obs]
    rw [t1]
    simp only [obs]
    rw [t2]
    simp only [obs]
    rw [t3]
    simp only [obs]
    rw [t4]
    simp only [obs]
    rw [t5]
    simp only [obs]
    rw [cc_cost hC.1.2.1 hg l5 (fun i hi => by rw [rc_P hC.1.2.1]) hg.pt]
    simp only [obs]
    rw [c_mix]
    simp only [obs]
    rw [a1]
    simp only [obs]
    rw [b1]
    simp only [obs]
    rw [c_mix]
    simp only [obs]
    rw [c_branch (Or.inl rfl) hg hX B2]
    simp only [obs]
    rw [c_mix]
    simp only [obs]
    rw [d1]
    simp only [obs]
    rw [d3, c_mix]
    simp only [obs]
    rw [c_mixF hC3.2.2]
    simp only [obs]
    rw [hC3.2.1.1, c_mix]
    simp only [obs]
    rw [hc7, c_mix]
    rfl
  · dsimp only
    unfold f_X9_checksum
    rw [hρ0, show 75 + 1 = 76 from rfl, zl_0, a_76 (by omega)]
    simp only [obs]
    rw [hm0, m_mix]
    simp only [obs]
    rw [← zl_0, m_mix3 hM3.1.1 hg]
    simp only [obs]
    rw [m_mixP hM3.1.1 hg]
    simp only [obs]
    rw [m_mixX hM3.1.1 hg]
    simp only [obs]
    unfold f_X9_presentCost
    rw [htakes]
    simp only [obs]
    rw [hcost]
    simp only [obs]
    rw [m_mix]
    simp only [obs]
    rw [hlooks]
    simp only [obs]
    rw [e1]
    simp only [obs]
    rw [m_mix]
    simp only [obs]
    rw [f1]
    simp only [obs]
    rw [m_mix]
    simp only [obs]
    rw [g1]
    simp only [obs]
    rw [m_mix]
    simp only [obs]
    rw [m_mixF (v := (_, ρ5)) hM6.2.2]
    simp only [obs]
    rw [hM6.2.1.1, m_mix]
    simp only [obs]
    rw [hM6.1.2.2.1, m_mix]
    simp only [obs]
    rw [sl_hit]
