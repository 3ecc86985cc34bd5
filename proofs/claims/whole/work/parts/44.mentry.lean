-- the model's entries
theorem m_isTaken {σ : Sg} {n l : Nat} {X : Nat → Int32} (h0 : σ 76 0 = nI n) (hX : Fx n X) (hw : ∀ i, i < 6 → σ 81 i = X i) (hl : l < n) : f_X9_isTaken σ 75 (nI l) = some (if frl n X l = true then 0 else 1) := by
  have hn := hX.2.1
  unfold f_X9_isTaken
  obtain ⟨e, h1, h2⟩ := lo_tc (f := f_X9_isTaken_L4 σ 75 (nI l)) (fun i s => s.2 = nI i ∧ ((s.1 = 0 ∧ ∀ j, j < i → ¬ X j = nI l) ∨ (s.1 = 1 ∧ ∃ j, j < i ∧ X j = nI l))) n (fun e => (e = 0 ∧ ∀ j, j < n → ¬ X j = nI l) ∨ (e = 1 ∧ ∃ j, j < n ∧ X j = nI l)) (fun i s hi ⟨e1, e2⟩ => by
    obtain ⟨b, i'⟩ := s
    simp only at e1 e2
    subst e1
    unfold f_X9_isTaken_L4 f_X9_isTaken_J28 f_X9_isTaken_J33
    simp only
    rw [m_n h0]
    simp only [obs]
    rw [if_neg (nI_ge hi (by omega))]
    rcases e2 with ⟨rfl, e2⟩ | ⟨rfl, j, hj, e2⟩
    · rw [if_pos (show (0 : Int32) = 0 from rfl), show 75 + 6 = 81 from rfl, a_81 (by omega), hw i (by omega)]
      simp only [obs]
      by_cases c : X i = nI l
      · rw [if_pos c]
        exact ⟨_, rfl, nI_s i, Or.inr ⟨rfl, i, by omega, c⟩⟩
      · rw [if_neg c]
        refine ⟨_, rfl, nI_s i, Or.inl ⟨rfl, fun j hj => ?_⟩⟩
        by_cases q : j = i
        · rw [q]
          exact c
        · exact e2 j (by omega)
    · rw [if_neg (show ¬ (1 : Int32) = 0 by decide)]
      exact ⟨_, rfl, nI_s i, Or.inr ⟨rfl, j, by omega, e2⟩⟩) (fun s ⟨e1, e2⟩ => by
    obtain ⟨b, i'⟩ := s
    simp only at e1 e2
    subst e1
    unfold f_X9_isTaken_L4
    simp only
    rw [m_n h0]
    simp only [obs]
    rw [if_pos (nI_le (Nat.le_refl n) (by omega))]
    exact ⟨_, rfl, e2⟩) (s := (0, 0)) ⟨rfl, Or.inl ⟨rfl, fun j hj => by omega⟩⟩
  rw [h1]
  simp only [obs]
  have hfr := frl_iff (l := l) hX (by omega)
  rcases h2 with ⟨rfl, h2⟩ | ⟨rfl, h2⟩
  · rw [if_pos (hfr.mpr ⟨hl, h2⟩)]
    rfl
  · rw [if_neg (fun z => by
      obtain ⟨j, hj, e⟩ := h2
      exact (hfr.mp z).2 j hj e)]
    rfl
theorem m_pairs {σ : Sg} {n : Nat} {X : Nat → Int32} (h0 : σ 76 0 = nI n) (hn : n ≤ 6) (hw : ∀ i, i < 6 → σ 81 i = X i) : f_X9_pairs σ 75 = some (nI (n - cnt (frf X) n)) := by
  unfold f_X9_pairs
  have hle : ∀ i, cnt (frf X) i ≤ i := fun i => cnt_le i
  rw [lo_run (f := f_X9_pairs_L4 σ 75) (fun i => (nI (i - cnt (frf X) i), nI i)) (n := n) (e := nI (n - cnt (frf X) n)) (fun i hi => by
    have h1 := hle i
    unfold f_X9_pairs_L4 f_X9_pairs_J30
    simp only
    rw [m_n h0]
    simp only [obs]
    rw [if_neg (nI_ge hi (by omega)), show 75 + 6 = 81 from rfl, a_81 (by omega), hw i (by omega)]
    simp only [obs]
    have hs : cnt (frf X) (i + 1) = cnt (frf X) i + if frf X i = true then 1 else 0 := rfl
    by_cases c : X i = -1
    · rw [if_pos c, nI_s, hs, if_pos (show frf X i = true from decide_eq_true c), show i + 1 - (cnt (frf X) i + 1) = i - cnt (frf X) i by omega, Int32.add_zero]
    · rw [if_neg c, nI_s, hs, if_neg (show ¬ frf X i = true from fun z => c (of_decide_eq_true z)), nI_s, show i + 1 - (cnt (frf X) i + 0) = i - cnt (frf X) i + 1 by omega]) (by
    unfold f_X9_pairs_L4
    simp only
    rw [m_n h0]
    simp only [obs]
    rw [if_pos (nI_le (Nat.le_refl n) (by omega))]) (s := (0, 0)) rfl]
  rfl
theorem m_fixedPart {σ : Sg} {n : Nat} {s X : Nat → Int32} (hs : EqS (σ 76) s) (hg : Gd n s) (hX : Fx n X) (hw : ∀ i, i < 6 → σ 81 i = X i) : f_X9_fixedPart σ 75 = some (partS n (tS s 1) (tS s 37) (tS s 73) X) := by
  have hn := hX.2.1
  have h0 : σ 76 0 = nI n := by rw [hs 0 (by omega), hg.2.2.1]
  have eF : ∀ i j, i < 6 → j < 6 → f_X9_flow σ 75 (nI i) (nI j) = some (tS s 1 i j) := fun i j hi hj => by rw [m_flow hi hj, rm_t hs (by omega)]
  have eD : ∀ i j, i < 6 → j < 6 → f_X9_far σ 75 (nI i) (nI j) = some (tS s 37 i j) := fun i j hi hj => by rw [m_far hi hj, rm_t hs (by omega)]
  have eC : ∀ i j, i < 6 → j < 6 → f_X9_price σ 75 (nI i) (nI j) = some (tS s 73 i j) := fun i j hi hj => by rw [m_price hi hj, rm_t hs (by omega)]
  have w81 : ∀ i, i < 6 → ald σ (75 + 6) (nI i) = some (X i) := fun i hi => by rw [show 75 + 6 = 81 from rfl, a_81 hi, hw i hi]
  unfold f_X9_fixedPart
  have inner : ∀ (i : Nat) (b : Int32), i < n → lo (f_X9_fixedPart_L44 σ 75 (nI i)) (b, 0) = some (b + sm n fun j => if X i = -1 then 0 else if X j = -1 then 0 else tS s 1 i j * tS s 37 (ix (X i)) (ix (X j))) := by
    intro i b hi
    refine lo_run (fun j => (b + sm j fun j => if X i = -1 then 0 else if X j = -1 then 0 else tS s 1 i j * tS s 37 (ix (X i)) (ix (X j)), nI j)) (n := n) (fun j hj => ?_) ?_ (by simp [sm, nI_0])
    · unfold f_X9_fixedPart_L44 f_X9_fixedPart_J75 f_X9_fixedPart_J102
      simp only
      rw [m_n h0]
      simp only [obs]
      rw [if_neg (nI_ge hj (by omega)), w81 i (by omega)]
      simp only [obs, sm]
      by_cases c : X i = -1
      · rw [if_pos c, if_pos c, nI_s, Int32.add_assoc]
      · rw [if_neg c, if_neg c, w81 j (by omega)]
        simp only [obs]
        by_cases c2 : X j = -1
        · rw [if_pos c2, if_pos c2, nI_s, Int32.add_assoc]
        · rw [if_neg c2, if_neg c2, eF i j (by omega) (by omega)]
          simp only [obs]
          obtain ⟨x, hx, ex⟩ := (hX.2.2.1 i hi).resolve_left c
          obtain ⟨y, hy, ey⟩ := (hX.2.2.1 j hj).resolve_left c2
          rw [ex, ey, eD x y (by omega) (by omega), ix_nI (by omega), ix_nI (by omega)]
          simp only [obs]
          rw [nI_s, Int32.add_assoc]
    · unfold f_X9_fixedPart_L44
      simp only
      rw [m_n h0]
      simp only [obs]
      rw [if_pos (nI_le (Nat.le_refl n) (by omega))]
  rw [lo_run (f := f_X9_fixedPart_L4 σ 75) (fun i => (sm i fun i => if X i = -1 then 0 else tS s 73 i (ix (X i)) + sm n fun j => if X j = -1 then 0 else tS s 1 i j * tS s 37 (ix (X i)) (ix (X j)), nI i)) (n := n) (e := partS n (tS s 1) (tS s 37) (tS s 73) X) (fun i hi => by
    unfold f_X9_fixedPart_L4 f_X9_fixedPart_J40
    simp only
    rw [m_n h0]
    simp only [obs]
    rw [if_neg (nI_ge hi (by omega)), w81 i (by omega)]
    simp only [obs, sm]
    by_cases c : X i = -1
    · rw [if_pos c, if_pos c, inner i _ hi]
      simp only [obs]
      rw [nI_s, sm_0 (fun j hj => if_pos c), Int32.add_zero]
    · rw [if_neg c, if_neg c]
      obtain ⟨x, hx, ex⟩ := (hX.2.2.1 i hi).resolve_left c
      rw [ex, eC i x (by omega) (by omega), ix_nI (by omega)]
      simp only [obs]
      rw [inner i _ hi]
      simp only [obs]
      rw [nI_s, ex, ix_nI (by omega)]
      congr 3
      rw [Int32.add_assoc]
      congr 2
      refine sm_cong fun j hj => ?_
      rw [if_neg (nI_m1 (by omega))]) (by
    unfold f_X9_fixedPart_L4
    simp only
    rw [m_n h0]
    simp only [obs]
    rw [if_pos (nI_le (Nat.le_refl n) (by omega))]
    rfl) (s := (0, 0)) rfl]
  rfl
-- the model sorts
theorem upd_upd {g : Nat → Int32} {k : Nat} {x y : Int32} : upd (upd g k x) k y = upd g k y := by
  funext q
  unfold upd
  split <;> rfl
theorem upd_id {g : Nat → Int32} {k : Nat} {x : Int32} (h : g k = x) : upd g k x = g := by
  funext q
  unfold upd
  split
  · next c => rw [c, h]
  · rfl
theorem si_fun {σ : Sg} {k j : Nat} {x : Int32} : (si σ k j x) k = upd (σ k) j x := si_self σ k j x
theorem m_sink {k : Nat} (hk : ln k = 6) {v : Int32} : ∀ (b : Nat) (σ : Sg) (g : Nat → Int32), b < 6 → σ k = upd g b v → ∃ σ', lo (f_X9_sorts_L9 k) (nI b, σ) = some σ' ∧ Fr [k] σ σ' ∧ σ' k = insF g b v
  | 0, σ, g, _, h => ⟨σ, lo_inr (by unfold f_X9_sorts_L9; exact if_pos (show nI 0 ≤ (0 : Int32) by decide)), Fr.rf, h⟩
  | b + 1, σ, g, hb, h => by
    have e1 : σ k (b + 1) = v := by rw [h, pk_us]
    have e2 : σ k b = g b := by rw [h, pk_un (by omega)]
    have st : f_X9_sorts_L9 k (nI (b + 1), σ) = if g b ≤ v then some (.inr σ) else some (.inl (nI b, si (si σ k (b + 1) (g b)) k b v)) := by
      unfold f_X9_sorts_L9
      simp only
      rw [if_neg (nI_nle (by omega) (by omega)), ald_ok (by omega) (ln_le _), nI_pred, ald_ok (by omega) (ln_le _), e1, e2]
      simp only [obs]
      rw [ast_ok (by omega) (ln_le _)]
      simp only [obs]
      rw [ast_ok (by omega) (ln_le _)]
      simp only [obs]
      rw [show nI (b + 1) + (-1) = nI b from pk_m1 b]
    unfold insF
    by_cases c : g b ≤ v
    · rw [if_pos c] at st ⊢
      exact ⟨σ, lo_inr st, Fr.rf, h⟩
    · rw [if_neg c] at st ⊢
      obtain ⟨σ', h1, h2, h3⟩ := m_sink hk (v := v) b (si (si σ k (b + 1) (g b)) k b v) (upd g (b + 1) (g b)) (by omega) (by rw [si_fun, si_fun, h, upd_upd])
      exact ⟨σ', by rw [lo_inl st, h1], ((Fr.rf.si (List.mem_singleton.mpr rfl)).si (List.mem_singleton.mpr rfl)).tr h2 (fun q hq => hq), h3⟩
theorem m_sorts {k c : Nat} {σ : Sg} (hk : ln k = 6) (hc : c ≤ 6) : ∃ σ', f_X9_sorts σ k (nI c) = some σ' ∧ Fr [k] σ σ' ∧ ∀ t, t < c → σ' k t = Srt (σ k) c t := by
  have id0 : ∀ (u : Nat → Int32), cS u u 1 = u := fun u => by
    show upd u 0 (u 0) = u
    exact upd_id rfl
  unfold f_X9_sorts
  by_cases h0 : c = 0
  · subst h0
    rw [lo_inr (show f_X9_sorts_L2 (nI 0) k ((1 : Int32), σ) = some (.inr σ) by
      unfold f_X9_sorts_L2
      exact if_pos (show nI 0 ≤ (1 : Int32) by decide))]
    exact ⟨σ, rfl, Fr.rf, fun t ht => by omega⟩
  · obtain ⟨e, h1, h2, h3⟩ := lo_tc (f := f_X9_sorts_L2 (nI c) k) (fun a s => s.1 = nI (a + 1) ∧ Fr [k] σ s.2 ∧ s.2 k = cS (σ k) (σ k) (a + 1)) (c - 1) (fun e => Fr [k] σ e ∧ e k = cS (σ k) (σ k) c) (fun a s ha ⟨e1, e2, e3⟩ => by
      obtain ⟨a', σ2⟩ := s
      simp only at e1 e2 e3
      subst e1
      have hv : σ2 k = upd (cS (σ k) (σ k) (a + 1)) (a + 1) ((σ k) (a + 1)) := by
        rw [e3]
        exact (upd_id (cS_hi (a + 1) (a + 1) (Nat.le_refl _))).symm
      obtain ⟨σ3, i1, i2, i3⟩ := m_sink hk (a + 1) σ2 _ (by omega) hv
      unfold f_X9_sorts_L2
      simp only
      rw [if_neg (nI_ge (by omega) (by omega)), i1]
      exact ⟨_, rfl, nI_s _, e2.tr i2 (fun q hq => hq), i3⟩) (fun s ⟨e1, e2, e3⟩ => by
      obtain ⟨a', σ2⟩ := s
      simp only at e1 e2 e3
      subst e1
      unfold f_X9_sorts_L2
      simp only
      rw [show c - 1 + 1 = c by omega] at e3 ⊢
      rw [if_pos (nI_le (Nat.le_refl c) (by omega))]
      exact ⟨_, rfl, e2, e3⟩) (s := (1, σ)) ⟨rfl, Fr.rf, (id0 (σ k)).symm⟩
    rw [h1]
    refine ⟨e, rfl, h2, fun t ht => ?_⟩
    rw [h3]
    exact cS_cong c (fun _ _ => rfl) t ht
theorem Srt_cong {u u' : Nat → Int32} {c : Nat} (h : ∀ a, a < c → u a = u' a) : ∀ t, t < c → Srt u c t = Srt u' c t := cS_cong c h
/-- the gathering loops -/
theorem gat_idx {P : Nat → Bool} {h : Nat → Int32} {j : Nat} : ∀ t, (gat P h j).1 ≤ t → (gat P h j).2 t = 0 := by
  induction j with
  | zero => exact fun t _ => rfl
  | succ j ih =>
    intro t ht
    unfold gat at ht ⊢
    by_cases c : P j = true
    · rw [if_pos c] at ht ⊢
      simp only at ht ⊢
      rw [pk_un (by omega)]
      exact ih t (by omega)
    · rw [if_neg c] at ht ⊢
      exact ih t ht
theorem m_leastProduct {σ : Sg} {n i k : Nat} {s X : Nat → Int32} (hs : EqS (σ 76) s) (hg : Gd n s) (hX : Fx n X) (hw : ∀ i, i < 6 → σ 81 i = X i) (hi : i < n) (hk : k < n) (hx : X i = -1) (hl : frl n X k = true) : ∃ σ', f_X9_leastProduct σ 75 (nI i) (nI k) = some (lpS n (tS s 1) (tS s 37) X i k, σ') ∧ Fr [82, 83] σ σ' := by
  have hn := hX.2.1
  have h0 : σ 76 0 = nI n := by rw [hs 0 (by omega), hg.2.2.1]
  unfold f_X9_leastProduct
  -- the flows
  generalize hP : (fun j => decide (j ≠ i) && decide (X j = -1)) = P
  have gs : ∀ j, gat P (tS s 1 i) (j + 1) = if P j = true then ((gat P (tS s 1 i) j).1 + 1, upd (gat P (tS s 1 i) j).2 (gat P (tS s 1 i) j).1 (tS s 1 i j)) else gat P (tS s 1 i) j := fun j => rfl
  obtain ⟨e, a1, a2, a3, a4⟩ := lo_tc (f := f_X9_leastProduct_L5 75 (nI i)) (fun j z => z.1 = nI (gat P (tS s 1 i) j).1 ∧ z.2.1 = nI j ∧ Fr [82] σ z.2.2 ∧ ∀ t, t < (gat P (tS s 1 i) j).1 → z.2.2 82 t = (gat P (tS s 1 i) j).2 t) n (fun e => e.1 = nI (gat P (tS s 1 i) n).1 ∧ Fr [82] σ e.2 ∧ ∀ t, t < (gat P (tS s 1 i) n).1 → e.2 82 t = (gat P (tS s 1 i) n).2 t) (fun j z hj ⟨e1, e2, e3, e4⟩ => by
    obtain ⟨c, j', σ2⟩ := z
    simp only at e1 e2 e3 e4
    subst e1 e2
    have hle := gat_le (P := P) (h := tS s 1 i) j
    have s2 : EqS (σ2 76) s := fun q hq => by rw [e3.at (by decide)]; exact hs q hq
    have skip : ¬ P j = true → ∃ z', f_X9_leastProduct_J49 (nI (gat P (tS s 1 i) j).1) (nI j) σ2 = some (.inl z') ∧ z'.1 = nI (gat P (tS s 1 i) (j + 1)).1 ∧ z'.2.1 = nI (j + 1) ∧ Fr [82] σ z'.2.2 ∧ ∀ t, t < (gat P (tS s 1 i) (j + 1)).1 → z'.2.2 82 t = (gat P (tS s 1 i) (j + 1)).2 t := fun hp => by
      rw [gs, if_neg hp]
      exact ⟨_, rfl, rfl, nI_s j, e3, e4⟩
    unfold f_X9_leastProduct_L5
    simp only
    rw [m_n (by rw [e3.at (by decide), h0])]
    simp only [obs]
    rw [if_neg (nI_ge hj (by omega))]
    by_cases c1 : j = i
    · rw [if_pos (by rw [c1])]
      exact skip (by rw [← hP]; simp [c1])
    · rw [if_neg (fun z => c1 ((nI_eq (by omega) (by omega)).mp z)), show 75 + 6 = 81 from rfl, a_81 (by omega), e3.at (by decide), hw j (by omega)]
      simp only [obs]
      by_cases c2 : X j = -1
      · have hp : P j = true := by rw [← hP]; simp [c1, c2]
        rw [if_pos c2, m_flow (by omega) (by omega), rm_t s2 (by omega)]
        simp only [obs]
        rw [show 75 + 7 = 82 from rfl, s_82 (by omega)]
        simp only [obs]
        unfold f_X9_leastProduct_J49
        rw [gs, if_pos hp]
        refine ⟨_, rfl, nI_s _, nI_s j, e3.si (by decide), fun t ht => ?_⟩
        simp only at ht ⊢
        rw [si_self]
        unfold upd
        split
        · rfl
        · exact e4 t (by omega)
      · rw [if_neg c2]
        exact skip (by rw [← hP]; simp [c2])) (fun z ⟨e1, e2, e3, e4⟩ => by
    obtain ⟨c, j', σ2⟩ := z
    simp only at e1 e2 e3 e4
    subst e1 e2
    unfold f_X9_leastProduct_L5
    simp only
    rw [m_n (by rw [e3.at (by decide), h0])]
    simp only [obs]
    rw [if_pos (nI_le (Nat.le_refl n) (by omega))]
    exact ⟨_, rfl, rfl, e3, e4⟩) (s := (0, 0, σ)) ⟨rfl, rfl, Fr.rf, fun t ht => by
      have : (gat P (tS s 1 i) 0).1 = 0 := rfl
      omega⟩
  obtain ⟨e_1, e_2⟩ := e
  simp only at a2 a3 a4
  subst a2
  rw [a1]
  simp only [obs]
  have w2 : ∀ i, i < 6 → e_2 81 i = X i := fun i hi => by rw [a3.at (by decide), hw i hi]
  have hs2 : EqS (e_2 76) s := fun q hq => by rw [a3.at (by decide)]; exact hs q hq
  have h02 : e_2 76 0 = nI n := by rw [a3.at (by decide), h0]
  -- the distances
  generalize hQ : (fun l => decide (l ≠ k) && frl n X l) = Q
  have ds : ∀ j, gat Q (tS s 37 k) (j + 1) = if Q j = true then ((gat Q (tS s 37 k) j).1 + 1, upd (gat Q (tS s 37 k) j).2 (gat Q (tS s 37 k) j).1 (tS s 37 k j)) else gat Q (tS s 37 k) j := fun j => rfl
  obtain ⟨e, b1, b2, b3, b4⟩ := lo_tc (f := f_X9_leastProduct_L61 75 (nI k)) (fun j z => z.1 = nI (gat Q (tS s 37 k) j).1 ∧ z.2.1 = nI j ∧ Fr [83] e_2 z.2.2 ∧ ∀ t, t < (gat Q (tS s 37 k) j).1 → z.2.2 83 t = (gat Q (tS s 37 k) j).2 t) n (fun e => e.1 = nI (gat Q (tS s 37 k) n).1 ∧ Fr [83] e_2 e.2 ∧ ∀ t, t < (gat Q (tS s 37 k) n).1 → e.2 83 t = (gat Q (tS s 37 k) n).2 t) (fun j z hj ⟨e1, e2, e3, e4⟩ => by
    obtain ⟨c, j', σ2⟩ := z
    simp only at e1 e2 e3 e4
    subst e1 e2
    have hle := gat_le (P := Q) (h := tS s 37 k) j
    have s2 : EqS (σ2 76) s := fun q hq => by rw [e3.at (by decide)]; exact hs2 q hq
    have w3 : ∀ i, i < 6 → σ2 81 i = X i := fun i hi => by rw [e3.at (by decide), w2 i hi]
    have h03 : σ2 76 0 = nI n := by rw [e3.at (by decide), h02]
    have skip : ¬ Q j = true → ∃ z', f_X9_leastProduct_J104 (nI (gat Q (tS s 37 k) j).1) (nI j) σ2 = some (.inl z') ∧ z'.1 = nI (gat Q (tS s 37 k) (j + 1)).1 ∧ z'.2.1 = nI (j + 1) ∧ Fr [83] e_2 z'.2.2 ∧ ∀ t, t < (gat Q (tS s 37 k) (j + 1)).1 → z'.2.2 83 t = (gat Q (tS s 37 k) (j + 1)).2 t := fun hp => by
      rw [ds, if_neg hp]
      exact ⟨_, rfl, rfl, nI_s j, e3, e4⟩
    unfold f_X9_leastProduct_L61
    simp only
    rw [m_n h03]
    simp only [obs]
    rw [if_neg (nI_ge hj (by omega))]
    by_cases c1 : j = k
    · rw [if_pos (by rw [c1])]
      exact skip (by rw [← hQ]; simp [c1])
    · rw [if_neg (fun z => c1 ((nI_eq (by omega) (by omega)).mp z)), m_isTaken h03 hX w3 hj]
      simp only [obs]
      by_cases c2 : frl n X j = true
      · have hp : Q j = true := by rw [← hQ]; simp [c1, c2]
        rw [if_pos c2, if_pos rfl, m_far (by omega) (by omega), rm_t s2 (by omega)]
        simp only [obs]
        rw [show 75 + 8 = 83 from rfl, s_83 (by omega)]
        simp only [obs]
        unfold f_X9_leastProduct_J104
        rw [ds, if_pos hp]
        refine ⟨_, rfl, nI_s _, nI_s j, e3.si (by decide), fun t ht => ?_⟩
        simp only at ht ⊢
        rw [si_self]
        unfold upd
        split
        · rfl
        · exact e4 t (by omega)
      · rw [if_neg c2, if_neg (show ¬ (1 : Int32) = 0 by decide)]
        exact skip (by rw [← hQ]; simp [c2])) (fun z ⟨e1, e2, e3, e4⟩ => by
    obtain ⟨c, j', σ2⟩ := z
    simp only at e1 e2 e3 e4
    subst e1 e2
    unfold f_X9_leastProduct_L61
    simp only
    rw [m_n (by rw [e3.at (by decide), h02])]
    simp only [obs]
    rw [if_pos (nI_le (Nat.le_refl n) (by omega))]
    exact ⟨_, rfl, rfl, e3, e4⟩) (s := (0, 0, e_2)) ⟨rfl, rfl, Fr.rf, fun t ht => by
      have : (gat Q (tS s 37 k) 0).1 = 0 := rfl
      omega⟩
  obtain ⟨d_1, d_2⟩ := e
  simp only at b2 b3 b4
  subst b2
  rw [b1]
  simp only [obs]
  have hfc := fG_cnt (F := tS s 1) hX hi hx
  have hdc := dG_cnt (D := tS s 37) hX hk hl
  have efG : fG n (tS s 1) X i = gat P (tS s 1 i) n := by rw [← hP]; rfl
  have edG : dG n (tS s 37) X k = gat Q (tS s 37 k) n := by rw [← hQ]; rfl
  rw [efG] at hfc
  rw [edG] at hdc
  have hc1 : (gat P (tS s 1 i) n).1 ≤ 6 := Nat.le_trans (gat_le n) hn
  obtain ⟨σ5, c1, c2, c3⟩ := m_sorts (k := 82) (σ := d_2) (c := (gat P (tS s 1 i) n).1) ln_82 hc1
  rw [show 75 + 7 = 82 from rfl, c1]
  simp only [obs]
  obtain ⟨σ6, c4, c5, c6⟩ := m_sorts (k := 83) (σ := σ5) (c := (gat Q (tS s 37 k) n).1) ln_83 (Nat.le_trans (gat_le n) hn)
  rw [show 75 + 8 = 83 from rfl, c4]
  simp only [obs]
  have v82 : ∀ t, t < (gat P (tS s 1 i) n).1 → σ6 82 t = Srt (gat P (tS s 1 i) n).2 (gat P (tS s 1 i) n).1 t := fun t ht => by
    rw [c5.at (by decide), c3 t ht]
    exact Srt_cong (fun a ha => by rw [b3.at (by decide), a4 a ha]) t ht
  have v83 : ∀ t, t < (gat Q (tS s 37 k) n).1 → σ6 83 t = Srt (gat Q (tS s 37 k) n).2 (gat Q (tS s 37 k) n).1 t := fun t ht => by
    rw [c6 t ht]
    exact Srt_cong (fun a ha => by rw [c2.at (by decide), b4 a ha]) t ht
  rw [lo_run (f := f_X9_leastProduct_L133 (nI (gat P (tS s 1 i) n).1, e_2) σ6 75) (fun a => (sm a (fun a => Srt (gat P (tS s 1 i) n).2 (gat P (tS s 1 i) n).1 a * Srt (gat Q (tS s 37 k) n).2 (gat Q (tS s 37 k) n).1 ((gat P (tS s 1 i) n).1 - 1 - a)), nI a)) (n := (gat P (tS s 1 i) n).1) (e := lpS n (tS s 1) (tS s 37) X i k) (fun a ha => by
    unfold f_X9_leastProduct_L133
    simp only
    rw [if_neg (nI_ge ha (by omega)), show 75 + 7 = 82 from rfl, show 75 + 8 = 83 from rfl, a_82 (by omega), isub1 (by omega), isb (by omega), a_83 (by omega), v82 a ha, v83 _ (by omega)]
    simp only [obs, sm]
    rw [nI_s]) (by
    unfold f_X9_leastProduct_L133
    simp only
    rw [if_pos (nI_le (Nat.le_refl _) (by omega))]
    unfold lpS
    rw [efG, edG]) (s := (0, 0)) rfl]
  refine ⟨σ6, rfl, fun q hq => ?_⟩
  have q1 : q ∉ [82] := fun z => hq (by simp at z; simp [z])
  have q2 : q ∉ [83] := fun z => hq (by simp at z; simp [z])
  rw [c5 q q2, c2 q q1, b3 q q2, a3 q q1]
theorem m_entryOf {σ : Sg} {n i k : Nat} {s X : Nat → Int32} (hs : EqS (σ 76) s) (hg : Gd n s) (hX : Fx n X) (hw : ∀ i, i < 6 → σ 81 i = X i) (hi : i < n) (hk : k < n) (hx : X i = -1) (hl : frl n X k = true) : ∃ σ', f_X9_entryOf σ 75 (nI i) (nI k) = some (enS n (tS s 1) (tS s 37) (tS s 73) X i k, σ') ∧ Fr [82, 83] σ σ' := by
  have hn := hX.2.1
  have h0 : σ 76 0 = nI n := by rw [hs 0 (by omega), hg.2.2.1]
  have eF : ∀ i j, i < 6 → j < 6 → f_X9_flow σ 75 (nI i) (nI j) = some (tS s 1 i j) := fun i j hi hj => by rw [m_flow hi hj, rm_t hs (by omega)]
  have eD : ∀ i j, i < 6 → j < 6 → f_X9_far σ 75 (nI i) (nI j) = some (tS s 37 i j) := fun i j hi hj => by rw [m_far hi hj, rm_t hs (by omega)]
  have eC : ∀ i j, i < 6 → j < 6 → f_X9_price σ 75 (nI i) (nI j) = some (tS s 73 i j) := fun i j hi hj => by rw [m_price hi hj, rm_t hs (by omega)]
  have w81 : ∀ i, i < 6 → ald σ (75 + 6) (nI i) = some (X i) := fun i hi => by rw [show 75 + 6 = 81 from rfl, a_81 hi, hw i hi]
  unfold f_X9_entryOf
  rw [eC i k (by omega) (by omega), eF i i (by omega) (by omega), eD k k (by omega) (by omega)]
  simp only [obs]
  rw [lo_run (f := f_X9_entryOf_L24 σ 75 (nI i) (nI k)) (fun j => (tS s 73 i k + tS s 1 i i * tS s 37 k k + sm j (fun j => if X j = -1 then 0 else tS s 1 i j * tS s 37 k (ix (X j)) + tS s 1 j i * tS s 37 (ix (X j)) k), nI j)) (n := n) (e := linS n (tS s 1) (tS s 37) (tS s 73) X i k) (fun j hj => by
    unfold f_X9_entryOf_L24 f_X9_entryOf_J92
    simp only
    rw [m_n h0]
    simp only [obs]
    rw [if_neg (nI_ge hj (by omega)), w81 j (by omega)]
    simp only [obs, sm]
    by_cases c : X j = -1
    · rw [if_pos c, if_pos c, nI_s, Int32.add_assoc]
    · rw [if_neg c, if_neg c]
      obtain ⟨x, hx, ex⟩ := (hX.2.2.1 j hj).resolve_left c
      rw [ex, ix_nI (by omega), eF i j (by omega) (by omega)]
      simp only [obs]
      rw [eD k x (by omega) (by omega), eF j i (by omega) (by omega)]
      simp only [obs]
      rw [eD x k (by omega) (by omega)]
      simp only [obs]
      rw [nI_s, Int32.add_assoc (tS s 73 i k + tS s 1 i i * tS s 37 k k)]) (by
    unfold f_X9_entryOf_L24
    simp only
    rw [m_n h0]
    simp only [obs]
    rw [if_pos (nI_le (Nat.le_refl n) (by omega))]
    rfl) (by simp [sm, nI_0])]
  simp only [obs]
  obtain ⟨σ', a1, a2⟩ := m_leastProduct hs hg hX hw hi hk hx hl
  rw [a1]
  exact ⟨σ', rfl, a2⟩
