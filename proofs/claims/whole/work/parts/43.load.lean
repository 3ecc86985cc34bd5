-- the class loads its bounds
def Fb (kb : Nat) (σ σ' : Sg) : Prop := ∀ q, (q < kb ∨ kb + 6 ≤ q) → σ' q = σ q
theorem Fb.rf {kb : Nat} {σ : Sg} : Fb kb σ σ := fun _ _ => rfl
theorem Fb.tr {kb : Nat} {σ σ1 σ2 : Sg} (h : Fb kb σ σ1) (h2 : Fb kb σ1 σ2) : Fb kb σ σ2 := fun q hq => (h2 q hq).trans (h q hq)
theorem Fb.si {kb k j : Nat} {σ σ1 : Sg} {x : Int32} (h : Fb kb σ σ1) (h1 : kb ≤ k) (h2 : k < kb + 6) : Fb kb σ (si σ1 k j x) := fun q hq => by rw [si_oth (by omega)]; exact h q hq
theorem Fb.of {kb k row : Nat} {σ σ1 σ2 : Sg} (h : Fb kb σ σ1) (h1 : kb ≤ k) (h2 : k < kb + 6) (hr : Rk k row σ1 σ2) : Fb kb σ σ2 := fun q hq => by rw [hr.1.at (fun z => by have := List.mem_singleton.mp z; omega)]; exact h q hq
theorem partS_cong {n : Nat} {F D C : Nat → Nat → Int32} {a b : Nat → Int32} (h : ∀ i, i < n → a i = b i) : partS n F D C a = partS n F D C b := sm_cong fun i hi => by
  rw [h i hi]
  split
  · rfl
  · congr 1
    exact sm_cong fun j hj => by rw [h j hj]
theorem kb_ln : ∀ kb, kb = 48 ∨ kb = 61 → ln (kb + 1) = 36 ∧ ln (kb + 2) = 6 ∧ ln (kb + 3) = 36 ∧ ln (kb + 4) = 36 ∧ ln (kb + 5) = 64 := by
  intro kb h
  rcases h with rfl | rfl <;> decide +kernel
theorem kf_ln : ∀ kf, kf = 6 ∨ kf = 70 ∨ kf = 74 → ln kf = 6 := by
  intro kf h
  rcases h with rfl | rfl | rfl <;> decide +kernel
theorem or_bit : ∀ m, m < 64 → ∀ i, i < 6 → nI m ||| ((1 : Int32) <<< (nI i &&& 31)) = nI (m ||| 2 ^ i) := fun m hm i hi => by rw [shl_6 i hi, (or_64 m hm i hi).2]
/-- the set of the free facilities -/
def FFs (X : Nat → Int32) : Nat → Nat
  | 0 => 0
  | i + 1 => if X i = -1 then FFs X i ||| 2 ^ i else FFs X i
theorem FFs_ok {X : Nat → Int32} : ∀ i, i ≤ 6 → FFs X i < 64 ∧ ∀ l, l < 6 → (FFs X i).testBit l = (decide (l < i) && decide (X l = -1))
  | 0, _ => ⟨by show 0 < 64; omega, fun l hl => by simp [FFs]⟩
  | i + 1, hi => by
    obtain ⟨h1, h2⟩ := FFs_ok (X := X) i (by omega)
    unfold FFs
    by_cases c : X i = -1
    · rw [if_pos c]
      refine ⟨(or_64 _ h1 i (by omega)).1, fun l hl => ?_⟩
      rw [bit_or _ h1 i (by omega) l hl, h2 l hl]
      by_cases e : l = i
      · subst e
        simp [c]
      · have : (decide (l < i)) = decide (l < i + 1) := by
          rw [decide_eq_decide]
          omega
        simp [e, this]
    · rw [if_neg c]
      refine ⟨h1, fun l hl => ?_⟩
      rw [h2 l hl]
      by_cases e : l = i
      · subst e
        simp [c]
      · have : (decide (l < i)) = decide (l < i + 1) := by
          rw [decide_eq_decide]
          omega
        rw [this]
theorem cnt_le {P : Nat → Bool} : ∀ j, cnt P j ≤ j
  | 0 => Nat.le_refl 0
  | j + 1 => by
    have := cnt_le (P := P) j
    unfold cnt
    split <;> omega
theorem c_collect {σ : Sg} {kb kf n : Nat} {X : Nat → Int32} (hb : kb = 48 ∨ kb = 61) (hf : kf = 6 ∨ kf = 70 ∨ kf = 74) (hX : Fx n X) (hv : ∀ i, i < 6 → σ kf i = X i) (h2 : σ kb 2 = nI n) : ∃ σ', f_X1_collectFree σ kb kf = some σ' ∧ Fr [kb, kb + 2] σ σ' ∧ σ' kb 2 = nI n ∧ σ' kb 3 = σ kb 3 ∧ σ' kb 4 = nI (FLs n X) ∧ σ' kb 5 = nI (FFs X n) ∧ σ' kb 0 = nI (cnt (frf X) n) ∧ ∀ i, i < n → X i = -1 → σ' (kb + 2) (cnt (frf X) i) = nI i := by
  have hn := hX.2.1
  obtain ⟨l1, l2, l3, l4, l5⟩ := kb_ln kb hb
  have hkf := kf_ln kf hf
  unfold f_X1_collectFree
  rw [c_takenBy hX hkf hv]
  simp only [obs]
  rw [h2, (FL_key n (by omega) (tkS X 6) (tkS_ok hX 6 (by omega)).1).1]
  have e4 : nI ((2 ^ n - 1) &&& (63 ^^^ tkS X 6)) = nI (FLs n X) := rfl
  rw [e4]
  generalize hσ0 : si (si (si σ kb 4 (nI (FLs n X))) kb 5 0) kb 0 0 = σ0
  have f0 : Fr [kb, kb + 2] σ σ0 := by rw [← hσ0]; exact ((Fr.rf.si List.mem_cons_self).si List.mem_cons_self).si List.mem_cons_self
  have g2 : σ0 kb 2 = nI n := by rw [← hσ0, si_miss (by omega), si_miss (by omega), si_miss (by omega), h2]
  have g3 : σ0 kb 3 = σ kb 3 := by rw [← hσ0, si_miss (by omega), si_miss (by omega), si_miss (by omega)]
  have g4 : σ0 kb 4 = nI (FLs n X) := by rw [← hσ0, si_miss (by omega), si_miss (by omega), si_hit]
  have g5 : σ0 kb 5 = nI 0 := by rw [← hσ0, si_miss (by omega), si_hit]; rfl
  have g0 : σ0 kb 0 = nI 0 := by rw [← hσ0, si_hit]; rfl
  obtain ⟨e, h1, h3⟩ := lo_it (f := f_X1_collectFree_L31 kb kf) (fun i σ' => Fr [kb, kb + 2] σ σ' ∧ σ' kb 2 = nI n ∧ σ' kb 3 = σ kb 3 ∧ σ' kb 4 = nI (FLs n X) ∧ σ' kb 5 = nI (FFs X i) ∧ σ' kb 0 = nI (cnt (frf X) i) ∧ ∀ j, j < i → X j = -1 → σ' (kb + 2) (cnt (frf X) j) = nI j) n (fun e => Fr [kb, kb + 2] σ e ∧ e kb 2 = nI n ∧ e kb 3 = σ kb 3 ∧ e kb 4 = nI (FLs n X) ∧ e kb 5 = nI (FFs X n) ∧ e kb 0 = nI (cnt (frf X) n) ∧ ∀ j, j < n → X j = -1 → e (kb + 2) (cnt (frf X) j) = nI j) (fun i σ' hi ⟨b1, b2, b3, b4, b5, b6, b7⟩ => by
    have hkv : σ' kf i = X i := by
      rw [b1.at (fun z => by simp only [List.mem_cons, List.not_mem_nil, or_false] at z; omega), hv i (by omega)]
    have hc := cnt_le (P := frf X) i
    obtain ⟨o1, o2⟩ := FFs_ok (X := X) i (by omega)
    unfold f_X1_collectFree_L31 f_X1_collectFree_J82
    simp only
    rw [b2, if_neg (nI_ge hi (by omega)), item_ok (by omega) (ln_le _), hkv]
    simp only [obs]
    by_cases c : X i = -1
    · have ef : frf X i = true := decide_eq_true c
      have n0 : (si σ' kb 5 (σ' kb 5 ||| (1 : Int32) <<< (nI i &&& 31))) kb 0 = nI (cnt (frf X) i) := by rw [si_miss (by omega), b6]
      rw [if_pos c, n0, setItem_ok (by omega) (ln_le _)]
      simp only [obs]
      rw [si_oth (by omega), n0, nI_s, b5, or_bit _ o1 i (by omega), nI_s]
      refine ⟨_, rfl, ((b1.si List.mem_cons_self).si (by simp)).si List.mem_cons_self, ?_, ?_, ?_, ?_, ?_, fun j hj hx => ?_⟩
      · rw [si_miss (by omega), si_oth (by omega), si_miss (by omega), b2]
      · rw [si_miss (by omega), si_oth (by omega), si_miss (by omega), b3]
      · rw [si_miss (by omega), si_oth (by omega), si_miss (by omega), b4]
      · rw [si_miss (by omega), si_oth (by omega), si_hit]
        show nI (FFs X i ||| 2 ^ i) = nI (if X i = -1 then FFs X i ||| 2 ^ i else FFs X i)
        rw [if_pos c]
      · rw [si_hit]
        show nI (cnt (frf X) i + 1) = nI (cnt (frf X) i + if frf X i = true then 1 else 0)
        rw [if_pos ef]
      · rw [si_oth (by omega)]
        by_cases cj : j = i
        · rw [cj, si_hit]
        · have hlt : cnt (frf X) j < cnt (frf X) i := by
            have key : ∀ m, j + 1 ≤ m → cnt (frf X) j + 1 ≤ cnt (frf X) m := by
              intro m
              induction m with
              | zero => intro h; omega
              | succ m ih =>
                intro h
                by_cases q : j = m
                · rw [← q]
                  show _ ≤ cnt (frf X) j + (if frf X j = true then 1 else 0)
                  rw [if_pos (show frf X j = true from decide_eq_true hx)]
                  omega
                · have := ih (by omega)
                  show _ ≤ cnt (frf X) m + _
                  omega
            have := key i (by omega)
            omega
          rw [si_miss (by omega), si_oth (by omega)]
          exact b7 j (by omega) hx
    · have ef : ¬ frf X i = true := fun z => c (of_decide_eq_true z)
      rw [if_neg c, nI_s]
      refine ⟨_, rfl, b1, b2, b3, b4, ?_, ?_, fun j hj hx => ?_⟩
      · rw [b5]
        show _ = nI (if X i = -1 then FFs X i ||| 2 ^ i else FFs X i)
        rw [if_neg c]
      · rw [b6]
        show _ = nI (cnt (frf X) i + if frf X i = true then 1 else 0)
        rw [if_neg ef]
        rfl
      · by_cases cj : j = i
        · rw [cj] at hx
          exact absurd hx c
        · exact b7 j (by omega) hx) (fun σ' hp => by
    unfold f_X1_collectFree_L31
    simp only
    rw [hp.2.1, if_pos (nI_le (Nat.le_refl n) (by omega))]
    exact ⟨_, rfl, hp⟩) (σ := σ0) (z := 0) rfl ⟨f0, g2, g3, g4, g5, g0, fun j hj => by omega⟩
  rw [h1]
  exact ⟨e, rfl, h3⟩
theorem c_linear {σ : Sg} {kb kf n i k : Nat} {s X : Nat → Int32} (hf : kf = 6 ∨ kf = 70 ∨ kf = 74) (hX : Fx n X) (hv : ∀ i, i < 6 → σ kf i = X i) (h2 : σ kb 2 = nI n) (hs : EqS (snap σ 1) s) (hi : i < n) (hk : k < n) : f_X1_linear σ kb 1 kf (nI i) (nI k) = some (linS n (tS s 1) (tS s 37) (tS s 73) X i k) := by
  have hn := hX.2.1
  have hkf := kf_ln kf hf
  have eF : ∀ i j, i < 6 → j < 6 → f_X8_at σ (1 + 1) (nI i) (nI j) = some (tS s 1 i j) := fun i j hi hj => by rw [at6 l1_2 hi hj, rc_F hs]
  have eD : ∀ i j, i < 6 → j < 6 → f_X8_at σ (1 + 2) (nI i) (nI j) = some (tS s 37 i j) := fun i j hi hj => by rw [at6 l1_3 hi hj, rc_D hs]
  have eC : ∀ i j, i < 6 → j < 6 → f_X8_at σ (1 + 3) (nI i) (nI j) = some (tS s 73 i j) := fun i j hi hj => by rw [at6 l1_4 hi hj, rc_C hs]
  unfold f_X1_linear
  rw [eC i k (by omega) (by omega), eF i i (by omega) (by omega), eD k k (by omega) (by omega)]
  simp only [obs]
  rw [lo_run (f := f_X1_linear_L37 σ kb kf 1 (nI i) (nI k)) (fun j => (tS s 73 i k + tS s 1 i i * tS s 37 k k + sm j (fun j => if X j = -1 then 0 else tS s 1 i j * tS s 37 k (ix (X j)) + tS s 1 j i * tS s 37 (ix (X j)) k), nI j)) (n := n) (e := linS n (tS s 1) (tS s 37) (tS s 73) X i k) (fun j hj => by
    unfold f_X1_linear_L37 f_X1_linear_J114
    simp only
    rw [h2, if_neg (nI_ge hj (by omega)), item_ok (by omega) (ln_le _), hv j (by omega)]
    simp only [obs, sm]
    by_cases c : X j = -1
    · rw [if_pos c, if_pos c, nI_s, Int32.add_zero]
    · rw [if_neg c, if_neg c]
      obtain ⟨x, hx, ex⟩ := (hX.2.2.1 j hj).resolve_left c
      rw [ex, ix_nI (by omega), eF i j (by omega) (by omega), eD k x (by omega) (by omega), eF j i (by omega) (by omega), eD x k (by omega) (by omega)]
      simp only [obs]
      rw [nI_s]
      congr 3
      grind) (by
    unfold f_X1_linear_L37
    simp only
    rw [h2, if_pos (nI_le (Nat.le_refl n) (by omega))]
    rfl) (by simp [sm, nI_0])]
  rfl
/-- what the class holds of the bounds -/
def BL (n : Nat) (s X : Nat → Int32) (σ : Sg) (kb : Nat) : Prop := σ kb 2 = nI n ∧ σ kb 3 = partS n (tS s 1) (tS s 37) (tS s 73) X ∧ σ kb 4 = nI (FLs n X) ∧ σ kb 0 = nI (cnt (frf X) n) ∧ (∀ i, i < n → X i = -1 → σ (kb + 2) (cnt (frf X) i) = nI i) ∧ ∀ i k, i < n → k < n → X i = -1 → frl n X k = true → σ (kb + 1) (6 * i + k) = enS n (tS s 1) (tS s 37) (tS s 73) X i k
theorem c_load {σ : Sg} {kb kf n : Nat} {s X : Nat → Int32} (hb : kb = 48 ∨ kb = 61) (hf : kf = 6 ∨ kf = 70 ∨ kf = 74) (hX : Fx n X) (hg : Gd n s) (hv : ∀ i, i < 6 → σ kf i = X i) (hs : EqS (snap σ 1) s) : ∃ σ', f_X1_load σ kb 1 kf = some σ' ∧ Fb kb σ σ' ∧ BL n s X σ' kb := by
  have hn := hX.2.1
  obtain ⟨l1, l2, l3, l4, l5⟩ := kb_ln kb hb
  have hkf := kf_ln kf hf
  have hM := FLs_lt hX
  obtain ⟨o1, o2⟩ := FFs_ok (X := X) n (by omega)
  have h10 : σ 1 0 = nI n := by rw [rc_0 hs, hg.2.2.1]
  unfold f_X1_load
  rw [h10]
  generalize hσ1 : si σ kb 2 (nI n) = σ1
  have F1 : Fb kb σ σ1 := by rw [← hσ1]; exact Fb.rf.si (by omega) (by omega)
  have S1 : EqS (snap σ1 1) s := by rw [snap_fr (σ := σ) (fun d hd => F1 _ (by omega))]; exact hs
  have v1 : ∀ i, i < 6 → σ1 kf i = X i := fun i hi => by rw [F1 kf (by omega), hv i hi]
  have vv : ∀ i, i < n → vec σ1 kf 0 i = X i := fun i hi => by rw [vec_at (by omega), Nat.zero_add, v1 i (by omega)]
  have pc1 : f_X6_partCost σ1 1 kf = some (partS n (tS s 1) (tS s 37) (tS s 73) X) := by
    rw [partCost_ok (by rw [rc_0 S1, hg.2.2.1]) hn hkf (fun i hi => by rw [vv i hi]; exact hX.2.2.1 i hi), rc_F S1, rc_D S1, rc_C S1, partS_cong vv]
  rw [pc1]
  simp only [obs]
  generalize hσ2 : si σ1 kb 3 (partS n (tS s 1) (tS s 37) (tS s 73) X) = σ2
  have F2 : Fb kb σ σ2 := by rw [← hσ2]; exact F1.si (by omega) (by omega)
  obtain ⟨σ3, a1, a2, a3, a4, a5, a6, a7, a8⟩ := c_collect (σ := σ2) hb hf hX (fun i hi => by rw [F2 kf (by omega), hv i hi]) (by rw [← hσ2, si_miss (by omega), ← hσ1, si_hit])
  have a4' : σ3 kb 3 = partS n (tS s 1) (tS s 37) (tS s 73) X := by rw [a4, ← hσ2, si_hit]
  have F3 : Fb kb σ σ3 := fun q hq => by rw [a2.at (fun z => by simp only [List.mem_cons, List.not_mem_nil, or_false] at z; omega)]; exact F2 q hq
  rw [a1]
  simp only [obs]
  -- the sorted rows
  have snK : ∀ σ', Fb kb σ σ' → EqS (snap σ' 1) s := fun σ' h => by rw [snap_fr (σ := σ) (fun d hd => h _ (by omega))]; exact hs
  have tF : ∀ σ', Fb kb σ σ' → ∀ row j, row < 6 → j < 6 → σ' 2 (6 * row + j) = tS s 1 row j := fun σ' h row j h1 h2 => by rw [← rc_F (snK σ' h), tb_at h1 h2, Nat.zero_add]
  have tD : ∀ σ', Fb kb σ σ' → ∀ row j, row < 6 → j < 6 → σ' 3 (6 * row + j) = tS s 37 row j := fun σ' h row j h1 h2 => by rw [← rc_D (snK σ' h), tb_at h1 h2, Nat.zero_add]
  have eqF : ∀ row, row < n → gat (fun j => decide (j ≠ row) && (FFs X n).testBit j) (tS s 1 row) n = fG n (tS s 1) X row := fun row hr => gat_cong n (fun j hj => ⟨by rw [o2 j (by omega)]; simp [hj], fun _ => rfl⟩)
  have eqD : ∀ row, gat (fun j => decide (j ≠ row) && (FLs n X).testBit j) (tS s 37 row) n = dG n (tS s 37) X row := fun row => rfl
  obtain ⟨σ4, b1, b2⟩ := lo_it (f := f_X1_load_L24 kb 1) (fun row σ' => Fb kb σ σ' ∧ (∀ j, σ' kb j = σ3 kb j) ∧ (∀ j, σ' (kb + 2) j = σ3 (kb + 2) j) ∧ (∀ r, r < row → X r = -1 → ∀ t, t < (fG n (tS s 1) X r).1 → σ' (kb + 3) (6 * r + t) = Srt (fG n (tS s 1) X r).2 (fG n (tS s 1) X r).1 t) ∧ ∀ r, r < row → frl n X r = true → ∀ t, t < (dG n (tS s 37) X r).1 → σ' (kb + 4) (6 * r + t) = Srt (dG n (tS s 37) X r).2 (dG n (tS s 37) X r).1 t) n (fun e => Fb kb σ e ∧ (∀ j, e kb j = σ3 kb j) ∧ (∀ j, e (kb + 2) j = σ3 (kb + 2) j) ∧ (∀ r, r < n → X r = -1 → ∀ t, t < (fG n (tS s 1) X r).1 → e (kb + 3) (6 * r + t) = Srt (fG n (tS s 1) X r).2 (fG n (tS s 1) X r).1 t) ∧ ∀ r, r < n → frl n X r = true → ∀ t, t < (dG n (tS s 37) X r).1 → e (kb + 4) (6 * r + t) = Srt (dG n (tS s 37) X r).2 (dG n (tS s 37) X r).1 t) (fun row σ' hr ⟨c1, c2, c3, c4, c5⟩ => by
    have q2 : σ' kb 2 = nI n := by rw [c2, a3]
    have q4 : σ' kb 4 = nI (FLs n X) := by rw [c2, a5]
    have q5 : σ' kb 5 = nI (FFs X n) := by rw [c2, a6]
    have gl : ∀ r, (fG n (tS s 1) X r).1 ≤ n := fun r => gat_le n
    have gd : ∀ r, (dG n (tS s 37) X r).1 ≤ n := fun r => gat_le n
    have s1 : ∃ σ5, f_X1_sortRow σ' kb 2 (nI row) (nI (FFs X n)) (kb + 3) = some σ5 ∧ Rk (kb + 3) row σ' σ5 ∧ (X row = -1 → ∀ t, t < (fG n (tS s 1) X row).1 → σ5 (kb + 3) (6 * row + t) = Srt (fG n (tS s 1) X row).2 (fG n (tS s 1) X row).1 t) := by
      by_cases c : X row = -1
      · obtain ⟨σ5, d1, d2, d3⟩ := c_sortRow (σ := σ') (kb := kb) (kt := 2) (ks := kb + 3) (V := tS s 1) o1 hn hr q2 (by decide +kernel) l3 (by omega) (fun j hj => tF σ' c1 row j (by omega) (by omega)) (by rw [o2 row (by omega)]; simp [hr, c])
        rw [eqF row hr] at d3
        exact ⟨σ5, d1, d2, fun _ => d3⟩
      · exact ⟨σ', c_sortRow_no (n := n) o1 (by omega) (by rw [o2 row (by omega)]; simp [c]), Rk.rf, fun z => absurd z c⟩
    obtain ⟨σ5, d1, d2, d3⟩ := s1
    have F5 : Fb kb σ σ5 := c1.of (by omega) (by omega) d2
    have k5 : ∀ q, q ≠ kb + 3 → σ5 q = σ' q := fun q hq => d2.1.at (fun z => hq (List.mem_singleton.mp z))
    have s2 : ∃ σ6, f_X1_sortRow σ5 kb 3 (nI row) (nI (FLs n X)) (kb + 4) = some σ6 ∧ Rk (kb + 4) row σ5 σ6 ∧ (frl n X row = true → ∀ t, t < (dG n (tS s 37) X row).1 → σ6 (kb + 4) (6 * row + t) = Srt (dG n (tS s 37) X row).2 (dG n (tS s 37) X row).1 t) := by
      by_cases c : frl n X row = true
      · obtain ⟨σ6, d4, d5, d6⟩ := c_sortRow (σ := σ5) (kb := kb) (kt := 3) (ks := kb + 4) (V := tS s 37) hM hn hr (by rw [k5 kb (by omega)]; exact q2) (by decide +kernel) l4 (by omega) (fun j hj => tD σ5 F5 row j (by omega) (by omega)) c
        rw [eqD row] at d6
        exact ⟨σ6, d4, d5, fun _ => d6⟩
      · exact ⟨σ5, c_sortRow_no (n := n) hM (by omega) c, Rk.rf, fun z => absurd z c⟩
    obtain ⟨σ6, d4, d5, d6⟩ := s2
    have k6 : ∀ q, q ≠ kb + 4 → σ6 q = σ5 q := fun q hq => d5.1.at (fun z => hq (List.mem_singleton.mp z))
    unfold f_X1_load_L24
    simp only
    rw [q2, if_neg (nI_ge hr (by omega)), q5, show 1 + 1 = 2 from rfl, d1]
    simp only [obs]
    rw [k5 kb (by omega), q4, show 1 + 2 = 3 from rfl, d4]
    simp only [obs]
    rw [nI_s]
    refine ⟨_, rfl, F5.of (by omega) (by omega) d5, fun j => by rw [k6 kb (by omega), k5 kb (by omega), c2], fun j => by rw [k6 _ (by omega), k5 _ (by omega), c3], fun r hr2 hx t ht => ?_, fun r hr2 hx t ht => ?_⟩
    · rw [k6 _ (by omega)]
      by_cases e : r = row
      · subst e
        exact d3 hx t ht
      · have := gl r
        rw [d2.2 _ (by omega)]
        exact c4 r (by omega) hx t ht
    · by_cases e : r = row
      · subst e
        exact d6 hx t ht
      · have := gd r
        rw [d5.2 _ (by omega), k5 _ (by omega)]
        exact c5 r (by omega) hx t ht) (fun σ' ⟨c1, c2, c3, c4, c5⟩ => by
    unfold f_X1_load_L24
    simp only
    rw [c2, a3, if_pos (nI_le (Nat.le_refl n) (by omega))]
    exact ⟨_, rfl, c1, c2, c3, c4, c5⟩) (σ := σ3) (z := 0) rfl ⟨F3, fun _ => rfl, fun _ => rfl, fun r hr => by omega, fun r hr => by omega⟩
  obtain ⟨b3, b4, b5, b6, b7⟩ := b2
  rw [b1]
  simp only [obs]
  -- the entries
  have q2 : σ4 kb 2 = nI n := by rw [b4, a3]
  have q4 : σ4 kb 4 = nI (FLs n X) := by rw [b4, a5]
  have q5 : σ4 kb 5 = nI (FFs X n) := by rw [b4, a6]
  have q0 : σ4 kb 0 = nI (cnt (frf X) n) := by rw [b4, a7]
  have hcn := cnt_le (P := frf X) n
  have ent : ∀ σ' i k, Fr [kb + 1] σ4 σ' → i < n → k < n → X i = -1 → frl n X k = true → f_X1_linear σ' kb 1 kf (nI i) (nI k) = some (linS n (tS s 1) (tS s 37) (tS s 73) X i k) ∧ f_X1_leastProduct σ' kb (nI i) (nI k) = some (lpS n (tS s 1) (tS s 37) X i k) := by
    intro σ' i k hF hi hk hx hl
    have kk : ∀ q, q ≠ kb + 1 → σ' q = σ4 q := fun q hq => hF.at (fun z => hq (List.mem_singleton.mp z))
    have F' : Fb kb σ σ' := fun q hq => by rw [kk q (by omega)]; exact b3 q hq
    refine ⟨c_linear hf hX (fun i hi => by rw [F' kf (by omega), hv i hi]) (by rw [kk kb (by omega), q2]) (snK σ' F') hi hk, ?_⟩
    have hfc := fG_cnt (F := tS s 1) hX hi hx
    have hdc := dG_cnt (D := tS s 37) hX hk hl
    have z0 : σ' kb 0 = nI (cnt (frf X) n) := by rw [kk kb (by omega), q0]
    unfold f_X1_leastProduct
    rw [lo_run (f := f_X1_leastProduct_L5 σ' kb (nI i) (nI k)) (fun a => (sm a (fun a => Srt (fG n (tS s 1) X i).2 (fG n (tS s 1) X i).1 a * Srt (dG n (tS s 37) X k).2 (dG n (tS s 37) X k).1 ((fG n (tS s 1) X i).1 - 1 - a)), nI a)) (n := (fG n (tS s 1) X i).1) (e := lpS n (tS s 1) (tS s 37) X i k) (fun a ha => by
      unfold f_X1_leastProduct_L5
      simp only
      rw [z0, isub1 (by omega), if_neg (nI_ge (by omega) (by omega)), show (2 : Int32) = nI 2 from rfl, isb (by omega), isb (by omega), at_ok (by omega) (ln_le _), at_ok (by omega) (ln_le _)]
      simp only [obs, sm]
      rw [kk _ (by omega), kk _ (by omega), b6 i hi hx a ha, show cnt (frf X) n - 2 - a = (fG n (tS s 1) X i).1 - 1 - a by omega, b7 k hk hl _ (by omega), nI_s]) (by
      unfold f_X1_leastProduct_L5
      simp only
      rw [z0, isub1 (by omega), if_pos (nI_le (by omega) (by omega))]
      rfl) (s := (0, 0)) rfl]
    rfl
  have inner : ∀ (i : Nat) (σ8 σ' : Sg), i < n → Fr [kb + 1] σ4 σ' → (∀ i' k, i' < i → k < n → X i' = -1 → frl n X k = true → σ' (kb + 1) (6 * i' + k) = enS n (tS s 1) (tS s 37) (tS s 73) X i' k) → ∃ e, lo (f_X1_load_L85 kb (nI i, σ8) 1 kf) (0, σ') = some e ∧ Fr [kb + 1] σ4 e ∧ ∀ i' k, i' < i + 1 → k < n → X i' = -1 → frl n X k = true → e (kb + 1) (6 * i' + k) = enS n (tS s 1) (tS s 37) (tS s 73) X i' k := by
    intro i σ8 σ' hi hF hh
    refine lo_it (fun k σ'' => Fr [kb + 1] σ4 σ'' ∧ ∀ i' k', (i' < i ∨ (i' = i ∧ k' < k)) → k' < n → X i' = -1 → frl n X k' = true → σ'' (kb + 1) (6 * i' + k') = enS n (tS s 1) (tS s 37) (tS s 73) X i' k') n _ (fun k σ'' hk ⟨e1, e2⟩ => ?_) (fun σ'' ⟨e1, e2⟩ => ?_) rfl ⟨hF, fun i' k' h1 h2 => hh i' k' (by omega) h2⟩
    · have kk : ∀ q, q ≠ kb + 1 → σ'' q = σ4 q := fun q hq => e1.at (fun z => hq (List.mem_singleton.mp z))
      unfold f_X1_load_L85 f_X1_load_J144
      simp only
      rw [kk kb (by omega), q2, if_neg (nI_ge hk (by omega)), q5, has_ok o1 (by omega), q4]
      simp only [obs]
      by_cases c : (FFs X n).testBit i = true
      · have cx : X i = -1 := by
          rw [o2 i (by omega)] at c
          simp only [Bool.and_eq_true, decide_eq_true_eq] at c
          exact c.2
        rw [if_pos c, if_neg (by decide), has_ok hM (by omega)]
        simp only [obs]
        by_cases c2 : (FLs n X).testBit k = true
        · obtain ⟨t1, t2⟩ := ent σ'' i k e1 hi hk cx c2
          rw [if_pos c2, if_neg (by decide), t1]
          simp only [obs]
          rw [t2]
          simp only [obs]
          rw [put_ok (by omega) (ln_le _)]
          simp only [obs]
          rw [nI_s]
          refine ⟨_, rfl, e1.si (List.mem_singleton.mpr rfl), fun i' k' h1 h2 hx hl => ?_⟩
          by_cases e : i' = i ∧ k' = k
          · obtain ⟨rfl, rfl⟩ := e
            rw [si_hit]
            rfl
          · rw [si_miss (by omega)]
            exact e2 i' k' (by omega) h2 hx hl
        · rw [if_neg c2, if_pos rfl, nI_s]
          refine ⟨_, rfl, e1, fun i' k' h1 h2 hx hl => ?_⟩
          by_cases e : i' = i ∧ k' = k
          · obtain ⟨rfl, rfl⟩ := e
            exact absurd hl c2
          · exact e2 i' k' (by omega) h2 hx hl
      · rw [if_neg c, if_pos rfl, nI_s]
        refine ⟨_, rfl, e1, fun i' k' h1 h2 hx hl => ?_⟩
        by_cases e : i' = i ∧ k' = k
        · obtain ⟨rfl, rfl⟩ := e
          rw [o2 i' (by omega)] at c
          exact absurd (by simp [hi, hx]) c
        · exact e2 i' k' (by omega) h2 hx hl
    · have kk : ∀ q, q ≠ kb + 1 → σ'' q = σ4 q := fun q hq => e1.at (fun z => hq (List.mem_singleton.mp z))
      unfold f_X1_load_L85
      simp only
      rw [kk kb (by omega), q2, if_pos (nI_le (Nat.le_refl n) (by omega))]
      exact ⟨_, rfl, e1, fun i' k' h1 h2 => e2 i' k' (by omega) h2⟩
  obtain ⟨σ5, d1, d2, d3⟩ := lo_it (f := f_X1_load_L74 kb 1 kf) (fun i σ' => Fr [kb + 1] σ4 σ' ∧ ∀ i' k, i' < i → k < n → X i' = -1 → frl n X k = true → σ' (kb + 1) (6 * i' + k) = enS n (tS s 1) (tS s 37) (tS s 73) X i' k) n (fun e => Fr [kb + 1] σ4 e ∧ ∀ i' k, i' < n → k < n → X i' = -1 → frl n X k = true → e (kb + 1) (6 * i' + k) = enS n (tS s 1) (tS s 37) (tS s 73) X i' k) (fun i σ' hi ⟨e1, e2⟩ => by
    have kk : ∀ q, q ≠ kb + 1 → σ' q = σ4 q := fun q hq => e1.at (fun z => hq (List.mem_singleton.mp z))
    obtain ⟨e, i1, i2, i3⟩ := inner i σ' σ' hi e1 e2
    unfold f_X1_load_L74
    simp only
    rw [kk kb (by omega), q2, if_neg (nI_ge hi (by omega)), i1]
    simp only [obs]
    rw [nI_s]
    exact ⟨_, rfl, i2, i3⟩) (fun σ' ⟨e1, e2⟩ => by
    have kk : ∀ q, q ≠ kb + 1 → σ' q = σ4 q := fun q hq => e1.at (fun z => hq (List.mem_singleton.mp z))
    unfold f_X1_load_L74
    simp only
    rw [kk kb (by omega), q2, if_pos (nI_le (Nat.le_refl n) (by omega))]
    exact ⟨_, rfl, e1, e2⟩) (σ := σ4) (z := 0) rfl ⟨Fr.rf, fun i' k h => by omega⟩
  rw [d1]
  have kk : ∀ q, q ≠ kb + 1 → σ5 q = σ4 q := fun q hq => d2.at (fun z => hq (List.mem_singleton.mp z))
  refine ⟨σ5, rfl, fun q hq => by rw [kk q (by omega)]; exact b3 q hq, by rw [kk kb (by omega), q2], by rw [kk kb (by omega), b4, a4'], by rw [kk kb (by omega), q4], by rw [kk kb (by omega), q0], fun i hi hx => by rw [kk _ (by omega), b5, a8 i hi hx], d3⟩
