-- the children of a node
theorem pos_ex {o w : Nat → Nat} {v : Nat} : ∀ c, ∃ p, p ≤ c ∧ (p = 0 ∨ w (o (p - 1)) ≤ v) ∧ ∀ i, p ≤ i → i < c → v < w (o i)
  | 0 => ⟨0, Nat.le_refl _, Or.inl rfl, fun i h1 h2 => absurd h2 (by omega)⟩
  | c + 1 => by
    by_cases q : w (o c) ≤ v
    · exact ⟨c + 1, Nat.le_refl _, Or.inr q, fun i h1 h2 => absurd h2 (by omega)⟩
    · obtain ⟨p, h1, h2, h3⟩ := pos_ex (o := o) (w := w) (v := v) c
      refine ⟨p, by omega, h2, fun i hi hc => ?_⟩
      by_cases e : i = c
      · rw [e]; omega
      · exact h3 i hi (by omega)
theorem Od_ex {w : Nat → Nat} {P : Nat → Prop} {Q : Nat → Bool} (hQ : ∀ y, P y → Q y = true) : ∀ k, k ≤ 8 → ∃ c o, c ≤ k ∧ c ≤ cnt Q k ∧ Od c o w (fun y => y < k ∧ P y)
  | 0, _ => ⟨0, id, Nat.le_refl _, Nat.zero_le _, fun i j hij hj => absurd hj (by omega), fun i hi => absurd hi (by omega), fun y hy => absurd hy.1 (by omega)⟩
  | k + 1, hk => by
    obtain ⟨c, o, h1, h0, h2⟩ := Od_ex (w := w) (P := P) hQ k (by omega)
    by_cases hp : P k
    · obtain ⟨p, q1, q2, q3⟩ := pos_ex (o := o) (w := w) (v := w k) c
      refine ⟨c + 1, inA o p k, by omega, ?_, Od_cong (Od_ins h2 (fun y hy => hy.1) (by omega) q1 q2 q3) (fun y => ?_)⟩
      · show c + 1 ≤ cnt Q k + (if Q k = true then 1 else 0)
        rw [if_pos (hQ k hp)]
        omega
      constructor
      · intro z
        rcases z with ⟨z1, z2⟩ | z
        · exact ⟨by omega, z2⟩
        · subst z
          exact ⟨by omega, hp⟩
      · intro ⟨z1, z2⟩
        by_cases z : y = k
        · exact Or.inr z
        · exact Or.inl ⟨by omega, z2⟩
    · refine ⟨c, o, by omega, ?_, Od_cong h2 (fun y => ?_)⟩
      · have := cnt_mono (P := Q) (i := k) 1
        omega
      constructor
      · exact fun ⟨z1, z2⟩ => ⟨by omega, z2⟩
      · intro ⟨z1, z2⟩
        by_cases z : y = k
        · rw [z] at z2
          exact absurd z2 hp
        · exact ⟨by omega, z2⟩
def chB (n : Nat) (s X : Nat → Int32) : Nat := ix (brS n s X)
noncomputable def chP (n : Nat) (s X : Nat → Int32) (sy : Int32) : Nat × (Nat → Nat) := Classical.epsilon fun p => p.1 ≤ n ∧ Od p.1 p.2 (eV n s X (chB n s X)) (RQ n s X sy n)
theorem chP_ok {n : Nat} {s X : Nat → Int32} {sy : Int32} (hn : n ≤ 6) : (chP n s X sy).1 ≤ n ∧ Od (chP n s X sy).1 (chP n s X sy).2 (eV n s X (chB n s X)) (RQ n s X sy n) := by
  obtain ⟨c, o, h1, _, h2⟩ := Od_ex (w := eV n s X (chB n s X)) (P := fun y => frl n X y = true ∧ (sy = 0 ∨ (symQ n (tS s 37) (tS s 73) X (fac n)).2 y = y)) (Q := frl n X) (fun y hy => hy.1) n (by omega)
  exact Classical.epsilon_spec (p := fun p : Nat × (Nat → Nat) => p.1 ≤ n ∧ Od p.1 p.2 (eV n s X (chB n s X)) (RQ n s X sy n)) ⟨(c, o), h1, h2⟩
theorem chP_cnt {n : Nat} {s X : Nat → Int32} {sy : Int32} (hX : Fx n X) : (chP n s X sy).1 ≤ cnt (frf X) n := by
  have hn := hX.2.1
  obtain ⟨c, o, _, h1, h2⟩ := Od_ex (w := eV n s X (chB n s X)) (P := fun y => frl n X y = true ∧ (sy = 0 ∨ (symQ n (tS s 37) (tS s 73) X (fac n)).2 y = y)) (Q := frl n X) (fun y hy => hy.1) n (by omega)
  have e := (Od_uniq (Od_cong h2 (Q := RQ n s X sy n) (fun y => Iff.rfl)) (chP_ok (n := n) (s := s) (X := X) (sy := sy) hn).2).1
  rw [← e, ← free_eq hX, pc_n hX]
  exact h1
theorem br_ok {n : Nat} {s X : Nat → Int32} (hn : n ≤ 6) (h : ¬ cnt (frf X) n = 0) : brS n s X = nI (chB n s X) ∧ chB n s X < n ∧ X (chB n s X) = -1 := by
  have hb : ∃ b, b < n ∧ X b = -1 ∧ brS n s X = nI b := by
    rcases bFS_ok (n := n) (s := s) (X := X) n with ⟨_, h2⟩ | ⟨b, r, h1, _, h3, h4⟩
    · obtain ⟨i, h3, h4, _⟩ := cnt_ex (X := X) (a := 0) n (by omega)
      exact absurd h4 (h2 i h3)
    · exact ⟨b, h1, h3, by unfold brS; rw [h4]⟩
  obtain ⟨b, h1, h2, h3⟩ := hb
  have e : chB n s X = b := by unfold chB; rw [h3, ix_nI (by omega)]
  rw [e]
  exact ⟨h3, h1, h2⟩
theorem sym_low {n k : Nat} {s X : Nat → Int32} : (symQ n (tS s 37) (tS s 73) X (fac n)).2 k ≤ k := by
  rw [(sym_TL (n := n) (D := tS s 37) (C := tS s 73) (X := X) (fac n)).2 k]
  have := lwT_le (n := n) (k := k) (X := X) (L := TLr n (tS s 37) (tS s 73) (fac n)) _ (Nat.le_refl _)
  unfold lwT at this
  rwa [List.take_of_length_le (Nat.le_refl _)] at this
/-- the class's children -/
theorem c_kids {σ : Sg} {τ : Tg} {n : Nat} {s X : Nat → Int32} {sy : Int32} (hs : EqS (snap σ 1) s) (hg : Gd n s) (hX : Fx n X) (hv : ∀ i, i < 6 → σ 70 i = X i) (hB : BL n s X σ 61) (hc : ¬ cnt (frf X) n = 0) (hsy : σ 57 10 = sy) : ∃ σ', f_X5_expand σ τ 57 1 = f_X5_expand_J46 57 1 (nI (chB n s X)) (nI (chP n s X sy).1) σ' τ ∧ Fr [67, 68, 69, 71] σ σ' ∧ ∀ i, i < (chP n s X sy).1 → σ' 71 i = nI ((chP n s X sy).2 i) := by
  have hn := hX.2.1
  obtain ⟨b1, b2, b3⟩ := br_ok (s := s) hn hc
  obtain ⟨p1, p2⟩ := chP_ok (n := n) (s := s) (X := X) (sy := sy) hn
  obtain ⟨c, o, σ1, d1, d2, d3, d4, d5⟩ := c_order hg hX b2 b3 hB
  unfold f_X5_expand
  rw [show 57 + 4 = 61 from rfl, show 57 + 14 = 71 from rfl, show 57 + 10 = 67 from rfl, show 57 + 13 = 70 from rfl, c_branch (Or.inr rfl) hg hX hB, b1]
  simp only [obs]
  rw [d1]
  simp only [obs]
  rw [d2.at (by decide), hsy]
  by_cases z : sy = 0
  · rw [if_pos z]
    have hO : Od c o (eV n s X (chB n s X)) (RQ n s X sy n) := Od_cong d4 (fun y => ⟨fun ⟨y1, y2⟩ => ⟨y1, y2, Or.inl z⟩, fun ⟨y1, y2, _⟩ => ⟨y1, y2⟩⟩)
    obtain ⟨u1, u2⟩ := Od_uniq hO p2
    subst u1
    exact ⟨σ1, rfl, fun q hq => d2 q (fun h => hq (by have := List.mem_singleton.mp h; rw [this]; decide)), fun i hi => by rw [d5 i hi, u2 i hi]⟩
  · rw [if_neg z]
    obtain ⟨σ2, e1, e2, e3, e4⟩ := c_sym (σ := σ1) (kb := 67) (kf := 70) (Or.inr rfl) (Or.inr rfl) hX hg (fun i hi => by rw [d2.at (by decide)]; exact hv i hi) (by rw [snap_fr (σ := σ) (fun d hd => d2 _ (fun h => by have := List.mem_singleton.mp h; omega))]; exact hs)
    rw [e1]
    simp only [obs]
    obtain ⟨c', o', σ3, f1, f2, f3, f4, f5⟩ := c_keep (σ := σ2) (lw := fun y => (symQ n (tS s 37) (tS s 73) X (fac n)).2 y) hn d3 d4 (fun y hy => hy.1) (fun i hi => by rw [e2.at (by decide)]; exact d5 i hi) (fun y hy => ⟨e4 y hy, by have := sym_low (n := n) (s := s) (X := X) (k := y); omega⟩)
    rw [f1]
    simp only [obs]
    have hO : Od c' o' (eV n s X (chB n s X)) (RQ n s X sy n) := Od_cong f4 (fun y => ⟨fun ⟨⟨y1, y2⟩, y3⟩ => ⟨y1, y2, Or.inr y3⟩, fun ⟨y1, y2, y3⟩ => ⟨⟨y1, y2⟩, y3.resolve_left z⟩⟩)
    obtain ⟨u1, u2⟩ := Od_uniq hO p2
    subst u1
    refine ⟨σ3, rfl, fun q hq => ?_, fun i hi => by rw [f5 i hi, u2 i hi]⟩
    simp only [List.mem_cons, List.not_mem_nil, or_false] at hq
    rw [f2 q (fun h => by have := List.mem_singleton.mp h; omega), e2 q (fun h => by simp only [List.mem_cons, List.not_mem_nil, or_false] at h; omega), d2 q (fun h => by have := List.mem_singleton.mp h; omega)]
/-- the model's children -/
theorem m_kids {σ : Sg} {n : Nat} {s X : Nat → Int32} {sy : Int32} (hs : EqS (σ 76) s) (hg : Gd n s) (hX : Fx n X) (hw : ∀ i, i < 6 → σ 81 i = X i) (hL : LYs n s σ) (hc : ¬ cnt (frf X) n = 0) : ∃ v1 v2, f_X9_branch σ 75 = some v1 ∧ v1.1 = nI (chB n s X) ∧ f_X9_ranks v1.2 75 (nI (chB n s X)) sy = some v2 ∧ v2.1 = nI (chP n s X sy).1 ∧ Fr [82, 83, 93, 94] σ v2.2 ∧ ∀ i, i < (chP n s X sy).1 → v2.2 93 i = nI ((chP n s X sy).2 i) := by
  have hn := hX.2.1
  obtain ⟨b1, b2, b3⟩ := br_ok (s := s) hn hc
  obtain ⟨p1, p2⟩ := chP_ok (n := n) (s := s) (X := X) (sy := sy) hn
  obtain ⟨σ1, a1, a2⟩ := m_branch hs hg hX hw
  obtain ⟨c, o, σ2, d1, d2, d3, d4, d5⟩ := m_ranks (σ := σ1) (i2 := sy) (by rw [a2.at (by decide)]; exact hs) hg hX (fun i hi => by rw [a2.at (by decide)]; exact hw i hi) b2 b3 (by unfold LYs; rw [a2.at (by decide), a2.at (by decide)]; exact hL)
  obtain ⟨u1, u2⟩ := Od_uniq d4 p2
  subst u1
  exact ⟨_, _, a1, b1, d1, rfl, fun q hq => by
    show σ2 q = σ q
    simp only [List.mem_cons, List.not_mem_nil, or_false] at hq
    rw [d2 q (fun h => by simp only [List.mem_cons, List.not_mem_nil, or_false] at h; omega), a2 q (fun h => by simp only [List.mem_cons, List.not_mem_nil, or_false] at h; omega)], fun i hi => by show σ2 93 i = _; rw [d5 i hi, u2 i hi]⟩
-- depth first: the class's list
theorem vL_us {f : Nat → Int64} {j : Nat} {x : Int64} : vp_updL f j x j = x := by simp [vp_updL]
theorem vL_un {f : Nat → Int64} {j q : Nat} {x : Int64} (h : q ≠ j) : vp_updL f j x q = f q := by simp [vp_updL, h]
theorem sl_hit {τ : Tg} {k j : Nat} {x : Int64} : sl τ k j x k j = x := by rw [sl_self, vL_us]
theorem sl_miss {τ : Tg} {k j q : Nat} {x : Int64} (h : q ≠ j) : sl τ k j x k q = τ k q := by rw [sl_self, vL_un h]
theorem c_node {τ : Tg} {i : Nat} (h : i < 720) : f_X3_node τ 59 (nI i) = some (τ 60 i) := by
  unfold f_X3_node lald
  rw [show 59 + 1 = 60 from rfl, ln_60, show Int32.ofNat 720 = nI 720 from rfl, zl_0, if_neg (nI_nlt (Nat.zero_le _) (by omega)), if_neg (nI_ge h (by omega)), nI_clamp (by omega), if_neg (fun z => z.elim (fun y => absurd y (nI_nlt (Nat.zero_le _) (by omega))) (fun y => absurd y (by omega)))]
  rfl
theorem c_setNode {τ : Tg} {i : Nat} {x : Int64} (h : i < 720) : f_X3_setNode τ 59 (nI i) x = some (sl τ 60 i x) := by
  unfold f_X3_setNode last
  rw [show 59 + 1 = 60 from rfl, ln_60, show Int32.ofNat 720 = nI 720 from rfl, zl_0, if_neg (nI_nlt (Nat.zero_le _) (by omega)), if_neg (nI_ge h (by omega)), nI_clamp (by omega), if_neg (fun z => z.elim (fun y => absurd y (nI_nlt (Nat.zero_le _) (by omega))) (fun y => absurd y (by omega)))]
  rfl
theorem c_admit0 {σ : Sg} {τ : Tg} {X : Nat → Int32} {N : Nat} (h9 : σ 57 9 = 0) (hX : Sml X) (hv : ∀ i, i < 6 → σ 70 i = X i) (hN : σ 59 0 = nI N) (h : N < 720) : f_X5_admit σ τ 57 1 = some (si σ 59 0 (nI (N + 1)), sl τ 60 N (lN (pkN X 6))) := by
  unfold f_X5_admit
  rw [if_pos h9, c_pack hX hv]
  simp only [obs]
  unfold f_X3_addLast
  rw [show 57 + 2 = 59 from rfl, hN, c_setNode h]
  simp only [obs]
  rw [nI_s]
noncomputable def kid (n : Nat) (s X : Nat → Int32) (sy : Int32) (i : Nat) : Nat → Int32 := upd X (chB n s X) (nI ((chP n s X sy).2 i))
theorem kid_ok {n i : Nat} {s X : Nat → Int32} {sy : Int32} (hX : Fx n X) (hc : ¬ cnt (frf X) n = 0) (hi : i < (chP n s X sy).1) : Fx n (kid n s X sy i) ∧ cnt (frf (kid n s X sy i)) n + 1 = cnt (frf X) n := by
  have hn := hX.2.1
  obtain ⟨b1, b2, b3⟩ := br_ok (s := s) hn hc
  obtain ⟨p1, p2⟩ := chP_ok (n := n) (s := s) (X := X) (sy := sy) hn
  obtain ⟨q1, q2, _⟩ := p2.2.1 i hi
  refine ⟨Fx_upd hX b2 q1 b3 q2, ?_⟩
  have h1 := cnt_oneQ (P := frf X) (Q := frf (kid n s X sy i)) (i := chB n s X) (by unfold frf kid; rw [pk_us]; exact decide_eq_false (nI_m1b (by omega))) (fun q hq => by unfold frf kid; rw [pk_un hq]) n
  rw [if_pos ⟨b2, by unfold frf; rw [b3]; rfl⟩] at h1
  exact h1
theorem c_push0 {σ : Sg} {τ : Tg} {n N : Nat} {s X : Nat → Int32} {sy : Int32} (h9 : σ 57 9 = 0) (hX : Fx n X) (hc : ¬ cnt (frf X) n = 0) (hv : ∀ i, i < 6 → σ 70 i = X i) (hN : σ 59 0 = nI N) (h7 : N + (chP n s X sy).1 ≤ 720) (ho : ∀ i, i < (chP n s X sy).1 → σ 71 i = nI ((chP n s X sy).2 i)) : ∃ σ' τ', f_X5_expand_J46 57 1 (nI (chB n s X)) (nI (chP n s X sy).1) σ τ = some (σ', τ') ∧ Fr [59, 70] σ σ' ∧ σ' 59 0 = nI (N + (chP n s X sy).1) ∧ (∀ q, q ≠ 0 → σ' 59 q = σ 59 q) ∧ (∀ i, i < N → τ' 60 i = τ 60 i) ∧ ∀ i, i < (chP n s X sy).1 → τ' 60 (N + i) = lN (pkN (kid n s X sy ((chP n s X sy).1 - 1 - i)) 6) := by
  have hn := hX.2.1
  obtain ⟨b1, b2, b3⟩ := br_ok (s := s) hn hc
  obtain ⟨p1, p2⟩ := chP_ok (n := n) (s := s) (X := X) (sy := sy) hn
  generalize hC : (chP n s X sy).1 = C at *
  generalize hb : chB n s X = b at *
  unfold f_X5_expand_J46
  obtain ⟨e, h1, h2, h3, h4, h5, h6, h8⟩ := lo_tc (f := f_X5_expand_L49 (nI C) 57 (nI b) 1) (fun k st => st.1 = nI k ∧ Fr [59, 70] σ st.2.1 ∧ st.2.1 59 0 = nI (N + k) ∧ (∀ q, q ≠ 0 → st.2.1 59 q = σ 59 q) ∧ (∀ q, q < 6 → q ≠ b → st.2.1 70 q = X q) ∧ (∀ i, i < N → st.2.2 60 i = τ 60 i) ∧ ∀ i, i < k → st.2.2 60 (N + i) = lN (pkN (kid n s X sy (C - 1 - i)) 6)) C (fun e => Fr [59, 70] σ e.1 ∧ e.1 59 0 = nI (N + C) ∧ (∀ q, q ≠ 0 → e.1 59 q = σ 59 q) ∧ (∀ q, q < 6 → q ≠ b → e.1 70 q = X q) ∧ (∀ i, i < N → e.2 60 i = τ 60 i) ∧ ∀ i, i < C → e.2 60 (N + i) = lN (pkN (kid n s X sy (C - 1 - i)) 6)) (fun k st hk ⟨i1, i2, i3, i4, i5, i6, i7⟩ => by
    obtain ⟨k', σ', τ'⟩ := st
    simp only at i1 i2 i3 i4 i5 i6 i7
    subst i1
    have e9 : σ' 57 9 = 0 := by rw [i2.at (by decide), h9]
    have e71 : σ' 71 (C - 1 - k) = nI ((chP n s X sy).2 (C - 1 - k)) := by rw [i2.at (by decide), ho _ (by omega)]
    have hkid := kid_ok (i := C - 1 - k) (sy := sy) (s := s) hX hc (by rw [hC]; omega)
    have hadm := c_admit0 (σ := si σ' 70 b (nI ((chP n s X sy).2 (C - 1 - k)))) (τ := τ') (X := kid n s X sy (C - 1 - k)) (N := N + k) (by rw [si_oth (by omega)]; exact e9) hkid.1.sml (fun i hi => by
      unfold kid
      rw [hb]
      by_cases c : i = b
      · rw [c, si_hit, pk_us]
      · rw [si_miss c, pk_un c, i5 i hi c]) (by rw [si_oth (by omega)]; exact i3) (by omega)
    unfold f_X5_expand_L49
    simp only
    rw [if_neg (nI_ge hk (by omega)), if_pos e9, isub1 (by omega), isb (by omega)]
    unfold f_X5_expand_J77
    rw [show 57 + 14 = 71 from rfl, show 57 + 13 = 70 from rfl, it_71 (by omega)]
    simp only [obs]
    rw [e71, se_70 (by omega)]
    simp only [obs]
    rw [hadm]
    simp only [obs]
    refine ⟨_, rfl, nI_s k, (i2.si (by decide)).si (by decide), by simp only [si_hit, Nat.add_assoc], fun q hq => ?_, fun q hq hqb => ?_, fun i hi => ?_, fun i hi => ?_⟩
    · dsimp only
      rw [si_miss hq, si_oth (by omega)]
      exact i4 q hq
    · dsimp only
      rw [si_oth (by omega), si_miss hqb]
      exact i5 q hq hqb
    · dsimp only
      rw [sl_miss (by omega)]
      exact i6 i hi
    · dsimp only
      by_cases c : i = k
      · rw [c, sl_hit]
      · rw [sl_miss (by omega)]
        exact i7 i (by omega)) (fun st ⟨i1, i2, i3, i4, i5, i6, i7⟩ => by
    obtain ⟨k', σ', τ'⟩ := st
    simp only at i1 i2 i3 i4 i5 i6 i7
    subst i1
    unfold f_X5_expand_L49
    simp only
    rw [if_pos (nI_le (Nat.le_refl _) (by omega))]
    exact ⟨_, rfl, i2, i3, i4, i5, i6, i7⟩) (s := (0, σ, τ)) ⟨zl_0, Fr.rf, hN, fun _ _ => rfl, fun q hq _ => hv q hq, fun _ _ => rfl, fun i hi => absurd hi (by omega)⟩
  rw [h1]
  simp only [obs]
  rw [show 57 + 13 = 70 from rfl, se_70 (by omega)]
  simp only [obs]
  exact ⟨_, _, rfl, h2.si (by decide), by rw [si_oth (by omega)]; exact h3, fun q hq => by rw [si_oth (by omega)]; exact h4 q hq, h6, h8⟩
-- depth first: the model's list
theorem vpn1 : vp_nar .boolean (1 : Int32) = 1 := by decide +kernel
theorem vpn0 : vp_nar .boolean (0 : Int32) = 0 := by decide +kernel
def pushM (σ : Sg) (N n : Nat) (X : Nat → Int32) (v : Int32) : Sg := si (si (si (si σ 88 N v) 89 N (nI (n - cnt (frf X) n))) 90 N 1) 75 19 (nI (N + 1))
theorem m_addsJ {σ : Sg} {N n : Nat} {X : Nat → Int32} {v : Int32} (h0 : σ 76 0 = nI n) (hn : n ≤ 6) (hw : ∀ i, i < 6 → σ 81 i = X i) (h19 : σ 75 19 = nI N) (hN : N < 2000) : f_X9_adds_J54 75 v (nI N) σ = some (pushM σ N n X v) := by
  have hp := m_pairs (σ := si σ 88 N v) (n := n) (X := X) (by rw [si_oth (by omega), h0]) hn (fun i hi => by rw [si_oth (by omega)]; exact hw i hi)
  unfold f_X9_adds_J54 pushM
  rw [show 75 + 13 = 88 from rfl, s_88 (by omega)]
  simp only [obs]
  rw [hp]
  simp only [obs]
  rw [si_oth (σ := σ) (k := 88) (q := 75) (by omega), h19, show 75 + 14 = 89 from rfl, s_89 (by omega)]
  simp only [obs]
  rw [si_oth (k := 89) (q := 75) (by omega), si_oth (k := 88) (q := 75) (by omega), h19, show 75 + 15 = 90 from rfl, s_90 (by omega)]
  simp only [obs]
  rw [si_oth (k := 90) (q := 75) (by omega), si_oth (k := 89) (q := 75) (by omega), si_oth (k := 88) (q := 75) (by omega), h19, nI_s, vpn1]
theorem m_addsL {σ : Sg} {N : Nat} (h19 : σ 75 19 = nI N) (hN : N < 2000) : lo (f_X9_adds_L2 75) ((0 : Int32), σ) = some (wo σ 87 (6 * N) 6 (σ 81)) := by
  refine lo_wo (fun j hj => ?_) ?_ zl_0
  · have e : wo σ 87 (6 * N) j (σ 81) 75 19 = nI N := by rw [wo_oth (by omega), h19]
    unfold f_X9_adds_L2
    simp (disch := omega) only [if_true, if_false, obs, Option.bind_none, Sum.elim_inl, Sum.elim_inr, Option.elim, Nat.reduceAdd, Nat.add_zero, Nat.zero_add, ile, igt, ilt, inl, ieq, ine, iq10, i1z, im1, im11, iml, imle, inm, nI_1, nI_add, isub1, isb, iaddm, pk_mul, si_hit, si_miss, si_oth, wo_oth, zl_0, zl_2, zl_3, zl_4, zl_5, zl_6, zl_7, zl_9, zl_10, zl_32, zl_35, zl_36, zl_48, zl_57, zl_59, zl_60, zl_61, zl_62, zl_63, zl_64, zl_65, zl_99, zl_100, zl_102, zl_109, zl_110, zl_115, zl_116, zl_119, zl_120, zl_121, zl_126, zl_605, zl_720, zl_1957, zl_1000000, a_2, a_3, a_4, a_5, a_6, a_46, a_47, a_55, a_56, a_58, a_68, a_69, a_70, a_73, a_74, a_76, a_77, a_78, a_79, a_80, a_81, a_82, a_83, a_84, a_85, a_86, a_87, a_88, a_89, a_90, a_91, a_92, a_93, a_94, a_95, s_2, s_3, s_4, s_5, s_6, s_46, s_47, s_55, s_56, s_58, s_68, s_69, s_70, s_73, s_74, s_76, s_77, s_78, s_79, s_80, s_81, s_82, s_83, s_84, s_85, s_86, s_87, s_88, s_89, s_90, s_91, s_92, s_93, s_94, s_95, it_5, it_6, it_46, it_47, it_50, it_53, it_55, it_56, it_58, it_63, it_66, it_68, it_69, it_70, it_71, it_74, it_97, se_5, se_6, se_46, se_47, se_50, se_53, se_55, se_56, se_58, se_63, se_66, se_68, se_69, se_70, se_71, se_74, se_97, at_2, at_3, at_4, at_49, at_51, at_52, at_62, at_64, at_65, pu_2, pu_3, pu_4, pu_49, pu_51, pu_52, pu_62, pu_64, pu_65, e]
    rw [wo_s rfl]
  · unfold f_X9_adds_L2
    simp (disch := omega) only [if_true, if_false, obs, Option.bind_none, Sum.elim_inl, Sum.elim_inr, Option.elim, Nat.reduceAdd, Nat.add_zero, Nat.zero_add, ile, igt, ilt, inl, ieq, ine, iq10, i1z, im1, im11, iml, imle, inm, nI_1, nI_add, isub1, isb, iaddm, pk_mul, si_hit, si_miss, si_oth, wo_oth, zl_0, zl_2, zl_3, zl_4, zl_5, zl_6, zl_7, zl_9, zl_10, zl_32, zl_35, zl_36, zl_48, zl_57, zl_59, zl_60, zl_61, zl_62, zl_63, zl_64, zl_65, zl_99, zl_100, zl_102, zl_109, zl_110, zl_115, zl_116, zl_119, zl_120, zl_121, zl_126, zl_605, zl_720, zl_1957, zl_1000000, a_2, a_3, a_4, a_5, a_6, a_46, a_47, a_55, a_56, a_58, a_68, a_69, a_70, a_73, a_74, a_76, a_77, a_78, a_79, a_80, a_81, a_82, a_83, a_84, a_85, a_86, a_87, a_88, a_89, a_90, a_91, a_92, a_93, a_94, a_95, s_2, s_3, s_4, s_5, s_6, s_46, s_47, s_55, s_56, s_58, s_68, s_69, s_70, s_73, s_74, s_76, s_77, s_78, s_79, s_80, s_81, s_82, s_83, s_84, s_85, s_86, s_87, s_88, s_89, s_90, s_91, s_92, s_93, s_94, s_95, it_5, it_6, it_46, it_47, it_50, it_53, it_55, it_56, it_58, it_63, it_66, it_68, it_69, it_70, it_71, it_74, it_97, se_5, se_6, se_46, se_47, se_50, se_53, se_55, se_56, se_58, se_63, se_66, se_68, se_69, se_70, se_71, se_74, se_97, at_2, at_3, at_4, at_49, at_51, at_52, at_62, at_64, at_65, pu_2, pu_3, pu_4, pu_49, pu_51, pu_52, pu_62, pu_64, pu_65]
theorem m_adds0 {σ : Sg} {N n : Nat} {X : Nat → Int32} (h0 : σ 76 0 = nI n) (hn : n ≤ 6) (hw : ∀ i, i < 6 → σ 81 i = X i) (h19 : σ 75 19 = nI N) (hN : N < 2000) : f_X9_adds σ 75 0 = some (pushM (wo σ 87 (6 * N) 6 (σ 81)) N n X 0) := by
  unfold f_X9_adds
  rw [m_addsL h19 hN]
  simp only [obs]
  rw [if_pos trivial, wo_oth (by omega), h19]
  exact m_addsJ (by rw [wo_oth (by omega), h0]) hn (fun i hi => by rw [wo_oth (by omega)]; exact hw i hi) (by rw [wo_oth (by omega), h19]) hN
theorem m_push0 {σ : Sg} {n N : Nat} {s X : Nat → Int32} {sy : Int32} (hs : EqS (σ 76) s) (hg : Gd n s) (hX : Fx n X) (hw : ∀ i, i < 6 → σ 81 i = X i) (hL : LYs n s σ) (hc : ¬ cnt (frf X) n = 0) (h19 : σ 75 19 = nI N) (h7 : N + (chP n s X sy).1 ≤ 720) : ∃ σ', f_X9_branches σ 75 sy 1 = some σ' ∧ Fr [75, 81, 82, 83, 87, 88, 89, 90, 93, 94] σ σ' ∧ (∀ q, q ≠ 19 → σ' 75 q = σ 75 q) ∧ σ' 75 19 = nI (N + (chP n s X sy).1) ∧ (∀ r, r < 6 * N → σ' 87 r = σ 87 r) ∧ ∀ i, i < (chP n s X sy).1 → ∀ j, j < 6 → σ' 87 (6 * (N + i) + j) = kid n s X sy ((chP n s X sy).1 - 1 - i) j := by
  have hn := hX.2.1
  obtain ⟨b1, b2, b3⟩ := br_ok (s := s) hn hc
  obtain ⟨p1, p2⟩ := chP_ok (n := n) (s := s) (X := X) (sy := sy) hn
  obtain ⟨v1, v2, k1, k2, k3, k4, k5, k6⟩ := m_kids (sy := sy) hs hg hX hw hL hc
  have h0 : σ 76 0 = nI n := by rw [hs 0 (by omega), hg.2.2.1]
  have hkid : ∀ i, i < (chP n s X sy).1 → Fx n (kid n s X sy i) := fun i hi => (kid_ok hX hc hi).1
  have hke : ∀ i, kid n s X sy i = upd X (chB n s X) (nI ((chP n s X sy).2 i)) := fun _ => rfl
  generalize (chP n s X sy).1 = C at *
  generalize chB n s X = b at *
  unfold f_X9_branches
  rw [k1]
  simp only [obs]
  rw [k2, k3]
  simp only [obs]
  obtain ⟨e, h1, h2, h3, h4, h5, h6⟩ := lo_tc (f := f_X9_branches_L16 v2 1 75 v1) (fun k st => st.1 = nI k ∧ Fr [75, 81, 82, 83, 87, 88, 89, 90, 93, 94] σ st.2 ∧ (∀ q, q ≠ 19 → st.2 75 q = σ 75 q) ∧ st.2 75 19 = nI (N + k) ∧ (∀ q, q < 6 → q ≠ b → st.2 81 q = X q) ∧ st.2 93 = v2.2 93 ∧ (∀ r, r < 6 * N → st.2 87 r = σ 87 r) ∧ ∀ i, i < k → ∀ j, j < 6 → st.2 87 (6 * (N + i) + j) = kid n s X sy (C - 1 - i) j) C (fun e => Fr [75, 81, 82, 83, 87, 88, 89, 90, 93, 94] σ e ∧ (∀ q, q ≠ 19 → e 75 q = σ 75 q) ∧ e 75 19 = nI (N + C) ∧ (∀ r, r < 6 * N → e 87 r = σ 87 r) ∧ ∀ i, i < C → ∀ j, j < 6 → e 87 (6 * (N + i) + j) = kid n s X sy (C - 1 - i) j) (fun k st hk ⟨i1, i2, i3, i4, i5, i8, i6, i7⟩ => by
    obtain ⟨k', σ'⟩ := st
    simp only at i1 i2 i3 i4 i5 i6 i7 i8
    subst i1
    have e93 : σ' 93 (C - 1 - k) = nI ((chP n s X sy).2 (C - 1 - k)) := by rw [i8, k6 _ (by omega)]
    have w81 : ∀ i, i < 6 → si σ' 81 b (nI ((chP n s X sy).2 (C - 1 - k))) 81 i = kid n s X sy (C - 1 - k) i := fun i hi => by
      rw [hke]
      by_cases c : i = b
      · rw [c, si_hit, pk_us]
      · rw [si_miss c, pk_un c, i5 i hi c]
    have hadd := m_adds0 (σ := si σ' 81 b (nI ((chP n s X sy).2 (C - 1 - k)))) (N := N + k) (n := n) (X := kid n s X sy (C - 1 - k)) (by rw [si_oth (by omega), i2.at (by decide), h0]) hn w81 (by rw [si_oth (by omega)]; exact i4) (by omega)
    unfold f_X9_branches_L16
    simp only
    rw [k4, if_neg (nI_ge hk (by omega)), if_neg (by decide), isub1 (by omega), isb (by omega), k2]
    unfold f_X9_branches_J48
    rw [show 75 + 18 = 93 from rfl, show 75 + 6 = 81 from rfl, a_93 (by omega)]
    simp only [obs]
    rw [e93, s_81 (by omega)]
    simp only [obs]
    rw [if_neg (by decide)]
    unfold f_X9_branches_J60
    rw [hadd]
    simp only [obs]
    refine ⟨_, rfl, nI_s k, ?_, fun q hq => ?_, ?_, fun q hq hqb => ?_, ?_, fun r hr => ?_, fun i hi j hj => ?_⟩
    · exact (((((wo_fr (i2.si (by decide)) (by decide)).si (by decide)).si (by decide)).si (by decide)).si (by decide))
    · simp only [pushM]
      rw [si_miss hq, si_oth (by omega), si_oth (by omega), si_oth (by omega), wo_oth (by omega), si_oth (by omega)]
      exact i3 q hq
    · simp only [pushM]
      rw [si_hit, Nat.add_assoc]
    · simp only [pushM]
      rw [si_oth (by omega), si_oth (by omega), si_oth (by omega), si_oth (by omega), wo_oth (by omega), si_miss hqb]
      exact i5 q hq hqb
    · simp only [pushM]
      rw [si_oth (by omega), si_oth (by omega), si_oth (by omega), si_oth (by omega), wo_oth (by omega), si_oth (by omega)]
      exact i8
    · simp only [pushM]
      rw [si_oth (by omega), si_oth (by omega), si_oth (by omega), si_oth (by omega), wo_out (by omega), si_oth (by omega)]
      exact i6 r hr
    · simp only [pushM]
      rw [si_oth (by omega), si_oth (by omega), si_oth (by omega), si_oth (by omega)]
      by_cases c : i = k
      · rw [c, wo_in hj]
        exact w81 j hj
      · rw [wo_out (by omega), si_oth (by omega)]
        exact i7 i (by omega) j hj) (fun st ⟨i1, i2, i3, i4, i5, i8, i6, i7⟩ => by
    obtain ⟨k', σ'⟩ := st
    simp only at i1 i2 i3 i4 i5 i6 i7
    subst i1
    unfold f_X9_branches_L16
    simp only
    rw [k4, if_pos (nI_le (Nat.le_refl _) (by omega))]
    exact ⟨_, rfl, i2, i3, i4, i6, i7⟩) (s := (0, v2.2)) ⟨zl_0, fun q hq => k5 q (fun h => hq (by simp only [List.mem_cons, List.not_mem_nil, or_false] at h ⊢; omega)), fun q hq => by show v2.2 75 q = _; rw [k5.at (by decide)], by show v2.2 75 19 = _; rw [k5.at (by decide)]; exact h19, fun q hq _ => by show v2.2 81 q = _; rw [k5.at (by decide)]; exact hw q hq, rfl, fun r hr => by show v2.2 87 r = _; rw [k5.at (by decide)], fun i hi => absurd hi (by omega)⟩
  rw [h1]
  simp only [obs]
  rw [show 75 + 6 = 81 from rfl, s_81 (by omega)]
  simp only [obs]
  exact ⟨_, rfl, h2.si (by decide), fun q hq => by rw [si_oth (by omega)]; exact h3 q hq, by rw [si_oth (by omega)]; exact h4, fun r hr => by rw [si_oth (by omega)]; exact h5 r hr, fun i hi j hj => by rw [si_oth (by omega)]; exact h6 i hi j hj⟩
