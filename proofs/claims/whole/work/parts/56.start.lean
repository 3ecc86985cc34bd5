-- the start of a search
def rz : Nat → Int32 := fun q => if q = 0 then 1000000 else 0
theorem gb_01 {x : Int32} (h : x = 0 ∨ x = 1) : gb x = some x := if_pos h
theorem c_begin {σ : Sg} {n : Nat} {i2 i3 : Int32} (h2 : i2 = 0 ∨ i2 = 1) (h3 : i3 = 0 ∨ i3 = 1) (h10 : σ 1 0 = nI n) : ∃ σ', f_X5_begin σ 57 1 i2 i3 = some σ' ∧ Fr [57, 58, 59, 70] σ σ' ∧ RC σ' rz ∧ (σ' 57 0 = 1 ∧ σ' 57 8 = nI n ∧ σ' 57 9 = i2 ∧ σ' 57 10 = i3 ∧ σ' 57 11 = 0) ∧ σ' 59 0 = 0 ∧ σ' 59 1 = 0 ∧ ∀ i, i < 6 → σ' 70 i = σ 6 i := by
  unfold f_X5_begin
  rw [gb_01 h2]
  simp only [obs]
  rw [gb_01 h3]
  simp only [obs]
  unfold f_X3_clear
  simp only [obs]
  rw [show 57 + 2 = 59 from rfl, show 57 + 13 = 70 from rfl, show 1 + 5 = 6 from rfl]
  rw [si_oth (k := 57) (q := 1) (by omega), si_oth (k := 57) (q := 1) (by omega), si_oth (k := 57) (q := 1) (by omega), h10]
  generalize hσ1 : si (si (si (si (si (si (si (si (si (si (si (si σ 57 0 1) 57 9 i2) 57 10 i3) 57 8 (nI n)) 57 3 1000000) 57 4 (-1)) 57 1 0) 57 5 0) 57 6 0) 57 11 0) 59 0 0) 59 1 0 = σ1
  have z6 : (6 : Int32) = nI 6 := zl_6
  rw [lo_wo (f := f_X5_begin_L64 57) (σ := σ1) (k := 58) (o := 0) (n := 7) (v := fun _ => (0 : Int32)) (fun j hj => by
    unfold f_X5_begin_L64
    dsimp only
    rw [z6, if_neg (nI_nlt (by omega) (by omega)), show 57 + 1 = 58 from rfl, s_58 (by omega)]
    simp only [obs]
    rw [wo_s0 rfl, nI_s]) (by
    unfold f_X5_begin_L64
    dsimp only
    rw [z6, if_pos (nI_lt (by omega) (by omega))]) zl_0]
  simp only [obs]
  rw [z6, acp_ok (ks := 6) (kt := 70) (n := 6) (by decide +kernel) (by decide +kernel) (by omega)]
  simp only [obs]
  have F1 : Fr [57, 58, 59, 70] σ σ1 := by
    rw [← hσ1]
    exact (((((((((((Fr.rf.si (by decide)).si (by decide)).si (by decide)).si (by decide)).si (by decide)).si (by decide)).si (by decide)).si (by decide)).si (by decide)).si (by decide)).si (by decide)).si (by decide)
  have e57 : ∀ q, wo (wo σ1 58 0 7 (fun _ => (0 : Int32))) 70 0 6 (wo σ1 58 0 7 (fun _ => (0 : Int32)) 6) 57 q = σ1 57 q := fun q => by rw [wo_oth (by omega), wo_oth (by omega)]
  have e59 : ∀ q, wo (wo σ1 58 0 7 (fun _ => (0 : Int32))) 70 0 6 (wo σ1 58 0 7 (fun _ => (0 : Int32)) 6) 59 q = σ1 59 q := fun q => by rw [wo_oth (by omega), wo_oth (by omega)]
  refine ⟨_, rfl, wo_fr (wo_fr F1 (by decide)) (by decide), ⟨?_, fun z => absurd rfl z, ?_, ?_, ?_, fun j hj => ?_⟩, ⟨?_, ?_, ?_, ?_, ?_⟩, ?_, ?_, fun i hi => ?_⟩
  · rw [e57, ← hσ1]
    simp (disch := omega) only [si_hit, si_miss, si_oth]
    rfl
  · rw [e57, ← hσ1]
    simp (disch := omega) only [si_hit, si_miss, si_oth]
    rfl
  · rw [e57, ← hσ1]
    simp (disch := omega) only [si_hit, si_miss, si_oth]
    rfl
  · rw [e57, ← hσ1]
    simp (disch := omega) only [si_hit, si_miss, si_oth]
    rfl
  · rw [wo_oth (by omega), wo_in0 hj]
    unfold rz
    rw [if_neg (by omega)]
  · rw [e57, ← hσ1]
    simp (disch := omega) only [si_hit, si_miss, si_oth]
  · rw [e57, ← hσ1]
    simp (disch := omega) only [si_hit, si_miss, si_oth]
  · rw [e57, ← hσ1]
    simp (disch := omega) only [si_hit, si_miss, si_oth]
  · rw [e57, ← hσ1]
    simp (disch := omega) only [si_hit, si_miss, si_oth]
  · rw [e57, ← hσ1]
    simp (disch := omega) only [si_hit, si_miss, si_oth]
  · rw [e59, ← hσ1]
    simp (disch := omega) only [si_hit, si_miss, si_oth]
  · rw [e59, ← hσ1]
    simp (disch := omega) only [si_hit, si_miss, si_oth]
  · rw [wo_in0 hi, wo_oth (by omega), F1.at (by decide)]
theorem CI_FC {σ σ' : Sg} {s : Nat → Int32} {c : Nat} {h : Nat → Nat → Int32} {T : Nat} {tx : Nat → Nat} {md md' : Bool} {rs rs' : Nat → Int32} (H : CI σ s c h T tx md rs) (hF : Fq σ σ') (hn : FC σ' md' rs') : CI σ' s c h T tx md' rs' := by
  obtain ⟨⟨h1, h2, h3⟩, h4, h5⟩ := H
  refine ⟨⟨by rw [hF 97 (by omega), h1], ?_, HC_fr h3 (fun q hq => hF q (by omega))⟩, TC_fr h4 (by rw [hF 72 (by omega)]) (hF 73 (by omega)), hn⟩
  rw [snap_fr (σ := σ) (fun d hd => hF _ (by omega))]
  exact h2
theorem MI_Fq {σ σ' : Sg} {s : Nat → Int32} {c : Nat} {h : Nat → Nat → Int32} {T : Nat} {tx : Nat → Nat} {md : Bool} {rs : Nat → Int32} (H : MI σ s c h T tx md rs) (hF : Fq σ σ') : MI σ' s c h T tx md rs := MI_eq H (fun q hq => hF q (by omega)) (by rw [hF 75 (by omega)]) (by rw [hF 75 (by omega)])
theorem MI_FM {σ σ' : Sg} {s : Nat → Int32} {c : Nat} {h : Nat → Nat → Int32} {T : Nat} {tx : Nat → Nat} {md md' : Bool} {rs rs' : Nat → Int32} (H : MI σ s c h T tx md rs) (e : ∀ q, (q = 76 ∨ q = 77 ∨ q = 79) → σ' q = σ q) (e3 : σ' 75 3 = σ 75 3) (e5 : σ' 75 5 = σ 75 5) (hn : FM σ' md' rs') : MI σ' s c h T tx md' rs' := by
  obtain ⟨⟨h2, h3⟩, h4, h5⟩ := H
  exact ⟨⟨by rw [e 76 (by omega)]; exact h2, HM_fr h3 e3 (e 77 (by omega))⟩, TM_fr h4 e5 (e 79 (by omega)), hn⟩
/-- the model's part before the course -/
theorem m_start {σ : Sg} {n : Nat} {s : Nat → Int32} {i1 i2 : Int32} (hs : EqS (σ 76) s) (hg : Gd n s) : ∃ σ', f_X9_search σ 75 i1 i2 = (if i1 = 0 then (f_X9_searchesDeep σ' 75 i2).bind (fun v => f_X9_search_J79 75 v) else (f_X9_searchesBest σ' 75 i2).bind (fun v => f_X9_search_J79 75 v)) ∧ Fr [75, 80, 81, 86, 91, 92] σ σ' ∧ (∀ q, q ≠ 14 → q ≠ 19 → σ' 75 q = σ 75 q) ∧ σ' 75 19 = nI 0 ∧ LYs n s σ' ∧ RM σ' rz ∧ σ' 91 5 = 0 ∧ σ' 91 6 = nI n ∧ ∀ i, i < 6 → σ' 81 i = vS s 115 i := by
  have h0 : σ 76 0 = nI n := by rw [hs 0 (by omega), hg.2.2.1]
  unfold f_X9_search
  obtain ⟨σ1, e1, e2, e3⟩ := lo_it (f := f_X9_search_L2 75) (σ := σ) (z := 0) (fun j σ' => Fr [91, 92] σ σ' ∧ ∀ i, i < j → σ' 91 i = 0 ∧ σ' 92 i = 0) 7 (fun σ' => Fr [91, 92] σ σ' ∧ ∀ i, i < 7 → σ' 91 i = 0 ∧ σ' 92 i = 0) (fun j σ' hj ⟨p1, p2⟩ => by
    refine ⟨si (si σ' 91 j 0) 92 j 0, ?_, (p1.si (by decide)).si (by decide), fun i hi => ?_⟩
    · unfold f_X9_search_L2
      dsimp only
      rw [zl_7, if_neg (nI_ge hj (by omega)), show 75 + 16 = 91 from rfl, show 75 + 17 = 92 from rfl, s_91 (by omega)]
      simp only [obs]
      rw [s_92 (by omega)]
      simp only [obs]
      rw [nI_s]
    · by_cases c : i = j
      · subst c
        exact ⟨by rw [si_oth (by omega), si_hit], si_hit⟩
      · obtain ⟨p3, p4⟩ := p2 i (by omega)
        exact ⟨by rw [si_oth (by omega), si_miss c, p3], by rw [si_miss c, si_oth (by omega), p4]⟩) (fun σ' hp => ⟨σ', by
    unfold f_X9_search_L2
    dsimp only
    rw [zl_7, if_pos (nI_le (Nat.le_refl 7) (by omega))], hp⟩) zl_0 ⟨Fr.rf, fun i hi => absurd hi (by omega)⟩
  rw [e1]
  simp only [obs]
  generalize hσ2 : si (si (si σ1 91 0 1000000) 91 6 (nI n)) 75 19 (0 : Int32) = σ2
  have f2 : Fr [75, 91, 92] σ σ2 := by
    rw [← hσ2]
    exact ((((Fr.rf : Fr [75, 91, 92] σ σ).tr e2 (by decide)).si (by decide)).si (by decide)).si (by decide)
  have e76 : σ2 76 = σ 76 := f2.at (by decide)
  obtain ⟨σ3, a1, a2⟩ := m_lays (σ := σ2) (n := n) (by rw [e76, h0]) hg.1 hg.2.1
  have z6 : (6 : Int32) = nI 6 := zl_6
  rw [show 75 + 16 = 91 from rfl, show 75 + 1 = 76 from rfl, show (0 : Int32) = nI 0 from zl_0, s_91 (by omega)]
  simp only [obs]
  rw [a_76 (by omega)]
  simp only [obs]
  rw [si_oth (by omega), e2.at (by decide), h0, z6, s_91 (by omega)]
  simp only [obs]
  rw [← zl_0, hσ2, a1]
  simp only [obs]
  rw [m_looks]
  simp only [obs]
  obtain ⟨l1, l2, l3, l4⟩ := a2
  have ht : ∀ o, o ≤ 73 → tb σ2 76 o = tS s o := fun o ho => tbX (by rw [e76]; exact hs) ho
  rw [ht 37 (by omega), ht 73 (by omega)] at l3 l4
  have k91 : ∀ q, q ≠ 0 → q ≠ 6 → q < 7 → σ3 91 q = 0 := fun q q1 q2 q3 => by rw [l1.at (by decide), ← hσ2, si_oth (by omega), si_miss q2, si_miss q1, (e3 q q3).1]
  have hz : ∀ q, q ≠ 0 → rz q = 0 := fun q hq => if_neg hq
  refine ⟨_, rfl, wo_fr ((fun q hq => ?_ : Fr [75, 80, 81, 86, 91, 92] σ σ3)) (by decide), fun q q1 q2 => ?_, ?_, ⟨?_, fun m i hm hi => ?_⟩, ⟨?_, fun z => absurd rfl z, ?_, ?_, ?_, fun j hj => ?_⟩, ?_, ?_, fun i hi => ?_⟩
  · simp only [List.mem_cons, List.not_mem_nil, or_false] at hq
    rw [l1 q (fun z => by simp only [List.mem_cons, List.not_mem_nil, or_false] at z; omega), f2 q (fun z => by simp only [List.mem_cons, List.not_mem_nil, or_false] at z; omega)]
  · rw [wo_oth (by omega), l2 q q1, ← hσ2, si_miss q2, si_oth (by omega), si_oth (by omega), e2.at (by decide)]
  · rw [wo_oth (by omega), l2 19 (by omega), ← hσ2, si_hit]
  · rw [wo_oth (by omega)]
    exact l3
  · rw [wo_oth (by omega)]
    exact l4 m i hm hi
  · rw [wo_oth (by omega), l1.at (by decide), ← hσ2, si_oth (by omega), si_miss (by omega), si_hit]
    rfl
  · rw [wo_oth (by omega), k91 2 (by omega) (by omega) (by omega), hz 2 (by omega)]
  · rw [wo_oth (by omega), k91 3 (by omega) (by omega) (by omega), hz 3 (by omega)]
  · rw [wo_oth (by omega), k91 4 (by omega) (by omega) (by omega), hz 4 (by omega)]
  · rw [wo_oth (by omega), l1.at (by decide), ← hσ2, si_oth (by omega), si_oth (by omega), si_oth (by omega), (e3 j hj).2, hz _ (by omega)]
  · rw [wo_oth (by omega), k91 5 (by omega) (by omega) (by omega)]
  · rw [wo_oth (by omega), l1.at (by decide), ← hσ2, si_oth (by omega), si_hit]
  · rw [wo_in0 hi, l1.at (by decide), e76, vS_at hi, hs _ (by omega)]
def JS (c : Option (Int32 × Sg × Tg)) (m : Sg → Option (Int32 × Sg)) : Prop := ∃ v σ1 τ1 σ', c = some (v, σ1, τ1) ∧ m σ1 = some (v, σ') ∧ Iv σ'
def rsF (n : Nat) (g : Int32) (rs : Nat → Int32) : Nat → Int32 := fun q => if q = 5 then g else if q = 6 then nI n else rs q
theorem rsF_5 {n : Nat} {g : Int32} {rs : Nat → Int32} : rsF n g rs 5 = g := if_pos rfl
theorem rsF_6 {n : Nat} {g : Int32} {rs : Nat → Int32} : rsF n g rs 6 = nI n := by
  unfold rsF
  rw [if_neg (by omega), if_pos rfl]
theorem rsF_o {n q : Nat} {g : Int32} {rs : Nat → Int32} (h5 : q ≠ 5) (h6 : q ≠ 6) : rsF n g rs q = rs q := by
  unfold rsF
  rw [if_neg h5, if_neg h6]
theorem FC_of {σ : Sg} {n : Nat} {g : Int32} {rs : Nat → Int32} (h : RC σ rs) (hf : ¬ rs 0 = 1000000) (h0 : σ 57 0 = 1) (h7 : σ 57 7 = g) (h8 : σ 57 8 = nI n) : FC σ true (rsF n g rs) := by
  obtain ⟨r0, r1, r2, r3, r4, r5⟩ := h
  unfold FC
  rw [if_pos rfl, rsF_5, rsF_6, rsF_o (by omega) (by omega), rsF_o (by omega) (by omega), rsF_o (by omega) (by omega), rsF_o (by omega) (by omega), rsF_o (by omega) (by omega)]
  exact ⟨h0, r0, r1 hf, r2, r3, r4, h7, h8, fun j hj => by rw [rsF_o (by omega) (by omega)]; exact r5 j hj⟩
theorem FM_of {σ : Sg} {n : Nat} {g : Int32} {rs : Nat → Int32} (h : RM σ rs) (hf : ¬ rs 0 = 1000000) (h5 : σ 91 5 = g) (h6 : σ 91 6 = nI n) (hn : n < 2147483648) : FM σ true (rsF n g rs) := by
  obtain ⟨r0, r1, r2, r3, r4, r5⟩ := h
  unfold FM
  rw [if_pos rfl]
  refine ⟨by rw [h6]; exact nI_m1b hn, fun j hj => ?_, fun j hj => by rw [rsF_o (by omega) (by omega)]; exact r5 j hj⟩
  have hc : j = 0 ∨ j = 1 ∨ j = 2 ∨ j = 3 ∨ j = 4 ∨ j = 5 ∨ j = 6 := by omega
  rcases hc with e | e | e | e | e | e | e <;> subst e
  · rw [rsF_o (by omega) (by omega), r0]
  · rw [rsF_o (by omega) (by omega), r1 hf]
  · rw [rsF_o (by omega) (by omega), r2]
  · rw [rsF_o (by omega) (by omega), r3]
  · rw [rsF_o (by omega) (by omega), r4]
  · rw [rsF_5, h5]
  · rw [rsF_6, h6]
theorem J_deep {σ : Sg} {τ : Tg} (H : Iv σ) (i2 : Int32) (h2 : i2 = 0 ∨ i2 = 1) : JS (f_X8_search σ τ 0 0 i2) (fun σ => f_X9_search σ 75 0 i2) := by
  obtain ⟨s, c, h, T0, tx, md, rs, hG, hC, hM⟩ := H
  obtain ⟨n, hg⟩ := hG.1
  have hX := hg.fx
  have hn := hX.2.1
  have hc0 := CI_n hC hg
  obtain ⟨T, t1, t2, t3⟩ := d_end (n := n) (s := s) (X0 := vS s 115) (rs0 := rz) (sy := i2) hX
  obtain ⟨w, w1, w2, w3⟩ := d_foundT (sy := i2) hg hX (rs0 := rz) (show rz 0 = nI 1000000 from zl_1000000) T t3
  have hf : ¬ (dRun n s i2 (vS s 115) rz T).2.2 0 = 1000000 := by
    rw [w2, zl_1000000]
    intro z
    have := (nI_eq (by omega) (by omega)).mp z
    have := w3 this
    omega
  -- the class
  obtain ⟨σa, a1, a2, a3, ⟨a4, a5, a6, a7, a8⟩, a9, a10, a11⟩ := c_begin (i2 := 0) (i3 := i2) (Or.inl rfl) h2 hc0
  have aX : ∀ i, i < 6 → σa 70 i = vS s 115 i := fun i hi => by rw [a11 i hi, c_fxv hC.1.2.1 i hi]
  have aF : Fq σ σa := fun q hq => a2 q (fun z => by simp only [List.mem_cons, List.not_mem_nil, or_false] at z; omega)
  have hadm := c_admit0 (σ := σa) (τ := τ) (N := 0) a6 hX.sml aX (by rw [a9]; exact zl_0) (by omega)
  obtain ⟨e, b1, b2⟩ := lo_tc (f := f_X5_make_L15 57 1) (fun t st => st.1 = nI t ∧ cD n i2 σ (dRun n s i2 (vS s 115) rz t) st.2.1 st.2.2) T (fun e => cD n i2 σ (dRun n s i2 (vS s 115) rz T) e.1 e.2) (fun t st ht ⟨p1, p2⟩ => by
    obtain ⟨t', σ', τ'⟩ := st
    dsimp only at p1 p2
    subst p1
    obtain ⟨σ2, τ2, q1, q2⟩ := c_deep (t := t) hC.1.2.1 hg hC.1.1 (d_inv hX t (fun i hi => t3 i (by omega))).1 (t3 t ht) (by omega) p2
    exact ⟨_, q1, rfl, q2⟩) (fun st ⟨p1, p2⟩ => by
    obtain ⟨t', σ', τ'⟩ := st
    dsimp only at p1 p2
    subst p1
    refine ⟨(σ', τ'), ?_, p2⟩
    unfold f_X5_make_L15
    dsimp only
    rw [zl_1957]
    by_cases q : 1957 ≤ T
    · rw [if_pos (nI_le q (by omega))]
    · rw [if_neg (nI_ge (by omega) (by omega)), show 57 + 2 = 59 from rfl, if_pos (show σ' 59 0 ≤ (0 : Int32) by rw [p2.2.2.1, t2, zl_0]; exact nI_le (Nat.le_refl 0) (by omega))]) (s := (0, si σa 59 0 (nI (0 + 1)), sl τ 60 0 (lN (pkN (vS s 115) 6)))) ⟨zl_0, fun q hq => by show si σa 59 0 (nI (0 + 1)) q = _; rw [si_oth (by omega)]; exact aF q hq, RC_eq a3 (by show si σa 59 0 (nI (0 + 1)) 57 = _; rw [si_oth (by omega)]) (by show si σa 59 0 (nI (0 + 1)) 58 = _; rw [si_oth (by omega)]), by show si σa 59 0 (nI (0 + 1)) 59 0 = nI 1; rw [si_hit], fun i hi => by
      have : i = 0 := by
        have h1 : i < 1 := hi
        omega
      rw [this]
      show sl τ 60 0 (lN (pkN (vS s 115) 6)) 60 0 = lN (pkN (vS s 115) 6)
      exact sl_hit, by show si σa 59 0 (nI (0 + 1)) 57 0 = _; rw [si_oth (by omega)]; exact a4, by show si σa 59 0 (nI (0 + 1)) 57 8 = _; rw [si_oth (by omega)]; exact a5, by show si σa 59 0 (nI (0 + 1)) 57 9 = _; rw [si_oth (by omega)]; exact a6, by show si σa 59 0 (nI (0 + 1)) 57 10 = _; rw [si_oth (by omega)]; exact a7, by show si σa 59 0 (nI (0 + 1)) 59 1 = _; rw [si_miss (by omega)]; exact a10⟩
  obtain ⟨σe, τe⟩ := e
  obtain ⟨k1, k2, k3, k4, k5, k6, k7, k8, k9⟩ := b2
  dsimp only at k1 k2 k3 k4 k5 k6 k7 k8 k9
  generalize hσ1 : si σe 57 7 (σe 59 1) = σ1
  have F1 : Fq σ σ1 := fun q hq => by rw [← hσ1, si_oth (by omega)]; exact k1 q hq
  have R1 : RC σ1 (dRun n s i2 (vS s 115) rz T).2.2 := by
    obtain ⟨r0, r1, r2, r3, r4, r5⟩ := k2
    rw [← hσ1]
    exact ⟨by rw [si_miss (by omega)]; exact r0, fun z => by rw [si_miss (by omega)]; exact r1 z, by rw [si_miss (by omega)]; exact r2, by rw [si_miss (by omega)]; exact r3, by rw [si_miss (by omega)]; exact r4, fun j hj => by rw [si_oth (by omega)]; exact r5 j hj⟩
  have hC1 := CI_FC (md' := true) (rs' := rsF n 0 (dRun n s i2 (vS s 115) rz T).2.2) hC F1 (FC_of R1 hf (by rw [← hσ1, si_miss (by omega), k5]) (by rw [← hσ1, si_hit, k9]) (by rw [← hσ1, si_miss (by omega), k6]))
  have hM1 := MI_Fq hM F1
  -- the model
  obtain ⟨σb, m1, m2, m3, m4, m5, m6, m7, m8, m9⟩ := m_start (σ := σ1) (i1 := 0) (i2 := i2) hM1.1.1 hg
  have b76 : σb 76 = σ1 76 := m2.at (by decide)
  have hsb : EqS (σb 76) s := by rw [b76]; exact hM1.1.1
  have madd := m_adds0 (σ := σb) (N := 0) (n := n) (X := vS s 115) (by rw [hsb 0 (by omega), hg.2.2.1]) hn m9 m4 (by omega)
  generalize hσc : pushM (wo σb 87 (6 * 0) 6 (σb 81)) 0 n (vS s 115) 0 = σc at madd
  have cF : Fr WM σb σc := by
    rw [← hσc]
    unfold pushM
    exact ((((wo_fr Fr.rf (by decide)).si (by decide)).si (by decide)).si (by decide)).si (by decide)
  have c75 : ∀ q, q ≠ 19 → σc 75 q = σb 75 q := fun q hq => by
    rw [← hσc]
    unfold pushM
    rw [si_miss hq, si_oth (by omega), si_oth (by omega), si_oth (by omega), wo_oth (by omega)]
  have c91 : ∀ k, k = 91 ∨ k = 92 → σc k = σb k := fun k hk => by
    rw [← hσc]
    unfold pushM
    rw [si_oth (by omega), si_oth (by omega), si_oth (by omega), si_oth (by omega), wo_oth (by omega)]
  obtain ⟨e2, d1, d2⟩ := lo_tc (f := f_X9_searchesDeep_L5 75 i2) (fun t st => mD σb (dRun n s i2 (vS s 115) rz t) st) T (fun e => mD σb (dRun n s i2 (vS s 115) rz T) e) (fun t st ht hp => m_deep hsb hg m5 (d_inv hX t (fun i hi => t3 i (by omega))).1 (t3 t ht) hp) (fun st hp => by
    refine ⟨st, ?_, hp⟩
    unfold f_X9_searchesDeep_L5
    rw [if_pos (show st 75 19 ≤ (0 : Int32) by rw [hp.2.2.2.1, t2, zl_0]; exact nI_le (Nat.le_refl 0) (by omega))]) (s := σc) ⟨cF, c75, RM_eq m6 (c91 91 (Or.inl rfl)) (c91 92 (Or.inr rfl)), by rw [← hσc]; exact si_hit, fun i hi j hj => by
      have h1 : i < 1 := hi
      have : i = 0 := by omega
      rw [this, ← hσc]
      unfold pushM
      rw [si_oth (by omega), si_oth (by omega), si_oth (by omega), si_oth (by omega), wo_in hj]
      exact m9 j hj, fun q _ => by rw [c91 91 (Or.inl rfl)]⟩
  obtain ⟨n1, n2, n3, n4, n5, n6⟩ := d2
  have hM2 := MI_FM (σ := σ1) (σ' := e2) (md' := true) (rs' := rsF n 0 (dRun n s i2 (vS s 115) rz T).2.2) hM1 (fun q hq => by
    rw [n1 q (fun z => by unfold WM at z; simp only [List.mem_cons, List.not_mem_nil, or_false] at z; omega), m2 q (fun z => by simp only [List.mem_cons, List.not_mem_nil, or_false] at z; omega)]) (by rw [n2 3 (by omega), m3 3 (by omega) (by omega)]) (by rw [n2 5 (by omega), m3 5 (by omega) (by omega)]) (FM_of n3 hf (by rw [n6 5 (by omega), m7]) (by rw [n6 6 (by omega), m8]) (by omega))
  have hC2 := CI_eq hC1 (σ' := e2) (fun q hq => by
    have hk := of_decide_eq_true hq
    rw [n1 q (fun z => by unfold WM at z; simp only [List.mem_cons, List.not_mem_nil, or_false] at z; omega), m2 q (fun z => by simp only [List.mem_cons, List.not_mem_nil, or_false] at z; omega)])
  refine ⟨(dRun n s i2 (vS s 115) rz T).2.2 2, σ1, τe, si e2 75 6 0, ?_, ?_, Iv_75 (Iv_of hG hC2 hM2) (by decide) (by decide)⟩
  · unfold f_X8_search f_X5_make
    rw [show 0 + 57 = 57 from rfl, show 0 + 1 = 1 from rfl, a1]
    simp only [obs]
    rw [hadm]
    simp only [obs]
    rw [b1]
    simp only [obs]
    rw [show 57 + 2 = 59 from rfl, hσ1, R1.2.2.1]
  · dsimp only
    rw [m1, if_pos rfl]
    unfold f_X9_searchesDeep
    rw [madd]
    simp only [obs]
    rw [d1]
    simp only [obs]
    unfold f_X9_search_J79
    rw [show 75 + 16 = 91 from rfl, zl_2, a_91 (by omega)]
    simp only [obs]
    rw [n3.2.2.1]
    rfl
