-- a node in a long
def dgt (x : Int32) : Nat := if x = -1 then 7 else ix x
def pkN (X : Nat → Int32) : Nat → Nat
  | 0 => 0
  | j + 1 => pkN X j + dgt (X j) * 2 ^ (3 * j)
def Sml (X : Nat → Int32) : Prop := ∀ i, i < 6 → X i = -1 ∨ ∃ l, l < 6 ∧ X i = nI l
theorem Fx.sml {n : Nat} {X : Nat → Int32} (h : Fx n X) : Sml X := fun i hi => by
  by_cases c : i < n
  · rcases h.2.2.1 i c with e | ⟨l, hl, e⟩
    · exact Or.inl e
    · exact Or.inr ⟨l, by have := h.2.1; omega, e⟩
  · exact Or.inl (h.2.2.2.2 i (by omega) hi)
theorem dg_lt {x : Int32} (h : x = -1 ∨ ∃ l, l < 6 ∧ x = nI l) : dgt x < 8 := by
  rcases h with e | ⟨l, hl, e⟩
  · unfold dgt
    rw [if_pos e]
    omega
  · unfold dgt
    rw [e, if_neg (nI_m1b (by omega)), ix_nI hl]
    omega
theorem dg_m1 : dgt (-1) = 7 := if_pos rfl
theorem dg_l {l : Nat} (h : l < 6) : dgt (nI l) = l := by
  unfold dgt
  rw [if_neg (nI_m1b (by omega)), ix_nI h]
theorem pkN_lt {X : Nat → Int32} (h : Sml X) : ∀ j, j ≤ 6 → pkN X j < 2 ^ (3 * j)
  | 0, _ => by show 0 < 1; omega
  | j + 1, hj => by
    have h1 := pkN_lt h j (by omega)
    have h2 := dg_lt (h j (by omega))
    unfold pkN
    rw [show 3 * (j + 1) = 3 * j + 3 by omega, Nat.pow_add]
    have : dgt (X j) * 2 ^ (3 * j) ≤ 7 * 2 ^ (3 * j) := Nat.mul_le_mul_right _ (by omega)
    omega
theorem n7_lN : (7 : Int64) = lN 7 := by decide +kernel
theorem n0_lN : (0 : Int64) = lN 0 := by decide +kernel
theorem tI6 : ∀ l, l < 6 → Int32.toInt64 (nI l) = lN l := by decide +kernel
theorem wb_c0 {k : Nat} (h : k < 64) : ((nI k).toInt64 &&& 63) = lN k := wb_c k h
theorem pk_or {a d j : Nat} (ha : a < 2 ^ (3 * j)) (hd : d < 8) (hj : j < 6) : lN a ||| (lN d <<< ((nI (3 * j)).toInt64 &&& 63)) = lN (a + d * 2 ^ (3 * j)) := by
  have hp : 2 ^ (3 * j) ≤ 2 ^ 15 := Nat.pow_le_pow_right (by decide) (by omega)
  have hd2 : d * 2 ^ (3 * j) ≤ 7 * 2 ^ 15 := Nat.mul_le_mul (by omega) hp
  rw [wb_shl d (by omega), wb_or (by omega) (by omega)]
  congr 1
  rw [Nat.or_comm, Nat.mul_comm, ← Nat.two_pow_add_eq_or_of_lt ha]
  omega
theorem c_pack {σ : Sg} {X : Nat → Int32} (hX : Sml X) (hv : ∀ i, i < 6 → σ 70 i = X i) : f_X5_pack σ 57 = some (lN (pkN X 6)) := by
  unfold f_X5_pack
  rw [lo_run (f := f_X5_pack_L4 σ 57) (fun j => (lN (pkN X j), nI j)) (n := 6) (e := lN (pkN X 6)) (fun j hj => by
    have h1 := pkN_lt hX j (by omega)
    have h2 := dg_lt (hX j hj)
    unfold f_X5_pack_L4 f_X5_pack_J33
    simp only
    rw [zl_6, if_neg (nI_ge hj (by omega)), show 57 + 13 = 70 from rfl, a_70 (by omega)]
    simp only [obs]
    rw [hv j hj, zl_3, pk_mul]
    rcases hX j hj with e | ⟨l, hl, e⟩
    · rw [e, if_pos rfl, n7_lN, pk_or h1 (by omega) hj, nI_s]
      show _ = some (Sum.inl (lN (pkN X j + dgt (X j) * 2 ^ (3 * j)), nI (j + 1)))
      rw [e, dg_m1]
    · rw [e, if_neg (nI_m1b (by omega))]
      rw [tI6 l hl, pk_or h1 (by omega) hj, nI_s]
      show _ = some (Sum.inl (lN (pkN X j + dgt (X j) * 2 ^ (3 * j)), nI (j + 1)))
      rw [e, dg_l hl]) (by
    unfold f_X5_pack_L4
    simp only
    rw [zl_6, if_pos (nI_le (Nat.le_refl 6) (by omega))]) (by rw [n0_lN, zl_0]; rfl)]
  rfl
theorem pk_six {X : Nat → Int32} : pkN X 6 = dgt (X 0) + dgt (X 1) * 8 + dgt (X 2) * 64 + dgt (X 3) * 512 + dgt (X 4) * 4096 + dgt (X 5) * 32768 := by
  simp only [pkN, Nat.reduceMul, Nat.reducePow, Nat.mul_one, Nat.zero_add]
theorem pk_dig {X : Nat → Int32} {K : Nat} (hX : Sml X) (hK : K % 262144 = pkN X 6) : ∀ i, i < 6 → K / 2 ^ (3 * i) % 8 = dgt (X i) := by
  have h0 := dg_lt (hX 0 (by omega))
  have h1 := dg_lt (hX 1 (by omega))
  have h2 := dg_lt (hX 2 (by omega))
  have h3 := dg_lt (hX 3 (by omega))
  have h4 := dg_lt (hX 4 (by omega))
  have h5 := dg_lt (hX 5 (by omega))
  rw [pk_six] at hK
  intro i hi
  have hc : i = 0 ∨ i = 1 ∨ i = 2 ∨ i = 3 ∨ i = 4 ∨ i = 5 := by omega
  rcases hc with e | e | e | e | e | e <;> subst e <;> simp only [Nat.reduceMul, Nat.reducePow] <;> omega
theorem shD : ∀ i, i < 6 → (((nI (3 * i)).toInt64 &&& 63).toBitVec.smod 64).toNat = 3 * i := by decide +kernel
theorem tD8 : ∀ d, d < 8 → Int64.toInt32 (lN d) = nI d := by decide +kernel
theorem un_val {X : Nat → Int32} {K i : Nat} (hX : Sml X) (hK : K % 262144 = pkN X 6) (h62 : K < 2 ^ 62) (hi : i < 6) : Int64.toInt32 ((lN K >>> (Int32.toInt64 ((3 : Int32) * nI i) &&& 63)) &&& (7 : Int64)) = nI (dgt (X i)) := by
  have hm : ∀ a, a < 2 ^ 64 → lN a &&& lN 7 = lN (a % 8) := fun a ha => wb_mask (k := 3) ha (by decide)
  have hle : K / 2 ^ (3 * i) ≤ K := Nat.div_le_self _ _
  rw [zl_3, pk_mul, pf_shr (shD i hi) h62, n7_lN, hm _ (by omega), pk_dig hX hK i hi]
  exact tD8 _ (dg_lt (hX i hi))
theorem c_unpack {σ : Sg} {X : Nat → Int32} {K : Nat} (hX : Sml X) (hK : K % 262144 = pkN X 6) (h62 : K < 2 ^ 62) : f_X5_unpack σ 57 (lN K) = some (wo σ 70 0 6 X) := by
  unfold f_X5_unpack
  rw [lo_wo (σ := σ) (k := 70) (o := 0) (n := 6) (v := X) (fun j hj => by
    unfold f_X5_unpack_L2 f_X5_unpack_J38
    simp only
    rw [zl_6, if_neg (nI_ge hj (by omega)), un_val hX hK h62 hj, show 57 + 13 = 70 from rfl, s_70 (by omega), s_70 (by omega)]
    simp only [obs]
    have h7 : (7 : Int32) = nI 7 := zl_7
    rcases hX j hj with e | ⟨l, hl, e⟩
    · rw [e, dg_m1, if_pos h7.symm, nI_s, wo_s0 e.symm]
    · rw [e, dg_l hl, if_neg (fun z => absurd ((nI_eq (by omega) (by omega)).mp (z.trans h7)) (by omega)), nI_s, wo_s0 e.symm]) (by
    unfold f_X5_unpack_L2
    simp only
    rw [zl_6, if_pos (nI_le (Nat.le_refl 6) (by omega))]) zl_0]
  rfl
-- the visit of a node
def isL (n : Nat) (X : Nat → Int32) : Bool := decide (cnt (frf X) n = 0)
def vs1 (n : Nat) (X : Nat → Int32) (rs : Nat → Int32) : Nat → Int32 := upd (upd rs 2 (rs 2 + 1)) (7 + (n - cnt (frf X) n)) (rs (7 + (n - cnt (frf X) n)) + 1)
def vsG (n : Nat) (s X rs : Nat → Int32) : Bool := decide (bdS n s X < rs 0) && !isL n X
def vsR (n : Nat) (s X rs : Nat → Int32) : Nat → Int32 := if bdS n s X < rs 0 then (if cnt (frf X) n = 0 then upd (upd (upd (vs1 n X rs) 0 (bdS n s X)) 1 (numS n X)) 4 (rs 4 + 1) else vs1 n X rs) else upd (vs1 n X rs) 3 (rs 3 + 1)
def RC (σ : Sg) (rs : Nat → Int32) : Prop := σ 57 3 = rs 0 ∧ (¬ rs 0 = 1000000 → σ 57 4 = rs 1) ∧ σ 57 1 = rs 2 ∧ σ 57 5 = rs 3 ∧ σ 57 6 = rs 4 ∧ ∀ j, j < 7 → σ 58 j = rs (7 + j)
def RM (σ : Sg) (rs : Nat → Int32) : Prop := σ 91 0 = rs 0 ∧ (¬ rs 0 = 1000000 → σ 91 1 = rs 1) ∧ σ 91 2 = rs 2 ∧ σ 91 3 = rs 3 ∧ σ 91 4 = rs 4 ∧ ∀ j, j < 7 → σ 92 j = rs (7 + j)
theorem vs1_lo {n j : Nat} {X rs : Nat → Int32} (h : j < 7) (h2 : j ≠ 2) : vs1 n X rs j = rs j := by
  unfold vs1
  rw [pk_un (by omega), pk_un h2]
theorem vs1_2 {n : Nat} {X rs : Nat → Int32} : vs1 n X rs 2 = rs 2 + 1 := by
  unfold vs1
  rw [pk_un (by omega), pk_us]
theorem vs1_hi {n j : Nat} {X rs : Nat → Int32} : vs1 n X rs (7 + j) = if j = n - cnt (frf X) n then rs (7 + j) + 1 else rs (7 + j) := by
  unfold vs1
  by_cases c : j = n - cnt (frf X) n
  · rw [if_pos c, c, pk_us]
  · rw [if_neg c, pk_un (by omega), pk_un (by omega)]
theorem vec_X {σ : Sg} {k : Nat} {X : Nat → Int32} {n : Nat} (hn : n ≤ 6) (hv : ∀ i, i < n → σ k i = X i) : numS n (vec σ k 0) = numS n X := numS_cong fun i hi => by
  unfold vec
  rw [if_pos (by omega), Nat.zero_add, hv i hi]
theorem c_visit {σ : Sg} {n : Nat} {s X rs : Nat → Int32} (hs : EqS (snap σ 1) s) (hg : Gd n s) (hX : Fx n X) (hv : ∀ i, i < 6 → σ 70 i = X i) (h97 : σ 97 = fct) (hR : RC σ rs) : ∃ σ', f_X5_visit σ 57 1 = some (if vsG n s X rs = true then 1 else 0, σ') ∧ RC σ' (vsR n s X rs) ∧ BL n s X σ' 61 ∧ Fr [57, 58, 61, 62, 63, 64, 65, 66] σ σ' ∧ ∀ q, q ∉ [1, 3, 4, 5, 6] → σ' 57 q = σ 57 q := by
  have hn := hX.2.1
  obtain ⟨σ1, a1, a2, a3⟩ := c_load (kb := 61) (kf := 70) (Or.inr rfl) (Or.inr (Or.inl rfl)) hX hg hv hs
  obtain ⟨σ2, b1, b2⟩ := c_lowest (kb := 61) (Or.inr rfl) hg hX a3
  have B2 : BL n s X σ2 61 := by
    obtain ⟨w1, w2, w3, w4, w5, w6⟩ := a3
    exact ⟨by rw [b2.at (by decide), w1], by rw [b2.at (by decide), w2], by rw [b2.at (by decide), w3], by rw [b2.at (by decide), w4], fun i hi hx => by rw [b2.at (by decide), w5 i hi hx], fun i k hi hk hx hl => by rw [b2.at (by decide), w6 i k hi hk hx hl]⟩
  have F : ∀ q, ¬ (61 ≤ q ∧ q < 67) → σ2 q = σ q := fun q hq => by
    rw [b2 q (fun z => by have := List.mem_singleton.mp z; omega)]
    exact a2 q (by omega)
  obtain ⟨r0, r1, r2, r3, r4, r5⟩ := hR
  have e57 : σ2 57 = σ 57 := F 57 (by omega)
  have e58 : σ2 58 = σ 58 := F 58 (by omega)
  have hcl : cnt (frf X) n ≤ n := cnt_le n
  have e10 : σ2 1 0 = nI n := by rw [F 1 (by omega), rc_0 hs, hg.2.2.1]
  have e61 : σ2 61 0 = nI (cnt (frf X) n) := B2.2.2.2.1
  have hpairs : σ2 1 0 - σ2 61 0 = nI (n - cnt (frf X) n) := by rw [e10, e61, isb hcl]
  -- the counts
  generalize hσ3 : si (si σ2 57 1 (σ2 57 1 + 1)) 58 (n - cnt (frf X) n) (σ2 58 (n - cnt (frf X) n) + 1) = σ3
  have F3 : Fr [57, 58, 61, 62, 63, 64, 65, 66] σ σ3 := by
    rw [← hσ3]
    refine Fr.si (Fr.si (fun q hq => F q (fun z => hq (by simp only [List.mem_cons, List.not_mem_nil, or_false]; omega))) (by decide)) (by decide)
  have g57 : ∀ q, q ≠ 1 → σ3 57 q = σ 57 q := fun q hq => by rw [← hσ3, si_oth (by omega), si_miss hq, e57]
  have g1 : σ3 57 1 = σ 57 1 + 1 := by rw [← hσ3, si_oth (by omega), si_hit, e57]
  have g58 : ∀ j, j < 7 → σ3 58 j = vs1 n X rs (7 + j) := fun j hj => by
    rw [vs1_hi, ← hσ3]
    by_cases c : j = n - cnt (frf X) n
    · rw [if_pos c, c, si_hit, e58, r5 _ (by omega)]
    · rw [if_neg c, si_miss c, si_oth (by omega), e58, r5 j hj]
  have B3 : BL n s X σ3 61 := by
    obtain ⟨w1, w2, w3, w4, w5, w6⟩ := B2
    rw [← hσ3]
    exact ⟨by rw [si_oth (by omega), si_oth (by omega), w1], by rw [si_oth (by omega), si_oth (by omega), w2], by rw [si_oth (by omega), si_oth (by omega), w3], by rw [si_oth (by omega), si_oth (by omega), w4], fun i hi hx => by rw [si_oth (by omega), si_oth (by omega), w5 i hi hx], fun i k hi hk hx hl => by rw [si_oth (by omega), si_oth (by omega), w6 i k hi hk hx hl]⟩
  have BLo : ∀ {σ4 : Sg}, (∀ q, 61 ≤ q → σ4 q = σ3 q) → BL n s X σ4 61 := fun {σ4} h => by
    obtain ⟨w1, w2, w3, w4, w5, w6⟩ := B3
    exact ⟨by rw [h 61 (by omega), w1], by rw [h 61 (by omega), w2], by rw [h 61 (by omega), w3], by rw [h 61 (by omega), w4], fun i hi hx => by rw [h (61 + 2) (by omega), w5 i hi hx], fun i k hi hk hx hl => by rw [h (61 + 1) (by omega), w6 i k hi hk hx hl]⟩
  unfold f_X5_visit
  rw [show 57 + 4 = 61 from rfl, show 57 + 13 = 70 from rfl, show 57 + 1 = 58 from rfl, a1]
  simp only [obs]
  rw [b1]
  simp only [obs]
  rw [hpairs, it_58 (by omega)]
  simp only [obs]
  rw [se_58 (by omega)]
  simp only [obs]
  rw [si_oth (σ := σ2) (k := 57) (q := 58) (by omega), hσ3, g57 3 (by omega), r0]
  by_cases c : bdS n s X < rs 0
  · rw [if_pos c]
    by_cases d : cnt (frf X) n = 0
    · have e4 : σ3 61 0 = nI 0 := by rw [B3.2.2.2.1, d]
      rw [e4, ← zl_0, if_pos (by decide), si_oth (by omega), F3.at (by decide), rc_0 hs, hg.2.2.1, numberOf8_ok (by rw [si_oth (by omega), F3.at (by decide), h97]) hn (by decide +kernel), vec_X (X := X) hn (fun i hi => by rw [si_oth (by omega), F3.at (by decide)]; exact hv i (by omega))]
      simp only [obs]
      have hG : vsG n s X rs = false := by unfold vsG isL; rw [decide_eq_true d, Bool.not_true, Bool.and_false]
      have hV : vsR n s X rs = upd (upd (upd (vs1 n X rs) 0 (bdS n s X)) 1 (numS n X)) 4 (rs 4 + 1) := by unfold vsR; rw [if_pos c, if_pos d]
      rw [hG, if_neg (by decide), hV]
      refine ⟨_, rfl, ⟨?_, fun _ => ?_, ?_, ?_, ?_, fun j hj => ?_⟩, BLo (fun q hq => by rw [si_oth (by omega), si_oth (by omega), si_oth (by omega)]), ((F3.si (by decide)).si (by decide)).si (by decide), fun q hq => ?_⟩
      · rw [si_miss (by omega), si_miss (by omega), si_hit, pk_un (by omega), pk_un (by omega), pk_us]
      · rw [si_miss (by omega), si_hit, pk_un (by omega), pk_us]
      · rw [si_miss (by omega), si_miss (by omega), si_miss (by omega), g1, r2, pk_un (by omega), pk_un (by omega), pk_un (by omega), vs1_2]
      · rw [si_miss (by omega), si_miss (by omega), si_miss (by omega), g57 5 (by omega), r3, pk_un (by omega), pk_un (by omega), pk_un (by omega), vs1_lo (by omega) (by omega)]
      · rw [si_hit, si_miss (by omega), si_miss (by omega), g57 6 (by omega), r4, pk_us]
      · rw [si_oth (by omega), si_oth (by omega), si_oth (by omega), g58 j hj, pk_un (by omega), pk_un (by omega), pk_un (by omega)]
      · simp only [List.mem_cons, List.not_mem_nil, or_false] at hq
        rw [si_miss (by omega), si_miss (by omega), si_miss (by omega), g57 q (by omega)]
    · have hG : vsG n s X rs = true := by unfold vsG isL; rw [decide_eq_true c, decide_eq_false d]; rfl
      have hV : vsR n s X rs = vs1 n X rs := by unfold vsR; rw [if_pos c, if_neg d]
      rw [B3.2.2.2.1, zl_0, if_neg (nI_ge (by omega) (by omega)), hG, if_pos rfl, hV]
      refine ⟨_, rfl, ⟨?_, fun h => ?_, ?_, ?_, ?_, g58⟩, B3, F3, fun q hq => ?_⟩
      · rw [g57 3 (by omega), r0, vs1_lo (by omega) (by omega)]
      · rw [vs1_lo (by omega) (by omega)] at h ⊢
        rw [g57 4 (by omega), r1 h]
      · rw [g1, r2, vs1_2]
      · rw [g57 5 (by omega), r3, vs1_lo (by omega) (by omega)]
      · rw [g57 6 (by omega), r4, vs1_lo (by omega) (by omega)]
      · simp only [List.mem_cons, List.not_mem_nil, or_false] at hq
        exact g57 q (by omega)
  · have hG : vsG n s X rs = false := by unfold vsG; rw [decide_eq_false c]; rfl
    have hV : vsR n s X rs = upd (vs1 n X rs) 3 (rs 3 + 1) := by unfold vsR; rw [if_neg c]
    rw [if_neg c, hG, if_neg (by decide), hV]
    refine ⟨_, rfl, ⟨?_, fun h => ?_, ?_, ?_, ?_, fun j hj => ?_⟩, BLo (fun q hq => si_oth (by omega)), F3.si (by decide), fun q hq => ?_⟩
    · rw [si_miss (by omega), g57 3 (by omega), r0, pk_un (by omega), vs1_lo (by omega) (by omega)]
    · rw [pk_un (by omega), vs1_lo (by omega) (by omega)] at h ⊢
      rw [si_miss (by omega), g57 4 (by omega), r1 h]
    · rw [si_miss (by omega), g1, r2, pk_un (by omega), vs1_2]
    · rw [si_hit, g57 5 (by omega), r3, pk_us]
    · rw [si_miss (by omega), g57 6 (by omega), r4, pk_un (by omega), vs1_lo (by omega) (by omega)]
    · rw [si_oth (by omega), g58 j hj, pk_un (by omega)]
    · simp only [List.mem_cons, List.not_mem_nil, or_false] at hq
      rw [si_miss (by omega), g57 q (by omega)]
theorem m_counts {σ : Sg} {n : Nat} {s X rs : Nat → Int32} (hs : EqS (σ 76) s) (hg : Gd n s) (hX : Fx n X) (hw : ∀ i, i < 6 → σ 81 i = X i) (hR : RM σ rs) : ∃ σ', f_X9_counts σ 75 (bdS n s X) = some (if vsG n s X rs = true then 1 else 0, σ') ∧ RM σ' (vsR n s X rs) ∧ Fr [80, 91, 92] σ σ' ∧ ∀ q, 5 ≤ q → σ' 91 q = σ 91 q := by
  have hn := hX.2.1
  have h0 : σ 76 0 = nI n := by rw [hs 0 (by omega), hg.2.2.1]
  obtain ⟨r0, r1, r2, r3, r4, r5⟩ := hR
  have hcl : cnt (frf X) n ≤ n := cnt_le n
  have hp1 := m_pairs (σ := si σ 91 2 (σ 91 2 + 1)) (n := n) (X := X) (by rw [si_oth (by omega), h0]) hn (fun i hi => by rw [si_oth (by omega)]; exact hw i hi)
  have z2 : (2 : Int32) = nI 2 := zl_2
  generalize hσ3 : si (si σ 91 2 (σ 91 2 + 1)) 92 (n - cnt (frf X) n) (σ 92 (n - cnt (frf X) n) + 1) = σ3
  have F3 : Fr [80, 91, 92] σ σ3 := by
    rw [← hσ3]
    exact (Fr.rf.si (by decide)).si (by decide)
  have g57 : ∀ q, q ≠ 2 → σ3 91 q = σ 91 q := fun q hq => by rw [← hσ3, si_oth (by omega), si_miss hq]
  have g1 : σ3 91 2 = σ 91 2 + 1 := by rw [← hσ3, si_oth (by omega), si_hit]
  have g58 : ∀ j, j < 7 → σ3 92 j = vs1 n X rs (7 + j) := fun j hj => by
    rw [vs1_hi, ← hσ3]
    by_cases c : j = n - cnt (frf X) n
    · rw [if_pos c, c, si_hit, r5 _ (by omega)]
    · rw [if_neg c, si_miss c, si_oth (by omega), r5 j hj]
  have hp2 := m_pairs (σ := σ3) (n := n) (X := X) (by rw [F3.at (by decide), h0]) hn (fun i hi => by rw [F3.at (by decide)]; exact hw i hi)
  unfold f_X9_counts
  rw [show 75 + 16 = 91 from rfl, show 75 + 17 = 92 from rfl, z2, a_91 (by omega)]
  simp only [obs]
  rw [s_91 (by omega)]
  simp only [obs]
  rw [hp1]
  simp only [obs]
  rw [a_92 (by omega)]
  simp only [obs]
  rw [s_92 (by omega)]
  simp only [obs]
  rw [si_oth (σ := σ) (k := 91) (q := 92) (by omega), hσ3, zl_0, a_91 (by omega)]
  simp only [obs]
  rw [g57 0 (by omega), r0]
  by_cases c : bdS n s X < rs 0
  · rw [if_pos c, hp2]
    simp only [obs]
    rw [show 75 + 1 = 76 from rfl, a_76 (by omega)]
    simp only [obs]
    rw [F3.at (by decide), h0]
    by_cases d : cnt (frf X) n = 0
    · rw [if_pos (nI_le (by omega) (by omega)), s_91 (by omega)]
      simp only [obs]
      rw [lo_wo (f := f_X9_counts_L69 75) (σ := si σ3 91 0 (bdS n s X)) (k := 80) (o := 0) (n := n) (v := X) (fun j hj => by
        have e1 : wo (si σ3 91 0 (bdS n s X)) 80 0 j X 76 0 = nI n := by rw [wo_oth (by omega), si_oth (by omega), F3.at (by decide), h0]
        have e2 : wo (si σ3 91 0 (bdS n s X)) 80 0 j X 81 j = X j := by rw [wo_oth (by omega), si_oth (by omega), F3.at (by decide), hw j (by omega)]
        unfold f_X9_counts_L69
        simp only
        rw [show 75 + 1 = 76 from rfl, zl_0, a_76 (by omega)]
        simp only [obs]
        rw [e1, if_neg (nI_ge hj (by omega)), show 75 + 6 = 81 from rfl, a_81 (by omega)]
        simp only [obs]
        rw [e2, show 75 + 5 = 80 from rfl, s_80 (by omega)]
        simp only [obs]
        rw [wo_s0 rfl, nI_s]) (by
        have e1 : wo (si σ3 91 0 (bdS n s X)) 80 0 n X 76 0 = nI n := by rw [wo_oth (by omega), si_oth (by omega), F3.at (by decide), h0]
        unfold f_X9_counts_L69
        simp only
        rw [show 75 + 1 = 76 from rfl, zl_0, a_76 (by omega)]
        simp only [obs]
        rw [e1, if_pos (nI_le (Nat.le_refl n) (by omega))]) rfl]
      simp only [obs]
      rw [m_numberOf (n := n) (by rw [wo_oth (by omega), si_oth (by omega), F3.at (by decide), h0]) hn]
      simp only [obs]
      rw [vec_X (X := X) hn (fun i hi => wo_in0 hi), show (1 : Int32) = nI 1 from rfl, s_91 (by omega)]
      simp only [obs]
      rw [zl_4, a_91 (by omega)]
      simp only [obs]
      rw [s_91 (by omega)]
      simp only [obs]
      have hG : vsG n s X rs = false := by unfold vsG isL; rw [decide_eq_true d, Bool.not_true, Bool.and_false]
      have hV : vsR n s X rs = upd (upd (upd (vs1 n X rs) 0 (bdS n s X)) 1 (numS n X)) 4 (rs 4 + 1) := by unfold vsR; rw [if_pos c, if_pos d]
      have h4 : si (wo (si σ3 91 0 (bdS n s X)) 80 0 n X) 91 1 (numS n X) 91 4 = rs 4 := by rw [si_miss (by omega), wo_oth (by omega), si_miss (by omega), g57 4 (by omega), r4]
      rw [hG, if_neg (by decide), hV, h4]
      refine ⟨_, rfl, ⟨?_, fun _ => ?_, ?_, ?_, si_hit.trans pk_us.symm, fun j hj => ?_⟩, ((wo_fr (F3.si (by decide)) (by decide)).si (by decide)).si (by decide), fun q hq => ?_⟩
      · rw [si_miss (by omega), si_miss (by omega), wo_oth (by omega), si_hit, pk_un (by omega), pk_un (by omega), pk_us]
      · rw [si_miss (by omega), si_hit, pk_un (by omega), pk_us]
      · rw [si_miss (by omega), si_miss (by omega), wo_oth (by omega), si_miss (by omega), g1, r2, pk_un (by omega), pk_un (by omega), pk_un (by omega), vs1_2]
      · rw [si_miss (by omega), si_miss (by omega), wo_oth (by omega), si_miss (by omega), g57 3 (by omega), r3, pk_un (by omega), pk_un (by omega), pk_un (by omega), vs1_lo (by omega) (by omega)]
      · rw [si_oth (by omega), si_oth (by omega), wo_oth (by omega), si_oth (by omega), g58 j hj, pk_un (by omega), pk_un (by omega), pk_un (by omega)]
      · rw [si_miss (by omega), si_miss (by omega), wo_oth (by omega), si_miss (by omega), g57 q (by omega)]
    · have hG : vsG n s X rs = true := by unfold vsG isL; rw [decide_eq_true c, decide_eq_false d]; rfl
      have hV : vsR n s X rs = vs1 n X rs := by unfold vsR; rw [if_pos c, if_neg d]
      rw [if_neg (nI_ge (by omega) (by omega)), hG, if_pos rfl, hV]
      refine ⟨_, rfl, ⟨?_, fun h => ?_, ?_, ?_, ?_, g58⟩, F3, fun q hq => g57 q (by omega)⟩
      · rw [g57 0 (by omega), r0, vs1_lo (by omega) (by omega)]
      · rw [vs1_lo (by omega) (by omega)] at h ⊢
        rw [g57 1 (by omega), r1 h]
      · rw [g1, r2, vs1_2]
      · rw [g57 3 (by omega), r3, vs1_lo (by omega) (by omega)]
      · rw [g57 4 (by omega), r4, vs1_lo (by omega) (by omega)]
  · have hG : vsG n s X rs = false := by unfold vsG; rw [decide_eq_false c]; rfl
    have hV : vsR n s X rs = upd (vs1 n X rs) 3 (rs 3 + 1) := by unfold vsR; rw [if_neg c]
    rw [if_neg c, zl_3, a_91 (by omega)]
    simp only [obs]
    rw [s_91 (by omega)]
    simp only [obs]
    rw [hG, if_neg (by decide), hV, g57 3 (by omega), r3]
    refine ⟨_, rfl, ⟨?_, fun h => ?_, ?_, ?_, ?_, fun j hj => ?_⟩, F3.si (by decide), fun q hq => ?_⟩
    · rw [si_miss (by omega), g57 0 (by omega), r0, pk_un (by omega), vs1_lo (by omega) (by omega)]
    · rw [pk_un (by omega), vs1_lo (by omega) (by omega)] at h ⊢
      rw [si_miss (by omega), g57 1 (by omega), r1 h]
    · rw [si_miss (by omega), g1, r2, pk_un (by omega), vs1_2]
    · rw [si_hit, pk_us]
    · rw [si_miss (by omega), g57 4 (by omega), r4, pk_un (by omega), vs1_lo (by omega) (by omega)]
    · rw [si_oth (by omega), g58 j hj, pk_un (by omega)]
    · rw [si_miss (by omega), g57 q (by omega)]
