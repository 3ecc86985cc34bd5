-- the calls on fixings and bounds
theorem Gd.fx {n : Nat} {s : Nat → Int32} (hg : Gd n s) : Fx n (vS s 115) := by
  obtain ⟨h1, h2, h3, h4, h5, ⟨t, h6, h7⟩, h8⟩ := hg
  exact ⟨h1, h2, ag_pr h2 h6 h7, ag_inj h2 h6 h7, fun i hi h => by rw [vS_at h, h8 i hi h]⟩
theorem Fx_upd {n f l : Nat} {X : Nat → Int32} (hX : Fx n X) (hf : f < n) (hl : l < n) (hx : X f = -1) (hfr : frl n X l = true) : Fx n (upd X f (nI l)) := by
  obtain ⟨h1, h2, h3, h4, h5⟩ := hX
  have hX : Fx n X := ⟨h1, h2, h3, h4, h5⟩
  have hno := ((frl_iff hX (by omega)).mp hfr).2
  refine ⟨h1, h2, fun i hi => ?_, fun i j hi hj hm e => ?_, fun i hi h => by rw [pk_un (by omega)]; exact h5 i hi h⟩
  · by_cases c : i = f
    · rw [c, pk_us]
      exact Or.inr ⟨l, hl, rfl⟩
    · rw [pk_un c]
      exact h3 i hi
  · by_cases c : i = f
    · by_cases c2 : j = f
      · omega
      · rw [c, pk_us, pk_un c2] at e
        exact absurd e.symm (hno j hj)
    · by_cases c2 : j = f
      · rw [c2, pk_us, pk_un c] at e
        exact absurd e (hno i hi)
      · rw [pk_un c, pk_un c2] at e
        rw [pk_un c] at hm
        exact h4 i j hi hj hm e
theorem c_fxv {σ : Sg} {s : Nat → Int32} (h : EqS (snap σ 1) s) : ∀ i, i < 6 → σ 6 i = vS s 115 i := fun i hi => by rw [rc_x h hi, vS_at hi]
theorem m_w81 {σ : Sg} {s : Nat → Int32} (h : EqS (σ 76) s) : ∀ i, i < 6 → (wo σ 81 0 6 (fun i => σ 76 (115 + i))) 81 i = vS s 115 i := fun i hi => by rw [wo_in0 hi, vS_at hi, h _ (by omega)]
theorem fr_81 {σ : Sg} {v : Nat → Int32} : Fr [81] σ (wo σ 81 0 6 v) := wo_fr Fr.rf (by decide)
theorem Fb_fr {kb : Nat} {σ σ' : Sg} (hb : kb = 48) (h : Fb kb σ σ') : Fr [48, 49, 50, 51, 52, 53] σ σ' := fun q hq => h q (by
  simp only [List.mem_cons, List.not_mem_nil, or_false] at hq
  omega)
theorem rf_no {σ : Sg} {n : Nat} {a b : Int32} (h0 : σ 1 0 = nI n) (hn : n ≤ 6) (h : (a < 0 ∨ nI n ≤ a) ∨ (b < 0 ∨ nI n ≤ b)) : f_X8_requireFree σ 0 a b = some (.inl 2) := by
  unfold f_X8_requireFree
  rcases ixc n (by omega) a with ha | ⟨i, hi, rfl⟩
  · rw [rq_no h0 ha]
    rfl
  · rw [rq_yes h0 hn hi]
    rcases h with h | h
    · exfalso
      rcases h with h | h
      · exact nI_pos (by omega) h
      · exact nI_ge hi (by omega) h
    · simp only [obs, Sum.elim_inr]
      rw [rq_no h0 h]
      rfl
theorem rf_yes {σ : Sg} {s : Nat → Int32} {n i l : Nat} (hs : EqS (snap σ 1) s) (hg : Gd n s) (hi : i < n) (hl : l < n) : f_X8_requireFree σ 0 (nI i) (nI l) = some (if vS s 115 i = -1 ∧ frl n (vS s 115) l = true then .inr () else .inl 1) := by
  have h0 : σ 1 0 = nI n := by rw [rc_0 hs, hg.2.2.1]
  have hn := hg.2.1
  have hX := hg.fx
  have h6 := c_fxv hs
  obtain ⟨t1, t2⟩ := tkS_ok hX 6 (by omega)
  unfold f_X8_requireFree
  rw [rq_yes h0 hn hi, rq_yes h0 hn hl]
  simp only [obs, Sum.elim_inr]
  rw [show 0 + 1 + 5 = 6 from rfl, it_6 (by omega), h6 i (by omega)]
  simp only [obs]
  by_cases c : vS s 115 i = -1
  · rw [if_pos c, c_takenBy hX l6 h6]
    simp only [obs]
    rw [has_ok t1 (by omega)]
    simp only [obs]
    by_cases c2 : frl n (vS s 115) l = true
    · have hno : ¬ (tkS (vS s 115) 6).testBit l = true := fun z => by
        obtain ⟨j, hj, e⟩ := (t2 l (by omega)).mp z
        by_cases q : j < n
        · exact ((frl_iff hX (by omega)).mp c2).2 j q e
        · rw [hX.2.2.2.2 j (by omega) hj] at e
          exact nI_m1 (by omega) e.symm
      rw [if_neg hno, if_pos rfl, if_pos ⟨c, c2⟩]
    · have hyes : (tkS (vS s 115) 6).testBit l = true := by
        rw [t2 l (by omega)]
        apply Decidable.byContradiction
        intro z
        exact c2 ((frl_iff hX (by omega)).mpr ⟨hl, fun j hj e => z ⟨j, by omega, e⟩⟩)
      rw [if_pos hyes, if_neg (show ¬ (1 : Int32) = 0 by decide), if_neg (fun z => c2 z.2)]
  · rw [if_neg c, if_neg (fun z => c z.1)]
theorem m_areFree {σ : Sg} {s : Nat → Int32} {n i l : Nat} (hs : EqS (σ 76) s) (hg : Gd n s) (hi : i < n) (hl : l < n) : f_X9_areFree σ 75 (nI i) (nI l) = some (if vS s 115 i = -1 ∧ frl n (vS s 115) l = true then 1 else 0, wo σ 81 0 6 (fun i => σ 76 (115 + i))) := by
  have hn := hg.2.1
  have hX := hg.fx
  have hw := m_w81 hs
  have hs1 : EqS ((wo σ 81 0 6 (fun i => σ 76 (115 + i))) 76) s := fun q hq => by rw [wo_oth (by omega)]; exact hs q hq
  unfold f_X9_areFree
  rw [m_looks]
  simp only [obs]
  rw [show 75 + 6 = 81 from rfl, a_81 (by omega), hw i (by omega)]
  simp only [obs]
  by_cases c : vS s 115 i = -1
  · rw [if_pos c, m_isTaken (by rw [hs1 0 (by omega), hg.2.2.1]) hX hw hl]
    simp only [obs]
    by_cases c2 : frl n (vS s 115) l = true
    · rw [if_pos c2, if_pos rfl, if_pos ⟨c, c2⟩]
    · rw [if_neg c2, if_neg (show ¬ (1 : Int32) = 0 by decide), if_neg (fun z => c2 z.2)]
  · rw [if_neg c, if_neg (fun z => c z.1)]
theorem J_fixedCost {σ : Sg} (H : Iv σ) : JA (f_X8_fixedCost σ 0) (fun σ => f_X9_fixedCost σ 75) σ := by
  have H' := H
  obtain ⟨s, c, h, T, tx, md, rs, hG, hC, hM⟩ := H'
  obtain ⟨n, hg⟩ := hG.1
  have hX := hg.fx
  have hs1 : EqS ((wo σ 81 0 6 (fun i => σ 76 (115 + i))) 76) s := fun q hq => by rw [wo_oth (by omega)]; exact hM.1.1 q hq
  refine ⟨partS n (tS s 1) (tS s 37) (tS s 73) (vS s 115), si (wo σ 81 0 6 (fun i => σ 76 (115 + i))) 75 6 0, ?_, ?_, Iv_75 (Iv_fr H fr_81 (by decide) (by decide)) (by decide) (by decide)⟩
  · unfold f_X8_fixedCost
    have hv := rc_X hC.1.2.1
    rw [show 0 + 1 = 1 from rfl, show 1 + 5 = 6 from rfl, partCost_ok (CI_n hC hg) hg.2.1 l6 (by rw [hv]; exact hX.2.2.1), hv, rc_F hC.1.2.1, rc_D hC.1.2.1, rc_C hC.1.2.1]
    rfl
  · show f_X9_fixedCost σ 75 = _
    unfold f_X9_fixedCost
    rw [m_looks]
    simp only [obs]
    rw [m_fixedPart hs1 hg hX (m_w81 hM.1.1)]
    rfl
theorem J_bound {σ : Sg} (H : Iv σ) : JB (f_X8_bound σ 0) (fun σ => f_X9_bound σ 75) := by
  have H' := H
  obtain ⟨s, c, h, T, tx, md, rs, hG, hC, hM⟩ := H'
  obtain ⟨n, hg⟩ := hG.1
  have hX := hg.fx
  obtain ⟨σ1, a1, a2, a3⟩ := c_load (kb := 48) (kf := 6) (Or.inl rfl) (Or.inl rfl) hX hg (c_fxv hC.1.2.1) hC.1.2.1
  obtain ⟨σ2, b1, b2⟩ := c_lowest (Or.inl rfl) hg hX a3
  have F2 : Fr [48, 49, 50, 51, 52, 53] σ σ2 := Fr.tr (Fb_fr rfl a2) b2 (by decide)
  have H2 := Iv_fr H F2 (by decide) (by decide)
  have hM2 := MI_fr hM F2 (by decide)
  have hs1 : EqS ((wo σ2 81 0 6 (fun i => σ2 76 (115 + i))) 76) s := fun q hq => by rw [wo_oth (by omega)]; exact hM2.1.1 q hq
  obtain ⟨σ3, d1, d2⟩ := m_boundOf hs1 hg hX (m_w81 hM2.1.1)
  refine ⟨bdS n s (vS s 115), σ2, si σ3 75 6 0, ?_, ?_, Iv_75 (Iv_fr (Iv_fr H2 fr_81 (by decide) (by decide)) d2 (by decide) (by decide)) (by decide) (by decide)⟩
  · unfold f_X8_bound
    rw [show 0 + 48 = 48 from rfl, show 0 + 1 = 1 from rfl, show 1 + 5 = 6 from rfl, a1]
    simp only [obs]
    rw [b1]
    rfl
  · show f_X9_bound σ2 75 = _
    unfold f_X9_bound
    rw [m_looks]
    simp only [obs]
    rw [d1]
    rfl
theorem J_branchOn {σ : Sg} (H : Iv σ) : JB (f_X8_branchOn σ 0) (fun σ => f_X9_branchOn σ 75) := by
  have H' := H
  obtain ⟨s, c, h, T, tx, md, rs, hG, hC, hM⟩ := H'
  obtain ⟨n, hg⟩ := hG.1
  have hX := hg.fx
  obtain ⟨σ1, a1, a2, a3⟩ := c_load (kb := 48) (kf := 6) (Or.inl rfl) (Or.inl rfl) hX hg (c_fxv hC.1.2.1) hC.1.2.1
  have F2 := Fb_fr rfl a2
  have H2 := Iv_fr H F2 (by decide) (by decide)
  have hM2 := MI_fr hM F2 (by decide)
  have hs1 : EqS ((wo σ1 81 0 6 (fun i => σ1 76 (115 + i))) 76) s := fun q hq => by rw [wo_oth (by omega)]; exact hM2.1.1 q hq
  obtain ⟨σ3, d1, d2⟩ := m_branch hs1 hg hX (m_w81 hM2.1.1)
  refine ⟨brS n s (vS s 115), σ1, si σ3 75 6 0, ?_, ?_, Iv_75 (Iv_fr (Iv_fr H2 fr_81 (by decide) (by decide)) d2 (by decide) (by decide)) (by decide) (by decide)⟩
  · unfold f_X8_branchOn
    rw [show 0 + 48 = 48 from rfl, show 0 + 1 = 1 from rfl, show 1 + 5 = 6 from rfl, a1]
    simp only [obs]
    rw [c_branch (Or.inl rfl) hg hX a3]
    rfl
  · show f_X9_branchOn σ1 75 = _
    unfold f_X9_branchOn
    rw [m_looks]
    simp only [obs]
    rw [d1]
    rfl
theorem J_regret {σ : Sg} (H : Iv σ) (a : Int32) : JU 2 1 (f_X8_regret σ 0 a) (fun σ => f_X9_regret σ 75 a) := by
  have H' := H
  obtain ⟨s, c, h, T, tx, md, rs, hG, hC, hM⟩ := H'
  obtain ⟨n, hg⟩ := hG.1
  have hX := hg.fx
  have hc0 := CI_n hC hg
  have hm0 := MI_n hM hg
  have h1 := hg.1
  have hn := hg.2.1
  rcases ixc n (by omega) a with ha | ⟨i, hi, rfl⟩
  · refine Or.inr (Or.inl ⟨0, σ, si σ 75 6 1, ?_, ?_, si_hit, Iv_75 H (by decide) (by decide)⟩)
    · unfold f_X8_regret
      rw [rq_no hc0 ha]
      rfl
    · show f_X9_regret σ 75 a = _
      unfold f_X9_regret
      rw [one_no hm0 h1 hn ha]
      rfl
  · by_cases cx : vS s 115 i = -1
    · obtain ⟨σ1, a1, a2, a3⟩ := c_load (kb := 48) (kf := 6) (Or.inl rfl) (Or.inl rfl) hX hg (c_fxv hC.1.2.1) hC.1.2.1
      have F2 := Fb_fr rfl a2
      have H2 := Iv_fr H F2 (by decide) (by decide)
      have hM2 := MI_fr hM F2 (by decide)
      have hs1 : EqS ((wo σ1 81 0 6 (fun i => σ1 76 (115 + i))) 76) s := fun q hq => by rw [wo_oth (by omega)]; exact hM2.1.1 q hq
      obtain ⟨σ3, d1, d2⟩ := m_regretOf hs1 hg hX (m_w81 hM2.1.1) hi cx
      refine Or.inl ⟨nI (rgS n s (vS s 115) i), σ1, si σ3 75 6 0, ?_, ?_, si_hit, Iv_75 (Iv_fr (Iv_fr H2 fr_81 (by decide) (by decide)) d2 (by decide) (by decide)) (by decide) (by decide)⟩
      · unfold f_X8_regret
        rw [rq_yes hc0 hn hi]
        simp only [obs, Sum.elim_inr]
        rw [show 0 + 48 = 48 from rfl, show 0 + 1 = 1 from rfl, show 1 + 5 = 6 from rfl, it_6 (by omega), c_fxv hC.1.2.1 i (by omega)]
        simp only [obs]
        rw [if_pos cx, a1]
        simp only [obs]
        rw [c_regretOf (Or.inl rfl) hg hX a3 hi cx]
        rfl
      · show f_X9_regret σ1 75 (nI i) = _
        unfold f_X9_regret
        rw [one_yes (MI_n hM2 hg) hn hi]
        simp only [obs]
        rw [if_neg (show ¬ (1 : Int32) = 0 by decide), m_looks]
        simp only [obs]
        rw [show 75 + 6 = 81 from rfl, a_81 (by omega), m_w81 hM2.1.1 i (by omega)]
        simp only [obs]
        rw [if_pos cx, d1]
        rfl
    · refine Or.inr (Or.inr ⟨0, σ, si (wo σ 81 0 6 (fun i => σ 76 (115 + i))) 75 6 2, ?_, ?_, si_hit, Iv_75 (Iv_fr H fr_81 (by decide) (by decide)) (by decide) (by decide), by decide⟩)
      · unfold f_X8_regret
        rw [rq_yes hc0 hn hi]
        simp only [obs, Sum.elim_inr]
        rw [show 0 + 1 = 1 from rfl, show 1 + 5 = 6 from rfl, it_6 (by omega), c_fxv hC.1.2.1 i (by omega)]
        simp only [obs]
        rw [if_neg cx]
      · show f_X9_regret σ 75 (nI i) = _
        unfold f_X9_regret
        rw [one_yes hm0 hn hi]
        simp only [obs]
        rw [if_neg (show ¬ (1 : Int32) = 0 by decide), m_looks]
        simp only [obs]
        rw [show 75 + 6 = 81 from rfl, a_81 (by omega), m_w81 hM.1.1 i (by omega)]
        simp only [obs]
        rw [if_neg cx]
        rfl
theorem J_entry {σ : Sg} (H : Iv σ) (a b : Int32) : JU 2 1 (f_X8_entry σ 0 a b) (fun σ => f_X9_entry σ 75 a b) := by
  have H' := H
  obtain ⟨s, c, h, T, tx, md, rs, hG, hC, hM⟩ := H'
  obtain ⟨n, hg⟩ := hG.1
  have hX := hg.fx
  have hc0 := CI_n hC hg
  have hm0 := MI_n hM hg
  have h1 := hg.1
  have hn := hg.2.1
  have bad1 : f_X8_entry σ 0 a b = some (.inl (2, σ)) → f_X9_entry σ 75 a b = some (0, si σ 75 6 1) → JU 2 1 (f_X8_entry σ 0 a b) (fun σ1 => f_X9_entry σ1 75 a b) := fun e1 e2 => Or.inr (Or.inl ⟨0, σ, si σ 75 6 1, e1, e2, si_hit, Iv_75 H (by decide) (by decide)⟩)
  unfold f_X8_entry at bad1 ⊢
  unfold f_X9_entry f_X9_entry_J16 at bad1
  rcases ixc n (by omega) a with ha | ⟨i, hi, rfl⟩
  · exact bad1 (by rw [rf_no hc0 hn (Or.inl ha)]; rfl) (by rw [one_no hm0 h1 hn ha]; rfl)
  rcases ixc n (by omega) b with hb | ⟨l, hl, rfl⟩
  · exact bad1 (by rw [rf_no hc0 hn (Or.inr hb)]; rfl) (by rw [one_yes hm0 hn hi, one_no hm0 h1 hn hb]; rfl)
  clear bad1
  by_cases cf : vS s 115 i = -1 ∧ frl n (vS s 115) l = true
  · obtain ⟨σ1, a1, a2, a3⟩ := c_load (kb := 48) (kf := 6) (Or.inl rfl) (Or.inl rfl) hX hg (c_fxv hC.1.2.1) hC.1.2.1
    have F2 := Fb_fr rfl a2
    have H2 := Iv_fr H F2 (by decide) (by decide)
    have hM2 := MI_fr hM F2 (by decide)
    have hs1 : EqS ((wo σ1 81 0 6 (fun i => σ1 76 (115 + i))) 76) s := fun q hq => by rw [wo_oth (by omega)]; exact hM2.1.1 q hq
    obtain ⟨σ3, d1, d2⟩ := m_entryOf hs1 hg hX (m_w81 hM2.1.1) hi hl cf.1 cf.2
    refine Or.inl ⟨enS n (tS s 1) (tS s 37) (tS s 73) (vS s 115) i l, σ1, si σ3 75 6 0, ?_, ?_, si_hit, Iv_75 (Iv_fr (Iv_fr H2 fr_81 (by decide) (by decide)) d2 (by decide) (by decide)) (by decide) (by decide)⟩
    · rw [rf_yes hC.1.2.1 hg hi hl, if_pos cf]
      simp only [obs, Sum.elim_inr]
      rw [show 0 + 48 = 48 from rfl, show 0 + 1 = 1 from rfl, show 1 + 5 = 6 from rfl, a1]
      simp only [obs]
      rw [show 48 + 1 = 49 from rfl, at_49 (by omega) (by omega), a3.2.2.2.2.2 i l hi hl cf.1 cf.2]
      rfl
    · show f_X9_entry σ1 75 (nI i) (nI l) = _
      unfold f_X9_entry
      rw [one_yes (MI_n hM2 hg) hn hi, one_yes (MI_n hM2 hg) hn hl, m_areFree hM2.1.1 hg hi hl, if_pos cf]
      simp only [obs]
      rw [if_neg (show ¬ (1 : Int32) = 0 by decide), if_neg (show ¬ (1 : Int32) = 0 by decide), if_neg (show ¬ (1 : Int32) = 0 by decide), d1]
      rfl
  · refine Or.inr (Or.inr ⟨0, σ, si (wo σ 81 0 6 (fun i => σ 76 (115 + i))) 75 6 2, ?_, ?_, si_hit, Iv_75 (Iv_fr H fr_81 (by decide) (by decide)) (by decide) (by decide), by decide⟩)
    · rw [rf_yes hC.1.2.1 hg hi hl, if_neg cf]
      rfl
    · show f_X9_entry σ 75 (nI i) (nI l) = _
      unfold f_X9_entry
      rw [one_yes hm0 hn hi, one_yes hm0 hn hl, m_areFree hM.1.1 hg hi hl, if_neg cf]
      rfl
theorem J_boundWith {σ : Sg} (H : Iv σ) (a b : Int32) : JU 2 1 (f_X8_boundWith σ 0 a b) (fun σ => f_X9_boundWith σ 75 a b) := by
  have H' := H
  obtain ⟨s, c, h, T, tx, md, rs, hG, hC, hM⟩ := H'
  obtain ⟨n, hg⟩ := hG.1
  have hX := hg.fx
  have hc0 := CI_n hC hg
  have hm0 := MI_n hM hg
  have h1 := hg.1
  have hn := hg.2.1
  have bad1 : f_X8_boundWith σ 0 a b = some (.inl (2, σ)) → f_X9_boundWith σ 75 a b = some (0, si σ 75 6 1) → JU 2 1 (f_X8_boundWith σ 0 a b) (fun σ1 => f_X9_boundWith σ1 75 a b) := fun e1 e2 => Or.inr (Or.inl ⟨0, σ, si σ 75 6 1, e1, e2, si_hit, Iv_75 H (by decide) (by decide)⟩)
  unfold f_X8_boundWith at bad1 ⊢
  unfold f_X9_boundWith f_X9_boundWith_J16 at bad1
  rcases ixc n (by omega) a with ha | ⟨i, hi, rfl⟩
  · exact bad1 (by rw [rf_no hc0 hn (Or.inl ha)]; rfl) (by rw [one_no hm0 h1 hn ha]; rfl)
  rcases ixc n (by omega) b with hb | ⟨l, hl, rfl⟩
  · exact bad1 (by rw [rf_no hc0 hn (Or.inr hb)]; rfl) (by rw [one_yes hm0 hn hi, one_no hm0 h1 hn hb]; rfl)
  clear bad1
  by_cases cf : vS s 115 i = -1 ∧ frl n (vS s 115) l = true
  · have hX2 := Fx_upd hX hi hl cf.1 cf.2
    generalize hσ0 : si (wo σ 74 0 6 (σ 6)) 74 i (nI l) = σ0
    have F0 : Fr [74] σ σ0 := by rw [← hσ0]; exact (wo_fr Fr.rf (by decide)).si (by decide)
    have v0 : ∀ j, j < 6 → σ0 74 j = upd (vS s 115) i (nI l) j := fun j hj => by
      rw [← hσ0]
      by_cases q : j = i
      · rw [q, si_hit, pk_us]
      · rw [si_miss q, pk_un q, wo_in0 hj, c_fxv hC.1.2.1 j hj]
    have hs0 : EqS (snap σ0 1) s := by rw [snap1_fr F0 (by decide)]; exact hC.1.2.1
    obtain ⟨σ1, a1, a2, a3⟩ := c_load (kb := 48) (kf := 74) (Or.inl rfl) (Or.inr (Or.inr rfl)) hX2 hg v0 hs0
    obtain ⟨σ2, b1, b2⟩ := c_lowest (Or.inl rfl) hg hX2 a3
    have F2 : Fr [48, 49, 50, 51, 52, 53, 74] σ σ2 := fun q hq => by
      rw [b2.at (fun z => hq (by simp at z; simp [z])), Fb_fr rfl a2 q (fun z => hq (by simp at z ⊢; omega)), F0.at (fun z => hq (by simp at z; simp [z]))]
    have H2 := Iv_fr H F2 (by decide) (by decide)
    have hM2 := MI_fr hM F2 (by decide)
    have hw := m_w81 hM2.1.1
    generalize hσ3 : si (wo σ2 81 0 6 (fun i => σ2 76 (115 + i))) 81 i (nI l) = σ3
    have F3 : Fr [81] σ2 σ3 := by rw [← hσ3]; exact fr_81.si (by decide)
    have hs3 : EqS (σ3 76) s := fun q hq => by rw [F3.at (by decide)]; exact hM2.1.1 q hq
    obtain ⟨σ4, d1, d2⟩ := m_boundOf hs3 hg hX2 (fun j hj => by
      rw [← hσ3]
      by_cases q : j = i
      · rw [q, si_hit, pk_us]
      · rw [si_miss q, pk_un q, hw j hj])
    refine Or.inl ⟨bdS n s (upd (vS s 115) i (nI l)), σ2, si σ4 75 6 0, ?_, ?_, si_hit, Iv_75 (Iv_fr (Iv_fr H2 F3 (by decide) (by decide)) d2 (by decide) (by decide)) (by decide) (by decide)⟩
    · rw [rf_yes hC.1.2.1 hg hi hl, if_pos cf]
      simp only [obs, Sum.elim_inr]
      rw [show 0 + 48 = 48 from rfl, show 0 + 1 = 1 from rfl, show 1 + 5 = 6 from rfl, show 0 + 74 = 74 from rfl, show (6 : Int32) = nI 6 from rfl, acp_ok l6 ln_74 (by omega)]
      simp only [obs]
      rw [se_74 (by omega), hσ0]
      simp only [obs]
      rw [a1]
      simp only [obs]
      rw [b1]
      rfl
    · show f_X9_boundWith σ2 75 (nI i) (nI l) = _
      unfold f_X9_boundWith
      rw [one_yes (MI_n hM2 hg) hn hi, one_yes (MI_n hM2 hg) hn hl, m_areFree hM2.1.1 hg hi hl, if_pos cf]
      simp only [obs]
      rw [if_neg (show ¬ (1 : Int32) = 0 by decide), if_neg (show ¬ (1 : Int32) = 0 by decide), if_neg (show ¬ (1 : Int32) = 0 by decide), show 75 + 6 = 81 from rfl, s_81 (by omega), hσ3]
      simp only [obs]
      rw [d1]
      rfl
  · refine Or.inr (Or.inr ⟨0, σ, si (wo σ 81 0 6 (fun i => σ 76 (115 + i))) 75 6 2, ?_, ?_, si_hit, Iv_75 (Iv_fr H fr_81 (by decide) (by decide)) (by decide) (by decide), by decide⟩)
    · rw [rf_yes hC.1.2.1 hg hi hl, if_neg cf]
      rfl
    · show f_X9_boundWith σ 75 (nI i) (nI l) = _
      unfold f_X9_boundWith
      rw [one_yes hm0 hn hi, one_yes hm0 hn hl, m_areFree hM.1.1 hg hi hl, if_neg cf]
      rfl
-- fix and free
theorem snap_X {σ : Sg} {s : Nat → Int32} {i : Nat} {x : Int32} (hs : EqS (snap σ 1) s) (hi : i < 6) : EqS (snap (si σ 6 i x) 1) (upd s (115 + i) x) := by
  refine snap_case ?_ (fun j hj => ?_) (fun j hj => ?_) (fun j hj => ?_) (fun j hj => ?_) (fun j hj => ?_)
  · rw [snap_0, si_oth (by omega), pk_un (by omega), ← hs 0 (by omega)]
    rfl
  · rw [snap_f hj, si_oth (by omega), pk_un (by omega), ← hs _ (by omega), snap_f hj]
  · rw [snap_d hj, si_oth (by omega), pk_un (by omega), ← hs _ (by omega), snap_d hj]
  · rw [snap_c hj, si_oth (by omega), pk_un (by omega), ← hs _ (by omega), snap_c hj]
  · rw [snap_p hj, si_oth (by omega), pk_un (by omega), ← hs _ (by omega), snap_p hj]
  · rw [snap_x]
    by_cases c : j = i
    · rw [c, pk_us]
      exact si_hit
    · rw [pk_un (by omega), ← hs _ (by omega), snap_x]
      exact si_miss c
theorem vS_updX {s : Nat → Int32} {i : Nat} {x : Int32} (hi : i < 6) : vS (upd s (115 + i) x) 115 = upd (vS s 115) i x := by
  funext j
  show (if j < 6 then (if 115 + j = 115 + i then x else s (115 + j)) else 0) = if j = i then x else (if j < 6 then s (115 + j) else 0)
  by_cases c : j < 6
  · by_cases q : j = i
    · rw [if_pos c, if_pos (by omega), if_pos q]
    · rw [if_pos c, if_neg (by omega), if_neg q, if_pos c]
  · rw [if_neg c, if_neg (by omega), if_neg c]
theorem Gd_updX {n i : Nat} {s : Nat → Int32} {x : Int32} (hg : Gd n s) (hi : i < n) (h : ∃ t, t < fac n ∧ agQ n (upd (vS s 115) i x) t = true) : Gd n (upd s (115 + i) x) := by
  obtain ⟨g1, g2, g3, g4, ⟨t, g5, g6⟩, g7, g8⟩ := hg
  have e : ∀ o, o ≤ 73 → tS (upd s (115 + i) x) o = tS s o := fun o ho => by
    funext a b
    unfold tS
    by_cases c : a < 6 ∧ b < 6
    · rw [if_pos c, if_pos c, pk_un (by omega)]
    · rw [if_neg c, if_neg c]
  refine ⟨g1, g2, by rw [pk_un (by omega), g3], by rw [e 1 (by omega), e 37 (by omega), e 73 (by omega)]; exact g4, ⟨t, g5, fun j hj => by rw [pk_un (by omega), g6 j hj]⟩, by rw [vS_updX (by omega)]; exact h, fun j hj h6 => by rw [pk_un (by omega), g8 j hj h6]⟩
theorem c_freeCount {σ : Sg} {n : Nat} {X : Nat → Int32} (h0 : σ 1 0 = nI n) (hn : n ≤ 6) (hv : ∀ i, i < 6 → σ 6 i = X i) : f_X6_freeCount σ 1 = some (nI (cnt (frf X) n)) := by
  unfold f_X6_freeCount
  rw [lo_run (f := f_X6_freeCount_L4 σ 1) (fun i => (nI (cnt (frf X) i), nI i)) (n := n) (e := nI (cnt (frf X) n)) (fun i hi => by
    have hs : cnt (frf X) (i + 1) = cnt (frf X) i + if frf X i = true then 1 else 0 := rfl
    unfold f_X6_freeCount_L4 f_X6_freeCount_J23
    simp only
    rw [h0, if_neg (nI_ge hi (by omega)), isFree6 (by omega), vec_at (by omega), Nat.zero_add, hv i (by omega), hs]
    simp only [obs]
    by_cases c : X i = -1
    · rw [if_pos c, if_pos (show frf X i = true from decide_eq_true c), if_neg (show ¬ (1 : Int32) = 0 by decide), nI_s, nI_s]
    · rw [if_neg c, if_neg (show ¬ frf X i = true from fun z => c (of_decide_eq_true z)), if_pos rfl, nI_s]
      rfl) (by
    unfold f_X6_freeCount_L4
    simp only
    rw [h0, if_pos (nI_le (Nat.le_refl n) (by omega))]) (s := (0, 0)) rfl]
  rfl
theorem J_fix {σ : Sg} (H : Iv σ) (a b : Int32) : JU 2 1 (f_X8_fix σ 0 a b) (fun σ => f_X9_fix σ 75 a b) := by
  have H' := H
  obtain ⟨s, c, h, T, tx, md, rs, hG, hC, hM⟩ := H'
  obtain ⟨n, hg⟩ := hG.1
  have hX := hg.fx
  have hc0 := CI_n hC hg
  have hm0 := MI_n hM hg
  have h1 := hg.1
  have hn := hg.2.1
  have bad1 : f_X8_fix σ 0 a b = some (.inl (2, σ)) → f_X9_fix σ 75 a b = some (0, si σ 75 6 1) → JU 2 1 (f_X8_fix σ 0 a b) (fun σ1 => f_X9_fix σ1 75 a b) := fun e1 e2 => Or.inr (Or.inl ⟨0, σ, si σ 75 6 1, e1, e2, si_hit, Iv_75 H (by decide) (by decide)⟩)
  unfold f_X8_fix at bad1 ⊢
  unfold f_X9_fix f_X9_fix_J16 at bad1
  rcases ixc n (by omega) a with ha | ⟨i, hi, rfl⟩
  · exact bad1 (by rw [rf_no hc0 hn (Or.inl ha)]; rfl) (by rw [one_no hm0 h1 hn ha]; rfl)
  rcases ixc n (by omega) b with hb | ⟨l, hl, rfl⟩
  · exact bad1 (by rw [rf_no hc0 hn (Or.inr hb)]; rfl) (by rw [one_yes hm0 hn hi, one_no hm0 h1 hn hb]; rfl)
  clear bad1
  by_cases cf : vS s 115 i = -1 ∧ frl n (vS s 115) l = true
  · obtain ⟨t, ht, hat⟩ := hg.2.2.2.2.2.1
    have hag := ag_fix hn ht hat hi hl cf.1 ((frl_iff hX (by omega)).mp cf.2).2
    have hg' : Gd n (upd s (115 + i) (nI l)) := Gd_updX hg hi hag
    obtain ⟨σ1, q1, q2, q3⟩ := CI_push hC
    have hs1 := snap_X (x := nI l) q3.1.2.1 (show i < 6 by omega)
    have hF : Fr [1, 2, 3, 4, 5, 6] σ1 (si σ1 6 i (nI l)) := Fr.rf.si (by decide)
    have hs2 := MI_und hM q2 hF
    generalize hσ2 : si σ1 6 i (nI l) = σ2 at hF hs1 hs2
    have c20 : σ2 1 0 = nI n := by rw [rc_0 hs1, hg'.2.2.1]
    have hX' : vS (upd s (115 + i) (nI l)) 115 = upd (vS s 115) i (nI l) := vS_updX (by omega)
    have hw := m_w81 hs2
    -- the model
    generalize hσ3 : wo σ2 81 0 6 (fun i => σ2 76 (115 + i)) = σ3 at hw
    have F3 : Fr [81] σ2 σ3 := by rw [← hσ3]; exact fr_81
    have hs3 : EqS (σ3 76) s := fun q hq => by rw [F3.at (by decide)]; exact hs2 q hq
    generalize hσ4 : si (wo σ3 78 0 121 (σ3 76)) 76 (115 + i) (nI l) = σ4
    have F4 : Fr [76, 78] σ3 σ4 := by rw [← hσ4]; exact (wo_fr Fr.rf (by decide)).si (by decide)
    have hs4 : EqS (σ4 76) (upd s (115 + i) (nI l)) := fun q hq => by
      rw [← hσ4, si_self]
      unfold upd
      split
      · rfl
      · exact hold76 hs3 q hq
    have h784 : EqS (σ4 78) s := fun q hq => by rw [← hσ4, si_oth (by omega)]; exact hold78 hs3 q hq
    generalize hσ5 : wo σ4 81 0 6 (fun i => σ4 76 (115 + i)) = σ5
    have F5 : Fr [81] σ4 σ5 := by rw [← hσ5]; exact fr_81
    have hs5 : EqS (σ5 76) (upd s (115 + i) (nI l)) := fun q hq => by rw [F5.at (by decide)]; exact hs4 q hq
    have hw5 : ∀ j, j < 6 → σ5 81 j = upd (vS s 115) i (nI l) j := fun j hj => by rw [← hσ5, m_w81 hs4 j hj, hX']
    have F25 : Fr [76, 78, 80, 81] σ2 σ5 := Fr.tr (Fr.tr (Fr.tr Fr.rf F3 (by decide)) F4 (by decide)) F5 (by decide)
    have hcl := cnt_le (P := frf (upd (vS s 115) i (nI l))) n
    obtain ⟨σ', u1, u2, u3⟩ := J_und hG hM q2 q3 hF hs1 F25 (fun q hq => by rw [F5.at (by decide)]; exact h784 q hq) hs5 ⟨n, hg'⟩ (nI (n - cnt (frf (upd (vS s 115) i (nI l))) n))
    refine Or.inl ⟨nI (n - cnt (frf (upd (vS s 115) i (nI l))) n), σ2, σ', ?_, ?_, u2, u3⟩
    · rw [rf_yes hC.1.2.1 hg hi hl, if_pos cf]
      simp only [obs, Sum.elim_inr]
      rw [show 0 + 7 = 7 from rfl, show 0 + 1 = 1 from rfl, show 1 + 5 = 6 from rfl, q1]
      simp only [obs]
      rw [se_6 (by omega), hσ2]
      simp only [obs]
      rw [c_freeCount c20 hn (X := upd (vS s 115) i (nI l)) (fun j hj => by rw [c_fxv hs1 j hj, hX'])]
      simp only [obs]
      rw [c20, isb hcl]
    · show f_X9_fix σ2 75 (nI i) (nI l) = _
      unfold f_X9_fix
      have m20 : σ2 76 0 = nI n := by rw [hs2 0 (by omega), hg.2.2.1]
      rw [one_yes m20 hn hi, one_yes m20 hn hl, m_areFree hs2 hg hi hl, if_pos cf, hσ3]
      simp only [obs]
      rw [if_neg (show ¬ (1 : Int32) = 0 by decide), if_neg (show ¬ (1 : Int32) = 0 by decide), if_neg (show ¬ (1 : Int32) = 0 by decide), m_hold]
      simp only [obs]
      rw [show 75 + 1 = 76 from rfl, show (115 : Int32) = nI 115 from rfl, nI_add, s_76 (by omega), hσ4]
      simp only [obs]
      rw [m_looks, hσ5]
      simp only [obs]
      rw [m_pairs (by rw [hs5 0 (by omega), hg'.2.2.1]) hn hw5]
      simp only [obs]
      rw [u1]
      rfl
  · refine Or.inr (Or.inr ⟨0, σ, si (wo σ 81 0 6 (fun i => σ 76 (115 + i))) 75 6 2, ?_, ?_, si_hit, Iv_75 (Iv_fr H fr_81 (by decide) (by decide)) (by decide) (by decide), by decide⟩)
    · rw [rf_yes hC.1.2.1 hg hi hl, if_neg cf]
      rfl
    · show f_X9_fix σ 75 (nI i) (nI l) = _
      unfold f_X9_fix
      rw [one_yes hm0 hn hi, one_yes hm0 hn hl, m_areFree hM.1.1 hg hi hl, if_neg cf]
      rfl
theorem J_free {σ : Sg} (H : Iv σ) (a : Int32) : JU 2 1 (f_X8_free σ 0 a) (fun σ => f_X9_free σ 75 a) := by
  have H' := H
  obtain ⟨s, c, h, T, tx, md, rs, hG, hC, hM⟩ := H'
  obtain ⟨n, hg⟩ := hG.1
  have hX := hg.fx
  have hc0 := CI_n hC hg
  have hm0 := MI_n hM hg
  have h1 := hg.1
  have hn := hg.2.1
  rcases ixc n (by omega) a with ha | ⟨i, hi, rfl⟩
  · refine Or.inr (Or.inl ⟨0, σ, si σ 75 6 1, ?_, ?_, si_hit, Iv_75 H (by decide) (by decide)⟩)
    · unfold f_X8_free
      rw [rq_no hc0 ha]
      rfl
    · show f_X9_free σ 75 a = _
      unfold f_X9_free
      rw [one_no hm0 h1 hn ha]
      rfl
  · have v6 := c_fxv hC.1.2.1 i (by omega)
    have v76 : σ 76 (115 + i) = vS s 115 i := by rw [hM.1.1 _ (by omega), vS_at (by omega)]
    by_cases cx : vS s 115 i = -1
    · refine Or.inr (Or.inr ⟨0, σ, si σ 75 6 2, ?_, ?_, si_hit, Iv_75 H (by decide) (by decide), by decide⟩)
      · unfold f_X8_free
        rw [rq_yes hc0 hn hi]
        simp only [obs, Sum.elim_inr]
        rw [show 0 + 1 = 1 from rfl, show 1 + 5 = 6 from rfl, it_6 (by omega), v6]
        simp only [obs]
        rw [if_pos cx]
      · show f_X9_free σ 75 (nI i) = _
        unfold f_X9_free
        rw [one_yes hm0 hn hi]
        simp only [obs]
        rw [if_neg (show ¬ (1 : Int32) = 0 by decide), show 75 + 1 = 76 from rfl, show (115 : Int32) = nI 115 from rfl, nI_add, a_76 (by omega), v76]
        simp only [obs]
        rw [if_pos cx]
        rfl
    · obtain ⟨t, ht, hat⟩ := hg.2.2.2.2.2.1
      have hag : ∃ t, t < fac n ∧ agQ n (upd (vS s 115) i (-1)) t = true := ⟨t, ht, agQ_iff.mpr fun j hj => by
        by_cases q : j = i
        · rw [q, pk_us]
          exact Or.inl rfl
        · rw [pk_un q]
          exact agQ_iff.mp hat j hj⟩
      have hg' : Gd n (upd s (115 + i) (-1)) := Gd_updX hg hi hag
      obtain ⟨σ1, q1, q2, q3⟩ := CI_push hC
      have hs1 := snap_X (x := -1) q3.1.2.1 (show i < 6 by omega)
      have hF : Fr [1, 2, 3, 4, 5, 6] σ1 (si σ1 6 i (-1)) := Fr.rf.si (by decide)
      have hs2 := MI_und hM q2 hF
      generalize hσ2 : si σ1 6 i (-1) = σ2 at hF hs1 hs2
      have m20 : σ2 76 0 = nI n := by rw [hs2 0 (by omega), hg.2.2.1]
      have v276 : σ2 76 (115 + i) = vS s 115 i := by rw [hs2 _ (by omega), vS_at (by omega)]
      have v376 : (wo σ2 78 0 121 (σ2 76)) 76 (115 + i) = vS s 115 i := by rw [wo_oth (by omega), v276]
      generalize hσ4 : si (wo σ2 78 0 121 (σ2 76)) 76 (115 + i) (-1) = σ4
      have F4 : Fr [76, 78, 80, 81] σ2 σ4 := by rw [← hσ4]; exact fr_hold.si (by decide)
      have hs4 : EqS (σ4 76) (upd s (115 + i) (-1)) := fun q hq => by
        rw [← hσ4, si_self]
        unfold upd
        split
        · rfl
        · exact hold76 hs2 q hq
      obtain ⟨σ', u1, u2, u3⟩ := J_und hG hM q2 q3 hF hs1 F4 (fun q hq => by rw [← hσ4, si_oth (by omega)]; exact hold78 hs2 q hq) hs4 ⟨n, hg'⟩ (vS s 115 i)
      refine Or.inl ⟨vS s 115 i, σ2, σ', ?_, ?_, u2, u3⟩
      · unfold f_X8_free
        rw [rq_yes hc0 hn hi]
        simp only [obs, Sum.elim_inr]
        rw [show 0 + 7 = 7 from rfl, show 0 + 1 = 1 from rfl, show 1 + 5 = 6 from rfl, it_6 (by omega), v6]
        simp only [obs]
        rw [if_neg cx, q1]
        simp only [obs]
        rw [se_6 (by omega), hσ2]
        rfl
      · show f_X9_free σ2 75 (nI i) = _
        unfold f_X9_free
        rw [one_yes m20 hn hi]
        simp only [obs]
        rw [if_neg (show ¬ (1 : Int32) = 0 by decide), show 75 + 1 = 76 from rfl, show (115 : Int32) = nI 115 from rfl, nI_add, a_76 (by omega), v276]
        simp only [obs]
        rw [if_neg cx, m_hold]
        simp only [obs]
        rw [a_76 (by omega), v376]
        simp only [obs]
        rw [s_76 (by omega), hσ4]
        simp only [obs]
        rw [u1]
        rfl
