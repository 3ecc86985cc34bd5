-- the class's heap
theorem tIN {v : Nat} (h : v < 2147483648) : Int32.toInt64 (nI v) = lN v := by
  apply Int64.toInt_inj.mp
  rw [Int32.toInt_toInt64, nI_toInt h, pf_lI (by omega)]
theorem dv2 : ∀ a, a < 721 → dv (nI a) (2 : Int32) = some (nI (a / 2)) := by decide +kernel
theorem lg_gt {a b : Nat} (ha : a < 2 ^ 62) (hb : b < 2 ^ 62) (h : b < a) : lg_cmp (lN a) (lN b) = 1 := by
  unfold lg_cmp
  rw [if_pos (show lN a > lN b from Int64.lt_iff_toInt_lt.mpr (by rw [pf_lI (by omega), pf_lI (by omega)]; omega))]
theorem lg_eq {a : Nat} : lg_cmp (lN a) (lN a) = 0 := by
  unfold lg_cmp
  rw [if_neg (fun z : lN a > lN a => by have := Int64.lt_iff_toInt_lt.mp z; omega), if_pos rfl]
theorem lg_lt {a b : Nat} (ha : a < 2 ^ 62) (hb : b < 2 ^ 62) (h : a < b) : lg_cmp (lN a) (lN b) = -1 := by
  unfold lg_cmp
  rw [if_neg (fun z : lN a > lN b => by
    have := Int64.lt_iff_toInt_lt.mp z
    rw [pf_lI (by omega), pf_lI (by omega)] at this
    omega), if_neg (fun z : lN a = lN b => by
    have := congrArg Int64.toInt z
    rw [pf_lI (by omega), pf_lI (by omega)] at this
    omega)]
theorem lg_le0 {a b : Nat} (ha : a < 2 ^ 62) (hb : b < 2 ^ 62) : lg_cmp (lN a) (lN b) ≤ (0 : Int32) ↔ a ≤ b := by
  rcases Nat.lt_trichotomy a b with h | h | h
  · rw [lg_lt ha hb h]
    exact ⟨fun _ => by omega, fun _ => by decide⟩
  · rw [h, lg_eq]
    exact ⟨fun _ => by omega, fun _ => by decide⟩
  · rw [lg_gt ha hb h]
    exact ⟨fun z => absurd z (by decide), fun z => by omega⟩
theorem lg_ge0 {a b : Nat} (ha : a < 2 ^ 62) (hb : b < 2 ^ 62) : (0 : Int32) ≤ lg_cmp (lN a) (lN b) ↔ b ≤ a := by
  rcases Nat.lt_trichotomy a b with h | h | h
  · rw [lg_lt ha hb h]
    exact ⟨fun z => absurd z (by decide), fun z => by omega⟩
  · rw [h, lg_eq]
    exact ⟨fun _ => by omega, fun _ => by decide⟩
  · rw [lg_gt ha hb h]
    exact ⟨fun _ => by omega, fun _ => by decide⟩
theorem c_up {N x : Nat} {h : Nat → Nat} (hN : N < 720) (hx : x < 2 ^ 62) : ∀ p τ' g, UI N x h p g → (∀ i, i ≤ N → i ≠ p → τ' 60 i = lN (g i) ∧ g i < 2 ^ 62) → ∃ p' τ2 g', lo (f_X3_addOrdered_L5 59 (lN x)) (nI p, τ') = some (nI p', τ2) ∧ UI N x h p' g' ∧ (∀ i, i ≤ N → i ≠ p' → τ2 60 i = lN (g' i) ∧ g' i < 2 ^ 62) ∧ (p' = 0 ∨ g' ((p' - 1) / 2) ≤ x) := by
  intro p
  induction p using Nat.strongRecOn with
  | ind p ih =>
    intro τ' g hU hA
    have hpN := hU.1
    by_cases c : p = 0
    · subst c
      refine ⟨0, τ', g, lo_inr ?_, hU, hA, Or.inl rfl⟩
      unfold f_X3_addOrdered_L5
      dsimp only
      rw [zl_0, if_pos (nI_le (Nat.le_refl 0) (by omega))]
    · obtain ⟨e1, e2⟩ := hA ((p - 1) / 2) (by omega) (by omega)
      by_cases q : g ((p - 1) / 2) ≤ x
      · refine ⟨p, τ', g, lo_inr ?_, hU, hA, Or.inr q⟩
        unfold f_X3_addOrdered_L5
        dsimp only
        rw [if_neg (show ¬ nI p ≤ (0 : Int32) by rw [zl_0]; exact nI_ge (by omega) (by omega)), isub1 (by omega), dv2 _ (by omega)]
        simp only [obs]
        rw [c_node (by omega)]
        simp only [obs]
        rw [e1, if_pos ((lg_le0 e2 hx).mpr q)]
      · obtain ⟨p', τ2, g', r1, r2⟩ := ih ((p - 1) / 2) (by omega) (sl τ' 60 p (lN (g ((p - 1) / 2)))) (upN g p (g ((p - 1) / 2))) (UI_s hU (by omega) (by omega)) (fun i hi hne => by
          by_cases ci : i = p
          · rw [ci, sl_hit, upN_at]
            exact ⟨rfl, e2⟩
          · rw [sl_miss ci, upN_ne ci]
            exact hA i hi ci)
        refine ⟨p', τ2, g', ?_, r2⟩
        rw [← r1]
        refine lo_inl ?_
        unfold f_X3_addOrdered_L5
        dsimp only
        rw [if_neg (show ¬ nI p ≤ (0 : Int32) by rw [zl_0]; exact nI_ge (by omega) (by omega)), isub1 (by omega), dv2 _ (by omega)]
        simp only [obs]
        rw [c_node (by omega)]
        simp only [obs]
        rw [e1, if_neg (fun z => q ((lg_le0 e2 hx).mp z)), c_setNode (by omega)]
        simp only [obs]
def HP (N : Nat) (h : Nat → Nat) (τ : Tg) : Prop := HO h N ∧ ∀ i, i < N → τ 60 i = lN (h i) ∧ h i < 2 ^ 62
theorem c_addO {σ : Sg} {τ : Tg} {N x g0 : Nat} {h : Nat → Nat} (h59 : σ 59 0 = nI N) (h591 : σ 59 1 = nI g0) (hg0 : g0 ≤ 720) (hN : N < 720) (hx : x < 2 ^ 62) (hH : HP N h τ) : ∃ h' τ', f_X3_addOrdered σ τ 59 (lN x) = some (si (si σ 59 0 (nI (N + 1))) 59 1 (nI (max g0 (N + 1))), τ') ∧ HP (N + 1) h' τ' ∧ ∀ v, cv h' v (N + 1) = cv h v N + if x = v then 1 else 0 := by
  obtain ⟨H1, H2⟩ := hH
  obtain ⟨p', τ2, g', r1, r2, r3, r4⟩ := c_up hN hx N τ h (UI_0 H1) (fun i hi hne => H2 i (by omega))
  have hp := r2.1
  unfold f_X3_addOrdered
  rw [h59, r1]
  simp only [obs]
  rw [c_setNode (by omega)]
  simp only [obs]
  have e1 : si σ 59 0 (nI N + 1) 59 0 = nI (N + 1) := by rw [si_hit, nI_s]
  have e2 : si σ 59 0 (nI N + 1) 59 1 = nI g0 := by rw [si_miss (by omega), h591]
  have emx : mx (nI g0) (nI (N + 1)) = nI (max g0 (N + 1)) := by
    unfold mx
    by_cases c : g0 < N + 1
    · rw [if_pos (nI_lt c (by omega)), Nat.max_eq_right (by omega)]
    · rw [if_neg (nI_nlt (by omega) (by omega)), Nat.max_eq_left (by omega)]
  rw [e1, e2, emx, nI_s]
  refine ⟨upN g' p' x, _, rfl, ⟨UI_e r2 r4, fun i hi => ?_⟩, fun v => r2.2.2.2 v⟩
  by_cases c : i = p'
  · rw [c, sl_hit, upN_at]
    exact ⟨rfl, hx⟩
  · rw [sl_miss c, upN_ne c]
    exact r3 i (by omega) c
theorem c_child {σ : Sg} {τ : Tg} {M p : Nat} {g : Nat → Nat} (h59 : σ 59 0 = nI M) (hM : M ≤ 720) (hp : p < M ∨ p = 0) (hA : ∀ i, i < M → i ≠ p → τ 60 i = lN (g i) ∧ g i < 2 ^ 62) : f_X3_lesserChild σ τ 59 (nI p) = some (nI (lc g M p)) := by
  have z2 : (2 : Int32) * nI p + 1 = nI (2 * p + 1) := by rw [zl_2, nI_mulN, nI_s]
  unfold f_X3_lesserChild
  rw [z2, nI_s, h59]
  unfold lc
  by_cases c : M ≤ 2 * p + 1 + 1
  · rw [if_pos (nI_le c (by omega)), if_neg (fun z => by omega)]
  · obtain ⟨a1, a2⟩ := hA (2 * p + 1 + 1) (by omega) (by omega)
    obtain ⟨b1, b2⟩ := hA (2 * p + 1) (by omega) (by omega)
    rw [if_neg (nI_ge (by omega) (by omega)), c_node (by omega)]
    simp only [obs]
    rw [c_node (by omega)]
    simp only [obs]
    rw [a1, b1]
    by_cases q : g (2 * p + 2) < g (2 * p + 1)
    · rw [if_neg (fun z => absurd ((lg_ge0 a2 b2).mp z) (by rw [show 2 * p + 1 + 1 = 2 * p + 2 from rfl]; omega)), if_pos ⟨by omega, q⟩]
    · rw [if_pos ((lg_ge0 a2 b2).mpr (by rw [show 2 * p + 1 + 1 = 2 * p + 2 from rfl]; omega)), if_neg (fun z => q z.2)]
theorem lg_lt0 {a b : Nat} (ha : a < 2 ^ 62) (hb : b < 2 ^ 62) : lg_cmp (lN a) (lN b) < (0 : Int32) ↔ a < b := by
  rcases Nat.lt_trichotomy a b with h | h | h
  · rw [lg_lt ha hb h]
    exact ⟨fun _ => by omega, fun _ => by decide⟩
  · rw [h, lg_eq]
    exact ⟨fun z => absurd z (by decide), fun z => by omega⟩
  · rw [lg_gt ha hb h]
    exact ⟨fun z => absurd z (by decide), fun z => by omega⟩
theorem c_down {σ : Sg} {M x : Nat} {h : Nat → Nat} (h59 : σ 59 0 = nI M) (hM : M < 720) (hx : x < 2 ^ 62) : ∀ f p v τ' g, M ≤ p + f → v ≤ p → TI M x h p g → (∀ i, i < M → i ≠ p → τ' 60 i = lN (g i) ∧ g i < 2 ^ 62) → ∃ p' c' τ2 g' e, lo (f_X3_takeLeast_L17 (lN x, σ) 59) (nI p, nI v, τ') = some e ∧ (e = .inl (nI p', τ2) ∨ e = .inr (nI p', τ2)) ∧ c' = lc g' M p' ∧ TI M x h p' g' ∧ (∀ i, i < M → i ≠ p' → τ2 60 i = lN (g' i) ∧ g' i < 2 ^ 62) ∧ (M ≤ c' ∨ x ≤ g' c') := by
  intro f
  induction f with
  | zero =>
    intro p v τ' g hf hv hT hA
    have hl : M ≤ lc g M p := by
      rcases lc_or (g := g) (M := M) (p := p) with e | e <;> omega
    refine ⟨p, lc g M p, τ', g, .inr (nI p, τ'), lo_inr ?_, Or.inr rfl, rfl, hT, hA, Or.inl hl⟩
    have h3 : lc g M p ≤ 2 * p + 2 := by rcases lc_or (g := g) (M := M) (p := p) with e | e <;> omega
    have h4 := hT.1
    unfold f_X3_takeLeast_L17
    dsimp only
    rw [if_neg (show ¬ (720 : Int32) ≤ nI v by rw [zl_720]; exact nI_ge (by omega) (by omega)), c_child (g := g) h59 (by omega) h4 hA]
    simp only [obs]
    rw [if_pos (show σ 59 0 ≤ nI (lc g M p) by rw [h59]; exact nI_le hl (by omega))]
  | succ f ih =>
    intro p v τ' g hf hv hT hA
    have h3 : p < lc g M p ∧ lc g M p ≤ 2 * p + 2 := by rcases lc_or (g := g) (M := M) (p := p) with e | e <;> omega
    have h4 := hT.1
    have hg : ¬ (720 : Int32) ≤ nI v := by rw [zl_720]; exact nI_ge (by omega) (by omega)
    by_cases c1 : M ≤ lc g M p
    · refine ⟨p, lc g M p, τ', g, .inr (nI p, τ'), lo_inr ?_, Or.inr rfl, rfl, hT, hA, Or.inl c1⟩
      unfold f_X3_takeLeast_L17
      dsimp only
      rw [if_neg hg, c_child (g := g) h59 (by omega) h4 hA]
      simp only [obs]
      rw [if_pos (show σ 59 0 ≤ nI (lc g M p) by rw [h59]; exact nI_le c1 (by omega))]
    · obtain ⟨a1, a2⟩ := hA (lc g M p) (by omega) (by omega)
      by_cases c2 : x ≤ g (lc g M p)
      · refine ⟨p, lc g M p, τ', g, .inl (nI p, τ'), lo_inr ?_, Or.inl rfl, rfl, hT, hA, Or.inr c2⟩
        unfold f_X3_takeLeast_L17
        dsimp only
        rw [if_neg hg, c_child (g := g) h59 (by omega) h4 hA]
        simp only [obs]
        rw [if_neg (show ¬ σ 59 0 ≤ nI (lc g M p) by rw [h59]; exact nI_ge (by omega) (by omega)), c_node (by omega)]
        simp only [obs]
        rw [a1, if_neg (fun z => by have := (lg_lt0 a2 hx).mp z; omega)]
      · have hA' : ∀ i, i < M → i ≠ lc g M p → sl τ' 60 p (lN (g (lc g M p))) 60 i = lN (upN g p (g (lc g M p)) i) ∧ upN g p (g (lc g M p)) i < 2 ^ 62 := fun i hi hne => by
          by_cases ci : i = p
          · rw [ci, sl_hit, upN_at]
            exact ⟨rfl, a2⟩
          · rw [sl_miss ci, upN_ne ci]
            exact hA i hi ci
        obtain ⟨p', c', τ2, g', e, r1, r2⟩ := ih (lc g M p) (v + 1) (sl τ' 60 p (lN (g (lc g M p)))) (upN g p (g (lc g M p))) (by omega) (by omega) (TI_s hT (by omega) (by omega)) hA'
        refine ⟨p', c', τ2, g', e, ?_, r2⟩
        rw [← r1]
        refine lo_inl ?_
        unfold f_X3_takeLeast_L17
        dsimp only
        rw [if_neg hg, c_child (g := g) h59 (by omega) h4 hA]
        simp only [obs]
        rw [if_neg (show ¬ σ 59 0 ≤ nI (lc g M p) by rw [h59]; exact nI_ge (by omega) (by omega)), c_node (by omega)]
        simp only [obs]
        rw [a1, if_pos ((lg_lt0 a2 hx).mpr (by omega)), c_setNode (by omega)]
        simp only [obs]
        rw [nI_s]
theorem c_takeL {σ : Sg} {τ : Tg} {M : Nat} {h : Nat → Nat} (h59 : σ 59 0 = nI (M + 1)) (hM : M < 720) (hH : HP (M + 1) h τ) : ∃ h' τ', f_X3_takeLeast σ τ 59 = some (lN (h 0), si σ 59 0 (nI M), τ') ∧ HP M h' τ' ∧ ∀ v, cv h' v M + (if h 0 = v then 1 else 0) = cv h v (M + 1) := by
  obtain ⟨H1, H2⟩ := hH
  obtain ⟨x1, x2⟩ := H2 M (by omega)
  obtain ⟨y1, y2⟩ := H2 0 (by omega)
  have hs : si σ 59 0 (nI M) 59 0 = nI M := si_hit
  have hA : ∀ i, i < M → i ≠ 0 → τ 60 i = lN (h i) ∧ h i < 2 ^ 62 := fun i hi _ => H2 i (by omega)
  obtain ⟨p', c', τ2, g', e, r1, r1e, r2, r3, r4, r5⟩ := c_down (σ := si σ 59 0 (nI M)) (x := h M) hs hM x2 M 0 0 τ h (by omega) (Nat.le_refl 0) (TI_0 H1) hA
  have hp' := r3.1
  have hj : f_X3_takeLeast_J78 59 (lN (h 0)) (lN (h M)) (nI p') (si σ 59 0 (nI M)) τ2 = some (lN (h 0), si σ 59 0 (nI M), sl τ2 60 p' (lN (h M))) := by
    unfold f_X3_takeLeast_J78
    rw [c_setNode (by omega)]
    simp only [obs]
  subst r2
  refine ⟨upN g' p' (h M), sl τ2 60 p' (lN (h M)), ?_, ⟨TI_e r3 r5, fun i hi => ?_⟩, fun v => r3.2.2.2 v⟩
  · unfold f_X3_takeLeast f_X3_takeLast
    rw [zl_0, c_node (by omega)]
    simp only [obs]
    rw [← zl_0, h59, isub1 (by omega), Nat.add_sub_cancel, mxN (by omega), hs, c_node (by omega)]
    simp only [obs]
    rw [x1, zl_0, r1, y1]
    simp only [obs]
    rcases r1e with q | q
    · rw [q, Sum.elim_inl]
      exact hj
    · rw [q, Sum.elim_inr]
      exact hj
  · by_cases c : i = p'
    · rw [c, sl_hit, upN_at]
      exact ⟨rfl, x2⟩
    · rw [sl_miss c, upN_ne c]
      exact r4 i hi c
