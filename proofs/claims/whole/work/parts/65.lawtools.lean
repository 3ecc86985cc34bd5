-- what the law does with a call's answer
theorem last0 {τ : Tg} {x : Int64} : last τ 96 (0 : Int32) x = some (sl τ 96 0 x) := by
  unfold last
  rw [zl_0, nI_clamp (by omega), ln_96, if_neg (fun z => z.elim (fun y => absurd y (nI_nlt (Nat.zero_le _) (by omega))) (fun y => absurd y (by omega)))]
theorem lald0 {τ : Tg} : lald τ 96 (0 : Int32) = some (τ 96 0) := by
  unfold lald
  rw [zl_0, nI_clamp (by omega), ln_96, if_neg (fun z => z.elim (fun y => absurd y (nI_nlt (Nat.zero_le _) (by omega))) (fun y => absurd y (by omega)))]
theorem lgc_eq {x : Int64} : lg_cmp x x = 0 := by
  unfold lg_cmp
  rw [if_neg (fun z : x > x => by have := Int64.lt_iff_toInt_lt.mp z; omega), if_pos rfl]
/-- a call that throws at most one kind -/
theorem L_U1 {e1 : Nat} {c : Option ((Nat × Sg) ⊕ (Int32 × Sg))} {m : Sg → Option (Int32 × Sg)} {τ : Tg} (H : JU e1 9 c m) : ∃ k σ1 τ1 v σ', (c.bind fun v => Sum.elim (fun n : Nat × Sg => if n.1 = e1 then some ((1 : Int32), n.2, τ) else none) (fun w : Int32 × Sg => (last τ 96 (0 : Int32) (Int32.toInt64 w.1)).bind fun t => some ((0 : Int32), w.2, t)) v) = some (k, σ1, τ1) ∧ m σ1 = some (v, σ') ∧ σ' 75 6 = k ∧ Iv σ' ∧ (k = 0 → τ1 96 0 = Int32.toInt64 v) := by
  rcases H with ⟨v, σ1, σ', h1, h2, h3, h4⟩ | ⟨v, σ1, σ', h1, h2, h3, h4⟩ | ⟨v, σ1, σ', h1, h2, h3, h4, h5, h6⟩
  · refine ⟨0, σ1, sl τ 96 0 (Int32.toInt64 v), v, σ', ?_, h2, h3, h4, fun _ => sl_hit⟩
    rw [h1]
    simp only [obs, Sum.elim_inr]
    rw [last0]
    rfl
  · refine ⟨1, σ1, τ, v, σ', ?_, h2, h3, h4, fun z => absurd z (by decide)⟩
    rw [h1]
    simp only [obs, Sum.elim_inl]
    rw [if_pos trivial]
  · exact absurd rfl h6
/-- a call that throws at most one kind and leaves the class's store -/
theorem L_T1 {e1 : Nat} {c : Option (Nat ⊕ Int32)} {m : Sg → Option (Int32 × Sg)} {τ : Tg} {σ : Sg} (H : JT e1 9 c m σ) : ∃ k τ1 v σ', (c.bind fun v => Sum.elim (fun n : Nat => if n = e1 then some ((1 : Int32), σ, τ) else none) (fun w : Int32 => (last τ 96 (0 : Int32) (Int32.toInt64 w)).bind fun t => some ((0 : Int32), σ, t)) v) = some (k, σ, τ1) ∧ m σ = some (v, σ') ∧ σ' 75 6 = k ∧ Iv σ' ∧ (k = 0 → τ1 96 0 = Int32.toInt64 v) := by
  rcases H with ⟨v, σ', h1, h2, h3, h4⟩ | ⟨v, σ', h1, h2, h3, h4⟩ | ⟨v, σ', h1, h2, h3, h4, h5, h6⟩
  · refine ⟨0, sl τ 96 0 (Int32.toInt64 v), v, σ', ?_, h2, h3, h4, fun _ => sl_hit⟩
    rw [h1]
    simp only [obs, Sum.elim_inr]
    rw [last0]
    rfl
  · refine ⟨1, τ, v, σ', ?_, h2, h3, h4, fun z => absurd z (by decide)⟩
    rw [h1]
    simp only [obs, Sum.elim_inl]
    rw [if_pos trivial]
  · exact absurd rfl h6
/-- a call that throws two kinds -/
theorem L_U2 {e1 e2 : Nat} {c : Option ((Nat × Sg) ⊕ (Int32 × Sg))} {m : Sg → Option (Int32 × Sg)} {τ : Tg} (H : JU e1 e2 c m) : ∃ k σ1 τ1 v σ', (c.bind fun v => Sum.elim (fun n : Nat × Sg => if n.1 = e1 then some ((1 : Int32), n.2, τ) else (if n.1 = e2 then some ((2 : Int32), n.2, τ) else none)) (fun w : Int32 × Sg => (last τ 96 (0 : Int32) (Int32.toInt64 w.1)).bind fun t => some ((0 : Int32), w.2, t)) v) = some (k, σ1, τ1) ∧ m σ1 = some (v, σ') ∧ σ' 75 6 = k ∧ Iv σ' ∧ (k = 0 → τ1 96 0 = Int32.toInt64 v) := by
  rcases H with ⟨v, σ1, σ', h1, h2, h3, h4⟩ | ⟨v, σ1, σ', h1, h2, h3, h4⟩ | ⟨v, σ1, σ', h1, h2, h3, h4, h5, h6⟩
  · refine ⟨0, σ1, sl τ 96 0 (Int32.toInt64 v), v, σ', ?_, h2, h3, h4, fun _ => sl_hit⟩
    rw [h1]
    simp only [obs, Sum.elim_inr]
    rw [last0]
    rfl
  · refine ⟨1, σ1, τ, v, σ', ?_, h2, h3, h4, fun z => absurd z (by decide)⟩
    rw [h1]
    simp only [obs, Sum.elim_inl]
    rw [if_pos trivial]
  · refine ⟨2, σ1, τ, v, σ', ?_, h2, h3, h4, fun z => absurd z (by decide)⟩
    rw [h1]
    simp only [obs, Sum.elim_inl]
    rw [if_neg (fun z => h5 z.symm), if_pos trivial]
/-- a call that throws two kinds and leaves the class's store -/
theorem L_T2 {e1 e2 : Nat} {c : Option (Nat ⊕ Int32)} {m : Sg → Option (Int32 × Sg)} {τ : Tg} {σ : Sg} (H : JT e1 e2 c m σ) : ∃ k τ1 v σ', (c.bind fun v => Sum.elim (fun n : Nat => if n = e1 then some ((1 : Int32), σ, τ) else (if n = e2 then some ((2 : Int32), σ, τ) else none)) (fun w : Int32 => (last τ 96 (0 : Int32) (Int32.toInt64 w)).bind fun t => some ((0 : Int32), σ, t)) v) = some (k, σ, τ1) ∧ m σ = some (v, σ') ∧ σ' 75 6 = k ∧ Iv σ' ∧ (k = 0 → τ1 96 0 = Int32.toInt64 v) := by
  rcases H with ⟨v, σ', h1, h2, h3, h4⟩ | ⟨v, σ', h1, h2, h3, h4⟩ | ⟨v, σ', h1, h2, h3, h4, h5, h6⟩
  · refine ⟨0, sl τ 96 0 (Int32.toInt64 v), v, σ', ?_, h2, h3, h4, fun _ => sl_hit⟩
    rw [h1]
    simp only [obs, Sum.elim_inr]
    rw [last0]
    rfl
  · refine ⟨1, τ, v, σ', ?_, h2, h3, h4, fun z => absurd z (by decide)⟩
    rw [h1]
    simp only [obs, Sum.elim_inl]
    rw [if_pos trivial]
  · refine ⟨2, τ, v, σ', ?_, h2, h3, h4, fun z => absurd z (by decide)⟩
    rw [h1]
    simp only [obs, Sum.elim_inl]
    rw [if_neg (fun z => h5 z.symm), if_pos trivial]
