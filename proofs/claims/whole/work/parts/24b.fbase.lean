-- which places are written
def Fr (W : List Nat) (σ σ' : Sg) : Prop := ∀ q, q ∉ W → σ' q = σ q
theorem Fr.rf {W : List Nat} {σ : Sg} : Fr W σ σ := fun _ _ => rfl
theorem Fr.tr {W W' : List Nat} {σ σ1 σ2 : Sg} (h : Fr W σ σ1) (h2 : Fr W' σ1 σ2) (hs : ∀ q, q ∈ W' → q ∈ W) : Fr W σ σ2 := fun q hq => (h2 q (fun z => hq (hs q z))).trans (h q hq)
theorem Fr.si {W : List Nat} {σ σ1 : Sg} {k j : Nat} {x : Int32} (h : Fr W σ σ1) (hk : k ∈ W) : Fr W σ (si σ1 k j x) := fun q hq => (si_ne σ1 j x (fun e => hq (by rw [e]; exact hk))).trans (h q hq)
theorem Fr.sa {W : List Nat} {σ σ1 : Sg} {k : Nat} {f : Nat → Int32} (h : Fr W σ σ1) (hk : k ∈ W) : Fr W σ (sa σ1 k f) := fun q hq => (sa_ne σ1 f (fun e => hq (by rw [e]; exact hk))).trans (h q hq)
theorem Fr.ast {W : List Nat} {σ σ1 σ2 : Sg} {k : Nat} {i x : Int32} (h : Fr W σ σ1) (hv : ast σ1 k i x = some σ2) (hk : k ∈ W) : Fr W σ σ2 := by
  obtain ⟨-, rfl⟩ := ast_in hv
  exact h.si hk
theorem Fr.acp {W : List Nat} {σ σ1 σ2 : Sg} {ks kt : Nat} {sp dp n : Int32} (h : Fr W σ σ1) (hv : acp σ1 ks sp kt dp n = some σ2) (hk : kt ∈ W) : Fr W σ σ2 := by
  obtain ⟨-, rfl⟩ := acp_in hv
  exact h.sa hk
theorem lo_inv {S E : Type} {f : S → Option (S ⊕ E)} (I : S → Prop) (J : E → Prop) (hs : ∀ s x, I s → f s = some x → (∀ s', x = .inl s' → I s') ∧ (∀ e, x = .inr e → J e)) {s : S} {e : E} (h : lo f s = some e) (h0 : I s) : J e := by
  obtain ⟨n, hn⟩ := lo_some h
  clear h
  induction n generalizing s with
  | zero => simp [loN] at hn
  | succ n ih =>
    unfold loN at hn
    cases hf : f s with
    | none => rw [hf] at hn; cases hn
    | some x =>
      rw [hf] at hn
      obtain ⟨h1, h2⟩ := hs s x h0 hf
      cases x with
      | inl s' => exact ih (h1 s' rfl) hn
      | inr e' => cases hn; exact h2 e rfl
