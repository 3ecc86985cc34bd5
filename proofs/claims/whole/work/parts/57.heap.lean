-- a heap of numbers
def upN (g : Nat → Nat) (p x : Nat) : Nat → Nat := fun i => if i = p then x else g i
theorem upN_at {g : Nat → Nat} {p x : Nat} : upN g p x p = x := if_pos rfl
theorem upN_ne {g : Nat → Nat} {p x i : Nat} (h : i ≠ p) : upN g p x i = g i := if_neg h
def HO (h : Nat → Nat) (N : Nat) : Prop := ∀ i, 0 < i → i < N → h ((i - 1) / 2) ≤ h i
def cv (h : Nat → Nat) (v : Nat) : Nat → Nat
  | 0 => 0
  | N + 1 => cv h v N + if h N = v then 1 else 0
theorem cv_cong {h g : Nat → Nat} {v : Nat} : ∀ N, (∀ i, i < N → h i = g i) → cv h v N = cv g v N
  | 0, _ => rfl
  | N + 1, e => by
    show cv h v N + _ = cv g v N + _
    rw [cv_cong N (fun i hi => e i (by omega)), e N (by omega)]
theorem cv_up {h : Nat → Nat} {v p x : Nat} : ∀ N, p < N → cv (upN h p x) v N + (if h p = v then 1 else 0) = cv h v N + if x = v then 1 else 0
  | 0, hp => absurd hp (by omega)
  | N + 1, hp => by
    show cv (upN h p x) v N + (if upN h p x N = v then 1 else 0) + _ = cv h v N + (if h N = v then 1 else 0) + _
    by_cases c : p = N
    · subst c
      rw [cv_cong (h := upN h p x) (g := h) p (fun i hi => upN_ne (by omega)), upN_at]
      omega
    · have := cv_up (h := h) (v := v) (p := p) (x := x) N (by omega)
      rw [upN_ne (i := N) (by omega)]
      omega
theorem cv_pos {h : Nat → Nat} {v : Nat} : ∀ N, (1 ≤ cv h v N ↔ ∃ i, i < N ∧ h i = v)
  | 0 => ⟨fun z => absurd z (by show ¬ 1 ≤ 0; omega), fun ⟨i, hi, _⟩ => absurd hi (by omega)⟩
  | N + 1 => by
    have ih := cv_pos (h := h) (v := v) N
    constructor
    · intro z
      by_cases c : h N = v
      · exact ⟨N, by omega, c⟩
      · have e : cv h v (N + 1) = cv h v N := by
          show cv h v N + (if h N = v then 1 else 0) = _
          rw [if_neg c, Nat.add_zero]
        rw [e] at z
        obtain ⟨i, hi, hv⟩ := ih.mp z
        exact ⟨i, by omega, hv⟩
    · intro ⟨i, hi, hv⟩
      show 1 ≤ cv h v N + (if h N = v then 1 else 0)
      by_cases c : i = N
      · rw [if_pos (by rw [← c]; exact hv)]
        omega
      · have := ih.mpr ⟨i, by omega, hv⟩
        omega
theorem HO_min {h : Nat → Nat} {N : Nat} (H : HO h N) : ∀ i, i < N → h 0 ≤ h i := by
  intro i
  induction i using Nat.strongRecOn with
  | ind i ih =>
    intro hi
    by_cases c : i = 0
    · rw [c]
      exact Nat.le_refl _
    · have h1 := H i (by omega) hi
      have h2 := ih ((i - 1) / 2) (by omega) (by omega)
      omega
-- a place further up
def UI (N x : Nat) (h : Nat → Nat) (p : Nat) (g : Nat → Nat) : Prop := p ≤ N ∧ (∀ i, 0 < i → i ≤ N → i ≠ p → upN g p x ((i - 1) / 2) ≤ upN g p x i) ∧ (0 < p → ∀ c, 0 < c → c ≤ N → (c - 1) / 2 = p → upN g p x ((p - 1) / 2) ≤ upN g p x c) ∧ ∀ v, cv (upN g p x) v (N + 1) = cv h v N + if x = v then 1 else 0
theorem UI_0 {N x : Nat} {h : Nat → Nat} (H : HO h N) : UI N x h N h := by
  refine ⟨Nat.le_refl _, fun i h0 hi hne => ?_, fun _ c h0 hc e => absurd e (by omega), fun v => ?_⟩
  · rw [upN_ne (by omega), upN_ne hne]
    exact H i h0 (by omega)
  · show cv (upN h N x) v N + (if upN h N x N = v then 1 else 0) = _
    rw [upN_at, cv_cong (h := upN h N x) (g := h) N (fun i hi => upN_ne (by omega))]
theorem UI_s {N x p : Nat} {h g : Nat → Nat} (H : UI N x h p g) (hp : 0 < p) (hx : x < g ((p - 1) / 2)) : UI N x h ((p - 1) / 2) (upN g p (g ((p - 1) / 2))) := by
  obtain ⟨u1, u2, u3, u4⟩ := H
  have hq : (p - 1) / 2 < p := by omega
  generalize hqe : (p - 1) / 2 = q at *
  have old : ∀ i, i ≠ p → upN g p x i = g i := fun i hi => upN_ne hi
  have new : ∀ i, i ≠ p → i ≠ q → upN (upN g p (g q)) q x i = g i := fun i h1 h2 => by rw [upN_ne h2, upN_ne h1]
  have newp : upN (upN g p (g q)) q x p = g q := by rw [upN_ne (by omega), upN_at]
  have newq : upN (upN g p (g q)) q x q = x := upN_at
  refine ⟨by omega, fun i h0 hi hne => ?_, fun hq0 c h0 hc e => ?_, fun v => ?_⟩
  · by_cases c1 : i = p
    · rw [c1, newp, hqe, newq]
      omega
    · rw [new i c1 hne]
      by_cases c2 : (i - 1) / 2 = p
      · rw [c2, newp]
        have := u3 hp i h0 hi c2
        rwa [old q (by omega), old i c1] at this
      · by_cases c3 : (i - 1) / 2 = q
        · rw [c3, newq]
          have := u2 i h0 hi c1
          rw [c3, old q (by omega), old i c1] at this
          omega
        · rw [new _ c2 c3]
          have := u2 i h0 hi c1
          rwa [old _ c2, old i c1] at this
  · have hpar : upN (upN g p (g q)) q x ((q - 1) / 2) = g ((q - 1) / 2) := new _ (by omega) (by omega)
    have h1 := u2 q hq0 (by omega) (by omega)
    rw [old _ (by omega), old q (by omega)] at h1
    rw [hpar]
    by_cases c1 : c = p
    · rw [c1, newp]
      exact h1
    · rw [new c c1 (by omega)]
      have h2 := u2 c h0 hc c1
      rw [e, old q (by omega), old c c1] at h2
      omega
  · rw [← u4 v]
    have a := cv_up (h := upN g p (g q)) (v := v) (p := q) (x := x) (N + 1) (by omega)
    have b := cv_up (h := g) (v := v) (p := p) (x := g q) (N + 1) (by omega)
    have c := cv_up (h := g) (v := v) (p := p) (x := x) (N + 1) (by omega)
    rw [upN_ne (show q ≠ p by omega)] at a
    omega
theorem UI_e {N x p : Nat} {h g : Nat → Nat} (H : UI N x h p g) (hx : p = 0 ∨ g ((p - 1) / 2) ≤ x) : HO (upN g p x) (N + 1) := by
  obtain ⟨u1, u2, u3, u4⟩ := H
  intro i h0 hi
  by_cases c : i = p
  · subst c
    rw [upN_at, upN_ne (by omega)]
    exact hx.resolve_left (by omega)
  · exact u2 i h0 (by omega) c
-- a place further down
def TI (M x : Nat) (h : Nat → Nat) (p : Nat) (g : Nat → Nat) : Prop := (p < M ∨ p = 0) ∧ (∀ i, 0 < i → i < M → (i - 1) / 2 ≠ p → upN g p x ((i - 1) / 2) ≤ upN g p x i) ∧ (0 < p → ∀ c, 0 < c → c < M → (c - 1) / 2 = p → upN g p x ((p - 1) / 2) ≤ upN g p x c) ∧ ∀ v, cv (upN g p x) v M + (if h 0 = v then 1 else 0) = cv h v (M + 1)
theorem TI_0 {M : Nat} {h : Nat → Nat} (H : HO h (M + 1)) : TI M (h M) h 0 h := by
  refine ⟨Or.inr rfl, fun i h0 hi hne => ?_, fun z => absurd z (by omega), fun v => ?_⟩
  · rw [upN_ne hne, upN_ne (by omega)]
    exact H i h0 (by omega)
  · show _ = cv h v M + (if h M = v then 1 else 0)
    by_cases c : M = 0
    · subst c
      rfl
    · exact cv_up M (by omega)
def lc (g : Nat → Nat) (M p : Nat) : Nat := if 2 * p + 2 < M ∧ g (2 * p + 2) < g (2 * p + 1) then 2 * p + 2 else 2 * p + 1
theorem lc_or {g : Nat → Nat} {M p : Nat} : lc g M p = 2 * p + 1 ∨ lc g M p = 2 * p + 2 := by
  unfold lc
  split
  · exact Or.inr rfl
  · exact Or.inl rfl
theorem lc_min {g : Nat → Nat} {M p c : Nat} (hc : c < M) (h0 : 0 < c) (e : (c - 1) / 2 = p) : lc g M p < M ∧ g (lc g M p) ≤ g c := by
  unfold lc
  have hcc : c = 2 * p + 1 ∨ c = 2 * p + 2 := by omega
  split
  · next h =>
    rcases hcc with e1 | e1
    · rw [e1]
      exact ⟨h.1, by omega⟩
    · rw [e1]
      exact ⟨h.1, Nat.le_refl _⟩
  · next h =>
    rcases hcc with e1 | e1
    · rw [e1]
      exact ⟨by omega, Nat.le_refl _⟩
    · rw [e1]
      refine ⟨by omega, ?_⟩
      by_cases q : g (2 * p + 2) < g (2 * p + 1)
      · exact absurd ⟨by omega, q⟩ h
      · omega
theorem TI_s {M x p : Nat} {h g : Nat → Nat} (H : TI M x h p g) (hc : lc g M p < M) (hx : g (lc g M p) < x) : TI M x h (lc g M p) (upN g p (g (lc g M p))) := by
  obtain ⟨u1, u2, u3, u4⟩ := H
  have hmin := fun c h1 h2 h3 => lc_min (g := g) (M := M) (p := p) (c := c) h1 h2 h3
  have hor := lc_or (g := g) (M := M) (p := p)
  generalize lc g M p = q at *
  have hqp : (q - 1) / 2 = p := by omega
  have hpq : p < q := by omega
  have old : ∀ i, i ≠ p → upN g p x i = g i := fun i hi => upN_ne hi
  have new : ∀ i, i ≠ p → i ≠ q → upN (upN g p (g q)) q x i = g i := fun i h1 h2 => by rw [upN_ne h2, upN_ne h1]
  have newp : upN (upN g p (g q)) q x p = g q := by rw [upN_ne (by omega), upN_at]
  have newq : upN (upN g p (g q)) q x q = x := upN_at
  refine ⟨Or.inl hc, fun i h0 hi hne => ?_, fun _ c h0 hcM e => ?_, fun v => ?_⟩
  · by_cases c1 : (i - 1) / 2 = p
    · rw [c1, newp]
      by_cases c2 : i = q
      · rw [c2, newq]
        omega
      · rw [new i (by omega) c2]
        exact (hmin i hi h0 c1).2
    · have h1 := u2 i h0 hi c1
      by_cases c3 : i = p
      · rw [c3, newp]
        have h2 := u3 (by omega) q (by omega) hc hqp
        rw [old _ (by omega), old q (by omega)] at h2
        rw [new _ (by omega) (by omega)]
        exact h2
      · rw [old _ c1, old i c3] at h1
        by_cases c4 : i = q
        · omega
        · rw [new _ c1 hne, new i c3 c4]
          exact h1
  · rw [hqp, newp, new c (by omega) (by omega)]
    have h1 := u2 c h0 hcM (by omega)
    rwa [e, old q (by omega), old c (by omega)] at h1
  · rw [← u4 v]
    have a := cv_up (h := upN g p (g q)) (v := v) (p := q) (x := x) M hc
    have b := cv_up (h := g) (v := v) (p := p) (x := g q) M (by omega)
    have c := cv_up (h := g) (v := v) (p := p) (x := x) M (by omega)
    rw [upN_ne (show q ≠ p by omega)] at a
    omega
theorem TI_e {M x p : Nat} {h g : Nat → Nat} (H : TI M x h p g) (hx : M ≤ lc g M p ∨ x ≤ g (lc g M p)) : HO (upN g p x) M := by
  obtain ⟨u1, u2, u3, u4⟩ := H
  intro i h0 hi
  by_cases c : (i - 1) / 2 = p
  · obtain ⟨m1, m2⟩ := lc_min (g := g) hi h0 c
    rw [c, upN_at, upN_ne (by omega)]
    rcases hx with z | z
    · omega
    · omega
  · exact u2 i h0 hi c
