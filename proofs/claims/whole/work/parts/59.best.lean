-- best first: the course
def bdV (n : Nat) (s X : Nat → Int32) : Nat := (bdS n s X).toNatClampNeg
theorem bdV_ok {n : Nat} {s X : Nat → Int32} (hg : Gd n s) (hX : Fx n X) : bdS n s X = nI (bdV n s X) ∧ bdV n s X < 1000000 := by
  obtain ⟨v, h1, h2⟩ := bd_lt hg hX
  have e : bdV n s X = v := by unfold bdV; rw [h2, nI_clamp (by omega)]
  rw [e]
  exact ⟨h2, h1⟩
def keyB (n : Nat) (s : Nat → Int32) (Z : Nat → Nat → Int32) (i : Nat) : Nat := ((bdV n s (Z i) * 8 + frn n (Z i)) * 2048 + i) * 262144 + pkN (Z i) 6
theorem keyB_ok {n i : Nat} {s : Nat → Int32} {Z : Nat → Nat → Int32} (hg : Gd n s) (hX : Fx n (Z i)) (hi : i < 2048) : keyB n s Z i < 2 ^ 62 ∧ keyB n s Z i % 262144 = pkN (Z i) 6 ∧ frn n (Z i) < 8 ∧ bdV n s (Z i) < 1000000 := by
  have h1 := (bdV_ok hg hX).2
  have h2 := pkN_lt hX.sml 6 (Nat.le_refl 6)
  have h3 := frn_le (n := n) (X := Z i)
  have h4 := hX.2.1
  unfold keyB
  refine ⟨by omega, by omega, by omega, h1⟩
def wS (f : Nat → Nat) (W : Nat → Bool) (A : Nat) : Nat := sN (fun j => if W j = true then f j else 0) A
theorem sN_del {f : Nat → Nat} {i : Nat} : ∀ N, i < N → sN (fun j => if j = i then 0 else f j) N + f i = sN f N
  | 0, h => absurd h (by omega)
  | N + 1, h => by
    show sN (fun j => if j = i then 0 else f j) N + (if N = i then 0 else f N) + f i = sN f N + f N
    by_cases c : N = i
    · subst c
      rw [if_pos rfl, sN_cong (f := fun j => if j = N then 0 else f j) (g := f) N (fun j hj => if_neg (by omega))]
      omega
    · have := sN_del (f := f) (i := i) N (by omega)
      rw [if_neg c]
      omega
theorem wS_del {f : Nat → Nat} {W : Nat → Bool} {A i : Nat} (hi : i < A) (hw : W i = true) : wS f (fun j => W j && decide (j ≠ i)) A + f i = wS f W A := by
  have := sN_del (f := fun j => if W j = true then f j else 0) (i := i) A hi
  rw [if_pos hw] at this
  rw [← show sN (fun j => if W j = true then f j else 0) A = wS f W A from rfl, ← this]
  congr 1
  refine sN_cong A (fun j hj => ?_)
  by_cases c : j = i
  · rw [if_pos c, if_neg (by simp [c])]
  · rw [if_neg c]
    by_cases q : W j = true
    · rw [if_pos q, if_pos (by simp [q, c])]
    · rw [if_neg q, if_neg (by simp [q])]
theorem wS_pos {f : Nat → Nat} {W : Nat → Bool} : ∀ A, 1 ≤ wS f W A → ∃ j, j < A ∧ W j = true ∧ 1 ≤ f j
  | 0, h => absurd h (by show ¬ 1 ≤ 0; omega)
  | A + 1, h => by
    by_cases c : W A = true ∧ 1 ≤ f A
    · exact ⟨A, by omega, c⟩
    · have e : wS f W (A + 1) = wS f W A + if W A = true then f A else 0 := rfl
      by_cases q : W A = true
      · rw [if_pos q] at e
        have : ¬ 1 ≤ f A := fun z => c ⟨q, z⟩
        obtain ⟨j, h1, h2⟩ := wS_pos (f := f) (W := W) A (by omega)
        exact ⟨j, by omega, h2⟩
      · rw [if_neg q] at e
        obtain ⟨j, h1, h2⟩ := wS_pos (f := f) (W := W) A (by omega)
        exact ⟨j, by omega, h2⟩
theorem wS_ge {f : Nat → Nat} {W : Nat → Bool} {j : Nat} : ∀ A, j < A → W j = true → f j ≤ wS f W A
  | 0, h, _ => absurd h (by omega)
  | A + 1, h, hw => by
    have e : wS f W (A + 1) = wS f W A + if W A = true then f A else 0 := rfl
    by_cases c : j = A
    · rw [← c, if_pos hw] at e
      rw [← c]
      omega
    · have := wS_ge (f := f) (W := W) A (by omega) hw
      omega
theorem wS_mono {f g : Nat → Nat} {W : Nat → Bool} : ∀ A, (∀ j, j < A → W j = true → f j ≤ g j) → wS f W A ≤ wS g W A
  | 0, _ => Nat.le_refl _
  | A + 1, h => by
    have e : wS f W (A + 1) = wS f W A + if W A = true then f A else 0 := rfl
    have e2 : wS g W (A + 1) = wS g W A + if W A = true then g A else 0 := rfl
    have h1 := wS_mono A (fun j hj hw => h j (by omega) hw)
    by_cases c : W A = true
    · rw [if_pos c] at e e2
      have := h A (by omega) c
      omega
    · rw [if_neg c] at e e2
      omega
def isLst (n : Nat) (s : Nat → Int32) (Z : Nat → Nat → Int32) (W : Nat → Bool) (A i : Nat) : Prop := i < A ∧ W i = true ∧ ∀ j, j < A → W j = true → keyB n s Z i ≤ keyB n s Z j
theorem key_inj {n i j : Nat} {s : Nat → Int32} {Z : Nat → Nat → Int32} (hg : Gd n s) (hi : Fx n (Z i)) (hj : Fx n (Z j)) (h1 : i < 2048) (h2 : j < 2048) (e : keyB n s Z i = keyB n s Z j) : i = j := by
  have a := pkN_lt hi.sml 6 (Nat.le_refl 6)
  have b := pkN_lt hj.sml 6 (Nat.le_refl 6)
  unfold keyB at e
  omega
theorem lst_ex {n A : Nat} {s : Nat → Int32} {Z : Nat → Nat → Int32} {W : Nat → Bool} : ∀ m, (∃ j, j < m ∧ W j = true) → ∃ i, isLst n s Z W m i
  | 0, ⟨j, hj, _⟩ => absurd hj (by omega)
  | m + 1, h => by
    by_cases c : ∃ j, j < m ∧ W j = true
    · obtain ⟨i, i1, i2, i3⟩ := lst_ex (n := n) (A := A) (s := s) (Z := Z) m c
      by_cases q : W m = true ∧ keyB n s Z m < keyB n s Z i
      · refine ⟨m, by omega, q.1, fun j hj hw => ?_⟩
        by_cases e : j = m
        · rw [e]; exact Nat.le_refl _
        · have := i3 j (by omega) hw
          omega
      · refine ⟨i, by omega, i2, fun j hj hw => ?_⟩
        by_cases e : j = m
        · have : ¬ keyB n s Z m < keyB n s Z i := fun z => q ⟨by rw [← e]; exact hw, z⟩
          rw [e]
          omega
        · exact i3 j (by omega) hw
    · obtain ⟨j, hj, hw⟩ := h
      have e : j = m := by
        by_cases e : j = m
        · exact e
        · exact absurd ⟨j, by omega, hw⟩ c
      refine ⟨m, by omega, by rw [← e]; exact hw, fun q hq hqw => ?_⟩
      by_cases e2 : q = m
      · rw [e2]; exact Nat.le_refl _
      · exact absurd ⟨q, by omega, hqw⟩ c
noncomputable def bL (n : Nat) (s : Nat → Int32) (Z : Nat → Nat → Int32) (W : Nat → Bool) (A : Nat) : Nat := Classical.epsilon fun i => isLst n s Z W A i
theorem bL_ok {n A : Nat} {s : Nat → Int32} {Z : Nat → Nat → Int32} {W : Nat → Bool} (h : ∃ j, j < A ∧ W j = true) : isLst n s Z W A (bL n s Z W A) := Classical.epsilon_spec (p := fun i => isLst n s Z W A i) (lst_ex (A := A) A h)
theorem bL_uniq {n A i : Nat} {s : Nat → Int32} {Z : Nat → Nat → Int32} {W : Nat → Bool} (hg : Gd n s) (hZ : ∀ j, j < A → Fx n (Z j)) (hA : A ≤ 2048) (h : isLst n s Z W A i) : bL n s Z W A = i := by
  have hb := bL_ok (n := n) (s := s) (Z := Z) (W := W) (A := A) ⟨i, h.1, h.2.1⟩
  refine key_inj hg (hZ _ hb.1) (hZ _ h.1) (by have := hb.1; omega) (by have := h.1; omega) ?_
  have h1 := hb.2.2 i h.1 h.2.1
  have h2 := h.2.2 _ hb.1 hb.2.1
  omega
noncomputable def cN (n : Nat) (s X rs : Nat → Int32) (sy : Int32) : Nat := if vsG n s X rs = true then (chP n s X sy).1 else 0
noncomputable def nZ (n : Nat) (s : Nat → Int32) (sy : Int32) (A : Nat) (Z : Nat → Nat → Int32) (X : Nat → Int32) : Nat → Nat → Int32 := fun j => if j < A then Z j else kid n s X sy (j - A)
def nW (A i : Nat) (W : Nat → Bool) : Nat → Bool := fun j => if j < A then W j && decide (j ≠ i) else true
/-- the invariant of the course: arrived A, waiting k, greatest g, nodes Z, waiting W -/
def BV (n : Nat) (A k g : Nat) (Z : Nat → Nat → Int32) (W : Nat → Bool) : Prop := (∀ j, j < A → Fx n (Z j)) ∧ wS (fun j => fac (frn n (Z j))) W A ≤ 720 ∧ k = wS (fun _ => 1) W A ∧ wS (fun j => Sc (frn n (Z j))) W A + A ≤ 1957 + k ∧ k ≤ g ∧ g ≤ 720
theorem BV_k {n A k g : Nat} {Z : Nat → Nat → Int32} {W : Nat → Bool} (h : BV n A k g Z W) : k ≤ 720 ∧ A ≤ 1957 := by
  obtain ⟨h1, h2, h3, h4, h5, h6⟩ := h
  have hs := wS_mono (f := fun _ => 1) (g := fun j => Sc (frn n (Z j))) (W := W) A (fun j hj _ => (Sc_1 _ (by have := frn_le (n := n) (X := Z j); have := (h1 j hj).2.1; omega)).1)
  omega
theorem b_step {n A k g : Nat} {s rs : Nat → Int32} {sy : Int32} {Z : Nat → Nat → Int32} {W : Nat → Bool} (h : BV n A k g Z W) (hk : 0 < k) : isLst n s Z W A (bL n s Z W A) ∧ BV n (A + cN n s (Z (bL n s Z W A)) rs sy) (k - 1 + cN n s (Z (bL n s Z W A)) rs sy) (max g (k - 1 + cN n s (Z (bL n s Z W A)) rs sy)) (nZ n s sy A Z (Z (bL n s Z W A))) (nW A (bL n s Z W A) W) := by
  obtain ⟨h1, h2, h3, h4, h5, h6⟩ := h
  have hex : ∃ j, j < A ∧ W j = true := by
    obtain ⟨j, j1, j2, _⟩ := wS_pos (f := fun _ => 1) (W := W) A (by omega)
    exact ⟨j, j1, j2⟩
  have hl := bL_ok (n := n) (s := s) (Z := Z) hex
  refine ⟨hl, ?_⟩
  obtain ⟨l1, l2, l3⟩ := hl
  generalize bL n s Z W A = i at *
  have hX := h1 i l1
  have hn := hX.2.1
  have hm := frn_le (n := n) (X := Z i)
  have kidok : ∀ q, q < cN n s (Z i) rs sy → Fx n (kid n s (Z i) sy q) ∧ frn n (kid n s (Z i) sy q) = frn n (Z i) - 1 ∧ 1 ≤ frn n (Z i) := fun q hq => by
    unfold cN at hq
    by_cases c : vsG n s (Z i) rs = true
    · rw [if_pos c] at hq
      have hc := vsG_free c
      obtain ⟨k1, k2⟩ := kid_ok (s := s) (sy := sy) hX hc hq
      exact ⟨k1, by unfold frn; omega, by unfold frn; omega⟩
    · rw [if_neg c] at hq
      omega
  have hC : cN n s (Z i) rs sy ≤ frn n (Z i) := by
    unfold cN
    by_cases c : vsG n s (Z i) rs = true
    · rw [if_pos c]
      exact chP_cnt hX
    · rw [if_neg c]
      omega
  generalize cN n s (Z i) rs sy = C at *
  have key : ∀ f : Nat → Nat, ∃ E, wS (fun j => f (frn n (nZ n s sy A Z (Z i) j))) (nW A i W) (A + C) + f (frn n (Z i)) = wS (fun j => f (frn n (Z j))) W A + E ∧ E ≤ C * f (frn n (Z i) - 1) ∧ C * f (frn n (Z i) - 1) ≤ E := fun f => by
    refine ⟨sN (fun q => f (frn n (kid n s (Z i) sy q))) C, ?_, ?_, ?_⟩
    · have a := wS_del (f := fun j => f (frn n (Z j))) l1 l2
      have e : wS (fun j => f (frn n (nZ n s sy A Z (Z i) j))) (nW A i W) (A + C) = wS (fun j => f (frn n (Z j))) (fun j => W j && decide (j ≠ i)) A + sN (fun q => f (frn n (kid n s (Z i) sy q))) C := by
        unfold wS
        rw [sN_add]
        congr 1
        · refine sN_cong A (fun j hj => ?_)
          unfold nW nZ
          rw [if_pos hj]
          dsimp only
          rw [if_pos hj]
        · refine sN_cong C (fun j hj => ?_)
          unfold nW nZ
          rw [if_neg (show ¬ A + j < A by omega), if_pos rfl]
          dsimp only
          rw [if_neg (show ¬ A + j < A by omega), Nat.add_sub_cancel_left]
      omega
    · exact sN_le C (fun q hq => by rw [(kidok q hq).2.1]; exact Nat.le_refl _)
    · have : ∀ N, N ≤ C → N * f (frn n (Z i) - 1) ≤ sN (fun q => f (frn n (kid n s (Z i) sy q))) N := by
        intro N
        induction N with
        | zero => exact fun _ => by omega
        | succ N ih =>
          intro hN
          have h1 := ih (by omega)
          show (N + 1) * _ ≤ sN _ N + f (frn n (kid n s (Z i) sy N))
          rw [(kidok N (by omega)).2.1, Nat.add_mul, Nat.one_mul]
          omega
      exact this C (Nat.le_refl _)
  obtain ⟨E1, a1, a2, a3⟩ := key fac
  obtain ⟨E2, b1, b2, b3⟩ := key Sc
  obtain ⟨E3, c1, c2, c3⟩ := key (fun _ => 1)
  have hfac : C * fac (frn n (Z i) - 1) ≤ fac (frn n (Z i)) := by
    by_cases z : C = 0
    · rw [z]; omega
    · have q1 := (kidok 0 (by omega)).2.2
      exact Nat.le_trans (Nat.mul_le_mul_right _ hC) (fac_s _ (by omega) q1)
  have hSc : 1 + C * Sc (frn n (Z i) - 1) ≤ Sc (frn n (Z i)) := by
    by_cases z : C = 0
    · rw [z]
      have := (Sc_1 (frn n (Z i)) (by omega)).1
      omega
    · have q1 := (kidok 0 (by omega)).2.2
      rw [← Sc_s _ (by omega) q1]
      have := Nat.mul_le_mul_right (Sc (frn n (Z i) - 1)) hC
      omega
  have hZ : ∀ j, j < A + C → Fx n (nZ n s sy A Z (Z i) j) := fun j hj => by
    unfold nZ
    by_cases q : j < A
    · rw [if_pos q]; exact h1 j q
    · rw [if_neg q]
      exact (kidok (j - A) (by omega)).1
  have hk1 : k - 1 + C = wS (fun _ => 1) (nW A i W) (A + C) := by omega
  have hk2 : k - 1 + C ≤ 720 := by
    have := wS_mono (f := fun _ => 1) (g := fun j => fac (frn n (nZ n s sy A Z (Z i) j))) (W := nW A i W) (A + C) (fun j hj _ => fac_1 _ (by have := frn_le (n := n) (X := nZ n s sy A Z (Z i) j); omega))
    omega
  exact ⟨hZ, by omega, hk1, by omega, by omega, by omega⟩
-- best first: the class's admission
theorem or_add {a b k : Nat} (h : b < 2 ^ k) : (a * 2 ^ k) ||| b = a * 2 ^ k + b := by
  rw [Nat.mul_comm, Nat.two_pow_add_eq_or_of_lt h]
theorem key_or {b m a p : Nat} (hb : b < 1000000) (hm : m < 8) (ha : a < 2048) (hp : p < 262144) : (((Int32.toInt64 (nI b) <<< (Int32.toInt64 (32 : Int32) &&& 63)) ||| (Int32.toInt64 (nI m) <<< (Int32.toInt64 (29 : Int32) &&& 63))) ||| (Int32.toInt64 (nI a) <<< (Int32.toInt64 (18 : Int32) &&& 63))) ||| lN p = lN (((b * 8 + m) * 2048 + a) * 262144 + p) := by
  rw [tIN (by omega), tIN (by omega), tIN (by omega), show (32 : Int32) = nI 32 from zl_32, show (29 : Int32) = nI 29 by decide +kernel, show (18 : Int32) = nI 18 by decide +kernel, wb_shl b (by omega), wb_shl m (by omega), wb_shl a (by omega)]
  have e32 : (2 : Nat) ^ 32 = 4294967296 := by decide
  have e29 : (2 : Nat) ^ 29 = 536870912 := by decide
  have e18 : (2 : Nat) ^ 18 = 262144 := by decide
  rw [wb_or (by omega) (by omega), or_add (k := 32) (by omega)]
  have e1 : b * 2 ^ 32 + m * 2 ^ 29 = (b * 8 + m) * 2 ^ 29 := by omega
  rw [e1, wb_or (by omega) (by omega), or_add (k := 29) (by omega)]
  have e2 : (b * 8 + m) * 2 ^ 29 + a * 2 ^ 18 = ((b * 8 + m) * 2048 + a) * 2 ^ 18 := by
    rw [e29, e18, Nat.add_mul ((b * 8 + m) * 2048) a 262144, Nat.mul_assoc (b * 8 + m) 2048 262144]
  rw [e2, wb_or (by omega) (by omega), or_add (k := 18) (by omega), e18]
theorem c_admit1 {σ : Sg} {τ : Tg} {n N a g0 : Nat} {s X : Nat → Int32} {h : Nat → Nat} (hs : EqS (snap σ 1) s) (hg : Gd n s) (hX : Fx n X) (hv : ∀ i, i < 6 → σ 70 i = X i) (h9 : σ 57 9 = 1) (h11 : σ 57 11 = nI a) (ha : a < 2048) (h59 : σ 59 0 = nI N) (h591 : σ 59 1 = nI g0) (hg0 : g0 ≤ 720) (hN : N < 720) (hH : HP N h τ) : ∃ h' τ' σ', f_X5_admit σ τ 57 1 = some (σ', τ') ∧ Fr [57, 59, 61, 62, 63, 64, 65, 66] σ σ' ∧ (∀ q, q ≠ 11 → σ' 57 q = σ 57 q) ∧ σ' 57 11 = nI (a + 1) ∧ σ' 59 0 = nI (N + 1) ∧ σ' 59 1 = nI (max g0 (N + 1)) ∧ HP (N + 1) h' τ' ∧ ∀ v, cv h' v (N + 1) = cv h v N + if ((bdV n s X * 8 + frn n X) * 2048 + a) * 262144 + pkN X 6 = v then 1 else 0 := by
  obtain ⟨σ1, a1, a2, a3⟩ := c_load (kb := 61) (kf := 70) (Or.inr rfl) (Or.inr (Or.inl rfl)) hX hg hv hs
  obtain ⟨σ2, b1, b2⟩ := c_lowest (kb := 61) (Or.inr rfl) hg hX a3
  have F : ∀ q, ¬ (61 ≤ q ∧ q < 67) → σ2 q = σ q := fun q hq => by
    rw [b2 q (fun z => by have := List.mem_singleton.mp z; omega)]
    exact a2 q (by omega)
  obtain ⟨v1, v2⟩ := bdV_ok hg hX
  have hp := pkN_lt hX.sml 6 (Nat.le_refl 6)
  have hm := frn_le (n := n) (X := X)
  have hn := hX.2.1
  have e61 : σ2 61 0 = nI (frn n X) := by rw [b2.at (by decide)]; exact a3.2.2.2.1
  obtain ⟨h', τ', r1, r2, r3⟩ := c_addO (σ := σ2) (τ := τ) (N := N) (x := ((bdV n s X * 8 + frn n X) * 2048 + a) * 262144 + pkN X 6) (g0 := g0) (h := h) (by rw [F 59 (by omega), h59]) (by rw [F 59 (by omega), h591]) hg0 hN (by omega) hH
  refine ⟨h', τ', si (si (si σ2 59 0 (nI (N + 1))) 59 1 (nI (max g0 (N + 1)))) 57 11 (nI (a + 1)), ?_, ?_, fun q hq => ?_, si_hit, ?_, ?_, r2, r3⟩
  · unfold f_X5_admit
    rw [if_neg (show ¬ σ 57 9 = 0 by rw [h9]; decide), show 57 + 4 = 61 from rfl, show 57 + 13 = 70 from rfl, show 57 + 2 = 59 from rfl, a1]
    simp only [obs]
    rw [b1]
    simp only [obs]
    rw [c_pack (X := X) hX.sml (fun i hi => by rw [F 70 (by omega), hv i hi])]
    simp only [obs]
    rw [v1, e61, F 57 (by omega), h11, key_or v2 (by omega) ha (by omega), r1]
    simp only [obs]
    rw [si_oth (k := 59) (q := 57) (by omega), si_oth (k := 59) (q := 57) (by omega), F 57 (by omega), h11, nI_s]
  · refine Fr.si (Fr.si (Fr.si (fun q hq => F q (fun z => hq (by simp only [List.mem_cons, List.not_mem_nil, or_false]; omega))) (by decide)) (by decide)) (by decide)
  · rw [si_miss hq, si_oth (by omega), si_oth (by omega), F 57 (by omega)]
  · rw [si_oth (by omega), si_miss (by omega), si_hit]
  · rw [si_oth (by omega), si_hit]
