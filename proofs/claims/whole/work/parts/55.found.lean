-- a search finds an assignment
theorem nI_addN {a b : Nat} : nI a + nI b = nI (a + b) := nI_add a b
theorem nI_mulN {a b : Nat} : nI a * nI b = nI (a * b) := pk_mul a b
theorem sm_cnt {X : Nat → Int32} {B : Nat} {f : Nat → Int32} : ∀ n, (∀ i, i < n → (X i = -1 → f i = 0) ∧ ∃ c, c ≤ B ∧ f i = nI c) → ∃ c, c + cnt (frf X) n * B ≤ n * B ∧ sm n f = nI c
  | 0, _ => ⟨0, by show 0 + 0 * B ≤ 0 * B; omega, zl_0⟩
  | n + 1, h => by
    obtain ⟨c, h1, h2⟩ := sm_cnt n (fun i hi => h i (by omega))
    obtain ⟨h3, c', h4, h5⟩ := h n (by omega)
    have e : cnt (frf X) (n + 1) = cnt (frf X) n + if frf X n = true then 1 else 0 := rfl
    have es : sm (n + 1) f = sm n f + f n := rfl
    by_cases q : X n = -1
    · refine ⟨c, ?_, by rw [es, h3 q, h2, zl_0, nI_addN]; rfl⟩
      rw [e, if_pos (show frf X n = true from decide_eq_true q), Nat.add_mul, Nat.add_mul, Nat.one_mul]
      omega
    · refine ⟨c + c', ?_, by rw [es, h5, h2, nI_addN]⟩
      rw [e, if_neg (show ¬ frf X n = true from fun z => q (of_decide_eq_true z)), Nat.add_zero, Nat.add_mul, Nat.one_mul]
      omega
theorem num_lt : ∀ k, k < 7 → ∀ m, m < 7 → k + m ≤ 6 → k * (99 + k * 9801) + m * 160000 < 1000000 := by decide +kernel
theorem bd_lt {n : Nat} {s X : Nat → Int32} (hg : Gd n s) (hX : Fx n X) : ∃ v, v < 1000000 ∧ bdS n s X = nI v := by
  have hn := hX.2.1
  obtain ⟨hF, hD, hC⟩ := hg.2.2.2.1
  have hm : cnt (frf X) n ≤ n := cnt_le n
  have h1 := HG_small hg hX n (FLs n X) (Nat.le_refl n) (FLs_lt hX) (fun l hl z => z) (free_eq hX)
  rw [free_eq hX] at h1
  have ixl : ∀ i, i < n → ¬ X i = -1 → ix (X i) < 6 := fun i hi q => by
    obtain ⟨l, hl, e⟩ := (hX.2.2.1 i hi).resolve_left q
    rw [e, ix_nI (by omega)]
    omega
  have hp : ∃ c, c + cnt (frf X) n * (99 + (n - cnt (frf X) n) * 9801) ≤ n * (99 + (n - cnt (frf X) n) * 9801) ∧ partS n (tS s 1) (tS s 37) (tS s 73) X = nI c := sm_cnt n (fun i hi => by
    refine ⟨fun q => by rw [if_pos q], ?_⟩
    by_cases q : X i = -1
    · exact ⟨0, Nat.zero_le _, by rw [if_pos q]; exact zl_0⟩
    · rw [if_neg q]
      obtain ⟨x, hx, ex⟩ := hC i (ix (X i)) (by omega) (ixl i hi q)
      obtain ⟨c, c1, c2⟩ := sm_cnt (X := X) (B := 9801) (f := fun j => if X j = -1 then 0 else tS s 1 i j * tS s 37 (ix (X i)) (ix (X j))) n (fun j hj => by
        refine ⟨fun q2 => by rw [if_pos q2], ?_⟩
        by_cases q2 : X j = -1
        · exact ⟨0, Nat.zero_le _, by rw [if_pos q2]; exact zl_0⟩
        · rw [if_neg q2]
          obtain ⟨a, ha, ea⟩ := hF i j (by omega) (by omega)
          obtain ⟨b, hb, eb⟩ := hD (ix (X i)) (ix (X j)) (ixl i hi q) (ixl j hj q2)
          exact ⟨a * b, Nat.mul_le_mul ha hb, by rw [ea, eb, nI_mulN]⟩)
      refine ⟨x + c, ?_, by rw [ex, c2, nI_addN]⟩
      rw [Nat.sub_mul]
      omega)
  obtain ⟨c, h2, h3⟩ := hp
  have h4 := num_lt (n - cnt (frf X) n) (by omega) (cnt (frf X) n) (by omega) (by omega)
  have h5 : c ≤ (n - cnt (frf X) n) * (99 + (n - cnt (frf X) n) * 9801) := by
    rw [Nat.sub_mul n]
    omega
  refine ⟨c + bdN n s X, ?_, ?_⟩
  · unfold bdN
    omega
  · unfold bdS
    rw [h3, nI_addN]
theorem sym_own {n k : Nat} {s X : Nat → Int32} (hX : Fx n X) (hk : k < n) (hf : frl n X k = true) (hlow : ∀ l, l < k → ¬ frl n X l = true) : (symQ n (tS s 37) (tS s 73) X (fac n)).2 k = k := by
  have hn := hX.2.1
  have key : ∀ T, T ≤ fac n → k ≤ (symQ n (tS s 37) (tS s 73) X T).2 k := by
    intro T
    induction T with
    | zero => exact fun _ => Nat.le_refl _
    | succ T ih =>
      intro hT
      unfold symQ
      by_cases c : TU n (tS s 37) (tS s 73) T ∧ KE n X T
      · rw [pT c]
        show k ≤ min ((symQ n (tS s 37) (tS s 73) X T).2 k) (aN n T k)
        have h1 := ih (by omega)
        have h2 : k ≤ aN n T k := by
          by_cases q : k ≤ aN n T k
          · exact q
          · have hl := aN_lt hn (show T < fac n by omega) hk
            have hnf := hlow (aN n T k) (by omega)
            have : ∃ i, i < n ∧ X i = nI (aN n T k) := by
              by_cases z : ∃ i, i < n ∧ X i = nI (aN n T k)
              · exact z
              · exact absurd ((frl_iff hX (by omega)).mpr ⟨hl, fun j hj e => z ⟨j, hj, e⟩⟩) hnf
            obtain ⟨i, hi, e⟩ := this
            have := aN_inj hn (show T < fac n by omega) hl hk (c.2 i hi _ hl e)
            omega
        omega
      · rw [pF c]
        exact ih (by omega)
  have h1 := key (fac n) (Nat.le_refl _)
  have h2 := sym_low (n := n) (s := s) (X := X) (k := k)
  omega
theorem kids_1 {n : Nat} {s X : Nat → Int32} {sy : Int32} (hX : Fx n X) (hc : ¬ cnt (frf X) n = 0) : 1 ≤ (chP n s X sy).1 := by
  have hn := hX.2.1
  obtain ⟨p1, p2⟩ := chP_ok (n := n) (s := s) (X := X) (sy := sy) hn
  rw [← free_eq hX, pc_n hX] at hc
  rcases lst (P := fun l => ¬ frl n X l = true) n with h | ⟨k, h1, h2, h3⟩
  · refine absurd ?_ hc
    have : ∀ m, m ≤ n → cnt (frl n X) m = 0 := by
      intro m
      induction m with
      | zero => exact fun _ => rfl
      | succ m ih =>
        intro hm
        show cnt (frl n X) m + (if frl n X m = true then 1 else 0) = 0
        rw [ih (by omega), if_neg (h m (by omega))]
    exact this n (Nat.le_refl n)
  · have hf : frl n X k = true := Classical.not_not.mp h2
    obtain ⟨i, hi, _⟩ := p2.2.2 k ⟨h1, hf, Or.inr (sym_own hX h1 hf h3)⟩
    omega
def BI (n : Nat) (d : Nat × (Nat → Nat → Int32) × (Nat → Int32)) : Prop := ∃ w, w ≤ 1000000 ∧ d.2.2 0 = nI w ∧ (w = 1000000 → 0 < d.1)
theorem vsR_0 {n : Nat} {s X rs : Nat → Int32} : vsR n s X rs 0 = if bdS n s X < rs 0 ∧ cnt (frf X) n = 0 then bdS n s X else rs 0 := by
  unfold vsR
  by_cases c : bdS n s X < rs 0
  · by_cases d : cnt (frf X) n = 0
    · rw [if_pos c, if_pos d, if_pos ⟨c, d⟩, pk_un (by omega), pk_un (by omega), pk_us]
    · rw [if_pos c, if_neg d, if_neg (fun z => d z.2), vs1_lo (by omega) (by omega)]
  · rw [if_neg c, if_neg (fun z => c z.1), pk_un (by omega), vs1_lo (by omega) (by omega)]
theorem d_found {n : Nat} {s : Nat → Int32} {sy : Int32} {d : Nat × (Nat → Nat → Int32) × (Nat → Int32)} (hg : Gd n s) (hd : DI n d) (hN : 0 < d.1) (hB : BI n d) : BI n (dStep n s sy d) := by
  obtain ⟨N, Z, rs⟩ := d
  obtain ⟨w, w1, w2, _⟩ := hB
  have hX := hd.1 (N - 1) (by dsimp only at hN ⊢; omega)
  dsimp only at hX w2 hN
  obtain ⟨v, v1, v2⟩ := bd_lt hg hX
  unfold dStep
  dsimp only
  by_cases c : vsG n s (Z (N - 1)) rs = true
  · rw [if_pos c]
    have hc := vsG_free c
    refine ⟨w, w1, ?_, fun _ => ?_⟩
    · dsimp only
      rw [vsR_0, if_neg (fun z => hc z.2), w2]
    · dsimp only
      have := kids_1 (s := s) (sy := sy) hX hc
      omega
  · rw [if_neg c]
    by_cases q : bdS n s (Z (N - 1)) < rs 0
    · by_cases e : cnt (frf (Z (N - 1))) n = 0
      · refine ⟨v, by omega, ?_, fun z => by omega⟩
        dsimp only
        rw [vsR_0, if_pos ⟨q, e⟩, v2]
      · refine absurd ?_ c
        unfold vsG isL
        rw [decide_eq_true q, decide_eq_false e]
        rfl
    · refine ⟨w, w1, ?_, fun z => ?_⟩
      · dsimp only
        rw [vsR_0, if_neg (fun z => q z.1), w2]
      · refine absurd ?_ q
        rw [v2, w2]
        exact nI_lt (by omega) (by omega)
theorem d_foundT {n : Nat} {s X0 rs0 : Nat → Int32} {sy : Int32} (hg : Gd n s) (hX : Fx n X0) (h0 : rs0 0 = nI 1000000) : ∀ t, (∀ i, i < t → 0 < (dRun n s sy X0 rs0 i).1) → BI n (dRun n s sy X0 rs0 t)
  | 0, _ => ⟨1000000, Nat.le_refl _, h0, fun _ => by show 0 < 1; omega⟩
  | t + 1, h => d_found hg (d_inv hX t (fun i hi => h i (by omega))).1 (h t (by omega)) (d_foundT hg hX h0 t (fun i hi => h i (by omega)))
