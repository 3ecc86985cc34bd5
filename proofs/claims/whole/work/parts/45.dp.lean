-- the inner assignment: sums by sets of locations
theorem sb_key : ∀ s, s < 64 → ∀ k, k < 6 → s.testBit k = true → (nI s ^^^ ((1 : Int32) <<< (nI k &&& 31))) = nI (s - 2 ^ k) ∧ (nI s &&& (((1 : Int32) <<< (nI k &&& 31)) ^^^ (-1 : Int32))) = nI (s - 2 ^ k) ∧ s - 2 ^ k < s ∧ pc s = pc (s - 2 ^ k) + 1 := by decide +kernel
theorem sb_bit : ∀ s, s < 64 → ∀ k, k < 6 → s.testBit k = true → ∀ l, l < 6 → (s - 2 ^ k).testBit l = (s.testBit l && decide (l ≠ k)) := by decide +kernel
theorem sb_ex : ∀ s, s < 64 → 0 < s → ∃ k, k < 6 ∧ s.testBit k = true := by decide +kernel
theorem pc_0 : ∀ s, s < 64 → pc s = 0 → s = 0 := by decide +kernel
/-- s lies in t -/
def Sb (s t : Nat) : Prop := ∀ l, l < 6 → s.testBit l = true → t.testBit l = true
theorem sb_c : ∀ s, s < 64 → ∀ t, t < 64 → ((nI s &&& (nI t ^^^ (-1 : Int32))) = 0 ↔ (∀ l, l < 6 → s.testBit l = true → t.testBit l = true)) := by decide +kernel
theorem sb_eq : ∀ s, s < 64 → ∀ t, t < 64 → (∀ l, l < 6 → s.testBit l = true → t.testBit l = true) → pc s = pc t → s = t := by decide +kernel
theorem sb_le : ∀ s, s < 64 → ∀ t, t < 64 → (∀ l, l < 6 → s.testBit l = true → t.testBit l = true) → s ≤ t := by decide +kernel
theorem pc_key : ∀ s, s < 64 → f_J6_bitCount_0f7a4 (nI s) = some (nI (pc s)) ∧ pc s ≤ 6 := by
  have h : ∀ s, s < 64 → (f_J6_bitCount_0f7a4 (nI s)).map (fun x => decide (x = nI (pc s))) = some true ∧ pc s ≤ 6 := by
    unfold f_J6_bitCount_0f7a4
    decide +kernel
  intro s hs
  obtain ⟨h1, h2⟩ := h s hs
  refine ⟨?_, h2⟩
  obtain ⟨x, hx, e⟩ := Option.map_eq_some_iff.mp h1
  rw [hx, of_decide_eq_true e]
/-- a least value over some k -/
def miF (P : Nat → Bool) (v : Nat → Nat) : Nat → Nat
  | 0 => 1000000
  | k + 1 => if P k = true then min (miF P v k) (v k) else miF P v k
theorem miF_le {P : Nat → Bool} {v : Nat → Nat} : ∀ n, miF P v n ≤ 1000000
  | 0 => Nat.le_refl _
  | n + 1 => by
    have := miF_le (P := P) (v := v) n
    unfold miF
    split <;> omega
theorem miF_at {P : Nat → Bool} {v : Nat → Nat} {k : Nat} (hp : P k = true) : ∀ n, k < n → miF P v n ≤ v k
  | 0, h => by omega
  | n + 1, h => by
    unfold miF
    by_cases c : k = n
    · subst c
      rw [if_pos hp]
      omega
    · have := miF_at (v := v) hp n (by omega)
      split <;> omega
theorem miF_ex {P : Nat → Bool} {v : Nat → Nat} : ∀ n, miF P v n < 1000000 → ∃ k, k < n ∧ P k = true ∧ v k < 1000000
  | 0, h => by
    have : miF P v 0 = 1000000 := rfl
    omega
  | n + 1, h => by
    unfold miF at h
    by_cases c : P n = true
    · rw [if_pos c] at h
      by_cases c2 : v n < 1000000
      · exact ⟨n, by omega, c, c2⟩
      · obtain ⟨k, h1, h2⟩ := miF_ex n (show miF P v n < 1000000 by omega)
        exact ⟨k, by omega, h2⟩
    · rw [if_neg c] at h
      obtain ⟨k, h1, h2⟩ := miF_ex n h
      exact ⟨k, by omega, h2⟩
theorem miF_cong {P P' : Nat → Bool} {v v' : Nat → Nat} : ∀ n, (∀ k, k < n → P k = P' k ∧ (P k = true → v k = v' k)) → miF P v n = miF P' v' n
  | 0, _ => rfl
  | n + 1, h => by
    obtain ⟨h1, h2⟩ := h n (by omega)
    unfold miF
    rw [miF_cong n (fun k hk => h k (by omega)), ← h1]
    by_cases c : P n = true
    · rw [if_pos c, if_pos c, h2 c]
    · rw [if_neg c, if_neg c]
theorem mn_nI {a b : Nat} (ha : a < 2147483648) (hb : b < 2147483648) : mn (nI a) (nI b) = nI (min a b) := by
  unfold mn
  by_cases c : b < a
  · rw [if_pos (nI_lt c (by omega)), Nat.min_eq_right (by omega)]
  · rw [if_neg (nI_nlt (by omega) (by omega)), Nat.min_eq_left (by omega)]
theorem mx_nI {a b : Nat} (ha : a < 2147483648) (hb : b < 2147483648) : mx (nI a) (nI b) = nI (max a b) := by
  unfold mx
  by_cases c : a < b
  · rw [if_pos (nI_lt c (by omega)), Nat.max_eq_right (by omega)]
  · rw [if_neg (nI_nlt (by omega) (by omega)), Nat.max_eq_left (by omega)]
-- the sums as a function
/-- one more facility -/
def stG (n FL : Nat) (e : Nat → Nat) (G : Nat → Nat) (s : Nat) : Nat := miF (fun k => s.testBit k && FL.testBit k && decide (G (s - 2 ^ k) < 1000000)) (fun k => G (s - 2 ^ k) + e k) n
def HG (n FL : Nat) (X : Nat → Int32) (e : Nat → Nat → Nat) : Nat → Nat → Nat
  | 0 => fun s => if s = 0 then 0 else 1000000
  | i + 1 => if X i = -1 then stG n FL (e i) (HG n FL X e i) else HG n FL X e i
theorem HG_le {n FL : Nat} {X : Nat → Int32} {e : Nat → Nat → Nat} : ∀ i s, HG n FL X e i s ≤ 1000000
  | 0, s => by
    show (if s = 0 then 0 else 1000000) ≤ 1000000
    split <;> omega
  | i + 1, s => by
    unfold HG
    split
    · exact miF_le n
    · exact HG_le i s
theorem HG_sub {n FL : Nat} {X : Nat → Int32} {e : Nat → Nat → Nat} (hn : n ≤ 6) : ∀ i s, s < 64 → HG n FL X e i s < 1000000 → Sb s FL ∧ pc s = cnt (frf X) i
  | 0, s, hs, h => by
    have h : (if s = 0 then 0 else 1000000) < 1000000 := h
    by_cases c : s = 0
    · subst c
      exact ⟨fun l hl z => by simp at z, by show pc 0 = 0; decide +kernel⟩
    · rw [if_neg c] at h
      omega
  | i + 1, s, hs, h => by
    unfold HG at h
    show _ ∧ pc s = cnt (frf X) i + if frf X i = true then 1 else 0
    by_cases c : X i = -1
    · rw [if_pos c] at h
      rw [if_pos (show frf X i = true from decide_eq_true c)]
      obtain ⟨k, h1, h2, h3⟩ := miF_ex n h
      simp only [Bool.and_eq_true, decide_eq_true_eq] at h2
      obtain ⟨⟨b1, b2⟩, b3⟩ := h2
      obtain ⟨k1, k2, k3, k4⟩ := sb_key s hs k (by omega) b1
      obtain ⟨r1, r2⟩ := HG_sub hn i (s - 2 ^ k) (by omega) b3
      refine ⟨fun l hl z => ?_, by omega⟩
      by_cases q : l = k
      · rw [q]; exact b2
      · exact r1 l hl (by rw [sb_bit s hs k (by omega) b1 l hl, z]; simp [q])
    · rw [if_neg c] at h
      rw [if_neg (show ¬ frf X i = true from fun z => c (of_decide_eq_true z))]
      exact HG_sub hn i s hs h
/-- on sets of free locations of the right size the sums are small -/
theorem HG_lt {n FL : Nat} {X : Nat → Int32} {e : Nat → Nat → Nat} (hn : n ≤ 6) (hFL : ∀ l, l < 6 → FL.testBit l = true → l < n) (he : ∀ i k, i < n → k < n → X i = -1 → FL.testBit k = true → e i k ≤ 160000) : ∀ i s, i ≤ n → s < 64 → Sb s FL → pc s = cnt (frf X) i → HG n FL X e i s ≤ pc s * 160000
  | 0, s, hi, hs, h1, h2 => by
    have h2 : pc s = 0 := h2
    rw [pc_0 s hs h2]
    show (if (0 : Nat) = 0 then 0 else 1000000) ≤ _
    rw [if_pos rfl]
    omega
  | i + 1, s, hi, hs, h1, h2 => by
    have h2 : pc s = cnt (frf X) i + if frf X i = true then 1 else 0 := h2
    unfold HG
    by_cases c : X i = -1
    · rw [if_pos (show frf X i = true from decide_eq_true c)] at h2
      rw [if_pos c]
      have s0 : 0 < s := by
        by_cases q : s = 0
        · subst q
          have : pc 0 = 0 := by decide +kernel
          omega
        · omega
      obtain ⟨k, k1, k2⟩ := sb_ex s hs s0
      obtain ⟨k3, k4, k5, k6⟩ := sb_key s hs k k1 k2
      have kF := h1 k k1 k2
      have sub : Sb (s - 2 ^ k) FL := fun l hl z => h1 l hl (by
        rw [sb_bit s hs k k1 k2 l hl, Bool.and_eq_true] at z
        exact z.1)
      have ih := HG_lt hn hFL he i (s - 2 ^ k) (by omega) (by omega) sub (by omega)
      have hpc := (pc_key s hs).2
      have hlt : HG n FL X e i (s - 2 ^ k) < 1000000 := by
        have : pc (s - 2 ^ k) * 160000 ≤ 5 * 160000 := Nat.mul_le_mul_right _ (by omega)
        omega
      have := miF_at (P := fun k => s.testBit k && FL.testBit k && decide (HG n FL X e i (s - 2 ^ k) < 1000000)) (v := fun k => HG n FL X e i (s - 2 ^ k) + e i k) (k := k) (by simp [k2, kF, hlt]) n (hFL k k1 kF)
      have h3 : stG n FL (e i) (HG n FL X e i) s ≤ HG n FL X e i (s - 2 ^ k) + e i k := this
      have h4 := he i k (by omega) (hFL k k1 kF) c kF
      have h5 : pc s * 160000 = pc (s - 2 ^ k) * 160000 + 160000 := by rw [k6, Nat.succ_mul]
      omega
    · rw [if_neg (show ¬ frf X i = true from fun z => c (of_decide_eq_true z))] at h2
      rw [if_neg c]
      exact HG_lt hn hFL he i s (by omega) hs h1 h2
-- entries are numbers
theorem insF_mem {P : Int32 → Prop} {v : Int32} (hv : P v) : ∀ (p : Nat) (g : Nat → Int32), (∀ t, t < p → P (g t)) → ∀ t, t < p + 1 → P (insF g p v t)
  | 0, g, _, t, ht => by
    have : t = 0 := by omega
    subst this
    show P (upd g 0 v 0)
    rw [pk_us]
    exact hv
  | p + 1, g, h, t, ht => by
    unfold insF
    split
    · by_cases c : t = p + 1
      · rw [c, pk_us]
        exact hv
      · rw [pk_un c]
        exact h t (by omega)
    · by_cases c : t = p + 1
      · rw [c, insF_hi p _ _ (by omega), pk_us]
        exact h p (by omega)
      · exact insF_mem hv p _ (fun q hq => by rw [pk_un (by omega)]; exact h q (by omega)) t (by omega)
theorem cS_mem {P : Int32 → Prop} {u g : Nat → Int32} : ∀ c, (∀ a, a < c → P (u a)) → ∀ t, t < c → P (cS g u c t)
  | 0, _, t, ht => by omega
  | c + 1, h, t, ht => insF_mem (h c (by omega)) c _ (fun q hq => cS_mem c (fun a ha => h a (by omega)) q hq) t ht
theorem gat_mem {P : Int32 → Prop} {Q : Nat → Bool} {h : Nat → Int32} : ∀ j, (∀ i, i < j → P (h i)) → ∀ t, t < (gat Q h j).1 → P ((gat Q h j).2 t)
  | 0, _, t, ht => by
    have : (gat Q h 0).1 = 0 := rfl
    omega
  | j + 1, hh, t, ht => by
    unfold gat at ht ⊢
    by_cases c : Q j = true
    · rw [if_pos c] at ht ⊢
      simp only at ht ⊢
      by_cases q : t = (gat Q h j).1
      · rw [q, pk_us]
        exact hh j (by omega)
      · rw [pk_un q]
        exact gat_mem j (fun i hi => hh i (by omega)) t (by omega)
    · rw [if_neg c] at ht ⊢
      exact gat_mem j (fun i hi => hh i (by omega)) t ht
theorem sm_nIx {B i : Nat} {f : Nat → Int32} (h0 : f i = 0) : ∀ n, i < n → (∀ j, j < n → ∃ c, c ≤ B ∧ f j = nI c) → ∃ c, c ≤ (n - 1) * B ∧ sm n f = nI c
  | 0, h, _ => by omega
  | n + 1, h, hf => by
    simp only [sm]
    by_cases q : i = n
    · subst q
      obtain ⟨c, h1, h2⟩ := sm_nI (n := i) (B := B) (f := f) (fun j hj => hf j (by omega))
      exact ⟨c, by rw [Nat.add_sub_cancel]; exact h1, by rw [h2, h0, Int32.add_zero]⟩
    · obtain ⟨c, h1, h2⟩ := sm_nIx h0 n (by omega) (fun j hj => hf j (by omega))
      obtain ⟨d, h3, h4⟩ := hf n (by omega)
      refine ⟨c + d, ?_, by rw [h2, h4, nI_add]⟩
      obtain ⟨m, rfl⟩ : ∃ m, n = m + 1 := ⟨n - 1, by omega⟩
      rw [Nat.add_sub_cancel] at h1 ⊢
      rw [Nat.succ_mul]
      omega
theorem enS_nI {n i k : Nat} {s X : Nat → Int32} (hg : Gd n s) (hX : Fx n X) (hi : i < n) (hk : k < n) (hx : X i = -1) (hl : frl n X k = true) : ∃ e, e ≤ 160000 ∧ enS n (tS s 1) (tS s 37) (tS s 73) X i k = nI e := by
  have hn := hX.2.1
  obtain ⟨vF, vD, vC⟩ := hg.2.2.2.1
  obtain ⟨c, c1, c2⟩ := vC i k (by omega) (by omega)
  obtain ⟨f, f1, f2⟩ := vF i i (by omega) (by omega)
  obtain ⟨d, d1, d2⟩ := vD k k (by omega) (by omega)
  obtain ⟨q, q1, q2⟩ := sm_nIx (i := i) (B := 19602) (f := fun j => if X j = -1 then 0 else tS s 1 i j * tS s 37 k (ix (X j)) + tS s 1 j i * tS s 37 (ix (X j)) k) (if_pos hx) n hi (fun j hj => by
    by_cases cx : X j = -1
    · exact ⟨0, by omega, if_pos cx⟩
    · obtain ⟨x, hx, ex⟩ := (hX.2.2.1 j hj).resolve_left cx
      obtain ⟨a1, b1, g1⟩ := vF i j (by omega) (by omega)
      obtain ⟨a2, b2, g2⟩ := vD k x (by omega) (by omega)
      obtain ⟨a3, b3, g3⟩ := vF j i (by omega) (by omega)
      obtain ⟨a4, b4, g4⟩ := vD x k (by omega) (by omega)
      refine ⟨a1 * a2 + a3 * a4, ?_, ?_⟩
      · have := mul_le99 b1 b2
        have := mul_le99 b3 b4
        omega
      · rw [if_neg cx, ex, ix_nI (by omega), g1, g2, g3, g4, pk_mul, pk_mul, nI_add])
  have mF : ∀ t, t < (fG n (tS s 1) X i).1 → ∃ x, x ≤ 99 ∧ Srt (fG n (tS s 1) X i).2 (fG n (tS s 1) X i).1 t = nI x := fun t ht => cS_mem (P := fun z => ∃ x, x ≤ 99 ∧ z = nI x) _ (fun a ha => gat_mem (P := fun z => ∃ x, x ≤ 99 ∧ z = nI x) n (fun j hj => vF i j (by omega) (by omega)) a ha) t ht
  have mD : ∀ t, t < (dG n (tS s 37) X k).1 → ∃ x, x ≤ 99 ∧ Srt (dG n (tS s 37) X k).2 (dG n (tS s 37) X k).1 t = nI x := fun t ht => cS_mem (P := fun z => ∃ x, x ≤ 99 ∧ z = nI x) _ (fun a ha => gat_mem (P := fun z => ∃ x, x ≤ 99 ∧ z = nI x) n (fun j hj => vD k j (by omega) (by omega)) a ha) t ht
  have hfc := fG_cnt (F := tS s 1) hX hi hx
  have hdc := dG_cnt (D := tS s 37) hX hk hl
  have hcl := cnt_le (P := frf X) n
  obtain ⟨r, r1, r2⟩ := sm_nI (n := (fG n (tS s 1) X i).1) (B := 9801) (f := fun a => Srt (fG n (tS s 1) X i).2 (fG n (tS s 1) X i).1 a * Srt (dG n (tS s 37) X k).2 (dG n (tS s 37) X k).1 ((fG n (tS s 1) X i).1 - 1 - a)) (fun a ha => by
    obtain ⟨x, x1, x2⟩ := mF a ha
    obtain ⟨y, y1, y2⟩ := mD ((fG n (tS s 1) X i).1 - 1 - a) (by omega)
    exact ⟨x * y, mul_le99 x1 y1, by rw [x2, y2, pk_mul]⟩)
  have hfd := mul_le99 f1 d1
  refine ⟨c + f * d + q + r, ?_, ?_⟩
  · have a1 : (n - 1) * 19602 ≤ 5 * 19602 := Nat.mul_le_mul_right _ (by omega)
    have a2 : (fG n (tS s 1) X i).1 * 9801 ≤ 5 * 9801 := Nat.mul_le_mul_right _ (by omega)
    omega
  · unfold enS linS lpS
    rw [c2, f2, d2, q2, r2, pk_mul, nI_add, nI_add, nI_add]
