-- longs (rows of kit/laws/BITS.to-paste)
theorem wb_tb (n : Nat) : (lN n).toBitVec = BitVec.ofNat 64 n := rfl
theorem wb_inj {a b : Int64} (h : a.toBitVec = b.toBitVec) : a = b := Int64.toBitVec_inj.mp h
theorem wb_tn {n : Nat} (h : n < 2 ^ 64) : (lN n).toBitVec.toNat = n := by rw [wb_tb, BitVec.toNat_ofNat, Nat.mod_eq_of_lt h]
theorem wb_of (x : Int64) : ∃ n, n < 2 ^ 64 ∧ x = lN n := ⟨x.toBitVec.toNat, x.toBitVec.isLt, wb_inj (by rw [wb_tb]; simp)⟩
theorem wb_of32 (x : Int32) : ∃ n, n < 2 ^ 32 ∧ x = nI n := ⟨x.toBitVec.toNat, x.toBitVec.isLt, Int32.toBitVec_inj.mp (by show _ = BitVec.ofNat 32 _; simp)⟩
theorem wb_c : ∀ k, k < 64 → ((nI k).toInt64 &&& 63) = lN k := by decide +kernel
theorem wb_cu : ∀ k, k < 64 → ((nI k).toInt64.toUInt64 &&& Int64.toUInt64 63) = UInt64.ofNat k := by decide +kernel
theorem wb_sm : ∀ k, k < 64 → (BitVec.ofNat 64 k).smod 64 = BitVec.ofNat 64 k := by decide +kernel
theorem wb_pw {a b : Nat} (h : a ≤ b) : 2 ^ b = 2 ^ a * 2 ^ (b - a) := by rw [← Nat.pow_add]; congr 1; omega
theorem wb_lt2 {a b : Nat} (h : a < b) : 2 ^ a < 2 ^ b := Nat.pow_lt_pow_right (by decide) h
theorem wb_mod (n : Nat) : lN n = lN (n % 2 ^ 64) := wb_inj (by rw [wb_tb, wb_tb]; apply BitVec.eq_of_toNat_eq; rw [BitVec.toNat_ofNat, BitVec.toNat_ofNat, Nat.mod_mod])
theorem wb_shl (n : Nat) {k : Nat} (hk : k < 64) : lN n <<< ((nI k).toInt64 &&& 63) = lN (n * 2 ^ k) := by
  rw [wb_c k hk]
  apply wb_inj
  rw [Int64.toBitVec_shiftLeft, wb_tb, wb_tb, wb_tb, wb_sm k hk]
  apply BitVec.eq_of_toNat_eq
  rw [BitVec.shiftLeft_eq', BitVec.toNat_shiftLeft, BitVec.toNat_ofNat, BitVec.toNat_ofNat, BitVec.toNat_ofNat, Nat.mod_eq_of_lt (show k < 2 ^ 64 by omega), Nat.shiftLeft_eq, Nat.mul_mod, Nat.mod_mod, ← Nat.mul_mod]
theorem wb_and {a b : Nat} (ha : a < 2 ^ 64) (hb : b < 2 ^ 64) : lN a &&& lN b = lN (a &&& b) := by
  apply wb_inj
  rw [Int64.toBitVec_and, wb_tb, wb_tb, wb_tb]
  apply BitVec.eq_of_toNat_eq
  rw [BitVec.toNat_and, BitVec.toNat_ofNat, BitVec.toNat_ofNat, BitVec.toNat_ofNat, Nat.mod_eq_of_lt ha, Nat.mod_eq_of_lt hb, Nat.mod_eq_of_lt (Nat.and_lt_two_pow _ hb)]
theorem wb_or {a b : Nat} (ha : a < 2 ^ 64) (hb : b < 2 ^ 64) : lN a ||| lN b = lN (a ||| b) := by
  apply wb_inj
  rw [Int64.toBitVec_or, wb_tb, wb_tb, wb_tb]
  apply BitVec.eq_of_toNat_eq
  rw [BitVec.toNat_or, BitVec.toNat_ofNat, BitVec.toNat_ofNat, BitVec.toNat_ofNat, Nat.mod_eq_of_lt ha, Nat.mod_eq_of_lt hb, Nat.mod_eq_of_lt (Nat.or_lt_two_pow ha hb)]
theorem wb_mask {n k : Nat} (hn : n < 2 ^ 64) (hk : k < 64) : lN n &&& lN (2 ^ k - 1) = lN (n % 2 ^ k) := by
  rw [wb_and hn (by have := wb_lt2 hk; omega), Nat.and_two_pow_sub_one_eq_mod]
theorem wb_a1 {n : Nat} (hn : n < 2 ^ 64) : lN n &&& 1 = lN (n % 2) := wb_mask (k := 1) hn (by decide)
theorem pf_lI {a : Nat} (h : a < 2 ^ 63) : (lN a).toInt = (a : Int) := lg_ofNat_toInt h
theorem pf_shr {a d : Nat} {D : Int64} (hD : (D.toBitVec.smod 64).toNat = d) (h : a < 2 ^ 62) : lN a >>> D = lN (a / 2 ^ d) := by
  have hd : a / 2 ^ d ≤ a := Nat.div_le_self _ _
  apply Int64.toInt_inj.mp
  have e : (lN a >>> D).toInt = (lN a).toInt >>> d := by
    rw [← hD]
    exact BitVec.toInt_sshiftRight ..
  rw [e, Int.shiftRight_eq_div_pow, pf_lI (by omega), pf_lI (by omega)]
  rfl
-- fill
def lcg (x0 : Nat) : Nat → Nat
  | 0 => x0
  | k + 1 => (1103515245 * lcg x0 k + 12345) % 2147483648
theorem lcg_lt {x0 : Nat} (h : x0 < 2147483648) : ∀ k, lcg x0 k < 2147483648
  | 0 => h
  | k + 1 => Nat.mod_lt _ (by decide)
theorem lcg_s {x0 k : Nat} : (1103515245 * lcg x0 k + 12345) % 2147483648 = lcg x0 (k + 1) := rfl
def rV (n x0 L : Nat) (i j : Nat) : Int32 := nI (lcg x0 (i * n + j + 1) / 65536 % (L + 1))
def lx (n row col r : Nat) : Prop := r / 6 < n ∧ r % 6 < n ∧ (r / 6 < row ∨ (r / 6 = row ∧ r % 6 < col))
def TbQ (V : Nat → Nat → Int32) (g0 g : Nat → Int32) (n row col : Nat) : Prop := ∀ r, r < 36 → (lx n row col r → g r = V (r / 6) (r % 6)) ∧ (¬ lx n row col r → g r = g0 r)
theorem TbQ_0 {V : Nat → Nat → Int32} {g : Nat → Int32} {n : Nat} : TbQ V g g n 0 0 := fun r hr => ⟨fun h => by unfold lx at h; omega, fun _ => rfl⟩
theorem TbQ_s {V : Nat → Nat → Int32} {g0 g : Nat → Int32} {n row col : Nat} (h : TbQ V g0 g n row col) (h1 : row < n) (h2 : col < n) (hn : n ≤ 6) {x : Int32} (hx : x = V row col) : TbQ V g0 (upd g (6 * row + col) x) n row (col + 1) := fun r hr => by
  obtain ⟨a, b⟩ := h r hr
  unfold lx at a b ⊢
  by_cases c : r = 6 * row + col
  · have e1 : r / 6 = row := by omega
    have e2 : r % 6 = col := by omega
    rw [c, pk_us]
    rw [c] at e1 e2
    rw [e1, e2]
    exact ⟨fun _ => hx, fun z => by omega⟩
  · rw [pk_un c]
    exact ⟨fun z => a (by omega), fun z => b (by omega)⟩
theorem TbQ_n {V : Nat → Nat → Int32} {g0 g : Nat → Int32} {n row : Nat} (h : TbQ V g0 g n row n) : TbQ V g0 g n (row + 1) 0 := fun r hr => by
  obtain ⟨a, b⟩ := h r hr
  unfold lx at a b ⊢
  exact ⟨fun z => a (by omega), fun z => b (by omega)⟩
theorem lrmN {a b : Nat} (ha : a < 2 ^ 63) (h0 : 0 < b) (hb : b < 2 ^ 63) : lrm (lN a) (lN b) = some (lN (a % b)) := by
  unfold lrm
  rw [if_neg (fun e => by
    have := (pk_lEQ (a := b) (b := 0) hb (by omega)).mp e
    omega), pk_lRem ha h0 hb]
theorem ldvN {a b : Nat} (ha : a < 2 ^ 63) (h0 : 0 < b) (hb : b < 2 ^ 63) : ldv (lN a) (lN b) = some (lN (a / b)) := by
  unfold ldv
  rw [if_neg (fun e => by
    have := (pk_lEQ (a := b) (b := 0) hb (by omega)).mp e
    omega), pk_lDiv ha h0 hb]
theorem lcg_c {x : Nat} (h : x < 2147483648) : ((((1103515245 : Int64) * lN x) + (12345 : Int64)) &&& (2147483647 : Int64)) = lN ((1103515245 * x + 12345) % 2147483648) := by
  rw [show (1103515245 : Int64) = lN 1103515245 from rfl, show (12345 : Int64) = lN 12345 from rfl, lN_mul, lN_add, show (2147483647 : Int64) = lN (2 ^ 31 - 1) from by decide +kernel, wb_mask (by omega) (by omega)]
theorem sh16 {x : Nat} (h : x < 2147483648) : lN x >>> (Int32.toInt64 (16 : Int32) &&& 63) = lN (x / 65536) := by
  rw [pf_shr (d := 16) (by decide +kernel) (by omega)]
theorem spanL {L : Nat} (h : L ≤ 99) : Int32.toInt64 (mx (1 : Int32) (nI L + (1 : Int32))) = lN (L + 1) := by
  have e : mx (1 : Int32) (nI L + (1 : Int32)) = nI (L + 1) := (by decide +kernel : ∀ L, L < 100 → mx (1 : Int32) (nI L + (1 : Int32)) = nI (L + 1)) L (by omega)
  rw [e, nI_l (by omega)]
theorem c_scatter {σ : Sg} {n w L x0 : Nat} (h0 : σ 1 0 = nI n) (hn : n ≤ 6) (hw : w ≤ 2) (hL : L ≤ 99) (hx : x0 < 2147483648) : ∃ σ', f_X6_scatter σ 1 (2 + w) (nI x0) (nI L) = some σ' ∧ Fr [2 + w] σ σ' ∧ TbQ (rV n x0 L) (σ (2 + w)) (σ' (2 + w)) n n 0 := by
  have hk := ln_w w hw
  have h12 : (2 + w) ≠ 1 := by omega
  unfold f_X6_scatter
  have inner : ∀ (row : Nat) (σ1 : Sg) (y : Int64), row < n → Fr [2 + w] σ σ1 → TbQ (rV n x0 L) (σ (2 + w)) (σ1 (2 + w)) n row 0 → ∃ e, lo (f_X6_scatter_L28 1 (nI L) (2 + w) (y, nI row, σ1)) (lN (lcg x0 (row * n)), 0, σ1) = some e ∧ e.1 = lN (lcg x0 ((row + 1) * n)) ∧ Fr [2 + w] σ e.2 ∧ TbQ (rV n x0 L) (σ (2 + w)) (e.2 (2 + w)) n (row + 1) 0 := by
    intro row σ1 y hr hF hT
    refine lo_tc (fun col s => s.1 = lN (lcg x0 (row * n + col)) ∧ s.2.1 = nI col ∧ Fr [2 + w] σ s.2.2 ∧ TbQ (rV n x0 L) (σ (2 + w)) (s.2.2 (2 + w)) n row col) n _ (fun col s hc ⟨e1, e2, e3, e4⟩ => ?_) (fun s ⟨e1, e2, e3, e4⟩ => ?_) ⟨rfl, rfl, hF, hT⟩
    · obtain ⟨x, c, σ2⟩ := s
      simp only at e1 e2 e3 e4
      subst e1 e2
      have hl := lcg_lt hx (row * n + col)
      have hl2 := lcg_lt hx (row * n + col + 1)
      have e5 : σ2 1 0 = nI n := by rw [e3 1 (fun z => by have := List.mem_singleton.mp z; omega), h0]
      unfold f_X6_scatter_L28
      simp only
      rw [e5, if_neg (nI_ge hc (by omega)), lcg_c hl, spanL hL]
      show ∃ s', (lrm (lN (lcg x0 (row * n + col + 1)) >>> (Int32.toInt64 (16 : Int32) &&& 63)) (lN (L + 1))).bind _ = _ ∧ _
      rw [sh16 hl2, lrmN (by omega) (by omega) (by omega)]
      simp only [obs]
      rw [lN_i, put_ok (by omega) (ln_le _)]
      simp only [obs]
      refine ⟨_, rfl, rfl, nI_s col, e3.si (List.mem_singleton.mpr rfl), ?_⟩
      show TbQ _ _ ((si σ2 (2 + w) (6 * row + col) _) (2 + w)) _ _ _
      rw [si_self]
      exact TbQ_s e4 hr hc hn rfl
    · obtain ⟨x, c, σ2⟩ := s
      simp only at e1 e2 e3 e4
      subst e1 e2
      have e5 : σ2 1 0 = nI n := by rw [e3 1 (fun z => by have := List.mem_singleton.mp z; omega), h0]
      unfold f_X6_scatter_L28
      simp only
      rw [e5, if_pos (nI_le (Nat.le_refl n) (by omega))]
      exact ⟨_, rfl, by rw [Nat.succ_mul], e3, TbQ_n e4⟩
  obtain ⟨e, h1, h2, h3⟩ := lo_tc (f := f_X6_scatter_L16 1 (nI L) (2 + w)) (fun row s => s.1 = lN (lcg x0 (row * n)) ∧ s.2.1 = nI row ∧ Fr [2 + w] σ s.2.2 ∧ TbQ (rV n x0 L) (σ (2 + w)) (s.2.2 (2 + w)) n row 0) n (fun e => Fr [2 + w] σ e ∧ TbQ (rV n x0 L) (σ (2 + w)) (e (2 + w)) n n 0) (fun row s hr ⟨e1, e2, e3, e4⟩ => by
    obtain ⟨x, c, σ2⟩ := s
    simp only at e1 e2 e3 e4
    subst e1 e2
    have e5 : σ2 1 0 = nI n := by rw [e3 1 (fun z => by have := List.mem_singleton.mp z; omega), h0]
    obtain ⟨e, i1, i2, i3, i4⟩ := inner row σ2 (lN (lcg x0 (row * n))) hr e3 e4
    unfold f_X6_scatter_L16
    simp only
    rw [e5, if_neg (nI_ge hr (by omega)), i1]
    exact ⟨_, rfl, i2, nI_s row, i3, i4⟩) (fun s ⟨e1, e2, e3, e4⟩ => by
    obtain ⟨x, c, σ2⟩ := s
    simp only at e1 e2 e3 e4
    subst e1 e2
    have e5 : σ2 1 0 = nI n := by rw [e3 1 (fun z => by have := List.mem_singleton.mp z; omega), h0]
    unfold f_X6_scatter_L16
    simp only
    rw [e5, if_pos (nI_le (Nat.le_refl n) (by omega))]
    exact ⟨_, rfl, e3, e4⟩) (s := (Int32.toInt64 (nI x0), 0, σ)) ⟨by show Int32.toInt64 (nI x0) = lN (lcg x0 (0 * n)); rw [Nat.zero_mul, nI_l (by omega)]; rfl, rfl, Fr.rf, TbQ_0⟩
  rw [h1]
  exact ⟨e, rfl, h2, h3⟩
-- the mirror
def mV (A : Nat → Nat → Int32) (i j : Nat) : Int32 := if i < j then A i j else if i = j then 0 else A j i
def lm (n row col r : Nat) : Prop := r / 6 < n ∧ r % 6 < n ∧ (r / 6 < row ∨ (r / 6 = row ∧ (r % 6 < col ∨ r % 6 = row)))
def TbM (A : Nat → Nat → Int32) (g : Nat → Int32) (n row col : Nat) : Prop := ∀ r, r < 36 → r / 6 < n → r % 6 < n → (lm n row col r → g r = mV A (r / 6) (r % 6)) ∧ (¬ lm n row col r → g r = A (r / 6) (r % 6))
theorem c_mirror {σ : Sg} {n w : Nat} {A : Nat → Nat → Int32} (h0 : σ 1 0 = nI n) (hn : n ≤ 6) (hw : w ≤ 2) (hA : ∀ i j, i < n → j < n → σ (2 + w) (6 * i + j) = A i j) : ∃ σ', f_X6_mirror σ 1 (2 + w) = some σ' ∧ Fr [2 + w] σ σ' ∧ (∀ i j, i < n → j < n → σ' (2 + w) (6 * i + j) = mV A i j) ∧ ∀ r, ¬ (r / 6 < n ∧ r % 6 < n) → σ' (2 + w) r = σ (2 + w) r := by
  have hk := ln_w w hw
  unfold f_X6_mirror
  have inner : ∀ (row : Nat) (σ1 σ2 : Sg), row < n → Fr [2 + w] σ σ2 → TbM A (σ2 (2 + w)) n row 0 → (∀ r, ¬ (r / 6 < n ∧ r % 6 < n) → σ2 (2 + w) r = σ (2 + w) r) → ∃ e, lo (f_X6_mirror_L19 (nI row, σ1) (2 + w)) (0, σ2) = some e ∧ Fr [2 + w] σ e ∧ TbM A (e (2 + w)) n row row ∧ ∀ r, ¬ (r / 6 < n ∧ r % 6 < n) → e (2 + w) r = σ (2 + w) r := by
    intro row σ1 σ2 hr hF hT hO
    refine lo_it (fun col σ' => Fr [2 + w] σ σ' ∧ TbM A (σ' (2 + w)) n row col ∧ ∀ r, ¬ (r / 6 < n ∧ r % 6 < n) → σ' (2 + w) r = σ (2 + w) r) row _ (fun col σ' hc ⟨e1, e2, e3⟩ => ?_) (fun σ' ⟨e1, e2, e3⟩ => ?_) rfl ⟨hF, hT, hO⟩
    · unfold f_X6_mirror_L19
      simp only
      rw [if_neg (nI_ge hc (by omega)), at_ok (by omega) (ln_le _)]
      simp only [obs]
      rw [put_ok (by omega) (ln_le _)]
      simp only [obs]
      rw [nI_s]
      have ev : σ' (2 + w) (6 * col + row) = A col row := by
        have q1 : (6 * col + row) / 6 = col := by omega
        have q2 : (6 * col + row) % 6 = row := by omega
        obtain ⟨a, b⟩ := e2 (6 * col + row) (by omega) (by omega) (by omega)
        rw [a (by unfold lm; omega), q1, q2]
        unfold mV
        rw [if_pos hc]
      refine ⟨_, rfl, e1.si (List.mem_singleton.mpr rfl), fun r hr36 hr1 hr2 => ?_, fun r hro => ?_⟩
      · obtain ⟨a, b⟩ := e2 r hr36 hr1 hr2
        unfold lm at a b ⊢
        by_cases c : r = 6 * row + col
        · rw [c, si_hit, ev]
          have q1 : (6 * row + col) / 6 = row := by omega
          have q2 : (6 * row + col) % 6 = col := by omega
          rw [q1, q2]
          refine ⟨fun _ => ?_, fun z => by omega⟩
          unfold mV
          rw [if_neg (by omega), if_neg (by omega)]
        · rw [si_miss c]
          exact ⟨fun z => a (by omega), fun z => b (by omega)⟩
      · rw [si_miss (fun c => hro (by omega))]
        exact e3 r hro
    · unfold f_X6_mirror_L19
      simp only
      rw [if_pos (nI_le (Nat.le_refl _) (by omega))]
      exact ⟨_, rfl, e1, e2, e3⟩
  obtain ⟨e, h1, h2, h3, h4⟩ := lo_it (f := f_X6_mirror_L2 1 (2 + w)) (fun row σ' => Fr [2 + w] σ σ' ∧ (∀ r, r < 36 → r / 6 < n → r % 6 < n → (r / 6 < row → σ' (2 + w) r = mV A (r / 6) (r % 6)) ∧ (¬ r / 6 < row → σ' (2 + w) r = A (r / 6) (r % 6))) ∧ ∀ r, ¬ (r / 6 < n ∧ r % 6 < n) → σ' (2 + w) r = σ (2 + w) r) n (fun e => Fr [2 + w] σ e ∧ (∀ r, r < 36 → r / 6 < n → r % 6 < n → e (2 + w) r = mV A (r / 6) (r % 6)) ∧ ∀ r, ¬ (r / 6 < n ∧ r % 6 < n) → e (2 + w) r = σ (2 + w) r) (fun row σ' hr ⟨e1, e2, e3⟩ => by
    have e5 : σ' 1 0 = nI n := by rw [e1 1 (fun z => by have := List.mem_singleton.mp z; omega), h0]
    unfold f_X6_mirror_L2
    simp only
    rw [e5, if_neg (nI_ge hr (by omega)), put_ok (by omega) (ln_le _)]
    simp only [obs]
    obtain ⟨e, i1, i2, i3, i4⟩ := inner row σ' (si σ' (2 + w) (6 * row + row) 0) hr (e1.si (List.mem_singleton.mpr rfl)) (fun r hr36 hr1 hr2 => by
      obtain ⟨a, b⟩ := e2 r hr36 hr1 hr2
      unfold lm
      by_cases c : r = 6 * row + row
      · rw [c, si_hit]
        have q1 : (6 * row + row) / 6 = row := by omega
        have q2 : (6 * row + row) % 6 = row := by omega
        rw [q1, q2]
        refine ⟨fun _ => ?_, fun z => by omega⟩
        unfold mV
        rw [if_neg (by omega), if_pos rfl]
      · rw [si_miss c]
        exact ⟨fun z => a (by omega), fun z => b (by omega)⟩) (fun r hro => by
      rw [si_miss (fun c => hro (by omega))]
      exact e3 r hro)
    rw [i1]
    refine ⟨_, by simp only [obs]; rw [nI_s], i2, fun r hr36 hr1 hr2 => ?_, i4⟩
    obtain ⟨a, b⟩ := i3 r hr36 hr1 hr2
    unfold lm at a b
    refine ⟨fun z => ?_, fun z => b (by omega)⟩
    by_cases c : r / 6 = row ∧ row < r % 6
    · rw [b (by omega)]
      unfold mV
      rw [if_pos (by omega)]
    · exact a (by omega)) (fun σ' ⟨e1, e2, e3⟩ => by
    have e5 : σ' 1 0 = nI n := by rw [e1 1 (fun z => by have := List.mem_singleton.mp z; omega), h0]
    unfold f_X6_mirror_L2
    simp only
    rw [e5, if_pos (nI_le (Nat.le_refl _) (by omega))]
    exact ⟨_, rfl, e1, fun r a b c => (e2 r a b c).1 b, e3⟩) (σ := σ) (z := 0) rfl ⟨Fr.rf, fun r a b c => ⟨fun z => by omega, fun _ => by rw [← hA _ _ b c]; congr 1; omega⟩, fun r _ => rfl⟩
  rw [h1]
  refine ⟨e, rfl, h2, fun i j hi hj => ?_, h4⟩
  have := h3 (6 * i + j) (by omega) (by omega) (by omega)
  rw [this, show (6 * i + j) / 6 = i by omega, show (6 * i + j) % 6 = j by omega]
theorem c_sumOf {σ : Sg} {n w : Nat} {A : Nat → Nat → Int32} (h0 : σ 1 0 = nI n) (hn : n ≤ 6) (hw : w ≤ 2) (hA : ∀ i j, i < n → j < n → σ (2 + w) (6 * i + j) = A i j) : f_X6_sumOf σ 1 (2 + w) = some (sm n fun i => sm n fun j => A i j) := by
  have hk := ln_w w hw
  unfold f_X6_sumOf
  have inner : ∀ (row : Nat) (x b : Int32), row < n → lo (f_X6_sumOf_L15 σ 1 (2 + w) (x, nI row)) (b, 0) = some (b + sm n fun j => A row j) := by
    intro row x b hr
    refine lo_run (fun j => (b + sm j fun j => A row j, nI j)) (n := n) (fun j hj => ?_) ?_ (by simp [sm, nI_0])
    · unfold f_X6_sumOf_L15
      simp only
      rw [h0, if_neg (nI_ge hj (by omega)), at_ok (by omega) (ln_le _)]
      simp only [obs, sm]
      rw [hA row j hr hj, nI_s, Int32.add_assoc]
    · unfold f_X6_sumOf_L15
      simp only
      rw [h0, if_pos (nI_le (Nat.le_refl n) (by omega))]
  rw [lo_run (f := f_X6_sumOf_L4 σ 1 (2 + w)) (fun i => (sm i fun i => sm n fun j => A i j, nI i)) (n := n) (e := sm n fun i => sm n fun j => A i j) (s := (0, 0)) (fun i hi => by
    unfold f_X6_sumOf_L4
    simp only
    rw [h0, if_neg (nI_ge hi (by omega)), inner i _ _ hi]
    simp only [obs, sm]
    rw [nI_s]) (by
    unfold f_X6_sumOf_L4
    simp only
    rw [h0, if_pos (nI_le (Nat.le_refl n) (by omega))]) rfl]
  rfl
-- the model
theorem m_n' {σ : Sg} {n : Nat} (h : σ 76 0 = nI n) : ald σ 76 (0 : Int32) = some (nI n) := m_n h
def ps (σ : Sg) (w : Nat) : Nat → Int32 := fun r => σ 76 (1 + 36 * w + r)
theorem ps_si {σ : Sg} {w r : Nat} {x : Int32} : ps (si σ 76 (1 + 36 * w + r) x) w = upd (ps σ w) r x := by
  funext q
  unfold ps
  rw [si_self]
  unfold upd
  by_cases c : q = r
  · rw [if_pos c, if_pos (by omega)]
  · rw [if_neg c, if_neg (by omega)]
/-- only the table w changes -/
def Mw (w : Nat) (σ σ' : Sg) : Prop := Fr [76] σ σ' ∧ ∀ q, (q < 1 + 36 * w ∨ 37 + 36 * w ≤ q) → σ' 76 q = σ 76 q
theorem Mw.rf {w : Nat} {σ : Sg} : Mw w σ σ := ⟨Fr.rf, fun _ _ => rfl⟩
theorem Mw.si {w r : Nat} {σ σ1 : Sg} {x : Int32} (h : Mw w σ σ1) (hr : r < 36) : Mw w σ (si σ1 76 (1 + 36 * w + r) x) := ⟨h.1.si (by decide), fun q hq => by rw [si_miss (by omega)]; exact h.2 q hq⟩
theorem Mw.n {w n : Nat} {σ σ1 : Sg} (h : Mw w σ σ1) (h0 : σ 76 0 = nI n) : σ1 76 0 = nI n := by rw [h.2 0 (by omega), h0]
theorem m_fill1 {σ : Sg} {n w L x0 : Nat} (h0 : σ 76 0 = nI n) (h1 : 1 ≤ n) (hn : n ≤ 6) (hw : w ≤ 2) (hL : L ≤ 99) (hx : x0 < 2147483648) : ∃ σ', lo (f_X9_fill_L40 75 (nI w) (nI L)) (Int32.toInt64 (nI x0), (0 : Int32), σ) = some σ' ∧ Mw w σ σ' ∧ TbQ (rV n x0 L) (ps σ w) (ps σ' w) n n 0 := by
  refine lo_tc (fun k s => s.1 = lN (lcg x0 k) ∧ s.2.1 = nI k ∧ Mw w σ s.2.2 ∧ TbQ (rV n x0 L) (ps σ w) (ps s.2.2 w) n (k / n) (k % n)) (n * n) _ (fun k s hk ⟨e1, e2, e3, e4⟩ => ?_) (fun s ⟨e1, e2, e3, e4⟩ => ?_) ⟨by show Int32.toInt64 (nI x0) = lN (lcg x0 0); rw [nI_l (by omega)]; rfl, rfl, Mw.rf, by rw [Nat.zero_div, Nat.zero_mod]; exact TbQ_0⟩
  · obtain ⟨x, c, σ2⟩ := s
    simp only at e1 e2 e3 e4
    subst e1 e2
    have hl := lcg_lt hx k
    have hl2 := lcg_lt hx (k + 1)
    have e5 := e3.n h0
    have hnn : n * n ≤ 36 := Nat.mul_le_mul hn hn
    have hkn : k / n < n := Nat.div_lt_of_lt_mul hk
    have hkm : k % n < n := Nat.mod_lt _ (by omega)
    have hdm := Nat.div_add_mod k n
    have hcomm : n * (k / n) = k / n * n := Nat.mul_comm _ _
    unfold f_X9_fill_L40
    simp only
    rw [show 75 + 1 = 76 from rfl, m_n' e5]
    simp only [obs]
    rw [pk_mul, if_neg (nI_ge hk (by omega)), show (1103515245 : Int64) = lN 1103515245 from rfl, show (12345 : Int64) = lN 12345 from rfl, lN_mul, lN_add, show (2147483648 : Int64) = lN 2147483648 from rfl, lrmN (by omega) (by omega) (by omega)]
    simp only [obs]
    rw [nI_dvN (by omega) (by omega) (by omega)]
    simp only [obs]
    rw [nI_rmN (by omega) (by omega) (by omega)]
    simp only [obs]
    rw [m_placeOf]
    simp only [obs]
    rw [lcg_s, show (65536 : Int64) = lN 65536 from rfl, ldvN (by omega) (by omega) (by omega)]
    simp only [obs]
    rw [nI_l (show L < 2 ^ 31 by omega), lN_1, lrmN (by omega) (by omega) (by omega)]
    simp only [obs]
    rw [lN_i, show 1 + 36 * w + 6 * (k / n) + k % n = 1 + 36 * w + (6 * (k / n) + k % n) by omega, s_76 (by omega)]
    simp only [obs]
    rw [nI_s]
    refine ⟨_, rfl, rfl, rfl, e3.si (by omega), ?_⟩
    simp only
    rw [ps_si]
    have hs := TbQ_s e4 hkn hkm hn (x := nI (lcg x0 (k + 1) / 65536 % (L + 1))) (by unfold rV; rw [← hcomm, hdm])
    by_cases c : k % n + 1 < n
    · have q1 : (k + 1) / n = k / n := by
        rw [show k + 1 = n * (k / n) + (k % n + 1) by omega, Nat.mul_add_div (by omega), Nat.div_eq_of_lt c, Nat.add_zero]
      have q2 : (k + 1) % n = k % n + 1 := by
        rw [show k + 1 = n * (k / n) + (k % n + 1) by omega, Nat.mul_add_mod, Nat.mod_eq_of_lt c]
      rw [q1, q2]
      exact hs
    · have q0 : k % n + 1 = n := by omega
      have q1 : (k + 1) / n = k / n + 1 := by
        rw [show k + 1 = n * (k / n) + n by omega, Nat.mul_add_div (by omega), Nat.div_self (by omega)]
      have q2 : (k + 1) % n = 0 := by
        rw [show k + 1 = n * (k / n) + n by omega, Nat.mul_add_mod, Nat.mod_self]
      rw [q1, q2]
      rw [q0] at hs
      exact TbQ_n hs
  · obtain ⟨x, c, σ2⟩ := s
    simp only at e1 e2 e3 e4
    subst e1 e2
    have e5 := e3.n h0
    have hnn : n * n ≤ 36 := Nat.mul_le_mul hn hn
    unfold f_X9_fill_L40
    simp only
    rw [show 75 + 1 = 76 from rfl, m_n' e5]
    simp only [obs]
    rw [pk_mul, if_pos (nI_le (Nat.le_refl _) (by omega))]
    rw [Nat.mul_div_cancel _ (by omega), Nat.mul_mod_left] at e4
    exact ⟨_, rfl, e3, e4⟩
theorem m_fill2 {σ : Sg} {n w : Nat} {A : Nat → Nat → Int32} (sym : Bool) {y : Int32} (hy : y = 0 ↔ sym = false) (h0 : σ 76 0 = nI n) (hn : n ≤ 6) (hw : w ≤ 2) (hA : ∀ i j, i < n → j < n → ps σ w (6 * i + j) = A i j) : ∃ σ', lo (f_X9_fill_L125 75 (nI w) y) ((0 : Int32), (0 : Int32), σ) = some (sm n (fun i => sm n fun j => if sym = true then mV A i j else A i j), σ') ∧ Mw w σ σ' ∧ (∀ i j, i < n → j < n → ps σ' w (6 * i + j) = if sym = true then mV A i j else A i j) ∧ ∀ r, ¬ (r / 6 < n ∧ r % 6 < n) → ps σ' w r = ps σ w r := by
  generalize hB : (fun i j => if sym = true then mV A i j else A i j) = B
  have hBB : ∀ i j, (if sym = true then mV A i j else A i j) = B i j := fun i j => by rw [← hB]
  simp only [hBB]
  have upper : ∀ i j, i < j → B i j = A i j := fun i j h => by
    rw [← hBB]
    unfold mV
    rw [if_pos h]
    split <;> rfl
  -- what holds at row a, column b
  have Q : Nat → Nat → Sg → Prop := fun _ _ _ => True
  let R : Nat → Nat → Sg → Prop := fun a b σ' => Mw w σ σ' ∧ (∀ i j, i < n → j < n → ((i < a ∨ (i = a ∧ j < b)) → ps σ' w (6 * i + j) = B i j) ∧ (¬ (i < a ∨ (i = a ∧ j < b)) → ps σ' w (6 * i + j) = A i j)) ∧ ∀ r, ¬ (r / 6 < n ∧ r % 6 < n) → ps σ' w r = ps σ w r
  have wr : ∀ a b σ' x, a < n → b < n → R a b σ' → x = B a b → R a (b + 1) (si σ' 76 (1 + 36 * w + (6 * a + b)) x) := by
    intro a b σ' x ha hb ⟨r1, r2, r3⟩ hx
    refine ⟨r1.si (by omega), fun i j hi hj => ?_, fun r hr => ?_⟩
    · rw [ps_si]
      obtain ⟨u, v⟩ := r2 i j hi hj
      by_cases c : 6 * i + j = 6 * a + b
      · have q1 : i = a := by omega
        have q2 : j = b := by omega
        subst q1 q2
        rw [pk_us]
        exact ⟨fun _ => hx, fun z => by omega⟩
      · rw [pk_un c]
        exact ⟨fun z => u (by omega), fun z => v (by omega)⟩
    · rw [ps_si, pk_un (fun c => hr (by omega))]
      exact r3 r hr
  have inner : ∀ (a : Nat) (x b0 : Int32) (σ0 σ1 : Sg), a < n → R a 0 σ1 → ∃ e, lo (f_X9_fill_L139 75 (nI w) (x, nI a, σ0) y) (b0, 0, σ1) = some e ∧ e.1 = b0 + sm n (fun j => B a j) ∧ R a n e.2 := by
    intro a x b0 σ0 σ1 ha hR
    refine lo_tc (fun b s => s.1 = b0 + sm b (fun j => B a j) ∧ s.2.1 = nI b ∧ R a b s.2.2) n _ (fun b s hb ⟨e1, e2, e3⟩ => ?_) (fun s ⟨e1, e2, e3⟩ => ?_) ⟨by simp [sm], rfl, hR⟩
    · obtain ⟨z, c, σ2⟩ := s
      simp only at e1 e2 e3
      subst e1 e2
      have e5 := e3.1.n h0
      have hv := (e3.2.1 a b ha hb).2 (by omega)
      have e6 : σ2 76 (1 + 36 * w + 6 * a + b) = A a b := by rw [← hv]; unfold ps; congr 1; omega
      have fin : ∀ v, v = B a b → ∃ s', f_X9_fill_J212 75 (b0 + sm b (fun j => B a j)) (nI b) (nI (1 + 36 * w + 6 * a + b)) v (nI (1 + 36 * w + 6 * a + b)) σ2 = some (.inl s') ∧ s'.1 = b0 + sm (b + 1) (fun j => B a j) ∧ s'.2.1 = nI (b + 1) ∧ R a (b + 1) s'.2.2 := fun v hv => by
        unfold f_X9_fill_J212
        rw [show 75 + 1 = 76 from rfl, s_76 (by omega)]
        simp only [obs]
        rw [a_76 (by omega), si_hit]
        simp only [obs]
        refine ⟨_, rfl, ?_, nI_s b, ?_⟩
        · simp only [sm]
          rw [hv, Int32.add_assoc]
        · show R a (b + 1) (si σ2 76 (1 + 36 * w + 6 * a + b) v)
          rw [show 1 + 36 * w + 6 * a + b = 1 + 36 * w + (6 * a + b) by omega]
          exact wr a b σ2 v ha hb e3 hv
      have same : ∃ s', f_X9_fill_J178 75 (b0 + sm b (fun j => B a j)) (nI b) (nI (1 + 36 * w + 6 * a + b)) (nI (1 + 36 * w + 6 * a + b)) σ2 = f_X9_fill_J212 75 (b0 + sm b (fun j => B a j)) (nI b) (nI (1 + 36 * w + 6 * a + b)) s' (nI (1 + 36 * w + 6 * a + b)) σ2 ∧ s' = A a b := by
        unfold f_X9_fill_J178
        rw [show 75 + 1 = 76 from rfl, a_76 (by omega)]
        exact ⟨_, rfl, e6⟩
      obtain ⟨s', t1, t2⟩ := same
      unfold f_X9_fill_L139
      simp only
      rw [show 75 + 1 = 76 from rfl, m_n' e5]
      simp only [obs]
      rw [if_neg (nI_ge hb (by omega)), m_placeOf]
      simp only [obs]
      cases sym with
      | false =>
        rw [if_pos (hy.mpr rfl), t1]
        refine fin s' ?_
        rw [t2, ← hBB]
        simp
      | true =>
        rw [if_neg (fun z => by have := hy.mp z; cases this)]
        by_cases c : b ≤ a
        · rw [if_pos (nI_le c (by omega))]
          by_cases c2 : a = b
          · subst c2
            rw [if_pos rfl]
            refine fin 0 ?_
            rw [← hBB]
            simp [mV]
          · rw [if_neg (fun z => c2 ((nI_eq (by omega) (by omega)).mp z)), m_placeOf]
            simp only [obs]
            rw [a_76 (by omega)]
            simp only [obs]
            refine fin _ ?_
            have hv2 := (e3.2.1 b a hb ha).1 (by omega)
            have e7 : σ2 76 (1 + 36 * w + 6 * b + a) = B b a := by rw [← hv2]; unfold ps; congr 1; omega
            rw [e7, upper b a (by omega), ← hBB]
            simp only [if_true]
            unfold mV
            rw [if_neg (by omega), if_neg c2]
        · rw [if_neg (nI_ge (by omega) (by omega)), t1]
          refine fin s' ?_
          rw [t2, upper a b (by omega)]
    · obtain ⟨z, c, σ2⟩ := s
      simp only at e1 e2 e3
      subst e1 e2
      have e5 := e3.1.n h0
      unfold f_X9_fill_L139
      simp only
      rw [show 75 + 1 = 76 from rfl, m_n' e5]
      simp only [obs]
      rw [if_pos (nI_le (Nat.le_refl n) (by omega))]
      exact ⟨_, rfl, rfl, e3⟩
  have nxt : ∀ a σ', R a n σ' → R (a + 1) 0 σ' := fun a σ' ⟨r1, r2, r3⟩ => ⟨r1, fun i j hi hj => by
    obtain ⟨u, v⟩ := r2 i j hi hj
    exact ⟨fun z => u (by omega), fun z => v (by omega)⟩, r3⟩
  obtain ⟨e, h1, h2, h3⟩ := lo_tc (f := f_X9_fill_L125 75 (nI w) y) (fun a s => s.1 = sm a (fun i => sm n fun j => B i j) ∧ s.2.1 = nI a ∧ R a 0 s.2.2) n (fun e => e.1 = sm n (fun i => sm n fun j => B i j) ∧ R n 0 e.2) (fun a s ha ⟨e1, e2, e3⟩ => by
    obtain ⟨z, c, σ2⟩ := s
    simp only at e1 e2 e3
    subst e1 e2
    have e5 := e3.1.n h0
    obtain ⟨e, i1, i2, i3⟩ := inner a (sm a (fun i => sm n fun j => B i j)) (sm a (fun i => sm n fun j => B i j)) σ2 σ2 ha e3
    unfold f_X9_fill_L125
    simp only
    rw [show 75 + 1 = 76 from rfl, m_n' e5]
    simp only [obs]
    rw [if_neg (nI_ge ha (by omega)), i1]
    exact ⟨_, rfl, by simp only [sm]; exact i2, nI_s a, nxt a _ i3⟩) (fun s ⟨e1, e2, e3⟩ => by
    obtain ⟨z, c, σ2⟩ := s
    simp only at e1 e2 e3
    subst e1 e2
    have e5 := e3.1.n h0
    unfold f_X9_fill_L125
    simp only
    rw [show 75 + 1 = 76 from rfl, m_n' e5]
    simp only [obs]
    rw [if_pos (nI_le (Nat.le_refl n) (by omega))]
    exact ⟨_, rfl, rfl, e3⟩) (s := (0, 0, σ)) ⟨rfl, rfl, Mw.rf, fun i j hi hj => ⟨fun z => by omega, fun _ => hA i j hi hj⟩, fun r _ => rfl⟩
  refine ⟨e.2, ?_, h3.1, fun i j hi hj => (h3.2.1 i j hi hj).1 (Or.inl hi), h3.2.2⟩
  rw [h1, ← h2]
/-- the snapshot with a new table -/
def setT (s : Nat → Int32) (w n : Nat) (B : Nat → Nat → Int32) : Nat → Int32 := fun q => if 1 + 36 * w ≤ q ∧ q < 37 + 36 * w ∧ (q - (1 + 36 * w)) / 6 < n ∧ (q - (1 + 36 * w)) % 6 < n then B ((q - (1 + 36 * w)) / 6) ((q - (1 + 36 * w)) % 6) else s q
theorem setT_eq {s s1 : Nat → Int32} {w n : Nat} {B : Nat → Nat → Int32} (hn : n ≤ 6) (h1 : ∀ q, q < 121 → (q < 1 + 36 * w ∨ 37 + 36 * w ≤ q) → s1 q = s q) (h2 : ∀ i j, i < n → j < n → s1 (1 + 36 * w + (6 * i + j)) = B i j) (h3 : ∀ r, r < 36 → ¬ (r / 6 < n ∧ r % 6 < n) → s1 (1 + 36 * w + r) = s (1 + 36 * w + r)) : EqS s1 (setT s w n B) := by
  intro q hq
  unfold setT
  by_cases c : 1 + 36 * w ≤ q ∧ q < 37 + 36 * w
  · obtain ⟨r, rfl⟩ : ∃ r, q = 1 + 36 * w + r := ⟨q - (1 + 36 * w), by omega⟩
    rw [Nat.add_sub_cancel_left]
    by_cases c2 : r / 6 < n ∧ r % 6 < n
    · rw [if_pos ⟨c.1, c.2, c2⟩, ← h2 _ _ c2.1 c2.2]
      congr 1
      omega
    · rw [if_neg (fun z => c2 z.2.2)]
      exact h3 r (by omega) c2
  · rw [if_neg (fun z => c ⟨z.1, z.2.1⟩)]
    exact h1 q hq (by omega)
theorem Gd_setT {n w : Nat} {s : Nat → Int32} {B : Nat → Nat → Int32} (h : Gd n s) (hw : w ≤ 2) (hB : ∀ i j, i < n → j < n → ∃ x, x ≤ 99 ∧ B i j = nI x) : Gd n (setT s w n B) := by
  obtain ⟨g1, g2, g3, ⟨g4, g5, g6⟩, ⟨t, g7, g8⟩, g9, g10⟩ := h
  have vt : ∀ o, VT (tS s o) → VT (tS (setT s w n B) o) := fun o ho i j hi hj => by
    obtain ⟨x, h1, h2⟩ := ho i j hi hj
    rw [tS_at hi hj] at h2 ⊢
    unfold setT
    split
    · next c => exact hB _ _ c.2.2.1 c.2.2.2
    · exact ⟨x, h1, h2⟩
  have out : ∀ q, (q < 1 ∨ 109 ≤ q) → setT s w n B q = s q := fun q hq => by
    unfold setT
    rw [if_neg (fun z => by omega)]
  refine ⟨g1, g2, by rw [out 0 (by omega), g3], ⟨vt 1 g4, vt 37 g5, vt 73 g6⟩, ⟨t, g7, fun i hi => by rw [out _ (by omega), g8 i hi]⟩, ?_, fun i hi h6 => by rw [out _ (by omega), g10 i hi h6]⟩
  have : vS (setT s w n B) 115 = vS s 115 := by
    funext i
    unfold vS
    rw [out _ (by omega)]
  rw [this]
  exact g9
theorem J_fill {σ : Sg} (H : Iv σ) (w a b y : Int32) (hy : y = 0 ∨ y = 1) : JU 0 9 (f_X8_fill σ 0 w a b y) (fun σ => f_X9_fill σ 75 w a b y) := by
  have H' := H
  obtain ⟨s, c, h, T, tx, md, rs, hG, hC, hM⟩ := H'
  obtain ⟨n, hg⟩ := hG.1
  have hc0 := CI_n hC hg
  have hm0 := MI_n hM hg
  have h1 := hg.1
  have hn := hg.2.1
  have bad : f_X8_fill σ 0 w a b y = some (.inl (0, σ)) → f_X9_fill σ 75 w a b y = some (0, si σ 75 6 1) → JU 0 9 (f_X8_fill σ 0 w a b y) (fun σ1 => f_X9_fill σ1 75 w a b y) := fun e1 e2 => Or.inr (Or.inl ⟨0, σ, si σ 75 6 1, e1, e2, si_hit, Iv_75 H (by decide) (by decide)⟩)
  unfold f_X8_fill at bad ⊢
  unfold f_X9_fill f_X9_fill_J23 at bad
  rw [show (0 : Int32) = nI 0 from rfl, show (2 : Int32) = nI 2 from rfl, show (99 : Int32) = nI 99 from rfl] at bad
  rcases rng 2 (by omega) w with hw | ⟨w, hw, rfl⟩
  · exact bad (by rw [tb_no hw]; rfl) (by rw [in_no hw]; rfl)
  rcases rng 99 (by omega) b with hb | ⟨L, hL, rfl⟩
  · refine bad (by rw [tb_yes hw, va_no hb]; rfl) ?_
    rw [in_yes (by omega) hw (by omega), in_no hb]
    simp only [obs]
    rw [if_neg (by decide)]
    by_cases ha : a < nI 0
    · rw [if_pos ha]; rfl
    · rw [if_neg ha, if_pos (by decide)]; rfl
  by_cases ha : a < 0
  · refine bad ?_ ?_
    · rw [tb_yes hw, va_yes hL]
      simp only [obs, Sum.elim_inr]
      rw [if_neg (show ¬ nI 0 ≤ a from fun z => by rw [show nI 0 = 0 from rfl] at z; grind)]
    · rw [in_yes (by omega) hw (by omega)]
      simp only [obs]
      rw [if_neg (by decide), if_pos (show a < nI 0 from ha)]
      rfl
  clear bad
  obtain ⟨x0, hx, rfl⟩ := nI_of ha
  have hx : x0 < 2147483648 := by omega
  obtain ⟨σ1, q1, q2, q3⟩ := CI_push hC
  have c10 : σ1 1 0 = nI n := CI_n q3 hg
  obtain ⟨σ2, r1, r2, r3⟩ := c_scatter (L := L) c10 hn hw hL hx
  have hw3 : w = 0 ∨ w = 1 ∨ w = 2 := by omega
  have f2 : Fr [1, 2, 3, 4, 5, 6] σ1 σ2 := Fr.tr Fr.rf r2 (by rcases hw3 with rfl | rfl | rfl <;> decide)
  have c20 : σ2 1 0 = nI n := by rw [r2.at (by rcases hw3 with rfl | rfl | rfl <;> decide), c10]
  have hA2 : ∀ i j, i < n → j < n → σ2 (2 + w) (6 * i + j) = rV n x0 L i j := fun i j hi hj => by
    have q1 : (6 * i + j) / 6 = i := by omega
    have q2 : (6 * i + j) % 6 = j := by omega
    have := (r3 (6 * i + j) (by omega)).1 (by unfold lx; omega)
    rw [this, q1, q2]
  have hO2 : ∀ r, r < 36 → ¬ (r / 6 < n ∧ r % 6 < n) → σ2 (2 + w) r = σ1 (2 + w) r := fun r hr hh => (r3 r hr).2 (fun z => hh ⟨z.1, z.2.1⟩)
  -- with or without the mirror
  let sym : Bool := decide (y = 1)
  have hys : y = 0 ↔ sym = false := by
    rcases hy with rfl | rfl
    · exact ⟨fun _ => by decide, fun _ => rfl⟩
    · exact ⟨fun z => absurd z (by decide), fun z => absurd z (by decide)⟩
  let B : Nat → Nat → Int32 := fun i j => if sym = true then mV (rV n x0 L) i j else rV n x0 L i j
  have cls : ∃ σ3, (f_X8_fill_J68 0 (2 + w) σ3 = (if y = (0 : Int32) then (f_X8_fill_J68 0 (2 + w) σ2) else ((f_X6_mirror σ2 1 (2 + w)).bind fun v12 => f_X8_fill_J68 0 (2 + w) v12))) ∧ Fr [2 + w] σ1 σ3 ∧ (∀ i j, i < n → j < n → σ3 (2 + w) (6 * i + j) = B i j) ∧ ∀ r, r < 36 → ¬ (r / 6 < n ∧ r % 6 < n) → σ3 (2 + w) r = σ1 (2 + w) r := by
    by_cases c : y = 0
    · have hs : sym = false := hys.mp c
      refine ⟨σ2, by rw [if_pos c], r2, fun i j hi hj => ?_, hO2⟩
      rw [hA2 i j hi hj]
      show _ = if sym = true then _ else _
      rw [hs]
      rfl
    · have hs : sym = true := by
        cases h : sym with
        | true => rfl
        | false => exact absurd (hys.mpr h) c
      obtain ⟨σ3, t1, t2, t3, t4⟩ := c_mirror c20 hn hw hA2
      refine ⟨σ3, by rw [if_neg c, t1]; rfl, r2.tr t2 (fun q h => h), fun i j hi hj => ?_, fun r hr hh => ?_⟩
      · rw [t3 i j hi hj]
        show _ = if sym = true then _ else _
        rw [hs]
        rfl
      · rw [t4 r hh, hO2 r hr hh]
  obtain ⟨σ3, t1, t2, t3, t4⟩ := cls
  have f3 : Fr [1, 2, 3, 4, 5, 6] σ1 σ3 := Fr.tr Fr.rf t2 (by rcases hw3 with rfl | rfl | rfl <;> decide)
  have c30 : σ3 1 0 = nI n := by rw [t2.at (by rcases hw3 with rfl | rfl | rfl <;> decide), c10]
  have hsn : EqS (snap σ3 1) (setT s w n B) := by
    have w2 : ∀ q, q < 121 → (q < 1 + 36 * w ∨ 37 + 36 * w ≤ q) → snap σ3 1 q = snap σ1 1 q := by
      have o : ∀ d, d ≤ 5 → d ≠ 1 + w → σ3 (1 + d) = σ1 (1 + d) := fun d h1 h2 => t2 _ (fun z => by simp only [List.mem_cons, List.not_mem_nil, or_false] at z; omega)
      refine snap_case (fun _ => ?_) (fun j hj hh => ?_) (fun j hj hh => ?_) (fun j hj hh => ?_) (fun j hj _ => ?_) (fun j hj _ => ?_)
      · rw [snap_0, snap_0]
        exact congrFun (o 0 (by omega) (by omega)) 0
      · rw [snap_f hj, snap_f hj]
        exact congrFun (o 1 (by omega) (by omega)) j
      · rw [snap_d hj, snap_d hj]
        exact congrFun (o 2 (by omega) (by omega)) j
      · rw [snap_c hj, snap_c hj]
        exact congrFun (o 3 (by omega) (by omega)) j
      · rw [snap_p hj, snap_p hj]
        exact congrFun (o 4 (by omega) (by omega)) j
      · rw [snap_x, snap_x]
        exact congrFun (o 5 (by omega) (by omega)) j
    refine setT_eq hn (fun q hq hh => by rw [w2 q hq hh]; exact q3.1.2.1 q hq) (fun i j hi hj => by rw [snap_w hw (by omega), t3 i j hi hj]) (fun r hr hh => by rw [snap_w hw hr, t4 r hr hh, ← snap_w (σ := σ1) hw hr]; exact q3.1.2.1 _ (by omega))
  have hg' : Gd n (setT s w n B) := by
    have hr : ∀ i j, ∃ x, x ≤ 99 ∧ rV n x0 L i j = nI x := fun i j => ⟨_, by have := Nat.mod_lt (lcg x0 (i * n + j + 1) / 65536) (show 0 < L + 1 by omega); omega, rfl⟩
    refine Gd_setT hg hw (fun i j hi hj => ?_)
    show ∃ x, x ≤ 99 ∧ (if sym = true then mV (rV n x0 L) i j else rV n x0 L i j) = nI x
    split
    · unfold mV
      split
      · exact hr i j
      · split
        · exact ⟨0, by omega, rfl⟩
        · exact hr j i
    · exact hr i j
  have hs3 := MI_und hM q2 f3
  have h76 := hold76 hs3
  have hm3 : (wo σ3 78 0 121 (σ3 76)) 76 0 = nI n := by rw [h76 0 (by omega), hg.2.2.1]
  have e3 : σ3 76 0 = nI n := by rw [hs3 0 (by omega), hg.2.2.1]
  obtain ⟨σ4, u1, u2, u3⟩ := m_fill1 (L := L) hm3 h1 hn hw hL hx
  have hA4 : ∀ i j, i < n → j < n → ps σ4 w (6 * i + j) = rV n x0 L i j := fun i j hi hj => by
    have q1 : (6 * i + j) / 6 = i := by omega
    have q2 : (6 * i + j) % 6 = j := by omega
    have := (u3 (6 * i + j) (by omega)).1 (by unfold lx; omega)
    rw [this, q1, q2]
  obtain ⟨σ5, v1, v2, v3, v4⟩ := m_fill2 sym hys (u2.n hm3) hn hw hA4
  have f5 : Fr [76, 78, 80, 81] σ3 σ5 := Fr.tr (Fr.tr fr_hold u2.1 (by decide)) v2.1 (by decide)
  have e5 : EqS (σ5 76) (setT s w n B) := setT_eq hn (fun q hq hh => by rw [v2.2 q hh, u2.2 q hh, h76 q hq]) (fun i j hi hj => v3 i j hi hj) (fun r hr hh => by
    have a1 := v4 r hh
    have a2 := (u3 r hr).2 (fun z => hh ⟨z.1, z.2.1⟩)
    have a3 := h76 (1 + 36 * w + r) (by omega)
    unfold ps at a1 a2
    rw [a1, a2, a3])
  have e78 : EqS (σ5 78) s := fun j hj => by rw [v2.1.at (by decide), u2.1.at (by decide)]; exact hold78 hs3 j hj
  obtain ⟨σ', z1, z2, z3⟩ := J_und hG hM q2 q3 f3 hsn f5 e78 e5 ⟨n, hg'⟩ (sm n fun i => sm n fun j => B i j)
  refine Or.inl ⟨sm n fun i => sm n fun j => B i j, σ3, σ', ?_, ?_, z2, z3⟩
  · rw [tb_yes hw, va_yes hL]
    simp only [obs, Sum.elim_inr]
    rw [if_pos (nI_pos' (by omega)), show 0 + 7 = 7 from rfl, show 0 + 1 = 1 from rfl, q1]
    simp only [obs]
    rw [table_ok hw]
    simp only [obs]
    rw [r1]
    simp only [obs]
    rw [← t1]
    unfold f_X8_fill_J68
    rw [show 0 + 1 = 1 from rfl, c_sumOf c30 hn hw t3]
    rfl
  · show f_X9_fill σ3 75 (nI w) (nI x0) (nI L) y = _
    unfold f_X9_fill
    rw [show f_X9_in (nI w) (0 : Int32) (2 : Int32) = some 1 from in_yes (l := 0) (M := 2) (by omega) hw (by omega), show f_X9_in (nI L) (0 : Int32) (99 : Int32) = some 1 from in_yes (l := 0) (M := 99) (by omega) hL (by omega)]
    simp only [obs]
    rw [if_neg (by decide), if_neg (nI_pos (by omega)), if_neg (by decide), m_hold]
    simp only [obs]
    rw [u1]
    simp only [obs]
    rw [v1]
    simp only [obs]
    rw [z1]
    rfl
