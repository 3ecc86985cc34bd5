-- fixings as sets of locations; sorted rows; entries
def tkS (X : Nat → Int32) : Nat → Nat
  | 0 => 0
  | i + 1 => if X i = -1 then tkS X i else tkS X i ||| 2 ^ ix (X i)
theorem tkS_1 {X : Nat → Int32} {i : Nat} (c : X i = -1) : tkS X (i + 1) = tkS X i := if_pos c
theorem tkS_2 {X : Nat → Int32} {i : Nat} (c : ¬ X i = -1) : tkS X (i + 1) = tkS X i ||| 2 ^ ix (X i) := if_neg c
def Fx (n : Nat) (X : Nat → Int32) : Prop := 1 ≤ n ∧ n ≤ 6 ∧ Pr n X ∧ InjX n X ∧ ∀ i, n ≤ i → i < 6 → X i = -1
theorem bit_or : ∀ s, s < 64 → ∀ l, l < 6 → ∀ k, k < 6 → (s ||| 2 ^ l).testBit k = (s.testBit k || decide (k = l)) := by decide +kernel
theorem tkS_ok {n : Nat} {X : Nat → Int32} (h : Fx n X) : ∀ i, i ≤ 6 → tkS X i < 64 ∧ ∀ l, l < 6 → ((tkS X i).testBit l = true ↔ ∃ j, j < i ∧ X j = nI l)
  | 0, _ => ⟨by show 0 < 64; omega, fun l hl => ⟨fun z => by simp [tkS] at z, fun ⟨j, hj, _⟩ => by omega⟩⟩
  | i + 1, hi => by
    obtain ⟨h1, h2⟩ := tkS_ok h i (by omega)
    unfold tkS
    by_cases c : X i = -1
    · rw [if_pos c]
      refine ⟨h1, fun l hl => ?_⟩
      rw [h2 l hl]
      refine ⟨fun ⟨j, hj, e⟩ => ⟨j, by omega, e⟩, fun ⟨j, hj, e⟩ => ?_⟩
      by_cases cj : j = i
      · rw [cj, c] at e
        exact absurd e.symm (nI_m1 (by omega))
      · exact ⟨j, by omega, e⟩
    · rw [if_neg c]
      have hin : i < n := by
        by_cases q : i < n
        · exact q
        · exact absurd (h.2.2.2.2 i (by omega) (by omega)) c
      obtain ⟨x, hx, ex⟩ := (h.2.2.1 i hin).resolve_left c
      have hn := h.2.1
      rw [ex, ix_nI (by omega)]
      have ob := (or_64 _ h1 x (by omega)).1
      refine ⟨ob, fun l hl => ?_⟩
      rw [bit_or _ h1 x (by omega) l hl, Bool.or_eq_true, h2 l hl, decide_eq_true_eq]
      refine ⟨fun z => ?_, fun ⟨j, hj, e⟩ => ?_⟩
      · rcases z with ⟨j, hj, e⟩ | z
        · exact ⟨j, by omega, e⟩
        · exact ⟨i, by omega, by rw [ex, z]⟩
      · by_cases cj : j = i
        · right
          rw [cj, ex] at e
          exact ((nI_eq (by omega) (by omega)).mp e).symm
        · exact Or.inl ⟨j, by omega, e⟩
/-- the free locations, as a set -/
def FLs (n : Nat) (X : Nat → Int32) : Nat := (2 ^ n - 1) &&& (63 ^^^ tkS X 6)
theorem FL_key : ∀ n, n < 7 → ∀ t, t < 64 → ((((1 : Int32) <<< (nI n &&& 31)) - (1 : Int32)) &&& (nI t ^^^ (-1 : Int32))) = nI ((2 ^ n - 1) &&& (63 ^^^ t)) ∧ (2 ^ n - 1) &&& (63 ^^^ t) < 64 ∧ ∀ l, l < 6 → (((2 ^ n - 1) &&& (63 ^^^ t)).testBit l = (decide (l < n) && !t.testBit l)) := by decide +kernel
def frl (n : Nat) (X : Nat → Int32) (l : Nat) : Bool := (FLs n X).testBit l
theorem FLs_lt {n : Nat} {X : Nat → Int32} (h : Fx n X) : FLs n X < 64 := (FL_key n (by have := h.2.1; omega) (tkS X 6) (tkS_ok h 6 (by omega)).1).2.1
theorem frl_iff {n l : Nat} {X : Nat → Int32} (h : Fx n X) (hl : l < 6) : frl n X l = true ↔ l < n ∧ ∀ j, j < n → ¬ X j = nI l := by
  obtain ⟨h1, h2⟩ := tkS_ok h 6 (by omega)
  have h3 := (FL_key n (by have := h.2.1; omega) (tkS X 6) h1).2.2 l hl
  unfold frl FLs
  rw [h3, Bool.and_eq_true, decide_eq_true_eq, Bool.not_eq_true', ← Bool.not_eq_true, h2 l hl]
  refine ⟨fun ⟨a, b⟩ => ⟨a, fun j hj e => b ⟨j, by have := h.2.1; omega, e⟩⟩, fun ⟨a, b⟩ => ⟨a, fun ⟨j, hj, e⟩ => ?_⟩⟩
  by_cases c : j < n
  · exact b j c e
  · rw [h.2.2.2.2 j (by omega) hj] at e
    exact nI_m1 (by omega) e.symm
theorem c_takenBy {σ : Sg} {n kf : Nat} {X : Nat → Int32} (h : Fx n X) (hk : ln kf = 6) (hv : ∀ i, i < 6 → σ kf i = X i) : f_X8_takenBy σ kf = some (nI (tkS X 6)) := by
  unfold f_X8_takenBy
  have e6 : Int32.ofNat (ln kf) = nI 6 := by rw [hk]; rfl
  rw [lo_run (f := f_X8_takenBy_L10 kf σ) (fun i => (nI (tkS X i), nI i)) (n := 6) (e := nI (tkS X 6)) (s := (0, 0)) (fun i hi => by
    obtain ⟨h1, h2⟩ := tkS_ok h i (by omega)
    unfold f_X8_takenBy_L10 f_X8_takenBy_J35
    simp only
    rw [e6, if_neg (nI_ge hi (by omega)), ald_ok (by omega) (ln_le _), hv i hi]
    simp only [obs]
    by_cases c : X i = -1
    · rw [if_pos c, tkS_1 c, nI_s]
    · rw [if_neg c, tkS_2 c]
      have hin : i < n := by
        by_cases q : i < n
        · exact q
        · exact absurd (h.2.2.2.2 i (by omega) hi) c
      obtain ⟨x, hx, ex⟩ := (h.2.2.1 i hin).resolve_left c
      have hn := h.2.1
      rw [ex, ix_nI (by omega), shl_6 x (by omega), (or_64 _ h1 x (by omega)).2, nI_s]) (by
    unfold f_X8_takenBy_L10
    simp only
    rw [e6, if_pos (nI_le (Nat.le_refl 6) (by omega))]) rfl]
  rfl
-- insertion
def insF (g : Nat → Int32) : Nat → Int32 → Nat → Int32
  | 0, v => upd g 0 v
  | p + 1, v => if g p ≤ v then upd g (p + 1) v else insF (upd g (p + 1) (g p)) p v
theorem insF_hi {v : Int32} : ∀ (p : Nat) (g : Nat → Int32) (t : Nat), p < t → insF g p v t = g t
  | 0, g, t, h => pk_un (by omega)
  | p + 1, g, t, h => by
    unfold insF
    split
    · exact pk_un (by omega)
    · rw [insF_hi p _ t (by omega), pk_un (by omega)]
theorem insF_cong {v : Int32} : ∀ (p : Nat) (g g' : Nat → Int32), (∀ t, t < p → g t = g' t) → ∀ t, t < p + 1 → insF g p v t = insF g' p v t
  | 0, g, g', _, t, ht => by
    have : t = 0 := by omega
    subst this
    show upd g 0 v 0 = upd g' 0 v 0
    rw [pk_us, pk_us]
  | p + 1, g, g', h, t, ht => by
    unfold insF
    rw [h p (by omega)]
    split
    · by_cases c : t = p + 1
      · rw [c, pk_us, pk_us]
      · rw [pk_un c, pk_un c]
        exact h t (by omega)
    · by_cases c : t = p + 1
      · rw [c, insF_hi p _ _ (by omega), insF_hi p _ _ (by omega), pk_us, pk_us]
      · exact insF_cong p _ _ (fun q hq => by rw [pk_un (by omega), pk_un (by omega)]; exact h q (by omega)) t (by omega)
def cS (g u : Nat → Int32) : Nat → Nat → Int32
  | 0 => g
  | a + 1 => insF (cS g u a) a (u a)
theorem cS_cong {u u' : Nat → Int32} {g g' : Nat → Int32} : ∀ c, (∀ a, a < c → u a = u' a) → ∀ t, t < c → cS g u c t = cS g' u' c t
  | 0, _, t, ht => by omega
  | c + 1, h, t, ht => by
    unfold cS
    rw [h c (by omega)]
    exact insF_cong c _ _ (fun q hq => cS_cong c (fun a ha => h a (by omega)) q hq) t ht
theorem cS_hi {u g : Nat → Int32} : ∀ c t, c ≤ t → cS g u c t = g t
  | 0, t, _ => rfl
  | c + 1, t, h => by
    unfold cS
    rw [insF_hi c _ t (by omega), cS_hi c t (by omega)]
def Srt (u : Nat → Int32) (c : Nat) : Nat → Int32 := cS (fun _ => 0) u c
/-- the values of the others, in order -/
def gat (P : Nat → Bool) (h : Nat → Int32) : Nat → Nat × (Nat → Int32)
  | 0 => (0, fun _ => 0)
  | j + 1 => if P j = true then ((gat P h j).1 + 1, upd (gat P h j).2 (gat P h j).1 (h j)) else gat P h j
theorem gat_le {P : Nat → Bool} {h : Nat → Int32} : ∀ j, (gat P h j).1 ≤ j
  | 0 => Nat.le_refl 0
  | j + 1 => by
    have := gat_le (P := P) (h := h) j
    unfold gat
    split
    · show (gat P h j).1 + 1 ≤ _; omega
    · omega
theorem gat_cong {P P' : Nat → Bool} {h h' : Nat → Int32} : ∀ j, (∀ i, i < j → P i = P' i ∧ (P i = true → h i = h' i)) → gat P h j = gat P' h' j
  | 0, _ => rfl
  | j + 1, hh => by
    unfold gat
    obtain ⟨h1, h2⟩ := hh j (by omega)
    rw [gat_cong j (fun i hi => hh i (by omega)), ← h1]
    by_cases c : P j = true
    · rw [if_pos c, if_pos c, h2 c]
    · rw [if_neg c, if_neg c]
-- the class: a row of the sorted table
def rowF (σ : Sg) (k row : Nat) : Nat → Int32 := fun t => σ k (6 * row + t)
theorem rowF_si {σ : Sg} {k row t : Nat} {x : Int32} : rowF (si σ k (6 * row + t) x) k row = upd (rowF σ k row) t x := by
  funext q
  unfold rowF
  rw [si_self]
  unfold upd
  by_cases c : q = t
  · rw [if_pos c, if_pos (by omega)]
  · rw [if_neg c, if_neg (by omega)]
/-- only row `row` of k changes -/
def Rk (k row : Nat) (σ σ' : Sg) : Prop := Fr [k] σ σ' ∧ ∀ q, (q < 6 * row ∨ 6 * row + 6 ≤ q) → σ' k q = σ k q
theorem Rk.rf {k row : Nat} {σ : Sg} : Rk k row σ σ := ⟨Fr.rf, fun _ _ => rfl⟩
theorem Rk.tr {k row : Nat} {σ σ1 σ2 : Sg} (h : Rk k row σ σ1) (h2 : Rk k row σ1 σ2) : Rk k row σ σ2 := ⟨h.1.tr h2.1 (fun q hq => hq), fun q hq => (h2.2 q hq).trans (h.2 q hq)⟩
theorem Rk.si {k row t : Nat} {σ σ1 : Sg} {x : Int32} (h : Rk k row σ σ1) (ht : t < 6) : Rk k row σ (si σ1 k (6 * row + t) x) := ⟨h.1.si (List.mem_singleton.mpr rfl), fun q hq => by rw [si_miss (by omega)]; exact h.2 q hq⟩
theorem c_ins {k row : Nat} {v : Int32} (hk : ln k = 36) (hr : row < 6) : ∀ (p : Nat) (σ : Sg), p < 6 → ∃ p' σ', lo (f_X1_sortRow_L55 k (nI row) v) (nI p, σ) = some (nI p', σ') ∧ p' ≤ p ∧ Rk k row σ σ' ∧ upd (rowF σ' k row) p' v = insF (rowF σ k row) p v
  | 0, σ, _ => ⟨0, σ, lo_inr (by unfold f_X1_sortRow_L55; exact if_pos (show nI 0 ≤ (0 : Int32) by decide)), Nat.le_refl 0, Rk.rf, rfl⟩
  | p + 1, σ, hp => by
    have st : f_X1_sortRow_L55 k (nI row) v (nI (p + 1), σ) = if rowF σ k row p ≤ v then some (.inr (nI (p + 1), σ)) else some (.inl (nI p, si σ k (6 * row + (p + 1)) (rowF σ k row p))) := by
      unfold f_X1_sortRow_L55
      simp only
      rw [if_neg (nI_nle (by omega) (by omega)), nI_pred, at_ok (by omega) (ln_le _)]
      simp only [obs]
      rw [put_ok (by omega) (ln_le _)]
      simp only [obs]
      rw [show nI (p + 1) + (-1) = nI p from pk_m1 p]
      rfl
    unfold insF
    by_cases c : rowF σ k row p ≤ v
    · rw [if_pos c] at st ⊢
      exact ⟨p + 1, σ, lo_inr st, Nat.le_refl _, Rk.rf, rfl⟩
    · rw [if_neg c] at st ⊢
      obtain ⟨p', σ', h1, h2, h3, h4⟩ := c_ins (v := v) hk hr p (si σ k (6 * row + (p + 1)) (rowF σ k row p)) (by omega)
      rw [rowF_si] at h4
      exact ⟨p', σ', by rw [lo_inl st, h1], by omega, (Rk.rf.si (by omega)).tr h3, h4⟩
theorem c_sortRow {σ : Sg} {kb kt ks n row : Nat} {M : Nat} {V : Nat → Nat → Int32} (hM : M < 64) (hn : n ≤ 6) (hr : row < n) (h2 : σ kb 2 = nI n) (hkt : ln kt = 36) (hks : ln ks = 36) (hd : ks ≠ kb ∧ ks ≠ kt) (hV : ∀ j, j < n → σ kt (6 * row + j) = V row j) (hb : M.testBit row = true) : ∃ σ', f_X1_sortRow σ kb kt (nI row) (nI M) ks = some σ' ∧ Rk ks row σ σ' ∧ ∀ t, t < (gat (fun j => decide (j ≠ row) && M.testBit j) (V row) n).1 → rowF σ' ks row t = Srt (gat (fun j => decide (j ≠ row) && M.testBit j) (V row) n).2 (gat (fun j => decide (j ≠ row) && M.testBit j) (V row) n).1 t := by
  generalize hP : (fun j => decide (j ≠ row) && M.testBit j) = P
  unfold f_X1_sortRow
  rw [has_ok hM (by omega), if_pos hb]
  simp only [obs]
  rw [if_neg (by decide)]
  have gstep : ∀ j, gat P (V row) (j + 1) = if P j = true then ((gat P (V row) j).1 + 1, upd (gat P (V row) j).2 (gat P (V row) j).1 (V row j)) else gat P (V row) j := fun j => rfl
  obtain ⟨e, h3, h4, h5⟩ := lo_tc (f := f_X1_sortRow_L15 kb (nI row) (nI M) kt ks) (fun j s => s.1 = nI (gat P (V row) j).1 ∧ s.2.1 = nI j ∧ Rk ks row σ s.2.2 ∧ rowF s.2.2 ks row = cS (rowF σ ks row) (gat P (V row) j).2 (gat P (V row) j).1) n (fun e => Rk ks row σ e ∧ rowF e ks row = cS (rowF σ ks row) (gat P (V row) n).2 (gat P (V row) n).1) (fun j s hj ⟨e1, e2, e3, e4⟩ => by
    obtain ⟨c, j', σ2⟩ := s
    simp only at e1 e2 e3 e4
    subst e1 e2
    have en : σ2 kb 2 = nI n := by rw [e3.1.at (fun z => hd.1 (List.mem_singleton.mp z).symm), h2]
    have ev : σ2 kt (6 * row + j) = V row j := by rw [e3.1.at (fun z => hd.2 (List.mem_singleton.mp z).symm), hV j hj]
    have hg := gat_le (P := P) (h := V row) j
    have skip : P j = false → ∃ s', f_X1_sortRow_J112 (nI (gat P (V row) j).1) (nI j) σ2 = some (.inl s') ∧ s'.1 = nI (gat P (V row) (j + 1)).1 ∧ s'.2.1 = nI (j + 1) ∧ Rk ks row σ s'.2.2 ∧ rowF s'.2.2 ks row = cS (rowF σ ks row) (gat P (V row) (j + 1)).2 (gat P (V row) (j + 1)).1 := fun hp => by
      rw [gstep, if_neg (by rw [hp]; decide)]
      exact ⟨_, rfl, rfl, nI_s j, e3, e4⟩
    unfold f_X1_sortRow_L15
    simp only
    rw [en, if_neg (nI_ge hj (by omega))]
    by_cases c1 : j = row
    · rw [if_pos (by rw [c1])]
      exact skip (by rw [← hP]; simp [c1])
    · rw [if_neg (fun z => c1 ((nI_eq (by omega) (by omega)).mp z)), has_ok hM (by omega)]
      by_cases c2 : M.testBit j = true
      · have hp : P j = true := by rw [← hP]; simp [c1, c2]
        rw [if_pos c2]
        simp only [obs]
        rw [if_neg (by decide), at_ok (by omega) (ln_le _)]
        simp only [obs]
        rw [ev]
        obtain ⟨p', σ3, i1, i2, i3, i4⟩ := c_ins (v := V row j) hks (show row < 6 by omega) (gat P (V row) j).1 σ2 (by omega)
        rw [i1]
        simp only [obs]
        rw [put_ok (by omega) (ln_le _)]
        simp only [obs]
        rw [gstep, if_pos hp]
        refine ⟨_, rfl, nI_s _, nI_s j, (e3.tr i3).si (by omega), ?_⟩
        show rowF (si σ3 ks (6 * row + p') (V row j)) ks row = insF (cS (rowF σ ks row) (upd (gat P (V row) j).2 (gat P (V row) j).1 (V row j)) (gat P (V row) j).1) (gat P (V row) j).1 (upd (gat P (V row) j).2 (gat P (V row) j).1 (V row j) (gat P (V row) j).1)
        rw [rowF_si, i4, e4, pk_us]
        have hcs : ∀ c, c ≤ (gat P (V row) j).1 → cS (rowF σ ks row) (upd (gat P (V row) j).2 (gat P (V row) j).1 (V row j)) c = cS (rowF σ ks row) (gat P (V row) j).2 c := by
          intro c
          induction c with
          | zero => exact fun _ => rfl
          | succ c ih =>
            intro hc
            unfold cS
            rw [ih (by omega), pk_un (by omega)]
        rw [hcs _ (Nat.le_refl _)]
      · rw [if_neg c2]
        simp only [obs]
        rw [if_pos trivial]
        exact skip (by rw [← hP]; simp [c2])) (fun s ⟨e1, e2, e3, e4⟩ => by
    obtain ⟨c, j', σ2⟩ := s
    simp only at e1 e2 e3 e4
    subst e1 e2
    have en : σ2 kb 2 = nI n := by rw [e3.1.at (fun z => hd.1 (List.mem_singleton.mp z).symm), h2]
    unfold f_X1_sortRow_L15
    simp only
    rw [en, if_pos (nI_le (Nat.le_refl n) (by omega))]
    exact ⟨_, rfl, e3, e4⟩) (s := (0, 0, σ)) ⟨rfl, rfl, Rk.rf, rfl⟩
  rw [h3]
  refine ⟨e, rfl, h4, fun t ht => ?_⟩
  rw [h5]
  exact cS_cong _ (fun _ _ => rfl) t ht
theorem c_sortRow_no {σ : Sg} {kb kt ks n row : Nat} {M : Nat} (hM : M < 64) (hr : row < 6) (hb : ¬ M.testBit row = true) : f_X1_sortRow σ kb kt (nI row) (nI M) ks = some σ := by
  unfold f_X1_sortRow
  rw [has_ok hM hr, if_neg hb]
  rfl
-- the entry
def linS (n : Nat) (F D C : Nat → Nat → Int32) (X : Nat → Int32) (i k : Nat) : Int32 := C i k + F i i * D k k + sm n (fun j => if X j = -1 then 0 else F i j * D k (ix (X j)) + F j i * D (ix (X j)) k)
def fG (n : Nat) (F : Nat → Nat → Int32) (X : Nat → Int32) (i : Nat) : Nat × (Nat → Int32) := gat (fun j => decide (j ≠ i) && decide (X j = -1)) (F i) n
def dG (n : Nat) (D : Nat → Nat → Int32) (X : Nat → Int32) (k : Nat) : Nat × (Nat → Int32) := gat (fun l => decide (l ≠ k) && frl n X l) (D k) n
def lpS (n : Nat) (F D : Nat → Nat → Int32) (X : Nat → Int32) (i k : Nat) : Int32 := sm (fG n F X i).1 (fun a => Srt (fG n F X i).2 (fG n F X i).1 a * Srt (dG n D X k).2 (dG n D X k).1 ((fG n F X i).1 - 1 - a))
def enS (n : Nat) (F D C : Nat → Nat → Int32) (X : Nat → Int32) (i k : Nat) : Int32 := linS n F D C X i k + lpS n F D X i k
-- counts
def cnt (P : Nat → Bool) : Nat → Nat
  | 0 => 0
  | j + 1 => cnt P j + if P j = true then 1 else 0
theorem gat_cnt {P : Nat → Bool} {h : Nat → Int32} : ∀ j, (gat P h j).1 = cnt P j
  | 0 => rfl
  | j + 1 => by
    unfold gat cnt
    rw [← gat_cnt (P := P) (h := h) j]
    split
    · rfl
    · rfl
theorem cnt_oneQ {P Q : Nat → Bool} {i : Nat} (h1 : Q i = false) (h2 : ∀ q, q ≠ i → Q q = P q) : ∀ j, cnt Q j + (if i < j ∧ P i = true then 1 else 0) = cnt P j
  | 0 => by
    rw [if_neg (by omega)]
    rfl
  | j + 1 => by
    have ih := cnt_oneQ h1 h2 j
    unfold cnt
    by_cases c : j = i
    · subst c
      rw [if_neg (show ¬ (j < j ∧ P j = true) by omega)] at ih
      rw [if_neg (show ¬ Q j = true by rw [h1]; decide)]
      by_cases cp : P j = true
      · rw [if_pos (show j < j + 1 ∧ P j = true from ⟨by omega, cp⟩), if_pos cp]
        omega
      · rw [if_neg (show ¬ (j < j + 1 ∧ P j = true) from fun z => cp z.2), if_neg cp]
        omega
    · rw [h2 j c]
      have e2 : (i < j + 1 ∧ P i = true) ↔ (i < j ∧ P i = true) := ⟨fun z => ⟨by omega, z.2⟩, fun z => ⟨by omega, z.2⟩⟩
      simp only [e2]
      omega
theorem cnt_one {P : Nat → Bool} {i : Nat} (j : Nat) : cnt (fun q => decide (q ≠ i) && P q) j + (if i < j ∧ P i = true then 1 else 0) = cnt P j := cnt_oneQ (by simp) (fun q hq => by simp [hq]) j
def pc (s : Nat) : Nat := cnt (fun k => s.testBit k) 6
theorem pc_or : ∀ s, s < 64 → ∀ k, k < 6 → s.testBit k = false → pc (s ||| 2 ^ k) = pc s + 1 := by decide +kernel
theorem pc_FL : ∀ n, n < 7 → ∀ t, t < 64 → (∀ l, l < 6 → t.testBit l = true → l < n) → pc ((2 ^ n - 1) &&& (63 ^^^ t)) + pc t = n := by decide +kernel
def frf (X : Nat → Int32) (i : Nat) : Bool := decide (X i = -1)
theorem frf_cnt {n : Nat} {X : Nat → Int32} (h : Fx n X) : ∀ i, i ≤ n → cnt (frf X) i + pc (tkS X i) = i
  | 0, _ => by
    show 0 + pc 0 = 0
    decide +kernel
  | i + 1, hi => by
    have ih := frf_cnt h i (by omega)
    have hn := h.2.1
    unfold cnt tkS
    by_cases c : X i = -1
    · have e : frf X i = true := decide_eq_true c
      rw [if_pos c, if_pos e]
      omega
    · have e : ¬ frf X i = true := fun z => c (of_decide_eq_true z)
      rw [if_neg c, if_neg e]
      obtain ⟨x, hx, ex⟩ := (h.2.2.1 i (by omega)).resolve_left c
      obtain ⟨h1, h2⟩ := tkS_ok h i (by omega)
      rw [ex, ix_nI (by omega), pc_or _ h1 x (by omega) ?_]
      · omega
      · rw [← Bool.not_eq_true, h2 x (by omega)]
        intro ⟨j, hj, ej⟩
        have := h.2.2.2.1 j i (by omega) (by omega) (by rw [ej]; exact nI_m1 (by omega)) (by rw [ej, ex])
        omega
theorem tkS_ext {n : Nat} {X : Nat → Int32} (h : Fx n X) : ∀ i, n ≤ i → i ≤ 6 → tkS X i = tkS X n := by
  intro i
  induction i with
  | zero => intro h1 _; rw [show n = 0 by omega]
  | succ i ih =>
    intro h1 h2
    by_cases c : n = i + 1
    · rw [c]
    · rw [← ih (by omega) (by omega)]
      show (if X i = -1 then tkS X i else _) = _
      rw [if_pos (h.2.2.2.2 i (by omega) (by omega))]
/-- as many free locations as free facilities -/
theorem free_eq {n : Nat} {X : Nat → Int32} (h : Fx n X) : pc (FLs n X) = cnt (frf X) n := by
  have h1 := frf_cnt h n (Nat.le_refl n)
  have hn := h.2.1
  obtain ⟨t1, t2⟩ := tkS_ok h 6 (by omega)
  have h2 := pc_FL n (by omega) (tkS X 6) t1 (fun l hl z => by
    obtain ⟨j, hj, e⟩ := (t2 l hl).mp z
    by_cases c : j < n
    · obtain ⟨y, hy, ey⟩ := (h.2.2.1 j c).resolve_left (by rw [e]; exact nI_m1 (by omega))
      rw [e] at ey
      have := (nI_eq (by omega) (by omega)).mp ey
      omega
    · rw [h.2.2.2.2 j (by omega) hj] at e
      exact absurd e.symm (nI_m1 (by omega)))
  rw [tkS_ext h 6 hn (Nat.le_refl 6)] at h2
  unfold FLs
  rw [tkS_ext h 6 hn (Nat.le_refl 6)]
  omega
theorem cnt_ext {P Q : Nat → Bool} : ∀ j, (∀ i, i < j → P i = Q i) → cnt P j = cnt Q j
  | 0, _ => rfl
  | j + 1, h => by
    unfold cnt
    rw [cnt_ext j (fun i hi => h i (by omega)), h j (by omega)]
theorem cnt_n6 {n : Nat} {P : Nat → Bool} (h : ∀ i, n ≤ i → P i = false) : ∀ m, n ≤ m → cnt P m = cnt P n := by
  intro m
  induction m with
  | zero => intro h1; rw [show n = 0 by omega]
  | succ m ih =>
    intro h1
    by_cases c : n = m + 1
    · rw [c]
    · show cnt P m + _ = _
      rw [ih (by omega), if_neg (by rw [h m (by omega)]; decide)]
      omega
theorem pc_n {n : Nat} {X : Nat → Int32} (h : Fx n X) : pc (FLs n X) = cnt (frl n X) n := by
  have hn := h.2.1
  have e : pc (FLs n X) = cnt (fun k => (FLs n X).testBit k) 6 := rfl
  rw [e]
  have key : ∀ m, n ≤ m → m ≤ 6 → cnt (fun k => (FLs n X).testBit k) m = cnt (fun k => (FLs n X).testBit k) n := by
    intro m
    induction m with
    | zero => intro h1 _; rw [show n = 0 by omega]
    | succ m ih =>
      intro h1 h2
      by_cases c : n = m + 1
      · rw [c]
      · show cnt _ m + _ = _
        rw [ih (by omega) (by omega), if_neg (fun z => by have := ((frl_iff h (show m < 6 by omega)).mp z).1; omega)]
        omega
  rw [key 6 hn (Nat.le_refl 6)]
  rfl
/-- how many others there are -/
theorem fG_cnt {n i : Nat} {F : Nat → Nat → Int32} {X : Nat → Int32} (h : Fx n X) (hi : i < n) (hx : X i = -1) : (fG n F X i).1 + 1 = cnt (frf X) n := by
  unfold fG
  rw [gat_cnt]
  have := cnt_one (P := frf X) (i := i) n
  rw [if_pos ⟨hi, decide_eq_true hx⟩] at this
  exact this
theorem dG_cnt {n k : Nat} {D : Nat → Nat → Int32} {X : Nat → Int32} (h : Fx n X) (hk : k < n) (hx : frl n X k = true) : (dG n D X k).1 + 1 = cnt (frf X) n := by
  unfold dG
  rw [gat_cnt, ← free_eq h, pc_n h]
  have := cnt_one (P := frl n X) (i := k) n
  rw [if_pos ⟨hk, hx⟩] at this
  exact this
