-- the model's walks
theorem itr_sm {f : Nat → Int32} (T : Nat) (a : Int32) : itr (fun t a => a + f t) T a = a + sm T f := by
  induction T with
  | zero => simp only [itr, sm]; grind
  | succ T ih => simp only [itr, sm]; rw [ih]; grind
theorem Fr.at {W : List Nat} {σ σ' : Sg} (h : Fr W σ σ') {q : Nat} (hq : q ∉ W) : σ' q = σ q := h q hq
theorem tb_fr {σ σ' : Sg} {k o : Nat} (h : σ' k = σ k) : tb σ' k o = tb σ k o := by unfold tb; rw [h]
theorem vec_fr {σ σ' : Sg} {k o : Nat} (h : σ' k = σ k) : vec σ' k o = vec σ k o := by unfold vec; rw [h]
theorem m_ag {σ0 σ : Sg} {n t : Nat} (h0 : σ0 76 0 = nI n) (hn : n ≤ 6) (hF : Fr [80] σ0 σ) (hA : Asg σ 80 n t) : f_X9_agrees σ 75 = some (if agQ n (vec σ0 76 115) t then 1 else 0) := by
  have h76 : σ 76 = σ0 76 := hF.at (by decide)
  rw [m_agrees (by rw [h76]; exact h0) hn, vec_fr h76, agS_cong (hA.vec hn)]
  rfl
theorem m_co {σ0 σ : Sg} {n t : Nat} (h0 : σ0 76 0 = nI n) (hn : n ≤ 6) (hF : Fr [80] σ0 σ) (ht : t < fac n) (hA : Asg σ 80 n t) : f_X9_costOf σ 75 = some (coQ n (tb σ0 76 1) (tb σ0 76 37) (tb σ0 76 73) t) := by
  have h76 : σ 76 = σ0 76 := hF.at (by decide)
  rw [m_costOf (by rw [h76]; exact h0) hn (Pt.cong (hA.vec hn) (aV_pt hn ht)), tb_fr h76, tb_fr h76, tb_fr h76, costS_cong (hA.vec hn)]
  rfl
theorem m_loc {σ0 σ : Sg} {n t : Nat} (h0 : σ0 76 0 = nI n) (hn : n ≤ 6) (hF : Fr [80] σ0 σ) (ht : t < fac n) (hA : Asg σ 80 n t) : f_X9_isLocal σ 75 = some (if loQ n (tb σ0 76 1) (tb σ0 76 37) (tb σ0 76 73) (vec σ0 76 115) t then 1 else 0, σ) := by
  have h76 : σ 76 = σ0 76 := hF.at (by decide)
  rw [m_isLocal (by rw [h76]; exact h0) hn (Pt.cong (hA.vec hn) (aV_pt hn ht)), tb_fr h76, tb_fr h76, tb_fr h76, vec_fr h76]
  unfold loQ
  rw [locB_cong hn (fun i j hi hj => gS_cong (hA.vec hn) hi hj)]
def wiQ (n : Nat) (F D C : Nat → Nat → Int32) (X : Nat → Int32) (lim : Int32) (T : Nat) : Int32 := sm T fun t => if agQ n X t = true ∧ ¬ lim < coQ n F D C t then 1 else 0
theorem m_within {σ : Sg} {n : Nat} (h0 : σ 76 0 = nI n) (h1 : 1 ≤ n) (hn : n ≤ 6) (lim : Int32) : ∃ σ', f_X9_within σ 75 lim = some (wiQ n (tb σ 76 1) (tb σ 76 37) (tb σ 76 73) (vec σ 76 115) lim (fac n), si σ' 75 6 0) ∧ Fr [80] σ σ' := by
  unfold f_X9_within
  obtain ⟨σ1, q1, q2, -, q3⟩ := m_firsts (σ := σ) hn
  rw [q1]
  simp only [Option.bind_some]
  obtain ⟨σ', r1, r2⟩ := en_ok (f := f_X9_within_L8 75 lim) (n := n) (σ0 := σ) (fun a m σ => (a, m, σ)) (fun a σ => (a, σ)) (fun t a => a + (if agQ n (vec σ 76 115) t = true ∧ ¬ lim < coQ n (tb σ 76 1) (tb σ 76 37) (tb σ 76 73) t then 1 else 0)) h0 h1 hn (fun a σ => rfl) (fun a σ2 t r σ3 hF hA ht hg => by
    unfold f_X9_within_L8
    simp only
    rw [if_neg (by decide), m_ag h0 hn hF hA]
    simp only [Option.bind_some]
    by_cases c : agQ n (vec σ 76 115) t = true
    · rw [if_pos c, if_neg (by decide), m_co h0 hn hF ht hA]
      simp only [Option.bind_some]
      by_cases c2 : lim < coQ n (tb σ 76 1) (tb σ 76 37) (tb σ 76 73) t
      · rw [if_pos c2, if_neg (fun z => z.2 c2)]
        unfold f_X9_within_J32 f_X9_within_J33
        rw [hg]
        rfl
      · rw [if_neg c2, if_pos ⟨c, c2⟩]
        unfold f_X9_within_J33
        rw [hg]
        rfl
    · rw [if_neg c, if_pos rfl, if_neg (fun z => c z.1)]
      unfold f_X9_within_J32 f_X9_within_J33
      rw [hg]
      rfl) (a := 0) q2 q3
  rw [r1, itr_sm]
  simp only [Option.bind_some]
  refine ⟨σ', ?_, r2⟩
  unfold f_X9_tells wiQ
  simp only [Option.bind_some]
  rw [show ∀ x : Int32, 0 + x = x from fun x => by grind]
def lsQ (n : Nat) (F D C : Nat → Nat → Int32) (X : Nat → Int32) : Nat → Int32
  | 0 => 1000000
  | t + 1 => mn (lsQ n F D C X t) (if agQ n X t then coQ n F D C t else 1000000)
theorem itr_ls {n : Nat} {F D C : Nat → Nat → Int32} {X : Nat → Int32} (T : Nat) : itr (fun t a => mn a (if agQ n X t then coQ n F D C t else 1000000)) T 1000000 = lsQ n F D C X T := by
  induction T with
  | zero => rfl
  | succ T ih => simp only [itr, lsQ]; rw [ih]
theorem mn_le {x y : Int32} : (if x ≤ y then x else y) = mn x y := by
  unfold mn
  grind
theorem m_least {σ : Sg} {n : Nat} (h0 : σ 76 0 = nI n) (h1 : 1 ≤ n) (hn : n ≤ 6) : ∃ σ', f_X9_least σ 75 = some (lsQ n (tb σ 76 1) (tb σ 76 37) (tb σ 76 73) (vec σ 76 115) (fac n), σ') ∧ Fr [80] σ σ' := by
  unfold f_X9_least
  obtain ⟨σ1, q1, q2, -, q3⟩ := m_firsts (σ := σ) hn
  rw [q1]
  simp only [Option.bind_some]
  obtain ⟨σ', r1, r2⟩ := en_ok (f := f_X9_least_L9 75) (n := n) (σ0 := σ) (fun a m σ => (a, m, σ)) (fun a σ => (a, σ)) (fun t a => mn a (if agQ n (vec σ 76 115) t then coQ n (tb σ 76 1) (tb σ 76 37) (tb σ 76 73) t else 1000000)) h0 h1 hn (fun a σ => rfl) (fun a σ2 t r σ3 hF hA ht hg => by
    have hJ : ∀ y, f_X9_least_J29 75 a y σ2 = some (.inl (mn a y, r, σ3)) := fun y => by
      unfold f_X9_least_J29 f_X9_least_J40
      rw [hg, ← mn_le]
      simp only [Option.bind_some]
      split <;> rfl
    unfold f_X9_least_L9
    simp only
    rw [if_neg (by decide), m_ag h0 hn hF hA]
    simp only [Option.bind_some]
    by_cases c : agQ n (vec σ 76 115) t = true
    · rw [if_pos c, if_neg (by decide), m_co h0 hn hF ht hA]
      simp only [Option.bind_some, c, if_true]
      exact hJ _
    · rw [if_neg c, if_pos rfl, if_neg c]
      exact hJ _) (a := 1000000) q2 q3
  rw [r1, itr_ls]
  exact ⟨σ', rfl, r2⟩
def suQ (n : Nat) (F D C : Nat → Nat → Int32) (X : Nat → Int32) (T : Nat) : Int32 := sm T fun t => if agQ n X t then coQ n F D C t else 0
def cnQ (n : Nat) (X : Nat → Int32) (T : Nat) : Int32 := sm T fun t => if agQ n X t then 1 else 0
theorem itr_two {f g : Nat → Int32} (T : Nat) (a b : Int32) : itr (fun t (a : Int32 × Int32) => (a.1 + f t, a.2 + g t)) T (a, b) = (a + sm T f, b + sm T g) := by
  induction T with
  | zero => simp only [itr, sm, Int32.add_zero]
  | succ T ih => simp only [itr, sm]; rw [ih]; simp only [Int32.add_assoc]
theorem m_meanL {σ : Sg} {n : Nat} (h0 : σ 76 0 = nI n) (h1 : 1 ≤ n) (hn : n ≤ 6) {σ1 : Sg} (q2 : Fr [80] σ σ1) (q3 : Asg σ1 80 n 0) : ∃ σ', lo (f_X9_mean_L26 75) ((0 : Int32), (0 : Int32), (1 : Int32), σ1) = some (suQ n (tb σ 76 1) (tb σ 76 37) (tb σ 76 73) (vec σ 76 115) (fac n), cnQ n (vec σ 76 115) (fac n), σ') ∧ Fr [80] σ σ' := by
  obtain ⟨σ', r1, r2⟩ := en_ok (f := f_X9_mean_L26 75) (n := n) (σ0 := σ) (fun a m σ => (a.1, a.2, m, σ)) (fun a σ => (a.1, a.2, σ)) (fun t (a : Int32 × Int32) => (a.1 + (if agQ n (vec σ 76 115) t then coQ n (tb σ 76 1) (tb σ 76 37) (tb σ 76 73) t else 0), a.2 + (if agQ n (vec σ 76 115) t then 1 else 0))) h0 h1 hn (fun a σ => rfl) (fun a σ2 t r σ3 hF hA ht hg => by
    unfold f_X9_mean_L26
    simp only
    rw [if_neg (by decide), m_ag h0 hn hF hA]
    simp only [Option.bind_some]
    by_cases c : agQ n (vec σ 76 115) t = true
    · simp only [c, if_true]
      rw [if_neg (by decide), m_co h0 hn hF ht hA]
      simp only [Option.bind_some]
      unfold f_X9_mean_J51 f_X9_mean_J64
      rw [if_neg (by decide), hg]
      rfl
    · simp only [c]
      rw [if_pos (by decide)]
      unfold f_X9_mean_J51 f_X9_mean_J64
      rw [if_pos (by decide), hg]
      rfl) (a := (0, 0)) q2 q3
  refine ⟨σ', ?_, r2⟩
  rw [r1, itr_two]
  unfold suQ cnQ
  rw [show ∀ x : Int32, 0 + x = x from fun x => by grind, show ∀ x : Int32, 0 + x = x from fun x => by grind]
def lcQ (n : Nat) (F D C : Nat → Nat → Int32) (X : Nat → Int32) (T : Nat) : Int32 := sm T fun t => if agQ n X t = true ∧ loQ n F D C X t = true then 1 else 0
theorem m_localOptima {σ : Sg} {n : Nat} (h0 : σ 76 0 = nI n) (h1 : 1 ≤ n) (hn : n ≤ 6) : ∃ σ', f_X9_localOptima σ 75 = some (lcQ n (tb σ 76 1) (tb σ 76 37) (tb σ 76 73) (vec σ 76 115) (fac n), si σ' 75 6 0) ∧ Fr [80] σ σ' := by
  unfold f_X9_localOptima
  obtain ⟨σ1, q1, q2, -, q3⟩ := m_firsts (σ := σ) hn
  rw [q1]
  simp only [Option.bind_some]
  obtain ⟨σ', r1, r2⟩ := en_ok (f := f_X9_localOptima_L8 75) (n := n) (σ0 := σ) (fun a m σ => (a, m, σ)) (fun a σ => (a, σ)) (fun t a => a + (if agQ n (vec σ 76 115) t = true ∧ loQ n (tb σ 76 1) (tb σ 76 37) (tb σ 76 73) (vec σ 76 115) t = true then 1 else 0)) h0 h1 hn (fun a σ => rfl) (fun a σ2 t r σ3 hF hA ht hg => by
    unfold f_X9_localOptima_L8
    simp only
    rw [if_neg (by decide), m_ag h0 hn hF hA]
    simp only [Option.bind_some]
    by_cases c : agQ n (vec σ 76 115) t = true
    · rw [if_pos c, if_neg (by decide), m_loc h0 hn hF ht hA]
      simp only [Option.bind_some]
      by_cases c2 : loQ n (tb σ 76 1) (tb σ 76 37) (tb σ 76 73) (vec σ 76 115) t = true
      · rw [if_pos c2, if_neg (by decide), if_pos ⟨c, c2⟩]
        unfold f_X9_localOptima_J32
        rw [hg]
        rfl
      · rw [if_neg c2, if_pos rfl, if_neg (fun z => c2 z.2)]
        unfold f_X9_localOptima_J31 f_X9_localOptima_J32
        rw [hg]
        rfl
    · rw [if_neg c, if_pos rfl, if_neg (fun z => c z.1)]
      unfold f_X9_localOptima_J31 f_X9_localOptima_J32
      rw [hg]
      rfl) (a := 0) q2 q3
  rw [r1, itr_sm]
  simp only [Option.bind_some]
  refine ⟨σ', ?_, r2⟩
  unfold f_X9_tells lcQ
  simp only [Option.bind_some]
  rw [show ∀ x : Int32, 0 + x = x from fun x => by grind]
def opQ (n : Nat) (F D C : Nat → Nat → Int32) (X : Nat → Int32) (ls k : Int32) : Nat → Int32 × Int32
  | 0 => (0, -1)
  | t + 1 => let s := opQ n F D C X ls k t; if agQ n X t = true ∧ coQ n F D C t = ls then (s.1 + 1, if s.1 = k then nI t else s.2) else s
theorem m_optimumAt {σ : Sg} {n : Nat} (h0 : σ 76 0 = nI n) (h1 : 1 ≤ n) (hn : n ≤ 6) (k : Int32) : ∃ σ', f_X9_optimumAt σ 75 k = some ((if 0 ≤ k then (opQ n (tb σ 76 1) (tb σ 76 37) (tb σ 76 73) (vec σ 76 115) (lsQ n (tb σ 76 1) (tb σ 76 37) (tb σ 76 73) (vec σ 76 115) (fac n)) k (fac n)).2 else (opQ n (tb σ 76 1) (tb σ 76 37) (tb σ 76 73) (vec σ 76 115) (lsQ n (tb σ 76 1) (tb σ 76 37) (tb σ 76 73) (vec σ 76 115) (fac n)) k (fac n)).1), σ') ∧ Fr [80] σ σ' := by
  unfold f_X9_optimumAt
  obtain ⟨σ5, p1, p2⟩ := m_least h0 h1 hn
  rw [p1]
  simp only [Option.bind_some]
  generalize lsQ n (tb σ 76 1) (tb σ 76 37) (tb σ 76 73) (vec σ 76 115) (fac n) = ls
  obtain ⟨σ1, q1, q2, -, q3⟩ := m_firsts (σ := σ5) hn
  rw [q1]
  simp only [Option.bind_some]
  have hit : ∀ T, itr (fun t (a : Int32 × Int32 × Int32) => ((if agQ n (vec σ 76 115) t = true ∧ coQ n (tb σ 76 1) (tb σ 76 37) (tb σ 76 73) t = ls then a.1 + 1 else a.1), a.2.1 + 1, if agQ n (vec σ 76 115) t = true ∧ coQ n (tb σ 76 1) (tb σ 76 37) (tb σ 76 73) t = ls ∧ a.1 = k then a.2.1 else a.2.2)) T (0, 0, -1) = ((opQ n (tb σ 76 1) (tb σ 76 37) (tb σ 76 73) (vec σ 76 115) ls k T).1, nI T, (opQ n (tb σ 76 1) (tb σ 76 37) (tb σ 76 73) (vec σ 76 115) ls k T).2) := by
    intro T
    induction T with
    | zero => rfl
    | succ T ih =>
      simp only [itr]
      rw [ih]
      simp only [opQ, nI_s]
      grind
  obtain ⟨σ', r1, r2⟩ := en_ok (f := f_X9_optimumAt_L20 75 k (ls, σ5)) (n := n) (σ0 := σ) (fun a m σ => (a.1, a.2.1, a.2.2, m, σ)) (fun a σ => (a.1, a.2.2, σ)) (fun t (a : Int32 × Int32 × Int32) => ((if agQ n (vec σ 76 115) t = true ∧ coQ n (tb σ 76 1) (tb σ 76 37) (tb σ 76 73) t = ls then a.1 + 1 else a.1), a.2.1 + 1, if agQ n (vec σ 76 115) t = true ∧ coQ n (tb σ 76 1) (tb σ 76 37) (tb σ 76 73) t = ls ∧ a.1 = k then a.2.1 else a.2.2)) h0 h1 hn (fun a σ => rfl) (fun a σ2 t r σ3 hF hA ht hg => by
    have hJ : ∀ is found : Int32, f_X9_optimumAt_J64 75 a.1 a.2.1 is found σ2 = some (.inl ((if is = 0 then a.1 else a.1 + 1), a.2.1 + 1, found, r, σ3)) := fun is found => by
      unfold f_X9_optimumAt_J64 f_X9_optimumAt_J77
      rw [hg]
      simp only [Option.bind_some]
      split
      · rw [show a.1 + (0 : Int32) = a.1 by grind]
      · rfl
    have hK : ∀ b : Bool, f_X9_optimumAt_J45 75 k a.1 a.2.1 a.2.2 (if b then 1 else 0) σ2 = some (.inl ((if b then a.1 + 1 else a.1), a.2.1 + 1, (if b = true ∧ a.1 = k then a.2.1 else a.2.2), r, σ3)) := fun b => by
      unfold f_X9_optimumAt_J45 f_X9_optimumAt_J62
      cases b
      · rw [if_pos (by decide), hJ]
        simp
      · rw [if_neg (by decide)]
        split
        · next c => rw [hJ]; simp [c]
        · next c => rw [hJ]; simp [c]
    unfold f_X9_optimumAt_L20
    simp only
    rw [if_neg (by decide), m_ag h0 hn hF hA]
    simp only [Option.bind_some]
    by_cases c : agQ n (vec σ 76 115) t = true
    · rw [if_pos c, if_neg (by decide), m_co h0 hn hF ht hA]
      simp only [Option.bind_some]
      by_cases c2 : coQ n (tb σ 76 1) (tb σ 76 37) (tb σ 76 73) t = ls
      · rw [if_pos c2]
        have := hK true
        simp only [if_true] at this
        rw [this]
        simp [c, c2]
      · rw [if_neg c2]
        have := hK false
        simp only [Bool.false_eq_true, if_false] at this
        unfold f_X9_optimumAt_J44
        rw [this]
        simp [c2]
    · rw [if_neg c, if_pos rfl]
      have := hK false
      simp only [Bool.false_eq_true, if_false] at this
      unfold f_X9_optimumAt_J44
      rw [this]
      simp [c]) (a := (0, 0, -1)) (p2.tr q2 (fun q hq => hq)) q3
  rw [hit] at r1
  simp only at r1
  rw [r1]
  simp only [Option.bind_some]
  refine ⟨σ', ?_, r2⟩
  split <;> rfl
