-- what both sides hold
def tS (s : Nat → Int32) (o : Nat) : Nat → Nat → Int32 := fun i j => if i < 6 ∧ j < 6 then s (o + 6 * i + j) else 0
def vS (s : Nat → Int32) (o : Nat) : Nat → Int32 := fun i => if i < 6 then s (o + i) else 0
theorem tS_at {s : Nat → Int32} {o i j : Nat} (hi : i < 6) (hj : j < 6) : tS s o i j = s (o + 6 * i + j) := if_pos ⟨hi, hj⟩
theorem vS_at {s : Nat → Int32} {o i : Nat} (hi : i < 6) : vS s o i = s (o + i) := if_pos hi
theorem tS_eq {a s : Nat → Int32} {o : Nat} (h : EqS a s) (ho : o ≤ 73) : tS a o = tS s o := by
  funext i j
  unfold tS
  by_cases c : i < 6 ∧ j < 6
  · rw [if_pos c, if_pos c, h _ (by omega)]
  · rw [if_neg c, if_neg c]
theorem vS_eq {a s : Nat → Int32} {o : Nat} (h : EqS a s) (ho : o ≤ 115) : vS a o = vS s o := by
  funext i
  unfold vS
  by_cases c : i < 6
  · rw [if_pos c, if_pos c, h _ (by omega)]
  · rw [if_neg c, if_neg c]
theorem tb_tS (σ : Sg) (k o : Nat) : tb σ k o = tS (σ k) o := rfl
theorem vec_vS (σ : Sg) (k o : Nat) : vec σ k o = vS (σ k) o := rfl
theorem rm_t {σ : Sg} {s : Nat → Int32} {o : Nat} (h : EqS (σ 76) s) (ho : o ≤ 73) : tb σ 76 o = tS s o := tS_eq h ho
theorem rm_v {σ : Sg} {s : Nat → Int32} {o : Nat} (h : EqS (σ 76) s) (ho : o ≤ 115) : vec σ 76 o = vS s o := vS_eq h ho
theorem rc_0 {σ : Sg} {k : Nat} {s : Nat → Int32} (h : EqS (snap σ k) s) : σ k 0 = s 0 := h 0 (by omega)
theorem rc_f {σ : Sg} {k j : Nat} {s : Nat → Int32} (h : EqS (snap σ k) s) (hj : j < 36) : σ (k + 1) j = s (1 + j) := by rw [← h _ (by omega), snap_f hj]
theorem rc_d {σ : Sg} {k j : Nat} {s : Nat → Int32} (h : EqS (snap σ k) s) (hj : j < 36) : σ (k + 2) j = s (37 + j) := by rw [← h _ (by omega), snap_d hj]
theorem rc_c {σ : Sg} {k j : Nat} {s : Nat → Int32} (h : EqS (snap σ k) s) (hj : j < 36) : σ (k + 3) j = s (73 + j) := by rw [← h _ (by omega), snap_c hj]
theorem rc_p {σ : Sg} {k j : Nat} {s : Nat → Int32} (h : EqS (snap σ k) s) (hj : j < 6) : σ (k + 4) j = s (109 + j) := by rw [← h _ (by omega), snap_p hj]
theorem rc_x {σ : Sg} {k j : Nat} {s : Nat → Int32} (h : EqS (snap σ k) s) (hj : j < 6) : σ (k + 5) j = s (115 + j) := by rw [← h _ (by omega), snap_x]
theorem rc_F {σ : Sg} {s : Nat → Int32} (h : EqS (snap σ 1) s) : tb σ 2 0 = tS s 1 := by
  funext i j
  unfold tb tS
  by_cases c : i < 6 ∧ j < 6
  · rw [if_pos c, if_pos c, Nat.zero_add, show 1 + 6 * i + j = 1 + (6 * i + j) by omega]
    exact rc_f h (by omega)
  · rw [if_neg c, if_neg c]
theorem rc_D {σ : Sg} {s : Nat → Int32} (h : EqS (snap σ 1) s) : tb σ 3 0 = tS s 37 := by
  funext i j
  unfold tb tS
  by_cases c : i < 6 ∧ j < 6
  · rw [if_pos c, if_pos c, Nat.zero_add, show 37 + 6 * i + j = 37 + (6 * i + j) by omega]
    exact rc_d h (by omega)
  · rw [if_neg c, if_neg c]
theorem rc_C {σ : Sg} {s : Nat → Int32} (h : EqS (snap σ 1) s) : tb σ 4 0 = tS s 73 := by
  funext i j
  unfold tb tS
  by_cases c : i < 6 ∧ j < 6
  · rw [if_pos c, if_pos c, Nat.zero_add, show 73 + 6 * i + j = 73 + (6 * i + j) by omega]
    exact rc_c h (by omega)
  · rw [if_neg c, if_neg c]
theorem rc_P {σ : Sg} {s : Nat → Int32} (h : EqS (snap σ 1) s) : vec σ 5 0 = vS s 109 := by
  funext i
  unfold vec vS
  by_cases c : i < 6
  · rw [if_pos c, if_pos c, Nat.zero_add]
    exact rc_p h c
  · rw [if_neg c, if_neg c]
theorem rc_X {σ : Sg} {s : Nat → Int32} (h : EqS (snap σ 1) s) : vec σ 6 0 = vS s 115 := by
  funext i
  unfold vec vS
  by_cases c : i < 6
  · rw [if_pos c, if_pos c, Nat.zero_add]
    exact rc_x h c
  · rw [if_neg c, if_neg c]
def Gd (n : Nat) (s : Nat → Int32) : Prop := 1 ≤ n ∧ n ≤ 6 ∧ s 0 = nI n ∧ (VT (tS s 1) ∧ VT (tS s 37) ∧ VT (tS s 73)) ∧ (∃ t, t < fac n ∧ ∀ i, i < n → s (109 + i) = aV n t i) ∧ (∃ t, t < fac n ∧ agQ n (vS s 115) t = true) ∧ ∀ i, n ≤ i → i < 6 → s (115 + i) = -1
theorem Gd.cong {n : Nat} {s s' : Nat → Int32} (h : Gd n s) (e : EqS s' s) : Gd n s' := by
  obtain ⟨h1, h2, h3, h4, ⟨t, h5, h6⟩, h7, h8⟩ := h
  refine ⟨h1, h2, by rw [e 0 (by omega), h3], by rw [tS_eq e (by omega), tS_eq e (by omega), tS_eq e (by omega)]; exact h4, ⟨t, h5, fun i hi => by rw [e _ (by omega), h6 i hi]⟩, by rw [vS_eq e (by omega)]; exact h7, fun i hi h => by rw [e _ (by omega), h8 i hi h]⟩
def TC (σ : Sg) (T : Nat) (tx : Nat → Nat) : Prop := σ 72 0 = nI T ∧ ∀ i, i < T → σ 73 i = nI (tx i)
def TM (σ : Sg) (T : Nat) (tx : Nat → Nat) : Prop := σ 75 5 = nI T ∧ ∀ i, i < T → σ 79 i = nI (tx i)
def TG (T : Nat) (tx : Nat → Nat) : Prop := T ≤ 120 ∧ ∀ i, i < T → 32 ≤ tx i ∧ tx i ≤ 126
def FC (σ : Sg) (md : Bool) (rs : Nat → Int32) : Prop := if md = true then σ 57 0 = 1 ∧ σ 57 3 = rs 0 ∧ σ 57 4 = rs 1 ∧ σ 57 1 = rs 2 ∧ σ 57 5 = rs 3 ∧ σ 57 6 = rs 4 ∧ σ 57 7 = rs 5 ∧ σ 57 8 = rs 6 ∧ ∀ j, j < 7 → σ 58 j = rs (7 + j) else σ 57 0 = 0
def FM (σ : Sg) (md : Bool) (rs : Nat → Int32) : Prop := if md = true then ¬ σ 91 6 = -1 ∧ (∀ j, j < 7 → σ 91 j = rs j) ∧ ∀ j, j < 7 → σ 92 j = rs (7 + j) else σ 91 6 = -1
def CI (σ : Sg) (s : Nat → Int32) (c : Nat) (h : Nat → Nat → Int32) (T : Nat) (tx : Nat → Nat) (md : Bool) (rs : Nat → Int32) : Prop := (σ 97 = fct ∧ EqS (snap σ 1) s ∧ HC σ c h) ∧ TC σ T tx ∧ FC σ md rs
def MI (σ : Sg) (s : Nat → Int32) (c : Nat) (h : Nat → Nat → Int32) (T : Nat) (tx : Nat → Nat) (md : Bool) (rs : Nat → Int32) : Prop := (EqS (σ 76) s ∧ HM σ c h) ∧ TM σ T tx ∧ FM σ md rs
def GI (s : Nat → Int32) (c : Nat) (h : Nat → Nat → Int32) (T : Nat) (tx : Nat → Nat) : Prop := (∃ n, Gd n s) ∧ (∀ r, r < c → ∃ n, Gd n (h r)) ∧ TG T tx
def Iv (σ : Sg) : Prop := ∃ s c h T tx md rs, GI s c h T tx ∧ CI σ s c h T tx md rs ∧ MI σ s c h T tx md rs
-- frames
theorem HC_fr {σ σ' : Sg} {c : Nat} {h : Nat → Nat → Int32} (H : HC σ c h) (e : ∀ q, q = 7 ∨ 9 ≤ q ∧ q < 45 → σ' q = σ q) : HC σ' c h := by
  obtain ⟨nx, h1, h2, h3, h4, h5⟩ := H
  refine ⟨nx, h1, h2, by rw [e 7 (Or.inl rfl), h3], by rw [e 7 (Or.inl rfl), h4], fun r hr => ?_⟩
  rw [snap_fr (σ := σ) (fun d hd => e _ (Or.inr (by omega)))]
  exact h5 r hr
theorem HM_fr {σ σ' : Sg} {c : Nat} {h : Nat → Nat → Int32} (H : HM σ c h) (e1 : σ' 75 3 = σ 75 3) (e2 : σ' 77 = σ 77) : HM σ' c h := by
  obtain ⟨h1, h2, h3⟩ := H
  exact ⟨h1, by rw [e1, h2], fun r hr j hj => by rw [e2, h3 r hr j hj]⟩
theorem TC_fr {σ σ' : Sg} {T : Nat} {tx : Nat → Nat} (H : TC σ T tx) (e1 : σ' 72 0 = σ 72 0) (e2 : σ' 73 = σ 73) : TC σ' T tx := ⟨by rw [e1, H.1], fun i hi => by rw [e2, H.2 i hi]⟩
theorem TM_fr {σ σ' : Sg} {T : Nat} {tx : Nat → Nat} (H : TM σ T tx) (e1 : σ' 75 5 = σ 75 5) (e2 : σ' 79 = σ 79) : TM σ' T tx := ⟨by rw [e1, H.1], fun i hi => by rw [e2, H.2 i hi]⟩
theorem FC_fr {σ σ' : Sg} {md : Bool} {rs : Nat → Int32} (H : FC σ md rs) (e1 : σ' 57 = σ 57) (e2 : σ' 58 = σ 58) : FC σ' md rs := by
  unfold FC at H ⊢
  rw [e1, e2]
  exact H
theorem FM_fr {σ σ' : Sg} {md : Bool} {rs : Nat → Int32} (H : FM σ md rs) (e1 : σ' 91 = σ 91) (e2 : σ' 92 = σ 92) : FM σ' md rs := by
  unfold FM at H ⊢
  rw [e1, e2]
  exact H
theorem snap1_fr {W : List Nat} {σ σ' : Sg} (hF : Fr W σ σ') (h1 : ∀ d, d < 6 → 1 + d ∉ W) : snap σ' 1 = snap σ 1 := snap_fr fun d hd => hF.at (h1 d hd)
/-- the places that the class keeps from call to call -/
def keepC (q : Nat) : Bool := decide (1 ≤ q ∧ q ≤ 7 ∨ 9 ≤ q ∧ q < 45 ∨ q = 57 ∨ q = 58 ∨ q = 72 ∨ q = 73 ∨ q = 97)
def keepM (q : Nat) : Bool := decide (q = 75 ∨ q = 76 ∨ q = 77 ∨ q = 79 ∨ q = 91 ∨ q = 92)
theorem fr_all {W : List Nat} {σ σ' : Sg} {p : Nat → Bool} (hF : Fr W σ σ') (hW : W.all (fun q => !p q) = true) : ∀ q, p q = true → σ' q = σ q := fun q hq => hF q fun z => by
  have := List.all_eq_true.mp hW q z
  rw [hq] at this
  cases this
theorem CI_eq {σ σ' : Sg} {s : Nat → Int32} {c : Nat} {h : Nat → Nat → Int32} {T : Nat} {tx : Nat → Nat} {md : Bool} {rs : Nat → Int32} (H : CI σ s c h T tx md rs) (e : ∀ q, keepC q = true → σ' q = σ q) : CI σ' s c h T tx md rs := by
  obtain ⟨⟨h1, h2, h3⟩, h4, h5⟩ := H
  have k : ∀ q, (1 ≤ q ∧ q ≤ 7 ∨ 9 ≤ q ∧ q < 45 ∨ q = 57 ∨ q = 58 ∨ q = 72 ∨ q = 73 ∨ q = 97) → σ' q = σ q := fun q hq => e q (decide_eq_true hq)
  refine ⟨⟨by rw [k 97 (by omega), h1], ?_, HC_fr h3 (fun q hq => k q (by omega))⟩, TC_fr h4 (by rw [k 72 (by omega)]) (k 73 (by omega)), FC_fr h5 (k 57 (by omega)) (k 58 (by omega))⟩
  rw [snap_fr (σ := σ) (fun d hd => k _ (by omega))]
  exact h2
theorem CI_fr {W : List Nat} {σ σ' : Sg} {s : Nat → Int32} {c : Nat} {h : Nat → Nat → Int32} {T : Nat} {tx : Nat → Nat} {md : Bool} {rs : Nat → Int32} (H : CI σ s c h T tx md rs) (hF : Fr W σ σ') (hW : W.all (fun q => !keepC q) = true) : CI σ' s c h T tx md rs := CI_eq H (fr_all hF hW)
theorem MI_eq {σ σ' : Sg} {s : Nat → Int32} {c : Nat} {h : Nat → Nat → Int32} {T : Nat} {tx : Nat → Nat} {md : Bool} {rs : Nat → Int32} (H : MI σ s c h T tx md rs) (e : ∀ q, (q = 76 ∨ q = 77 ∨ q = 79 ∨ q = 91 ∨ q = 92) → σ' q = σ q) (e3 : σ' 75 3 = σ 75 3) (e5 : σ' 75 5 = σ 75 5) : MI σ' s c h T tx md rs := by
  obtain ⟨⟨h2, h3⟩, h4, h5⟩ := H
  exact ⟨⟨by rw [e 76 (by omega)]; exact h2, HM_fr h3 e3 (e 77 (by omega))⟩, TM_fr h4 e5 (e 79 (by omega)), FM_fr h5 (e 91 (by omega)) (e 92 (by omega))⟩
theorem MI_fr {W : List Nat} {σ σ' : Sg} {s : Nat → Int32} {c : Nat} {h : Nat → Nat → Int32} {T : Nat} {tx : Nat → Nat} {md : Bool} {rs : Nat → Int32} (H : MI σ s c h T tx md rs) (hF : Fr W σ σ') (hW : W.all (fun q => !keepM q) = true) : MI σ' s c h T tx md rs := by
  have e := fr_all hF hW
  have k : ∀ q, (q = 75 ∨ q = 76 ∨ q = 77 ∨ q = 79 ∨ q = 91 ∨ q = 92) → σ' q = σ q := fun q hq => e q (decide_eq_true hq)
  exact MI_eq H (fun q hq => k q (by omega)) (by rw [k 75 (by omega)]) (by rw [k 75 (by omega)])
theorem MI_75 {σ : Sg} {s : Nat → Int32} {c : Nat} {h : Nat → Nat → Int32} {T : Nat} {tx : Nat → Nat} {md : Bool} {rs : Nat → Int32} {j : Nat} {x : Int32} (H : MI σ s c h T tx md rs) (h3 : j ≠ 3) (h5 : j ≠ 5) : MI (si σ 75 j x) s c h T tx md rs := MI_eq H (fun q hq => si_oth (by omega)) (si_miss (by omega)) (si_miss (by omega))
theorem CI_75 {σ : Sg} {s : Nat → Int32} {c : Nat} {h : Nat → Nat → Int32} {T : Nat} {tx : Nat → Nat} {md : Bool} {rs : Nat → Int32} {k j : Nat} {x : Int32} (H : CI σ s c h T tx md rs) (hk : keepC k = false) : CI (si σ k j x) s c h T tx md rs := CI_eq H (fun q hq => si_oth (fun z => by rw [z, hk] at hq; cases hq))
theorem Iv_of {s : Nat → Int32} {c : Nat} {h : Nat → Nat → Int32} {T : Nat} {tx : Nat → Nat} {md : Bool} {rs : Nat → Int32} {σ : Sg} (h1 : GI s c h T tx) (h2 : CI σ s c h T tx md rs) (h3 : MI σ s c h T tx md rs) : Iv σ := ⟨s, c, h, T, tx, md, rs, h1, h2, h3⟩
/-- the step of a record on both sides -/
theorem GI_push {s s' : Nat → Int32} {c : Nat} {h : Nat → Nat → Int32} {T : Nat} {tx : Nat → Nat} (H : GI s c h T tx) (h' : ∃ n, Gd n s') : GI s' (pushC c) (pushH c h s) T tx := by
  obtain ⟨h1, h2, h3⟩ := H
  refine ⟨h', fun r hr => ?_, h3⟩
  unfold pushC at hr
  unfold pushH
  by_cases hc : c < 6
  · rw [if_pos hc] at hr ⊢
    by_cases hrc : r < c
    · rw [if_pos hrc]
      exact h2 r hrc
    · rw [if_neg hrc]
      exact h1
  · rw [if_neg hc] at hr ⊢
    by_cases hrc : r < 5
    · rw [if_pos hrc]
      exact h2 (r + 1) (by omega)
    · rw [if_neg hrc]
      exact h1
theorem CI_n {n : Nat} {σ : Sg} {s : Nat → Int32} {c : Nat} {h : Nat → Nat → Int32} {T : Nat} {tx : Nat → Nat} {md : Bool} {rs : Nat → Int32} (H : CI σ s c h T tx md rs) (hg : Gd n s) : σ 1 0 = nI n := by rw [rc_0 H.1.2.1, hg.2.2.1]
theorem MI_n {n : Nat} {σ : Sg} {s : Nat → Int32} {c : Nat} {h : Nat → Nat → Int32} {T : Nat} {tx : Nat → Nat} {md : Bool} {rs : Nat → Int32} (H : MI σ s c h T tx md rs) (hg : Gd n s) : σ 76 0 = nI n := by rw [H.1.1 0 (by omega), hg.2.2.1]
/-- the class's push, its other places kept -/
theorem CI_push {σ : Sg} {s : Nat → Int32} {c : Nat} {h : Nat → Nat → Int32} {T : Nat} {tx : Nat → Nat} {md : Bool} {rs : Nat → Int32} (H : CI σ s c h T tx md rs) : ∃ σ', f_X2_push σ 7 1 = some σ' ∧ Fr HW σ σ' ∧ CI σ' s (pushC c) (pushH c h s) T tx md rs := by
  obtain ⟨⟨h1, h2, h3⟩, h4, h5⟩ := H
  obtain ⟨σ', q1, q2, q3⟩ := push_ok h2 h3
  refine ⟨σ', q1, q2, ⟨by rw [q2.at (by decide), h1], ?_, q3⟩, TC_fr h4 (by rw [q2.at (by decide)]) (q2.at (by decide)), FC_fr h5 (q2.at (by decide)) (q2.at (by decide))⟩
  rw [snap_fr (σ := σ) (fun d hd => q2 _ (fun z => by unfold HW at z; simp only [List.mem_cons, List.not_mem_nil, or_false] at z; omega))]
  exact h2
/-- the class's snapshot changed -/
theorem CI_set {σ σ' : Sg} {s s' : Nat → Int32} {c : Nat} {h : Nat → Nat → Int32} {T : Nat} {tx : Nat → Nat} {md : Bool} {rs : Nat → Int32} (H : CI σ s c h T tx md rs) (hF : Fr [1, 2, 3, 4, 5, 6] σ σ') (hs : EqS (snap σ' 1) s') : CI σ' s' c h T tx md rs := by
  obtain ⟨⟨h1, h2, h3⟩, h4, h5⟩ := H
  exact ⟨⟨by rw [hF.at (by decide), h1], hs, HC_fr h3 (fun q hq => hF q (fun z => by simp only [List.mem_cons, List.not_mem_nil, or_false] at z; omega))⟩, TC_fr h4 (by rw [hF.at (by decide)]) (hF.at (by decide)), FC_fr h5 (hF.at (by decide)) (hF.at (by decide))⟩
/-- the model's hold, changes of s and scratch, ends -/
theorem MI_ends {σ σ1 : Sg} {s s' : Nat → Int32} {c : Nat} {h : Nat → Nat → Int32} {T : Nat} {tx : Nat → Nat} {md : Bool} {rs : Nat → Int32} (x : Int32) (H : MI σ s c h T tx md rs) (hF : Fr [76, 78, 80, 81] σ σ1) (h78 : EqS (σ1 78) s) (hs : EqS (σ1 76) s') : ∃ σ', f_X9_ends σ1 75 x = some (x, σ') ∧ Fr [75, 77] σ1 σ' ∧ MI σ' s' (pushC c) (pushH c h s) T tx md rs ∧ σ' 75 6 = 0 := by
  obtain ⟨⟨h2, h3⟩, h4, h5⟩ := H
  obtain ⟨σ', q1, q2, q3, q4, q5⟩ := m_ends (x := x) (HM_fr h3 (σ' := σ1) (by rw [hF.at (by decide)]) (hF.at (by decide)))
  refine ⟨σ', q1, q2, ⟨⟨by rw [q2.at (by decide)]; exact hs, ?_⟩, TM_fr h4 (by rw [q4 5 (by omega) (by omega), hF.at (by decide)]) (by rw [q2.at (by decide), hF.at (by decide)]), FM_fr h5 (by rw [q2.at (by decide), hF.at (by decide)]) (by rw [q2.at (by decide), hF.at (by decide)])⟩, q5⟩
  obtain ⟨w1, w2, w3⟩ := q3
  refine ⟨w1, w2, fun r hr j hj => ?_⟩
  rw [w3 r hr j hj]
  unfold pushH
  split
  · split
    · rfl
    · exact h78 j hj
  · split
    · rfl
    · exact h78 j hj
-- the law's calls
/-- a call that does not throw, the class's part without a new store -/
def JA (c : Option Int32) (m : Sg → Option (Int32 × Sg)) (σ : Sg) : Prop := ∃ v σ', c = some v ∧ m σ = some (v, σ') ∧ Iv σ'
def JB (c : Option (Int32 × Sg)) (m : Sg → Option (Int32 × Sg)) : Prop := ∃ v σ1 σ', c = some (v, σ1) ∧ m σ1 = some (v, σ') ∧ Iv σ'
/-- a call that may throw: what was thrown is e 1 or e 2 -/
def JT (e1 e2 : Nat) (c : Option (Nat ⊕ Int32)) (m : Sg → Option (Int32 × Sg)) (σ : Sg) : Prop := (∃ v σ', c = some (.inr v) ∧ m σ = some (v, σ') ∧ σ' 75 6 = 0 ∧ Iv σ') ∨ (∃ v σ', c = some (.inl e1) ∧ m σ = some (v, σ') ∧ σ' 75 6 = 1 ∧ Iv σ') ∨ (∃ v σ', c = some (.inl e2) ∧ m σ = some (v, σ') ∧ σ' 75 6 = 2 ∧ Iv σ' ∧ e1 ≠ e2 ∧ e2 ≠ 9)
def JU (e1 e2 : Nat) (c : Option ((Nat × Sg) ⊕ (Int32 × Sg))) (m : Sg → Option (Int32 × Sg)) : Prop := (∃ v σ1 σ', c = some (.inr (v, σ1)) ∧ m σ1 = some (v, σ') ∧ σ' 75 6 = 0 ∧ Iv σ') ∨ (∃ v σ1 σ', c = some (.inl (e1, σ1)) ∧ m σ1 = some (v, σ') ∧ σ' 75 6 = 1 ∧ Iv σ') ∨ (∃ v σ1 σ', c = some (.inl (e2, σ1)) ∧ m σ1 = some (v, σ') ∧ σ' 75 6 = 2 ∧ Iv σ' ∧ e1 ≠ e2 ∧ e2 ≠ 9)
