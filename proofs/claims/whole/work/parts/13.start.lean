theorem q_cn_RL_8 : Cond.classLink RL 8 RX8 ∈ WG := wg_of 106 (by decide +kernel) (by decide +kernel)
theorem q_is_8 : Cond.instantiable RX8 8 ∈ WG := wg_of 107 (by decide +kernel) (by decide +kernel)
theorem q_cn_RL_85 : Cond.classLink RL 85 RX9 ∈ WG := wg_of 1138 (by decide +kernel) (by decide +kernel)
theorem q_is_9 : Cond.instantiable RX9 28 ∈ WG := wg_of 1139 (by decide +kernel) (by decide +kernel)
theorem q_ml_RL_84 : Cond.methodLink RL 84 yX8_init ∈ WG := wg_of 108 (by decide +kernel) (by decide +kernel)
theorem q_ml_RL_87 : Cond.methodLink RL 87 yX9_init ∈ WG := wg_of 1140 (by decide +kernel) (by decide +kernel)
theorem q_im_yX8_init : Cond.instanceMethod yX8_init ∈ WG := wg_of 109 (by decide +kernel) (by decide +kernel)
theorem q_im_yX9_init : Cond.instanceMethod yX9_init ∈ WG := wg_of 1141 (by decide +kernel) (by decide +kernel)
theorem q_cd_yX8_init : Cond.code yX8_init cX8_init 1 none ∈ WG := wg_of 110 (by decide +kernel) (by decide +kernel)
theorem q_cw_yX8_init : Cw yX8_init cX8_init 1 none 0 := ⟨q_cd_yX8_init, q_in_RX8, by decide +kernel, by decide +kernel, by decide +kernel⟩
theorem q_cd_yX9_init : Cond.code yX9_init cX9_init 1 none ∈ WG := wg_of 1142 (by decide +kernel) (by decide +kernel)
theorem q_cw_yX9_init : Cw yX9_init cX9_init 1 none 0 := ⟨q_cd_yX9_init, q_in_RX9, by decide +kernel, by decide +kernel, by decide +kernel⟩
section ZS
variable {p : Program} {l : Launch} {e : Env} {R : Room} {s : State} {m : MethodId} {args : Array Value} {below : List Frame} {meth : Method} {c : Code} {cc : ByteArray} {own : String} {nL : Nat} {ret : Option FieldType} {D : va_G} {cA : Nat → Nat} {A : Nat → Prop} {cells slots : Nat} {Q : State → Prop} {ws : va_W} {pc : Nat} {lv : List (Nat × Value)} {st : List Value}
theorem Z_astore_n (C : Cz p l s m args meth c cc own nL ret D cA A) {k : Fin 4} {x : Nat} {lv' : List (Nat × Value)} (i : Nat) (hi : (k : Nat) = i) (hn : i < nL) (hl' : (i, Value.ref x) :: lv.filter (fun q => !(q.1 == i) && !(q.1 + 1 == i && q.2.category == 2)) = lv') (hd : decode cc pc = .ok (.astore_n k, 1)) (k : Zj p l e R s m args below meth c nL D A cells slots Q ws (pc + 1) lv' st) : Zj p l e R s m args below meth c nL D A cells slots Q ws pc lv (.ref x :: st) := fun H locs ls hP hD hS hl => lv_astore_n C.1 C.2.1 hd hi hl hn hl' (fun ls hl => k H locs ls hP hD hS hl)
theorem Z_istore (C : Cz p l s m args meth c cc own nL ret D cA A) {x : Int32} {lv' : List (Nat × Value)} {i : Nat} (hn : i < nL) (hl' : (i, Value.int x) :: lv.filter (fun q => !(q.1 == i) && !(q.1 + 1 == i && q.2.category == 2)) = lv') (hd : decode cc pc = .ok (.istore i, 2)) (k : Zj p l e R s m args below meth c nL D A cells slots Q ws (pc + 2) lv' st) : Zj p l e R s m args below meth c nL D A cells slots Q ws pc lv (.int x :: st) := fun H locs ls hP hD hS hl => lv_istore C.1 C.2.1 hd hl hn hl' (fun ls hl => k H locs ls hP hD hS hl)
end ZS
def adr (q0 q1 q2 t : Nat) (u v : List Nat) : Nat → Nat := fun k => if k = 0 then q0 else if k < 75 then u.getD (k - 1) 0 else if k = 75 then q1 else if k < 96 then v.getD (k - 76) 0 else if k = 96 then q2 else t
def s0b : Nat → Int32 := (upd (upd (upd (upd (upd (upd (upd (bg 121) 0 3) 109 0) 110 1) 111 2) 112 3) 113 4) 114 5)
def s0r : Nat → Int32 := (upd (fun _ => 0) 6 (-1))
def s0p : Nat → Int32 := (upd (upd (upd (upd (upd (upd (fun _ => 0) 0 0) 1 1) 2 2) 3 3) 4 4) 5 5)
def s0f : Nat → Int32 := (upd (upd (upd (upd (upd (upd (fun _ => 0) 0 (-1)) 1 (-1)) 2 (-1)) 3 (-1)) 4 (-1)) 5 (-1))
def σ0 : Sg := fun k => if k = 97 then fct else if k = 76 then s0b else if k = 91 then s0r else if k = 1 ∨ (9 ≤ k ∧ k < 45 ∧ (k - 9) % 6 = 0) then (fun j => if j = 0 then 3 else 0) else if k = 5 ∨ (9 ≤ k ∧ k < 45 ∧ (k - 9) % 6 = 4) then s0p else if k = 6 ∨ (9 ≤ k ∧ k < 45 ∧ (k - 9) % 6 = 5) then s0f else fun _ => 0
def τ0 : Tg := fun _ _ => 0
def L0 (cA : Nat → Nat) (q0 q1 q2 : Nat) (u v : List Nat) : va_W := w1_X8_init cA q0 u ++ (w1_X9_init cA q1 v ++ [(q2, .inl (cA 2, 1, .inr (.inl (fun _ => 0))))])
set_option maxRecDepth 100000 in
theorem L0_75 (cA : Nat → Nat) (q0 q1 q2 t : Nat) (u v : List Nat) : (L0 cA q0 q1 q2 u v)[75]? = some (adr q0 q1 q2 t u v 75, wc (adr q0 q1 q2 t u v) cA σ0 τ0 75) := by
  have h : wc (adr q0 q1 q2 t u v) cA σ0 τ0 75 = .inr (9, fo (adr q0 q1 q2 t u v) σ0 τ0 75 [1, 2, 3, 0, 4, 0, 0, 5, 6, 7, 8, 9, 10, 11, 0, 12, 13, 14, 15, 0, 16, 17, 18, 19, 0, 0, 20, 1000]) := rfl
  rw [h]
  simp only [fo, List.mapIdx_cons, List.mapIdx_nil, fv]
  rfl
set_option maxRecDepth 100000 in
set_option maxHeartbeats 40000000 in
theorem L0_at (cA : Nat → Nat) (q0 q1 q2 t : Nat) (u v : List Nat) : ∀ k, k < 97 → k ≠ 8 → (L0 cA q0 q1 q2 u v)[k]? = some (adr q0 q1 q2 t u v k, wc (adr q0 q1 q2 t u v) cA σ0 τ0 k) := fun k hk h8 => match k, hk, h8 with
  | 0, _, _ => rfl
  | 1, _, _ => rfl
  | 2, _, _ => rfl
  | 3, _, _ => rfl
  | 4, _, _ => rfl
  | 5, _, _ => rfl
  | 6, _, _ => rfl
  | 7, _, _ => rfl
  | 9, _, _ => rfl
  | 10, _, _ => rfl
  | 11, _, _ => rfl
  | 12, _, _ => rfl
  | 13, _, _ => rfl
  | 14, _, _ => rfl
  | 15, _, _ => rfl
  | 16, _, _ => rfl
  | 17, _, _ => rfl
  | 18, _, _ => rfl
  | 19, _, _ => rfl
  | 20, _, _ => rfl
  | 21, _, _ => rfl
  | 22, _, _ => rfl
  | 23, _, _ => rfl
  | 24, _, _ => rfl
  | 25, _, _ => rfl
  | 26, _, _ => rfl
  | 27, _, _ => rfl
  | 28, _, _ => rfl
  | 29, _, _ => rfl
  | 30, _, _ => rfl
  | 31, _, _ => rfl
  | 32, _, _ => rfl
  | 33, _, _ => rfl
  | 34, _, _ => rfl
  | 35, _, _ => rfl
  | 36, _, _ => rfl
  | 37, _, _ => rfl
  | 38, _, _ => rfl
  | 39, _, _ => rfl
  | 40, _, _ => rfl
  | 41, _, _ => rfl
  | 42, _, _ => rfl
  | 43, _, _ => rfl
  | 44, _, _ => rfl
  | 45, _, _ => rfl
  | 46, _, _ => rfl
  | 47, _, _ => rfl
  | 48, _, _ => rfl
  | 49, _, _ => rfl
  | 50, _, _ => rfl
  | 51, _, _ => rfl
  | 52, _, _ => rfl
  | 53, _, _ => rfl
  | 54, _, _ => rfl
  | 55, _, _ => rfl
  | 56, _, _ => rfl
  | 57, _, _ => rfl
  | 58, _, _ => rfl
  | 59, _, _ => rfl
  | 60, _, _ => rfl
  | 61, _, _ => rfl
  | 62, _, _ => rfl
  | 63, _, _ => rfl
  | 64, _, _ => rfl
  | 65, _, _ => rfl
  | 66, _, _ => rfl
  | 67, _, _ => rfl
  | 68, _, _ => rfl
  | 69, _, _ => rfl
  | 70, _, _ => rfl
  | 71, _, _ => rfl
  | 72, _, _ => rfl
  | 73, _, _ => rfl
  | 74, _, _ => rfl
  | 75, _, _ => L0_75 cA q0 q1 q2 t u v
  | 76, _, _ => rfl
  | 77, _, _ => rfl
  | 78, _, _ => rfl
  | 79, _, _ => rfl
  | 80, _, _ => rfl
  | 81, _, _ => rfl
  | 82, _, _ => rfl
  | 83, _, _ => rfl
  | 84, _, _ => rfl
  | 85, _, _ => rfl
  | 86, _, _ => rfl
  | 87, _, _ => rfl
  | 88, _, _ => rfl
  | 89, _, _ => rfl
  | 90, _, _ => rfl
  | 91, _, _ => rfl
  | 92, _, _ => rfl
  | 93, _, _ => rfl
  | 94, _, _ => rfl
  | 95, _, _ => rfl
  | 96, _, _ => rfl
  | 8, _, h => absurd rfl h
  | n + 97, h, _ => absurd h (by omega)
set_option maxRecDepth 100000 in
theorem L0_8 (cA : Nat → Nat) (q0 q1 q2 t : Nat) (u v : List Nat) : (L0 cA q0 q1 q2 u v)[8]? = some (adr q0 q1 q2 t u v 8, .inl (cA 5, 6, .inr (.inr (.inr (.inr (va_up (va_up (va_up (va_up (va_up (va_up (fun _ => none) 0 (some (adr q0 q1 q2 t u v 9))) 1 (some (adr q0 q1 q2 t u v 15))) 2 (some (adr q0 q1 q2 t u v 21))) 3 (some (adr q0 q1 q2 t u v 27))) 4 (some (adr q0 q1 q2 t u v 33))) 5 (some (adr q0 q1 q2 t u v 39)))))))) := rfl
theorem arrV_cong (cI : ClassId) (N : Nat) {f g : Nat → Value} (h : ∀ j, j < N → f j = g j) : arrV cI N f = arrV cI N g := by
  have : (fun j : Fin N => f j.val) = fun j : Fin N => g j.val := funext fun j => h j.val j.isLt
  unfold arrV
  rw [this]
theorem L0_P {D : va_G} {cA : Nat → Nat} {q0 q1 q2 t : Nat} {u v : List Nat} {H : Heap} (h : va_P D vwCl (L0 cA q0 q1 q2 u v) H) : va_P D vwCl (wd 97 (adr q0 q1 q2 t u v) cA σ0 τ0) H := by
  intro k q hq
  obtain ⟨hk, rfl⟩ := wd_of hq
  by_cases h8 : k = 8
  · subst h8
    have h1 := h 8 _ (L0_8 cA q0 q1 q2 t u v)
    rw [wc_q (n := 6) (by decide +kernel)]
    refine Eq.trans h1 (congrArg some ?_)
    refine (vp_cell_q (cA 5) 6 _).trans (Eq.trans (arrV_cong (cA 5) 6 (fun j hj => ?_)) (vp_cell_q (cA 5) 6 _).symm)
    match j, hj with
    | 0, _ => rfl
    | 1, _ => rfl
    | 2, _ => rfl
    | 3, _ => rfl
    | 4, _ => rfl
    | 5, _ => rfl
    | n + 6, h => exact absurd h (by omega)
  · exact h k _ (L0_at cA q0 q1 q2 t u v k hk h8)
theorem L0_D {A : Nat → Prop} {cA : Nat → Nat} {q0 q1 q2 t : Nat} {u v : List Nat} (h : va_D A (L0 cA q0 q1 q2 u v)) (ht : ¬ A t) : Inj (adr q0 q1 q2 t u v) ∧ Wr (adr q0 q1 q2 t u v) A := by
  have at' : ∀ k, k < 97 → ∃ e, (L0 cA q0 q1 q2 u v)[k]? = some (adr q0 q1 q2 t u v k, e) := fun k hk => by
    by_cases h8 : k = 8
    · subst h8
      exact ⟨_, L0_8 cA q0 q1 q2 t u v⟩
    · exact ⟨_, L0_at cA q0 q1 q2 t u v k hk h8⟩
  have hA : ∀ k, k < 97 → A (adr q0 q1 q2 t u v k) := fun k hk => by
    obtain ⟨e, he⟩ := at' k hk
    exact h.2 k _ he
  have e97 : adr q0 q1 q2 t u v 97 = t := rfl
  have hI : Inj (adr q0 q1 q2 t u v) := by
    intro i j hi hj e
    by_cases hi9 : i = 97
    · subst hi9
      by_cases hj9 : j = 97
      · exact hj9.symm
      · exact absurd (by rw [← e97, e]; exact hA j (by omega)) ht
    · by_cases hj9 : j = 97
      · subst hj9
        exact absurd (by rw [← e97, ← e]; exact hA i (by omega)) ht
      · obtain ⟨e1, h1⟩ := at' i (by omega)
        obtain ⟨e2, h2⟩ := at' j (by omega)
        exact h.1 i j _ _ h1 h2 e
  exact ⟨hI, hI, hA⟩
theorem law_eqi {args : Array Value} {s : State} {tm : Term} {z : Int32} (h : (Cond.eq tm (.int z)).before args s = true) : tm.eval args s none [] s = some (.int z) := by
  have hz : (Term.int z).eval args s none [] s = some (.int z) := rfl
  cases hv : tm.eval args s none [] s with
  | none => simp [Cond.before, Cond.holds, Cond.value, hv] at h
  | some w =>
    simp only [Cond.before, Cond.holds, Cond.value, hv, hz] at h
    cases w <;> simp_all
theorem ao_mem : Cond.arrayOver (.object RX6) ∈ lw_tbl := List.mem_of_getElem? (i := 167) (by decide +kernel)
theorem ls_mem : Cond.laysStatic RX8 "FACTORIALS" "[I" ∈ lw_tbl := List.mem_of_getElem? (i := 452) (by decide +kernel)
theorem lu_mem : Cond.laysStatic Bundle.tN "UNASSIGNED_STACK" Bundle.steD ∈ lw_tbl := List.mem_of_getElem? (i := 845) (by decide +kernel)
theorem lq_mem : Cond.laysStatic Bundle.tN "SUPPRESSED_SENTINEL" Bundle.listD ∈ lw_tbl := List.mem_of_getElem? (i := 847) (by decide +kernel)
theorem it_mem : Cond.initialized Bundle.tN ∈ lw_tbl := List.mem_of_getElem? (i := 97) (by decide +kernel)
theorem st_mem : ∀ q ∈ STR, Cond.stringRef q.1 q.2.1 q.2.2 ∈ lw_tbl := by
  intro q hq
  simp only [STR, List.mem_cons, List.not_mem_nil, or_false] at hq
  rcases hq with rfl | rfl | rfl | rfl | rfl | rfl | rfl | rfl | rfl | rfl | rfl | rfl | rfl | rfl | rfl | rfl

  · exact List.mem_of_getElem? (i := 859) (by decide +kernel)
  · exact List.mem_of_getElem? (i := 908) (by decide +kernel)
  · exact List.mem_of_getElem? (i := 918) (by decide +kernel)
  · exact List.mem_of_getElem? (i := 922) (by decide +kernel)
  · exact List.mem_of_getElem? (i := 942) (by decide +kernel)
  · exact List.mem_of_getElem? (i := 974) (by decide +kernel)
  · exact List.mem_of_getElem? (i := 1003) (by decide +kernel)
  · exact List.mem_of_getElem? (i := 1029) (by decide +kernel)
  · exact List.mem_of_getElem? (i := 1047) (by decide +kernel)
  · exact List.mem_of_getElem? (i := 1077) (by decide +kernel)
  · exact List.mem_of_getElem? (i := 1093) (by decide +kernel)
  · exact List.mem_of_getElem? (i := 1101) (by decide +kernel)
  · exact List.mem_of_getElem? (i := 1109) (by decide +kernel)
  · exact List.mem_of_getElem? (i := 1110) (by decide +kernel)
  · exact List.mem_of_getElem? (i := 1122) (by decide +kernel)
  · exact List.mem_of_getElem? (i := 1132) (by decide +kernel)
/-- the array classes -/
theorem law_arr {s : State} {args : Array Value} (hts : ∀ w ∈ lw_tbl, w.before args s = true) : ∃ cA : Nat → Nat, ∀ (k : Nat) (q : ClassId × FieldType), (tyv cA)[k]? = some q → ArrOfT s q.1 q.2 ∧ va_RA s q.1 q.2 := by
  have pr : ∀ ty : FieldType, Cond.arrayClass ty ∈ lw_tbl → (∀ C, ty ≠ .object C) → ∃ a : Nat, ArrOfT s a ty ∧ va_RA s a ty := by
    intro ty h hne
    obtain ⟨a, k, comp, h1, h2, h3⟩ := Cond.arrayClass_spec (hts _ h)
    refine ⟨a, fun n z => ⟨fun k h => (by cases h), k, h2, comp, h3⟩, ?_⟩
    cases ty with
    | object C => exact absurd rfl (hne C)
    | _ => exact h1
  obtain ⟨a1, h1⟩ := pr .int (List.mem_filter.mp q_ac_1).1 (fun C h => by cases h)
  obtain ⟨a2, h2⟩ := pr .long (List.mem_filter.mp q_ac_2).1 (fun C h => by cases h)
  obtain ⟨a3, h3⟩ := pr .char (List.mem_filter.mp q_ac_3).1 (fun C h => by cases h)
  obtain ⟨a4, h4⟩ := pr .boolean (List.mem_filter.mp q_ac_4).1 (fun C h => by cases h)
  obtain ⟨comp, a5, cl5, g1, g2, g3, g4, g5⟩ := Cond.arrayOver_spec (hts _ ao_mem)
  refine ⟨fun i => if i = 1 then a1 else if i = 2 then a2 else if i = 3 then a3 else if i = 4 then a4 else a5, fun k q hq => ?_⟩
  match k, hq with
  | 0, hq => cases hq; exact h1
  | 1, hq => cases hq; exact h2
  | 2, hq => cases hq; exact h3
  | 3, hq => cases hq; exact h4
  | 4, hq => cases hq; exact ⟨fun n z => ⟨fun _ h => (by cases h), cl5, g3, comp, g4⟩, cl5, comp, g3, g4, g1, g5⟩
  | n + 5, hq => simp [tyv] at hq
theorem law_cls {s : State} {args : Array Value} (hts : ∀ w ∈ lw_tbl, w.before args s = true) : ∃ (dC : Nat → ClassId) (dI : Nat → Nat → Nat), ∀ (k : Nat) (q : vw_C), vwCl[k]? = some q → u_Kn s q.1 q.2.1 q.2.2 (dC k) (dI k) := by
  have hwg : ∀ w ∈ WG, w.before args s = true := fun w hw => hts w (List.mem_filter.mp hw).1
  obtain ⟨c0, iS0, hKn0⟩ := u_known (C := RX0) (T := TX0) (N := 6) (n := 6) hwg q_us_0 (hwg _ q_is_0)
  obtain ⟨c1, iS1, hKn1⟩ := u_known (C := RX1) (T := TX1) (N := 10) (n := 10) hwg q_us_1 (hwg _ q_is_1)
  obtain ⟨c2, iS2, hKn2⟩ := u_known (C := RX2) (T := TX2) (N := 3) (n := 3) hwg q_us_2 (hwg _ q_is_2)
  obtain ⟨c3, iS3, hKn3⟩ := u_known (C := RX3) (T := TX3) (N := 3) (n := 3) hwg q_us_3 (hwg _ q_is_3)
  obtain ⟨c4, iS4, hKn4⟩ := u_known (C := RX4) (T := TX4) (N := 8) (n := 8) hwg q_us_4 (hwg _ q_is_4)
  obtain ⟨c5, iS5, hKn5⟩ := u_known (C := RX5) (T := TX5) (N := 17) (n := 17) hwg q_us_5 (hwg _ q_is_5)
  obtain ⟨c6, iS6, hKn6⟩ := u_known (C := RX6) (T := TX6) (N := 6) (n := 6) hwg q_us_6 (hwg _ q_is_6)
  obtain ⟨c7, iS7, hKn7⟩ := u_known (C := RX7) (T := TX7) (N := 5) (n := 5) hwg q_us_7 (hwg _ q_is_7)
  obtain ⟨c8, iS8, hKn8⟩ := u_known (C := RX8) (T := TX8) (N := 8) (n := 8) hwg q_us_8 (hwg _ q_is_8)
  obtain ⟨c9, iS9, hKn9⟩ := u_known (C := RX9) (T := TX9) (N := 28) (n := 28) hwg q_us_9 (hwg _ q_is_9)
  refine ⟨fun k => if k = 0 then c0 else if k = 1 then c1 else if k = 2 then c2 else if k = 3 then c3 else if k = 4 then c4 else if k = 5 then c5 else if k = 6 then c6 else if k = 7 then c7 else if k = 8 then c8 else c9, fun k => if k = 0 then iS0 else if k = 1 then iS1 else if k = 2 then iS2 else if k = 3 then iS3 else if k = 4 then iS4 else if k = 5 then iS5 else if k = 6 then iS6 else if k = 7 then iS7 else if k = 8 then iS8 else iS9, ?_⟩
  intro k q hq
  match k, hq with
  | 0, hq => cases hq; exact hKn0
  | 1, hq => cases hq; exact hKn1
  | 2, hq => cases hq; exact hKn2
  | 3, hq => cases hq; exact hKn3
  | 4, hq => cases hq; exact hKn4
  | 5, hq => cases hq; exact hKn5
  | 6, hq => cases hq; exact hKn6
  | 7, hq => cases hq; exact hKn7
  | 8, hq => cases hq; exact hKn8
  | 9, hq => cases hq; exact hKn9
  | n + 10, hq => simp [vwCl] at hq
theorem law_fact {b : Nat} {s : State} (hgv : (Jvm.Cond.and given_1 narrow_1).before #[Value.ref b] s = true) (A : Nat → Prop) (hA : ∀ a : Nat, a < s.heap.size → ¬ A a) : ∃ t : Nat, (Term.static RX8 "FACTORIALS" "[I").eval #[Value.ref b] s none [] s = some (.ref t) ∧ va_T .int t 7 (fun j => .int (fct j)) A s s.heap := by
  have hs := flat_of_before _ hgv
  have harr : (Cond.arrayOf (.static RX8 "FACTORIALS" "[I") .int).before #[Value.ref b] s = true := hs _ (by decide +kernel)
  have hlen : (Cond.eq (.length (.static RX8 "FACTORIALS" "[I")) (.int 7)).before #[Value.ref b] s = true := hs _ (by decide +kernel)
  have he0 : (Cond.eq (.elem (.static RX8 "FACTORIALS" "[I") (.int 0)) (.int 1)).before #[Value.ref b] s = true := hs _ (by decide +kernel)
  have he1 : (Cond.eq (.elem (.static RX8 "FACTORIALS" "[I") (.int 1)) (.int 1)).before #[Value.ref b] s = true := hs _ (by decide +kernel)
  have he2 : (Cond.eq (.elem (.static RX8 "FACTORIALS" "[I") (.int 2)) (.int 2)).before #[Value.ref b] s = true := hs _ (by decide +kernel)
  have he3 : (Cond.eq (.elem (.static RX8 "FACTORIALS" "[I") (.int 3)) (.int 6)).before #[Value.ref b] s = true := hs _ (by decide +kernel)
  have he4 : (Cond.eq (.elem (.static RX8 "FACTORIALS" "[I") (.int 4)) (.int 24)).before #[Value.ref b] s = true := hs _ (by decide +kernel)
  have he5 : (Cond.eq (.elem (.static RX8 "FACTORIALS" "[I") (.int 5)) (.int 120)).before #[Value.ref b] s = true := hs _ (by decide +kernel)
  have he6 : (Cond.eq (.elem (.static RX8 "FACTORIALS" "[I") (.int 6)) (.int 720)).before #[Value.ref b] s = true := hs _ (by decide +kernel)
  refine va_Tof (by decide) harr (law_eqi hlen) (fun j hj => ?_) hA
  match j, hj with
  | 0, _ => exact law_eqi he0
  | 1, _ => exact law_eqi he1
  | 2, _ => exact law_eqi he2
  | 3, _ => exact law_eqi he3
  | 4, _ => exact law_eqi he4
  | 5, _ => exact law_eqi he5
  | 6, _ => exact law_eqi he6
  | n + 7, h => exact absurd h (by omega)
theorem law_str {cls text : String} {index : Nat} {args : Array Value} {s : State} (h : (Cond.stringRef cls index text).before args s = true) : ∃ sa, vk_R cls index text sa s := by
  have h' : (Cond.stringRef cls index text).before #[] s = true := h
  cases hc : s.vm.findClass cls with
  | none => simp [Cond.before, Cond.holds, Cond.value, hc] at h'
  | some cur =>
    obtain ⟨k, cf, i, a, -, -, -, -, -, hev⟩ := Cond.stringRef_spec hc h'
    exact ⟨a, vk_R.of h' hev⟩
theorem law_xc {b : Nat} {s : State} {A : Nat → Prop} (l : Launch) (hflags : l.flags = flags0) (hts : ∀ w ∈ lw_tbl, w.before #[Value.ref b] s = true) (hgv : (Jvm.Cond.and given_1 narrow_1).before #[Value.ref b] s = true) (hOW : ∀ w ∈ OW, va_Nw w s) (hAn : ∀ a : Nat, a < s.heap.size → ¬ A a) : Xc l A s := by
  have hs := flat_of_before _ hgv
  refine ⟨?_, vx_Zqof (hts _ lu_mem) (hts _ it_mem) (hs _ (by decide +kernel)) hAn, vx_Zqof (hts _ lq_mem) (hts _ it_mem) (hs _ (by decide +kernel)) hAn, hOW, fun q hq => ?_, fun q hq => ?_⟩
  · unfold Launch.stackTraces
    rw [hflags]
    decide +kernel
  · exact law_str (hts _ (st_mem q hq))
  · simp only [NCp, List.mem_cons, List.not_mem_nil, or_false] at hq
    rcases hq with rfl | rfl | rfl | rfl | rfl | rfl <;> exact va_Nc.of (args := #[Value.ref b]) (hs _ (by decide +kernel))
set_option maxRecDepth 100000 in
set_option maxHeartbeats 40000000 in
/-- the law from its entry, if its loop as a function runs to 1 -/
theorem law_start {p : Program} {e : Env} {s : State} {m : MethodId} {below : List Frame} {meth : Method} {c : Code} (l : Launch) (hflags : l.flags = flags0) {b L : Nat} {xs : Nat → Int32} (hL : L ≤ 2560) (C0 : lw_At p s m meth c b L xs) (hf : lo (f_law xs L) (0, σ0, τ0) = some 1) : W p l e room_1 s m #[Value.ref b] below meth c s.heap [] 0 0 (lw_Z below #[Value.ref b] s) (entryFrame m ([Value.ref b] : List Value).toArray 7) := by
  obtain ⟨hx, hb, hr, hml, hown, hts, hX, hbl, hlocks, hgv⟩ := id C0
  obtain ⟨A, hAe⟩ : ∃ A : Nat → Prop, A = fun q : Nat => s.heap.size ≤ q := ⟨_, rfl⟩
  have hA0 : ∀ q : Nat, s.heap.size ≤ q → A q := fun q h => by rw [hAe]; exact h
  have hA1 : ∀ q : Nat, A q → s.heap.size ≤ q := fun q h => by rw [hAe] at h; exact h
  have hAn : ∀ a : Nat, a < s.heap.size → ¬ A a := fun a h h2 => Nat.lt_irrefl _ (Nat.lt_of_lt_of_le h (hA1 a h2))
  obtain ⟨cA, hcA⟩ := law_arr hts
  obtain ⟨dC, dI, hKc⟩ := law_cls hts
  have hK : va_K (dC, dI) vwCl (tyv cA) s := ⟨hKc, hcA⟩
  have hWG : ∀ w ∈ WG, w.before #[Value.ref b] s = true := fun w hw => hts w (List.mem_filter.mp hw).1
  have hNW : ∀ w ∈ NW, va_Nw w s := fun w hw => va_Nw.of (nw_onT hw) (hts w (List.mem_filter.mp hw).1)
  have hOW : ∀ w ∈ OW, va_Nw w s := fun w hw => va_Nw.of (ow_onT hw) (hts w (List.mem_filter.mp hw).1)
  obtain ⟨t, ht, hT⟩ := law_fact hgv A hAn
  have hX9 : Xc l A s := law_xc l hflags hts hgv hOW hAn
  have CZ : Cz p l s m #[Value.ref b] meth c code RL 7 ret (dC, dI) cA A := ⟨hx, hb, hr, hml, hown, hWG, hNW, hK, hlocks, hts _ ao_mem, hA0⟩
  have C := CZ
  have hl := lv_entry ([.ref b]) (n := 7) (Nat.le_of_ble_eq_true rfl)
  rw [lg_entry_eq]
  have hP : va_P (dC, dI) vwCl [] s.heap := fun k q h => by simp at h
  have hD : va_D A [] := ⟨fun i j p q h => by simp at h, fun k q h => by simp at h⟩
  suffices Z : Zj p l e room_1 s m #[Value.ref b] below meth c 7 (dC, dI) A 0 0 (lw_Z below #[Value.ref b] s) [] 0 (lv_args 0 [.ref b]) [] from Z s.heap [] _ hP hD va_S.rf hl
  refine Z_sub [0] (lv' := [(0, .ref b)]) rfl ?_
  refine Z_new C (pc := 0) (fs := [.null, .null, .null, .null, .null, .null, .null, .null]) (ty0 := tyX8) (C0 := RX8) (T := TX8) (N := 8) (ci := 8) rfl q_us_8 tyX8_ok q_cn_RL_8 q_is_8 q_in_RX8 (fun j hj => match j, hj with | 0, _ => rfl | 1, _ => rfl | 2, _ => rfl | 3, _ => rfl | 4, _ => rfl | 5, _ => rfl | 6, _ => rfl | 7, _ => rfl | n + 8, h => absurd h (by omega)) ⟨Nat.le_of_ble_eq_true rfl, Nat.le_of_ble_eq_true rfl⟩ dL_law_0 (fun q0 => ?_)
  refine Z_eq (ws' := [(q0, .inr (8, [.null, .null, .null, .null, .null, .null, .null, .null]))]) rfl ?_
  refine Z_dup C (pc := 3) rfl dL_law_3 ?_
  refine Z_callI C (pc := 4) (wr := []) q0 [.ref q0] [0] [] rfl rfl rfl rfl rfl (by decide) [] (i_X8_init (D := (dC, dI)) (cA := cA) (h0 := q0)) rfl rfl rfl q_cw_yX8_init q_ml_RL_84 q_im_yX8_init ⟨⟨Nat.le_of_ble_eq_true rfl, Nat.le_of_ble_eq_true rfl⟩, ⟨Nat.le_of_ble_eq_true rfl, Nat.le_of_ble_eq_true rfl⟩, Nat.le_of_ble_eq_true rfl⟩ dL_law_4 (fun u hu => ?_)
  refine Z_eq (ws' := w1_X8_init cA q0 u) rfl ?_
  refine Z_astore_n C (pc := 7) (lv' := [(1, .ref q0), (0, .ref b)]) 1 rfl (by decide) rfl dL_law_7 ?_
  refine Z_new C (pc := 8) (fs := [.null, .null, .null, .int 0, .null, .int 0, .int 0, .null, .null, .null, .null, .null, .null, .null, .int 0, .null, .null, .null, .null, .int 0, .null, .null, .null, .null, .int 0, .int 0, .null, .long 0]) (ty0 := tyX9) (C0 := RX9) (T := TX9) (N := 28) (ci := 9) rfl q_us_9 tyX9_ok q_cn_RL_85 q_is_9 q_in_RX9 (fun j hj => match j, hj with | 0, _ => rfl | 1, _ => rfl | 2, _ => rfl | 3, _ => rfl | 4, _ => rfl | 5, _ => rfl | 6, _ => rfl | 7, _ => rfl | 8, _ => rfl | 9, _ => rfl | 10, _ => rfl | 11, _ => rfl | 12, _ => rfl | 13, _ => rfl | 14, _ => rfl | 15, _ => rfl | 16, _ => rfl | 17, _ => rfl | 18, _ => rfl | 19, _ => rfl | 20, _ => rfl | 21, _ => rfl | 22, _ => rfl | 23, _ => rfl | 24, _ => rfl | 25, _ => rfl | 26, _ => rfl | 27, _ => rfl | n + 28, h => absurd h (by omega)) ⟨Nat.le_of_ble_eq_true rfl, Nat.le_of_ble_eq_true rfl⟩ dL_law_8 (fun q1 => ?_)
  refine Z_dup C (pc := 11) rfl dL_law_11 ?_
  refine Z_callI C (pc := 12) (wr := w1_X8_init cA q0 u) q1 [.ref q1] [75] [0, 1, 2, 3, 4, 5, 6, 7, 8, 9, 10, 11, 12, 13, 14, 15, 16, 17, 18, 19, 20, 21, 22, 23, 24, 25, 26, 27, 28, 29, 30, 31, 32, 33, 34, 35, 36, 37, 38, 39, 40, 41, 42, 43, 44, 45, 46, 47, 48, 49, 50, 51, 52, 53, 54, 55, 56, 57, 58, 59, 60, 61, 62, 63, 64, 65, 66, 67, 68, 69, 70, 71, 72, 73, 74] rfl rfl rfl rfl rfl (by decide) [] (i_X9_init (D := (dC, dI)) (cA := cA) (h0 := q1)) rfl rfl rfl q_cw_yX9_init q_ml_RL_87 q_im_yX9_init ⟨⟨Nat.le_of_ble_eq_true rfl, Nat.le_of_ble_eq_true rfl⟩, ⟨Nat.le_of_ble_eq_true rfl, Nat.le_of_ble_eq_true rfl⟩, Nat.le_of_ble_eq_true rfl⟩ dL_law_12 (fun v hv => ?_)
  refine Z_astore_n C (pc := 15) (lv' := [(2, .ref q1), (1, .ref q0), (0, .ref b)]) 2 rfl (by decide) rfl dL_law_15 ?_
  refine Z_iconst C (pc := 16) (v := (1 : Int32)) (by decide) dL_law_16 ?_
  refine Z_newa C (pc := 17) (atype := .long) (ty := .long) 1 (N' := 1) (a0 := (1, .inr (.inl (fun _ => 0)))) (b := cA 2) q_ac_2 rfl rfl (fun _ => rfl) (by decide) (by decide) (by decide) ⟨Nat.le_of_ble_eq_true rfl, Nat.le_of_ble_eq_true rfl⟩ dL_law_17 (fun q2 => ?_)
  refine Z_astore_n C (pc := 19) (lv' := [(3, .ref q2), (2, .ref q1), (1, .ref q0), (0, .ref b)]) 3 rfl (by decide) rfl dL_law_19 ?_
  refine Z_iconst C (pc := 20) (v := (0 : Int32)) (by decide) dL_law_20 ?_
  refine Z_istore C (pc := 21) (lv' := [(4, .int (0 : Int32)), (3, .ref q2), (2, .ref q1), (1, .ref q0), (0, .ref b)]) (by decide) rfl dL_law_21 ?_
  refine Z_widen (k := 97) (n := 26494) (Nat.le_of_ble_eq_true rfl) (Nat.le_of_ble_eq_true rfl) ?_
  intro H locs ls hP hD hS hl
  rw [List.append_assoc] at hP hD
  have hP : va_P (dC, dI) vwCl (L0 cA q0 q1 q2 u v) H := hP
  have hD : va_D A (L0 cA q0 q1 q2 u v) := hD
  obtain ⟨hI, hW⟩ := L0_D (t := t) hD hT.out
  have C2 : Ctx p l s m #[Value.ref b] meth c code RL 7 ret (dC, dI) cA (adr q0 q1 q2 t u v) A := ⟨hx, hb, hr, hml, hown, hWG, hNW, hK, hlocks, va_Zref (hts _ ls_mem) (hWG _ q_in_RX8) ht hAn, hT⟩
  exact law_loop 97 26494 (by decide) (by decide) hL C2 hX9 hX hbl (hAn b hbl) hA0 hA1 hI hW (by decide) hf H locs ls ⟨L0_P hP, rfl⟩ hS (lv_sub hl [4, 3, 2, 1, 0] rfl)
