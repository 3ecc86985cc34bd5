def isO : Cond → Bool
  | .declares _ => true
  | .castable _ _ => true
  | _ => false
def OW : List Cond := lw_tbl.filter isO
def STR : List (String × Nat × String) := [("AssignmentWorkbench", 64, "n is out of range"), ("AssignmentWorkbench", 315, "there is no such facility or location"), ("AssignmentWorkbench", 326, "there is no such table"), ("AssignmentWorkbench", 328, "the number is out of range"), ("AssignmentWorkbench", 102, "the start is below 0"), ("AssignmentWorkbench", 132, "no assignment has this number"), ("AssignmentWorkbench", 164, "the part is neither 0 nor 1"), ("AssignmentWorkbench", 324, "the facility or the location is fixed"), ("AssignmentWorkbench", 195, "the facility is free"), ("AssignmentWorkbench", 216, "the facility is fixed"), ("AssignmentWorkbench", 235, "there is no such result"), ("AssignmentWorkbench", 240, "the number of pairs is out of range"), ("AssignmentWorkbench", 249, "the code is out of range"), ("AssignmentWorkbench", 254, "the text is full"), ("AssignmentWorkbench", 263, "the text has a fault"), ("AssignmentWorkbench", 285, "there is no record")]
def XN : List String := ["java/lang/IllegalArgumentException", "java/lang/IllegalStateException", "java/lang/IndexOutOfBoundsException"]
def xn (k : Nat) : String := XN.getD k ""
def xch : List String := ["java/lang/RuntimeException", "java/lang/Exception"]
theorem ow_onT {w : Cond} (h : w ∈ OW) : w.onTables = true := by
  have := (List.mem_filter.mp h).2
  cases w <;> first | rfl | cases this
theorem ow_warm {w : Cond} (h : w ∈ OW) {s U : State} (hW : s.WarmedH U.vm) (hZ : va_Nw w s) : va_Nw w U := by
  have := (List.mem_filter.mp h).2
  cases w <;> first | exact va_Nw.warmD hW hZ | exact va_Nw.warmC hW hZ | cases this
/-- no pair of them can be cast -/
def NCp : List (String × String) := [(xn 0, xn 1), (xn 0, xn 2), (xn 1, xn 0), (xn 1, xn 2), (xn 2, xn 0), (xn 2, xn 1)]
def Xc (l : Launch) (A : Nat → Prop) (s : State) : Prop := l.stackTraces = false ∧ vx_Zq Bundle.tN "UNASSIGNED_STACK" Bundle.steD A s s.heap ∧ vx_Zq Bundle.tN "SUPPRESSED_SENTINEL" Bundle.listD A s s.heap ∧ (∀ w ∈ OW, va_Nw w s) ∧ (∀ q ∈ STR, ∃ sa, vk_R q.1 q.2.1 q.2.2 sa s) ∧ (∀ q ∈ NCp, va_Nc q.1 q.2 s)
def Ax (ρ : Nat → Nat) (sz : Nat) : Nat → Prop := fun q => Aw ρ q ∨ sz ≤ q
def WlX (l : Launch) (D : va_G) (cA ρ : Nat → Nat) (sz : Nat) (σ : Sg) (τ : Tg) (U : State) : Prop := U.heap.size = sz ∧ Wld D cA ρ (Ax ρ sz) σ τ U ∧ Xc l (Ax ρ sz) U
def XT (D : va_G) (cA ρ : Nat → Nat) (A : Nat → Prop) (σ : Sg) (τ : Tg) (E0 : String) : String → State → State → Prop := fun E st t => E = E0 ∧ VP D cA ρ σ τ t.heap ∧ va_F A st t
def NoQ : Array Value → State → Outcome → State → Prop := fun _ _ _ _ => False
def Rx (f k : Nat) : Room := { frames := f, cells := 1, slots := 6, locals := k }
/-- a method that throws -/
def CtT (l : Launch) (y : MethodName) (b : ByteArray) (n : Nat) (r : Option FieldType) (f k : Nat) (D : va_G) (cA ρ : Nat → Nat) (av : List Value) (σ : Sg) (τ : Tg) (E : String) (σ' : Sg) (τ' : Tg) : Prop :=
  ∀ sz, vx_Met l y (Cond.code y b n r :: WG) (Rx f k) (va_Pc av (WlX l D cA ρ sz σ τ)) NoQ (XT D cA ρ (Ax ρ sz) σ' τ' E) 1 6 (Ax ρ sz)
theorem Xc.calling {l : Launch} {A : Nat → Prop} {U : State} {g : JFrame} {mk : MethodId} {a : Array Value} (h : Xc l A U) : Xc l A (U.calling g mk a) := by
  obtain ⟨h1, h2, h3, h4, h5, h6⟩ := h
  exact ⟨h1, vx_Zq.moved (u := U) (U := U.calling g mk a) (Vm.Alike.refl U.vm) h2, vx_Zq.moved (u := U) (U := U.calling g mk a) (Vm.Alike.refl U.vm) h3, fun w hw => va_Nw.same (ow_onT hw) (u := U) (U := U.calling g mk a) rfl (h4 w hw), fun q hq => (h5 q hq).imp fun sa h => vk_R.same (u := U) (U := U.calling g mk a) rfl h, fun q hq => va_Nc.moved (u := U) (U := U.calling g mk a) (Vm.Alike.refl U.vm) (h6 q hq)⟩
theorem WlX.calling {l : Launch} {D : va_G} {cA ρ : Nat → Nat} {sz : Nat} {σ : Sg} {τ : Tg} {av : List Value} : FrameBlind (va_Pc av (WlX l D cA ρ sz σ τ)) := by
  intro a U g mk h
  obtain ⟨rfl, h1, h2, h3⟩ := h
  exact ⟨rfl, h1, (Wld.calling (av := av) _ U g mk ⟨rfl, h2⟩).2, h3.calling⟩
theorem Xc.at {p : Program} {l : Launch} {s : State} {m : MethodId} {args : Array Value} {A A' : Nat → Prop} {H : Heap} {locs : List Loc} (X : Xc l A s) (hA : ∀ q, A' q → A q) (hS : va_S A s.heap H locs) : ∀ U : State, U.heap = H → s.WarmedH U.vm → Xc l A' U := by
  intro U hU hW
  obtain ⟨h1, h2, h3, h4, h5, h6⟩ := X
  refine ⟨h1, ?_, ?_, fun w hw => ow_warm hw hW (h4 w hw), fun q hq => (h5 q hq).imp fun sa h => vk_R.warm hW h, fun q hq => va_Nc.moved hW.alike (h6 q hq)⟩
  · rw [hU]
    exact ((h2.kept (H1 := H) (fun a ha hq => hS.2.1 a ha hq)).moved hW.alike).narrow hA
  · rw [hU]
    exact ((h3.kept (H1 := H) (fun a ha hq => hS.2.1 a ha hq)).moved hW.alike).narrow hA
theorem CtT_of {l : Launch} {y : MethodName} {b : ByteArray} {n : Nat} {r : Option FieldType} {f k : Nat} {D : va_G} {cA ρ : Nat → Nat} {av : List Value} {σ : Sg} {τ : Tg} {E : String} {σ' : Sg} {τ' : Tg} (hy : plainName y.cls = true) (hn : (lg_sl av).length ≤ n)
    (body : ∀ (p : Program) (e : Env) (s : State) (m : MethodId) (args : Array Value) (below : List Frame) (meth : Method) (c : Code), Ctx p l s m args meth c b y.cls n r D cA ρ (Ax ρ s.heap.size) → Xc l (Ax ρ s.heap.size) s → (∀ x ∈ c.exceptionTable.toList, False) → Y p l e (Rx f k) s m args below meth c n D cA ρ (Ax ρ s.heap.size) 0 0 (vx_MQ below NoQ (XT D cA ρ (Ax ρ s.heap.size) σ' τ' E) args s 1 6 (Ax ρ s.heap.size)) σ τ 0 (lv_args 0 av) []) : CtT l y b n r f k D cA ρ av σ τ E σ' τ' := by
  intro sz
  refine vx_ofW (cc := b) (maxL := n) (ret := r) hy rfl ?_
  intro p e s m args below meth c s₁ B hml hno hv
  obtain ⟨rfl, rfl, ⟨hP, hK, hN, hZ, h97⟩, hX⟩ := hv
  have hts := atoms_spec (ws := Cond.code y b n r :: WG) B.pre
  have hown : s.vm.findClass y.cls = some m.cls := findClass_of_methodNamed B.named
  have hl := lv_entry av (n := n) hn
  rw [lg_entry_eq]
  exact body p e s m _ below meth c ⟨B.exec, B.bytes, B.returns, hml, hown, fun w hw => hts w (List.mem_cons_of_mem _ hw), hN, hK, B.notSynchronized, hZ, h97⟩ hX hno s.heap [] _ hP va_S.rf hl
section YT
variable {p : Program} {l : Launch} {e : Env} {R : Room} {s : State} {m : MethodId} {args : Array Value} {below : List Frame} {meth : Method} {c : Code} {cc : ByteArray} {own : String} {nL : Nat} {ret : Option FieldType} {D : va_G} {cA ρ : Nat → Nat} {A : Nat → Prop} {cells slots : Nat} {Q : State → Prop} {σ : Sg} {τ : Tg} {pc : Nat} {lv : List (Nat × Value)} {st : List Value}
/-- throw new E(text) -/
theorem Y_throw {σ0 : Sg} {τ0 : Tg} {E text : String} {ik is ic : Nat} (C : Ctx p l s m args meth c cc own nL ret D cA ρ A) (X : Xc l A s) (hno : ∀ x ∈ c.exceptionTable.toList, False) (hE : Bundle.fit E = true) (hk : Cond.classLink own ik E ∈ WG) (hi : Cond.initialized E ∈ WG) (hs : (own, is, text) ∈ STR) (hat : ∀ w ∈ vx_atS own ic E xch, w ∈ WG ∨ w ∈ OW)
    (d0 : decode cc pc = .ok (.new ik, 3)) (d3 : decode cc (pc + 3) = .ok (.dup, 1)) (d4 : decode cc (pc + 4) = .ok (.ldc is, 2)) (d6 : decode cc (pc + 6) = .ok (.invokespecial ic, 3)) (d9 : decode cc (pc + 9) = .ok (.athrow, 1))
    (hr : 5 < R.frames ∧ (st.map fun v => v.category).sum + 82 ≤ R.locals ∧ 1 ≤ R.cells ∧ 6 ≤ R.slots) (hA : ∀ q, s.heap.size ≤ q → A q) : Y p l e R s m args below meth c nL D cA ρ A 0 0 (vx_MQ below NoQ (XT D cA ρ A σ τ E) args s 1 6 A) σ τ pc lv st := fun H locs ls hP hS hl => by
  obtain ⟨sa, hsa⟩ := X.2.2.2.2.1 _ hs
  refine vx_throwS (names := xch) C.1 C.2.1 X.1 C.2.2.2.2.1 hE (by decide +kernel) (C.2.2.2.2.2.1 _ hk) (C.2.2.2.2.2.1 _ hi) hsa (fun w hw => ?_) (fun w hw => ?_) X.2.1 X.2.2.1 hS (hl.1.trans C.2.2.2.1.symm) d0 d3 d4 d6 d9 (fun x hx => (hno x hx).elim) hr.1 hr.2.1 hr.2.2.1 hr.2.2.2 C.2.2.2.2.2.2.2.2.1 (fun t hal hz hq => ⟨rfl, ?_, ?_⟩) hS.2.2 (Nat.le_refl _) (Nat.le_refl _)
  · rcases hat w hw with h | h
    · exact C.2.2.2.2.2.1 w h
    · exact va_Nw.use (ow_onT h) (X.2.2.2.1 w h)
  · rcases List.mem_cons.mp hw with rfl | hw
    · simp only [vx_ot, (List.mem_filter.mp hk).2, Bool.or_true]
    rcases List.mem_cons.mp hw with rfl | hw
    · simp only [vx_ot, (List.mem_filter.mp hi).2, Bool.or_true]
    rcases hat w hw with h | h
    · simp only [vx_ot, (List.mem_filter.mp h).2, Bool.or_true]
    · simp only [vx_ot, ow_onT h, Bool.true_or]
  · exact hP.kept hq
  · exact ⟨Nat.le_trans hS.1 hz, fun q h1 h2 => by rw [hq q (Nat.lt_of_lt_of_le h1 hS.1)]; exact hS.2.1 q h1 h2⟩
/-- throw new E(text) -/
theorem Y_throwW {σ0 : Sg} {τ0 : Tg} {E text : String} {ik is ic : Nat} (C : Ctx p l s m args meth c cc own nL ret D cA ρ A) (X : Xc l A s) (hno : ∀ x ∈ c.exceptionTable.toList, False) (hE : Bundle.fit E = true) (hk : Cond.classLink own ik E ∈ WG) (hi : Cond.initialized E ∈ WG) (hs : (own, is, text) ∈ STR) (hat : ∀ w ∈ vx_atS own ic E xch, w ∈ WG ∨ w ∈ OW)
    (d0 : decode cc pc = .ok (.new ik, 3)) (d3 : decode cc (pc + 3) = .ok (.dup, 1)) (d4 : decode cc (pc + 4) = .ok (.ldc_w is, 3)) (d6 : decode cc (pc + 7) = .ok (.invokespecial ic, 3)) (d9 : decode cc (pc + 10) = .ok (.athrow, 1))
    (hr : 5 < R.frames ∧ (st.map fun v => v.category).sum + 82 ≤ R.locals ∧ 1 ≤ R.cells ∧ 6 ≤ R.slots) (hA : ∀ q, s.heap.size ≤ q → A q) : Y p l e R s m args below meth c nL D cA ρ A 0 0 (vx_MQ below NoQ (XT D cA ρ A σ τ E) args s 1 6 A) σ τ pc lv st := fun H locs ls hP hS hl => by
  obtain ⟨sa, hsa⟩ := X.2.2.2.2.1 _ hs
  refine vx_throwSW (names := xch) C.1 C.2.1 X.1 C.2.2.2.2.1 hE (by decide +kernel) (C.2.2.2.2.2.1 _ hk) (C.2.2.2.2.2.1 _ hi) hsa (fun w hw => ?_) (fun w hw => ?_) X.2.1 X.2.2.1 hS (hl.1.trans C.2.2.2.1.symm) d0 d3 d4 d6 d9 (fun x hx => (hno x hx).elim) hr.1 hr.2.1 hr.2.2.1 hr.2.2.2 C.2.2.2.2.2.2.2.2.1 (fun t hal hz hq => ⟨rfl, ?_, ?_⟩) hS.2.2 (Nat.le_refl _) (Nat.le_refl _)
  · rcases hat w hw with h | h
    · exact C.2.2.2.2.2.1 w h
    · exact va_Nw.use (ow_onT h) (X.2.2.2.1 w h)
  · rcases List.mem_cons.mp hw with rfl | hw
    · simp only [vx_ot, (List.mem_filter.mp hk).2, Bool.or_true]
    rcases List.mem_cons.mp hw with rfl | hw
    · simp only [vx_ot, (List.mem_filter.mp hi).2, Bool.or_true]
    rcases hat w hw with h | h
    · simp only [vx_ot, (List.mem_filter.mp h).2, Bool.or_true]
    · simp only [vx_ot, ow_onT h, Bool.true_or]
  · exact hP.kept hq
  · exact ⟨Nat.le_trans hS.1 hz, fun q h1 h2 => by rw [hq q (Nat.lt_of_lt_of_le h1 hS.1)]; exact hS.2.1 q h1 h2⟩
/-- behind a call that throws, in a method that doesn't catch -/
theorem Y_retT {E : String} {σ' : Sg} {τ' : Tg} {A' : Nat → Prop} {a : Array Value} {H : Heap} {locs : List Loc} {ls : Array Slot} {rest st0 : List Value} (hno : ∀ x ∈ c.exceptionTable.toList, False) (hlocks : meth.locks = false) (hr : vx_Run p l e R s m args below meth c H locs 0 0 1 6 (F0 m pc ls st0) rest (NoQ a) (XT D cA ρ A' σ' τ' E) A') (hS : va_S A s.heap H locs) (hA : ∀ q, A' q → A q) : W p l e R s m args below meth c H locs 0 0 (vx_MQ below NoQ (XT D cA ρ A σ' τ' E) args s 1 6 A) (F0 m pc ls st0) := by
  intro T hT X
  rcases hr T hT X with ⟨v, st₀, t, T', L, h0, X', hL, e1, e2, hF, st⟩ | ⟨q, st₀, t, T', L, E', ce, h0, X', hL, e1, e2, ⟨rfl, hp, hz, hk⟩, hce, hcv, hcl, go⟩
  · exact hF.elim
  · rw [h0] at hz hk
    rw [← e1] at hz hk hp
    obtain ⟨t2, a1, b1⟩ := vx_out (H := T'.heap) (ls := ls) (rest := rest) (pc := pc) (E := E') (ce := ce) (Qc := NoQ) (XC := XT D cA ρ A σ' τ' E') (args := args) (mc := 1) (ms := 6) (free := A) (fun x hx => (hno x hx).elim) hlocks (by rw [e1]; exact hce) hcv hcl
      (fun u hu _ => ⟨rfl, by rw [hu]; exact hp, by rw [hu]; exact Nat.le_trans hS.1 hz, fun q g1 g2 => by rw [hu, hk q (Nat.lt_of_lt_of_le g1 hS.1) (fun z => g2 (hA q z))]; exact hS.2.1 q g1 g2⟩)
      (fun z hz' => (List.mem_append.mp hz').elim (fun h => hS.2.2 z h) (fun h => hA _ (hL z h))) (Nat.le_refl _) (Nat.le_refl _) T' rfl X'
    exact ⟨t2, go.trans a1, b1⟩
theorem Ax_le {H0 H : Heap} {locs : List Loc} (hS : va_S (Ax ρ H0.size) H0 H locs) : ∀ q, Ax ρ H.size q → Ax ρ H0.size q := fun q h => h.elim Or.inl (fun h => Or.inr (Nat.le_trans hS.1 h))
def CrX (R : Room) (f k n : Nat) (rest : List Value) : Prop := (f + 1 ≤ R.frames ∧ 8 + (n + 11) + k ≤ R.locals) ∧ (1 ≤ R.cells ∧ 6 ≤ R.slots) ∧ (rest.map fun v => v.category).sum ≤ 8
theorem Y_callST (C : Ctx p l s m args meth c cc own nL ret D cA ρ (Ax ρ s.heap.size)) (X : Xc l (Ax ρ s.heap.size) s) (hno : ∀ x ∈ c.exceptionTable.toList, False) {index : Nat} {y : MethodName} {b : ByteArray} {n : Nat} {r : Option FieldType} {f kl na : Nat} {E : String} {σ' : Sg} {τ' : Tg} (av : List Value) (rest : List Value)  (hM : CtT l y b n r f kl D cA ρ av σ τ E σ' τ') (hw : Cw y b n r na) (hlink : Cond.methodLink own index y ∈ WG) (hs : Cond.static y ∈ WG) (hcr : CrX R f kl n rest) (hn : av.length = na) (h0 : st = av.reverse ++ rest) (hd : decode cc pc = .ok (.invokestatic index, 3)) : Y p l e R s m args below meth c nL D cA ρ (Ax ρ s.heap.size) 0 0 (vx_MQ below NoQ (XT D cA ρ (Ax ρ s.heap.size) σ' τ' E) args s 1 6 (Ax ρ s.heap.size)) σ τ pc lv st := fun H locs ls hP hS hl =>
  Y_retT hno C.2.2.2.2.2.2.2.2.1 (vx_runS (As := av) (rest := rest) ⟨C.1, C.2.1, C.2.2.2.1, C.2.2.2.2.1, C.2.2.2.2.2.1⟩ (hM H.size) ⟨(callB_of na C.2.2.2.2.2.1 (wg_good y b n r hw.1) rfl rfl rfl (C.2.2.2.2.2.1 _ hw.2.1) (C.2.2.2.2.2.1 _ hlink) hw.2.2 hcr.1), C.2.2.2.2.2.1 _ hs⟩ ⟨WlX.calling, fun U hU hW => ⟨rfl, by rw [hU], Wld.at C (Ax_le hS) hP hS U hU hW, Xc.at (p := p) (m := m) (args := args) X (Ax_le hS) hS U hU hW⟩⟩ rfl hn hl.1 h0 (by show 2 * 0 + _ ≤ 8; have := hcr.2.2; omega) hd ⟨by have := hcr.2.1.1; omega, by have := hcr.2.1.2; omega⟩) hS (Ax_le hS)
theorem Y_callVT (C : Ctx p l s m args meth c cc own nL ret D cA ρ (Ax ρ s.heap.size)) (X : Xc l (Ax ρ s.heap.size) s) (hno : ∀ x ∈ c.exceptionTable.toList, False) {index : Nat} {y : MethodName} {b : ByteArray} {n : Nat} {r : Option FieldType} {f kl na : Nat} {E : String} {σ' : Sg} {τ' : Tg} (av : List Value) (rest : List Value) {kb ci : Nat} {qc : vw_C} (hkb : kd kb = (0, ci)) (hc : vwCl[ci]? = some qc) (hcl : qc.1 = y.cls) (hM : CtT l y b n r f kl D cA ρ (.ref (ρ kb) :: av) σ τ E σ' τ') (hw : Cw y b n r na) (hlink : Cond.methodLink own index y ∈ WG) (hs : Cond.instanceMethod y ∈ WG ∧ Cond.selects y.cls y y ∈ WG) (hcr : CrX R f kl n rest) (hn : av.length = na) (h0 : st = av.reverse ++ .ref (ρ kb) :: rest) (hd : decode cc pc = .ok (.invokevirtual index, 3)) : Y p l e R s m args below meth c nL D cA ρ (Ax ρ s.heap.size) 0 0 (vx_MQ below NoQ (XT D cA ρ (Ax ρ s.heap.size) σ' τ' E) args s 1 6 (Ax ρ s.heap.size)) σ τ pc lv st := fun H locs ls hP hS hl =>
  Y_retT hno C.2.2.2.2.2.2.2.2.1 (vx_runV (As := av) (rest := rest) ⟨C.1, C.2.1, C.2.2.2.1, C.2.2.2.2.1, C.2.2.2.2.2.1⟩ (hM H.size) ⟨(callB_of na C.2.2.2.2.2.1 (wg_good y b n r hw.1) rfl rfl rfl (C.2.2.2.2.2.1 _ hw.2.1) (C.2.2.2.2.2.1 _ hlink) hw.2.2 hcr.1), C.2.2.2.2.2.1 _ hs.1, C.2.2.2.2.2.1 _ hs.2⟩ ⟨WlX.calling, hcl ▸ va_recv C.2.2.2.2.2.2.2.1 hP.1 hc ((wd_get ρ cA σ τ (kd_l7 hkb (by decide) (by decide))).trans (by rw [wc_o hkb])), fun U hU hW => ⟨rfl, by rw [hU], Wld.at C (Ax_le hS) hP hS U hU hW, Xc.at (p := p) (m := m) (args := args) X (Ax_le hS) hS U hU hW⟩⟩ rfl hn hl.1 h0 (by show 2 * 0 + _ ≤ 8; have := hcr.2.2; omega) hd ⟨by have := hcr.2.1.1; omega, by have := hcr.2.1.2; omega⟩) hS (Ax_le hS)
end YT
