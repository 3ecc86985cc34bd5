theorem Met_ofWH {l : Launch} {y : MethodName} {ws ws' : List Cond} {rm : Room} {Pc : Array Value → State → Prop} {Qc : Array Value → State → Outcome → State → Prop} {mc ms : Nat} {free : Addr → Prop} {cc : ByteArray} {maxL : Nat} {ret : Option FieldType} {hh : List (Nat × Nat × Nat × Nat)}
    (hy : plainName y.cls = true) (hw : ws = Cond.codeWith y cc maxL ret hh :: ws')
    (body : ∀ p e s m args below meth c s₁, BodyLoose p l y (headSpec ws rm) cc maxL ret e s m args below meth c s₁ → c.maxLocals = maxL → Pc args s →
      W p l e (headSpec ws rm).room s m args below meth c s.heap [] 0 0 (MQ below Qc args s mc ms free) (entryFrame m args maxL)) : Met l y ws rm Pc Qc mc ms free := by
  refine MetFree.of_bodyS (code := cc) (maxLocals := maxL) (ret := ret) hy ?_ ?_
  · intro args s m h hn
    obtain ⟨m9, meth, c, hn9, h1, h2, h3, h4, -, h5, h6, -⟩ := Cond.codeWith_spec (atoms_spec (ws := ws) h _ (by rw [hw]; exact List.mem_cons_self))
    cases hn.symm.trans hn9
    exact ⟨meth, c, h1, h2, h3, h4, h5, h6⟩
  · intro p e s m args below meth c s₁ B hml hP _
    have hh0 : s₁.heap = s.heap := by rw [B.state]; rfl
    obtain ⟨t, a1, o, b1, b2, b3⟩ := body p e s m args below meth c s₁ B hml hP s₁ hh0 (Stand.of_body B)
    exact ⟨t, o, a1, b1, b2, ⟨b3.1, b3.2⟩⟩
def CtA (l : Launch) (y : MethodName) (b : ByteArray) (n : Nat) (r : Option FieldType) (hh : List (Nat × Nat × Nat × Nat)) (f k : Nat) (D : va_G) (cA ρ : Nat → Nat) (av : List Value) (σ : Sg) (τ : Tg) (v : Option Value) (σ' : Sg) (τ' : Tg) : Prop :=
  ∀ sz, Met l y (Cond.codeWith y b n r hh :: WG) (Rx f k) (va_Pc av (WlX l D cA ρ sz σ τ)) (QC D cA ρ (Ax ρ sz) v σ' τ') 1 6 (Ax ρ sz)
theorem CtA_of {l : Launch} {y : MethodName} {b : ByteArray} {n : Nat} {r : Option FieldType} {hh : List (Nat × Nat × Nat × Nat)} {f k : Nat} {D : va_G} {cA ρ : Nat → Nat} {av : List Value} {σ : Sg} {τ : Tg} {v : Option Value} {σ' : Sg} {τ' : Tg} (hy : plainName y.cls = true) (hn : (lg_sl av).length ≤ n)
    (body : ∀ (p : Program) (e : Env) (s : State) (m : MethodId) (args : Array Value) (below : List Frame) (meth : Method) (c : Code), Ctx p l s m args meth c b y.cls n r D cA ρ (Ax ρ s.heap.size) → Xc l (Ax ρ s.heap.size) s → c.exceptionTable.toList = tableOf hh → Y p l e (Rx f k) s m args below meth c n D cA ρ (Ax ρ s.heap.size) 0 0 (MQ below (QC D cA ρ (Ax ρ s.heap.size) v σ' τ') args s 1 6 (Ax ρ s.heap.size)) σ τ 0 (lv_args 0 av) []) : CtA l y b n r hh f k D cA ρ av σ τ v σ' τ' := by
  intro sz
  refine Met_ofWH (cc := b) (maxL := n) (ret := r) hy rfl ?_
  intro p e s m args below meth c s₁ B hml hv
  obtain ⟨rfl, rfl, ⟨hP, hK, hN, hZ, h97⟩, hX⟩ := hv
  have hts := atoms_spec (ws := Cond.codeWith y b n r hh :: WG) B.pre
  have hown : s.vm.findClass y.cls = some m.cls := findClass_of_methodNamed B.named
  have hl := lv_entry av (n := n) hn
  rw [lg_entry_eq]
  exact body p e s m _ below meth c ⟨B.exec, B.bytes, B.returns, hml, hown, fun w hw => hts w (List.mem_cons_of_mem _ hw), hN, hK, B.notSynchronized, hZ, h97⟩ hX (vx_table (x := y) B (hts _ List.mem_cons_self)) s.heap [] _ hP va_S.rf hl
section YC
variable {p : Program} {l : Launch} {e : Env} {R : Room} {s : State} {m : MethodId} {args : Array Value} {below : List Frame} {meth : Method} {c : Code} {cc : ByteArray} {own : String} {nL : Nat} {ret : Option FieldType} {D : va_G} {cA ρ : Nat → Nat} {A : Nat → Prop} {cells slots : Nat} {Q : State → Prop} {σ : Sg} {τ : Tg} {pc : Nat} {lv : List (Nat × Value)} {st : List Value}
theorem Y_widen {k n : Nat} (h1 : cells ≤ k) (h2 : slots ≤ n) (h : Y p l e R s m args below meth c nL D cA ρ A k n Q σ τ pc lv st) : Y p l e R s m args below meth c nL D cA ρ A cells slots Q σ τ pc lv st := fun H locs ls hP hS hl => W.widen h1 h2 (h H locs ls hP hS hl)
theorem Y_callVC {index : Nat} {y : MethodName} {b : ByteArray} {n : Nat} {r : Option FieldType} {f kl na : Nat} {E name : String} {σ' : Sg} {τ' : Tg} {hh : List (Nat × Nat × Nat × Nat)} (C : Ctx p l s m args meth c cc own nL ret D cA ρ (Ax ρ s.heap.size)) (X : Xc l (Ax ρ s.heap.size) s) (ht : c.exceptionTable.toList = tableOf hh) (av : List Value) (rest : List Value) {kb ci : Nat} {qc : vw_C} (hkb : kd kb = (0, ci)) (hc : vwCl[ci]? = some qc) (hcl : qc.1 = y.cls) (hM : CtT l y b n r f kl D cA ρ (.ref (ρ kb) :: av) σ τ E σ' τ') (hw : Cw y b n r na) (hlink : Cond.methodLink own index y ∈ WG) (hs : Cond.instanceMethod y ∈ WG ∧ Cond.selects y.cls y y ∈ WG) (hcr : CrX R f kl n rest) (hn : av.length = na) (h0 : st = av.reverse ++ .ref (ρ kb) :: rest) (hd : decode cc pc = .ok (.invokevirtual index, 3))
    (pre : List ExceptionTableEntry) (x : ExceptionTableEntry) (suf : List ExceptionTableEntry) (hsplit : tableOf hh = pre ++ x :: suf) (hpass : ∀ z ∈ pre, z.catchType ≠ 0 ∧ ∃ nm : String, Cond.classLink own z.catchType nm ∈ WG ∧ (E, nm) ∈ NCp) (hx : covers x pc = true) (h0x : x.catchType ≠ 0) (hlink2 : Cond.classLink own x.catchType name ∈ WG) (hcast : Cond.castable E name ∈ OW)
    (k : ∀ q, Y p l e R s m args below meth c nL D cA ρ (Ax ρ s.heap.size) 1 6 Q σ' τ' x.handlerPc lv [.ref q]) : Y p l e R s m args below meth c nL D cA ρ (Ax ρ s.heap.size) 0 0 Q σ τ pc lv st := fun H locs ls hP hS hl => by
  have hr := vx_runV (As := av) (rest := rest) (g := F0 m pc ls st) ⟨C.1, C.2.1, C.2.2.2.1, C.2.2.2.2.1, C.2.2.2.2.2.1⟩ (hM H.size) ⟨(callB_of na C.2.2.2.2.2.1 (wg_good y b n r hw.1) rfl rfl rfl (C.2.2.2.2.2.1 _ hw.2.1) (C.2.2.2.2.2.1 _ hlink) hw.2.2 hcr.1), C.2.2.2.2.2.1 _ hs.1, C.2.2.2.2.2.1 _ hs.2⟩ ⟨WlX.calling, hcl ▸ va_recv C.2.2.2.2.2.2.2.1 hP.1 hc ((wd_get ρ cA σ τ (kd_l7 hkb (by decide) (by decide))).trans (by rw [wc_o hkb])), fun U hU hW => ⟨rfl, by rw [hU], Wld.at C (Ax_le hS) hP hS U hU hW, Xc.at (p := p) (m := m) (args := args) X (Ax_le hS) hS U hU hW⟩⟩ rfl hn hl.1 h0 (by show 2 * 0 + _ ≤ 8; have := hcr.2.2; omega) hd (cells := 0) (slots := 0) ⟨by have := hcr.2.1.1; omega, by have := hcr.2.1.2; omega⟩ (locs := locs) (e := e) (l := l) (below := below) (meth := meth)
  intro T hT XX
  rcases hr T hT XX with ⟨v, st₀, t, T', L, h0, X', hL, e1, e2, hF, st⟩ | ⟨q, st₀, t, T', L, E', ce, h0, X', hL, e1, e2, ⟨rfl, hp, hz, hk⟩, hce, hcv, hcl, go⟩
  · exact hF.elim
  · rw [h0] at hz hk
    rw [← e1] at hz hk hp
    have hA := Ax_le hS
    have kk := k q T'.heap (locs ++ L) ls hp ⟨Nat.le_trans hS.1 hz, fun q g1 g2 => by rw [hk q (Nat.lt_of_lt_of_le g1 hS.1) (fun z => g2 (hA q z))]; exact hS.2.1 q g1 g2, fun q hq => by
      rcases List.mem_append.mp hq with h | h
      · exact hS.2.2 q h
      · exact hA _ (hL q h)⟩ hl
    obtain ⟨t2, a1, b1⟩ := vx_catch (H := T'.heap) (ls := ls) (rest := rest) (pc := pc) (E := E') (ce := ce) C.2.2.2.2.1 pre x suf (ht.trans hsplit) (fun z hz => Or.inr ⟨(hpass z hz).1, (hpass z hz).2.imp fun nm h => ⟨C.2.2.2.2.2.1 _ h.1, X.2.2.2.2.2 _ h.2⟩⟩) hx h0x (C.2.2.2.2.2.1 _ hlink2) (va_Nw.use (ow_onT hcast) (X.2.2.2.1 _ hcast)) (by rw [e1]; exact hce) hcv hcl kk T' rfl X'
    exact ⟨t2, go.trans a1, b1⟩
end YC
