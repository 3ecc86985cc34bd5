-- ===== end of PART A; then your names; then what follows =====
/-! THE CLAIM OUT OF ONE WALK OF THE LAW'S BODY. Your part is whole_start (and what it stands on); all else here is the same for every law, but numbers. -/
def R_law : String := "AssignmentWorkbenchLaw"
def lw_P (b : Addr) (xs : List Int32) (args : Array Value) (s : State) : Prop := args = #[.ref b] ∧ s.IntsAt b xs ∧ xs.length ≤ 2560 ∧ (Jvm.Cond.and given_1 narrow_1).before args s = true
def lw_Q (_ : Array Value) (s : State) (o : Outcome) (t : State) : Prop := o = .returned (some (.int 1)) ∧ Framed s o t [] 601024 7293033
def lw_Z (below : List Frame) (a : Array Value) (s : State) : State → Prop := fun t => ∃ o, t.status = .running ∧ Ended t below o ∧ lw_Q a s o t
/-- the law's own end, with 1 on the stack, nothing written that was there before, its room as the claim has it -/
theorem lw_ret {p : Program} {l : Launch} {e : Env} {s : State} {m : MethodId} {below : List Frame} {meth : Method} {c : Code} {b : Nat} (hx : p.tables.exec = Jvm.exec) (hb : c.code = code) (hr : meth.sig.returnType = ret) (hlocks : meth.locks = false) {pc : Nat} {H : Heap} {ls : Array Slot} (hdg : decode code pc = .ok (.ireturn, 1)) : W p l e room_1 s m #[Value.ref b] below meth c H [] 601024 7293033 (lw_Z below #[Value.ref b] s) (F0 m pc ls [.int 1]) := by
  intro T hT X
  obtain ⟨fs, hret, hrun, hended, hW, hframe⟩ := X.leave (v := some (.int 1)) (hlocks := hlocks) (fun h => by rw [hr] at h; cases h)
  have hmeth' : T.vm.method? m = some meth := X.method'
  refine ⟨T.setFrames fs, ?_, .returned (some (.int 1)), hrun, hended, rfl, ⟨_, rfl⟩, hW, hframe⟩
  jvm_step X.here [X.here.top, hx, hb, hdg, hmeth', hr, ret, narrow_b1]
  (try refine ⟨rfl, ?_⟩); (try refine ⟨rfl, ?_⟩)
  first | (intro acts; rw [hret _ acts rfl rfl rfl]) | rw [hret _ _ rfl rfl rfl]
  exact Steps.refl _
/-- what holds at the law's entry: the machine, the code, the tables' words (any of lw_tbl by 'hts w (by decide +kernel)'), the script of L ints xs at the cell b, what the Statement gives of the start (any of its parts by flat_of_before) -/
def lw_At (p : Program) (s : State) (m : MethodId) (meth : Method) (c : Code) (b L : Nat) (xs : Nat → Int32) : Prop :=
  p.tables.exec = Jvm.exec ∧ c.code = code ∧ meth.sig.returnType = ret ∧ c.maxLocals = 7 ∧ s.vm.findClass R_law = some m.cls ∧ (∀ w ∈ lw_tbl, w.before #[Value.ref b] s = true) ∧ va_X b L xs s s.heap ∧ b < s.heap.size ∧ meth.locks = false ∧ (Jvm.Cond.and given_1 narrow_1).before #[Value.ref b] s = true
theorem sld_in {xs : Nat → Int32} {L : Nat} {i v : Int32} (h : sld xs L i = some v) : vp_in i L ∧ v = xs i.toNatClampNeg := by
  unfold sld at h
  split at h
  · cases h
  · next c => exact ⟨c, (Option.some.inj h).symm⟩
section YL
variable {p : Program} {l : Launch} {e : Env} {R : Room} {s : State} {m : MethodId} {args : Array Value} {below : List Frame} {meth : Method} {c : Code} {cc : ByteArray} {own : String} {nL : Nat} {ret : Option FieldType} {D : va_G} {cA ρ : Nat → Nat} {A : Nat → Prop} {cells slots : Nat} {Q : State → Prop} {σ : Sg} {τ : Tg} {pc : Nat} {lv : List (Nat × Value)} {st : List Value}
theorem Y_sld {b L : Nat} {xs : Nat → Int32} {i v : Int32} (C : Ctx p l s m args meth c cc own nL ret D cA ρ A) (hX : va_X b L xs s s.heap) (hbl : b < s.heap.size) (hbA : ¬ A b) (hv : sld xs L i = some v) (hd : decode cc pc = .ok (.iaload, 1)) (kk : Y p l e R s m args below meth c nL D cA ρ A cells slots Q σ τ (pc + 1) lv (.int v :: st)) : Y p l e R s m args below meth c nL D cA ρ A cells slots Q σ τ pc lv (.int i :: .ref b :: st) := fun H locs ls hP hS hl => by
  obtain ⟨h1, rfl⟩ := sld_in hv
  exact va_sld C.1 C.2.1 hX hbl hbA hS h1 hd (kk H locs ls hP hS hl)
theorem Y_slen {b L : Nat} {xs : Nat → Int32} (C : Ctx p l s m args meth c cc own nL ret D cA ρ A) (hX : va_X b L xs s s.heap) (hbl : b < s.heap.size) (hbA : ¬ A b) (hd : decode cc pc = .ok (.arraylength, 1)) (kk : Y p l e R s m args below meth c nL D cA ρ A cells slots Q σ τ (pc + 1) lv (.int (nI L) :: st)) : Y p l e R s m args below meth c nL D cA ρ A cells slots Q σ τ pc lv (.ref b :: st) := fun H locs ls hP hS hl => va_slen C.1 C.2.1 hX hbl hbA hS hd (kk H locs ls hP hS hl)
theorem Y_callH (C : Ctx p l s m args meth c cc own nL ret D cA ρ A) (X : Xc l A s) {index : Nat} {y : MethodName} {b : ByteArray} {n : Nat} {r : Option FieldType} {hh : List (Nat × Nat × Nat × Nat)} {f kl na : Nat} {v : Int32} {σ' : Sg} {τ' : Tg} (av : List Value) (rest st1 : List Value) (hM : CtA l y b n r hh f kl D cA ρ av σ τ (some (.int v)) σ' τ') (hA : ∀ q, s.heap.size ≤ q → A q) (hW : Wr ρ A) (hw : Cond.codeWith y b n r hh ∈ WG) (hi : Cond.initialized y.cls ∈ WG) (hlink : Cond.methodLink own index y ∈ WG) (hs : Cond.static y ∈ WG) (h1 : y.cls ≠ "java/lang/invoke/MethodHandle") (h2 : y.cls ≠ "java/lang/invoke/VarHandle") (h3 : (parseMethodDescriptor y.desc).map (fun d => d.parameters.length) = some na) (hR : f + 1 ≤ R.frames ∧ 8 + (n + 11) + kl ≤ R.locals) (hc : cells + 1 ≤ R.cells) (hsl : slots + 6 ≤ R.slots) (hcat : (rest.map fun v => v.category).sum ≤ 8) (hn : av.length = na) (h0 : st = av.reverse ++ rest) (he : st1 = .int v :: rest) (hd : decode cc pc = .ok (.invokestatic index, 3)) (k : Y p l e R s m args below meth c nL D cA ρ A (cells + 1) (slots + 6) Q σ' τ' (pc + 3) lv st1) : Y p l e R s m args below meth c nL D cA ρ A cells slots Q σ τ pc lv st := fun H locs ls hP hS hl => by
  subst he
  have hA' : ∀ q, Ax ρ H.size q → A q := fun q h => h.elim (fun h => by obtain ⟨j, hj, rfl⟩ := h; exact hW.2 j hj) (fun h => hA q (Nat.le_trans hS.1 h))
  have hG : GoodIn WG (va_wsS own index y (Cond.codeWith y b n r hh :: WG)) := by
    intro w hw'
    have hm : w ∈ WG := by
      simp only [va_wsS, List.cons_append, List.nil_append, List.mem_cons] at hw'
      rcases hw' with rfl | rfl | rfl | rfl | h
      · exact hlink
      · exact hs
      · exact hi
      · exact hw
      · exact h
    exact ⟨hm, good_of_word (List.mem_filter.mp hm).2⟩
  have hr := vx_runSW (As := av) (rest := rest) (g := F0 m pc ls st) ⟨C.1, C.2.1, C.2.2.2.1, C.2.2.2.2.1, C.2.2.2.2.2.1⟩ (hM H.size) (vx_cwSW na C.2.2.2.2.2.1 hG rfl rfl rfl ⟨h1, h2, h3⟩ hR) ⟨WlX.calling, fun U hU hW9 => ⟨rfl, by rw [hU], Wld.at C hA' hP hS U hU hW9, Xc.at (p := p) (m := m) (args := args) X hA' hS U hU hW9⟩⟩ rfl hn hl.1 h0 (by show 2 * 0 + _ ≤ 8; omega) hd (cells := cells) (slots := slots) ⟨hc, hsl⟩ (locs := locs) (e := e) (l := l) (below := below) (meth := meth)
  intro T hT XX
  obtain ⟨v', st₀, t, T', L, h0, X', hL, e1, e2, ⟨hv, hp, hz, hk⟩, go⟩ := hr T hT XX
  cases hv
  rw [h0] at hz hk
  rw [← e1] at hz hk hp
  obtain ⟨t2, a1, b1⟩ := k T'.heap (locs ++ L) ls hp ⟨Nat.le_trans hS.1 hz, fun q g1 g2 => by rw [hk q (Nat.lt_of_lt_of_le g1 hS.1) (fun z => g2 (hA' q z))]; exact hS.2.1 q g1 g2, fun q hq => by
      rcases List.mem_append.mp hq with h | h
      · exact hS.2.2 q h
      · exact hA' _ (hL q h)⟩ hl T' rfl X'
  exact ⟨t2, go t2 a1, b1⟩
end YL
theorem Y_lawret {p : Program} {l : Launch} {e : Env} {s : State} {m : MethodId} {below : List Frame} {meth : Method} {c : Code} {D : va_G} {cA ρ : Nat → Nat} {A : Nat → Prop} {cells slots : Nat} {σ : Sg} {τ : Tg} {pc : Nat} {lv : List (Nat × Value)} {b : Nat} (C : Ctx p l s m #[Value.ref b] meth c code RL 7 ret D cA ρ A) (hA1 : ∀ q, A q → s.heap.size ≤ q) (hd : decode code pc = .ok (.ireturn, 1)) (hc : cells ≤ 601024) (hs : slots ≤ 7293033) : Y p l e room_1 s m #[Value.ref b] below meth c 7 D cA ρ A cells slots (lw_Z below #[Value.ref b] s) σ τ pc lv [.int (1 : Int32)] := fun H locs ls hP hS hl => va_forget (fun q hq => hA1 _ (hS.2.2 q hq)) (W.widen hc hs (lw_ret C.1 C.2.1 C.2.2.1 C.2.2.2.2.2.2.2.2.1 hd))
theorem law_le {i : Int32} {L : Nat} (hL : L ≤ 2560) (h : ¬ nI L - (5 : Int32) < i) : i.toInt ≤ L - 5 := by
  have h2 : i.toInt ≤ (nI L - (5 : Int32)).toInt := by
    rw [Int32.lt_iff_toInt_lt] at h
    omega
  have h3 : (nI L - (5 : Int32)).toInt = (L : Int) - 5 := pk_sub_toInt (a := L) (b := 5) (by omega) (by decide)
  omega
theorem law_cl {i : Int32} (h : 0 ≤ i.toInt ∧ i.toInt ≤ 2560) : i.toNatClampNeg ≤ 2560 := by
  obtain ⟨j, hj, rfl⟩ : ∃ j : Nat, j < 2 ^ 31 ∧ i = nI j := nI_of (fun h0 => by rw [Int32.lt_iff_toInt_lt, Int32.toInt_zero] at h0; omega)
  rw [nI_toInt hj] at h
  rw [nI_clamp hj]
  omega
theorem kd0 : kd 0 = (0, 8) := by decide +kernel
theorem kd75 : kd 75 = (0, 9) := by decide +kernel
theorem law_wid (c0 s0 : Nat) {i : Int32} {L : Nat} (hi : 0 ≤ i.toInt) (h : i.toInt ≤ (L : Int) - 5) (hL : L ≤ 2560 := by assumption) : (0 ≤ (i + 5).toInt ∧ (i + 5).toInt ≤ 2560) ∧ c0 + i.toNatClampNeg / 5 + 1 ≤ c0 + (i + 5).toNatClampNeg / 5 ∧ s0 + 6 * (i.toNatClampNeg / 5) + 6 ≤ s0 + 6 * ((i + 5).toNatClampNeg / 5) ∧ c0 + i.toNatClampNeg / 5 ≤ c0 + (i + 5).toNatClampNeg / 5 ∧ s0 + 6 * (i.toNatClampNeg / 5) ≤ s0 + 6 * ((i + 5).toNatClampNeg / 5) ∧ i.toNatClampNeg / 5 ≤ 511 := by
  obtain ⟨j, hj, rfl⟩ : ∃ j : Nat, j < 2 ^ 31 ∧ i = nI j := nI_of (fun h0 => by rw [Int32.lt_iff_toInt_lt, Int32.toInt_zero] at h0; omega)
  have e5 : nI j + 5 = nI (j + 5) := nI_add j 5
  rw [nI_toInt hj] at hi h
  rw [e5, nI_clamp hj, nI_clamp (by omega), nI_toInt (by omega)]
  omega
theorem q_ml_RL_88 : Cond.methodLink RL 88 yL_resize ∈ WG := wg_of 810 (by decide +kernel) (by decide +kernel)
theorem q_cdw_yL_resize : Cond.codeWith yL_resize cL_resize 4 (some .int) [(0, 9, 12, 13)] ∈ WG := wg_of 812 (by decide +kernel) (by decide +kernel)
theorem q_st_yL_resize : Cond.static yL_resize ∈ WG := wg_of 811 (by decide +kernel) (by decide +kernel)
theorem q_in_RL : Cond.initialized RL ∈ WG := wg_of 86 (by decide +kernel) (by decide +kernel)
theorem q_ml_RL_93 : Cond.methodLink RL 93 yX9_resize ∈ WG := wg_of 1238 (by decide +kernel) (by decide +kernel)
theorem q_cd_yX9_resize : Cond.code yX9_resize cX9_resize 3 (some .int) ∈ WG := wg_of 1241 (by decide +kernel) (by decide +kernel)
theorem q_cw_yX9_resize : Cw yX9_resize cX9_resize 3 (some .int) 1 := ⟨q_cd_yX9_resize, q_in_RX9, by decide +kernel, by decide +kernel, by decide +kernel⟩
theorem q_im_yX9_resize : Cond.instanceMethod yX9_resize ∈ WG := wg_of 1239 (by decide +kernel) (by decide +kernel)
theorem q_se_yX9_resize : Cond.selects yX9_resize.cls yX9_resize yX9_resize ∈ WG := wg_of 1240 (by decide +kernel) (by decide +kernel)
theorem q_ml_RL_94 : Cond.methodLink RL 94 yX9_thrown ∈ WG := wg_of 1234 (by decide +kernel) (by decide +kernel)
theorem q_cd_yX9_thrown : Cond.code yX9_thrown cX9_thrown 1 (some .int) ∈ WG := wg_of 1237 (by decide +kernel) (by decide +kernel)
theorem q_cw_yX9_thrown : Cw yX9_thrown cX9_thrown 1 (some .int) 0 := ⟨q_cd_yX9_thrown, q_in_RX9, by decide +kernel, by decide +kernel, by decide +kernel⟩
theorem q_im_yX9_thrown : Cond.instanceMethod yX9_thrown ∈ WG := wg_of 1235 (by decide +kernel) (by decide +kernel)
theorem q_se_yX9_thrown : Cond.selects yX9_thrown.cls yX9_thrown yX9_thrown ∈ WG := wg_of 1236 (by decide +kernel) (by decide +kernel)
theorem q_ml_RL_97 : Cond.methodLink RL 97 yX8_size ∈ WG := wg_of 418 (by decide +kernel) (by decide +kernel)
theorem q_cd_yX8_size : Cond.code yX8_size cX8_size 1 (some .int) ∈ WG := wg_of 421 (by decide +kernel) (by decide +kernel)
theorem q_cw_yX8_size : Cw yX8_size cX8_size 1 (some .int) 0 := ⟨q_cd_yX8_size, q_in_RX8, by decide +kernel, by decide +kernel, by decide +kernel⟩
theorem q_im_yX8_size : Cond.instanceMethod yX8_size ∈ WG := wg_of 419 (by decide +kernel) (by decide +kernel)
theorem q_se_yX8_size : Cond.selects yX8_size.cls yX8_size yX8_size ∈ WG := wg_of 420 (by decide +kernel) (by decide +kernel)
theorem q_ml_RL_100 : Cond.methodLink RL 100 yX9_size ∈ WG := wg_of 1261 (by decide +kernel) (by decide +kernel)
theorem q_cd_yX9_size : Cond.code yX9_size cX9_size 1 (some .int) ∈ WG := wg_of 1264 (by decide +kernel) (by decide +kernel)
theorem q_cw_yX9_size : Cw yX9_size cX9_size 1 (some .int) 0 := ⟨q_cd_yX9_size, q_in_RX9, by decide +kernel, by decide +kernel, by decide +kernel⟩
theorem q_im_yX9_size : Cond.instanceMethod yX9_size ∈ WG := wg_of 1262 (by decide +kernel) (by decide +kernel)
theorem q_se_yX9_size : Cond.selects yX9_size.cls yX9_size yX9_size ∈ WG := wg_of 1263 (by decide +kernel) (by decide +kernel)
theorem q_ml_RL_101 : Cond.methodLink RL 101 yL_set ∈ WG := wg_of 887 (by decide +kernel) (by decide +kernel)
theorem q_cdw_yL_set : Cond.codeWith yL_set cL_set 7 (some .int) [(0, 14, 17, 19), (0, 14, 21, 13)] ∈ WG := wg_of 889 (by decide +kernel) (by decide +kernel)
theorem q_st_yL_set : Cond.static yL_set ∈ WG := wg_of 888 (by decide +kernel) (by decide +kernel)
theorem q_ml_RL_104 : Cond.methodLink RL 104 yX9_set ∈ WG := wg_of 1265 (by decide +kernel) (by decide +kernel)
theorem q_cd_yX9_set : Cond.code yX9_set cX9_set 6 (some .int) ∈ WG := wg_of 1268 (by decide +kernel) (by decide +kernel)
theorem q_cw_yX9_set : Cw yX9_set cX9_set 6 (some .int) 4 := ⟨q_cd_yX9_set, q_in_RX9, by decide +kernel, by decide +kernel, by decide +kernel⟩
theorem q_im_yX9_set : Cond.instanceMethod yX9_set ∈ WG := wg_of 1266 (by decide +kernel) (by decide +kernel)
theorem q_se_yX9_set : Cond.selects yX9_set.cls yX9_set yX9_set ∈ WG := wg_of 1267 (by decide +kernel) (by decide +kernel)
theorem q_ml_RL_105 : Cond.methodLink RL 105 yL_get ∈ WG := wg_of 928 (by decide +kernel) (by decide +kernel)
theorem q_cdw_yL_get : Cond.codeWith yL_get cL_get 6 (some .int) [(0, 12, 15, 19), (0, 12, 19, 13)] ∈ WG := wg_of 930 (by decide +kernel) (by decide +kernel)
theorem q_st_yL_get : Cond.static yL_get ∈ WG := wg_of 929 (by decide +kernel) (by decide +kernel)
theorem q_ml_RL_108 : Cond.methodLink RL 108 yX9_get ∈ WG := wg_of 1276 (by decide +kernel) (by decide +kernel)
theorem q_cd_yX9_get : Cond.code yX9_get cX9_get 4 (some .int) ∈ WG := wg_of 1279 (by decide +kernel) (by decide +kernel)
theorem q_cw_yX9_get : Cw yX9_get cX9_get 4 (some .int) 3 := ⟨q_cd_yX9_get, q_in_RX9, by decide +kernel, by decide +kernel, by decide +kernel⟩
theorem q_im_yX9_get : Cond.instanceMethod yX9_get ∈ WG := wg_of 1277 (by decide +kernel) (by decide +kernel)
theorem q_se_yX9_get : Cond.selects yX9_get.cls yX9_get yX9_get ∈ WG := wg_of 1278 (by decide +kernel) (by decide +kernel)
theorem q_ml_RL_109 : Cond.methodLink RL 109 yL_fill ∈ WG := wg_of 935 (by decide +kernel) (by decide +kernel)
theorem q_cdw_yL_fill : Cond.codeWith yL_fill cL_fill 7 (some .int) [(0, 14, 17, 13)] ∈ WG := wg_of 937 (by decide +kernel) (by decide +kernel)
theorem q_st_yL_fill : Cond.static yL_fill ∈ WG := wg_of 936 (by decide +kernel) (by decide +kernel)
theorem q_ml_RL_112 : Cond.methodLink RL 112 yX9_fill ∈ WG := wg_of 1280 (by decide +kernel) (by decide +kernel)
theorem q_cd_yX9_fill : Cond.code yX9_fill cX9_fill 11 (some .int) ∈ WG := wg_of 1283 (by decide +kernel) (by decide +kernel)
theorem q_cw_yX9_fill : Cw yX9_fill cX9_fill 11 (some .int) 4 := ⟨q_cd_yX9_fill, q_in_RX9, by decide +kernel, by decide +kernel, by decide +kernel⟩
theorem q_im_yX9_fill : Cond.instanceMethod yX9_fill ∈ WG := wg_of 1281 (by decide +kernel) (by decide +kernel)
theorem q_se_yX9_fill : Cond.selects yX9_fill.cls yX9_fill yX9_fill ∈ WG := wg_of 1282 (by decide +kernel) (by decide +kernel)
theorem q_ml_RL_113 : Cond.methodLink RL 113 yL_location ∈ WG := wg_of 960 (by decide +kernel) (by decide +kernel)
theorem q_cdw_yL_location : Cond.codeWith yL_location cL_location 4 (some .int) [(0, 9, 12, 19)] ∈ WG := wg_of 962 (by decide +kernel) (by decide +kernel)
theorem q_st_yL_location : Cond.static yL_location ∈ WG := wg_of 961 (by decide +kernel) (by decide +kernel)
theorem q_ml_RL_115 : Cond.methodLink RL 115 yX9_location ∈ WG := wg_of 1288 (by decide +kernel) (by decide +kernel)
theorem q_cd_yX9_location : Cond.code yX9_location cX9_location 2 (some .int) ∈ WG := wg_of 1291 (by decide +kernel) (by decide +kernel)
theorem q_cw_yX9_location : Cw yX9_location cX9_location 2 (some .int) 1 := ⟨q_cd_yX9_location, q_in_RX9, by decide +kernel, by decide +kernel, by decide +kernel⟩
theorem q_im_yX9_location : Cond.instanceMethod yX9_location ∈ WG := wg_of 1289 (by decide +kernel) (by decide +kernel)
theorem q_se_yX9_location : Cond.selects yX9_location.cls yX9_location yX9_location ∈ WG := wg_of 1290 (by decide +kernel) (by decide +kernel)
theorem q_ml_RL_116 : Cond.methodLink RL 116 yX8_cost ∈ WG := wg_of 422 (by decide +kernel) (by decide +kernel)
theorem q_cd_yX8_cost : Cond.code yX8_cost cX8_cost 1 (some .int) ∈ WG := wg_of 425 (by decide +kernel) (by decide +kernel)
theorem q_cw_yX8_cost : Cw yX8_cost cX8_cost 1 (some .int) 0 := ⟨q_cd_yX8_cost, q_in_RX8, by decide +kernel, by decide +kernel, by decide +kernel⟩
theorem q_im_yX8_cost : Cond.instanceMethod yX8_cost ∈ WG := wg_of 423 (by decide +kernel) (by decide +kernel)
theorem q_se_yX8_cost : Cond.selects yX8_cost.cls yX8_cost yX8_cost ∈ WG := wg_of 424 (by decide +kernel) (by decide +kernel)
theorem q_ml_RL_119 : Cond.methodLink RL 119 yX9_cost ∈ WG := wg_of 1292 (by decide +kernel) (by decide +kernel)
theorem q_cd_yX9_cost : Cond.code yX9_cost cX9_cost 1 (some .int) ∈ WG := wg_of 1295 (by decide +kernel) (by decide +kernel)
theorem q_cw_yX9_cost : Cw yX9_cost cX9_cost 1 (some .int) 0 := ⟨q_cd_yX9_cost, q_in_RX9, by decide +kernel, by decide +kernel, by decide +kernel⟩
theorem q_im_yX9_cost : Cond.instanceMethod yX9_cost ∈ WG := wg_of 1293 (by decide +kernel) (by decide +kernel)
theorem q_se_yX9_cost : Cond.selects yX9_cost.cls yX9_cost yX9_cost ∈ WG := wg_of 1294 (by decide +kernel) (by decide +kernel)
theorem q_ml_RL_120 : Cond.methodLink RL 120 yL_choose ∈ WG := wg_of 967 (by decide +kernel) (by decide +kernel)
theorem q_cdw_yL_choose : Cond.codeWith yL_choose cL_choose 4 (some .int) [(0, 9, 12, 19)] ∈ WG := wg_of 969 (by decide +kernel) (by decide +kernel)
theorem q_st_yL_choose : Cond.static yL_choose ∈ WG := wg_of 968 (by decide +kernel) (by decide +kernel)
theorem q_ml_RL_122 : Cond.methodLink RL 122 yX9_choose ∈ WG := wg_of 1320 (by decide +kernel) (by decide +kernel)
theorem q_cd_yX9_choose : Cond.code yX9_choose cX9_choose 4 (some .int) ∈ WG := wg_of 1323 (by decide +kernel) (by decide +kernel)
theorem q_cw_yX9_choose : Cw yX9_choose cX9_choose 4 (some .int) 1 := ⟨q_cd_yX9_choose, q_in_RX9, by decide +kernel, by decide +kernel, by decide +kernel⟩
theorem q_im_yX9_choose : Cond.instanceMethod yX9_choose ∈ WG := wg_of 1321 (by decide +kernel) (by decide +kernel)
theorem q_se_yX9_choose : Cond.selects yX9_choose.cls yX9_choose yX9_choose ∈ WG := wg_of 1322 (by decide +kernel) (by decide +kernel)
theorem q_ml_RL_123 : Cond.methodLink RL 123 yX8_number ∈ WG := wg_of 440 (by decide +kernel) (by decide +kernel)
theorem q_cd_yX8_number : Cond.code yX8_number cX8_number 1 (some .int) ∈ WG := wg_of 443 (by decide +kernel) (by decide +kernel)
theorem q_cw_yX8_number : Cw yX8_number cX8_number 1 (some .int) 0 := ⟨q_cd_yX8_number, q_in_RX8, by decide +kernel, by decide +kernel, by decide +kernel⟩
theorem q_im_yX8_number : Cond.instanceMethod yX8_number ∈ WG := wg_of 441 (by decide +kernel) (by decide +kernel)
theorem q_se_yX8_number : Cond.selects yX8_number.cls yX8_number yX8_number ∈ WG := wg_of 442 (by decide +kernel) (by decide +kernel)
theorem q_ml_RL_126 : Cond.methodLink RL 126 yX9_number ∈ WG := wg_of 1344 (by decide +kernel) (by decide +kernel)
theorem q_cd_yX9_number : Cond.code yX9_number cX9_number 1 (some .int) ∈ WG := wg_of 1347 (by decide +kernel) (by decide +kernel)
theorem q_cw_yX9_number : Cw yX9_number cX9_number 1 (some .int) 0 := ⟨q_cd_yX9_number, q_in_RX9, by decide +kernel, by decide +kernel, by decide +kernel⟩
theorem q_im_yX9_number : Cond.instanceMethod yX9_number ∈ WG := wg_of 1345 (by decide +kernel) (by decide +kernel)
theorem q_se_yX9_number : Cond.selects yX9_number.cls yX9_number yX9_number ∈ WG := wg_of 1346 (by decide +kernel) (by decide +kernel)
theorem q_ml_RL_127 : Cond.methodLink RL 127 yL_exchange ∈ WG := wg_of 982 (by decide +kernel) (by decide +kernel)
theorem q_cdw_yL_exchange : Cond.codeWith yL_exchange cL_exchange 5 (some .int) [(0, 10, 13, 19)] ∈ WG := wg_of 984 (by decide +kernel) (by decide +kernel)
theorem q_st_yL_exchange : Cond.static yL_exchange ∈ WG := wg_of 983 (by decide +kernel) (by decide +kernel)
theorem q_ml_RL_130 : Cond.methodLink RL 130 yX9_exchange ∈ WG := wg_of 1352 (by decide +kernel) (by decide +kernel)
theorem q_cd_yX9_exchange : Cond.code yX9_exchange cX9_exchange 4 (some .int) ∈ WG := wg_of 1355 (by decide +kernel) (by decide +kernel)
theorem q_cw_yX9_exchange : Cw yX9_exchange cX9_exchange 4 (some .int) 2 := ⟨q_cd_yX9_exchange, q_in_RX9, by decide +kernel, by decide +kernel, by decide +kernel⟩
theorem q_im_yX9_exchange : Cond.instanceMethod yX9_exchange ∈ WG := wg_of 1353 (by decide +kernel) (by decide +kernel)
theorem q_se_yX9_exchange : Cond.selects yX9_exchange.cls yX9_exchange yX9_exchange ∈ WG := wg_of 1354 (by decide +kernel) (by decide +kernel)
theorem q_ml_RL_131 : Cond.methodLink RL 131 yL_gain ∈ WG := wg_of 989 (by decide +kernel) (by decide +kernel)
theorem q_cdw_yL_gain : Cond.codeWith yL_gain cL_gain 5 (some .int) [(0, 10, 13, 19)] ∈ WG := wg_of 991 (by decide +kernel) (by decide +kernel)
theorem q_st_yL_gain : Cond.static yL_gain ∈ WG := wg_of 990 (by decide +kernel) (by decide +kernel)
theorem q_ml_RL_133 : Cond.methodLink RL 133 yX9_gain ∈ WG := wg_of 1360 (by decide +kernel) (by decide +kernel)
theorem q_cd_yX9_gain : Cond.code yX9_gain cX9_gain 3 (some .int) ∈ WG := wg_of 1363 (by decide +kernel) (by decide +kernel)
theorem q_cw_yX9_gain : Cw yX9_gain cX9_gain 3 (some .int) 2 := ⟨q_cd_yX9_gain, q_in_RX9, by decide +kernel, by decide +kernel, by decide +kernel⟩
theorem q_im_yX9_gain : Cond.instanceMethod yX9_gain ∈ WG := wg_of 1361 (by decide +kernel) (by decide +kernel)
theorem q_se_yX9_gain : Cond.selects yX9_gain.cls yX9_gain yX9_gain ∈ WG := wg_of 1362 (by decide +kernel) (by decide +kernel)
theorem q_ml_RL_134 : Cond.methodLink RL 134 yX8_bestExchange ∈ WG := wg_of 456 (by decide +kernel) (by decide +kernel)
theorem q_cd_yX8_bestExchange : Cond.code yX8_bestExchange cX8_bestExchange 1 (some .int) ∈ WG := wg_of 459 (by decide +kernel) (by decide +kernel)
theorem q_cw_yX8_bestExchange : Cw yX8_bestExchange cX8_bestExchange 1 (some .int) 0 := ⟨q_cd_yX8_bestExchange, q_in_RX8, by decide +kernel, by decide +kernel, by decide +kernel⟩
theorem q_im_yX8_bestExchange : Cond.instanceMethod yX8_bestExchange ∈ WG := wg_of 457 (by decide +kernel) (by decide +kernel)
theorem q_se_yX8_bestExchange : Cond.selects yX8_bestExchange.cls yX8_bestExchange yX8_bestExchange ∈ WG := wg_of 458 (by decide +kernel) (by decide +kernel)
theorem q_ml_RL_137 : Cond.methodLink RL 137 yX9_bestExchange ∈ WG := wg_of 1364 (by decide +kernel) (by decide +kernel)
theorem q_cd_yX9_bestExchange : Cond.code yX9_bestExchange cX9_bestExchange 1 (some .int) ∈ WG := wg_of 1367 (by decide +kernel) (by decide +kernel)
theorem q_cw_yX9_bestExchange : Cw yX9_bestExchange cX9_bestExchange 1 (some .int) 0 := ⟨q_cd_yX9_bestExchange, q_in_RX9, by decide +kernel, by decide +kernel, by decide +kernel⟩
theorem q_im_yX9_bestExchange : Cond.instanceMethod yX9_bestExchange ∈ WG := wg_of 1365 (by decide +kernel) (by decide +kernel)
theorem q_se_yX9_bestExchange : Cond.selects yX9_bestExchange.cls yX9_bestExchange yX9_bestExchange ∈ WG := wg_of 1366 (by decide +kernel) (by decide +kernel)
theorem q_ml_RL_138 : Cond.methodLink RL 138 yX8_descend ∈ WG := wg_of 472 (by decide +kernel) (by decide +kernel)
theorem q_cd_yX8_descend : Cond.code yX8_descend cX8_descend 4 (some .int) ∈ WG := wg_of 475 (by decide +kernel) (by decide +kernel)
theorem q_cw_yX8_descend : Cw yX8_descend cX8_descend 4 (some .int) 0 := ⟨q_cd_yX8_descend, q_in_RX8, by decide +kernel, by decide +kernel, by decide +kernel⟩
theorem q_im_yX8_descend : Cond.instanceMethod yX8_descend ∈ WG := wg_of 473 (by decide +kernel) (by decide +kernel)
theorem q_se_yX8_descend : Cond.selects yX8_descend.cls yX8_descend yX8_descend ∈ WG := wg_of 474 (by decide +kernel) (by decide +kernel)
theorem q_ml_RL_141 : Cond.methodLink RL 141 yX9_descend ∈ WG := wg_of 1372 (by decide +kernel) (by decide +kernel)
theorem q_cd_yX9_descend : Cond.code yX9_descend cX9_descend 3 (some .int) ∈ WG := wg_of 1375 (by decide +kernel) (by decide +kernel)
theorem q_cw_yX9_descend : Cw yX9_descend cX9_descend 3 (some .int) 0 := ⟨q_cd_yX9_descend, q_in_RX9, by decide +kernel, by decide +kernel, by decide +kernel⟩
theorem q_im_yX9_descend : Cond.instanceMethod yX9_descend ∈ WG := wg_of 1373 (by decide +kernel) (by decide +kernel)
theorem q_se_yX9_descend : Cond.selects yX9_descend.cls yX9_descend yX9_descend ∈ WG := wg_of 1374 (by decide +kernel) (by decide +kernel)
theorem q_ml_RL_142 : Cond.methodLink RL 142 yX8_within ∈ WG := wg_of 501 (by decide +kernel) (by decide +kernel)
theorem q_cd_yX8_within : Cond.code yX8_within cX8_within 2 (some .int) ∈ WG := wg_of 504 (by decide +kernel) (by decide +kernel)
theorem q_cw_yX8_within : Cw yX8_within cX8_within 2 (some .int) 1 := ⟨q_cd_yX8_within, q_in_RX8, by decide +kernel, by decide +kernel, by decide +kernel⟩
theorem q_im_yX8_within : Cond.instanceMethod yX8_within ∈ WG := wg_of 502 (by decide +kernel) (by decide +kernel)
theorem q_se_yX8_within : Cond.selects yX8_within.cls yX8_within yX8_within ∈ WG := wg_of 503 (by decide +kernel) (by decide +kernel)
theorem q_ml_RL_145 : Cond.methodLink RL 145 yX9_within ∈ WG := wg_of 1380 (by decide +kernel) (by decide +kernel)
theorem q_cd_yX9_within : Cond.code yX9_within cX9_within 4 (some .int) ∈ WG := wg_of 1383 (by decide +kernel) (by decide +kernel)
theorem q_cw_yX9_within : Cw yX9_within cX9_within 4 (some .int) 1 := ⟨q_cd_yX9_within, q_in_RX9, by decide +kernel, by decide +kernel, by decide +kernel⟩
theorem q_im_yX9_within : Cond.instanceMethod yX9_within ∈ WG := wg_of 1381 (by decide +kernel) (by decide +kernel)
theorem q_se_yX9_within : Cond.selects yX9_within.cls yX9_within yX9_within ∈ WG := wg_of 1382 (by decide +kernel) (by decide +kernel)
theorem q_ml_RL_146 : Cond.methodLink RL 146 yX8_optimum ∈ WG := wg_of 530 (by decide +kernel) (by decide +kernel)
theorem q_cd_yX8_optimum : Cond.code yX8_optimum cX8_optimum 1 (some .int) ∈ WG := wg_of 533 (by decide +kernel) (by decide +kernel)
theorem q_cw_yX8_optimum : Cw yX8_optimum cX8_optimum 1 (some .int) 0 := ⟨q_cd_yX8_optimum, q_in_RX8, by decide +kernel, by decide +kernel, by decide +kernel⟩
theorem q_im_yX8_optimum : Cond.instanceMethod yX8_optimum ∈ WG := wg_of 531 (by decide +kernel) (by decide +kernel)
theorem q_se_yX8_optimum : Cond.selects yX8_optimum.cls yX8_optimum yX8_optimum ∈ WG := wg_of 532 (by decide +kernel) (by decide +kernel)
theorem q_ml_RL_149 : Cond.methodLink RL 149 yX9_optimum ∈ WG := wg_of 1388 (by decide +kernel) (by decide +kernel)
theorem q_cd_yX9_optimum : Cond.code yX9_optimum cX9_optimum 1 (some .int) ∈ WG := wg_of 1391 (by decide +kernel) (by decide +kernel)
theorem q_cw_yX9_optimum : Cw yX9_optimum cX9_optimum 1 (some .int) 0 := ⟨q_cd_yX9_optimum, q_in_RX9, by decide +kernel, by decide +kernel, by decide +kernel⟩
theorem q_im_yX9_optimum : Cond.instanceMethod yX9_optimum ∈ WG := wg_of 1389 (by decide +kernel) (by decide +kernel)
theorem q_se_yX9_optimum : Cond.selects yX9_optimum.cls yX9_optimum yX9_optimum ∈ WG := wg_of 1390 (by decide +kernel) (by decide +kernel)
theorem q_ml_RL_150 : Cond.methodLink RL 150 yX8_optima ∈ WG := wg_of 534 (by decide +kernel) (by decide +kernel)
theorem q_cd_yX8_optima : Cond.code yX8_optima cX8_optima 1 (some .int) ∈ WG := wg_of 537 (by decide +kernel) (by decide +kernel)
theorem q_cw_yX8_optima : Cw yX8_optima cX8_optima 1 (some .int) 0 := ⟨q_cd_yX8_optima, q_in_RX8, by decide +kernel, by decide +kernel, by decide +kernel⟩
theorem q_im_yX8_optima : Cond.instanceMethod yX8_optima ∈ WG := wg_of 535 (by decide +kernel) (by decide +kernel)
theorem q_se_yX8_optima : Cond.selects yX8_optima.cls yX8_optima yX8_optima ∈ WG := wg_of 536 (by decide +kernel) (by decide +kernel)
theorem q_ml_RL_153 : Cond.methodLink RL 153 yX9_optima ∈ WG := wg_of 1397 (by decide +kernel) (by decide +kernel)
theorem q_cd_yX9_optima : Cond.code yX9_optima cX9_optima 1 (some .int) ∈ WG := wg_of 1400 (by decide +kernel) (by decide +kernel)
theorem q_cw_yX9_optima : Cw yX9_optima cX9_optima 1 (some .int) 0 := ⟨q_cd_yX9_optima, q_in_RX9, by decide +kernel, by decide +kernel, by decide +kernel⟩
theorem q_im_yX9_optima : Cond.instanceMethod yX9_optima ∈ WG := wg_of 1398 (by decide +kernel) (by decide +kernel)
theorem q_se_yX9_optima : Cond.selects yX9_optima.cls yX9_optima yX9_optima ∈ WG := wg_of 1399 (by decide +kernel) (by decide +kernel)
theorem q_ml_RL_154 : Cond.methodLink RL 154 yX8_optimal ∈ WG := wg_of 538 (by decide +kernel) (by decide +kernel)
theorem q_cd_yX8_optimal : Cond.code yX8_optimal cX8_optimal 2 (some .int) ∈ WG := wg_of 541 (by decide +kernel) (by decide +kernel)
theorem q_cw_yX8_optimal : Cw yX8_optimal cX8_optimal 2 (some .int) 1 := ⟨q_cd_yX8_optimal, q_in_RX8, by decide +kernel, by decide +kernel, by decide +kernel⟩
theorem q_im_yX8_optimal : Cond.instanceMethod yX8_optimal ∈ WG := wg_of 539 (by decide +kernel) (by decide +kernel)
theorem q_se_yX8_optimal : Cond.selects yX8_optimal.cls yX8_optimal yX8_optimal ∈ WG := wg_of 540 (by decide +kernel) (by decide +kernel)
theorem q_ml_RL_157 : Cond.methodLink RL 157 yX9_optimal ∈ WG := wg_of 1405 (by decide +kernel) (by decide +kernel)
theorem q_cd_yX9_optimal : Cond.code yX9_optimal cX9_optimal 2 (some .int) ∈ WG := wg_of 1408 (by decide +kernel) (by decide +kernel)
theorem q_cw_yX9_optimal : Cw yX9_optimal cX9_optimal 2 (some .int) 1 := ⟨q_cd_yX9_optimal, q_in_RX9, by decide +kernel, by decide +kernel, by decide +kernel⟩
theorem q_im_yX9_optimal : Cond.instanceMethod yX9_optimal ∈ WG := wg_of 1406 (by decide +kernel) (by decide +kernel)
theorem q_se_yX9_optimal : Cond.selects yX9_optimal.cls yX9_optimal yX9_optimal ∈ WG := wg_of 1407 (by decide +kernel) (by decide +kernel)
theorem q_ml_RL_158 : Cond.methodLink RL 158 yL_mean ∈ WG := wg_of 996 (by decide +kernel) (by decide +kernel)
theorem q_cdw_yL_mean : Cond.codeWith yL_mean cL_mean 4 (some .int) [(0, 9, 12, 13)] ∈ WG := wg_of 998 (by decide +kernel) (by decide +kernel)
theorem q_st_yL_mean : Cond.static yL_mean ∈ WG := wg_of 997 (by decide +kernel) (by decide +kernel)
theorem q_ml_RL_160 : Cond.methodLink RL 160 yX9_mean ∈ WG := wg_of 1409 (by decide +kernel) (by decide +kernel)
theorem q_cd_yX9_mean : Cond.code yX9_mean cX9_mean 6 (some .int) ∈ WG := wg_of 1412 (by decide +kernel) (by decide +kernel)
theorem q_cw_yX9_mean : Cw yX9_mean cX9_mean 6 (some .int) 1 := ⟨q_cd_yX9_mean, q_in_RX9, by decide +kernel, by decide +kernel, by decide +kernel⟩
theorem q_im_yX9_mean : Cond.instanceMethod yX9_mean ∈ WG := wg_of 1410 (by decide +kernel) (by decide +kernel)
theorem q_se_yX9_mean : Cond.selects yX9_mean.cls yX9_mean yX9_mean ∈ WG := wg_of 1411 (by decide +kernel) (by decide +kernel)
theorem q_ml_RL_161 : Cond.methodLink RL 161 yX8_localOptima ∈ WG := wg_of 546 (by decide +kernel) (by decide +kernel)
theorem q_cd_yX8_localOptima : Cond.code yX8_localOptima cX8_localOptima 1 (some .int) ∈ WG := wg_of 549 (by decide +kernel) (by decide +kernel)
theorem q_cw_yX8_localOptima : Cw yX8_localOptima cX8_localOptima 1 (some .int) 0 := ⟨q_cd_yX8_localOptima, q_in_RX8, by decide +kernel, by decide +kernel, by decide +kernel⟩
theorem q_im_yX8_localOptima : Cond.instanceMethod yX8_localOptima ∈ WG := wg_of 547 (by decide +kernel) (by decide +kernel)
theorem q_se_yX8_localOptima : Cond.selects yX8_localOptima.cls yX8_localOptima yX8_localOptima ∈ WG := wg_of 548 (by decide +kernel) (by decide +kernel)
theorem q_ml_RL_164 : Cond.methodLink RL 164 yX9_localOptima ∈ WG := wg_of 1416 (by decide +kernel) (by decide +kernel)
theorem q_cd_yX9_localOptima : Cond.code yX9_localOptima cX9_localOptima 3 (some .int) ∈ WG := wg_of 1419 (by decide +kernel) (by decide +kernel)
theorem q_cw_yX9_localOptima : Cw yX9_localOptima cX9_localOptima 3 (some .int) 0 := ⟨q_cd_yX9_localOptima, q_in_RX9, by decide +kernel, by decide +kernel, by decide +kernel⟩
theorem q_im_yX9_localOptima : Cond.instanceMethod yX9_localOptima ∈ WG := wg_of 1417 (by decide +kernel) (by decide +kernel)
theorem q_se_yX9_localOptima : Cond.selects yX9_localOptima.cls yX9_localOptima yX9_localOptima ∈ WG := wg_of 1418 (by decide +kernel) (by decide +kernel)
theorem q_ml_RL_165 : Cond.methodLink RL 165 yL_fix ∈ WG := wg_of 1007 (by decide +kernel) (by decide +kernel)
theorem q_cdw_yL_fix : Cond.codeWith yL_fix cL_fix 5 (some .int) [(0, 10, 13, 19), (0, 10, 17, 48)] ∈ WG := wg_of 1009 (by decide +kernel) (by decide +kernel)
theorem q_st_yL_fix : Cond.static yL_fix ∈ WG := wg_of 1008 (by decide +kernel) (by decide +kernel)
theorem q_ml_RL_167 : Cond.methodLink RL 167 yX9_fix ∈ WG := wg_of 1420 (by decide +kernel) (by decide +kernel)
theorem q_cd_yX9_fix : Cond.code yX9_fix cX9_fix 3 (some .int) ∈ WG := wg_of 1423 (by decide +kernel) (by decide +kernel)
theorem q_cw_yX9_fix : Cw yX9_fix cX9_fix 3 (some .int) 2 := ⟨q_cd_yX9_fix, q_in_RX9, by decide +kernel, by decide +kernel, by decide +kernel⟩
theorem q_im_yX9_fix : Cond.instanceMethod yX9_fix ∈ WG := wg_of 1421 (by decide +kernel) (by decide +kernel)
theorem q_se_yX9_fix : Cond.selects yX9_fix.cls yX9_fix yX9_fix ∈ WG := wg_of 1422 (by decide +kernel) (by decide +kernel)
theorem q_ml_RL_168 : Cond.methodLink RL 168 yL_free ∈ WG := wg_of 1040 (by decide +kernel) (by decide +kernel)
theorem q_cdw_yL_free : Cond.codeWith yL_free cL_free 4 (some .int) [(0, 9, 12, 19), (0, 9, 15, 48)] ∈ WG := wg_of 1042 (by decide +kernel) (by decide +kernel)
theorem q_st_yL_free : Cond.static yL_free ∈ WG := wg_of 1041 (by decide +kernel) (by decide +kernel)
theorem q_ml_RL_170 : Cond.methodLink RL 170 yX9_free ∈ WG := wg_of 1440 (by decide +kernel) (by decide +kernel)
theorem q_cd_yX9_free : Cond.code yX9_free cX9_free 3 (some .int) ∈ WG := wg_of 1443 (by decide +kernel) (by decide +kernel)
theorem q_cw_yX9_free : Cw yX9_free cX9_free 3 (some .int) 1 := ⟨q_cd_yX9_free, q_in_RX9, by decide +kernel, by decide +kernel, by decide +kernel⟩
theorem q_im_yX9_free : Cond.instanceMethod yX9_free ∈ WG := wg_of 1441 (by decide +kernel) (by decide +kernel)
theorem q_se_yX9_free : Cond.selects yX9_free.cls yX9_free yX9_free ∈ WG := wg_of 1442 (by decide +kernel) (by decide +kernel)
theorem q_ml_RL_171 : Cond.methodLink RL 171 yL_fixed ∈ WG := wg_of 1048 (by decide +kernel) (by decide +kernel)
theorem q_cdw_yL_fixed : Cond.codeWith yL_fixed cL_fixed 4 (some .int) [(0, 9, 12, 19)] ∈ WG := wg_of 1050 (by decide +kernel) (by decide +kernel)
theorem q_st_yL_fixed : Cond.static yL_fixed ∈ WG := wg_of 1049 (by decide +kernel) (by decide +kernel)
theorem q_ml_RL_173 : Cond.methodLink RL 173 yX9_fixed ∈ WG := wg_of 1444 (by decide +kernel) (by decide +kernel)
theorem q_cd_yX9_fixed : Cond.code yX9_fixed cX9_fixed 2 (some .int) ∈ WG := wg_of 1447 (by decide +kernel) (by decide +kernel)
theorem q_cw_yX9_fixed : Cw yX9_fixed cX9_fixed 2 (some .int) 1 := ⟨q_cd_yX9_fixed, q_in_RX9, by decide +kernel, by decide +kernel, by decide +kernel⟩
theorem q_im_yX9_fixed : Cond.instanceMethod yX9_fixed ∈ WG := wg_of 1445 (by decide +kernel) (by decide +kernel)
theorem q_se_yX9_fixed : Cond.selects yX9_fixed.cls yX9_fixed yX9_fixed ∈ WG := wg_of 1446 (by decide +kernel) (by decide +kernel)
theorem q_ml_RL_174 : Cond.methodLink RL 174 yX8_fixedCost ∈ WG := wg_of 558 (by decide +kernel) (by decide +kernel)
theorem q_cd_yX8_fixedCost : Cond.code yX8_fixedCost cX8_fixedCost 1 (some .int) ∈ WG := wg_of 561 (by decide +kernel) (by decide +kernel)
theorem q_cw_yX8_fixedCost : Cw yX8_fixedCost cX8_fixedCost 1 (some .int) 0 := ⟨q_cd_yX8_fixedCost, q_in_RX8, by decide +kernel, by decide +kernel, by decide +kernel⟩
theorem q_im_yX8_fixedCost : Cond.instanceMethod yX8_fixedCost ∈ WG := wg_of 559 (by decide +kernel) (by decide +kernel)
theorem q_se_yX8_fixedCost : Cond.selects yX8_fixedCost.cls yX8_fixedCost yX8_fixedCost ∈ WG := wg_of 560 (by decide +kernel) (by decide +kernel)
theorem q_ml_RL_177 : Cond.methodLink RL 177 yX9_fixedCost ∈ WG := wg_of 1448 (by decide +kernel) (by decide +kernel)
theorem q_cd_yX9_fixedCost : Cond.code yX9_fixedCost cX9_fixedCost 1 (some .int) ∈ WG := wg_of 1451 (by decide +kernel) (by decide +kernel)
theorem q_cw_yX9_fixedCost : Cw yX9_fixedCost cX9_fixedCost 1 (some .int) 0 := ⟨q_cd_yX9_fixedCost, q_in_RX9, by decide +kernel, by decide +kernel, by decide +kernel⟩
theorem q_im_yX9_fixedCost : Cond.instanceMethod yX9_fixedCost ∈ WG := wg_of 1449 (by decide +kernel) (by decide +kernel)
theorem q_se_yX9_fixedCost : Cond.selects yX9_fixedCost.cls yX9_fixedCost yX9_fixedCost ∈ WG := wg_of 1450 (by decide +kernel) (by decide +kernel)
theorem q_ml_RL_178 : Cond.methodLink RL 178 yL_entry ∈ WG := wg_of 1055 (by decide +kernel) (by decide +kernel)
theorem q_cdw_yL_entry : Cond.codeWith yL_entry cL_entry 5 (some .int) [(0, 10, 13, 19), (0, 10, 17, 48)] ∈ WG := wg_of 1057 (by decide +kernel) (by decide +kernel)
theorem q_st_yL_entry : Cond.static yL_entry ∈ WG := wg_of 1056 (by decide +kernel) (by decide +kernel)
theorem q_ml_RL_180 : Cond.methodLink RL 180 yX9_entry ∈ WG := wg_of 1456 (by decide +kernel) (by decide +kernel)
theorem q_cd_yX9_entry : Cond.code yX9_entry cX9_entry 3 (some .int) ∈ WG := wg_of 1459 (by decide +kernel) (by decide +kernel)
theorem q_cw_yX9_entry : Cw yX9_entry cX9_entry 3 (some .int) 2 := ⟨q_cd_yX9_entry, q_in_RX9, by decide +kernel, by decide +kernel, by decide +kernel⟩
theorem q_im_yX9_entry : Cond.instanceMethod yX9_entry ∈ WG := wg_of 1457 (by decide +kernel) (by decide +kernel)
theorem q_se_yX9_entry : Cond.selects yX9_entry.cls yX9_entry yX9_entry ∈ WG := wg_of 1458 (by decide +kernel) (by decide +kernel)
theorem q_ml_RL_181 : Cond.methodLink RL 181 yX8_bound ∈ WG := wg_of 563 (by decide +kernel) (by decide +kernel)
theorem q_cd_yX8_bound : Cond.code yX8_bound cX8_bound 1 (some .int) ∈ WG := wg_of 566 (by decide +kernel) (by decide +kernel)
theorem q_cw_yX8_bound : Cw yX8_bound cX8_bound 1 (some .int) 0 := ⟨q_cd_yX8_bound, q_in_RX8, by decide +kernel, by decide +kernel, by decide +kernel⟩
theorem q_im_yX8_bound : Cond.instanceMethod yX8_bound ∈ WG := wg_of 564 (by decide +kernel) (by decide +kernel)
theorem q_se_yX8_bound : Cond.selects yX8_bound.cls yX8_bound yX8_bound ∈ WG := wg_of 565 (by decide +kernel) (by decide +kernel)
theorem q_ml_RL_184 : Cond.methodLink RL 184 yX9_bound ∈ WG := wg_of 1471 (by decide +kernel) (by decide +kernel)
theorem q_cd_yX9_bound : Cond.code yX9_bound cX9_bound 1 (some .int) ∈ WG := wg_of 1474 (by decide +kernel) (by decide +kernel)
theorem q_cw_yX9_bound : Cw yX9_bound cX9_bound 1 (some .int) 0 := ⟨q_cd_yX9_bound, q_in_RX9, by decide +kernel, by decide +kernel, by decide +kernel⟩
theorem q_im_yX9_bound : Cond.instanceMethod yX9_bound ∈ WG := wg_of 1472 (by decide +kernel) (by decide +kernel)
theorem q_se_yX9_bound : Cond.selects yX9_bound.cls yX9_bound yX9_bound ∈ WG := wg_of 1473 (by decide +kernel) (by decide +kernel)
theorem q_ml_RL_185 : Cond.methodLink RL 185 yL_boundWith ∈ WG := wg_of 1062 (by decide +kernel) (by decide +kernel)
theorem q_cdw_yL_boundWith : Cond.codeWith yL_boundWith cL_boundWith 5 (some .int) [(0, 10, 13, 19), (0, 10, 17, 48)] ∈ WG := wg_of 1064 (by decide +kernel) (by decide +kernel)
theorem q_st_yL_boundWith : Cond.static yL_boundWith ∈ WG := wg_of 1063 (by decide +kernel) (by decide +kernel)
theorem q_ml_RL_187 : Cond.methodLink RL 187 yX9_boundWith ∈ WG := wg_of 1483 (by decide +kernel) (by decide +kernel)
theorem q_cd_yX9_boundWith : Cond.code yX9_boundWith cX9_boundWith 3 (some .int) ∈ WG := wg_of 1486 (by decide +kernel) (by decide +kernel)
theorem q_cw_yX9_boundWith : Cw yX9_boundWith cX9_boundWith 3 (some .int) 2 := ⟨q_cd_yX9_boundWith, q_in_RX9, by decide +kernel, by decide +kernel, by decide +kernel⟩
theorem q_im_yX9_boundWith : Cond.instanceMethod yX9_boundWith ∈ WG := wg_of 1484 (by decide +kernel) (by decide +kernel)
theorem q_se_yX9_boundWith : Cond.selects yX9_boundWith.cls yX9_boundWith yX9_boundWith ∈ WG := wg_of 1485 (by decide +kernel) (by decide +kernel)
theorem q_ml_RL_188 : Cond.methodLink RL 188 yL_regret ∈ WG := wg_of 1070 (by decide +kernel) (by decide +kernel)
theorem q_cdw_yL_regret : Cond.codeWith yL_regret cL_regret 4 (some .int) [(0, 9, 12, 19), (0, 9, 15, 48)] ∈ WG := wg_of 1072 (by decide +kernel) (by decide +kernel)
theorem q_st_yL_regret : Cond.static yL_regret ∈ WG := wg_of 1071 (by decide +kernel) (by decide +kernel)
theorem q_ml_RL_190 : Cond.methodLink RL 190 yX9_regret ∈ WG := wg_of 1487 (by decide +kernel) (by decide +kernel)
theorem q_cd_yX9_regret : Cond.code yX9_regret cX9_regret 2 (some .int) ∈ WG := wg_of 1490 (by decide +kernel) (by decide +kernel)
theorem q_cw_yX9_regret : Cw yX9_regret cX9_regret 2 (some .int) 1 := ⟨q_cd_yX9_regret, q_in_RX9, by decide +kernel, by decide +kernel, by decide +kernel⟩
theorem q_im_yX9_regret : Cond.instanceMethod yX9_regret ∈ WG := wg_of 1488 (by decide +kernel) (by decide +kernel)
theorem q_se_yX9_regret : Cond.selects yX9_regret.cls yX9_regret yX9_regret ∈ WG := wg_of 1489 (by decide +kernel) (by decide +kernel)
theorem q_ml_RL_191 : Cond.methodLink RL 191 yX8_branchOn ∈ WG := wg_of 616 (by decide +kernel) (by decide +kernel)
theorem q_cd_yX8_branchOn : Cond.code yX8_branchOn cX8_branchOn 1 (some .int) ∈ WG := wg_of 619 (by decide +kernel) (by decide +kernel)
theorem q_cw_yX8_branchOn : Cw yX8_branchOn cX8_branchOn 1 (some .int) 0 := ⟨q_cd_yX8_branchOn, q_in_RX8, by decide +kernel, by decide +kernel, by decide +kernel⟩
theorem q_im_yX8_branchOn : Cond.instanceMethod yX8_branchOn ∈ WG := wg_of 617 (by decide +kernel) (by decide +kernel)
theorem q_se_yX8_branchOn : Cond.selects yX8_branchOn.cls yX8_branchOn yX8_branchOn ∈ WG := wg_of 618 (by decide +kernel) (by decide +kernel)
theorem q_ml_RL_194 : Cond.methodLink RL 194 yX9_branchOn ∈ WG := wg_of 1495 (by decide +kernel) (by decide +kernel)
theorem q_cd_yX9_branchOn : Cond.code yX9_branchOn cX9_branchOn 1 (some .int) ∈ WG := wg_of 1498 (by decide +kernel) (by decide +kernel)
theorem q_cw_yX9_branchOn : Cw yX9_branchOn cX9_branchOn 1 (some .int) 0 := ⟨q_cd_yX9_branchOn, q_in_RX9, by decide +kernel, by decide +kernel, by decide +kernel⟩
theorem q_im_yX9_branchOn : Cond.instanceMethod yX9_branchOn ∈ WG := wg_of 1496 (by decide +kernel) (by decide +kernel)
theorem q_se_yX9_branchOn : Cond.selects yX9_branchOn.cls yX9_branchOn yX9_branchOn ∈ WG := wg_of 1497 (by decide +kernel) (by decide +kernel)
theorem q_ml_RL_195 : Cond.methodLink RL 195 yX8_symmetries ∈ WG := wg_of 629 (by decide +kernel) (by decide +kernel)
theorem q_cd_yX8_symmetries : Cond.code yX8_symmetries cX8_symmetries 1 (some .int) ∈ WG := wg_of 632 (by decide +kernel) (by decide +kernel)
theorem q_cw_yX8_symmetries : Cw yX8_symmetries cX8_symmetries 1 (some .int) 0 := ⟨q_cd_yX8_symmetries, q_in_RX8, by decide +kernel, by decide +kernel, by decide +kernel⟩
theorem q_im_yX8_symmetries : Cond.instanceMethod yX8_symmetries ∈ WG := wg_of 630 (by decide +kernel) (by decide +kernel)
theorem q_se_yX8_symmetries : Cond.selects yX8_symmetries.cls yX8_symmetries yX8_symmetries ∈ WG := wg_of 631 (by decide +kernel) (by decide +kernel)
theorem q_ml_RL_198 : Cond.methodLink RL 198 yX9_symmetries ∈ WG := wg_of 1503 (by decide +kernel) (by decide +kernel)
theorem q_cd_yX9_symmetries : Cond.code yX9_symmetries cX9_symmetries 1 (some .int) ∈ WG := wg_of 1506 (by decide +kernel) (by decide +kernel)
theorem q_cw_yX9_symmetries : Cw yX9_symmetries cX9_symmetries 1 (some .int) 0 := ⟨q_cd_yX9_symmetries, q_in_RX9, by decide +kernel, by decide +kernel, by decide +kernel⟩
theorem q_im_yX9_symmetries : Cond.instanceMethod yX9_symmetries ∈ WG := wg_of 1504 (by decide +kernel) (by decide +kernel)
theorem q_se_yX9_symmetries : Cond.selects yX9_symmetries.cls yX9_symmetries yX9_symmetries ∈ WG := wg_of 1505 (by decide +kernel) (by decide +kernel)
theorem q_ml_RL_199 : Cond.methodLink RL 199 yL_representative ∈ WG := wg_of 1079 (by decide +kernel) (by decide +kernel)
theorem q_cdw_yL_representative : Cond.codeWith yL_representative cL_representative 4 (some .int) [(0, 9, 12, 19)] ∈ WG := wg_of 1081 (by decide +kernel) (by decide +kernel)
theorem q_st_yL_representative : Cond.static yL_representative ∈ WG := wg_of 1080 (by decide +kernel) (by decide +kernel)
theorem q_ml_RL_201 : Cond.methodLink RL 201 yX9_representative ∈ WG := wg_of 1523 (by decide +kernel) (by decide +kernel)
theorem q_cd_yX9_representative : Cond.code yX9_representative cX9_representative 2 (some .int) ∈ WG := wg_of 1526 (by decide +kernel) (by decide +kernel)
theorem q_cw_yX9_representative : Cw yX9_representative cX9_representative 2 (some .int) 1 := ⟨q_cd_yX9_representative, q_in_RX9, by decide +kernel, by decide +kernel, by decide +kernel⟩
theorem q_im_yX9_representative : Cond.instanceMethod yX9_representative ∈ WG := wg_of 1524 (by decide +kernel) (by decide +kernel)
theorem q_se_yX9_representative : Cond.selects yX9_representative.cls yX9_representative yX9_representative ∈ WG := wg_of 1525 (by decide +kernel) (by decide +kernel)
theorem q_ml_RL_202 : Cond.methodLink RL 202 yX8_search ∈ WG := wg_of 657 (by decide +kernel) (by decide +kernel)
theorem q_cd_yX8_search : Cond.code yX8_search cX8_search 3 (some .int) ∈ WG := wg_of 660 (by decide +kernel) (by decide +kernel)
theorem q_cw_yX8_search : Cw yX8_search cX8_search 3 (some .int) 2 := ⟨q_cd_yX8_search, q_in_RX8, by decide +kernel, by decide +kernel, by decide +kernel⟩
theorem q_im_yX8_search : Cond.instanceMethod yX8_search ∈ WG := wg_of 658 (by decide +kernel) (by decide +kernel)
theorem q_se_yX8_search : Cond.selects yX8_search.cls yX8_search yX8_search ∈ WG := wg_of 659 (by decide +kernel) (by decide +kernel)
theorem q_ml_RL_206 : Cond.methodLink RL 206 yX9_search ∈ WG := wg_of 1531 (by decide +kernel) (by decide +kernel)
theorem q_cd_yX9_search : Cond.code yX9_search cX9_search 4 (some .int) ∈ WG := wg_of 1534 (by decide +kernel) (by decide +kernel)
theorem q_cw_yX9_search : Cw yX9_search cX9_search 4 (some .int) 2 := ⟨q_cd_yX9_search, q_in_RX9, by decide +kernel, by decide +kernel, by decide +kernel⟩
theorem q_im_yX9_search : Cond.instanceMethod yX9_search ∈ WG := wg_of 1532 (by decide +kernel) (by decide +kernel)
theorem q_se_yX9_search : Cond.selects yX9_search.cls yX9_search yX9_search ∈ WG := wg_of 1533 (by decide +kernel) (by decide +kernel)
theorem q_ml_RL_207 : Cond.methodLink RL 207 yL_found ∈ WG := wg_of 1086 (by decide +kernel) (by decide +kernel)
theorem q_cdw_yL_found : Cond.codeWith yL_found cL_found 4 (some .int) [(0, 9, 12, 13)] ∈ WG := wg_of 1088 (by decide +kernel) (by decide +kernel)
theorem q_st_yL_found : Cond.static yL_found ∈ WG := wg_of 1087 (by decide +kernel) (by decide +kernel)
theorem q_ml_RL_209 : Cond.methodLink RL 209 yX9_found ∈ WG := wg_of 1567 (by decide +kernel) (by decide +kernel)
theorem q_cd_yX9_found : Cond.code yX9_found cX9_found 2 (some .int) ∈ WG := wg_of 1570 (by decide +kernel) (by decide +kernel)
theorem q_cw_yX9_found : Cw yX9_found cX9_found 2 (some .int) 1 := ⟨q_cd_yX9_found, q_in_RX9, by decide +kernel, by decide +kernel, by decide +kernel⟩
theorem q_im_yX9_found : Cond.instanceMethod yX9_found ∈ WG := wg_of 1568 (by decide +kernel) (by decide +kernel)
theorem q_se_yX9_found : Cond.selects yX9_found.cls yX9_found yX9_found ∈ WG := wg_of 1569 (by decide +kernel) (by decide +kernel)
theorem q_ml_RL_210 : Cond.methodLink RL 210 yL_nodes ∈ WG := wg_of 1094 (by decide +kernel) (by decide +kernel)
theorem q_cdw_yL_nodes : Cond.codeWith yL_nodes cL_nodes 4 (some .int) [(0, 9, 12, 13)] ∈ WG := wg_of 1096 (by decide +kernel) (by decide +kernel)
theorem q_st_yL_nodes : Cond.static yL_nodes ∈ WG := wg_of 1095 (by decide +kernel) (by decide +kernel)
theorem q_ml_RL_212 : Cond.methodLink RL 212 yX9_nodes ∈ WG := wg_of 1575 (by decide +kernel) (by decide +kernel)
theorem q_cd_yX9_nodes : Cond.code yX9_nodes cX9_nodes 2 (some .int) ∈ WG := wg_of 1578 (by decide +kernel) (by decide +kernel)
theorem q_cw_yX9_nodes : Cw yX9_nodes cX9_nodes 2 (some .int) 1 := ⟨q_cd_yX9_nodes, q_in_RX9, by decide +kernel, by decide +kernel, by decide +kernel⟩
theorem q_im_yX9_nodes : Cond.instanceMethod yX9_nodes ∈ WG := wg_of 1576 (by decide +kernel) (by decide +kernel)
theorem q_se_yX9_nodes : Cond.selects yX9_nodes.cls yX9_nodes yX9_nodes ∈ WG := wg_of 1577 (by decide +kernel) (by decide +kernel)
theorem q_ml_RL_213 : Cond.methodLink RL 213 yL_type ∈ WG := wg_of 1102 (by decide +kernel) (by decide +kernel)
theorem q_cdw_yL_type : Cond.codeWith yL_type cL_type 4 (some .int) [(0, 9, 12, 13), (0, 9, 15, 48)] ∈ WG := wg_of 1104 (by decide +kernel) (by decide +kernel)
theorem q_st_yL_type : Cond.static yL_type ∈ WG := wg_of 1103 (by decide +kernel) (by decide +kernel)
theorem q_ml_RL_215 : Cond.methodLink RL 215 yX9_type ∈ WG := wg_of 1579 (by decide +kernel) (by decide +kernel)
theorem q_cd_yX9_type : Cond.code yX9_type cX9_type 2 (some .int) ∈ WG := wg_of 1582 (by decide +kernel) (by decide +kernel)
theorem q_cw_yX9_type : Cw yX9_type cX9_type 2 (some .int) 1 := ⟨q_cd_yX9_type, q_in_RX9, by decide +kernel, by decide +kernel, by decide +kernel⟩
theorem q_im_yX9_type : Cond.instanceMethod yX9_type ∈ WG := wg_of 1580 (by decide +kernel) (by decide +kernel)
theorem q_se_yX9_type : Cond.selects yX9_type.cls yX9_type yX9_type ∈ WG := wg_of 1581 (by decide +kernel) (by decide +kernel)
theorem q_ml_RL_216 : Cond.methodLink RL 216 yX8_clearText ∈ WG := wg_of 741 (by decide +kernel) (by decide +kernel)
theorem q_cd_yX8_clearText : Cond.code yX8_clearText cX8_clearText 2 (some .int) ∈ WG := wg_of 744 (by decide +kernel) (by decide +kernel)
theorem q_cw_yX8_clearText : Cw yX8_clearText cX8_clearText 2 (some .int) 0 := ⟨q_cd_yX8_clearText, q_in_RX8, by decide +kernel, by decide +kernel, by decide +kernel⟩
theorem q_im_yX8_clearText : Cond.instanceMethod yX8_clearText ∈ WG := wg_of 742 (by decide +kernel) (by decide +kernel)
theorem q_se_yX8_clearText : Cond.selects yX8_clearText.cls yX8_clearText yX8_clearText ∈ WG := wg_of 743 (by decide +kernel) (by decide +kernel)
theorem q_ml_RL_219 : Cond.methodLink RL 219 yX9_clearText ∈ WG := wg_of 1583 (by decide +kernel) (by decide +kernel)
theorem q_cd_yX9_clearText : Cond.code yX9_clearText cX9_clearText 2 (some .int) ∈ WG := wg_of 1586 (by decide +kernel) (by decide +kernel)
theorem q_cw_yX9_clearText : Cw yX9_clearText cX9_clearText 2 (some .int) 0 := ⟨q_cd_yX9_clearText, q_in_RX9, by decide +kernel, by decide +kernel, by decide +kernel⟩
theorem q_im_yX9_clearText : Cond.instanceMethod yX9_clearText ∈ WG := wg_of 1584 (by decide +kernel) (by decide +kernel)
theorem q_se_yX9_clearText : Cond.selects yX9_clearText.cls yX9_clearText yX9_clearText ∈ WG := wg_of 1585 (by decide +kernel) (by decide +kernel)
theorem q_ml_RL_220 : Cond.methodLink RL 220 yX8_fault ∈ WG := wg_of 745 (by decide +kernel) (by decide +kernel)
theorem q_cd_yX8_fault : Cond.code yX8_fault cX8_fault 1 (some .int) ∈ WG := wg_of 748 (by decide +kernel) (by decide +kernel)
theorem q_cw_yX8_fault : Cw yX8_fault cX8_fault 1 (some .int) 0 := ⟨q_cd_yX8_fault, q_in_RX8, by decide +kernel, by decide +kernel, by decide +kernel⟩
theorem q_im_yX8_fault : Cond.instanceMethod yX8_fault ∈ WG := wg_of 746 (by decide +kernel) (by decide +kernel)
theorem q_se_yX8_fault : Cond.selects yX8_fault.cls yX8_fault yX8_fault ∈ WG := wg_of 747 (by decide +kernel) (by decide +kernel)
theorem q_ml_RL_223 : Cond.methodLink RL 223 yX9_fault ∈ WG := wg_of 1587 (by decide +kernel) (by decide +kernel)
theorem q_cd_yX9_fault : Cond.code yX9_fault cX9_fault 1 (some .int) ∈ WG := wg_of 1590 (by decide +kernel) (by decide +kernel)
theorem q_cw_yX9_fault : Cw yX9_fault cX9_fault 1 (some .int) 0 := ⟨q_cd_yX9_fault, q_in_RX9, by decide +kernel, by decide +kernel, by decide +kernel⟩
theorem q_im_yX9_fault : Cond.instanceMethod yX9_fault ∈ WG := wg_of 1588 (by decide +kernel) (by decide +kernel)
theorem q_se_yX9_fault : Cond.selects yX9_fault.cls yX9_fault yX9_fault ∈ WG := wg_of 1589 (by decide +kernel) (by decide +kernel)
theorem q_ml_RL_224 : Cond.methodLink RL 224 yL_run ∈ WG := wg_of 1115 (by decide +kernel) (by decide +kernel)
theorem q_cdw_yL_run : Cond.codeWith yL_run cL_run 3 (some .int) [(0, 8, 11, 13)] ∈ WG := wg_of 1117 (by decide +kernel) (by decide +kernel)
theorem q_st_yL_run : Cond.static yL_run ∈ WG := wg_of 1116 (by decide +kernel) (by decide +kernel)
theorem q_ml_RL_227 : Cond.methodLink RL 227 yX9_run ∈ WG := wg_of 1611 (by decide +kernel) (by decide +kernel)
theorem q_cd_yX9_run : Cond.code yX9_run cX9_run 4 (some .int) ∈ WG := wg_of 1614 (by decide +kernel) (by decide +kernel)
theorem q_cw_yX9_run : Cw yX9_run cX9_run 4 (some .int) 0 := ⟨q_cd_yX9_run, q_in_RX9, by decide +kernel, by decide +kernel, by decide +kernel⟩
theorem q_im_yX9_run : Cond.instanceMethod yX9_run ∈ WG := wg_of 1612 (by decide +kernel) (by decide +kernel)
theorem q_se_yX9_run : Cond.selects yX9_run.cls yX9_run yX9_run ∈ WG := wg_of 1613 (by decide +kernel) (by decide +kernel)
theorem q_ml_RL_228 : Cond.methodLink RL 228 yL_undo ∈ WG := wg_of 1125 (by decide +kernel) (by decide +kernel)
theorem q_cdw_yL_undo : Cond.codeWith yL_undo cL_undo 3 (some .int) [(0, 8, 11, 48)] ∈ WG := wg_of 1127 (by decide +kernel) (by decide +kernel)
theorem q_st_yL_undo : Cond.static yL_undo ∈ WG := wg_of 1126 (by decide +kernel) (by decide +kernel)
theorem q_ml_RL_230 : Cond.methodLink RL 230 yX9_undo ∈ WG := wg_of 1615 (by decide +kernel) (by decide +kernel)
theorem q_cd_yX9_undo : Cond.code yX9_undo cX9_undo 2 (some .int) ∈ WG := wg_of 1618 (by decide +kernel) (by decide +kernel)
theorem q_cw_yX9_undo : Cw yX9_undo cX9_undo 2 (some .int) 0 := ⟨q_cd_yX9_undo, q_in_RX9, by decide +kernel, by decide +kernel, by decide +kernel⟩
theorem q_im_yX9_undo : Cond.instanceMethod yX9_undo ∈ WG := wg_of 1616 (by decide +kernel) (by decide +kernel)
theorem q_se_yX9_undo : Cond.selects yX9_undo.cls yX9_undo yX9_undo ∈ WG := wg_of 1617 (by decide +kernel) (by decide +kernel)
theorem q_ml_RL_231 : Cond.methodLink RL 231 yX8_checksum ∈ WG := wg_of 789 (by decide +kernel) (by decide +kernel)
theorem q_cd_yX8_checksum : Cond.code yX8_checksum cX8_checksum 4 (some .long) ∈ WG := wg_of 792 (by decide +kernel) (by decide +kernel)
theorem q_cw_yX8_checksum : Cw yX8_checksum cX8_checksum 4 (some .long) 0 := ⟨q_cd_yX8_checksum, q_in_RX8, by decide +kernel, by decide +kernel, by decide +kernel⟩
theorem q_im_yX8_checksum : Cond.instanceMethod yX8_checksum ∈ WG := wg_of 790 (by decide +kernel) (by decide +kernel)
theorem q_se_yX8_checksum : Cond.selects yX8_checksum.cls yX8_checksum yX8_checksum ∈ WG := wg_of 791 (by decide +kernel) (by decide +kernel)
theorem q_ml_RL_235 : Cond.methodLink RL 235 yX9_checksum ∈ WG := wg_of 1619 (by decide +kernel) (by decide +kernel)
theorem q_cd_yX9_checksum : Cond.code yX9_checksum cX9_checksum 3 (some .long) ∈ WG := wg_of 1622 (by decide +kernel) (by decide +kernel)
theorem q_cw_yX9_checksum : Cw yX9_checksum cX9_checksum 3 (some .long) 0 := ⟨q_cd_yX9_checksum, q_in_RX9, by decide +kernel, by decide +kernel, by decide +kernel⟩
theorem q_im_yX9_checksum : Cond.instanceMethod yX9_checksum ∈ WG := wg_of 1620 (by decide +kernel) (by decide +kernel)
theorem q_se_yX9_checksum : Cond.selects yX9_checksum.cls yX9_checksum yX9_checksum ∈ WG := wg_of 1621 (by decide +kernel) (by decide +kernel)
