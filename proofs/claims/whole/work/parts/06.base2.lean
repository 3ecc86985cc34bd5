def mx (x y : Int32) : Int32 := if x < y then y else x
def mn (x y : Int32) : Int32 := if y < x then y else x
def gb (x : Int32) : Option Int32 := if x = 0 ∨ x = 1 then some x else none
theorem gb_in {x v : Int32} (h : gb x = some v) : (x = 0 ∨ x = 1) ∧ v = x := by
  unfold gb at h
  split at h
  · next c => exact ⟨c, (Option.some.inj h).symm⟩
  · cases h
def ldv (x y : Int64) : Option Int64 := if y = 0 then none else some (x / y)
def lrm (x y : Int64) : Option Int64 := if y = 0 then none else some (x - x / y * y)
theorem ldv_in {x y v : Int64} (h : ldv x y = some v) : ¬ y = 0 ∧ v = x / y := by
  unfold ldv at h
  split at h
  · cases h
  · next c => exact ⟨c, (Option.some.inj h).symm⟩
theorem lrm_in {x y v : Int64} (h : lrm x y = some v) : ¬ y = 0 ∧ v = x - x / y * y := by
  unfold lrm at h
  split at h
  · cases h
  · next c => exact ⟨c, (Option.some.inj h).symm⟩
def acp (σ : Sg) (ks : Nat) (sp : Int32) (kt : Nat) (dp n : Int32) : Option Sg := if ¬ sp < 0 ∧ ¬ dp < 0 ∧ ¬ n < 0 ∧ sp.toNatClampNeg + n.toNatClampNeg ≤ ln ks ∧ dp.toNatClampNeg + n.toNatClampNeg ≤ ln kt then some (sa σ kt (va_cpy (σ ks) (σ kt) sp.toNatClampNeg dp.toNatClampNeg n.toNatClampNeg)) else none
theorem acp_in {σ σ' : Sg} {ks kt : Nat} {sp dp n : Int32} (h : acp σ ks sp kt dp n = some σ') : (¬ sp < 0 ∧ ¬ dp < 0 ∧ ¬ n < 0 ∧ sp.toNatClampNeg + n.toNatClampNeg ≤ ln ks ∧ dp.toNatClampNeg + n.toNatClampNeg ≤ ln kt) ∧ σ' = sa σ kt (va_cpy (σ ks) (σ kt) sp.toNatClampNeg dp.toNatClampNeg n.toNatClampNeg) := by
  unfold acp at h
  split at h
  · next c => exact ⟨c, (Option.some.inj h).symm⟩
  · cases h
theorem sa_self (σ : Sg) (k : Nat) (f : Nat → Int32) : sa σ k f k = f := by simp [sa]
theorem sa_ne (σ : Sg) {k q : Nat} (f : Nat → Int32) (h : q ≠ k) : sa σ k f q = σ q := by simp [sa, h]
section YR2
variable {p : Program} {l : Launch} {e : Env} {R : Room} {s : State} {m : MethodId} {args : Array Value} {below : List Frame} {meth : Method} {c : Code} {cc : ByteArray} {own : String} {nL : Nat} {ret : Option FieldType} {D : va_G} {cA ρ : Nat → Nat} {A : Nat → Prop} {cells slots : Nat} {Q : State → Prop} {σ : Sg} {τ : Tg} {pc : Nat} {lv : List (Nat × Value)} {st : List Value}
theorem Y_ldiv' (C : Ctx p l s m args meth c cc own nL ret D cA ρ A) {x y v : Int64} (h : ldv x y = some v) (hd : decode cc pc = .ok (.ldiv, 1)) (k : Y p l e R s m args below meth c nL D cA ρ A cells slots Q σ τ (pc + 1) lv (.long v :: st)) : Y p l e R s m args below meth c nL D cA ρ A cells slots Q σ τ pc lv (.long y :: .long x :: st) := by
  obtain ⟨h1, rfl⟩ := ldv_in h
  exact Y_ldiv C h1 hd k
theorem Y_lrem' (C : Ctx p l s m args meth c cc own nL ret D cA ρ A) {x y v : Int64} (h : lrm x y = some v) (hd : decode cc pc = .ok (.lrem, 1)) (k : Y p l e R s m args below meth c nL D cA ρ A cells slots Q σ τ (pc + 1) lv (.long v :: st)) : Y p l e R s m args below meth c nL D cA ρ A cells slots Q σ τ pc lv (.long y :: .long x :: st) := by
  obtain ⟨h1, rfl⟩ := lrm_in h
  exact Y_lrem C h1 hd k
theorem Y_acp (C : Ctx p l s m args meth c cc own nL ret D cA ρ A) (hw : Wr ρ A) {index ks kt : Nat} {sp dp n : Int32} {σ' : Sg} (hlink : Cond.methodLink own index arraycopyName ∈ WG) (hq : Cond.native arraycopyName ∈ WG ∧ Cond.static arraycopyName ∈ WG ∧ Cond.initialized "java/lang/System" ∈ WG) (hk1 : (kd ks).1 = 1) (hs9 : ks < 97) (hk2 : (kd kt).1 = 1) (ht9 : kt < 97) (h : acp σ ks sp kt dp n = some σ') (hr : 1 ≤ R.frames ∧ (st.map fun v => v.category).sum + (nativeFrameWords "java/lang/System" "arraycopy" 5 + 11) ≤ R.locals) (hd : decode cc pc = .ok (.invokestatic index, 3)) (kk : Y p l e R s m args below meth c nL D cA ρ A cells slots Q σ' τ (pc + 3) lv st) : Y p l e R s m args below meth c nL D cA ρ A cells slots Q σ τ pc lv (.int n :: .int dp :: .ref (ρ kt) :: .int sp :: .ref (ρ ks) :: st) := fun H locs ls hP hS hl => by
  obtain ⟨⟨h1, h2, h3, h4, h5⟩, rfl⟩ := acp_in h
  refine va_copyi C.1 C.2.1 (C.2.2.2.1.trans hl.1.symm) C.2.2.2.2.1 (C.2.2.2.2.2.1 _ hlink) (C.2.2.2.2.2.1 _ hq.1) (C.2.2.2.2.2.1 _ hq.2.1) (C.2.2.2.2.2.1 _ hq.2.2) C.2.2.2.2.2.2.2.1 hP.1 (wd_D hw.1 hw.2) hS ks kt 0 0 ((wd_get ρ cA σ τ hs9).trans (by rw [wc_i (kd_ln hk1)])) ((wd_get ρ cA σ τ ht9).trans (by rw [wc_i (kd_ln hk2)])) rfl rfl rfl h1 h2 h3 h4 h5 (fun _ _ => rfl) hr.1 hr.2 hd (fun H1 locs1 hP1 _ hS1 => ?_)
  rw [wd_set (σ' := sa σ kt (va_cpy (σ ks) (σ kt) sp.toNatClampNeg dp.toNatClampNeg n.toNatClampNeg)) (τ' := τ) (by rw [wc_i (kd_ln hk2), sa_self]) (fun q hq => wc_cong (sa_ne σ _ hq) rfl)] at hP1
  exact kk H1 locs1 ls (wd_98 hP (sa_ne σ _ (by omega)) hP1) hS1 hl
theorem Y_anull (C : Ctx p l s m args meth c cc own nL ret D cA ρ A) (hd : decode cc pc = .ok (.aconst_null, 1)) (k : Y p l e R s m args below meth c nL D cA ρ A cells slots Q σ τ (pc + 1) lv (.null :: st)) : Y p l e R s m args below meth c nL D cA ρ A cells slots Q σ τ pc lv st := fun H locs ls hP hS hl => lv_null C.1 C.2.1 hd (k H locs ls hP hS hl)
theorem Y_aload_nN (C : Ctx p l s m args meth c cc own nL ret D cA ρ A) {k : Fin 4} (i n : Nat) (hi : (k : Nat) = i) (hx : lv[n]? = some (i, .null)) (hd : decode cc pc = .ok (.aload_n k, 1)) (k : Y p l e R s m args below meth c nL D cA ρ A cells slots Q σ τ (pc + 1) lv (.null :: st)) : Y p l e R s m args below meth c nL D cA ρ A cells slots Q σ τ pc lv st := fun H locs ls hP hS hl => lv_aload_nN C.1 C.2.1 hd hi (lv_at hl n hx) (k H locs ls hP hS hl)
theorem Y_astore_nN (C : Ctx p l s m args meth c cc own nL ret D cA ρ A) {k : Fin 4} {lv' : List (Nat × Value)} (i : Nat) (hi : (k : Nat) = i) (hn : i < nL) (hl' : (i, Value.null) :: lv.filter (fun q => !(q.1 == i) && !(q.1 + 1 == i && q.2.category == 2)) = lv') (hd : decode cc pc = .ok (.astore_n k, 1)) (k : Y p l e R s m args below meth c nL D cA ρ A cells slots Q σ τ (pc + 1) lv' st) : Y p l e R s m args below meth c nL D cA ρ A cells slots Q σ τ pc lv (.null :: st) := fun H locs ls hP hS hl => lv_astore_nN C.1 C.2.1 hd hi hl hn hl' (fun ls hl => k H locs ls hP hS hl)
theorem Y_ifnull (C : Ctx p l s m args meth c cc own nL ret D cA ρ A) {x : Nat} {off : Int} (hd : decode cc pc = .ok (.ifnull off, 3)) (k : Y p l e R s m args below meth c nL D cA ρ A cells slots Q σ τ (pc + 3) lv st) : Y p l e R s m args below meth c nL D cA ρ A cells slots Q σ τ pc lv (.ref x :: st) := fun H locs ls hP hS hl => lv_ifnull C.1 C.2.1 hd (k H locs ls hP hS hl)
theorem Y_ifnullN (C : Ctx p l s m args meth c cc own nL ret D cA ρ A) {off : Int} {tgt : Nat} (hd : decode cc pc = .ok (.ifnull off, 3)) (ht : (pc : Int) + off = (tgt : Int)) (k : Y p l e R s m args below meth c nL D cA ρ A cells slots Q σ τ tgt lv st) : Y p l e R s m args below meth c nL D cA ρ A cells slots Q σ τ pc lv (.null :: st) := fun H locs ls hP hS hl => lv_ifnullN C.1 C.2.1 hd ht (k H locs ls hP hS hl)
end YR2
def vq (ρ : Nat → Nat) (o : Option Nat) : Value := match o with
  | none => .null
  | some k => .ref (ρ k)
