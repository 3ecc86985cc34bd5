-- places, kinds, stores
def kt : List (Nat × Nat) := [(0, 8), (0, 6), (1, 36), (1, 36), (1, 36), (1, 6), (1, 6), (0, 2), (5, 6), (0, 6), (1, 36), (1, 36), (1, 36), (1, 6), (1, 6), (0, 6), (1, 36), (1, 36), (1, 36), (1, 6), (1, 6), (0, 6), (1, 36), (1, 36), (1, 36), (1, 6), (1, 6), (0, 6), (1, 36), (1, 36), (1, 36), (1, 6), (1, 6), (0, 6), (1, 36), (1, 36), (1, 36), (1, 6), (1, 6), (0, 6), (1, 36), (1, 36), (1, 36), (1, 6), (1, 6), (0, 0), (1, 720), (1, 6), (0, 1), (1, 36), (1, 6), (1, 36), (1, 36), (1, 64), (0, 7), (1, 6), (1, 6), (0, 5), (1, 7), (0, 3), (2, 720), (0, 1), (1, 36), (1, 6), (1, 36), (1, 36), (1, 64), (0, 7), (1, 6), (1, 6), (1, 6), (1, 6), (0, 4), (3, 120), (1, 6), (0, 9), (1, 121), (1, 726), (1, 121), (1, 120), (1, 6), (1, 6), (1, 6), (1, 6), (1, 64), (1, 6), (1, 4320), (1, 12000), (1, 2000), (1, 2000), (4, 2000), (1, 7), (1, 7), (1, 6), (1, 6), (1, 3), (2, 1), (1, 7)]
def kd (k : Nat) : Nat × Nat := kt.getD k (9, 0)
def ln (k : Nat) : Nat := (kd k).2
def fdt : List (List Nat) := [[0, 0, 0, 1, 0, 2], [0, 1, 0, 0, 0, 0, 2, 3, 4, 5], [0, 0, 1], [0, 0, 1], [0, 0, 0, 0, 0, 0, 0, 1], [0, 0, 1, 0, 0, 0, 0, 0, 0, 0, 0, 0, 2, 4, 10, 13, 14], [0, 1, 2, 3, 4, 5], [0, 1, 0, 0, 2], [1, 7, 45, 48, 54, 57, 72, 74], [1, 2, 3, 0, 4, 0, 0, 5, 6, 7, 8, 9, 10, 11, 0, 12, 13, 14, 15, 0, 16, 17, 18, 19, 0, 0, 20, 1000]]
def fdl (ci : Nat) : List Nat := fdt.getD ci []
abbrev Sg : Type := Nat → Nat → Int32
abbrev Tg : Type := Nat → Nat → Int64
def si (σ : Sg) (k j : Nat) (x : Int32) : Sg := fun q => if q = k then upd (σ k) j x else σ q
def sl (τ : Tg) (k j : Nat) (x : Int64) : Tg := fun q => if q = k then vp_updL (τ k) j x else τ q
def sa (σ : Sg) (k : Nat) (f : Nat → Int32) : Sg := fun q => if q = k then f else σ q
def rr (k i : Nat) : Nat := k + 1 + 6 * i
def fv (ρ : Nat → Nat) (σ : Sg) (τ : Tg) (k j d : Nat) : Value := if d = 0 then .int (σ k j) else if d = 1000 then .long (τ k j) else .ref (ρ (k + d))
def fo (ρ : Nat → Nat) (σ : Sg) (τ : Tg) (k : Nat) (l : List Nat) : List Value := l.mapIdx (fun j d => fv ρ σ τ k j d)
def wc (ρ cA : Nat → Nat) (σ : Sg) (τ : Tg) (k : Nat) : va_E := match kd k with
  | (0, ci) => .inr (ci, fo ρ σ τ k (fdl ci))
  | (2, n) => .inl (cA 2, n, .inr (.inl (τ k)))
  | (5, n) => .inl (cA 5, n, .inr (.inr (.inr (.inr (fun i => some (ρ (rr k i)))))))
  | (t, n) => .inl (cA t, n, .inl (σ k))
def wd (N : Nat) (ρ cA : Nat → Nat) (σ : Sg) (τ : Tg) : va_W := (List.range N).map (fun k => (ρ k, wc ρ cA σ τ k))
def tyv (cA : Nat → Nat) : List (ClassId × FieldType) := [(cA 1, .int), (cA 2, .long), (cA 3, .char), (cA 4, .boolean), (cA 5, .object RX6)]
def A0 : Nat → Prop := fun _ => False
def Aw (ρ : Nat → Nat) : Nat → Prop := fun q => ∃ k, k < 97 ∧ q = ρ k
def Inj (ρ : Nat → Nat) : Prop := ∀ i j, i < 98 → j < 98 → ρ i = ρ j → i = j
def isN : Cond → Bool
  | .methodLinkNest _ _ _ _ => true
  | _ => false
def WG : List Cond := lw_tbl.filter goodWord
def NW : List Cond := lw_tbl.filter isN
theorem wg_of {w : Cond} (i : Nat) (h : lw_tbl[i]? = some w) (g : goodWord w = true) : w ∈ WG := List.mem_filter.mpr ⟨List.mem_of_getElem? h, g⟩
theorem nw_of {w : Cond} (i : Nat) (h : lw_tbl[i]? = some w) (g : isN w = true) : w ∈ NW := List.mem_filter.mpr ⟨List.mem_of_getElem? h, g⟩
theorem wg_good (y : MethodName) (b : ByteArray) (n : Nat) (r : Option FieldType) (h : Cond.code y b n r ∈ WG) : GoodIn WG (Cond.code y b n r :: WG) := by
  intro w hw
  have hm : w ∈ WG := by
    rcases List.mem_cons.mp hw with rfl | hw
    · exact h
    · exact hw
  exact ⟨hm, good_of_word (List.mem_filter.mp hm).2⟩
theorem wd_get {N k : Nat} (ρ cA : Nat → Nat) (σ : Sg) (τ : Tg) (h : k < N) : (wd N ρ cA σ τ)[k]? = some (ρ k, wc ρ cA σ τ k) := by
  simp [wd, List.getElem?_map, List.getElem?_range h]
theorem wd_len (N : Nat) (ρ cA : Nat → Nat) (σ : Sg) (τ : Tg) : (wd N ρ cA σ τ).length = N := by simp [wd]
theorem wd_of {N k : Nat} {ρ cA : Nat → Nat} {σ : Sg} {τ : Tg} {q : Nat × va_E} (h : (wd N ρ cA σ τ)[k]? = some q) : k < N ∧ q = (ρ k, wc ρ cA σ τ k) := by
  have hk : k < N := by
    have := (List.getElem?_eq_some_iff.mp h).1
    rwa [wd_len] at this
  rw [wd_get ρ cA σ τ hk] at h
  exact ⟨hk, (Option.some.inj h).symm⟩
theorem wd_set {N k : Nat} {ρ cA : Nat → Nat} {σ σ' : Sg} {τ τ' : Tg} {E : va_E} (hE : E = wc ρ cA σ' τ' k) (h : ∀ q, q ≠ k → wc ρ cA σ' τ' q = wc ρ cA σ τ q) : (wd N ρ cA σ τ).set k (ρ k, E) = wd N ρ cA σ' τ' := by
  subst hE
  apply List.ext_getElem?
  intro i
  by_cases hi : i < N
  · rw [wd_get _ _ _ _ hi]
    by_cases hik : k = i
    · subst hik
      rw [List.getElem?_set_self (by rw [wd_len]; exact hi)]
    · rw [List.getElem?_set_ne hik, wd_get _ _ _ _ hi, h i (fun e => hik e.symm)]
  · rw [List.getElem?_eq_none (by rw [List.length_set, wd_len]; omega), List.getElem?_eq_none (by rw [wd_len]; omega)]
theorem wc_i {ρ cA : Nat → Nat} {σ : Sg} {τ : Tg} {k n : Nat} (h : kd k = (1, n)) : wc ρ cA σ τ k = .inl (cA 1, n, .inl (σ k)) := by simp [wc, h]
theorem wc_l {ρ cA : Nat → Nat} {σ : Sg} {τ : Tg} {k n : Nat} (h : kd k = (2, n)) : wc ρ cA σ τ k = .inl (cA 2, n, .inr (.inl (τ k))) := by simp [wc, h]
theorem wc_c {ρ cA : Nat → Nat} {σ : Sg} {τ : Tg} {k n : Nat} (h : kd k = (3, n)) : wc ρ cA σ τ k = .inl (cA 3, n, .inl (σ k)) := by simp [wc, h]
theorem wc_z {ρ cA : Nat → Nat} {σ : Sg} {τ : Tg} {k n : Nat} (h : kd k = (4, n)) : wc ρ cA σ τ k = .inl (cA 4, n, .inl (σ k)) := by simp [wc, h]
theorem wc_q {ρ cA : Nat → Nat} {σ : Sg} {τ : Tg} {k n : Nat} (h : kd k = (5, n)) : wc ρ cA σ τ k = .inl (cA 5, n, .inr (.inr (.inr (.inr (fun i => some (ρ (rr k i))))))) := by simp [wc, h]
theorem wc_o {ρ cA : Nat → Nat} {σ : Sg} {τ : Tg} {k ci : Nat} (h : kd k = (0, ci)) : wc ρ cA σ τ k = .inr (ci, fo ρ σ τ k (fdl ci)) := by simp [wc, h]
theorem si_self (σ : Sg) (k j : Nat) (x : Int32) : si σ k j x k = upd (σ k) j x := by simp [si]
theorem si_ne (σ : Sg) {k q : Nat} (j : Nat) (x : Int32) (h : q ≠ k) : si σ k j x q = σ q := by simp [si, h]
theorem sl_self (τ : Tg) (k j : Nat) (x : Int64) : sl τ k j x k = vp_updL (τ k) j x := by simp [sl]
theorem sl_ne (τ : Tg) {k q : Nat} (j : Nat) (x : Int64) (h : q ≠ k) : sl τ k j x q = τ q := by simp [sl, h]
theorem fo_cong {ρ : Nat → Nat} {σ σ' : Sg} {τ τ' : Tg} {k : Nat} (h1 : σ' k = σ k) (h2 : τ' k = τ k) (l : List Nat) : fo ρ σ' τ' k l = fo ρ σ τ k l := by simp [fo, fv, h1, h2]
theorem wc_cong {ρ cA : Nat → Nat} {σ σ' : Sg} {τ τ' : Tg} {k : Nat} (h1 : σ' k = σ k) (h2 : τ' k = τ k) : wc ρ cA σ' τ' k = wc ρ cA σ τ k := by
  simp only [wc, fo_cong h1 h2, h1, h2]
theorem fo_get {ρ : Nat → Nat} {σ : Sg} {τ : Tg} {k j d : Nat} {l : List Nat} (h : l[j]? = some d) : (fo ρ σ τ k l)[j]? = some (fv ρ σ τ k j d) := by
  simp [fo, List.getElem?_mapIdx, h]
theorem fo_len (ρ : Nat → Nat) (σ : Sg) (τ : Tg) (k : Nat) (l : List Nat) : (fo ρ σ τ k l).length = l.length := by simp [fo]
theorem fo_si {ρ : Nat → Nat} {σ : Sg} {τ : Tg} {k j : Nat} {x : Int32} {l : List Nat} (h : l[j]? = some 0) : (fo ρ σ τ k l).set j (.int x) = fo ρ (si σ k j x) τ k l := by
  apply List.ext_getElem?
  intro i
  have hj : j < l.length := (List.getElem?_eq_some_iff.mp h).1
  by_cases hi : j = i
  · subst hi
    rw [List.getElem?_set_self (by rw [fo_len]; exact hj), fo_get h]
    simp [fv, si_self, upd]
  · rw [List.getElem?_set_ne hi]
    simp only [fo, List.getElem?_mapIdx, fv, si_self, upd]
    have hi' : ¬ i = j := fun e => hi e.symm
    simp [hi']
theorem fo_sl {ρ : Nat → Nat} {σ : Sg} {τ : Tg} {k j : Nat} {x : Int64} {l : List Nat} (h : l[j]? = some 1000) : (fo ρ σ τ k l).set j (.long x) = fo ρ σ (sl τ k j x) k l := by
  apply List.ext_getElem?
  intro i
  have hj : j < l.length := (List.getElem?_eq_some_iff.mp h).1
  by_cases hi : j = i
  · subst hi
    rw [List.getElem?_set_self (by rw [fo_len]; exact hj), fo_get h]
    simp [fv, sl_self, vp_updL]
  · rw [List.getElem?_set_ne hi]
    simp only [fo, List.getElem?_mapIdx, fv, sl_self, vp_updL]
    have hi' : ¬ i = j := fun e => hi e.symm
    simp [hi']
theorem kd_lt {k t n : Nat} (h : kd k = (t, n)) (ht : t ≠ 9) : k < 98 := by
  by_cases hk : k < 98
  · exact hk
  · exfalso
    have : kd k = (9, 0) := by
      unfold kd
      have h98 : kt.length = 98 := by decide +kernel
      rw [List.getD_eq_getElem?_getD, List.getElem?_eq_none (by omega)]
      rfl
    rw [this] at h
    exact ht (Prod.mk.inj h).1.symm
def loN {S E : Type} (f : S → Option (S ⊕ E)) : Nat → S → Option E
  | 0, _ => none
  | n + 1, s => match f s with
    | none => none
    | some (.inl s') => loN f n s'
    | some (.inr e) => some e
noncomputable def lo {S E : Type} (f : S → Option (S ⊕ E)) (s : S) : Option E := @dite (Option E) (∃ n, (loN f n s).isSome = true) (Classical.propDecidable _) (fun h => loN f (Classical.choose h) s) (fun _ => none)

theorem loN_mono {S E : Type} {f : S → Option (S ⊕ E)} : ∀ (n : Nat) (s : S) (e : E), loN f n s = some e → ∀ m, n ≤ m → loN f m s = some e
  | 0, s, e, h, m, hm => by simp [loN] at h
  | n + 1, s, e, h, m, hm => by
    obtain ⟨m', rfl⟩ : ∃ m', m = m' + 1 := ⟨m - 1, by omega⟩
    unfold loN at h ⊢
    cases hf : f s with
    | none => rw [hf] at h; simp at h
    | some x =>
      rw [hf] at h
      cases x with
      | inl s' => exact loN_mono n s' e h m' (by omega)
      | inr e' => exact h
theorem lo_some {S E : Type} {f : S → Option (S ⊕ E)} {s : S} {e : E} (h : lo f s = some e) : ∃ n, loN f n s = some e := by
  unfold lo at h
  split at h
  · exact ⟨_, h⟩
  · cases h
theorem lo_of {S E : Type} {f : S → Option (S ⊕ E)} {s : S} {e : E} (n : Nat) (h : loN f n s = some e) : lo f s = some e := by
  unfold lo
  have hx : ∃ n, (loN f n s).isSome = true := ⟨n, by rw [h]; rfl⟩
  rw [dif_pos hx]
  obtain ⟨e', he'⟩ := Option.isSome_iff_exists.mp (Classical.choose_spec hx)
  rw [he']
  have h1 := loN_mono _ _ _ he' (max n (Classical.choose hx)) (by omega)
  have h2 := loN_mono _ _ _ h (max n (Classical.choose hx)) (by omega)
  rw [h1] at h2
  exact h2
theorem lo_inl {S E : Type} {f : S → Option (S ⊕ E)} {s s' : S} (h : f s = some (.inl s')) : lo f s = lo f s' := by
  cases h1 : lo f s' with
  | some e =>
    obtain ⟨n, hn⟩ := lo_some h1
    exact lo_of (n + 1) (by unfold loN; rw [h]; exact hn)
  | none =>
    cases h2 : lo f s with
    | none => rfl
    | some e =>
      obtain ⟨n, hn⟩ := lo_some h2
      cases n with
      | zero => simp [loN] at hn
      | succ n =>
        unfold loN at hn
        rw [h] at hn
        rw [lo_of n hn] at h1
        cases h1
theorem lo_inr {S E : Type} {f : S → Option (S ⊕ E)} {s : S} {e : E} (h : f s = some (.inr e)) : lo f s = some e := lo_of 1 (by unfold loN; rw [h])
/-- a loop, seen from the machine -/
theorem lo_rule {S E : Type} {f : S → Option (S ⊕ E)} (YS : S → Prop) (YE : E → Prop) (hb : ∀ s x, f s = some x → (∀ s', x = .inl s' → YS s') → (∀ e, x = .inr e → YE e) → YS s) {s : S} {e : E} (h : lo f s = some e) (hE : YE e) : YS s := by
  obtain ⟨n, hn⟩ := lo_some h
  induction n generalizing s with
  | zero => simp [loN] at hn
  | succ n ih =>
    unfold loN at hn
    cases hf : f s with
    | none => rw [hf] at hn; cases hn
    | some x =>
      rw [hf] at hn
      refine hb s x hf (fun s' hs' => ?_) (fun e' he' => ?_)
      · subst hs'
        exact ih (lo_of n hn) hn
      · subst he'
        cases hn
        exact hE
/-- what f asks -/
def ald (σ : Sg) (k : Nat) (i : Int32) : Option Int32 := if i < 0 ∨ ln k ≤ i.toNatClampNeg then none else some (σ k i.toNatClampNeg)
def ast (σ : Sg) (k : Nat) (i x : Int32) : Option Sg := if i < 0 ∨ ln k ≤ i.toNatClampNeg then none else some (si σ k i.toNatClampNeg x)
def lald (τ : Tg) (k : Nat) (i : Int32) : Option Int64 := if i < 0 ∨ ln k ≤ i.toNatClampNeg then none else some (τ k i.toNatClampNeg)
def last (τ : Tg) (k : Nat) (i : Int32) (x : Int64) : Option Tg := if i < 0 ∨ ln k ≤ i.toNatClampNeg then none else some (sl τ k i.toNatClampNeg x)
def rald (k : Nat) (i : Int32) : Option Nat := if i < 0 ∨ ln k ≤ i.toNatClampNeg then none else some (rr k i.toNatClampNeg)
def dv (x y : Int32) : Option Int32 := if y = 0 then none else some (x / y)
def rm (x y : Int32) : Option Int32 := if y = 0 then none else some (x - x / y * y)
theorem ald_in {σ : Sg} {k : Nat} {i v : Int32} (h : ald σ k i = some v) : vp_in i (ln k) ∧ v = σ k i.toNatClampNeg := by
  unfold ald at h
  split at h
  · cases h
  · next c => exact ⟨c, (Option.some.inj h).symm⟩
theorem ast_in {σ σ' : Sg} {k : Nat} {i v : Int32} (h : ast σ k i v = some σ') : vp_in i (ln k) ∧ σ' = si σ k i.toNatClampNeg v := by
  unfold ast at h
  split at h
  · cases h
  · next c => exact ⟨c, (Option.some.inj h).symm⟩
theorem lald_in {τ : Tg} {k : Nat} {i : Int32} {v : Int64} (h : lald τ k i = some v) : vp_in i (ln k) ∧ v = τ k i.toNatClampNeg := by
  unfold lald at h
  split at h
  · cases h
  · next c => exact ⟨c, (Option.some.inj h).symm⟩
theorem last_in {τ τ' : Tg} {k : Nat} {i : Int32} {v : Int64} (h : last τ k i v = some τ') : vp_in i (ln k) ∧ τ' = sl τ k i.toNatClampNeg v := by
  unfold last at h
  split at h
  · cases h
  · next c => exact ⟨c, (Option.some.inj h).symm⟩
theorem rald_in {k : Nat} {i : Int32} {v : Nat} (h : rald k i = some v) : vp_in i (ln k) ∧ v = rr k i.toNatClampNeg := by
  unfold rald at h
  split at h
  · cases h
  · next c => exact ⟨c, (Option.some.inj h).symm⟩
theorem dv_in {x y v : Int32} (h : dv x y = some v) : ¬ y = 0 ∧ v = x / y := by
  unfold dv at h
  split at h
  · cases h
  · next c => exact ⟨c, (Option.some.inj h).symm⟩
theorem rm_in {x y v : Int32} (h : rm x y = some v) : ¬ y = 0 ∧ v = x - x / y * y := by
  unfold rm at h
  split at h
  · cases h
  · next c => exact ⟨c, (Option.some.inj h).symm⟩

/-- the 98th place: an array of the class's own, which nobody writes -/
def fct (j : Nat) : Int32 := ([1, 1, 2, 6, 24, 120, 720] : List Int32).getD j 0
def VP (D : va_G) (cA ρ : Nat → Nat) (σ : Sg) (τ : Tg) (H : Heap) : Prop := va_P D vwCl (wd 97 ρ cA σ τ) H ∧ σ 97 = fct
theorem VP.kept {D : va_G} {cA ρ : Nat → Nat} {σ : Sg} {τ : Tg} {H H1 : Heap} (h : VP D cA ρ σ τ H) (hq : ∀ q : Nat, q < H.size → H1[q]? = H[q]?) : VP D cA ρ σ τ H1 :=
  ⟨fun k q hk => (h.1 k q hk).kept (hq _ (h.1 k q hk).lt), h.2⟩
theorem wd_D {ρ cA : Nat → Nat} {A : Nat → Prop} {σ : Sg} {τ : Tg} (hi : Inj ρ) (hA : ∀ k, k < 97 → A (ρ k)) : va_D A (wd 97 ρ cA σ τ) := by
  refine ⟨fun i j p q hp hq h => ?_, fun k q hq => ?_⟩
  · obtain ⟨h1, rfl⟩ := wd_of hp
    obtain ⟨h2, rfl⟩ := wd_of hq
    exact hi i j (by omega) (by omega) h
  · obtain ⟨h1, rfl⟩ := wd_of hq
    exact hA k h1
theorem wd_98 {D : va_G} {ρ cA : Nat → Nat} {σ σ' : Sg} {τ τ' : Tg} {H H1 : Heap} (h0 : VP D cA ρ σ τ H) (h97 : σ' 97 = σ 97) (h : va_P D vwCl (wd 97 ρ cA σ' τ') H1) : VP D cA ρ σ' τ' H1 := ⟨h, h97.trans h0.2⟩
theorem kd_l7 {k t n : Nat} (h : kd k = (t, n)) (ht : t ≠ 9) (h1 : t ≠ 1) : k < 97 := by
  have hk := kd_lt h ht
  by_cases e : k = 97
  · subst e
    have : kd 97 = (1, 7) := by decide +kernel
    rw [this] at h
    exact absurd (Prod.mk.inj h).1.symm h1
  · omega

def Ctx (p : Program) (l : Launch) (s : State) (m : MethodId) (args : Array Value) (meth : Method) (c : Code) (cc : ByteArray) (own : String) (nL : Nat) (ret : Option FieldType) (D : va_G) (cA ρ : Nat → Nat) (A : Nat → Prop) : Prop :=
  p.tables.exec = Jvm.exec ∧ c.code = cc ∧ meth.sig.returnType = ret ∧ c.maxLocals = nL ∧ s.vm.findClass own = some m.cls ∧ (∀ w ∈ WG, w.before args s = true) ∧ (∀ w ∈ NW, va_Nw w s) ∧ va_K D vwCl (tyv cA) s ∧ meth.locks = false ∧ va_Z RX8 "FACTORIALS" "[I" (.ref (ρ 97)) A s s.heap ∧ va_T .int (ρ 97) 7 (fun j => .int (fct j)) A s s.heap
def Y (p : Program) (l : Launch) (e : Env) (R : Room) (s : State) (m : MethodId) (args : Array Value) (below : List Frame) (meth : Method) (c : Code) (nL : Nat) (D : va_G) (cA ρ : Nat → Nat) (A : Nat → Prop) (cells slots : Nat) (Q : State → Prop) (σ : Sg) (τ : Tg) (pc : Nat) (lv : List (Nat × Value)) (st : List Value) : Prop :=
  ∀ (H : Heap) (locs : List Loc) (ls : Array Slot), VP D cA ρ σ τ H → va_S A s.heap H locs → lv_has ls nL lv → W p l e R s m args below meth c H locs cells slots Q (F0 m pc ls st)

section YR
variable {p : Program} {l : Launch} {e : Env} {R : Room} {s : State} {m : MethodId} {args : Array Value} {below : List Frame} {meth : Method} {c : Code} {cc : ByteArray} {own : String} {nL : Nat} {ret : Option FieldType} {D : va_G} {cA ρ : Nat → Nat} {A : Nat → Prop} {cells slots : Nat} {Q : State → Prop} {σ : Sg} {τ : Tg} {pc : Nat} {lv : List (Nat × Value)} {st : List Value}
theorem Y_iconst (C : Ctx p l s m args meth c cc own nL ret D cA ρ A) {n : Int} {v : Int32} (hv : Int32.ofInt n = v) (hd : decode cc pc = .ok (.iconst n, 1)) (k : Y p l e R s m args below meth c nL D cA ρ A cells slots Q σ τ (pc + 1) lv (.int v :: st)) : Y p l e R s m args below meth c nL D cA ρ A cells slots Q σ τ pc lv (st) := fun H locs ls hP hS hl => lv_iconst C.1 C.2.1 hd hv (k H locs ls hP hS hl)
theorem Y_bipush (C : Ctx p l s m args meth c cc own nL ret D cA ρ A) {n : Int} {v : Int32} (hv : (Int8.ofInt n).toInt32 = v) (hd : decode cc pc = .ok (.bipush n, 2)) (k : Y p l e R s m args below meth c nL D cA ρ A cells slots Q σ τ (pc + 2) lv (.int v :: st)) : Y p l e R s m args below meth c nL D cA ρ A cells slots Q σ τ pc lv (st) := fun H locs ls hP hS hl => lv_bipush C.1 C.2.1 hd hv (k H locs ls hP hS hl)
theorem Y_sipush (C : Ctx p l s m args meth c cc own nL ret D cA ρ A) {n : Int} {v : Int32} (hv : (Int16.ofInt n).toInt32 = v) (hd : decode cc pc = .ok (.sipush n, 3)) (k : Y p l e R s m args below meth c nL D cA ρ A cells slots Q σ τ (pc + 3) lv (.int v :: st)) : Y p l e R s m args below meth c nL D cA ρ A cells slots Q σ τ pc lv (st) := fun H locs ls hP hS hl => lv_sipush C.1 C.2.1 hd hv (k H locs ls hP hS hl)
theorem Y_lconst (C : Ctx p l s m args meth c cc own nL ret D cA ρ A) {n : Fin 2} {v : Int64} (hv : Int64.ofNat (n : Nat) = v) (hd : decode cc pc = .ok (.lconst n, 1)) (k : Y p l e R s m args below meth c nL D cA ρ A cells slots Q σ τ (pc + 1) lv (.long v :: st)) : Y p l e R s m args below meth c nL D cA ρ A cells slots Q σ τ pc lv (st) := fun H locs ls hP hS hl => lv_lconst C.1 C.2.1 hd hv (k H locs ls hP hS hl)
theorem Y_ldc (C : Ctx p l s m args meth c cc own nL ret D cA ρ A) {index : Nat} {v : Int32} (hw : Cond.constant own index v ∈ WG) (hd : decode cc pc = .ok (.ldc index, 2)) (k : Y p l e R s m args below meth c nL D cA ρ A cells slots Q σ τ (pc + 2) lv (.int v :: st)) : Y p l e R s m args below meth c nL D cA ρ A cells slots Q σ τ pc lv (st) := fun H locs ls hP hS hl => lv_ldc C.1 C.2.1 C.2.2.2.2.1 (C.2.2.2.2.2.1 _ hw) hd (k H locs ls hP hS hl)
theorem Y_ldcw (C : Ctx p l s m args meth c cc own nL ret D cA ρ A) {index : Nat} {v : Int32} (hw : Cond.constant own index v ∈ WG) (hd : decode cc pc = .ok (.ldc_w index, 3)) (k : Y p l e R s m args below meth c nL D cA ρ A cells slots Q σ τ (pc + 3) lv (.int v :: st)) : Y p l e R s m args below meth c nL D cA ρ A cells slots Q σ τ pc lv (st) := fun H locs ls hP hS hl => lv_ldcw C.1 C.2.1 C.2.2.2.2.1 (C.2.2.2.2.2.1 _ hw) hd (k H locs ls hP hS hl)
theorem Y_ldc2 (C : Ctx p l s m args meth c cc own nL ret D cA ρ A) {index : Nat} {v : Int64} (hw : Cond.constantLong own index v ∈ WG) (hd : decode cc pc = .ok (.ldc2_w index, 3)) (k : Y p l e R s m args below meth c nL D cA ρ A cells slots Q σ τ (pc + 3) lv (.long v :: st)) : Y p l e R s m args below meth c nL D cA ρ A cells slots Q σ τ pc lv (st) := fun H locs ls hP hS hl => lv_ldc2 C.1 C.2.1 C.2.2.2.2.1 (C.2.2.2.2.2.1 _ hw) hd (k H locs ls hP hS hl)
theorem Y_iload_n (C : Ctx p l s m args meth c cc own nL ret D cA ρ A) {k : Fin 4} {x : Int32} (i n : Nat) (hi : (k : Nat) = i) (hx : lv[n]? = some (i, .int x)) (hd : decode cc pc = .ok (.iload_n k, 1)) (k : Y p l e R s m args below meth c nL D cA ρ A cells slots Q σ τ (pc + 1) lv (.int x :: st)) : Y p l e R s m args below meth c nL D cA ρ A cells slots Q σ τ pc lv (st) := fun H locs ls hP hS hl => lv_iload_n C.1 C.2.1 hd hi (lv_at hl n hx) (k H locs ls hP hS hl)
theorem Y_iload (C : Ctx p l s m args meth c cc own nL ret D cA ρ A) {x : Int32} {i : Nat} (n : Nat) (hx : lv[n]? = some (i, .int x)) (hd : decode cc pc = .ok (.iload i, 2)) (k : Y p l e R s m args below meth c nL D cA ρ A cells slots Q σ τ (pc + 2) lv (.int x :: st)) : Y p l e R s m args below meth c nL D cA ρ A cells slots Q σ τ pc lv (st) := fun H locs ls hP hS hl => lv_iload C.1 C.2.1 hd (lv_at hl n hx) (k H locs ls hP hS hl)
theorem Y_lload_n (C : Ctx p l s m args meth c cc own nL ret D cA ρ A) {k : Fin 4} {x : Int64} (i n : Nat) (hi : (k : Nat) = i) (hx : lv[n]? = some (i, .long x)) (hd : decode cc pc = .ok (.lload_n k, 1)) (k : Y p l e R s m args below meth c nL D cA ρ A cells slots Q σ τ (pc + 1) lv (.long x :: st)) : Y p l e R s m args below meth c nL D cA ρ A cells slots Q σ τ pc lv (st) := fun H locs ls hP hS hl => lv_lload_n C.1 C.2.1 hd hi (lv_at hl n hx) (k H locs ls hP hS hl)
theorem Y_lload (C : Ctx p l s m args meth c cc own nL ret D cA ρ A) {x : Int64} {i : Nat} (n : Nat) (hx : lv[n]? = some (i, .long x)) (hd : decode cc pc = .ok (.lload i, 2)) (k : Y p l e R s m args below meth c nL D cA ρ A cells slots Q σ τ (pc + 2) lv (.long x :: st)) : Y p l e R s m args below meth c nL D cA ρ A cells slots Q σ τ pc lv (st) := fun H locs ls hP hS hl => lv_lload C.1 C.2.1 hd (lv_at hl n hx) (k H locs ls hP hS hl)
theorem Y_aload_n (C : Ctx p l s m args meth c cc own nL ret D cA ρ A) {k : Fin 4} {x : Nat} (i n : Nat) (hi : (k : Nat) = i) (hx : lv[n]? = some (i, .ref x)) (hd : decode cc pc = .ok (.aload_n k, 1)) (k : Y p l e R s m args below meth c nL D cA ρ A cells slots Q σ τ (pc + 1) lv (.ref x :: st)) : Y p l e R s m args below meth c nL D cA ρ A cells slots Q σ τ pc lv (st) := fun H locs ls hP hS hl => lv_aload_n C.1 C.2.1 hd hi (lv_at hl n hx) (k H locs ls hP hS hl)
theorem Y_aload (C : Ctx p l s m args meth c cc own nL ret D cA ρ A) {x : Nat} {i : Nat} (n : Nat) (hx : lv[n]? = some (i, .ref x)) (hd : decode cc pc = .ok (.aload i, 2)) (k : Y p l e R s m args below meth c nL D cA ρ A cells slots Q σ τ (pc + 2) lv (.ref x :: st)) : Y p l e R s m args below meth c nL D cA ρ A cells slots Q σ τ pc lv (st) := fun H locs ls hP hS hl => lv_aload C.1 C.2.1 hd (lv_at hl n hx) (k H locs ls hP hS hl)
theorem Y_istore_n (C : Ctx p l s m args meth c cc own nL ret D cA ρ A) {k : Fin 4} {x : Int32} {lv' : List (Nat × Value)} (i : Nat) (hi : (k : Nat) = i) (hn : i < nL) (hl' : (i, Value.int x) :: lv.filter (fun q => !(q.1 == i) && !(q.1 + 1 == i && q.2.category == 2)) = lv') (hd : decode cc pc = .ok (.istore_n k, 1)) (k : Y p l e R s m args below meth c nL D cA ρ A cells slots Q σ τ (pc + 1) lv' st) : Y p l e R s m args below meth c nL D cA ρ A cells slots Q σ τ pc lv (.int x :: st) := fun H locs ls hP hS hl => lv_istore_n C.1 C.2.1 hd hi hl hn hl' (fun ls hl => k H locs ls hP hS hl)
theorem Y_istore (C : Ctx p l s m args meth c cc own nL ret D cA ρ A) {x : Int32} {lv' : List (Nat × Value)} {i : Nat} (hn : i < nL) (hl' : (i, Value.int x) :: lv.filter (fun q => !(q.1 == i) && !(q.1 + 1 == i && q.2.category == 2)) = lv') (hd : decode cc pc = .ok (.istore i, 2)) (k : Y p l e R s m args below meth c nL D cA ρ A cells slots Q σ τ (pc + 2) lv' st) : Y p l e R s m args below meth c nL D cA ρ A cells slots Q σ τ pc lv (.int x :: st) := fun H locs ls hP hS hl => lv_istore C.1 C.2.1 hd hl hn hl' (fun ls hl => k H locs ls hP hS hl)
theorem Y_astore_n (C : Ctx p l s m args meth c cc own nL ret D cA ρ A) {k : Fin 4} {x : Nat} {lv' : List (Nat × Value)} (i : Nat) (hi : (k : Nat) = i) (hn : i < nL) (hl' : (i, Value.ref x) :: lv.filter (fun q => !(q.1 == i) && !(q.1 + 1 == i && q.2.category == 2)) = lv') (hd : decode cc pc = .ok (.astore_n k, 1)) (k : Y p l e R s m args below meth c nL D cA ρ A cells slots Q σ τ (pc + 1) lv' st) : Y p l e R s m args below meth c nL D cA ρ A cells slots Q σ τ pc lv (.ref x :: st) := fun H locs ls hP hS hl => lv_astore_n C.1 C.2.1 hd hi hl hn hl' (fun ls hl => k H locs ls hP hS hl)
theorem Y_astore (C : Ctx p l s m args meth c cc own nL ret D cA ρ A) {x : Nat} {lv' : List (Nat × Value)} {i : Nat} (hn : i < nL) (hl' : (i, Value.ref x) :: lv.filter (fun q => !(q.1 == i) && !(q.1 + 1 == i && q.2.category == 2)) = lv') (hd : decode cc pc = .ok (.astore i, 2)) (k : Y p l e R s m args below meth c nL D cA ρ A cells slots Q σ τ (pc + 2) lv' st) : Y p l e R s m args below meth c nL D cA ρ A cells slots Q σ τ pc lv (.ref x :: st) := fun H locs ls hP hS hl => lv_astore C.1 C.2.1 hd hl hn hl' (fun ls hl => k H locs ls hP hS hl)
theorem Y_lstore_n (C : Ctx p l s m args meth c cc own nL ret D cA ρ A) {k : Fin 4} {x : Int64} {lv' : List (Nat × Value)} (i : Nat) (hi : (k : Nat) = i) (hn : i + 1 < nL) (hl' : (i, Value.long x) :: lv.filter (fun q => !(q.1 == i) && (!(q.1 == i + 1) && !(q.1 + 1 == i && q.2.category == 2))) = lv') (hd : decode cc pc = .ok (.lstore_n k, 1)) (k : Y p l e R s m args below meth c nL D cA ρ A cells slots Q σ τ (pc + 1) lv' st) : Y p l e R s m args below meth c nL D cA ρ A cells slots Q σ τ pc lv (.long x :: st) := fun H locs ls hP hS hl => lv_lstore_n C.1 C.2.1 hd hi hl hn hl' (fun ls hl => k H locs ls hP hS hl)
theorem Y_lstore (C : Ctx p l s m args meth c cc own nL ret D cA ρ A) {x : Int64} {lv' : List (Nat × Value)} {i : Nat} (hn : i + 1 < nL) (hl' : (i, Value.long x) :: lv.filter (fun q => !(q.1 == i) && (!(q.1 == i + 1) && !(q.1 + 1 == i && q.2.category == 2))) = lv') (hd : decode cc pc = .ok (.lstore i, 2)) (k : Y p l e R s m args below meth c nL D cA ρ A cells slots Q σ τ (pc + 2) lv' st) : Y p l e R s m args below meth c nL D cA ρ A cells slots Q σ τ pc lv (.long x :: st) := fun H locs ls hP hS hl => lv_lstore C.1 C.2.1 hd hl hn hl' (fun ls hl => k H locs ls hP hS hl)
theorem Y_iinc (C : Ctx p l s m args meth c cc own nL ret D cA ρ A) {x v : Int32} {n : Int} {lv' : List (Nat × Value)} {i : Nat} (j : Nat) (hj : lv[j]? = some (i, .int x)) (hv : x + Int32.ofInt n = v) (hn : i < nL) (hl' : (i, Value.int v) :: lv.filter (fun q => !(q.1 == i) && !(q.1 + 1 == i && q.2.category == 2)) = lv') (hd : decode cc pc = .ok (.iinc i n, 3)) (k : Y p l e R s m args below meth c nL D cA ρ A cells slots Q σ τ (pc + 3) lv' st) : Y p l e R s m args below meth c nL D cA ρ A cells slots Q σ τ pc lv st := fun H locs ls hP hS hl => lv_iinc C.1 C.2.1 hd hl hj hv hn hl' (fun ls hl => k H locs ls hP hS hl)
theorem Y_dup (C : Ctx p l s m args meth c cc own nL ret D cA ρ A) {va : Value} (hva : va.category = 1) (hd : decode cc pc = .ok (.dup, 1)) (k : Y p l e R s m args below meth c nL D cA ρ A cells slots Q σ τ (pc + 1) lv (va :: va :: st)) : Y p l e R s m args below meth c nL D cA ρ A cells slots Q σ τ pc lv (va :: st) := fun H locs ls hP hS hl => lv_dup C.1 C.2.1 hd hva (k H locs ls hP hS hl)
theorem Y_pop (C : Ctx p l s m args meth c cc own nL ret D cA ρ A) {va : Value} (hva : va.category = 1) (hd : decode cc pc = .ok (.pop, 1)) (k : Y p l e R s m args below meth c nL D cA ρ A cells slots Q σ τ (pc + 1) lv (st)) : Y p l e R s m args below meth c nL D cA ρ A cells slots Q σ τ pc lv (va :: st) := fun H locs ls hP hS hl => lv_pop C.1 C.2.1 hd hva (k H locs ls hP hS hl)
theorem Y_dup2 (C : Ctx p l s m args meth c cc own nL ret D cA ρ A) {va vb : Value} (ha : va.category = 1) (hb : vb.category = 1) (hd : decode cc pc = .ok (.dup2, 1)) (k : Y p l e R s m args below meth c nL D cA ρ A cells slots Q σ τ (pc + 1) lv (vb :: va :: vb :: va :: st)) : Y p l e R s m args below meth c nL D cA ρ A cells slots Q σ τ pc lv (vb :: va :: st) := fun H locs ls hP hS hl => lv_dup2_11 C.1 C.2.1 hd hb ha (k H locs ls hP hS hl)
theorem Y_iadd (C : Ctx p l s m args meth c cc own nL ret D cA ρ A) {x y : Int32} (hd : decode cc pc = .ok (.iadd, 1)) (k : Y p l e R s m args below meth c nL D cA ρ A cells slots Q σ τ (pc + 1) lv (.int (x + y) :: st)) : Y p l e R s m args below meth c nL D cA ρ A cells slots Q σ τ pc lv (.int y :: .int x :: st) := fun H locs ls hP hS hl => lv_iadd C.1 C.2.1 hd (k H locs ls hP hS hl)
theorem Y_isub (C : Ctx p l s m args meth c cc own nL ret D cA ρ A) {x y : Int32} (hd : decode cc pc = .ok (.isub, 1)) (k : Y p l e R s m args below meth c nL D cA ρ A cells slots Q σ τ (pc + 1) lv (.int (x - y) :: st)) : Y p l e R s m args below meth c nL D cA ρ A cells slots Q σ τ pc lv (.int y :: .int x :: st) := fun H locs ls hP hS hl => lv_isub C.1 C.2.1 hd (k H locs ls hP hS hl)
theorem Y_imul (C : Ctx p l s m args meth c cc own nL ret D cA ρ A) {x y : Int32} (hd : decode cc pc = .ok (.imul, 1)) (k : Y p l e R s m args below meth c nL D cA ρ A cells slots Q σ τ (pc + 1) lv (.int (x * y) :: st)) : Y p l e R s m args below meth c nL D cA ρ A cells slots Q σ τ pc lv (.int y :: .int x :: st) := fun H locs ls hP hS hl => lv_imul C.1 C.2.1 hd (k H locs ls hP hS hl)
theorem Y_iand (C : Ctx p l s m args meth c cc own nL ret D cA ρ A) {x y : Int32} (hd : decode cc pc = .ok (.iand, 1)) (k : Y p l e R s m args below meth c nL D cA ρ A cells slots Q σ τ (pc + 1) lv (.int (x &&& y) :: st)) : Y p l e R s m args below meth c nL D cA ρ A cells slots Q σ τ pc lv (.int y :: .int x :: st) := fun H locs ls hP hS hl => lv_iand C.1 C.2.1 hd (k H locs ls hP hS hl)
theorem Y_ior (C : Ctx p l s m args meth c cc own nL ret D cA ρ A) {x y : Int32} (hd : decode cc pc = .ok (.ior, 1)) (k : Y p l e R s m args below meth c nL D cA ρ A cells slots Q σ τ (pc + 1) lv (.int (x ||| y) :: st)) : Y p l e R s m args below meth c nL D cA ρ A cells slots Q σ τ pc lv (.int y :: .int x :: st) := fun H locs ls hP hS hl => lv_ior C.1 C.2.1 hd (k H locs ls hP hS hl)
theorem Y_ixor (C : Ctx p l s m args meth c cc own nL ret D cA ρ A) {x y : Int32} (hd : decode cc pc = .ok (.ixor, 1)) (k : Y p l e R s m args below meth c nL D cA ρ A cells slots Q σ τ (pc + 1) lv (.int (x ^^^ y) :: st)) : Y p l e R s m args below meth c nL D cA ρ A cells slots Q σ τ pc lv (.int y :: .int x :: st) := fun H locs ls hP hS hl => lv_ixor C.1 C.2.1 hd (k H locs ls hP hS hl)
theorem Y_ineg (C : Ctx p l s m args meth c cc own nL ret D cA ρ A) {x : Int32} (hd : decode cc pc = .ok (.ineg, 1)) (k : Y p l e R s m args below meth c nL D cA ρ A cells slots Q σ τ (pc + 1) lv (.int (-x) :: st)) : Y p l e R s m args below meth c nL D cA ρ A cells slots Q σ τ pc lv (.int x :: st) := fun H locs ls hP hS hl => lv_ineg C.1 C.2.1 hd (k H locs ls hP hS hl)
theorem Y_ishl (C : Ctx p l s m args meth c cc own nL ret D cA ρ A) {x y : Int32} (hd : decode cc pc = .ok (.ishl, 1)) (k : Y p l e R s m args below meth c nL D cA ρ A cells slots Q σ τ (pc + 1) lv (.int (x <<< (y &&& 31)) :: st)) : Y p l e R s m args below meth c nL D cA ρ A cells slots Q σ τ pc lv (.int y :: .int x :: st) := fun H locs ls hP hS hl => lv_ishl C.1 C.2.1 hd (k H locs ls hP hS hl)
theorem Y_ishr (C : Ctx p l s m args meth c cc own nL ret D cA ρ A) {x y : Int32} (hd : decode cc pc = .ok (.ishr, 1)) (k : Y p l e R s m args below meth c nL D cA ρ A cells slots Q σ τ (pc + 1) lv (.int (x >>> (y &&& 31)) :: st)) : Y p l e R s m args below meth c nL D cA ρ A cells slots Q σ τ pc lv (.int y :: .int x :: st) := fun H locs ls hP hS hl => lv_ishr C.1 C.2.1 hd (k H locs ls hP hS hl)
theorem Y_iushr (C : Ctx p l s m args meth c cc own nL ret D cA ρ A) {x y : Int32} (hd : decode cc pc = .ok (.iushr, 1)) (k : Y p l e R s m args below meth c nL D cA ρ A cells slots Q σ τ (pc + 1) lv (.int ((x.toUInt32 >>> (y.toUInt32 &&& Int32.toUInt32 31)).toInt32) :: st)) : Y p l e R s m args below meth c nL D cA ρ A cells slots Q σ τ pc lv (.int y :: .int x :: st) := fun H locs ls hP hS hl => lv_iushr C.1 C.2.1 hd rfl (k H locs ls hP hS hl)
theorem Y_ladd (C : Ctx p l s m args meth c cc own nL ret D cA ρ A) {x y : Int64} (hd : decode cc pc = .ok (.ladd, 1)) (k : Y p l e R s m args below meth c nL D cA ρ A cells slots Q σ τ (pc + 1) lv (.long (x + y) :: st)) : Y p l e R s m args below meth c nL D cA ρ A cells slots Q σ τ pc lv (.long y :: .long x :: st) := fun H locs ls hP hS hl => lv_ladd C.1 C.2.1 hd (k H locs ls hP hS hl)
theorem Y_lmul (C : Ctx p l s m args meth c cc own nL ret D cA ρ A) {x y : Int64} (hd : decode cc pc = .ok (.lmul, 1)) (k : Y p l e R s m args below meth c nL D cA ρ A cells slots Q σ τ (pc + 1) lv (.long (x * y) :: st)) : Y p l e R s m args below meth c nL D cA ρ A cells slots Q σ τ pc lv (.long y :: .long x :: st) := fun H locs ls hP hS hl => lv_lmul C.1 C.2.1 hd (k H locs ls hP hS hl)
theorem Y_lor (C : Ctx p l s m args meth c cc own nL ret D cA ρ A) {x y : Int64} (hd : decode cc pc = .ok (.lor, 1)) (k : Y p l e R s m args below meth c nL D cA ρ A cells slots Q σ τ (pc + 1) lv (.long (x ||| y) :: st)) : Y p l e R s m args below meth c nL D cA ρ A cells slots Q σ τ pc lv (.long y :: .long x :: st) := fun H locs ls hP hS hl => lv_lor C.1 C.2.1 hd (k H locs ls hP hS hl)
theorem Y_land (C : Ctx p l s m args meth c cc own nL ret D cA ρ A) {x y : Int64} (hd : decode cc pc = .ok (.land, 1)) (k : Y p l e R s m args below meth c nL D cA ρ A cells slots Q σ τ (pc + 1) lv (.long (x &&& y) :: st)) : Y p l e R s m args below meth c nL D cA ρ A cells slots Q σ τ pc lv (.long y :: .long x :: st) := fun H locs ls hP hS hl => lv_land C.1 C.2.1 hd (k H locs ls hP hS hl)
theorem Y_lshl (C : Ctx p l s m args meth c cc own nL ret D cA ρ A) {x : Int64} {y : Int32} (hd : decode cc pc = .ok (.lshl, 1)) (k : Y p l e R s m args below meth c nL D cA ρ A cells slots Q σ τ (pc + 1) lv (.long (x <<< (y.toInt64 &&& 63)) :: st)) : Y p l e R s m args below meth c nL D cA ρ A cells slots Q σ τ pc lv (.int y :: .long x :: st) := fun H locs ls hP hS hl => lv_lshl C.1 C.2.1 hd rfl (k H locs ls hP hS hl)
theorem Y_lshr (C : Ctx p l s m args meth c cc own nL ret D cA ρ A) {x : Int64} {y : Int32} (hd : decode cc pc = .ok (.lshr, 1)) (k : Y p l e R s m args below meth c nL D cA ρ A cells slots Q σ τ (pc + 1) lv (.long (x >>> (y.toInt64 &&& 63)) :: st)) : Y p l e R s m args below meth c nL D cA ρ A cells slots Q σ τ pc lv (.int y :: .long x :: st) := fun H locs ls hP hS hl => lv_lshr C.1 C.2.1 hd rfl (k H locs ls hP hS hl)
theorem Y_idiv (C : Ctx p l s m args meth c cc own nL ret D cA ρ A) {x y v : Int32} (h : dv x y = some v) (hd : decode cc pc = .ok (.idiv, 1)) (k : Y p l e R s m args below meth c nL D cA ρ A cells slots Q σ τ (pc + 1) lv (.int v :: st)) : Y p l e R s m args below meth c nL D cA ρ A cells slots Q σ τ pc lv (.int y :: .int x :: st) := fun H locs ls hP hS hl => by
  obtain ⟨h1, rfl⟩ := dv_in h
  exact lv_idiv C.1 C.2.1 hd h1 (k H locs ls hP hS hl)
theorem Y_irem (C : Ctx p l s m args meth c cc own nL ret D cA ρ A) {x y v : Int32} (h : rm x y = some v) (hd : decode cc pc = .ok (.irem, 1)) (k : Y p l e R s m args below meth c nL D cA ρ A cells slots Q σ τ (pc + 1) lv (.int v :: st)) : Y p l e R s m args below meth c nL D cA ρ A cells slots Q σ τ pc lv (.int y :: .int x :: st) := fun H locs ls hP hS hl => by
  obtain ⟨h1, rfl⟩ := rm_in h
  exact lv_irem C.1 C.2.1 hd h1 (k H locs ls hP hS hl)
theorem Y_i2l (C : Ctx p l s m args meth c cc own nL ret D cA ρ A) {x : Int32} (hd : decode cc pc = .ok (.i2l, 1)) (k : Y p l e R s m args below meth c nL D cA ρ A cells slots Q σ τ (pc + 1) lv (.long x.toInt64 :: st)) : Y p l e R s m args below meth c nL D cA ρ A cells slots Q σ τ pc lv (.int x :: st) := fun H locs ls hP hS hl => lv_i2l C.1 C.2.1 hd rfl (k H locs ls hP hS hl)
theorem Y_l2i (C : Ctx p l s m args meth c cc own nL ret D cA ρ A) {x : Int64} (hd : decode cc pc = .ok (.l2i, 1)) (k : Y p l e R s m args below meth c nL D cA ρ A cells slots Q σ τ (pc + 1) lv (.int x.toInt32 :: st)) : Y p l e R s m args below meth c nL D cA ρ A cells slots Q σ τ pc lv (.long x :: st) := fun H locs ls hP hS hl => lv_l2i C.1 C.2.1 hd rfl (k H locs ls hP hS hl)
theorem Y_i2c (C : Ctx p l s m args meth c cc own nL ret D cA ρ A) {x : Int32} (hd : decode cc pc = .ok (.i2c, 1)) (k : Y p l e R s m args below meth c nL D cA ρ A cells slots Q σ τ (pc + 1) lv (.int (x.toUInt32 % 65536).toInt32 :: st)) : Y p l e R s m args below meth c nL D cA ρ A cells slots Q σ τ pc lv (.int x :: st) := fun H locs ls hP hS hl => lv_i2c C.1 C.2.1 hd rfl (k H locs ls hP hS hl)
theorem Y_icmp_eq (C : Ctx p l s m args meth c cc own nL ret D cA ρ A) {x y : Int32} {off : Int} {tgt : Nat} (hd : decode cc pc = .ok (.if_icmp .eq off, 3)) (ht : (pc : Int) + off = (tgt : Int)) (kt : x = y → Y p l e R s m args below meth c nL D cA ρ A cells slots Q σ τ tgt lv st) (kf : ¬ x = y → Y p l e R s m args below meth c nL D cA ρ A cells slots Q σ τ (pc + 3) lv st) : Y p l e R s m args below meth c nL D cA ρ A cells slots Q σ τ pc lv (.int y :: .int x :: st) := fun H locs ls hP hS hl => lv_icmp_eq C.1 C.2.1 hd ht (fun h => kt h H locs ls hP hS hl) (fun h => kf h H locs ls hP hS hl)
theorem Y_icmp_ne (C : Ctx p l s m args meth c cc own nL ret D cA ρ A) {x y : Int32} {off : Int} {tgt : Nat} (hd : decode cc pc = .ok (.if_icmp .ne off, 3)) (ht : (pc : Int) + off = (tgt : Int)) (kt : ¬ x = y → Y p l e R s m args below meth c nL D cA ρ A cells slots Q σ τ tgt lv st) (kf : x = y → Y p l e R s m args below meth c nL D cA ρ A cells slots Q σ τ (pc + 3) lv st) : Y p l e R s m args below meth c nL D cA ρ A cells slots Q σ τ pc lv (.int y :: .int x :: st) := fun H locs ls hP hS hl => lv_icmp_ne C.1 C.2.1 hd ht (fun h => kt h H locs ls hP hS hl) (fun h => kf h H locs ls hP hS hl)
theorem Y_icmp_lt (C : Ctx p l s m args meth c cc own nL ret D cA ρ A) {x y : Int32} {off : Int} {tgt : Nat} (hd : decode cc pc = .ok (.if_icmp .lt off, 3)) (ht : (pc : Int) + off = (tgt : Int)) (kt : x < y → Y p l e R s m args below meth c nL D cA ρ A cells slots Q σ τ tgt lv st) (kf : ¬ x < y → Y p l e R s m args below meth c nL D cA ρ A cells slots Q σ τ (pc + 3) lv st) : Y p l e R s m args below meth c nL D cA ρ A cells slots Q σ τ pc lv (.int y :: .int x :: st) := fun H locs ls hP hS hl => lv_icmp_lt C.1 C.2.1 hd ht (fun h => kt h H locs ls hP hS hl) (fun h => kf h H locs ls hP hS hl)
theorem Y_icmp_ge (C : Ctx p l s m args meth c cc own nL ret D cA ρ A) {x y : Int32} {off : Int} {tgt : Nat} (hd : decode cc pc = .ok (.if_icmp .ge off, 3)) (ht : (pc : Int) + off = (tgt : Int)) (kt : y ≤ x → Y p l e R s m args below meth c nL D cA ρ A cells slots Q σ τ tgt lv st) (kf : ¬ y ≤ x → Y p l e R s m args below meth c nL D cA ρ A cells slots Q σ τ (pc + 3) lv st) : Y p l e R s m args below meth c nL D cA ρ A cells slots Q σ τ pc lv (.int y :: .int x :: st) := fun H locs ls hP hS hl => lv_icmp_ge C.1 C.2.1 hd ht (fun h => kt h H locs ls hP hS hl) (fun h => kf h H locs ls hP hS hl)
theorem Y_icmp_gt (C : Ctx p l s m args meth c cc own nL ret D cA ρ A) {x y : Int32} {off : Int} {tgt : Nat} (hd : decode cc pc = .ok (.if_icmp .gt off, 3)) (ht : (pc : Int) + off = (tgt : Int)) (kt : y < x → Y p l e R s m args below meth c nL D cA ρ A cells slots Q σ τ tgt lv st) (kf : ¬ y < x → Y p l e R s m args below meth c nL D cA ρ A cells slots Q σ τ (pc + 3) lv st) : Y p l e R s m args below meth c nL D cA ρ A cells slots Q σ τ pc lv (.int y :: .int x :: st) := fun H locs ls hP hS hl => lv_icmp_gt C.1 C.2.1 hd ht (fun h => kt h H locs ls hP hS hl) (fun h => kf h H locs ls hP hS hl)
theorem Y_icmp_le (C : Ctx p l s m args meth c cc own nL ret D cA ρ A) {x y : Int32} {off : Int} {tgt : Nat} (hd : decode cc pc = .ok (.if_icmp .le off, 3)) (ht : (pc : Int) + off = (tgt : Int)) (kt : x ≤ y → Y p l e R s m args below meth c nL D cA ρ A cells slots Q σ τ tgt lv st) (kf : ¬ x ≤ y → Y p l e R s m args below meth c nL D cA ρ A cells slots Q σ τ (pc + 3) lv st) : Y p l e R s m args below meth c nL D cA ρ A cells slots Q σ τ pc lv (.int y :: .int x :: st) := fun H locs ls hP hS hl => lv_icmp_le C.1 C.2.1 hd ht (fun h => kt h H locs ls hP hS hl) (fun h => kf h H locs ls hP hS hl)
theorem Y_if_eq (C : Ctx p l s m args meth c cc own nL ret D cA ρ A) {x : Int32} {off : Int} {tgt : Nat} (hd : decode cc pc = .ok (.ifCond .eq off, 3)) (ht : (pc : Int) + off = (tgt : Int)) (kt : x = 0 → Y p l e R s m args below meth c nL D cA ρ A cells slots Q σ τ tgt lv st) (kf : ¬ x = 0 → Y p l e R s m args below meth c nL D cA ρ A cells slots Q σ τ (pc + 3) lv st) : Y p l e R s m args below meth c nL D cA ρ A cells slots Q σ τ pc lv (.int x :: st) := fun H locs ls hP hS hl => lv_if_eq C.1 C.2.1 hd ht (fun h => kt h H locs ls hP hS hl) (fun h => kf h H locs ls hP hS hl)
theorem Y_if_ne (C : Ctx p l s m args meth c cc own nL ret D cA ρ A) {x : Int32} {off : Int} {tgt : Nat} (hd : decode cc pc = .ok (.ifCond .ne off, 3)) (ht : (pc : Int) + off = (tgt : Int)) (kt : ¬ x = 0 → Y p l e R s m args below meth c nL D cA ρ A cells slots Q σ τ tgt lv st) (kf : x = 0 → Y p l e R s m args below meth c nL D cA ρ A cells slots Q σ τ (pc + 3) lv st) : Y p l e R s m args below meth c nL D cA ρ A cells slots Q σ τ pc lv (.int x :: st) := fun H locs ls hP hS hl => lv_if_ne C.1 C.2.1 hd ht (fun h => kt h H locs ls hP hS hl) (fun h => kf h H locs ls hP hS hl)
theorem Y_if_lt (C : Ctx p l s m args meth c cc own nL ret D cA ρ A) {x : Int32} {off : Int} {tgt : Nat} (hd : decode cc pc = .ok (.ifCond .lt off, 3)) (ht : (pc : Int) + off = (tgt : Int)) (kt : x < 0 → Y p l e R s m args below meth c nL D cA ρ A cells slots Q σ τ tgt lv st) (kf : ¬ x < 0 → Y p l e R s m args below meth c nL D cA ρ A cells slots Q σ τ (pc + 3) lv st) : Y p l e R s m args below meth c nL D cA ρ A cells slots Q σ τ pc lv (.int x :: st) := fun H locs ls hP hS hl => lv_if_lt C.1 C.2.1 hd ht (fun h => kt h H locs ls hP hS hl) (fun h => kf h H locs ls hP hS hl)
theorem Y_if_ge (C : Ctx p l s m args meth c cc own nL ret D cA ρ A) {x : Int32} {off : Int} {tgt : Nat} (hd : decode cc pc = .ok (.ifCond .ge off, 3)) (ht : (pc : Int) + off = (tgt : Int)) (kt : 0 ≤ x → Y p l e R s m args below meth c nL D cA ρ A cells slots Q σ τ tgt lv st) (kf : ¬ 0 ≤ x → Y p l e R s m args below meth c nL D cA ρ A cells slots Q σ τ (pc + 3) lv st) : Y p l e R s m args below meth c nL D cA ρ A cells slots Q σ τ pc lv (.int x :: st) := fun H locs ls hP hS hl => lv_if_ge C.1 C.2.1 hd ht (fun h => kt h H locs ls hP hS hl) (fun h => kf h H locs ls hP hS hl)
theorem Y_if_gt (C : Ctx p l s m args meth c cc own nL ret D cA ρ A) {x : Int32} {off : Int} {tgt : Nat} (hd : decode cc pc = .ok (.ifCond .gt off, 3)) (ht : (pc : Int) + off = (tgt : Int)) (kt : 0 < x → Y p l e R s m args below meth c nL D cA ρ A cells slots Q σ τ tgt lv st) (kf : ¬ 0 < x → Y p l e R s m args below meth c nL D cA ρ A cells slots Q σ τ (pc + 3) lv st) : Y p l e R s m args below meth c nL D cA ρ A cells slots Q σ τ pc lv (.int x :: st) := fun H locs ls hP hS hl => lv_if_gt C.1 C.2.1 hd ht (fun h => kt h H locs ls hP hS hl) (fun h => kf h H locs ls hP hS hl)
theorem Y_if_le (C : Ctx p l s m args meth c cc own nL ret D cA ρ A) {x : Int32} {off : Int} {tgt : Nat} (hd : decode cc pc = .ok (.ifCond .le off, 3)) (ht : (pc : Int) + off = (tgt : Int)) (kt : x ≤ 0 → Y p l e R s m args below meth c nL D cA ρ A cells slots Q σ τ tgt lv st) (kf : ¬ x ≤ 0 → Y p l e R s m args below meth c nL D cA ρ A cells slots Q σ τ (pc + 3) lv st) : Y p l e R s m args below meth c nL D cA ρ A cells slots Q σ τ pc lv (.int x :: st) := fun H locs ls hP hS hl => lv_if_le C.1 C.2.1 hd ht (fun h => kt h H locs ls hP hS hl) (fun h => kf h H locs ls hP hS hl)
theorem Y_goto (C : Ctx p l s m args meth c cc own nL ret D cA ρ A) {off : Int} {tgt : Nat} (hd : decode cc pc = .ok (.goto off, 3)) (ht : (pc : Int) + off = (tgt : Int)) (k : Y p l e R s m args below meth c nL D cA ρ A cells slots Q σ τ tgt lv st) : Y p l e R s m args below meth c nL D cA ρ A cells slots Q σ τ pc lv st := fun H locs ls hP hS hl => lv_goto C.1 C.2.1 hd ht (k H locs ls hP hS hl)
theorem Y_lcmp (C : Ctx p l s m args meth c cc own nL ret D cA ρ A) {x y : Int64} (hd : decode cc pc = .ok (.lcmp, 1)) (k : Y p l e R s m args below meth c nL D cA ρ A cells slots Q σ τ (pc + 1) lv (.int (lg_cmp x y) :: st)) : Y p l e R s m args below meth c nL D cA ρ A cells slots Q σ τ pc lv (.long y :: .long x :: st) := fun H locs ls hP hS hl => W.lcmp C.1 C.2.1 hd (k H locs ls hP hS hl)
theorem Y_ldiv (C : Ctx p l s m args meth c cc own nL ret D cA ρ A) {x y : Int64} (h : ¬ y = 0) (hd : decode cc pc = .ok (.ldiv, 1)) (k : Y p l e R s m args below meth c nL D cA ρ A cells slots Q σ τ (pc + 1) lv (.long (x / y) :: st)) : Y p l e R s m args below meth c nL D cA ρ A cells slots Q σ τ pc lv (.long y :: .long x :: st) := fun H locs ls hP hS hl => lv_ldiv C.1 C.2.1 hd h (k H locs ls hP hS hl)
theorem Y_lrem (C : Ctx p l s m args meth c cc own nL ret D cA ρ A) {x y : Int64} (h : ¬ y = 0) (hd : decode cc pc = .ok (.lrem, 1)) (k : Y p l e R s m args below meth c nL D cA ρ A cells slots Q σ τ (pc + 1) lv (.long (x - x / y * y) :: st)) : Y p l e R s m args below meth c nL D cA ρ A cells slots Q σ τ pc lv (.long y :: .long x :: st) := fun H locs ls hP hS hl => lv_lrem C.1 C.2.1 hd h (k H locs ls hP hS hl)
theorem Y_tableIn (C : Ctx p l s m args meth c cc own nL ret D cA ρ A) {dflt lo hi : Int} {offs : Array Int} {len : Nat} {x : Int32} {off : Int} {tgt : Nat} (hd : decode cc pc = .ok (.tableswitch dflt lo hi offs, len)) (h1 : ¬ x.toInt < lo) (h2 : ¬ hi < x.toInt) (ho : offs[(x.toInt - lo).toNat]? = some off) (ht : (pc : Int) + off = (tgt : Int)) (k : Y p l e R s m args below meth c nL D cA ρ A cells slots Q σ τ tgt lv st) : Y p l e R s m args below meth c nL D cA ρ A cells slots Q σ τ pc lv (.int x :: st) := fun H locs ls hP hS hl => lv_tableIn C.1 C.2.1 hd h1 h2 ho ht (k H locs ls hP hS hl)
theorem Y_tableOut (C : Ctx p l s m args meth c cc own nL ret D cA ρ A) {dflt lo hi : Int} {offs : Array Int} {len : Nat} {x : Int32} {tgt : Nat} (hd : decode cc pc = .ok (.tableswitch dflt lo hi offs, len)) (h : x.toInt < lo ∨ hi < x.toInt) (ht : (pc : Int) + dflt = (tgt : Int)) (k : Y p l e R s m args below meth c nL D cA ρ A cells slots Q σ τ tgt lv st) : Y p l e R s m args below meth c nL D cA ρ A cells slots Q σ τ pc lv (.int x :: st) := fun H locs ls hP hS hl => lv_tableOut C.1 C.2.1 hd h ht (k H locs ls hP hS hl)
theorem Y_sub (ks : List Nat) {lv' : List (Nat × Value)} (h : lv_pick lv ks = lv') (k : Y p l e R s m args below meth c nL D cA ρ A cells slots Q σ τ pc lv' st) : Y p l e R s m args below meth c nL D cA ρ A cells slots Q σ τ pc lv st := fun H locs ls hP hS hl => k H locs ls hP hS (lv_sub hl ks h)
theorem kd_ln {k t : Nat} (h : (kd k).1 = t) : kd k = (t, ln k) := Prod.ext h rfl
theorem Y_iald (C : Ctx p l s m args meth c cc own nL ret D cA ρ A) {k : Nat} {i : Int32} {v : Int32} (hk : (kd k).1 = 1) (hv : ald σ k i = some v) (hd : decode cc pc = .ok (.iaload, 1)) (kk : Y p l e R s m args below meth c nL D cA ρ A cells slots Q σ τ (pc + 1) lv (.int v :: st)) : Y p l e R s m args below meth c nL D cA ρ A cells slots Q σ τ pc lv (.int i :: .ref (ρ k) :: st) := fun H locs ls hP hS hl => by
  obtain ⟨h1, rfl⟩ := ald_in hv
  by_cases h97 : k = 97
  · subst h97
    have h7 : ln 97 = 7 := by decide +kernel
    rw [h7] at h1
    exact va_ti C.1 C.2.1 C.2.2.2.2.2.2.2.2.2.2 hS h1 (by show Value.int (fct _) = _; rw [hP.2]) hd (kk H locs ls hP hS hl)
  · have hk9 : k < 97 := by have := kd_lt (kd_ln hk) (by decide); omega
    exact va_iald C.1 C.2.1 C.2.2.2.2.2.2.2.1 hP.1 k 0 ((wd_get ρ cA σ τ hk9).trans (by rw [wc_i (kd_ln hk)])) rfl h1 hd (kk H locs ls hP hS hl)
theorem Y_cald (C : Ctx p l s m args meth c cc own nL ret D cA ρ A) {k : Nat} {i : Int32} {v : Int32} (hk : (kd k).1 = 3) (hv : ald σ k i = some v) (hd : decode cc pc = .ok (.caload, 1)) (kk : Y p l e R s m args below meth c nL D cA ρ A cells slots Q σ τ (pc + 1) lv (.int v :: st)) : Y p l e R s m args below meth c nL D cA ρ A cells slots Q σ τ pc lv (.int i :: .ref (ρ k) :: st) := fun H locs ls hP hS hl => by
  obtain ⟨h1, rfl⟩ := ald_in hv
  exact va_cald C.1 C.2.1 C.2.2.2.2.2.2.2.1 hP.1 k 2 ((wd_get ρ cA σ τ (kd_l7 (kd_ln hk) (by decide) (by decide))).trans (by rw [wc_c (kd_ln hk)])) rfl h1 hd (kk H locs ls hP hS hl)
theorem Y_zald (C : Ctx p l s m args meth c cc own nL ret D cA ρ A) {k : Nat} {i : Int32} {v : Int32} (hk : (kd k).1 = 4) (hv : ald σ k i = some v) (hd : decode cc pc = .ok (.baload, 1)) (kk : Y p l e R s m args below meth c nL D cA ρ A cells slots Q σ τ (pc + 1) lv (.int v :: st)) : Y p l e R s m args below meth c nL D cA ρ A cells slots Q σ τ pc lv (.int i :: .ref (ρ k) :: st) := fun H locs ls hP hS hl => by
  obtain ⟨h1, rfl⟩ := ald_in hv
  exact va_zald C.1 C.2.1 C.2.2.2.2.2.2.2.1 hP.1 k 3 ((wd_get ρ cA σ τ (kd_l7 (kd_ln hk) (by decide) (by decide))).trans (by rw [wc_z (kd_ln hk)])) rfl h1 hd (kk H locs ls hP hS hl)
theorem Y_lald (C : Ctx p l s m args meth c cc own nL ret D cA ρ A) {k : Nat} {i : Int32} {v : Int64} (hk : (kd k).1 = 2) (hv : lald τ k i = some v) (hd : decode cc pc = .ok (.laload, 1)) (kk : Y p l e R s m args below meth c nL D cA ρ A cells slots Q σ τ (pc + 1) lv (.long v :: st)) : Y p l e R s m args below meth c nL D cA ρ A cells slots Q σ τ pc lv (.int i :: .ref (ρ k) :: st) := fun H locs ls hP hS hl => by
  obtain ⟨h1, rfl⟩ := lald_in hv
  exact va_lald C.1 C.2.1 C.2.2.2.2.2.2.2.1 hP.1 k 1 ((wd_get ρ cA σ τ (kd_l7 (kd_ln hk) (by decide) (by decide))).trans (by rw [wc_l (kd_ln hk)])) rfl h1 hd (kk H locs ls hP hS hl)
theorem Y_aald (C : Ctx p l s m args meth c cc own nL ret D cA ρ A) {k v : Nat} {i : Int32} (hk : (kd k).1 = 5) (hv : rald k i = some v) (hd : decode cc pc = .ok (.aaload, 1)) (kk : Y p l e R s m args below meth c nL D cA ρ A cells slots Q σ τ (pc + 1) lv (.ref (ρ v) :: st)) : Y p l e R s m args below meth c nL D cA ρ A cells slots Q σ τ pc lv (.int i :: .ref (ρ k) :: st) := fun H locs ls hP hS hl => by
  obtain ⟨h1, rfl⟩ := rald_in hv
  exact va_aldq (f := fun i => some (ρ (rr k i))) C.1 C.2.1 C.2.2.2.2.2.2.2.1 hP.1 k 4 ((wd_get ρ cA σ τ (kd_l7 (kd_ln hk) (by decide) (by decide))).trans (by rw [wc_q (kd_ln hk)])) rfl h1 hd (kk H locs ls hP hS hl)
theorem Y_alen1 (C : Ctx p l s m args meth c cc own nL ret D cA ρ A) {k : Nat} (hk : (kd k).1 = 1) (hd : decode cc pc = .ok (.arraylength, 1)) (kk : Y p l e R s m args below meth c nL D cA ρ A cells slots Q σ τ (pc + 1) lv (.int (Int32.ofNat (ln k)) :: st)) : Y p l e R s m args below meth c nL D cA ρ A cells slots Q σ τ pc lv (.ref (ρ k) :: st) := fun H locs ls hP hS hl => by
  by_cases h97 : k = 97
  · subst h97
    obtain ⟨cell, g1, g2, g3, g4, g5, g6, g7⟩ := C.2.2.2.2.2.2.2.2.2.2
    have h7 : ln 97 = 7 := by decide +kernel
    rw [h7] at kk
    have g1' : H[ρ 97]? = some cell := by rw [hS.2.1 _ (Array.getElem?_eq_some_iff.mp g1).1 g7]; exact g1
    exact W.alen (n := Int32.ofNat 7) C.1 C.2.1 g1' g2 g5 rfl rfl hd (kk H locs ls hP hS hl)
  · have hk9 : k < 97 := by have := kd_lt (kd_ln hk) (by decide); omega
    exact va_alen C.1 C.2.1 C.2.2.2.2.2.2.2.1 hP.1 k 0 ((wd_get ρ cA σ τ hk9).trans (by rw [wc_i (kd_ln hk)])) rfl rfl hd (kk H locs ls hP hS hl)
theorem Y_alen2 (C : Ctx p l s m args meth c cc own nL ret D cA ρ A) {k : Nat} (hk : (kd k).1 = 2) (hd : decode cc pc = .ok (.arraylength, 1)) (kk : Y p l e R s m args below meth c nL D cA ρ A cells slots Q σ τ (pc + 1) lv (.int (Int32.ofNat (ln k)) :: st)) : Y p l e R s m args below meth c nL D cA ρ A cells slots Q σ τ pc lv (.ref (ρ k) :: st) := fun H locs ls hP hS hl => va_alen C.1 C.2.1 C.2.2.2.2.2.2.2.1 hP.1 k 1 ((wd_get ρ cA σ τ (kd_l7 (kd_ln hk) (by decide) (by decide))).trans (by rw [wc_l (kd_ln hk)])) rfl rfl hd (kk H locs ls hP hS hl)
theorem Y_alen3 (C : Ctx p l s m args meth c cc own nL ret D cA ρ A) {k : Nat} (hk : (kd k).1 = 3) (hd : decode cc pc = .ok (.arraylength, 1)) (kk : Y p l e R s m args below meth c nL D cA ρ A cells slots Q σ τ (pc + 1) lv (.int (Int32.ofNat (ln k)) :: st)) : Y p l e R s m args below meth c nL D cA ρ A cells slots Q σ τ pc lv (.ref (ρ k) :: st) := fun H locs ls hP hS hl => va_alen C.1 C.2.1 C.2.2.2.2.2.2.2.1 hP.1 k 2 ((wd_get ρ cA σ τ (kd_l7 (kd_ln hk) (by decide) (by decide))).trans (by rw [wc_c (kd_ln hk)])) rfl rfl hd (kk H locs ls hP hS hl)
theorem Y_alen4 (C : Ctx p l s m args meth c cc own nL ret D cA ρ A) {k : Nat} (hk : (kd k).1 = 4) (hd : decode cc pc = .ok (.arraylength, 1)) (kk : Y p l e R s m args below meth c nL D cA ρ A cells slots Q σ τ (pc + 1) lv (.int (Int32.ofNat (ln k)) :: st)) : Y p l e R s m args below meth c nL D cA ρ A cells slots Q σ τ pc lv (.ref (ρ k) :: st) := fun H locs ls hP hS hl => va_alen C.1 C.2.1 C.2.2.2.2.2.2.2.1 hP.1 k 3 ((wd_get ρ cA σ τ (kd_l7 (kd_ln hk) (by decide) (by decide))).trans (by rw [wc_z (kd_ln hk)])) rfl rfl hd (kk H locs ls hP hS hl)
theorem Y_alen5 (C : Ctx p l s m args meth c cc own nL ret D cA ρ A) {k : Nat} (hk : (kd k).1 = 5) (hd : decode cc pc = .ok (.arraylength, 1)) (kk : Y p l e R s m args below meth c nL D cA ρ A cells slots Q σ τ (pc + 1) lv (.int (Int32.ofNat (ln k)) :: st)) : Y p l e R s m args below meth c nL D cA ρ A cells slots Q σ τ pc lv (.ref (ρ k) :: st) := fun H locs ls hP hS hl => va_alen C.1 C.2.1 C.2.2.2.2.2.2.2.1 hP.1 k 4 ((wd_get ρ cA σ τ (kd_l7 (kd_ln hk) (by decide) (by decide))).trans (by rw [wc_q (kd_ln hk)])) rfl rfl hd (kk H locs ls hP hS hl)
def Wr (ρ : Nat → Nat) (A : Nat → Prop) : Prop := Inj ρ ∧ ∀ k, k < 97 → A (ρ k)

theorem Y_iast (C : Ctx p l s m args meth c cc own nL ret D cA ρ A) (hw : Wr ρ A) {k : Nat} {i x : Int32} {σ' : Sg} (hk : (kd k).1 = 1) (hk9 : k < 97) (hv : ast σ k i x = some σ') (hd : decode cc pc = .ok (.iastore, 1)) (kk : Y p l e R s m args below meth c nL D cA ρ A cells slots Q σ' τ (pc + 1) lv st) : Y p l e R s m args below meth c nL D cA ρ A cells slots Q σ τ pc lv (.int x :: .int i :: .ref (ρ k) :: st) := fun H locs ls hP hS hl => by
  obtain ⟨h1, rfl⟩ := ast_in hv
  refine va_iast C.1 C.2.1 C.2.2.2.2.2.2.2.1 hP.1 (wd_D hw.1 hw.2) hS k 0 ((wd_get ρ cA σ τ hk9).trans (by rw [wc_i (kd_ln hk)])) rfl h1 hd (fun H1 locs1 hP1 _ hS1 => ?_)
  rw [wd_set (σ' := si σ k i.toNatClampNeg x) (τ' := τ) (by rw [wc_i (kd_ln hk), si_self]) (fun q hq => wc_cong (si_ne σ _ _ hq) rfl)] at hP1
  exact kk H1 locs1 ls (wd_98 hP (si_ne σ _ _ (by omega)) hP1) hS1 hl
theorem Y_cast (C : Ctx p l s m args meth c cc own nL ret D cA ρ A) (hw : Wr ρ A) {k : Nat} {i x : Int32} {σ' : Sg} (hk : (kd k).1 = 3) (hk9 : k < 97) (hv : ast σ k i (vp_nar .char x) = some σ') (hd : decode cc pc = .ok (.castore, 1)) (kk : Y p l e R s m args below meth c nL D cA ρ A cells slots Q σ' τ (pc + 1) lv st) : Y p l e R s m args below meth c nL D cA ρ A cells slots Q σ τ pc lv (.int x :: .int i :: .ref (ρ k) :: st) := fun H locs ls hP hS hl => by
  obtain ⟨h1, rfl⟩ := ast_in hv
  refine va_cast C.1 C.2.1 C.2.2.2.2.2.2.2.1 hP.1 (wd_D hw.1 hw.2) hS k 2 ((wd_get ρ cA σ τ hk9).trans (by rw [wc_c (kd_ln hk)])) rfl h1 hd (fun H1 locs1 hP1 _ hS1 => ?_)
  rw [wd_set (σ' := si σ k i.toNatClampNeg (vp_nar .char x)) (τ' := τ) (by rw [wc_c (kd_ln hk), si_self]) (fun q hq => wc_cong (si_ne σ _ _ hq) rfl)] at hP1
  exact kk H1 locs1 ls (wd_98 hP (si_ne σ _ _ (by omega)) hP1) hS1 hl
theorem Y_zast (C : Ctx p l s m args meth c cc own nL ret D cA ρ A) (hw : Wr ρ A) {k : Nat} {i x : Int32} {σ' : Sg} (hk : (kd k).1 = 4) (hk9 : k < 97) (hv : ast σ k i (vp_nar .boolean x) = some σ') (hd : decode cc pc = .ok (.bastore, 1)) (kk : Y p l e R s m args below meth c nL D cA ρ A cells slots Q σ' τ (pc + 1) lv st) : Y p l e R s m args below meth c nL D cA ρ A cells slots Q σ τ pc lv (.int x :: .int i :: .ref (ρ k) :: st) := fun H locs ls hP hS hl => by
  obtain ⟨h1, rfl⟩ := ast_in hv
  refine va_zast C.1 C.2.1 C.2.2.2.2.2.2.2.1 hP.1 (wd_D hw.1 hw.2) hS k 3 ((wd_get ρ cA σ τ hk9).trans (by rw [wc_z (kd_ln hk)])) rfl h1 hd (fun H1 locs1 hP1 _ hS1 => ?_)
  rw [wd_set (σ' := si σ k i.toNatClampNeg (vp_nar .boolean x)) (τ' := τ) (by rw [wc_z (kd_ln hk), si_self]) (fun q hq => wc_cong (si_ne σ _ _ hq) rfl)] at hP1
  exact kk H1 locs1 ls (wd_98 hP (si_ne σ _ _ (by omega)) hP1) hS1 hl
theorem Y_last (C : Ctx p l s m args meth c cc own nL ret D cA ρ A) (hw : Wr ρ A) {k : Nat} {i : Int32} {x : Int64} {τ' : Tg} (hk : (kd k).1 = 2) (hk9 : k < 97) (hv : last τ k i x = some τ') (hd : decode cc pc = .ok (.lastore, 1)) (kk : Y p l e R s m args below meth c nL D cA ρ A cells slots Q σ τ' (pc + 1) lv st) : Y p l e R s m args below meth c nL D cA ρ A cells slots Q σ τ pc lv (.long x :: .int i :: .ref (ρ k) :: st) := fun H locs ls hP hS hl => by
  obtain ⟨h1, rfl⟩ := last_in hv
  refine va_last C.1 C.2.1 C.2.2.2.2.2.2.2.1 hP.1 (wd_D hw.1 hw.2) hS k 1 ((wd_get ρ cA σ τ hk9).trans (by rw [wc_l (kd_ln hk)])) rfl h1 hd (fun H1 locs1 hP1 _ hS1 => ?_)
  rw [wd_set (σ' := σ) (τ' := sl τ k i.toNatClampNeg x) (by rw [wc_l (kd_ln hk), sl_self]) (fun q hq => wc_cong rfl (sl_ne τ _ _ hq))] at hP1
  exact kk H1 locs1 ls (wd_98 hP rfl hP1) hS1 hl
/-- a field by its link: slot j of class ci is of sort d (0 an int, 1000 a long, else a reference so many places on) -/
def FI (own : String) (index ci j d : Nat) (C0 : String) (T : u_T) (N : Nat) : Prop := vwCl[ci]? = some (C0, T, N) ∧ j < N ∧ (fdl ci)[j]? = some d ∧ Cond.fieldLink own index (T j).1 (T j).2.1 (T j).2.2.1 ∈ WG ∧ (∀ w ∈ u_ws C0 T N, w ∈ WG)
def FP (own : String) (index ci j d : Nat) (C0 : String) (T : u_T) (N : Nat) (ty : FieldType) : Prop := FI own index ci j d C0 T N ∧ (∃ ty0 : Nat → FieldType, ∀ k, k < N → parseFieldDescriptor (T k).2.2.1 = some (ty0 k)) ∧ (∀ a, a < N → ∀ b, b < N → a ≠ b → (T a).2.1 ≠ (T b).2.1) ∧ (T j).2.2.2 = false ∧ parseFieldDescriptor (T j).2.2.1 = some ty ∧ N = (fdl ci).length

theorem Y_getI (C : Ctx p l s m args meth c cc own nL ret D cA ρ A) {index ci j k N : Nat} {C0 : String} {T : u_T} (hk : kd k = (0, ci)) (hf : FI own index ci j 0 C0 T N) (hd : decode cc pc = .ok (.getfield index, 3)) (kk : Y p l e R s m args below meth c nL D cA ρ A cells slots Q σ τ (pc + 3) lv (.int (σ k j) :: st)) : Y p l e R s m args below meth c nL D cA ρ A cells slots Q σ τ pc lv (.ref (ρ k) :: st) := fun H locs ls hP hS hl => by
  obtain ⟨h1, h2, h3, h4, h5⟩ := hf
  exact va_get C.1 C.2.1 C.2.2.2.2.2.1 h5 C.2.2.2.2.1 C.2.2.2.2.2.2.2.1 hP.1 k ((wd_get ρ cA σ τ (kd_l7 hk (by decide) (by decide))).trans (by rw [wc_o hk])) h1 j h2 (C.2.2.2.2.2.1 _ h4) (fun _ h => h) ((fo_get h3).trans (by simp [fv])) hd (kk H locs ls hP hS hl)
theorem Y_getL (C : Ctx p l s m args meth c cc own nL ret D cA ρ A) {index ci j k N : Nat} {C0 : String} {T : u_T} (hk : kd k = (0, ci)) (hf : FI own index ci j 1000 C0 T N) (hd : decode cc pc = .ok (.getfield index, 3)) (kk : Y p l e R s m args below meth c nL D cA ρ A cells slots Q σ τ (pc + 3) lv (.long (τ k j) :: st)) : Y p l e R s m args below meth c nL D cA ρ A cells slots Q σ τ pc lv (.ref (ρ k) :: st) := fun H locs ls hP hS hl => by
  obtain ⟨h1, h2, h3, h4, h5⟩ := hf
  exact va_get C.1 C.2.1 C.2.2.2.2.2.1 h5 C.2.2.2.2.1 C.2.2.2.2.2.2.2.1 hP.1 k ((wd_get ρ cA σ τ (kd_l7 hk (by decide) (by decide))).trans (by rw [wc_o hk])) h1 j h2 (C.2.2.2.2.2.1 _ h4) (fun _ h => h) ((fo_get h3).trans (by simp [fv])) hd (kk H locs ls hP hS hl)
theorem Y_getR (C : Ctx p l s m args meth c cc own nL ret D cA ρ A) {index ci j d k N : Nat} {C0 : String} {T : u_T} (hk : kd k = (0, ci)) (hf : FI own index ci j d C0 T N) (hd0 : d ≠ 0 ∧ d ≠ 1000) (hd : decode cc pc = .ok (.getfield index, 3)) (kk : Y p l e R s m args below meth c nL D cA ρ A cells slots Q σ τ (pc + 3) lv (.ref (ρ (k + d)) :: st)) : Y p l e R s m args below meth c nL D cA ρ A cells slots Q σ τ pc lv (.ref (ρ k) :: st) := fun H locs ls hP hS hl => by
  obtain ⟨h1, h2, h3, h4, h5⟩ := hf
  exact va_get C.1 C.2.1 C.2.2.2.2.2.1 h5 C.2.2.2.2.1 C.2.2.2.2.2.2.2.1 hP.1 k ((wd_get ρ cA σ τ (kd_l7 hk (by decide) (by decide))).trans (by rw [wc_o hk])) h1 j h2 (C.2.2.2.2.2.1 _ h4) (fun _ h => h) ((fo_get h3).trans (by simp [fv, hd0.1, hd0.2])) hd (kk H locs ls hP hS hl)
theorem Y_putI (C : Ctx p l s m args meth c cc own nL ret D cA ρ A) (hw : Wr ρ A) {index ci j k N : Nat} {C0 : String} {T : u_T} {x : Int32}  (hk : kd k = (0, ci)) (hk9 : k < 97) (hf : FP own index ci j 0 C0 T N .int) (hd : decode cc pc = .ok (.putfield index, 3)) (kk : Y p l e R s m args below meth c nL D cA ρ A cells slots Q (si σ k j x) τ (pc + 3) lv st) : Y p l e R s m args below meth c nL D cA ρ A cells slots Q σ τ pc lv (.int x :: .ref (ρ k) :: st) := fun H locs ls hP hS hl => by
  obtain ⟨⟨h1, h2, h3, h4, h5⟩, ⟨ty0, h6⟩, h7, h8, h9, h10⟩ := hf
  refine va_put C.1 C.2.1 C.2.2.2.2.2.1 h5 ty0 h6 h7 C.2.2.2.2.1 C.2.2.2.2.2.2.2.1 hP.1 (wd_D hw.1 hw.2) hS k ((wd_get ρ cA σ τ hk9).trans (by rw [wc_o hk])) h1 j h2 (C.2.2.2.2.2.1 _ h4) (fun _ h => h) h8 h9 rfl rfl (by rw [fo_len, ← h10]; exact h2) hd (fun H1 locs1 hP1 _ hS1 => ?_)
  rw [wd_set (σ' := si σ k j x) (τ' := τ) (by rw [wc_o hk, fo_si h3]) (fun q hq => wc_cong (si_ne σ _ _ hq) rfl)] at hP1
  exact kk H1 locs1 ls (wd_98 hP (si_ne σ _ _ (by omega)) hP1) hS1 hl
theorem Y_putZ (C : Ctx p l s m args meth c cc own nL ret D cA ρ A) (hw : Wr ρ A) {index ci j k N : Nat} {C0 : String} {T : u_T} {x : Int32} (hx : x = 0 ∨ x = 1) (hk : kd k = (0, ci)) (hk9 : k < 97) (hf : FP own index ci j 0 C0 T N .boolean) (hd : decode cc pc = .ok (.putfield index, 3)) (kk : Y p l e R s m args below meth c nL D cA ρ A cells slots Q (si σ k j x) τ (pc + 3) lv st) : Y p l e R s m args below meth c nL D cA ρ A cells slots Q σ τ pc lv (.int x :: .ref (ρ k) :: st) := fun H locs ls hP hS hl => by
  obtain ⟨⟨h1, h2, h3, h4, h5⟩, ⟨ty0, h6⟩, h7, h8, h9, h10⟩ := hf
  refine va_put C.1 C.2.1 C.2.2.2.2.2.1 h5 ty0 h6 h7 C.2.2.2.2.1 C.2.2.2.2.2.2.2.1 hP.1 (wd_D hw.1 hw.2) hS k ((wd_get ρ cA σ τ hk9).trans (by rw [wc_o hk])) h1 j h2 (C.2.2.2.2.2.1 _ h4) (fun _ h => h) h8 h9 (by rcases hx with rfl | rfl <;> rfl) (by rcases hx with rfl | rfl <;> decide) (by rw [fo_len, ← h10]; exact h2) hd (fun H1 locs1 hP1 _ hS1 => ?_)
  rw [wd_set (σ' := si σ k j x) (τ' := τ) (by rw [wc_o hk, fo_si h3]) (fun q hq => wc_cong (si_ne σ _ _ hq) rfl)] at hP1
  exact kk H1 locs1 ls (wd_98 hP (si_ne σ _ _ (by omega)) hP1) hS1 hl
theorem Y_putL (C : Ctx p l s m args meth c cc own nL ret D cA ρ A) (hw : Wr ρ A) {index ci j k N : Nat} {C0 : String} {T : u_T} {x : Int64}  (hk : kd k = (0, ci)) (hk9 : k < 97) (hf : FP own index ci j 1000 C0 T N .long) (hd : decode cc pc = .ok (.putfield index, 3)) (kk : Y p l e R s m args below meth c nL D cA ρ A cells slots Q σ (sl τ k j x) (pc + 3) lv st) : Y p l e R s m args below meth c nL D cA ρ A cells slots Q σ τ pc lv (.long x :: .ref (ρ k) :: st) := fun H locs ls hP hS hl => by
  obtain ⟨⟨h1, h2, h3, h4, h5⟩, ⟨ty0, h6⟩, h7, h8, h9, h10⟩ := hf
  refine va_put C.1 C.2.1 C.2.2.2.2.2.1 h5 ty0 h6 h7 C.2.2.2.2.1 C.2.2.2.2.2.2.2.1 hP.1 (wd_D hw.1 hw.2) hS k ((wd_get ρ cA σ τ hk9).trans (by rw [wc_o hk])) h1 j h2 (C.2.2.2.2.2.1 _ h4) (fun _ h => h) h8 h9 rfl rfl (by rw [fo_len, ← h10]; exact h2) hd (fun H1 locs1 hP1 _ hS1 => ?_)
  rw [wd_set (σ' := σ) (τ' := sl τ k j x) (by rw [wc_o hk, fo_sl h3]) (fun q hq => wc_cong rfl (sl_ne τ _ _ hq))] at hP1
  exact kk H1 locs1 ls (wd_98 hP rfl hP1) hS1 hl
theorem Y_gets (C : Ctx p l s m args meth c cc own nL ret D cA ρ A) {index : Nat} (hw : Cond.fieldLink own index RX8 "FACTORIALS" "[I" ∈ WG) (hd : decode cc pc = .ok (.getstatic index, 3)) (kk : Y p l e R s m args below meth c nL D cA ρ A cells slots Q σ τ (pc + 3) lv (.ref (ρ 97) :: st)) : Y p l e R s m args below meth c nL D cA ρ A cells slots Q σ τ pc lv st := fun H locs ls hP hS hl => va_gets C.1 C.2.1 C.2.2.2.2.2.2.2.2.2.1 hS C.2.2.2.2.1 (C.2.2.2.2.2.1 _ hw) (fun _ h => h) hd (kk H locs ls hP hS hl)
def QC (D : va_G) (cA ρ : Nat → Nat) (A : Nat → Prop) (v : Option Value) (σ : Sg) (τ : Tg) : Array Value → State → Outcome → State → Prop := fun _ st o t => o = .returned v ∧ VP D cA ρ σ τ t.heap ∧ va_F A st t
def Wld (D : va_G) (cA ρ : Nat → Nat) (A : Nat → Prop) (σ : Sg) (τ : Tg) (U : State) : Prop := VP D cA ρ σ τ U.heap ∧ va_K D vwCl (tyv cA) U ∧ (∀ w ∈ NW, va_Nw w U) ∧ va_Z RX8 "FACTORIALS" "[I" (.ref (ρ 97)) A U U.heap ∧ va_T .int (ρ 97) 7 (fun j => .int (fct j)) A U U.heap
def Rm (f n : Nat) : Room := { frames := f, cells := 0, slots := 0, locals := n }
def Ct (l : Launch) (y : MethodName) (b : ByteArray) (n : Nat) (r : Option FieldType) (f k : Nat) (D : va_G) (cA ρ : Nat → Nat) (A : Nat → Prop) (av : List Value) (σ : Sg) (τ : Tg) (v : Option Value) (σ' : Sg) (τ' : Tg) : Prop :=
  Met l y (Cond.code y b n r :: WG) (Rm f k) (va_Pc av (Wld D cA ρ A σ τ)) (QC D cA ρ A v σ' τ') 0 0 A
theorem nw_onT {w : Cond} (h : w ∈ NW) : w.onTables = true := by
  have := (List.mem_filter.mp h).2
  cases w <;> first | rfl | cases this
theorem nw_warm {w : Cond} (h : w ∈ NW) {s U : State} (hW : s.WarmedH U.vm) (hZ : va_Nw w s) : va_Nw w U := by
  have := (List.mem_filter.mp h).2
  cases w <;> first | exact va_Nw.warmM hW hZ | cases this
theorem Wld.calling {D : va_G} {cA ρ : Nat → Nat} {A : Nat → Prop} {σ : Sg} {τ : Tg} {av : List Value} : FrameBlind (va_Pc av (Wld D cA ρ A σ τ)) := by
  intro a U g mk h
  obtain ⟨rfl, h1, h2, h3, h4, h5⟩ := h
  exact ⟨rfl, h1, va_K.moved (u := U) (U := U.calling g mk _) (Vm.Alike.refl U.vm) h2, fun w hw => va_Nw.same (nw_onT hw) (u := U) (U := U.calling g mk _) rfl (h3 w hw), va_Z.moved (u := U) (U := U.calling g mk _) (Vm.Alike.refl U.vm) h4, va_T.moved (u := U) (U := U.calling g mk _) (Vm.Alike.refl U.vm) h5⟩

theorem Ct_of {l : Launch} {y : MethodName} {b : ByteArray} {n : Nat} {r : Option FieldType} {f k : Nat} {D : va_G} {cA ρ : Nat → Nat} {A : Nat → Prop} {av : List Value} {σ : Sg} {τ : Tg} {v : Option Value} {σ' : Sg} {τ' : Tg} (hy : plainName y.cls = true) (hn : (lg_sl av).length ≤ n)
    (body : ∀ (p : Program) (e : Env) (s : State) (m : MethodId) (args : Array Value) (below : List Frame) (meth : Method) (c : Code), Ctx p l s m args meth c b y.cls n r D cA ρ A → Y p l e (Rm f k) s m args below meth c n D cA ρ A 0 0 (MQ below (QC D cA ρ A v σ' τ') args s 0 0 A) σ τ 0 (lv_args 0 av) []) : Ct l y b n r f k D cA ρ A av σ τ v σ' τ' := by
  refine Met.ofW (cc := b) (maxL := n) (ret := r) hy rfl ?_
  intro p e s m args below meth c s₁ B hml hv
  obtain ⟨rfl, hP, hK, hN, hZ, h97⟩ := hv
  have hts := atoms_spec (ws := Cond.code y b n r :: WG) B.pre
  have hown : s.vm.findClass y.cls = some m.cls := findClass_of_methodNamed B.named
  have hl := lv_entry av (n := n) hn
  rw [lg_entry_eq]
  exact body p e s m _ below meth c ⟨B.exec, B.bytes, B.returns, hml, hown, fun w hw => hts w (List.mem_cons_of_mem _ hw), hN, hK, B.notSynchronized, hZ, h97⟩ s.heap [] _ hP va_S.rf hl
theorem Wld.at {p : Program} {l : Launch} {s : State} {m : MethodId} {args : Array Value} {meth : Method} {c : Code} {cc : ByteArray} {own : String} {nL : Nat} {ret : Option FieldType} {D : va_G} {cA ρ : Nat → Nat} {A A' : Nat → Prop} {σ : Sg} {τ : Tg} {H : Heap} {locs : List Loc} (C : Ctx p l s m args meth c cc own nL ret D cA ρ A) (hA : ∀ q, A' q → A q) (hP : VP D cA ρ σ τ H) (hS : va_S A s.heap H locs) : ∀ U : State, U.heap = H → s.WarmedH U.vm → Wld D cA ρ A' σ τ U := by
  intro U hU hW
  obtain ⟨-, -, -, -, -, -, hN, hK, -, hZ, h97⟩ := C
  refine ⟨by rw [hU]; exact hP, va_K.moved hW.alike hK, fun w hw => nw_warm hw hW (hN w hw), ?_, ?_⟩
  · rw [hU]
    exact ((hZ.kept (H1 := H) (fun a ha hq => hS.2.1 a ha hq)).moved hW.alike).narrow hA
  · rw [hU]
    exact ((h97.kept (H1 := H) (fun a ha hq => hS.2.1 a ha hq)).moved hW.alike).narrow hA
/-- behind a call -/
theorem Y_ret {v : Option Value} {σ' : Sg} {τ' : Tg} {A' : Nat → Prop} {a : Array Value} {H : Heap} {locs : List Loc} {ls : Array Slot} {rest st0 st1 : List Value} (hr : va_Run p l e R s m args below meth c H locs cells slots 0 0 (F0 m pc ls st0) rest (QC D cA ρ A' v σ' τ' a) A') (hS : va_S A s.heap H locs) (hA : ∀ q, A' q → A q) (hl : lv_has ls nL lv) (h1 : st1 = v.toList ++ rest) (k : Y p l e R s m args below meth c nL D cA ρ A cells slots Q σ' τ' (pc + 3) lv st1) : W p l e R s m args below meth c H locs cells slots Q (F0 m pc ls st0) := by
  intro T hT X
  obtain ⟨v', st₀, t, T', L, h0, X', hL, e1, e2, ⟨hv, hp, hz, hk⟩, go⟩ := hr T hT X
  cases hv
  rw [h0] at hz hk
  rw [← e1] at hz hk hp
  obtain ⟨t2, a1, b1⟩ := k T'.heap (locs ++ L) ls hp ⟨Nat.le_trans hS.1 hz, fun q g1 g2 => by rw [hk q (Nat.lt_of_lt_of_le g1 hS.1) (fun z => g2 (hA q z))]; exact hS.2.1 q g1 g2, fun q hq => by
      rcases List.mem_append.mp hq with h | h
      · exact hS.2.2 q h
      · exact hA _ (hL q h)⟩ hl T' rfl X'
  subst h1
  exact ⟨t2, go t2 a1, b1⟩

/-- what a call needs of the tables: the callee's own words -/
def Cw (y : MethodName) (b : ByteArray) (n : Nat) (r : Option FieldType) (na : Nat) : Prop := Cond.code y b n r ∈ WG ∧ Cond.initialized y.cls ∈ WG ∧ (y.cls ≠ "java/lang/invoke/MethodHandle" ∧ y.cls ≠ "java/lang/invoke/VarHandle" ∧ (parseMethodDescriptor y.desc).map (fun d => d.parameters.length) = some na)
/-- .. and rooms -/
def Cr (R : Room) (f k n cells slots : Nat) (rest : List Value) : Prop := (f + 1 ≤ R.frames ∧ 8 + (n + 11) + k ≤ R.locals) ∧ (cells ≤ R.cells ∧ slots ≤ R.slots) ∧ (rest.map fun v => v.category).sum ≤ 8

theorem Y_callS (C : Ctx p l s m args meth c cc own nL ret D cA ρ A) {index : Nat} {y : MethodName} {b : ByteArray} {n : Nat} {r : Option FieldType} {f kl na : Nat} {A' : Nat → Prop} {v : Option Value} {σ' : Sg} {τ' : Tg} (av : List Value) (rest st1 : List Value)  (hM : Ct l y b n r f kl D cA ρ A' av σ τ v σ' τ') (hA : ∀ q, A' q → A q) (hw : Cw y b n r na) (hlink : Cond.methodLink own index y ∈ WG) (hs : Cond.static y ∈ WG) (hcr : Cr R f kl n cells slots rest) (hn : av.length = na) (h0 : st = av.reverse ++ rest) (h1 : st1 = v.toList ++ rest) (hd : decode cc pc = .ok (.invokestatic index, 3)) (k : Y p l e R s m args below meth c nL D cA ρ A cells slots Q σ' τ' (pc + 3) lv st1) : Y p l e R s m args below meth c nL D cA ρ A cells slots Q σ τ pc lv st := fun H locs ls hP hS hl =>
  Y_ret (va_runS (As := av) (rest := rest) ⟨C.1, C.2.1, C.2.2.2.1, C.2.2.2.2.1, C.2.2.2.2.2.1⟩ hM ⟨(callB_of na C.2.2.2.2.2.1 (wg_good y b n r hw.1) rfl rfl rfl (C.2.2.2.2.2.1 _ hw.2.1) (C.2.2.2.2.2.1 _ hlink) hw.2.2 hcr.1), C.2.2.2.2.2.1 _ hs⟩ ⟨Wld.calling, fun U hU hW => ⟨rfl, Wld.at C hA hP hS U hU hW⟩⟩ rfl hn hl.1 h0 (by show 2 * 0 + _ ≤ 8; have := hcr.2.2; omega) hd ⟨hcr.2.1.1, hcr.2.1.2⟩) hS hA hl h1 k
theorem Y_callSN (C : Ctx p l s m args meth c cc own nL ret D cA ρ A) {index : Nat} {y : MethodName} {b : ByteArray} {n : Nat} {r : Option FieldType} {f kl na : Nat} {A' : Nat → Prop} {v : Option Value} {σ' : Sg} {τ' : Tg} (av : List Value) (rest st1 : List Value)  (hM : Ct l y b n r f kl D cA ρ A' av σ τ v σ' τ') (hA : ∀ q, A' q → A q) (hw : Cw y b n r na) {host : String} (hlink : Cond.methodLinkNest own index y host ∈ NW) (hs : Cond.static y ∈ WG) (hcr : Cr R f kl n cells slots rest) (hn : av.length = na) (h0 : st = av.reverse ++ rest) (h1 : st1 = v.toList ++ rest) (hd : decode cc pc = .ok (.invokestatic index, 3)) (k : Y p l e R s m args below meth c nL D cA ρ A cells slots Q σ' τ' (pc + 3) lv st1) : Y p l e R s m args below meth c nL D cA ρ A cells slots Q σ τ pc lv st := fun H locs ls hP hS hl =>
  Y_ret (va_runSN (As := av) (rest := rest) ⟨C.1, C.2.1, C.2.2.2.1, C.2.2.2.2.1, C.2.2.2.2.2.1⟩ hM ⟨(va_cnB na C.2.2.2.2.2.1 (wg_good y b n r hw.1) rfl rfl rfl (C.2.2.2.2.2.2.1 _ hlink) (C.2.2.2.2.2.1 _ hw.2.1) hw.2.2 hcr.1), C.2.2.2.2.2.1 _ hs, trivial⟩ ⟨Wld.calling, fun U hU hW => ⟨rfl, Wld.at C hA hP hS U hU hW⟩⟩ rfl hn hl.1 h0 (by show 2 * 0 + _ ≤ 8; have := hcr.2.2; omega) hd ⟨hcr.2.1.1, hcr.2.1.2⟩) hS hA hl h1 k
theorem Y_callV (C : Ctx p l s m args meth c cc own nL ret D cA ρ A) {index : Nat} {y : MethodName} {b : ByteArray} {n : Nat} {r : Option FieldType} {f kl na : Nat} {A' : Nat → Prop} {v : Option Value} {σ' : Sg} {τ' : Tg} (av : List Value) (rest st1 : List Value) {kb ci : Nat} {qc : vw_C} (hkb : kd kb = (0, ci)) (hc : vwCl[ci]? = some qc) (hcl : qc.1 = y.cls) (hM : Ct l y b n r f kl D cA ρ A' (.ref (ρ kb) :: av) σ τ v σ' τ') (hA : ∀ q, A' q → A q) (hw : Cw y b n r na) (hlink : Cond.methodLink own index y ∈ WG) (hs : Cond.instanceMethod y ∈ WG ∧ Cond.selects y.cls y y ∈ WG) (hcr : Cr R f kl n cells slots rest) (hn : av.length = na) (h0 : st = av.reverse ++ .ref (ρ kb) :: rest) (h1 : st1 = v.toList ++ rest) (hd : decode cc pc = .ok (.invokevirtual index, 3)) (k : Y p l e R s m args below meth c nL D cA ρ A cells slots Q σ' τ' (pc + 3) lv st1) : Y p l e R s m args below meth c nL D cA ρ A cells slots Q σ τ pc lv st := fun H locs ls hP hS hl =>
  Y_ret (va_runV (As := av) (rest := rest) ⟨C.1, C.2.1, C.2.2.2.1, C.2.2.2.2.1, C.2.2.2.2.2.1⟩ hM ⟨(callB_of na C.2.2.2.2.2.1 (wg_good y b n r hw.1) rfl rfl rfl (C.2.2.2.2.2.1 _ hw.2.1) (C.2.2.2.2.2.1 _ hlink) hw.2.2 hcr.1), C.2.2.2.2.2.1 _ hs.1, C.2.2.2.2.2.1 _ hs.2⟩ ⟨Wld.calling, hcl ▸ va_recv C.2.2.2.2.2.2.2.1 hP.1 hc ((wd_get ρ cA σ τ (kd_l7 hkb (by decide) (by decide))).trans (by rw [wc_o hkb])), fun U hU hW => ⟨rfl, Wld.at C hA hP hS U hU hW⟩⟩ rfl hn hl.1 h0 (by show 2 * 0 + _ ≤ 8; have := hcr.2.2; omega) hd ⟨hcr.2.1.1, hcr.2.1.2⟩) hS hA hl h1 k
theorem Y_callVN (C : Ctx p l s m args meth c cc own nL ret D cA ρ A) {index : Nat} {y : MethodName} {b : ByteArray} {n : Nat} {r : Option FieldType} {f kl na : Nat} {A' : Nat → Prop} {v : Option Value} {σ' : Sg} {τ' : Tg} (av : List Value) (rest st1 : List Value) {kb ci : Nat} {qc : vw_C} (hkb : kd kb = (0, ci)) (hc : vwCl[ci]? = some qc) (hcl : qc.1 = y.cls) (hM : Ct l y b n r f kl D cA ρ A' (.ref (ρ kb) :: av) σ τ v σ' τ') (hA : ∀ q, A' q → A q) (hw : Cw y b n r na) {host : String} (hlink : Cond.methodLinkNest own index y host ∈ NW) (hs : Cond.instanceMethod y ∈ WG ∧ Cond.selects y.cls y y ∈ WG) (hcr : Cr R f kl n cells slots rest) (hn : av.length = na) (h0 : st = av.reverse ++ .ref (ρ kb) :: rest) (h1 : st1 = v.toList ++ rest) (hd : decode cc pc = .ok (.invokevirtual index, 3)) (k : Y p l e R s m args below meth c nL D cA ρ A cells slots Q σ' τ' (pc + 3) lv st1) : Y p l e R s m args below meth c nL D cA ρ A cells slots Q σ τ pc lv st := fun H locs ls hP hS hl =>
  Y_ret (va_runVN (As := av) (rest := rest) ⟨C.1, C.2.1, C.2.2.2.1, C.2.2.2.2.1, C.2.2.2.2.2.1⟩ hM ⟨(va_cnB na C.2.2.2.2.2.1 (wg_good y b n r hw.1) rfl rfl rfl (C.2.2.2.2.2.2.1 _ hlink) (C.2.2.2.2.2.1 _ hw.2.1) hw.2.2 hcr.1), C.2.2.2.2.2.1 _ hs.1, C.2.2.2.2.2.1 _ hs.2⟩ ⟨Wld.calling, hcl ▸ va_recv C.2.2.2.2.2.2.2.1 hP.1 hc ((wd_get ρ cA σ τ (kd_l7 hkb (by decide) (by decide))).trans (by rw [wc_o hkb])), fun U hU hW => ⟨rfl, Wld.at C hA hP hS U hU hW⟩⟩ rfl hn hl.1 h0 (by show 2 * 0 + _ ≤ 8; have := hcr.2.2; omega) hd ⟨hcr.2.1.1, hcr.2.1.2⟩) hS hA hl h1 k
theorem Y_iret {x : Int32} (C : Ctx p l s m args meth c cc own nL (some .int) D cA ρ A) (hd : decode cc pc = .ok (.ireturn, 1)) : Y p l e R s m args below meth c nL D cA ρ A cells slots (MQ below (QC D cA ρ A (some (.int x)) σ τ) args s cells slots A) σ τ pc lv [.int x] := fun H locs ls hP hS hl => W.iret (v := x) C.1 C.2.1 C.2.2.1 (fun t ht hW => ⟨rfl, by rw [ht]; exact hP, hS.F ht⟩) hS.2.2 hd C.2.2.2.2.2.2.2.2.1
theorem Y_lret {x : Int64} (C : Ctx p l s m args meth c cc own nL (some .long) D cA ρ A) (hd : decode cc pc = .ok (.lreturn, 1)) : Y p l e R s m args below meth c nL D cA ρ A cells slots (MQ below (QC D cA ρ A (some (.long x)) σ τ) args s cells slots A) σ τ pc lv [.long x] := fun H locs ls hP hS hl => W.lret (v := x) C.1 C.2.1 C.2.2.1 (fun t ht hW => ⟨rfl, by rw [ht]; exact hP, hS.F ht⟩) hS.2.2 hd C.2.2.2.2.2.2.2.2.1
theorem Y_vret  (C : Ctx p l s m args meth c cc own nL none D cA ρ A) (hd : decode cc pc = .ok (.return_, 1)) : Y p l e R s m args below meth c nL D cA ρ A cells slots (MQ below (QC D cA ρ A (none) σ τ) args s cells slots A) σ τ pc lv [] := fun H locs ls hP hS hl => W.vret C.1 C.2.1 C.2.2.1 (fun t ht hW => ⟨rfl, by rw [ht]; exact hP, hS.F ht⟩) hS.2.2 hd C.2.2.2.2.2.2.2.2.1
theorem Y_zret {x : Int32} (hx : x = 0 ∨ x = 1) (C : Ctx p l s m args meth c cc own nL (some .boolean) D cA ρ A) (hd : decode cc pc = .ok (.ireturn, 1)) : Y p l e R s m args below meth c nL D cA ρ A cells slots (MQ below (QC D cA ρ A (some (.int x)) σ τ) args s cells slots A) σ τ pc lv [.int x] := fun H locs ls hP hS hl => W.zret (v := x) C.1 C.2.1 C.2.2.1 (by rcases hx with rfl | rfl <;> rfl) (fun t ht hW => ⟨rfl, by rw [ht]; exact hP, hS.F ht⟩) hS.2.2 hd C.2.2.2.2.2.2.2.2.1
theorem Y_aret {x : Nat} {rn : String} (C : Ctx p l s m args meth c cc own nL (some (.object rn)) D cA ρ A) (hd : decode cc pc = .ok (.areturn, 1)) : Y p l e R s m args below meth c nL D cA ρ A cells slots (MQ below (QC D cA ρ A (some (.ref (ρ x))) σ τ) args s cells slots A) σ τ pc lv [.ref (ρ x)] := fun H locs ls hP hS hl => W.aret (v := .ref (ρ x)) C.1 C.2.1 C.2.2.1 (Or.inl ⟨_, rfl⟩) (Or.inr ⟨_, rfl⟩) (fun t ht hW => ⟨rfl, by rw [ht]; exact hP, hS.F ht⟩) hS.2.2 hd C.2.2.2.2.2.2.2.2.1
theorem Y_aretA {x : Nat} {rn : FieldType} (C : Ctx p l s m args meth c cc own nL (some (.array rn)) D cA ρ A) (hd : decode cc pc = .ok (.areturn, 1)) : Y p l e R s m args below meth c nL D cA ρ A cells slots (MQ below (QC D cA ρ A (some (.ref (ρ x))) σ τ) args s cells slots A) σ τ pc lv [.ref (ρ x)] := fun H locs ls hP hS hl => W.aret (v := .ref (ρ x)) C.1 C.2.1 C.2.2.1 (Or.inr ⟨_, rfl⟩) (Or.inr ⟨_, rfl⟩) (fun t ht hW => ⟨rfl, by rw [ht]; exact hP, hS.F ht⟩) hS.2.2 hd C.2.2.2.2.2.2.2.2.1
theorem Y_nret {rn : String} (C : Ctx p l s m args meth c cc own nL (some (.object rn)) D cA ρ A) (hd : decode cc pc = .ok (.areturn, 1)) : Y p l e R s m args below meth c nL D cA ρ A cells slots (MQ below (QC D cA ρ A (some .null) σ τ) args s cells slots A) σ τ pc lv [.null] := fun H locs ls hP hS hl => W.aret (v := .null) C.1 C.2.1 C.2.2.1 (Or.inl ⟨_, rfl⟩) (Or.inl rfl) (fun t ht hW => ⟨rfl, by rw [ht]; exact hP, hS.F ht⟩) hS.2.2 hd C.2.2.2.2.2.2.2.2.1
theorem Y_max (C : Ctx p l s m args meth c cc own nL ret D cA ρ A) {index : Nat} {x y : Int32} (hlink : Cond.methodLink own index Lib.Math.max.name ∈ WG) (hw : Cond.static Lib.Math.max.name ∈ WG ∧ Cond.initialized "java/lang/Math" ∈ WG ∧ Cond.code Lib.Math.max.name Lib.Math.max.code 2 (some .int) ∈ WG) (hr : 1 ≤ R.frames ∧ (st.map fun v => v.category).sum + 13 ≤ R.locals ∧ cells ≤ R.cells ∧ slots ≤ R.slots) (hd : decode cc pc = .ok (.invokestatic index, 3)) (k : Y p l e R s m args below meth c nL D cA ρ A cells slots Q σ τ (pc + 3) lv (.int (if x < y then y else x) :: st)) : Y p l e R s m args below meth c nL D cA ρ A cells slots Q σ τ pc lv (.int y :: .int x :: st) := fun H locs ls hP hS hl => va_mmax C.1 C.2.1 (C.2.2.2.1.trans hl.1.symm) C.2.2.2.2.1 (C.2.2.2.2.2.1 _ hlink) (C.2.2.2.2.2.1 _ hw.1) (C.2.2.2.2.2.1 _ hw.2.1) (C.2.2.2.2.2.1 _ hw.2.2) hr.1 hr.2.1 hr.2.2.1 hr.2.2.2 hd (k H locs ls hP hS hl)
theorem Y_min (C : Ctx p l s m args meth c cc own nL ret D cA ρ A) {index : Nat} {x y : Int32} (hlink : Cond.methodLink own index Lib.Math.min.name ∈ WG) (hw : Cond.static Lib.Math.min.name ∈ WG ∧ Cond.initialized "java/lang/Math" ∈ WG ∧ Cond.code Lib.Math.min.name Lib.Math.min.code 2 (some .int) ∈ WG) (hr : 1 ≤ R.frames ∧ (st.map fun v => v.category).sum + 13 ≤ R.locals ∧ cells ≤ R.cells ∧ slots ≤ R.slots) (hd : decode cc pc = .ok (.invokestatic index, 3)) (k : Y p l e R s m args below meth c nL D cA ρ A cells slots Q σ τ (pc + 3) lv (.int (if y < x then y else x) :: st)) : Y p l e R s m args below meth c nL D cA ρ A cells slots Q σ τ pc lv (.int y :: .int x :: st) := fun H locs ls hP hS hl => va_mmin C.1 C.2.1 (C.2.2.2.1.trans hl.1.symm) C.2.2.2.2.1 (C.2.2.2.2.2.1 _ hlink) (C.2.2.2.2.2.1 _ hw.1) (C.2.2.2.2.2.1 _ hw.2.1) (C.2.2.2.2.2.1 _ hw.2.2) hr.1 hr.2.1 hr.2.2.1 hr.2.2.2 hd (k H locs ls hP hS hl)
end YR
