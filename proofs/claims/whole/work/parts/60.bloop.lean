-- best first: the class's step
noncomputable def kyK (n : Nat) (s X : Nat → Int32) (sy : Int32) (A i : Nat) : Nat := ((bdV n s (kid n s X sy i) * 8 + frn n (kid n s X sy i)) * 2048 + (A + i)) * 262144 + pkN (kid n s X sy i) 6
theorem c_push1 {σ : Sg} {τ : Tg} {n K A g0 : Nat} {s X : Nat → Int32} {sy : Int32} {h : Nat → Nat} (hs : EqS (snap σ 1) s) (hg : Gd n s) (h9 : σ 57 9 = 1) (hX : Fx n X) (hc : ¬ cnt (frf X) n = 0) (hv : ∀ i, i < 6 → σ 70 i = X i) (h59 : σ 59 0 = nI K) (h591 : σ 59 1 = nI g0) (hK : K ≤ g0) (h11 : σ 57 11 = nI A) (hA : A + (chP n s X sy).1 ≤ 2048) (hg0 : g0 ≤ 720) (h7 : K + (chP n s X sy).1 ≤ 720) (hH : HP K h τ) (ho : ∀ i, i < (chP n s X sy).1 → σ 71 i = nI ((chP n s X sy).2 i)) : ∃ σ' τ' h', f_X5_expand_J46 57 1 (nI (chB n s X)) (nI (chP n s X sy).1) σ τ = some (σ', τ') ∧ Fr [57, 59, 61, 62, 63, 64, 65, 66, 70] σ σ' ∧ (∀ q, q ≠ 11 → σ' 57 q = σ 57 q) ∧ σ' 57 11 = nI (A + (chP n s X sy).1) ∧ σ' 59 0 = nI (K + (chP n s X sy).1) ∧ σ' 59 1 = nI (max g0 (K + (chP n s X sy).1)) ∧ HP (K + (chP n s X sy).1) h' τ' ∧ ∀ v, cv h' v (K + (chP n s X sy).1) = cv h v K + sN (fun i => if kyK n s X sy A i = v then 1 else 0) (chP n s X sy).1 := by
  have hn := hX.2.1
  obtain ⟨b1, b2, b3⟩ := br_ok (s := s) hn hc
  obtain ⟨p1, p2⟩ := chP_ok (n := n) (s := s) (X := X) (sy := sy) hn
  have hkid : ∀ i, i < (chP n s X sy).1 → Fx n (kid n s X sy i) := fun i hi => (kid_ok hX hc hi).1
  have hke : ∀ i, kid n s X sy i = upd X (chB n s X) (nI ((chP n s X sy).2 i)) := fun _ => rfl
  generalize (chP n s X sy).1 = C at *
  generalize chB n s X = b at *
  unfold f_X5_expand_J46
  obtain ⟨e, r1, h', r2, r3, r4, r5, r6, r7, r8⟩ := lo_tc (f := f_X5_expand_L49 (nI C) 57 (nI b) 1) (fun k st => ∃ h', st.1 = nI k ∧ Fr [57, 59, 61, 62, 63, 64, 65, 66, 70] σ st.2.1 ∧ (∀ q, q ≠ 11 → st.2.1 57 q = σ 57 q) ∧ st.2.1 57 11 = nI (A + k) ∧ st.2.1 59 0 = nI (K + k) ∧ st.2.1 59 1 = nI (max g0 (K + k)) ∧ (∀ q, q < 6 → q ≠ b → st.2.1 70 q = X q) ∧ HP (K + k) h' st.2.2 ∧ ∀ v, cv h' v (K + k) = cv h v K + sN (fun i => if kyK n s X sy A i = v then 1 else 0) k) C (fun e => ∃ h', Fr [57, 59, 61, 62, 63, 64, 65, 66, 70] σ e.1 ∧ (∀ q, q ≠ 11 → e.1 57 q = σ 57 q) ∧ e.1 57 11 = nI (A + C) ∧ e.1 59 0 = nI (K + C) ∧ e.1 59 1 = nI (max g0 (K + C)) ∧ HP (K + C) h' e.2 ∧ ∀ v, cv h' v (K + C) = cv h v K + sN (fun i => if kyK n s X sy A i = v then 1 else 0) C) (fun k st hk ⟨h', i1, i2, i3, i4, i5, i6, i7, i8, i9⟩ => by
    obtain ⟨k', σ', τ'⟩ := st
    dsimp only at i1 i2 i3 i4 i5 i6 i7 i8 i9
    subst i1
    have e9 : σ' 57 9 = 1 := by rw [i3 9 (by omega), h9]
    have e71 : σ' 71 k = nI ((chP n s X sy).2 k) := by rw [i2.at (by decide), ho _ (by omega)]
    obtain ⟨h2, τ2, σ2, j1, j2, j3, j4, j5, j6, j7, j8⟩ := c_admit1 (σ := si σ' 70 b (nI ((chP n s X sy).2 k))) (τ := τ') (X := kid n s X sy k) (N := K + k) (a := A + k) (g0 := max g0 (K + k)) (h := h') (by rw [snap_fr (σ := σ) (fun d hd => by rw [si_oth (by omega)]; exact i2 _ (fun z => by simp only [List.mem_cons, List.not_mem_nil, or_false] at z; omega))]; exact hs) hg (hkid k hk) (fun i hi => by
      rw [hke]
      by_cases c : i = b
      · rw [c, si_hit, pk_us]
      · rw [si_miss c, pk_un c, i7 i hi c]) (by rw [si_oth (by omega)]; exact e9) (by rw [si_oth (by omega)]; exact i4) (by omega) (by rw [si_oth (by omega)]; exact i5) (by rw [si_oth (by omega)]; exact i6) (by omega) (by omega) i8
    unfold f_X5_expand_L49
    dsimp only
    rw [if_neg (nI_ge hk (by omega)), if_neg (show ¬ σ' 57 9 = 0 by rw [e9]; decide)]
    unfold f_X5_expand_J77
    rw [show 57 + 14 = 71 from rfl, show 57 + 13 = 70 from rfl, it_71 (by omega)]
    simp only [obs]
    rw [e71, se_70 (by omega)]
    simp only [obs]
    rw [j1]
    simp only [obs]
    refine ⟨_, rfl, h2, nI_s k, ?_, fun q hq => ?_, ?_, ?_, ?_, fun q hq hqb => ?_, j7, fun v => ?_⟩
    · exact (i2.si (by decide)).tr j2 (by decide)
    · dsimp only
      rw [j3 q hq, si_oth (by omega)]
      exact i3 q hq
    · dsimp only
      rw [j4, Nat.add_assoc]
    · dsimp only
      rw [j5, Nat.add_assoc]
    · dsimp only
      rw [j6]
      congr 1
      omega
    · dsimp only
      rw [j2.at (by decide), si_miss hqb]
      exact i7 q hq hqb
    · rw [show K + (k + 1) = K + k + 1 from rfl, j8 v, i9 v]
      show _ = cv h v K + (sN (fun i => if kyK n s X sy A i = v then 1 else 0) k + if kyK n s X sy A k = v then 1 else 0)
      unfold kyK
      omega) (fun st ⟨h', i1, i2, i3, i4, i5, i6, i7, i8, i9⟩ => by
    obtain ⟨k', σ', τ'⟩ := st
    dsimp only at i1 i2 i3 i4 i5 i6 i7 i8 i9
    subst i1
    unfold f_X5_expand_L49
    dsimp only
    rw [if_pos (nI_le (Nat.le_refl _) (by omega))]
    exact ⟨_, rfl, h', i2, i3, i4, i5, i6, i8, i9⟩) (s := (0, σ, τ)) ⟨h, zl_0, Fr.rf, fun _ _ => rfl, h11, h59, by show σ 59 1 = _; rw [h591, Nat.max_eq_left (by omega)], fun q hq _ => hv q hq, hH, fun v => rfl⟩
  rw [r1]
  simp only [obs]
  rw [show 57 + 13 = 70 from rfl, se_70 (by omega)]
  simp only [obs]
  exact ⟨_, _, h', rfl, r2.si (by decide), fun q hq => by rw [si_oth (by omega)]; exact r3 q hq, by rw [si_oth (by omega)]; exact r4, by rw [si_oth (by omega)]; exact r5, by rw [si_oth (by omega)]; exact r6, r7, r8⟩
def cB (n : Nat) (s : Nat → Int32) (sy : Int32) (σ0 : Sg) (A k g : Nat) (Z : Nat → Nat → Int32) (W : Nat → Bool) (rs : Nat → Int32) (σ : Sg) (τ : Tg) : Prop := ∃ h, Fq σ0 σ ∧ RC σ rs ∧ σ 59 0 = nI k ∧ σ 59 1 = nI g ∧ σ 57 11 = nI A ∧ HP k h τ ∧ (∀ v, cv h v k = wS (fun j => if keyB n s Z j = v then 1 else 0) W A) ∧ σ 57 0 = 1 ∧ σ 57 8 = nI n ∧ σ 57 9 = 1 ∧ σ 57 10 = sy
theorem kyK_Z {n A q : Nat} {s X : Nat → Int32} {sy : Int32} {Z : Nat → Nat → Int32} : keyB n s (nZ n s sy A Z X) (A + q) = kyK n s X sy A q := by
  unfold keyB kyK nZ
  rw [if_neg (by omega), Nat.add_sub_cancel_left]
theorem keyB_Z {n A j : Nat} {s X : Nat → Int32} {sy : Int32} {Z : Nat → Nat → Int32} (h : j < A) : keyB n s (nZ n s sy A Z X) j = keyB n s Z j := by
  unfold keyB nZ
  rw [if_pos h]
theorem cw_new {n A C i v : Nat} {s X : Nat → Int32} {sy : Int32} {Z : Nat → Nat → Int32} {W : Nat → Bool} (hi : i < A) (hw : W i = true) : wS (fun j => if keyB n s (nZ n s sy A Z X) j = v then 1 else 0) (nW A i W) (A + C) + (if keyB n s Z i = v then 1 else 0) = wS (fun j => if keyB n s Z j = v then 1 else 0) W A + sN (fun q => if kyK n s X sy A q = v then 1 else 0) C := by
  have a := wS_del (f := fun j => if keyB n s Z j = v then 1 else 0) hi hw
  have e : wS (fun j => if keyB n s (nZ n s sy A Z X) j = v then 1 else 0) (nW A i W) (A + C) = wS (fun j => if keyB n s Z j = v then 1 else 0) (fun j => W j && decide (j ≠ i)) A + sN (fun q => if kyK n s X sy A q = v then 1 else 0) C := by
    unfold wS
    rw [sN_add]
    congr 1
    · refine sN_cong A (fun j hj => ?_)
      dsimp only
      rw [keyB_Z hj]
      unfold nW
      rw [if_pos hj]
    · refine sN_cong C (fun j hj => ?_)
      dsimp only
      rw [kyK_Z]
      unfold nW
      rw [if_neg (show ¬ A + j < A by omega), if_pos rfl]
  omega
theorem c_bstep {σ0 σ : Sg} {τ : Tg} {n t A k g : Nat} {s rs : Nat → Int32} {sy : Int32} {Z : Nat → Nat → Int32} {W : Nat → Bool} (hs : EqS (snap σ0 1) s) (hg : Gd n s) (h97 : σ0 97 = fct) (hV : BV n A k g Z W) (hk : 0 < k) (ht : t < 1957) (hB : cB n s sy σ0 A k g Z W rs σ τ) : ∃ σ' τ', f_X5_make_L15 57 1 (nI t, σ, τ) = some (.inl (nI (t + 1), σ', τ')) ∧ cB n s sy σ0 (A + cN n s (Z (bL n s Z W A)) rs sy) (k - 1 + cN n s (Z (bL n s Z W A)) rs sy) (max g (k - 1 + cN n s (Z (bL n s Z W A)) rs sy)) (nZ n s sy A Z (Z (bL n s Z W A))) (nW A (bL n s Z W A) W) (vsR n s (Z (bL n s Z W A)) rs) σ' τ' := by
  obtain ⟨hk7, hA7⟩ := BV_k hV
  obtain ⟨hl, hV'⟩ := b_step (s := s) (rs := rs) (sy := sy) hV hk
  obtain ⟨h, c1, c2, c3, c4, c5, c6, c7, c8, c9, c10, c11⟩ := hB
  obtain ⟨K, rfl⟩ : ∃ K, k = K + 1 := ⟨k - 1, by omega⟩
  rw [Nat.add_sub_cancel] at hV' ⊢
  -- the least key
  have hmin : h 0 = keyB n s Z (bL n s Z W A) := by
    have z0 : 1 ≤ cv h (h 0) (K + 1) := (cv_pos (K + 1)).mpr ⟨0, by omega, rfl⟩
    rw [c7 (h 0)] at z0
    obtain ⟨j, j1, j2, j3⟩ := wS_pos A z0
    have e : keyB n s Z j = h 0 := by
      by_cases q : keyB n s Z j = h 0
      · exact q
      · rw [if_neg q] at j3
        omega
    have hle := hl.2.2 j j1 j2
    have z1 : 1 ≤ cv h (keyB n s Z (bL n s Z W A)) (K + 1) := by
      rw [c7]
      have := wS_ge (f := fun j => if keyB n s Z j = keyB n s Z (bL n s Z W A) then 1 else 0) A hl.1 hl.2.1
      rw [if_pos rfl] at this
      exact this
    obtain ⟨q, q1, q2⟩ := (cv_pos (K + 1)).mp z1
    have := HO_min c6.1 q q1
    omega
  obtain ⟨l1, l2, l3⟩ := hl
  generalize bL n s Z W A = i at *
  have hX := hV.1 i l1
  have hn := hX.2.1
  obtain ⟨y1, y2, _, _⟩ := keyB_ok hg hX (show i < 2048 by omega)
  obtain ⟨h', τ1, t1, t2, t3⟩ := c_takeL c3 (by omega) c6
  rw [hmin] at t1 t3
  obtain ⟨σa, hσa⟩ : ∃ σa, wo (si σ 59 0 (nI K)) 70 0 6 (Z i) = σa := ⟨_, rfl⟩
  have fa : ∀ q, q ≠ 59 → q ≠ 70 → σa q = σ q := fun q q1 q2 => by rw [← hσa, wo_oth q2, si_oth q1]
  have hsn : ∀ {σ' : Sg}, Fq σ0 σ' → EqS (snap σ' 1) s := fun {σ'} h => by rw [snap_fr (σ := σ0) (fun d hd => h _ (by omega))]; exact hs
  have Fa : Fq σ0 σa := fun q hq => by rw [fa q (by omega) (by omega)]; exact c1 q hq
  obtain ⟨σb, b1, b2, b3, b4, b5⟩ := c_visit (σ := σa) (rs := rs) (hsn Fa) hg hX (fun i hi => by rw [← hσa, wo_in0 hi]) (by rw [Fa 97 (by omega), h97]) (RC_eq c2 (fa 57 (by omega) (by omega)) (fa 58 (by omega) (by omega)))
  have Fb' : Fq σ0 σb := fun q hq => by rw [b4 q (fun z => by simp only [List.mem_cons, List.not_mem_nil, or_false] at z; omega)]; exact Fa q hq
  have b57 : ∀ q, q ∉ [1, 3, 4, 5, 6] → σb 57 q = σ 57 q := fun q hq => by rw [b5 q hq, fa 57 (by omega) (by omega)]
  have b59 : σb 59 = si σ 59 0 (nI K) 59 := by rw [b4.at (by decide), ← hσa, wo_oth (by omega)]
  unfold f_X5_make_L15
  dsimp only
  rw [zl_1957, if_neg (nI_ge ht (by omega)), show 57 + 2 = 59 from rfl, if_neg (show ¬ σ 59 0 ≤ (0 : Int32) by rw [c3, zl_0]; exact nI_ge (by omega) (by omega)), if_neg (show ¬ σ 57 9 = 0 by rw [c10]; decide), t1]
  simp only [obs]
  unfold f_X5_make_J58
  rw [c_unpack hX.sml y2 y1]
  simp only [obs]
  rw [hσa, b1]
  simp only [obs]
  have hcnt : ∀ C v, cv h' v K + sN (fun q => if kyK n s (Z i) sy A q = v then 1 else 0) C = wS (fun j => if keyB n s (nZ n s sy A Z (Z i)) j = v then 1 else 0) (nW A i W) (A + C) := fun C v => by
    have a := cw_new (n := n) (A := A) (C := C) (i := i) (v := v) (s := s) (X := Z i) (sy := sy) (Z := Z) (W := W) l1 l2
    have b := t3 v
    rw [c7 v] at b
    omega
  by_cases c : vsG n s (Z i) rs = true
  · have hC : cN n s (Z i) rs sy = (chP n s (Z i) sy).1 := by unfold cN; rw [if_pos c]
    rw [if_pos c, if_neg (by decide), hC]
    rw [hC] at hV'
    have hk2 := BV_k hV'
    have hc := vsG_free c
    obtain ⟨σc, k1, k2, k3⟩ := c_kids (σ := σb) (τ := τ1) (sy := sy) (hsn Fb') hg hX (fun i hi => by rw [b4.at (by decide), ← hσa, wo_in0 hi]) b3 hc (by rw [b57 10 (by decide)]; exact c11)
    have Fc : Fq σ0 σc := fun q hq => by rw [k2 q (fun z => by simp only [List.mem_cons, List.not_mem_nil, or_false] at z; omega)]; exact Fb' q hq
    have c57 : σc 57 = σb 57 := k2.at (by decide)
    have c59 : σc 59 = σb 59 := k2.at (by decide)
    obtain ⟨σd, τd, hd, p1, p2, p3, p4, p5, p6, p7, p8⟩ := c_push1 (σ := σc) (τ := τ1) (n := n) (K := K) (A := A) (g0 := g) (s := s) (X := Z i) (sy := sy) (h := h') (hsn Fc) hg (by rw [c57, b57 9 (by decide)]; exact c10) hX hc (fun i hi => by rw [k2.at (by decide), b4.at (by decide), ← hσa, wo_in0 hi]) (by rw [c59, b59, si_hit]) (by rw [c59, b59, si_miss (by omega)]; exact c4) (by have := hV.2.2.2.2.1; omega) (by rw [c57, b57 11 (by decide)]; exact c5) (by omega) hV.2.2.2.2.2 (by omega) t2 k3
    rw [k1, p1]
    simp only [obs]
    unfold f_X5_make_J74
    have Fd : Fq σ0 σd := fun q hq => by rw [p2 q (fun z => by simp only [List.mem_cons, List.not_mem_nil, or_false] at z; omega)]; exact Fc q hq
    refine ⟨σd, τd, by rw [nI_s], hd, Fd, ?_, p5, p6, p4, p7, fun v => by rw [p8 v]; exact hcnt _ v, by rw [p3 0 (by omega), c57, b57 0 (by decide), c8], by rw [p3 8 (by omega), c57, b57 8 (by decide), c9], by rw [p3 9 (by omega), c57, b57 9 (by decide), c10], by rw [p3 10 (by omega), c57, b57 10 (by decide), c11]⟩
    obtain ⟨r0, r1, r2, r3, r4, r5⟩ := b2
    have e57 : ∀ q, q ≠ 11 → σd 57 q = σb 57 q := fun q hq => by rw [p3 q hq, c57]
    have e58 : σd 58 = σb 58 := by rw [p2.at (by decide), k2.at (by decide)]
    exact ⟨by rw [e57 3 (by omega)]; exact r0, fun z => by rw [e57 4 (by omega)]; exact r1 z, by rw [e57 1 (by omega)]; exact r2, by rw [e57 5 (by omega)]; exact r3, by rw [e57 6 (by omega)]; exact r4, fun j hj => by rw [e58]; exact r5 j hj⟩
  · have hC : cN n s (Z i) rs sy = 0 := by unfold cN; rw [if_neg c]
    rw [if_neg c, if_pos rfl, hC]
    unfold f_X5_make_J74
    have hgk := hV.2.2.2.2.1
    exact ⟨σb, τ1, by rw [nI_s], h', Fb', b2, by rw [b59, si_hit]; rfl, by rw [b59, si_miss (by omega), c4, Nat.max_eq_left (by omega)], by rw [b57 11 (by decide), c5]; rfl, t2, fun v => hcnt 0 v, by rw [b57 0 (by decide), c8], by rw [b57 8 (by decide), c9], by rw [b57 9 (by decide), c10], by rw [b57 10 (by decide), c11]⟩
