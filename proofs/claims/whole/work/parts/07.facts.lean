theorem q_rr {k v : Nat} {i : Int32} (h : (kd k).1 = 5) (hv : rald k i = some v) : kd v = (0, 6) := by
  obtain ⟨h1, rfl⟩ := rald_in hv
  have hk : k < 98 := kd_lt (kd_ln h) (by decide)
  have h2 : i.toNatClampNeg < ln k := Nat.not_le.mp fun q => h1 (Or.inr q)
  exact (by decide +kernel : ∀ k, k < 98 → (kd k).1 = 5 → ∀ j, j < ln k → kd (rr k j) = (0, 6)) k hk h _ h2
theorem q_fs_RX8_330 : Cond.fieldLink RX8 330 RX8 "FACTORIALS" "[I" ∈ WG := wg_of 451 (by decide +kernel) (by decide +kernel)
theorem q_ml_RX8_119 : Cond.methodLink RX8 119 yX8_item ∈ WG := wg_of 447 (by decide +kernel) (by decide +kernel)
theorem q_cd_yX8_item : Cond.code yX8_item cX8_item 2 (some .int) ∈ WG := wg_of 436 (by decide +kernel) (by decide +kernel)
theorem q_in_RX8 : Cond.initialized RX8 ∈ WG := wg_of 87 (by decide +kernel) (by decide +kernel)
theorem q_cw_yX8_item : Cw yX8_item cX8_item 2 (some .int) 2 := ⟨q_cd_yX8_item, q_in_RX8, by decide +kernel, by decide +kernel, by decide +kernel⟩
theorem q_st_yX8_item : Cond.static yX8_item ∈ WG := wg_of 435 (by decide +kernel) (by decide +kernel)
theorem q_ml_RX8_333 : Cond.methodLink RX8 333 Lib.Math.max.name ∈ WG := wg_of 453 (by decide +kernel) (by decide +kernel)
theorem q_st_max : Cond.static Lib.Math.max.name ∈ WG := wg_of 454 (by decide +kernel) (by decide +kernel)
theorem q_in_Math : Cond.initialized "java/lang/Math" ∈ WG := wg_of 102 (by decide +kernel) (by decide +kernel)
theorem q_cd_max : Cond.code Lib.Math.max.name Lib.Math.max.code 2 (some .int) ∈ WG := wg_of 455 (by decide +kernel) (by decide +kernel)
theorem q_lo_0 {k : Nat} (h : kd k = (0, 0)) : k < 97 := (by decide +kernel : ∀ k, k < 98 → kd k = (0, 0) → k < 97) k (kd_lt h (by decide)) h
theorem q_mn_RX0_63 : Cond.methodLinkNest RX0 63 yX8_factorial RX8 ∈ NW := nw_of 513 (by decide +kernel) (by decide +kernel)
theorem q_cd_yX8_factorial : Cond.code yX8_factorial cX8_factorial 1 (some .int) ∈ WG := wg_of 450 (by decide +kernel) (by decide +kernel)
theorem q_cw_yX8_factorial : Cw yX8_factorial cX8_factorial 1 (some .int) 1 := ⟨q_cd_yX8_factorial, q_in_RX8, by decide +kernel, by decide +kernel, by decide +kernel⟩
theorem q_st_yX8_factorial : Cond.static yX8_factorial ∈ WG := wg_of 449 (by decide +kernel) (by decide +kernel)
theorem q_fl_RX0_38 : Cond.fieldLink RX0 38 (TX0 4).1 (TX0 4).2.1 (TX0 4).2.2.1 ∈ WG := wg_of 193 (by decide +kernel) (by decide +kernel)
theorem q_us_0 : ∀ w ∈ u_ws RX0 TX0 6, w ∈ WG := fun w hw => List.mem_filter.mpr ⟨(by decide +kernel : ∀ w ∈ u_ws RX0 TX0 6, w ∈ lw_tbl) w hw, (by decide +kernel : ∀ w ∈ u_ws RX0 TX0 6, goodWord w = true) w hw⟩
theorem q_fi_RX0_38 : FI RX0 38 0 4 0 RX0 TX0 6 := ⟨rfl, by decide, by decide +kernel, q_fl_RX0_38, q_us_0⟩
theorem q_fp_RX0_38 : FP RX0 38 0 4 0 RX0 TX0 6 .int := ⟨q_fi_RX0_38, ⟨tyX0, tyX0_ok⟩, nmX0, by decide +kernel, by decide +kernel, by decide +kernel⟩
theorem q_fl_RX0_15 : Cond.fieldLink RX0 15 (TX0 5).1 (TX0 5).2.1 (TX0 5).2.2.1 ∈ WG := wg_of 194 (by decide +kernel) (by decide +kernel)
theorem q_fi_RX0_15 : FI RX0 15 0 5 2 RX0 TX0 6 := ⟨rfl, by decide, by decide +kernel, q_fl_RX0_15, q_us_0⟩
theorem q_kr_0_5 {k : Nat} (h : kd k = (0, 0)) : (kd (k + 2)).1 = 1 := (by decide +kernel : ∀ k, k < 98 → kd k = (0, 0) → (kd (k + 2)).1 = 1) k (kd_lt h (by decide)) h
theorem q_lr_0_5 {k : Nat} (h : kd k = (0, 0)) : k + 2 < 97 := (by decide +kernel : ∀ k, k < 98 → kd k = (0, 0) → k + 2 < 97) k (kd_lt h (by decide)) h
theorem q_lo_6 {k : Nat} (h : kd k = (0, 6)) : k < 97 := (by decide +kernel : ∀ k, k < 98 → kd k = (0, 6) → k < 97) k (kd_lt h (by decide)) h
theorem q_fl_RX6_24 : Cond.fieldLink RX6 24 (TX6 5).1 (TX6 5).2.1 (TX6 5).2.2.1 ∈ WG := wg_of 143 (by decide +kernel) (by decide +kernel)
theorem q_us_6 : ∀ w ∈ u_ws RX6 TX6 6, w ∈ WG := fun w hw => List.mem_filter.mpr ⟨(by decide +kernel : ∀ w ∈ u_ws RX6 TX6 6, w ∈ lw_tbl) w hw, (by decide +kernel : ∀ w ∈ u_ws RX6 TX6 6, goodWord w = true) w hw⟩
theorem q_fi_RX6_24 : FI RX6 24 6 5 5 RX6 TX6 6 := ⟨rfl, by decide, by decide +kernel, q_fl_RX6_24, q_us_6⟩
theorem q_kr_6_5 {k : Nat} (h : kd k = (0, 6)) : (kd (k + 5)).1 = 1 := (by decide +kernel : ∀ k, k < 98 → kd k = (0, 6) → (kd (k + 5)).1 = 1) k (kd_lt h (by decide)) h
theorem q_lr_6_5 {k : Nat} (h : kd k = (0, 6)) : k + 5 < 97 := (by decide +kernel : ∀ k, k < 98 → kd k = (0, 6) → k + 5 < 97) k (kd_lt h (by decide)) h
theorem q_mn_RX6_65 : Cond.methodLinkNest RX6 65 yX8_item RX8 ∈ NW := nw_of 434 (by decide +kernel) (by decide +kernel)
theorem q_fl_RX6_31 : Cond.fieldLink RX6 31 (TX6 0).1 (TX6 0).2.1 (TX6 0).2.2.1 ∈ WG := wg_of 124 (by decide +kernel) (by decide +kernel)
theorem q_fi_RX6_31 : FI RX6 31 6 0 0 RX6 TX6 6 := ⟨rfl, by decide, by decide +kernel, q_fl_RX6_31, q_us_6⟩
theorem q_ml_RX6_69 : Cond.methodLink RX6 69 yX6_isFree ∈ WG := wg_of 464 (by decide +kernel) (by decide +kernel)
theorem q_cd_yX6_isFree : Cond.code yX6_isFree cX6_isFree 2 (some .boolean) ∈ WG := wg_of 467 (by decide +kernel) (by decide +kernel)
theorem q_in_RX6 : Cond.initialized RX6 ∈ WG := wg_of 88 (by decide +kernel) (by decide +kernel)
theorem q_cw_yX6_isFree : Cw yX6_isFree cX6_isFree 2 (some .boolean) 1 := ⟨q_cd_yX6_isFree, q_in_RX6, by decide +kernel, by decide +kernel, by decide +kernel⟩
theorem q_im_yX6_isFree : Cond.instanceMethod yX6_isFree ∈ WG := wg_of 465 (by decide +kernel) (by decide +kernel)
theorem q_se_yX6_isFree : Cond.selects yX6_isFree.cls yX6_isFree yX6_isFree ∈ WG := wg_of 466 (by decide +kernel) (by decide +kernel)
theorem q_fl_RX6_18 : Cond.fieldLink RX6 18 (TX6 3).1 (TX6 3).2.1 (TX6 3).2.2.1 ∈ WG := wg_of 137 (by decide +kernel) (by decide +kernel)
theorem q_fi_RX6_18 : FI RX6 18 6 3 3 RX6 TX6 6 := ⟨rfl, by decide, by decide +kernel, q_fl_RX6_18, q_us_6⟩
theorem q_kr_6_3 {k : Nat} (h : kd k = (0, 6)) : (kd (k + 3)).1 = 1 := (by decide +kernel : ∀ k, k < 98 → kd k = (0, 6) → (kd (k + 3)).1 = 1) k (kd_lt h (by decide)) h
theorem q_lr_6_3 {k : Nat} (h : kd k = (0, 6)) : k + 3 < 97 := (by decide +kernel : ∀ k, k < 98 → kd k = (0, 6) → k + 3 < 97) k (kd_lt h (by decide)) h
theorem q_mn_RX6_57 : Cond.methodLinkNest RX6 57 yX8_at RX8 ∈ NW := nw_of 437 (by decide +kernel) (by decide +kernel)
theorem q_cd_yX8_at : Cond.code yX8_at cX8_at 4 (some .int) ∈ WG := wg_of 439 (by decide +kernel) (by decide +kernel)
theorem q_cw_yX8_at : Cw yX8_at cX8_at 4 (some .int) 3 := ⟨q_cd_yX8_at, q_in_RX8, by decide +kernel, by decide +kernel, by decide +kernel⟩
theorem q_st_yX8_at : Cond.static yX8_at ∈ WG := wg_of 438 (by decide +kernel) (by decide +kernel)
theorem q_fl_RX6_9 : Cond.fieldLink RX6 9 (TX6 1).1 (TX6 1).2.1 (TX6 1).2.2.1 ∈ WG := wg_of 130 (by decide +kernel) (by decide +kernel)
theorem q_fi_RX6_9 : FI RX6 9 6 1 1 RX6 TX6 6 := ⟨rfl, by decide, by decide +kernel, q_fl_RX6_9, q_us_6⟩
theorem q_kr_6_1 {k : Nat} (h : kd k = (0, 6)) : (kd (k + 1)).1 = 1 := (by decide +kernel : ∀ k, k < 98 → kd k = (0, 6) → (kd (k + 1)).1 = 1) k (kd_lt h (by decide)) h
theorem q_lr_6_1 {k : Nat} (h : kd k = (0, 6)) : k + 1 < 97 := (by decide +kernel : ∀ k, k < 98 → kd k = (0, 6) → k + 1 < 97) k (kd_lt h (by decide)) h
theorem q_fl_RX6_15 : Cond.fieldLink RX6 15 (TX6 2).1 (TX6 2).2.1 (TX6 2).2.2.1 ∈ WG := wg_of 133 (by decide +kernel) (by decide +kernel)
theorem q_fi_RX6_15 : FI RX6 15 6 2 2 RX6 TX6 6 := ⟨rfl, by decide, by decide +kernel, q_fl_RX6_15, q_us_6⟩
theorem q_kr_6_2 {k : Nat} (h : kd k = (0, 6)) : (kd (k + 2)).1 = 1 := (by decide +kernel : ∀ k, k < 98 → kd k = (0, 6) → (kd (k + 2)).1 = 1) k (kd_lt h (by decide)) h
theorem q_lr_6_2 {k : Nat} (h : kd k = (0, 6)) : k + 2 < 97 := (by decide +kernel : ∀ k, k < 98 → kd k = (0, 6) → k + 2 < 97) k (kd_lt h (by decide)) h
theorem q_ml_RX6_61 : Cond.methodLink RX6 61 yX6_partCost ∈ WG := wg_of 430 (by decide +kernel) (by decide +kernel)
theorem q_cd_yX6_partCost : Cond.code yX6_partCost cX6_partCost 7 (some .int) ∈ WG := wg_of 433 (by decide +kernel) (by decide +kernel)
theorem q_cw_yX6_partCost : Cw yX6_partCost cX6_partCost 7 (some .int) 1 := ⟨q_cd_yX6_partCost, q_in_RX6, by decide +kernel, by decide +kernel, by decide +kernel⟩
theorem q_im_yX6_partCost : Cond.instanceMethod yX6_partCost ∈ WG := wg_of 431 (by decide +kernel) (by decide +kernel)
theorem q_se_yX6_partCost : Cond.selects yX6_partCost.cls yX6_partCost yX6_partCost ∈ WG := wg_of 432 (by decide +kernel) (by decide +kernel)
theorem q_ml_RX8_187 : Cond.methodLink RX8 187 yX8_setItem ∈ WG := wg_of 498 (by decide +kernel) (by decide +kernel)
theorem q_cd_yX8_setItem : Cond.code yX8_setItem cX8_setItem 3 none ∈ WG := wg_of 500 (by decide +kernel) (by decide +kernel)
theorem q_cw_yX8_setItem : Cw yX8_setItem cX8_setItem 3 none 3 := ⟨q_cd_yX8_setItem, q_in_RX8, by decide +kernel, by decide +kernel, by decide +kernel⟩
theorem q_st_yX8_setItem : Cond.static yX8_setItem ∈ WG := wg_of 499 (by decide +kernel) (by decide +kernel)
theorem q_ml_RX8_145 : Cond.methodLink RX8 145 yX8_swap ∈ WG := wg_of 495 (by decide +kernel) (by decide +kernel)
theorem q_cd_yX8_swap : Cond.code yX8_swap cX8_swap 4 none ∈ WG := wg_of 497 (by decide +kernel) (by decide +kernel)
theorem q_cw_yX8_swap : Cw yX8_swap cX8_swap 4 none 3 := ⟨q_cd_yX8_swap, q_in_RX8, by decide +kernel, by decide +kernel, by decide +kernel⟩
theorem q_st_yX8_swap : Cond.static yX8_swap ∈ WG := wg_of 496 (by decide +kernel) (by decide +kernel)
theorem q_fl_RX0_18 : Cond.fieldLink RX0 18 (TX6 0).1 (TX6 0).2.1 (TX6 0).2.2.1 ∈ WG := wg_of 125 (by decide +kernel) (by decide +kernel)
theorem q_fi_RX0_18 : FI RX0 18 6 0 0 RX6 TX6 6 := ⟨rfl, by decide, by decide +kernel, q_fl_RX0_18, q_us_6⟩
theorem q_ml_RX0_24 : Cond.methodLink RX0 24 yX0_restart ∈ WG := wg_of 509 (by decide +kernel) (by decide +kernel)
theorem q_cd_yX0_restart : Cond.code yX0_restart cX0_restart 3 none ∈ WG := wg_of 512 (by decide +kernel) (by decide +kernel)
theorem q_in_RX0 : Cond.initialized RX0 ∈ WG := wg_of 90 (by decide +kernel) (by decide +kernel)
theorem q_cw_yX0_restart : Cw yX0_restart cX0_restart 3 none 1 := ⟨q_cd_yX0_restart, q_in_RX0, by decide +kernel, by decide +kernel, by decide +kernel⟩
theorem q_im_yX0_restart : Cond.instanceMethod yX0_restart ∈ WG := wg_of 511 (by decide +kernel) (by decide +kernel)
theorem q_se_yX0_restart : Cond.selects yX0_restart.cls yX0_restart yX0_restart ∈ WG := wg_of 1 (by decide +kernel) (by decide +kernel)
theorem q_fl_RX0_28 : Cond.fieldLink RX0 28 (TX0 0).1 (TX0 0).2.1 (TX0 0).2.2.1 ∈ WG := wg_of 186 (by decide +kernel) (by decide +kernel)
theorem q_fi_RX0_28 : FI RX0 28 0 0 0 RX0 TX0 6 := ⟨rfl, by decide, by decide +kernel, q_fl_RX0_28, q_us_0⟩
theorem q_fp_RX0_28 : FP RX0 28 0 0 0 RX0 TX0 6 .int := ⟨q_fi_RX0_28, ⟨tyX0, tyX0_ok⟩, nmX0, by decide +kernel, by decide +kernel, by decide +kernel⟩
theorem q_fl_RX0_31 : Cond.fieldLink RX0 31 (TX0 1).1 (TX0 1).2.1 (TX0 1).2.2.1 ∈ WG := wg_of 188 (by decide +kernel) (by decide +kernel)
theorem q_fi_RX0_31 : FI RX0 31 0 1 0 RX0 TX0 6 := ⟨rfl, by decide, by decide +kernel, q_fl_RX0_31, q_us_0⟩
theorem q_fp_RX0_31 : FP RX0 31 0 1 0 RX0 TX0 6 .int := ⟨q_fi_RX0_31, ⟨tyX0, tyX0_ok⟩, nmX0, by decide +kernel, by decide +kernel, by decide +kernel⟩
theorem q_ct_RX0_34 : Cond.constant RX0 34 (1000000 : Int32) ∈ WG := wg_of 514 (by decide +kernel) (by decide +kernel)
theorem q_fl_RX0_35 : Cond.fieldLink RX0 35 (TX0 2).1 (TX0 2).2.1 (TX0 2).2.2.1 ∈ WG := wg_of 190 (by decide +kernel) (by decide +kernel)
theorem q_fi_RX0_35 : FI RX0 35 0 2 0 RX0 TX0 6 := ⟨rfl, by decide, by decide +kernel, q_fl_RX0_35, q_us_0⟩
theorem q_fp_RX0_35 : FP RX0 35 0 2 0 RX0 TX0 6 .int := ⟨q_fi_RX0_35, ⟨tyX0, tyX0_ok⟩, nmX0, by decide +kernel, by decide +kernel, by decide +kernel⟩
theorem q_ml_RX0_41 : Cond.methodLink RX0 41 yX6_agrees ∈ WG := wg_of 515 (by decide +kernel) (by decide +kernel)
theorem q_cd_yX6_agrees : Cond.code yX6_agrees cX6_agrees 3 (some .boolean) ∈ WG := wg_of 518 (by decide +kernel) (by decide +kernel)
theorem q_cw_yX6_agrees : Cw yX6_agrees cX6_agrees 3 (some .boolean) 1 := ⟨q_cd_yX6_agrees, q_in_RX6, by decide +kernel, by decide +kernel, by decide +kernel⟩
theorem q_im_yX6_agrees : Cond.instanceMethod yX6_agrees ∈ WG := wg_of 516 (by decide +kernel) (by decide +kernel)
theorem q_se_yX6_agrees : Cond.selects yX6_agrees.cls yX6_agrees yX6_agrees ∈ WG := wg_of 517 (by decide +kernel) (by decide +kernel)
theorem q_fl_RX0_9 : Cond.fieldLink RX0 9 (TX0 3).1 (TX0 3).2.1 (TX0 3).2.2.1 ∈ WG := wg_of 192 (by decide +kernel) (by decide +kernel)
theorem q_fi_RX0_9 : FI RX0 9 0 3 1 RX0 TX0 6 := ⟨rfl, by decide, by decide +kernel, q_fl_RX0_9, q_us_0⟩
theorem q_kr_0_3 {k : Nat} (h : kd k = (0, 0)) : (kd (k + 1)).1 = 1 := (by decide +kernel : ∀ k, k < 98 → kd k = (0, 0) → (kd (k + 1)).1 = 1) k (kd_lt h (by decide)) h
theorem q_lr_0_3 {k : Nat} (h : kd k = (0, 0)) : k + 1 < 97 := (by decide +kernel : ∀ k, k < 98 → kd k = (0, 0) → k + 1 < 97) k (kd_lt h (by decide)) h
theorem q_mn_RX0_55 : Cond.methodLinkNest RX0 55 yX8_setItem RX8 ∈ NW := nw_of 521 (by decide +kernel) (by decide +kernel)
theorem q_mn_RX0_59 : Cond.methodLinkNest RX0 59 yX8_advance RX8 ∈ NW := nw_of 522 (by decide +kernel) (by decide +kernel)
theorem q_cd_yX8_advance : Cond.code yX8_advance cX8_advance 6 none ∈ WG := wg_of 524 (by decide +kernel) (by decide +kernel)
theorem q_cw_yX8_advance : Cw yX8_advance cX8_advance 6 none 2 := ⟨q_cd_yX8_advance, q_in_RX8, by decide +kernel, by decide +kernel, by decide +kernel⟩
theorem q_st_yX8_advance : Cond.static yX8_advance ∈ WG := wg_of 523 (by decide +kernel) (by decide +kernel)
theorem q_ml_RX0_45 : Cond.methodLink RX0 45 yX6_costOf ∈ WG := wg_of 519 (by decide +kernel) (by decide +kernel)
theorem q_cd_yX6_costOf : Cond.code yX6_costOf cX6_costOf 2 (some .int) ∈ WG := wg_of 429 (by decide +kernel) (by decide +kernel)
theorem q_cw_yX6_costOf : Cw yX6_costOf cX6_costOf 2 (some .int) 1 := ⟨q_cd_yX6_costOf, q_in_RX6, by decide +kernel, by decide +kernel, by decide +kernel⟩
theorem q_im_yX6_costOf : Cond.instanceMethod yX6_costOf ∈ WG := wg_of 427 (by decide +kernel) (by decide +kernel)
theorem q_se_yX6_costOf : Cond.selects yX6_costOf.cls yX6_costOf yX6_costOf ∈ WG := wg_of 428 (by decide +kernel) (by decide +kernel)
theorem q_ml_RX0_49 : Cond.methodLink RX0 49 Lib.Math.min.name ∈ WG := wg_of 520 (by decide +kernel) (by decide +kernel)
theorem q_st_min : Cond.static Lib.Math.min.name ∈ WG := wg_of 492 (by decide +kernel) (by decide +kernel)
theorem q_cd_min : Cond.code Lib.Math.min.name Lib.Math.min.code 2 (some .int) ∈ WG := wg_of 493 (by decide +kernel) (by decide +kernel)
theorem q_mn_RX0_67 : Cond.methodLinkNest RX0 67 yX8_item RX8 ∈ NW := nw_of 529 (by decide +kernel) (by decide +kernel)
theorem q_ml_RX6_73 : Cond.methodLink RX6 73 yX6_gainOf ∈ WG := wg_of 468 (by decide +kernel) (by decide +kernel)
theorem q_cd_yX6_gainOf : Cond.code yX6_gainOf cX6_gainOf 9 (some .int) ∈ WG := wg_of 471 (by decide +kernel) (by decide +kernel)
theorem q_cw_yX6_gainOf : Cw yX6_gainOf cX6_gainOf 9 (some .int) 3 := ⟨q_cd_yX6_gainOf, q_in_RX6, by decide +kernel, by decide +kernel, by decide +kernel⟩
theorem q_im_yX6_gainOf : Cond.instanceMethod yX6_gainOf ∈ WG := wg_of 469 (by decide +kernel) (by decide +kernel)
theorem q_se_yX6_gainOf : Cond.selects yX6_gainOf.cls yX6_gainOf yX6_gainOf ∈ WG := wg_of 470 (by decide +kernel) (by decide +kernel)
theorem q_ml_RX0_71 : Cond.methodLink RX0 71 yX6_isLocalOptimum ∈ WG := wg_of 554 (by decide +kernel) (by decide +kernel)
theorem q_cd_yX6_isLocalOptimum : Cond.code yX6_isLocalOptimum cX6_isLocalOptimum 4 (some .boolean) ∈ WG := wg_of 557 (by decide +kernel) (by decide +kernel)
theorem q_cw_yX6_isLocalOptimum : Cw yX6_isLocalOptimum cX6_isLocalOptimum 4 (some .boolean) 1 := ⟨q_cd_yX6_isLocalOptimum, q_in_RX6, by decide +kernel, by decide +kernel, by decide +kernel⟩
theorem q_im_yX6_isLocalOptimum : Cond.instanceMethod yX6_isLocalOptimum ∈ WG := wg_of 555 (by decide +kernel) (by decide +kernel)
theorem q_se_yX6_isLocalOptimum : Cond.selects yX6_isLocalOptimum.cls yX6_isLocalOptimum yX6_isLocalOptimum ∈ WG := wg_of 556 (by decide +kernel) (by decide +kernel)
theorem q_lo_1 {k : Nat} (h : kd k = (0, 1)) : k < 97 := (by decide +kernel : ∀ k, k < 98 → kd k = (0, 1) → k < 97) k (kd_lt h (by decide)) h
theorem q_fl_RX1_33 : Cond.fieldLink RX1 33 (TX1 2).1 (TX1 2).2.1 (TX1 2).2.2.1 ∈ WG := wg_of 218 (by decide +kernel) (by decide +kernel)
theorem q_us_1 : ∀ w ∈ u_ws RX1 TX1 10, w ∈ WG := fun w hw => List.mem_filter.mpr ⟨(by decide +kernel : ∀ w ∈ u_ws RX1 TX1 10, w ∈ lw_tbl) w hw, (by decide +kernel : ∀ w ∈ u_ws RX1 TX1 10, goodWord w = true) w hw⟩
theorem q_fi_RX1_33 : FI RX1 33 1 2 0 RX1 TX1 10 := ⟨rfl, by decide, by decide +kernel, q_fl_RX1_33, q_us_1⟩
theorem q_mn_RX1_77 : Cond.methodLinkNest RX1 77 yX8_takenBy RX8 ∈ NW := nw_of 576 (by decide +kernel) (by decide +kernel)
theorem q_cd_yX8_takenBy : Cond.code yX8_takenBy cX8_takenBy 6 (some .int) ∈ WG := wg_of 578 (by decide +kernel) (by decide +kernel)
theorem q_cw_yX8_takenBy : Cw yX8_takenBy cX8_takenBy 6 (some .int) 1 := ⟨q_cd_yX8_takenBy, q_in_RX8, by decide +kernel, by decide +kernel, by decide +kernel⟩
theorem q_st_yX8_takenBy : Cond.static yX8_takenBy ∈ WG := wg_of 577 (by decide +kernel) (by decide +kernel)
theorem q_fl_RX1_58 : Cond.fieldLink RX1 58 (TX1 4).1 (TX1 4).2.1 (TX1 4).2.2.1 ∈ WG := wg_of 220 (by decide +kernel) (by decide +kernel)
theorem q_fi_RX1_58 : FI RX1 58 1 4 0 RX1 TX1 10 := ⟨rfl, by decide, by decide +kernel, q_fl_RX1_58, q_us_1⟩
theorem q_fp_RX1_58 : FP RX1 58 1 4 0 RX1 TX1 10 .int := ⟨q_fi_RX1_58, ⟨tyX1, tyX1_ok⟩, nmX1, by decide +kernel, by decide +kernel, by decide +kernel⟩
theorem q_fl_RX1_48 : Cond.fieldLink RX1 48 (TX1 5).1 (TX1 5).2.1 (TX1 5).2.2.1 ∈ WG := wg_of 221 (by decide +kernel) (by decide +kernel)
theorem q_fi_RX1_48 : FI RX1 48 1 5 0 RX1 TX1 10 := ⟨rfl, by decide, by decide +kernel, q_fl_RX1_48, q_us_1⟩
theorem q_fp_RX1_48 : FP RX1 48 1 5 0 RX1 TX1 10 .int := ⟨q_fi_RX1_48, ⟨tyX1, tyX1_ok⟩, nmX1, by decide +kernel, by decide +kernel, by decide +kernel⟩
theorem q_fl_RX1_80 : Cond.fieldLink RX1 80 (TX1 0).1 (TX1 0).2.1 (TX1 0).2.2.1 ∈ WG := wg_of 214 (by decide +kernel) (by decide +kernel)
theorem q_fi_RX1_80 : FI RX1 80 1 0 0 RX1 TX1 10 := ⟨rfl, by decide, by decide +kernel, q_fl_RX1_80, q_us_1⟩
theorem q_fp_RX1_80 : FP RX1 80 1 0 0 RX1 TX1 10 .int := ⟨q_fi_RX1_80, ⟨tyX1, tyX1_ok⟩, nmX1, by decide +kernel, by decide +kernel, by decide +kernel⟩
theorem q_mn_RX1_83 : Cond.methodLinkNest RX1 83 yX8_item RX8 ∈ NW := nw_of 579 (by decide +kernel) (by decide +kernel)
theorem q_fl_RX1_15 : Cond.fieldLink RX1 15 (TX1 6).1 (TX1 6).2.1 (TX1 6).2.2.1 ∈ WG := wg_of 222 (by decide +kernel) (by decide +kernel)
theorem q_fi_RX1_15 : FI RX1 15 1 6 2 RX1 TX1 10 := ⟨rfl, by decide, by decide +kernel, q_fl_RX1_15, q_us_1⟩
theorem q_kr_1_6 {k : Nat} (h : kd k = (0, 1)) : (kd (k + 2)).1 = 1 := (by decide +kernel : ∀ k, k < 98 → kd k = (0, 1) → (kd (k + 2)).1 = 1) k (kd_lt h (by decide)) h
theorem q_lr_1_6 {k : Nat} (h : kd k = (0, 1)) : k + 2 < 97 := (by decide +kernel : ∀ k, k < 98 → kd k = (0, 1) → k + 2 < 97) k (kd_lt h (by decide)) h
theorem q_mn_RX1_87 : Cond.methodLinkNest RX1 87 yX8_setItem RX8 ∈ NW := nw_of 580 (by decide +kernel) (by decide +kernel)
theorem q_mn_RX1_61 : Cond.methodLinkNest RX1 61 yX8_has RX8 ∈ NW := nw_of 585 (by decide +kernel) (by decide +kernel)
theorem q_cd_yX8_has : Cond.code yX8_has cX8_has 2 (some .boolean) ∈ WG := wg_of 587 (by decide +kernel) (by decide +kernel)
theorem q_cw_yX8_has : Cw yX8_has cX8_has 2 (some .boolean) 2 := ⟨q_cd_yX8_has, q_in_RX8, by decide +kernel, by decide +kernel, by decide +kernel⟩
theorem q_st_yX8_has : Cond.static yX8_has ∈ WG := wg_of 586 (by decide +kernel) (by decide +kernel)
theorem q_mn_RX1_91 : Cond.methodLinkNest RX1 91 yX8_at RX8 ∈ NW := nw_of 588 (by decide +kernel) (by decide +kernel)
theorem q_mn_RX1_73 : Cond.methodLinkNest RX1 73 yX8_put RX8 ∈ NW := nw_of 589 (by decide +kernel) (by decide +kernel)
theorem q_cd_yX8_put : Cond.code yX8_put cX8_put 5 none ∈ WG := wg_of 591 (by decide +kernel) (by decide +kernel)
theorem q_cw_yX8_put : Cw yX8_put cX8_put 5 none 4 := ⟨q_cd_yX8_put, q_in_RX8, by decide +kernel, by decide +kernel, by decide +kernel⟩
theorem q_st_yX8_put : Cond.static yX8_put ∈ WG := wg_of 590 (by decide +kernel) (by decide +kernel)
theorem q_fl_RX1_95 : Cond.fieldLink RX1 95 (TX6 3).1 (TX6 3).2.1 (TX6 3).2.2.1 ∈ WG := wg_of 139 (by decide +kernel) (by decide +kernel)
theorem q_fi_RX1_95 : FI RX1 95 6 3 3 RX6 TX6 6 := ⟨rfl, by decide, by decide +kernel, q_fl_RX1_95, q_us_6⟩
theorem q_fl_RX1_45 : Cond.fieldLink RX1 45 (TX6 1).1 (TX6 1).2.1 (TX6 1).2.2.1 ∈ WG := wg_of 131 (by decide +kernel) (by decide +kernel)
theorem q_fi_RX1_45 : FI RX1 45 6 1 1 RX6 TX6 6 := ⟨rfl, by decide, by decide +kernel, q_fl_RX1_45, q_us_6⟩
theorem q_fl_RX1_55 : Cond.fieldLink RX1 55 (TX6 2).1 (TX6 2).2.1 (TX6 2).2.2.1 ∈ WG := wg_of 134 (by decide +kernel) (by decide +kernel)
theorem q_fi_RX1_55 : FI RX1 55 6 2 2 RX6 TX6 6 := ⟨rfl, by decide, by decide +kernel, q_fl_RX1_55, q_us_6⟩
theorem q_fl_RX1_18 : Cond.fieldLink RX1 18 (TX1 7).1 (TX1 7).2.1 (TX1 7).2.2.1 ∈ WG := wg_of 223 (by decide +kernel) (by decide +kernel)
theorem q_fi_RX1_18 : FI RX1 18 1 7 3 RX1 TX1 10 := ⟨rfl, by decide, by decide +kernel, q_fl_RX1_18, q_us_1⟩
theorem q_kr_1_7 {k : Nat} (h : kd k = (0, 1)) : (kd (k + 3)).1 = 1 := (by decide +kernel : ∀ k, k < 98 → kd k = (0, 1) → (kd (k + 3)).1 = 1) k (kd_lt h (by decide)) h
theorem q_lr_1_7 {k : Nat} (h : kd k = (0, 1)) : k + 3 < 97 := (by decide +kernel : ∀ k, k < 98 → kd k = (0, 1) → k + 3 < 97) k (kd_lt h (by decide)) h
theorem q_fl_RX1_21 : Cond.fieldLink RX1 21 (TX1 8).1 (TX1 8).2.1 (TX1 8).2.2.1 ∈ WG := wg_of 224 (by decide +kernel) (by decide +kernel)
theorem q_fi_RX1_21 : FI RX1 21 1 8 4 RX1 TX1 10 := ⟨rfl, by decide, by decide +kernel, q_fl_RX1_21, q_us_1⟩
theorem q_kr_1_8 {k : Nat} (h : kd k = (0, 1)) : (kd (k + 4)).1 = 1 := (by decide +kernel : ∀ k, k < 98 → kd k = (0, 1) → (kd (k + 4)).1 = 1) k (kd_lt h (by decide)) h
theorem q_lr_1_8 {k : Nat} (h : kd k = (0, 1)) : k + 4 < 97 := (by decide +kernel : ∀ k, k < 98 → kd k = (0, 1) → k + 4 < 97) k (kd_lt h (by decide)) h
theorem q_fl_RX1_27 : Cond.fieldLink RX1 27 (TX6 0).1 (TX6 0).2.1 (TX6 0).2.2.1 ∈ WG := wg_of 126 (by decide +kernel) (by decide +kernel)
theorem q_fi_RX1_27 : FI RX1 27 6 0 0 RX6 TX6 6 := ⟨rfl, by decide, by decide +kernel, q_fl_RX1_27, q_us_6⟩
theorem q_fp_RX1_33 : FP RX1 33 1 2 0 RX1 TX1 10 .int := ⟨q_fi_RX1_33, ⟨tyX1, tyX1_ok⟩, nmX1, by decide +kernel, by decide +kernel, by decide +kernel⟩
theorem q_ml_RX1_34 : Cond.methodLink RX1 34 yX6_partCost ∈ WG := wg_of 571 (by decide +kernel) (by decide +kernel)
theorem q_fl_RX1_38 : Cond.fieldLink RX1 38 (TX1 3).1 (TX1 3).2.1 (TX1 3).2.2.1 ∈ WG := wg_of 219 (by decide +kernel) (by decide +kernel)
theorem q_fi_RX1_38 : FI RX1 38 1 3 0 RX1 TX1 10 := ⟨rfl, by decide, by decide +kernel, q_fl_RX1_38, q_us_1⟩
theorem q_fp_RX1_38 : FP RX1 38 1 3 0 RX1 TX1 10 .int := ⟨q_fi_RX1_38, ⟨tyX1, tyX1_ok⟩, nmX1, by decide +kernel, by decide +kernel, by decide +kernel⟩
theorem q_ml_RX1_41 : Cond.methodLink RX1 41 yX1_collectFree ∈ WG := wg_of 572 (by decide +kernel) (by decide +kernel)
theorem q_cd_yX1_collectFree : Cond.code yX1_collectFree cX1_collectFree 3 none ∈ WG := wg_of 575 (by decide +kernel) (by decide +kernel)
theorem q_in_RX1 : Cond.initialized RX1 ∈ WG := wg_of 91 (by decide +kernel) (by decide +kernel)
theorem q_cw_yX1_collectFree : Cw yX1_collectFree cX1_collectFree 3 none 1 := ⟨q_cd_yX1_collectFree, q_in_RX1, by decide +kernel, by decide +kernel, by decide +kernel⟩
theorem q_im_yX1_collectFree : Cond.instanceMethod yX1_collectFree ∈ WG := wg_of 574 (by decide +kernel) (by decide +kernel)
theorem q_se_yX1_collectFree : Cond.selects yX1_collectFree.cls yX1_collectFree yX1_collectFree ∈ WG := wg_of 2 (by decide +kernel) (by decide +kernel)
theorem q_ml_RX1_51 : Cond.methodLink RX1 51 yX1_sortRow ∈ WG := wg_of 581 (by decide +kernel) (by decide +kernel)
theorem q_cd_yX1_sortRow : Cond.code yX1_sortRow cX1_sortRow 9 none ∈ WG := wg_of 584 (by decide +kernel) (by decide +kernel)
theorem q_cw_yX1_sortRow : Cw yX1_sortRow cX1_sortRow 9 none 4 := ⟨q_cd_yX1_sortRow, q_in_RX1, by decide +kernel, by decide +kernel, by decide +kernel⟩
theorem q_im_yX1_sortRow : Cond.instanceMethod yX1_sortRow ∈ WG := wg_of 583 (by decide +kernel) (by decide +kernel)
theorem q_se_yX1_sortRow : Cond.selects yX1_sortRow.cls yX1_sortRow yX1_sortRow ∈ WG := wg_of 3 (by decide +kernel) (by decide +kernel)
theorem q_fl_RX1_9 : Cond.fieldLink RX1 9 (TX1 1).1 (TX1 1).2.1 (TX1 1).2.2.1 ∈ WG := wg_of 216 (by decide +kernel) (by decide +kernel)
theorem q_fi_RX1_9 : FI RX1 9 1 1 1 RX1 TX1 10 := ⟨rfl, by decide, by decide +kernel, q_fl_RX1_9, q_us_1⟩
theorem q_kr_1_1 {k : Nat} (h : kd k = (0, 1)) : (kd (k + 1)).1 = 1 := (by decide +kernel : ∀ k, k < 98 → kd k = (0, 1) → (kd (k + 1)).1 = 1) k (kd_lt h (by decide)) h
theorem q_lr_1_1 {k : Nat} (h : kd k = (0, 1)) : k + 1 < 97 := (by decide +kernel : ∀ k, k < 98 → kd k = (0, 1) → k + 1 < 97) k (kd_lt h (by decide)) h
theorem q_ml_RX1_65 : Cond.methodLink RX1 65 yX1_linear ∈ WG := wg_of 592 (by decide +kernel) (by decide +kernel)
theorem q_cd_yX1_linear : Cond.code yX1_linear cX1_linear 8 (some .int) ∈ WG := wg_of 595 (by decide +kernel) (by decide +kernel)
theorem q_cw_yX1_linear : Cw yX1_linear cX1_linear 8 (some .int) 4 := ⟨q_cd_yX1_linear, q_in_RX1, by decide +kernel, by decide +kernel, by decide +kernel⟩
theorem q_im_yX1_linear : Cond.instanceMethod yX1_linear ∈ WG := wg_of 594 (by decide +kernel) (by decide +kernel)
theorem q_se_yX1_linear : Cond.selects yX1_linear.cls yX1_linear yX1_linear ∈ WG := wg_of 4 (by decide +kernel) (by decide +kernel)
theorem q_ml_RX1_69 : Cond.methodLink RX1 69 yX1_leastProduct ∈ WG := wg_of 596 (by decide +kernel) (by decide +kernel)
theorem q_cd_yX1_leastProduct : Cond.code yX1_leastProduct cX1_leastProduct 5 (some .int) ∈ WG := wg_of 599 (by decide +kernel) (by decide +kernel)
theorem q_cw_yX1_leastProduct : Cw yX1_leastProduct cX1_leastProduct 5 (some .int) 2 := ⟨q_cd_yX1_leastProduct, q_in_RX1, by decide +kernel, by decide +kernel, by decide +kernel⟩
theorem q_im_yX1_leastProduct : Cond.instanceMethod yX1_leastProduct ∈ WG := wg_of 598 (by decide +kernel) (by decide +kernel)
theorem q_se_yX1_leastProduct : Cond.selects yX1_leastProduct.cls yX1_leastProduct yX1_leastProduct ∈ WG := wg_of 5 (by decide +kernel) (by decide +kernel)
theorem q_ct_RJ6_265 : Cond.constant RJ6 265 (1431655765 : Int32) ∈ WG := wg_of 611 (by decide +kernel) (by decide +kernel)
theorem q_ct_RJ6_266 : Cond.constant RJ6 266 (858993459 : Int32) ∈ WG := wg_of 612 (by decide +kernel) (by decide +kernel)
theorem q_ct_RJ6_267 : Cond.constant RJ6 267 (252645135 : Int32) ∈ WG := wg_of 613 (by decide +kernel) (by decide +kernel)
theorem q_ml_RX1_102 : Cond.methodLink RX1 102 yJ6_bitCount_0f7a4 ∈ WG := wg_of 608 (by decide +kernel) (by decide +kernel)
theorem q_cd_yJ6_bitCount_0f7a4 : Cond.code yJ6_bitCount_0f7a4 cJ6_bitCount_0f7a4 1 (some .int) ∈ WG := wg_of 610 (by decide +kernel) (by decide +kernel)
theorem q_in_RJ6 : Cond.initialized RJ6 ∈ WG := wg_of 105 (by decide +kernel) (by decide +kernel)
theorem q_cw_yJ6_bitCount_0f7a4 : Cw yJ6_bitCount_0f7a4 cJ6_bitCount_0f7a4 1 (some .int) 1 := ⟨q_cd_yJ6_bitCount_0f7a4, q_in_RJ6, by decide +kernel, by decide +kernel, by decide +kernel⟩
theorem q_st_yJ6_bitCount_0f7a4 : Cond.static yJ6_bitCount_0f7a4 ∈ WG := wg_of 609 (by decide +kernel) (by decide +kernel)
theorem q_ct_RX1_107 : Cond.constant RX1 107 (1000000 : Int32) ∈ WG := wg_of 614 (by decide +kernel) (by decide +kernel)
theorem q_fl_RX1_24 : Cond.fieldLink RX1 24 (TX1 9).1 (TX1 9).2.1 (TX1 9).2.2.1 ∈ WG := wg_of 225 (by decide +kernel) (by decide +kernel)
theorem q_fi_RX1_24 : FI RX1 24 1 9 5 RX1 TX1 10 := ⟨rfl, by decide, by decide +kernel, q_fl_RX1_24, q_us_1⟩
theorem q_kr_1_9 {k : Nat} (h : kd k = (0, 1)) : (kd (k + 5)).1 = 1 := (by decide +kernel : ∀ k, k < 98 → kd k = (0, 1) → (kd (k + 5)).1 = 1) k (kd_lt h (by decide)) h
theorem q_lr_1_9 {k : Nat} (h : kd k = (0, 1)) : k + 5 < 97 := (by decide +kernel : ∀ k, k < 98 → kd k = (0, 1) → k + 5 < 97) k (kd_lt h (by decide)) h
theorem q_ml_RX1_108 : Cond.methodLink RX1 108 Lib.Math.min.name ∈ WG := wg_of 615 (by decide +kernel) (by decide +kernel)
theorem q_ml_RX1_98 : Cond.methodLink RX1 98 yX1_leastSum ∈ WG := wg_of 604 (by decide +kernel) (by decide +kernel)
theorem q_cd_yX1_leastSum : Cond.code yX1_leastSum cX1_leastSum 5 (some .int) ∈ WG := wg_of 607 (by decide +kernel) (by decide +kernel)
theorem q_cw_yX1_leastSum : Cw yX1_leastSum cX1_leastSum 5 (some .int) 1 := ⟨q_cd_yX1_leastSum, q_in_RX1, by decide +kernel, by decide +kernel, by decide +kernel⟩
theorem q_im_yX1_leastSum : Cond.instanceMethod yX1_leastSum ∈ WG := wg_of 606 (by decide +kernel) (by decide +kernel)
theorem q_se_yX1_leastSum : Cond.selects yX1_leastSum.cls yX1_leastSum yX1_leastSum ∈ WG := wg_of 6 (by decide +kernel) (by decide +kernel)
theorem q_ml_RX1_113 : Cond.methodLink RX1 113 Lib.Math.max.name ∈ WG := wg_of 628 (by decide +kernel) (by decide +kernel)
theorem q_ml_RX1_116 : Cond.methodLink RX1 116 yX1_regretOf ∈ WG := wg_of 624 (by decide +kernel) (by decide +kernel)
theorem q_cd_yX1_regretOf : Cond.code yX1_regretOf cX1_regretOf 6 (some .int) ∈ WG := wg_of 627 (by decide +kernel) (by decide +kernel)
theorem q_cw_yX1_regretOf : Cw yX1_regretOf cX1_regretOf 6 (some .int) 1 := ⟨q_cd_yX1_regretOf, q_in_RX1, by decide +kernel, by decide +kernel, by decide +kernel⟩
theorem q_im_yX1_regretOf : Cond.instanceMethod yX1_regretOf ∈ WG := wg_of 625 (by decide +kernel) (by decide +kernel)
theorem q_se_yX1_regretOf : Cond.selects yX1_regretOf.cls yX1_regretOf yX1_regretOf ∈ WG := wg_of 626 (by decide +kernel) (by decide +kernel)
theorem q_lo_2 {k : Nat} (h : kd k = (0, 2)) : k < 97 := (by decide +kernel : ∀ k, k < 98 → kd k = (0, 2) → k < 97) k (kd_lt h (by decide)) h
theorem q_fl_RX2_11 : Cond.fieldLink RX2 11 (TX2 2).1 (TX2 2).2.1 (TX2 2).2.2.1 ∈ WG := wg_of 172 (by decide +kernel) (by decide +kernel)
theorem q_us_2 : ∀ w ∈ u_ws RX2 TX2 3, w ∈ WG := fun w hw => List.mem_filter.mpr ⟨(by decide +kernel : ∀ w ∈ u_ws RX2 TX2 3, w ∈ lw_tbl) w hw, (by decide +kernel : ∀ w ∈ u_ws RX2 TX2 3, goodWord w = true) w hw⟩
theorem q_fi_RX2_11 : FI RX2 11 2 2 1 RX2 TX2 3 := ⟨rfl, by decide, by decide +kernel, q_fl_RX2_11, q_us_2⟩
theorem q_kr_2_2 {k : Nat} (h : kd k = (0, 2)) : (kd (k + 1)).1 = 5 := (by decide +kernel : ∀ k, k < 98 → kd k = (0, 2) → (kd (k + 1)).1 = 5) k (kd_lt h (by decide)) h
theorem q_fp_RX6_31 : FP RX6 31 6 0 0 RX6 TX6 6 .int := ⟨q_fi_RX6_31, ⟨tyX6, tyX6_ok⟩, nmX6, by decide +kernel, by decide +kernel, by decide +kernel⟩
theorem q_ml_RX6_35 : Cond.methodLink RX6 35 arraycopyName ∈ WG := wg_of 488 (by decide +kernel) (by decide +kernel)
theorem q_nat_ac : Cond.native arraycopyName ∈ WG := wg_of 490 (by decide +kernel) (by decide +kernel)
theorem q_st_ac : Cond.static arraycopyName ∈ WG := wg_of 489 (by decide +kernel) (by decide +kernel)
theorem q_in_System : Cond.initialized "java/lang/System" ∈ WG := wg_of 101 (by decide +kernel) (by decide +kernel)
theorem q_fl_RX6_21 : Cond.fieldLink RX6 21 (TX6 4).1 (TX6 4).2.1 (TX6 4).2.2.1 ∈ WG := wg_of 141 (by decide +kernel) (by decide +kernel)
theorem q_fi_RX6_21 : FI RX6 21 6 4 4 RX6 TX6 6 := ⟨rfl, by decide, by decide +kernel, q_fl_RX6_21, q_us_6⟩
theorem q_kr_6_4 {k : Nat} (h : kd k = (0, 6)) : (kd (k + 4)).1 = 1 := (by decide +kernel : ∀ k, k < 98 → kd k = (0, 6) → (kd (k + 4)).1 = 1) k (kd_lt h (by decide)) h
theorem q_lr_6_4 {k : Nat} (h : kd k = (0, 6)) : k + 4 < 97 := (by decide +kernel : ∀ k, k < 98 → kd k = (0, 6) → k + 4 < 97) k (kd_lt h (by decide)) h
theorem q_fl_RX2_18 : Cond.fieldLink RX2 18 (TX2 1).1 (TX2 1).2.1 (TX2 1).2.2.1 ∈ WG := wg_of 171 (by decide +kernel) (by decide +kernel)
theorem q_fi_RX2_18 : FI RX2 18 2 1 0 RX2 TX2 3 := ⟨rfl, by decide, by decide +kernel, q_fl_RX2_18, q_us_2⟩
theorem q_ml_RX2_22 : Cond.methodLink RX2 22 yX2_record ∈ WG := wg_of 480 (by decide +kernel) (by decide +kernel)
theorem q_cd_yX2_record : Cond.code yX2_record cX2_record 2 (some (.object "AssignmentWorkbench$State")) ∈ WG := wg_of 483 (by decide +kernel) (by decide +kernel)
theorem q_in_RX2 : Cond.initialized RX2 ∈ WG := wg_of 89 (by decide +kernel) (by decide +kernel)
theorem q_cw_yX2_record : Cw yX2_record cX2_record 2 (some (.object "AssignmentWorkbench$State")) 1 := ⟨q_cd_yX2_record, q_in_RX2, by decide +kernel, by decide +kernel, by decide +kernel⟩
theorem q_im_yX2_record : Cond.instanceMethod yX2_record ∈ WG := wg_of 482 (by decide +kernel) (by decide +kernel)
theorem q_se_yX2_record : Cond.selects yX2_record.cls yX2_record yX2_record ∈ WG := wg_of 0 (by decide +kernel) (by decide +kernel)
theorem q_fp_RX2_18 : FP RX2 18 2 1 0 RX2 TX2 3 .int := ⟨q_fi_RX2_18, ⟨tyX2, tyX2_ok⟩, nmX2, by decide +kernel, by decide +kernel, by decide +kernel⟩
theorem q_fl_RX2_30 : Cond.fieldLink RX2 30 (TX2 0).1 (TX2 0).2.1 (TX2 0).2.2.1 ∈ WG := wg_of 169 (by decide +kernel) (by decide +kernel)
theorem q_fi_RX2_30 : FI RX2 30 2 0 0 RX2 TX2 3 := ⟨rfl, by decide, by decide +kernel, q_fl_RX2_30, q_us_2⟩
theorem q_ml_RX2_33 : Cond.methodLink RX2 33 Lib.Math.min.name ∈ WG := wg_of 491 (by decide +kernel) (by decide +kernel)
theorem q_fp_RX2_30 : FP RX2 30 2 0 0 RX2 TX2 3 .int := ⟨q_fi_RX2_30, ⟨tyX2, tyX2_ok⟩, nmX2, by decide +kernel, by decide +kernel, by decide +kernel⟩
theorem q_ml_RX2_26 : Cond.methodLink RX2 26 yX6_copyFrom ∈ WG := wg_of 484 (by decide +kernel) (by decide +kernel)
theorem q_cd_yX6_copyFrom : Cond.code yX6_copyFrom cX6_copyFrom 2 none ∈ WG := wg_of 487 (by decide +kernel) (by decide +kernel)
theorem q_cw_yX6_copyFrom : Cw yX6_copyFrom cX6_copyFrom 2 none 1 := ⟨q_cd_yX6_copyFrom, q_in_RX6, by decide +kernel, by decide +kernel, by decide +kernel⟩
theorem q_im_yX6_copyFrom : Cond.instanceMethod yX6_copyFrom ∈ WG := wg_of 485 (by decide +kernel) (by decide +kernel)
theorem q_se_yX6_copyFrom : Cond.selects yX6_copyFrom.cls yX6_copyFrom yX6_copyFrom ∈ WG := wg_of 486 (by decide +kernel) (by decide +kernel)
theorem q_ml_RX2_39 : Cond.methodLink RX2 39 Lib.Math.max.name ∈ WG := wg_of 1137 (by decide +kernel) (by decide +kernel)
theorem q_lo_3 {k : Nat} (h : kd k = (0, 3)) : k < 97 := (by decide +kernel : ∀ k, k < 98 → kd k = (0, 3) → k < 97) k (kd_lt h (by decide)) h
theorem q_fl_RX3_15 : Cond.fieldLink RX3 15 (TX3 0).1 (TX3 0).2.1 (TX3 0).2.2.1 ∈ WG := wg_of 284 (by decide +kernel) (by decide +kernel)
theorem q_us_3 : ∀ w ∈ u_ws RX3 TX3 3, w ∈ WG := fun w hw => List.mem_filter.mpr ⟨(by decide +kernel : ∀ w ∈ u_ws RX3 TX3 3, w ∈ lw_tbl) w hw, (by decide +kernel : ∀ w ∈ u_ws RX3 TX3 3, goodWord w = true) w hw⟩
theorem q_fi_RX3_15 : FI RX3 15 3 0 0 RX3 TX3 3 := ⟨rfl, by decide, by decide +kernel, q_fl_RX3_15, q_us_3⟩
theorem q_fp_RX3_15 : FP RX3 15 3 0 0 RX3 TX3 3 .int := ⟨q_fi_RX3_15, ⟨tyX3, tyX3_ok⟩, nmX3, by decide +kernel, by decide +kernel, by decide +kernel⟩
theorem q_fl_RX3_19 : Cond.fieldLink RX3 19 (TX3 1).1 (TX3 1).2.1 (TX3 1).2.2.1 ∈ WG := wg_of 286 (by decide +kernel) (by decide +kernel)
theorem q_fi_RX3_19 : FI RX3 19 3 1 0 RX3 TX3 3 := ⟨rfl, by decide, by decide +kernel, q_fl_RX3_19, q_us_3⟩
theorem q_fp_RX3_19 : FP RX3 19 3 1 0 RX3 TX3 3 .int := ⟨q_fi_RX3_19, ⟨tyX3, tyX3_ok⟩, nmX3, by decide +kernel, by decide +kernel, by decide +kernel⟩
theorem q_fl_RX3_9 : Cond.fieldLink RX3 9 (TX3 2).1 (TX3 2).2.1 (TX3 2).2.2.1 ∈ WG := wg_of 288 (by decide +kernel) (by decide +kernel)
theorem q_fi_RX3_9 : FI RX3 9 3 2 1 RX3 TX3 3 := ⟨rfl, by decide, by decide +kernel, q_fl_RX3_9, q_us_3⟩
theorem q_kr_3_2 {k : Nat} (h : kd k = (0, 3)) : (kd (k + 1)).1 = 2 := (by decide +kernel : ∀ k, k < 98 → kd k = (0, 3) → (kd (k + 1)).1 = 2) k (kd_lt h (by decide)) h
theorem q_lr_3_2 {k : Nat} (h : kd k = (0, 3)) : k + 1 < 97 := (by decide +kernel : ∀ k, k < 98 → kd k = (0, 3) → k + 1 < 97) k (kd_lt h (by decide)) h
theorem q_ml_RX3_22 : Cond.methodLink RX3 22 yX3_setNode ∈ WG := wg_of 688 (by decide +kernel) (by decide +kernel)
theorem q_cd_yX3_setNode : Cond.code yX3_setNode cX3_setNode 4 none ∈ WG := wg_of 691 (by decide +kernel) (by decide +kernel)
theorem q_in_RX3 : Cond.initialized RX3 ∈ WG := wg_of 94 (by decide +kernel) (by decide +kernel)
theorem q_cw_yX3_setNode : Cw yX3_setNode cX3_setNode 4 none 2 := ⟨q_cd_yX3_setNode, q_in_RX3, by decide +kernel, by decide +kernel, by decide +kernel⟩
theorem q_im_yX3_setNode : Cond.instanceMethod yX3_setNode ∈ WG := wg_of 690 (by decide +kernel) (by decide +kernel)
theorem q_se_yX3_setNode : Cond.selects yX3_setNode.cls yX3_setNode yX3_setNode ∈ WG := wg_of 13 (by decide +kernel) (by decide +kernel)
theorem q_ml_RX3_26 : Cond.methodLink RX3 26 Lib.Math.max.name ∈ WG := wg_of 702 (by decide +kernel) (by decide +kernel)
theorem q_ml_RX3_32 : Cond.methodLink RX3 32 yX3_node ∈ WG := wg_of 698 (by decide +kernel) (by decide +kernel)
theorem q_cd_yX3_node : Cond.code yX3_node cX3_node 2 (some .long) ∈ WG := wg_of 701 (by decide +kernel) (by decide +kernel)
theorem q_cw_yX3_node : Cw yX3_node cX3_node 2 (some .long) 1 := ⟨q_cd_yX3_node, q_in_RX3, by decide +kernel, by decide +kernel, by decide +kernel⟩
theorem q_im_yX3_node : Cond.instanceMethod yX3_node ∈ WG := wg_of 700 (by decide +kernel) (by decide +kernel)
theorem q_se_yX3_node : Cond.selects yX3_node.cls yX3_node yX3_node ∈ WG := wg_of 14 (by decide +kernel) (by decide +kernel)
theorem q_ml_RX3_36 : Cond.methodLink RX3 36 yX3_takeLast ∈ WG := wg_of 707 (by decide +kernel) (by decide +kernel)
theorem q_cd_yX3_takeLast : Cond.code yX3_takeLast cX3_takeLast 1 (some .long) ∈ WG := wg_of 710 (by decide +kernel) (by decide +kernel)
theorem q_cw_yX3_takeLast : Cw yX3_takeLast cX3_takeLast 1 (some .long) 0 := ⟨q_cd_yX3_takeLast, q_in_RX3, by decide +kernel, by decide +kernel, by decide +kernel⟩
theorem q_im_yX3_takeLast : Cond.instanceMethod yX3_takeLast ∈ WG := wg_of 708 (by decide +kernel) (by decide +kernel)
theorem q_se_yX3_takeLast : Cond.selects yX3_takeLast.cls yX3_takeLast yX3_takeLast ∈ WG := wg_of 709 (by decide +kernel) (by decide +kernel)
theorem q_ml_RX3_40 : Cond.methodLink RX3 40 yX3_lesserChild ∈ WG := wg_of 711 (by decide +kernel) (by decide +kernel)
theorem q_cd_yX3_lesserChild : Cond.code yX3_lesserChild cX3_lesserChild 3 (some .int) ∈ WG := wg_of 714 (by decide +kernel) (by decide +kernel)
theorem q_cw_yX3_lesserChild : Cw yX3_lesserChild cX3_lesserChild 3 (some .int) 1 := ⟨q_cd_yX3_lesserChild, q_in_RX3, by decide +kernel, by decide +kernel, by decide +kernel⟩
theorem q_im_yX3_lesserChild : Cond.instanceMethod yX3_lesserChild ∈ WG := wg_of 713 (by decide +kernel) (by decide +kernel)
theorem q_se_yX3_lesserChild : Cond.selects yX3_lesserChild.cls yX3_lesserChild yX3_lesserChild ∈ WG := wg_of 15 (by decide +kernel) (by decide +kernel)
theorem q_lo_4 {k : Nat} (h : kd k = (0, 4)) : k < 97 := (by decide +kernel : ∀ k, k < 98 → kd k = (0, 4) → k < 97) k (kd_lt h (by decide)) h
theorem q_fl_RX4_15 : Cond.fieldLink RX4 15 (TX4 0).1 (TX4 0).2.1 (TX4 0).2.2.1 ∈ WG := wg_of 362 (by decide +kernel) (by decide +kernel)
theorem q_us_4 : ∀ w ∈ u_ws RX4 TX4 8, w ∈ WG := fun w hw => List.mem_filter.mpr ⟨(by decide +kernel : ∀ w ∈ u_ws RX4 TX4 8, w ∈ lw_tbl) w hw, (by decide +kernel : ∀ w ∈ u_ws RX4 TX4 8, goodWord w = true) w hw⟩
theorem q_fi_RX4_15 : FI RX4 15 4 0 0 RX4 TX4 8 := ⟨rfl, by decide, by decide +kernel, q_fl_RX4_15, q_us_4⟩
theorem q_fl_RX4_9 : Cond.fieldLink RX4 9 (TX4 7).1 (TX4 7).2.1 (TX4 7).2.2.1 ∈ WG := wg_of 374 (by decide +kernel) (by decide +kernel)
theorem q_fi_RX4_9 : FI RX4 9 4 7 1 RX4 TX4 8 := ⟨rfl, by decide, by decide +kernel, q_fl_RX4_9, q_us_4⟩
theorem q_kr_4_7 {k : Nat} (h : kd k = (0, 4)) : (kd (k + 1)).1 = 3 := (by decide +kernel : ∀ k, k < 98 → kd k = (0, 4) → (kd (k + 1)).1 = 3) k (kd_lt h (by decide)) h
theorem q_lr_4_7 {k : Nat} (h : kd k = (0, 4)) : k + 1 < 97 := (by decide +kernel : ∀ k, k < 98 → kd k = (0, 4) → k + 1 < 97) k (kd_lt h (by decide)) h
theorem q_fp_RX4_15 : FP RX4 15 4 0 0 RX4 TX4 8 .int := ⟨q_fi_RX4_15, ⟨tyX4, tyX4_ok⟩, nmX4, by decide +kernel, by decide +kernel, by decide +kernel⟩
theorem q_fl_RX4_19 : Cond.fieldLink RX4 19 (TX4 5).1 (TX4 5).2.1 (TX4 5).2.2.1 ∈ WG := wg_of 372 (by decide +kernel) (by decide +kernel)
theorem q_fi_RX4_19 : FI RX4 19 4 5 0 RX4 TX4 8 := ⟨rfl, by decide, by decide +kernel, q_fl_RX4_19, q_us_4⟩
theorem q_fp_RX4_19 : FP RX4 19 4 5 0 RX4 TX4 8 .int := ⟨q_fi_RX4_19, ⟨tyX4, tyX4_ok⟩, nmX4, by decide +kernel, by decide +kernel, by decide +kernel⟩
theorem q_fl_RX4_22 : Cond.fieldLink RX4 22 (TX4 6).1 (TX4 6).2.1 (TX4 6).2.2.1 ∈ WG := wg_of 373 (by decide +kernel) (by decide +kernel)
theorem q_fi_RX4_22 : FI RX4 22 4 6 0 RX4 TX4 8 := ⟨rfl, by decide, by decide +kernel, q_fl_RX4_22, q_us_4⟩
theorem q_fp_RX4_22 : FP RX4 22 4 6 0 RX4 TX4 8 .boolean := ⟨q_fi_RX4_22, ⟨tyX4, tyX4_ok⟩, nmX4, by decide +kernel, by decide +kernel, by decide +kernel⟩
theorem q_ml_RX4_61 : Cond.methodLink RX4 61 yX4_here ∈ WG := wg_of 765 (by decide +kernel) (by decide +kernel)
theorem q_cd_yX4_here : Cond.code yX4_here cX4_here 1 (some .int) ∈ WG := wg_of 768 (by decide +kernel) (by decide +kernel)
theorem q_in_RX4 : Cond.initialized RX4 ∈ WG := wg_of 95 (by decide +kernel) (by decide +kernel)
theorem q_cw_yX4_here : Cw yX4_here cX4_here 1 (some .int) 0 := ⟨q_cd_yX4_here, q_in_RX4, by decide +kernel, by decide +kernel, by decide +kernel⟩
theorem q_im_yX4_here : Cond.instanceMethod yX4_here ∈ WG := wg_of 767 (by decide +kernel) (by decide +kernel)
theorem q_se_yX4_here : Cond.selects yX4_here.cls yX4_here yX4_here ∈ WG := wg_of 21 (by decide +kernel) (by decide +kernel)
theorem q_ml_RX4_33 : Cond.methodLink RX4 33 yX4_skipSpaces ∈ WG := wg_of 761 (by decide +kernel) (by decide +kernel)
theorem q_cd_yX4_skipSpaces : Cond.code yX4_skipSpaces cX4_skipSpaces 1 none ∈ WG := wg_of 764 (by decide +kernel) (by decide +kernel)
theorem q_cw_yX4_skipSpaces : Cw yX4_skipSpaces cX4_skipSpaces 1 none 0 := ⟨q_cd_yX4_skipSpaces, q_in_RX4, by decide +kernel, by decide +kernel, by decide +kernel⟩
theorem q_im_yX4_skipSpaces : Cond.instanceMethod yX4_skipSpaces ∈ WG := wg_of 763 (by decide +kernel) (by decide +kernel)
theorem q_se_yX4_skipSpaces : Cond.selects yX4_skipSpaces.cls yX4_skipSpaces yX4_skipSpaces ∈ WG := wg_of 20 (by decide +kernel) (by decide +kernel)
theorem q_ml_RX4_64 : Cond.methodLink RX4 64 yX4_isDigitHere ∈ WG := wg_of 781 (by decide +kernel) (by decide +kernel)
theorem q_cd_yX4_isDigitHere : Cond.code yX4_isDigitHere cX4_isDigitHere 1 (some .boolean) ∈ WG := wg_of 784 (by decide +kernel) (by decide +kernel)
theorem q_cw_yX4_isDigitHere : Cw yX4_isDigitHere cX4_isDigitHere 1 (some .boolean) 0 := ⟨q_cd_yX4_isDigitHere, q_in_RX4, by decide +kernel, by decide +kernel, by decide +kernel⟩
theorem q_im_yX4_isDigitHere : Cond.instanceMethod yX4_isDigitHere ∈ WG := wg_of 783 (by decide +kernel) (by decide +kernel)
theorem q_se_yX4_isDigitHere : Cond.selects yX4_isDigitHere.cls yX4_isDigitHere yX4_isDigitHere ∈ WG := wg_of 25 (by decide +kernel) (by decide +kernel)
theorem q_ml_RX4_39 : Cond.methodLink RX4 39 yX4_readLetter ∈ WG := wg_of 773 (by decide +kernel) (by decide +kernel)
theorem q_cd_yX4_readLetter : Cond.code yX4_readLetter cX4_readLetter 2 (some .int) ∈ WG := wg_of 776 (by decide +kernel) (by decide +kernel)
theorem q_cw_yX4_readLetter : Cw yX4_readLetter cX4_readLetter 2 (some .int) 0 := ⟨q_cd_yX4_readLetter, q_in_RX4, by decide +kernel, by decide +kernel, by decide +kernel⟩
theorem q_im_yX4_readLetter : Cond.instanceMethod yX4_readLetter ∈ WG := wg_of 775 (by decide +kernel) (by decide +kernel)
theorem q_se_yX4_readLetter : Cond.selects yX4_readLetter.cls yX4_readLetter yX4_readLetter ∈ WG := wg_of 23 (by decide +kernel) (by decide +kernel)
theorem q_fl_RX4_43 : Cond.fieldLink RX4 43 (TX4 1).1 (TX4 1).2.1 (TX4 1).2.2.1 ∈ WG := wg_of 364 (by decide +kernel) (by decide +kernel)
theorem q_fi_RX4_43 : FI RX4 43 4 1 0 RX4 TX4 8 := ⟨rfl, by decide, by decide +kernel, q_fl_RX4_43, q_us_4⟩
theorem q_fp_RX4_43 : FP RX4 43 4 1 0 RX4 TX4 8 .int := ⟨q_fi_RX4_43, ⟨tyX4, tyX4_ok⟩, nmX4, by decide +kernel, by decide +kernel, by decide +kernel⟩
theorem q_ml_RX4_46 : Cond.methodLink RX4 46 yX4_readNumber ∈ WG := wg_of 777 (by decide +kernel) (by decide +kernel)
theorem q_cd_yX4_readNumber : Cond.code yX4_readNumber cX4_readNumber 2 (some .int) ∈ WG := wg_of 780 (by decide +kernel) (by decide +kernel)
theorem q_cw_yX4_readNumber : Cw yX4_readNumber cX4_readNumber 2 (some .int) 0 := ⟨q_cd_yX4_readNumber, q_in_RX4, by decide +kernel, by decide +kernel, by decide +kernel⟩
theorem q_im_yX4_readNumber : Cond.instanceMethod yX4_readNumber ∈ WG := wg_of 779 (by decide +kernel) (by decide +kernel)
theorem q_se_yX4_readNumber : Cond.selects yX4_readNumber.cls yX4_readNumber yX4_readNumber ∈ WG := wg_of 24 (by decide +kernel) (by decide +kernel)
theorem q_fl_RX4_49 : Cond.fieldLink RX4 49 (TX4 2).1 (TX4 2).2.1 (TX4 2).2.2.1 ∈ WG := wg_of 366 (by decide +kernel) (by decide +kernel)
theorem q_fi_RX4_49 : FI RX4 49 4 2 0 RX4 TX4 8 := ⟨rfl, by decide, by decide +kernel, q_fl_RX4_49, q_us_4⟩
theorem q_fp_RX4_49 : FP RX4 49 4 2 0 RX4 TX4 8 .int := ⟨q_fi_RX4_49, ⟨tyX4, tyX4_ok⟩, nmX4, by decide +kernel, by decide +kernel, by decide +kernel⟩
theorem q_fl_RX4_52 : Cond.fieldLink RX4 52 (TX4 3).1 (TX4 3).2.1 (TX4 3).2.2.1 ∈ WG := wg_of 368 (by decide +kernel) (by decide +kernel)
theorem q_fi_RX4_52 : FI RX4 52 4 3 0 RX4 TX4 8 := ⟨rfl, by decide, by decide +kernel, q_fl_RX4_52, q_us_4⟩
theorem q_fp_RX4_52 : FP RX4 52 4 3 0 RX4 TX4 8 .int := ⟨q_fi_RX4_52, ⟨tyX4, tyX4_ok⟩, nmX4, by decide +kernel, by decide +kernel, by decide +kernel⟩
theorem q_fl_RX4_55 : Cond.fieldLink RX4 55 (TX4 4).1 (TX4 4).2.1 (TX4 4).2.2.1 ∈ WG := wg_of 370 (by decide +kernel) (by decide +kernel)
theorem q_fi_RX4_55 : FI RX4 55 4 4 0 RX4 TX4 8 := ⟨rfl, by decide, by decide +kernel, q_fl_RX4_55, q_us_4⟩
theorem q_fp_RX4_55 : FP RX4 55 4 4 0 RX4 TX4 8 .int := ⟨q_fi_RX4_55, ⟨tyX4, tyX4_ok⟩, nmX4, by decide +kernel, by decide +kernel, by decide +kernel⟩
theorem q_ml_RX4_58 : Cond.methodLink RX4 58 yX4_readEnd ∈ WG := wg_of 785 (by decide +kernel) (by decide +kernel)
theorem q_cd_yX4_readEnd : Cond.code yX4_readEnd cX4_readEnd 1 (some .boolean) ∈ WG := wg_of 788 (by decide +kernel) (by decide +kernel)
theorem q_cw_yX4_readEnd : Cw yX4_readEnd cX4_readEnd 1 (some .boolean) 0 := ⟨q_cd_yX4_readEnd, q_in_RX4, by decide +kernel, by decide +kernel, by decide +kernel⟩
theorem q_im_yX4_readEnd : Cond.instanceMethod yX4_readEnd ∈ WG := wg_of 787 (by decide +kernel) (by decide +kernel)
theorem q_se_yX4_readEnd : Cond.selects yX4_readEnd.cls yX4_readEnd yX4_readEnd ∈ WG := wg_of 26 (by decide +kernel) (by decide +kernel)
theorem q_ml_RX4_36 : Cond.methodLink RX4 36 yX4_readCommand ∈ WG := wg_of 769 (by decide +kernel) (by decide +kernel)
theorem q_cd_yX4_readCommand : Cond.code yX4_readCommand cX4_readCommand 1 (some .boolean) ∈ WG := wg_of 772 (by decide +kernel) (by decide +kernel)
theorem q_cw_yX4_readCommand : Cw yX4_readCommand cX4_readCommand 1 (some .boolean) 0 := ⟨q_cd_yX4_readCommand, q_in_RX4, by decide +kernel, by decide +kernel, by decide +kernel⟩
theorem q_im_yX4_readCommand : Cond.instanceMethod yX4_readCommand ∈ WG := wg_of 771 (by decide +kernel) (by decide +kernel)
theorem q_se_yX4_readCommand : Cond.selects yX4_readCommand.cls yX4_readCommand yX4_readCommand ∈ WG := wg_of 22 (by decide +kernel) (by decide +kernel)
theorem q_ml_RX4_26 : Cond.methodLink RX4 26 yX4_rewind ∈ WG := wg_of 753 (by decide +kernel) (by decide +kernel)
theorem q_cd_yX4_rewind : Cond.code yX4_rewind cX4_rewind 1 none ∈ WG := wg_of 756 (by decide +kernel) (by decide +kernel)
theorem q_cw_yX4_rewind : Cw yX4_rewind cX4_rewind 1 none 0 := ⟨q_cd_yX4_rewind, q_in_RX4, by decide +kernel, by decide +kernel, by decide +kernel⟩
theorem q_im_yX4_rewind : Cond.instanceMethod yX4_rewind ∈ WG := wg_of 754 (by decide +kernel) (by decide +kernel)
theorem q_se_yX4_rewind : Cond.selects yX4_rewind.cls yX4_rewind yX4_rewind ∈ WG := wg_of 755 (by decide +kernel) (by decide +kernel)
theorem q_ml_RX4_29 : Cond.methodLink RX4 29 yX4_nextCommand ∈ WG := wg_of 757 (by decide +kernel) (by decide +kernel)
theorem q_cd_yX4_nextCommand : Cond.code yX4_nextCommand cX4_nextCommand 1 (some .boolean) ∈ WG := wg_of 760 (by decide +kernel) (by decide +kernel)
theorem q_cw_yX4_nextCommand : Cw yX4_nextCommand cX4_nextCommand 1 (some .boolean) 0 := ⟨q_cd_yX4_nextCommand, q_in_RX4, by decide +kernel, by decide +kernel, by decide +kernel⟩
theorem q_im_yX4_nextCommand : Cond.instanceMethod yX4_nextCommand ∈ WG := wg_of 758 (by decide +kernel) (by decide +kernel)
theorem q_se_yX4_nextCommand : Cond.selects yX4_nextCommand.cls yX4_nextCommand yX4_nextCommand ∈ WG := wg_of 759 (by decide +kernel) (by decide +kernel)
theorem q_lo_5 {k : Nat} (h : kd k = (0, 5)) : k < 97 := (by decide +kernel : ∀ k, k < 98 → kd k = (0, 5) → k < 97) k (kd_lt h (by decide)) h
theorem q_fl_RX5_42 : Cond.fieldLink RX5 42 (TX5 0).1 (TX5 0).2.1 (TX5 0).2.2.1 ∈ WG := wg_of 301 (by decide +kernel) (by decide +kernel)
theorem q_us_5 : ∀ w ∈ u_ws RX5 TX5 17, w ∈ WG := fun w hw => List.mem_filter.mpr ⟨(by decide +kernel : ∀ w ∈ u_ws RX5 TX5 17, w ∈ lw_tbl) w hw, (by decide +kernel : ∀ w ∈ u_ws RX5 TX5 17, goodWord w = true) w hw⟩
theorem q_fi_RX5_42 : FI RX5 42 5 0 0 RX5 TX5 17 := ⟨rfl, by decide, by decide +kernel, q_fl_RX5_42, q_us_5⟩
theorem q_fl_RX5_46 : Cond.fieldLink RX5 46 (TX5 3).1 (TX5 3).2.1 (TX5 3).2.2.1 ∈ WG := wg_of 307 (by decide +kernel) (by decide +kernel)
theorem q_fi_RX5_46 : FI RX5 46 5 3 0 RX5 TX5 17 := ⟨rfl, by decide, by decide +kernel, q_fl_RX5_46, q_us_5⟩
theorem q_fl_RX5_50 : Cond.fieldLink RX5 50 (TX5 4).1 (TX5 4).2.1 (TX5 4).2.2.1 ∈ WG := wg_of 308 (by decide +kernel) (by decide +kernel)
theorem q_fi_RX5_50 : FI RX5 50 5 4 0 RX5 TX5 17 := ⟨rfl, by decide, by decide +kernel, q_fl_RX5_50, q_us_5⟩
theorem q_fl_RX5_53 : Cond.fieldLink RX5 53 (TX5 1).1 (TX5 1).2.1 (TX5 1).2.2.1 ∈ WG := wg_of 303 (by decide +kernel) (by decide +kernel)
theorem q_fi_RX5_53 : FI RX5 53 5 1 0 RX5 TX5 17 := ⟨rfl, by decide, by decide +kernel, q_fl_RX5_53, q_us_5⟩
theorem q_fl_RX5_56 : Cond.fieldLink RX5 56 (TX5 5).1 (TX5 5).2.1 (TX5 5).2.2.1 ∈ WG := wg_of 309 (by decide +kernel) (by decide +kernel)
theorem q_fi_RX5_56 : FI RX5 56 5 5 0 RX5 TX5 17 := ⟨rfl, by decide, by decide +kernel, q_fl_RX5_56, q_us_5⟩
theorem q_fl_RX5_59 : Cond.fieldLink RX5 59 (TX5 6).1 (TX5 6).2.1 (TX5 6).2.2.1 ∈ WG := wg_of 310 (by decide +kernel) (by decide +kernel)
theorem q_fi_RX5_59 : FI RX5 59 5 6 0 RX5 TX5 17 := ⟨rfl, by decide, by decide +kernel, q_fl_RX5_59, q_us_5⟩
theorem q_fl_RX5_62 : Cond.fieldLink RX5 62 (TX5 7).1 (TX5 7).2.1 (TX5 7).2.2.1 ∈ WG := wg_of 311 (by decide +kernel) (by decide +kernel)
theorem q_fi_RX5_62 : FI RX5 62 5 7 0 RX5 TX5 17 := ⟨rfl, by decide, by decide +kernel, q_fl_RX5_62, q_us_5⟩
theorem q_fl_RX5_65 : Cond.fieldLink RX5 65 (TX5 8).1 (TX5 8).2.1 (TX5 8).2.2.1 ∈ WG := wg_of 312 (by decide +kernel) (by decide +kernel)
theorem q_fi_RX5_65 : FI RX5 65 5 8 0 RX5 TX5 17 := ⟨rfl, by decide, by decide +kernel, q_fl_RX5_65, q_us_5⟩
theorem q_fp_RX5_42 : FP RX5 42 5 0 0 RX5 TX5 17 .boolean := ⟨q_fi_RX5_42, ⟨tyX5, tyX5_ok⟩, nmX5, by decide +kernel, by decide +kernel, by decide +kernel⟩
theorem q_fl_RX5_79 : Cond.fieldLink RX5 79 (TX5 9).1 (TX5 9).2.1 (TX5 9).2.2.1 ∈ WG := wg_of 313 (by decide +kernel) (by decide +kernel)
theorem q_fi_RX5_79 : FI RX5 79 5 9 0 RX5 TX5 17 := ⟨rfl, by decide, by decide +kernel, q_fl_RX5_79, q_us_5⟩
theorem q_fp_RX5_79 : FP RX5 79 5 9 0 RX5 TX5 17 .boolean := ⟨q_fi_RX5_79, ⟨tyX5, tyX5_ok⟩, nmX5, by decide +kernel, by decide +kernel, by decide +kernel⟩
theorem q_fl_RX5_103 : Cond.fieldLink RX5 103 (TX5 10).1 (TX5 10).2.1 (TX5 10).2.2.1 ∈ WG := wg_of 314 (by decide +kernel) (by decide +kernel)
theorem q_fi_RX5_103 : FI RX5 103 5 10 0 RX5 TX5 17 := ⟨rfl, by decide, by decide +kernel, q_fl_RX5_103, q_us_5⟩
theorem q_fp_RX5_103 : FP RX5 103 5 10 0 RX5 TX5 17 .boolean := ⟨q_fi_RX5_103, ⟨tyX5, tyX5_ok⟩, nmX5, by decide +kernel, by decide +kernel, by decide +kernel⟩
theorem q_fl_RX5_106 : Cond.fieldLink RX5 106 (TX6 0).1 (TX6 0).2.1 (TX6 0).2.2.1 ∈ WG := wg_of 129 (by decide +kernel) (by decide +kernel)
theorem q_fi_RX5_106 : FI RX5 106 6 0 0 RX6 TX6 6 := ⟨rfl, by decide, by decide +kernel, q_fl_RX5_106, q_us_6⟩
theorem q_fp_RX5_65 : FP RX5 65 5 8 0 RX5 TX5 17 .int := ⟨q_fi_RX5_65, ⟨tyX5, tyX5_ok⟩, nmX5, by decide +kernel, by decide +kernel, by decide +kernel⟩
theorem q_ct_RX5_111 : Cond.constant RX5 111 (1000000 : Int32) ∈ WG := wg_of 669 (by decide +kernel) (by decide +kernel)
theorem q_fp_RX5_46 : FP RX5 46 5 3 0 RX5 TX5 17 .int := ⟨q_fi_RX5_46, ⟨tyX5, tyX5_ok⟩, nmX5, by decide +kernel, by decide +kernel, by decide +kernel⟩
theorem q_fp_RX5_50 : FP RX5 50 5 4 0 RX5 TX5 17 .int := ⟨q_fi_RX5_50, ⟨tyX5, tyX5_ok⟩, nmX5, by decide +kernel, by decide +kernel, by decide +kernel⟩
theorem q_fp_RX5_53 : FP RX5 53 5 1 0 RX5 TX5 17 .int := ⟨q_fi_RX5_53, ⟨tyX5, tyX5_ok⟩, nmX5, by decide +kernel, by decide +kernel, by decide +kernel⟩
theorem q_fp_RX5_56 : FP RX5 56 5 5 0 RX5 TX5 17 .int := ⟨q_fi_RX5_56, ⟨tyX5, tyX5_ok⟩, nmX5, by decide +kernel, by decide +kernel, by decide +kernel⟩
theorem q_fp_RX5_59 : FP RX5 59 5 6 0 RX5 TX5 17 .int := ⟨q_fi_RX5_59, ⟨tyX5, tyX5_ok⟩, nmX5, by decide +kernel, by decide +kernel, by decide +kernel⟩
theorem q_fl_RX5_112 : Cond.fieldLink RX5 112 (TX5 11).1 (TX5 11).2.1 (TX5 11).2.2.1 ∈ WG := wg_of 315 (by decide +kernel) (by decide +kernel)
theorem q_fi_RX5_112 : FI RX5 112 5 11 0 RX5 TX5 17 := ⟨rfl, by decide, by decide +kernel, q_fl_RX5_112, q_us_5⟩
theorem q_fp_RX5_112 : FP RX5 112 5 11 0 RX5 TX5 17 .int := ⟨q_fi_RX5_112, ⟨tyX5, tyX5_ok⟩, nmX5, by decide +kernel, by decide +kernel, by decide +kernel⟩
theorem q_fl_RX5_18 : Cond.fieldLink RX5 18 (TX5 12).1 (TX5 12).2.1 (TX5 12).2.2.1 ∈ WG := wg_of 316 (by decide +kernel) (by decide +kernel)
theorem q_fi_RX5_18 : FI RX5 18 5 12 2 RX5 TX5 17 := ⟨rfl, by decide, by decide +kernel, q_fl_RX5_18, q_us_5⟩
theorem q_kr_5_12 {k : Nat} (h : kd k = (0, 5)) : kd (k + 2) = (0, 3) := (by decide +kernel : ∀ k, k < 98 → kd k = (0, 5) → kd (k + 2) = (0, 3)) k (kd_lt h (by decide)) h
theorem q_ml_RX5_115 : Cond.methodLink RX5 115 yX3_clear ∈ WG := wg_of 670 (by decide +kernel) (by decide +kernel)
theorem q_cd_yX3_clear : Cond.code yX3_clear cX3_clear 1 none ∈ WG := wg_of 673 (by decide +kernel) (by decide +kernel)
theorem q_cw_yX3_clear : Cw yX3_clear cX3_clear 1 none 0 := ⟨q_cd_yX3_clear, q_in_RX3, by decide +kernel, by decide +kernel, by decide +kernel⟩
theorem q_im_yX3_clear : Cond.instanceMethod yX3_clear ∈ WG := wg_of 671 (by decide +kernel) (by decide +kernel)
theorem q_se_yX3_clear : Cond.selects yX3_clear.cls yX3_clear yX3_clear ∈ WG := wg_of 672 (by decide +kernel) (by decide +kernel)
theorem q_fl_RX5_9 : Cond.fieldLink RX5 9 (TX5 2).1 (TX5 2).2.1 (TX5 2).2.2.1 ∈ WG := wg_of 305 (by decide +kernel) (by decide +kernel)
theorem q_fi_RX5_9 : FI RX5 9 5 2 1 RX5 TX5 17 := ⟨rfl, by decide, by decide +kernel, q_fl_RX5_9, q_us_5⟩
theorem q_kr_5_2 {k : Nat} (h : kd k = (0, 5)) : (kd (k + 1)).1 = 1 := (by decide +kernel : ∀ k, k < 98 → kd k = (0, 5) → (kd (k + 1)).1 = 1) k (kd_lt h (by decide)) h
theorem q_lr_5_2 {k : Nat} (h : kd k = (0, 5)) : k + 1 < 97 := (by decide +kernel : ∀ k, k < 98 → kd k = (0, 5) → k + 1 < 97) k (kd_lt h (by decide)) h
theorem q_fl_RX5_118 : Cond.fieldLink RX5 118 (TX6 5).1 (TX6 5).2.1 (TX6 5).2.2.1 ∈ WG := wg_of 144 (by decide +kernel) (by decide +kernel)
theorem q_fi_RX5_118 : FI RX5 118 6 5 5 RX6 TX6 6 := ⟨rfl, by decide, by decide +kernel, q_fl_RX5_118, q_us_6⟩
theorem q_fl_RX5_36 : Cond.fieldLink RX5 36 (TX5 15).1 (TX5 15).2.1 (TX5 15).2.2.1 ∈ WG := wg_of 319 (by decide +kernel) (by decide +kernel)
theorem q_fi_RX5_36 : FI RX5 36 5 15 13 RX5 TX5 17 := ⟨rfl, by decide, by decide +kernel, q_fl_RX5_36, q_us_5⟩
theorem q_kr_5_15 {k : Nat} (h : kd k = (0, 5)) : (kd (k + 13)).1 = 1 := (by decide +kernel : ∀ k, k < 98 → kd k = (0, 5) → (kd (k + 13)).1 = 1) k (kd_lt h (by decide)) h
theorem q_lr_5_15 {k : Nat} (h : kd k = (0, 5)) : k + 13 < 97 := (by decide +kernel : ∀ k, k < 98 → kd k = (0, 5) → k + 13 < 97) k (kd_lt h (by decide)) h
theorem q_ml_RX5_119 : Cond.methodLink RX5 119 arraycopyName ∈ WG := wg_of 674 (by decide +kernel) (by decide +kernel)
theorem q_ct_RX5_145 : Cond.constantLong RX5 145 (7 : Int64) ∈ WG := wg_of 683 (by decide +kernel) (by decide +kernel)
theorem q_fl_RX5_25 : Cond.fieldLink RX5 25 (TX5 13).1 (TX5 13).2.1 (TX5 13).2.2.1 ∈ WG := wg_of 317 (by decide +kernel) (by decide +kernel)
theorem q_fi_RX5_25 : FI RX5 25 5 13 4 RX5 TX5 17 := ⟨rfl, by decide, by decide +kernel, q_fl_RX5_25, q_us_5⟩
theorem q_kr_5_13 {k : Nat} (h : kd k = (0, 5)) : kd (k + 4) = (0, 1) := (by decide +kernel : ∀ k, k < 98 → kd k = (0, 5) → kd (k + 4) = (0, 1)) k (kd_lt h (by decide)) h
theorem q_ml_RX5_131 : Cond.methodLink RX5 131 yX1_load ∈ WG := wg_of 692 (by decide +kernel) (by decide +kernel)
theorem q_cd_yX1_load : Cond.code yX1_load cX1_load 5 none ∈ WG := wg_of 570 (by decide +kernel) (by decide +kernel)
theorem q_cw_yX1_load : Cw yX1_load cX1_load 5 none 2 := ⟨q_cd_yX1_load, q_in_RX1, by decide +kernel, by decide +kernel, by decide +kernel⟩
theorem q_im_yX1_load : Cond.instanceMethod yX1_load ∈ WG := wg_of 568 (by decide +kernel) (by decide +kernel)
theorem q_se_yX1_load : Cond.selects yX1_load.cls yX1_load yX1_load ∈ WG := wg_of 569 (by decide +kernel) (by decide +kernel)
theorem q_ml_RX5_135 : Cond.methodLink RX5 135 yX1_lowest ∈ WG := wg_of 693 (by decide +kernel) (by decide +kernel)
theorem q_cd_yX1_lowest : Cond.code yX1_lowest cX1_lowest 2 (some .int) ∈ WG := wg_of 603 (by decide +kernel) (by decide +kernel)
theorem q_cw_yX1_lowest : Cw yX1_lowest cX1_lowest 2 (some .int) 0 := ⟨q_cd_yX1_lowest, q_in_RX1, by decide +kernel, by decide +kernel, by decide +kernel⟩
theorem q_im_yX1_lowest : Cond.instanceMethod yX1_lowest ∈ WG := wg_of 601 (by decide +kernel) (by decide +kernel)
theorem q_se_yX1_lowest : Cond.selects yX1_lowest.cls yX1_lowest yX1_lowest ∈ WG := wg_of 602 (by decide +kernel) (by decide +kernel)
theorem q_fl_RX5_139 : Cond.fieldLink RX5 139 (TX1 0).1 (TX1 0).2.1 (TX1 0).2.2.1 ∈ WG := wg_of 215 (by decide +kernel) (by decide +kernel)
theorem q_fi_RX5_139 : FI RX5 139 1 0 0 RX1 TX1 10 := ⟨rfl, by decide, by decide +kernel, q_fl_RX5_139, q_us_1⟩
theorem q_ml_RX5_125 : Cond.methodLink RX5 125 yX5_pack ∈ WG := wg_of 679 (by decide +kernel) (by decide +kernel)
theorem q_cd_yX5_pack : Cond.code yX5_pack cX5_pack 6 (some .long) ∈ WG := wg_of 682 (by decide +kernel) (by decide +kernel)
theorem q_in_RX5 : Cond.initialized RX5 ∈ WG := wg_of 93 (by decide +kernel) (by decide +kernel)
theorem q_cw_yX5_pack : Cw yX5_pack cX5_pack 6 (some .long) 0 := ⟨q_cd_yX5_pack, q_in_RX5, by decide +kernel, by decide +kernel, by decide +kernel⟩
theorem q_im_yX5_pack : Cond.instanceMethod yX5_pack ∈ WG := wg_of 681 (by decide +kernel) (by decide +kernel)
theorem q_se_yX5_pack : Cond.selects yX5_pack.cls yX5_pack yX5_pack ∈ WG := wg_of 12 (by decide +kernel) (by decide +kernel)
theorem q_ml_RX5_142 : Cond.methodLink RX5 142 yX3_addOrdered ∈ WG := wg_of 694 (by decide +kernel) (by decide +kernel)
theorem q_cd_yX3_addOrdered : Cond.code yX3_addOrdered cX3_addOrdered 4 none ∈ WG := wg_of 697 (by decide +kernel) (by decide +kernel)
theorem q_cw_yX3_addOrdered : Cw yX3_addOrdered cX3_addOrdered 4 none 1 := ⟨q_cd_yX3_addOrdered, q_in_RX3, by decide +kernel, by decide +kernel, by decide +kernel⟩
theorem q_im_yX3_addOrdered : Cond.instanceMethod yX3_addOrdered ∈ WG := wg_of 695 (by decide +kernel) (by decide +kernel)
theorem q_se_yX3_addOrdered : Cond.selects yX3_addOrdered.cls yX3_addOrdered yX3_addOrdered ∈ WG := wg_of 696 (by decide +kernel) (by decide +kernel)
theorem q_ml_RX5_128 : Cond.methodLink RX5 128 yX3_addLast ∈ WG := wg_of 684 (by decide +kernel) (by decide +kernel)
theorem q_cd_yX3_addLast : Cond.code yX3_addLast cX3_addLast 3 none ∈ WG := wg_of 687 (by decide +kernel) (by decide +kernel)
theorem q_cw_yX3_addLast : Cw yX3_addLast cX3_addLast 3 none 1 := ⟨q_cd_yX3_addLast, q_in_RX3, by decide +kernel, by decide +kernel, by decide +kernel⟩
theorem q_im_yX3_addLast : Cond.instanceMethod yX3_addLast ∈ WG := wg_of 685 (by decide +kernel) (by decide +kernel)
theorem q_se_yX3_addLast : Cond.selects yX3_addLast.cls yX3_addLast yX3_addLast ∈ WG := wg_of 686 (by decide +kernel) (by decide +kernel)
theorem q_ml_RX8_126 : Cond.methodLink RX8 126 yX8_factorial ∈ WG := wg_of 448 (by decide +kernel) (by decide +kernel)
theorem q_mn_RX5_147 : Cond.methodLinkNest RX5 147 yX8_item RX8 ∈ NW := nw_of 724 (by decide +kernel) (by decide +kernel)
theorem q_mn_RX5_151 : Cond.methodLinkNest RX5 151 yX8_setItem RX8 ∈ NW := nw_of 725 (by decide +kernel) (by decide +kernel)
theorem q_mn_RX5_155 : Cond.methodLinkNest RX5 155 yX8_numberOf RX8 ∈ NW := nw_of 726 (by decide +kernel) (by decide +kernel)
theorem q_cd_yX8_numberOf : Cond.code yX8_numberOf cX8_numberOf 6 (some .int) ∈ WG := wg_of 446 (by decide +kernel) (by decide +kernel)
theorem q_cw_yX8_numberOf : Cw yX8_numberOf cX8_numberOf 6 (some .int) 2 := ⟨q_cd_yX8_numberOf, q_in_RX8, by decide +kernel, by decide +kernel, by decide +kernel⟩
theorem q_st_yX8_numberOf : Cond.static yX8_numberOf ∈ WG := wg_of 445 (by decide +kernel) (by decide +kernel)
theorem q_lo_7 {k : Nat} (h : kd k = (0, 7)) : k < 97 := (by decide +kernel : ∀ k, k < 98 → kd k = (0, 7) → k < 97) k (kd_lt h (by decide)) h
theorem q_fl_RX7_24 : Cond.fieldLink RX7 24 (TX7 2).1 (TX7 2).2.1 (TX7 2).2.2.1 ∈ WG := wg_of 258 (by decide +kernel) (by decide +kernel)
theorem q_us_7 : ∀ w ∈ u_ws RX7 TX7 5, w ∈ WG := fun w hw => List.mem_filter.mpr ⟨(by decide +kernel : ∀ w ∈ u_ws RX7 TX7 5, w ∈ lw_tbl) w hw, (by decide +kernel : ∀ w ∈ u_ws RX7 TX7 5, goodWord w = true) w hw⟩
theorem q_fi_RX7_24 : FI RX7 24 7 2 0 RX7 TX7 5 := ⟨rfl, by decide, by decide +kernel, q_fl_RX7_24, q_us_7⟩
theorem q_fl_RX7_65 : Cond.fieldLink RX7 65 (TX6 3).1 (TX6 3).2.1 (TX6 3).2.2.1 ∈ WG := wg_of 138 (by decide +kernel) (by decide +kernel)
theorem q_fi_RX7_65 : FI RX7 65 6 3 3 RX6 TX6 6 := ⟨rfl, by decide, by decide +kernel, q_fl_RX7_65, q_us_6⟩
theorem q_mn_RX7_68 : Cond.methodLinkNest RX7 68 yX8_at RX8 ∈ NW := nw_of 650 (by decide +kernel) (by decide +kernel)
theorem q_fl_RX7_72 : Cond.fieldLink RX7 72 (TX6 2).1 (TX6 2).2.1 (TX6 2).2.2.1 ∈ WG := wg_of 135 (by decide +kernel) (by decide +kernel)
theorem q_fi_RX7_72 : FI RX7 72 6 2 2 RX6 TX6 6 := ⟨rfl, by decide, by decide +kernel, q_fl_RX7_72, q_us_6⟩
theorem q_fl_RX7_15 : Cond.fieldLink RX7 15 (TX7 4).1 (TX7 4).2.1 (TX7 4).2.2.1 ∈ WG := wg_of 260 (by decide +kernel) (by decide +kernel)
theorem q_fi_RX7_15 : FI RX7 15 7 4 2 RX7 TX7 5 := ⟨rfl, by decide, by decide +kernel, q_fl_RX7_15, q_us_7⟩
theorem q_kr_7_4 {k : Nat} (h : kd k = (0, 7)) : (kd (k + 2)).1 = 1 := (by decide +kernel : ∀ k, k < 98 → kd k = (0, 7) → (kd (k + 2)).1 = 1) k (kd_lt h (by decide)) h
theorem q_lr_7_4 {k : Nat} (h : kd k = (0, 7)) : k + 2 < 97 := (by decide +kernel : ∀ k, k < 98 → kd k = (0, 7) → k + 2 < 97) k (kd_lt h (by decide)) h
theorem q_mn_RX7_36 : Cond.methodLinkNest RX7 36 yX8_item RX8 ∈ NW := nw_of 639 (by decide +kernel) (by decide +kernel)
theorem q_fl_RX7_32 : Cond.fieldLink RX7 32 (TX7 3).1 (TX7 3).2.1 (TX7 3).2.2.1 ∈ WG := wg_of 259 (by decide +kernel) (by decide +kernel)
theorem q_fi_RX7_32 : FI RX7 32 7 3 0 RX7 TX7 5 := ⟨rfl, by decide, by decide +kernel, q_fl_RX7_32, q_us_7⟩
theorem q_mn_RX7_61 : Cond.methodLinkNest RX7 61 yX8_has RX8 ∈ NW := nw_of 649 (by decide +kernel) (by decide +kernel)
theorem q_ml_RX7_51 : Cond.methodLink RX7 51 Lib.Math.max.name ∈ WG := wg_of 644 (by decide +kernel) (by decide +kernel)
theorem q_ml_RX7_57 : Cond.methodLink RX7 57 yX7_suits ∈ WG := wg_of 645 (by decide +kernel) (by decide +kernel)
theorem q_cd_yX7_suits : Cond.code yX7_suits cX7_suits 7 (some .boolean) ∈ WG := wg_of 648 (by decide +kernel) (by decide +kernel)
theorem q_in_RX7 : Cond.initialized RX7 ∈ WG := wg_of 92 (by decide +kernel) (by decide +kernel)
theorem q_cw_yX7_suits : Cw yX7_suits cX7_suits 7 (some .boolean) 3 := ⟨q_cd_yX7_suits, q_in_RX7, by decide +kernel, by decide +kernel, by decide +kernel⟩
theorem q_im_yX7_suits : Cond.instanceMethod yX7_suits ∈ WG := wg_of 647 (by decide +kernel) (by decide +kernel)
theorem q_se_yX7_suits : Cond.selects yX7_suits.cls yX7_suits yX7_suits ∈ WG := wg_of 8 (by decide +kernel) (by decide +kernel)
theorem q_fl_RX7_25 : Cond.fieldLink RX7 25 (TX7 0).1 (TX7 0).2.1 (TX7 0).2.2.1 ∈ WG := wg_of 253 (by decide +kernel) (by decide +kernel)
theorem q_fi_RX7_25 : FI RX7 25 7 0 0 RX7 TX7 5 := ⟨rfl, by decide, by decide +kernel, q_fl_RX7_25, q_us_7⟩
theorem q_fp_RX7_25 : FP RX7 25 7 0 0 RX7 TX7 5 .int := ⟨q_fi_RX7_25, ⟨tyX7, tyX7_ok⟩, nmX7, by decide +kernel, by decide +kernel, by decide +kernel⟩
theorem q_fl_RX7_9 : Cond.fieldLink RX7 9 (TX7 1).1 (TX7 1).2.1 (TX7 1).2.2.1 ∈ WG := wg_of 255 (by decide +kernel) (by decide +kernel)
theorem q_fi_RX7_9 : FI RX7 9 7 1 1 RX7 TX7 5 := ⟨rfl, by decide, by decide +kernel, q_fl_RX7_9, q_us_7⟩
theorem q_kr_7_1 {k : Nat} (h : kd k = (0, 7)) : (kd (k + 1)).1 = 1 := (by decide +kernel : ∀ k, k < 98 → kd k = (0, 7) → (kd (k + 1)).1 = 1) k (kd_lt h (by decide)) h
theorem q_lr_7_1 {k : Nat} (h : kd k = (0, 7)) : k + 1 < 97 := (by decide +kernel : ∀ k, k < 98 → kd k = (0, 7) → k + 1 < 97) k (kd_lt h (by decide)) h
theorem q_ml_RX7_75 : Cond.methodLink RX7 75 Lib.Math.min.name ∈ WG := wg_of 656 (by decide +kernel) (by decide +kernel)
theorem q_mn_RX7_44 : Cond.methodLinkNest RX7 44 yX8_setItem RX8 ∈ NW := nw_of 651 (by decide +kernel) (by decide +kernel)
theorem q_fl_RX7_18 : Cond.fieldLink RX7 18 (TX6 0).1 (TX6 0).2.1 (TX6 0).2.2.1 ∈ WG := wg_of 127 (by decide +kernel) (by decide +kernel)
theorem q_fi_RX7_18 : FI RX7 18 6 0 0 RX6 TX6 6 := ⟨rfl, by decide, by decide +kernel, q_fl_RX7_18, q_us_6⟩
theorem q_fp_RX7_24 : FP RX7 24 7 2 0 RX7 TX7 5 .int := ⟨q_fi_RX7_24, ⟨tyX7, tyX7_ok⟩, nmX7, by decide +kernel, by decide +kernel, by decide +kernel⟩
theorem q_mn_RX7_28 : Cond.methodLinkNest RX7 28 yX8_takenBy RX8 ∈ NW := nw_of 637 (by decide +kernel) (by decide +kernel)
theorem q_fp_RX7_32 : FP RX7 32 7 3 0 RX7 TX7 5 .int := ⟨q_fi_RX7_32, ⟨tyX7, tyX7_ok⟩, nmX7, by decide +kernel, by decide +kernel, by decide +kernel⟩
theorem q_ct_RX7_35 : Cond.constant RX7 35 (1000000 : Int32) ∈ WG := wg_of 638 (by decide +kernel) (by decide +kernel)
theorem q_ml_RX7_40 : Cond.methodLink RX7 40 yX7_nextImage ∈ WG := wg_of 640 (by decide +kernel) (by decide +kernel)
theorem q_cd_yX7_nextImage : Cond.code yX7_nextImage cX7_nextImage 5 (some .int) ∈ WG := wg_of 643 (by decide +kernel) (by decide +kernel)
theorem q_cw_yX7_nextImage : Cw yX7_nextImage cX7_nextImage 5 (some .int) 3 := ⟨q_cd_yX7_nextImage, q_in_RX7, by decide +kernel, by decide +kernel, by decide +kernel⟩
theorem q_im_yX7_nextImage : Cond.instanceMethod yX7_nextImage ∈ WG := wg_of 642 (by decide +kernel) (by decide +kernel)
theorem q_se_yX7_nextImage : Cond.selects yX7_nextImage.cls yX7_nextImage yX7_nextImage ∈ WG := wg_of 7 (by decide +kernel) (by decide +kernel)
theorem q_ml_RX7_48 : Cond.methodLink RX7 48 yX7_note ∈ WG := wg_of 652 (by decide +kernel) (by decide +kernel)
theorem q_cd_yX7_note : Cond.code yX7_note cX7_note 2 none ∈ WG := wg_of 655 (by decide +kernel) (by decide +kernel)
theorem q_cw_yX7_note : Cw yX7_note cX7_note 2 none 0 := ⟨q_cd_yX7_note, q_in_RX7, by decide +kernel, by decide +kernel, by decide +kernel⟩
theorem q_im_yX7_note : Cond.instanceMethod yX7_note ∈ WG := wg_of 654 (by decide +kernel) (by decide +kernel)
theorem q_se_yX7_note : Cond.selects yX7_note.cls yX7_note yX7_note ∈ WG := wg_of 9 (by decide +kernel) (by decide +kernel)
theorem q_fl_RX5_39 : Cond.fieldLink RX5 39 (TX5 16).1 (TX5 16).2.1 (TX5 16).2.2.1 ∈ WG := wg_of 320 (by decide +kernel) (by decide +kernel)
theorem q_fi_RX5_39 : FI RX5 39 5 16 14 RX5 TX5 17 := ⟨rfl, by decide, by decide +kernel, q_fl_RX5_39, q_us_5⟩
theorem q_kr_5_16 {k : Nat} (h : kd k = (0, 5)) : (kd (k + 14)).1 = 1 := (by decide +kernel : ∀ k, k < 98 → kd k = (0, 5) → (kd (k + 14)).1 = 1) k (kd_lt h (by decide)) h
theorem q_lr_5_16 {k : Nat} (h : kd k = (0, 5)) : k + 14 < 97 := (by decide +kernel : ∀ k, k < 98 → kd k = (0, 5) → k + 14 < 97) k (kd_lt h (by decide)) h
theorem q_fl_RX5_32 : Cond.fieldLink RX5 32 (TX5 14).1 (TX5 14).2.1 (TX5 14).2.2.1 ∈ WG := wg_of 318 (by decide +kernel) (by decide +kernel)
theorem q_fi_RX5_32 : FI RX5 32 5 14 10 RX5 TX5 17 := ⟨rfl, by decide, by decide +kernel, q_fl_RX5_32, q_us_5⟩
theorem q_kr_5_14 {k : Nat} (h : kd k = (0, 5)) : kd (k + 10) = (0, 7) := (by decide +kernel : ∀ k, k < 98 → kd k = (0, 5) → kd (k + 10) = (0, 7)) k (kd_lt h (by decide)) h
theorem q_fl_RX5_170 : Cond.fieldLink RX5 170 (TX7 1).1 (TX7 1).2.1 (TX7 1).2.2.1 ∈ WG := wg_of 256 (by decide +kernel) (by decide +kernel)
theorem q_fi_RX5_170 : FI RX5 170 7 1 1 RX7 TX7 5 := ⟨rfl, by decide, by decide +kernel, q_fl_RX5_170, q_us_7⟩
theorem q_ml_RX5_158 : Cond.methodLink RX5 158 yX1_mostRegretted ∈ WG := wg_of 731 (by decide +kernel) (by decide +kernel)
theorem q_cd_yX1_mostRegretted : Cond.code yX1_mostRegretted cX1_mostRegretted 5 (some .int) ∈ WG := wg_of 623 (by decide +kernel) (by decide +kernel)
theorem q_cw_yX1_mostRegretted : Cw yX1_mostRegretted cX1_mostRegretted 5 (some .int) 0 := ⟨q_cd_yX1_mostRegretted, q_in_RX1, by decide +kernel, by decide +kernel, by decide +kernel⟩
theorem q_im_yX1_mostRegretted : Cond.instanceMethod yX1_mostRegretted ∈ WG := wg_of 621 (by decide +kernel) (by decide +kernel)
theorem q_se_yX1_mostRegretted : Cond.selects yX1_mostRegretted.cls yX1_mostRegretted yX1_mostRegretted ∈ WG := wg_of 622 (by decide +kernel) (by decide +kernel)
theorem q_ml_RX5_161 : Cond.methodLink RX5 161 yX1_orderLocations ∈ WG := wg_of 732 (by decide +kernel) (by decide +kernel)
theorem q_cd_yX1_orderLocations : Cond.code yX1_orderLocations cX1_orderLocations 7 (some .int) ∈ WG := wg_of 735 (by decide +kernel) (by decide +kernel)
theorem q_cw_yX1_orderLocations : Cw yX1_orderLocations cX1_orderLocations 7 (some .int) 2 := ⟨q_cd_yX1_orderLocations, q_in_RX1, by decide +kernel, by decide +kernel, by decide +kernel⟩
theorem q_im_yX1_orderLocations : Cond.instanceMethod yX1_orderLocations ∈ WG := wg_of 733 (by decide +kernel) (by decide +kernel)
theorem q_se_yX1_orderLocations : Cond.selects yX1_orderLocations.cls yX1_orderLocations yX1_orderLocations ∈ WG := wg_of 734 (by decide +kernel) (by decide +kernel)
theorem q_ml_RX5_72 : Cond.methodLink RX5 72 yX5_admit ∈ WG := wg_of 675 (by decide +kernel) (by decide +kernel)
theorem q_cd_yX5_admit : Cond.code yX5_admit cX5_admit 4 none ∈ WG := wg_of 678 (by decide +kernel) (by decide +kernel)
theorem q_cw_yX5_admit : Cw yX5_admit cX5_admit 4 none 1 := ⟨q_cd_yX5_admit, q_in_RX5, by decide +kernel, by decide +kernel, by decide +kernel⟩
theorem q_im_yX5_admit : Cond.instanceMethod yX5_admit ∈ WG := wg_of 677 (by decide +kernel) (by decide +kernel)
theorem q_se_yX5_admit : Cond.selects yX5_admit.cls yX5_admit yX5_admit ∈ WG := wg_of 11 (by decide +kernel) (by decide +kernel)
theorem q_ml_RX5_165 : Cond.methodLink RX5 165 yX7_load ∈ WG := wg_of 736 (by decide +kernel) (by decide +kernel)
theorem q_cd_yX7_load : Cond.code yX7_load cX7_load 6 none ∈ WG := wg_of 636 (by decide +kernel) (by decide +kernel)
theorem q_cw_yX7_load : Cw yX7_load cX7_load 6 none 2 := ⟨q_cd_yX7_load, q_in_RX7, by decide +kernel, by decide +kernel, by decide +kernel⟩
theorem q_im_yX7_load : Cond.instanceMethod yX7_load ∈ WG := wg_of 634 (by decide +kernel) (by decide +kernel)
theorem q_se_yX7_load : Cond.selects yX7_load.cls yX7_load yX7_load ∈ WG := wg_of 635 (by decide +kernel) (by decide +kernel)
theorem q_ml_RX5_166 : Cond.methodLink RX5 166 yX5_keepRepresentatives ∈ WG := wg_of 737 (by decide +kernel) (by decide +kernel)
theorem q_cd_yX5_keepRepresentatives : Cond.code yX5_keepRepresentatives cX5_keepRepresentatives 5 (some .int) ∈ WG := wg_of 740 (by decide +kernel) (by decide +kernel)
theorem q_cw_yX5_keepRepresentatives : Cw yX5_keepRepresentatives cX5_keepRepresentatives 5 (some .int) 1 := ⟨q_cd_yX5_keepRepresentatives, q_in_RX5, by decide +kernel, by decide +kernel, by decide +kernel⟩
theorem q_im_yX5_keepRepresentatives : Cond.instanceMethod yX5_keepRepresentatives ∈ WG := wg_of 739 (by decide +kernel) (by decide +kernel)
theorem q_se_yX5_keepRepresentatives : Cond.selects yX5_keepRepresentatives.cls yX5_keepRepresentatives yX5_keepRepresentatives ∈ WG := wg_of 19 (by decide +kernel) (by decide +kernel)
theorem q_ml_RX5_68 : Cond.methodLink RX5 68 yX5_begin ∈ WG := wg_of 665 (by decide +kernel) (by decide +kernel)
theorem q_cd_yX5_begin : Cond.code yX5_begin cX5_begin 5 none ∈ WG := wg_of 668 (by decide +kernel) (by decide +kernel)
theorem q_cw_yX5_begin : Cw yX5_begin cX5_begin 5 none 3 := ⟨q_cd_yX5_begin, q_in_RX5, by decide +kernel, by decide +kernel, by decide +kernel⟩
theorem q_im_yX5_begin : Cond.instanceMethod yX5_begin ∈ WG := wg_of 667 (by decide +kernel) (by decide +kernel)
theorem q_se_yX5_begin : Cond.selects yX5_begin.cls yX5_begin yX5_begin ∈ WG := wg_of 10 (by decide +kernel) (by decide +kernel)
theorem q_fl_RX5_76 : Cond.fieldLink RX5 76 (TX3 0).1 (TX3 0).2.1 (TX3 0).2.2.1 ∈ WG := wg_of 285 (by decide +kernel) (by decide +kernel)
theorem q_fi_RX5_76 : FI RX5 76 3 0 0 RX3 TX3 3 := ⟨rfl, by decide, by decide +kernel, q_fl_RX5_76, q_us_3⟩
theorem q_ml_RX5_86 : Cond.methodLink RX5 86 yX3_takeLast ∈ WG := wg_of 715 (by decide +kernel) (by decide +kernel)
theorem q_ml_RX5_89 : Cond.methodLink RX5 89 yX5_unpack ∈ WG := wg_of 716 (by decide +kernel) (by decide +kernel)
theorem q_cd_yX5_unpack : Cond.code yX5_unpack cX5_unpack 5 none ∈ WG := wg_of 719 (by decide +kernel) (by decide +kernel)
theorem q_cw_yX5_unpack : Cw yX5_unpack cX5_unpack 5 none 1 := ⟨q_cd_yX5_unpack, q_in_RX5, by decide +kernel, by decide +kernel, by decide +kernel⟩
theorem q_im_yX5_unpack : Cond.instanceMethod yX5_unpack ∈ WG := wg_of 718 (by decide +kernel) (by decide +kernel)
theorem q_se_yX5_unpack : Cond.selects yX5_unpack.cls yX5_unpack yX5_unpack ∈ WG := wg_of 16 (by decide +kernel) (by decide +kernel)
theorem q_ml_RX5_93 : Cond.methodLink RX5 93 yX5_visit ∈ WG := wg_of 720 (by decide +kernel) (by decide +kernel)
theorem q_cd_yX5_visit : Cond.code yX5_visit cX5_visit 4 (some .boolean) ∈ WG := wg_of 723 (by decide +kernel) (by decide +kernel)
theorem q_cw_yX5_visit : Cw yX5_visit cX5_visit 4 (some .boolean) 1 := ⟨q_cd_yX5_visit, q_in_RX5, by decide +kernel, by decide +kernel, by decide +kernel⟩
theorem q_im_yX5_visit : Cond.instanceMethod yX5_visit ∈ WG := wg_of 722 (by decide +kernel) (by decide +kernel)
theorem q_se_yX5_visit : Cond.selects yX5_visit.cls yX5_visit yX5_visit ∈ WG := wg_of 17 (by decide +kernel) (by decide +kernel)
theorem q_ml_RX5_97 : Cond.methodLink RX5 97 yX5_expand ∈ WG := wg_of 727 (by decide +kernel) (by decide +kernel)
theorem q_cd_yX5_expand : Cond.code yX5_expand cX5_expand 6 none ∈ WG := wg_of 730 (by decide +kernel) (by decide +kernel)
theorem q_cw_yX5_expand : Cw yX5_expand cX5_expand 6 none 1 := ⟨q_cd_yX5_expand, q_in_RX5, by decide +kernel, by decide +kernel, by decide +kernel⟩
theorem q_im_yX5_expand : Cond.instanceMethod yX5_expand ∈ WG := wg_of 729 (by decide +kernel) (by decide +kernel)
theorem q_se_yX5_expand : Cond.selects yX5_expand.cls yX5_expand yX5_expand ∈ WG := wg_of 18 (by decide +kernel) (by decide +kernel)
theorem q_ml_RX5_82 : Cond.methodLink RX5 82 yX3_takeLeast ∈ WG := wg_of 703 (by decide +kernel) (by decide +kernel)
theorem q_cd_yX3_takeLeast : Cond.code yX3_takeLeast cX3_takeLeast 8 (some .long) ∈ WG := wg_of 706 (by decide +kernel) (by decide +kernel)
theorem q_cw_yX3_takeLeast : Cw yX3_takeLeast cX3_takeLeast 8 (some .long) 0 := ⟨q_cd_yX3_takeLeast, q_in_RX3, by decide +kernel, by decide +kernel, by decide +kernel⟩
theorem q_im_yX3_takeLeast : Cond.instanceMethod yX3_takeLeast ∈ WG := wg_of 704 (by decide +kernel) (by decide +kernel)
theorem q_se_yX3_takeLeast : Cond.selects yX3_takeLeast.cls yX3_takeLeast yX3_takeLeast ∈ WG := wg_of 705 (by decide +kernel) (by decide +kernel)
theorem q_fl_RX5_100 : Cond.fieldLink RX5 100 (TX3 1).1 (TX3 1).2.1 (TX3 1).2.2.1 ∈ WG := wg_of 287 (by decide +kernel) (by decide +kernel)
theorem q_fi_RX5_100 : FI RX5 100 3 1 0 RX3 TX3 3 := ⟨rfl, by decide, by decide +kernel, q_fl_RX5_100, q_us_3⟩
theorem q_fp_RX5_62 : FP RX5 62 5 7 0 RX5 TX5 17 .int := ⟨q_fi_RX5_62, ⟨tyX5, tyX5_ok⟩, nmX5, by decide +kernel, by decide +kernel, by decide +kernel⟩
theorem q_ml_RX6_41 : Cond.methodLink RX6 41 Lib.Math.max.name ∈ WG := wg_of 947 (by decide +kernel) (by decide +kernel)
theorem q_ct_RX6_47 : Cond.constantLong RX6 47 (1103515245 : Int64) ∈ WG := wg_of 948 (by decide +kernel) (by decide +kernel)
theorem q_ct_RX6_49 : Cond.constantLong RX6 49 (12345 : Int64) ∈ WG := wg_of 949 (by decide +kernel) (by decide +kernel)
theorem q_ct_RX6_51 : Cond.constantLong RX6 51 (2147483647 : Int64) ∈ WG := wg_of 950 (by decide +kernel) (by decide +kernel)
theorem q_mn_RX6_53 : Cond.methodLinkNest RX6 53 yX8_put RX8 ∈ NW := nw_of 951 (by decide +kernel) (by decide +kernel)
theorem q_fl_RX8_12 : Cond.fieldLink RX8 12 (TX8 0).1 (TX8 0).2.1 (TX8 0).2.2.1 ∈ WG := wg_of 393 (by decide +kernel) (by decide +kernel)
theorem q_us_8 : ∀ w ∈ u_ws RX8 TX8 8, w ∈ WG := fun w hw => List.mem_filter.mpr ⟨(by decide +kernel : ∀ w ∈ u_ws RX8 TX8 8, w ∈ lw_tbl) w hw, (by decide +kernel : ∀ w ∈ u_ws RX8 TX8 8, goodWord w = true) w hw⟩
theorem q_fi_RX8_12 : FI RX8 12 8 0 1 RX8 TX8 8 := ⟨rfl, by decide, by decide +kernel, q_fl_RX8_12, q_us_8⟩
theorem q_kr_8_0 {k : Nat} (h : kd k = (0, 8)) : kd (k + 1) = (0, 6) := (by decide +kernel : ∀ k, k < 98 → kd k = (0, 8) → kd (k + 1) = (0, 6)) k (kd_lt h (by decide)) h
theorem q_fl_RX8_69 : Cond.fieldLink RX8 69 (TX6 0).1 (TX6 0).2.1 (TX6 0).2.2.1 ∈ WG := wg_of 128 (by decide +kernel) (by decide +kernel)
theorem q_fi_RX8_69 : FI RX8 69 6 0 0 RX6 TX6 6 := ⟨rfl, by decide, by decide +kernel, q_fl_RX8_69, q_us_6⟩
theorem q_fl_RX8_19 : Cond.fieldLink RX8 19 (TX8 1).1 (TX8 1).2.1 (TX8 1).2.2.1 ∈ WG := wg_of 394 (by decide +kernel) (by decide +kernel)
theorem q_fi_RX8_19 : FI RX8 19 8 1 7 RX8 TX8 8 := ⟨rfl, by decide, by decide +kernel, q_fl_RX8_19, q_us_8⟩
theorem q_kr_8_1 {k : Nat} (h : kd k = (0, 8)) : kd (k + 7) = (0, 2) := (by decide +kernel : ∀ k, k < 98 → kd k = (0, 8) → kd (k + 7) = (0, 2)) k (kd_lt h (by decide)) h
theorem q_ml_RX8_73 : Cond.methodLink RX8 73 yX2_push ∈ WG := wg_of 476 (by decide +kernel) (by decide +kernel)
theorem q_cd_yX2_push : Cond.code yX2_push cX2_push 3 none ∈ WG := wg_of 479 (by decide +kernel) (by decide +kernel)
theorem q_cw_yX2_push : Cw yX2_push cX2_push 3 none 1 := ⟨q_cd_yX2_push, q_in_RX2, by decide +kernel, by decide +kernel, by decide +kernel⟩
theorem q_im_yX2_push : Cond.instanceMethod yX2_push ∈ WG := wg_of 477 (by decide +kernel) (by decide +kernel)
theorem q_se_yX2_push : Cond.selects yX2_push.cls yX2_push yX2_push ∈ WG := wg_of 478 (by decide +kernel) (by decide +kernel)
theorem q_ml_RX8_77 : Cond.methodLink RX8 77 yX6_reset ∈ WG := wg_of 886 (by decide +kernel) (by decide +kernel)
theorem q_cd_yX6_reset : Cond.code yX6_reset cX6_reset 3 none ∈ WG := wg_of 123 (by decide +kernel) (by decide +kernel)
theorem q_cw_yX6_reset : Cw yX6_reset cX6_reset 3 none 1 := ⟨q_cd_yX6_reset, q_in_RX6, by decide +kernel, by decide +kernel, by decide +kernel⟩
theorem q_im_yX6_reset : Cond.instanceMethod yX6_reset ∈ WG := wg_of 121 (by decide +kernel) (by decide +kernel)
theorem q_se_yX6_reset : Cond.selects yX6_reset.cls yX6_reset yX6_reset ∈ WG := wg_of 122 (by decide +kernel) (by decide +kernel)
theorem q_cl_RX8_62 : Cond.classLink RX8 62 "java/lang/IllegalArgumentException" ∈ WG := wg_of 818 (by decide +kernel) (by decide +kernel)
theorem q_ix_0 : Cond.initialized "java/lang/IllegalArgumentException" ∈ WG := wg_of 100 (by decide +kernel) (by decide +kernel)
theorem q_sr_RX8_64 : (RX8, 64, "n is out of range") ∈ STR := List.mem_of_getElem? (i := 0) rfl
theorem q_at_RX8_66 : ∀ w ∈ vx_atS RX8 66 "java/lang/IllegalArgumentException" xch, w ∈ WG ∨ w ∈ OW := fun w hw => by
  have h1 := (by decide +kernel : ∀ w ∈ vx_atS RX8 66 "java/lang/IllegalArgumentException" xch, w ∈ lw_tbl) w hw
  have h2 := (by decide +kernel : ∀ w ∈ vx_atS RX8 66 "java/lang/IllegalArgumentException" xch, goodWord w = true ∨ isO w = true) w hw
  exact h2.elim (fun h => Or.inl (List.mem_filter.mpr ⟨h1, h⟩)) (fun h => Or.inr (List.mem_filter.mpr ⟨h1, h⟩))
theorem q_cl_RX8_130 : Cond.classLink RX8 130 "java/lang/IndexOutOfBoundsException" ∈ WG := wg_of 899 (by decide +kernel) (by decide +kernel)
theorem q_ix_2 : Cond.initialized "java/lang/IndexOutOfBoundsException" ∈ WG := wg_of 103 (by decide +kernel) (by decide +kernel)
theorem q_sr_RX8_315 : (RX8, 315, "there is no such facility or location") ∈ STR := List.mem_of_getElem? (i := 1) rfl
theorem q_at_RX8_134 : ∀ w ∈ vx_atS RX8 134 "java/lang/IndexOutOfBoundsException" xch, w ∈ WG ∨ w ∈ OW := fun w hw => by
  have h1 := (by decide +kernel : ∀ w ∈ vx_atS RX8 134 "java/lang/IndexOutOfBoundsException" xch, w ∈ lw_tbl) w hw
  have h2 := (by decide +kernel : ∀ w ∈ vx_atS RX8 134 "java/lang/IndexOutOfBoundsException" xch, goodWord w = true ∨ isO w = true) w hw
  exact h2.elim (fun h => Or.inl (List.mem_filter.mpr ⟨h1, h⟩)) (fun h => Or.inr (List.mem_filter.mpr ⟨h1, h⟩))
theorem q_sr_RX8_326 : (RX8, 326, "there is no such table") ∈ STR := List.mem_of_getElem? (i := 2) rfl
theorem q_sr_RX8_328 : (RX8, 328, "the number is out of range") ∈ STR := List.mem_of_getElem? (i := 3) rfl
theorem q_ml_RX8_81 : Cond.methodLink RX8 81 yX8_requireIndex ∈ WG := wg_of 895 (by decide +kernel) (by decide +kernel)
theorem q_cd_yX8_requireIndex : Cond.code yX8_requireIndex cX8_requireIndex 2 none ∈ WG := wg_of 898 (by decide +kernel) (by decide +kernel)
theorem q_cw_yX8_requireIndex : Cw yX8_requireIndex cX8_requireIndex 2 none 1 := ⟨q_cd_yX8_requireIndex, q_in_RX8, by decide +kernel, by decide +kernel, by decide +kernel⟩
theorem q_im_yX8_requireIndex : Cond.instanceMethod yX8_requireIndex ∈ WG := wg_of 897 (by decide +kernel) (by decide +kernel)
theorem q_se_yX8_requireIndex : Cond.selects yX8_requireIndex.cls yX8_requireIndex yX8_requireIndex ∈ WG := wg_of 29 (by decide +kernel) (by decide +kernel)
theorem q_ml_RX8_84 : Cond.methodLink RX8 84 yX8_requireTable ∈ WG := wg_of 915 (by decide +kernel) (by decide +kernel)
theorem q_cd_yX8_requireTable : Cond.code yX8_requireTable cX8_requireTable 1 none ∈ WG := wg_of 917 (by decide +kernel) (by decide +kernel)
theorem q_cw_yX8_requireTable : Cw yX8_requireTable cX8_requireTable 1 none 1 := ⟨q_cd_yX8_requireTable, q_in_RX8, by decide +kernel, by decide +kernel, by decide +kernel⟩
theorem q_st_yX8_requireTable : Cond.static yX8_requireTable ∈ WG := wg_of 916 (by decide +kernel) (by decide +kernel)
theorem q_ml_RX8_87 : Cond.methodLink RX8 87 yX8_requireValue ∈ WG := wg_of 919 (by decide +kernel) (by decide +kernel)
theorem q_cd_yX8_requireValue : Cond.code yX8_requireValue cX8_requireValue 1 none ∈ WG := wg_of 921 (by decide +kernel) (by decide +kernel)
theorem q_cw_yX8_requireValue : Cw yX8_requireValue cX8_requireValue 1 none 1 := ⟨q_cd_yX8_requireValue, q_in_RX8, by decide +kernel, by decide +kernel, by decide +kernel⟩
theorem q_st_yX8_requireValue : Cond.static yX8_requireValue ∈ WG := wg_of 920 (by decide +kernel) (by decide +kernel)
theorem q_ml_RX8_90 : Cond.methodLink RX8 90 yX6_tableOf ∈ WG := wg_of 923 (by decide +kernel) (by decide +kernel)
theorem q_cd_yX6_tableOf : Cond.code yX6_tableOf cX6_tableOf 2 (some (.array .int)) ∈ WG := wg_of 926 (by decide +kernel) (by decide +kernel)
theorem q_cw_yX6_tableOf : Cw yX6_tableOf cX6_tableOf 2 (some (.array .int)) 1 := ⟨q_cd_yX6_tableOf, q_in_RX6, by decide +kernel, by decide +kernel, by decide +kernel⟩
theorem q_im_yX6_tableOf : Cond.instanceMethod yX6_tableOf ∈ WG := wg_of 924 (by decide +kernel) (by decide +kernel)
theorem q_se_yX6_tableOf : Cond.selects yX6_tableOf.cls yX6_tableOf yX6_tableOf ∈ WG := wg_of 925 (by decide +kernel) (by decide +kernel)
theorem q_ml_RX8_94 : Cond.methodLink RX8 94 yX8_at ∈ WG := wg_of 802 (by decide +kernel) (by decide +kernel)
theorem q_ml_RX8_98 : Cond.methodLink RX8 98 yX8_put ∈ WG := wg_of 927 (by decide +kernel) (by decide +kernel)
theorem q_ml_RX8_104 : Cond.methodLink RX8 104 yX6_scatter ∈ WG := wg_of 943 (by decide +kernel) (by decide +kernel)
theorem q_cd_yX6_scatter : Cond.code yX6_scatter cX6_scatter 9 none ∈ WG := wg_of 946 (by decide +kernel) (by decide +kernel)
theorem q_cw_yX6_scatter : Cw yX6_scatter cX6_scatter 9 none 3 := ⟨q_cd_yX6_scatter, q_in_RX6, by decide +kernel, by decide +kernel, by decide +kernel⟩
theorem q_im_yX6_scatter : Cond.instanceMethod yX6_scatter ∈ WG := wg_of 944 (by decide +kernel) (by decide +kernel)
theorem q_se_yX6_scatter : Cond.selects yX6_scatter.cls yX6_scatter yX6_scatter ∈ WG := wg_of 945 (by decide +kernel) (by decide +kernel)
theorem q_ml_RX8_112 : Cond.methodLink RX8 112 yX6_sumOf ∈ WG := wg_of 956 (by decide +kernel) (by decide +kernel)
theorem q_cd_yX6_sumOf : Cond.code yX6_sumOf cX6_sumOf 5 (some .int) ∈ WG := wg_of 959 (by decide +kernel) (by decide +kernel)
theorem q_cw_yX6_sumOf : Cw yX6_sumOf cX6_sumOf 5 (some .int) 1 := ⟨q_cd_yX6_sumOf, q_in_RX6, by decide +kernel, by decide +kernel, by decide +kernel⟩
theorem q_im_yX6_sumOf : Cond.instanceMethod yX6_sumOf ∈ WG := wg_of 957 (by decide +kernel) (by decide +kernel)
theorem q_se_yX6_sumOf : Cond.selects yX6_sumOf.cls yX6_sumOf yX6_sumOf ∈ WG := wg_of 958 (by decide +kernel) (by decide +kernel)
theorem q_ml_RX8_108 : Cond.methodLink RX8 108 yX6_mirror ∈ WG := wg_of 952 (by decide +kernel) (by decide +kernel)
theorem q_cd_yX6_mirror : Cond.code yX6_mirror cX6_mirror 4 none ∈ WG := wg_of 955 (by decide +kernel) (by decide +kernel)
theorem q_cw_yX6_mirror : Cw yX6_mirror cX6_mirror 4 none 1 := ⟨q_cd_yX6_mirror, q_in_RX6, by decide +kernel, by decide +kernel, by decide +kernel⟩
theorem q_im_yX6_mirror : Cond.instanceMethod yX6_mirror ∈ WG := wg_of 953 (by decide +kernel) (by decide +kernel)
theorem q_se_yX6_mirror : Cond.selects yX6_mirror.cls yX6_mirror yX6_mirror ∈ WG := wg_of 954 (by decide +kernel) (by decide +kernel)
theorem q_sr_RX8_102 : (RX8, 102, "the start is below 0") ∈ STR := List.mem_of_getElem? (i := 4) rfl
theorem q_fl_RX8_116 : Cond.fieldLink RX8 116 (TX6 4).1 (TX6 4).2.1 (TX6 4).2.2.1 ∈ WG := wg_of 142 (by decide +kernel) (by decide +kernel)
theorem q_fi_RX8_116 : FI RX8 116 6 4 4 RX6 TX6 6 := ⟨rfl, by decide, by decide +kernel, q_fl_RX8_116, q_us_6⟩
theorem q_ml_RX8_123 : Cond.methodLink RX8 123 yX6_costOf ∈ WG := wg_of 426 (by decide +kernel) (by decide +kernel)
theorem q_ml_RX8_320 : Cond.methodLink RX8 320 yX8_has ∈ WG := wg_of 981 (by decide +kernel) (by decide +kernel)
theorem q_ml_RX8_338 : Cond.methodLink RX8 338 yX8_freeLocation ∈ WG := wg_of 978 (by decide +kernel) (by decide +kernel)
theorem q_cd_yX8_freeLocation : Cond.code yX8_freeLocation cX8_freeLocation 5 (some .int) ∈ WG := wg_of 980 (by decide +kernel) (by decide +kernel)
theorem q_cw_yX8_freeLocation : Cw yX8_freeLocation cX8_freeLocation 5 (some .int) 3 := ⟨q_cd_yX8_freeLocation, q_in_RX8, by decide +kernel, by decide +kernel, by decide +kernel⟩
theorem q_st_yX8_freeLocation : Cond.static yX8_freeLocation ∈ WG := wg_of 979 (by decide +kernel) (by decide +kernel)
theorem q_ml_RX8_135 : Cond.methodLink RX8 135 yX8_arrange ∈ WG := wg_of 975 (by decide +kernel) (by decide +kernel)
theorem q_cd_yX8_arrange : Cond.code yX8_arrange cX8_arrange 8 none ∈ WG := wg_of 977 (by decide +kernel) (by decide +kernel)
theorem q_cw_yX8_arrange : Cw yX8_arrange cX8_arrange 8 none 3 := ⟨q_cd_yX8_arrange, q_in_RX8, by decide +kernel, by decide +kernel, by decide +kernel⟩
theorem q_st_yX8_arrange : Cond.static yX8_arrange ∈ WG := wg_of 976 (by decide +kernel) (by decide +kernel)
theorem q_sr_RX8_132 : (RX8, 132, "no assignment has this number") ∈ STR := List.mem_of_getElem? (i := 5) rfl
theorem q_ml_RX8_139 : Cond.methodLink RX8 139 yX8_numberOf ∈ WG := wg_of 444 (by decide +kernel) (by decide +kernel)
theorem q_ml_RX8_142 : Cond.methodLink RX8 142 yX6_gainOf ∈ WG := wg_of 494 (by decide +kernel) (by decide +kernel)
theorem q_ml_RX8_148 : Cond.methodLink RX8 148 yX6_bestPair ∈ WG := wg_of 460 (by decide +kernel) (by decide +kernel)
theorem q_cd_yX6_bestPair : Cond.code yX6_bestPair cX6_bestPair 6 (some .int) ∈ WG := wg_of 463 (by decide +kernel) (by decide +kernel)
theorem q_cw_yX6_bestPair : Cw yX6_bestPair cX6_bestPair 6 (some .int) 0 := ⟨q_cd_yX6_bestPair, q_in_RX6, by decide +kernel, by decide +kernel, by decide +kernel⟩
theorem q_im_yX6_bestPair : Cond.instanceMethod yX6_bestPair ∈ WG := wg_of 461 (by decide +kernel) (by decide +kernel)
theorem q_se_yX6_bestPair : Cond.selects yX6_bestPair.cls yX6_bestPair yX6_bestPair ∈ WG := wg_of 462 (by decide +kernel) (by decide +kernel)
theorem q_fl_RX8_26 : Cond.fieldLink RX8 26 (TX8 2).1 (TX8 2).2.1 (TX8 2).2.2.1 ∈ WG := wg_of 395 (by decide +kernel) (by decide +kernel)
theorem q_fi_RX8_26 : FI RX8 26 8 2 45 RX8 TX8 8 := ⟨rfl, by decide, by decide +kernel, q_fl_RX8_26, q_us_8⟩
theorem q_kr_8_2 {k : Nat} (h : kd k = (0, 8)) : kd (k + 45) = (0, 0) := (by decide +kernel : ∀ k, k < 98 → kd k = (0, 8) → kd (k + 45) = (0, 0)) k (kd_lt h (by decide)) h
theorem q_ml_RX8_152 : Cond.methodLink RX8 152 yX0_load ∈ WG := wg_of 505 (by decide +kernel) (by decide +kernel)
theorem q_cd_yX0_load : Cond.code yX0_load cX0_load 4 none ∈ WG := wg_of 508 (by decide +kernel) (by decide +kernel)
theorem q_cw_yX0_load : Cw yX0_load cX0_load 4 none 1 := ⟨q_cd_yX0_load, q_in_RX0, by decide +kernel, by decide +kernel, by decide +kernel⟩
theorem q_im_yX0_load : Cond.instanceMethod yX0_load ∈ WG := wg_of 506 (by decide +kernel) (by decide +kernel)
theorem q_se_yX0_load : Cond.selects yX0_load.cls yX0_load yX0_load ∈ WG := wg_of 507 (by decide +kernel) (by decide +kernel)
theorem q_ml_RX8_155 : Cond.methodLink RX8 155 yX0_countUpTo ∈ WG := wg_of 525 (by decide +kernel) (by decide +kernel)
theorem q_cd_yX0_countUpTo : Cond.code yX0_countUpTo cX0_countUpTo 5 (some .int) ∈ WG := wg_of 528 (by decide +kernel) (by decide +kernel)
theorem q_cw_yX0_countUpTo : Cw yX0_countUpTo cX0_countUpTo 5 (some .int) 1 := ⟨q_cd_yX0_countUpTo, q_in_RX0, by decide +kernel, by decide +kernel, by decide +kernel⟩
theorem q_im_yX0_countUpTo : Cond.instanceMethod yX0_countUpTo ∈ WG := wg_of 526 (by decide +kernel) (by decide +kernel)
theorem q_se_yX0_countUpTo : Cond.selects yX0_countUpTo.cls yX0_countUpTo yX0_countUpTo ∈ WG := wg_of 527 (by decide +kernel) (by decide +kernel)
theorem q_fl_RX8_158 : Cond.fieldLink RX8 158 (TX0 2).1 (TX0 2).2.1 (TX0 2).2.2.1 ∈ WG := wg_of 191 (by decide +kernel) (by decide +kernel)
theorem q_fi_RX8_158 : FI RX8 158 0 2 0 RX0 TX0 6 := ⟨rfl, by decide, by decide +kernel, q_fl_RX8_158, q_us_0⟩
theorem q_ml_RX8_161 : Cond.methodLink RX8 161 yX0_cheapestAt ∈ WG := wg_of 542 (by decide +kernel) (by decide +kernel)
theorem q_cd_yX0_cheapestAt : Cond.code yX0_cheapestAt cX0_cheapestAt 4 (some .int) ∈ WG := wg_of 545 (by decide +kernel) (by decide +kernel)
theorem q_cw_yX0_cheapestAt : Cw yX0_cheapestAt cX0_cheapestAt 4 (some .int) 1 := ⟨q_cd_yX0_cheapestAt, q_in_RX0, by decide +kernel, by decide +kernel, by decide +kernel⟩
theorem q_im_yX0_cheapestAt : Cond.instanceMethod yX0_cheapestAt ∈ WG := wg_of 543 (by decide +kernel) (by decide +kernel)
theorem q_se_yX0_cheapestAt : Cond.selects yX0_cheapestAt.cls yX0_cheapestAt yX0_cheapestAt ∈ WG := wg_of 544 (by decide +kernel) (by decide +kernel)
theorem q_fl_RX8_169 : Cond.fieldLink RX8 169 (TX0 0).1 (TX0 0).2.1 (TX0 0).2.2.1 ∈ WG := wg_of 187 (by decide +kernel) (by decide +kernel)
theorem q_fi_RX8_169 : FI RX8 169 0 0 0 RX0 TX0 6 := ⟨rfl, by decide, by decide +kernel, q_fl_RX8_169, q_us_0⟩
theorem q_fl_RX8_166 : Cond.fieldLink RX8 166 (TX0 1).1 (TX0 1).2.1 (TX0 1).2.2.1 ∈ WG := wg_of 189 (by decide +kernel) (by decide +kernel)
theorem q_fi_RX8_166 : FI RX8 166 0 1 0 RX0 TX0 6 := ⟨rfl, by decide, by decide +kernel, q_fl_RX8_166, q_us_0⟩
theorem q_ml_RX8_172 : Cond.methodLink RX8 172 yX8_commonDivisor ∈ WG := wg_of 1004 (by decide +kernel) (by decide +kernel)
theorem q_cd_yX8_commonDivisor : Cond.code yX8_commonDivisor cX8_commonDivisor 6 (some .int) ∈ WG := wg_of 1006 (by decide +kernel) (by decide +kernel)
theorem q_cw_yX8_commonDivisor : Cw yX8_commonDivisor cX8_commonDivisor 6 (some .int) 2 := ⟨q_cd_yX8_commonDivisor, q_in_RX8, by decide +kernel, by decide +kernel, by decide +kernel⟩
theorem q_st_yX8_commonDivisor : Cond.static yX8_commonDivisor ∈ WG := wg_of 1005 (by decide +kernel) (by decide +kernel)
theorem q_sr_RX8_164 : (RX8, 164, "the part is neither 0 nor 1") ∈ STR := List.mem_of_getElem? (i := 6) rfl
theorem q_ml_RX8_176 : Cond.methodLink RX8 176 yX0_countLocalOptima ∈ WG := wg_of 550 (by decide +kernel) (by decide +kernel)
theorem q_cd_yX0_countLocalOptima : Cond.code yX0_countLocalOptima cX0_countLocalOptima 4 (some .int) ∈ WG := wg_of 553 (by decide +kernel) (by decide +kernel)
theorem q_cw_yX0_countLocalOptima : Cw yX0_countLocalOptima cX0_countLocalOptima 4 (some .int) 1 := ⟨q_cd_yX0_countLocalOptima, q_in_RX0, by decide +kernel, by decide +kernel, by decide +kernel⟩
theorem q_im_yX0_countLocalOptima : Cond.instanceMethod yX0_countLocalOptima ∈ WG := wg_of 551 (by decide +kernel) (by decide +kernel)
theorem q_se_yX0_countLocalOptima : Cond.selects yX0_countLocalOptima.cls yX0_countLocalOptima yX0_countLocalOptima ∈ WG := wg_of 552 (by decide +kernel) (by decide +kernel)
theorem q_fl_RX8_184 : Cond.fieldLink RX8 184 (TX6 5).1 (TX6 5).2.1 (TX6 5).2.2.1 ∈ WG := wg_of 145 (by decide +kernel) (by decide +kernel)
theorem q_fi_RX8_184 : FI RX8 184 6 5 5 RX6 TX6 6 := ⟨rfl, by decide, by decide +kernel, q_fl_RX8_184, q_us_6⟩
theorem q_ml_RX8_317 : Cond.methodLink RX8 317 yX8_takenBy ∈ WG := wg_of 1019 (by decide +kernel) (by decide +kernel)
theorem q_cl_RX8_193 : Cond.classLink RX8 193 "java/lang/IllegalStateException" ∈ WG := wg_of 1020 (by decide +kernel) (by decide +kernel)
theorem q_ix_1 : Cond.initialized "java/lang/IllegalStateException" ∈ WG := wg_of 104 (by decide +kernel) (by decide +kernel)
theorem q_sr_RX8_324 : (RX8, 324, "the facility or the location is fixed") ∈ STR := List.mem_of_getElem? (i := 7) rfl
theorem q_at_RX8_197 : ∀ w ∈ vx_atS RX8 197 "java/lang/IllegalStateException" xch, w ∈ WG ∨ w ∈ OW := fun w hw => by
  have h1 := (by decide +kernel : ∀ w ∈ vx_atS RX8 197 "java/lang/IllegalStateException" xch, w ∈ lw_tbl) w hw
  have h2 := (by decide +kernel : ∀ w ∈ vx_atS RX8 197 "java/lang/IllegalStateException" xch, goodWord w = true ∨ isO w = true) w hw
  exact h2.elim (fun h => Or.inl (List.mem_filter.mpr ⟨h1, h⟩)) (fun h => Or.inr (List.mem_filter.mpr ⟨h1, h⟩))
theorem q_ml_RX8_180 : Cond.methodLink RX8 180 yX8_requireFree ∈ WG := wg_of 1015 (by decide +kernel) (by decide +kernel)
theorem q_cd_yX8_requireFree : Cond.code yX8_requireFree cX8_requireFree 3 none ∈ WG := wg_of 1018 (by decide +kernel) (by decide +kernel)
theorem q_cw_yX8_requireFree : Cw yX8_requireFree cX8_requireFree 3 none 2 := ⟨q_cd_yX8_requireFree, q_in_RX8, by decide +kernel, by decide +kernel, by decide +kernel⟩
theorem q_im_yX8_requireFree : Cond.instanceMethod yX8_requireFree ∈ WG := wg_of 1017 (by decide +kernel) (by decide +kernel)
theorem q_se_yX8_requireFree : Cond.selects yX8_requireFree.cls yX8_requireFree yX8_requireFree ∈ WG := wg_of 30 (by decide +kernel) (by decide +kernel)
theorem q_ml_RX8_190 : Cond.methodLink RX8 190 yX6_freeCount ∈ WG := wg_of 1036 (by decide +kernel) (by decide +kernel)
theorem q_cd_yX6_freeCount : Cond.code yX6_freeCount cX6_freeCount 3 (some .int) ∈ WG := wg_of 1039 (by decide +kernel) (by decide +kernel)
theorem q_cw_yX6_freeCount : Cw yX6_freeCount cX6_freeCount 3 (some .int) 0 := ⟨q_cd_yX6_freeCount, q_in_RX6, by decide +kernel, by decide +kernel, by decide +kernel⟩
theorem q_im_yX6_freeCount : Cond.instanceMethod yX6_freeCount ∈ WG := wg_of 1037 (by decide +kernel) (by decide +kernel)
theorem q_se_yX6_freeCount : Cond.selects yX6_freeCount.cls yX6_freeCount yX6_freeCount ∈ WG := wg_of 1038 (by decide +kernel) (by decide +kernel)
theorem q_sr_RX8_195 : (RX8, 195, "the facility is free") ∈ STR := List.mem_of_getElem? (i := 8) rfl
theorem q_ml_RX8_198 : Cond.methodLink RX8 198 yX6_partCost ∈ WG := wg_of 562 (by decide +kernel) (by decide +kernel)
theorem q_fl_RX8_33 : Cond.fieldLink RX8 33 (TX8 3).1 (TX8 3).2.1 (TX8 3).2.2.1 ∈ WG := wg_of 396 (by decide +kernel) (by decide +kernel)
theorem q_fi_RX8_33 : FI RX8 33 8 3 48 RX8 TX8 8 := ⟨rfl, by decide, by decide +kernel, q_fl_RX8_33, q_us_8⟩
theorem q_kr_8_3 {k : Nat} (h : kd k = (0, 8)) : kd (k + 48) = (0, 1) := (by decide +kernel : ∀ k, k < 98 → kd k = (0, 8) → kd (k + 48) = (0, 1)) k (kd_lt h (by decide)) h
theorem q_ml_RX8_201 : Cond.methodLink RX8 201 yX1_load ∈ WG := wg_of 567 (by decide +kernel) (by decide +kernel)
theorem q_fl_RX8_204 : Cond.fieldLink RX8 204 (TX1 1).1 (TX1 1).2.1 (TX1 1).2.2.1 ∈ WG := wg_of 217 (by decide +kernel) (by decide +kernel)
theorem q_fi_RX8_204 : FI RX8 204 1 1 1 RX1 TX1 10 := ⟨rfl, by decide, by decide +kernel, q_fl_RX8_204, q_us_1⟩
theorem q_ml_RX8_207 : Cond.methodLink RX8 207 yX1_lowest ∈ WG := wg_of 600 (by decide +kernel) (by decide +kernel)
theorem q_fl_RX8_58 : Cond.fieldLink RX8 58 (TX8 7).1 (TX8 7).2.1 (TX8 7).2.2.1 ∈ WG := wg_of 400 (by decide +kernel) (by decide +kernel)
theorem q_fi_RX8_58 : FI RX8 58 8 7 74 RX8 TX8 8 := ⟨rfl, by decide, by decide +kernel, q_fl_RX8_58, q_us_8⟩
theorem q_kr_8_7 {k : Nat} (h : kd k = (0, 8)) : (kd (k + 74)).1 = 1 := (by decide +kernel : ∀ k, k < 98 → kd k = (0, 8) → (kd (k + 74)).1 = 1) k (kd_lt h (by decide)) h
theorem q_lr_8_7 {k : Nat} (h : kd k = (0, 8)) : k + 74 < 97 := (by decide +kernel : ∀ k, k < 98 → kd k = (0, 8) → k + 74 < 97) k (kd_lt h (by decide)) h
theorem q_ml_RX8_210 : Cond.methodLink RX8 210 arraycopyName ∈ WG := wg_of 1069 (by decide +kernel) (by decide +kernel)
theorem q_ml_RX8_218 : Cond.methodLink RX8 218 yX1_regretOf ∈ WG := wg_of 1078 (by decide +kernel) (by decide +kernel)
theorem q_sr_RX8_216 : (RX8, 216, "the facility is fixed") ∈ STR := List.mem_of_getElem? (i := 9) rfl
theorem q_ml_RX8_221 : Cond.methodLink RX8 221 yX1_mostRegretted ∈ WG := wg_of 620 (by decide +kernel) (by decide +kernel)
theorem q_fl_RX8_40 : Cond.fieldLink RX8 40 (TX8 4).1 (TX8 4).2.1 (TX8 4).2.2.1 ∈ WG := wg_of 397 (by decide +kernel) (by decide +kernel)
theorem q_fi_RX8_40 : FI RX8 40 8 4 54 RX8 TX8 8 := ⟨rfl, by decide, by decide +kernel, q_fl_RX8_40, q_us_8⟩
theorem q_kr_8_4 {k : Nat} (h : kd k = (0, 8)) : kd (k + 54) = (0, 7) := (by decide +kernel : ∀ k, k < 98 → kd k = (0, 8) → kd (k + 54) = (0, 7)) k (kd_lt h (by decide)) h
theorem q_ml_RX8_224 : Cond.methodLink RX8 224 yX7_load ∈ WG := wg_of 633 (by decide +kernel) (by decide +kernel)
theorem q_fl_RX8_225 : Cond.fieldLink RX8 225 (TX7 0).1 (TX7 0).2.1 (TX7 0).2.2.1 ∈ WG := wg_of 254 (by decide +kernel) (by decide +kernel)
theorem q_fi_RX8_225 : FI RX8 225 7 0 0 RX7 TX7 5 := ⟨rfl, by decide, by decide +kernel, q_fl_RX8_225, q_us_7⟩
theorem q_fl_RX8_226 : Cond.fieldLink RX8 226 (TX7 1).1 (TX7 1).2.1 (TX7 1).2.2.1 ∈ WG := wg_of 257 (by decide +kernel) (by decide +kernel)
theorem q_fi_RX8_226 : FI RX8 226 7 1 1 RX7 TX7 5 := ⟨rfl, by decide, by decide +kernel, q_fl_RX8_226, q_us_7⟩
theorem q_fl_RX8_47 : Cond.fieldLink RX8 47 (TX8 5).1 (TX8 5).2.1 (TX8 5).2.2.1 ∈ WG := wg_of 398 (by decide +kernel) (by decide +kernel)
theorem q_fi_RX8_47 : FI RX8 47 8 5 57 RX8 TX8 8 := ⟨rfl, by decide, by decide +kernel, q_fl_RX8_47, q_us_8⟩
theorem q_kr_8_5 {k : Nat} (h : kd k = (0, 8)) : kd (k + 57) = (0, 5) := (by decide +kernel : ∀ k, k < 98 → kd k = (0, 8) → kd (k + 57) = (0, 5)) k (kd_lt h (by decide)) h
theorem q_ml_RX8_228 : Cond.methodLink RX8 228 yX5_make ∈ WG := wg_of 661 (by decide +kernel) (by decide +kernel)
theorem q_cd_yX5_make : Cond.code yX5_make cX5_make 5 none ∈ WG := wg_of 664 (by decide +kernel) (by decide +kernel)
theorem q_cw_yX5_make : Cw yX5_make cX5_make 5 none 3 := ⟨q_cd_yX5_make, q_in_RX5, by decide +kernel, by decide +kernel, by decide +kernel⟩
theorem q_im_yX5_make : Cond.instanceMethod yX5_make ∈ WG := wg_of 662 (by decide +kernel) (by decide +kernel)
theorem q_se_yX5_make : Cond.selects yX5_make.cls yX5_make yX5_make ∈ WG := wg_of 663 (by decide +kernel) (by decide +kernel)
theorem q_fl_RX8_232 : Cond.fieldLink RX8 232 (TX5 1).1 (TX5 1).2.1 (TX5 1).2.2.1 ∈ WG := wg_of 304 (by decide +kernel) (by decide +kernel)
theorem q_fi_RX8_232 : FI RX8 232 5 1 0 RX5 TX5 17 := ⟨rfl, by decide, by decide +kernel, q_fl_RX8_232, q_us_5⟩
theorem q_ml_RX8_237 : Cond.methodLink RX8 237 yX5_result ∈ WG := wg_of 806 (by decide +kernel) (by decide +kernel)
theorem q_cd_yX5_result : Cond.code yX5_result cX5_result 2 (some .int) ∈ WG := wg_of 809 (by decide +kernel) (by decide +kernel)
theorem q_cw_yX5_result : Cw yX5_result cX5_result 2 (some .int) 1 := ⟨q_cd_yX5_result, q_in_RX5, by decide +kernel, by decide +kernel, by decide +kernel⟩
theorem q_im_yX5_result : Cond.instanceMethod yX5_result ∈ WG := wg_of 807 (by decide +kernel) (by decide +kernel)
theorem q_se_yX5_result : Cond.selects yX5_result.cls yX5_result yX5_result ∈ WG := wg_of 808 (by decide +kernel) (by decide +kernel)
theorem q_sr_RX8_235 : (RX8, 235, "there is no such result") ∈ STR := List.mem_of_getElem? (i := 10) rfl
theorem q_fl_RX8_242 : Cond.fieldLink RX8 242 (TX5 0).1 (TX5 0).2.1 (TX5 0).2.2.1 ∈ WG := wg_of 302 (by decide +kernel) (by decide +kernel)
theorem q_fi_RX8_242 : FI RX8 242 5 0 0 RX5 TX5 17 := ⟨rfl, by decide, by decide +kernel, q_fl_RX8_242, q_us_5⟩
theorem q_fl_RX8_246 : Cond.fieldLink RX8 246 (TX5 2).1 (TX5 2).2.1 (TX5 2).2.2.1 ∈ WG := wg_of 306 (by decide +kernel) (by decide +kernel)
theorem q_fi_RX8_246 : FI RX8 246 5 2 1 RX5 TX5 17 := ⟨rfl, by decide, by decide +kernel, q_fl_RX8_246, q_us_5⟩
theorem q_sr_RX8_240 : (RX8, 240, "the number of pairs is out of range") ∈ STR := List.mem_of_getElem? (i := 11) rfl
theorem q_fl_RX8_54 : Cond.fieldLink RX8 54 (TX8 6).1 (TX8 6).2.1 (TX8 6).2.2.1 ∈ WG := wg_of 399 (by decide +kernel) (by decide +kernel)
theorem q_fi_RX8_54 : FI RX8 54 8 6 72 RX8 TX8 8 := ⟨rfl, by decide, by decide +kernel, q_fl_RX8_54, q_us_8⟩
theorem q_kr_8_6 {k : Nat} (h : kd k = (0, 8)) : kd (k + 72) = (0, 4) := (by decide +kernel : ∀ k, k < 98 → kd k = (0, 8) → kd (k + 72) = (0, 4)) k (kd_lt h (by decide)) h
theorem q_lr_8_6 {k : Nat} (h : kd k = (0, 8)) : k + 72 < 97 := (by decide +kernel : ∀ k, k < 98 → kd k = (0, 8) → k + 72 < 97) k (kd_lt h (by decide)) h
theorem q_fl_RX8_251 : Cond.fieldLink RX8 251 (TX4 0).1 (TX4 0).2.1 (TX4 0).2.2.1 ∈ WG := wg_of 363 (by decide +kernel) (by decide +kernel)
theorem q_fi_RX8_251 : FI RX8 251 4 0 0 RX4 TX4 8 := ⟨rfl, by decide, by decide +kernel, q_fl_RX8_251, q_us_4⟩
theorem q_ml_RX8_256 : Cond.methodLink RX8 256 yX4_append ∈ WG := wg_of 1111 (by decide +kernel) (by decide +kernel)
theorem q_cd_yX4_append : Cond.code yX4_append cX4_append 2 none ∈ WG := wg_of 1114 (by decide +kernel) (by decide +kernel)
theorem q_cw_yX4_append : Cw yX4_append cX4_append 2 none 1 := ⟨q_cd_yX4_append, q_in_RX4, by decide +kernel, by decide +kernel, by decide +kernel⟩
theorem q_im_yX4_append : Cond.instanceMethod yX4_append ∈ WG := wg_of 1112 (by decide +kernel) (by decide +kernel)
theorem q_se_yX4_append : Cond.selects yX4_append.cls yX4_append yX4_append ∈ WG := wg_of 1113 (by decide +kernel) (by decide +kernel)
theorem q_sr_RX8_249 : (RX8, 249, "the code is out of range") ∈ STR := List.mem_of_getElem? (i := 12) rfl
theorem q_sr_RX8_254 : (RX8, 254, "the text is full") ∈ STR := List.mem_of_getElem? (i := 13) rfl
theorem q_fp_RX8_251 : FP RX8 251 4 0 0 RX4 TX4 8 .int := ⟨q_fi_RX8_251, ⟨tyX4, tyX4_ok⟩, nmX4, by decide +kernel, by decide +kernel, by decide +kernel⟩
theorem q_ml_RX8_260 : Cond.methodLink RX8 260 yX4_firstFault ∈ WG := wg_of 749 (by decide +kernel) (by decide +kernel)
theorem q_cd_yX4_firstFault : Cond.code yX4_firstFault cX4_firstFault 2 (some .int) ∈ WG := wg_of 752 (by decide +kernel) (by decide +kernel)
theorem q_cw_yX4_firstFault : Cw yX4_firstFault cX4_firstFault 2 (some .int) 0 := ⟨q_cd_yX4_firstFault, q_in_RX4, by decide +kernel, by decide +kernel, by decide +kernel⟩
theorem q_im_yX4_firstFault : Cond.instanceMethod yX4_firstFault ∈ WG := wg_of 750 (by decide +kernel) (by decide +kernel)
theorem q_se_yX4_firstFault : Cond.selects yX4_firstFault.cls yX4_firstFault yX4_firstFault ∈ WG := wg_of 751 (by decide +kernel) (by decide +kernel)
theorem q_ml_RX8_265 : Cond.methodLink RX8 265 yX4_rewind ∈ WG := wg_of 1123 (by decide +kernel) (by decide +kernel)
theorem q_ml_RX8_268 : Cond.methodLink RX8 268 yX4_nextCommand ∈ WG := wg_of 1124 (by decide +kernel) (by decide +kernel)
theorem q_fl_RX8_272 : Cond.fieldLink RX8 272 (TX4 2).1 (TX4 2).2.1 (TX4 2).2.2.1 ∈ WG := wg_of 367 (by decide +kernel) (by decide +kernel)
theorem q_fi_RX8_272 : FI RX8 272 4 2 0 RX4 TX4 8 := ⟨rfl, by decide, by decide +kernel, q_fl_RX8_272, q_us_4⟩
theorem q_fl_RX8_275 : Cond.fieldLink RX8 275 (TX4 3).1 (TX4 3).2.1 (TX4 3).2.2.1 ∈ WG := wg_of 369 (by decide +kernel) (by decide +kernel)
theorem q_fi_RX8_275 : FI RX8 275 4 3 0 RX4 TX4 8 := ⟨rfl, by decide, by decide +kernel, q_fl_RX8_275, q_us_4⟩
theorem q_fl_RX8_278 : Cond.fieldLink RX8 278 (TX4 1).1 (TX4 1).2.1 (TX4 1).2.2.1 ∈ WG := wg_of 365 (by decide +kernel) (by decide +kernel)
theorem q_fi_RX8_278 : FI RX8 278 4 1 0 RX4 TX4 8 := ⟨rfl, by decide, by decide +kernel, q_fl_RX8_278, q_us_4⟩
theorem q_fl_RX8_281 : Cond.fieldLink RX8 281 (TX4 4).1 (TX4 4).2.1 (TX4 4).2.2.1 ∈ WG := wg_of 371 (by decide +kernel) (by decide +kernel)
theorem q_fi_RX8_281 : FI RX8 281 4 4 0 RX4 TX4 8 := ⟨rfl, by decide, by decide +kernel, q_fl_RX8_281, q_us_4⟩
theorem q_sr_RX8_263 : (RX8, 263, "the text has a fault") ∈ STR := List.mem_of_getElem? (i := 14) rfl
theorem q_fl_RX8_284 : Cond.fieldLink RX8 284 (TX2 0).1 (TX2 0).2.1 (TX2 0).2.2.1 ∈ WG := wg_of 170 (by decide +kernel) (by decide +kernel)
theorem q_fi_RX8_284 : FI RX8 284 2 0 0 RX2 TX2 3 := ⟨rfl, by decide, by decide +kernel, q_fl_RX8_284, q_us_2⟩
theorem q_ml_RX8_287 : Cond.methodLink RX8 287 yX2_popInto ∈ WG := wg_of 1133 (by decide +kernel) (by decide +kernel)
theorem q_cd_yX2_popInto : Cond.code yX2_popInto cX2_popInto 3 none ∈ WG := wg_of 1136 (by decide +kernel) (by decide +kernel)
theorem q_cw_yX2_popInto : Cw yX2_popInto cX2_popInto 3 none 1 := ⟨q_cd_yX2_popInto, q_in_RX2, by decide +kernel, by decide +kernel, by decide +kernel⟩
theorem q_im_yX2_popInto : Cond.instanceMethod yX2_popInto ∈ WG := wg_of 1134 (by decide +kernel) (by decide +kernel)
theorem q_se_yX2_popInto : Cond.selects yX2_popInto.cls yX2_popInto yX2_popInto ∈ WG := wg_of 1135 (by decide +kernel) (by decide +kernel)
theorem q_sr_RX8_285 : (RX8, 285, "there is no record") ∈ STR := List.mem_of_getElem? (i := 15) rfl
theorem q_ct_RX8_313 : Cond.constantLong RX8 313 (31 : Int64) ∈ WG := wg_of 797 (by decide +kernel) (by decide +kernel)
theorem q_ml_RX8_292 : Cond.methodLink RX8 292 yX8_mix ∈ WG := wg_of 794 (by decide +kernel) (by decide +kernel)
theorem q_cd_yX8_mix : Cond.code yX8_mix cX8_mix 3 (some .long) ∈ WG := wg_of 796 (by decide +kernel) (by decide +kernel)
theorem q_cw_yX8_mix : Cw yX8_mix cX8_mix 3 (some .long) 2 := ⟨q_cd_yX8_mix, q_in_RX8, by decide +kernel, by decide +kernel, by decide +kernel⟩
theorem q_st_yX8_mix : Cond.static yX8_mix ∈ WG := wg_of 795 (by decide +kernel) (by decide +kernel)
theorem q_ct_RX8_290 : Cond.constantLong RX8 290 (18459 : Int64) ∈ WG := wg_of 793 (by decide +kernel) (by decide +kernel)
theorem q_fl_RX8_296 : Cond.fieldLink RX8 296 (TX6 1).1 (TX6 1).2.1 (TX6 1).2.2.1 ∈ WG := wg_of 132 (by decide +kernel) (by decide +kernel)
theorem q_fi_RX8_296 : FI RX8 296 6 1 1 RX6 TX6 6 := ⟨rfl, by decide, by decide +kernel, q_fl_RX8_296, q_us_6⟩
theorem q_ml_RX8_299 : Cond.methodLink RX8 299 yX8_mixTable ∈ WG := wg_of 798 (by decide +kernel) (by decide +kernel)
theorem q_cd_yX8_mixTable : Cond.code yX8_mixTable cX8_mixTable 8 (some .long) ∈ WG := wg_of 801 (by decide +kernel) (by decide +kernel)
theorem q_cw_yX8_mixTable : Cw yX8_mixTable cX8_mixTable 8 (some .long) 2 := ⟨q_cd_yX8_mixTable, q_in_RX8, by decide +kernel, by decide +kernel, by decide +kernel⟩
theorem q_im_yX8_mixTable : Cond.instanceMethod yX8_mixTable ∈ WG := wg_of 800 (by decide +kernel) (by decide +kernel)
theorem q_se_yX8_mixTable : Cond.selects yX8_mixTable.cls yX8_mixTable yX8_mixTable ∈ WG := wg_of 27 (by decide +kernel) (by decide +kernel)
theorem q_fl_RX8_303 : Cond.fieldLink RX8 303 (TX6 2).1 (TX6 2).2.1 (TX6 2).2.2.1 ∈ WG := wg_of 136 (by decide +kernel) (by decide +kernel)
theorem q_fi_RX8_303 : FI RX8 303 6 2 2 RX6 TX6 6 := ⟨rfl, by decide, by decide +kernel, q_fl_RX8_303, q_us_6⟩
theorem q_fl_RX8_306 : Cond.fieldLink RX8 306 (TX6 3).1 (TX6 3).2.1 (TX6 3).2.2.1 ∈ WG := wg_of 140 (by decide +kernel) (by decide +kernel)
theorem q_fi_RX8_306 : FI RX8 306 6 3 3 RX6 TX6 6 := ⟨rfl, by decide, by decide +kernel, q_fl_RX8_306, q_us_6⟩
theorem q_ml_RX8_309 : Cond.methodLink RX8 309 yX8_mixRow ∈ WG := wg_of 803 (by decide +kernel) (by decide +kernel)
theorem q_cd_yX8_mixRow : Cond.code yX8_mixRow cX8_mixRow 7 (some .long) ∈ WG := wg_of 805 (by decide +kernel) (by decide +kernel)
theorem q_cw_yX8_mixRow : Cw yX8_mixRow cX8_mixRow 7 (some .long) 3 := ⟨q_cd_yX8_mixRow, q_in_RX8, by decide +kernel, by decide +kernel, by decide +kernel⟩
theorem q_st_yX8_mixRow : Cond.static yX8_mixRow ∈ WG := wg_of 804 (by decide +kernel) (by decide +kernel)
theorem q_lo_9 {k : Nat} (h : kd k = (0, 9)) : k < 97 := (by decide +kernel : ∀ k, k < 98 → kd k = (0, 9) → k < 97) k (kd_lt h (by decide)) h
theorem q_fl_RX9_75 : Cond.fieldLink RX9 75 (TX9 6).1 (TX9 6).2.1 (TX9 6).2.2.1 ∈ WG := wg_of 1154 (by decide +kernel) (by decide +kernel)
theorem q_us_9 : ∀ w ∈ u_ws RX9 TX9 28, w ∈ WG := fun w hw => List.mem_filter.mpr ⟨(by decide +kernel : ∀ w ∈ u_ws RX9 TX9 28, w ∈ lw_tbl) w hw, (by decide +kernel : ∀ w ∈ u_ws RX9 TX9 28, goodWord w = true) w hw⟩
theorem q_fi_RX9_75 : FI RX9 75 9 6 0 RX9 TX9 28 := ⟨rfl, by decide, by decide +kernel, q_fl_RX9_75, q_us_9⟩
theorem q_fp_RX9_75 : FP RX9 75 9 6 0 RX9 TX9 28 .int := ⟨q_fi_RX9_75, ⟨tyX9, tyX9_ok⟩, nmX9, by decide +kernel, by decide +kernel, by decide +kernel⟩
theorem q_fl_RX9_16 : Cond.fieldLink RX9 16 (TX9 2).1 (TX9 2).2.1 (TX9 2).2.2.1 ∈ WG := wg_of 1150 (by decide +kernel) (by decide +kernel)
theorem q_fi_RX9_16 : FI RX9 16 9 2 3 RX9 TX9 28 := ⟨rfl, by decide, by decide +kernel, q_fl_RX9_16, q_us_9⟩
theorem q_kr_9_2 {k : Nat} (h : kd k = (0, 9)) : (kd (k + 3)).1 = 1 := (by decide +kernel : ∀ k, k < 98 → kd k = (0, 9) → (kd (k + 3)).1 = 1) k (kd_lt h (by decide)) h
theorem q_lr_9_2 {k : Nat} (h : kd k = (0, 9)) : k + 3 < 97 := (by decide +kernel : ∀ k, k < 98 → kd k = (0, 9) → k + 3 < 97) k (kd_lt h (by decide)) h
theorem q_fl_RX9_7 : Cond.fieldLink RX9 7 (TX9 0).1 (TX9 0).2.1 (TX9 0).2.2.1 ∈ WG := wg_of 1148 (by decide +kernel) (by decide +kernel)
theorem q_fi_RX9_7 : FI RX9 7 9 0 1 RX9 TX9 28 := ⟨rfl, by decide, by decide +kernel, q_fl_RX9_7, q_us_9⟩
theorem q_kr_9_0 {k : Nat} (h : kd k = (0, 9)) : (kd (k + 1)).1 = 1 := (by decide +kernel : ∀ k, k < 98 → kd k = (0, 9) → (kd (k + 1)).1 = 1) k (kd_lt h (by decide)) h
theorem q_lr_9_0 {k : Nat} (h : kd k = (0, 9)) : k + 1 < 97 := (by decide +kernel : ∀ k, k < 98 → kd k = (0, 9) → k + 1 < 97) k (kd_lt h (by decide)) h
theorem q_fl_RX9_79 : Cond.fieldLink RX9 79 (TX9 3).1 (TX9 3).2.1 (TX9 3).2.2.1 ∈ WG := wg_of 1151 (by decide +kernel) (by decide +kernel)
theorem q_fi_RX9_79 : FI RX9 79 9 3 0 RX9 TX9 28 := ⟨rfl, by decide, by decide +kernel, q_fl_RX9_79, q_us_9⟩
theorem q_fl_RX9_13 : Cond.fieldLink RX9 13 (TX9 1).1 (TX9 1).2.1 (TX9 1).2.2.1 ∈ WG := wg_of 1149 (by decide +kernel) (by decide +kernel)
theorem q_fi_RX9_13 : FI RX9 13 9 1 2 RX9 TX9 28 := ⟨rfl, by decide, by decide +kernel, q_fl_RX9_13, q_us_9⟩
theorem q_kr_9_1 {k : Nat} (h : kd k = (0, 9)) : (kd (k + 2)).1 = 1 := (by decide +kernel : ∀ k, k < 98 → kd k = (0, 9) → (kd (k + 2)).1 = 1) k (kd_lt h (by decide)) h
theorem q_lr_9_1 {k : Nat} (h : kd k = (0, 9)) : k + 2 < 97 := (by decide +kernel : ∀ k, k < 98 → kd k = (0, 9) → k + 2 < 97) k (kd_lt h (by decide)) h
theorem q_fp_RX9_79 : FP RX9 79 9 3 0 RX9 TX9 28 .int := ⟨q_fi_RX9_79, ⟨tyX9, tyX9_ok⟩, nmX9, by decide +kernel, by decide +kernel, by decide +kernel⟩
theorem q_ml_RX9_82 : Cond.methodLink RX9 82 yX9_tells ∈ WG := wg_of 1257 (by decide +kernel) (by decide +kernel)
theorem q_cd_yX9_tells : Cond.code yX9_tells cX9_tells 2 (some .int) ∈ WG := wg_of 1260 (by decide +kernel) (by decide +kernel)
theorem q_in_RX9 : Cond.initialized RX9 ∈ WG := wg_of 96 (by decide +kernel) (by decide +kernel)
theorem q_cw_yX9_tells : Cw yX9_tells cX9_tells 2 (some .int) 1 := ⟨q_cd_yX9_tells, q_in_RX9, by decide +kernel, by decide +kernel, by decide +kernel⟩
theorem q_im_yX9_tells : Cond.instanceMethod yX9_tells ∈ WG := wg_of 1259 (by decide +kernel) (by decide +kernel)
theorem q_se_yX9_tells : Cond.selects yX9_tells.cls yX9_tells yX9_tells ∈ WG := wg_of 35 (by decide +kernel) (by decide +kernel)
theorem q_ml_RX9_86 : Cond.methodLink RX9 86 yX9_in ∈ WG := wg_of 1242 (by decide +kernel) (by decide +kernel)
theorem q_cd_yX9_in : Cond.code yX9_in cX9_in 3 (some .boolean) ∈ WG := wg_of 1244 (by decide +kernel) (by decide +kernel)
theorem q_cw_yX9_in : Cw yX9_in cX9_in 3 (some .boolean) 3 := ⟨q_cd_yX9_in, q_in_RX9, by decide +kernel, by decide +kernel, by decide +kernel⟩
theorem q_st_yX9_in : Cond.static yX9_in ∈ WG := wg_of 1243 (by decide +kernel) (by decide +kernel)
theorem q_ml_RX9_90 : Cond.methodLink RX9 90 yX9_placeOf ∈ WG := wg_of 1273 (by decide +kernel) (by decide +kernel)
theorem q_cd_yX9_placeOf : Cond.code yX9_placeOf cX9_placeOf 3 (some .int) ∈ WG := wg_of 1275 (by decide +kernel) (by decide +kernel)
theorem q_cw_yX9_placeOf : Cw yX9_placeOf cX9_placeOf 3 (some .int) 3 := ⟨q_cd_yX9_placeOf, q_in_RX9, by decide +kernel, by decide +kernel, by decide +kernel⟩
theorem q_st_yX9_placeOf : Cond.static yX9_placeOf ∈ WG := wg_of 1274 (by decide +kernel) (by decide +kernel)
theorem q_ml_RX9_97 : Cond.methodLink RX9 97 yX9_hold ∈ WG := wg_of 1249 (by decide +kernel) (by decide +kernel)
theorem q_cd_yX9_hold : Cond.code yX9_hold cX9_hold 2 none ∈ WG := wg_of 1252 (by decide +kernel) (by decide +kernel)
theorem q_cw_yX9_hold : Cw yX9_hold cX9_hold 2 none 0 := ⟨q_cd_yX9_hold, q_in_RX9, by decide +kernel, by decide +kernel, by decide +kernel⟩
theorem q_im_yX9_hold : Cond.instanceMethod yX9_hold ∈ WG := wg_of 1251 (by decide +kernel) (by decide +kernel)
theorem q_se_yX9_hold : Cond.selects yX9_hold.cls yX9_hold yX9_hold ∈ WG := wg_of 33 (by decide +kernel) (by decide +kernel)
theorem q_ml_RX9_71 : Cond.methodLink RX9 71 yX9_begins ∈ WG := wg_of 1144 (by decide +kernel) (by decide +kernel)
theorem q_cd_yX9_begins : Cond.code yX9_begins cX9_begins 3 none ∈ WG := wg_of 1147 (by decide +kernel) (by decide +kernel)
theorem q_cw_yX9_begins : Cw yX9_begins cX9_begins 3 none 1 := ⟨q_cd_yX9_begins, q_in_RX9, by decide +kernel, by decide +kernel, by decide +kernel⟩
theorem q_im_yX9_begins : Cond.instanceMethod yX9_begins ∈ WG := wg_of 1146 (by decide +kernel) (by decide +kernel)
theorem q_se_yX9_begins : Cond.selects yX9_begins.cls yX9_begins yX9_begins ∈ WG := wg_of 31 (by decide +kernel) (by decide +kernel)
theorem q_ml_RX9_100 : Cond.methodLink RX9 100 yX9_ends ∈ WG := wg_of 1253 (by decide +kernel) (by decide +kernel)
theorem q_cd_yX9_ends : Cond.code yX9_ends cX9_ends 3 (some .int) ∈ WG := wg_of 1256 (by decide +kernel) (by decide +kernel)
theorem q_cw_yX9_ends : Cw yX9_ends cX9_ends 3 (some .int) 1 := ⟨q_cd_yX9_ends, q_in_RX9, by decide +kernel, by decide +kernel, by decide +kernel⟩
theorem q_im_yX9_ends : Cond.instanceMethod yX9_ends ∈ WG := wg_of 1255 (by decide +kernel) (by decide +kernel)
theorem q_se_yX9_ends : Cond.selects yX9_ends.cls yX9_ends yX9_ends ∈ WG := wg_of 34 (by decide +kernel) (by decide +kernel)
theorem q_ml_RX9_94 : Cond.methodLink RX9 94 yX9_fails ∈ WG := wg_of 1245 (by decide +kernel) (by decide +kernel)
theorem q_cd_yX9_fails : Cond.code yX9_fails cX9_fails 2 (some .int) ∈ WG := wg_of 1248 (by decide +kernel) (by decide +kernel)
theorem q_cw_yX9_fails : Cw yX9_fails cX9_fails 2 (some .int) 1 := ⟨q_cd_yX9_fails, q_in_RX9, by decide +kernel, by decide +kernel, by decide +kernel⟩
theorem q_im_yX9_fails : Cond.instanceMethod yX9_fails ∈ WG := wg_of 1247 (by decide +kernel) (by decide +kernel)
theorem q_se_yX9_fails : Cond.selects yX9_fails.cls yX9_fails yX9_fails ∈ WG := wg_of 32 (by decide +kernel) (by decide +kernel)
theorem q_ml_RX9_103 : Cond.methodLink RX9 103 yX9_isOne ∈ WG := wg_of 1269 (by decide +kernel) (by decide +kernel)
theorem q_cd_yX9_isOne : Cond.code yX9_isOne cX9_isOne 2 (some .boolean) ∈ WG := wg_of 1272 (by decide +kernel) (by decide +kernel)
theorem q_cw_yX9_isOne : Cw yX9_isOne cX9_isOne 2 (some .boolean) 1 := ⟨q_cd_yX9_isOne, q_in_RX9, by decide +kernel, by decide +kernel, by decide +kernel⟩
theorem q_im_yX9_isOne : Cond.instanceMethod yX9_isOne ∈ WG := wg_of 1271 (by decide +kernel) (by decide +kernel)
theorem q_se_yX9_isOne : Cond.selects yX9_isOne.cls yX9_isOne yX9_isOne ∈ WG := wg_of 36 (by decide +kernel) (by decide +kernel)
theorem q_ct_RX9_107 : Cond.constantLong RX9 107 (1103515245 : Int64) ∈ WG := wg_of 1284 (by decide +kernel) (by decide +kernel)
theorem q_ct_RX9_109 : Cond.constantLong RX9 109 (12345 : Int64) ∈ WG := wg_of 1285 (by decide +kernel) (by decide +kernel)
theorem q_ct_RX9_111 : Cond.constantLong RX9 111 (2147483648 : Int64) ∈ WG := wg_of 1286 (by decide +kernel) (by decide +kernel)
theorem q_ct_RX9_113 : Cond.constantLong RX9 113 (65536 : Int64) ∈ WG := wg_of 1287 (by decide +kernel) (by decide +kernel)
theorem q_fl_RX9_22 : Cond.fieldLink RX9 22 (TX9 7).1 (TX9 7).2.1 (TX9 7).2.2.1 ∈ WG := wg_of 1155 (by decide +kernel) (by decide +kernel)
theorem q_fi_RX9_22 : FI RX9 22 9 7 5 RX9 TX9 28 := ⟨rfl, by decide, by decide +kernel, q_fl_RX9_22, q_us_9⟩
theorem q_kr_9_7 {k : Nat} (h : kd k = (0, 9)) : (kd (k + 5)).1 = 1 := (by decide +kernel : ∀ k, k < 98 → kd k = (0, 9) → (kd (k + 5)).1 = 1) k (kd_lt h (by decide)) h
theorem q_lr_9_7 {k : Nat} (h : kd k = (0, 9)) : k + 5 < 97 := (by decide +kernel : ∀ k, k < 98 → kd k = (0, 9) → k + 5 < 97) k (kd_lt h (by decide)) h
theorem q_ml_RX9_115 : Cond.methodLink RX9 115 yX9_swaps ∈ WG := wg_of 1336 (by decide +kernel) (by decide +kernel)
theorem q_cd_yX9_swaps : Cond.code yX9_swaps cX9_swaps 4 none ∈ WG := wg_of 1339 (by decide +kernel) (by decide +kernel)
theorem q_cw_yX9_swaps : Cw yX9_swaps cX9_swaps 4 none 2 := ⟨q_cd_yX9_swaps, q_in_RX9, by decide +kernel, by decide +kernel, by decide +kernel⟩
theorem q_im_yX9_swaps : Cond.instanceMethod yX9_swaps ∈ WG := wg_of 1338 (by decide +kernel) (by decide +kernel)
theorem q_se_yX9_swaps : Cond.selects yX9_swaps.cls yX9_swaps yX9_swaps ∈ WG := wg_of 46 (by decide +kernel) (by decide +kernel)
theorem q_ml_RX9_119 : Cond.methodLink RX9 119 yX9_price ∈ WG := wg_of 1308 (by decide +kernel) (by decide +kernel)
theorem q_cd_yX9_price : Cond.code yX9_price cX9_price 3 (some .int) ∈ WG := wg_of 1311 (by decide +kernel) (by decide +kernel)
theorem q_cw_yX9_price : Cw yX9_price cX9_price 3 (some .int) 2 := ⟨q_cd_yX9_price, q_in_RX9, by decide +kernel, by decide +kernel, by decide +kernel⟩
theorem q_im_yX9_price : Cond.instanceMethod yX9_price ∈ WG := wg_of 1310 (by decide +kernel) (by decide +kernel)
theorem q_se_yX9_price : Cond.selects yX9_price.cls yX9_price yX9_price ∈ WG := wg_of 40 (by decide +kernel) (by decide +kernel)
theorem q_ml_RX9_123 : Cond.methodLink RX9 123 yX9_flow ∈ WG := wg_of 1312 (by decide +kernel) (by decide +kernel)
theorem q_cd_yX9_flow : Cond.code yX9_flow cX9_flow 3 (some .int) ∈ WG := wg_of 1315 (by decide +kernel) (by decide +kernel)
theorem q_cw_yX9_flow : Cw yX9_flow cX9_flow 3 (some .int) 2 := ⟨q_cd_yX9_flow, q_in_RX9, by decide +kernel, by decide +kernel, by decide +kernel⟩
theorem q_im_yX9_flow : Cond.instanceMethod yX9_flow ∈ WG := wg_of 1314 (by decide +kernel) (by decide +kernel)
theorem q_se_yX9_flow : Cond.selects yX9_flow.cls yX9_flow yX9_flow ∈ WG := wg_of 41 (by decide +kernel) (by decide +kernel)
theorem q_ml_RX9_126 : Cond.methodLink RX9 126 yX9_far ∈ WG := wg_of 1316 (by decide +kernel) (by decide +kernel)
theorem q_cd_yX9_far : Cond.code yX9_far cX9_far 3 (some .int) ∈ WG := wg_of 1319 (by decide +kernel) (by decide +kernel)
theorem q_cw_yX9_far : Cw yX9_far cX9_far 3 (some .int) 2 := ⟨q_cd_yX9_far, q_in_RX9, by decide +kernel, by decide +kernel, by decide +kernel⟩
theorem q_im_yX9_far : Cond.instanceMethod yX9_far ∈ WG := wg_of 1318 (by decide +kernel) (by decide +kernel)
theorem q_se_yX9_far : Cond.selects yX9_far.cls yX9_far yX9_far ∈ WG := wg_of 42 (by decide +kernel) (by decide +kernel)
theorem q_ml_RX9_129 : Cond.methodLink RX9 129 yX9_takes ∈ WG := wg_of 1300 (by decide +kernel) (by decide +kernel)
theorem q_cd_yX9_takes : Cond.code yX9_takes cX9_takes 2 none ∈ WG := wg_of 1303 (by decide +kernel) (by decide +kernel)
theorem q_cw_yX9_takes : Cw yX9_takes cX9_takes 2 none 0 := ⟨q_cd_yX9_takes, q_in_RX9, by decide +kernel, by decide +kernel, by decide +kernel⟩
theorem q_im_yX9_takes : Cond.instanceMethod yX9_takes ∈ WG := wg_of 1302 (by decide +kernel) (by decide +kernel)
theorem q_se_yX9_takes : Cond.selects yX9_takes.cls yX9_takes yX9_takes ∈ WG := wg_of 38 (by decide +kernel) (by decide +kernel)
theorem q_ml_RX9_132 : Cond.methodLink RX9 132 yX9_costOf ∈ WG := wg_of 1304 (by decide +kernel) (by decide +kernel)
theorem q_cd_yX9_costOf : Cond.code yX9_costOf cX9_costOf 4 (some .int) ∈ WG := wg_of 1307 (by decide +kernel) (by decide +kernel)
theorem q_cw_yX9_costOf : Cw yX9_costOf cX9_costOf 4 (some .int) 0 := ⟨q_cd_yX9_costOf, q_in_RX9, by decide +kernel, by decide +kernel, by decide +kernel⟩
theorem q_im_yX9_costOf : Cond.instanceMethod yX9_costOf ∈ WG := wg_of 1306 (by decide +kernel) (by decide +kernel)
theorem q_se_yX9_costOf : Cond.selects yX9_costOf.cls yX9_costOf yX9_costOf ∈ WG := wg_of 39 (by decide +kernel) (by decide +kernel)
theorem q_ml_RX9_136 : Cond.methodLink RX9 136 yX9_presentCost ∈ WG := wg_of 1296 (by decide +kernel) (by decide +kernel)
theorem q_cd_yX9_presentCost : Cond.code yX9_presentCost cX9_presentCost 1 (some .int) ∈ WG := wg_of 1299 (by decide +kernel) (by decide +kernel)
theorem q_cw_yX9_presentCost : Cw yX9_presentCost cX9_presentCost 1 (some .int) 0 := ⟨q_cd_yX9_presentCost, q_in_RX9, by decide +kernel, by decide +kernel, by decide +kernel⟩
theorem q_im_yX9_presentCost : Cond.instanceMethod yX9_presentCost ∈ WG := wg_of 1298 (by decide +kernel) (by decide +kernel)
theorem q_se_yX9_presentCost : Cond.selects yX9_presentCost.cls yX9_presentCost yX9_presentCost ∈ WG := wg_of 37 (by decide +kernel) (by decide +kernel)
theorem q_ml_RX9_139 : Cond.methodLink RX9 139 yX9_assignments ∈ WG := wg_of 1324 (by decide +kernel) (by decide +kernel)
theorem q_cd_yX9_assignments : Cond.code yX9_assignments cX9_assignments 3 (some .int) ∈ WG := wg_of 1327 (by decide +kernel) (by decide +kernel)
theorem q_cw_yX9_assignments : Cw yX9_assignments cX9_assignments 3 (some .int) 0 := ⟨q_cd_yX9_assignments, q_in_RX9, by decide +kernel, by decide +kernel, by decide +kernel⟩
theorem q_im_yX9_assignments : Cond.instanceMethod yX9_assignments ∈ WG := wg_of 1326 (by decide +kernel) (by decide +kernel)
theorem q_se_yX9_assignments : Cond.selects yX9_assignments.cls yX9_assignments yX9_assignments ∈ WG := wg_of 43 (by decide +kernel) (by decide +kernel)
theorem q_ml_RX9_142 : Cond.methodLink RX9 142 yX9_firsts ∈ WG := wg_of 1328 (by decide +kernel) (by decide +kernel)
theorem q_cd_yX9_firsts : Cond.code yX9_firsts cX9_firsts 2 none ∈ WG := wg_of 1331 (by decide +kernel) (by decide +kernel)
theorem q_cw_yX9_firsts : Cw yX9_firsts cX9_firsts 2 none 0 := ⟨q_cd_yX9_firsts, q_in_RX9, by decide +kernel, by decide +kernel, by decide +kernel⟩
theorem q_im_yX9_firsts : Cond.instanceMethod yX9_firsts ∈ WG := wg_of 1330 (by decide +kernel) (by decide +kernel)
theorem q_se_yX9_firsts : Cond.selects yX9_firsts.cls yX9_firsts yX9_firsts ∈ WG := wg_of 44 (by decide +kernel) (by decide +kernel)
theorem q_ml_RX9_145 : Cond.methodLink RX9 145 yX9_goesOn ∈ WG := wg_of 1332 (by decide +kernel) (by decide +kernel)
theorem q_cd_yX9_goesOn : Cond.code yX9_goesOn cX9_goesOn 5 (some .boolean) ∈ WG := wg_of 1335 (by decide +kernel) (by decide +kernel)
theorem q_cw_yX9_goesOn : Cw yX9_goesOn cX9_goesOn 5 (some .boolean) 0 := ⟨q_cd_yX9_goesOn, q_in_RX9, by decide +kernel, by decide +kernel, by decide +kernel⟩
theorem q_im_yX9_goesOn : Cond.instanceMethod yX9_goesOn ∈ WG := wg_of 1334 (by decide +kernel) (by decide +kernel)
theorem q_se_yX9_goesOn : Cond.selects yX9_goesOn.cls yX9_goesOn yX9_goesOn ∈ WG := wg_of 45 (by decide +kernel) (by decide +kernel)
theorem q_ml_RX9_149 : Cond.methodLink RX9 149 yX9_keeps ∈ WG := wg_of 1340 (by decide +kernel) (by decide +kernel)
theorem q_cd_yX9_keeps : Cond.code yX9_keeps cX9_keeps 2 none ∈ WG := wg_of 1343 (by decide +kernel) (by decide +kernel)
theorem q_cw_yX9_keeps : Cw yX9_keeps cX9_keeps 2 none 0 := ⟨q_cd_yX9_keeps, q_in_RX9, by decide +kernel, by decide +kernel, by decide +kernel⟩
theorem q_im_yX9_keeps : Cond.instanceMethod yX9_keeps ∈ WG := wg_of 1342 (by decide +kernel) (by decide +kernel)
theorem q_se_yX9_keeps : Cond.selects yX9_keeps.cls yX9_keeps yX9_keeps ∈ WG := wg_of 47 (by decide +kernel) (by decide +kernel)
theorem q_ml_RX9_152 : Cond.methodLink RX9 152 yX9_numberOf ∈ WG := wg_of 1348 (by decide +kernel) (by decide +kernel)
theorem q_cd_yX9_numberOf : Cond.code yX9_numberOf cX9_numberOf 5 (some .int) ∈ WG := wg_of 1351 (by decide +kernel) (by decide +kernel)
theorem q_cw_yX9_numberOf : Cw yX9_numberOf cX9_numberOf 5 (some .int) 0 := ⟨q_cd_yX9_numberOf, q_in_RX9, by decide +kernel, by decide +kernel, by decide +kernel⟩
theorem q_im_yX9_numberOf : Cond.instanceMethod yX9_numberOf ∈ WG := wg_of 1350 (by decide +kernel) (by decide +kernel)
theorem q_se_yX9_numberOf : Cond.selects yX9_numberOf.cls yX9_numberOf yX9_numberOf ∈ WG := wg_of 48 (by decide +kernel) (by decide +kernel)
theorem q_ml_RX9_155 : Cond.methodLink RX9 155 yX9_gainOf ∈ WG := wg_of 1356 (by decide +kernel) (by decide +kernel)
theorem q_cd_yX9_gainOf : Cond.code yX9_gainOf cX9_gainOf 5 (some .int) ∈ WG := wg_of 1359 (by decide +kernel) (by decide +kernel)
theorem q_cw_yX9_gainOf : Cw yX9_gainOf cX9_gainOf 5 (some .int) 2 := ⟨q_cd_yX9_gainOf, q_in_RX9, by decide +kernel, by decide +kernel, by decide +kernel⟩
theorem q_im_yX9_gainOf : Cond.instanceMethod yX9_gainOf ∈ WG := wg_of 1358 (by decide +kernel) (by decide +kernel)
theorem q_se_yX9_gainOf : Cond.selects yX9_gainOf.cls yX9_gainOf yX9_gainOf ∈ WG := wg_of 49 (by decide +kernel) (by decide +kernel)
theorem q_ml_RX9_158 : Cond.methodLink RX9 158 yX9_bestOf ∈ WG := wg_of 1368 (by decide +kernel) (by decide +kernel)
theorem q_cd_yX9_bestOf : Cond.code yX9_bestOf cX9_bestOf 7 (some .int) ∈ WG := wg_of 1371 (by decide +kernel) (by decide +kernel)
theorem q_cw_yX9_bestOf : Cw yX9_bestOf cX9_bestOf 7 (some .int) 0 := ⟨q_cd_yX9_bestOf, q_in_RX9, by decide +kernel, by decide +kernel, by decide +kernel⟩
theorem q_im_yX9_bestOf : Cond.instanceMethod yX9_bestOf ∈ WG := wg_of 1370 (by decide +kernel) (by decide +kernel)
theorem q_se_yX9_bestOf : Cond.selects yX9_bestOf.cls yX9_bestOf yX9_bestOf ∈ WG := wg_of 50 (by decide +kernel) (by decide +kernel)
theorem q_ml_RX9_161 : Cond.methodLink RX9 161 yX9_isLocal ∈ WG := wg_of 1376 (by decide +kernel) (by decide +kernel)
theorem q_cd_yX9_isLocal : Cond.code yX9_isLocal cX9_isLocal 2 (some .boolean) ∈ WG := wg_of 1379 (by decide +kernel) (by decide +kernel)
theorem q_cw_yX9_isLocal : Cw yX9_isLocal cX9_isLocal 2 (some .boolean) 0 := ⟨q_cd_yX9_isLocal, q_in_RX9, by decide +kernel, by decide +kernel, by decide +kernel⟩
theorem q_im_yX9_isLocal : Cond.instanceMethod yX9_isLocal ∈ WG := wg_of 1378 (by decide +kernel) (by decide +kernel)
theorem q_se_yX9_isLocal : Cond.selects yX9_isLocal.cls yX9_isLocal yX9_isLocal ∈ WG := wg_of 51 (by decide +kernel) (by decide +kernel)
theorem q_ml_RX9_164 : Cond.methodLink RX9 164 yX9_agrees ∈ WG := wg_of 1384 (by decide +kernel) (by decide +kernel)
theorem q_cd_yX9_agrees : Cond.code yX9_agrees cX9_agrees 3 (some .boolean) ∈ WG := wg_of 1387 (by decide +kernel) (by decide +kernel)
theorem q_cw_yX9_agrees : Cw yX9_agrees cX9_agrees 3 (some .boolean) 0 := ⟨q_cd_yX9_agrees, q_in_RX9, by decide +kernel, by decide +kernel, by decide +kernel⟩
theorem q_im_yX9_agrees : Cond.instanceMethod yX9_agrees ∈ WG := wg_of 1386 (by decide +kernel) (by decide +kernel)
theorem q_se_yX9_agrees : Cond.selects yX9_agrees.cls yX9_agrees yX9_agrees ∈ WG := wg_of 52 (by decide +kernel) (by decide +kernel)
theorem q_ct_RX9_167 : Cond.constant RX9 167 (1000000 : Int32) ∈ WG := wg_of 1396 (by decide +kernel) (by decide +kernel)
theorem q_ml_RX9_168 : Cond.methodLink RX9 168 yX9_least ∈ WG := wg_of 1392 (by decide +kernel) (by decide +kernel)
theorem q_cd_yX9_least : Cond.code yX9_least cX9_least 4 (some .int) ∈ WG := wg_of 1395 (by decide +kernel) (by decide +kernel)
theorem q_cw_yX9_least : Cw yX9_least cX9_least 4 (some .int) 0 := ⟨q_cd_yX9_least, q_in_RX9, by decide +kernel, by decide +kernel, by decide +kernel⟩
theorem q_im_yX9_least : Cond.instanceMethod yX9_least ∈ WG := wg_of 1394 (by decide +kernel) (by decide +kernel)
theorem q_se_yX9_least : Cond.selects yX9_least.cls yX9_least yX9_least ∈ WG := wg_of 53 (by decide +kernel) (by decide +kernel)
theorem q_ml_RX9_171 : Cond.methodLink RX9 171 yX9_optimumAt ∈ WG := wg_of 1401 (by decide +kernel) (by decide +kernel)
theorem q_cd_yX9_optimumAt : Cond.code yX9_optimumAt cX9_optimumAt 8 (some .int) ∈ WG := wg_of 1404 (by decide +kernel) (by decide +kernel)
theorem q_cw_yX9_optimumAt : Cw yX9_optimumAt cX9_optimumAt 8 (some .int) 1 := ⟨q_cd_yX9_optimumAt, q_in_RX9, by decide +kernel, by decide +kernel, by decide +kernel⟩
theorem q_im_yX9_optimumAt : Cond.instanceMethod yX9_optimumAt ∈ WG := wg_of 1403 (by decide +kernel) (by decide +kernel)
theorem q_se_yX9_optimumAt : Cond.selects yX9_optimumAt.cls yX9_optimumAt yX9_optimumAt ∈ WG := wg_of 54 (by decide +kernel) (by decide +kernel)
theorem q_ml_RX9_174 : Cond.methodLink RX9 174 yX9_divisor ∈ WG := wg_of 1413 (by decide +kernel) (by decide +kernel)
theorem q_cd_yX9_divisor : Cond.code yX9_divisor cX9_divisor 5 (some .int) ∈ WG := wg_of 1415 (by decide +kernel) (by decide +kernel)
theorem q_cw_yX9_divisor : Cw yX9_divisor cX9_divisor 5 (some .int) 2 := ⟨q_cd_yX9_divisor, q_in_RX9, by decide +kernel, by decide +kernel, by decide +kernel⟩
theorem q_st_yX9_divisor : Cond.static yX9_divisor ∈ WG := wg_of 1414 (by decide +kernel) (by decide +kernel)
theorem q_fl_RX9_25 : Cond.fieldLink RX9 25 (TX9 8).1 (TX9 8).2.1 (TX9 8).2.2.1 ∈ WG := wg_of 1156 (by decide +kernel) (by decide +kernel)
theorem q_fi_RX9_25 : FI RX9 25 9 8 6 RX9 TX9 28 := ⟨rfl, by decide, by decide +kernel, q_fl_RX9_25, q_us_9⟩
theorem q_kr_9_8 {k : Nat} (h : kd k = (0, 9)) : (kd (k + 6)).1 = 1 := (by decide +kernel : ∀ k, k < 98 → kd k = (0, 9) → (kd (k + 6)).1 = 1) k (kd_lt h (by decide)) h
theorem q_lr_9_8 {k : Nat} (h : kd k = (0, 9)) : k + 6 < 97 := (by decide +kernel : ∀ k, k < 98 → kd k = (0, 9) → k + 6 < 97) k (kd_lt h (by decide)) h
theorem q_ml_RX9_177 : Cond.methodLink RX9 177 yX9_looks ∈ WG := wg_of 1428 (by decide +kernel) (by decide +kernel)
theorem q_cd_yX9_looks : Cond.code yX9_looks cX9_looks 2 none ∈ WG := wg_of 1431 (by decide +kernel) (by decide +kernel)
theorem q_cw_yX9_looks : Cw yX9_looks cX9_looks 2 none 0 := ⟨q_cd_yX9_looks, q_in_RX9, by decide +kernel, by decide +kernel, by decide +kernel⟩
theorem q_im_yX9_looks : Cond.instanceMethod yX9_looks ∈ WG := wg_of 1430 (by decide +kernel) (by decide +kernel)
theorem q_se_yX9_looks : Cond.selects yX9_looks.cls yX9_looks yX9_looks ∈ WG := wg_of 56 (by decide +kernel) (by decide +kernel)
theorem q_ml_RX9_180 : Cond.methodLink RX9 180 yX9_isTaken ∈ WG := wg_of 1432 (by decide +kernel) (by decide +kernel)
theorem q_cd_yX9_isTaken : Cond.code yX9_isTaken cX9_isTaken 4 (some .boolean) ∈ WG := wg_of 1435 (by decide +kernel) (by decide +kernel)
theorem q_cw_yX9_isTaken : Cw yX9_isTaken cX9_isTaken 4 (some .boolean) 1 := ⟨q_cd_yX9_isTaken, q_in_RX9, by decide +kernel, by decide +kernel, by decide +kernel⟩
theorem q_im_yX9_isTaken : Cond.instanceMethod yX9_isTaken ∈ WG := wg_of 1434 (by decide +kernel) (by decide +kernel)
theorem q_se_yX9_isTaken : Cond.selects yX9_isTaken.cls yX9_isTaken yX9_isTaken ∈ WG := wg_of 57 (by decide +kernel) (by decide +kernel)
theorem q_ml_RX9_183 : Cond.methodLink RX9 183 yX9_areFree ∈ WG := wg_of 1424 (by decide +kernel) (by decide +kernel)
theorem q_cd_yX9_areFree : Cond.code yX9_areFree cX9_areFree 3 (some .boolean) ∈ WG := wg_of 1427 (by decide +kernel) (by decide +kernel)
theorem q_cw_yX9_areFree : Cw yX9_areFree cX9_areFree 3 (some .boolean) 2 := ⟨q_cd_yX9_areFree, q_in_RX9, by decide +kernel, by decide +kernel, by decide +kernel⟩
theorem q_im_yX9_areFree : Cond.instanceMethod yX9_areFree ∈ WG := wg_of 1426 (by decide +kernel) (by decide +kernel)
theorem q_se_yX9_areFree : Cond.selects yX9_areFree.cls yX9_areFree yX9_areFree ∈ WG := wg_of 55 (by decide +kernel) (by decide +kernel)
theorem q_ml_RX9_187 : Cond.methodLink RX9 187 yX9_pairs ∈ WG := wg_of 1436 (by decide +kernel) (by decide +kernel)
theorem q_cd_yX9_pairs : Cond.code yX9_pairs cX9_pairs 3 (some .int) ∈ WG := wg_of 1439 (by decide +kernel) (by decide +kernel)
theorem q_cw_yX9_pairs : Cw yX9_pairs cX9_pairs 3 (some .int) 0 := ⟨q_cd_yX9_pairs, q_in_RX9, by decide +kernel, by decide +kernel, by decide +kernel⟩
theorem q_im_yX9_pairs : Cond.instanceMethod yX9_pairs ∈ WG := wg_of 1438 (by decide +kernel) (by decide +kernel)
theorem q_se_yX9_pairs : Cond.selects yX9_pairs.cls yX9_pairs yX9_pairs ∈ WG := wg_of 58 (by decide +kernel) (by decide +kernel)
theorem q_ml_RX9_190 : Cond.methodLink RX9 190 yX9_fixedPart ∈ WG := wg_of 1452 (by decide +kernel) (by decide +kernel)
theorem q_cd_yX9_fixedPart : Cond.code yX9_fixedPart cX9_fixedPart 4 (some .int) ∈ WG := wg_of 1455 (by decide +kernel) (by decide +kernel)
theorem q_cw_yX9_fixedPart : Cw yX9_fixedPart cX9_fixedPart 4 (some .int) 0 := ⟨q_cd_yX9_fixedPart, q_in_RX9, by decide +kernel, by decide +kernel, by decide +kernel⟩
theorem q_im_yX9_fixedPart : Cond.instanceMethod yX9_fixedPart ∈ WG := wg_of 1454 (by decide +kernel) (by decide +kernel)
theorem q_se_yX9_fixedPart : Cond.selects yX9_fixedPart.cls yX9_fixedPart yX9_fixedPart ∈ WG := wg_of 59 (by decide +kernel) (by decide +kernel)
theorem q_fl_RX9_28 : Cond.fieldLink RX9 28 (TX9 9).1 (TX9 9).2.1 (TX9 9).2.2.1 ∈ WG := wg_of 1157 (by decide +kernel) (by decide +kernel)
theorem q_fi_RX9_28 : FI RX9 28 9 9 7 RX9 TX9 28 := ⟨rfl, by decide, by decide +kernel, q_fl_RX9_28, q_us_9⟩
theorem q_kr_9_9 {k : Nat} (h : kd k = (0, 9)) : (kd (k + 7)).1 = 1 := (by decide +kernel : ∀ k, k < 98 → kd k = (0, 9) → (kd (k + 7)).1 = 1) k (kd_lt h (by decide)) h
theorem q_lr_9_9 {k : Nat} (h : kd k = (0, 9)) : k + 7 < 97 := (by decide +kernel : ∀ k, k < 98 → kd k = (0, 9) → k + 7 < 97) k (kd_lt h (by decide)) h
theorem q_fl_RX9_31 : Cond.fieldLink RX9 31 (TX9 10).1 (TX9 10).2.1 (TX9 10).2.2.1 ∈ WG := wg_of 1158 (by decide +kernel) (by decide +kernel)
theorem q_fi_RX9_31 : FI RX9 31 9 10 8 RX9 TX9 28 := ⟨rfl, by decide, by decide +kernel, q_fl_RX9_31, q_us_9⟩
theorem q_kr_9_10 {k : Nat} (h : kd k = (0, 9)) : (kd (k + 8)).1 = 1 := (by decide +kernel : ∀ k, k < 98 → kd k = (0, 9) → (kd (k + 8)).1 = 1) k (kd_lt h (by decide)) h
theorem q_lr_9_10 {k : Nat} (h : kd k = (0, 9)) : k + 8 < 97 := (by decide +kernel : ∀ k, k < 98 → kd k = (0, 9) → k + 8 < 97) k (kd_lt h (by decide)) h
theorem q_ml_RX9_193 : Cond.methodLink RX9 193 yX9_sorts ∈ WG := wg_of 1468 (by decide +kernel) (by decide +kernel)
theorem q_cd_yX9_sorts : Cond.code yX9_sorts cX9_sorts 5 none ∈ WG := wg_of 1470 (by decide +kernel) (by decide +kernel)
theorem q_cw_yX9_sorts : Cw yX9_sorts cX9_sorts 5 none 2 := ⟨q_cd_yX9_sorts, q_in_RX9, by decide +kernel, by decide +kernel, by decide +kernel⟩
theorem q_st_yX9_sorts : Cond.static yX9_sorts ∈ WG := wg_of 1469 (by decide +kernel) (by decide +kernel)
theorem q_ml_RX9_197 : Cond.methodLink RX9 197 yX9_leastProduct ∈ WG := wg_of 1464 (by decide +kernel) (by decide +kernel)
theorem q_cd_yX9_leastProduct : Cond.code yX9_leastProduct cX9_leastProduct 7 (some .int) ∈ WG := wg_of 1467 (by decide +kernel) (by decide +kernel)
theorem q_cw_yX9_leastProduct : Cw yX9_leastProduct cX9_leastProduct 7 (some .int) 2 := ⟨q_cd_yX9_leastProduct, q_in_RX9, by decide +kernel, by decide +kernel, by decide +kernel⟩
theorem q_im_yX9_leastProduct : Cond.instanceMethod yX9_leastProduct ∈ WG := wg_of 1466 (by decide +kernel) (by decide +kernel)
theorem q_se_yX9_leastProduct : Cond.selects yX9_leastProduct.cls yX9_leastProduct yX9_leastProduct ∈ WG := wg_of 61 (by decide +kernel) (by decide +kernel)
theorem q_ml_RX9_200 : Cond.methodLink RX9 200 yX9_entryOf ∈ WG := wg_of 1460 (by decide +kernel) (by decide +kernel)
theorem q_cd_yX9_entryOf : Cond.code yX9_entryOf cX9_entryOf 5 (some .int) ∈ WG := wg_of 1463 (by decide +kernel) (by decide +kernel)
theorem q_cw_yX9_entryOf : Cw yX9_entryOf cX9_entryOf 5 (some .int) 2 := ⟨q_cd_yX9_entryOf, q_in_RX9, by decide +kernel, by decide +kernel, by decide +kernel⟩
theorem q_im_yX9_entryOf : Cond.instanceMethod yX9_entryOf ∈ WG := wg_of 1462 (by decide +kernel) (by decide +kernel)
theorem q_se_yX9_entryOf : Cond.selects yX9_entryOf.cls yX9_entryOf yX9_entryOf ∈ WG := wg_of 60 (by decide +kernel) (by decide +kernel)
theorem q_fl_RX9_37 : Cond.fieldLink RX9 37 (TX9 12).1 (TX9 12).2.1 (TX9 12).2.2.1 ∈ WG := wg_of 1160 (by decide +kernel) (by decide +kernel)
theorem q_fi_RX9_37 : FI RX9 37 9 12 10 RX9 TX9 28 := ⟨rfl, by decide, by decide +kernel, q_fl_RX9_37, q_us_9⟩
theorem q_kr_9_12 {k : Nat} (h : kd k = (0, 9)) : (kd (k + 10)).1 = 1 := (by decide +kernel : ∀ k, k < 98 → kd k = (0, 9) → (kd (k + 10)).1 = 1) k (kd_lt h (by decide)) h
theorem q_lr_9_12 {k : Nat} (h : kd k = (0, 9)) : k + 10 < 97 := (by decide +kernel : ∀ k, k < 98 → kd k = (0, 9) → k + 10 < 97) k (kd_lt h (by decide)) h
theorem q_fl_RX9_34 : Cond.fieldLink RX9 34 (TX9 11).1 (TX9 11).2.1 (TX9 11).2.2.1 ∈ WG := wg_of 1159 (by decide +kernel) (by decide +kernel)
theorem q_fi_RX9_34 : FI RX9 34 9 11 9 RX9 TX9 28 := ⟨rfl, by decide, by decide +kernel, q_fl_RX9_34, q_us_9⟩
theorem q_kr_9_11 {k : Nat} (h : kd k = (0, 9)) : (kd (k + 9)).1 = 1 := (by decide +kernel : ∀ k, k < 98 → kd k = (0, 9) → (kd (k + 9)).1 = 1) k (kd_lt h (by decide)) h
theorem q_lr_9_11 {k : Nat} (h : kd k = (0, 9)) : k + 9 < 97 := (by decide +kernel : ∀ k, k < 98 → kd k = (0, 9) → k + 9 < 97) k (kd_lt h (by decide)) h
theorem q_ml_RX9_203 : Cond.methodLink RX9 203 yX9_addsFacility ∈ WG := wg_of 1479 (by decide +kernel) (by decide +kernel)
theorem q_cd_yX9_addsFacility : Cond.code yX9_addsFacility cX9_addsFacility 6 none ∈ WG := wg_of 1482 (by decide +kernel) (by decide +kernel)
theorem q_cw_yX9_addsFacility : Cw yX9_addsFacility cX9_addsFacility 6 none 1 := ⟨q_cd_yX9_addsFacility, q_in_RX9, by decide +kernel, by decide +kernel, by decide +kernel⟩
theorem q_im_yX9_addsFacility : Cond.instanceMethod yX9_addsFacility ∈ WG := wg_of 1481 (by decide +kernel) (by decide +kernel)
theorem q_se_yX9_addsFacility : Cond.selects yX9_addsFacility.cls yX9_addsFacility yX9_addsFacility ∈ WG := wg_of 63 (by decide +kernel) (by decide +kernel)
theorem q_ml_RX9_206 : Cond.methodLink RX9 206 yX9_boundOf ∈ WG := wg_of 1475 (by decide +kernel) (by decide +kernel)
theorem q_cd_yX9_boundOf : Cond.code yX9_boundOf cX9_boundOf 3 (some .int) ∈ WG := wg_of 1478 (by decide +kernel) (by decide +kernel)
theorem q_cw_yX9_boundOf : Cw yX9_boundOf cX9_boundOf 3 (some .int) 0 := ⟨q_cd_yX9_boundOf, q_in_RX9, by decide +kernel, by decide +kernel, by decide +kernel⟩
theorem q_im_yX9_boundOf : Cond.instanceMethod yX9_boundOf ∈ WG := wg_of 1477 (by decide +kernel) (by decide +kernel)
theorem q_se_yX9_boundOf : Cond.selects yX9_boundOf.cls yX9_boundOf yX9_boundOf ∈ WG := wg_of 62 (by decide +kernel) (by decide +kernel)
theorem q_ml_RX9_209 : Cond.methodLink RX9 209 yX9_regretOf ∈ WG := wg_of 1491 (by decide +kernel) (by decide +kernel)
theorem q_cd_yX9_regretOf : Cond.code yX9_regretOf cX9_regretOf 7 (some .int) ∈ WG := wg_of 1494 (by decide +kernel) (by decide +kernel)
theorem q_cw_yX9_regretOf : Cw yX9_regretOf cX9_regretOf 7 (some .int) 1 := ⟨q_cd_yX9_regretOf, q_in_RX9, by decide +kernel, by decide +kernel, by decide +kernel⟩
theorem q_im_yX9_regretOf : Cond.instanceMethod yX9_regretOf ∈ WG := wg_of 1493 (by decide +kernel) (by decide +kernel)
theorem q_se_yX9_regretOf : Cond.selects yX9_regretOf.cls yX9_regretOf yX9_regretOf ∈ WG := wg_of 64 (by decide +kernel) (by decide +kernel)
theorem q_ml_RX9_212 : Cond.methodLink RX9 212 yX9_branch ∈ WG := wg_of 1499 (by decide +kernel) (by decide +kernel)
theorem q_cd_yX9_branch : Cond.code yX9_branch cX9_branch 5 (some .int) ∈ WG := wg_of 1502 (by decide +kernel) (by decide +kernel)
theorem q_cw_yX9_branch : Cw yX9_branch cX9_branch 5 (some .int) 0 := ⟨q_cd_yX9_branch, q_in_RX9, by decide +kernel, by decide +kernel, by decide +kernel⟩
theorem q_im_yX9_branch : Cond.instanceMethod yX9_branch ∈ WG := wg_of 1501 (by decide +kernel) (by decide +kernel)
theorem q_se_yX9_branch : Cond.selects yX9_branch.cls yX9_branch yX9_branch ∈ WG := wg_of 65 (by decide +kernel) (by decide +kernel)
theorem q_fl_RX9_215 : Cond.fieldLink RX9 215 (TX9 14).1 (TX9 14).2.1 (TX9 14).2.2.1 ∈ WG := wg_of 1162 (by decide +kernel) (by decide +kernel)
theorem q_fi_RX9_215 : FI RX9 215 9 14 0 RX9 TX9 28 := ⟨rfl, by decide, by decide +kernel, q_fl_RX9_215, q_us_9⟩
theorem q_fp_RX9_215 : FP RX9 215 9 14 0 RX9 TX9 28 .int := ⟨q_fi_RX9_215, ⟨tyX9, tyX9_ok⟩, nmX9, by decide +kernel, by decide +kernel, by decide +kernel⟩
theorem q_ml_RX9_218 : Cond.methodLink RX9 218 yX9_isTurn ∈ WG := wg_of 1515 (by decide +kernel) (by decide +kernel)
theorem q_cd_yX9_isTurn : Cond.code yX9_isTurn cX9_isTurn 3 (some .boolean) ∈ WG := wg_of 1518 (by decide +kernel) (by decide +kernel)
theorem q_cw_yX9_isTurn : Cw yX9_isTurn cX9_isTurn 3 (some .boolean) 0 := ⟨q_cd_yX9_isTurn, q_in_RX9, by decide +kernel, by decide +kernel, by decide +kernel⟩
theorem q_im_yX9_isTurn : Cond.instanceMethod yX9_isTurn ∈ WG := wg_of 1517 (by decide +kernel) (by decide +kernel)
theorem q_se_yX9_isTurn : Cond.selects yX9_isTurn.cls yX9_isTurn yX9_isTurn ∈ WG := wg_of 68 (by decide +kernel) (by decide +kernel)
theorem q_fl_RX9_40 : Cond.fieldLink RX9 40 (TX9 13).1 (TX9 13).2.1 (TX9 13).2.2.1 ∈ WG := wg_of 1161 (by decide +kernel) (by decide +kernel)
theorem q_fi_RX9_40 : FI RX9 40 9 13 11 RX9 TX9 28 := ⟨rfl, by decide, by decide +kernel, q_fl_RX9_40, q_us_9⟩
theorem q_kr_9_13 {k : Nat} (h : kd k = (0, 9)) : (kd (k + 11)).1 = 1 := (by decide +kernel : ∀ k, k < 98 → kd k = (0, 9) → (kd (k + 11)).1 = 1) k (kd_lt h (by decide)) h
theorem q_lr_9_13 {k : Nat} (h : kd k = (0, 9)) : k + 11 < 97 := (by decide +kernel : ∀ k, k < 98 → kd k = (0, 9) → k + 11 < 97) k (kd_lt h (by decide)) h
theorem q_ml_RX9_221 : Cond.methodLink RX9 221 yX9_laysTurns ∈ WG := wg_of 1511 (by decide +kernel) (by decide +kernel)
theorem q_cd_yX9_laysTurns : Cond.code yX9_laysTurns cX9_laysTurns 3 none ∈ WG := wg_of 1514 (by decide +kernel) (by decide +kernel)
theorem q_cw_yX9_laysTurns : Cw yX9_laysTurns cX9_laysTurns 3 none 0 := ⟨q_cd_yX9_laysTurns, q_in_RX9, by decide +kernel, by decide +kernel, by decide +kernel⟩
theorem q_im_yX9_laysTurns : Cond.instanceMethod yX9_laysTurns ∈ WG := wg_of 1513 (by decide +kernel) (by decide +kernel)
theorem q_se_yX9_laysTurns : Cond.selects yX9_laysTurns.cls yX9_laysTurns yX9_laysTurns ∈ WG := wg_of 67 (by decide +kernel) (by decide +kernel)
theorem q_ml_RX9_224 : Cond.methodLink RX9 224 yX9_isKept ∈ WG := wg_of 1519 (by decide +kernel) (by decide +kernel)
theorem q_cd_yX9_isKept : Cond.code yX9_isKept cX9_isKept 4 (some .boolean) ∈ WG := wg_of 1522 (by decide +kernel) (by decide +kernel)
theorem q_cw_yX9_isKept : Cw yX9_isKept cX9_isKept 4 (some .boolean) 1 := ⟨q_cd_yX9_isKept, q_in_RX9, by decide +kernel, by decide +kernel, by decide +kernel⟩
theorem q_im_yX9_isKept : Cond.instanceMethod yX9_isKept ∈ WG := wg_of 1521 (by decide +kernel) (by decide +kernel)
theorem q_se_yX9_isKept : Cond.selects yX9_isKept.cls yX9_isKept yX9_isKept ∈ WG := wg_of 69 (by decide +kernel) (by decide +kernel)
theorem q_ml_RX9_227 : Cond.methodLink RX9 227 yX9_keptTurns ∈ WG := wg_of 1507 (by decide +kernel) (by decide +kernel)
theorem q_cd_yX9_keptTurns : Cond.code yX9_keptTurns cX9_keptTurns 3 (some .int) ∈ WG := wg_of 1510 (by decide +kernel) (by decide +kernel)
theorem q_cw_yX9_keptTurns : Cw yX9_keptTurns cX9_keptTurns 3 (some .int) 0 := ⟨q_cd_yX9_keptTurns, q_in_RX9, by decide +kernel, by decide +kernel, by decide +kernel⟩
theorem q_im_yX9_keptTurns : Cond.instanceMethod yX9_keptTurns ∈ WG := wg_of 1509 (by decide +kernel) (by decide +kernel)
theorem q_se_yX9_keptTurns : Cond.selects yX9_keptTurns.cls yX9_keptTurns yX9_keptTurns ∈ WG := wg_of 66 (by decide +kernel) (by decide +kernel)
theorem q_ml_RX9_230 : Cond.methodLink RX9 230 yX9_lowest ∈ WG := wg_of 1527 (by decide +kernel) (by decide +kernel)
theorem q_cd_yX9_lowest : Cond.code yX9_lowest cX9_lowest 5 (some .int) ∈ WG := wg_of 1530 (by decide +kernel) (by decide +kernel)
theorem q_cw_yX9_lowest : Cw yX9_lowest cX9_lowest 5 (some .int) 1 := ⟨q_cd_yX9_lowest, q_in_RX9, by decide +kernel, by decide +kernel, by decide +kernel⟩
theorem q_im_yX9_lowest : Cond.instanceMethod yX9_lowest ∈ WG := wg_of 1529 (by decide +kernel) (by decide +kernel)
theorem q_se_yX9_lowest : Cond.selects yX9_lowest.cls yX9_lowest yX9_lowest ∈ WG := wg_of 70 (by decide +kernel) (by decide +kernel)
theorem q_fl_RX9_43 : Cond.fieldLink RX9 43 (TX9 15).1 (TX9 15).2.1 (TX9 15).2.2.1 ∈ WG := wg_of 1163 (by decide +kernel) (by decide +kernel)
theorem q_fi_RX9_43 : FI RX9 43 9 15 12 RX9 TX9 28 := ⟨rfl, by decide, by decide +kernel, q_fl_RX9_43, q_us_9⟩
theorem q_kr_9_15 {k : Nat} (h : kd k = (0, 9)) : (kd (k + 12)).1 = 1 := (by decide +kernel : ∀ k, k < 98 → kd k = (0, 9) → (kd (k + 12)).1 = 1) k (kd_lt h (by decide)) h
theorem q_lr_9_15 {k : Nat} (h : kd k = (0, 9)) : k + 12 < 97 := (by decide +kernel : ∀ k, k < 98 → kd k = (0, 9) → k + 12 < 97) k (kd_lt h (by decide)) h
theorem q_fl_RX9_233 : Cond.fieldLink RX9 233 (TX9 19).1 (TX9 19).2.1 (TX9 19).2.2.1 ∈ WG := wg_of 1167 (by decide +kernel) (by decide +kernel)
theorem q_fi_RX9_233 : FI RX9 233 9 19 0 RX9 TX9 28 := ⟨rfl, by decide, by decide +kernel, q_fl_RX9_233, q_us_9⟩
theorem q_fl_RX9_46 : Cond.fieldLink RX9 46 (TX9 16).1 (TX9 16).2.1 (TX9 16).2.2.1 ∈ WG := wg_of 1164 (by decide +kernel) (by decide +kernel)
theorem q_fi_RX9_46 : FI RX9 46 9 16 13 RX9 TX9 28 := ⟨rfl, by decide, by decide +kernel, q_fl_RX9_46, q_us_9⟩
theorem q_kr_9_16 {k : Nat} (h : kd k = (0, 9)) : (kd (k + 13)).1 = 1 := (by decide +kernel : ∀ k, k < 98 → kd k = (0, 9) → (kd (k + 13)).1 = 1) k (kd_lt h (by decide)) h
theorem q_lr_9_16 {k : Nat} (h : kd k = (0, 9)) : k + 13 < 97 := (by decide +kernel : ∀ k, k < 98 → kd k = (0, 9) → k + 13 < 97) k (kd_lt h (by decide)) h
theorem q_fl_RX9_49 : Cond.fieldLink RX9 49 (TX9 17).1 (TX9 17).2.1 (TX9 17).2.2.1 ∈ WG := wg_of 1165 (by decide +kernel) (by decide +kernel)
theorem q_fi_RX9_49 : FI RX9 49 9 17 14 RX9 TX9 28 := ⟨rfl, by decide, by decide +kernel, q_fl_RX9_49, q_us_9⟩
theorem q_kr_9_17 {k : Nat} (h : kd k = (0, 9)) : (kd (k + 14)).1 = 1 := (by decide +kernel : ∀ k, k < 98 → kd k = (0, 9) → (kd (k + 14)).1 = 1) k (kd_lt h (by decide)) h
theorem q_lr_9_17 {k : Nat} (h : kd k = (0, 9)) : k + 14 < 97 := (by decide +kernel : ∀ k, k < 98 → kd k = (0, 9) → k + 14 < 97) k (kd_lt h (by decide)) h
theorem q_fl_RX9_52 : Cond.fieldLink RX9 52 (TX9 18).1 (TX9 18).2.1 (TX9 18).2.2.1 ∈ WG := wg_of 1166 (by decide +kernel) (by decide +kernel)
theorem q_fi_RX9_52 : FI RX9 52 9 18 15 RX9 TX9 28 := ⟨rfl, by decide, by decide +kernel, q_fl_RX9_52, q_us_9⟩
theorem q_kr_9_18 {k : Nat} (h : kd k = (0, 9)) : (kd (k + 15)).1 = 4 := (by decide +kernel : ∀ k, k < 98 → kd k = (0, 9) → (kd (k + 15)).1 = 4) k (kd_lt h (by decide)) h
theorem q_lr_9_18 {k : Nat} (h : kd k = (0, 9)) : k + 15 < 97 := (by decide +kernel : ∀ k, k < 98 → kd k = (0, 9) → k + 15 < 97) k (kd_lt h (by decide)) h
theorem q_fp_RX9_233 : FP RX9 233 9 19 0 RX9 TX9 28 .int := ⟨q_fi_RX9_233, ⟨tyX9, tyX9_ok⟩, nmX9, by decide +kernel, by decide +kernel, by decide +kernel⟩
theorem q_fl_RX9_65 : Cond.fieldLink RX9 65 (TX9 23).1 (TX9 23).2.1 (TX9 23).2.2.1 ∈ WG := wg_of 1171 (by decide +kernel) (by decide +kernel)
theorem q_fi_RX9_65 : FI RX9 65 9 23 19 RX9 TX9 28 := ⟨rfl, by decide, by decide +kernel, q_fl_RX9_65, q_us_9⟩
theorem q_kr_9_23 {k : Nat} (h : kd k = (0, 9)) : (kd (k + 19)).1 = 1 := (by decide +kernel : ∀ k, k < 98 → kd k = (0, 9) → (kd (k + 19)).1 = 1) k (kd_lt h (by decide)) h
theorem q_lr_9_23 {k : Nat} (h : kd k = (0, 9)) : k + 19 < 97 := (by decide +kernel : ∀ k, k < 98 → kd k = (0, 9) → k + 19 < 97) k (kd_lt h (by decide)) h
theorem q_fl_RX9_62 : Cond.fieldLink RX9 62 (TX9 22).1 (TX9 22).2.1 (TX9 22).2.2.1 ∈ WG := wg_of 1170 (by decide +kernel) (by decide +kernel)
theorem q_fi_RX9_62 : FI RX9 62 9 22 18 RX9 TX9 28 := ⟨rfl, by decide, by decide +kernel, q_fl_RX9_62, q_us_9⟩
theorem q_kr_9_22 {k : Nat} (h : kd k = (0, 9)) : (kd (k + 18)).1 = 1 := (by decide +kernel : ∀ k, k < 98 → kd k = (0, 9) → (kd (k + 18)).1 = 1) k (kd_lt h (by decide)) h
theorem q_lr_9_22 {k : Nat} (h : kd k = (0, 9)) : k + 18 < 97 := (by decide +kernel : ∀ k, k < 98 → kd k = (0, 9) → k + 18 < 97) k (kd_lt h (by decide)) h
theorem q_fl_RX9_56 : Cond.fieldLink RX9 56 (TX9 20).1 (TX9 20).2.1 (TX9 20).2.2.1 ∈ WG := wg_of 1168 (by decide +kernel) (by decide +kernel)
theorem q_fi_RX9_56 : FI RX9 56 9 20 16 RX9 TX9 28 := ⟨rfl, by decide, by decide +kernel, q_fl_RX9_56, q_us_9⟩
theorem q_kr_9_20 {k : Nat} (h : kd k = (0, 9)) : (kd (k + 16)).1 = 1 := (by decide +kernel : ∀ k, k < 98 → kd k = (0, 9) → (kd (k + 16)).1 = 1) k (kd_lt h (by decide)) h
theorem q_lr_9_20 {k : Nat} (h : kd k = (0, 9)) : k + 16 < 97 := (by decide +kernel : ∀ k, k < 98 → kd k = (0, 9) → k + 16 < 97) k (kd_lt h (by decide)) h
theorem q_fl_RX9_59 : Cond.fieldLink RX9 59 (TX9 21).1 (TX9 21).2.1 (TX9 21).2.2.1 ∈ WG := wg_of 1169 (by decide +kernel) (by decide +kernel)
theorem q_fi_RX9_59 : FI RX9 59 9 21 17 RX9 TX9 28 := ⟨rfl, by decide, by decide +kernel, q_fl_RX9_59, q_us_9⟩
theorem q_kr_9_21 {k : Nat} (h : kd k = (0, 9)) : (kd (k + 17)).1 = 1 := (by decide +kernel : ∀ k, k < 98 → kd k = (0, 9) → (kd (k + 17)).1 = 1) k (kd_lt h (by decide)) h
theorem q_lr_9_21 {k : Nat} (h : kd k = (0, 9)) : k + 17 < 97 := (by decide +kernel : ∀ k, k < 98 → kd k = (0, 9) → k + 17 < 97) k (kd_lt h (by decide)) h
theorem q_ml_RX9_236 : Cond.methodLink RX9 236 yX9_ranks ∈ WG := wg_of 1559 (by decide +kernel) (by decide +kernel)
theorem q_cd_yX9_ranks : Cond.code yX9_ranks cX9_ranks 7 (some .int) ∈ WG := wg_of 1562 (by decide +kernel) (by decide +kernel)
theorem q_cw_yX9_ranks : Cw yX9_ranks cX9_ranks 7 (some .int) 2 := ⟨q_cd_yX9_ranks, q_in_RX9, by decide +kernel, by decide +kernel, by decide +kernel⟩
theorem q_im_yX9_ranks : Cond.instanceMethod yX9_ranks ∈ WG := wg_of 1561 (by decide +kernel) (by decide +kernel)
theorem q_se_yX9_ranks : Cond.selects yX9_ranks.cls yX9_ranks yX9_ranks ∈ WG := wg_of 77 (by decide +kernel) (by decide +kernel)
theorem q_ml_RX9_240 : Cond.methodLink RX9 240 yX9_adds ∈ WG := wg_of 1539 (by decide +kernel) (by decide +kernel)
theorem q_cd_yX9_adds : Cond.code yX9_adds cX9_adds 3 none ∈ WG := wg_of 1542 (by decide +kernel) (by decide +kernel)
theorem q_cw_yX9_adds : Cw yX9_adds cX9_adds 3 none 1 := ⟨q_cd_yX9_adds, q_in_RX9, by decide +kernel, by decide +kernel, by decide +kernel⟩
theorem q_im_yX9_adds : Cond.instanceMethod yX9_adds ∈ WG := wg_of 1541 (by decide +kernel) (by decide +kernel)
theorem q_se_yX9_adds : Cond.selects yX9_adds.cls yX9_adds yX9_adds ∈ WG := wg_of 72 (by decide +kernel) (by decide +kernel)
theorem q_ml_RX9_244 : Cond.methodLink RX9 244 yX9_leastNode ∈ WG := wg_of 1543 (by decide +kernel) (by decide +kernel)
theorem q_cd_yX9_leastNode : Cond.code yX9_leastNode cX9_leastNode 4 (some .int) ∈ WG := wg_of 1546 (by decide +kernel) (by decide +kernel)
theorem q_cw_yX9_leastNode : Cw yX9_leastNode cX9_leastNode 4 (some .int) 0 := ⟨q_cd_yX9_leastNode, q_in_RX9, by decide +kernel, by decide +kernel, by decide +kernel⟩
theorem q_im_yX9_leastNode : Cond.instanceMethod yX9_leastNode ∈ WG := wg_of 1545 (by decide +kernel) (by decide +kernel)
theorem q_se_yX9_leastNode : Cond.selects yX9_leastNode.cls yX9_leastNode yX9_leastNode ∈ WG := wg_of 73 (by decide +kernel) (by decide +kernel)
theorem q_ml_RX9_247 : Cond.methodLink RX9 247 yX9_looksAt ∈ WG := wg_of 1547 (by decide +kernel) (by decide +kernel)
theorem q_cd_yX9_looksAt : Cond.code yX9_looksAt cX9_looksAt 3 none ∈ WG := wg_of 1550 (by decide +kernel) (by decide +kernel)
theorem q_cw_yX9_looksAt : Cw yX9_looksAt cX9_looksAt 3 none 1 := ⟨q_cd_yX9_looksAt, q_in_RX9, by decide +kernel, by decide +kernel, by decide +kernel⟩
theorem q_im_yX9_looksAt : Cond.instanceMethod yX9_looksAt ∈ WG := wg_of 1549 (by decide +kernel) (by decide +kernel)
theorem q_se_yX9_looksAt : Cond.selects yX9_looksAt.cls yX9_looksAt yX9_looksAt ∈ WG := wg_of 74 (by decide +kernel) (by decide +kernel)
theorem q_ml_RX9_250 : Cond.methodLink RX9 250 yX9_counts ∈ WG := wg_of 1551 (by decide +kernel) (by decide +kernel)
theorem q_cd_yX9_counts : Cond.code yX9_counts cX9_counts 3 (some .boolean) ∈ WG := wg_of 1554 (by decide +kernel) (by decide +kernel)
theorem q_cw_yX9_counts : Cw yX9_counts cX9_counts 3 (some .boolean) 1 := ⟨q_cd_yX9_counts, q_in_RX9, by decide +kernel, by decide +kernel, by decide +kernel⟩
theorem q_im_yX9_counts : Cond.instanceMethod yX9_counts ∈ WG := wg_of 1553 (by decide +kernel) (by decide +kernel)
theorem q_se_yX9_counts : Cond.selects yX9_counts.cls yX9_counts yX9_counts ∈ WG := wg_of 75 (by decide +kernel) (by decide +kernel)
theorem q_ml_RX9_253 : Cond.methodLink RX9 253 yX9_branches ∈ WG := wg_of 1555 (by decide +kernel) (by decide +kernel)
theorem q_cd_yX9_branches : Cond.code yX9_branches cX9_branches 6 none ∈ WG := wg_of 1558 (by decide +kernel) (by decide +kernel)
theorem q_cw_yX9_branches : Cw yX9_branches cX9_branches 6 none 2 := ⟨q_cd_yX9_branches, q_in_RX9, by decide +kernel, by decide +kernel, by decide +kernel⟩
theorem q_im_yX9_branches : Cond.instanceMethod yX9_branches ∈ WG := wg_of 1557 (by decide +kernel) (by decide +kernel)
theorem q_se_yX9_branches : Cond.selects yX9_branches.cls yX9_branches yX9_branches ∈ WG := wg_of 76 (by decide +kernel) (by decide +kernel)
theorem q_ml_RX9_260 : Cond.methodLink RX9 260 yX9_searchesDeep ∈ WG := wg_of 1563 (by decide +kernel) (by decide +kernel)
theorem q_cd_yX9_searchesDeep : Cond.code yX9_searchesDeep cX9_searchesDeep 2 none ∈ WG := wg_of 1566 (by decide +kernel) (by decide +kernel)
theorem q_cw_yX9_searchesDeep : Cw yX9_searchesDeep cX9_searchesDeep 2 none 1 := ⟨q_cd_yX9_searchesDeep, q_in_RX9, by decide +kernel, by decide +kernel, by decide +kernel⟩
theorem q_im_yX9_searchesDeep : Cond.instanceMethod yX9_searchesDeep ∈ WG := wg_of 1565 (by decide +kernel) (by decide +kernel)
theorem q_se_yX9_searchesDeep : Cond.selects yX9_searchesDeep.cls yX9_searchesDeep yX9_searchesDeep ∈ WG := wg_of 78 (by decide +kernel) (by decide +kernel)
theorem q_ml_RX9_257 : Cond.methodLink RX9 257 yX9_searchesBest ∈ WG := wg_of 1535 (by decide +kernel) (by decide +kernel)
theorem q_cd_yX9_searchesBest : Cond.code yX9_searchesBest cX9_searchesBest 5 none ∈ WG := wg_of 1538 (by decide +kernel) (by decide +kernel)
theorem q_cw_yX9_searchesBest : Cw yX9_searchesBest cX9_searchesBest 5 none 1 := ⟨q_cd_yX9_searchesBest, q_in_RX9, by decide +kernel, by decide +kernel, by decide +kernel⟩
theorem q_im_yX9_searchesBest : Cond.instanceMethod yX9_searchesBest ∈ WG := wg_of 1537 (by decide +kernel) (by decide +kernel)
theorem q_se_yX9_searchesBest : Cond.selects yX9_searchesBest.cls yX9_searchesBest yX9_searchesBest ∈ WG := wg_of 71 (by decide +kernel) (by decide +kernel)
theorem q_ml_RX9_263 : Cond.methodLink RX9 263 yX9_result ∈ WG := wg_of 1571 (by decide +kernel) (by decide +kernel)
theorem q_cd_yX9_result : Cond.code yX9_result cX9_result 2 (some .int) ∈ WG := wg_of 1574 (by decide +kernel) (by decide +kernel)
theorem q_cw_yX9_result : Cw yX9_result cX9_result 2 (some .int) 1 := ⟨q_cd_yX9_result, q_in_RX9, by decide +kernel, by decide +kernel, by decide +kernel⟩
theorem q_im_yX9_result : Cond.instanceMethod yX9_result ∈ WG := wg_of 1573 (by decide +kernel) (by decide +kernel)
theorem q_se_yX9_result : Cond.selects yX9_result.cls yX9_result yX9_result ∈ WG := wg_of 79 (by decide +kernel) (by decide +kernel)
theorem q_fl_RX9_266 : Cond.fieldLink RX9 266 (TX9 5).1 (TX9 5).2.1 (TX9 5).2.2.1 ∈ WG := wg_of 1153 (by decide +kernel) (by decide +kernel)
theorem q_fi_RX9_266 : FI RX9 266 9 5 0 RX9 TX9 28 := ⟨rfl, by decide, by decide +kernel, q_fl_RX9_266, q_us_9⟩
theorem q_fl_RX9_19 : Cond.fieldLink RX9 19 (TX9 4).1 (TX9 4).2.1 (TX9 4).2.2.1 ∈ WG := wg_of 1152 (by decide +kernel) (by decide +kernel)
theorem q_fi_RX9_19 : FI RX9 19 9 4 4 RX9 TX9 28 := ⟨rfl, by decide, by decide +kernel, q_fl_RX9_19, q_us_9⟩
theorem q_kr_9_4 {k : Nat} (h : kd k = (0, 9)) : (kd (k + 4)).1 = 1 := (by decide +kernel : ∀ k, k < 98 → kd k = (0, 9) → (kd (k + 4)).1 = 1) k (kd_lt h (by decide)) h
theorem q_lr_9_4 {k : Nat} (h : kd k = (0, 9)) : k + 4 < 97 := (by decide +kernel : ∀ k, k < 98 → kd k = (0, 9) → k + 4 < 97) k (kd_lt h (by decide)) h
theorem q_fp_RX9_266 : FP RX9 266 9 5 0 RX9 TX9 28 .int := ⟨q_fi_RX9_266, ⟨tyX9, tyX9_ok⟩, nmX9, by decide +kernel, by decide +kernel, by decide +kernel⟩
theorem q_fl_RX9_269 : Cond.fieldLink RX9 269 (TX9 24).1 (TX9 24).2.1 (TX9 24).2.2.1 ∈ WG := wg_of 1172 (by decide +kernel) (by decide +kernel)
theorem q_fi_RX9_269 : FI RX9 269 9 24 0 RX9 TX9 28 := ⟨rfl, by decide, by decide +kernel, q_fl_RX9_269, q_us_9⟩
theorem q_ml_RX9_272 : Cond.methodLink RX9 272 yX9_isAt ∈ WG := wg_of 1599 (by decide +kernel) (by decide +kernel)
theorem q_cd_yX9_isAt : Cond.code yX9_isAt cX9_isAt 3 (some .boolean) ∈ WG := wg_of 1602 (by decide +kernel) (by decide +kernel)
theorem q_cw_yX9_isAt : Cw yX9_isAt cX9_isAt 3 (some .boolean) 2 := ⟨q_cd_yX9_isAt, q_in_RX9, by decide +kernel, by decide +kernel, by decide +kernel⟩
theorem q_im_yX9_isAt : Cond.instanceMethod yX9_isAt ∈ WG := wg_of 1601 (by decide +kernel) (by decide +kernel)
theorem q_se_yX9_isAt : Cond.selects yX9_isAt.cls yX9_isAt yX9_isAt ∈ WG := wg_of 82 (by decide +kernel) (by decide +kernel)
theorem q_fp_RX9_269 : FP RX9 269 9 24 0 RX9 TX9 28 .int := ⟨q_fi_RX9_269, ⟨tyX9, tyX9_ok⟩, nmX9, by decide +kernel, by decide +kernel, by decide +kernel⟩
theorem q_fl_RX9_68 : Cond.fieldLink RX9 68 (TX9 26).1 (TX9 26).2.1 (TX9 26).2.2.1 ∈ WG := wg_of 1174 (by decide +kernel) (by decide +kernel)
theorem q_fi_RX9_68 : FI RX9 68 9 26 20 RX9 TX9 28 := ⟨rfl, by decide, by decide +kernel, q_fl_RX9_68, q_us_9⟩
theorem q_kr_9_26 {k : Nat} (h : kd k = (0, 9)) : (kd (k + 20)).1 = 1 := (by decide +kernel : ∀ k, k < 98 → kd k = (0, 9) → (kd (k + 20)).1 = 1) k (kd_lt h (by decide)) h
theorem q_lr_9_26 {k : Nat} (h : kd k = (0, 9)) : k + 20 < 97 := (by decide +kernel : ∀ k, k < 98 → kd k = (0, 9) → k + 20 < 97) k (kd_lt h (by decide)) h
theorem q_fl_RX9_275 : Cond.fieldLink RX9 275 (TX9 25).1 (TX9 25).2.1 (TX9 25).2.2.1 ∈ WG := wg_of 1173 (by decide +kernel) (by decide +kernel)
theorem q_fi_RX9_275 : FI RX9 275 9 25 0 RX9 TX9 28 := ⟨rfl, by decide, by decide +kernel, q_fl_RX9_275, q_us_9⟩
theorem q_fp_RX9_275 : FP RX9 275 9 25 0 RX9 TX9 28 .int := ⟨q_fi_RX9_275, ⟨tyX9, tyX9_ok⟩, nmX9, by decide +kernel, by decide +kernel, by decide +kernel⟩
theorem q_ml_RX9_278 : Cond.methodLink RX9 278 yX9_skips ∈ WG := wg_of 1595 (by decide +kernel) (by decide +kernel)
theorem q_cd_yX9_skips : Cond.code yX9_skips cX9_skips 2 (some .boolean) ∈ WG := wg_of 1598 (by decide +kernel) (by decide +kernel)
theorem q_cw_yX9_skips : Cw yX9_skips cX9_skips 2 (some .boolean) 0 := ⟨q_cd_yX9_skips, q_in_RX9, by decide +kernel, by decide +kernel, by decide +kernel⟩
theorem q_im_yX9_skips : Cond.instanceMethod yX9_skips ∈ WG := wg_of 1597 (by decide +kernel) (by decide +kernel)
theorem q_se_yX9_skips : Cond.selects yX9_skips.cls yX9_skips yX9_skips ∈ WG := wg_of 81 (by decide +kernel) (by decide +kernel)
theorem q_ml_RX9_281 : Cond.methodLink RX9 281 yX9_isNumber ∈ WG := wg_of 1607 (by decide +kernel) (by decide +kernel)
theorem q_cd_yX9_isNumber : Cond.code yX9_isNumber cX9_isNumber 3 (some .boolean) ∈ WG := wg_of 1610 (by decide +kernel) (by decide +kernel)
theorem q_cw_yX9_isNumber : Cw yX9_isNumber cX9_isNumber 3 (some .boolean) 1 := ⟨q_cd_yX9_isNumber, q_in_RX9, by decide +kernel, by decide +kernel, by decide +kernel⟩
theorem q_im_yX9_isNumber : Cond.instanceMethod yX9_isNumber ∈ WG := wg_of 1609 (by decide +kernel) (by decide +kernel)
theorem q_se_yX9_isNumber : Cond.selects yX9_isNumber.cls yX9_isNumber yX9_isNumber ∈ WG := wg_of 84 (by decide +kernel) (by decide +kernel)
theorem q_ml_RX9_284 : Cond.methodLink RX9 284 yX9_isCommand ∈ WG := wg_of 1603 (by decide +kernel) (by decide +kernel)
theorem q_cd_yX9_isCommand : Cond.code yX9_isCommand cX9_isCommand 3 (some .boolean) ∈ WG := wg_of 1606 (by decide +kernel) (by decide +kernel)
theorem q_cw_yX9_isCommand : Cw yX9_isCommand cX9_isCommand 3 (some .boolean) 0 := ⟨q_cd_yX9_isCommand, q_in_RX9, by decide +kernel, by decide +kernel, by decide +kernel⟩
theorem q_im_yX9_isCommand : Cond.instanceMethod yX9_isCommand ∈ WG := wg_of 1605 (by decide +kernel) (by decide +kernel)
theorem q_se_yX9_isCommand : Cond.selects yX9_isCommand.cls yX9_isCommand yX9_isCommand ∈ WG := wg_of 83 (by decide +kernel) (by decide +kernel)
theorem q_ml_RX9_287 : Cond.methodLink RX9 287 yX9_faultOf ∈ WG := wg_of 1591 (by decide +kernel) (by decide +kernel)
theorem q_cd_yX9_faultOf : Cond.code yX9_faultOf cX9_faultOf 2 (some .int) ∈ WG := wg_of 1594 (by decide +kernel) (by decide +kernel)
theorem q_cw_yX9_faultOf : Cw yX9_faultOf cX9_faultOf 2 (some .int) 0 := ⟨q_cd_yX9_faultOf, q_in_RX9, by decide +kernel, by decide +kernel, by decide +kernel⟩
theorem q_im_yX9_faultOf : Cond.instanceMethod yX9_faultOf ∈ WG := wg_of 1593 (by decide +kernel) (by decide +kernel)
theorem q_se_yX9_faultOf : Cond.selects yX9_faultOf.cls yX9_faultOf yX9_faultOf ∈ WG := wg_of 80 (by decide +kernel) (by decide +kernel)
theorem q_ct_RX9_290 : Cond.constantLong RX9 290 (31 : Int64) ∈ WG := wg_of 1628 (by decide +kernel) (by decide +kernel)
theorem q_fl_RX9_292 : Cond.fieldLink RX9 292 (TX9 27).1 (TX9 27).2.1 (TX9 27).2.2.1 ∈ WG := wg_of 1175 (by decide +kernel) (by decide +kernel)
theorem q_fi_RX9_292 : FI RX9 292 9 27 1000 RX9 TX9 28 := ⟨rfl, by decide, by decide +kernel, q_fl_RX9_292, q_us_9⟩
theorem q_fp_RX9_292 : FP RX9 292 9 27 1000 RX9 TX9 28 .long := ⟨q_fi_RX9_292, ⟨tyX9, tyX9_ok⟩, nmX9, by decide +kernel, by decide +kernel, by decide +kernel⟩
theorem q_ct_RX9_296 : Cond.constantLong RX9 296 (18459 : Int64) ∈ WG := wg_of 1623 (by decide +kernel) (by decide +kernel)
theorem q_ml_RX9_298 : Cond.methodLink RX9 298 yX9_mix ∈ WG := wg_of 1624 (by decide +kernel) (by decide +kernel)
theorem q_cd_yX9_mix : Cond.code yX9_mix cX9_mix 2 none ∈ WG := wg_of 1627 (by decide +kernel) (by decide +kernel)
theorem q_cw_yX9_mix : Cw yX9_mix cX9_mix 2 none 1 := ⟨q_cd_yX9_mix, q_in_RX9, by decide +kernel, by decide +kernel, by decide +kernel⟩
theorem q_im_yX9_mix : Cond.instanceMethod yX9_mix ∈ WG := wg_of 1626 (by decide +kernel) (by decide +kernel)
theorem q_se_yX9_mix : Cond.selects yX9_mix.cls yX9_mix yX9_mix ∈ WG := wg_of 85 (by decide +kernel) (by decide +kernel)
theorem q_ml_RL_7 : Cond.methodLink RL 7 yX8_resize ∈ WG := wg_of 814 (by decide +kernel) (by decide +kernel)
theorem q_cl_RL_13 : Cond.classLink RL 13 (xn 0) ∈ WG := wg_of 813 (by decide +kernel) (by decide +kernel)
theorem q_ca_0 : Cond.castable (xn 0) (xn 0) ∈ OW := List.mem_filter.mpr ⟨List.mem_of_getElem? (i := 820) (by decide +kernel), by decide +kernel⟩
theorem q_cd_yX8_resize : Cond.code yX8_resize cX8_resize 3 (some .int) ∈ WG := wg_of 817 (by decide +kernel) (by decide +kernel)
theorem q_cw_yX8_resize : Cw yX8_resize cX8_resize 3 (some .int) 1 := ⟨q_cd_yX8_resize, q_in_RX8, by decide +kernel, by decide +kernel, by decide +kernel⟩
theorem q_im_yX8_resize : Cond.instanceMethod yX8_resize ∈ WG := wg_of 815 (by decide +kernel) (by decide +kernel)
theorem q_se_yX8_resize : Cond.selects yX8_resize.cls yX8_resize yX8_resize ∈ WG := wg_of 816 (by decide +kernel) (by decide +kernel)
theorem q_ml_RL_15 : Cond.methodLink RL 15 yX8_set ∈ WG := wg_of 891 (by decide +kernel) (by decide +kernel)
theorem q_cl_RL_19 : Cond.classLink RL 19 (xn 2) ∈ WG := wg_of 890 (by decide +kernel) (by decide +kernel)
theorem q_ca_2 : Cond.castable (xn 2) (xn 2) ∈ OW := List.mem_filter.mpr ⟨List.mem_of_getElem? (i := 901) (by decide +kernel), by decide +kernel⟩
theorem q_cd_yX8_set : Cond.code yX8_set cX8_set 6 (some .int) ∈ WG := wg_of 894 (by decide +kernel) (by decide +kernel)
theorem q_cw_yX8_set : Cw yX8_set cX8_set 6 (some .int) 4 := ⟨q_cd_yX8_set, q_in_RX8, by decide +kernel, by decide +kernel, by decide +kernel⟩
theorem q_im_yX8_set : Cond.instanceMethod yX8_set ∈ WG := wg_of 892 (by decide +kernel) (by decide +kernel)
theorem q_se_yX8_set : Cond.selects yX8_set.cls yX8_set yX8_set ∈ WG := wg_of 893 (by decide +kernel) (by decide +kernel)
theorem q_ml_RL_21 : Cond.methodLink RL 21 yX8_get ∈ WG := wg_of 931 (by decide +kernel) (by decide +kernel)
theorem q_cd_yX8_get : Cond.code yX8_get cX8_get 4 (some .int) ∈ WG := wg_of 934 (by decide +kernel) (by decide +kernel)
theorem q_cw_yX8_get : Cw yX8_get cX8_get 4 (some .int) 3 := ⟨q_cd_yX8_get, q_in_RX8, by decide +kernel, by decide +kernel, by decide +kernel⟩
theorem q_im_yX8_get : Cond.instanceMethod yX8_get ∈ WG := wg_of 932 (by decide +kernel) (by decide +kernel)
theorem q_se_yX8_get : Cond.selects yX8_get.cls yX8_get yX8_get ∈ WG := wg_of 933 (by decide +kernel) (by decide +kernel)
theorem q_ml_RL_25 : Cond.methodLink RL 25 yX8_fill ∈ WG := wg_of 938 (by decide +kernel) (by decide +kernel)
theorem q_cd_yX8_fill : Cond.code yX8_fill cX8_fill 6 (some .int) ∈ WG := wg_of 941 (by decide +kernel) (by decide +kernel)
theorem q_cw_yX8_fill : Cw yX8_fill cX8_fill 6 (some .int) 4 := ⟨q_cd_yX8_fill, q_in_RX8, by decide +kernel, by decide +kernel, by decide +kernel⟩
theorem q_im_yX8_fill : Cond.instanceMethod yX8_fill ∈ WG := wg_of 939 (by decide +kernel) (by decide +kernel)
theorem q_se_yX8_fill : Cond.selects yX8_fill.cls yX8_fill yX8_fill ∈ WG := wg_of 940 (by decide +kernel) (by decide +kernel)
theorem q_ml_RL_29 : Cond.methodLink RL 29 yX8_location ∈ WG := wg_of 963 (by decide +kernel) (by decide +kernel)
theorem q_cd_yX8_location : Cond.code yX8_location cX8_location 2 (some .int) ∈ WG := wg_of 966 (by decide +kernel) (by decide +kernel)
theorem q_cw_yX8_location : Cw yX8_location cX8_location 2 (some .int) 1 := ⟨q_cd_yX8_location, q_in_RX8, by decide +kernel, by decide +kernel, by decide +kernel⟩
theorem q_im_yX8_location : Cond.instanceMethod yX8_location ∈ WG := wg_of 964 (by decide +kernel) (by decide +kernel)
theorem q_se_yX8_location : Cond.selects yX8_location.cls yX8_location yX8_location ∈ WG := wg_of 965 (by decide +kernel) (by decide +kernel)
theorem q_ml_RL_32 : Cond.methodLink RL 32 yX8_choose ∈ WG := wg_of 970 (by decide +kernel) (by decide +kernel)
theorem q_cd_yX8_choose : Cond.code yX8_choose cX8_choose 2 (some .int) ∈ WG := wg_of 973 (by decide +kernel) (by decide +kernel)
theorem q_cw_yX8_choose : Cw yX8_choose cX8_choose 2 (some .int) 1 := ⟨q_cd_yX8_choose, q_in_RX8, by decide +kernel, by decide +kernel, by decide +kernel⟩
theorem q_im_yX8_choose : Cond.instanceMethod yX8_choose ∈ WG := wg_of 971 (by decide +kernel) (by decide +kernel)
theorem q_se_yX8_choose : Cond.selects yX8_choose.cls yX8_choose yX8_choose ∈ WG := wg_of 972 (by decide +kernel) (by decide +kernel)
theorem q_ml_RL_35 : Cond.methodLink RL 35 yX8_exchange ∈ WG := wg_of 985 (by decide +kernel) (by decide +kernel)
theorem q_cd_yX8_exchange : Cond.code yX8_exchange cX8_exchange 4 (some .int) ∈ WG := wg_of 988 (by decide +kernel) (by decide +kernel)
theorem q_cw_yX8_exchange : Cw yX8_exchange cX8_exchange 4 (some .int) 2 := ⟨q_cd_yX8_exchange, q_in_RX8, by decide +kernel, by decide +kernel, by decide +kernel⟩
theorem q_im_yX8_exchange : Cond.instanceMethod yX8_exchange ∈ WG := wg_of 986 (by decide +kernel) (by decide +kernel)
theorem q_se_yX8_exchange : Cond.selects yX8_exchange.cls yX8_exchange yX8_exchange ∈ WG := wg_of 987 (by decide +kernel) (by decide +kernel)
theorem q_ml_RL_39 : Cond.methodLink RL 39 yX8_gain ∈ WG := wg_of 992 (by decide +kernel) (by decide +kernel)
theorem q_cd_yX8_gain : Cond.code yX8_gain cX8_gain 3 (some .int) ∈ WG := wg_of 995 (by decide +kernel) (by decide +kernel)
theorem q_cw_yX8_gain : Cw yX8_gain cX8_gain 3 (some .int) 2 := ⟨q_cd_yX8_gain, q_in_RX8, by decide +kernel, by decide +kernel, by decide +kernel⟩
theorem q_im_yX8_gain : Cond.instanceMethod yX8_gain ∈ WG := wg_of 993 (by decide +kernel) (by decide +kernel)
theorem q_se_yX8_gain : Cond.selects yX8_gain.cls yX8_gain yX8_gain ∈ WG := wg_of 994 (by decide +kernel) (by decide +kernel)
theorem q_ml_RL_42 : Cond.methodLink RL 42 yX8_mean ∈ WG := wg_of 999 (by decide +kernel) (by decide +kernel)
theorem q_cd_yX8_mean : Cond.code yX8_mean cX8_mean 4 (some .int) ∈ WG := wg_of 1002 (by decide +kernel) (by decide +kernel)
theorem q_cw_yX8_mean : Cw yX8_mean cX8_mean 4 (some .int) 1 := ⟨q_cd_yX8_mean, q_in_RX8, by decide +kernel, by decide +kernel, by decide +kernel⟩
theorem q_im_yX8_mean : Cond.instanceMethod yX8_mean ∈ WG := wg_of 1000 (by decide +kernel) (by decide +kernel)
theorem q_se_yX8_mean : Cond.selects yX8_mean.cls yX8_mean yX8_mean ∈ WG := wg_of 1001 (by decide +kernel) (by decide +kernel)
theorem q_ml_RL_45 : Cond.methodLink RL 45 yX8_fix ∈ WG := wg_of 1011 (by decide +kernel) (by decide +kernel)
theorem q_cd_yX8_fix : Cond.code yX8_fix cX8_fix 3 (some .int) ∈ WG := wg_of 1014 (by decide +kernel) (by decide +kernel)
theorem q_cw_yX8_fix : Cw yX8_fix cX8_fix 3 (some .int) 2 := ⟨q_cd_yX8_fix, q_in_RX8, by decide +kernel, by decide +kernel, by decide +kernel⟩
theorem q_im_yX8_fix : Cond.instanceMethod yX8_fix ∈ WG := wg_of 1012 (by decide +kernel) (by decide +kernel)
theorem q_se_yX8_fix : Cond.selects yX8_fix.cls yX8_fix yX8_fix ∈ WG := wg_of 1013 (by decide +kernel) (by decide +kernel)
theorem q_cl_RL_48 : Cond.classLink RL 48 (xn 1) ∈ WG := wg_of 1010 (by decide +kernel) (by decide +kernel)
theorem q_ca_1 : Cond.castable (xn 1) (xn 1) ∈ OW := List.mem_filter.mpr ⟨List.mem_of_getElem? (i := 1022) (by decide +kernel), by decide +kernel⟩
theorem q_ml_RL_50 : Cond.methodLink RL 50 yX8_free ∈ WG := wg_of 1043 (by decide +kernel) (by decide +kernel)
theorem q_cd_yX8_free : Cond.code yX8_free cX8_free 3 (some .int) ∈ WG := wg_of 1046 (by decide +kernel) (by decide +kernel)
theorem q_cw_yX8_free : Cw yX8_free cX8_free 3 (some .int) 1 := ⟨q_cd_yX8_free, q_in_RX8, by decide +kernel, by decide +kernel, by decide +kernel⟩
theorem q_im_yX8_free : Cond.instanceMethod yX8_free ∈ WG := wg_of 1044 (by decide +kernel) (by decide +kernel)
theorem q_se_yX8_free : Cond.selects yX8_free.cls yX8_free yX8_free ∈ WG := wg_of 1045 (by decide +kernel) (by decide +kernel)
theorem q_ml_RL_53 : Cond.methodLink RL 53 yX8_fixed ∈ WG := wg_of 1051 (by decide +kernel) (by decide +kernel)
theorem q_cd_yX8_fixed : Cond.code yX8_fixed cX8_fixed 2 (some .int) ∈ WG := wg_of 1054 (by decide +kernel) (by decide +kernel)
theorem q_cw_yX8_fixed : Cw yX8_fixed cX8_fixed 2 (some .int) 1 := ⟨q_cd_yX8_fixed, q_in_RX8, by decide +kernel, by decide +kernel, by decide +kernel⟩
theorem q_im_yX8_fixed : Cond.instanceMethod yX8_fixed ∈ WG := wg_of 1052 (by decide +kernel) (by decide +kernel)
theorem q_se_yX8_fixed : Cond.selects yX8_fixed.cls yX8_fixed yX8_fixed ∈ WG := wg_of 1053 (by decide +kernel) (by decide +kernel)
theorem q_ml_RL_56 : Cond.methodLink RL 56 yX8_entry ∈ WG := wg_of 1058 (by decide +kernel) (by decide +kernel)
theorem q_cd_yX8_entry : Cond.code yX8_entry cX8_entry 3 (some .int) ∈ WG := wg_of 1061 (by decide +kernel) (by decide +kernel)
theorem q_cw_yX8_entry : Cw yX8_entry cX8_entry 3 (some .int) 2 := ⟨q_cd_yX8_entry, q_in_RX8, by decide +kernel, by decide +kernel, by decide +kernel⟩
theorem q_im_yX8_entry : Cond.instanceMethod yX8_entry ∈ WG := wg_of 1059 (by decide +kernel) (by decide +kernel)
theorem q_se_yX8_entry : Cond.selects yX8_entry.cls yX8_entry yX8_entry ∈ WG := wg_of 1060 (by decide +kernel) (by decide +kernel)
theorem q_ml_RL_59 : Cond.methodLink RL 59 yX8_boundWith ∈ WG := wg_of 1065 (by decide +kernel) (by decide +kernel)
theorem q_cd_yX8_boundWith : Cond.code yX8_boundWith cX8_boundWith 3 (some .int) ∈ WG := wg_of 1068 (by decide +kernel) (by decide +kernel)
theorem q_cw_yX8_boundWith : Cw yX8_boundWith cX8_boundWith 3 (some .int) 2 := ⟨q_cd_yX8_boundWith, q_in_RX8, by decide +kernel, by decide +kernel, by decide +kernel⟩
theorem q_im_yX8_boundWith : Cond.instanceMethod yX8_boundWith ∈ WG := wg_of 1066 (by decide +kernel) (by decide +kernel)
theorem q_se_yX8_boundWith : Cond.selects yX8_boundWith.cls yX8_boundWith yX8_boundWith ∈ WG := wg_of 1067 (by decide +kernel) (by decide +kernel)
theorem q_ml_RL_62 : Cond.methodLink RL 62 yX8_regret ∈ WG := wg_of 1073 (by decide +kernel) (by decide +kernel)
theorem q_cd_yX8_regret : Cond.code yX8_regret cX8_regret 2 (some .int) ∈ WG := wg_of 1076 (by decide +kernel) (by decide +kernel)
theorem q_cw_yX8_regret : Cw yX8_regret cX8_regret 2 (some .int) 1 := ⟨q_cd_yX8_regret, q_in_RX8, by decide +kernel, by decide +kernel, by decide +kernel⟩
theorem q_im_yX8_regret : Cond.instanceMethod yX8_regret ∈ WG := wg_of 1074 (by decide +kernel) (by decide +kernel)
theorem q_se_yX8_regret : Cond.selects yX8_regret.cls yX8_regret yX8_regret ∈ WG := wg_of 1075 (by decide +kernel) (by decide +kernel)
theorem q_ml_RL_65 : Cond.methodLink RL 65 yX8_representative ∈ WG := wg_of 1082 (by decide +kernel) (by decide +kernel)
theorem q_cd_yX8_representative : Cond.code yX8_representative cX8_representative 2 (some .int) ∈ WG := wg_of 1085 (by decide +kernel) (by decide +kernel)
theorem q_cw_yX8_representative : Cw yX8_representative cX8_representative 2 (some .int) 1 := ⟨q_cd_yX8_representative, q_in_RX8, by decide +kernel, by decide +kernel, by decide +kernel⟩
theorem q_im_yX8_representative : Cond.instanceMethod yX8_representative ∈ WG := wg_of 1083 (by decide +kernel) (by decide +kernel)
theorem q_se_yX8_representative : Cond.selects yX8_representative.cls yX8_representative yX8_representative ∈ WG := wg_of 1084 (by decide +kernel) (by decide +kernel)
theorem q_ml_RL_68 : Cond.methodLink RL 68 yX8_found ∈ WG := wg_of 1089 (by decide +kernel) (by decide +kernel)
theorem q_cd_yX8_found : Cond.code yX8_found cX8_found 2 (some .int) ∈ WG := wg_of 1092 (by decide +kernel) (by decide +kernel)
theorem q_cw_yX8_found : Cw yX8_found cX8_found 2 (some .int) 1 := ⟨q_cd_yX8_found, q_in_RX8, by decide +kernel, by decide +kernel, by decide +kernel⟩
theorem q_im_yX8_found : Cond.instanceMethod yX8_found ∈ WG := wg_of 1090 (by decide +kernel) (by decide +kernel)
theorem q_se_yX8_found : Cond.selects yX8_found.cls yX8_found yX8_found ∈ WG := wg_of 1091 (by decide +kernel) (by decide +kernel)
theorem q_ml_RL_71 : Cond.methodLink RL 71 yX8_nodes ∈ WG := wg_of 1097 (by decide +kernel) (by decide +kernel)
theorem q_cd_yX8_nodes : Cond.code yX8_nodes cX8_nodes 2 (some .int) ∈ WG := wg_of 1100 (by decide +kernel) (by decide +kernel)
theorem q_cw_yX8_nodes : Cw yX8_nodes cX8_nodes 2 (some .int) 1 := ⟨q_cd_yX8_nodes, q_in_RX8, by decide +kernel, by decide +kernel, by decide +kernel⟩
theorem q_im_yX8_nodes : Cond.instanceMethod yX8_nodes ∈ WG := wg_of 1098 (by decide +kernel) (by decide +kernel)
theorem q_se_yX8_nodes : Cond.selects yX8_nodes.cls yX8_nodes yX8_nodes ∈ WG := wg_of 1099 (by decide +kernel) (by decide +kernel)
theorem q_ml_RL_74 : Cond.methodLink RL 74 yX8_type ∈ WG := wg_of 1105 (by decide +kernel) (by decide +kernel)
theorem q_cd_yX8_type : Cond.code yX8_type cX8_type 2 (some .int) ∈ WG := wg_of 1108 (by decide +kernel) (by decide +kernel)
theorem q_cw_yX8_type : Cw yX8_type cX8_type 2 (some .int) 1 := ⟨q_cd_yX8_type, q_in_RX8, by decide +kernel, by decide +kernel, by decide +kernel⟩
theorem q_im_yX8_type : Cond.instanceMethod yX8_type ∈ WG := wg_of 1106 (by decide +kernel) (by decide +kernel)
theorem q_se_yX8_type : Cond.selects yX8_type.cls yX8_type yX8_type ∈ WG := wg_of 1107 (by decide +kernel) (by decide +kernel)
theorem q_ml_RL_77 : Cond.methodLink RL 77 yX8_run ∈ WG := wg_of 1118 (by decide +kernel) (by decide +kernel)
theorem q_cd_yX8_run : Cond.code yX8_run cX8_run 3 (some .int) ∈ WG := wg_of 1121 (by decide +kernel) (by decide +kernel)
theorem q_cw_yX8_run : Cw yX8_run cX8_run 3 (some .int) 0 := ⟨q_cd_yX8_run, q_in_RX8, by decide +kernel, by decide +kernel, by decide +kernel⟩
theorem q_im_yX8_run : Cond.instanceMethod yX8_run ∈ WG := wg_of 1119 (by decide +kernel) (by decide +kernel)
theorem q_se_yX8_run : Cond.selects yX8_run.cls yX8_run yX8_run ∈ WG := wg_of 1120 (by decide +kernel) (by decide +kernel)
theorem q_ml_RL_81 : Cond.methodLink RL 81 yX8_undo ∈ WG := wg_of 1128 (by decide +kernel) (by decide +kernel)
theorem q_cd_yX8_undo : Cond.code yX8_undo cX8_undo 1 (some .int) ∈ WG := wg_of 1131 (by decide +kernel) (by decide +kernel)
theorem q_cw_yX8_undo : Cw yX8_undo cX8_undo 1 (some .int) 0 := ⟨q_cd_yX8_undo, q_in_RX8, by decide +kernel, by decide +kernel, by decide +kernel⟩
theorem q_im_yX8_undo : Cond.instanceMethod yX8_undo ∈ WG := wg_of 1129 (by decide +kernel) (by decide +kernel)
theorem q_se_yX8_undo : Cond.selects yX8_undo.cls yX8_undo yX8_undo ∈ WG := wg_of 1130 (by decide +kernel) (by decide +kernel)
