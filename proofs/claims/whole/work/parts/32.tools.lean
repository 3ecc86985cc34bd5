-- tools: one step of the functions at a time
-- not by rfl, so that the kernel does not compare the two sides
theorem obs {α β : Type} {a : α} {f : α → Option β} : (some a).bind f = f a := id rfl
theorem ln_le (k : Nat) : ln k ≤ 12000 := by
  by_cases h : k < 98
  · exact (by decide +kernel : ∀ k, k < 98 → ln k ≤ 12000) k h
  · have h98 : kt.length = 98 := by decide +kernel
    unfold ln kd
    rw [List.getD_eq_getElem?_getD, List.getElem?_eq_none (by omega)]
    decide
theorem zl_0 : (0 : Int32) = nI 0 := by decide +kernel
theorem zl_2 : (2 : Int32) = nI 2 := by decide +kernel
theorem zl_3 : (3 : Int32) = nI 3 := by decide +kernel
theorem zl_4 : (4 : Int32) = nI 4 := by decide +kernel
theorem zl_5 : (5 : Int32) = nI 5 := by decide +kernel
theorem zl_6 : (6 : Int32) = nI 6 := by decide +kernel
theorem zl_7 : (7 : Int32) = nI 7 := by decide +kernel
theorem zl_9 : (9 : Int32) = nI 9 := by decide +kernel
theorem zl_10 : (10 : Int32) = nI 10 := by decide +kernel
theorem zl_32 : (32 : Int32) = nI 32 := by decide +kernel
theorem zl_35 : (35 : Int32) = nI 35 := by decide +kernel
theorem zl_36 : (36 : Int32) = nI 36 := by decide +kernel
theorem zl_48 : (48 : Int32) = nI 48 := by decide +kernel
theorem zl_57 : (57 : Int32) = nI 57 := by decide +kernel
theorem zl_59 : (59 : Int32) = nI 59 := by decide +kernel
theorem zl_60 : (60 : Int32) = nI 60 := by decide +kernel
theorem zl_61 : (61 : Int32) = nI 61 := by decide +kernel
theorem zl_62 : (62 : Int32) = nI 62 := by decide +kernel
theorem zl_63 : (63 : Int32) = nI 63 := by decide +kernel
theorem zl_64 : (64 : Int32) = nI 64 := by decide +kernel
theorem zl_65 : (65 : Int32) = nI 65 := by decide +kernel
theorem zl_99 : (99 : Int32) = nI 99 := by decide +kernel
theorem zl_100 : (100 : Int32) = nI 100 := by decide +kernel
theorem zl_102 : (102 : Int32) = nI 102 := by decide +kernel
theorem zl_109 : (109 : Int32) = nI 109 := by decide +kernel
theorem zl_110 : (110 : Int32) = nI 110 := by decide +kernel
theorem zl_115 : (115 : Int32) = nI 115 := by decide +kernel
theorem zl_116 : (116 : Int32) = nI 116 := by decide +kernel
theorem zl_119 : (119 : Int32) = nI 119 := by decide +kernel
theorem zl_120 : (120 : Int32) = nI 120 := by decide +kernel
theorem zl_121 : (121 : Int32) = nI 121 := by decide +kernel
theorem zl_126 : (126 : Int32) = nI 126 := by decide +kernel
theorem zl_605 : (605 : Int32) = nI 605 := by decide +kernel
theorem zl_720 : (720 : Int32) = nI 720 := by decide +kernel
theorem zl_1957 : (1957 : Int32) = nI 1957 := by decide +kernel
theorem zl_1000000 : (1000000 : Int32) = nI 1000000 := by decide +kernel
theorem ln_2 : ln 2 = 36 := by decide +kernel
theorem ln_3 : ln 3 = 36 := by decide +kernel
theorem ln_4 : ln 4 = 36 := by decide +kernel
theorem ln_5 : ln 5 = 6 := by decide +kernel
theorem ln_6 : ln 6 = 6 := by decide +kernel
theorem ln_10 : ln 10 = 36 := by decide +kernel
theorem ln_11 : ln 11 = 36 := by decide +kernel
theorem ln_12 : ln 12 = 36 := by decide +kernel
theorem ln_13 : ln 13 = 6 := by decide +kernel
theorem ln_14 : ln 14 = 6 := by decide +kernel
theorem ln_16 : ln 16 = 36 := by decide +kernel
theorem ln_17 : ln 17 = 36 := by decide +kernel
theorem ln_18 : ln 18 = 36 := by decide +kernel
theorem ln_19 : ln 19 = 6 := by decide +kernel
theorem ln_20 : ln 20 = 6 := by decide +kernel
theorem ln_22 : ln 22 = 36 := by decide +kernel
theorem ln_23 : ln 23 = 36 := by decide +kernel
theorem ln_24 : ln 24 = 36 := by decide +kernel
theorem ln_25 : ln 25 = 6 := by decide +kernel
theorem ln_26 : ln 26 = 6 := by decide +kernel
theorem ln_28 : ln 28 = 36 := by decide +kernel
theorem ln_29 : ln 29 = 36 := by decide +kernel
theorem ln_30 : ln 30 = 36 := by decide +kernel
theorem ln_31 : ln 31 = 6 := by decide +kernel
theorem ln_32 : ln 32 = 6 := by decide +kernel
theorem ln_34 : ln 34 = 36 := by decide +kernel
theorem ln_35 : ln 35 = 36 := by decide +kernel
theorem ln_36 : ln 36 = 36 := by decide +kernel
theorem ln_37 : ln 37 = 6 := by decide +kernel
theorem ln_38 : ln 38 = 6 := by decide +kernel
theorem ln_40 : ln 40 = 36 := by decide +kernel
theorem ln_41 : ln 41 = 36 := by decide +kernel
theorem ln_42 : ln 42 = 36 := by decide +kernel
theorem ln_43 : ln 43 = 6 := by decide +kernel
theorem ln_44 : ln 44 = 6 := by decide +kernel
theorem ln_46 : ln 46 = 720 := by decide +kernel
theorem ln_47 : ln 47 = 6 := by decide +kernel
theorem ln_49 : ln 49 = 36 := by decide +kernel
theorem ln_50 : ln 50 = 6 := by decide +kernel
theorem ln_51 : ln 51 = 36 := by decide +kernel
theorem ln_52 : ln 52 = 36 := by decide +kernel
theorem ln_53 : ln 53 = 64 := by decide +kernel
theorem ln_55 : ln 55 = 6 := by decide +kernel
theorem ln_56 : ln 56 = 6 := by decide +kernel
theorem ln_58 : ln 58 = 7 := by decide +kernel
theorem ln_60 : ln 60 = 720 := by decide +kernel
theorem ln_62 : ln 62 = 36 := by decide +kernel
theorem ln_63 : ln 63 = 6 := by decide +kernel
theorem ln_64 : ln 64 = 36 := by decide +kernel
theorem ln_65 : ln 65 = 36 := by decide +kernel
theorem ln_66 : ln 66 = 64 := by decide +kernel
theorem ln_68 : ln 68 = 6 := by decide +kernel
theorem ln_69 : ln 69 = 6 := by decide +kernel
theorem ln_70 : ln 70 = 6 := by decide +kernel
theorem ln_71 : ln 71 = 6 := by decide +kernel
theorem ln_73 : ln 73 = 120 := by decide +kernel
theorem ln_74 : ln 74 = 6 := by decide +kernel
theorem ln_76 : ln 76 = 121 := by decide +kernel
theorem ln_77 : ln 77 = 726 := by decide +kernel
theorem ln_78 : ln 78 = 121 := by decide +kernel
theorem ln_79 : ln 79 = 120 := by decide +kernel
theorem ln_80 : ln 80 = 6 := by decide +kernel
theorem ln_81 : ln 81 = 6 := by decide +kernel
theorem ln_82 : ln 82 = 6 := by decide +kernel
theorem ln_83 : ln 83 = 6 := by decide +kernel
theorem ln_84 : ln 84 = 64 := by decide +kernel
theorem ln_85 : ln 85 = 6 := by decide +kernel
theorem ln_86 : ln 86 = 4320 := by decide +kernel
theorem ln_87 : ln 87 = 12000 := by decide +kernel
theorem ln_88 : ln 88 = 2000 := by decide +kernel
theorem ln_89 : ln 89 = 2000 := by decide +kernel
theorem ln_90 : ln 90 = 2000 := by decide +kernel
theorem ln_91 : ln 91 = 7 := by decide +kernel
theorem ln_92 : ln 92 = 7 := by decide +kernel
theorem ln_93 : ln 93 = 6 := by decide +kernel
theorem ln_94 : ln 94 = 6 := by decide +kernel
theorem ln_95 : ln 95 = 3 := by decide +kernel
theorem ln_96 : ln 96 = 1 := by decide +kernel
theorem ln_97 : ln 97 = 7 := by decide +kernel
theorem a_2 {σ : Sg} {j : Nat} (h : j < 36) : ald σ 2 (nI j) = some (σ 2 j) := ald_ok (by rw [ln_2]; exact h) (ln_le 2)
theorem s_2 {σ : Sg} {j : Nat} {x : Int32} (h : j < 36) : ast σ 2 (nI j) x = some (si σ 2 j x) := ast_ok (by rw [ln_2]; exact h) (ln_le 2)
theorem a_3 {σ : Sg} {j : Nat} (h : j < 36) : ald σ 3 (nI j) = some (σ 3 j) := ald_ok (by rw [ln_3]; exact h) (ln_le 3)
theorem s_3 {σ : Sg} {j : Nat} {x : Int32} (h : j < 36) : ast σ 3 (nI j) x = some (si σ 3 j x) := ast_ok (by rw [ln_3]; exact h) (ln_le 3)
theorem a_4 {σ : Sg} {j : Nat} (h : j < 36) : ald σ 4 (nI j) = some (σ 4 j) := ald_ok (by rw [ln_4]; exact h) (ln_le 4)
theorem s_4 {σ : Sg} {j : Nat} {x : Int32} (h : j < 36) : ast σ 4 (nI j) x = some (si σ 4 j x) := ast_ok (by rw [ln_4]; exact h) (ln_le 4)
theorem a_5 {σ : Sg} {j : Nat} (h : j < 6) : ald σ 5 (nI j) = some (σ 5 j) := ald_ok (by rw [ln_5]; exact h) (ln_le 5)
theorem s_5 {σ : Sg} {j : Nat} {x : Int32} (h : j < 6) : ast σ 5 (nI j) x = some (si σ 5 j x) := ast_ok (by rw [ln_5]; exact h) (ln_le 5)
theorem a_6 {σ : Sg} {j : Nat} (h : j < 6) : ald σ 6 (nI j) = some (σ 6 j) := ald_ok (by rw [ln_6]; exact h) (ln_le 6)
theorem s_6 {σ : Sg} {j : Nat} {x : Int32} (h : j < 6) : ast σ 6 (nI j) x = some (si σ 6 j x) := ast_ok (by rw [ln_6]; exact h) (ln_le 6)
theorem a_46 {σ : Sg} {j : Nat} (h : j < 720) : ald σ 46 (nI j) = some (σ 46 j) := ald_ok (by rw [ln_46]; exact h) (ln_le 46)
theorem s_46 {σ : Sg} {j : Nat} {x : Int32} (h : j < 720) : ast σ 46 (nI j) x = some (si σ 46 j x) := ast_ok (by rw [ln_46]; exact h) (ln_le 46)
theorem a_47 {σ : Sg} {j : Nat} (h : j < 6) : ald σ 47 (nI j) = some (σ 47 j) := ald_ok (by rw [ln_47]; exact h) (ln_le 47)
theorem s_47 {σ : Sg} {j : Nat} {x : Int32} (h : j < 6) : ast σ 47 (nI j) x = some (si σ 47 j x) := ast_ok (by rw [ln_47]; exact h) (ln_le 47)
theorem a_55 {σ : Sg} {j : Nat} (h : j < 6) : ald σ 55 (nI j) = some (σ 55 j) := ald_ok (by rw [ln_55]; exact h) (ln_le 55)
theorem s_55 {σ : Sg} {j : Nat} {x : Int32} (h : j < 6) : ast σ 55 (nI j) x = some (si σ 55 j x) := ast_ok (by rw [ln_55]; exact h) (ln_le 55)
theorem a_56 {σ : Sg} {j : Nat} (h : j < 6) : ald σ 56 (nI j) = some (σ 56 j) := ald_ok (by rw [ln_56]; exact h) (ln_le 56)
theorem s_56 {σ : Sg} {j : Nat} {x : Int32} (h : j < 6) : ast σ 56 (nI j) x = some (si σ 56 j x) := ast_ok (by rw [ln_56]; exact h) (ln_le 56)
theorem a_58 {σ : Sg} {j : Nat} (h : j < 7) : ald σ 58 (nI j) = some (σ 58 j) := ald_ok (by rw [ln_58]; exact h) (ln_le 58)
theorem s_58 {σ : Sg} {j : Nat} {x : Int32} (h : j < 7) : ast σ 58 (nI j) x = some (si σ 58 j x) := ast_ok (by rw [ln_58]; exact h) (ln_le 58)
theorem a_68 {σ : Sg} {j : Nat} (h : j < 6) : ald σ 68 (nI j) = some (σ 68 j) := ald_ok (by rw [ln_68]; exact h) (ln_le 68)
theorem s_68 {σ : Sg} {j : Nat} {x : Int32} (h : j < 6) : ast σ 68 (nI j) x = some (si σ 68 j x) := ast_ok (by rw [ln_68]; exact h) (ln_le 68)
theorem a_69 {σ : Sg} {j : Nat} (h : j < 6) : ald σ 69 (nI j) = some (σ 69 j) := ald_ok (by rw [ln_69]; exact h) (ln_le 69)
theorem s_69 {σ : Sg} {j : Nat} {x : Int32} (h : j < 6) : ast σ 69 (nI j) x = some (si σ 69 j x) := ast_ok (by rw [ln_69]; exact h) (ln_le 69)
theorem a_70 {σ : Sg} {j : Nat} (h : j < 6) : ald σ 70 (nI j) = some (σ 70 j) := ald_ok (by rw [ln_70]; exact h) (ln_le 70)
theorem s_70 {σ : Sg} {j : Nat} {x : Int32} (h : j < 6) : ast σ 70 (nI j) x = some (si σ 70 j x) := ast_ok (by rw [ln_70]; exact h) (ln_le 70)
theorem a_73 {σ : Sg} {j : Nat} (h : j < 120) : ald σ 73 (nI j) = some (σ 73 j) := ald_ok (by rw [ln_73]; exact h) (ln_le 73)
theorem s_73 {σ : Sg} {j : Nat} {x : Int32} (h : j < 120) : ast σ 73 (nI j) x = some (si σ 73 j x) := ast_ok (by rw [ln_73]; exact h) (ln_le 73)
theorem a_74 {σ : Sg} {j : Nat} (h : j < 6) : ald σ 74 (nI j) = some (σ 74 j) := ald_ok (by rw [ln_74]; exact h) (ln_le 74)
theorem s_74 {σ : Sg} {j : Nat} {x : Int32} (h : j < 6) : ast σ 74 (nI j) x = some (si σ 74 j x) := ast_ok (by rw [ln_74]; exact h) (ln_le 74)
theorem a_76 {σ : Sg} {j : Nat} (h : j < 121) : ald σ 76 (nI j) = some (σ 76 j) := ald_ok (by rw [ln_76]; exact h) (ln_le 76)
theorem s_76 {σ : Sg} {j : Nat} {x : Int32} (h : j < 121) : ast σ 76 (nI j) x = some (si σ 76 j x) := ast_ok (by rw [ln_76]; exact h) (ln_le 76)
theorem a_77 {σ : Sg} {j : Nat} (h : j < 726) : ald σ 77 (nI j) = some (σ 77 j) := ald_ok (by rw [ln_77]; exact h) (ln_le 77)
theorem s_77 {σ : Sg} {j : Nat} {x : Int32} (h : j < 726) : ast σ 77 (nI j) x = some (si σ 77 j x) := ast_ok (by rw [ln_77]; exact h) (ln_le 77)
theorem a_78 {σ : Sg} {j : Nat} (h : j < 121) : ald σ 78 (nI j) = some (σ 78 j) := ald_ok (by rw [ln_78]; exact h) (ln_le 78)
theorem s_78 {σ : Sg} {j : Nat} {x : Int32} (h : j < 121) : ast σ 78 (nI j) x = some (si σ 78 j x) := ast_ok (by rw [ln_78]; exact h) (ln_le 78)
theorem a_79 {σ : Sg} {j : Nat} (h : j < 120) : ald σ 79 (nI j) = some (σ 79 j) := ald_ok (by rw [ln_79]; exact h) (ln_le 79)
theorem s_79 {σ : Sg} {j : Nat} {x : Int32} (h : j < 120) : ast σ 79 (nI j) x = some (si σ 79 j x) := ast_ok (by rw [ln_79]; exact h) (ln_le 79)
theorem a_80 {σ : Sg} {j : Nat} (h : j < 6) : ald σ 80 (nI j) = some (σ 80 j) := ald_ok (by rw [ln_80]; exact h) (ln_le 80)
theorem s_80 {σ : Sg} {j : Nat} {x : Int32} (h : j < 6) : ast σ 80 (nI j) x = some (si σ 80 j x) := ast_ok (by rw [ln_80]; exact h) (ln_le 80)
theorem a_81 {σ : Sg} {j : Nat} (h : j < 6) : ald σ 81 (nI j) = some (σ 81 j) := ald_ok (by rw [ln_81]; exact h) (ln_le 81)
theorem s_81 {σ : Sg} {j : Nat} {x : Int32} (h : j < 6) : ast σ 81 (nI j) x = some (si σ 81 j x) := ast_ok (by rw [ln_81]; exact h) (ln_le 81)
theorem a_82 {σ : Sg} {j : Nat} (h : j < 6) : ald σ 82 (nI j) = some (σ 82 j) := ald_ok (by rw [ln_82]; exact h) (ln_le 82)
theorem s_82 {σ : Sg} {j : Nat} {x : Int32} (h : j < 6) : ast σ 82 (nI j) x = some (si σ 82 j x) := ast_ok (by rw [ln_82]; exact h) (ln_le 82)
theorem a_83 {σ : Sg} {j : Nat} (h : j < 6) : ald σ 83 (nI j) = some (σ 83 j) := ald_ok (by rw [ln_83]; exact h) (ln_le 83)
theorem s_83 {σ : Sg} {j : Nat} {x : Int32} (h : j < 6) : ast σ 83 (nI j) x = some (si σ 83 j x) := ast_ok (by rw [ln_83]; exact h) (ln_le 83)
theorem a_84 {σ : Sg} {j : Nat} (h : j < 64) : ald σ 84 (nI j) = some (σ 84 j) := ald_ok (by rw [ln_84]; exact h) (ln_le 84)
theorem s_84 {σ : Sg} {j : Nat} {x : Int32} (h : j < 64) : ast σ 84 (nI j) x = some (si σ 84 j x) := ast_ok (by rw [ln_84]; exact h) (ln_le 84)
theorem a_85 {σ : Sg} {j : Nat} (h : j < 6) : ald σ 85 (nI j) = some (σ 85 j) := ald_ok (by rw [ln_85]; exact h) (ln_le 85)
theorem s_85 {σ : Sg} {j : Nat} {x : Int32} (h : j < 6) : ast σ 85 (nI j) x = some (si σ 85 j x) := ast_ok (by rw [ln_85]; exact h) (ln_le 85)
theorem a_86 {σ : Sg} {j : Nat} (h : j < 4320) : ald σ 86 (nI j) = some (σ 86 j) := ald_ok (by rw [ln_86]; exact h) (ln_le 86)
theorem s_86 {σ : Sg} {j : Nat} {x : Int32} (h : j < 4320) : ast σ 86 (nI j) x = some (si σ 86 j x) := ast_ok (by rw [ln_86]; exact h) (ln_le 86)
theorem a_87 {σ : Sg} {j : Nat} (h : j < 12000) : ald σ 87 (nI j) = some (σ 87 j) := ald_ok (by rw [ln_87]; exact h) (ln_le 87)
theorem s_87 {σ : Sg} {j : Nat} {x : Int32} (h : j < 12000) : ast σ 87 (nI j) x = some (si σ 87 j x) := ast_ok (by rw [ln_87]; exact h) (ln_le 87)
theorem a_88 {σ : Sg} {j : Nat} (h : j < 2000) : ald σ 88 (nI j) = some (σ 88 j) := ald_ok (by rw [ln_88]; exact h) (ln_le 88)
theorem s_88 {σ : Sg} {j : Nat} {x : Int32} (h : j < 2000) : ast σ 88 (nI j) x = some (si σ 88 j x) := ast_ok (by rw [ln_88]; exact h) (ln_le 88)
theorem a_89 {σ : Sg} {j : Nat} (h : j < 2000) : ald σ 89 (nI j) = some (σ 89 j) := ald_ok (by rw [ln_89]; exact h) (ln_le 89)
theorem s_89 {σ : Sg} {j : Nat} {x : Int32} (h : j < 2000) : ast σ 89 (nI j) x = some (si σ 89 j x) := ast_ok (by rw [ln_89]; exact h) (ln_le 89)
theorem a_90 {σ : Sg} {j : Nat} (h : j < 2000) : ald σ 90 (nI j) = some (σ 90 j) := ald_ok (by rw [ln_90]; exact h) (ln_le 90)
theorem s_90 {σ : Sg} {j : Nat} {x : Int32} (h : j < 2000) : ast σ 90 (nI j) x = some (si σ 90 j x) := ast_ok (by rw [ln_90]; exact h) (ln_le 90)
theorem a_91 {σ : Sg} {j : Nat} (h : j < 7) : ald σ 91 (nI j) = some (σ 91 j) := ald_ok (by rw [ln_91]; exact h) (ln_le 91)
theorem s_91 {σ : Sg} {j : Nat} {x : Int32} (h : j < 7) : ast σ 91 (nI j) x = some (si σ 91 j x) := ast_ok (by rw [ln_91]; exact h) (ln_le 91)
theorem a_92 {σ : Sg} {j : Nat} (h : j < 7) : ald σ 92 (nI j) = some (σ 92 j) := ald_ok (by rw [ln_92]; exact h) (ln_le 92)
theorem s_92 {σ : Sg} {j : Nat} {x : Int32} (h : j < 7) : ast σ 92 (nI j) x = some (si σ 92 j x) := ast_ok (by rw [ln_92]; exact h) (ln_le 92)
theorem a_93 {σ : Sg} {j : Nat} (h : j < 6) : ald σ 93 (nI j) = some (σ 93 j) := ald_ok (by rw [ln_93]; exact h) (ln_le 93)
theorem s_93 {σ : Sg} {j : Nat} {x : Int32} (h : j < 6) : ast σ 93 (nI j) x = some (si σ 93 j x) := ast_ok (by rw [ln_93]; exact h) (ln_le 93)
theorem a_94 {σ : Sg} {j : Nat} (h : j < 6) : ald σ 94 (nI j) = some (σ 94 j) := ald_ok (by rw [ln_94]; exact h) (ln_le 94)
theorem s_94 {σ : Sg} {j : Nat} {x : Int32} (h : j < 6) : ast σ 94 (nI j) x = some (si σ 94 j x) := ast_ok (by rw [ln_94]; exact h) (ln_le 94)
theorem a_95 {σ : Sg} {j : Nat} (h : j < 3) : ald σ 95 (nI j) = some (σ 95 j) := ald_ok (by rw [ln_95]; exact h) (ln_le 95)
theorem s_95 {σ : Sg} {j : Nat} {x : Int32} (h : j < 3) : ast σ 95 (nI j) x = some (si σ 95 j x) := ast_ok (by rw [ln_95]; exact h) (ln_le 95)
theorem it_5 {σ : Sg} {j : Nat} (h : j < 6) : f_X8_item σ 5 (nI j) = some (σ 5 j) := item_ok (by rw [ln_5]; exact h) (ln_le 5)
theorem se_5 {σ : Sg} {j : Nat} {x : Int32} (h : j < 6) : f_X8_setItem σ 5 (nI j) x = some (si σ 5 j x) := setItem_ok (by rw [ln_5]; exact h) (ln_le 5)
theorem it_6 {σ : Sg} {j : Nat} (h : j < 6) : f_X8_item σ 6 (nI j) = some (σ 6 j) := item_ok (by rw [ln_6]; exact h) (ln_le 6)
theorem se_6 {σ : Sg} {j : Nat} {x : Int32} (h : j < 6) : f_X8_setItem σ 6 (nI j) x = some (si σ 6 j x) := setItem_ok (by rw [ln_6]; exact h) (ln_le 6)
theorem it_46 {σ : Sg} {j : Nat} (h : j < 720) : f_X8_item σ 46 (nI j) = some (σ 46 j) := item_ok (by rw [ln_46]; exact h) (ln_le 46)
theorem se_46 {σ : Sg} {j : Nat} {x : Int32} (h : j < 720) : f_X8_setItem σ 46 (nI j) x = some (si σ 46 j x) := setItem_ok (by rw [ln_46]; exact h) (ln_le 46)
theorem it_47 {σ : Sg} {j : Nat} (h : j < 6) : f_X8_item σ 47 (nI j) = some (σ 47 j) := item_ok (by rw [ln_47]; exact h) (ln_le 47)
theorem se_47 {σ : Sg} {j : Nat} {x : Int32} (h : j < 6) : f_X8_setItem σ 47 (nI j) x = some (si σ 47 j x) := setItem_ok (by rw [ln_47]; exact h) (ln_le 47)
theorem it_50 {σ : Sg} {j : Nat} (h : j < 6) : f_X8_item σ 50 (nI j) = some (σ 50 j) := item_ok (by rw [ln_50]; exact h) (ln_le 50)
theorem se_50 {σ : Sg} {j : Nat} {x : Int32} (h : j < 6) : f_X8_setItem σ 50 (nI j) x = some (si σ 50 j x) := setItem_ok (by rw [ln_50]; exact h) (ln_le 50)
theorem it_53 {σ : Sg} {j : Nat} (h : j < 64) : f_X8_item σ 53 (nI j) = some (σ 53 j) := item_ok (by rw [ln_53]; exact h) (ln_le 53)
theorem se_53 {σ : Sg} {j : Nat} {x : Int32} (h : j < 64) : f_X8_setItem σ 53 (nI j) x = some (si σ 53 j x) := setItem_ok (by rw [ln_53]; exact h) (ln_le 53)
theorem it_55 {σ : Sg} {j : Nat} (h : j < 6) : f_X8_item σ 55 (nI j) = some (σ 55 j) := item_ok (by rw [ln_55]; exact h) (ln_le 55)
theorem se_55 {σ : Sg} {j : Nat} {x : Int32} (h : j < 6) : f_X8_setItem σ 55 (nI j) x = some (si σ 55 j x) := setItem_ok (by rw [ln_55]; exact h) (ln_le 55)
theorem it_56 {σ : Sg} {j : Nat} (h : j < 6) : f_X8_item σ 56 (nI j) = some (σ 56 j) := item_ok (by rw [ln_56]; exact h) (ln_le 56)
theorem se_56 {σ : Sg} {j : Nat} {x : Int32} (h : j < 6) : f_X8_setItem σ 56 (nI j) x = some (si σ 56 j x) := setItem_ok (by rw [ln_56]; exact h) (ln_le 56)
theorem it_58 {σ : Sg} {j : Nat} (h : j < 7) : f_X8_item σ 58 (nI j) = some (σ 58 j) := item_ok (by rw [ln_58]; exact h) (ln_le 58)
theorem se_58 {σ : Sg} {j : Nat} {x : Int32} (h : j < 7) : f_X8_setItem σ 58 (nI j) x = some (si σ 58 j x) := setItem_ok (by rw [ln_58]; exact h) (ln_le 58)
theorem it_63 {σ : Sg} {j : Nat} (h : j < 6) : f_X8_item σ 63 (nI j) = some (σ 63 j) := item_ok (by rw [ln_63]; exact h) (ln_le 63)
theorem se_63 {σ : Sg} {j : Nat} {x : Int32} (h : j < 6) : f_X8_setItem σ 63 (nI j) x = some (si σ 63 j x) := setItem_ok (by rw [ln_63]; exact h) (ln_le 63)
theorem it_66 {σ : Sg} {j : Nat} (h : j < 64) : f_X8_item σ 66 (nI j) = some (σ 66 j) := item_ok (by rw [ln_66]; exact h) (ln_le 66)
theorem se_66 {σ : Sg} {j : Nat} {x : Int32} (h : j < 64) : f_X8_setItem σ 66 (nI j) x = some (si σ 66 j x) := setItem_ok (by rw [ln_66]; exact h) (ln_le 66)
theorem it_68 {σ : Sg} {j : Nat} (h : j < 6) : f_X8_item σ 68 (nI j) = some (σ 68 j) := item_ok (by rw [ln_68]; exact h) (ln_le 68)
theorem se_68 {σ : Sg} {j : Nat} {x : Int32} (h : j < 6) : f_X8_setItem σ 68 (nI j) x = some (si σ 68 j x) := setItem_ok (by rw [ln_68]; exact h) (ln_le 68)
theorem it_69 {σ : Sg} {j : Nat} (h : j < 6) : f_X8_item σ 69 (nI j) = some (σ 69 j) := item_ok (by rw [ln_69]; exact h) (ln_le 69)
theorem se_69 {σ : Sg} {j : Nat} {x : Int32} (h : j < 6) : f_X8_setItem σ 69 (nI j) x = some (si σ 69 j x) := setItem_ok (by rw [ln_69]; exact h) (ln_le 69)
theorem it_70 {σ : Sg} {j : Nat} (h : j < 6) : f_X8_item σ 70 (nI j) = some (σ 70 j) := item_ok (by rw [ln_70]; exact h) (ln_le 70)
theorem se_70 {σ : Sg} {j : Nat} {x : Int32} (h : j < 6) : f_X8_setItem σ 70 (nI j) x = some (si σ 70 j x) := setItem_ok (by rw [ln_70]; exact h) (ln_le 70)
theorem it_71 {σ : Sg} {j : Nat} (h : j < 6) : f_X8_item σ 71 (nI j) = some (σ 71 j) := item_ok (by rw [ln_71]; exact h) (ln_le 71)
theorem se_71 {σ : Sg} {j : Nat} {x : Int32} (h : j < 6) : f_X8_setItem σ 71 (nI j) x = some (si σ 71 j x) := setItem_ok (by rw [ln_71]; exact h) (ln_le 71)
theorem it_74 {σ : Sg} {j : Nat} (h : j < 6) : f_X8_item σ 74 (nI j) = some (σ 74 j) := item_ok (by rw [ln_74]; exact h) (ln_le 74)
theorem se_74 {σ : Sg} {j : Nat} {x : Int32} (h : j < 6) : f_X8_setItem σ 74 (nI j) x = some (si σ 74 j x) := setItem_ok (by rw [ln_74]; exact h) (ln_le 74)
theorem it_97 {σ : Sg} {j : Nat} (h : j < 7) : f_X8_item σ 97 (nI j) = some (σ 97 j) := item_ok (by rw [ln_97]; exact h) (ln_le 97)
theorem se_97 {σ : Sg} {j : Nat} {x : Int32} (h : j < 7) : f_X8_setItem σ 97 (nI j) x = some (si σ 97 j x) := setItem_ok (by rw [ln_97]; exact h) (ln_le 97)
theorem at_2 {σ : Sg} {i j : Nat} (hi : i < 6) (hj : j < 6) : f_X8_at σ 2 (nI i) (nI j) = some (σ 2 (6 * i + j)) := at_ok (by rw [ln_2]; omega) (ln_le 2)
theorem pu_2 {σ : Sg} {i j : Nat} {x : Int32} (hi : i < 6) (hj : j < 6) : f_X8_put σ 2 (nI i) (nI j) x = some (si σ 2 (6 * i + j) x) := put_ok (by rw [ln_2]; omega) (ln_le 2)
theorem at_3 {σ : Sg} {i j : Nat} (hi : i < 6) (hj : j < 6) : f_X8_at σ 3 (nI i) (nI j) = some (σ 3 (6 * i + j)) := at_ok (by rw [ln_3]; omega) (ln_le 3)
theorem pu_3 {σ : Sg} {i j : Nat} {x : Int32} (hi : i < 6) (hj : j < 6) : f_X8_put σ 3 (nI i) (nI j) x = some (si σ 3 (6 * i + j) x) := put_ok (by rw [ln_3]; omega) (ln_le 3)
theorem at_4 {σ : Sg} {i j : Nat} (hi : i < 6) (hj : j < 6) : f_X8_at σ 4 (nI i) (nI j) = some (σ 4 (6 * i + j)) := at_ok (by rw [ln_4]; omega) (ln_le 4)
theorem pu_4 {σ : Sg} {i j : Nat} {x : Int32} (hi : i < 6) (hj : j < 6) : f_X8_put σ 4 (nI i) (nI j) x = some (si σ 4 (6 * i + j) x) := put_ok (by rw [ln_4]; omega) (ln_le 4)
theorem at_49 {σ : Sg} {i j : Nat} (hi : i < 6) (hj : j < 6) : f_X8_at σ 49 (nI i) (nI j) = some (σ 49 (6 * i + j)) := at_ok (by rw [ln_49]; omega) (ln_le 49)
theorem pu_49 {σ : Sg} {i j : Nat} {x : Int32} (hi : i < 6) (hj : j < 6) : f_X8_put σ 49 (nI i) (nI j) x = some (si σ 49 (6 * i + j) x) := put_ok (by rw [ln_49]; omega) (ln_le 49)
theorem at_51 {σ : Sg} {i j : Nat} (hi : i < 6) (hj : j < 6) : f_X8_at σ 51 (nI i) (nI j) = some (σ 51 (6 * i + j)) := at_ok (by rw [ln_51]; omega) (ln_le 51)
theorem pu_51 {σ : Sg} {i j : Nat} {x : Int32} (hi : i < 6) (hj : j < 6) : f_X8_put σ 51 (nI i) (nI j) x = some (si σ 51 (6 * i + j) x) := put_ok (by rw [ln_51]; omega) (ln_le 51)
theorem at_52 {σ : Sg} {i j : Nat} (hi : i < 6) (hj : j < 6) : f_X8_at σ 52 (nI i) (nI j) = some (σ 52 (6 * i + j)) := at_ok (by rw [ln_52]; omega) (ln_le 52)
theorem pu_52 {σ : Sg} {i j : Nat} {x : Int32} (hi : i < 6) (hj : j < 6) : f_X8_put σ 52 (nI i) (nI j) x = some (si σ 52 (6 * i + j) x) := put_ok (by rw [ln_52]; omega) (ln_le 52)
theorem at_62 {σ : Sg} {i j : Nat} (hi : i < 6) (hj : j < 6) : f_X8_at σ 62 (nI i) (nI j) = some (σ 62 (6 * i + j)) := at_ok (by rw [ln_62]; omega) (ln_le 62)
theorem pu_62 {σ : Sg} {i j : Nat} {x : Int32} (hi : i < 6) (hj : j < 6) : f_X8_put σ 62 (nI i) (nI j) x = some (si σ 62 (6 * i + j) x) := put_ok (by rw [ln_62]; omega) (ln_le 62)
theorem at_64 {σ : Sg} {i j : Nat} (hi : i < 6) (hj : j < 6) : f_X8_at σ 64 (nI i) (nI j) = some (σ 64 (6 * i + j)) := at_ok (by rw [ln_64]; omega) (ln_le 64)
theorem pu_64 {σ : Sg} {i j : Nat} {x : Int32} (hi : i < 6) (hj : j < 6) : f_X8_put σ 64 (nI i) (nI j) x = some (si σ 64 (6 * i + j) x) := put_ok (by rw [ln_64]; omega) (ln_le 64)
theorem at_65 {σ : Sg} {i j : Nat} (hi : i < 6) (hj : j < 6) : f_X8_at σ 65 (nI i) (nI j) = some (σ 65 (6 * i + j)) := at_ok (by rw [ln_65]; omega) (ln_le 65)
theorem pu_65 {σ : Sg} {i j : Nat} {x : Int32} (hi : i < 6) (hj : j < 6) : f_X8_put σ 65 (nI i) (nI j) x = some (si σ 65 (6 * i + j) x) := put_ok (by rw [ln_65]; omega) (ln_le 65)
theorem ile {α : Type} {a b : Nat} {x y : α} {dd : Decidable (nI a ≤ nI b)} (h : a ≤ b) (hb : b < 2147483648) : @ite α (nI a ≤ nI b) dd x y = x := if_pos (nI_le h (by omega))
theorem igt {α : Type} {a b : Nat} {x y : α} {dd : Decidable (nI a ≤ nI b)} (h : b < a) (ha : a < 2147483648) : @ite α (nI a ≤ nI b) dd x y = y := if_neg (nI_ge h (by omega))
theorem ilt {α : Type} {a b : Nat} {x y : α} {dd : Decidable (nI a < nI b)} (h : a < b) (hb : b < 2147483648) : @ite α (nI a < nI b) dd x y = x := if_pos (nI_lt h (by omega))
theorem inl {α : Type} {a b : Nat} {x y : α} {dd : Decidable (nI a < nI b)} (h : b ≤ a) (ha : a < 2147483648) : @ite α (nI a < nI b) dd x y = y := if_neg (nI_nlt h (by omega))
theorem ieq {α : Type} {a b : Nat} {x y : α} {dd : Decidable (nI a = nI b)} (h : a = b) : @ite α (nI a = nI b) dd x y = x := if_pos (by rw [h])
theorem ine {α : Type} {a b : Nat} {x y : α} {dd : Decidable (nI a = nI b)} (h : a ≠ b) (ha : a < 2147483648) (hb : b < 2147483648) : @ite α (nI a = nI b) dd x y = y := if_neg (fun e => h ((nI_eq (by omega) (by omega)).mp e))
theorem one_nz : ¬ (1 : Int32) = nI 0 := by decide
theorem iq10 {α : Type} {x y : α} {dd : Decidable ((1 : Int32) = nI 0)} : @ite α ((1 : Int32) = nI 0) dd x y = y := if_neg one_nz
theorem i1z {α : Type} {x y : α} {dd : Decidable ((1 : Int32) = 1)} : @ite α ((1 : Int32) = 1) dd x y = x := if_pos rfl
theorem im1 {α : Type} {a : Nat} {x y : α} {dd : Decidable (nI a = -1)} (ha : a < 2147483648) : @ite α (nI a = -1) dd x y = y := if_neg (fun e => by
  have h1 := nI_toInt (n := a) (by omega)
  rw [e] at h1
  have h2 : (-1 : Int32).toInt = -1 := by decide
  omega)
theorem im11 {α : Type} {x y : α} {dd : Decidable ((-1 : Int32) = -1)} : @ite α ((-1 : Int32) = -1) dd x y = x := if_pos rfl
theorem m1_lt {a : Nat} (ha : a < 2147483648) : (-1 : Int32) < nI a := by
  rw [Int32.lt_iff_toInt_lt, nI_toInt (by omega)]
  have h2 : (-1 : Int32).toInt = -1 := by decide
  omega
theorem iml {α : Type} {a : Nat} {x y : α} {dd : Decidable ((-1 : Int32) < nI a)} (ha : a < 2147483648) : @ite α ((-1 : Int32) < nI a) dd x y = x := if_pos (m1_lt ha)
theorem inm {α : Type} {a : Nat} {x y : α} {dd : Decidable (nI a < (-1 : Int32))} (ha : a < 2147483648) : @ite α (nI a < (-1 : Int32)) dd x y = y := if_neg (fun h => by
  have := m1_lt ha
  grind)
theorem imle {α : Type} {a : Nat} {x y : α} {dd : Decidable (nI a ≤ (-1 : Int32))} (ha : a < 2147483648) : @ite α (nI a ≤ (-1 : Int32)) dd x y = y := if_neg (fun h => by
  have := m1_lt ha
  grind)
theorem isub1 {a : Nat} (h : 1 ≤ a) : nI a - 1 = nI (a - 1) := pk_sub (b := 1) h
theorem isb {a b : Nat} (h : b ≤ a) : nI a - nI b = nI (a - b) := pk_sub h
theorem iaddm {a : Nat} (h : 1 ≤ a) : nI a + (-1) = nI (a - 1) := sb_m1 h
theorem si_hit {σ : Sg} {k j : Nat} {x : Int32} : si σ k j x k j = x := by rw [si_self, pk_us]
theorem si_miss {σ : Sg} {k j r : Nat} {x : Int32} (h : r ≠ j) : si σ k j x k r = σ k r := by rw [si_self, pk_un h]
theorem si_oth {σ : Sg} {k j q : Nat} {x : Int32} (h : q ≠ k) : si σ k j x q = σ q := si_ne σ j x h
-- writing a run of numbers
def wo (σ : Sg) (k o n : Nat) (v : Nat → Int32) : Sg := sa σ k (fun q => if o ≤ q ∧ q < o + n then v (q - o) else σ k q)
theorem wo_oth {σ : Sg} {k o n q : Nat} {v : Nat → Int32} (h : q ≠ k) : wo σ k o n v q = σ q := sa_ne σ _ h
theorem wo_in {σ : Sg} {k o n j : Nat} {v : Nat → Int32} (h : j < n) : wo σ k o n v k (o + j) = v j := by
  unfold wo
  rw [sa_self, if_pos (by omega), Nat.add_sub_cancel_left]
theorem wo_in0 {σ : Sg} {k n j : Nat} {v : Nat → Int32} (h : j < n) : wo σ k 0 n v k j = v j := by
  have := wo_in (σ := σ) (k := k) (o := 0) (v := v) h
  rwa [Nat.zero_add] at this
theorem wo_out {σ : Sg} {k o n j : Nat} {v : Nat → Int32} (h : j < o ∨ o + n ≤ j) : wo σ k o n v k j = σ k j := by
  unfold wo
  rw [sa_self, if_neg (by omega)]
theorem wo_0 {σ : Sg} {k o : Nat} {v : Nat → Int32} : wo σ k o 0 v = σ := by
  funext q r
  unfold wo sa
  split
  · next h =>
    subst h
    exact if_neg (by omega)
  · rfl
theorem wo_s {σ : Sg} {k o j : Nat} {v : Nat → Int32} {x : Int32} (hx : x = v j) : si (wo σ k o j v) k (o + j) x = wo σ k o (j + 1) v := by
  subst hx
  funext q r
  by_cases h : q = k
  · subst h
    by_cases h2 : r = o + j
    · subst h2
      rw [si_hit, wo_in (by omega)]
    · rw [si_miss h2]
      unfold wo
      rw [sa_self, sa_self]
      by_cases h3 : o ≤ r ∧ r < o + j
      · rw [if_pos h3, if_pos (by omega)]
      · rw [if_neg h3, if_neg (by omega)]
  · rw [si_oth h, wo_oth h, wo_oth h]
theorem wo_s0 {σ : Sg} {k j : Nat} {v : Nat → Int32} {x : Int32} (hx : x = v j) : si (wo σ k 0 j v) k j x = wo σ k 0 (j + 1) v := by
  have := wo_s (σ := σ) (k := k) (o := 0) (j := j) (v := v) hx
  rwa [Nat.zero_add] at this
theorem wo_fr {σ : Sg} {k o n : Nat} {v : Nat → Int32} {W : List Nat} {σ0 : Sg} (h : Fr W σ0 σ) (hk : k ∈ W) : Fr W σ0 (wo σ k o n v) := h.sa hk
theorem lo_wo {f : Int32 × Sg → Option ((Int32 × Sg) ⊕ Sg)} {σ : Sg} {k o n : Nat} {v : Nat → Int32} (hs : ∀ j, j < n → f (nI j, wo σ k o j v) = some (.inl (nI (j + 1), wo σ k o (j + 1) v))) (he : f (nI n, wo σ k o n v) = some (.inr (wo σ k o n v))) {z : Int32} (hz : z = nI 0) : lo f (z, σ) = some (wo σ k o n v) := by
  subst hz
  exact lo_run (fun j => (nI j, wo σ k o j v)) hs he (by rw [wo_0])
theorem lo_it {E : Type} {f : Int32 × Sg → Option ((Int32 × Sg) ⊕ E)} (P : Nat → Sg → Prop) (n : Nat) (Q : E → Prop) (hs : ∀ j σ, j < n → P j σ → ∃ σ', f (nI j, σ) = some (.inl (nI (j + 1), σ')) ∧ P (j + 1) σ') (he : ∀ σ, P n σ → ∃ e, f (nI n, σ) = some (.inr e) ∧ Q e) {σ : Sg} {z : Int32} (hz : z = nI 0) (h0 : P 0 σ) : ∃ e, lo f (z, σ) = some e ∧ Q e := by
  subst hz
  refine lo_tc (fun j s => s.1 = nI j ∧ P j s.2) n Q (fun j s hj hp => ?_) (fun s hp => ?_) ⟨rfl, h0⟩
  · obtain ⟨s1, s2⟩ := s
    obtain ⟨h1, h2⟩ := hp
    simp only at h1 h2
    subst h1
    obtain ⟨σ', h3, h4⟩ := hs j s2 hj h2
    exact ⟨_, h3, rfl, h4⟩
  · obtain ⟨s1, s2⟩ := s
    obtain ⟨h1, h2⟩ := hp
    simp only at h1 h2
    subst h1
    exact he s2 h2
-- the model's small loops
theorem m_hold {σ : Sg} : f_X9_hold σ 75 = some (wo σ 78 0 121 (σ 76)) := by
  unfold f_X9_hold
  rw [lo_wo (z := 0) (k := 78) (o := 0) (n := 121) (v := σ 76) (fun j hj => by
    unfold f_X9_hold_L2
    simp (disch := omega) only [if_true, if_false, obs, Option.bind_none, Sum.elim_inl, Sum.elim_inr, Option.elim, Nat.reduceAdd, Nat.add_zero, Nat.zero_add, ile, igt, ilt, inl, ieq, ine, iq10, i1z, im1, im11, iml, imle, inm, nI_1, nI_add, isub1, isb, iaddm, pk_mul, si_hit, si_miss, si_oth, wo_oth, zl_0, zl_2, zl_3, zl_4, zl_5, zl_6, zl_7, zl_9, zl_10, zl_32, zl_35, zl_36, zl_48, zl_57, zl_59, zl_60, zl_61, zl_62, zl_63, zl_64, zl_65, zl_99, zl_100, zl_102, zl_109, zl_110, zl_115, zl_116, zl_119, zl_120, zl_121, zl_126, zl_605, zl_720, zl_1957, zl_1000000, a_2, a_3, a_4, a_5, a_6, a_46, a_47, a_55, a_56, a_58, a_68, a_69, a_70, a_73, a_74, a_76, a_77, a_78, a_79, a_80, a_81, a_82, a_83, a_84, a_85, a_86, a_87, a_88, a_89, a_90, a_91, a_92, a_93, a_94, a_95, s_2, s_3, s_4, s_5, s_6, s_46, s_47, s_55, s_56, s_58, s_68, s_69, s_70, s_73, s_74, s_76, s_77, s_78, s_79, s_80, s_81, s_82, s_83, s_84, s_85, s_86, s_87, s_88, s_89, s_90, s_91, s_92, s_93, s_94, s_95, it_5, it_6, it_46, it_47, it_50, it_53, it_55, it_56, it_58, it_63, it_66, it_68, it_69, it_70, it_71, it_74, it_97, se_5, se_6, se_46, se_47, se_50, se_53, se_55, se_56, se_58, se_63, se_66, se_68, se_69, se_70, se_71, se_74, se_97, at_2, at_3, at_4, at_49, at_51, at_52, at_62, at_64, at_65, pu_2, pu_3, pu_4, pu_49, pu_51, pu_52, pu_62, pu_64, pu_65]
    rw [wo_s0 rfl]) (by
    unfold f_X9_hold_L2
    simp (disch := omega) only [if_true, if_false, obs, Option.bind_none, Sum.elim_inl, Sum.elim_inr, Option.elim, Nat.reduceAdd, Nat.add_zero, Nat.zero_add, ile, igt, ilt, inl, ieq, ine, iq10, i1z, im1, im11, iml, imle, inm, nI_1, nI_add, isub1, isb, iaddm, pk_mul, si_hit, si_miss, si_oth, wo_oth, zl_0, zl_2, zl_3, zl_4, zl_5, zl_6, zl_7, zl_9, zl_10, zl_32, zl_35, zl_36, zl_48, zl_57, zl_59, zl_60, zl_61, zl_62, zl_63, zl_64, zl_65, zl_99, zl_100, zl_102, zl_109, zl_110, zl_115, zl_116, zl_119, zl_120, zl_121, zl_126, zl_605, zl_720, zl_1957, zl_1000000, a_2, a_3, a_4, a_5, a_6, a_46, a_47, a_55, a_56, a_58, a_68, a_69, a_70, a_73, a_74, a_76, a_77, a_78, a_79, a_80, a_81, a_82, a_83, a_84, a_85, a_86, a_87, a_88, a_89, a_90, a_91, a_92, a_93, a_94, a_95, s_2, s_3, s_4, s_5, s_6, s_46, s_47, s_55, s_56, s_58, s_68, s_69, s_70, s_73, s_74, s_76, s_77, s_78, s_79, s_80, s_81, s_82, s_83, s_84, s_85, s_86, s_87, s_88, s_89, s_90, s_91, s_92, s_93, s_94, s_95, it_5, it_6, it_46, it_47, it_50, it_53, it_55, it_56, it_58, it_63, it_66, it_68, it_69, it_70, it_71, it_74, it_97, se_5, se_6, se_46, se_47, se_50, se_53, se_55, se_56, se_58, se_63, se_66, se_68, se_69, se_70, se_71, se_74, se_97, at_2, at_3, at_4, at_49, at_51, at_52, at_62, at_64, at_65, pu_2, pu_3, pu_4, pu_49, pu_51, pu_52, pu_62, pu_64, pu_65]) rfl]
  rfl
theorem m_takes {σ : Sg} {n : Nat} (h0 : σ 76 0 = nI n) (hn : n ≤ 6) : f_X9_takes σ 75 = some (wo σ 80 0 n (fun i => σ 76 (109 + i))) := by
  unfold f_X9_takes
  rw [lo_wo (z := 0) (k := 80) (o := 0) (n := n) (v := fun i => σ 76 (109 + i)) (fun j hj => by
    unfold f_X9_takes_L2
    simp (disch := omega) only [if_true, if_false, obs, Option.bind_none, Sum.elim_inl, Sum.elim_inr, Option.elim, Nat.reduceAdd, Nat.add_zero, Nat.zero_add, ile, igt, ilt, inl, ieq, ine, iq10, i1z, im1, im11, iml, imle, inm, nI_1, nI_add, isub1, isb, iaddm, pk_mul, si_hit, si_miss, si_oth, wo_oth, zl_0, zl_2, zl_3, zl_4, zl_5, zl_6, zl_7, zl_9, zl_10, zl_32, zl_35, zl_36, zl_48, zl_57, zl_59, zl_60, zl_61, zl_62, zl_63, zl_64, zl_65, zl_99, zl_100, zl_102, zl_109, zl_110, zl_115, zl_116, zl_119, zl_120, zl_121, zl_126, zl_605, zl_720, zl_1957, zl_1000000, a_2, a_3, a_4, a_5, a_6, a_46, a_47, a_55, a_56, a_58, a_68, a_69, a_70, a_73, a_74, a_76, a_77, a_78, a_79, a_80, a_81, a_82, a_83, a_84, a_85, a_86, a_87, a_88, a_89, a_90, a_91, a_92, a_93, a_94, a_95, s_2, s_3, s_4, s_5, s_6, s_46, s_47, s_55, s_56, s_58, s_68, s_69, s_70, s_73, s_74, s_76, s_77, s_78, s_79, s_80, s_81, s_82, s_83, s_84, s_85, s_86, s_87, s_88, s_89, s_90, s_91, s_92, s_93, s_94, s_95, it_5, it_6, it_46, it_47, it_50, it_53, it_55, it_56, it_58, it_63, it_66, it_68, it_69, it_70, it_71, it_74, it_97, se_5, se_6, se_46, se_47, se_50, se_53, se_55, se_56, se_58, se_63, se_66, se_68, se_69, se_70, se_71, se_74, se_97, at_2, at_3, at_4, at_49, at_51, at_52, at_62, at_64, at_65, pu_2, pu_3, pu_4, pu_49, pu_51, pu_52, pu_62, pu_64, pu_65, h0]
    rw [wo_s0 rfl]) (by
    unfold f_X9_takes_L2
    simp (disch := omega) only [if_true, if_false, obs, Option.bind_none, Sum.elim_inl, Sum.elim_inr, Option.elim, Nat.reduceAdd, Nat.add_zero, Nat.zero_add, ile, igt, ilt, inl, ieq, ine, iq10, i1z, im1, im11, iml, imle, inm, nI_1, nI_add, isub1, isb, iaddm, pk_mul, si_hit, si_miss, si_oth, wo_oth, zl_0, zl_2, zl_3, zl_4, zl_5, zl_6, zl_7, zl_9, zl_10, zl_32, zl_35, zl_36, zl_48, zl_57, zl_59, zl_60, zl_61, zl_62, zl_63, zl_64, zl_65, zl_99, zl_100, zl_102, zl_109, zl_110, zl_115, zl_116, zl_119, zl_120, zl_121, zl_126, zl_605, zl_720, zl_1957, zl_1000000, a_2, a_3, a_4, a_5, a_6, a_46, a_47, a_55, a_56, a_58, a_68, a_69, a_70, a_73, a_74, a_76, a_77, a_78, a_79, a_80, a_81, a_82, a_83, a_84, a_85, a_86, a_87, a_88, a_89, a_90, a_91, a_92, a_93, a_94, a_95, s_2, s_3, s_4, s_5, s_6, s_46, s_47, s_55, s_56, s_58, s_68, s_69, s_70, s_73, s_74, s_76, s_77, s_78, s_79, s_80, s_81, s_82, s_83, s_84, s_85, s_86, s_87, s_88, s_89, s_90, s_91, s_92, s_93, s_94, s_95, it_5, it_6, it_46, it_47, it_50, it_53, it_55, it_56, it_58, it_63, it_66, it_68, it_69, it_70, it_71, it_74, it_97, se_5, se_6, se_46, se_47, se_50, se_53, se_55, se_56, se_58, se_63, se_66, se_68, se_69, se_70, se_71, se_74, se_97, at_2, at_3, at_4, at_49, at_51, at_52, at_62, at_64, at_65, pu_2, pu_3, pu_4, pu_49, pu_51, pu_52, pu_62, pu_64, pu_65, h0]) rfl]
  rfl
theorem m_keeps {σ : Sg} {n : Nat} (h0 : σ 76 0 = nI n) (hn : n ≤ 6) : f_X9_keeps σ 75 = some (wo σ 76 109 n (σ 80)) := by
  unfold f_X9_keeps
  have h0' : ∀ j, wo σ 76 109 j (σ 80) 76 0 = nI n := fun j => by rw [wo_out (by omega), h0]
  rw [lo_wo (z := 0) (k := 76) (o := 109) (n := n) (v := σ 80) (fun j hj => by
    unfold f_X9_keeps_L2
    simp (disch := omega) only [if_true, if_false, obs, Option.bind_none, Sum.elim_inl, Sum.elim_inr, Option.elim, Nat.reduceAdd, Nat.add_zero, Nat.zero_add, ile, igt, ilt, inl, ieq, ine, iq10, i1z, im1, im11, iml, imle, inm, nI_1, nI_add, isub1, isb, iaddm, pk_mul, si_hit, si_miss, si_oth, wo_oth, zl_0, zl_2, zl_3, zl_4, zl_5, zl_6, zl_7, zl_9, zl_10, zl_32, zl_35, zl_36, zl_48, zl_57, zl_59, zl_60, zl_61, zl_62, zl_63, zl_64, zl_65, zl_99, zl_100, zl_102, zl_109, zl_110, zl_115, zl_116, zl_119, zl_120, zl_121, zl_126, zl_605, zl_720, zl_1957, zl_1000000, a_2, a_3, a_4, a_5, a_6, a_46, a_47, a_55, a_56, a_58, a_68, a_69, a_70, a_73, a_74, a_76, a_77, a_78, a_79, a_80, a_81, a_82, a_83, a_84, a_85, a_86, a_87, a_88, a_89, a_90, a_91, a_92, a_93, a_94, a_95, s_2, s_3, s_4, s_5, s_6, s_46, s_47, s_55, s_56, s_58, s_68, s_69, s_70, s_73, s_74, s_76, s_77, s_78, s_79, s_80, s_81, s_82, s_83, s_84, s_85, s_86, s_87, s_88, s_89, s_90, s_91, s_92, s_93, s_94, s_95, it_5, it_6, it_46, it_47, it_50, it_53, it_55, it_56, it_58, it_63, it_66, it_68, it_69, it_70, it_71, it_74, it_97, se_5, se_6, se_46, se_47, se_50, se_53, se_55, se_56, se_58, se_63, se_66, se_68, se_69, se_70, se_71, se_74, se_97, at_2, at_3, at_4, at_49, at_51, at_52, at_62, at_64, at_65, pu_2, pu_3, pu_4, pu_49, pu_51, pu_52, pu_62, pu_64, pu_65, h0']
    rw [wo_s rfl]) (by
    unfold f_X9_keeps_L2
    simp (disch := omega) only [if_true, if_false, obs, Option.bind_none, Sum.elim_inl, Sum.elim_inr, Option.elim, Nat.reduceAdd, Nat.add_zero, Nat.zero_add, ile, igt, ilt, inl, ieq, ine, iq10, i1z, im1, im11, iml, imle, inm, nI_1, nI_add, isub1, isb, iaddm, pk_mul, si_hit, si_miss, si_oth, wo_oth, zl_0, zl_2, zl_3, zl_4, zl_5, zl_6, zl_7, zl_9, zl_10, zl_32, zl_35, zl_36, zl_48, zl_57, zl_59, zl_60, zl_61, zl_62, zl_63, zl_64, zl_65, zl_99, zl_100, zl_102, zl_109, zl_110, zl_115, zl_116, zl_119, zl_120, zl_121, zl_126, zl_605, zl_720, zl_1957, zl_1000000, a_2, a_3, a_4, a_5, a_6, a_46, a_47, a_55, a_56, a_58, a_68, a_69, a_70, a_73, a_74, a_76, a_77, a_78, a_79, a_80, a_81, a_82, a_83, a_84, a_85, a_86, a_87, a_88, a_89, a_90, a_91, a_92, a_93, a_94, a_95, s_2, s_3, s_4, s_5, s_6, s_46, s_47, s_55, s_56, s_58, s_68, s_69, s_70, s_73, s_74, s_76, s_77, s_78, s_79, s_80, s_81, s_82, s_83, s_84, s_85, s_86, s_87, s_88, s_89, s_90, s_91, s_92, s_93, s_94, s_95, it_5, it_6, it_46, it_47, it_50, it_53, it_55, it_56, it_58, it_63, it_66, it_68, it_69, it_70, it_71, it_74, it_97, se_5, se_6, se_46, se_47, se_50, se_53, se_55, se_56, se_58, se_63, se_66, se_68, se_69, se_70, se_71, se_74, se_97, at_2, at_3, at_4, at_49, at_51, at_52, at_62, at_64, at_65, pu_2, pu_3, pu_4, pu_49, pu_51, pu_52, pu_62, pu_64, pu_65, h0']) rfl]
  rfl
theorem m_looks {σ : Sg} : f_X9_looks σ 75 = some (wo σ 81 0 6 (fun i => σ 76 (115 + i))) := by
  unfold f_X9_looks
  rw [lo_wo (z := 0) (k := 81) (o := 0) (n := 6) (v := fun i => σ 76 (115 + i)) (fun j hj => by
    unfold f_X9_looks_L2
    simp (disch := omega) only [if_true, if_false, obs, Option.bind_none, Sum.elim_inl, Sum.elim_inr, Option.elim, Nat.reduceAdd, Nat.add_zero, Nat.zero_add, ile, igt, ilt, inl, ieq, ine, iq10, i1z, im1, im11, iml, imle, inm, nI_1, nI_add, isub1, isb, iaddm, pk_mul, si_hit, si_miss, si_oth, wo_oth, zl_0, zl_2, zl_3, zl_4, zl_5, zl_6, zl_7, zl_9, zl_10, zl_32, zl_35, zl_36, zl_48, zl_57, zl_59, zl_60, zl_61, zl_62, zl_63, zl_64, zl_65, zl_99, zl_100, zl_102, zl_109, zl_110, zl_115, zl_116, zl_119, zl_120, zl_121, zl_126, zl_605, zl_720, zl_1957, zl_1000000, a_2, a_3, a_4, a_5, a_6, a_46, a_47, a_55, a_56, a_58, a_68, a_69, a_70, a_73, a_74, a_76, a_77, a_78, a_79, a_80, a_81, a_82, a_83, a_84, a_85, a_86, a_87, a_88, a_89, a_90, a_91, a_92, a_93, a_94, a_95, s_2, s_3, s_4, s_5, s_6, s_46, s_47, s_55, s_56, s_58, s_68, s_69, s_70, s_73, s_74, s_76, s_77, s_78, s_79, s_80, s_81, s_82, s_83, s_84, s_85, s_86, s_87, s_88, s_89, s_90, s_91, s_92, s_93, s_94, s_95, it_5, it_6, it_46, it_47, it_50, it_53, it_55, it_56, it_58, it_63, it_66, it_68, it_69, it_70, it_71, it_74, it_97, se_5, se_6, se_46, se_47, se_50, se_53, se_55, se_56, se_58, se_63, se_66, se_68, se_69, se_70, se_71, se_74, se_97, at_2, at_3, at_4, at_49, at_51, at_52, at_62, at_64, at_65, pu_2, pu_3, pu_4, pu_49, pu_51, pu_52, pu_62, pu_64, pu_65]
    rw [wo_s0 rfl]) (by
    unfold f_X9_looks_L2
    simp (disch := omega) only [if_true, if_false, obs, Option.bind_none, Sum.elim_inl, Sum.elim_inr, Option.elim, Nat.reduceAdd, Nat.add_zero, Nat.zero_add, ile, igt, ilt, inl, ieq, ine, iq10, i1z, im1, im11, iml, imle, inm, nI_1, nI_add, isub1, isb, iaddm, pk_mul, si_hit, si_miss, si_oth, wo_oth, zl_0, zl_2, zl_3, zl_4, zl_5, zl_6, zl_7, zl_9, zl_10, zl_32, zl_35, zl_36, zl_48, zl_57, zl_59, zl_60, zl_61, zl_62, zl_63, zl_64, zl_65, zl_99, zl_100, zl_102, zl_109, zl_110, zl_115, zl_116, zl_119, zl_120, zl_121, zl_126, zl_605, zl_720, zl_1957, zl_1000000, a_2, a_3, a_4, a_5, a_6, a_46, a_47, a_55, a_56, a_58, a_68, a_69, a_70, a_73, a_74, a_76, a_77, a_78, a_79, a_80, a_81, a_82, a_83, a_84, a_85, a_86, a_87, a_88, a_89, a_90, a_91, a_92, a_93, a_94, a_95, s_2, s_3, s_4, s_5, s_6, s_46, s_47, s_55, s_56, s_58, s_68, s_69, s_70, s_73, s_74, s_76, s_77, s_78, s_79, s_80, s_81, s_82, s_83, s_84, s_85, s_86, s_87, s_88, s_89, s_90, s_91, s_92, s_93, s_94, s_95, it_5, it_6, it_46, it_47, it_50, it_53, it_55, it_56, it_58, it_63, it_66, it_68, it_69, it_70, it_71, it_74, it_97, se_5, se_6, se_46, se_47, se_50, se_53, se_55, se_56, se_58, se_63, se_66, se_68, se_69, se_70, se_71, se_74, se_97, at_2, at_3, at_4, at_49, at_51, at_52, at_62, at_64, at_65, pu_2, pu_3, pu_4, pu_49, pu_51, pu_52, pu_62, pu_64, pu_65]) rfl]
  rfl
-- snapshots
def snap (σ : Sg) (k : Nat) : Nat → Int32 := fun j => if j = 0 then σ k 0 else if j < 37 then σ (k + 1) (j - 1) else if j < 73 then σ (k + 2) (j - 37) else if j < 109 then σ (k + 3) (j - 73) else if j < 115 then σ (k + 4) (j - 109) else σ (k + 5) (j - 115)
def EqS (s s' : Nat → Int32) : Prop := ∀ j, j < 121 → s j = s' j
theorem snap_0 {σ : Sg} {k : Nat} : snap σ k 0 = σ k 0 := rfl
theorem snap_f {σ : Sg} {k j : Nat} (h : j < 36) : snap σ k (1 + j) = σ (k + 1) j := by
  unfold snap
  rw [if_neg (by omega), if_pos (by omega), Nat.add_sub_cancel_left]
theorem snap_d {σ : Sg} {k j : Nat} (h : j < 36) : snap σ k (37 + j) = σ (k + 2) j := by
  unfold snap
  rw [if_neg (by omega), if_neg (by omega), if_pos (by omega), Nat.add_sub_cancel_left]
theorem snap_c {σ : Sg} {k j : Nat} (h : j < 36) : snap σ k (73 + j) = σ (k + 3) j := by
  unfold snap
  rw [if_neg (by omega), if_neg (by omega), if_neg (by omega), if_pos (by omega), Nat.add_sub_cancel_left]
theorem snap_p {σ : Sg} {k j : Nat} (h : j < 6) : snap σ k (109 + j) = σ (k + 4) j := by
  unfold snap
  rw [if_neg (by omega), if_neg (by omega), if_neg (by omega), if_neg (by omega), if_pos (by omega), Nat.add_sub_cancel_left]
theorem snap_x {σ : Sg} {k j : Nat} : snap σ k (115 + j) = σ (k + 5) j := by
  unfold snap
  rw [if_neg (by omega), if_neg (by omega), if_neg (by omega), if_neg (by omega), if_neg (by omega), Nat.add_sub_cancel_left]
theorem snap_case {P : Nat → Prop} (h0 : P 0) (hf : ∀ j, j < 36 → P (1 + j)) (hd : ∀ j, j < 36 → P (37 + j)) (hc : ∀ j, j < 36 → P (73 + j)) (hp : ∀ j, j < 6 → P (109 + j)) (hx : ∀ j, j < 6 → P (115 + j)) : ∀ j, j < 121 → P j := by
  intro j hj
  by_cases h1 : j = 0
  · subst h1; exact h0
  by_cases h2 : j < 37
  · have := hf (j - 1) (by omega)
    rwa [show 1 + (j - 1) = j by omega] at this
  by_cases h3 : j < 73
  · have := hd (j - 37) (by omega)
    rwa [show 37 + (j - 37) = j by omega] at this
  by_cases h4 : j < 109
  · have := hc (j - 73) (by omega)
    rwa [show 73 + (j - 73) = j by omega] at this
  by_cases h5 : j < 115
  · have := hp (j - 109) (by omega)
    rwa [show 109 + (j - 109) = j by omega] at this
  · have := hx (j - 115) (by omega)
    rwa [show 115 + (j - 115) = j by omega] at this
theorem snap_fr {σ σ' : Sg} {k : Nat} (h : ∀ d, d < 6 → σ' (k + d) = σ (k + d)) : snap σ' k = snap σ k := by
  funext j
  unfold snap
  rw [show σ' k = σ k from h 0 (by omega), h 1 (by omega), h 2 (by omega), h 3 (by omega), h 4 (by omega), h 5 (by omega)]
theorem acp_ok {σ : Sg} {ks kt n : Nat} (h1 : ln ks = n) (h2 : ln kt = n) (hn : n < 2 ^ 31) : acp σ ks (0 : Int32) kt (0 : Int32) (nI n) = some (wo σ kt 0 n (σ ks)) := by
  unfold acp
  have z : (0 : Int32).toNatClampNeg = 0 := rfl
  rw [if_pos ⟨by decide, by decide, nI_pos hn, by rw [z, nI_clamp hn]; omega, by rw [z, nI_clamp hn]; omega⟩]
  unfold wo va_cpy
  rw [z, nI_clamp hn]
  congr 2
  funext q
  by_cases h : 0 ≤ q ∧ q < 0 + n
  · rw [if_pos h, if_pos h, Nat.zero_add]
  · rw [if_neg h, if_neg h]
theorem copyFrom_ok {σ : Sg} {k0 k1 : Nat} (a1 : ln (k0 + 1) = 36) (a2 : ln (k0 + 2) = 36) (a3 : ln (k0 + 3) = 36) (a4 : ln (k0 + 4) = 6) (a5 : ln (k0 + 5) = 6) (b1 : ln (k1 + 1) = 36) (b2 : ln (k1 + 2) = 36) (b3 : ln (k1 + 3) = 36) (b4 : ln (k1 + 4) = 6) (b5 : ln (k1 + 5) = 6) (hk : k0 + 6 ≤ k1 ∨ k1 + 6 ≤ k0) : ∃ σ', f_X6_copyFrom σ k0 k1 = some σ' ∧ (∀ q, q < k0 ∨ k0 + 6 ≤ q → σ' q = σ q) ∧ EqS (snap σ' k0) (snap σ k1) ∧ ∀ j, j ≠ 0 → σ' k0 j = σ k0 j := by
  unfold f_X6_copyFrom
  rw [show (36 : Int32) = nI 36 from rfl, show (6 : Int32) = nI 6 from rfl, acp_ok b1 a1 (by omega)]
  simp only [obs]
  rw [acp_ok b2 a2 (by omega)]
  simp only [obs]
  rw [acp_ok b3 a3 (by omega)]
  simp only [obs]
  rw [acp_ok b4 a4 (by omega)]
  simp only [obs]
  rw [acp_ok b5 a5 (by omega)]
  simp only [obs]
  refine ⟨_, rfl, fun q hq => ?_, snap_case ?_ (fun j hj => ?_) (fun j hj => ?_) (fun j hj => ?_) (fun j hj => ?_) (fun j hj => ?_), fun j hj => ?_⟩
  · simp (disch := omega) only [wo_oth, si_oth]
  · rw [snap_0, snap_0]
    simp (disch := omega) only [wo_oth, si_hit]
  · rw [snap_f hj, snap_f hj]
    simp (disch := omega) only [wo_oth, si_oth, wo_in0]
  · rw [snap_d hj, snap_d hj]
    simp (disch := omega) only [wo_oth, si_oth, wo_in0]
  · rw [snap_c hj, snap_c hj]
    simp (disch := omega) only [wo_oth, si_oth, wo_in0]
  · rw [snap_p hj, snap_p hj]
    simp (disch := omega) only [wo_oth, si_oth, wo_in0]
  · rw [snap_x, snap_x]
    simp (disch := omega) only [wo_oth, si_oth, wo_in0]
  · simp (disch := omega) only [wo_oth, si_miss]
-- records
def pushC (c : Nat) : Nat := if c < 6 then c + 1 else 6
def pushH (c : Nat) (h : Nat → Nat → Int32) (s : Nat → Int32) : Nat → Nat → Int32 := fun r => if c < 6 then (if r < c then h r else s) else (if r < 5 then h (r + 1) else s)
def HC (σ : Sg) (c : Nat) (h : Nat → Nat → Int32) : Prop := ∃ nx, nx < 6 ∧ c ≤ 6 ∧ σ 7 0 = nI c ∧ σ 7 1 = nI nx ∧ ∀ r, r < c → EqS (snap σ (9 + 6 * ((nx + 6 - c + r) % 6))) (h r)
def HM (σ : Sg) (c : Nat) (h : Nat → Nat → Int32) : Prop := c ≤ 6 ∧ σ 75 3 = nI c ∧ ∀ r, r < c → ∀ j, j < 121 → σ 77 (121 * r + j) = h r j
theorem rr8 {i : Nat} : rr 8 i = 9 + 6 * i := rfl
theorem record_ok {i : Nat} (h : i < 6) : f_X2_record 7 (nI i) = some (some (9 + 6 * i)) := by
  unfold f_X2_record rald
  have h8 : ln (7 + 1) = 6 := by decide +kernel
  rw [h8]
  have e1 : Int32.ofNat 6 = nI 6 := rfl
  rw [e1, if_neg (nI_pos (by omega)), if_neg (nI_ge h (by omega)), if_neg (nI_in h (by omega)), nI_clamp (by omega)]
  rfl
def HW : List Nat := [7, 9, 10, 11, 12, 13, 14, 15, 16, 17, 18, 19, 20, 21, 22, 23, 24, 25, 26, 27, 28, 29, 30, 31, 32, 33, 34, 35, 36, 37, 38, 39, 40, 41, 42, 43, 44]
theorem HW_of {q : Nat} (h : q = 7 ∨ 9 ≤ q ∧ q < 45) : q ∈ HW := by
  unfold HW
  simp only [List.mem_cons, List.not_mem_nil, or_false]
  omega
theorem HW_not {q : Nat} (h : q ∉ HW) : ¬ (q = 7 ∨ 9 ≤ q ∧ q < 45) := fun z => h (HW_of z)
theorem rec_ln : ∀ i, i < 6 → ln (9 + 6 * i + 1) = 36 ∧ ln (9 + 6 * i + 2) = 36 ∧ ln (9 + 6 * i + 3) = 36 ∧ ln (9 + 6 * i + 4) = 6 ∧ ln (9 + 6 * i + 5) = 6 := by decide +kernel
theorem push_ok {σ : Sg} {c : Nat} {h : Nat → Nat → Int32} {s : Nat → Int32} (hs : EqS (snap σ 1) s) (H : HC σ c h) : ∃ σ', f_X2_push σ 7 1 = some σ' ∧ Fr HW σ σ' ∧ HC σ' (pushC c) (pushH c h s) := by
  obtain ⟨nx, hnx, hc, e0, e1, hr⟩ := H
  obtain ⟨a1, a2, a3, a4, a5⟩ := rec_ln nx hnx
  obtain ⟨σ1, q1, q2, q3, -⟩ := copyFrom_ok (σ := σ) (k0 := 9 + 6 * nx) (k1 := 1) a1 a2 a3 a4 a5 (by decide +kernel) (by decide +kernel) (by decide +kernel) (by decide +kernel) (by decide +kernel) (by omega)
  unfold f_X2_push
  rw [e1, record_ok hnx]
  simp only [obs, Option.elim]
  rw [q1]
  simp only [obs]
  have e0' : σ1 7 0 = nI c := by rw [q2 7 (by omega), e0]
  have e1' : σ1 7 1 = nI nx := by rw [q2 7 (by omega), e1]
  have fin : ∀ nx', nx' < 6 → (nx' = nx + 1 ∨ (nx' = 0 ∧ nx = 5)) → ∃ σ', f_X2_push_J40 7 (nI nx') σ1 = some σ' ∧ Fr HW σ σ' ∧ HC σ' (pushC c) (pushH c h s) := by
    intro nx' hn' hor
    unfold f_X2_push_J40
    refine ⟨_, rfl, ((Fr.si (fun q hq => ?_) (HW_of (Or.inl rfl))).si (HW_of (Or.inl rfl))), nx', hn', ?_, ?_, ?_, fun r hrc => ?_⟩
    · have := HW_not hq
      exact q2 q (by omega)
    · unfold pushC; split <;> omega
    · simp (disch := omega) only [if_true, if_false, obs, Option.bind_none, Sum.elim_inl, Sum.elim_inr, Option.elim, Nat.reduceAdd, Nat.add_zero, Nat.zero_add, ile, igt, ilt, inl, ieq, ine, iq10, i1z, im1, im11, iml, imle, inm, nI_1, nI_add, isub1, isb, iaddm, pk_mul, si_hit, si_miss, si_oth, wo_oth, zl_0, zl_2, zl_3, zl_4, zl_5, zl_6, zl_7, zl_9, zl_10, zl_32, zl_35, zl_36, zl_48, zl_57, zl_59, zl_60, zl_61, zl_62, zl_63, zl_64, zl_65, zl_99, zl_100, zl_102, zl_109, zl_110, zl_115, zl_116, zl_119, zl_120, zl_121, zl_126, zl_605, zl_720, zl_1957, zl_1000000, a_2, a_3, a_4, a_5, a_6, a_46, a_47, a_55, a_56, a_58, a_68, a_69, a_70, a_73, a_74, a_76, a_77, a_78, a_79, a_80, a_81, a_82, a_83, a_84, a_85, a_86, a_87, a_88, a_89, a_90, a_91, a_92, a_93, a_94, a_95, s_2, s_3, s_4, s_5, s_6, s_46, s_47, s_55, s_56, s_58, s_68, s_69, s_70, s_73, s_74, s_76, s_77, s_78, s_79, s_80, s_81, s_82, s_83, s_84, s_85, s_86, s_87, s_88, s_89, s_90, s_91, s_92, s_93, s_94, s_95, it_5, it_6, it_46, it_47, it_50, it_53, it_55, it_56, it_58, it_63, it_66, it_68, it_69, it_70, it_71, it_74, it_97, se_5, se_6, se_46, se_47, se_50, se_53, se_55, se_56, se_58, se_63, se_66, se_68, se_69, se_70, se_71, se_74, se_97, at_2, at_3, at_4, at_49, at_51, at_52, at_62, at_64, at_65, pu_2, pu_3, pu_4, pu_49, pu_51, pu_52, pu_62, pu_64, pu_65, e0']
      unfold mn pushC
      by_cases hc6 : c < 5
      · rw [if_pos (show c < 6 by omega)]
        simp (disch := omega) only [if_true, if_false, obs, Option.bind_none, Sum.elim_inl, Sum.elim_inr, Option.elim, Nat.reduceAdd, Nat.add_zero, Nat.zero_add, ile, igt, ilt, inl, ieq, ine, iq10, i1z, im1, im11, iml, imle, inm, nI_1, nI_add, isub1, isb, iaddm, pk_mul, si_hit, si_miss, si_oth, wo_oth, zl_0, zl_2, zl_3, zl_4, zl_5, zl_6, zl_7, zl_9, zl_10, zl_32, zl_35, zl_36, zl_48, zl_57, zl_59, zl_60, zl_61, zl_62, zl_63, zl_64, zl_65, zl_99, zl_100, zl_102, zl_109, zl_110, zl_115, zl_116, zl_119, zl_120, zl_121, zl_126, zl_605, zl_720, zl_1957, zl_1000000, a_2, a_3, a_4, a_5, a_6, a_46, a_47, a_55, a_56, a_58, a_68, a_69, a_70, a_73, a_74, a_76, a_77, a_78, a_79, a_80, a_81, a_82, a_83, a_84, a_85, a_86, a_87, a_88, a_89, a_90, a_91, a_92, a_93, a_94, a_95, s_2, s_3, s_4, s_5, s_6, s_46, s_47, s_55, s_56, s_58, s_68, s_69, s_70, s_73, s_74, s_76, s_77, s_78, s_79, s_80, s_81, s_82, s_83, s_84, s_85, s_86, s_87, s_88, s_89, s_90, s_91, s_92, s_93, s_94, s_95, it_5, it_6, it_46, it_47, it_50, it_53, it_55, it_56, it_58, it_63, it_66, it_68, it_69, it_70, it_71, it_74, it_97, se_5, se_6, se_46, se_47, se_50, se_53, se_55, se_56, se_58, se_63, se_66, se_68, se_69, se_70, se_71, se_74, se_97, at_2, at_3, at_4, at_49, at_51, at_52, at_62, at_64, at_65, pu_2, pu_3, pu_4, pu_49, pu_51, pu_52, pu_62, pu_64, pu_65]
      · rw [if_neg (nI_nlt (by omega) (by omega))]
        by_cases hc7 : c < 6
        · rw [if_pos hc7, show c + 1 = 6 by omega]
        · rw [if_neg hc7]
    · simp (disch := omega) only [if_true, if_false, obs, Option.bind_none, Sum.elim_inl, Sum.elim_inr, Option.elim, Nat.reduceAdd, Nat.add_zero, Nat.zero_add, ile, igt, ilt, inl, ieq, ine, iq10, i1z, im1, im11, iml, imle, inm, nI_1, nI_add, isub1, isb, iaddm, pk_mul, si_hit, si_miss, si_oth, wo_oth, zl_0, zl_2, zl_3, zl_4, zl_5, zl_6, zl_7, zl_9, zl_10, zl_32, zl_35, zl_36, zl_48, zl_57, zl_59, zl_60, zl_61, zl_62, zl_63, zl_64, zl_65, zl_99, zl_100, zl_102, zl_109, zl_110, zl_115, zl_116, zl_119, zl_120, zl_121, zl_126, zl_605, zl_720, zl_1957, zl_1000000, a_2, a_3, a_4, a_5, a_6, a_46, a_47, a_55, a_56, a_58, a_68, a_69, a_70, a_73, a_74, a_76, a_77, a_78, a_79, a_80, a_81, a_82, a_83, a_84, a_85, a_86, a_87, a_88, a_89, a_90, a_91, a_92, a_93, a_94, a_95, s_2, s_3, s_4, s_5, s_6, s_46, s_47, s_55, s_56, s_58, s_68, s_69, s_70, s_73, s_74, s_76, s_77, s_78, s_79, s_80, s_81, s_82, s_83, s_84, s_85, s_86, s_87, s_88, s_89, s_90, s_91, s_92, s_93, s_94, s_95, it_5, it_6, it_46, it_47, it_50, it_53, it_55, it_56, it_58, it_63, it_66, it_68, it_69, it_70, it_71, it_74, it_97, se_5, se_6, se_46, se_47, se_50, se_53, se_55, se_56, se_58, se_63, se_66, se_68, se_69, se_70, se_71, se_74, se_97, at_2, at_3, at_4, at_49, at_51, at_52, at_62, at_64, at_65, pu_2, pu_3, pu_4, pu_49, pu_51, pu_52, pu_62, pu_64, pu_65]
    · have hrc' : r < pushC c := hrc
      have hsn : ∀ k, 9 ≤ k → snap (si (si σ1 7 1 (nI nx')) 7 0 (mn (6 : Int32) ((si σ1 7 1 (nI nx')) 7 0 + 1))) k = snap σ1 k := fun k hk => snap_fr fun d hd => by rw [si_oth (by omega), si_oth (by omega)]
      rw [hsn _ (by omega)]
      unfold pushC at hrc' ⊢
      unfold pushH
      by_cases hc6 : c < 6
      · rw [if_pos hc6] at hrc' ⊢
        simp only [if_pos hc6]
        by_cases hr2 : r < c
        · rw [if_pos hr2]
          have hslot : (nx' + 6 - (c + 1) + r) % 6 = (nx + 6 - c + r) % 6 := by omega
          have hne : (nx + 6 - c + r) % 6 ≠ nx := by omega
          rw [hslot, snap_fr (σ := σ) (fun d hd => q2 _ (by omega))]
          exact hr r hr2
        · rw [if_neg hr2]
          have hslot : (nx' + 6 - (c + 1) + r) % 6 = nx := by omega
          rw [hslot]
          exact fun j hj => (q3 j hj).trans (hs j hj)
      · rw [if_neg hc6] at hrc' ⊢
        simp only [if_neg hc6]
        by_cases hr2 : r < 5
        · rw [if_pos hr2]
          have hslot : (nx' + 6 - 6 + r) % 6 = (nx + 6 - c + (r + 1)) % 6 := by omega
          have hne : (nx + 6 - c + (r + 1)) % 6 ≠ nx := by omega
          rw [hslot, snap_fr (σ := σ) (fun d hd => q2 _ (by omega))]
          exact hr (r + 1) (by omega)
        · rw [if_neg hr2]
          have hslot : (nx' + 6 - 6 + r) % 6 = nx := by omega
          rw [hslot]
          exact fun j hj => (q3 j hj).trans (hs j hj)
  unfold f_X2_push_J18
  rw [e1']
  by_cases h5 : nx + 1 < 6
  · simp (disch := omega) only [if_true, if_false, obs, Option.bind_none, Sum.elim_inl, Sum.elim_inr, Option.elim, Nat.reduceAdd, Nat.add_zero, Nat.zero_add, ile, igt, ilt, inl, ieq, ine, iq10, i1z, im1, im11, iml, imle, inm, nI_1, nI_add, isub1, isb, iaddm, pk_mul, si_hit, si_miss, si_oth, wo_oth, zl_0, zl_2, zl_3, zl_4, zl_5, zl_6, zl_7, zl_9, zl_10, zl_32, zl_35, zl_36, zl_48, zl_57, zl_59, zl_60, zl_61, zl_62, zl_63, zl_64, zl_65, zl_99, zl_100, zl_102, zl_109, zl_110, zl_115, zl_116, zl_119, zl_120, zl_121, zl_126, zl_605, zl_720, zl_1957, zl_1000000, a_2, a_3, a_4, a_5, a_6, a_46, a_47, a_55, a_56, a_58, a_68, a_69, a_70, a_73, a_74, a_76, a_77, a_78, a_79, a_80, a_81, a_82, a_83, a_84, a_85, a_86, a_87, a_88, a_89, a_90, a_91, a_92, a_93, a_94, a_95, s_2, s_3, s_4, s_5, s_6, s_46, s_47, s_55, s_56, s_58, s_68, s_69, s_70, s_73, s_74, s_76, s_77, s_78, s_79, s_80, s_81, s_82, s_83, s_84, s_85, s_86, s_87, s_88, s_89, s_90, s_91, s_92, s_93, s_94, s_95, it_5, it_6, it_46, it_47, it_50, it_53, it_55, it_56, it_58, it_63, it_66, it_68, it_69, it_70, it_71, it_74, it_97, se_5, se_6, se_46, se_47, se_50, se_53, se_55, se_56, se_58, se_63, se_66, se_68, se_69, se_70, se_71, se_74, se_97, at_2, at_3, at_4, at_49, at_51, at_52, at_62, at_64, at_65, pu_2, pu_3, pu_4, pu_49, pu_51, pu_52, pu_62, pu_64, pu_65]
    exact fin (nx + 1) h5 (Or.inl rfl)
  · simp (disch := omega) only [if_true, if_false, obs, Option.bind_none, Sum.elim_inl, Sum.elim_inr, Option.elim, Nat.reduceAdd, Nat.add_zero, Nat.zero_add, ile, igt, ilt, inl, ieq, ine, iq10, i1z, im1, im11, iml, imle, inm, nI_1, nI_add, isub1, isb, iaddm, pk_mul, si_hit, si_miss, si_oth, wo_oth, zl_0, zl_2, zl_3, zl_4, zl_5, zl_6, zl_7, zl_9, zl_10, zl_32, zl_35, zl_36, zl_48, zl_57, zl_59, zl_60, zl_61, zl_62, zl_63, zl_64, zl_65, zl_99, zl_100, zl_102, zl_109, zl_110, zl_115, zl_116, zl_119, zl_120, zl_121, zl_126, zl_605, zl_720, zl_1957, zl_1000000, a_2, a_3, a_4, a_5, a_6, a_46, a_47, a_55, a_56, a_58, a_68, a_69, a_70, a_73, a_74, a_76, a_77, a_78, a_79, a_80, a_81, a_82, a_83, a_84, a_85, a_86, a_87, a_88, a_89, a_90, a_91, a_92, a_93, a_94, a_95, s_2, s_3, s_4, s_5, s_6, s_46, s_47, s_55, s_56, s_58, s_68, s_69, s_70, s_73, s_74, s_76, s_77, s_78, s_79, s_80, s_81, s_82, s_83, s_84, s_85, s_86, s_87, s_88, s_89, s_90, s_91, s_92, s_93, s_94, s_95, it_5, it_6, it_46, it_47, it_50, it_53, it_55, it_56, it_58, it_63, it_66, it_68, it_69, it_70, it_71, it_74, it_97, se_5, se_6, se_46, se_47, se_50, se_53, se_55, se_56, se_58, se_63, se_66, se_68, se_69, se_70, se_71, se_74, se_97, at_2, at_3, at_4, at_49, at_51, at_52, at_62, at_64, at_65, pu_2, pu_3, pu_4, pu_49, pu_51, pu_52, pu_62, pu_64, pu_65]
    exact fin 0 (by omega) (Or.inr ⟨rfl, by omega⟩)
theorem popInto_ok {σ : Sg} {c : Nat} {h : Nat → Nat → Int32} (h0 : 0 < c) (H : HC σ c h) : ∃ σ', f_X2_popInto σ 7 1 = some σ' ∧ Fr [1, 2, 3, 4, 5, 6, 7] σ σ' ∧ HC σ' (c - 1) h ∧ EqS (snap σ' 1) (h (c - 1)) := by
  obtain ⟨nx, hnx, hc, e0, e1, hr⟩ := H
  have fin : ∀ nx', nx' < 6 → (nx = nx' + 1 ∨ (nx' = 5 ∧ nx = 0)) → ∃ σ', f_X2_popInto_J18 7 1 (nI nx') σ = some σ' ∧ Fr [1, 2, 3, 4, 5, 6, 7] σ σ' ∧ HC σ' (c - 1) h ∧ EqS (snap σ' 1) (h (c - 1)) := by
    intro nx' hn' hor
    obtain ⟨a1, a2, a3, a4, a5⟩ := rec_ln nx' hn'
    obtain ⟨σ1, q1, q2, q3, -⟩ := copyFrom_ok (σ := si σ 7 1 (nI nx')) (k0 := 1) (k1 := 9 + 6 * nx') (by decide +kernel) (by decide +kernel) (by decide +kernel) (by decide +kernel) (by decide +kernel) a1 a2 a3 a4 a5 (by omega)
    unfold f_X2_popInto_J18
    rw [si_hit, record_ok hn']
    simp only [obs, Option.elim]
    rw [q1]
    simp only [obs]
    unfold f_X2_popInto_J39
    have e0' : σ1 7 0 = nI c := by rw [q2 7 (by omega), si_miss (by omega), e0]
    have e1' : σ1 7 1 = nI nx' := by rw [q2 7 (by omega), si_hit]
    have hsn : ∀ k x, 9 ≤ k → snap (si σ1 7 0 x) k = snap σ k := fun k x hk => snap_fr fun d hd => by rw [si_oth (by omega), q2 _ (by omega), si_oth (by omega)]
    refine ⟨_, rfl, Fr.si (fun q hq => ?_) (by decide), ⟨nx', hn', by omega, ?_, ?_, fun r hrc => ?_⟩, ?_⟩
    · simp only [List.mem_cons, List.not_mem_nil, or_false] at hq
      rw [q2 q (by omega), si_oth (by omega)]
    · simp (disch := omega) only [if_true, if_false, obs, Option.bind_none, Sum.elim_inl, Sum.elim_inr, Option.elim, Nat.reduceAdd, Nat.add_zero, Nat.zero_add, ile, igt, ilt, inl, ieq, ine, iq10, i1z, im1, im11, iml, imle, inm, nI_1, nI_add, isub1, isb, iaddm, pk_mul, si_hit, si_miss, si_oth, wo_oth, zl_0, zl_2, zl_3, zl_4, zl_5, zl_6, zl_7, zl_9, zl_10, zl_32, zl_35, zl_36, zl_48, zl_57, zl_59, zl_60, zl_61, zl_62, zl_63, zl_64, zl_65, zl_99, zl_100, zl_102, zl_109, zl_110, zl_115, zl_116, zl_119, zl_120, zl_121, zl_126, zl_605, zl_720, zl_1957, zl_1000000, a_2, a_3, a_4, a_5, a_6, a_46, a_47, a_55, a_56, a_58, a_68, a_69, a_70, a_73, a_74, a_76, a_77, a_78, a_79, a_80, a_81, a_82, a_83, a_84, a_85, a_86, a_87, a_88, a_89, a_90, a_91, a_92, a_93, a_94, a_95, s_2, s_3, s_4, s_5, s_6, s_46, s_47, s_55, s_56, s_58, s_68, s_69, s_70, s_73, s_74, s_76, s_77, s_78, s_79, s_80, s_81, s_82, s_83, s_84, s_85, s_86, s_87, s_88, s_89, s_90, s_91, s_92, s_93, s_94, s_95, it_5, it_6, it_46, it_47, it_50, it_53, it_55, it_56, it_58, it_63, it_66, it_68, it_69, it_70, it_71, it_74, it_97, se_5, se_6, se_46, se_47, se_50, se_53, se_55, se_56, se_58, se_63, se_66, se_68, se_69, se_70, se_71, se_74, se_97, at_2, at_3, at_4, at_49, at_51, at_52, at_62, at_64, at_65, pu_2, pu_3, pu_4, pu_49, pu_51, pu_52, pu_62, pu_64, pu_65, e0']
      unfold mx
      by_cases hc1 : 1 < c
      · rw [if_pos (nI_lt (by omega) (by omega))]
      · rw [if_neg (nI_nlt (by omega) (by omega)), show c - 1 = 0 by omega]
    · simp (disch := omega) only [if_true, if_false, obs, Option.bind_none, Sum.elim_inl, Sum.elim_inr, Option.elim, Nat.reduceAdd, Nat.add_zero, Nat.zero_add, ile, igt, ilt, inl, ieq, ine, iq10, i1z, im1, im11, iml, imle, inm, nI_1, nI_add, isub1, isb, iaddm, pk_mul, si_hit, si_miss, si_oth, wo_oth, zl_0, zl_2, zl_3, zl_4, zl_5, zl_6, zl_7, zl_9, zl_10, zl_32, zl_35, zl_36, zl_48, zl_57, zl_59, zl_60, zl_61, zl_62, zl_63, zl_64, zl_65, zl_99, zl_100, zl_102, zl_109, zl_110, zl_115, zl_116, zl_119, zl_120, zl_121, zl_126, zl_605, zl_720, zl_1957, zl_1000000, a_2, a_3, a_4, a_5, a_6, a_46, a_47, a_55, a_56, a_58, a_68, a_69, a_70, a_73, a_74, a_76, a_77, a_78, a_79, a_80, a_81, a_82, a_83, a_84, a_85, a_86, a_87, a_88, a_89, a_90, a_91, a_92, a_93, a_94, a_95, s_2, s_3, s_4, s_5, s_6, s_46, s_47, s_55, s_56, s_58, s_68, s_69, s_70, s_73, s_74, s_76, s_77, s_78, s_79, s_80, s_81, s_82, s_83, s_84, s_85, s_86, s_87, s_88, s_89, s_90, s_91, s_92, s_93, s_94, s_95, it_5, it_6, it_46, it_47, it_50, it_53, it_55, it_56, it_58, it_63, it_66, it_68, it_69, it_70, it_71, it_74, it_97, se_5, se_6, se_46, se_47, se_50, se_53, se_55, se_56, se_58, se_63, se_66, se_68, se_69, se_70, se_71, se_74, se_97, at_2, at_3, at_4, at_49, at_51, at_52, at_62, at_64, at_65, pu_2, pu_3, pu_4, pu_49, pu_51, pu_52, pu_62, pu_64, pu_65, e1']
    · rw [hsn _ _ (by omega), show (nx' + 6 - (c - 1) + r) % 6 = (nx + 6 - c + r) % 6 by omega]
      exact hr r (by omega)
    · have hs1 : ∀ x, snap (si σ1 7 0 x) 1 = snap σ1 1 := fun x => snap_fr fun d hd => by rw [si_oth (by omega)]
      rw [hs1]
      have hs9 : snap (si σ 7 1 (nI nx')) (9 + 6 * nx') = snap σ (9 + 6 * nx') := snap_fr fun d hd => by rw [si_oth (by omega)]
      have := hr (c - 1) (by omega)
      rw [show (nx + 6 - c + (c - 1)) % 6 = nx' by omega] at this
      exact fun j hj => (q3 j hj).trans ((congrFun hs9 j).trans (this j hj))
  unfold f_X2_popInto
  rw [e1]
  by_cases h5 : nx = 0
  · subst h5
    simp (disch := omega) only [if_true, if_false, obs, Option.bind_none, Sum.elim_inl, Sum.elim_inr, Option.elim, Nat.reduceAdd, Nat.add_zero, Nat.zero_add, ile, igt, ilt, inl, ieq, ine, iq10, i1z, im1, im11, iml, imle, inm, nI_1, nI_add, isub1, isb, iaddm, pk_mul, si_hit, si_miss, si_oth, wo_oth, zl_0, zl_2, zl_3, zl_4, zl_5, zl_6, zl_7, zl_9, zl_10, zl_32, zl_35, zl_36, zl_48, zl_57, zl_59, zl_60, zl_61, zl_62, zl_63, zl_64, zl_65, zl_99, zl_100, zl_102, zl_109, zl_110, zl_115, zl_116, zl_119, zl_120, zl_121, zl_126, zl_605, zl_720, zl_1957, zl_1000000, a_2, a_3, a_4, a_5, a_6, a_46, a_47, a_55, a_56, a_58, a_68, a_69, a_70, a_73, a_74, a_76, a_77, a_78, a_79, a_80, a_81, a_82, a_83, a_84, a_85, a_86, a_87, a_88, a_89, a_90, a_91, a_92, a_93, a_94, a_95, s_2, s_3, s_4, s_5, s_6, s_46, s_47, s_55, s_56, s_58, s_68, s_69, s_70, s_73, s_74, s_76, s_77, s_78, s_79, s_80, s_81, s_82, s_83, s_84, s_85, s_86, s_87, s_88, s_89, s_90, s_91, s_92, s_93, s_94, s_95, it_5, it_6, it_46, it_47, it_50, it_53, it_55, it_56, it_58, it_63, it_66, it_68, it_69, it_70, it_71, it_74, it_97, se_5, se_6, se_46, se_47, se_50, se_53, se_55, se_56, se_58, se_63, se_66, se_68, se_69, se_70, se_71, se_74, se_97, at_2, at_3, at_4, at_49, at_51, at_52, at_62, at_64, at_65, pu_2, pu_3, pu_4, pu_49, pu_51, pu_52, pu_62, pu_64, pu_65]
    exact fin 5 (by omega) (Or.inr ⟨rfl, rfl⟩)
  · simp (disch := omega) only [if_true, if_false, obs, Option.bind_none, Sum.elim_inl, Sum.elim_inr, Option.elim, Nat.reduceAdd, Nat.add_zero, Nat.zero_add, ile, igt, ilt, inl, ieq, ine, iq10, i1z, im1, im11, iml, imle, inm, nI_1, nI_add, isub1, isb, iaddm, pk_mul, si_hit, si_miss, si_oth, wo_oth, zl_0, zl_2, zl_3, zl_4, zl_5, zl_6, zl_7, zl_9, zl_10, zl_32, zl_35, zl_36, zl_48, zl_57, zl_59, zl_60, zl_61, zl_62, zl_63, zl_64, zl_65, zl_99, zl_100, zl_102, zl_109, zl_110, zl_115, zl_116, zl_119, zl_120, zl_121, zl_126, zl_605, zl_720, zl_1957, zl_1000000, a_2, a_3, a_4, a_5, a_6, a_46, a_47, a_55, a_56, a_58, a_68, a_69, a_70, a_73, a_74, a_76, a_77, a_78, a_79, a_80, a_81, a_82, a_83, a_84, a_85, a_86, a_87, a_88, a_89, a_90, a_91, a_92, a_93, a_94, a_95, s_2, s_3, s_4, s_5, s_6, s_46, s_47, s_55, s_56, s_58, s_68, s_69, s_70, s_73, s_74, s_76, s_77, s_78, s_79, s_80, s_81, s_82, s_83, s_84, s_85, s_86, s_87, s_88, s_89, s_90, s_91, s_92, s_93, s_94, s_95, it_5, it_6, it_46, it_47, it_50, it_53, it_55, it_56, it_58, it_63, it_66, it_68, it_69, it_70, it_71, it_74, it_97, se_5, se_6, se_46, se_47, se_50, se_53, se_55, se_56, se_58, se_63, se_66, se_68, se_69, se_70, se_71, se_74, se_97, at_2, at_3, at_4, at_49, at_51, at_52, at_62, at_64, at_65, pu_2, pu_3, pu_4, pu_49, pu_51, pu_52, pu_62, pu_64, pu_65]
    exact fin (nx - 1) (by omega) (Or.inl (by omega))
theorem m_ends {σ : Sg} {c : Nat} {h : Nat → Nat → Int32} {x : Int32} (H : HM σ c h) : ∃ σ', f_X9_ends σ 75 x = some (x, σ') ∧ Fr [75, 77] σ σ' ∧ HM σ' (pushC c) (pushH c h (σ 78)) ∧ (∀ j, j ≠ 3 → j ≠ 6 → σ' 75 j = σ 75 j) ∧ σ' 75 6 = 0 := by
  obtain ⟨hc, e3, hr⟩ := H
  have fin : ∀ (σ1 : Sg) (c1 : Nat), c1 < 6 → σ1 75 3 = nI c1 → ∃ σ', f_X9_ends_J49 75 x σ1 = some (x, σ') ∧ Fr [75, 77] σ1 σ' ∧ σ' 75 3 = nI (c1 + 1) ∧ (∀ r j, r < c1 → j < 121 → σ' 77 (121 * r + j) = σ1 77 (121 * r + j)) ∧ (∀ j, j < 121 → σ' 77 (121 * c1 + j) = σ1 78 j) ∧ (∀ j, j ≠ 3 → j ≠ 6 → σ' 75 j = σ1 75 j) ∧ σ' 75 6 = 0 := by
    intro σ1 c1 hc1 h3
    unfold f_X9_ends_J49
    rw [lo_wo (z := 0) (k := 77) (o := 121 * c1) (n := 121) (v := σ1 78) (fun j hj => by
      unfold f_X9_ends_L51
      simp (disch := omega) only [if_true, if_false, obs, Option.bind_none, Sum.elim_inl, Sum.elim_inr, Option.elim, Nat.reduceAdd, Nat.add_zero, Nat.zero_add, ile, igt, ilt, inl, ieq, ine, iq10, i1z, im1, im11, iml, imle, inm, nI_1, nI_add, isub1, isb, iaddm, pk_mul, si_hit, si_miss, si_oth, wo_oth, zl_0, zl_2, zl_3, zl_4, zl_5, zl_6, zl_7, zl_9, zl_10, zl_32, zl_35, zl_36, zl_48, zl_57, zl_59, zl_60, zl_61, zl_62, zl_63, zl_64, zl_65, zl_99, zl_100, zl_102, zl_109, zl_110, zl_115, zl_116, zl_119, zl_120, zl_121, zl_126, zl_605, zl_720, zl_1957, zl_1000000, a_2, a_3, a_4, a_5, a_6, a_46, a_47, a_55, a_56, a_58, a_68, a_69, a_70, a_73, a_74, a_76, a_77, a_78, a_79, a_80, a_81, a_82, a_83, a_84, a_85, a_86, a_87, a_88, a_89, a_90, a_91, a_92, a_93, a_94, a_95, s_2, s_3, s_4, s_5, s_6, s_46, s_47, s_55, s_56, s_58, s_68, s_69, s_70, s_73, s_74, s_76, s_77, s_78, s_79, s_80, s_81, s_82, s_83, s_84, s_85, s_86, s_87, s_88, s_89, s_90, s_91, s_92, s_93, s_94, s_95, it_5, it_6, it_46, it_47, it_50, it_53, it_55, it_56, it_58, it_63, it_66, it_68, it_69, it_70, it_71, it_74, it_97, se_5, se_6, se_46, se_47, se_50, se_53, se_55, se_56, se_58, se_63, se_66, se_68, se_69, se_70, se_71, se_74, se_97, at_2, at_3, at_4, at_49, at_51, at_52, at_62, at_64, at_65, pu_2, pu_3, pu_4, pu_49, pu_51, pu_52, pu_62, pu_64, pu_65, h3]
      rw [wo_s rfl]) (by
      unfold f_X9_ends_L51
      simp (disch := omega) only [if_true, if_false, obs, Option.bind_none, Sum.elim_inl, Sum.elim_inr, Option.elim, Nat.reduceAdd, Nat.add_zero, Nat.zero_add, ile, igt, ilt, inl, ieq, ine, iq10, i1z, im1, im11, iml, imle, inm, nI_1, nI_add, isub1, isb, iaddm, pk_mul, si_hit, si_miss, si_oth, wo_oth, zl_0, zl_2, zl_3, zl_4, zl_5, zl_6, zl_7, zl_9, zl_10, zl_32, zl_35, zl_36, zl_48, zl_57, zl_59, zl_60, zl_61, zl_62, zl_63, zl_64, zl_65, zl_99, zl_100, zl_102, zl_109, zl_110, zl_115, zl_116, zl_119, zl_120, zl_121, zl_126, zl_605, zl_720, zl_1957, zl_1000000, a_2, a_3, a_4, a_5, a_6, a_46, a_47, a_55, a_56, a_58, a_68, a_69, a_70, a_73, a_74, a_76, a_77, a_78, a_79, a_80, a_81, a_82, a_83, a_84, a_85, a_86, a_87, a_88, a_89, a_90, a_91, a_92, a_93, a_94, a_95, s_2, s_3, s_4, s_5, s_6, s_46, s_47, s_55, s_56, s_58, s_68, s_69, s_70, s_73, s_74, s_76, s_77, s_78, s_79, s_80, s_81, s_82, s_83, s_84, s_85, s_86, s_87, s_88, s_89, s_90, s_91, s_92, s_93, s_94, s_95, it_5, it_6, it_46, it_47, it_50, it_53, it_55, it_56, it_58, it_63, it_66, it_68, it_69, it_70, it_71, it_74, it_97, se_5, se_6, se_46, se_47, se_50, se_53, se_55, se_56, se_58, se_63, se_66, se_68, se_69, se_70, se_71, se_74, se_97, at_2, at_3, at_4, at_49, at_51, at_52, at_62, at_64, at_65, pu_2, pu_3, pu_4, pu_49, pu_51, pu_52, pu_62, pu_64, pu_65]) rfl]
    simp only [obs]
    unfold f_X9_tells
    refine ⟨_, rfl, ((wo_fr Fr.rf (by decide)).si (by decide)).si (by decide), ?_, fun r j hr1 hj => ?_, fun j hj => ?_, fun j h1 h2 => ?_, ?_⟩
    · simp (disch := omega) only [if_true, if_false, obs, Option.bind_none, Sum.elim_inl, Sum.elim_inr, Option.elim, Nat.reduceAdd, Nat.add_zero, Nat.zero_add, ile, igt, ilt, inl, ieq, ine, iq10, i1z, im1, im11, iml, imle, inm, nI_1, nI_add, isub1, isb, iaddm, pk_mul, si_hit, si_miss, si_oth, wo_oth, zl_0, zl_2, zl_3, zl_4, zl_5, zl_6, zl_7, zl_9, zl_10, zl_32, zl_35, zl_36, zl_48, zl_57, zl_59, zl_60, zl_61, zl_62, zl_63, zl_64, zl_65, zl_99, zl_100, zl_102, zl_109, zl_110, zl_115, zl_116, zl_119, zl_120, zl_121, zl_126, zl_605, zl_720, zl_1957, zl_1000000, a_2, a_3, a_4, a_5, a_6, a_46, a_47, a_55, a_56, a_58, a_68, a_69, a_70, a_73, a_74, a_76, a_77, a_78, a_79, a_80, a_81, a_82, a_83, a_84, a_85, a_86, a_87, a_88, a_89, a_90, a_91, a_92, a_93, a_94, a_95, s_2, s_3, s_4, s_5, s_6, s_46, s_47, s_55, s_56, s_58, s_68, s_69, s_70, s_73, s_74, s_76, s_77, s_78, s_79, s_80, s_81, s_82, s_83, s_84, s_85, s_86, s_87, s_88, s_89, s_90, s_91, s_92, s_93, s_94, s_95, it_5, it_6, it_46, it_47, it_50, it_53, it_55, it_56, it_58, it_63, it_66, it_68, it_69, it_70, it_71, it_74, it_97, se_5, se_6, se_46, se_47, se_50, se_53, se_55, se_56, se_58, se_63, se_66, se_68, se_69, se_70, se_71, se_74, se_97, at_2, at_3, at_4, at_49, at_51, at_52, at_62, at_64, at_65, pu_2, pu_3, pu_4, pu_49, pu_51, pu_52, pu_62, pu_64, pu_65, h3]
    · simp (disch := omega) only [if_true, if_false, obs, Option.bind_none, Sum.elim_inl, Sum.elim_inr, Option.elim, Nat.reduceAdd, Nat.add_zero, Nat.zero_add, ile, igt, ilt, inl, ieq, ine, iq10, i1z, im1, im11, iml, imle, inm, nI_1, nI_add, isub1, isb, iaddm, pk_mul, si_hit, si_miss, si_oth, wo_oth, zl_0, zl_2, zl_3, zl_4, zl_5, zl_6, zl_7, zl_9, zl_10, zl_32, zl_35, zl_36, zl_48, zl_57, zl_59, zl_60, zl_61, zl_62, zl_63, zl_64, zl_65, zl_99, zl_100, zl_102, zl_109, zl_110, zl_115, zl_116, zl_119, zl_120, zl_121, zl_126, zl_605, zl_720, zl_1957, zl_1000000, a_2, a_3, a_4, a_5, a_6, a_46, a_47, a_55, a_56, a_58, a_68, a_69, a_70, a_73, a_74, a_76, a_77, a_78, a_79, a_80, a_81, a_82, a_83, a_84, a_85, a_86, a_87, a_88, a_89, a_90, a_91, a_92, a_93, a_94, a_95, s_2, s_3, s_4, s_5, s_6, s_46, s_47, s_55, s_56, s_58, s_68, s_69, s_70, s_73, s_74, s_76, s_77, s_78, s_79, s_80, s_81, s_82, s_83, s_84, s_85, s_86, s_87, s_88, s_89, s_90, s_91, s_92, s_93, s_94, s_95, it_5, it_6, it_46, it_47, it_50, it_53, it_55, it_56, it_58, it_63, it_66, it_68, it_69, it_70, it_71, it_74, it_97, se_5, se_6, se_46, se_47, se_50, se_53, se_55, se_56, se_58, se_63, se_66, se_68, se_69, se_70, se_71, se_74, se_97, at_2, at_3, at_4, at_49, at_51, at_52, at_62, at_64, at_65, pu_2, pu_3, pu_4, pu_49, pu_51, pu_52, pu_62, pu_64, pu_65]
      rw [wo_out (by omega)]
    · simp (disch := omega) only [if_true, if_false, obs, Option.bind_none, Sum.elim_inl, Sum.elim_inr, Option.elim, Nat.reduceAdd, Nat.add_zero, Nat.zero_add, ile, igt, ilt, inl, ieq, ine, iq10, i1z, im1, im11, iml, imle, inm, nI_1, nI_add, isub1, isb, iaddm, pk_mul, si_hit, si_miss, si_oth, wo_oth, zl_0, zl_2, zl_3, zl_4, zl_5, zl_6, zl_7, zl_9, zl_10, zl_32, zl_35, zl_36, zl_48, zl_57, zl_59, zl_60, zl_61, zl_62, zl_63, zl_64, zl_65, zl_99, zl_100, zl_102, zl_109, zl_110, zl_115, zl_116, zl_119, zl_120, zl_121, zl_126, zl_605, zl_720, zl_1957, zl_1000000, a_2, a_3, a_4, a_5, a_6, a_46, a_47, a_55, a_56, a_58, a_68, a_69, a_70, a_73, a_74, a_76, a_77, a_78, a_79, a_80, a_81, a_82, a_83, a_84, a_85, a_86, a_87, a_88, a_89, a_90, a_91, a_92, a_93, a_94, a_95, s_2, s_3, s_4, s_5, s_6, s_46, s_47, s_55, s_56, s_58, s_68, s_69, s_70, s_73, s_74, s_76, s_77, s_78, s_79, s_80, s_81, s_82, s_83, s_84, s_85, s_86, s_87, s_88, s_89, s_90, s_91, s_92, s_93, s_94, s_95, it_5, it_6, it_46, it_47, it_50, it_53, it_55, it_56, it_58, it_63, it_66, it_68, it_69, it_70, it_71, it_74, it_97, se_5, se_6, se_46, se_47, se_50, se_53, se_55, se_56, se_58, se_63, se_66, se_68, se_69, se_70, se_71, se_74, se_97, at_2, at_3, at_4, at_49, at_51, at_52, at_62, at_64, at_65, pu_2, pu_3, pu_4, pu_49, pu_51, pu_52, pu_62, pu_64, pu_65]
      rw [wo_in hj]
    · simp (disch := omega) only [if_true, if_false, obs, Option.bind_none, Sum.elim_inl, Sum.elim_inr, Option.elim, Nat.reduceAdd, Nat.add_zero, Nat.zero_add, ile, igt, ilt, inl, ieq, ine, iq10, i1z, im1, im11, iml, imle, inm, nI_1, nI_add, isub1, isb, iaddm, pk_mul, si_hit, si_miss, si_oth, wo_oth, zl_0, zl_2, zl_3, zl_4, zl_5, zl_6, zl_7, zl_9, zl_10, zl_32, zl_35, zl_36, zl_48, zl_57, zl_59, zl_60, zl_61, zl_62, zl_63, zl_64, zl_65, zl_99, zl_100, zl_102, zl_109, zl_110, zl_115, zl_116, zl_119, zl_120, zl_121, zl_126, zl_605, zl_720, zl_1957, zl_1000000, a_2, a_3, a_4, a_5, a_6, a_46, a_47, a_55, a_56, a_58, a_68, a_69, a_70, a_73, a_74, a_76, a_77, a_78, a_79, a_80, a_81, a_82, a_83, a_84, a_85, a_86, a_87, a_88, a_89, a_90, a_91, a_92, a_93, a_94, a_95, s_2, s_3, s_4, s_5, s_6, s_46, s_47, s_55, s_56, s_58, s_68, s_69, s_70, s_73, s_74, s_76, s_77, s_78, s_79, s_80, s_81, s_82, s_83, s_84, s_85, s_86, s_87, s_88, s_89, s_90, s_91, s_92, s_93, s_94, s_95, it_5, it_6, it_46, it_47, it_50, it_53, it_55, it_56, it_58, it_63, it_66, it_68, it_69, it_70, it_71, it_74, it_97, se_5, se_6, se_46, se_47, se_50, se_53, se_55, se_56, se_58, se_63, se_66, se_68, se_69, se_70, se_71, se_74, se_97, at_2, at_3, at_4, at_49, at_51, at_52, at_62, at_64, at_65, pu_2, pu_3, pu_4, pu_49, pu_51, pu_52, pu_62, pu_64, pu_65]
    · simp (disch := omega) only [if_true, if_false, obs, Option.bind_none, Sum.elim_inl, Sum.elim_inr, Option.elim, Nat.reduceAdd, Nat.add_zero, Nat.zero_add, ile, igt, ilt, inl, ieq, ine, iq10, i1z, im1, im11, iml, imle, inm, nI_1, nI_add, isub1, isb, iaddm, pk_mul, si_hit, si_miss, si_oth, wo_oth, zl_0, zl_2, zl_3, zl_4, zl_5, zl_6, zl_7, zl_9, zl_10, zl_32, zl_35, zl_36, zl_48, zl_57, zl_59, zl_60, zl_61, zl_62, zl_63, zl_64, zl_65, zl_99, zl_100, zl_102, zl_109, zl_110, zl_115, zl_116, zl_119, zl_120, zl_121, zl_126, zl_605, zl_720, zl_1957, zl_1000000, a_2, a_3, a_4, a_5, a_6, a_46, a_47, a_55, a_56, a_58, a_68, a_69, a_70, a_73, a_74, a_76, a_77, a_78, a_79, a_80, a_81, a_82, a_83, a_84, a_85, a_86, a_87, a_88, a_89, a_90, a_91, a_92, a_93, a_94, a_95, s_2, s_3, s_4, s_5, s_6, s_46, s_47, s_55, s_56, s_58, s_68, s_69, s_70, s_73, s_74, s_76, s_77, s_78, s_79, s_80, s_81, s_82, s_83, s_84, s_85, s_86, s_87, s_88, s_89, s_90, s_91, s_92, s_93, s_94, s_95, it_5, it_6, it_46, it_47, it_50, it_53, it_55, it_56, it_58, it_63, it_66, it_68, it_69, it_70, it_71, it_74, it_97, se_5, se_6, se_46, se_47, se_50, se_53, se_55, se_56, se_58, se_63, se_66, se_68, se_69, se_70, se_71, se_74, se_97, at_2, at_3, at_4, at_49, at_51, at_52, at_62, at_64, at_65, pu_2, pu_3, pu_4, pu_49, pu_51, pu_52, pu_62, pu_64, pu_65]
  unfold f_X9_ends
  rw [e3]
  by_cases h6 : c = 6
  · subst h6
    simp (disch := omega) only [if_true, if_false, obs, Option.bind_none, Sum.elim_inl, Sum.elim_inr, Option.elim, Nat.reduceAdd, Nat.add_zero, Nat.zero_add, ile, igt, ilt, inl, ieq, ine, iq10, i1z, im1, im11, iml, imle, inm, nI_1, nI_add, isub1, isb, iaddm, pk_mul, si_hit, si_miss, si_oth, wo_oth, zl_0, zl_2, zl_3, zl_4, zl_5, zl_6, zl_7, zl_9, zl_10, zl_32, zl_35, zl_36, zl_48, zl_57, zl_59, zl_60, zl_61, zl_62, zl_63, zl_64, zl_65, zl_99, zl_100, zl_102, zl_109, zl_110, zl_115, zl_116, zl_119, zl_120, zl_121, zl_126, zl_605, zl_720, zl_1957, zl_1000000, a_2, a_3, a_4, a_5, a_6, a_46, a_47, a_55, a_56, a_58, a_68, a_69, a_70, a_73, a_74, a_76, a_77, a_78, a_79, a_80, a_81, a_82, a_83, a_84, a_85, a_86, a_87, a_88, a_89, a_90, a_91, a_92, a_93, a_94, a_95, s_2, s_3, s_4, s_5, s_6, s_46, s_47, s_55, s_56, s_58, s_68, s_69, s_70, s_73, s_74, s_76, s_77, s_78, s_79, s_80, s_81, s_82, s_83, s_84, s_85, s_86, s_87, s_88, s_89, s_90, s_91, s_92, s_93, s_94, s_95, it_5, it_6, it_46, it_47, it_50, it_53, it_55, it_56, it_58, it_63, it_66, it_68, it_69, it_70, it_71, it_74, it_97, se_5, se_6, se_46, se_47, se_50, se_53, se_55, se_56, se_58, se_63, se_66, se_68, se_69, se_70, se_71, se_74, se_97, at_2, at_3, at_4, at_49, at_51, at_52, at_62, at_64, at_65, pu_2, pu_3, pu_4, pu_49, pu_51, pu_52, pu_62, pu_64, pu_65]
    have hw : lo (f_X9_ends_L11 75) (nI 0, σ) = some (wo σ 77 0 605 (fun q => σ 77 (q + 121))) := lo_wo (k := 77) (o := 0) (n := 605) (v := fun q => σ 77 (q + 121)) (fun j hj => by
      unfold f_X9_ends_L11
      simp (disch := omega) only [if_true, if_false, obs, Option.bind_none, Sum.elim_inl, Sum.elim_inr, Option.elim, Nat.reduceAdd, Nat.add_zero, Nat.zero_add, ile, igt, ilt, inl, ieq, ine, iq10, i1z, im1, im11, iml, imle, inm, nI_1, nI_add, isub1, isb, iaddm, pk_mul, si_hit, si_miss, si_oth, wo_oth, zl_0, zl_2, zl_3, zl_4, zl_5, zl_6, zl_7, zl_9, zl_10, zl_32, zl_35, zl_36, zl_48, zl_57, zl_59, zl_60, zl_61, zl_62, zl_63, zl_64, zl_65, zl_99, zl_100, zl_102, zl_109, zl_110, zl_115, zl_116, zl_119, zl_120, zl_121, zl_126, zl_605, zl_720, zl_1957, zl_1000000, a_2, a_3, a_4, a_5, a_6, a_46, a_47, a_55, a_56, a_58, a_68, a_69, a_70, a_73, a_74, a_76, a_77, a_78, a_79, a_80, a_81, a_82, a_83, a_84, a_85, a_86, a_87, a_88, a_89, a_90, a_91, a_92, a_93, a_94, a_95, s_2, s_3, s_4, s_5, s_6, s_46, s_47, s_55, s_56, s_58, s_68, s_69, s_70, s_73, s_74, s_76, s_77, s_78, s_79, s_80, s_81, s_82, s_83, s_84, s_85, s_86, s_87, s_88, s_89, s_90, s_91, s_92, s_93, s_94, s_95, it_5, it_6, it_46, it_47, it_50, it_53, it_55, it_56, it_58, it_63, it_66, it_68, it_69, it_70, it_71, it_74, it_97, se_5, se_6, se_46, se_47, se_50, se_53, se_55, se_56, se_58, se_63, se_66, se_68, se_69, se_70, se_71, se_74, se_97, at_2, at_3, at_4, at_49, at_51, at_52, at_62, at_64, at_65, pu_2, pu_3, pu_4, pu_49, pu_51, pu_52, pu_62, pu_64, pu_65]
      rw [wo_out (by omega), wo_s0 rfl]) (by
      unfold f_X9_ends_L11
      simp (disch := omega) only [if_true, if_false, obs, Option.bind_none, Sum.elim_inl, Sum.elim_inr, Option.elim, Nat.reduceAdd, Nat.add_zero, Nat.zero_add, ile, igt, ilt, inl, ieq, ine, iq10, i1z, im1, im11, iml, imle, inm, nI_1, nI_add, isub1, isb, iaddm, pk_mul, si_hit, si_miss, si_oth, wo_oth, zl_0, zl_2, zl_3, zl_4, zl_5, zl_6, zl_7, zl_9, zl_10, zl_32, zl_35, zl_36, zl_48, zl_57, zl_59, zl_60, zl_61, zl_62, zl_63, zl_64, zl_65, zl_99, zl_100, zl_102, zl_109, zl_110, zl_115, zl_116, zl_119, zl_120, zl_121, zl_126, zl_605, zl_720, zl_1957, zl_1000000, a_2, a_3, a_4, a_5, a_6, a_46, a_47, a_55, a_56, a_58, a_68, a_69, a_70, a_73, a_74, a_76, a_77, a_78, a_79, a_80, a_81, a_82, a_83, a_84, a_85, a_86, a_87, a_88, a_89, a_90, a_91, a_92, a_93, a_94, a_95, s_2, s_3, s_4, s_5, s_6, s_46, s_47, s_55, s_56, s_58, s_68, s_69, s_70, s_73, s_74, s_76, s_77, s_78, s_79, s_80, s_81, s_82, s_83, s_84, s_85, s_86, s_87, s_88, s_89, s_90, s_91, s_92, s_93, s_94, s_95, it_5, it_6, it_46, it_47, it_50, it_53, it_55, it_56, it_58, it_63, it_66, it_68, it_69, it_70, it_71, it_74, it_97, se_5, se_6, se_46, se_47, se_50, se_53, se_55, se_56, se_58, se_63, se_66, se_68, se_69, se_70, se_71, se_74, se_97, at_2, at_3, at_4, at_49, at_51, at_52, at_62, at_64, at_65, pu_2, pu_3, pu_4, pu_49, pu_51, pu_52, pu_62, pu_64, pu_65]) rfl
    rw [hw]
    simp (disch := omega) only [if_true, if_false, obs, Option.bind_none, Sum.elim_inl, Sum.elim_inr, Option.elim, Nat.reduceAdd, Nat.add_zero, Nat.zero_add, ile, igt, ilt, inl, ieq, ine, iq10, i1z, im1, im11, iml, imle, inm, nI_1, nI_add, isub1, isb, iaddm, pk_mul, si_hit, si_miss, si_oth, wo_oth, zl_0, zl_2, zl_3, zl_4, zl_5, zl_6, zl_7, zl_9, zl_10, zl_32, zl_35, zl_36, zl_48, zl_57, zl_59, zl_60, zl_61, zl_62, zl_63, zl_64, zl_65, zl_99, zl_100, zl_102, zl_109, zl_110, zl_115, zl_116, zl_119, zl_120, zl_121, zl_126, zl_605, zl_720, zl_1957, zl_1000000, a_2, a_3, a_4, a_5, a_6, a_46, a_47, a_55, a_56, a_58, a_68, a_69, a_70, a_73, a_74, a_76, a_77, a_78, a_79, a_80, a_81, a_82, a_83, a_84, a_85, a_86, a_87, a_88, a_89, a_90, a_91, a_92, a_93, a_94, a_95, s_2, s_3, s_4, s_5, s_6, s_46, s_47, s_55, s_56, s_58, s_68, s_69, s_70, s_73, s_74, s_76, s_77, s_78, s_79, s_80, s_81, s_82, s_83, s_84, s_85, s_86, s_87, s_88, s_89, s_90, s_91, s_92, s_93, s_94, s_95, it_5, it_6, it_46, it_47, it_50, it_53, it_55, it_56, it_58, it_63, it_66, it_68, it_69, it_70, it_71, it_74, it_97, se_5, se_6, se_46, se_47, se_50, se_53, se_55, se_56, se_58, se_63, se_66, se_68, se_69, se_70, se_71, se_74, se_97, at_2, at_3, at_4, at_49, at_51, at_52, at_62, at_64, at_65, pu_2, pu_3, pu_4, pu_49, pu_51, pu_52, pu_62, pu_64, pu_65, e3]
    obtain ⟨σ', q1, q2, q3, q4, q5, q6, q7⟩ := fin (si (wo σ 77 0 605 (fun q => σ 77 (q + 121))) 75 3 (nI 5)) 5 (by omega) (by rw [si_hit])
    refine ⟨σ', q1, ?_, ⟨by decide, q3, fun r hrc j hj => ?_⟩, fun j h1 h2 => ?_, q7⟩
    · exact Fr.tr ((wo_fr Fr.rf (by decide)).si (by decide)) q2 (fun q hq => hq)
    · unfold pushC at hrc
      rw [if_neg (by omega)] at hrc
      unfold pushH
      rw [if_neg (by omega)]
      by_cases hr5 : r < 5
      · rw [if_pos hr5, q4 r j hr5 hj]
        simp (disch := omega) only [if_true, if_false, obs, Option.bind_none, Sum.elim_inl, Sum.elim_inr, Option.elim, Nat.reduceAdd, Nat.add_zero, Nat.zero_add, ile, igt, ilt, inl, ieq, ine, iq10, i1z, im1, im11, iml, imle, inm, nI_1, nI_add, isub1, isb, iaddm, pk_mul, si_hit, si_miss, si_oth, wo_oth, zl_0, zl_2, zl_3, zl_4, zl_5, zl_6, zl_7, zl_9, zl_10, zl_32, zl_35, zl_36, zl_48, zl_57, zl_59, zl_60, zl_61, zl_62, zl_63, zl_64, zl_65, zl_99, zl_100, zl_102, zl_109, zl_110, zl_115, zl_116, zl_119, zl_120, zl_121, zl_126, zl_605, zl_720, zl_1957, zl_1000000, a_2, a_3, a_4, a_5, a_6, a_46, a_47, a_55, a_56, a_58, a_68, a_69, a_70, a_73, a_74, a_76, a_77, a_78, a_79, a_80, a_81, a_82, a_83, a_84, a_85, a_86, a_87, a_88, a_89, a_90, a_91, a_92, a_93, a_94, a_95, s_2, s_3, s_4, s_5, s_6, s_46, s_47, s_55, s_56, s_58, s_68, s_69, s_70, s_73, s_74, s_76, s_77, s_78, s_79, s_80, s_81, s_82, s_83, s_84, s_85, s_86, s_87, s_88, s_89, s_90, s_91, s_92, s_93, s_94, s_95, it_5, it_6, it_46, it_47, it_50, it_53, it_55, it_56, it_58, it_63, it_66, it_68, it_69, it_70, it_71, it_74, it_97, se_5, se_6, se_46, se_47, se_50, se_53, se_55, se_56, se_58, se_63, se_66, se_68, se_69, se_70, se_71, se_74, se_97, at_2, at_3, at_4, at_49, at_51, at_52, at_62, at_64, at_65, pu_2, pu_3, pu_4, pu_49, pu_51, pu_52, pu_62, pu_64, pu_65]
        rw [wo_in0 (by omega), show 121 * r + j + 121 = 121 * (r + 1) + j by omega]
        exact hr (r + 1) (by omega) j hj
      · rw [if_neg hr5, show r = 5 by omega, q5 j hj]
        simp (disch := omega) only [if_true, if_false, obs, Option.bind_none, Sum.elim_inl, Sum.elim_inr, Option.elim, Nat.reduceAdd, Nat.add_zero, Nat.zero_add, ile, igt, ilt, inl, ieq, ine, iq10, i1z, im1, im11, iml, imle, inm, nI_1, nI_add, isub1, isb, iaddm, pk_mul, si_hit, si_miss, si_oth, wo_oth, zl_0, zl_2, zl_3, zl_4, zl_5, zl_6, zl_7, zl_9, zl_10, zl_32, zl_35, zl_36, zl_48, zl_57, zl_59, zl_60, zl_61, zl_62, zl_63, zl_64, zl_65, zl_99, zl_100, zl_102, zl_109, zl_110, zl_115, zl_116, zl_119, zl_120, zl_121, zl_126, zl_605, zl_720, zl_1957, zl_1000000, a_2, a_3, a_4, a_5, a_6, a_46, a_47, a_55, a_56, a_58, a_68, a_69, a_70, a_73, a_74, a_76, a_77, a_78, a_79, a_80, a_81, a_82, a_83, a_84, a_85, a_86, a_87, a_88, a_89, a_90, a_91, a_92, a_93, a_94, a_95, s_2, s_3, s_4, s_5, s_6, s_46, s_47, s_55, s_56, s_58, s_68, s_69, s_70, s_73, s_74, s_76, s_77, s_78, s_79, s_80, s_81, s_82, s_83, s_84, s_85, s_86, s_87, s_88, s_89, s_90, s_91, s_92, s_93, s_94, s_95, it_5, it_6, it_46, it_47, it_50, it_53, it_55, it_56, it_58, it_63, it_66, it_68, it_69, it_70, it_71, it_74, it_97, se_5, se_6, se_46, se_47, se_50, se_53, se_55, se_56, se_58, se_63, se_66, se_68, se_69, se_70, se_71, se_74, se_97, at_2, at_3, at_4, at_49, at_51, at_52, at_62, at_64, at_65, pu_2, pu_3, pu_4, pu_49, pu_51, pu_52, pu_62, pu_64, pu_65]
    · rw [q6 j h1 h2]
      simp (disch := omega) only [if_true, if_false, obs, Option.bind_none, Sum.elim_inl, Sum.elim_inr, Option.elim, Nat.reduceAdd, Nat.add_zero, Nat.zero_add, ile, igt, ilt, inl, ieq, ine, iq10, i1z, im1, im11, iml, imle, inm, nI_1, nI_add, isub1, isb, iaddm, pk_mul, si_hit, si_miss, si_oth, wo_oth, zl_0, zl_2, zl_3, zl_4, zl_5, zl_6, zl_7, zl_9, zl_10, zl_32, zl_35, zl_36, zl_48, zl_57, zl_59, zl_60, zl_61, zl_62, zl_63, zl_64, zl_65, zl_99, zl_100, zl_102, zl_109, zl_110, zl_115, zl_116, zl_119, zl_120, zl_121, zl_126, zl_605, zl_720, zl_1957, zl_1000000, a_2, a_3, a_4, a_5, a_6, a_46, a_47, a_55, a_56, a_58, a_68, a_69, a_70, a_73, a_74, a_76, a_77, a_78, a_79, a_80, a_81, a_82, a_83, a_84, a_85, a_86, a_87, a_88, a_89, a_90, a_91, a_92, a_93, a_94, a_95, s_2, s_3, s_4, s_5, s_6, s_46, s_47, s_55, s_56, s_58, s_68, s_69, s_70, s_73, s_74, s_76, s_77, s_78, s_79, s_80, s_81, s_82, s_83, s_84, s_85, s_86, s_87, s_88, s_89, s_90, s_91, s_92, s_93, s_94, s_95, it_5, it_6, it_46, it_47, it_50, it_53, it_55, it_56, it_58, it_63, it_66, it_68, it_69, it_70, it_71, it_74, it_97, se_5, se_6, se_46, se_47, se_50, se_53, se_55, se_56, se_58, se_63, se_66, se_68, se_69, se_70, se_71, se_74, se_97, at_2, at_3, at_4, at_49, at_51, at_52, at_62, at_64, at_65, pu_2, pu_3, pu_4, pu_49, pu_51, pu_52, pu_62, pu_64, pu_65]
  · simp (disch := omega) only [if_true, if_false, obs, Option.bind_none, Sum.elim_inl, Sum.elim_inr, Option.elim, Nat.reduceAdd, Nat.add_zero, Nat.zero_add, ile, igt, ilt, inl, ieq, ine, iq10, i1z, im1, im11, iml, imle, inm, nI_1, nI_add, isub1, isb, iaddm, pk_mul, si_hit, si_miss, si_oth, wo_oth, zl_0, zl_2, zl_3, zl_4, zl_5, zl_6, zl_7, zl_9, zl_10, zl_32, zl_35, zl_36, zl_48, zl_57, zl_59, zl_60, zl_61, zl_62, zl_63, zl_64, zl_65, zl_99, zl_100, zl_102, zl_109, zl_110, zl_115, zl_116, zl_119, zl_120, zl_121, zl_126, zl_605, zl_720, zl_1957, zl_1000000, a_2, a_3, a_4, a_5, a_6, a_46, a_47, a_55, a_56, a_58, a_68, a_69, a_70, a_73, a_74, a_76, a_77, a_78, a_79, a_80, a_81, a_82, a_83, a_84, a_85, a_86, a_87, a_88, a_89, a_90, a_91, a_92, a_93, a_94, a_95, s_2, s_3, s_4, s_5, s_6, s_46, s_47, s_55, s_56, s_58, s_68, s_69, s_70, s_73, s_74, s_76, s_77, s_78, s_79, s_80, s_81, s_82, s_83, s_84, s_85, s_86, s_87, s_88, s_89, s_90, s_91, s_92, s_93, s_94, s_95, it_5, it_6, it_46, it_47, it_50, it_53, it_55, it_56, it_58, it_63, it_66, it_68, it_69, it_70, it_71, it_74, it_97, se_5, se_6, se_46, se_47, se_50, se_53, se_55, se_56, se_58, se_63, se_66, se_68, se_69, se_70, se_71, se_74, se_97, at_2, at_3, at_4, at_49, at_51, at_52, at_62, at_64, at_65, pu_2, pu_3, pu_4, pu_49, pu_51, pu_52, pu_62, pu_64, pu_65]
    obtain ⟨σ', q1, q2, q3, q4, q5, q6, q7⟩ := fin σ c (by omega) e3
    refine ⟨σ', q1, q2, ⟨?_, ?_, fun r hrc j hj => ?_⟩, q6, q7⟩
    · unfold pushC; split <;> omega
    · rw [q3]; unfold pushC; rw [if_pos (by omega)]
    · unfold pushC at hrc
      rw [if_pos (by omega)] at hrc
      unfold pushH
      rw [if_pos (by omega)]
      by_cases hr5 : r < c
      · rw [if_pos hr5, q4 r j hr5 hj]
        exact hr r hr5 j hj
      · rw [if_neg hr5, show r = c by omega, q5 j hj]
theorem m_undoL {σ : Sg} {c : Nat} (hc : c < 6) (e3 : σ 75 3 = nI c) : lo (f_X9_undo_L25 75) (nI 0, σ) = some (wo σ 76 0 121 (fun j => σ 77 (121 * c + j))) := lo_wo (k := 76) (o := 0) (n := 121) (v := fun j => σ 77 (121 * c + j)) (fun j hj => by
      unfold f_X9_undo_L25
      simp (disch := omega) only [if_true, if_false, obs, Option.bind_none, Sum.elim_inl, Sum.elim_inr, Option.elim, Nat.reduceAdd, Nat.add_zero, Nat.zero_add, ile, igt, ilt, inl, ieq, ine, iq10, i1z, im1, im11, iml, imle, inm, nI_1, nI_add, isub1, isb, iaddm, pk_mul, si_hit, si_miss, si_oth, wo_oth, zl_0, zl_2, zl_3, zl_4, zl_5, zl_6, zl_7, zl_9, zl_10, zl_32, zl_35, zl_36, zl_48, zl_57, zl_59, zl_60, zl_61, zl_62, zl_63, zl_64, zl_65, zl_99, zl_100, zl_102, zl_109, zl_110, zl_115, zl_116, zl_119, zl_120, zl_121, zl_126, zl_605, zl_720, zl_1957, zl_1000000, a_2, a_3, a_4, a_5, a_6, a_46, a_47, a_55, a_56, a_58, a_68, a_69, a_70, a_73, a_74, a_76, a_77, a_78, a_79, a_80, a_81, a_82, a_83, a_84, a_85, a_86, a_87, a_88, a_89, a_90, a_91, a_92, a_93, a_94, a_95, s_2, s_3, s_4, s_5, s_6, s_46, s_47, s_55, s_56, s_58, s_68, s_69, s_70, s_73, s_74, s_76, s_77, s_78, s_79, s_80, s_81, s_82, s_83, s_84, s_85, s_86, s_87, s_88, s_89, s_90, s_91, s_92, s_93, s_94, s_95, it_5, it_6, it_46, it_47, it_50, it_53, it_55, it_56, it_58, it_63, it_66, it_68, it_69, it_70, it_71, it_74, it_97, se_5, se_6, se_46, se_47, se_50, se_53, se_55, se_56, se_58, se_63, se_66, se_68, se_69, se_70, se_71, se_74, se_97, at_2, at_3, at_4, at_49, at_51, at_52, at_62, at_64, at_65, pu_2, pu_3, pu_4, pu_49, pu_51, pu_52, pu_62, pu_64, pu_65, e3]
      rw [wo_s0 rfl]) (by
      unfold f_X9_undo_L25
      simp (disch := omega) only [if_true, if_false, obs, Option.bind_none, Sum.elim_inl, Sum.elim_inr, Option.elim, Nat.reduceAdd, Nat.add_zero, Nat.zero_add, ile, igt, ilt, inl, ieq, ine, iq10, i1z, im1, im11, iml, imle, inm, nI_1, nI_add, isub1, isb, iaddm, pk_mul, si_hit, si_miss, si_oth, wo_oth, zl_0, zl_2, zl_3, zl_4, zl_5, zl_6, zl_7, zl_9, zl_10, zl_32, zl_35, zl_36, zl_48, zl_57, zl_59, zl_60, zl_61, zl_62, zl_63, zl_64, zl_65, zl_99, zl_100, zl_102, zl_109, zl_110, zl_115, zl_116, zl_119, zl_120, zl_121, zl_126, zl_605, zl_720, zl_1957, zl_1000000, a_2, a_3, a_4, a_5, a_6, a_46, a_47, a_55, a_56, a_58, a_68, a_69, a_70, a_73, a_74, a_76, a_77, a_78, a_79, a_80, a_81, a_82, a_83, a_84, a_85, a_86, a_87, a_88, a_89, a_90, a_91, a_92, a_93, a_94, a_95, s_2, s_3, s_4, s_5, s_6, s_46, s_47, s_55, s_56, s_58, s_68, s_69, s_70, s_73, s_74, s_76, s_77, s_78, s_79, s_80, s_81, s_82, s_83, s_84, s_85, s_86, s_87, s_88, s_89, s_90, s_91, s_92, s_93, s_94, s_95, it_5, it_6, it_46, it_47, it_50, it_53, it_55, it_56, it_58, it_63, it_66, it_68, it_69, it_70, it_71, it_74, it_97, se_5, se_6, se_46, se_47, se_50, se_53, se_55, se_56, se_58, se_63, se_66, se_68, se_69, se_70, se_71, se_74, se_97, at_2, at_3, at_4, at_49, at_51, at_52, at_62, at_64, at_65, pu_2, pu_3, pu_4, pu_49, pu_51, pu_52, pu_62, pu_64, pu_65]) rfl
