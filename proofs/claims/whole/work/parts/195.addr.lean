theorem zck {g : zg} {ci b : Nat} {as st : List Value} (h : (zA g b && zsh (zS b) 1 ci) = true) (hl : zrm st = true) : (zcv g ci (.ref b :: as) && zrm st) = true := by
  show ((zA g b && zsh (zS b) 1 ci) && _) = true
  rw [h, hl]; rfl
theorem zAA {g : zg} : (Nat.beq 43 43 && zA g 43 && Nat.beq (zS 43).1 4) = true := rfl
theorem zCp {g : zg} {a b na nb : Nat} {c : Int32} {st : List Value} (h1 : zA g a = true) (h2 : zA g b = true) (h3 : zS a = (2, na)) (h4 : zS b = (2, nb)) (h5 : (!cLt0 c) = true) (h6 : (Nat.ble (zx c) na && Nat.ble (zx c) nb) = true) (h7 : Nat.ble st.length 4 = true) : (cEq 0 0 && cEq 0 0 && (zA g a && zA g b) && (Nat.beq (zS a).1 2 && Nat.beq (zS b).1 2) && !cLt0 c && (Nat.ble (zx c) (zS a).2 && Nat.ble (zx c) (zS b).2) && Nat.ble st.length 4) = true := by
  rw [h1, h2, h3, h4, h5, h6, h7]
  have h0 : cEq 0 0 = true := by decide +kernel
  rw [h0]
  rfl
theorem zS_2 : zS 2 = (2, 400) := by decide +kernel
theorem zS_3 : zS 3 = (2, 401) := by decide +kernel
theorem zS_4 : zS 4 = (2, 401) := by decide +kernel
theorem zS_5 : zS 5 = (2, 401) := by decide +kernel
theorem zS_8 : zS 8 = (2, 70) := by decide +kernel
theorem zS_10 : zS 10 = (2, 16) := by decide +kernel
theorem zS_11 : zS 11 = (2, 16) := by decide +kernel
theorem zS_12 : zS 12 = (2, 16) := by decide +kernel
theorem zS_13 : zS 13 = (2, 16) := by decide +kernel
theorem zS_14 : zS 14 = (2, 400) := by decide +kernel
theorem zS_15 : zS 15 = (2, 32) := by decide +kernel
theorem zS_16 : zS 16 = (2, 9) := by decide +kernel
theorem zS_18 : zS 18 = (2, 12) := by decide +kernel
theorem zS_19 : zS 19 = (2, 12) := by decide +kernel
theorem zS_21 : zS 21 = (2, 16) := by decide +kernel
theorem zS_22 : zS 22 = (2, 16) := by decide +kernel
theorem zS_23 : zS 23 = (2, 16) := by decide +kernel
theorem zS_24 : zS 24 = (2, 16) := by decide +kernel
theorem zS_26 : zS 26 = (2, 600) := by decide +kernel
theorem zS_28 : zS 28 = (2, 96) := by decide +kernel
theorem zS_29 : zS 29 = (2, 960) := by decide +kernel
theorem zS_30 : zS 30 = (2, 5) := by decide +kernel
theorem zS_31 : zS 31 = (2, 5) := by decide +kernel
theorem zS_33 : zS 33 = (2, 12) := by decide +kernel
theorem zS_34 : zS 34 = (2, 20) := by decide +kernel
theorem zS_35 : zS 35 = (2, 20) := by decide +kernel
theorem zS_36 : zS 36 = (2, 6) := by decide +kernel
theorem zS_37 : zS 37 = (2, 6) := by decide +kernel
theorem zS_38 : zS 38 = (2, 4) := by decide +kernel
theorem zS_39 : zS 39 = (3, 5) := by decide +kernel
theorem zS_41 : zS 41 = (2, 70) := by decide +kernel
theorem zS_45 : zS 45 = (2, 70) := by decide +kernel
theorem zS_47 : zS 47 = (2, 70) := by decide +kernel
theorem zS_49 : zS 49 = (2, 70) := by decide +kernel
theorem zS_51 : zS 51 = (2, 70) := by decide +kernel
theorem zS_53 : zS 53 = (2, 70) := by decide +kernel
theorem zS_55 : zS 55 = (2, 70) := by decide +kernel
theorem zS_57 : zS 57 = (2, 16) := by decide +kernel
theorem zS_58 : zS 58 = (2, 16) := by decide +kernel
theorem zS_59 : zS 59 = (2, 16) := by decide +kernel
theorem zS_60 : zS 60 = (2, 16) := by decide +kernel
theorem zS_61 : zS 61 = (2, 400) := by decide +kernel
theorem zS_65 : zS 65 = (2, 12) := by decide +kernel
theorem zS_66 : zS 66 = (2, 12) := by decide +kernel
theorem zS_68 : zS 68 = (2, 16) := by decide +kernel
theorem zS_69 : zS 69 = (2, 16) := by decide +kernel
theorem zS_70 : zS 70 = (2, 16) := by decide +kernel
theorem zS_71 : zS 71 = (2, 16) := by decide +kernel
theorem zS_73 : zS 73 = (2, 148) := by decide +kernel
theorem zS_74 : zS 74 = (2, 888) := by decide +kernel
theorem zS_75 : zS 75 = (2, 148) := by decide +kernel
theorem zS_76 : zS 76 = (2, 10) := by decide +kernel
theorem zS_77 : zS 77 = (2, 10) := by decide +kernel
theorem zS_78 : zS 78 = (2, 600) := by decide +kernel
theorem zS_79 : zS 79 = (2, 400) := by decide +kernel
theorem zS_80 : zS 80 = (2, 125) := by decide +kernel
theorem zS_81 : zS 81 = (2, 2) := by decide +kernel
theorem zS_82 : zS 82 = (2, 48) := by decide +kernel
theorem zS_83 : zS 83 = (2, 48) := by decide +kernel
theorem zS_84 : zS 84 = (2, 48) := by decide +kernel
theorem zS_85 : zS 85 = (2, 48) := by decide +kernel
theorem zS_86 : zS 86 = (2, 1200) := by decide +kernel
theorem zS_87 : zS 87 = (2, 1200) := by decide +kernel
theorem zS_88 : zS 88 = (2, 40) := by decide +kernel
theorem zS_89 : zS 89 = (2, 48) := by decide +kernel
theorem zS_90 : zS 90 = (2, 128) := by decide +kernel
theorem zS_91 : zS 91 = (2, 9) := by decide +kernel
theorem zS_92 : zS 92 = (2, 420) := by decide +kernel
theorem zS_93 : zS 93 = (2, 12) := by decide +kernel
theorem zS_94 : zS 94 = (2, 10) := by decide +kernel
theorem zS_95 : zS 95 = (2, 6) := by decide +kernel
theorem zS_96 : zS 96 = (2, 6) := by decide +kernel
theorem zS_97 : zS 97 = (2, 7168) := by decide +kernel
theorem zS_98 : zS 98 = (2, 1024) := by decide +kernel
theorem zS_99 : zS 99 = (2, 4) := by decide +kernel
theorem zS_100 : zS 100 = (2, 2100) := by decide +kernel
theorem zA_2 (g : zg) : zA g 2 = true := rfl
theorem zA_3 (g : zg) : zA g 3 = true := rfl
theorem zA_4 (g : zg) : zA g 4 = true := rfl
theorem zA_5 (g : zg) : zA g 5 = true := rfl
theorem zA_8 (g : zg) : zA g 8 = true := rfl
theorem zA_10 (g : zg) : zA g 10 = true := rfl
theorem zA_11 (g : zg) : zA g 11 = true := rfl
theorem zA_12 (g : zg) : zA g 12 = true := rfl
theorem zA_13 (g : zg) : zA g 13 = true := rfl
theorem zA_14 (g : zg) : zA g 14 = true := rfl
theorem zA_15 (g : zg) : zA g 15 = true := rfl
theorem zA_16 (g : zg) : zA g 16 = true := rfl
theorem zA_18 (g : zg) : zA g 18 = true := rfl
theorem zA_19 (g : zg) : zA g 19 = true := rfl
theorem zA_21 (g : zg) : zA g 21 = true := rfl
theorem zA_22 (g : zg) : zA g 22 = true := rfl
theorem zA_23 (g : zg) : zA g 23 = true := rfl
theorem zA_24 (g : zg) : zA g 24 = true := rfl
theorem zA_26 (g : zg) : zA g 26 = true := rfl
theorem zA_28 (g : zg) : zA g 28 = true := rfl
theorem zA_29 (g : zg) : zA g 29 = true := rfl
theorem zA_30 (g : zg) : zA g 30 = true := rfl
theorem zA_31 (g : zg) : zA g 31 = true := rfl
theorem zA_33 (g : zg) : zA g 33 = true := rfl
theorem zA_34 (g : zg) : zA g 34 = true := rfl
theorem zA_35 (g : zg) : zA g 35 = true := rfl
theorem zA_36 (g : zg) : zA g 36 = true := rfl
theorem zA_37 (g : zg) : zA g 37 = true := rfl
theorem zA_38 (g : zg) : zA g 38 = true := rfl
theorem zA_39 (g : zg) : zA g 39 = true := rfl
theorem zA_41 (g : zg) : zA g 41 = true := rfl
theorem zA_43 (g : zg) : zA g 43 = true := rfl
theorem zA_45 (g : zg) : zA g 45 = true := rfl
theorem zA_47 (g : zg) : zA g 47 = true := rfl
theorem zA_49 (g : zg) : zA g 49 = true := rfl
theorem zA_51 (g : zg) : zA g 51 = true := rfl
theorem zA_53 (g : zg) : zA g 53 = true := rfl
theorem zA_55 (g : zg) : zA g 55 = true := rfl
theorem zA_57 (g : zg) : zA g 57 = true := rfl
theorem zA_58 (g : zg) : zA g 58 = true := rfl
theorem zA_59 (g : zg) : zA g 59 = true := rfl
theorem zA_60 (g : zg) : zA g 60 = true := rfl
theorem zA_61 (g : zg) : zA g 61 = true := rfl
theorem zA_65 (g : zg) : zA g 65 = true := rfl
theorem zA_66 (g : zg) : zA g 66 = true := rfl
theorem zA_68 (g : zg) : zA g 68 = true := rfl
theorem zA_69 (g : zg) : zA g 69 = true := rfl
theorem zA_70 (g : zg) : zA g 70 = true := rfl
theorem zA_71 (g : zg) : zA g 71 = true := rfl
theorem zA_73 (g : zg) : zA g 73 = true := rfl
theorem zA_74 (g : zg) : zA g 74 = true := rfl
theorem zA_75 (g : zg) : zA g 75 = true := rfl
theorem zA_76 (g : zg) : zA g 76 = true := rfl
theorem zA_77 (g : zg) : zA g 77 = true := rfl
theorem zA_78 (g : zg) : zA g 78 = true := rfl
theorem zA_79 (g : zg) : zA g 79 = true := rfl
theorem zA_80 (g : zg) : zA g 80 = true := rfl
theorem zA_81 (g : zg) : zA g 81 = true := rfl
theorem zA_82 (g : zg) : zA g 82 = true := rfl
theorem zA_83 (g : zg) : zA g 83 = true := rfl
theorem zA_84 (g : zg) : zA g 84 = true := rfl
theorem zA_85 (g : zg) : zA g 85 = true := rfl
theorem zA_86 (g : zg) : zA g 86 = true := rfl
theorem zA_87 (g : zg) : zA g 87 = true := rfl
theorem zA_88 (g : zg) : zA g 88 = true := rfl
theorem zA_89 (g : zg) : zA g 89 = true := rfl
theorem zA_90 (g : zg) : zA g 90 = true := rfl
theorem zA_91 (g : zg) : zA g 91 = true := rfl
theorem zA_92 (g : zg) : zA g 92 = true := rfl
theorem zA_93 (g : zg) : zA g 93 = true := rfl
theorem zA_94 (g : zg) : zA g 94 = true := rfl
theorem zA_95 (g : zg) : zA g 95 = true := rfl
theorem zA_96 (g : zg) : zA g 96 = true := rfl
theorem zA_97 (g : zg) : zA g 97 = true := rfl
theorem zA_98 (g : zg) : zA g 98 = true := rfl
theorem zA_99 (g : zg) : zA g 99 = true := rfl
theorem zA_100 (g : zg) : zA g 100 = true := rfl
theorem zO_0 (g : zg) : (zA g 0 && zsh (zS 0) 1 11) = true := rfl
theorem zO_1 (g : zg) : (zA g 1 && zsh (zS 1) 1 9) = true := rfl
theorem zO_6 (g : zg) : (zA g 6 && zsh (zS 6) 1 10) = true := rfl
theorem zO_7 (g : zg) : (zA g 7 && zsh (zS 7) 1 3) = true := rfl
theorem zO_9 (g : zg) : (zA g 9 && zsh (zS 9) 1 4) = true := rfl
theorem zO_17 (g : zg) : (zA g 17 && zsh (zS 17) 1 7) = true := rfl
theorem zO_20 (g : zg) : (zA g 20 && zsh (zS 20) 1 0) = true := rfl
theorem zO_25 (g : zg) : (zA g 25 && zsh (zS 25) 1 1) = true := rfl
theorem zO_27 (g : zg) : (zA g 27 && zsh (zS 27) 1 5) = true := rfl
theorem zO_32 (g : zg) : (zA g 32 && zsh (zS 32) 1 6) = true := rfl
theorem zO_40 (g : zg) : (zA g 40 && zsh (zS 40) 1 3) = true := rfl
theorem zO_42 (g : zg) : (zA g 42 && zsh (zS 42) 1 8) = true := rfl
theorem zO_44 (g : zg) : (zA g 44 && zsh (zS 44) 1 3) = true := rfl
theorem zO_46 (g : zg) : (zA g 46 && zsh (zS 46) 1 3) = true := rfl
theorem zO_48 (g : zg) : (zA g 48 && zsh (zS 48) 1 3) = true := rfl
theorem zO_50 (g : zg) : (zA g 50 && zsh (zS 50) 1 3) = true := rfl
theorem zO_52 (g : zg) : (zA g 52 && zsh (zS 52) 1 3) = true := rfl
theorem zO_54 (g : zg) : (zA g 54 && zsh (zS 54) 1 3) = true := rfl
theorem zO_56 (g : zg) : (zA g 56 && zsh (zS 56) 1 4) = true := rfl
theorem zO_64 (g : zg) : (zA g 64 && zsh (zS 64) 1 7) = true := rfl
theorem zO_67 (g : zg) : (zA g 67 && zsh (zS 67) 1 0) = true := rfl
theorem zO_72 (g : zg) : (zA g 72 && zsh (zS 72) 1 12) = true := rfl
theorem zR_0_0 (g : zg) : zRs g 0 0 = some 1 := rfl
theorem zR_0_1 (g : zg) : zRs g 0 1 = some 6 := rfl
theorem zR_0_2 (g : zg) : zRs g 0 2 = some 40 := rfl
theorem zR_0_3 (g : zg) : zRs g 0 3 = some 42 := rfl
theorem zR_0_4 (g : zg) : zRs g 0 4 = some 56 := rfl
theorem zR_0_5 (g : zg) : zRs g 0 5 = some 64 := rfl
theorem zR_0_6 (g : zg) : zRs g 0 6 = some 67 := rfl
theorem zR_1_0 (g : zg) : zRs g 1 0 = some 2 := rfl
theorem zR_1_1 (g : zg) : zRs g 1 1 = some 3 := rfl
theorem zR_1_2 (g : zg) : zRs g 1 2 = some 4 := rfl
theorem zR_1_3 (g : zg) : zRs g 1 3 = some 5 := rfl
theorem zR_6_0 (g : zg) : zRs g 6 0 = some 7 := rfl
theorem zR_6_1 (g : zg) : zRs g 6 1 = some 9 := rfl
theorem zR_6_2 (g : zg) : zRs g 6 2 = some 17 := rfl
theorem zR_6_3 (g : zg) : zRs g 6 3 = some 20 := rfl
theorem zR_6_4 (g : zg) : zRs g 6 4 = some 25 := rfl
theorem zR_6_5 (g : zg) : zRs g 6 5 = some 27 := rfl
theorem zR_6_6 (g : zg) : zRs g 6 6 = some 32 := rfl
theorem zR_6_7 (g : zg) : zRs g 6 7 = some 39 := rfl
theorem zR_7_1 (g : zg) : zRs g 7 1 = some 8 := rfl
theorem zR_9_0 (g : zg) : zRs g 9 0 = some 10 := rfl
theorem zR_9_1 (g : zg) : zRs g 9 1 = some 11 := rfl
theorem zR_9_2 (g : zg) : zRs g 9 2 = some 12 := rfl
theorem zR_9_3 (g : zg) : zRs g 9 3 = some 13 := rfl
theorem zR_9_4 (g : zg) : zRs g 9 4 = some 14 := rfl
theorem zR_9_5 (g : zg) : zRs g 9 5 = some 15 := rfl
theorem zR_9_6 (g : zg) : zRs g 9 6 = some 16 := rfl
theorem zR_17_0 (g : zg) : zRs g 17 0 = some 18 := rfl
theorem zR_17_1 (g : zg) : zRs g 17 1 = some 19 := rfl
theorem zR_20_0 (g : zg) : zRs g 20 0 = some 21 := rfl
theorem zR_20_1 (g : zg) : zRs g 20 1 = some 22 := rfl
theorem zR_20_2 (g : zg) : zRs g 20 2 = some 23 := rfl
theorem zR_20_3 (g : zg) : zRs g 20 3 = some 24 := rfl
theorem zR_25_0 (g : zg) : zRs g 25 0 = some 26 := rfl
theorem zR_27_0 (g : zg) : zRs g 27 0 = some 28 := rfl
theorem zR_27_1 (g : zg) : zRs g 27 1 = some 29 := rfl
theorem zR_27_2 (g : zg) : zRs g 27 2 = some 30 := rfl
theorem zR_27_3 (g : zg) : zRs g 27 3 = some 31 := rfl
theorem zR_32_0 (g : zg) : zRs g 32 0 = some 33 := rfl
theorem zR_32_1 (g : zg) : zRs g 32 1 = some 34 := rfl
theorem zR_32_2 (g : zg) : zRs g 32 2 = some 35 := rfl
theorem zR_32_3 (g : zg) : zRs g 32 3 = some 36 := rfl
theorem zR_32_4 (g : zg) : zRs g 32 4 = some 37 := rfl
theorem zR_32_5 (g : zg) : zRs g 32 5 = some 38 := rfl
theorem zR_40_1 (g : zg) : zRs g 40 1 = some 41 := rfl
theorem zR_42_0 (g : zg) : zRs g 42 0 = some 43 := rfl
theorem zR_44_1 (g : zg) : zRs g 44 1 = some 45 := rfl
theorem zR_46_1 (g : zg) : zRs g 46 1 = some 47 := rfl
theorem zR_48_1 (g : zg) : zRs g 48 1 = some 49 := rfl
theorem zR_50_1 (g : zg) : zRs g 50 1 = some 51 := rfl
theorem zR_52_1 (g : zg) : zRs g 52 1 = some 53 := rfl
theorem zR_54_1 (g : zg) : zRs g 54 1 = some 55 := rfl
theorem zR_56_0 (g : zg) : zRs g 56 0 = some 57 := rfl
theorem zR_56_1 (g : zg) : zRs g 56 1 = some 58 := rfl
theorem zR_56_2 (g : zg) : zRs g 56 2 = some 59 := rfl
theorem zR_56_3 (g : zg) : zRs g 56 3 = some 60 := rfl
theorem zR_56_4 (g : zg) : zRs g 56 4 = some 61 := rfl
theorem zR_64_0 (g : zg) : zRs g 64 0 = some 65 := rfl
theorem zR_64_1 (g : zg) : zRs g 64 1 = some 66 := rfl
theorem zR_67_0 (g : zg) : zRs g 67 0 = some 68 := rfl
theorem zR_67_1 (g : zg) : zRs g 67 1 = some 69 := rfl
theorem zR_67_2 (g : zg) : zRs g 67 2 = some 70 := rfl
theorem zR_67_3 (g : zg) : zRs g 67 3 = some 71 := rfl
theorem zR_72_1 (g : zg) : zRs g 72 1 = some 73 := rfl
theorem zR_72_2 (g : zg) : zRs g 72 2 = some 74 := rfl
theorem zR_72_4 (g : zg) : zRs g 72 4 = some 75 := rfl
theorem zR_72_9 (g : zg) : zRs g 72 9 = some 76 := rfl
theorem zR_72_10 (g : zg) : zRs g 72 10 = some 77 := rfl
theorem zR_72_11 (g : zg) : zRs g 72 11 = some 78 := rfl
theorem zR_72_12 (g : zg) : zRs g 72 12 = some 79 := rfl
theorem zR_72_18 (g : zg) : zRs g 72 18 = some 80 := rfl
theorem zR_72_19 (g : zg) : zRs g 72 19 = some 81 := rfl
theorem zR_72_20 (g : zg) : zRs g 72 20 = some 82 := rfl
theorem zR_72_21 (g : zg) : zRs g 72 21 = some 83 := rfl
theorem zR_72_22 (g : zg) : zRs g 72 22 = some 84 := rfl
theorem zR_72_23 (g : zg) : zRs g 72 23 = some 85 := rfl
theorem zR_72_24 (g : zg) : zRs g 72 24 = some 86 := rfl
theorem zR_72_25 (g : zg) : zRs g 72 25 = some 87 := rfl
theorem zR_72_29 (g : zg) : zRs g 72 29 = some 88 := rfl
theorem zR_72_36 (g : zg) : zRs g 72 36 = some 89 := rfl
theorem zR_72_38 (g : zg) : zRs g 72 38 = some 90 := rfl
theorem zR_72_39 (g : zg) : zRs g 72 39 = some 91 := rfl
theorem zR_72_40 (g : zg) : zRs g 72 40 = some 92 := rfl
theorem zR_72_44 (g : zg) : zRs g 72 44 = some 93 := rfl
theorem zR_72_46 (g : zg) : zRs g 72 46 = some 94 := rfl
theorem zR_72_48 (g : zg) : zRs g 72 48 = some 95 := rfl
theorem zR_72_49 (g : zg) : zRs g 72 49 = some 96 := rfl
theorem zR_72_50 (g : zg) : zRs g 72 50 = some 97 := rfl
theorem zR_72_51 (g : zg) : zRs g 72 51 = some 98 := rfl
theorem zR_72_52 (g : zg) : zRs g 72 52 = some 99 := rfl
theorem zR_72_56 (g : zg) : zRs g 72 56 = some 100 := rfl
