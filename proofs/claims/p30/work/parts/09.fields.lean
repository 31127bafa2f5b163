section ZFIELDS
theorem zk1_1 {Y : zLy} {c : Nat} (h : zV Y c = 1) : zV Y (c + 1) = 10 := by
  have h2 := zK_all (P := fun c => zK c = 1 → zK (c + 1) = 10 ∧ c + 1 < 410) (by decide +kernel) (c := c) (by have := zV_K h (by decide); omega) (zV_K h (by decide))
  exact zV_lo h2.1 h2.2
theorem zk1_2 {Y : zLy} {c : Nat} (h : zV Y c = 1) : zV Y (c + 2) = 20 := by
  have h2 := zK_all (P := fun c => zK c = 1 → zK (c + 2) = 20 ∧ c + 2 < 410) (by decide +kernel) (c := c) (by have := zV_K h (by decide); omega) (zV_K h (by decide))
  exact zV_lo h2.1 h2.2
theorem zk1_3 {Y : zLy} {c : Nat} (h : zV Y c = 1) : zV Y (c + 3) = 20 := by
  have h2 := zK_all (P := fun c => zK c = 1 → zK (c + 3) = 20 ∧ c + 3 < 410) (by decide +kernel) (c := c) (by have := zV_K h (by decide); omega) (zV_K h (by decide))
  exact zV_lo h2.1 h2.2
theorem zk1_4 {Y : zLy} {c : Nat} (h : zV Y c = 1) : zV Y (c + 4) = 11 := by
  have h2 := zK_all (P := fun c => zK c = 1 → zK (c + 4) = 11 ∧ c + 4 < 410) (by decide +kernel) (c := c) (by have := zV_K h (by decide); omega) (zV_K h (by decide))
  exact zV_lo h2.1 h2.2
theorem zk1_5 {Y : zLy} {c : Nat} (h : zV Y c = 1) : zV Y (c + 5) = 21 := by
  have h2 := zK_all (P := fun c => zK c = 1 → zK (c + 5) = 21 ∧ c + 5 < 410) (by decide +kernel) (c := c) (by have := zV_K h (by decide); omega) (zV_K h (by decide))
  exact zV_lo h2.1 h2.2
theorem zk2_1 {Y : zLy} {c : Nat} (h : zV Y c = 2) : zV Y (c + 1) = 13 := by
  have h2 := zK_all (P := fun c => zK c = 2 → zK (c + 1) = 13 ∧ c + 1 < 410) (by decide +kernel) (c := c) (by have := zV_K h (by decide); omega) (zV_K h (by decide))
  exact zV_lo h2.1 h2.2
theorem zk2_2 {Y : zLy} {c : Nat} (h : zV Y c = 2) : zV Y (c + 2) = 13 := by
  have h2 := zK_all (P := fun c => zK c = 2 → zK (c + 2) = 13 ∧ c + 2 < 410) (by decide +kernel) (c := c) (by have := zV_K h (by decide); omega) (zV_K h (by decide))
  exact zV_lo h2.1 h2.2
theorem zk2_3 {Y : zLy} {c : Nat} (h : zV Y c = 2) : zV Y (c + 3) = 13 := by
  have h2 := zK_all (P := fun c => zK c = 2 → zK (c + 3) = 13 ∧ c + 3 < 410) (by decide +kernel) (c := c) (by have := zV_K h (by decide); omega) (zV_K h (by decide))
  exact zV_lo h2.1 h2.2
theorem zk4_1 {Y : zLy} {c : Nat} (h : zV Y c = 4) : zV Y (c + 1) = 12 := by
  have h2 := zK_all (P := fun c => zK c = 4 → zK (c + 1) = 12 ∧ c + 1 < 410) (by decide +kernel) (c := c) (by have := zV_K h (by decide); omega) (zV_K h (by decide))
  exact zV_lo h2.1 h2.2
theorem zk4_2 {Y : zLy} {c : Nat} (h : zV Y c = 4) : zV Y (c + 2) = 12 := by
  have h2 := zK_all (P := fun c => zK c = 4 → zK (c + 2) = 12 ∧ c + 2 < 410) (by decide +kernel) (c := c) (by have := zV_K h (by decide); omega) (zV_K h (by decide))
  exact zV_lo h2.1 h2.2
theorem zk4_3 {Y : zLy} {c : Nat} (h : zV Y c = 4) : zV Y (c + 3) = 22 := by
  have h2 := zK_all (P := fun c => zK c = 4 → zK (c + 3) = 22 ∧ c + 3 < 410) (by decide +kernel) (c := c) (by have := zV_K h (by decide); omega) (zV_K h (by decide))
  exact zV_lo h2.1 h2.2
theorem zk6_1 {Y : zLy} {c : Nat} (h : zV Y c = 6) : zV Y (c + 1) = 1 := by
  have h2 := zK_all (P := fun c => zK c = 6 → zK (c + 1) = 1 ∧ c + 1 < 410) (by decide +kernel) (c := c) (by have := zV_K h (by decide); omega) (zV_K h (by decide))
  exact zV_lo h2.1 h2.2
theorem zk6_2 {Y : zLy} {c : Nat} (h : zV Y c = 6) : zV Y (c + 2) = 10 := by
  have h2 := zK_all (P := fun c => zK c = 6 → zK (c + 2) = 10 ∧ c + 2 < 410) (by decide +kernel) (c := c) (by have := zV_K h (by decide); omega) (zV_K h (by decide))
  exact zV_lo h2.1 h2.2
theorem zk6_3 {Y : zLy} {c : Nat} (h : zV Y c = 6) : zV Y (c + 3) = 20 := by
  have h2 := zK_all (P := fun c => zK c = 6 → zK (c + 3) = 20 ∧ c + 3 < 410) (by decide +kernel) (c := c) (by have := zV_K h (by decide); omega) (zV_K h (by decide))
  exact zV_lo h2.1 h2.2
theorem zk6_4 {Y : zLy} {c : Nat} (h : zV Y c = 6) : zV Y (c + 4) = 20 := by
  have h2 := zK_all (P := fun c => zK c = 6 → zK (c + 4) = 20 ∧ c + 4 < 410) (by decide +kernel) (c := c) (by have := zV_K h (by decide); omega) (zV_K h (by decide))
  exact zV_lo h2.1 h2.2
theorem zk6_5 {Y : zLy} {c : Nat} (h : zV Y c = 6) : zV Y (c + 5) = 11 := by
  have h2 := zK_all (P := fun c => zK c = 6 → zK (c + 5) = 11 ∧ c + 5 < 410) (by decide +kernel) (c := c) (by have := zV_K h (by decide); omega) (zV_K h (by decide))
  exact zV_lo h2.1 h2.2
theorem zk6_6 {Y : zLy} {c : Nat} (h : zV Y c = 6) : zV Y (c + 6) = 21 := by
  have h2 := zK_all (P := fun c => zK c = 6 → zK (c + 6) = 21 ∧ c + 6 < 410) (by decide +kernel) (c := c) (by have := zV_K h (by decide); omega) (zV_K h (by decide))
  exact zV_lo h2.1 h2.2
theorem zk6_7 {Y : zLy} {c : Nat} (h : zV Y c = 6) : zV Y (c + 7) = 4 := by
  have h2 := zK_all (P := fun c => zK c = 6 → zK (c + 7) = 4 ∧ c + 7 < 410) (by decide +kernel) (c := c) (by have := zV_K h (by decide); omega) (zV_K h (by decide))
  exact zV_lo h2.1 h2.2
theorem zk6_8 {Y : zLy} {c : Nat} (h : zV Y c = 6) : zV Y (c + 8) = 12 := by
  have h2 := zK_all (P := fun c => zK c = 6 → zK (c + 8) = 12 ∧ c + 8 < 410) (by decide +kernel) (c := c) (by have := zV_K h (by decide); omega) (zV_K h (by decide))
  exact zV_lo h2.1 h2.2
theorem zk6_9 {Y : zLy} {c : Nat} (h : zV Y c = 6) : zV Y (c + 9) = 12 := by
  have h2 := zK_all (P := fun c => zK c = 6 → zK (c + 9) = 12 ∧ c + 9 < 410) (by decide +kernel) (c := c) (by have := zV_K h (by decide); omega) (zV_K h (by decide))
  exact zV_lo h2.1 h2.2
theorem zk6_10 {Y : zLy} {c : Nat} (h : zV Y c = 6) : zV Y (c + 10) = 22 := by
  have h2 := zK_all (P := fun c => zK c = 6 → zK (c + 10) = 22 ∧ c + 10 < 410) (by decide +kernel) (c := c) (by have := zV_K h (by decide); omega) (zV_K h (by decide))
  exact zV_lo h2.1 h2.2
theorem zk6_11 {Y : zLy} {c : Nat} (h : zV Y c = 6) : zV Y (c + 11) = 2 := by
  have h2 := zK_all (P := fun c => zK c = 6 → zK (c + 11) = 2 ∧ c + 11 < 410) (by decide +kernel) (c := c) (by have := zV_K h (by decide); omega) (zV_K h (by decide))
  exact zV_lo h2.1 h2.2
theorem zk6_12 {Y : zLy} {c : Nat} (h : zV Y c = 6) : zV Y (c + 12) = 13 := by
  have h2 := zK_all (P := fun c => zK c = 6 → zK (c + 12) = 13 ∧ c + 12 < 410) (by decide +kernel) (c := c) (by have := zV_K h (by decide); omega) (zV_K h (by decide))
  exact zV_lo h2.1 h2.2
theorem zk6_13 {Y : zLy} {c : Nat} (h : zV Y c = 6) : zV Y (c + 13) = 13 := by
  have h2 := zK_all (P := fun c => zK c = 6 → zK (c + 13) = 13 ∧ c + 13 < 410) (by decide +kernel) (c := c) (by have := zV_K h (by decide); omega) (zV_K h (by decide))
  exact zV_lo h2.1 h2.2
theorem zk6_14 {Y : zLy} {c : Nat} (h : zV Y c = 6) : zV Y (c + 14) = 13 := by
  have h2 := zK_all (P := fun c => zK c = 6 → zK (c + 14) = 13 ∧ c + 14 < 410) (by decide +kernel) (c := c) (by have := zV_K h (by decide); omega) (zV_K h (by decide))
  exact zV_lo h2.1 h2.2
theorem zk7_1 {Y : zLy} {c : Nat} (h : zV Y c = 7) : zV Y (c + 1) = 10 := by
  have h2 := zK_all (P := fun c => zK c = 7 → zK (c + 1) = 10 ∧ c + 1 < 410) (by decide +kernel) (c := c) (by have := zV_K h (by decide); omega) (zV_K h (by decide))
  exact zV_lo h2.1 h2.2
theorem zk7_2 {Y : zLy} {c : Nat} (h : zV Y c = 7) : zV Y (c + 2) = 10 := by
  have h2 := zK_all (P := fun c => zK c = 7 → zK (c + 2) = 10 ∧ c + 2 < 410) (by decide +kernel) (c := c) (by have := zV_K h (by decide); omega) (zV_K h (by decide))
  exact zV_lo h2.1 h2.2
theorem zk7_3 {Y : zLy} {c : Nat} (h : zV Y c = 7) : zV Y (c + 3) = 20 := by
  have h2 := zK_all (P := fun c => zK c = 7 → zK (c + 3) = 20 ∧ c + 3 < 410) (by decide +kernel) (c := c) (by have := zV_K h (by decide); omega) (zV_K h (by decide))
  exact zV_lo h2.1 h2.2
theorem zk7_4 {Y : zLy} {c : Nat} (h : zV Y c = 7) : zV Y (c + 4) = 21 := by
  have h2 := zK_all (P := fun c => zK c = 7 → zK (c + 4) = 21 ∧ c + 4 < 410) (by decide +kernel) (c := c) (by have := zV_K h (by decide); omega) (zV_K h (by decide))
  exact zV_lo h2.1 h2.2
theorem zk7_5 {Y : zLy} {c : Nat} (h : zV Y c = 7) : zV Y (c + 5) = 11 := by
  have h2 := zK_all (P := fun c => zK c = 7 → zK (c + 5) = 11 ∧ c + 5 < 410) (by decide +kernel) (c := c) (by have := zV_K h (by decide); omega) (zV_K h (by decide))
  exact zV_lo h2.1 h2.2
theorem zk7_6 {Y : zLy} {c : Nat} (h : zV Y c = 7) : zV Y (c + 6) = 22 := by
  have h2 := zK_all (P := fun c => zK c = 7 → zK (c + 6) = 22 ∧ c + 6 < 410) (by decide +kernel) (c := c) (by have := zV_K h (by decide); omega) (zV_K h (by decide))
  exact zV_lo h2.1 h2.2
theorem zk7_7 {Y : zLy} {c : Nat} (h : zV Y c = 7) : zV Y (c + 7) = 13 := by
  have h2 := zK_all (P := fun c => zK c = 7 → zK (c + 7) = 13 ∧ c + 7 < 410) (by decide +kernel) (c := c) (by have := zV_K h (by decide); omega) (zV_K h (by decide))
  exact zV_lo h2.1 h2.2
theorem zk7_8 {Y : zLy} {c : Nat} (h : zV Y c = 7) : zV Y (c + 8) = 10 := by
  have h2 := zK_all (P := fun c => zK c = 7 → zK (c + 8) = 10 ∧ c + 8 < 410) (by decide +kernel) (c := c) (by have := zV_K h (by decide); omega) (zV_K h (by decide))
  exact zV_lo h2.1 h2.2
theorem zk7_9 {Y : zLy} {c : Nat} (h : zV Y c = 7) : zV Y (c + 9) = 11 := by
  have h2 := zK_all (P := fun c => zK c = 7 → zK (c + 9) = 11 ∧ c + 9 < 410) (by decide +kernel) (c := c) (by have := zV_K h (by decide); omega) (zV_K h (by decide))
  exact zV_lo h2.1 h2.2
theorem zk7_10 {Y : zLy} {c : Nat} (h : zV Y c = 7) : zV Y (c + 10) = 11 := by
  have h2 := zK_all (P := fun c => zK c = 7 → zK (c + 10) = 11 ∧ c + 10 < 410) (by decide +kernel) (c := c) (by have := zV_K h (by decide); omega) (zV_K h (by decide))
  exact zV_lo h2.1 h2.2
theorem zkc_0 {Y : zLy} : zV Y 0 = 8 := zV_lo (by decide +kernel) (by decide)
theorem zkc_10 {Y : zLy} : zV Y 10 = 6 := zV_lo (by decide +kernel) (by decide)
theorem zkc_11 {Y : zLy} : zV Y 11 = 1 := zV_lo (by decide +kernel) (by decide)
theorem zkc_12 {Y : zLy} : zV Y 12 = 10 := zV_lo (by decide +kernel) (by decide)
theorem zkc_13 {Y : zLy} : zV Y 13 = 20 := zV_lo (by decide +kernel) (by decide)
theorem zkc_14 {Y : zLy} : zV Y 14 = 20 := zV_lo (by decide +kernel) (by decide)
theorem zkc_15 {Y : zLy} : zV Y 15 = 11 := zV_lo (by decide +kernel) (by decide)
theorem zkc_16 {Y : zLy} : zV Y 16 = 21 := zV_lo (by decide +kernel) (by decide)
theorem zkc_17 {Y : zLy} : zV Y 17 = 4 := zV_lo (by decide +kernel) (by decide)
theorem zkc_18 {Y : zLy} : zV Y 18 = 12 := zV_lo (by decide +kernel) (by decide)
theorem zkc_19 {Y : zLy} : zV Y 19 = 12 := zV_lo (by decide +kernel) (by decide)
theorem zkc_20 {Y : zLy} : zV Y 20 = 22 := zV_lo (by decide +kernel) (by decide)
theorem zkc_21 {Y : zLy} : zV Y 21 = 2 := zV_lo (by decide +kernel) (by decide)
theorem zkc_22 {Y : zLy} : zV Y 22 = 13 := zV_lo (by decide +kernel) (by decide)
theorem zkc_23 {Y : zLy} : zV Y 23 = 13 := zV_lo (by decide +kernel) (by decide)
theorem zkc_24 {Y : zLy} : zV Y 24 = 13 := zV_lo (by decide +kernel) (by decide)
theorem zkc_30 {Y : zLy} : zV Y 30 = 6 := zV_lo (by decide +kernel) (by decide)
theorem zkc_31 {Y : zLy} : zV Y 31 = 1 := zV_lo (by decide +kernel) (by decide)
theorem zkc_32 {Y : zLy} : zV Y 32 = 10 := zV_lo (by decide +kernel) (by decide)
theorem zkc_33 {Y : zLy} : zV Y 33 = 20 := zV_lo (by decide +kernel) (by decide)
theorem zkc_34 {Y : zLy} : zV Y 34 = 20 := zV_lo (by decide +kernel) (by decide)
theorem zkc_35 {Y : zLy} : zV Y 35 = 11 := zV_lo (by decide +kernel) (by decide)
theorem zkc_36 {Y : zLy} : zV Y 36 = 21 := zV_lo (by decide +kernel) (by decide)
theorem zkc_37 {Y : zLy} : zV Y 37 = 4 := zV_lo (by decide +kernel) (by decide)
theorem zkc_38 {Y : zLy} : zV Y 38 = 12 := zV_lo (by decide +kernel) (by decide)
theorem zkc_39 {Y : zLy} : zV Y 39 = 12 := zV_lo (by decide +kernel) (by decide)
theorem zkc_40 {Y : zLy} : zV Y 40 = 22 := zV_lo (by decide +kernel) (by decide)
theorem zkc_41 {Y : zLy} : zV Y 41 = 2 := zV_lo (by decide +kernel) (by decide)
theorem zkc_42 {Y : zLy} : zV Y 42 = 13 := zV_lo (by decide +kernel) (by decide)
theorem zkc_43 {Y : zLy} : zV Y 43 = 13 := zV_lo (by decide +kernel) (by decide)
theorem zkc_44 {Y : zLy} : zV Y 44 = 13 := zV_lo (by decide +kernel) (by decide)
theorem zkc_50 {Y : zLy} : zV Y 50 = 6 := zV_lo (by decide +kernel) (by decide)
theorem zkc_51 {Y : zLy} : zV Y 51 = 1 := zV_lo (by decide +kernel) (by decide)
theorem zkc_52 {Y : zLy} : zV Y 52 = 10 := zV_lo (by decide +kernel) (by decide)
theorem zkc_53 {Y : zLy} : zV Y 53 = 20 := zV_lo (by decide +kernel) (by decide)
theorem zkc_54 {Y : zLy} : zV Y 54 = 20 := zV_lo (by decide +kernel) (by decide)
theorem zkc_55 {Y : zLy} : zV Y 55 = 11 := zV_lo (by decide +kernel) (by decide)
theorem zkc_56 {Y : zLy} : zV Y 56 = 21 := zV_lo (by decide +kernel) (by decide)
theorem zkc_57 {Y : zLy} : zV Y 57 = 4 := zV_lo (by decide +kernel) (by decide)
theorem zkc_58 {Y : zLy} : zV Y 58 = 12 := zV_lo (by decide +kernel) (by decide)
theorem zkc_59 {Y : zLy} : zV Y 59 = 12 := zV_lo (by decide +kernel) (by decide)
theorem zkc_60 {Y : zLy} : zV Y 60 = 22 := zV_lo (by decide +kernel) (by decide)
theorem zkc_61 {Y : zLy} : zV Y 61 = 2 := zV_lo (by decide +kernel) (by decide)
theorem zkc_62 {Y : zLy} : zV Y 62 = 13 := zV_lo (by decide +kernel) (by decide)
theorem zkc_63 {Y : zLy} : zV Y 63 = 13 := zV_lo (by decide +kernel) (by decide)
theorem zkc_64 {Y : zLy} : zV Y 64 = 13 := zV_lo (by decide +kernel) (by decide)
theorem zkc_70 {Y : zLy} : zV Y 70 = 6 := zV_lo (by decide +kernel) (by decide)
theorem zkc_71 {Y : zLy} : zV Y 71 = 1 := zV_lo (by decide +kernel) (by decide)
theorem zkc_72 {Y : zLy} : zV Y 72 = 10 := zV_lo (by decide +kernel) (by decide)
theorem zkc_73 {Y : zLy} : zV Y 73 = 20 := zV_lo (by decide +kernel) (by decide)
theorem zkc_74 {Y : zLy} : zV Y 74 = 20 := zV_lo (by decide +kernel) (by decide)
theorem zkc_75 {Y : zLy} : zV Y 75 = 11 := zV_lo (by decide +kernel) (by decide)
theorem zkc_76 {Y : zLy} : zV Y 76 = 21 := zV_lo (by decide +kernel) (by decide)
theorem zkc_77 {Y : zLy} : zV Y 77 = 4 := zV_lo (by decide +kernel) (by decide)
theorem zkc_78 {Y : zLy} : zV Y 78 = 12 := zV_lo (by decide +kernel) (by decide)
theorem zkc_79 {Y : zLy} : zV Y 79 = 12 := zV_lo (by decide +kernel) (by decide)
theorem zkc_80 {Y : zLy} : zV Y 80 = 22 := zV_lo (by decide +kernel) (by decide)
theorem zkc_81 {Y : zLy} : zV Y 81 = 2 := zV_lo (by decide +kernel) (by decide)
theorem zkc_82 {Y : zLy} : zV Y 82 = 13 := zV_lo (by decide +kernel) (by decide)
theorem zkc_83 {Y : zLy} : zV Y 83 = 13 := zV_lo (by decide +kernel) (by decide)
theorem zkc_84 {Y : zLy} : zV Y 84 = 13 := zV_lo (by decide +kernel) (by decide)
theorem zkc_90 {Y : zLy} : zV Y 90 = 6 := zV_lo (by decide +kernel) (by decide)
theorem zkc_91 {Y : zLy} : zV Y 91 = 1 := zV_lo (by decide +kernel) (by decide)
theorem zkc_92 {Y : zLy} : zV Y 92 = 10 := zV_lo (by decide +kernel) (by decide)
theorem zkc_93 {Y : zLy} : zV Y 93 = 20 := zV_lo (by decide +kernel) (by decide)
theorem zkc_94 {Y : zLy} : zV Y 94 = 20 := zV_lo (by decide +kernel) (by decide)
theorem zkc_95 {Y : zLy} : zV Y 95 = 11 := zV_lo (by decide +kernel) (by decide)
theorem zkc_96 {Y : zLy} : zV Y 96 = 21 := zV_lo (by decide +kernel) (by decide)
theorem zkc_97 {Y : zLy} : zV Y 97 = 4 := zV_lo (by decide +kernel) (by decide)
theorem zkc_98 {Y : zLy} : zV Y 98 = 12 := zV_lo (by decide +kernel) (by decide)
theorem zkc_99 {Y : zLy} : zV Y 99 = 12 := zV_lo (by decide +kernel) (by decide)
theorem zkc_100 {Y : zLy} : zV Y 100 = 22 := zV_lo (by decide +kernel) (by decide)
theorem zkc_101 {Y : zLy} : zV Y 101 = 2 := zV_lo (by decide +kernel) (by decide)
theorem zkc_102 {Y : zLy} : zV Y 102 = 13 := zV_lo (by decide +kernel) (by decide)
theorem zkc_103 {Y : zLy} : zV Y 103 = 13 := zV_lo (by decide +kernel) (by decide)
theorem zkc_104 {Y : zLy} : zV Y 104 = 13 := zV_lo (by decide +kernel) (by decide)
theorem zkc_110 {Y : zLy} : zV Y 110 = 6 := zV_lo (by decide +kernel) (by decide)
theorem zkc_111 {Y : zLy} : zV Y 111 = 1 := zV_lo (by decide +kernel) (by decide)
theorem zkc_112 {Y : zLy} : zV Y 112 = 10 := zV_lo (by decide +kernel) (by decide)
theorem zkc_113 {Y : zLy} : zV Y 113 = 20 := zV_lo (by decide +kernel) (by decide)
theorem zkc_114 {Y : zLy} : zV Y 114 = 20 := zV_lo (by decide +kernel) (by decide)
theorem zkc_115 {Y : zLy} : zV Y 115 = 11 := zV_lo (by decide +kernel) (by decide)
theorem zkc_116 {Y : zLy} : zV Y 116 = 21 := zV_lo (by decide +kernel) (by decide)
theorem zkc_117 {Y : zLy} : zV Y 117 = 4 := zV_lo (by decide +kernel) (by decide)
theorem zkc_118 {Y : zLy} : zV Y 118 = 12 := zV_lo (by decide +kernel) (by decide)
theorem zkc_119 {Y : zLy} : zV Y 119 = 12 := zV_lo (by decide +kernel) (by decide)
theorem zkc_120 {Y : zLy} : zV Y 120 = 22 := zV_lo (by decide +kernel) (by decide)
theorem zkc_121 {Y : zLy} : zV Y 121 = 2 := zV_lo (by decide +kernel) (by decide)
theorem zkc_122 {Y : zLy} : zV Y 122 = 13 := zV_lo (by decide +kernel) (by decide)
theorem zkc_123 {Y : zLy} : zV Y 123 = 13 := zV_lo (by decide +kernel) (by decide)
theorem zkc_124 {Y : zLy} : zV Y 124 = 13 := zV_lo (by decide +kernel) (by decide)
theorem zkc_130 {Y : zLy} : zV Y 130 = 6 := zV_lo (by decide +kernel) (by decide)
theorem zkc_131 {Y : zLy} : zV Y 131 = 1 := zV_lo (by decide +kernel) (by decide)
theorem zkc_132 {Y : zLy} : zV Y 132 = 10 := zV_lo (by decide +kernel) (by decide)
theorem zkc_133 {Y : zLy} : zV Y 133 = 20 := zV_lo (by decide +kernel) (by decide)
theorem zkc_134 {Y : zLy} : zV Y 134 = 20 := zV_lo (by decide +kernel) (by decide)
theorem zkc_135 {Y : zLy} : zV Y 135 = 11 := zV_lo (by decide +kernel) (by decide)
theorem zkc_136 {Y : zLy} : zV Y 136 = 21 := zV_lo (by decide +kernel) (by decide)
theorem zkc_137 {Y : zLy} : zV Y 137 = 4 := zV_lo (by decide +kernel) (by decide)
theorem zkc_138 {Y : zLy} : zV Y 138 = 12 := zV_lo (by decide +kernel) (by decide)
theorem zkc_139 {Y : zLy} : zV Y 139 = 12 := zV_lo (by decide +kernel) (by decide)
theorem zkc_140 {Y : zLy} : zV Y 140 = 22 := zV_lo (by decide +kernel) (by decide)
theorem zkc_141 {Y : zLy} : zV Y 141 = 2 := zV_lo (by decide +kernel) (by decide)
theorem zkc_142 {Y : zLy} : zV Y 142 = 13 := zV_lo (by decide +kernel) (by decide)
theorem zkc_143 {Y : zLy} : zV Y 143 = 13 := zV_lo (by decide +kernel) (by decide)
theorem zkc_144 {Y : zLy} : zV Y 144 = 13 := zV_lo (by decide +kernel) (by decide)
theorem zkc_150 {Y : zLy} : zV Y 150 = 6 := zV_lo (by decide +kernel) (by decide)
theorem zkc_151 {Y : zLy} : zV Y 151 = 1 := zV_lo (by decide +kernel) (by decide)
theorem zkc_152 {Y : zLy} : zV Y 152 = 10 := zV_lo (by decide +kernel) (by decide)
theorem zkc_153 {Y : zLy} : zV Y 153 = 20 := zV_lo (by decide +kernel) (by decide)
theorem zkc_154 {Y : zLy} : zV Y 154 = 20 := zV_lo (by decide +kernel) (by decide)
theorem zkc_155 {Y : zLy} : zV Y 155 = 11 := zV_lo (by decide +kernel) (by decide)
theorem zkc_156 {Y : zLy} : zV Y 156 = 21 := zV_lo (by decide +kernel) (by decide)
theorem zkc_157 {Y : zLy} : zV Y 157 = 4 := zV_lo (by decide +kernel) (by decide)
theorem zkc_158 {Y : zLy} : zV Y 158 = 12 := zV_lo (by decide +kernel) (by decide)
theorem zkc_159 {Y : zLy} : zV Y 159 = 12 := zV_lo (by decide +kernel) (by decide)
theorem zkc_160 {Y : zLy} : zV Y 160 = 22 := zV_lo (by decide +kernel) (by decide)
theorem zkc_161 {Y : zLy} : zV Y 161 = 2 := zV_lo (by decide +kernel) (by decide)
theorem zkc_162 {Y : zLy} : zV Y 162 = 13 := zV_lo (by decide +kernel) (by decide)
theorem zkc_163 {Y : zLy} : zV Y 163 = 13 := zV_lo (by decide +kernel) (by decide)
theorem zkc_164 {Y : zLy} : zV Y 164 = 13 := zV_lo (by decide +kernel) (by decide)
theorem zkc_200 {Y : zLy} : zV Y 200 = 7 := zV_lo (by decide +kernel) (by decide)
theorem zkc_201 {Y : zLy} : zV Y 201 = 10 := zV_lo (by decide +kernel) (by decide)
theorem zkc_202 {Y : zLy} : zV Y 202 = 10 := zV_lo (by decide +kernel) (by decide)
theorem zkc_203 {Y : zLy} : zV Y 203 = 20 := zV_lo (by decide +kernel) (by decide)
theorem zkc_204 {Y : zLy} : zV Y 204 = 21 := zV_lo (by decide +kernel) (by decide)
theorem zkc_205 {Y : zLy} : zV Y 205 = 11 := zV_lo (by decide +kernel) (by decide)
theorem zkc_206 {Y : zLy} : zV Y 206 = 22 := zV_lo (by decide +kernel) (by decide)
theorem zkc_207 {Y : zLy} : zV Y 207 = 13 := zV_lo (by decide +kernel) (by decide)
theorem zkc_208 {Y : zLy} : zV Y 208 = 10 := zV_lo (by decide +kernel) (by decide)
theorem zkc_209 {Y : zLy} : zV Y 209 = 11 := zV_lo (by decide +kernel) (by decide)
theorem zkc_210 {Y : zLy} : zV Y 210 = 11 := zV_lo (by decide +kernel) (by decide)
theorem zkc_220 {Y : zLy} : zV Y 220 = 7 := zV_lo (by decide +kernel) (by decide)
theorem zkc_221 {Y : zLy} : zV Y 221 = 10 := zV_lo (by decide +kernel) (by decide)
theorem zkc_222 {Y : zLy} : zV Y 222 = 10 := zV_lo (by decide +kernel) (by decide)
theorem zkc_223 {Y : zLy} : zV Y 223 = 20 := zV_lo (by decide +kernel) (by decide)
theorem zkc_224 {Y : zLy} : zV Y 224 = 21 := zV_lo (by decide +kernel) (by decide)
theorem zkc_225 {Y : zLy} : zV Y 225 = 11 := zV_lo (by decide +kernel) (by decide)
theorem zkc_226 {Y : zLy} : zV Y 226 = 22 := zV_lo (by decide +kernel) (by decide)
theorem zkc_227 {Y : zLy} : zV Y 227 = 13 := zV_lo (by decide +kernel) (by decide)
theorem zkc_228 {Y : zLy} : zV Y 228 = 10 := zV_lo (by decide +kernel) (by decide)
theorem zkc_229 {Y : zLy} : zV Y 229 = 11 := zV_lo (by decide +kernel) (by decide)
theorem zkc_230 {Y : zLy} : zV Y 230 = 11 := zV_lo (by decide +kernel) (by decide)
theorem zkc_240 {Y : zLy} : zV Y 240 = 7 := zV_lo (by decide +kernel) (by decide)
theorem zkc_241 {Y : zLy} : zV Y 241 = 10 := zV_lo (by decide +kernel) (by decide)
theorem zkc_242 {Y : zLy} : zV Y 242 = 10 := zV_lo (by decide +kernel) (by decide)
theorem zkc_243 {Y : zLy} : zV Y 243 = 20 := zV_lo (by decide +kernel) (by decide)
theorem zkc_244 {Y : zLy} : zV Y 244 = 21 := zV_lo (by decide +kernel) (by decide)
theorem zkc_245 {Y : zLy} : zV Y 245 = 11 := zV_lo (by decide +kernel) (by decide)
theorem zkc_246 {Y : zLy} : zV Y 246 = 22 := zV_lo (by decide +kernel) (by decide)
theorem zkc_247 {Y : zLy} : zV Y 247 = 13 := zV_lo (by decide +kernel) (by decide)
theorem zkc_248 {Y : zLy} : zV Y 248 = 10 := zV_lo (by decide +kernel) (by decide)
theorem zkc_249 {Y : zLy} : zV Y 249 = 11 := zV_lo (by decide +kernel) (by decide)
theorem zkc_250 {Y : zLy} : zV Y 250 = 11 := zV_lo (by decide +kernel) (by decide)
theorem zkc_300 {Y : zLy} : zV Y 300 = 3 := zV_lo (by decide +kernel) (by decide)
theorem zkc_301 {Y : zLy} : zV Y 301 = 30 := zV_lo (by decide +kernel) (by decide)
theorem zkc_310 {Y : zLy} : zV Y 310 = 5 := zV_lo (by decide +kernel) (by decide)
theorem zkc_311 {Y : zLy} : zV Y 311 = 14 := zV_lo (by decide +kernel) (by decide)
theorem zkc_320 {Y : zLy} : zV Y 320 = 15 := zV_lo (by decide +kernel) (by decide)
theorem zkc_400 {Y : zLy} : zV Y 400 = 16 := zV_lo (by decide +kernel) (by decide)
theorem zkc_401 {Y : zLy} : zV Y 401 = 11 := zV_lo (by decide +kernel) (by decide)
theorem zkc_402 {Y : zLy} : zV Y 402 = 17 := zV_lo (by decide +kernel) (by decide)
theorem zkc_403 {Y : zLy} : zV Y 403 = 13 := zV_lo (by decide +kernel) (by decide)
theorem zkc_404 {Y : zLy} : zV Y 404 = 18 := zV_lo (by decide +kernel) (by decide)
theorem zkc_405 {Y : zLy} : zV Y 405 = 18 := zV_lo (by decide +kernel) (by decide)
theorem zkc_406 {Y : zLy} : zV Y 406 = 19 := zV_lo (by decide +kernel) (by decide)
theorem zkc_410 {Y : zLy} (h : zlv Y = 1) : zV Y 410 = 18 := zV_1 h (by decide +kernel) (by decide)
theorem zkc_411 {Y : zLy} (h : zlv Y = 1) : zV Y 411 = 18 := zV_1 h (by decide +kernel) (by decide)
theorem zkc_412 {Y : zLy} (h : zlv Y = 1) : zV Y 412 = 19 := zV_1 h (by decide +kernel) (by decide)
theorem zkc_420 {Y : zLy} (h : zlv Y = 2) : zV Y 420 = 16 := zV_2 h (by decide +kernel) (by decide)
theorem zkc_421 {Y : zLy} (h : zlv Y = 2) : zV Y 421 = 17 := zV_2 h (by decide +kernel) (by decide)
theorem zkc_422 {Y : zLy} (h : zlv Y = 2) : zV Y 422 = 13 := zV_2 h (by decide +kernel) (by decide)
theorem zkc_423 {Y : zLy} (h : zlv Y = 2) : zV Y 423 = 18 := zV_2 h (by decide +kernel) (by decide)
theorem zkc_424 {Y : zLy} (h : zlv Y = 2) : zV Y 424 = 18 := zV_2 h (by decide +kernel) (by decide)
theorem zkc_425 {Y : zLy} (h : zlv Y = 2) : zV Y 425 = 19 := zV_2 h (by decide +kernel) (by decide)
theorem zk30_one {Y : zLy} : ∀ c', zV Y c' = 30 → c' = 301 := fun c' h => (zK_all (P := fun c => zK c = 30 → c = 301) (by decide +kernel) (c := c') (by have := zV_K h (by decide); omega)) (zV_K h (by decide))
variable {ρ : Type} {Y : zLy} {p : Program} {l : Launch} {e : Env} {R : Room} {s : State} {m : MethodId} {args : Array Value} {below : List Frame} {meth : Method} {c : Code} {nl k n : Nat} {kq : ρ → State → Prop} {σ : zSt} {lv : List (Nat × Value)} {rest : List Value} {pc pc' : Nat} {o : Option ρ} {cc : ByteArray} {ret : Option FieldType}
theorem zg_X7_12 (cx : zCx Y p s m args meth c RX7 cc nl ret) (hpc : pc + 3 = pc') {c1 : Nat} (hk : zV Y c1 = 8) (hdg : decode cc pc = .ok (.getfield 12, 3)) (kk : zWo Y p l e R s m args below meth c nl k n kq σ lv (.ref (zad Y 10) :: rest) pc' (o)) : zWo Y p l e R s m args below meth c nl k n kq σ lv (.ref (zad Y c1) :: rest) pc (o) := zr_get cx hpc 8 hk (by decide) rfl zin_X7 0 (by decide) zw_270 rfl rfl hdg kk
theorem zg_X7_19 (cx : zCx Y p s m args meth c RX7 cc nl ret) (hpc : pc + 3 = pc') {c1 : Nat} (hk : zV Y c1 = 8) (hdg : decode cc pc = .ok (.getfield 19, 3)) (kk : zWo Y p l e R s m args below meth c nl k n kq σ lv (.ref (zad Y 200) :: rest) pc' (o)) : zWo Y p l e R s m args below meth c nl k n kq σ lv (.ref (zad Y c1) :: rest) pc (o) := zr_get cx hpc 8 hk (by decide) rfl zin_X7 1 (by decide) zw_271 rfl rfl hdg kk
theorem zg_X7_23 (cx : zCx Y p s m args meth c RX7 cc nl ret) (hpc : pc + 3 = pc') {c1 : Nat} (hk : zV Y c1 = 8) (hdg : decode cc pc = .ok (.getfield 23, 3)) (kk : zWo Y p l e R s m args below meth c nl k n kq σ lv (.ref (zad Y 30) :: rest) pc' (o)) : zWo Y p l e R s m args below meth c nl k n kq σ lv (.ref (zad Y c1) :: rest) pc (o) := zr_get cx hpc 8 hk (by decide) rfl zin_X7 2 (by decide) zw_272 rfl rfl hdg kk
theorem zg_X7_26 (cx : zCx Y p s m args meth c RX7 cc nl ret) (hpc : pc + 3 = pc') {c1 : Nat} (hk : zV Y c1 = 8) (hdg : decode cc pc = .ok (.getfield 26, 3)) (kk : zWo Y p l e R s m args below meth c nl k n kq σ lv (.ref (zad Y 220) :: rest) pc' (o)) : zWo Y p l e R s m args below meth c nl k n kq σ lv (.ref (zad Y c1) :: rest) pc (o) := zr_get cx hpc 8 hk (by decide) rfl zin_X7 3 (by decide) zw_273 rfl rfl hdg kk
theorem zg_X7_29 (cx : zCx Y p s m args meth c RX7 cc nl ret) (hpc : pc + 3 = pc') {c1 : Nat} (hk : zV Y c1 = 8) (hdg : decode cc pc = .ok (.getfield 29, 3)) (kk : zWo Y p l e R s m args below meth c nl k n kq σ lv (.ref (zad Y 240) :: rest) pc' (o)) : zWo Y p l e R s m args below meth c nl k n kq σ lv (.ref (zad Y c1) :: rest) pc (o) := zr_get cx hpc 8 hk (by decide) rfl zin_X7 4 (by decide) zw_274 rfl rfl hdg kk
theorem zg_X7_35 (cx : zCx Y p s m args meth c RX7 cc nl ret) (hpc : pc + 3 = pc') {c1 : Nat} (hk : zV Y c1 = 8) (hdg : decode cc pc = .ok (.getfield 35, 3)) (kk : zWo Y p l e R s m args below meth c nl k n kq σ lv (.ref (zad Y 300) :: rest) pc' (o)) : zWo Y p l e R s m args below meth c nl k n kq σ lv (.ref (zad Y c1) :: rest) pc (o) := zr_get cx hpc 8 hk (by decide) rfl zin_X7 5 (by decide) zw_275 rfl rfl hdg kk
theorem zg_X7_42 (cx : zCx Y p s m args meth c RX7 cc nl ret) (hpc : pc + 3 = pc') {c1 : Nat} (hk : zV Y c1 = 8) (hdg : decode cc pc = .ok (.getfield 42, 3)) (kk : zWo Y p l e R s m args below meth c nl k n kq σ lv (.ref (zad Y 310) :: rest) pc' (o)) : zWo Y p l e R s m args below meth c nl k n kq σ lv (.ref (zad Y c1) :: rest) pc (o) := zr_get cx hpc 8 hk (by decide) rfl zin_X7 6 (by decide) zw_276 rfl rfl hdg kk
theorem zg_X7_46 (cx : zCx Y p s m args meth c RX7 cc nl ret) (hpc : pc + 3 = pc') {c1 : Nat} (hk : zV Y c1 = 8) (hdg : decode cc pc = .ok (.getfield 46, 3)) (kk : zWo Y p l e R s m args below meth c nl k n kq σ lv (.ref (zad Y 320) :: rest) pc' (o)) : zWo Y p l e R s m args below meth c nl k n kq σ lv (.ref (zad Y c1) :: rest) pc (o) := zr_get cx hpc 8 hk (by decide) rfl zin_X7 7 (by decide) zw_277 rfl rfl hdg kk
theorem zg_X7_50 (cx : zCx Y p s m args meth c RX7 cc nl ret) (hpc : pc + 3 = pc') {c1 : Nat} (hk : zV Y c1 = 8) (hdg : decode cc pc = .ok (.getfield 50, 3)) (kk : zWo Y p l e R s m args below meth c nl k n kq σ lv (.int (i32 (σ.1 c1 8)) :: rest) pc' (o)) : zWo Y p l e R s m args below meth c nl k n kq σ lv (.ref (zad Y c1) :: rest) pc (o) := zr_get cx hpc 8 hk (by decide) rfl zin_X7 8 (by decide) zw_278 rfl rfl hdg kk
theorem zp_X7_50 (cx : zCx Y p s m args meth c RX7 cc nl ret) (hpc : pc + 3 = pc') {c1 : Nat} (hk : zV Y c1 = 8) {x : Int} (hdg : decode cc pc = .ok (.putfield 50, 3)) (kk : zWo Y p l e R s m args below meth c nl k n kq (zwr σ c1 8 x) lv (rest) pc' (o)) : zWo Y p l e R s m args below meth c nl k n kq σ lv (.int (i32 x) :: .ref (zad Y c1) :: rest) pc (o) := zr_put cx hpc 8 hk (by decide) rfl zin_X7 tyX7 tyX7_ok nmX7 8 (by decide) zw_278 rfl rfl (by decide +kernel) (Nat.le_of_ble_eq_true rfl) (by simp [zfs, zwr]) hdg kk
theorem zg_X7_73 (cx : zCx Y p s m args meth c RX7 cc nl ret) (hpc : pc + 3 = pc') {c1 c2 : Nat} (hk : zV Y c1 = 6) (h2 : c1 + 1 = c2) (hdg : decode cc pc = .ok (.getfield 73, 3)) (kk : zWo Y p l e R s m args below meth c nl k n kq σ lv (.ref (zad Y c2) :: rest) pc' (o)) : zWo Y p l e R s m args below meth c nl k n kq σ lv (.ref (zad Y c1) :: rest) pc (o) := by
  subst h2
  exact zr_get cx hpc 6 hk (by decide) rfl zin_X5 0 (by decide) zw_149 rfl rfl hdg kk
theorem zg_X7_77 (cx : zCx Y p s m args meth c RX7 cc nl ret) (hpc : pc + 3 = pc') {c1 : Nat} (hk : zV Y c1 = 1) (hdg : decode cc pc = .ok (.getfield 77, 3)) (kk : zWo Y p l e R s m args below meth c nl k n kq σ lv (.int (i32 (σ.1 c1 0)) :: rest) pc' (o)) : zWo Y p l e R s m args below meth c nl k n kq σ lv (.ref (zad Y c1) :: rest) pc (o) := zr_get cx hpc 1 hk (by decide) rfl zin_X0 0 (by decide) zw_63 rfl rfl hdg kk
theorem zp_X7_77 (cx : zCx Y p s m args meth c RX7 cc nl ret) (hpc : pc + 3 = pc') {c1 : Nat} (hk : zV Y c1 = 1) {x : Int} (hdg : decode cc pc = .ok (.putfield 77, 3)) (kk : zWo Y p l e R s m args below meth c nl k n kq (zwr σ c1 0 x) lv (rest) pc' (o)) : zWo Y p l e R s m args below meth c nl k n kq σ lv (.int (i32 x) :: .ref (zad Y c1) :: rest) pc (o) := zr_put cx hpc 1 hk (by decide) rfl zin_X0 tyX0 tyX0_ok nmX0 0 (by decide) zw_63 rfl rfl (by decide +kernel) (Nat.le_of_ble_eq_true rfl) (by simp [zfs, zwr]) hdg kk
theorem zg_X7_104 (cx : zCx Y p s m args meth c RX7 cc nl ret) (hpc : pc + 3 = pc') {c1 c2 : Nat} (hk : zV Y c1 = 1) (h2 : c1 + 3 = c2) (hdg : decode cc pc = .ok (.getfield 104, 3)) (kk : zWo Y p l e R s m args below meth c nl k n kq σ lv (.ref (zad Y c2) :: rest) pc' (o)) : zWo Y p l e R s m args below meth c nl k n kq σ lv (.ref (zad Y c1) :: rest) pc (o) := by
  subst h2
  exact zr_get cx hpc 1 hk (by decide) rfl zin_X0 3 (by decide) zw_70 rfl rfl hdg kk
theorem zg_X7_112 (cx : zCx Y p s m args meth c RX7 cc nl ret) (hpc : pc + 3 = pc') {c1 c2 : Nat} (hk : zV Y c1 = 1) (h2 : c1 + 2 = c2) (hdg : decode cc pc = .ok (.getfield 112, 3)) (kk : zWo Y p l e R s m args below meth c nl k n kq σ lv (.ref (zad Y c2) :: rest) pc' (o)) : zWo Y p l e R s m args below meth c nl k n kq σ lv (.ref (zad Y c1) :: rest) pc (o) := by
  subst h2
  exact zr_get cx hpc 1 hk (by decide) rfl zin_X0 2 (by decide) zw_68 rfl rfl hdg kk
theorem zg_X7_115 (cx : zCx Y p s m args meth c RX7 cc nl ret) (hpc : pc + 3 = pc') {c1 : Nat} (hk : zV Y c1 = 7) (hdg : decode cc pc = .ok (.getfield 115, 3)) (kk : zWo Y p l e R s m args below meth c nl k n kq σ lv (.int (i32 (σ.1 c1 6)) :: rest) pc' (o)) : zWo Y p l e R s m args below meth c nl k n kq σ lv (.ref (zad Y c1) :: rest) pc (o) := zr_get cx hpc 7 hk (by decide) rfl zin_X6 6 (by decide) zw_202 rfl rfl hdg kk
theorem zp_X7_115 (cx : zCx Y p s m args meth c RX7 cc nl ret) (hpc : pc + 3 = pc') {c1 : Nat} (hk : zV Y c1 = 7) {x : Int} (hdg : decode cc pc = .ok (.putfield 115, 3)) (kk : zWo Y p l e R s m args below meth c nl k n kq (zwr σ c1 6 x) lv (rest) pc' (o)) : zWo Y p l e R s m args below meth c nl k n kq σ lv (.int (i32 x) :: .ref (zad Y c1) :: rest) pc (o) := zr_put cx hpc 7 hk (by decide) rfl zin_X6 tyX6 tyX6_ok nmX6 6 (by decide) zw_202 rfl rfl (by decide +kernel) (Nat.le_of_ble_eq_true rfl) (by simp [zfs, zwr]) hdg kk
theorem zg_X7_123 (cx : zCx Y p s m args meth c RX7 cc nl ret) (hpc : pc + 3 = pc') {c1 : Nat} (hk : zV Y c1 = 6) (hdg : decode cc pc = .ok (.getfield 123, 3)) (kk : zWo Y p l e R s m args below meth c nl k n kq σ lv (.int (i32 (σ.1 c1 3)) :: rest) pc' (o)) : zWo Y p l e R s m args below meth c nl k n kq σ lv (.ref (zad Y c1) :: rest) pc (o) := zr_get cx hpc 6 hk (by decide) rfl zin_X5 3 (by decide) zw_157 rfl rfl hdg kk
theorem zp_X7_123 (cx : zCx Y p s m args meth c RX7 cc nl ret) (hpc : pc + 3 = pc') {c1 : Nat} (hk : zV Y c1 = 6) {x : Int} (hdg : decode cc pc = .ok (.putfield 123, 3)) (kk : zWo Y p l e R s m args below meth c nl k n kq (zwr σ c1 3 x) lv (rest) pc' (o)) : zWo Y p l e R s m args below meth c nl k n kq σ lv (.int (i32 x) :: .ref (zad Y c1) :: rest) pc (o) := zr_put cx hpc 6 hk (by decide) rfl zin_X5 tyX5 tyX5_ok nmX5 3 (by decide) zw_157 rfl rfl (by decide +kernel) (Nat.le_of_ble_eq_true rfl) (by simp [zfs, zwr]) hdg kk
theorem zg_X7_128 (cx : zCx Y p s m args meth c RX7 cc nl ret) (hpc : pc + 3 = pc') {c1 c2 : Nat} (hk : zV Y c1 = 1) (h2 : c1 + 4 = c2) (hdg : decode cc pc = .ok (.getfield 128, 3)) (kk : zWo Y p l e R s m args below meth c nl k n kq σ lv (.ref (zad Y c2) :: rest) pc' (o)) : zWo Y p l e R s m args below meth c nl k n kq σ lv (.ref (zad Y c1) :: rest) pc (o) := by
  subst h2
  exact zr_get cx hpc 1 hk (by decide) rfl zin_X0 4 (by decide) zw_73 rfl rfl hdg kk
theorem zg_X7_131 (cx : zCx Y p s m args meth c RX7 cc nl ret) (hpc : pc + 3 = pc') {c1 c2 : Nat} (hk : zV Y c1 = 1) (h2 : c1 + 5 = c2) (hdg : decode cc pc = .ok (.getfield 131, 3)) (kk : zWo Y p l e R s m args below meth c nl k n kq σ lv (.ref (zad Y c2) :: rest) pc' (o)) : zWo Y p l e R s m args below meth c nl k n kq σ lv (.ref (zad Y c1) :: rest) pc (o) := by
  subst h2
  exact zr_get cx hpc 1 hk (by decide) rfl zin_X0 5 (by decide) zw_76 rfl rfl hdg kk
theorem zg_X7_142 (cx : zCx Y p s m args meth c RX7 cc nl ret) (hpc : pc + 3 = pc') {c1 c2 : Nat} (hk : zV Y c1 = 6) (h2 : c1 + 7 = c2) (hdg : decode cc pc = .ok (.getfield 142, 3)) (kk : zWo Y p l e R s m args below meth c nl k n kq σ lv (.ref (zad Y c2) :: rest) pc' (o)) : zWo Y p l e R s m args below meth c nl k n kq σ lv (.ref (zad Y c1) :: rest) pc (o) := by
  subst h2
  exact zr_get cx hpc 6 hk (by decide) rfl zin_X5 1 (by decide) zw_152 rfl rfl hdg kk
theorem zg_X7_146 (cx : zCx Y p s m args meth c RX7 cc nl ret) (hpc : pc + 3 = pc') {c1 : Nat} (hk : zV Y c1 = 4) (hdg : decode cc pc = .ok (.getfield 146, 3)) (kk : zWo Y p l e R s m args below meth c nl k n kq σ lv (.int (i32 (σ.1 c1 0)) :: rest) pc' (o)) : zWo Y p l e R s m args below meth c nl k n kq σ lv (.ref (zad Y c1) :: rest) pc (o) := zr_get cx hpc 4 hk (by decide) rfl zin_X3 0 (by decide) zw_100 rfl rfl hdg kk
theorem zp_X7_146 (cx : zCx Y p s m args meth c RX7 cc nl ret) (hpc : pc + 3 = pc') {c1 : Nat} (hk : zV Y c1 = 4) {x : Int} (hdg : decode cc pc = .ok (.putfield 146, 3)) (kk : zWo Y p l e R s m args below meth c nl k n kq (zwr σ c1 0 x) lv (rest) pc' (o)) : zWo Y p l e R s m args below meth c nl k n kq σ lv (.int (i32 x) :: .ref (zad Y c1) :: rest) pc (o) := zr_put cx hpc 4 hk (by decide) rfl zin_X3 tyX3 tyX3_ok nmX3 0 (by decide) zw_100 rfl rfl (by decide +kernel) (Nat.le_of_ble_eq_true rfl) (by simp [zfs, zwr]) hdg kk
theorem zg_X7_161 (cx : zCx Y p s m args meth c RX7 cc nl ret) (hpc : pc + 3 = pc') {c1 c2 : Nat} (hk : zV Y c1 = 7) (h2 : c1 + 6 = c2) (hdg : decode cc pc = .ok (.getfield 161, 3)) (kk : zWo Y p l e R s m args below meth c nl k n kq σ lv (.ref (zad Y c2) :: rest) pc' (o)) : zWo Y p l e R s m args below meth c nl k n kq σ lv (.ref (zad Y c1) :: rest) pc (o) := by
  subst h2
  exact zr_get cx hpc 7 hk (by decide) rfl zin_X6 5 (by decide) zw_200 rfl rfl hdg kk
theorem zg_X7_175 (cx : zCx Y p s m args meth c RX7 cc nl ret) (hpc : pc + 3 = pc') {c1 c2 : Nat} (hk : zV Y c1 = 6) (h2 : c1 + 11 = c2) (hdg : decode cc pc = .ok (.getfield 175, 3)) (kk : zWo Y p l e R s m args below meth c nl k n kq σ lv (.ref (zad Y c2) :: rest) pc' (o)) : zWo Y p l e R s m args below meth c nl k n kq σ lv (.ref (zad Y c1) :: rest) pc (o) := by
  subst h2
  exact zr_get cx hpc 6 hk (by decide) rfl zin_X5 2 (by decide) zw_155 rfl rfl hdg kk
theorem zg_X7_179 (cx : zCx Y p s m args meth c RX7 cc nl ret) (hpc : pc + 3 = pc') {c1 : Nat} (hk : zV Y c1 = 2) (hdg : decode cc pc = .ok (.getfield 179, 3)) (kk : zWo Y p l e R s m args below meth c nl k n kq σ lv (.int (i32 (σ.1 c1 0)) :: rest) pc' (o)) : zWo Y p l e R s m args below meth c nl k n kq σ lv (.ref (zad Y c1) :: rest) pc (o) := zr_get cx hpc 2 hk (by decide) rfl zin_X1 0 (by decide) zw_127 rfl rfl hdg kk
theorem zp_X7_179 (cx : zCx Y p s m args meth c RX7 cc nl ret) (hpc : pc + 3 = pc') {c1 : Nat} (hk : zV Y c1 = 2) {x : Int} (hdg : decode cc pc = .ok (.putfield 179, 3)) (kk : zWo Y p l e R s m args below meth c nl k n kq (zwr σ c1 0 x) lv (rest) pc' (o)) : zWo Y p l e R s m args below meth c nl k n kq σ lv (.int (i32 x) :: .ref (zad Y c1) :: rest) pc (o) := zr_put cx hpc 2 hk (by decide) rfl zin_X1 tyX1 tyX1_ok nmX1 0 (by decide) zw_127 rfl rfl (by decide +kernel) (Nat.le_of_ble_eq_true rfl) (by simp [zfs, zwr]) hdg kk
theorem zg_X7_192 (cx : zCx Y p s m args meth c RX7 cc nl ret) (hpc : pc + 3 = pc') {c1 c2 : Nat} (hk : zV Y c1 = 2) (h2 : c1 + 3 = c2) (hdg : decode cc pc = .ok (.getfield 192, 3)) (kk : zWo Y p l e R s m args below meth c nl k n kq σ lv (.ref (zad Y c2) :: rest) pc' (o)) : zWo Y p l e R s m args below meth c nl k n kq σ lv (.ref (zad Y c1) :: rest) pc (o) := by
  subst h2
  exact zr_get cx hpc 2 hk (by decide) rfl zin_X1 3 (by decide) zw_136 rfl rfl hdg kk
theorem zg_X7_198 (cx : zCx Y p s m args meth c RX7 cc nl ret) (hpc : pc + 3 = pc') {c1 : Nat} (hk : zV Y c1 = 6) (hdg : decode cc pc = .ok (.getfield 198, 3)) (kk : zWo Y p l e R s m args below meth c nl k n kq σ lv (.int (i32 (σ.1 c1 5)) :: rest) pc' (o)) : zWo Y p l e R s m args below meth c nl k n kq σ lv (.ref (zad Y c1) :: rest) pc (o) := zr_get cx hpc 6 hk (by decide) rfl zin_X5 5 (by decide) zw_161 rfl rfl hdg kk
theorem zp_X7_198 (cx : zCx Y p s m args meth c RX7 cc nl ret) (hpc : pc + 3 = pc') {c1 : Nat} (hk : zV Y c1 = 6) {x : Int} (hdg : decode cc pc = .ok (.putfield 198, 3)) (kk : zWo Y p l e R s m args below meth c nl k n kq (zwr σ c1 5 x) lv (rest) pc' (o)) : zWo Y p l e R s m args below meth c nl k n kq σ lv (.int (i32 x) :: .ref (zad Y c1) :: rest) pc (o) := zr_put cx hpc 6 hk (by decide) rfl zin_X5 tyX5 tyX5_ok nmX5 5 (by decide) zw_161 rfl rfl (by decide +kernel) (Nat.le_of_ble_eq_true rfl) (by simp [zfs, zwr]) hdg kk
theorem zg_X7_204 (cx : zCx Y p s m args meth c RX7 cc nl ret) (hpc : pc + 3 = pc') {c1 c2 : Nat} (hk : zV Y c1 = 7) (h2 : c1 + 8 = c2) (hdg : decode cc pc = .ok (.getfield 204, 3)) (kk : zWo Y p l e R s m args below meth c nl k n kq σ lv (.ref (zad Y c2) :: rest) pc' (o)) : zWo Y p l e R s m args below meth c nl k n kq σ lv (.ref (zad Y c1) :: rest) pc (o) := by
  subst h2
  exact zr_get cx hpc 7 hk (by decide) rfl zin_X6 9 (by decide) zw_208 rfl rfl hdg kk
theorem zg_X7_207 (cx : zCx Y p s m args meth c RX7 cc nl ret) (hpc : pc + 3 = pc') {c1 : Nat} (hk : zV Y c1 = 6) (hdg : decode cc pc = .ok (.getfield 207, 3)) (kk : zWo Y p l e R s m args below meth c nl k n kq σ lv (.int (i32 (σ.1 c1 6)) :: rest) pc' (o)) : zWo Y p l e R s m args below meth c nl k n kq σ lv (.ref (zad Y c1) :: rest) pc (o) := zr_get cx hpc 6 hk (by decide) rfl zin_X5 6 (by decide) zw_163 rfl rfl hdg kk
theorem zp_X7_207 (cx : zCx Y p s m args meth c RX7 cc nl ret) (hpc : pc + 3 = pc') {c1 : Nat} (hk : zV Y c1 = 6) {x : Int} (hdg : decode cc pc = .ok (.putfield 207, 3)) (kk : zWo Y p l e R s m args below meth c nl k n kq (zwr σ c1 6 x) lv (rest) pc' (o)) : zWo Y p l e R s m args below meth c nl k n kq σ lv (.int (i32 x) :: .ref (zad Y c1) :: rest) pc (o) := zr_put cx hpc 6 hk (by decide) rfl zin_X5 tyX5 tyX5_ok nmX5 6 (by decide) zw_163 rfl rfl (by decide +kernel) (Nat.le_of_ble_eq_true rfl) (by simp [zfs, zwr]) hdg kk
theorem zg_X7_210 (cx : zCx Y p s m args meth c RX7 cc nl ret) (hpc : pc + 3 = pc') {c1 : Nat} (hk : zV Y c1 = 6) (hdg : decode cc pc = .ok (.getfield 210, 3)) (kk : zWo Y p l e R s m args below meth c nl k n kq σ lv (.int (i32 (σ.1 c1 7)) :: rest) pc' (o)) : zWo Y p l e R s m args below meth c nl k n kq σ lv (.ref (zad Y c1) :: rest) pc (o) := zr_get cx hpc 6 hk (by decide) rfl zin_X5 7 (by decide) zw_165 rfl rfl hdg kk
theorem zp_X7_210 (cx : zCx Y p s m args meth c RX7 cc nl ret) (hpc : pc + 3 = pc') {c1 : Nat} (hk : zV Y c1 = 6) {x : Int} (hdg : decode cc pc = .ok (.putfield 210, 3)) (kk : zWo Y p l e R s m args below meth c nl k n kq (zwr σ c1 7 x) lv (rest) pc' (o)) : zWo Y p l e R s m args below meth c nl k n kq σ lv (.int (i32 x) :: .ref (zad Y c1) :: rest) pc (o) := zr_put cx hpc 6 hk (by decide) rfl zin_X5 tyX5 tyX5_ok nmX5 7 (by decide) zw_165 rfl rfl (by decide +kernel) (Nat.le_of_ble_eq_true rfl) (by simp [zfs, zwr]) hdg kk
theorem zg_X7_213 (cx : zCx Y p s m args meth c RX7 cc nl ret) (hpc : pc + 3 = pc') {c1 : Nat} (hk : zV Y c1 = 7) (hdg : decode cc pc = .ok (.getfield 213, 3)) (kk : zWo Y p l e R s m args below meth c nl k n kq σ lv (.int (i32 (σ.1 c1 7)) :: rest) pc' (o)) : zWo Y p l e R s m args below meth c nl k n kq σ lv (.ref (zad Y c1) :: rest) pc (o) := zr_get cx hpc 7 hk (by decide) rfl zin_X6 7 (by decide) zw_204 rfl rfl hdg kk
theorem zp_X7_213 (cx : zCx Y p s m args meth c RX7 cc nl ret) (hpc : pc + 3 = pc') {c1 : Nat} (hk : zV Y c1 = 7) {x : Int} (hdg : decode cc pc = .ok (.putfield 213, 3)) (kk : zWo Y p l e R s m args below meth c nl k n kq (zwr σ c1 7 x) lv (rest) pc' (o)) : zWo Y p l e R s m args below meth c nl k n kq σ lv (.int (i32 x) :: .ref (zad Y c1) :: rest) pc (o) := zr_put cx hpc 7 hk (by decide) rfl zin_X6 tyX6 tyX6_ok nmX6 7 (by decide) zw_204 rfl rfl (by decide +kernel) (Nat.le_of_ble_eq_true rfl) (by simp [zfs, zwr]) hdg kk
theorem zg_X7_233 (cx : zCx Y p s m args meth c RX7 cc nl ret) (hpc : pc + 3 = pc') {c1 : Nat} (hk : zV Y c1 = 3) (hdg : decode cc pc = .ok (.getfield 233, 3)) (kk : zWo Y p l e R s m args below meth c nl k n kq σ lv (.int (i32 (σ.1 c1 0)) :: rest) pc' (o)) : zWo Y p l e R s m args below meth c nl k n kq σ lv (.ref (zad Y c1) :: rest) pc (o) := zr_get cx hpc 3 hk (by decide) rfl zin_X2 0 (by decide) zw_247 rfl rfl hdg kk
theorem zp_X7_233 (cx : zCx Y p s m args meth c RX7 cc nl ret) (hpc : pc + 3 = pc') {c1 : Nat} (hk : zV Y c1 = 3) {x : Int} (hdg : decode cc pc = .ok (.putfield 233, 3)) (kk : zWo Y p l e R s m args below meth c nl k n kq (zwr σ c1 0 x) lv (rest) pc' (o)) : zWo Y p l e R s m args below meth c nl k n kq σ lv (.int (i32 x) :: .ref (zad Y c1) :: rest) pc (o) := zr_put cx hpc 3 hk (by decide) rfl zin_X2 tyX2 tyX2_ok nmX2 0 (by decide) zw_247 rfl rfl (by decide +kernel) (Nat.le_of_ble_eq_true rfl) (by simp [zfs, zwr]) hdg kk
theorem zg_X7_324 (cx : zCx Y p s m args meth c RX7 cc nl ret) (hpc : pc + 3 = pc') {c1 : Nat} (hk : zV Y c1 = 6) (hdg : decode cc pc = .ok (.getfield 324, 3)) (kk : zWo Y p l e R s m args below meth c nl k n kq σ lv (.int (i32 (σ.1 c1 4)) :: rest) pc' (o)) : zWo Y p l e R s m args below meth c nl k n kq σ lv (.ref (zad Y c1) :: rest) pc (o) := zr_get cx hpc 6 hk (by decide) rfl zin_X5 4 (by decide) zw_159 rfl rfl hdg kk
theorem zp_X7_324 (cx : zCx Y p s m args meth c RX7 cc nl ret) (hpc : pc + 3 = pc') {c1 : Nat} (hk : zV Y c1 = 6) {x : Int} (hdg : decode cc pc = .ok (.putfield 324, 3)) (kk : zWo Y p l e R s m args below meth c nl k n kq (zwr σ c1 4 x) lv (rest) pc' (o)) : zWo Y p l e R s m args below meth c nl k n kq σ lv (.int (i32 x) :: .ref (zad Y c1) :: rest) pc (o) := zr_put cx hpc 6 hk (by decide) rfl zin_X5 tyX5 tyX5_ok nmX5 4 (by decide) zw_159 rfl rfl (by decide +kernel) (Nat.le_of_ble_eq_true rfl) (by simp [zfs, zwr]) hdg kk
theorem zg_X7_327 (cx : zCx Y p s m args meth c RX7 cc nl ret) (hpc : pc + 3 = pc') {c1 c2 : Nat} (hk : zV Y c1 = 7) (h2 : c1 + 10 = c2) (hdg : decode cc pc = .ok (.getfield 327, 3)) (kk : zWo Y p l e R s m args below meth c nl k n kq σ lv (.ref (zad Y c2) :: rest) pc' (o)) : zWo Y p l e R s m args below meth c nl k n kq σ lv (.ref (zad Y c1) :: rest) pc (o) := by
  subst h2
  exact zr_get cx hpc 7 hk (by decide) rfl zin_X6 11 (by decide) zw_211 rfl rfl hdg kk
theorem zg_X7_351 (cx : zCx Y p s m args meth c RX7 cc nl ret) (hpc : pc + 3 = pc') {c1 c2 : Nat} (hk : zV Y c1 = 1) (h2 : c1 + 1 = c2) (hdg : decode cc pc = .ok (.getfield 351, 3)) (kk : zWo Y p l e R s m args below meth c nl k n kq σ lv (.ref (zad Y c2) :: rest) pc' (o)) : zWo Y p l e R s m args below meth c nl k n kq σ lv (.ref (zad Y c1) :: rest) pc (o) := by
  subst h2
  exact zr_get cx hpc 1 hk (by decide) rfl zin_X0 1 (by decide) zw_66 rfl rfl hdg kk
theorem zg_X7_354 (cx : zCx Y p s m args meth c RX7 cc nl ret) (hpc : pc + 3 = pc') {c1 c2 : Nat} (hk : zV Y c1 = 7) (h2 : c1 + 1 = c2) (hdg : decode cc pc = .ok (.getfield 354, 3)) (kk : zWo Y p l e R s m args below meth c nl k n kq σ lv (.ref (zad Y c2) :: rest) pc' (o)) : zWo Y p l e R s m args below meth c nl k n kq σ lv (.ref (zad Y c1) :: rest) pc (o) := by
  subst h2
  exact zr_get cx hpc 7 hk (by decide) rfl zin_X6 0 (by decide) zw_190 rfl rfl hdg kk
theorem zg_X7_357 (cx : zCx Y p s m args meth c RX7 cc nl ret) (hpc : pc + 3 = pc') {c1 c2 : Nat} (hk : zV Y c1 = 7) (h2 : c1 + 2 = c2) (hdg : decode cc pc = .ok (.getfield 357, 3)) (kk : zWo Y p l e R s m args below meth c nl k n kq σ lv (.ref (zad Y c2) :: rest) pc' (o)) : zWo Y p l e R s m args below meth c nl k n kq σ lv (.ref (zad Y c1) :: rest) pc (o) := by
  subst h2
  exact zr_get cx hpc 7 hk (by decide) rfl zin_X6 1 (by decide) zw_192 rfl rfl hdg kk
theorem zg_X7_366 (cx : zCx Y p s m args meth c RX7 cc nl ret) (hpc : pc + 3 = pc') {c1 c2 : Nat} (hk : zV Y c1 = 4) (h2 : c1 + 1 = c2) (hdg : decode cc pc = .ok (.getfield 366, 3)) (kk : zWo Y p l e R s m args below meth c nl k n kq σ lv (.ref (zad Y c2) :: rest) pc' (o)) : zWo Y p l e R s m args below meth c nl k n kq σ lv (.ref (zad Y c1) :: rest) pc (o) := by
  subst h2
  exact zr_get cx hpc 4 hk (by decide) rfl zin_X3 1 (by decide) zw_104 rfl rfl hdg kk
theorem zg_X7_369 (cx : zCx Y p s m args meth c RX7 cc nl ret) (hpc : pc + 3 = pc') {c1 c2 : Nat} (hk : zV Y c1 = 4) (h2 : c1 + 2 = c2) (hdg : decode cc pc = .ok (.getfield 369, 3)) (kk : zWo Y p l e R s m args below meth c nl k n kq σ lv (.ref (zad Y c2) :: rest) pc' (o)) : zWo Y p l e R s m args below meth c nl k n kq σ lv (.ref (zad Y c1) :: rest) pc (o) := by
  subst h2
  exact zr_get cx hpc 4 hk (by decide) rfl zin_X3 2 (by decide) zw_107 rfl rfl hdg kk
theorem zg_X7_372 (cx : zCx Y p s m args meth c RX7 cc nl ret) (hpc : pc + 3 = pc') {c1 c2 : Nat} (hk : zV Y c1 = 7) (h2 : c1 + 5 = c2) (hdg : decode cc pc = .ok (.getfield 372, 3)) (kk : zWo Y p l e R s m args below meth c nl k n kq σ lv (.ref (zad Y c2) :: rest) pc' (o)) : zWo Y p l e R s m args below meth c nl k n kq σ lv (.ref (zad Y c1) :: rest) pc (o) := by
  subst h2
  exact zr_get cx hpc 7 hk (by decide) rfl zin_X6 4 (by decide) zw_198 rfl rfl hdg kk
theorem zg_X7_381 (cx : zCx Y p s m args meth c RX7 cc nl ret) (hpc : pc + 3 = pc') {c1 c2 : Nat} (hk : zV Y c1 = 2) (h2 : c1 + 1 = c2) (hdg : decode cc pc = .ok (.getfield 381, 3)) (kk : zWo Y p l e R s m args below meth c nl k n kq σ lv (.ref (zad Y c2) :: rest) pc' (o)) : zWo Y p l e R s m args below meth c nl k n kq σ lv (.ref (zad Y c1) :: rest) pc (o) := by
  subst h2
  exact zr_get cx hpc 2 hk (by decide) rfl zin_X1 1 (by decide) zw_131 rfl rfl hdg kk
theorem zg_X7_382 (cx : zCx Y p s m args meth c RX7 cc nl ret) (hpc : pc + 3 = pc') {c1 c2 : Nat} (hk : zV Y c1 = 2) (h2 : c1 + 2 = c2) (hdg : decode cc pc = .ok (.getfield 382, 3)) (kk : zWo Y p l e R s m args below meth c nl k n kq σ lv (.ref (zad Y c2) :: rest) pc' (o)) : zWo Y p l e R s m args below meth c nl k n kq σ lv (.ref (zad Y c1) :: rest) pc (o) := by
  subst h2
  exact zr_get cx hpc 2 hk (by decide) rfl zin_X1 2 (by decide) zw_134 rfl rfl hdg kk
theorem zg_X7_385 (cx : zCx Y p s m args meth c RX7 cc nl ret) (hpc : pc + 3 = pc') {c1 c2 : Nat} (hk : zV Y c1 = 4) (h2 : c1 + 3 = c2) (hdg : decode cc pc = .ok (.getfield 385, 3)) (kk : zWo Y p l e R s m args below meth c nl k n kq σ lv (.ref (zad Y c2) :: rest) pc' (o)) : zWo Y p l e R s m args below meth c nl k n kq σ lv (.ref (zad Y c1) :: rest) pc (o) := by
  subst h2
  exact zr_get cx hpc 4 hk (by decide) rfl zin_X3 3 (by decide) zw_110 rfl rfl hdg kk
theorem zg_X7_391 (cx : zCx Y p s m args meth c RX7 cc nl ret) (hpc : pc + 3 = pc') {c1 c2 : Nat} (hk : zV Y c1 = 7) (h2 : c1 + 3 = c2) (hdg : decode cc pc = .ok (.getfield 391, 3)) (kk : zWo Y p l e R s m args below meth c nl k n kq σ lv (.ref (zad Y c2) :: rest) pc' (o)) : zWo Y p l e R s m args below meth c nl k n kq σ lv (.ref (zad Y c1) :: rest) pc (o) := by
  subst h2
  exact zr_get cx hpc 7 hk (by decide) rfl zin_X6 2 (by decide) zw_194 rfl rfl hdg kk
theorem zg_X7_394 (cx : zCx Y p s m args meth c RX7 cc nl ret) (hpc : pc + 3 = pc') {c1 c2 : Nat} (hk : zV Y c1 = 7) (h2 : c1 + 4 = c2) (hdg : decode cc pc = .ok (.getfield 394, 3)) (kk : zWo Y p l e R s m args below meth c nl k n kq σ lv (.ref (zad Y c2) :: rest) pc' (o)) : zWo Y p l e R s m args below meth c nl k n kq σ lv (.ref (zad Y c1) :: rest) pc (o) := by
  subst h2
  exact zr_get cx hpc 7 hk (by decide) rfl zin_X6 3 (by decide) zw_196 rfl rfl hdg kk
theorem zg_X7_397 (cx : zCx Y p s m args meth c RX7 cc nl ret) (hpc : pc + 3 = pc') {c1 c2 : Nat} (hk : zV Y c1 = 7) (h2 : c1 + 7 = c2) (hdg : decode cc pc = .ok (.getfield 397, 3)) (kk : zWo Y p l e R s m args below meth c nl k n kq σ lv (.ref (zad Y c2) :: rest) pc' (o)) : zWo Y p l e R s m args below meth c nl k n kq σ lv (.ref (zad Y c1) :: rest) pc (o) := by
  subst h2
  exact zr_get cx hpc 7 hk (by decide) rfl zin_X6 8 (by decide) zw_206 rfl rfl hdg kk
theorem zg_X0_9 (cx : zCx Y p s m args meth c RX0 cc nl ret) (hpc : pc + 3 = pc') {c1 : Nat} (hk : zV Y c1 = 1) (hdg : decode cc pc = .ok (.getfield 9, 3)) (kk : zWo Y p l e R s m args below meth c nl k n kq σ lv (.int (i32 (σ.1 c1 0)) :: rest) pc' (o)) : zWo Y p l e R s m args below meth c nl k n kq σ lv (.ref (zad Y c1) :: rest) pc (o) := zr_get cx hpc 1 hk (by decide) rfl zin_X0 0 (by decide) zw_61 rfl rfl hdg kk
theorem zp_X0_9 (cx : zCx Y p s m args meth c RX0 cc nl ret) (hpc : pc + 3 = pc') {c1 : Nat} (hk : zV Y c1 = 1) {x : Int} (hdg : decode cc pc = .ok (.putfield 9, 3)) (kk : zWo Y p l e R s m args below meth c nl k n kq (zwr σ c1 0 x) lv (rest) pc' (o)) : zWo Y p l e R s m args below meth c nl k n kq σ lv (.int (i32 x) :: .ref (zad Y c1) :: rest) pc (o) := zr_put cx hpc 1 hk (by decide) rfl zin_X0 tyX0 tyX0_ok nmX0 0 (by decide) zw_61 rfl rfl (by decide +kernel) (Nat.le_of_ble_eq_true rfl) (by simp [zfs, zwr]) hdg kk
theorem zg_X0_15 (cx : zCx Y p s m args meth c RX0 cc nl ret) (hpc : pc + 3 = pc') {c1 c2 : Nat} (hk : zV Y c1 = 1) (h2 : c1 + 1 = c2) (hdg : decode cc pc = .ok (.getfield 15, 3)) (kk : zWo Y p l e R s m args below meth c nl k n kq σ lv (.ref (zad Y c2) :: rest) pc' (o)) : zWo Y p l e R s m args below meth c nl k n kq σ lv (.ref (zad Y c1) :: rest) pc (o) := by
  subst h2
  exact zr_get cx hpc 1 hk (by decide) rfl zin_X0 1 (by decide) zw_64 rfl rfl hdg kk
theorem zg_X0_19 (cx : zCx Y p s m args meth c RX0 cc nl ret) (hpc : pc + 3 = pc') {c1 c2 : Nat} (hk : zV Y c1 = 1) (h2 : c1 + 2 = c2) (hdg : decode cc pc = .ok (.getfield 19, 3)) (kk : zWo Y p l e R s m args below meth c nl k n kq σ lv (.ref (zad Y c2) :: rest) pc' (o)) : zWo Y p l e R s m args below meth c nl k n kq σ lv (.ref (zad Y c1) :: rest) pc (o) := by
  subst h2
  exact zr_get cx hpc 1 hk (by decide) rfl zin_X0 2 (by decide) zw_67 rfl rfl hdg kk
theorem zg_X0_23 (cx : zCx Y p s m args meth c RX0 cc nl ret) (hpc : pc + 3 = pc') {c1 c2 : Nat} (hk : zV Y c1 = 1) (h2 : c1 + 3 = c2) (hdg : decode cc pc = .ok (.getfield 23, 3)) (kk : zWo Y p l e R s m args below meth c nl k n kq σ lv (.ref (zad Y c2) :: rest) pc' (o)) : zWo Y p l e R s m args below meth c nl k n kq σ lv (.ref (zad Y c1) :: rest) pc (o) := by
  subst h2
  exact zr_get cx hpc 1 hk (by decide) rfl zin_X0 3 (by decide) zw_69 rfl rfl hdg kk
theorem zg_X0_26 (cx : zCx Y p s m args meth c RX0 cc nl ret) (hpc : pc + 3 = pc') {c1 c2 : Nat} (hk : zV Y c1 = 1) (h2 : c1 + 4 = c2) (hdg : decode cc pc = .ok (.getfield 26, 3)) (kk : zWo Y p l e R s m args below meth c nl k n kq σ lv (.ref (zad Y c2) :: rest) pc' (o)) : zWo Y p l e R s m args below meth c nl k n kq σ lv (.ref (zad Y c1) :: rest) pc (o) := by
  subst h2
  exact zr_get cx hpc 1 hk (by decide) rfl zin_X0 4 (by decide) zw_72 rfl rfl hdg kk
theorem zg_X0_29 (cx : zCx Y p s m args meth c RX0 cc nl ret) (hpc : pc + 3 = pc') {c1 c2 : Nat} (hk : zV Y c1 = 1) (h2 : c1 + 5 = c2) (hdg : decode cc pc = .ok (.getfield 29, 3)) (kk : zWo Y p l e R s m args below meth c nl k n kq σ lv (.ref (zad Y c2) :: rest) pc' (o)) : zWo Y p l e R s m args below meth c nl k n kq σ lv (.ref (zad Y c1) :: rest) pc (o) := by
  subst h2
  exact zr_get cx hpc 1 hk (by decide) rfl zin_X0 5 (by decide) zw_75 rfl rfl hdg kk
theorem zg_X1_9 (cx : zCx Y p s m args meth c RX1 cc nl ret) (hpc : pc + 3 = pc') {c1 : Nat} (hk : zV Y c1 = 2) (hdg : decode cc pc = .ok (.getfield 9, 3)) (kk : zWo Y p l e R s m args below meth c nl k n kq σ lv (.int (i32 (σ.1 c1 0)) :: rest) pc' (o)) : zWo Y p l e R s m args below meth c nl k n kq σ lv (.ref (zad Y c1) :: rest) pc (o) := zr_get cx hpc 2 hk (by decide) rfl zin_X1 0 (by decide) zw_126 rfl rfl hdg kk
theorem zp_X1_9 (cx : zCx Y p s m args meth c RX1 cc nl ret) (hpc : pc + 3 = pc') {c1 : Nat} (hk : zV Y c1 = 2) {x : Int} (hdg : decode cc pc = .ok (.putfield 9, 3)) (kk : zWo Y p l e R s m args below meth c nl k n kq (zwr σ c1 0 x) lv (rest) pc' (o)) : zWo Y p l e R s m args below meth c nl k n kq σ lv (.int (i32 x) :: .ref (zad Y c1) :: rest) pc (o) := zr_put cx hpc 2 hk (by decide) rfl zin_X1 tyX1 tyX1_ok nmX1 0 (by decide) zw_126 rfl rfl (by decide +kernel) (Nat.le_of_ble_eq_true rfl) (by simp [zfs, zwr]) hdg kk
theorem zg_X1_15 (cx : zCx Y p s m args meth c RX1 cc nl ret) (hpc : pc + 3 = pc') {c1 c2 : Nat} (hk : zV Y c1 = 2) (h2 : c1 + 1 = c2) (hdg : decode cc pc = .ok (.getfield 15, 3)) (kk : zWo Y p l e R s m args below meth c nl k n kq σ lv (.ref (zad Y c2) :: rest) pc' (o)) : zWo Y p l e R s m args below meth c nl k n kq σ lv (.ref (zad Y c1) :: rest) pc (o) := by
  subst h2
  exact zr_get cx hpc 2 hk (by decide) rfl zin_X1 1 (by decide) zw_129 rfl rfl hdg kk
theorem zg_X1_19 (cx : zCx Y p s m args meth c RX1 cc nl ret) (hpc : pc + 3 = pc') {c1 c2 : Nat} (hk : zV Y c1 = 2) (h2 : c1 + 2 = c2) (hdg : decode cc pc = .ok (.getfield 19, 3)) (kk : zWo Y p l e R s m args below meth c nl k n kq σ lv (.ref (zad Y c2) :: rest) pc' (o)) : zWo Y p l e R s m args below meth c nl k n kq σ lv (.ref (zad Y c1) :: rest) pc (o) := by
  subst h2
  exact zr_get cx hpc 2 hk (by decide) rfl zin_X1 2 (by decide) zw_132 rfl rfl hdg kk
theorem zg_X1_22 (cx : zCx Y p s m args meth c RX1 cc nl ret) (hpc : pc + 3 = pc') {c1 c2 : Nat} (hk : zV Y c1 = 2) (h2 : c1 + 3 = c2) (hdg : decode cc pc = .ok (.getfield 22, 3)) (kk : zWo Y p l e R s m args below meth c nl k n kq σ lv (.ref (zad Y c2) :: rest) pc' (o)) : zWo Y p l e R s m args below meth c nl k n kq σ lv (.ref (zad Y c1) :: rest) pc (o) := by
  subst h2
  exact zr_get cx hpc 2 hk (by decide) rfl zin_X1 3 (by decide) zw_135 rfl rfl hdg kk
theorem zg_X2_9 (cx : zCx Y p s m args meth c RX2 cc nl ret) (hpc : pc + 3 = pc') {c1 : Nat} (hk : zV Y c1 = 3) (hdg : decode cc pc = .ok (.getfield 9, 3)) (kk : zWo Y p l e R s m args below meth c nl k n kq σ lv (.int (i32 (σ.1 c1 0)) :: rest) pc' (o)) : zWo Y p l e R s m args below meth c nl k n kq σ lv (.ref (zad Y c1) :: rest) pc (o) := zr_get cx hpc 3 hk (by decide) rfl zin_X2 0 (by decide) zw_246 rfl rfl hdg kk
theorem zp_X2_9 (cx : zCx Y p s m args meth c RX2 cc nl ret) (hpc : pc + 3 = pc') {c1 : Nat} (hk : zV Y c1 = 3) {x : Int} (hdg : decode cc pc = .ok (.putfield 9, 3)) (kk : zWo Y p l e R s m args below meth c nl k n kq (zwr σ c1 0 x) lv (rest) pc' (o)) : zWo Y p l e R s m args below meth c nl k n kq σ lv (.int (i32 x) :: .ref (zad Y c1) :: rest) pc (o) := zr_put cx hpc 3 hk (by decide) rfl zin_X2 tyX2 tyX2_ok nmX2 0 (by decide) zw_246 rfl rfl (by decide +kernel) (Nat.le_of_ble_eq_true rfl) (by simp [zfs, zwr]) hdg kk
theorem zg_X2_17 (cx : zCx Y p s m args meth c RX2 cc nl ret) (hpc : pc + 3 = pc') {c1 c2 : Nat} (hk : zV Y c1 = 3) (h2 : c1 + 1 = c2) (hdg : decode cc pc = .ok (.getfield 17, 3)) (kk : zWo Y p l e R s m args below meth c nl k n kq σ lv (.ref (zad Y c2) :: rest) pc' (o)) : zWo Y p l e R s m args below meth c nl k n kq σ lv (.ref (zad Y c1) :: rest) pc (o) := by
  subst h2
  exact zr_get cx hpc 3 hk (by decide) rfl zin_X2 1 (by decide) zw_248 rfl rfl hdg kk
theorem zg_X3_9 (cx : zCx Y p s m args meth c RX3 cc nl ret) (hpc : pc + 3 = pc') {c1 : Nat} (hk : zV Y c1 = 4) (hdg : decode cc pc = .ok (.getfield 9, 3)) (kk : zWo Y p l e R s m args below meth c nl k n kq σ lv (.int (i32 (σ.1 c1 0)) :: rest) pc' (o)) : zWo Y p l e R s m args below meth c nl k n kq σ lv (.ref (zad Y c1) :: rest) pc (o) := zr_get cx hpc 4 hk (by decide) rfl zin_X3 0 (by decide) zw_99 rfl rfl hdg kk
theorem zp_X3_9 (cx : zCx Y p s m args meth c RX3 cc nl ret) (hpc : pc + 3 = pc') {c1 : Nat} (hk : zV Y c1 = 4) {x : Int} (hdg : decode cc pc = .ok (.putfield 9, 3)) (kk : zWo Y p l e R s m args below meth c nl k n kq (zwr σ c1 0 x) lv (rest) pc' (o)) : zWo Y p l e R s m args below meth c nl k n kq σ lv (.int (i32 x) :: .ref (zad Y c1) :: rest) pc (o) := zr_put cx hpc 4 hk (by decide) rfl zin_X3 tyX3 tyX3_ok nmX3 0 (by decide) zw_99 rfl rfl (by decide +kernel) (Nat.le_of_ble_eq_true rfl) (by simp [zfs, zwr]) hdg kk
theorem zg_X3_15 (cx : zCx Y p s m args meth c RX3 cc nl ret) (hpc : pc + 3 = pc') {c1 c2 : Nat} (hk : zV Y c1 = 4) (h2 : c1 + 1 = c2) (hdg : decode cc pc = .ok (.getfield 15, 3)) (kk : zWo Y p l e R s m args below meth c nl k n kq σ lv (.ref (zad Y c2) :: rest) pc' (o)) : zWo Y p l e R s m args below meth c nl k n kq σ lv (.ref (zad Y c1) :: rest) pc (o) := by
  subst h2
  exact zr_get cx hpc 4 hk (by decide) rfl zin_X3 1 (by decide) zw_102 rfl rfl hdg kk
theorem zg_X3_19 (cx : zCx Y p s m args meth c RX3 cc nl ret) (hpc : pc + 3 = pc') {c1 c2 : Nat} (hk : zV Y c1 = 4) (h2 : c1 + 2 = c2) (hdg : decode cc pc = .ok (.getfield 19, 3)) (kk : zWo Y p l e R s m args below meth c nl k n kq σ lv (.ref (zad Y c2) :: rest) pc' (o)) : zWo Y p l e R s m args below meth c nl k n kq σ lv (.ref (zad Y c1) :: rest) pc (o) := by
  subst h2
  exact zr_get cx hpc 4 hk (by decide) rfl zin_X3 2 (by decide) zw_105 rfl rfl hdg kk
theorem zg_X3_22 (cx : zCx Y p s m args meth c RX3 cc nl ret) (hpc : pc + 3 = pc') {c1 c2 : Nat} (hk : zV Y c1 = 4) (h2 : c1 + 3 = c2) (hdg : decode cc pc = .ok (.getfield 22, 3)) (kk : zWo Y p l e R s m args below meth c nl k n kq σ lv (.ref (zad Y c2) :: rest) pc' (o)) : zWo Y p l e R s m args below meth c nl k n kq σ lv (.ref (zad Y c1) :: rest) pc (o) := by
  subst h2
  exact zr_get cx hpc 4 hk (by decide) rfl zin_X3 3 (by decide) zw_108 rfl rfl hdg kk
theorem zg_X4_11 (cx : zCx Y p s m args meth c RX4 cc nl ret) (hpc : pc + 3 = pc') {c1 c2 : Nat} (hk : zV Y c1 = 5) (h2 : c1 + 1 = c2) (hdg : decode cc pc = .ok (.getfield 11, 3)) (kk : zWo Y p l e R s m args below meth c nl k n kq σ lv (.ref (zad Y c2) :: rest) pc' (o)) : zWo Y p l e R s m args below meth c nl k n kq σ lv (.ref (zad Y c1) :: rest) pc (o) := by
  subst h2
  exact zr_get cx hpc 5 hk (by decide) rfl zin_X4 0 (by decide) zw_260 rfl rfl hdg kk
theorem zg_X4_15 (cx : zCx Y p s m args meth c RX4 cc nl ret) (hpc : pc + 3 = pc') {c1 : Nat} (hk : zV Y c1 = 5) (hdg : decode cc pc = .ok (.getfield 15, 3)) (kk : zWo Y p l e R s m args below meth c nl k n kq σ lv (.int (i32 (σ.1 c1 1)) :: rest) pc' (o)) : zWo Y p l e R s m args below meth c nl k n kq σ lv (.ref (zad Y c1) :: rest) pc (o) := zr_get cx hpc 5 hk (by decide) rfl zin_X4 1 (by decide) zw_261 rfl rfl hdg kk
theorem zp_X4_15 (cx : zCx Y p s m args meth c RX4 cc nl ret) (hpc : pc + 3 = pc') {c1 : Nat} (hk : zV Y c1 = 5) {x : Int} (hdg : decode cc pc = .ok (.putfield 15, 3)) (kk : zWo Y p l e R s m args below meth c nl k n kq (zwr σ c1 1 x) lv (rest) pc' (o)) : zWo Y p l e R s m args below meth c nl k n kq σ lv (.int (i32 x) :: .ref (zad Y c1) :: rest) pc (o) := zr_put cx hpc 5 hk (by decide) rfl zin_X4 tyX4 tyX4_ok nmX4 1 (by decide) zw_261 rfl rfl (by decide +kernel) (Nat.le_of_ble_eq_true rfl) (by simp [zfs, zwr]) hdg kk
theorem zg_X4_19 (cx : zCx Y p s m args meth c RX4 cc nl ret) (hpc : pc + 3 = pc') {c1 : Nat} (hk : zV Y c1 = 5) (hdg : decode cc pc = .ok (.getfield 19, 3)) (kk : zWo Y p l e R s m args below meth c nl k n kq σ lv (.int (i32 (σ.1 c1 2)) :: rest) pc' (o)) : zWo Y p l e R s m args below meth c nl k n kq σ lv (.ref (zad Y c1) :: rest) pc (o) := zr_get cx hpc 5 hk (by decide) rfl zin_X4 2 (by decide) zw_262 rfl rfl hdg kk
theorem zp_X4_19 (cx : zCx Y p s m args meth c RX4 cc nl ret) (hpc : pc + 3 = pc') {c1 : Nat} (hk : zV Y c1 = 5) {x : Int} (hdg : decode cc pc = .ok (.putfield 19, 3)) (kk : zWo Y p l e R s m args below meth c nl k n kq (zwr σ c1 2 x) lv (rest) pc' (o)) : zWo Y p l e R s m args below meth c nl k n kq σ lv (.int (i32 x) :: .ref (zad Y c1) :: rest) pc (o) := zr_put cx hpc 5 hk (by decide) rfl zin_X4 tyX4 tyX4_ok nmX4 2 (by decide) zw_262 rfl rfl (by decide +kernel) (Nat.le_of_ble_eq_true rfl) (by simp [zfs, zwr]) hdg kk
theorem zg_X5_12 (cx : zCx Y p s m args meth c RX5 cc nl ret) (hpc : pc + 3 = pc') {c1 c2 : Nat} (hk : zV Y c1 = 6) (h2 : c1 + 1 = c2) (hdg : decode cc pc = .ok (.getfield 12, 3)) (kk : zWo Y p l e R s m args below meth c nl k n kq σ lv (.ref (zad Y c2) :: rest) pc' (o)) : zWo Y p l e R s m args below meth c nl k n kq σ lv (.ref (zad Y c1) :: rest) pc (o) := by
  subst h2
  exact zr_get cx hpc 6 hk (by decide) rfl zin_X5 0 (by decide) zw_147 rfl rfl hdg kk
theorem zg_X5_21 (cx : zCx Y p s m args meth c RX5 cc nl ret) (hpc : pc + 3 = pc') {c1 c2 : Nat} (hk : zV Y c1 = 6) (h2 : c1 + 7 = c2) (hdg : decode cc pc = .ok (.getfield 21, 3)) (kk : zWo Y p l e R s m args below meth c nl k n kq σ lv (.ref (zad Y c2) :: rest) pc' (o)) : zWo Y p l e R s m args below meth c nl k n kq σ lv (.ref (zad Y c1) :: rest) pc (o) := by
  subst h2
  exact zr_get cx hpc 6 hk (by decide) rfl zin_X5 1 (by decide) zw_150 rfl rfl hdg kk
theorem zg_X5_28 (cx : zCx Y p s m args meth c RX5 cc nl ret) (hpc : pc + 3 = pc') {c1 c2 : Nat} (hk : zV Y c1 = 6) (h2 : c1 + 11 = c2) (hdg : decode cc pc = .ok (.getfield 28, 3)) (kk : zWo Y p l e R s m args below meth c nl k n kq σ lv (.ref (zad Y c2) :: rest) pc' (o)) : zWo Y p l e R s m args below meth c nl k n kq σ lv (.ref (zad Y c1) :: rest) pc (o) := by
  subst h2
  exact zr_get cx hpc 6 hk (by decide) rfl zin_X5 2 (by decide) zw_153 rfl rfl hdg kk
theorem zg_X5_32 (cx : zCx Y p s m args meth c RX5 cc nl ret) (hpc : pc + 3 = pc') {c1 : Nat} (hk : zV Y c1 = 6) (hdg : decode cc pc = .ok (.getfield 32, 3)) (kk : zWo Y p l e R s m args below meth c nl k n kq σ lv (.int (i32 (σ.1 c1 3)) :: rest) pc' (o)) : zWo Y p l e R s m args below meth c nl k n kq σ lv (.ref (zad Y c1) :: rest) pc (o) := zr_get cx hpc 6 hk (by decide) rfl zin_X5 3 (by decide) zw_156 rfl rfl hdg kk
theorem zp_X5_32 (cx : zCx Y p s m args meth c RX5 cc nl ret) (hpc : pc + 3 = pc') {c1 : Nat} (hk : zV Y c1 = 6) {x : Int} (hdg : decode cc pc = .ok (.putfield 32, 3)) (kk : zWo Y p l e R s m args below meth c nl k n kq (zwr σ c1 3 x) lv (rest) pc' (o)) : zWo Y p l e R s m args below meth c nl k n kq σ lv (.int (i32 x) :: .ref (zad Y c1) :: rest) pc (o) := zr_put cx hpc 6 hk (by decide) rfl zin_X5 tyX5 tyX5_ok nmX5 3 (by decide) zw_156 rfl rfl (by decide +kernel) (Nat.le_of_ble_eq_true rfl) (by simp [zfs, zwr]) hdg kk
theorem zg_X5_36 (cx : zCx Y p s m args meth c RX5 cc nl ret) (hpc : pc + 3 = pc') {c1 : Nat} (hk : zV Y c1 = 6) (hdg : decode cc pc = .ok (.getfield 36, 3)) (kk : zWo Y p l e R s m args below meth c nl k n kq σ lv (.int (i32 (σ.1 c1 4)) :: rest) pc' (o)) : zWo Y p l e R s m args below meth c nl k n kq σ lv (.ref (zad Y c1) :: rest) pc (o) := zr_get cx hpc 6 hk (by decide) rfl zin_X5 4 (by decide) zw_158 rfl rfl hdg kk
theorem zp_X5_36 (cx : zCx Y p s m args meth c RX5 cc nl ret) (hpc : pc + 3 = pc') {c1 : Nat} (hk : zV Y c1 = 6) {x : Int} (hdg : decode cc pc = .ok (.putfield 36, 3)) (kk : zWo Y p l e R s m args below meth c nl k n kq (zwr σ c1 4 x) lv (rest) pc' (o)) : zWo Y p l e R s m args below meth c nl k n kq σ lv (.int (i32 x) :: .ref (zad Y c1) :: rest) pc (o) := zr_put cx hpc 6 hk (by decide) rfl zin_X5 tyX5 tyX5_ok nmX5 4 (by decide) zw_158 rfl rfl (by decide +kernel) (Nat.le_of_ble_eq_true rfl) (by simp [zfs, zwr]) hdg kk
theorem zg_X5_39 (cx : zCx Y p s m args meth c RX5 cc nl ret) (hpc : pc + 3 = pc') {c1 : Nat} (hk : zV Y c1 = 6) (hdg : decode cc pc = .ok (.getfield 39, 3)) (kk : zWo Y p l e R s m args below meth c nl k n kq σ lv (.int (i32 (σ.1 c1 5)) :: rest) pc' (o)) : zWo Y p l e R s m args below meth c nl k n kq σ lv (.ref (zad Y c1) :: rest) pc (o) := zr_get cx hpc 6 hk (by decide) rfl zin_X5 5 (by decide) zw_160 rfl rfl hdg kk
theorem zp_X5_39 (cx : zCx Y p s m args meth c RX5 cc nl ret) (hpc : pc + 3 = pc') {c1 : Nat} (hk : zV Y c1 = 6) {x : Int} (hdg : decode cc pc = .ok (.putfield 39, 3)) (kk : zWo Y p l e R s m args below meth c nl k n kq (zwr σ c1 5 x) lv (rest) pc' (o)) : zWo Y p l e R s m args below meth c nl k n kq σ lv (.int (i32 x) :: .ref (zad Y c1) :: rest) pc (o) := zr_put cx hpc 6 hk (by decide) rfl zin_X5 tyX5 tyX5_ok nmX5 5 (by decide) zw_160 rfl rfl (by decide +kernel) (Nat.le_of_ble_eq_true rfl) (by simp [zfs, zwr]) hdg kk
theorem zg_X5_42 (cx : zCx Y p s m args meth c RX5 cc nl ret) (hpc : pc + 3 = pc') {c1 : Nat} (hk : zV Y c1 = 6) (hdg : decode cc pc = .ok (.getfield 42, 3)) (kk : zWo Y p l e R s m args below meth c nl k n kq σ lv (.int (i32 (σ.1 c1 6)) :: rest) pc' (o)) : zWo Y p l e R s m args below meth c nl k n kq σ lv (.ref (zad Y c1) :: rest) pc (o) := zr_get cx hpc 6 hk (by decide) rfl zin_X5 6 (by decide) zw_162 rfl rfl hdg kk
theorem zp_X5_42 (cx : zCx Y p s m args meth c RX5 cc nl ret) (hpc : pc + 3 = pc') {c1 : Nat} (hk : zV Y c1 = 6) {x : Int} (hdg : decode cc pc = .ok (.putfield 42, 3)) (kk : zWo Y p l e R s m args below meth c nl k n kq (zwr σ c1 6 x) lv (rest) pc' (o)) : zWo Y p l e R s m args below meth c nl k n kq σ lv (.int (i32 x) :: .ref (zad Y c1) :: rest) pc (o) := zr_put cx hpc 6 hk (by decide) rfl zin_X5 tyX5 tyX5_ok nmX5 6 (by decide) zw_162 rfl rfl (by decide +kernel) (Nat.le_of_ble_eq_true rfl) (by simp [zfs, zwr]) hdg kk
theorem zg_X5_45 (cx : zCx Y p s m args meth c RX5 cc nl ret) (hpc : pc + 3 = pc') {c1 : Nat} (hk : zV Y c1 = 6) (hdg : decode cc pc = .ok (.getfield 45, 3)) (kk : zWo Y p l e R s m args below meth c nl k n kq σ lv (.int (i32 (σ.1 c1 7)) :: rest) pc' (o)) : zWo Y p l e R s m args below meth c nl k n kq σ lv (.ref (zad Y c1) :: rest) pc (o) := zr_get cx hpc 6 hk (by decide) rfl zin_X5 7 (by decide) zw_164 rfl rfl hdg kk
theorem zp_X5_45 (cx : zCx Y p s m args meth c RX5 cc nl ret) (hpc : pc + 3 = pc') {c1 : Nat} (hk : zV Y c1 = 6) {x : Int} (hdg : decode cc pc = .ok (.putfield 45, 3)) (kk : zWo Y p l e R s m args below meth c nl k n kq (zwr σ c1 7 x) lv (rest) pc' (o)) : zWo Y p l e R s m args below meth c nl k n kq σ lv (.int (i32 x) :: .ref (zad Y c1) :: rest) pc (o) := zr_put cx hpc 6 hk (by decide) rfl zin_X5 tyX5 tyX5_ok nmX5 7 (by decide) zw_164 rfl rfl (by decide +kernel) (Nat.le_of_ble_eq_true rfl) (by simp [zfs, zwr]) hdg kk
theorem zg_X6_9 (cx : zCx Y p s m args meth c RX6 cc nl ret) (hpc : pc + 3 = pc') {c1 c2 : Nat} (hk : zV Y c1 = 7) (h2 : c1 + 1 = c2) (hdg : decode cc pc = .ok (.getfield 9, 3)) (kk : zWo Y p l e R s m args below meth c nl k n kq σ lv (.ref (zad Y c2) :: rest) pc' (o)) : zWo Y p l e R s m args below meth c nl k n kq σ lv (.ref (zad Y c1) :: rest) pc (o) := by
  subst h2
  exact zr_get cx hpc 7 hk (by decide) rfl zin_X6 0 (by decide) zw_189 rfl rfl hdg kk
theorem zg_X6_15 (cx : zCx Y p s m args meth c RX6 cc nl ret) (hpc : pc + 3 = pc') {c1 c2 : Nat} (hk : zV Y c1 = 7) (h2 : c1 + 2 = c2) (hdg : decode cc pc = .ok (.getfield 15, 3)) (kk : zWo Y p l e R s m args below meth c nl k n kq σ lv (.ref (zad Y c2) :: rest) pc' (o)) : zWo Y p l e R s m args below meth c nl k n kq σ lv (.ref (zad Y c1) :: rest) pc (o) := by
  subst h2
  exact zr_get cx hpc 7 hk (by decide) rfl zin_X6 1 (by decide) zw_191 rfl rfl hdg kk
theorem zg_X6_18 (cx : zCx Y p s m args meth c RX6 cc nl ret) (hpc : pc + 3 = pc') {c1 c2 : Nat} (hk : zV Y c1 = 7) (h2 : c1 + 3 = c2) (hdg : decode cc pc = .ok (.getfield 18, 3)) (kk : zWo Y p l e R s m args below meth c nl k n kq σ lv (.ref (zad Y c2) :: rest) pc' (o)) : zWo Y p l e R s m args below meth c nl k n kq σ lv (.ref (zad Y c1) :: rest) pc (o) := by
  subst h2
  exact zr_get cx hpc 7 hk (by decide) rfl zin_X6 2 (by decide) zw_193 rfl rfl hdg kk
theorem zg_X6_22 (cx : zCx Y p s m args meth c RX6 cc nl ret) (hpc : pc + 3 = pc') {c1 c2 : Nat} (hk : zV Y c1 = 7) (h2 : c1 + 4 = c2) (hdg : decode cc pc = .ok (.getfield 22, 3)) (kk : zWo Y p l e R s m args below meth c nl k n kq σ lv (.ref (zad Y c2) :: rest) pc' (o)) : zWo Y p l e R s m args below meth c nl k n kq σ lv (.ref (zad Y c1) :: rest) pc (o) := by
  subst h2
  exact zr_get cx hpc 7 hk (by decide) rfl zin_X6 3 (by decide) zw_195 rfl rfl hdg kk
theorem zg_X6_25 (cx : zCx Y p s m args meth c RX6 cc nl ret) (hpc : pc + 3 = pc') {c1 c2 : Nat} (hk : zV Y c1 = 7) (h2 : c1 + 5 = c2) (hdg : decode cc pc = .ok (.getfield 25, 3)) (kk : zWo Y p l e R s m args below meth c nl k n kq σ lv (.ref (zad Y c2) :: rest) pc' (o)) : zWo Y p l e R s m args below meth c nl k n kq σ lv (.ref (zad Y c1) :: rest) pc (o) := by
  subst h2
  exact zr_get cx hpc 7 hk (by decide) rfl zin_X6 4 (by decide) zw_197 rfl rfl hdg kk
theorem zg_X6_28 (cx : zCx Y p s m args meth c RX6 cc nl ret) (hpc : pc + 3 = pc') {c1 c2 : Nat} (hk : zV Y c1 = 7) (h2 : c1 + 6 = c2) (hdg : decode cc pc = .ok (.getfield 28, 3)) (kk : zWo Y p l e R s m args below meth c nl k n kq σ lv (.ref (zad Y c2) :: rest) pc' (o)) : zWo Y p l e R s m args below meth c nl k n kq σ lv (.ref (zad Y c1) :: rest) pc (o) := by
  subst h2
  exact zr_get cx hpc 7 hk (by decide) rfl zin_X6 5 (by decide) zw_199 rfl rfl hdg kk
theorem zg_X6_31 (cx : zCx Y p s m args meth c RX6 cc nl ret) (hpc : pc + 3 = pc') {c1 : Nat} (hk : zV Y c1 = 7) (hdg : decode cc pc = .ok (.getfield 31, 3)) (kk : zWo Y p l e R s m args below meth c nl k n kq σ lv (.int (i32 (σ.1 c1 6)) :: rest) pc' (o)) : zWo Y p l e R s m args below meth c nl k n kq σ lv (.ref (zad Y c1) :: rest) pc (o) := zr_get cx hpc 7 hk (by decide) rfl zin_X6 6 (by decide) zw_201 rfl rfl hdg kk
theorem zp_X6_31 (cx : zCx Y p s m args meth c RX6 cc nl ret) (hpc : pc + 3 = pc') {c1 : Nat} (hk : zV Y c1 = 7) {x : Int} (hdg : decode cc pc = .ok (.putfield 31, 3)) (kk : zWo Y p l e R s m args below meth c nl k n kq (zwr σ c1 6 x) lv (rest) pc' (o)) : zWo Y p l e R s m args below meth c nl k n kq σ lv (.int (i32 x) :: .ref (zad Y c1) :: rest) pc (o) := zr_put cx hpc 7 hk (by decide) rfl zin_X6 tyX6 tyX6_ok nmX6 6 (by decide) zw_201 rfl rfl (by decide +kernel) (Nat.le_of_ble_eq_true rfl) (by simp [zfs, zwr]) hdg kk
theorem zg_X6_35 (cx : zCx Y p s m args meth c RX6 cc nl ret) (hpc : pc + 3 = pc') {c1 : Nat} (hk : zV Y c1 = 7) (hdg : decode cc pc = .ok (.getfield 35, 3)) (kk : zWo Y p l e R s m args below meth c nl k n kq σ lv (.int (i32 (σ.1 c1 7)) :: rest) pc' (o)) : zWo Y p l e R s m args below meth c nl k n kq σ lv (.ref (zad Y c1) :: rest) pc (o) := zr_get cx hpc 7 hk (by decide) rfl zin_X6 7 (by decide) zw_203 rfl rfl hdg kk
theorem zp_X6_35 (cx : zCx Y p s m args meth c RX6 cc nl ret) (hpc : pc + 3 = pc') {c1 : Nat} (hk : zV Y c1 = 7) {x : Int} (hdg : decode cc pc = .ok (.putfield 35, 3)) (kk : zWo Y p l e R s m args below meth c nl k n kq (zwr σ c1 7 x) lv (rest) pc' (o)) : zWo Y p l e R s m args below meth c nl k n kq σ lv (.int (i32 x) :: .ref (zad Y c1) :: rest) pc (o) := zr_put cx hpc 7 hk (by decide) rfl zin_X6 tyX6 tyX6_ok nmX6 7 (by decide) zw_203 rfl rfl (by decide +kernel) (Nat.le_of_ble_eq_true rfl) (by simp [zfs, zwr]) hdg kk
theorem zg_X6_38 (cx : zCx Y p s m args meth c RX6 cc nl ret) (hpc : pc + 3 = pc') {c1 c2 : Nat} (hk : zV Y c1 = 7) (h2 : c1 + 7 = c2) (hdg : decode cc pc = .ok (.getfield 38, 3)) (kk : zWo Y p l e R s m args below meth c nl k n kq σ lv (.ref (zad Y c2) :: rest) pc' (o)) : zWo Y p l e R s m args below meth c nl k n kq σ lv (.ref (zad Y c1) :: rest) pc (o) := by
  subst h2
  exact zr_get cx hpc 7 hk (by decide) rfl zin_X6 8 (by decide) zw_205 rfl rfl hdg kk
theorem zg_X6_41 (cx : zCx Y p s m args meth c RX6 cc nl ret) (hpc : pc + 3 = pc') {c1 c2 : Nat} (hk : zV Y c1 = 7) (h2 : c1 + 8 = c2) (hdg : decode cc pc = .ok (.getfield 41, 3)) (kk : zWo Y p l e R s m args below meth c nl k n kq σ lv (.ref (zad Y c2) :: rest) pc' (o)) : zWo Y p l e R s m args below meth c nl k n kq σ lv (.ref (zad Y c1) :: rest) pc (o) := by
  subst h2
  exact zr_get cx hpc 7 hk (by decide) rfl zin_X6 9 (by decide) zw_207 rfl rfl hdg kk
theorem zg_X6_44 (cx : zCx Y p s m args meth c RX6 cc nl ret) (hpc : pc + 3 = pc') {c1 c2 : Nat} (hk : zV Y c1 = 7) (h2 : c1 + 9 = c2) (hdg : decode cc pc = .ok (.getfield 44, 3)) (kk : zWo Y p l e R s m args below meth c nl k n kq σ lv (.ref (zad Y c2) :: rest) pc' (o)) : zWo Y p l e R s m args below meth c nl k n kq σ lv (.ref (zad Y c1) :: rest) pc (o) := by
  subst h2
  exact zr_get cx hpc 7 hk (by decide) rfl zin_X6 10 (by decide) zw_209 rfl rfl hdg kk
theorem zg_X6_47 (cx : zCx Y p s m args meth c RX6 cc nl ret) (hpc : pc + 3 = pc') {c1 c2 : Nat} (hk : zV Y c1 = 7) (h2 : c1 + 10 = c2) (hdg : decode cc pc = .ok (.getfield 47, 3)) (kk : zWo Y p l e R s m args below meth c nl k n kq σ lv (.ref (zad Y c2) :: rest) pc' (o)) : zWo Y p l e R s m args below meth c nl k n kq σ lv (.ref (zad Y c1) :: rest) pc (o) := by
  subst h2
  exact zr_get cx hpc 7 hk (by decide) rfl zin_X6 11 (by decide) zw_210 rfl rfl hdg kk
theorem zg_X6_50 (cx : zCx Y p s m args meth c RX6 cc nl ret) (hpc : pc + 3 = pc') {c1 c2 : Nat} (hk : zV Y c1 = 6) (h2 : c1 + 1 = c2) (hdg : decode cc pc = .ok (.getfield 50, 3)) (kk : zWo Y p l e R s m args below meth c nl k n kq σ lv (.ref (zad Y c2) :: rest) pc' (o)) : zWo Y p l e R s m args below meth c nl k n kq σ lv (.ref (zad Y c1) :: rest) pc (o) := by
  subst h2
  exact zr_get cx hpc 6 hk (by decide) rfl zin_X5 0 (by decide) zw_148 rfl rfl hdg kk
theorem zg_X6_56 (cx : zCx Y p s m args meth c RX6 cc nl ret) (hpc : pc + 3 = pc') {c1 : Nat} (hk : zV Y c1 = 1) (hdg : decode cc pc = .ok (.getfield 56, 3)) (kk : zWo Y p l e R s m args below meth c nl k n kq σ lv (.int (i32 (σ.1 c1 0)) :: rest) pc' (o)) : zWo Y p l e R s m args below meth c nl k n kq σ lv (.ref (zad Y c1) :: rest) pc (o) := zr_get cx hpc 1 hk (by decide) rfl zin_X0 0 (by decide) zw_62 rfl rfl hdg kk
theorem zp_X6_56 (cx : zCx Y p s m args meth c RX6 cc nl ret) (hpc : pc + 3 = pc') {c1 : Nat} (hk : zV Y c1 = 1) {x : Int} (hdg : decode cc pc = .ok (.putfield 56, 3)) (kk : zWo Y p l e R s m args below meth c nl k n kq (zwr σ c1 0 x) lv (rest) pc' (o)) : zWo Y p l e R s m args below meth c nl k n kq σ lv (.int (i32 x) :: .ref (zad Y c1) :: rest) pc (o) := zr_put cx hpc 1 hk (by decide) rfl zin_X0 tyX0 tyX0_ok nmX0 0 (by decide) zw_62 rfl rfl (by decide +kernel) (Nat.le_of_ble_eq_true rfl) (by simp [zfs, zwr]) hdg kk
theorem zg_X6_69 (cx : zCx Y p s m args meth c RX6 cc nl ret) (hpc : pc + 3 = pc') {c1 c2 : Nat} (hk : zV Y c1 = 6) (h2 : c1 + 7 = c2) (hdg : decode cc pc = .ok (.getfield 69, 3)) (kk : zWo Y p l e R s m args below meth c nl k n kq σ lv (.ref (zad Y c2) :: rest) pc' (o)) : zWo Y p l e R s m args below meth c nl k n kq σ lv (.ref (zad Y c1) :: rest) pc (o) := by
  subst h2
  exact zr_get cx hpc 6 hk (by decide) rfl zin_X5 1 (by decide) zw_151 rfl rfl hdg kk
theorem zg_X6_77 (cx : zCx Y p s m args meth c RX6 cc nl ret) (hpc : pc + 3 = pc') {c1 c2 : Nat} (hk : zV Y c1 = 6) (h2 : c1 + 11 = c2) (hdg : decode cc pc = .ok (.getfield 77, 3)) (kk : zWo Y p l e R s m args below meth c nl k n kq σ lv (.ref (zad Y c2) :: rest) pc' (o)) : zWo Y p l e R s m args below meth c nl k n kq σ lv (.ref (zad Y c1) :: rest) pc (o) := by
  subst h2
  exact zr_get cx hpc 6 hk (by decide) rfl zin_X5 2 (by decide) zw_154 rfl rfl hdg kk
theorem zg_X6_112 (cx : zCx Y p s m args meth c RX6 cc nl ret) (hpc : pc + 3 = pc') {c1 c2 : Nat} (hk : zV Y c1 = 1) (h2 : c1 + 4 = c2) (hdg : decode cc pc = .ok (.getfield 112, 3)) (kk : zWo Y p l e R s m args below meth c nl k n kq σ lv (.ref (zad Y c2) :: rest) pc' (o)) : zWo Y p l e R s m args below meth c nl k n kq σ lv (.ref (zad Y c1) :: rest) pc (o) := by
  subst h2
  exact zr_get cx hpc 1 hk (by decide) rfl zin_X0 4 (by decide) zw_74 rfl rfl hdg kk
theorem zg_X6_115 (cx : zCx Y p s m args meth c RX6 cc nl ret) (hpc : pc + 3 = pc') {c1 c2 : Nat} (hk : zV Y c1 = 1) (h2 : c1 + 1 = c2) (hdg : decode cc pc = .ok (.getfield 115, 3)) (kk : zWo Y p l e R s m args below meth c nl k n kq σ lv (.ref (zad Y c2) :: rest) pc' (o)) : zWo Y p l e R s m args below meth c nl k n kq σ lv (.ref (zad Y c1) :: rest) pc (o) := by
  subst h2
  exact zr_get cx hpc 1 hk (by decide) rfl zin_X0 1 (by decide) zw_65 rfl rfl hdg kk
theorem zg_X6_118 (cx : zCx Y p s m args meth c RX6 cc nl ret) (hpc : pc + 3 = pc') {c1 c2 : Nat} (hk : zV Y c1 = 1) (h2 : c1 + 3 = c2) (hdg : decode cc pc = .ok (.getfield 118, 3)) (kk : zWo Y p l e R s m args below meth c nl k n kq σ lv (.ref (zad Y c2) :: rest) pc' (o)) : zWo Y p l e R s m args below meth c nl k n kq σ lv (.ref (zad Y c1) :: rest) pc (o) := by
  subst h2
  exact zr_get cx hpc 1 hk (by decide) rfl zin_X0 3 (by decide) zw_71 rfl rfl hdg kk
theorem zg_X6_124 (cx : zCx Y p s m args meth c RX6 cc nl ret) (hpc : pc + 3 = pc') {c1 c2 : Nat} (hk : zV Y c1 = 1) (h2 : c1 + 5 = c2) (hdg : decode cc pc = .ok (.getfield 124, 3)) (kk : zWo Y p l e R s m args below meth c nl k n kq σ lv (.ref (zad Y c2) :: rest) pc' (o)) : zWo Y p l e R s m args below meth c nl k n kq σ lv (.ref (zad Y c1) :: rest) pc (o) := by
  subst h2
  exact zr_get cx hpc 1 hk (by decide) rfl zin_X0 5 (by decide) zw_77 rfl rfl hdg kk
theorem zg_X6_127 (cx : zCx Y p s m args meth c RX6 cc nl ret) (hpc : pc + 3 = pc') {c1 : Nat} (hk : zV Y c1 = 4) (hdg : decode cc pc = .ok (.getfield 127, 3)) (kk : zWo Y p l e R s m args below meth c nl k n kq σ lv (.int (i32 (σ.1 c1 0)) :: rest) pc' (o)) : zWo Y p l e R s m args below meth c nl k n kq σ lv (.ref (zad Y c1) :: rest) pc (o) := zr_get cx hpc 4 hk (by decide) rfl zin_X3 0 (by decide) zw_101 rfl rfl hdg kk
theorem zp_X6_127 (cx : zCx Y p s m args meth c RX6 cc nl ret) (hpc : pc + 3 = pc') {c1 : Nat} (hk : zV Y c1 = 4) {x : Int} (hdg : decode cc pc = .ok (.putfield 127, 3)) (kk : zWo Y p l e R s m args below meth c nl k n kq (zwr σ c1 0 x) lv (rest) pc' (o)) : zWo Y p l e R s m args below meth c nl k n kq σ lv (.int (i32 x) :: .ref (zad Y c1) :: rest) pc (o) := zr_put cx hpc 4 hk (by decide) rfl zin_X3 tyX3 tyX3_ok nmX3 0 (by decide) zw_101 rfl rfl (by decide +kernel) (Nat.le_of_ble_eq_true rfl) (by simp [zfs, zwr]) hdg kk
theorem zg_X6_132 (cx : zCx Y p s m args meth c RX6 cc nl ret) (hpc : pc + 3 = pc') {c1 c2 : Nat} (hk : zV Y c1 = 4) (h2 : c1 + 1 = c2) (hdg : decode cc pc = .ok (.getfield 132, 3)) (kk : zWo Y p l e R s m args below meth c nl k n kq σ lv (.ref (zad Y c2) :: rest) pc' (o)) : zWo Y p l e R s m args below meth c nl k n kq σ lv (.ref (zad Y c1) :: rest) pc (o) := by
  subst h2
  exact zr_get cx hpc 4 hk (by decide) rfl zin_X3 1 (by decide) zw_103 rfl rfl hdg kk
theorem zg_X6_135 (cx : zCx Y p s m args meth c RX6 cc nl ret) (hpc : pc + 3 = pc') {c1 c2 : Nat} (hk : zV Y c1 = 4) (h2 : c1 + 3 = c2) (hdg : decode cc pc = .ok (.getfield 135, 3)) (kk : zWo Y p l e R s m args below meth c nl k n kq σ lv (.ref (zad Y c2) :: rest) pc' (o)) : zWo Y p l e R s m args below meth c nl k n kq σ lv (.ref (zad Y c1) :: rest) pc (o) := by
  subst h2
  exact zr_get cx hpc 4 hk (by decide) rfl zin_X3 3 (by decide) zw_109 rfl rfl hdg kk
theorem zg_X6_138 (cx : zCx Y p s m args meth c RX6 cc nl ret) (hpc : pc + 3 = pc') {c1 c2 : Nat} (hk : zV Y c1 = 4) (h2 : c1 + 2 = c2) (hdg : decode cc pc = .ok (.getfield 138, 3)) (kk : zWo Y p l e R s m args below meth c nl k n kq σ lv (.ref (zad Y c2) :: rest) pc' (o)) : zWo Y p l e R s m args below meth c nl k n kq σ lv (.ref (zad Y c1) :: rest) pc (o) := by
  subst h2
  exact zr_get cx hpc 4 hk (by decide) rfl zin_X3 2 (by decide) zw_106 rfl rfl hdg kk
theorem zg_X6_141 (cx : zCx Y p s m args meth c RX6 cc nl ret) (hpc : pc + 3 = pc') {c1 : Nat} (hk : zV Y c1 = 2) (hdg : decode cc pc = .ok (.getfield 141, 3)) (kk : zWo Y p l e R s m args below meth c nl k n kq σ lv (.int (i32 (σ.1 c1 0)) :: rest) pc' (o)) : zWo Y p l e R s m args below meth c nl k n kq σ lv (.ref (zad Y c1) :: rest) pc (o) := zr_get cx hpc 2 hk (by decide) rfl zin_X1 0 (by decide) zw_128 rfl rfl hdg kk
theorem zp_X6_141 (cx : zCx Y p s m args meth c RX6 cc nl ret) (hpc : pc + 3 = pc') {c1 : Nat} (hk : zV Y c1 = 2) {x : Int} (hdg : decode cc pc = .ok (.putfield 141, 3)) (kk : zWo Y p l e R s m args below meth c nl k n kq (zwr σ c1 0 x) lv (rest) pc' (o)) : zWo Y p l e R s m args below meth c nl k n kq σ lv (.int (i32 x) :: .ref (zad Y c1) :: rest) pc (o) := zr_put cx hpc 2 hk (by decide) rfl zin_X1 tyX1 tyX1_ok nmX1 0 (by decide) zw_128 rfl rfl (by decide +kernel) (Nat.le_of_ble_eq_true rfl) (by simp [zfs, zwr]) hdg kk
theorem zg_X6_144 (cx : zCx Y p s m args meth c RX6 cc nl ret) (hpc : pc + 3 = pc') {c1 c2 : Nat} (hk : zV Y c1 = 2) (h2 : c1 + 1 = c2) (hdg : decode cc pc = .ok (.getfield 144, 3)) (kk : zWo Y p l e R s m args below meth c nl k n kq σ lv (.ref (zad Y c2) :: rest) pc' (o)) : zWo Y p l e R s m args below meth c nl k n kq σ lv (.ref (zad Y c1) :: rest) pc (o) := by
  subst h2
  exact zr_get cx hpc 2 hk (by decide) rfl zin_X1 1 (by decide) zw_130 rfl rfl hdg kk
theorem zg_X6_145 (cx : zCx Y p s m args meth c RX6 cc nl ret) (hpc : pc + 3 = pc') {c1 c2 : Nat} (hk : zV Y c1 = 2) (h2 : c1 + 2 = c2) (hdg : decode cc pc = .ok (.getfield 145, 3)) (kk : zWo Y p l e R s m args below meth c nl k n kq σ lv (.ref (zad Y c2) :: rest) pc' (o)) : zWo Y p l e R s m args below meth c nl k n kq σ lv (.ref (zad Y c1) :: rest) pc (o) := by
  subst h2
  exact zr_get cx hpc 2 hk (by decide) rfl zin_X1 2 (by decide) zw_133 rfl rfl hdg kk
theorem zg_X6_148 (cx : zCx Y p s m args meth c RX6 cc nl ret) (hpc : pc + 3 = pc') {c1 c2 : Nat} (hk : zV Y c1 = 2) (h2 : c1 + 3 = c2) (hdg : decode cc pc = .ok (.getfield 148, 3)) (kk : zWo Y p l e R s m args below meth c nl k n kq σ lv (.ref (zad Y c2) :: rest) pc' (o)) : zWo Y p l e R s m args below meth c nl k n kq σ lv (.ref (zad Y c1) :: rest) pc (o) := by
  subst h2
  exact zr_get cx hpc 2 hk (by decide) rfl zin_X1 3 (by decide) zw_137 rfl rfl hdg kk
def zmn (x y : Int) : Int := if i32 y < i32 x then y else x
theorem zr_mmin (cx : zCx Y p s m args meth c RX6 cc nl ret) (hpc : pc + 3 = pc') {x y : Int} (hf : 1 ≤ R.frames) (hlo : (rest.map fun v => v.category).sum + 13 ≤ R.locals) (hkn : k ≤ R.cells ∧ n ≤ R.slots) (hdg : decode cc pc = .ok (.invokestatic 92, 3)) (kk : zWo Y p l e R s m args below meth c nl k n kq σ lv (.int (i32 (zmn x y)) :: rest) pc' (o)) : zWo Y p l e R s m args below meth c nl k n kq σ lv (.int (i32 y) :: .int (i32 x) :: rest) pc (o) := by
  subst hpc
  obtain ⟨hx, hb, hml, hr0, hlk, hown, hts, hok, hz⟩ := id cx
  intro r hr H locs ls hH hS hl
  have h := kk r hr H locs ls hH hS hl
  have e : i32 (zmn x y) = if i32 y < i32 x then i32 y else i32 x := by unfold zmn; split <;> rfl
  rw [e] at h
  exact va_mmin hx hb (hml.trans hl.1.symm) hown (hts _ zw_577) (hts _ zw_578) (hts _ zw_40) (hts _ zw_579) hf hlo hkn.1 hkn.2 hdg h
def zfu : Nat := 2000
end ZFIELDS
