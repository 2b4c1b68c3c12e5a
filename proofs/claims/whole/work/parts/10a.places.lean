/-- the references that never change -/
def R0 (i k : Nat) : Nat := match i, k with
  | 1, 0 => 2
  | 1, 1 => 4
  | 1, 4 => 18
  | 1, 5 => 23
  | 1, 7 => 24
  | 1, 8 => 31
  | 1, 9 => 38
  | 1, 10 => 48
  | 1, 11 => 49
  | 2, 0 => 3
  | 4, 0 => 5
  | 6, 0 => 7
  | 6, 1 => 8
  | 6, 2 => 9
  | 6, 3 => 10
  | 6, 4 => 11
  | 12, 0 => 13
  | 12, 1 => 14
  | 12, 2 => 15
  | 12, 3 => 16
  | 12, 4 => 17
  | 18, 0 => 19
  | 18, 1 => 20
  | 18, 2 => 21
  | 18, 3 => 22
  | 23, 0 => 54
  | 23, 1 => 61
  | 24, 0 => 25
  | 24, 1 => 28
  | 25, 1 => 26
  | 25, 2 => 27
  | 28, 1 => 29
  | 28, 2 => 30
  | 31, 0 => 32
  | 31, 1 => 35
  | 32, 1 => 33
  | 32, 2 => 34
  | 35, 1 => 36
  | 35, 2 => 37
  | 38, 0 => 39
  | 38, 1 => 40
  | 38, 2 => 41
  | 41, 0 => 42
  | 41, 1 => 45
  | 42, 1 => 43
  | 42, 2 => 44
  | 45, 1 => 46
  | 45, 2 => 47
  | 49, 0 => 50
  | 49, 1 => 51
  | 49, 2 => 52
  | 49, 3 => 53
  | 54, 0 => 55
  | 54, 1 => 56
  | 56, 0 => 57
  | 56, 1 => 58
  | 56, 2 => 59
  | 56, 3 => 60
  | 61, 0 => 62
  | 61, 1 => 63
  | 63, 0 => 64
  | 63, 1 => 65
  | 63, 2 => 66
  | 63, 3 => 67
  | 68, 1 => 69
  | 68, 2 => 70
  | 68, 3 => 71
  | 68, 4 => 72
  | 68, 5 => 73
  | 68, 6 => 74
  | 68, 7 => 75
  | 68, 8 => 76
  | 68, 9 => 77
  | 68, 10 => 78
  | 68, 11 => 79
  | 68, 12 => 80
  | 68, 15 => 81
  | 68, 16 => 82
  | 68, 17 => 83
  | 68, 18 => 84
  | 68, 23 => 85
  | 68, 30 => 86
  | 68, 31 => 87
  | 68, 32 => 88
  | 68, 33 => 89
  | _, _ => 0
def SR (R : RR) : Prop := ∀ i k, ¬ (i = 1 ∧ (k = 2 ∨ k = 3)) → R i k = R0 i k
theorem SR_u2 {R R1 : RR} {x : Nat} (h : SR R) (e : R1 = up2 R 1 2 x) : SR R1 := fun i k hi => by rw [e]; unfold up2; rw [if_neg (fun q => hi ⟨q.1, Or.inl q.2⟩)]; exact h i k hi
theorem SR_u3 {R R1 : RR} {x : Nat} (h : SR R) (e : R1 = up2 R 1 3 x) : SR R1 := fun i k hi => by rw [e]; unfold up2; rw [if_neg (fun q => hi ⟨q.1, Or.inr q.2⟩)]; exact h i k hi
theorem r_1_0 {R : RR} (h : SR R) : R 1 0 = 2 := h 1 0 (by decide)
theorem r_1_1 {R : RR} (h : SR R) : R 1 1 = 4 := h 1 1 (by decide)
theorem r_1_4 {R : RR} (h : SR R) : R 1 4 = 18 := h 1 4 (by decide)
theorem r_1_5 {R : RR} (h : SR R) : R 1 5 = 23 := h 1 5 (by decide)
theorem r_1_7 {R : RR} (h : SR R) : R 1 7 = 24 := h 1 7 (by decide)
theorem r_1_8 {R : RR} (h : SR R) : R 1 8 = 31 := h 1 8 (by decide)
theorem r_1_9 {R : RR} (h : SR R) : R 1 9 = 38 := h 1 9 (by decide)
theorem r_1_10 {R : RR} (h : SR R) : R 1 10 = 48 := h 1 10 (by decide)
theorem r_1_11 {R : RR} (h : SR R) : R 1 11 = 49 := h 1 11 (by decide)
theorem r_2_0 {R : RR} (h : SR R) : R 2 0 = 3 := h 2 0 (by decide)
theorem r_4_0 {R : RR} (h : SR R) : R 4 0 = 5 := h 4 0 (by decide)
theorem r_6_0 {R : RR} (h : SR R) : R 6 0 = 7 := h 6 0 (by decide)
theorem r_6_1 {R : RR} (h : SR R) : R 6 1 = 8 := h 6 1 (by decide)
theorem r_6_2 {R : RR} (h : SR R) : R 6 2 = 9 := h 6 2 (by decide)
theorem r_6_3 {R : RR} (h : SR R) : R 6 3 = 10 := h 6 3 (by decide)
theorem r_6_4 {R : RR} (h : SR R) : R 6 4 = 11 := h 6 4 (by decide)
theorem r_12_0 {R : RR} (h : SR R) : R 12 0 = 13 := h 12 0 (by decide)
theorem r_12_1 {R : RR} (h : SR R) : R 12 1 = 14 := h 12 1 (by decide)
theorem r_12_2 {R : RR} (h : SR R) : R 12 2 = 15 := h 12 2 (by decide)
theorem r_12_3 {R : RR} (h : SR R) : R 12 3 = 16 := h 12 3 (by decide)
theorem r_12_4 {R : RR} (h : SR R) : R 12 4 = 17 := h 12 4 (by decide)
theorem r_18_0 {R : RR} (h : SR R) : R 18 0 = 19 := h 18 0 (by decide)
theorem r_18_1 {R : RR} (h : SR R) : R 18 1 = 20 := h 18 1 (by decide)
theorem r_18_2 {R : RR} (h : SR R) : R 18 2 = 21 := h 18 2 (by decide)
theorem r_18_3 {R : RR} (h : SR R) : R 18 3 = 22 := h 18 3 (by decide)
theorem r_23_0 {R : RR} (h : SR R) : R 23 0 = 54 := h 23 0 (by decide)
theorem r_23_1 {R : RR} (h : SR R) : R 23 1 = 61 := h 23 1 (by decide)
theorem r_24_0 {R : RR} (h : SR R) : R 24 0 = 25 := h 24 0 (by decide)
theorem r_24_1 {R : RR} (h : SR R) : R 24 1 = 28 := h 24 1 (by decide)
theorem r_25_1 {R : RR} (h : SR R) : R 25 1 = 26 := h 25 1 (by decide)
theorem r_25_2 {R : RR} (h : SR R) : R 25 2 = 27 := h 25 2 (by decide)
theorem r_28_1 {R : RR} (h : SR R) : R 28 1 = 29 := h 28 1 (by decide)
theorem r_28_2 {R : RR} (h : SR R) : R 28 2 = 30 := h 28 2 (by decide)
theorem r_31_0 {R : RR} (h : SR R) : R 31 0 = 32 := h 31 0 (by decide)
theorem r_31_1 {R : RR} (h : SR R) : R 31 1 = 35 := h 31 1 (by decide)
theorem r_32_1 {R : RR} (h : SR R) : R 32 1 = 33 := h 32 1 (by decide)
theorem r_32_2 {R : RR} (h : SR R) : R 32 2 = 34 := h 32 2 (by decide)
theorem r_35_1 {R : RR} (h : SR R) : R 35 1 = 36 := h 35 1 (by decide)
theorem r_35_2 {R : RR} (h : SR R) : R 35 2 = 37 := h 35 2 (by decide)
theorem r_38_0 {R : RR} (h : SR R) : R 38 0 = 39 := h 38 0 (by decide)
theorem r_38_1 {R : RR} (h : SR R) : R 38 1 = 40 := h 38 1 (by decide)
theorem r_38_2 {R : RR} (h : SR R) : R 38 2 = 41 := h 38 2 (by decide)
theorem r_41_0 {R : RR} (h : SR R) : R 41 0 = 42 := h 41 0 (by decide)
theorem r_41_1 {R : RR} (h : SR R) : R 41 1 = 45 := h 41 1 (by decide)
theorem r_42_1 {R : RR} (h : SR R) : R 42 1 = 43 := h 42 1 (by decide)
theorem r_42_2 {R : RR} (h : SR R) : R 42 2 = 44 := h 42 2 (by decide)
theorem r_45_1 {R : RR} (h : SR R) : R 45 1 = 46 := h 45 1 (by decide)
theorem r_45_2 {R : RR} (h : SR R) : R 45 2 = 47 := h 45 2 (by decide)
theorem r_49_0 {R : RR} (h : SR R) : R 49 0 = 50 := h 49 0 (by decide)
theorem r_49_1 {R : RR} (h : SR R) : R 49 1 = 51 := h 49 1 (by decide)
theorem r_49_2 {R : RR} (h : SR R) : R 49 2 = 52 := h 49 2 (by decide)
theorem r_49_3 {R : RR} (h : SR R) : R 49 3 = 53 := h 49 3 (by decide)
theorem r_54_0 {R : RR} (h : SR R) : R 54 0 = 55 := h 54 0 (by decide)
theorem r_54_1 {R : RR} (h : SR R) : R 54 1 = 56 := h 54 1 (by decide)
theorem r_56_0 {R : RR} (h : SR R) : R 56 0 = 57 := h 56 0 (by decide)
theorem r_56_1 {R : RR} (h : SR R) : R 56 1 = 58 := h 56 1 (by decide)
theorem r_56_2 {R : RR} (h : SR R) : R 56 2 = 59 := h 56 2 (by decide)
theorem r_56_3 {R : RR} (h : SR R) : R 56 3 = 60 := h 56 3 (by decide)
theorem r_61_0 {R : RR} (h : SR R) : R 61 0 = 62 := h 61 0 (by decide)
theorem r_61_1 {R : RR} (h : SR R) : R 61 1 = 63 := h 61 1 (by decide)
theorem r_63_0 {R : RR} (h : SR R) : R 63 0 = 64 := h 63 0 (by decide)
theorem r_63_1 {R : RR} (h : SR R) : R 63 1 = 65 := h 63 1 (by decide)
theorem r_63_2 {R : RR} (h : SR R) : R 63 2 = 66 := h 63 2 (by decide)
theorem r_63_3 {R : RR} (h : SR R) : R 63 3 = 67 := h 63 3 (by decide)
theorem r_68_1 {R : RR} (h : SR R) : R 68 1 = 69 := h 68 1 (by decide)
theorem r_68_2 {R : RR} (h : SR R) : R 68 2 = 70 := h 68 2 (by decide)
theorem r_68_3 {R : RR} (h : SR R) : R 68 3 = 71 := h 68 3 (by decide)
theorem r_68_4 {R : RR} (h : SR R) : R 68 4 = 72 := h 68 4 (by decide)
theorem r_68_5 {R : RR} (h : SR R) : R 68 5 = 73 := h 68 5 (by decide)
theorem r_68_6 {R : RR} (h : SR R) : R 68 6 = 74 := h 68 6 (by decide)
theorem r_68_7 {R : RR} (h : SR R) : R 68 7 = 75 := h 68 7 (by decide)
theorem r_68_8 {R : RR} (h : SR R) : R 68 8 = 76 := h 68 8 (by decide)
theorem r_68_9 {R : RR} (h : SR R) : R 68 9 = 77 := h 68 9 (by decide)
theorem r_68_10 {R : RR} (h : SR R) : R 68 10 = 78 := h 68 10 (by decide)
theorem r_68_11 {R : RR} (h : SR R) : R 68 11 = 79 := h 68 11 (by decide)
theorem r_68_12 {R : RR} (h : SR R) : R 68 12 = 80 := h 68 12 (by decide)
theorem r_68_15 {R : RR} (h : SR R) : R 68 15 = 81 := h 68 15 (by decide)
theorem r_68_16 {R : RR} (h : SR R) : R 68 16 = 82 := h 68 16 (by decide)
theorem r_68_17 {R : RR} (h : SR R) : R 68 17 = 83 := h 68 17 (by decide)
theorem r_68_18 {R : RR} (h : SR R) : R 68 18 = 84 := h 68 18 (by decide)
theorem r_68_23 {R : RR} (h : SR R) : R 68 23 = 85 := h 68 23 (by decide)
theorem r_68_30 {R : RR} (h : SR R) : R 68 30 = 86 := h 68 30 (by decide)
theorem r_68_31 {R : RR} (h : SR R) : R 68 31 = 87 := h 68 31 (by decide)
theorem r_68_32 {R : RR} (h : SR R) : R 68 32 = 88 := h 68 32 (by decide)
theorem r_68_33 {R : RR} (h : SR R) : R 68 33 = 89 := h 68 33 (by decide)
theorem o_1 : isO 89 1 9 := ⟨by decide, by decide, rfl⟩
theorem o_2 : isO 89 2 8 := ⟨by decide, by decide, rfl⟩
theorem a_3 : isA 89 3 1 300 := ⟨by decide, by decide, rfl⟩
theorem o_4 : isO 89 4 5 := ⟨by decide, by decide, rfl⟩
theorem a_5 : isA 89 5 1 2 := ⟨by decide, by decide, rfl⟩
theorem o_6 : isO 89 6 6 := ⟨by decide, by decide, rfl⟩
theorem a_7 : isA 89 7 2 20 := ⟨by decide, by decide, rfl⟩
theorem a_8 : isA 89 8 1 20 := ⟨by decide, by decide, rfl⟩
theorem a_9 : isA 89 9 1 20 := ⟨by decide, by decide, rfl⟩
theorem a_10 : isA 89 10 1 10 := ⟨by decide, by decide, rfl⟩
theorem a_11 : isA 89 11 1 10 := ⟨by decide, by decide, rfl⟩
theorem o_12 : isO 89 12 6 := ⟨by decide, by decide, rfl⟩
theorem a_13 : isA 89 13 2 20 := ⟨by decide, by decide, rfl⟩
theorem a_14 : isA 89 14 1 20 := ⟨by decide, by decide, rfl⟩
theorem a_15 : isA 89 15 1 20 := ⟨by decide, by decide, rfl⟩
theorem a_16 : isA 89 16 1 10 := ⟨by decide, by decide, rfl⟩
theorem a_17 : isA 89 17 1 10 := ⟨by decide, by decide, rfl⟩
theorem o_18 : isO 89 18 4 := ⟨by decide, by decide, rfl⟩
theorem a_19 : isA 89 19 1 200 := ⟨by decide, by decide, rfl⟩
theorem a_20 : isA 89 20 1 200 := ⟨by decide, by decide, rfl⟩
theorem a_21 : isA 89 21 1 200 := ⟨by decide, by decide, rfl⟩
theorem a_22 : isA 89 22 1 200 := ⟨by decide, by decide, rfl⟩
theorem a_23 : isA 89 23 3 2 := ⟨by decide, by decide, rfl⟩
theorem o_24 : isO 89 24 3 := ⟨by decide, by decide, rfl⟩
theorem o_25 : isO 89 25 2 := ⟨by decide, by decide, rfl⟩
theorem a_26 : isA 89 26 1 10 := ⟨by decide, by decide, rfl⟩
theorem a_27 : isA 89 27 1 10 := ⟨by decide, by decide, rfl⟩
theorem o_28 : isO 89 28 2 := ⟨by decide, by decide, rfl⟩
theorem a_29 : isA 89 29 1 10 := ⟨by decide, by decide, rfl⟩
theorem a_30 : isA 89 30 1 10 := ⟨by decide, by decide, rfl⟩
theorem o_31 : isO 89 31 3 := ⟨by decide, by decide, rfl⟩
theorem o_32 : isO 89 32 2 := ⟨by decide, by decide, rfl⟩
theorem a_33 : isA 89 33 1 10 := ⟨by decide, by decide, rfl⟩
theorem a_34 : isA 89 34 1 10 := ⟨by decide, by decide, rfl⟩
theorem o_35 : isO 89 35 2 := ⟨by decide, by decide, rfl⟩
theorem a_36 : isA 89 36 1 10 := ⟨by decide, by decide, rfl⟩
theorem a_37 : isA 89 37 1 10 := ⟨by decide, by decide, rfl⟩
theorem o_38 : isO 89 38 7 := ⟨by decide, by decide, rfl⟩
theorem a_39 : isA 89 39 1 20 := ⟨by decide, by decide, rfl⟩
theorem a_40 : isA 89 40 1 20 := ⟨by decide, by decide, rfl⟩
theorem o_41 : isO 89 41 3 := ⟨by decide, by decide, rfl⟩
theorem o_42 : isO 89 42 2 := ⟨by decide, by decide, rfl⟩
theorem a_43 : isA 89 43 1 10 := ⟨by decide, by decide, rfl⟩
theorem a_44 : isA 89 44 1 10 := ⟨by decide, by decide, rfl⟩
theorem o_45 : isO 89 45 2 := ⟨by decide, by decide, rfl⟩
theorem a_46 : isA 89 46 1 10 := ⟨by decide, by decide, rfl⟩
theorem a_47 : isA 89 47 1 10 := ⟨by decide, by decide, rfl⟩
theorem o_48 : isO 89 48 0 := ⟨by decide, by decide, rfl⟩
theorem a_49 : isA 89 49 4 4 := ⟨by decide, by decide, rfl⟩
theorem a_50 : isA 89 50 1 3 := ⟨by decide, by decide, rfl⟩
theorem a_51 : isA 89 51 1 3 := ⟨by decide, by decide, rfl⟩
theorem a_52 : isA 89 52 1 3 := ⟨by decide, by decide, rfl⟩
theorem a_53 : isA 89 53 1 3 := ⟨by decide, by decide, rfl⟩
theorem o_54 : isO 89 54 1 := ⟨by decide, by decide, rfl⟩
theorem a_55 : isA 89 55 1 20 := ⟨by decide, by decide, rfl⟩
theorem o_56 : isO 89 56 4 := ⟨by decide, by decide, rfl⟩
theorem a_57 : isA 89 57 1 200 := ⟨by decide, by decide, rfl⟩
theorem a_58 : isA 89 58 1 200 := ⟨by decide, by decide, rfl⟩
theorem a_59 : isA 89 59 1 200 := ⟨by decide, by decide, rfl⟩
theorem a_60 : isA 89 60 1 200 := ⟨by decide, by decide, rfl⟩
theorem o_61 : isO 89 61 1 := ⟨by decide, by decide, rfl⟩
theorem a_62 : isA 89 62 1 20 := ⟨by decide, by decide, rfl⟩
theorem o_63 : isO 89 63 4 := ⟨by decide, by decide, rfl⟩
theorem a_64 : isA 89 64 1 200 := ⟨by decide, by decide, rfl⟩
theorem a_65 : isA 89 65 1 200 := ⟨by decide, by decide, rfl⟩
theorem a_66 : isA 89 66 1 200 := ⟨by decide, by decide, rfl⟩
theorem a_67 : isA 89 67 1 200 := ⟨by decide, by decide, rfl⟩
theorem o_68 : isO 89 68 10 := ⟨by decide, by decide, rfl⟩
theorem a_69 : isA 89 69 1 300 := ⟨by decide, by decide, rfl⟩
theorem a_70 : isA 89 70 1 2 := ⟨by decide, by decide, rfl⟩
theorem a_71 : isA 89 71 1 40 := ⟨by decide, by decide, rfl⟩
theorem a_72 : isA 89 72 1 40 := ⟨by decide, by decide, rfl⟩
theorem a_73 : isA 89 73 1 40 := ⟨by decide, by decide, rfl⟩
theorem a_74 : isA 89 74 1 10 := ⟨by decide, by decide, rfl⟩
theorem a_75 : isA 89 75 1 3 := ⟨by decide, by decide, rfl⟩
theorem a_76 : isA 89 76 1 600 := ⟨by decide, by decide, rfl⟩
theorem a_77 : isA 89 77 1 600 := ⟨by decide, by decide, rfl⟩
theorem a_78 : isA 89 78 1 600 := ⟨by decide, by decide, rfl⟩
theorem a_79 : isA 89 79 1 600 := ⟨by decide, by decide, rfl⟩
theorem a_80 : isA 89 80 1 40 := ⟨by decide, by decide, rfl⟩
theorem a_81 : isA 89 81 1 2 := ⟨by decide, by decide, rfl⟩
theorem a_82 : isA 89 82 1 20 := ⟨by decide, by decide, rfl⟩
theorem a_83 : isA 89 83 1 10 := ⟨by decide, by decide, rfl⟩
theorem a_84 : isA 89 84 1 10 := ⟨by decide, by decide, rfl⟩
theorem a_85 : isA 89 85 1 20 := ⟨by decide, by decide, rfl⟩
theorem a_86 : isA 89 86 1 20 := ⟨by decide, by decide, rfl⟩
theorem a_87 : isA 89 87 1 12 := ⟨by decide, by decide, rfl⟩
theorem a_88 : isA 89 88 1 44 := ⟨by decide, by decide, rfl⟩
theorem a_89 : isA 89 89 1 4 := ⟨by decide, by decide, rfl⟩
