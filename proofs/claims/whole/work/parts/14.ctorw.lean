/-! 14.ctorw: by wip/whole/gen_ctor.py -/
theorem wq_0 : Cond.instanceMethod objectInit ∈ gw := gw_in 78 (by decide +kernel) (by decide +kernel)
theorem wq_1 : Cond.code objectInit ⟨#[0xb1]⟩ 1 none ∈ gw := gw_in 79 (by decide +kernel) (by decide +kernel)
theorem wq_2 : Cond.arrayClass .int ∈ gw := gw_in 170 (by decide +kernel) (by decide +kernel)
theorem wq_3 : Cond.arrayClass .byte ∈ gw := gw_in 260 (by decide +kernel) (by decide +kernel)
theorem wq_4 : Cond.arrayClass .long ∈ gw := gw_in 281 (by decide +kernel) (by decide +kernel)
theorem wq_5 : Cond.arrayClass .char ∈ gw := gw_in 884 (by decide +kernel) (by decide +kernel)
theorem dX0_init_0 : decode cX0_init 0 = .ok (.aload_n 0, 1) := by decide +kernel
theorem dX0_init_1 : decode cX0_init 1 = .ok (.invokespecial 3, 3) := by decide +kernel
theorem dX0_init_4 : decode cX0_init 4 = .ok (.aload_n 0, 1) := by decide +kernel
theorem dX0_init_5 : decode cX0_init 5 = .ok (.bipush 120, 2) := by decide +kernel
theorem dX0_init_7 : decode cX0_init 7 = .ok (.newarray .byte, 2) := by decide +kernel
theorem dX0_init_9 : decode cX0_init 9 = .ok (.putfield 9, 3) := by decide +kernel
theorem dX0_init_12 : decode cX0_init 12 = .ok (.return_, 1) := by decide +kernel
def wI_X0 : List Cond := Cond.code yX0_init cX0_init 1 none :: gw
theorem wq_6 : Cond.code yX0_init cX0_init 1 none ∈ gw := gw_in 237 (by decide +kernel) (by decide +kernel)
theorem gI_X0 : GoodIn gw wI_X0 := fun w h => by
  rcases List.mem_cons.mp h with rfl | h
  · exact ⟨wq_6, good_of_word (gw_good _ wq_6)⟩
  · exact ⟨h, good_of_word (gw_good w h)⟩
theorem wq_7 : Cond.instanceMethod yX0_init ∈ gw := gw_in 236 (by decide +kernel) (by decide +kernel)
theorem wq_8 : Cond.initialized RX0 ∈ gw := gw_in 61 (by decide +kernel) (by decide +kernel)
theorem wq_9 : Cond.instantiable RX0 6 ∈ gw := gw_in 234 (by decide +kernel) (by decide +kernel)
theorem dX1_init_0 : decode cX1_init 0 = .ok (.aload_n 0, 1) := by decide +kernel
theorem dX1_init_1 : decode cX1_init 1 = .ok (.invokespecial 3, 3) := by decide +kernel
theorem dX1_init_4 : decode cX1_init 4 = .ok (.aload_n 0, 1) := by decide +kernel
theorem dX1_init_5 : decode cX1_init 5 = .ok (.bipush 6, 2) := by decide +kernel
theorem dX1_init_7 : decode cX1_init 7 = .ok (.newarray .int, 2) := by decide +kernel
theorem dX1_init_9 : decode cX1_init 9 = .ok (.putfield 9, 3) := by decide +kernel
theorem dX1_init_12 : decode cX1_init 12 = .ok (.aload_n 0, 1) := by decide +kernel
theorem dX1_init_13 : decode cX1_init 13 = .ok (.bipush 12, 2) := by decide +kernel
theorem dX1_init_15 : decode cX1_init 15 = .ok (.newarray .int, 2) := by decide +kernel
theorem dX1_init_17 : decode cX1_init 17 = .ok (.putfield 15, 3) := by decide +kernel
theorem dX1_init_20 : decode cX1_init 20 = .ok (.aload_n 0, 1) := by decide +kernel
theorem dX1_init_21 : decode cX1_init 21 = .ok (.bipush 12, 2) := by decide +kernel
theorem dX1_init_23 : decode cX1_init 23 = .ok (.newarray .int, 2) := by decide +kernel
theorem dX1_init_25 : decode cX1_init 25 = .ok (.putfield 18, 3) := by decide +kernel
theorem dX1_init_28 : decode cX1_init 28 = .ok (.return_, 1) := by decide +kernel
def wI_X1 : List Cond := Cond.code yX1_init cX1_init 1 none :: gw
theorem wq_10 : Cond.code yX1_init cX1_init 1 none ∈ gw := gw_in 175 (by decide +kernel) (by decide +kernel)
theorem gI_X1 : GoodIn gw wI_X1 := fun w h => by
  rcases List.mem_cons.mp h with rfl | h
  · exact ⟨wq_10, good_of_word (gw_good _ wq_10)⟩
  · exact ⟨h, good_of_word (gw_good w h)⟩
theorem wq_11 : Cond.instanceMethod yX1_init ∈ gw := gw_in 174 (by decide +kernel) (by decide +kernel)
theorem wq_12 : Cond.initialized RX1 ∈ gw := gw_in 58 (by decide +kernel) (by decide +kernel)
theorem wq_13 : Cond.instantiable RX1 5 ∈ gw := gw_in 172 (by decide +kernel) (by decide +kernel)
theorem dX2_init_0 : decode cX2_init 0 = .ok (.aload_n 0, 1) := by decide +kernel
theorem dX2_init_1 : decode cX2_init 1 = .ok (.invokespecial 3, 3) := by decide +kernel
theorem dX2_init_4 : decode cX2_init 4 = .ok (.aload_n 0, 1) := by decide +kernel
theorem dX2_init_5 : decode cX2_init 5 = .ok (.bipush 6, 2) := by decide +kernel
theorem dX2_init_7 : decode cX2_init 7 = .ok (.newarray .int, 2) := by decide +kernel
theorem dX2_init_9 : decode cX2_init 9 = .ok (.putfield 9, 3) := by decide +kernel
theorem dX2_init_12 : decode cX2_init 12 = .ok (.aload_n 0, 1) := by decide +kernel
theorem dX2_init_13 : decode cX2_init 13 = .ok (.bipush 6, 2) := by decide +kernel
theorem dX2_init_15 : decode cX2_init 15 = .ok (.newarray .int, 2) := by decide +kernel
theorem dX2_init_17 : decode cX2_init 17 = .ok (.putfield 15, 3) := by decide +kernel
theorem dX2_init_20 : decode cX2_init 20 = .ok (.aload_n 0, 1) := by decide +kernel
theorem dX2_init_21 : decode cX2_init 21 = .ok (.aload_n 1, 1) := by decide +kernel
theorem dX2_init_22 : decode cX2_init 22 = .ok (.putfield 18, 3) := by decide +kernel
theorem dX2_init_25 : decode cX2_init 25 = .ok (.aload_n 0, 1) := by decide +kernel
theorem dX2_init_26 : decode cX2_init 26 = .ok (.aload_n 2, 1) := by decide +kernel
theorem dX2_init_27 : decode cX2_init 27 = .ok (.putfield 22, 3) := by decide +kernel
theorem dX2_init_30 : decode cX2_init 30 = .ok (.return_, 1) := by decide +kernel
def wI_X2 : List Cond := Cond.code yX2_init cX2_init 3 none :: gw
theorem wq_14 : Cond.code yX2_init cX2_init 3 none ∈ gw := gw_in 200 (by decide +kernel) (by decide +kernel)
theorem gI_X2 : GoodIn gw wI_X2 := fun w h => by
  rcases List.mem_cons.mp h with rfl | h
  · exact ⟨wq_14, good_of_word (gw_good _ wq_14)⟩
  · exact ⟨h, good_of_word (gw_good w h)⟩
theorem wq_15 : Cond.instanceMethod yX2_init ∈ gw := gw_in 199 (by decide +kernel) (by decide +kernel)
theorem wq_16 : Cond.initialized RX2 ∈ gw := gw_in 59 (by decide +kernel) (by decide +kernel)
theorem wq_17 : Cond.instantiable RX2 5 ∈ gw := gw_in 197 (by decide +kernel) (by decide +kernel)
theorem dX3_init_0 : decode cX3_init 0 = .ok (.aload_n 0, 1) := by decide +kernel
theorem dX3_init_1 : decode cX3_init 1 = .ok (.invokespecial 3, 3) := by decide +kernel
theorem dX3_init_4 : decode cX3_init 4 = .ok (.aload_n 0, 1) := by decide +kernel
theorem dX3_init_5 : decode cX3_init 5 = .ok (.bipush 48, 2) := by decide +kernel
theorem dX3_init_7 : decode cX3_init 7 = .ok (.newarray .int, 2) := by decide +kernel
theorem dX3_init_9 : decode cX3_init 9 = .ok (.putfield 9, 3) := by decide +kernel
theorem dX3_init_12 : decode cX3_init 12 = .ok (.aload_n 0, 1) := by decide +kernel
theorem dX3_init_13 : decode cX3_init 13 = .ok (.bipush 12, 2) := by decide +kernel
theorem dX3_init_15 : decode cX3_init 15 = .ok (.newarray .int, 2) := by decide +kernel
theorem dX3_init_17 : decode cX3_init 17 = .ok (.putfield 15, 3) := by decide +kernel
theorem dX3_init_20 : decode cX3_init 20 = .ok (.aload_n 0, 1) := by decide +kernel
theorem dX3_init_21 : decode cX3_init 21 = .ok (.bipush 12, 2) := by decide +kernel
theorem dX3_init_23 : decode cX3_init 23 = .ok (.newarray .int, 2) := by decide +kernel
theorem dX3_init_25 : decode cX3_init 25 = .ok (.putfield 18, 3) := by decide +kernel
theorem dX3_init_28 : decode cX3_init 28 = .ok (.aload_n 0, 1) := by decide +kernel
theorem dX3_init_29 : decode cX3_init 29 = .ok (.bipush 12, 2) := by decide +kernel
theorem dX3_init_31 : decode cX3_init 31 = .ok (.newarray .int, 2) := by decide +kernel
theorem dX3_init_33 : decode cX3_init 33 = .ok (.putfield 21, 3) := by decide +kernel
theorem dX3_init_36 : decode cX3_init 36 = .ok (.aload_n 0, 1) := by decide +kernel
theorem dX3_init_37 : decode cX3_init 37 = .ok (.bipush 12, 2) := by decide +kernel
theorem dX3_init_39 : decode cX3_init 39 = .ok (.newarray .int, 2) := by decide +kernel
theorem dX3_init_41 : decode cX3_init 41 = .ok (.putfield 24, 3) := by decide +kernel
theorem dX3_init_44 : decode cX3_init 44 = .ok (.aload_n 0, 1) := by decide +kernel
theorem dX3_init_45 : decode cX3_init 45 = .ok (.bipush 12, 2) := by decide +kernel
theorem dX3_init_47 : decode cX3_init 47 = .ok (.newarray .int, 2) := by decide +kernel
theorem dX3_init_49 : decode cX3_init 49 = .ok (.putfield 27, 3) := by decide +kernel
theorem dX3_init_52 : decode cX3_init 52 = .ok (.aload_n 0, 1) := by decide +kernel
theorem dX3_init_53 : decode cX3_init 53 = .ok (.bipush 12, 2) := by decide +kernel
theorem dX3_init_55 : decode cX3_init 55 = .ok (.newarray .int, 2) := by decide +kernel
theorem dX3_init_57 : decode cX3_init 57 = .ok (.putfield 30, 3) := by decide +kernel
theorem dX3_init_60 : decode cX3_init 60 = .ok (.aload_n 0, 1) := by decide +kernel
theorem dX3_init_61 : decode cX3_init 61 = .ok (.bipush 12, 2) := by decide +kernel
theorem dX3_init_63 : decode cX3_init 63 = .ok (.newarray .int, 2) := by decide +kernel
theorem dX3_init_65 : decode cX3_init 65 = .ok (.putfield 33, 3) := by decide +kernel
theorem dX3_init_68 : decode cX3_init 68 = .ok (.aload_n 0, 1) := by decide +kernel
theorem dX3_init_69 : decode cX3_init 69 = .ok (.bipush 12, 2) := by decide +kernel
theorem dX3_init_71 : decode cX3_init 71 = .ok (.newarray .int, 2) := by decide +kernel
theorem dX3_init_73 : decode cX3_init 73 = .ok (.putfield 36, 3) := by decide +kernel
theorem dX3_init_76 : decode cX3_init 76 = .ok (.aload_n 0, 1) := by decide +kernel
theorem dX3_init_77 : decode cX3_init 77 = .ok (.bipush 12, 2) := by decide +kernel
theorem dX3_init_79 : decode cX3_init 79 = .ok (.newarray .int, 2) := by decide +kernel
theorem dX3_init_81 : decode cX3_init 81 = .ok (.putfield 39, 3) := by decide +kernel
theorem dX3_init_84 : decode cX3_init 84 = .ok (.aload_n 0, 1) := by decide +kernel
theorem dX3_init_85 : decode cX3_init 85 = .ok (.bipush 20, 2) := by decide +kernel
theorem dX3_init_87 : decode cX3_init 87 = .ok (.putfield 42, 3) := by decide +kernel
theorem dX3_init_90 : decode cX3_init 90 = .ok (.aload_n 0, 1) := by decide +kernel
theorem dX3_init_91 : decode cX3_init 91 = .ok (.bipush 60, 2) := by decide +kernel
theorem dX3_init_93 : decode cX3_init 93 = .ok (.putfield 46, 3) := by decide +kernel
theorem dX3_init_96 : decode cX3_init 96 = .ok (.return_, 1) := by decide +kernel
def wI_X3 : List Cond := Cond.code yX3_init cX3_init 1 none :: gw
theorem wq_18 : Cond.code yX3_init cX3_init 1 none ∈ gw := gw_in 84 (by decide +kernel) (by decide +kernel)
theorem gI_X3 : GoodIn gw wI_X3 := fun w h => by
  rcases List.mem_cons.mp h with rfl | h
  · exact ⟨wq_18, good_of_word (gw_good _ wq_18)⟩
  · exact ⟨h, good_of_word (gw_good w h)⟩
theorem wq_19 : Cond.instanceMethod yX3_init ∈ gw := gw_in 83 (by decide +kernel) (by decide +kernel)
theorem wq_20 : Cond.initialized RX3 ∈ gw := gw_in 57 (by decide +kernel) (by decide +kernel)
theorem wq_21 : Cond.instantiable RX3 16 ∈ gw := gw_in 81 (by decide +kernel) (by decide +kernel)
theorem dX4_init_0 : decode cX4_init 0 = .ok (.aload_n 0, 1) := by decide +kernel
theorem dX4_init_1 : decode cX4_init 1 = .ok (.invokespecial 3, 3) := by decide +kernel
theorem dX4_init_4 : decode cX4_init 4 = .ok (.aload_n 0, 1) := by decide +kernel
theorem dX4_init_5 : decode cX4_init 5 = .ok (.bipush 40, 2) := by decide +kernel
theorem dX4_init_7 : decode cX4_init 7 = .ok (.newarray .long, 2) := by decide +kernel
theorem dX4_init_9 : decode cX4_init 9 = .ok (.putfield 9, 3) := by decide +kernel
theorem dX4_init_12 : decode cX4_init 12 = .ok (.return_, 1) := by decide +kernel
def wI_X4 : List Cond := Cond.code yX4_init cX4_init 1 none :: gw
theorem wq_22 : Cond.code yX4_init cX4_init 1 none ∈ gw := gw_in 266 (by decide +kernel) (by decide +kernel)
theorem gI_X4 : GoodIn gw wI_X4 := fun w h => by
  rcases List.mem_cons.mp h with rfl | h
  · exact ⟨wq_22, good_of_word (gw_good _ wq_22)⟩
  · exact ⟨h, good_of_word (gw_good w h)⟩
theorem wq_23 : Cond.instanceMethod yX4_init ∈ gw := gw_in 265 (by decide +kernel) (by decide +kernel)
theorem wq_24 : Cond.initialized RX4 ∈ gw := gw_in 62 (by decide +kernel) (by decide +kernel)
theorem wq_25 : Cond.instantiable RX4 3 ∈ gw := gw_in 263 (by decide +kernel) (by decide +kernel)
theorem dX5_init_0 : decode cX5_init 0 = .ok (.aload_n 0, 1) := by decide +kernel
theorem dX5_init_1 : decode cX5_init 1 = .ok (.invokespecial 3, 3) := by decide +kernel
theorem dX5_init_4 : decode cX5_init 4 = .ok (.aload_n 0, 1) := by decide +kernel
theorem dX5_init_5 : decode cX5_init 5 = .ok (.bipush 12, 2) := by decide +kernel
theorem dX5_init_7 : decode cX5_init 7 = .ok (.newarray .int, 2) := by decide +kernel
theorem dX5_init_9 : decode cX5_init 9 = .ok (.putfield 9, 3) := by decide +kernel
theorem dX5_init_12 : decode cX5_init 12 = .ok (.return_, 1) := by decide +kernel
def wI_X5 : List Cond := Cond.code yX5_init cX5_init 1 none :: gw
theorem wq_26 : Cond.code yX5_init cX5_init 1 none ∈ gw := gw_in 224 (by decide +kernel) (by decide +kernel)
theorem gI_X5 : GoodIn gw wI_X5 := fun w h => by
  rcases List.mem_cons.mp h with rfl | h
  · exact ⟨wq_26, good_of_word (gw_good _ wq_26)⟩
  · exact ⟨h, good_of_word (gw_good w h)⟩
theorem wq_27 : Cond.instanceMethod yX5_init ∈ gw := gw_in 223 (by decide +kernel) (by decide +kernel)
theorem wq_28 : Cond.initialized RX5 ∈ gw := gw_in 60 (by decide +kernel) (by decide +kernel)
theorem wq_29 : Cond.instantiable RX5 2 ∈ gw := gw_in 221 (by decide +kernel) (by decide +kernel)
theorem dX6_init_0 : decode cX6_init 0 = .ok (.aload_n 0, 1) := by decide +kernel
theorem dX6_init_1 : decode cX6_init 1 = .ok (.invokespecial 1, 3) := by decide +kernel
theorem dX6_init_4 : decode cX6_init 4 = .ok (.aload_n 0, 1) := by decide +kernel
theorem dX6_init_5 : decode cX6_init 5 = .ok (.new 7, 3) := by decide +kernel
theorem dX6_init_8 : decode cX6_init 8 = .ok (.dup, 1) := by decide +kernel
theorem dX6_init_9 : decode cX6_init 9 = .ok (.invokespecial 9, 3) := by decide +kernel
theorem dX6_init_12 : decode cX6_init 12 = .ok (.putfield 10, 3) := by decide +kernel
theorem dX6_init_15 : decode cX6_init 15 = .ok (.aload_n 0, 1) := by decide +kernel
theorem dX6_init_16 : decode cX6_init 16 = .ok (.new 7, 3) := by decide +kernel
theorem dX6_init_19 : decode cX6_init 19 = .ok (.dup, 1) := by decide +kernel
theorem dX6_init_20 : decode cX6_init 20 = .ok (.invokespecial 9, 3) := by decide +kernel
theorem dX6_init_23 : decode cX6_init 23 = .ok (.putfield 16, 3) := by decide +kernel
theorem dX6_init_26 : decode cX6_init 26 = .ok (.aload_n 0, 1) := by decide +kernel
theorem dX6_init_27 : decode cX6_init 27 = .ok (.new 7, 3) := by decide +kernel
theorem dX6_init_30 : decode cX6_init 30 = .ok (.dup, 1) := by decide +kernel
theorem dX6_init_31 : decode cX6_init 31 = .ok (.invokespecial 9, 3) := by decide +kernel
theorem dX6_init_34 : decode cX6_init 34 = .ok (.putfield 19, 3) := by decide +kernel
theorem dX6_init_37 : decode cX6_init 37 = .ok (.aload_n 0, 1) := by decide +kernel
theorem dX6_init_38 : decode cX6_init 38 = .ok (.new 22, 3) := by decide +kernel
theorem dX6_init_41 : decode cX6_init 41 = .ok (.dup, 1) := by decide +kernel
theorem dX6_init_42 : decode cX6_init 42 = .ok (.invokespecial 24, 3) := by decide +kernel
theorem dX6_init_45 : decode cX6_init 45 = .ok (.putfield 25, 3) := by decide +kernel
theorem dX6_init_48 : decode cX6_init 48 = .ok (.aload_n 0, 1) := by decide +kernel
theorem dX6_init_49 : decode cX6_init 49 = .ok (.new 29, 3) := by decide +kernel
theorem dX6_init_52 : decode cX6_init 52 = .ok (.dup, 1) := by decide +kernel
theorem dX6_init_53 : decode cX6_init 53 = .ok (.aload_n 0, 1) := by decide +kernel
theorem dX6_init_54 : decode cX6_init 54 = .ok (.getfield 19, 3) := by decide +kernel
theorem dX6_init_57 : decode cX6_init 57 = .ok (.aload_n 0, 1) := by decide +kernel
theorem dX6_init_58 : decode cX6_init 58 = .ok (.getfield 25, 3) := by decide +kernel
theorem dX6_init_61 : decode cX6_init 61 = .ok (.invokespecial 31, 3) := by decide +kernel
theorem dX6_init_64 : decode cX6_init 64 = .ok (.putfield 34, 3) := by decide +kernel
theorem dX6_init_67 : decode cX6_init 67 = .ok (.aload_n 0, 1) := by decide +kernel
theorem dX6_init_68 : decode cX6_init 68 = .ok (.new 38, 3) := by decide +kernel
theorem dX6_init_71 : decode cX6_init 71 = .ok (.dup, 1) := by decide +kernel
theorem dX6_init_72 : decode cX6_init 72 = .ok (.invokespecial 40, 3) := by decide +kernel
theorem dX6_init_75 : decode cX6_init 75 = .ok (.putfield 41, 3) := by decide +kernel
theorem dX6_init_78 : decode cX6_init 78 = .ok (.aload_n 0, 1) := by decide +kernel
theorem dX6_init_79 : decode cX6_init 79 = .ok (.new 45, 3) := by decide +kernel
theorem dX6_init_82 : decode cX6_init 82 = .ok (.dup, 1) := by decide +kernel
theorem dX6_init_83 : decode cX6_init 83 = .ok (.invokespecial 47, 3) := by decide +kernel
theorem dX6_init_86 : decode cX6_init 86 = .ok (.putfield 48, 3) := by decide +kernel
theorem dX6_init_89 : decode cX6_init 89 = .ok (.aload_n 0, 1) := by decide +kernel
theorem dX6_init_90 : decode cX6_init 90 = .ok (.iconst 4, 1) := by decide +kernel
theorem dX6_init_91 : decode cX6_init 91 = .ok (.anewarray 52, 3) := by decide +kernel
theorem dX6_init_94 : decode cX6_init 94 = .ok (.dup, 1) := by decide +kernel
theorem dX6_init_95 : decode cX6_init 95 = .ok (.iconst 0, 1) := by decide +kernel
theorem dX6_init_96 : decode cX6_init 96 = .ok (.new 52, 3) := by decide +kernel
theorem dX6_init_99 : decode cX6_init 99 = .ok (.dup, 1) := by decide +kernel
theorem dX6_init_100 : decode cX6_init 100 = .ok (.invokespecial 54, 3) := by decide +kernel
theorem dX6_init_103 : decode cX6_init 103 = .ok (.aastore, 1) := by decide +kernel
theorem dX6_init_104 : decode cX6_init 104 = .ok (.dup, 1) := by decide +kernel
theorem dX6_init_105 : decode cX6_init 105 = .ok (.iconst 1, 1) := by decide +kernel
theorem dX6_init_106 : decode cX6_init 106 = .ok (.new 52, 3) := by decide +kernel
theorem dX6_init_109 : decode cX6_init 109 = .ok (.dup, 1) := by decide +kernel
theorem dX6_init_110 : decode cX6_init 110 = .ok (.invokespecial 54, 3) := by decide +kernel
theorem dX6_init_113 : decode cX6_init 113 = .ok (.aastore, 1) := by decide +kernel
theorem dX6_init_114 : decode cX6_init 114 = .ok (.dup, 1) := by decide +kernel
theorem dX6_init_115 : decode cX6_init 115 = .ok (.iconst 2, 1) := by decide +kernel
theorem dX6_init_116 : decode cX6_init 116 = .ok (.new 52, 3) := by decide +kernel
theorem dX6_init_119 : decode cX6_init 119 = .ok (.dup, 1) := by decide +kernel
theorem dX6_init_120 : decode cX6_init 120 = .ok (.invokespecial 54, 3) := by decide +kernel
theorem dX6_init_123 : decode cX6_init 123 = .ok (.aastore, 1) := by decide +kernel
theorem dX6_init_124 : decode cX6_init 124 = .ok (.dup, 1) := by decide +kernel
theorem dX6_init_125 : decode cX6_init 125 = .ok (.iconst 3, 1) := by decide +kernel
theorem dX6_init_126 : decode cX6_init 126 = .ok (.new 52, 3) := by decide +kernel
theorem dX6_init_129 : decode cX6_init 129 = .ok (.dup, 1) := by decide +kernel
theorem dX6_init_130 : decode cX6_init 130 = .ok (.invokespecial 54, 3) := by decide +kernel
theorem dX6_init_133 : decode cX6_init 133 = .ok (.aastore, 1) := by decide +kernel
theorem dX6_init_134 : decode cX6_init 134 = .ok (.putfield 55, 3) := by decide +kernel
theorem dX6_init_137 : decode cX6_init 137 = .ok (.aload_n 0, 1) := by decide +kernel
theorem dX6_init_138 : decode cX6_init 138 = .ok (.bipush 7, 2) := by decide +kernel
theorem dX6_init_140 : decode cX6_init 140 = .ok (.newarray .int, 2) := by decide +kernel
theorem dX6_init_142 : decode cX6_init 142 = .ok (.putfield 59, 3) := by decide +kernel
theorem dX6_init_145 : decode cX6_init 145 = .ok (.return_, 1) := by decide +kernel
def wI_X6 : List Cond := Cond.code yX6_init cX6_init 1 none :: gw
theorem wq_30 : Cond.code yX6_init cX6_init 1 none ∈ gw := gw_in 76 (by decide +kernel) (by decide +kernel)
theorem gI_X6 : GoodIn gw wI_X6 := fun w h => by
  rcases List.mem_cons.mp h with rfl | h
  · exact ⟨wq_30, good_of_word (gw_good _ wq_30)⟩
  · exact ⟨h, good_of_word (gw_good w h)⟩
theorem wq_31 : Cond.instanceMethod yX6_init ∈ gw := gw_in 75 (by decide +kernel) (by decide +kernel)
theorem wq_32 : Cond.initialized RX6 ∈ gw := gw_in 56 (by decide +kernel) (by decide +kernel)
theorem wq_33 : Cond.instantiable RX6 10 ∈ gw := gw_in 73 (by decide +kernel) (by decide +kernel)
theorem dX7_init_0 : decode cX7_init 0 = .ok (.aload_n 0, 1) := by decide +kernel
theorem dX7_init_1 : decode cX7_init 1 = .ok (.invokespecial 1, 3) := by decide +kernel
theorem dX7_init_4 : decode cX7_init 4 = .ok (.aload_n 0, 1) := by decide +kernel
theorem dX7_init_5 : decode cX7_init 5 = .ok (.sipush 162, 3) := by decide +kernel
theorem dX7_init_8 : decode cX7_init 8 = .ok (.newarray .int, 2) := by decide +kernel
theorem dX7_init_10 : decode cX7_init 10 = .ok (.putfield 9, 3) := by decide +kernel
theorem dX7_init_13 : decode cX7_init 13 = .ok (.aload_n 0, 1) := by decide +kernel
theorem dX7_init_14 : decode cX7_init 14 = .ok (.sipush 162, 3) := by decide +kernel
theorem dX7_init_17 : decode cX7_init 17 = .ok (.newarray .int, 2) := by decide +kernel
theorem dX7_init_19 : decode cX7_init 19 = .ok (.putfield 13, 3) := by decide +kernel
theorem dX7_init_22 : decode cX7_init 22 = .ok (.aload_n 0, 1) := by decide +kernel
theorem dX7_init_23 : decode cX7_init 23 = .ok (.sipush 162, 3) := by decide +kernel
theorem dX7_init_26 : decode cX7_init 26 = .ok (.newarray .int, 2) := by decide +kernel
theorem dX7_init_28 : decode cX7_init 28 = .ok (.putfield 16, 3) := by decide +kernel
theorem dX7_init_31 : decode cX7_init 31 = .ok (.aload_n 0, 1) := by decide +kernel
theorem dX7_init_32 : decode cX7_init 32 = .ok (.bipush 7, 2) := by decide +kernel
theorem dX7_init_34 : decode cX7_init 34 = .ok (.newarray .int, 2) := by decide +kernel
theorem dX7_init_36 : decode cX7_init 36 = .ok (.putfield 19, 3) := by decide +kernel
theorem dX7_init_39 : decode cX7_init 39 = .ok (.aload_n 0, 1) := by decide +kernel
theorem dX7_init_40 : decode cX7_init 40 = .ok (.bipush 6, 2) := by decide +kernel
theorem dX7_init_42 : decode cX7_init 42 = .ok (.newarray .int, 2) := by decide +kernel
theorem dX7_init_44 : decode cX7_init 44 = .ok (.putfield 22, 3) := by decide +kernel
theorem dX7_init_47 : decode cX7_init 47 = .ok (.aload_n 0, 1) := by decide +kernel
theorem dX7_init_48 : decode cX7_init 48 = .ok (.bipush 12, 2) := by decide +kernel
theorem dX7_init_50 : decode cX7_init 50 = .ok (.newarray .int, 2) := by decide +kernel
theorem dX7_init_52 : decode cX7_init 52 = .ok (.putfield 25, 3) := by decide +kernel
theorem dX7_init_55 : decode cX7_init 55 = .ok (.aload_n 0, 1) := by decide +kernel
theorem dX7_init_56 : decode cX7_init 56 = .ok (.bipush 6, 2) := by decide +kernel
theorem dX7_init_58 : decode cX7_init 58 = .ok (.newarray .int, 2) := by decide +kernel
theorem dX7_init_60 : decode cX7_init 60 = .ok (.putfield 28, 3) := by decide +kernel
theorem dX7_init_63 : decode cX7_init 63 = .ok (.aload_n 0, 1) := by decide +kernel
theorem dX7_init_64 : decode cX7_init 64 = .ok (.iconst 5, 1) := by decide +kernel
theorem dX7_init_65 : decode cX7_init 65 = .ok (.newarray .int, 2) := by decide +kernel
theorem dX7_init_67 : decode cX7_init 67 = .ok (.putfield 31, 3) := by decide +kernel
theorem dX7_init_70 : decode cX7_init 70 = .ok (.aload_n 0, 1) := by decide +kernel
theorem dX7_init_71 : decode cX7_init 71 = .ok (.bipush 12, 2) := by decide +kernel
theorem dX7_init_73 : decode cX7_init 73 = .ok (.newarray .int, 2) := by decide +kernel
theorem dX7_init_75 : decode cX7_init 75 = .ok (.putfield 34, 3) := by decide +kernel
theorem dX7_init_78 : decode cX7_init 78 = .ok (.aload_n 0, 1) := by decide +kernel
theorem dX7_init_79 : decode cX7_init 79 = .ok (.bipush 120, 2) := by decide +kernel
theorem dX7_init_81 : decode cX7_init 81 = .ok (.newarray .int, 2) := by decide +kernel
theorem dX7_init_83 : decode cX7_init 83 = .ok (.putfield 37, 3) := by decide +kernel
theorem dX7_init_86 : decode cX7_init 86 = .ok (.aload_n 0, 1) := by decide +kernel
theorem dX7_init_87 : decode cX7_init 87 = .ok (.bipush 85, 2) := by decide +kernel
theorem dX7_init_89 : decode cX7_init 89 = .ok (.newarray .char, 2) := by decide +kernel
theorem dX7_init_91 : decode cX7_init 91 = .ok (.dup, 1) := by decide +kernel
theorem dX7_init_92 : decode cX7_init 92 = .ok (.iconst 0, 1) := by decide +kernel
theorem dX7_init_93 : decode cX7_init 93 = .ok (.bipush 108, 2) := by decide +kernel
theorem dX7_init_95 : decode cX7_init 95 = .ok (.castore, 1) := by decide +kernel
theorem dX7_init_96 : decode cX7_init 96 = .ok (.dup, 1) := by decide +kernel
theorem dX7_init_97 : decode cX7_init 97 = .ok (.iconst 1, 1) := by decide +kernel
theorem dX7_init_98 : decode cX7_init 98 = .ok (.bipush 105, 2) := by decide +kernel
theorem dX7_init_100 : decode cX7_init 100 = .ok (.castore, 1) := by decide +kernel
theorem dX7_init_101 : decode cX7_init 101 = .ok (.dup, 1) := by decide +kernel
theorem dX7_init_102 : decode cX7_init 102 = .ok (.iconst 2, 1) := by decide +kernel
theorem dX7_init_103 : decode cX7_init 103 = .ok (.bipush 110, 2) := by decide +kernel
theorem dX7_init_105 : decode cX7_init 105 = .ok (.castore, 1) := by decide +kernel
theorem dX7_init_106 : decode cX7_init 106 = .ok (.dup, 1) := by decide +kernel
theorem dX7_init_107 : decode cX7_init 107 = .ok (.iconst 3, 1) := by decide +kernel
theorem dX7_init_108 : decode cX7_init 108 = .ok (.bipush 101, 2) := by decide +kernel
theorem dX7_init_110 : decode cX7_init 110 = .ok (.castore, 1) := by decide +kernel
theorem dX7_init_111 : decode cX7_init 111 = .ok (.dup, 1) := by decide +kernel
theorem dX7_init_112 : decode cX7_init 112 = .ok (.iconst 4, 1) := by decide +kernel
theorem dX7_init_113 : decode cX7_init 113 = .ok (.bipush 115, 2) := by decide +kernel
theorem dX7_init_115 : decode cX7_init 115 = .ok (.castore, 1) := by decide +kernel
theorem dX7_init_116 : decode cX7_init 116 = .ok (.dup, 1) := by decide +kernel
theorem dX7_init_117 : decode cX7_init 117 = .ok (.iconst 5, 1) := by decide +kernel
theorem dX7_init_118 : decode cX7_init 118 = .ok (.bipush 101, 2) := by decide +kernel
theorem dX7_init_120 : decode cX7_init 120 = .ok (.castore, 1) := by decide +kernel
theorem dX7_init_121 : decode cX7_init 121 = .ok (.dup, 1) := by decide +kernel
theorem dX7_init_122 : decode cX7_init 122 = .ok (.bipush 6, 2) := by decide +kernel
theorem dX7_init_124 : decode cX7_init 124 = .ok (.bipush 101, 2) := by decide +kernel
theorem dX7_init_126 : decode cX7_init 126 = .ok (.castore, 1) := by decide +kernel
theorem dX7_init_127 : decode cX7_init 127 = .ok (.dup, 1) := by decide +kernel
theorem dX7_init_128 : decode cX7_init 128 = .ok (.bipush 7, 2) := by decide +kernel
theorem dX7_init_130 : decode cX7_init 130 = .ok (.bipush 110, 2) := by decide +kernel
theorem dX7_init_132 : decode cX7_init 132 = .ok (.castore, 1) := by decide +kernel
theorem dX7_init_133 : decode cX7_init 133 = .ok (.dup, 1) := by decide +kernel
theorem dX7_init_134 : decode cX7_init 134 = .ok (.bipush 8, 2) := by decide +kernel
theorem dX7_init_136 : decode cX7_init 136 = .ok (.bipush 104, 2) := by decide +kernel
theorem dX7_init_138 : decode cX7_init 138 = .ok (.castore, 1) := by decide +kernel
theorem dX7_init_139 : decode cX7_init 139 = .ok (.dup, 1) := by decide +kernel
theorem dX7_init_140 : decode cX7_init 140 = .ok (.bipush 9, 2) := by decide +kernel
theorem dX7_init_142 : decode cX7_init 142 = .ok (.bipush 101, 2) := by decide +kernel
theorem dX7_init_144 : decode cX7_init 144 = .ok (.castore, 1) := by decide +kernel
theorem dX7_init_145 : decode cX7_init 145 = .ok (.dup, 1) := by decide +kernel
theorem dX7_init_146 : decode cX7_init 146 = .ok (.bipush 10, 2) := by decide +kernel
theorem dX7_init_148 : decode cX7_init 148 = .ok (.bipush 97, 2) := by decide +kernel
theorem dX7_init_150 : decode cX7_init 150 = .ok (.castore, 1) := by decide +kernel
theorem dX7_init_151 : decode cX7_init 151 = .ok (.dup, 1) := by decide +kernel
theorem dX7_init_152 : decode cX7_init 152 = .ok (.bipush 11, 2) := by decide +kernel
theorem dX7_init_154 : decode cX7_init 154 = .ok (.bipush 112, 2) := by decide +kernel
theorem dX7_init_156 : decode cX7_init 156 = .ok (.castore, 1) := by decide +kernel
theorem dX7_init_157 : decode cX7_init 157 = .ok (.dup, 1) := by decide +kernel
theorem dX7_init_158 : decode cX7_init 158 = .ok (.bipush 12, 2) := by decide +kernel
theorem dX7_init_160 : decode cX7_init 160 = .ok (.bipush 101, 2) := by decide +kernel
theorem dX7_init_162 : decode cX7_init 162 = .ok (.castore, 1) := by decide +kernel
theorem dX7_init_163 : decode cX7_init 163 = .ok (.dup, 1) := by decide +kernel
theorem dX7_init_164 : decode cX7_init 164 = .ok (.bipush 13, 2) := by decide +kernel
theorem dX7_init_166 : decode cX7_init 166 = .ok (.bipush 100, 2) := by decide +kernel
theorem dX7_init_168 : decode cX7_init 168 = .ok (.castore, 1) := by decide +kernel
theorem dX7_init_169 : decode cX7_init 169 = .ok (.dup, 1) := by decide +kernel
theorem dX7_init_170 : decode cX7_init 170 = .ok (.bipush 14, 2) := by decide +kernel
theorem dX7_init_172 : decode cX7_init 172 = .ok (.bipush 108, 2) := by decide +kernel
theorem dX7_init_174 : decode cX7_init 174 = .ok (.castore, 1) := by decide +kernel
theorem dX7_init_175 : decode cX7_init 175 = .ok (.dup, 1) := by decide +kernel
theorem dX7_init_176 : decode cX7_init 176 = .ok (.bipush 15, 2) := by decide +kernel
theorem dX7_init_178 : decode cX7_init 178 = .ok (.bipush 101, 2) := by decide +kernel
theorem dX7_init_180 : decode cX7_init 180 = .ok (.castore, 1) := by decide +kernel
theorem dX7_init_181 : decode cX7_init 181 = .ok (.dup, 1) := by decide +kernel
theorem dX7_init_182 : decode cX7_init 182 = .ok (.bipush 16, 2) := by decide +kernel
theorem dX7_init_184 : decode cX7_init 184 = .ok (.bipush 97, 2) := by decide +kernel
theorem dX7_init_186 : decode cX7_init 186 = .ok (.castore, 1) := by decide +kernel
theorem dX7_init_187 : decode cX7_init 187 = .ok (.dup, 1) := by decide +kernel
theorem dX7_init_188 : decode cX7_init 188 = .ok (.bipush 17, 2) := by decide +kernel
theorem dX7_init_190 : decode cX7_init 190 = .ok (.bipush 110, 2) := by decide +kernel
theorem dX7_init_192 : decode cX7_init 192 = .ok (.castore, 1) := by decide +kernel
theorem dX7_init_193 : decode cX7_init 193 = .ok (.dup, 1) := by decide +kernel
theorem dX7_init_194 : decode cX7_init 194 = .ok (.bipush 18, 2) := by decide +kernel
theorem dX7_init_196 : decode cX7_init 196 = .ok (.bipush 101, 2) := by decide +kernel
theorem dX7_init_198 : decode cX7_init 198 = .ok (.castore, 1) := by decide +kernel
theorem dX7_init_199 : decode cX7_init 199 = .ok (.dup, 1) := by decide +kernel
theorem dX7_init_200 : decode cX7_init 200 = .ok (.bipush 19, 2) := by decide +kernel
theorem dX7_init_202 : decode cX7_init 202 = .ok (.bipush 100, 2) := by decide +kernel
theorem dX7_init_204 : decode cX7_init 204 = .ok (.castore, 1) := by decide +kernel
theorem dX7_init_205 : decode cX7_init 205 = .ok (.dup, 1) := by decide +kernel
theorem dX7_init_206 : decode cX7_init 206 = .ok (.bipush 20, 2) := by decide +kernel
theorem dX7_init_208 : decode cX7_init 208 = .ok (.bipush 99, 2) := by decide +kernel
theorem dX7_init_210 : decode cX7_init 210 = .ok (.castore, 1) := by decide +kernel
theorem dX7_init_211 : decode cX7_init 211 = .ok (.dup, 1) := by decide +kernel
theorem dX7_init_212 : decode cX7_init 212 = .ok (.bipush 21, 2) := by decide +kernel
theorem dX7_init_214 : decode cX7_init 214 = .ok (.bipush 111, 2) := by decide +kernel
theorem dX7_init_216 : decode cX7_init 216 = .ok (.castore, 1) := by decide +kernel
theorem dX7_init_217 : decode cX7_init 217 = .ok (.dup, 1) := by decide +kernel
theorem dX7_init_218 : decode cX7_init 218 = .ok (.bipush 22, 2) := by decide +kernel
theorem dX7_init_220 : decode cX7_init 220 = .ok (.bipush 112, 2) := by decide +kernel
theorem dX7_init_222 : decode cX7_init 222 = .ok (.castore, 1) := by decide +kernel
theorem dX7_init_223 : decode cX7_init 223 = .ok (.dup, 1) := by decide +kernel
theorem dX7_init_224 : decode cX7_init 224 = .ok (.bipush 23, 2) := by decide +kernel
theorem dX7_init_226 : decode cX7_init 226 = .ok (.bipush 105, 2) := by decide +kernel
theorem dX7_init_228 : decode cX7_init 228 = .ok (.castore, 1) := by decide +kernel
theorem dX7_init_229 : decode cX7_init 229 = .ok (.dup, 1) := by decide +kernel
theorem dX7_init_230 : decode cX7_init 230 = .ok (.bipush 24, 2) := by decide +kernel
theorem dX7_init_232 : decode cX7_init 232 = .ok (.bipush 101, 2) := by decide +kernel
theorem dX7_init_234 : decode cX7_init 234 = .ok (.castore, 1) := by decide +kernel
theorem dX7_init_235 : decode cX7_init 235 = .ok (.dup, 1) := by decide +kernel
theorem dX7_init_236 : decode cX7_init 236 = .ok (.bipush 25, 2) := by decide +kernel
theorem dX7_init_238 : decode cX7_init 238 = .ok (.bipush 100, 2) := by decide +kernel
theorem dX7_init_240 : decode cX7_init 240 = .ok (.castore, 1) := by decide +kernel
theorem dX7_init_241 : decode cX7_init 241 = .ok (.dup, 1) := by decide +kernel
theorem dX7_init_242 : decode cX7_init 242 = .ok (.bipush 26, 2) := by decide +kernel
theorem dX7_init_244 : decode cX7_init 244 = .ok (.bipush 99, 2) := by decide +kernel
theorem dX7_init_246 : decode cX7_init 246 = .ok (.castore, 1) := by decide +kernel
theorem dX7_init_247 : decode cX7_init 247 = .ok (.dup, 1) := by decide +kernel
theorem dX7_init_248 : decode cX7_init 248 = .ok (.bipush 27, 2) := by decide +kernel
theorem dX7_init_250 : decode cX7_init 250 = .ok (.bipush 111, 2) := by decide +kernel
theorem dX7_init_252 : decode cX7_init 252 = .ok (.castore, 1) := by decide +kernel
theorem dX7_init_253 : decode cX7_init 253 = .ok (.dup, 1) := by decide +kernel
theorem dX7_init_254 : decode cX7_init 254 = .ok (.bipush 28, 2) := by decide +kernel
theorem dX7_init_256 : decode cX7_init 256 = .ok (.bipush 100, 2) := by decide +kernel
theorem dX7_init_258 : decode cX7_init 258 = .ok (.castore, 1) := by decide +kernel
theorem dX7_init_259 : decode cX7_init 259 = .ok (.dup, 1) := by decide +kernel
theorem dX7_init_260 : decode cX7_init 260 = .ok (.bipush 29, 2) := by decide +kernel
theorem dX7_init_262 : decode cX7_init 262 = .ok (.bipush 101, 2) := by decide +kernel
theorem dX7_init_264 : decode cX7_init 264 = .ok (.castore, 1) := by decide +kernel
theorem dX7_init_265 : decode cX7_init 265 = .ok (.dup, 1) := by decide +kernel
theorem dX7_init_266 : decode cX7_init 266 = .ok (.bipush 30, 2) := by decide +kernel
theorem dX7_init_268 : decode cX7_init 268 = .ok (.bipush 100, 2) := by decide +kernel
theorem dX7_init_270 : decode cX7_init 270 = .ok (.castore, 1) := by decide +kernel
theorem dX7_init_271 : decode cX7_init 271 = .ok (.dup, 1) := by decide +kernel
theorem dX7_init_272 : decode cX7_init 272 = .ok (.bipush 31, 2) := by decide +kernel
theorem dX7_init_274 : decode cX7_init 274 = .ok (.bipush 108, 2) := by decide +kernel
theorem dX7_init_276 : decode cX7_init 276 = .ok (.castore, 1) := by decide +kernel
theorem dX7_init_277 : decode cX7_init 277 = .ok (.dup, 1) := by decide +kernel
theorem dX7_init_278 : decode cX7_init 278 = .ok (.bipush 32, 2) := by decide +kernel
theorem dX7_init_280 : decode cX7_init 280 = .ok (.bipush 101, 2) := by decide +kernel
theorem dX7_init_282 : decode cX7_init 282 = .ok (.castore, 1) := by decide +kernel
theorem dX7_init_283 : decode cX7_init 283 = .ok (.dup, 1) := by decide +kernel
theorem dX7_init_284 : decode cX7_init 284 = .ok (.bipush 33, 2) := by decide +kernel
theorem dX7_init_286 : decode cX7_init 286 = .ok (.bipush 102, 2) := by decide +kernel
theorem dX7_init_288 : decode cX7_init 288 = .ok (.castore, 1) := by decide +kernel
theorem dX7_init_289 : decode cX7_init 289 = .ok (.dup, 1) := by decide +kernel
theorem dX7_init_290 : decode cX7_init 290 = .ok (.bipush 34, 2) := by decide +kernel
theorem dX7_init_292 : decode cX7_init 292 = .ok (.bipush 116, 2) := by decide +kernel
theorem dX7_init_294 : decode cX7_init 294 = .ok (.castore, 1) := by decide +kernel
theorem dX7_init_295 : decode cX7_init 295 = .ok (.dup, 1) := by decide +kernel
theorem dX7_init_296 : decode cX7_init 296 = .ok (.bipush 35, 2) := by decide +kernel
theorem dX7_init_298 : decode cX7_init 298 = .ok (.bipush 119, 2) := by decide +kernel
theorem dX7_init_300 : decode cX7_init 300 = .ok (.castore, 1) := by decide +kernel
theorem dX7_init_301 : decode cX7_init 301 = .ok (.dup, 1) := by decide +kernel
theorem dX7_init_302 : decode cX7_init 302 = .ok (.bipush 36, 2) := by decide +kernel
theorem dX7_init_304 : decode cX7_init 304 = .ok (.bipush 111, 2) := by decide +kernel
theorem dX7_init_306 : decode cX7_init 306 = .ok (.castore, 1) := by decide +kernel
theorem dX7_init_307 : decode cX7_init 307 = .ok (.dup, 1) := by decide +kernel
theorem dX7_init_308 : decode cX7_init 308 = .ok (.bipush 37, 2) := by decide +kernel
theorem dX7_init_310 : decode cX7_init 310 = .ok (.bipush 114, 2) := by decide +kernel
theorem dX7_init_312 : decode cX7_init 312 = .ok (.castore, 1) := by decide +kernel
theorem dX7_init_313 : decode cX7_init 313 = .ok (.dup, 1) := by decide +kernel
theorem dX7_init_314 : decode cX7_init 314 = .ok (.bipush 38, 2) := by decide +kernel
theorem dX7_init_316 : decode cX7_init 316 = .ok (.bipush 107, 2) := by decide +kernel
theorem dX7_init_318 : decode cX7_init 318 = .ok (.castore, 1) := by decide +kernel
theorem dX7_init_319 : decode cX7_init 319 = .ok (.dup, 1) := by decide +kernel
theorem dX7_init_320 : decode cX7_init 320 = .ok (.bipush 39, 2) := by decide +kernel
theorem dX7_init_322 : decode cX7_init 322 = .ok (.bipush 99, 2) := by decide +kernel
theorem dX7_init_324 : decode cX7_init 324 = .ok (.castore, 1) := by decide +kernel
theorem dX7_init_325 : decode cX7_init 325 = .ok (.dup, 1) := by decide +kernel
theorem dX7_init_326 : decode cX7_init 326 = .ok (.bipush 40, 2) := by decide +kernel
theorem dX7_init_328 : decode cX7_init 328 = .ok (.bipush 111, 2) := by decide +kernel
theorem dX7_init_330 : decode cX7_init 330 = .ok (.castore, 1) := by decide +kernel
theorem dX7_init_331 : decode cX7_init 331 = .ok (.dup, 1) := by decide +kernel
theorem dX7_init_332 : decode cX7_init 332 = .ok (.bipush 41, 2) := by decide +kernel
theorem dX7_init_334 : decode cX7_init 334 = .ok (.bipush 110, 2) := by decide +kernel
theorem dX7_init_336 : decode cX7_init 336 = .ok (.castore, 1) := by decide +kernel
theorem dX7_init_337 : decode cX7_init 337 = .ok (.dup, 1) := by decide +kernel
theorem dX7_init_338 : decode cX7_init 338 = .ok (.bipush 42, 2) := by decide +kernel
theorem dX7_init_340 : decode cX7_init 340 = .ok (.bipush 100, 2) := by decide +kernel
theorem dX7_init_342 : decode cX7_init 342 = .ok (.castore, 1) := by decide +kernel
theorem dX7_init_343 : decode cX7_init 343 = .ok (.dup, 1) := by decide +kernel
theorem dX7_init_344 : decode cX7_init 344 = .ok (.bipush 43, 2) := by decide +kernel
theorem dX7_init_346 : decode cX7_init 346 = .ok (.bipush 117, 2) := by decide +kernel
theorem dX7_init_348 : decode cX7_init 348 = .ok (.castore, 1) := by decide +kernel
theorem dX7_init_349 : decode cX7_init 349 = .ok (.dup, 1) := by decide +kernel
theorem dX7_init_350 : decode cX7_init 350 = .ok (.bipush 44, 2) := by decide +kernel
theorem dX7_init_352 : decode cX7_init 352 = .ok (.bipush 99, 2) := by decide +kernel
theorem dX7_init_354 : decode cX7_init 354 = .ok (.castore, 1) := by decide +kernel
theorem dX7_init_355 : decode cX7_init 355 = .ok (.dup, 1) := by decide +kernel
theorem dX7_init_356 : decode cX7_init 356 = .ok (.bipush 45, 2) := by decide +kernel
theorem dX7_init_358 : decode cX7_init 358 = .ok (.bipush 116, 2) := by decide +kernel
theorem dX7_init_360 : decode cX7_init 360 = .ok (.castore, 1) := by decide +kernel
theorem dX7_init_361 : decode cX7_init 361 = .ok (.dup, 1) := by decide +kernel
theorem dX7_init_362 : decode cX7_init 362 = .ok (.bipush 46, 2) := by decide +kernel
theorem dX7_init_364 : decode cX7_init 364 = .ok (.bipush 104, 2) := by decide +kernel
theorem dX7_init_366 : decode cX7_init 366 = .ok (.castore, 1) := by decide +kernel
theorem dX7_init_367 : decode cX7_init 367 = .ok (.dup, 1) := by decide +kernel
theorem dX7_init_368 : decode cX7_init 368 = .ok (.bipush 47, 2) := by decide +kernel
theorem dX7_init_370 : decode cX7_init 370 = .ok (.bipush 97, 2) := by decide +kernel
theorem dX7_init_372 : decode cX7_init 372 = .ok (.castore, 1) := by decide +kernel
theorem dX7_init_373 : decode cX7_init 373 = .ok (.dup, 1) := by decide +kernel
theorem dX7_init_374 : decode cX7_init 374 = .ok (.bipush 48, 2) := by decide +kernel
theorem dX7_init_376 : decode cX7_init 376 = .ok (.bipush 110, 2) := by decide +kernel
theorem dX7_init_378 : decode cX7_init 378 = .ok (.castore, 1) := by decide +kernel
theorem dX7_init_379 : decode cX7_init 379 = .ok (.dup, 1) := by decide +kernel
theorem dX7_init_380 : decode cX7_init 380 = .ok (.bipush 49, 2) := by decide +kernel
theorem dX7_init_382 : decode cX7_init 382 = .ok (.bipush 100, 2) := by decide +kernel
theorem dX7_init_384 : decode cX7_init 384 = .ok (.castore, 1) := by decide +kernel
theorem dX7_init_385 : decode cX7_init 385 = .ok (.dup, 1) := by decide +kernel
theorem dX7_init_386 : decode cX7_init 386 = .ok (.bipush 50, 2) := by decide +kernel
theorem dX7_init_388 : decode cX7_init 388 = .ok (.bipush 118, 2) := by decide +kernel
theorem dX7_init_390 : decode cX7_init 390 = .ok (.castore, 1) := by decide +kernel
theorem dX7_init_391 : decode cX7_init 391 = .ok (.dup, 1) := by decide +kernel
theorem dX7_init_392 : decode cX7_init 392 = .ok (.bipush 51, 2) := by decide +kernel
theorem dX7_init_394 : decode cX7_init 394 = .ok (.bipush 111, 2) := by decide +kernel
theorem dX7_init_396 : decode cX7_init 396 = .ok (.castore, 1) := by decide +kernel
theorem dX7_init_397 : decode cX7_init 397 = .ok (.dup, 1) := by decide +kernel
theorem dX7_init_398 : decode cX7_init 398 = .ok (.bipush 52, 2) := by decide +kernel
theorem dX7_init_400 : decode cX7_init 400 = .ok (.bipush 105, 2) := by decide +kernel
theorem dX7_init_402 : decode cX7_init 402 = .ok (.castore, 1) := by decide +kernel
theorem dX7_init_403 : decode cX7_init 403 = .ok (.dup, 1) := by decide +kernel
theorem dX7_init_404 : decode cX7_init 404 = .ok (.bipush 53, 2) := by decide +kernel
theorem dX7_init_406 : decode cX7_init 406 = .ok (.bipush 99, 2) := by decide +kernel
theorem dX7_init_408 : decode cX7_init 408 = .ok (.castore, 1) := by decide +kernel
theorem dX7_init_409 : decode cX7_init 409 = .ok (.dup, 1) := by decide +kernel
theorem dX7_init_410 : decode cX7_init 410 = .ok (.bipush 54, 2) := by decide +kernel
theorem dX7_init_412 : decode cX7_init 412 = .ok (.bipush 101, 2) := by decide +kernel
theorem dX7_init_414 : decode cX7_init 414 = .ok (.castore, 1) := by decide +kernel
theorem dX7_init_415 : decode cX7_init 415 = .ok (.dup, 1) := by decide +kernel
theorem dX7_init_416 : decode cX7_init 416 = .ok (.bipush 55, 2) := by decide +kernel
theorem dX7_init_418 : decode cX7_init 418 = .ok (.bipush 119, 2) := by decide +kernel
theorem dX7_init_420 : decode cX7_init 420 = .ok (.castore, 1) := by decide +kernel
theorem dX7_init_421 : decode cX7_init 421 = .ok (.dup, 1) := by decide +kernel
theorem dX7_init_422 : decode cX7_init 422 = .ok (.bipush 56, 2) := by decide +kernel
theorem dX7_init_424 : decode cX7_init 424 = .ok (.bipush 111, 2) := by decide +kernel
theorem dX7_init_426 : decode cX7_init 426 = .ok (.castore, 1) := by decide +kernel
theorem dX7_init_427 : decode cX7_init 427 = .ok (.dup, 1) := by decide +kernel
theorem dX7_init_428 : decode cX7_init 428 = .ok (.bipush 57, 2) := by decide +kernel
theorem dX7_init_430 : decode cX7_init 430 = .ok (.bipush 114, 2) := by decide +kernel
theorem dX7_init_432 : decode cX7_init 432 = .ok (.castore, 1) := by decide +kernel
theorem dX7_init_433 : decode cX7_init 433 = .ok (.dup, 1) := by decide +kernel
theorem dX7_init_434 : decode cX7_init 434 = .ok (.bipush 58, 2) := by decide +kernel
theorem dX7_init_436 : decode cX7_init 436 = .ok (.bipush 100, 2) := by decide +kernel
theorem dX7_init_438 : decode cX7_init 438 = .ok (.castore, 1) := by decide +kernel
theorem dX7_init_439 : decode cX7_init 439 = .ok (.dup, 1) := by decide +kernel
theorem dX7_init_440 : decode cX7_init 440 = .ok (.bipush 59, 2) := by decide +kernel
theorem dX7_init_442 : decode cX7_init 442 = .ok (.bipush 115, 2) := by decide +kernel
theorem dX7_init_444 : decode cX7_init 444 = .ok (.castore, 1) := by decide +kernel
theorem dX7_init_445 : decode cX7_init 445 = .ok (.dup, 1) := by decide +kernel
theorem dX7_init_446 : decode cX7_init 446 = .ok (.bipush 60, 2) := by decide +kernel
theorem dX7_init_448 : decode cX7_init 448 = .ok (.bipush 99, 2) := by decide +kernel
theorem dX7_init_450 : decode cX7_init 450 = .ok (.castore, 1) := by decide +kernel
theorem dX7_init_451 : decode cX7_init 451 = .ok (.dup, 1) := by decide +kernel
theorem dX7_init_452 : decode cX7_init 452 = .ok (.bipush 61, 2) := by decide +kernel
theorem dX7_init_454 : decode cX7_init 454 = .ok (.bipush 104, 2) := by decide +kernel
theorem dX7_init_456 : decode cX7_init 456 = .ok (.castore, 1) := by decide +kernel
theorem dX7_init_457 : decode cX7_init 457 = .ok (.dup, 1) := by decide +kernel
theorem dX7_init_458 : decode cX7_init 458 = .ok (.bipush 62, 2) := by decide +kernel
theorem dX7_init_460 : decode cX7_init 460 = .ok (.bipush 105, 2) := by decide +kernel
theorem dX7_init_462 : decode cX7_init 462 = .ok (.castore, 1) := by decide +kernel
theorem dX7_init_463 : decode cX7_init 463 = .ok (.dup, 1) := by decide +kernel
theorem dX7_init_464 : decode cX7_init 464 = .ok (.bipush 63, 2) := by decide +kernel
theorem dX7_init_466 : decode cX7_init 466 = .ok (.bipush 108, 2) := by decide +kernel
theorem dX7_init_468 : decode cX7_init 468 = .ok (.castore, 1) := by decide +kernel
theorem dX7_init_469 : decode cX7_init 469 = .ok (.dup, 1) := by decide +kernel
theorem dX7_init_470 : decode cX7_init 470 = .ok (.bipush 64, 2) := by decide +kernel
theorem dX7_init_472 : decode cX7_init 472 = .ok (.bipush 100, 2) := by decide +kernel
theorem dX7_init_474 : decode cX7_init 474 = .ok (.castore, 1) := by decide +kernel
theorem dX7_init_475 : decode cX7_init 475 = .ok (.dup, 1) := by decide +kernel
theorem dX7_init_476 : decode cX7_init 476 = .ok (.bipush 65, 2) := by decide +kernel
theorem dX7_init_478 : decode cX7_init 478 = .ok (.bipush 103, 2) := by decide +kernel
theorem dX7_init_480 : decode cX7_init 480 = .ok (.castore, 1) := by decide +kernel
theorem dX7_init_481 : decode cX7_init 481 = .ok (.dup, 1) := by decide +kernel
theorem dX7_init_482 : decode cX7_init 482 = .ok (.bipush 66, 2) := by decide +kernel
theorem dX7_init_484 : decode cX7_init 484 = .ok (.bipush 105, 2) := by decide +kernel
theorem dX7_init_486 : decode cX7_init 486 = .ok (.castore, 1) := by decide +kernel
theorem dX7_init_487 : decode cX7_init 487 = .ok (.dup, 1) := by decide +kernel
theorem dX7_init_488 : decode cX7_init 488 = .ok (.bipush 67, 2) := by decide +kernel
theorem dX7_init_490 : decode cX7_init 490 = .ok (.bipush 114, 2) := by decide +kernel
theorem dX7_init_492 : decode cX7_init 492 = .ok (.castore, 1) := by decide +kernel
theorem dX7_init_493 : decode cX7_init 493 = .ok (.dup, 1) := by decide +kernel
theorem dX7_init_494 : decode cX7_init 494 = .ok (.bipush 68, 2) := by decide +kernel
theorem dX7_init_496 : decode cX7_init 496 = .ok (.bipush 108, 2) := by decide +kernel
theorem dX7_init_498 : decode cX7_init 498 = .ok (.castore, 1) := by decide +kernel
theorem dX7_init_499 : decode cX7_init 499 = .ok (.dup, 1) := by decide +kernel
theorem dX7_init_500 : decode cX7_init 500 = .ok (.bipush 69, 2) := by decide +kernel
theorem dX7_init_502 : decode cX7_init 502 = .ok (.bipush 111, 2) := by decide +kernel
theorem dX7_init_504 : decode cX7_init 504 = .ok (.castore, 1) := by decide +kernel
theorem dX7_init_505 : decode cX7_init 505 = .ok (.dup, 1) := by decide +kernel
theorem dX7_init_506 : decode cX7_init 506 = .ok (.bipush 70, 2) := by decide +kernel
theorem dX7_init_508 : decode cX7_init 508 = .ok (.bipush 102, 2) := by decide +kernel
theorem dX7_init_510 : decode cX7_init 510 = .ok (.castore, 1) := by decide +kernel
theorem dX7_init_511 : decode cX7_init 511 = .ok (.dup, 1) := by decide +kernel
theorem dX7_init_512 : decode cX7_init 512 = .ok (.bipush 71, 2) := by decide +kernel
theorem dX7_init_514 : decode cX7_init 514 = .ok (.bipush 112, 2) := by decide +kernel
theorem dX7_init_516 : decode cX7_init 516 = .ok (.castore, 1) := by decide +kernel
theorem dX7_init_517 : decode cX7_init 517 = .ok (.dup, 1) := by decide +kernel
theorem dX7_init_518 : decode cX7_init 518 = .ok (.bipush 72, 2) := by decide +kernel
theorem dX7_init_520 : decode cX7_init 520 = .ok (.bipush 97, 2) := by decide +kernel
theorem dX7_init_522 : decode cX7_init 522 = .ok (.castore, 1) := by decide +kernel
theorem dX7_init_523 : decode cX7_init 523 = .ok (.dup, 1) := by decide +kernel
theorem dX7_init_524 : decode cX7_init 524 = .ok (.bipush 73, 2) := by decide +kernel
theorem dX7_init_526 : decode cX7_init 526 = .ok (.bipush 116, 2) := by decide +kernel
theorem dX7_init_528 : decode cX7_init 528 = .ok (.castore, 1) := by decide +kernel
theorem dX7_init_529 : decode cX7_init 529 = .ok (.dup, 1) := by decide +kernel
theorem dX7_init_530 : decode cX7_init 530 = .ok (.bipush 74, 2) := by decide +kernel
theorem dX7_init_532 : decode cX7_init 532 = .ok (.bipush 105, 2) := by decide +kernel
theorem dX7_init_534 : decode cX7_init 534 = .ok (.castore, 1) := by decide +kernel
theorem dX7_init_535 : decode cX7_init 535 = .ok (.dup, 1) := by decide +kernel
theorem dX7_init_536 : decode cX7_init 536 = .ok (.bipush 75, 2) := by decide +kernel
theorem dX7_init_538 : decode cX7_init 538 = .ok (.bipush 101, 2) := by decide +kernel
theorem dX7_init_540 : decode cX7_init 540 = .ok (.castore, 1) := by decide +kernel
theorem dX7_init_541 : decode cX7_init 541 = .ok (.dup, 1) := by decide +kernel
theorem dX7_init_542 : decode cX7_init 542 = .ok (.bipush 76, 2) := by decide +kernel
theorem dX7_init_544 : decode cX7_init 544 = .ok (.bipush 110, 2) := by decide +kernel
theorem dX7_init_546 : decode cX7_init 546 = .ok (.castore, 1) := by decide +kernel
theorem dX7_init_547 : decode cX7_init 547 = .ok (.dup, 1) := by decide +kernel
theorem dX7_init_548 : decode cX7_init 548 = .ok (.bipush 77, 2) := by decide +kernel
theorem dX7_init_550 : decode cX7_init 550 = .ok (.bipush 99, 2) := by decide +kernel
theorem dX7_init_552 : decode cX7_init 552 = .ok (.castore, 1) := by decide +kernel
theorem dX7_init_553 : decode cX7_init 553 = .ok (.dup, 1) := by decide +kernel
theorem dX7_init_554 : decode cX7_init 554 = .ok (.bipush 78, 2) := by decide +kernel
theorem dX7_init_556 : decode cX7_init 556 = .ok (.bipush 101, 2) := by decide +kernel
theorem dX7_init_558 : decode cX7_init 558 = .ok (.castore, 1) := by decide +kernel
theorem dX7_init_559 : decode cX7_init 559 = .ok (.dup, 1) := by decide +kernel
theorem dX7_init_560 : decode cX7_init 560 = .ok (.bipush 79, 2) := by decide +kernel
theorem dX7_init_562 : decode cX7_init 562 = .ok (.bipush 108, 2) := by decide +kernel
theorem dX7_init_564 : decode cX7_init 564 = .ok (.castore, 1) := by decide +kernel
theorem dX7_init_565 : decode cX7_init 565 = .ok (.dup, 1) := by decide +kernel
theorem dX7_init_566 : decode cX7_init 566 = .ok (.bipush 80, 2) := by decide +kernel
theorem dX7_init_568 : decode cX7_init 568 = .ok (.bipush 101, 2) := by decide +kernel
theorem dX7_init_570 : decode cX7_init 570 = .ok (.castore, 1) := by decide +kernel
theorem dX7_init_571 : decode cX7_init 571 = .ok (.dup, 1) := by decide +kernel
theorem dX7_init_572 : decode cX7_init 572 = .ok (.bipush 81, 2) := by decide +kernel
theorem dX7_init_574 : decode cX7_init 574 = .ok (.bipush 110, 2) := by decide +kernel
theorem dX7_init_576 : decode cX7_init 576 = .ok (.castore, 1) := by decide +kernel
theorem dX7_init_577 : decode cX7_init 577 = .ok (.dup, 1) := by decide +kernel
theorem dX7_init_578 : decode cX7_init 578 = .ok (.bipush 82, 2) := by decide +kernel
theorem dX7_init_580 : decode cX7_init 580 = .ok (.bipush 103, 2) := by decide +kernel
theorem dX7_init_582 : decode cX7_init 582 = .ok (.castore, 1) := by decide +kernel
theorem dX7_init_583 : decode cX7_init 583 = .ok (.dup, 1) := by decide +kernel
theorem dX7_init_584 : decode cX7_init 584 = .ok (.bipush 83, 2) := by decide +kernel
theorem dX7_init_586 : decode cX7_init 586 = .ok (.bipush 116, 2) := by decide +kernel
theorem dX7_init_588 : decode cX7_init 588 = .ok (.castore, 1) := by decide +kernel
theorem dX7_init_589 : decode cX7_init 589 = .ok (.dup, 1) := by decide +kernel
theorem dX7_init_590 : decode cX7_init 590 = .ok (.bipush 84, 2) := by decide +kernel
theorem dX7_init_592 : decode cX7_init 592 = .ok (.bipush 104, 2) := by decide +kernel
theorem dX7_init_594 : decode cX7_init 594 = .ok (.castore, 1) := by decide +kernel
theorem dX7_init_595 : decode cX7_init 595 = .ok (.putfield 40, 3) := by decide +kernel
theorem dX7_init_598 : decode cX7_init 598 = .ok (.aload_n 0, 1) := by decide +kernel
theorem dX7_init_599 : decode cX7_init 599 = .ok (.bipush 18, 2) := by decide +kernel
theorem dX7_init_601 : decode cX7_init 601 = .ok (.newarray .int, 2) := by decide +kernel
theorem dX7_init_603 : decode cX7_init 603 = .ok (.dup, 1) := by decide +kernel
theorem dX7_init_604 : decode cX7_init 604 = .ok (.iconst 0, 1) := by decide +kernel
theorem dX7_init_605 : decode cX7_init 605 = .ok (.iconst 0, 1) := by decide +kernel
theorem dX7_init_606 : decode cX7_init 606 = .ok (.iastore, 1) := by decide +kernel
theorem dX7_init_607 : decode cX7_init 607 = .ok (.dup, 1) := by decide +kernel
theorem dX7_init_608 : decode cX7_init 608 = .ok (.iconst 1, 1) := by decide +kernel
theorem dX7_init_609 : decode cX7_init 609 = .ok (.iconst 4, 1) := by decide +kernel
theorem dX7_init_610 : decode cX7_init 610 = .ok (.iastore, 1) := by decide +kernel
theorem dX7_init_611 : decode cX7_init 611 = .ok (.dup, 1) := by decide +kernel
theorem dX7_init_612 : decode cX7_init 612 = .ok (.iconst 2, 1) := by decide +kernel
theorem dX7_init_613 : decode cX7_init 613 = .ok (.bipush 8, 2) := by decide +kernel
theorem dX7_init_615 : decode cX7_init 615 = .ok (.iastore, 1) := by decide +kernel
theorem dX7_init_616 : decode cX7_init 616 = .ok (.dup, 1) := by decide +kernel
theorem dX7_init_617 : decode cX7_init 617 = .ok (.iconst 3, 1) := by decide +kernel
theorem dX7_init_618 : decode cX7_init 618 = .ok (.bipush 14, 2) := by decide +kernel
theorem dX7_init_620 : decode cX7_init 620 = .ok (.iastore, 1) := by decide +kernel
theorem dX7_init_621 : decode cX7_init 621 = .ok (.dup, 1) := by decide +kernel
theorem dX7_init_622 : decode cX7_init 622 = .ok (.iconst 4, 1) := by decide +kernel
theorem dX7_init_623 : decode cX7_init 623 = .ok (.bipush 20, 2) := by decide +kernel
theorem dX7_init_625 : decode cX7_init 625 = .ok (.iastore, 1) := by decide +kernel
theorem dX7_init_626 : decode cX7_init 626 = .ok (.dup, 1) := by decide +kernel
theorem dX7_init_627 : decode cX7_init 627 = .ok (.iconst 5, 1) := by decide +kernel
theorem dX7_init_628 : decode cX7_init 628 = .ok (.bipush 26, 2) := by decide +kernel
theorem dX7_init_630 : decode cX7_init 630 = .ok (.iastore, 1) := by decide +kernel
theorem dX7_init_631 : decode cX7_init 631 = .ok (.dup, 1) := by decide +kernel
theorem dX7_init_632 : decode cX7_init 632 = .ok (.bipush 6, 2) := by decide +kernel
theorem dX7_init_634 : decode cX7_init 634 = .ok (.bipush 31, 2) := by decide +kernel
theorem dX7_init_636 : decode cX7_init 636 = .ok (.iastore, 1) := by decide +kernel
theorem dX7_init_637 : decode cX7_init 637 = .ok (.dup, 1) := by decide +kernel
theorem dX7_init_638 : decode cX7_init 638 = .ok (.bipush 7, 2) := by decide +kernel
theorem dX7_init_640 : decode cX7_init 640 = .ok (.bipush 35, 2) := by decide +kernel
theorem dX7_init_642 : decode cX7_init 642 = .ok (.iastore, 1) := by decide +kernel
theorem dX7_init_643 : decode cX7_init 643 = .ok (.dup, 1) := by decide +kernel
theorem dX7_init_644 : decode cX7_init 644 = .ok (.bipush 8, 2) := by decide +kernel
theorem dX7_init_646 : decode cX7_init 646 = .ok (.bipush 39, 2) := by decide +kernel
theorem dX7_init_648 : decode cX7_init 648 = .ok (.iastore, 1) := by decide +kernel
theorem dX7_init_649 : decode cX7_init 649 = .ok (.dup, 1) := by decide +kernel
theorem dX7_init_650 : decode cX7_init 650 = .ok (.bipush 9, 2) := by decide +kernel
theorem dX7_init_652 : decode cX7_init 652 = .ok (.bipush 46, 2) := by decide +kernel
theorem dX7_init_654 : decode cX7_init 654 = .ok (.iastore, 1) := by decide +kernel
theorem dX7_init_655 : decode cX7_init 655 = .ok (.dup, 1) := by decide +kernel
theorem dX7_init_656 : decode cX7_init 656 = .ok (.bipush 10, 2) := by decide +kernel
theorem dX7_init_658 : decode cX7_init 658 = .ok (.bipush 50, 2) := by decide +kernel
theorem dX7_init_660 : decode cX7_init 660 = .ok (.iastore, 1) := by decide +kernel
theorem dX7_init_661 : decode cX7_init 661 = .ok (.dup, 1) := by decide +kernel
theorem dX7_init_662 : decode cX7_init 662 = .ok (.bipush 11, 2) := by decide +kernel
theorem dX7_init_664 : decode cX7_init 664 = .ok (.bipush 55, 2) := by decide +kernel
theorem dX7_init_666 : decode cX7_init 666 = .ok (.iastore, 1) := by decide +kernel
theorem dX7_init_667 : decode cX7_init 667 = .ok (.dup, 1) := by decide +kernel
theorem dX7_init_668 : decode cX7_init 668 = .ok (.bipush 12, 2) := by decide +kernel
theorem dX7_init_670 : decode cX7_init 670 = .ok (.bipush 60, 2) := by decide +kernel
theorem dX7_init_672 : decode cX7_init 672 = .ok (.iastore, 1) := by decide +kernel
theorem dX7_init_673 : decode cX7_init 673 = .ok (.dup, 1) := by decide +kernel
theorem dX7_init_674 : decode cX7_init 674 = .ok (.bipush 13, 2) := by decide +kernel
theorem dX7_init_676 : decode cX7_init 676 = .ok (.bipush 65, 2) := by decide +kernel
theorem dX7_init_678 : decode cX7_init 678 = .ok (.iastore, 1) := by decide +kernel
theorem dX7_init_679 : decode cX7_init 679 = .ok (.dup, 1) := by decide +kernel
theorem dX7_init_680 : decode cX7_init 680 = .ok (.bipush 14, 2) := by decide +kernel
theorem dX7_init_682 : decode cX7_init 682 = .ok (.bipush 69, 2) := by decide +kernel
theorem dX7_init_684 : decode cX7_init 684 = .ok (.iastore, 1) := by decide +kernel
theorem dX7_init_685 : decode cX7_init 685 = .ok (.dup, 1) := by decide +kernel
theorem dX7_init_686 : decode cX7_init 686 = .ok (.bipush 15, 2) := by decide +kernel
theorem dX7_init_688 : decode cX7_init 688 = .ok (.bipush 71, 2) := by decide +kernel
theorem dX7_init_690 : decode cX7_init 690 = .ok (.iastore, 1) := by decide +kernel
theorem dX7_init_691 : decode cX7_init 691 = .ok (.dup, 1) := by decide +kernel
theorem dX7_init_692 : decode cX7_init 692 = .ok (.bipush 16, 2) := by decide +kernel
theorem dX7_init_694 : decode cX7_init 694 = .ok (.bipush 79, 2) := by decide +kernel
theorem dX7_init_696 : decode cX7_init 696 = .ok (.iastore, 1) := by decide +kernel
theorem dX7_init_697 : decode cX7_init 697 = .ok (.dup, 1) := by decide +kernel
theorem dX7_init_698 : decode cX7_init 698 = .ok (.bipush 17, 2) := by decide +kernel
theorem dX7_init_700 : decode cX7_init 700 = .ok (.bipush 85, 2) := by decide +kernel
theorem dX7_init_702 : decode cX7_init 702 = .ok (.iastore, 1) := by decide +kernel
theorem dX7_init_703 : decode cX7_init 703 = .ok (.putfield 44, 3) := by decide +kernel
theorem dX7_init_706 : decode cX7_init 706 = .ok (.aload_n 0, 1) := by decide +kernel
theorem dX7_init_707 : decode cX7_init 707 = .ok (.iconst 4, 1) := by decide +kernel
theorem dX7_init_708 : decode cX7_init 708 = .ok (.newarray .int, 2) := by decide +kernel
theorem dX7_init_710 : decode cX7_init 710 = .ok (.putfield 47, 3) := by decide +kernel
theorem dX7_init_713 : decode cX7_init 713 = .ok (.aload_n 0, 1) := by decide +kernel
theorem dX7_init_714 : decode cX7_init 714 = .ok (.iconst 4, 1) := by decide +kernel
theorem dX7_init_715 : decode cX7_init 715 = .ok (.newarray .int, 2) := by decide +kernel
theorem dX7_init_717 : decode cX7_init 717 = .ok (.putfield 50, 3) := by decide +kernel
theorem dX7_init_720 : decode cX7_init 720 = .ok (.aload_n 0, 1) := by decide +kernel
theorem dX7_init_721 : decode cX7_init 721 = .ok (.sipush 160, 3) := by decide +kernel
theorem dX7_init_724 : decode cX7_init 724 = .ok (.newarray .long, 2) := by decide +kernel
theorem dX7_init_726 : decode cX7_init 726 = .ok (.putfield 53, 3) := by decide +kernel
theorem dX7_init_729 : decode cX7_init 729 = .ok (.aload_n 0, 1) := by decide +kernel
theorem dX7_init_730 : decode cX7_init 730 = .ok (.bipush 40, 2) := by decide +kernel
theorem dX7_init_732 : decode cX7_init 732 = .ok (.newarray .long, 2) := by decide +kernel
theorem dX7_init_734 : decode cX7_init 734 = .ok (.putfield 57, 3) := by decide +kernel
theorem dX7_init_737 : decode cX7_init 737 = .ok (.aload_n 0, 1) := by decide +kernel
theorem dX7_init_738 : decode cX7_init 738 = .ok (.getfield 9, 3) := by decide +kernel
theorem dX7_init_741 : decode cX7_init 741 = .ok (.iconst 1, 1) := by decide +kernel
theorem dX7_init_742 : decode cX7_init 742 = .ok (.bipush 20, 2) := by decide +kernel
theorem dX7_init_744 : decode cX7_init 744 = .ok (.iastore, 1) := by decide +kernel
theorem dX7_init_745 : decode cX7_init 745 = .ok (.aload_n 0, 1) := by decide +kernel
theorem dX7_init_746 : decode cX7_init 746 = .ok (.getfield 9, 3) := by decide +kernel
theorem dX7_init_749 : decode cX7_init 749 = .ok (.iconst 2, 1) := by decide +kernel
theorem dX7_init_750 : decode cX7_init 750 = .ok (.bipush 60, 2) := by decide +kernel
theorem dX7_init_752 : decode cX7_init 752 = .ok (.iastore, 1) := by decide +kernel
theorem dX7_init_753 : decode cX7_init 753 = .ok (.return_, 1) := by decide +kernel
def wI_X7 : List Cond := Cond.code yX7_init cX7_init 1 none :: gw
set_option maxRecDepth 100000 in
theorem wq_34 : Cond.code yX7_init cX7_init 1 none ∈ gw := gw_in 803 rfl (by decide +kernel)
theorem gI_X7 : GoodIn gw wI_X7 := fun w h => by
  rcases List.mem_cons.mp h with rfl | h
  · exact ⟨wq_34, good_of_word (gw_good _ wq_34)⟩
  · exact ⟨h, good_of_word (gw_good w h)⟩
theorem wq_35 : Cond.instanceMethod yX7_init ∈ gw := gw_in 802 (by decide +kernel) (by decide +kernel)
theorem wq_36 : Cond.initialized RX7 ∈ gw := gw_in 63 (by decide +kernel) (by decide +kernel)
theorem wq_37 : Cond.instantiable RX7 26 ∈ gw := gw_in 800 (by decide +kernel) (by decide +kernel)
theorem wq_38 : Cond.methodLink RX3 3 objectInit ∈ gw := gw_in 85 (by decide +kernel) (by decide +kernel)
theorem wq_39 : Cond.fieldLink RX3 9 "FortyReports$School" "traits" "[I" ∈ gw := gw_in 91 (by decide +kernel) (by decide +kernel)
theorem wq_40 : Cond.fieldLink RX3 15 "FortyReports$School" "seen" "[I" ∈ gw := gw_in 94 (by decide +kernel) (by decide +kernel)
theorem wq_41 : Cond.fieldLink RX3 18 "FortyReports$School" "sex" "[I" ∈ gw := gw_in 97 (by decide +kernel) (by decide +kernel)
theorem wq_42 : Cond.fieldLink RX3 21 "FortyReports$School" "brother" "[I" ∈ gw := gw_in 100 (by decide +kernel) (by decide +kernel)
theorem wq_43 : Cond.fieldLink RX3 24 "FortyReports$School" "reports" "[I" ∈ gw := gw_in 103 (by decide +kernel) (by decide +kernel)
theorem wq_44 : Cond.fieldLink RX3 27 "FortyReports$School" "kind" "[I" ∈ gw := gw_in 111 (by decide +kernel) (by decide +kernel)
theorem wq_45 : Cond.fieldLink RX3 30 "FortyReports$School" "trait" "[I" ∈ gw := gw_in 114 (by decide +kernel) (by decide +kernel)
theorem wq_46 : Cond.fieldLink RX3 33 "FortyReports$School" "low" "[I" ∈ gw := gw_in 116 (by decide +kernel) (by decide +kernel)
theorem wq_47 : Cond.fieldLink RX3 36 "FortyReports$School" "high" "[I" ∈ gw := gw_in 118 (by decide +kernel) (by decide +kernel)
theorem wq_48 : Cond.fieldLink RX3 39 "FortyReports$School" "words" "[I" ∈ gw := gw_in 120 (by decide +kernel) (by decide +kernel)
theorem wq_49 : Cond.fieldLink RX3 42 "FortyReports$School" "patience" "I" ∈ gw := gw_in 127 (by decide +kernel) (by decide +kernel)
theorem wq_50 : Cond.fieldLink RX3 46 "FortyReports$School" "length" "I" ∈ gw := gw_in 131 (by decide +kernel) (by decide +kernel)
theorem wq_51 : Cond.methodLink RX1 3 objectInit ∈ gw := gw_in 176 (by decide +kernel) (by decide +kernel)
theorem wq_52 : Cond.fieldLink RX1 9 "FortyReports$Pen" "used" "[I" ∈ gw := gw_in 177 (by decide +kernel) (by decide +kernel)
theorem wq_53 : Cond.fieldLink RX1 15 "FortyReports$Pen" "says" "[I" ∈ gw := gw_in 183 (by decide +kernel) (by decide +kernel)
theorem wq_54 : Cond.fieldLink RX1 18 "FortyReports$Pen" "worth" "[I" ∈ gw := gw_in 184 (by decide +kernel) (by decide +kernel)
theorem wq_55 : Cond.methodLink RX2 3 objectInit ∈ gw := gw_in 201 (by decide +kernel) (by decide +kernel)
theorem wq_56 : Cond.fieldLink RX2 9 "FortyReports$Planner" "best" "[I" ∈ gw := gw_in 202 (by decide +kernel) (by decide +kernel)
theorem wq_57 : Cond.fieldLink RX2 15 "FortyReports$Planner" "tried" "[I" ∈ gw := gw_in 206 (by decide +kernel) (by decide +kernel)
theorem wq_58 : Cond.fieldLink RX2 18 "FortyReports$Planner" "trial" "LFortyReports$School;" ∈ gw := gw_in 207 (by decide +kernel) (by decide +kernel)
theorem wq_59 : Cond.fieldLink RX2 22 "FortyReports$Planner" "pen" "LFortyReports$Pen;" ∈ gw := gw_in 208 (by decide +kernel) (by decide +kernel)
theorem wq_60 : Cond.methodLink RX5 3 objectInit ∈ gw := gw_in 225 (by decide +kernel) (by decide +kernel)
theorem wq_61 : Cond.fieldLink RX5 9 "FortyReports$Sieve" "suitable" "[I" ∈ gw := gw_in 226 (by decide +kernel) (by decide +kernel)
theorem wq_62 : Cond.methodLink RX0 3 objectInit ∈ gw := gw_in 238 (by decide +kernel) (by decide +kernel)
theorem wq_63 : Cond.fieldLink RX0 9 "FortyReports$HeapText" "bytes" "[B" ∈ gw := gw_in 239 (by decide +kernel) (by decide +kernel)
theorem wq_64 : Cond.methodLink RX4 3 objectInit ∈ gw := gw_in 267 (by decide +kernel) (by decide +kernel)
theorem wq_65 : Cond.fieldLink RX4 9 "FortyReports$Sheet" "numbers" "[J" ∈ gw := gw_in 272 (by decide +kernel) (by decide +kernel)
theorem wq_66 : Cond.methodLink RX6 1 objectInit ∈ gw := gw_in 77 (by decide +kernel) (by decide +kernel)
theorem wq_67 : Cond.classLink RX6 7 RX3 ∈ gw := gw_in 80 (by decide +kernel) (by decide +kernel)
theorem wr_0 : Cond.methodLinkNest RX6 9 yX3_init "FortyReports" ∈ lw_tbl := List.mem_of_getElem? (i := 82) (by decide +kernel)
theorem wq_68 : Cond.fieldLink RX6 10 "FortyReports" "school" "LFortyReports$School;" ∈ gw := gw_in 282 (by decide +kernel) (by decide +kernel)
theorem wq_69 : Cond.fieldLink RX6 16 "FortyReports" "kept" "LFortyReports$School;" ∈ gw := gw_in 283 (by decide +kernel) (by decide +kernel)
theorem wq_70 : Cond.fieldLink RX6 19 "FortyReports" "trial" "LFortyReports$School;" ∈ gw := gw_in 284 (by decide +kernel) (by decide +kernel)
theorem wq_71 : Cond.classLink RX6 22 RX1 ∈ gw := gw_in 171 (by decide +kernel) (by decide +kernel)
theorem wr_1 : Cond.methodLinkNest RX6 24 yX1_init "FortyReports" ∈ lw_tbl := List.mem_of_getElem? (i := 173) (by decide +kernel)
theorem wq_72 : Cond.fieldLink RX6 25 "FortyReports" "pen" "LFortyReports$Pen;" ∈ gw := gw_in 285 (by decide +kernel) (by decide +kernel)
theorem wq_73 : Cond.classLink RX6 29 RX2 ∈ gw := gw_in 196 (by decide +kernel) (by decide +kernel)
theorem wq_74 : Cond.methodLink RX6 31 yX2_init ∈ gw := gw_in 198 (by decide +kernel) (by decide +kernel)
theorem wq_75 : Cond.fieldLink RX6 34 "FortyReports" "planner" "LFortyReports$Planner;" ∈ gw := gw_in 286 (by decide +kernel) (by decide +kernel)
theorem wq_76 : Cond.classLink RX6 38 RX5 ∈ gw := gw_in 220 (by decide +kernel) (by decide +kernel)
theorem wr_2 : Cond.methodLinkNest RX6 40 yX5_init "FortyReports" ∈ lw_tbl := List.mem_of_getElem? (i := 222) (by decide +kernel)
theorem wq_77 : Cond.fieldLink RX6 41 "FortyReports" "sieve" "LFortyReports$Sieve;" ∈ gw := gw_in 287 (by decide +kernel) (by decide +kernel)
theorem wq_78 : Cond.classLink RX6 45 RX0 ∈ gw := gw_in 233 (by decide +kernel) (by decide +kernel)
theorem wr_3 : Cond.methodLinkNest RX6 47 yX0_init "FortyReports" ∈ lw_tbl := List.mem_of_getElem? (i := 235) (by decide +kernel)
theorem wq_79 : Cond.fieldLink RX6 48 "FortyReports" "tape" "LFortyReports$HeapText;" ∈ gw := gw_in 288 (by decide +kernel) (by decide +kernel)
theorem wq_80 : Cond.classLink RX6 52 RX4 ∈ gw := gw_in 261 (by decide +kernel) (by decide +kernel)
theorem wr_4 : Cond.methodLinkNest RX6 54 yX4_init "FortyReports" ∈ lw_tbl := List.mem_of_getElem? (i := 264) (by decide +kernel)
theorem wq_81 : Cond.fieldLink RX6 55 "FortyReports" "sheets" "[LFortyReports$Sheet;" ∈ gw := gw_in 289 (by decide +kernel) (by decide +kernel)
theorem wq_82 : Cond.fieldLink RX6 59 "FortyReports" "told" "[I" ∈ gw := gw_in 290 (by decide +kernel) (by decide +kernel)
theorem wq_83 : Cond.methodLink RX7 1 objectInit ∈ gw := gw_in 804 (by decide +kernel) (by decide +kernel)
theorem wq_84 : Cond.fieldLink RX7 9 "FortyReportsModel" "now" "[I" ∈ gw := gw_in 805 (by decide +kernel) (by decide +kernel)
theorem wq_85 : Cond.fieldLink RX7 13 "FortyReportsModel" "kept" "[I" ∈ gw := gw_in 806 (by decide +kernel) (by decide +kernel)
theorem wq_86 : Cond.fieldLink RX7 16 "FortyReportsModel" "aside" "[I" ∈ gw := gw_in 807 (by decide +kernel) (by decide +kernel)
theorem wq_87 : Cond.fieldLink RX7 19 "FortyReportsModel" "found" "[I" ∈ gw := gw_in 809 (by decide +kernel) (by decide +kernel)
theorem wq_88 : Cond.fieldLink RX7 22 "FortyReportsModel" "used" "[I" ∈ gw := gw_in 811 (by decide +kernel) (by decide +kernel)
theorem wq_89 : Cond.fieldLink RX7 25 "FortyReportsModel" "worths" "[I" ∈ gw := gw_in 814 (by decide +kernel) (by decide +kernel)
theorem wq_90 : Cond.fieldLink RX7 28 "FortyReportsModel" "row" "[I" ∈ gw := gw_in 815 (by decide +kernel) (by decide +kernel)
theorem wq_91 : Cond.fieldLink RX7 31 "FortyReportsModel" "best" "[I" ∈ gw := gw_in 816 (by decide +kernel) (by decide +kernel)
theorem wq_92 : Cond.fieldLink RX7 34 "FortyReportsModel" "fitTo" "[I" ∈ gw := gw_in 817 (by decide +kernel) (by decide +kernel)
theorem wq_93 : Cond.fieldLink RX7 37 "FortyReportsModel" "tape" "[I" ∈ gw := gw_in 818 (by decide +kernel) (by decide +kernel)
theorem wq_94 : Cond.fieldLink RX7 40 "FortyReportsModel" "names" "[C" ∈ gw := gw_in 820 (by decide +kernel) (by decide +kernel)
theorem wq_95 : Cond.fieldLink RX7 44 "FortyReportsModel" "nameAt" "[I" ∈ gw := gw_in 821 (by decide +kernel) (by decide +kernel)
theorem wq_96 : Cond.fieldLink RX7 47 "FortyReportsModel" "widths" "[I" ∈ gw := gw_in 827 (by decide +kernel) (by decide +kernel)
theorem wq_97 : Cond.fieldLink RX7 50 "FortyReportsModel" "sizes" "[I" ∈ gw := gw_in 828 (by decide +kernel) (by decide +kernel)
theorem wq_98 : Cond.fieldLink RX7 53 "FortyReportsModel" "cells" "[J" ∈ gw := gw_in 829 (by decide +kernel) (by decide +kernel)
theorem wq_99 : Cond.fieldLink RX7 57 "FortyReportsModel" "moved" "[J" ∈ gw := gw_in 830 (by decide +kernel) (by decide +kernel)
