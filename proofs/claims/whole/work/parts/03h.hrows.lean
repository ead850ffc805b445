/-! each op, found in the tables (hrows) -/
theorem h0_0 : code_ 0 0 = opC (vI 0) 1 := rfl
theorem h0_1 : code_ 0 1 = opIst 2 2 := rfl
theorem h0_2 : code_ 0 2 = opIld 2 3 := rfl
theorem h0_3 : code_ 0 3 = opC (vI 12) 5 := rfl
theorem h0_5 : code_ 0 5 = opCpGe 25 8 := rfl
theorem h0_8 : code_ 0 8 = opAld 0 9 := rfl
theorem h0_9 : code_ 0 9 = opGR 0 3 1 100012 12 := rfl
theorem h0_12 : code_ 0 12 = opIld 2 13 := rfl
theorem h0_13 : code_ 0 13 = opAld 1 14 := rfl
theorem h0_14 : code_ 0 14 = opIld 2 15 := rfl
theorem h0_15 : code_ 0 15 = opK kI 15 2 1 18 := rfl
theorem h0_18 : code_ 0 18 = opIas 19 := rfl
theorem h0_19 : code_ 0 19 = opInc 2 1 22 := rfl
theorem h0_22 : code_ 0 22 = opGoto 2 := rfl
theorem h0_25 : code_ 0 25 = opAld 0 26 := rfl
theorem h0_26 : code_ 0 26 = opC (vI 0) 27 := rfl
theorem h0_27 : code_ 0 27 = opPI 0 0 30 := rfl
theorem h0_30 : code_ 0 30 = opC (vI 12) 32 := rfl
theorem h0_32 : code_ 0 32 = opIst 2 33 := rfl
theorem h0_33 : code_ 0 33 = opMask [1] (opIld 2 34) := rfl
theorem h0_34 : code_ 0 34 = opC (vI 1) 35 := rfl
theorem h0_35 : code_ 0 35 = opCpLt 49 38 := rfl
theorem h0_38 : code_ 0 38 = opAld 0 39 := rfl
theorem h0_39 : code_ 0 39 = opIld 2 40 := rfl
theorem h0_40 : code_ 0 40 = opK kV 1 2 0 43 := rfl
theorem h0_43 : code_ 0 43 = opInc 2 (-1) 46 := rfl
theorem h0_46 : code_ 0 46 = opGoto 33 := rfl
theorem h0_49 : code_ 0 49 = opAld 0 50 := rfl
theorem h0_50 : code_ 0 50 = opAld 0 51 := rfl
theorem h0_51 : code_ 0 51 = opGI 0 0 54 := rfl
theorem h0_54 : code_ 0 54 = opPI 0 1 57 := rfl
theorem h0_57 : code_ 0 57 = opAld 0 58 := rfl
theorem h0_58 : code_ 0 58 = opAld 0 59 := rfl
theorem h0_59 : code_ 0 59 = opK kI 3 1 0 62 := rfl
theorem h0_62 : code_ 0 62 = opPI 0 2 65 := rfl
theorem h0_65 : code_ 0 65 = opAld 0 66 := rfl
theorem h0_66 : code_ 0 66 = opC (vI 0) 67 := rfl
theorem h0_67 : code_ 0 67 = opC (vI 0) 68 := rfl
theorem h0_68 : code_ 0 68 = opK kV 4 3 0 71 := rfl
theorem h0_71 : code_ 0 71 = opAld 0 72 := rfl
theorem h0_72 : code_ 0 72 = opGI 0 1 75 := rfl
theorem h0_75 : code_ 0 75 = opIret := rfl
theorem h1_0 : code_ 1 0 = opC (vI 0) 1 := rfl
theorem h1_1 : code_ 1 1 = opIst 2 2 := rfl
theorem h1_2 : code_ 1 2 = opIld 2 3 := rfl
theorem h1_3 : code_ 1 3 = opC (vI 12) 5 := rfl
theorem h1_5 : code_ 1 5 = opCpGe 62 8 := rfl
theorem h1_8 : code_ 1 8 = opAld 0 9 := rfl
theorem h1_9 : code_ 1 9 = opAld 0 10 := rfl
theorem h1_10 : code_ 1 10 = opGR 0 3 1 100012 13 := rfl
theorem h1_13 : code_ 1 13 = opIld 2 14 := rfl
theorem h1_14 : code_ 1 14 = opIal 15 := rfl
theorem h1_15 : code_ 1 15 = opK kI 2 2 0 18 := rfl
theorem h1_18 : code_ 1 18 = opIld 1 19 := rfl
theorem h1_19 : code_ 1 19 = opCpNe 56 22 := rfl
theorem h1_22 : code_ 1 22 = opAld 0 23 := rfl
theorem h1_23 : code_ 1 23 = opGI 0 0 26 := rfl
theorem h1_26 : code_ 1 26 = opC (vI 12) 28 := rfl
theorem h1_28 : code_ 1 28 = opCpGe 56 31 := rfl
theorem h1_31 : code_ 1 31 = opAld 0 32 := rfl
theorem h1_32 : code_ 1 32 = opGR 0 4 2 100012 35 := rfl
theorem h1_35 : code_ 1 35 = opAld 0 36 := rfl
theorem h1_36 : code_ 1 36 = opGI 0 0 39 := rfl
theorem h1_39 : code_ 1 39 = opAld 0 40 := rfl
theorem h1_40 : code_ 1 40 = opGR 0 3 1 100012 43 := rfl
theorem h1_43 : code_ 1 43 = opIld 2 44 := rfl
theorem h1_44 : code_ 1 44 = opIal 45 := rfl
theorem h1_45 : code_ 1 45 = opIas 46 := rfl
theorem h1_46 : code_ 1 46 = opAld 0 47 := rfl
theorem h1_47 : code_ 1 47 = opDup 48 := rfl
theorem h1_48 : code_ 1 48 = opGI 0 0 51 := rfl
theorem h1_51 : code_ 1 51 = opC (vI 1) 52 := rfl
theorem h1_52 : code_ 1 52 = opB (fun x y => x + y) 53 := rfl
theorem h1_53 : code_ 1 53 = opPI 0 0 56 := rfl
theorem h1_56 : code_ 1 56 = opInc 2 1 59 := rfl
theorem h1_59 : code_ 1 59 = opGoto 2 := rfl
theorem h1_62 : code_ 1 62 = opRet := rfl
theorem h2_0 : code_ 2 0 = opC (vI 0) 1 := rfl
theorem h2_1 : code_ 2 1 = opIst 2 2 := rfl
theorem h2_2 : code_ 2 2 = opC (vI 0) 3 := rfl
theorem h2_3 : code_ 2 3 = opIst 3 4 := rfl
theorem h2_4 : code_ 2 4 = opIld 3 5 := rfl
theorem h2_5 : code_ 2 5 = opC (vI 12) 7 := rfl
theorem h2_7 : code_ 2 7 = opCpGe 30 10 := rfl
theorem h2_10 : code_ 2 10 = opAld 0 11 := rfl
theorem h2_11 : code_ 2 11 = opGR 0 3 1 100012 14 := rfl
theorem h2_14 : code_ 2 14 = opIld 3 15 := rfl
theorem h2_15 : code_ 2 15 = opIal 16 := rfl
theorem h2_16 : code_ 2 16 = opIld 1 17 := rfl
theorem h2_17 : code_ 2 17 = opB (fun x y => x &&& y) 18 := rfl
theorem h2_18 : code_ 2 18 = opIfEq 24 21 := rfl
theorem h2_21 : code_ 2 21 = opInc 2 1 24 := rfl
theorem h2_24 : code_ 2 24 = opInc 3 1 27 := rfl
theorem h2_27 : code_ 2 27 = opGoto 4 := rfl
theorem h2_30 : code_ 2 30 = opIld 2 31 := rfl
theorem h2_31 : code_ 2 31 = opIret := rfl
theorem h3_0 : code_ 3 0 = opC (vI 0) 1 := rfl
theorem h3_1 : code_ 3 1 = opIst 1 2 := rfl
theorem h3_2 : code_ 3 2 = opC (vI 0) 3 := rfl
theorem h3_3 : code_ 3 3 = opIst 2 4 := rfl
theorem h3_4 : code_ 3 4 = opIld 2 5 := rfl
theorem h3_5 : code_ 3 5 = opC (vI 16) 7 := rfl
theorem h3_7 : code_ 3 7 = opCpGe 28 10 := rfl
theorem h3_10 : code_ 3 10 = opIld 1 11 := rfl
theorem h3_11 : code_ 3 11 = opAld 0 12 := rfl
theorem h3_12 : code_ 3 12 = opC (vI 1) 13 := rfl
theorem h3_13 : code_ 3 13 = opIld 2 14 := rfl
theorem h3_14 : code_ 3 14 = opB shlI 15 := rfl
theorem h3_15 : code_ 3 15 = opK kI 2 2 0 18 := rfl
theorem h3_18 : code_ 3 18 = opM maxI 21 := rfl
theorem h3_21 : code_ 3 21 = opIst 1 22 := rfl
theorem h3_22 : code_ 3 22 = opInc 2 1 25 := rfl
theorem h3_25 : code_ 3 25 = opGoto 4 := rfl
theorem h3_28 : code_ 3 28 = opIld 1 29 := rfl
theorem h3_29 : code_ 3 29 = opIret := rfl
theorem h4_0 : code_ 4 0 = opIld 2 1 := rfl
theorem h4_1 : code_ 4 1 = opAld 0 2 := rfl
theorem h4_2 : code_ 4 2 = opGI 0 1 5 := rfl
theorem h4_5 : code_ 4 5 = opCpGe 19 8 := rfl
theorem h4_8 : code_ 4 8 = opAld 0 9 := rfl
theorem h4_9 : code_ 4 9 = opGI 0 1 12 := rfl
theorem h4_12 : code_ 4 12 = opAld 0 13 := rfl
theorem h4_13 : code_ 4 13 = opGI 0 2 16 := rfl
theorem h4_16 : code_ 4 16 = opCpGt 20 19 := rfl
theorem h4_19 : code_ 4 19 = opMask [0, 1, 2, 3] (opRet) := rfl
theorem h4_20 : code_ 4 20 = opIld 1 21 := rfl
theorem h4_21 : code_ 4 21 = opAld 0 22 := rfl
theorem h4_22 : code_ 4 22 = opGI 0 0 25 := rfl
theorem h4_25 : code_ 4 25 = opCpGe 34 28 := rfl
theorem h4_28 : code_ 4 28 = opIld 1 29 := rfl
theorem h4_29 : code_ 4 29 = opC (vI 12) 31 := rfl
theorem h4_31 : code_ 4 31 = opCpLt 40 34 := rfl
theorem h4_34 : code_ 4 34 = opMask [1, 3] (opAld 0 35) := rfl
theorem h4_35 : code_ 4 35 = opIld 2 36 := rfl
theorem h4_36 : code_ 4 36 = opPI 0 1 39 := rfl
theorem h4_39 : code_ 4 39 = opRet := rfl
theorem h4_40 : code_ 4 40 = opC (vI 0) 41 := rfl
theorem h4_41 : code_ 4 41 = opIst 3 42 := rfl
theorem h4_42 : code_ 4 42 = opIld 3 43 := rfl
theorem h4_43 : code_ 4 43 = opIld 2 44 := rfl
theorem h4_44 : code_ 4 44 = opCpGe 109 47 := rfl
theorem h4_47 : code_ 4 47 = opAld 0 48 := rfl
theorem h4_48 : code_ 4 48 = opGR 0 5 3 100012 51 := rfl
theorem h4_51 : code_ 4 51 = opIld 3 52 := rfl
theorem h4_52 : code_ 4 52 = opIal 53 := rfl
theorem h4_53 : code_ 4 53 = opAld 0 54 := rfl
theorem h4_54 : code_ 4 54 = opGR 0 4 2 100012 57 := rfl
theorem h4_57 : code_ 4 57 = opIld 1 58 := rfl
theorem h4_58 : code_ 4 58 = opIal 59 := rfl
theorem h4_59 : code_ 4 59 = opB (fun x y => x &&& y) 60 := rfl
theorem h4_60 : code_ 4 60 = opIfNe 103 63 := rfl
theorem h4_63 : code_ 4 63 = opAld 0 64 := rfl
theorem h4_64 : code_ 4 64 = opGR 0 5 3 100012 67 := rfl
theorem h4_67 : code_ 4 67 = opIld 3 68 := rfl
theorem h4_68 : code_ 4 68 = opDup2 69 := rfl
theorem h4_69 : code_ 4 69 = opIal 70 := rfl
theorem h4_70 : code_ 4 70 = opAld 0 71 := rfl
theorem h4_71 : code_ 4 71 = opGR 0 4 2 100012 74 := rfl
theorem h4_74 : code_ 4 74 = opIld 1 75 := rfl
theorem h4_75 : code_ 4 75 = opIal 76 := rfl
theorem h4_76 : code_ 4 76 = opB (fun x y => x ||| y) 77 := rfl
theorem h4_77 : code_ 4 77 = opIas 78 := rfl
theorem h4_78 : code_ 4 78 = opAld 0 79 := rfl
theorem h4_79 : code_ 4 79 = opIld 1 80 := rfl
theorem h4_80 : code_ 4 80 = opC (vI 1) 81 := rfl
theorem h4_81 : code_ 4 81 = opB (fun x y => x + y) 82 := rfl
theorem h4_82 : code_ 4 82 = opIld 2 83 := rfl
theorem h4_83 : code_ 4 83 = opK kV 4 3 0 86 := rfl
theorem h4_86 : code_ 4 86 = opAld 0 87 := rfl
theorem h4_87 : code_ 4 87 = opGR 0 5 3 100012 90 := rfl
theorem h4_90 : code_ 4 90 = opIld 3 91 := rfl
theorem h4_91 : code_ 4 91 = opDup2 92 := rfl
theorem h4_92 : code_ 4 92 = opIal 93 := rfl
theorem h4_93 : code_ 4 93 = opAld 0 94 := rfl
theorem h4_94 : code_ 4 94 = opGR 0 4 2 100012 97 := rfl
theorem h4_97 : code_ 4 97 = opIld 1 98 := rfl
theorem h4_98 : code_ 4 98 = opIal 99 := rfl
theorem h4_99 : code_ 4 99 = opC (vI (-1)) 100 := rfl
theorem h4_100 : code_ 4 100 = opB (fun x y => x ^^^ y) 101 := rfl
theorem h4_101 : code_ 4 101 = opB (fun x y => x &&& y) 102 := rfl
theorem h4_102 : code_ 4 102 = opIas 103 := rfl
theorem h4_103 : code_ 4 103 = opInc 3 1 106 := rfl
theorem h4_106 : code_ 4 106 = opGoto 42 := rfl
theorem h4_109 : code_ 4 109 = opAld 0 110 := rfl
theorem h4_110 : code_ 4 110 = opGR 0 5 3 100012 113 := rfl
theorem h4_113 : code_ 4 113 = opIld 2 114 := rfl
theorem h4_114 : code_ 4 114 = opAld 0 115 := rfl
theorem h4_115 : code_ 4 115 = opGR 0 4 2 100012 118 := rfl
theorem h4_118 : code_ 4 118 = opIld 1 119 := rfl
theorem h4_119 : code_ 4 119 = opIal 120 := rfl
theorem h4_120 : code_ 4 120 = opIas 121 := rfl
theorem h4_121 : code_ 4 121 = opAld 0 122 := rfl
theorem h4_122 : code_ 4 122 = opIld 1 123 := rfl
theorem h4_123 : code_ 4 123 = opC (vI 1) 124 := rfl
theorem h4_124 : code_ 4 124 = opB (fun x y => x + y) 125 := rfl
theorem h4_125 : code_ 4 125 = opIld 2 126 := rfl
theorem h4_126 : code_ 4 126 = opC (vI 1) 127 := rfl
theorem h4_127 : code_ 4 127 = opB (fun x y => x + y) 128 := rfl
theorem h4_128 : code_ 4 128 = opK kV 4 3 0 131 := rfl
theorem h4_131 : code_ 4 131 = opRet := rfl
theorem h5_0 : code_ 5 0 = opAld 0 1 := rfl
theorem h5_1 : code_ 5 1 = opAld 1 2 := rfl
theorem h5_2 : code_ 5 2 = opGI 1 0 5 := rfl
theorem h5_5 : code_ 5 5 = opPI 1 0 8 := rfl
theorem h5_8 : code_ 5 8 = opAld 0 9 := rfl
theorem h5_9 : code_ 5 9 = opAld 1 10 := rfl
theorem h5_10 : code_ 5 10 = opGI 1 1 13 := rfl
theorem h5_13 : code_ 5 13 = opPI 1 1 16 := rfl
theorem h5_16 : code_ 5 16 = opAld 0 17 := rfl
theorem h5_17 : code_ 5 17 = opAld 1 18 := rfl
theorem h5_18 : code_ 5 18 = opGI 1 2 21 := rfl
theorem h5_21 : code_ 5 21 = opPI 1 2 24 := rfl
theorem h5_24 : code_ 5 24 = opAld 0 25 := rfl
theorem h5_25 : code_ 5 25 = opAld 1 26 := rfl
theorem h5_26 : code_ 5 26 = opGI 1 3 29 := rfl
theorem h5_29 : code_ 5 29 = opPI 1 3 32 := rfl
theorem h5_32 : code_ 5 32 = opAld 0 33 := rfl
theorem h5_33 : code_ 5 33 = opAld 1 34 := rfl
theorem h5_34 : code_ 5 34 = opGI 1 4 37 := rfl
theorem h5_37 : code_ 5 37 = opPI 1 4 40 := rfl
theorem h5_40 : code_ 5 40 = opAld 0 41 := rfl
theorem h5_41 : code_ 5 41 = opAld 1 42 := rfl
theorem h5_42 : code_ 5 42 = opGI 1 5 45 := rfl
theorem h5_45 : code_ 5 45 = opPI 1 5 48 := rfl
theorem h5_48 : code_ 5 48 = opAld 0 49 := rfl
theorem h5_49 : code_ 5 49 = opAld 1 50 := rfl
theorem h5_50 : code_ 5 50 = opGI 1 6 53 := rfl
theorem h5_53 : code_ 5 53 = opPI 1 6 56 := rfl
theorem h5_56 : code_ 5 56 = opAld 1 57 := rfl
theorem h5_57 : code_ 5 57 = opGR 1 7 1 100012 60 := rfl
theorem h5_60 : code_ 5 60 = opC (vI 0) 61 := rfl
theorem h5_61 : code_ 5 61 = opAld 0 62 := rfl
theorem h5_62 : code_ 5 62 = opGR 1 7 1 100012 65 := rfl
theorem h5_65 : code_ 5 65 = opC (vI 0) 66 := rfl
theorem h5_66 : code_ 5 66 = opC (vI 12) 68 := rfl
theorem h5_68 : code_ 5 68 = opAcp 71 := rfl
theorem h5_71 : code_ 5 71 = opAld 1 72 := rfl
theorem h5_72 : code_ 5 72 = opGR 1 8 2 100012 75 := rfl
theorem h5_75 : code_ 5 75 = opC (vI 0) 76 := rfl
theorem h5_76 : code_ 5 76 = opAld 0 77 := rfl
theorem h5_77 : code_ 5 77 = opGR 1 8 2 100012 80 := rfl
theorem h5_80 : code_ 5 80 = opC (vI 0) 81 := rfl
theorem h5_81 : code_ 5 81 = opC (vI 12) 83 := rfl
theorem h5_83 : code_ 5 83 = opAcp 86 := rfl
theorem h5_86 : code_ 5 86 = opAld 1 87 := rfl
theorem h5_87 : code_ 5 87 = opGR 1 9 3 100192 90 := rfl
theorem h5_90 : code_ 5 90 = opC (vI 0) 91 := rfl
theorem h5_91 : code_ 5 91 = opAld 0 92 := rfl
theorem h5_92 : code_ 5 92 = opGR 1 9 3 100192 95 := rfl
theorem h5_95 : code_ 5 95 = opC (vI 0) 96 := rfl
theorem h5_96 : code_ 5 96 = opC (vI 192) 99 := rfl
theorem h5_99 : code_ 5 99 = opAcp 102 := rfl
theorem h5_102 : code_ 5 102 = opAld 1 103 := rfl
theorem h5_103 : code_ 5 103 = opGR 1 10 4 100192 106 := rfl
theorem h5_106 : code_ 5 106 = opC (vI 0) 107 := rfl
theorem h5_107 : code_ 5 107 = opAld 0 108 := rfl
theorem h5_108 : code_ 5 108 = opGR 1 10 4 100192 111 := rfl
theorem h5_111 : code_ 5 111 = opC (vI 0) 112 := rfl
theorem h5_112 : code_ 5 112 = opC (vI 192) 115 := rfl
theorem h5_115 : code_ 5 115 = opAcp 118 := rfl
theorem h5_118 : code_ 5 118 = opAld 1 119 := rfl
theorem h5_119 : code_ 5 119 = opGR 1 11 5 100025 122 := rfl
theorem h5_122 : code_ 5 122 = opC (vI 0) 123 := rfl
theorem h5_123 : code_ 5 123 = opAld 0 124 := rfl
theorem h5_124 : code_ 5 124 = opGR 1 11 5 100025 127 := rfl
theorem h5_127 : code_ 5 127 = opC (vI 0) 128 := rfl
theorem h5_128 : code_ 5 128 = opC (vI 25) 130 := rfl
theorem h5_130 : code_ 5 130 = opAcp 133 := rfl
theorem h5_133 : code_ 5 133 = opRet := rfl
theorem h6_0 : code_ 6 0 = opIld 1 1 := rfl
theorem h6_1 : code_ 6 1 = opIfLt 24 4 := rfl
theorem h6_4 : code_ 6 4 = opIld 1 5 := rfl
theorem h6_5 : code_ 6 5 = opC (vI 12) 7 := rfl
theorem h6_7 : code_ 6 7 = opCpGe 24 10 := rfl
theorem h6_10 : code_ 6 10 = opAld 0 11 := rfl
theorem h6_11 : code_ 6 11 = opGR 1 7 1 100012 14 := rfl
theorem h6_14 : code_ 6 14 = opIld 1 15 := rfl
theorem h6_15 : code_ 6 15 = opIal 16 := rfl
theorem h6_16 : code_ 6 16 = opC (vI (-1)) 17 := rfl
theorem h6_17 : code_ 6 17 = opCpEq 24 20 := rfl
theorem h6_20 : code_ 6 20 = opC (vI 1) 21 := rfl
theorem h6_21 : code_ 6 21 = opGoto 25 := rfl
theorem h6_24 : code_ 6 24 = opMask [0, 1] (opC (vI 0) 25) := rfl
theorem h6_25 : code_ 6 25 = opMask [0, 1] (opZret) := rfl
theorem h7_0 : code_ 7 0 = opAld 0 1 := rfl
theorem h7_1 : code_ 7 1 = opIld 1 2 := rfl
theorem h7_2 : code_ 7 2 = opK kI 6 2 1 5 := rfl
theorem h7_5 : code_ 7 5 = opIfEq 25 8 := rfl
theorem h7_8 : code_ 7 8 = opAld 0 9 := rfl
theorem h7_9 : code_ 7 9 = opGR 1 7 1 100012 12 := rfl
theorem h7_12 : code_ 7 12 = opIld 1 13 := rfl
theorem h7_13 : code_ 7 13 = opIal 14 := rfl
theorem h7_14 : code_ 7 14 = opAld 0 15 := rfl
theorem h7_15 : code_ 7 15 = opGI 1 3 18 := rfl
theorem h7_18 : code_ 7 18 = opCpNe 25 21 := rfl
theorem h7_21 : code_ 7 21 = opC (vI 1) 22 := rfl
theorem h7_22 : code_ 7 22 = opGoto 26 := rfl
theorem h7_25 : code_ 7 25 = opMask [0, 1] (opC (vI 0) 26) := rfl
theorem h7_26 : code_ 7 26 = opMask [0, 1] (opZret) := rfl
theorem h8_0 : code_ 8 0 = opIld 1 1 := rfl
theorem h8_1 : code_ 8 1 = opIfLt 35 4 := rfl
theorem h8_4 : code_ 8 4 = opIld 1 5 := rfl
theorem h8_5 : code_ 8 5 = opC (vI 192) 8 := rfl
theorem h8_8 : code_ 8 8 = opCpGe 35 11 := rfl
theorem h8_11 : code_ 8 11 = opAld 0 12 := rfl
theorem h8_12 : code_ 8 12 = opGR 1 8 2 100012 15 := rfl
theorem h8_15 : code_ 8 15 = opIld 1 16 := rfl
theorem h8_16 : code_ 8 16 = opC (vI 16) 18 := rfl
theorem h8_18 : code_ 8 18 = opBz (fun x y => x / y) 19 := rfl
theorem h8_19 : code_ 8 19 = opIal 20 := rfl
theorem h8_20 : code_ 8 20 = opIld 1 21 := rfl
theorem h8_21 : code_ 8 21 = opC (vI 16) 23 := rfl
theorem h8_23 : code_ 8 23 = opBz remI 24 := rfl
theorem h8_24 : code_ 8 24 = opB shrI 25 := rfl
theorem h8_25 : code_ 8 25 = opC (vI 1) 26 := rfl
theorem h8_26 : code_ 8 26 = opB (fun x y => x &&& y) 27 := rfl
theorem h8_27 : code_ 8 27 = opC (vI 1) 28 := rfl
theorem h8_28 : code_ 8 28 = opCpNe 35 31 := rfl
theorem h8_31 : code_ 8 31 = opC (vI 1) 32 := rfl
theorem h8_32 : code_ 8 32 = opGoto 36 := rfl
theorem h8_35 : code_ 8 35 = opMask [0, 1] (opC (vI 0) 36) := rfl
theorem h8_36 : code_ 8 36 = opMask [0, 1] (opZret) := rfl
theorem h9_0 : code_ 9 0 = opAld 0 1 := rfl
theorem h9_1 : code_ 9 1 = opIld 1 2 := rfl
theorem h9_2 : code_ 9 2 = opK kI 8 2 1 5 := rfl
theorem h9_5 : code_ 9 5 = opIfEq 23 8 := rfl
theorem h9_8 : code_ 9 8 = opAld 0 9 := rfl
theorem h9_9 : code_ 9 9 = opIld 1 10 := rfl
theorem h9_10 : code_ 9 10 = opC (vI 16) 12 := rfl
theorem h9_12 : code_ 9 12 = opBz (fun x y => x / y) 13 := rfl
theorem h9_13 : code_ 9 13 = opK kI 7 2 1 16 := rfl
theorem h9_16 : code_ 9 16 = opIfNe 23 19 := rfl
theorem h9_19 : code_ 9 19 = opC (vI 1) 20 := rfl
theorem h9_20 : code_ 9 20 = opGoto 24 := rfl
theorem h9_23 : code_ 9 23 = opMask [0, 1] (opC (vI 0) 24) := rfl
theorem h9_24 : code_ 9 24 = opMask [0, 1] (opZret) := rfl
theorem h10_0 : code_ 10 0 = opIld 1 1 := rfl
theorem h10_1 : code_ 10 1 = opIfLt 22 4 := rfl
theorem h10_4 : code_ 10 4 = opIld 1 5 := rfl
theorem h10_5 : code_ 10 5 = opC (vI 192) 8 := rfl
theorem h10_8 : code_ 10 8 = opCpGe 22 11 := rfl
theorem h10_11 : code_ 10 11 = opAld 0 12 := rfl
theorem h10_12 : code_ 10 12 = opIld 1 13 := rfl
theorem h10_13 : code_ 10 13 = opC (vI 16) 15 := rfl
theorem h10_15 : code_ 10 15 = opBz (fun x y => x / y) 16 := rfl
theorem h10_16 : code_ 10 16 = opK kI 6 2 1 19 := rfl
theorem h10_19 : code_ 10 19 = opIfNe 24 22 := rfl
theorem h10_22 : code_ 10 22 = opMask [0, 1] (opC (vI (-1)) 23) := rfl
theorem h10_23 : code_ 10 23 = opIret := rfl
theorem h10_24 : code_ 10 24 = opAld 0 25 := rfl
theorem h10_25 : code_ 10 25 = opGR 1 7 1 100012 28 := rfl
theorem h10_28 : code_ 10 28 = opIld 1 29 := rfl
theorem h10_29 : code_ 10 29 = opC (vI 16) 31 := rfl
theorem h10_31 : code_ 10 31 = opBz (fun x y => x / y) 32 := rfl
theorem h10_32 : code_ 10 32 = opIal 33 := rfl
theorem h10_33 : code_ 10 33 = opC (vI 16) 35 := rfl
theorem h10_35 : code_ 10 35 = opB (fun x y => x * y) 36 := rfl
theorem h10_36 : code_ 10 36 = opIld 1 37 := rfl
theorem h10_37 : code_ 10 37 = opC (vI 16) 39 := rfl
theorem h10_39 : code_ 10 39 = opBz remI 40 := rfl
theorem h10_40 : code_ 10 40 = opB (fun x y => x + y) 41 := rfl
theorem h10_41 : code_ 10 41 = opIret := rfl
theorem h11_0 : code_ 11 0 = opAld 0 1 := rfl
theorem h11_1 : code_ 11 1 = opIld 1 2 := rfl
theorem h11_2 : code_ 11 2 = opK kI 10 2 1 5 := rfl
theorem h11_5 : code_ 11 5 = opIst 2 6 := rfl
theorem h11_6 : code_ 11 6 = opIld 2 7 := rfl
theorem h11_7 : code_ 11 7 = opIfGe 14 10 := rfl
theorem h11_10 : code_ 11 10 = opC (vI (-1)) 11 := rfl
theorem h11_11 : code_ 11 11 = opGoto 20 := rfl
theorem h11_14 : code_ 11 14 = opAld 0 15 := rfl
theorem h11_15 : code_ 11 15 = opGR 1 10 4 100192 18 := rfl
theorem h11_18 : code_ 11 18 = opIld 2 19 := rfl
theorem h11_19 : code_ 11 19 = opIal 20 := rfl
theorem h11_20 : code_ 11 20 = opMask [0, 1, 2] (opIret) := rfl
theorem h12_0 : code_ 12 0 = opAld 0 1 := rfl
theorem h12_1 : code_ 12 1 = opIld 1 2 := rfl
theorem h12_2 : code_ 12 2 = opK kI 10 2 1 5 := rfl
theorem h12_5 : code_ 12 5 = opIst 3 6 := rfl
theorem h12_6 : code_ 12 6 = opIld 3 7 := rfl
theorem h12_7 : code_ 12 7 = opIfLt 17 10 := rfl
theorem h12_10 : code_ 12 10 = opAld 0 11 := rfl
theorem h12_11 : code_ 12 11 = opGR 1 10 4 100192 14 := rfl
theorem h12_14 : code_ 12 14 = opIld 3 15 := rfl
theorem h12_15 : code_ 12 15 = opIld 2 16 := rfl
theorem h12_16 : code_ 12 16 = opIas 17 := rfl
theorem h12_17 : code_ 12 17 = opMask [0, 1, 2, 3] (opRet) := rfl
theorem h13_0 : code_ 13 0 = opC (vI 0) 1 := rfl
theorem h13_1 : code_ 13 1 = opIst 2 2 := rfl
theorem h13_2 : code_ 13 2 = opC (vI 0) 3 := rfl
theorem h13_3 : code_ 13 3 = opIst 3 4 := rfl
theorem h13_4 : code_ 13 4 = opIld 3 5 := rfl
theorem h13_5 : code_ 13 5 = opC (vI 12) 7 := rfl
theorem h13_7 : code_ 13 7 = opCpGe 37 10 := rfl
theorem h13_10 : code_ 13 10 = opIld 1 11 := rfl
theorem h13_11 : code_ 13 11 = opC (vI (-1)) 12 := rfl
theorem h13_12 : code_ 13 12 = opCpEq 31 15 := rfl
theorem h13_15 : code_ 13 15 = opAld 0 16 := rfl
theorem h13_16 : code_ 13 16 = opGR 1 7 1 100012 19 := rfl
theorem h13_19 : code_ 13 19 = opIld 3 20 := rfl
theorem h13_20 : code_ 13 20 = opIal 21 := rfl
theorem h13_21 : code_ 13 21 = opIld 1 22 := rfl
theorem h13_22 : code_ 13 22 = opCpNe 31 25 := rfl
theorem h13_25 : code_ 13 25 = opIld 2 26 := rfl
theorem h13_26 : code_ 13 26 = opC (vI 1) 27 := rfl
theorem h13_27 : code_ 13 27 = opIld 3 28 := rfl
theorem h13_28 : code_ 13 28 = opB shlI 29 := rfl
theorem h13_29 : code_ 13 29 = opB (fun x y => x ||| y) 30 := rfl
theorem h13_30 : code_ 13 30 = opIst 2 31 := rfl
theorem h13_31 : code_ 13 31 = opInc 3 1 34 := rfl
theorem h13_34 : code_ 13 34 = opGoto 4 := rfl
theorem h13_37 : code_ 13 37 = opIld 2 38 := rfl
theorem h13_38 : code_ 13 38 = opIret := rfl
theorem h14_0 : code_ 14 0 = opC (vI 0) 1 := rfl
theorem h14_1 : code_ 14 1 = opIst 2 2 := rfl
theorem h14_2 : code_ 14 2 = opIld 2 3 := rfl
theorem h14_3 : code_ 14 3 = opC (vI 12) 5 := rfl
theorem h14_5 : code_ 14 5 = opCpGe 26 8 := rfl
theorem h14_8 : code_ 14 8 = opAld 0 9 := rfl
theorem h14_9 : code_ 14 9 = opGR 1 7 1 100012 12 := rfl
theorem h14_12 : code_ 14 12 = opIld 2 13 := rfl
theorem h14_13 : code_ 14 13 = opIal 14 := rfl
theorem h14_14 : code_ 14 14 = opIld 1 15 := rfl
theorem h14_15 : code_ 14 15 = opCpNe 20 18 := rfl
theorem h14_18 : code_ 14 18 = opIld 2 19 := rfl
theorem h14_19 : code_ 14 19 = opIret := rfl
theorem h14_20 : code_ 14 20 = opInc 2 1 23 := rfl
theorem h14_23 : code_ 14 23 = opGoto 2 := rfl
theorem h14_26 : code_ 14 26 = opC (vI (-1)) 27 := rfl
theorem h14_27 : code_ 14 27 = opIret := rfl
theorem h15_0 : code_ 15 0 = opC (vI 0) 1 := rfl
theorem h15_1 : code_ 15 1 = opIst 2 2 := rfl
theorem h15_2 : code_ 15 2 = opC (vI 0) 3 := rfl
theorem h15_3 : code_ 15 3 = opIst 3 4 := rfl
theorem h15_4 : code_ 15 4 = opIld 3 5 := rfl
theorem h15_5 : code_ 15 5 = opC (vI 12) 7 := rfl
theorem h15_7 : code_ 15 7 = opCpGe 40 10 := rfl
theorem h15_10 : code_ 15 10 = opIld 1 11 := rfl
theorem h15_11 : code_ 15 11 = opC (vI (-1)) 12 := rfl
theorem h15_12 : code_ 15 12 = opCpEq 34 15 := rfl
theorem h15_15 : code_ 15 15 = opAld 0 16 := rfl
theorem h15_16 : code_ 15 16 = opGR 1 7 1 100012 19 := rfl
theorem h15_19 : code_ 15 19 = opIld 3 20 := rfl
theorem h15_20 : code_ 15 20 = opIal 21 := rfl
theorem h15_21 : code_ 15 21 = opIld 1 22 := rfl
theorem h15_22 : code_ 15 22 = opCpNe 34 25 := rfl
theorem h15_25 : code_ 15 25 = opIld 2 26 := rfl
theorem h15_26 : code_ 15 26 = opAld 0 27 := rfl
theorem h15_27 : code_ 15 27 = opGR 1 8 2 100012 30 := rfl
theorem h15_30 : code_ 15 30 = opIld 3 31 := rfl
theorem h15_31 : code_ 15 31 = opIal 32 := rfl
theorem h15_32 : code_ 15 32 = opB (fun x y => x ||| y) 33 := rfl
theorem h15_33 : code_ 15 33 = opIst 2 34 := rfl
theorem h15_34 : code_ 15 34 = opInc 3 1 37 := rfl
theorem h15_37 : code_ 15 37 = opGoto 4 := rfl
theorem h15_40 : code_ 15 40 = opIld 2 41 := rfl
theorem h15_41 : code_ 15 41 = opIret := rfl
theorem h16_0 : code_ 16 0 = opC (vI 0) 1 := rfl
theorem h16_1 : code_ 16 1 = opIst 1 2 := rfl
theorem h16_2 : code_ 16 2 = opC (vI 0) 3 := rfl
theorem h16_3 : code_ 16 3 = opIst 2 4 := rfl
theorem h16_4 : code_ 16 4 = opIld 2 5 := rfl
theorem h16_5 : code_ 16 5 = opC (vI 12) 7 := rfl
theorem h16_7 : code_ 16 7 = opCpGe 37 10 := rfl
theorem h16_10 : code_ 16 10 = opAld 0 11 := rfl
theorem h16_11 : code_ 16 11 = opGR 1 7 1 100012 14 := rfl
theorem h16_14 : code_ 16 14 = opIld 2 15 := rfl
theorem h16_15 : code_ 16 15 = opIal 16 := rfl
theorem h16_16 : code_ 16 16 = opC (vI (-1)) 17 := rfl
theorem h16_17 : code_ 16 17 = opCpEq 31 20 := rfl
theorem h16_20 : code_ 16 20 = opIld 1 21 := rfl
theorem h16_21 : code_ 16 21 = opC (vI 1) 22 := rfl
theorem h16_22 : code_ 16 22 = opAld 0 23 := rfl
theorem h16_23 : code_ 16 23 = opGR 1 7 1 100012 26 := rfl
theorem h16_26 : code_ 16 26 = opIld 2 27 := rfl
theorem h16_27 : code_ 16 27 = opIal 28 := rfl
theorem h16_28 : code_ 16 28 = opB shlI 29 := rfl
theorem h16_29 : code_ 16 29 = opB (fun x y => x ||| y) 30 := rfl
theorem h16_30 : code_ 16 30 = opIst 1 31 := rfl
theorem h16_31 : code_ 16 31 = opInc 2 1 34 := rfl
theorem h16_34 : code_ 16 34 = opGoto 4 := rfl
theorem h16_37 : code_ 16 37 = opIld 1 38 := rfl
theorem h16_38 : code_ 16 38 = opIret := rfl
theorem h17_0 : code_ 17 0 = opC (vI 0) 1 := rfl
theorem h17_1 : code_ 17 1 = opIst 1 2 := rfl
theorem h17_2 : code_ 17 2 = opC (vI 0) 3 := rfl
theorem h17_3 : code_ 17 3 = opIst 2 4 := rfl
theorem h17_4 : code_ 17 4 = opIld 2 5 := rfl
theorem h17_5 : code_ 17 5 = opC (vI 12) 7 := rfl
theorem h17_7 : code_ 17 7 = opCpGe 32 10 := rfl
theorem h17_10 : code_ 17 10 = opAld 0 11 := rfl
theorem h17_11 : code_ 17 11 = opGR 1 7 1 100012 14 := rfl
theorem h17_14 : code_ 17 14 = opIld 2 15 := rfl
theorem h17_15 : code_ 17 15 = opIal 16 := rfl
theorem h17_16 : code_ 17 16 = opC (vI (-1)) 17 := rfl
theorem h17_17 : code_ 17 17 = opCpEq 26 20 := rfl
theorem h17_20 : code_ 17 20 = opIld 1 21 := rfl
theorem h17_21 : code_ 17 21 = opC (vI 1) 22 := rfl
theorem h17_22 : code_ 17 22 = opIld 2 23 := rfl
theorem h17_23 : code_ 17 23 = opB shlI 24 := rfl
theorem h17_24 : code_ 17 24 = opB (fun x y => x ||| y) 25 := rfl
theorem h17_25 : code_ 17 25 = opIst 1 26 := rfl
theorem h17_26 : code_ 17 26 = opInc 2 1 29 := rfl
theorem h17_29 : code_ 17 29 = opGoto 4 := rfl
theorem h17_32 : code_ 17 32 = opIld 1 33 := rfl
theorem h17_33 : code_ 17 33 = opIret := rfl
theorem h18_0 : code_ 18 0 = opC (vI 0) 1 := rfl
theorem h18_1 : code_ 18 1 = opIst 1 2 := rfl
theorem h18_2 : code_ 18 2 = opC (vI 0) 3 := rfl
theorem h18_3 : code_ 18 3 = opIst 2 4 := rfl
theorem h18_4 : code_ 18 4 = opIld 2 5 := rfl
theorem h18_5 : code_ 18 5 = opC (vI 12) 7 := rfl
theorem h18_7 : code_ 18 7 = opCpGe 28 10 := rfl
theorem h18_10 : code_ 18 10 = opIld 1 11 := rfl
theorem h18_11 : code_ 18 11 = opAld 0 12 := rfl
theorem h18_12 : code_ 18 12 = opGR 1 8 2 100012 15 := rfl
theorem h18_15 : code_ 18 15 = opIld 2 16 := rfl
theorem h18_16 : code_ 18 16 = opIal 17 := rfl
theorem h18_17 : code_ 18 17 = opK kI 318 1 99 20 := rfl
theorem h18_20 : code_ 18 20 = opB (fun x y => x + y) 21 := rfl
theorem h18_21 : code_ 18 21 = opIst 1 22 := rfl
theorem h18_22 : code_ 18 22 = opInc 2 1 25 := rfl
theorem h18_25 : code_ 18 25 = opGoto 4 := rfl
theorem h18_28 : code_ 18 28 = opIld 1 29 := rfl
theorem h18_29 : code_ 18 29 = opIret := rfl
theorem h19_0 : code_ 19 0 = opC (vI 0) 1 := rfl
theorem h19_1 : code_ 19 1 = opIst 1 2 := rfl
theorem h19_2 : code_ 19 2 = opC (vI 0) 3 := rfl
theorem h19_3 : code_ 19 3 = opIst 2 4 := rfl
theorem h19_4 : code_ 19 4 = opMask [3] (opIld 2 5) := rfl
theorem h19_5 : code_ 19 5 = opC (vI 12) 7 := rfl
theorem h19_7 : code_ 19 7 = opCpGe 57 10 := rfl
theorem h19_10 : code_ 19 10 = opAld 0 11 := rfl
theorem h19_11 : code_ 19 11 = opIld 2 12 := rfl
theorem h19_12 : code_ 19 12 = opK kI 15 2 1 15 := rfl
theorem h19_15 : code_ 19 15 = opK kI 318 1 99 18 := rfl
theorem h19_18 : code_ 19 18 = opIst 3 19 := rfl
theorem h19_19 : code_ 19 19 = opIld 3 20 := rfl
theorem h19_20 : code_ 19 20 = opIfLe 51 23 := rfl
theorem h19_23 : code_ 19 23 = opIld 3 24 := rfl
theorem h19_24 : code_ 19 24 = opC (vI 8) 26 := rfl
theorem h19_26 : code_ 19 26 = opCpGt 51 29 := rfl
theorem h19_29 : code_ 19 29 = opIld 2 30 := rfl
theorem h19_30 : code_ 19 30 = opAld 0 31 := rfl
theorem h19_31 : code_ 19 31 = opGI 1 3 34 := rfl
theorem h19_34 : code_ 19 34 = opCpEq 51 37 := rfl
theorem h19_37 : code_ 19 37 = opIld 2 38 := rfl
theorem h19_38 : code_ 19 38 = opAld 0 39 := rfl
theorem h19_39 : code_ 19 39 = opGI 1 4 42 := rfl
theorem h19_42 : code_ 19 42 = opCpEq 51 45 := rfl
theorem h19_45 : code_ 19 45 = opIld 1 46 := rfl
theorem h19_46 : code_ 19 46 = opC (vI 1) 47 := rfl
theorem h19_47 : code_ 19 47 = opIld 2 48 := rfl
theorem h19_48 : code_ 19 48 = opB shlI 49 := rfl
theorem h19_49 : code_ 19 49 = opB (fun x y => x ||| y) 50 := rfl
theorem h19_50 : code_ 19 50 = opIst 1 51 := rfl
theorem h19_51 : code_ 19 51 = opMask [3] (opInc 2 1 54) := rfl
theorem h19_54 : code_ 19 54 = opGoto 4 := rfl
theorem h19_57 : code_ 19 57 = opIld 1 58 := rfl
theorem h19_58 : code_ 19 58 = opIret := rfl
theorem h20_0 : code_ 20 0 = opIld 1 1 := rfl
theorem h20_1 : code_ 20 1 = opC (vI 1) 2 := rfl
theorem h20_2 : code_ 20 2 = opCpGe 7 5 := rfl
theorem h20_5 : code_ 20 5 = opC (vI 0) 6 := rfl
theorem h20_6 : code_ 20 6 = opIret := rfl
theorem h20_7 : code_ 20 7 = opAld 0 8 := rfl
theorem h20_8 : code_ 20 8 = opGI 1 1 11 := rfl
theorem h20_11 : code_ 20 11 = opIld 1 12 := rfl
theorem h20_12 : code_ 20 12 = opBz remI 13 := rfl
theorem h20_13 : code_ 20 13 = opIst 2 14 := rfl
theorem h20_14 : code_ 20 14 = opAld 0 15 := rfl
theorem h20_15 : code_ 20 15 = opAld 0 16 := rfl
theorem h20_16 : code_ 20 16 = opGI 1 1 19 := rfl
theorem h20_19 : code_ 20 19 = opC (vI 769) 22 := rfl
theorem h20_22 : code_ 20 22 = opB (fun x y => x * y) 23 := rfl
theorem h20_23 : code_ 20 23 = opC (vI 631) 26 := rfl
theorem h20_26 : code_ 20 26 = opB (fun x y => x + y) 27 := rfl
theorem h20_27 : code_ 20 27 = opC (vI 31123) 30 := rfl
theorem h20_30 : code_ 20 30 = opBz remI 31 := rfl
theorem h20_31 : code_ 20 31 = opPI 1 1 34 := rfl
theorem h20_34 : code_ 20 34 = opIld 2 35 := rfl
theorem h20_35 : code_ 20 35 = opIret := rfl
theorem h21_0 : code_ 21 0 = opAld 0 1 := rfl
theorem h21_1 : code_ 21 1 = opGI 1 6 4 := rfl
theorem h21_4 : code_ 21 4 = opC (vI 25) 6 := rfl
theorem h21_6 : code_ 21 6 = opCpLt 30 9 := rfl
theorem h21_9 : code_ 21 9 = opAld 0 10 := rfl
theorem h21_10 : code_ 21 10 = opGR 1 11 5 100025 13 := rfl
theorem h21_13 : code_ 21 13 = opC (vI 1) 14 := rfl
theorem h21_14 : code_ 21 14 = opAld 0 15 := rfl
theorem h21_15 : code_ 21 15 = opGR 1 11 5 100025 18 := rfl
theorem h21_18 : code_ 21 18 = opC (vI 0) 19 := rfl
theorem h21_19 : code_ 21 19 = opC (vI 24) 21 := rfl
theorem h21_21 : code_ 21 21 = opAcp 24 := rfl
theorem h21_24 : code_ 21 24 = opAld 0 25 := rfl
theorem h21_25 : code_ 21 25 = opC (vI 24) 27 := rfl
theorem h21_27 : code_ 21 27 = opPI 1 6 30 := rfl
theorem h21_30 : code_ 21 30 = opAld 0 31 := rfl
theorem h21_31 : code_ 21 31 = opGR 1 11 5 100025 34 := rfl
theorem h21_34 : code_ 21 34 = opAld 0 35 := rfl
theorem h21_35 : code_ 21 35 = opGI 1 6 38 := rfl
theorem h21_38 : code_ 21 38 = opAld 0 39 := rfl
theorem h21_39 : code_ 21 39 = opGI 1 0 42 := rfl
theorem h21_42 : code_ 21 42 = opC (vI 12) 44 := rfl
theorem h21_44 : code_ 21 44 = opB shlI 45 := rfl
theorem h21_45 : code_ 21 45 = opIld 1 46 := rfl
theorem h21_46 : code_ 21 46 = opC (vI 8) 48 := rfl
theorem h21_48 : code_ 21 48 = opB shlI 49 := rfl
theorem h21_49 : code_ 21 49 = opB (fun x y => x ||| y) 50 := rfl
theorem h21_50 : code_ 21 50 = opIld 2 51 := rfl
theorem h21_51 : code_ 21 51 = opC (vI 4) 52 := rfl
theorem h21_52 : code_ 21 52 = opB shlI 53 := rfl
theorem h21_53 : code_ 21 53 = opB (fun x y => x ||| y) 54 := rfl
theorem h21_54 : code_ 21 54 = opIld 3 55 := rfl
theorem h21_55 : code_ 21 55 = opB (fun x y => x ||| y) 56 := rfl
theorem h21_56 : code_ 21 56 = opIas 57 := rfl
theorem h21_57 : code_ 21 57 = opAld 0 58 := rfl
theorem h21_58 : code_ 21 58 = opDup 59 := rfl
theorem h21_59 : code_ 21 59 = opGI 1 6 62 := rfl
theorem h21_62 : code_ 21 62 = opC (vI 1) 63 := rfl
theorem h21_63 : code_ 21 63 = opB (fun x y => x + y) 64 := rfl
theorem h21_64 : code_ 21 64 = opPI 1 6 67 := rfl
theorem h21_67 : code_ 21 67 = opRet := rfl
theorem h22_0 : code_ 22 0 = opAld 0 1 := rfl
theorem h22_1 : code_ 22 1 = opIld 1 2 := rfl
theorem h22_2 : code_ 22 2 = opK kI 6 2 1 5 := rfl
theorem h22_5 : code_ 22 5 = opIfEq 16 8 := rfl
theorem h22_8 : code_ 22 8 = opAld 0 9 := rfl
theorem h22_9 : code_ 22 9 = opIld 1 10 := rfl
theorem h22_10 : code_ 22 10 = opK kI 7 2 1 13 := rfl
theorem h22_13 : code_ 22 13 = opIfEq 18 16 := rfl
theorem h22_16 : code_ 22 16 = opMask [0, 1, 2, 3, 4] (opC (vI (-1)) 17) := rfl
theorem h22_17 : code_ 22 17 = opIret := rfl
theorem h22_18 : code_ 22 18 = opAld 0 19 := rfl
theorem h22_19 : code_ 22 19 = opAld 0 20 := rfl
theorem h22_20 : code_ 22 20 = opGR 1 7 1 100012 23 := rfl
theorem h22_23 : code_ 22 23 = opIld 1 24 := rfl
theorem h22_24 : code_ 22 24 = opIal 25 := rfl
theorem h22_25 : code_ 22 25 = opK kI 15 2 1 28 := rfl
theorem h22_28 : code_ 22 28 = opIst 2 29 := rfl
theorem h22_29 : code_ 22 29 = opAld 0 30 := rfl
theorem h22_30 : code_ 22 30 = opGR 1 7 1 100012 33 := rfl
theorem h22_33 : code_ 22 33 = opIld 1 34 := rfl
theorem h22_34 : code_ 22 34 = opIal 35 := rfl
theorem h22_35 : code_ 22 35 = opAld 0 36 := rfl
theorem h22_36 : code_ 22 36 = opGI 1 4 39 := rfl
theorem h22_39 : code_ 22 39 = opCpNe 53 42 := rfl
theorem h22_42 : code_ 22 42 = opIld 2 43 := rfl
theorem h22_43 : code_ 22 43 = opAld 0 44 := rfl
theorem h22_44 : code_ 22 44 = opAld 0 45 := rfl
theorem h22_45 : code_ 22 45 = opGI 1 3 48 := rfl
theorem h22_48 : code_ 22 48 = opK kI 15 2 1 51 := rfl
theorem h22_51 : code_ 22 51 = opB (fun x y => x ||| y) 52 := rfl
theorem h22_52 : code_ 22 52 = opIst 2 53 := rfl
theorem h22_53 : code_ 22 53 = opMask [3, 4] (opC (vI 0) 54) := rfl
theorem h22_54 : code_ 22 54 = opIst 3 55 := rfl
theorem h22_55 : code_ 22 55 = opMask [4] (opIld 3 56) := rfl
theorem h22_56 : code_ 22 56 = opC (vI 16) 58 := rfl
theorem h22_58 : code_ 22 58 = opCpGe 92 61 := rfl
theorem h22_61 : code_ 22 61 = opAld 0 62 := rfl
theorem h22_62 : code_ 22 62 = opGR 1 9 3 100192 65 := rfl
theorem h22_65 : code_ 22 65 = opIld 1 66 := rfl
theorem h22_66 : code_ 22 66 = opC (vI 16) 68 := rfl
theorem h22_68 : code_ 22 68 = opB (fun x y => x * y) 69 := rfl
theorem h22_69 : code_ 22 69 = opIld 3 70 := rfl
theorem h22_70 : code_ 22 70 = opB (fun x y => x + y) 71 := rfl
theorem h22_71 : code_ 22 71 = opIal 72 := rfl
theorem h22_72 : code_ 22 72 = opIst 4 74 := rfl
theorem h22_74 : code_ 22 74 = opIld 2 75 := rfl
theorem h22_75 : code_ 22 75 = opIld 4 77 := rfl
theorem h22_77 : code_ 22 77 = opB shrI 78 := rfl
theorem h22_78 : code_ 22 78 = opC (vI 1) 79 := rfl
theorem h22_79 : code_ 22 79 = opB (fun x y => x &&& y) 80 := rfl
theorem h22_80 : code_ 22 80 = opIfNe 86 83 := rfl
theorem h22_83 : code_ 22 83 = opIld 4 85 := rfl
theorem h22_85 : code_ 22 85 = opIret := rfl
theorem h22_86 : code_ 22 86 = opInc 3 1 89 := rfl
theorem h22_89 : code_ 22 89 = opGoto 55 := rfl
theorem h22_92 : code_ 22 92 = opC (vI (-1)) 93 := rfl
theorem h22_93 : code_ 22 93 = opIret := rfl
theorem h23_0 : code_ 23 0 = opC (vI 0) 1 := rfl
theorem h23_1 : code_ 23 1 = opIst 1 2 := rfl
theorem h23_2 : code_ 23 2 = opIld 1 3 := rfl
theorem h23_3 : code_ 23 3 = opC (vI 12) 5 := rfl
theorem h23_5 : code_ 23 5 = opCpGe 25 8 := rfl
theorem h23_8 : code_ 23 8 = opAld 0 9 := rfl
theorem h23_9 : code_ 23 9 = opIld 1 10 := rfl
theorem h23_10 : code_ 23 10 = opK kI 22 2 1 13 := rfl
theorem h23_13 : code_ 23 13 = opC (vI (-1)) 14 := rfl
theorem h23_14 : code_ 23 14 = opCpEq 19 17 := rfl
theorem h23_17 : code_ 23 17 = opIld 1 18 := rfl
theorem h23_18 : code_ 23 18 = opIret := rfl
theorem h23_19 : code_ 23 19 = opInc 1 1 22 := rfl
theorem h23_22 : code_ 23 22 = opGoto 2 := rfl
theorem h23_25 : code_ 23 25 = opC (vI (-1)) 26 := rfl
theorem h23_26 : code_ 23 26 = opIret := rfl
theorem h24_0 : code_ 24 0 = opC (vI 0) 1 := rfl
theorem h24_1 : code_ 24 1 = opIst 1 2 := rfl
theorem h24_2 : code_ 24 2 = opIld 1 3 := rfl
theorem h24_3 : code_ 24 3 = opC (vI 12) 5 := rfl
theorem h24_5 : code_ 24 5 = opCpGe 24 8 := rfl
theorem h24_8 : code_ 24 8 = opAld 0 9 := rfl
theorem h24_9 : code_ 24 9 = opIld 1 10 := rfl
theorem h24_10 : code_ 24 10 = opK kI 6 2 1 13 := rfl
theorem h24_13 : code_ 24 13 = opIfNe 18 16 := rfl
theorem h24_16 : code_ 24 16 = opIld 1 17 := rfl
theorem h24_17 : code_ 24 17 = opIret := rfl
theorem h24_18 : code_ 24 18 = opInc 1 1 21 := rfl
theorem h24_21 : code_ 24 21 = opGoto 2 := rfl
theorem h24_24 : code_ 24 24 = opC (vI (-1)) 25 := rfl
theorem h24_25 : code_ 24 25 = opIret := rfl
theorem h25_0 : code_ 25 0 = opAld 0 1 := rfl
theorem h25_1 : code_ 25 1 = opK kI 23 1 1 4 := rfl
theorem h25_4 : code_ 25 4 = opC (vI (-1)) 5 := rfl
theorem h25_5 : code_ 25 5 = opCpNe 16 8 := rfl
theorem h25_8 : code_ 25 8 = opAld 0 9 := rfl
theorem h25_9 : code_ 25 9 = opK kI 24 1 1 12 := rfl
theorem h25_12 : code_ 25 12 = opC (vI (-1)) 13 := rfl
theorem h25_13 : code_ 25 13 = opCpEq 20 16 := rfl
theorem h25_16 : code_ 25 16 = opMask [0] (opC (vI 1) 17) := rfl
theorem h25_17 : code_ 25 17 = opGoto 21 := rfl
theorem h25_20 : code_ 25 20 = opC (vI 0) 21 := rfl
theorem h25_21 : code_ 25 21 = opMask [0] (opZret) := rfl
theorem h26_0 : code_ 26 0 = opAld 0 1 := rfl
theorem h26_1 : code_ 26 1 = opK kI 16 1 1 4 := rfl
theorem h26_4 : code_ 26 4 = opIst 1 5 := rfl
theorem h26_5 : code_ 26 5 = opC (vI 0) 6 := rfl
theorem h26_6 : code_ 26 6 = opIst 2 7 := rfl
theorem h26_7 : code_ 26 7 = opMask [0] (opIld 2 8) := rfl
theorem h26_8 : code_ 26 8 = opC (vI 12) 10 := rfl
theorem h26_10 : code_ 26 10 = opCpGe 29 13 := rfl
theorem h26_13 : code_ 26 13 = opIld 1 14 := rfl
theorem h26_14 : code_ 26 14 = opIld 2 15 := rfl
theorem h26_15 : code_ 26 15 = opB shrI 16 := rfl
theorem h26_16 : code_ 26 16 = opC (vI 1) 17 := rfl
theorem h26_17 : code_ 26 17 = opB (fun x y => x &&& y) 18 := rfl
theorem h26_18 : code_ 26 18 = opIfNe 23 21 := rfl
theorem h26_21 : code_ 26 21 = opIld 2 22 := rfl
theorem h26_22 : code_ 26 22 = opIret := rfl
theorem h26_23 : code_ 26 23 = opInc 2 1 26 := rfl
theorem h26_26 : code_ 26 26 = opGoto 7 := rfl
theorem h26_29 : code_ 26 29 = opC (vI (-1)) 30 := rfl
theorem h26_30 : code_ 26 30 = opIret := rfl
theorem h27_0 : code_ 27 0 = opAld 0 1 := rfl
theorem h27_1 : code_ 27 1 = opK kI 24 1 1 4 := rfl
theorem h27_4 : code_ 27 4 = opIst 1 5 := rfl
theorem h27_5 : code_ 27 5 = opAld 0 6 := rfl
theorem h27_6 : code_ 27 6 = opK kI 26 1 1 9 := rfl
theorem h27_9 : code_ 27 9 = opIst 2 10 := rfl
theorem h27_10 : code_ 27 10 = opIld 1 11 := rfl
theorem h27_11 : code_ 27 11 = opC (vI (-1)) 12 := rfl
theorem h27_12 : code_ 27 12 = opCpEq 20 15 := rfl
theorem h27_15 : code_ 27 15 = opIld 2 16 := rfl
theorem h27_16 : code_ 27 16 = opC (vI (-1)) 17 := rfl
theorem h27_17 : code_ 27 17 = opCpNe 22 20 := rfl
theorem h27_20 : code_ 27 20 = opMask [0, 1, 2, 3, 4, 5, 6] (opC (vI (-1)) 21) := rfl
theorem h27_21 : code_ 27 21 = opIret := rfl
theorem h27_22 : code_ 27 22 = opAld 0 23 := rfl
theorem h27_23 : code_ 27 23 = opGR 1 7 1 100012 26 := rfl
theorem h27_26 : code_ 27 26 = opIld 1 27 := rfl
theorem h27_27 : code_ 27 27 = opIld 2 28 := rfl
theorem h27_28 : code_ 27 28 = opIas 29 := rfl
theorem h27_29 : code_ 27 29 = opIld 1 30 := rfl
theorem h27_30 : code_ 27 30 = opC (vI 16) 32 := rfl
theorem h27_32 : code_ 27 32 = opB (fun x y => x * y) 33 := rfl
theorem h27_33 : code_ 27 33 = opIst 3 34 := rfl
theorem h27_34 : code_ 27 34 = opC (vI 0) 35 := rfl
theorem h27_35 : code_ 27 35 = opIst 4 37 := rfl
theorem h27_37 : code_ 27 37 = opMask [5, 6] (opIld 4 39) := rfl
theorem h27_39 : code_ 27 39 = opC (vI 16) 41 := rfl
theorem h27_41 : code_ 27 41 = opCpGe 61 44 := rfl
theorem h27_44 : code_ 27 44 = opAld 0 45 := rfl
theorem h27_45 : code_ 27 45 = opGR 1 9 3 100192 48 := rfl
theorem h27_48 : code_ 27 48 = opIld 3 49 := rfl
theorem h27_49 : code_ 27 49 = opIld 4 51 := rfl
theorem h27_51 : code_ 27 51 = opB (fun x y => x + y) 52 := rfl
theorem h27_52 : code_ 27 52 = opIld 4 54 := rfl
theorem h27_54 : code_ 27 54 = opIas 55 := rfl
theorem h27_55 : code_ 27 55 = opInc 4 1 58 := rfl
theorem h27_58 : code_ 27 58 = opGoto 37 := rfl
theorem h27_61 : code_ 27 61 = opC (vI 15) 63 := rfl
theorem h27_63 : code_ 27 63 = opIst 4 65 := rfl
theorem h27_65 : code_ 27 65 = opMask [5, 6] (opIld 4 67) := rfl
theorem h27_67 : code_ 27 67 = opC (vI 1) 68 := rfl
theorem h27_68 : code_ 27 68 = opCpLt 125 71 := rfl
theorem h27_71 : code_ 27 71 = opIld 3 72 := rfl
theorem h27_72 : code_ 27 72 = opAld 0 73 := rfl
theorem h27_73 : code_ 27 73 = opIld 4 75 := rfl
theorem h27_75 : code_ 27 75 = opC (vI 1) 76 := rfl
theorem h27_76 : code_ 27 76 = opB (fun x y => x + y) 77 := rfl
theorem h27_77 : code_ 27 77 = opK kI 20 2 1 80 := rfl
theorem h27_80 : code_ 27 80 = opB (fun x y => x + y) 81 := rfl
theorem h27_81 : code_ 27 81 = opIst 5 83 := rfl
theorem h27_83 : code_ 27 83 = opAld 0 84 := rfl
theorem h27_84 : code_ 27 84 = opGR 1 9 3 100192 87 := rfl
theorem h27_87 : code_ 27 87 = opIld 3 88 := rfl
theorem h27_88 : code_ 27 88 = opIld 4 90 := rfl
theorem h27_90 : code_ 27 90 = opB (fun x y => x + y) 91 := rfl
theorem h27_91 : code_ 27 91 = opIal 92 := rfl
theorem h27_92 : code_ 27 92 = opIst 6 94 := rfl
theorem h27_94 : code_ 27 94 = opAld 0 95 := rfl
theorem h27_95 : code_ 27 95 = opGR 1 9 3 100192 98 := rfl
theorem h27_98 : code_ 27 98 = opIld 3 99 := rfl
theorem h27_99 : code_ 27 99 = opIld 4 101 := rfl
theorem h27_101 : code_ 27 101 = opB (fun x y => x + y) 102 := rfl
theorem h27_102 : code_ 27 102 = opAld 0 103 := rfl
theorem h27_103 : code_ 27 103 = opGR 1 9 3 100192 106 := rfl
theorem h27_106 : code_ 27 106 = opIld 5 108 := rfl
theorem h27_108 : code_ 27 108 = opIal 109 := rfl
theorem h27_109 : code_ 27 109 = opIas 110 := rfl
theorem h27_110 : code_ 27 110 = opAld 0 111 := rfl
theorem h27_111 : code_ 27 111 = opGR 1 9 3 100192 114 := rfl
theorem h27_114 : code_ 27 114 = opIld 5 116 := rfl
theorem h27_116 : code_ 27 116 = opIld 6 118 := rfl
theorem h27_118 : code_ 27 118 = opIas 119 := rfl
theorem h27_119 : code_ 27 119 = opInc 4 (-1) 122 := rfl
theorem h27_122 : code_ 27 122 = opGoto 65 := rfl
theorem h27_125 : code_ 27 125 = opAld 0 126 := rfl
theorem h27_126 : code_ 27 126 = opC (vI 0) 127 := rfl
theorem h27_127 : code_ 27 127 = opIld 1 128 := rfl
theorem h27_128 : code_ 27 128 = opIld 2 129 := rfl
theorem h27_129 : code_ 27 129 = opK kV 21 4 1 132 := rfl
theorem h27_132 : code_ 27 132 = opIld 1 133 := rfl
theorem h27_133 : code_ 27 133 = opIret := rfl
theorem h28_0 : code_ 28 0 = opAld 0 1 := rfl
theorem h28_1 : code_ 28 1 = opK kI 23 1 1 4 := rfl
theorem h28_4 : code_ 28 4 = opIst 2 5 := rfl
theorem h28_5 : code_ 28 5 = opIld 2 6 := rfl
theorem h28_6 : code_ 28 6 = opC (vI (-1)) 7 := rfl
theorem h28_7 : code_ 28 7 = opCpNe 15 10 := rfl
theorem h28_10 : code_ 28 10 = opAld 0 11 := rfl
theorem h28_11 : code_ 28 11 = opK kI 27 1 1 14 := rfl
theorem h28_14 : code_ 28 14 = opIst 2 15 := rfl
theorem h28_15 : code_ 28 15 = opMask [3, 4] (opAld 0 16) := rfl
theorem h28_16 : code_ 28 16 = opIld 2 17 := rfl
theorem h28_17 : code_ 28 17 = opK kI 22 2 1 20 := rfl
theorem h28_20 : code_ 28 20 = opIst 3 21 := rfl
theorem h28_21 : code_ 28 21 = opIld 2 22 := rfl
theorem h28_22 : code_ 28 22 = opC (vI (-1)) 23 := rfl
theorem h28_23 : code_ 28 23 = opCpEq 31 26 := rfl
theorem h28_26 : code_ 28 26 = opIld 3 27 := rfl
theorem h28_27 : code_ 28 27 = opC (vI (-1)) 28 := rfl
theorem h28_28 : code_ 28 28 = opCpNe 33 31 := rfl
theorem h28_31 : code_ 28 31 = opMask [0, 1, 2, 3, 4] (opC (vI (-1)) 32) := rfl
theorem h28_32 : code_ 28 32 = opIret := rfl
theorem h28_33 : code_ 28 33 = opAld 0 34 := rfl
theorem h28_34 : code_ 28 34 = opGR 1 8 2 100012 37 := rfl
theorem h28_37 : code_ 28 37 = opIld 2 38 := rfl
theorem h28_38 : code_ 28 38 = opDup2 39 := rfl
theorem h28_39 : code_ 28 39 = opIal 40 := rfl
theorem h28_40 : code_ 28 40 = opC (vI 1) 41 := rfl
theorem h28_41 : code_ 28 41 = opIld 3 42 := rfl
theorem h28_42 : code_ 28 42 = opB shlI 43 := rfl
theorem h28_43 : code_ 28 43 = opB (fun x y => x ||| y) 44 := rfl
theorem h28_44 : code_ 28 44 = opIas 45 := rfl
theorem h28_45 : code_ 28 45 = opIld 2 46 := rfl
theorem h28_46 : code_ 28 46 = opC (vI 16) 48 := rfl
theorem h28_48 : code_ 28 48 = opB (fun x y => x * y) 49 := rfl
theorem h28_49 : code_ 28 49 = opIld 3 50 := rfl
theorem h28_50 : code_ 28 50 = opB (fun x y => x + y) 51 := rfl
theorem h28_51 : code_ 28 51 = opIst 4 53 := rfl
theorem h28_53 : code_ 28 53 = opAld 0 54 := rfl
theorem h28_54 : code_ 28 54 = opIld 4 56 := rfl
theorem h28_56 : code_ 28 56 = opIld 1 57 := rfl
theorem h28_57 : code_ 28 57 = opK kV 12 3 1 60 := rfl
theorem h28_60 : code_ 28 60 = opIld 4 62 := rfl
theorem h28_62 : code_ 28 62 = opIret := rfl
theorem h29_0 : code_ 29 0 = opAld 0 1 := rfl
theorem h29_1 : code_ 29 1 = opIld 1 2 := rfl
theorem h29_2 : code_ 29 2 = opK kI 9 2 1 5 := rfl
theorem h29_5 : code_ 29 5 = opIfNe 10 8 := rfl
theorem h29_8 : code_ 29 8 = opC (vI (-1)) 9 := rfl
theorem h29_9 : code_ 29 9 = opIret := rfl
theorem h29_10 : code_ 29 10 = opAld 0 11 := rfl
theorem h29_11 : code_ 29 11 = opIld 1 12 := rfl
theorem h29_12 : code_ 29 12 = opK kI 11 2 1 15 := rfl
theorem h29_15 : code_ 29 15 = opIst 2 16 := rfl
theorem h29_16 : code_ 29 16 = opIld 1 17 := rfl
theorem h29_17 : code_ 29 17 = opC (vI 16) 19 := rfl
theorem h29_19 : code_ 29 19 = opBz (fun x y => x / y) 20 := rfl
theorem h29_20 : code_ 29 20 = opIst 3 21 := rfl
theorem h29_21 : code_ 29 21 = opAld 0 22 := rfl
theorem h29_22 : code_ 29 22 = opGR 1 8 2 100012 25 := rfl
theorem h29_25 : code_ 29 25 = opIld 3 26 := rfl
theorem h29_26 : code_ 29 26 = opDup2 27 := rfl
theorem h29_27 : code_ 29 27 = opIal 28 := rfl
theorem h29_28 : code_ 29 28 = opC (vI 1) 29 := rfl
theorem h29_29 : code_ 29 29 = opIld 1 30 := rfl
theorem h29_30 : code_ 29 30 = opC (vI 16) 32 := rfl
theorem h29_32 : code_ 29 32 = opBz remI 33 := rfl
theorem h29_33 : code_ 29 33 = opB shlI 34 := rfl
theorem h29_34 : code_ 29 34 = opC (vI (-1)) 35 := rfl
theorem h29_35 : code_ 29 35 = opB (fun x y => x ^^^ y) 36 := rfl
theorem h29_36 : code_ 29 36 = opB (fun x y => x &&& y) 37 := rfl
theorem h29_37 : code_ 29 37 = opIas 38 := rfl
theorem h29_38 : code_ 29 38 = opAld 0 39 := rfl
theorem h29_39 : code_ 29 39 = opGR 1 8 2 100012 42 := rfl
theorem h29_42 : code_ 29 42 = opIld 3 43 := rfl
theorem h29_43 : code_ 29 43 = opIal 44 := rfl
theorem h29_44 : code_ 29 44 = opIfNe 66 47 := rfl
theorem h29_47 : code_ 29 47 = opAld 0 48 := rfl
theorem h29_48 : code_ 29 48 = opC (vI 1) 49 := rfl
theorem h29_49 : code_ 29 49 = opIld 3 50 := rfl
theorem h29_50 : code_ 29 50 = opAld 0 51 := rfl
theorem h29_51 : code_ 29 51 = opGR 1 7 1 100012 54 := rfl
theorem h29_54 : code_ 29 54 = opIld 3 55 := rfl
theorem h29_55 : code_ 29 55 = opIal 56 := rfl
theorem h29_56 : code_ 29 56 = opK kV 21 4 1 59 := rfl
theorem h29_59 : code_ 29 59 = opAld 0 60 := rfl
theorem h29_60 : code_ 29 60 = opGR 1 7 1 100012 63 := rfl
theorem h29_63 : code_ 29 63 = opIld 3 64 := rfl
theorem h29_64 : code_ 29 64 = opC (vI (-1)) 65 := rfl
theorem h29_65 : code_ 29 65 = opIas 66 := rfl
theorem h29_66 : code_ 29 66 = opMask [0, 1, 3] (opIld 2 67) := rfl
theorem h29_67 : code_ 29 67 = opIret := rfl
theorem h30_0 : code_ 30 0 = opAld 0 1 := rfl
theorem h30_1 : code_ 30 1 = opGI 1 3 4 := rfl
theorem h30_4 : code_ 30 4 = opC (vI (-1)) 5 := rfl
theorem h30_5 : code_ 30 5 = opCpEq 28 8 := rfl
theorem h30_8 : code_ 30 8 = opIld 1 9 := rfl
theorem h30_9 : code_ 30 9 = opAld 0 10 := rfl
theorem h30_10 : code_ 30 10 = opGI 1 3 13 := rfl
theorem h30_13 : code_ 30 13 = opCpEq 24 16 := rfl
theorem h30_16 : code_ 30 16 = opIld 1 17 := rfl
theorem h30_17 : code_ 30 17 = opAld 0 18 := rfl
theorem h30_18 : code_ 30 18 = opGI 1 4 21 := rfl
theorem h30_21 : code_ 30 21 = opCpNe 28 24 := rfl
theorem h30_24 : code_ 30 24 = opMask [0, 1] (opC (vI 1) 25) := rfl
theorem h30_25 : code_ 30 25 = opGoto 29 := rfl
theorem h30_28 : code_ 30 28 = opMask [0, 1] (opC (vI 0) 29) := rfl
theorem h30_29 : code_ 30 29 = opMask [0, 1] (opZret) := rfl
theorem h31_0 : code_ 31 0 = opIld 1 1 := rfl
theorem h31_1 : code_ 31 1 = opK kI 152 1 99 4 := rfl
theorem h31_4 : code_ 31 4 = opIfEq 14 7 := rfl
theorem h31_7 : code_ 31 7 = opIld 2 8 := rfl
theorem h31_8 : code_ 31 8 = opK kI 152 1 99 11 := rfl
theorem h31_11 : code_ 31 11 = opIfNe 16 14 := rfl
theorem h31_14 : code_ 31 14 = opMask [0, 1, 2, 3, 4, 5, 6] (opC (vI (-1)) 15) := rfl
theorem h31_15 : code_ 31 15 = opIret := rfl
theorem h31_16 : code_ 31 16 = opAld 0 17 := rfl
theorem h31_17 : code_ 31 17 = opIld 1 18 := rfl
theorem h31_18 : code_ 31 18 = opK kI 6 2 1 21 := rfl
theorem h31_21 : code_ 31 21 = opIfEq 32 24 := rfl
theorem h31_24 : code_ 31 24 = opAld 0 25 := rfl
theorem h31_25 : code_ 31 25 = opIld 2 26 := rfl
theorem h31_26 : code_ 31 26 = opK kI 6 2 1 29 := rfl
theorem h31_29 : code_ 31 29 = opIfNe 34 32 := rfl
theorem h31_32 : code_ 31 32 = opMask [0, 1, 2, 3, 4, 5, 6] (opC (vI 1) 33) := rfl
theorem h31_33 : code_ 31 33 = opIret := rfl
theorem h31_34 : code_ 31 34 = opAld 0 35 := rfl
theorem h31_35 : code_ 31 35 = opGR 1 7 1 100012 38 := rfl
theorem h31_38 : code_ 31 38 = opIld 1 39 := rfl
theorem h31_39 : code_ 31 39 = opIal 40 := rfl
theorem h31_40 : code_ 31 40 = opAld 0 41 := rfl
theorem h31_41 : code_ 31 41 = opGR 1 7 1 100012 44 := rfl
theorem h31_44 : code_ 31 44 = opIld 2 45 := rfl
theorem h31_45 : code_ 31 45 = opIal 46 := rfl
theorem h31_46 : code_ 31 46 = opCpNe 51 49 := rfl
theorem h31_49 : code_ 31 49 = opC (vI 2) 50 := rfl
theorem h31_50 : code_ 31 50 = opIret := rfl
theorem h31_51 : code_ 31 51 = opAld 0 52 := rfl
theorem h31_52 : code_ 31 52 = opAld 0 53 := rfl
theorem h31_53 : code_ 31 53 = opGR 1 7 1 100012 56 := rfl
theorem h31_56 : code_ 31 56 = opIld 1 57 := rfl
theorem h31_57 : code_ 31 57 = opIal 58 := rfl
theorem h31_58 : code_ 31 58 = opK kI 30 2 1 61 := rfl
theorem h31_61 : code_ 31 61 = opIfNe 77 64 := rfl
theorem h31_64 : code_ 31 64 = opAld 0 65 := rfl
theorem h31_65 : code_ 31 65 = opAld 0 66 := rfl
theorem h31_66 : code_ 31 66 = opGR 1 7 1 100012 69 := rfl
theorem h31_69 : code_ 31 69 = opIld 2 70 := rfl
theorem h31_70 : code_ 31 70 = opIal 71 := rfl
theorem h31_71 : code_ 31 71 = opK kI 30 2 1 74 := rfl
theorem h31_74 : code_ 31 74 = opIfEq 79 77 := rfl
theorem h31_77 : code_ 31 77 = opMask [0, 1, 2, 3, 4, 5, 6] (opC (vI 3) 78) := rfl
theorem h31_78 : code_ 31 78 = opIret := rfl
theorem h31_79 : code_ 31 79 = opAld 0 80 := rfl
theorem h31_80 : code_ 31 80 = opAld 0 81 := rfl
theorem h31_81 : code_ 31 81 = opGR 1 7 1 100012 84 := rfl
theorem h31_84 : code_ 31 84 = opIld 1 85 := rfl
theorem h31_85 : code_ 31 85 = opIal 86 := rfl
theorem h31_86 : code_ 31 86 = opK kI 15 2 1 89 := rfl
theorem h31_89 : code_ 31 89 = opIst 4 91 := rfl
theorem h31_91 : code_ 31 91 = opAld 0 92 := rfl
theorem h31_92 : code_ 31 92 = opAld 0 93 := rfl
theorem h31_93 : code_ 31 93 = opGR 1 7 1 100012 96 := rfl
theorem h31_96 : code_ 31 96 = opIld 2 97 := rfl
theorem h31_97 : code_ 31 97 = opIal 98 := rfl
theorem h31_98 : code_ 31 98 = opK kI 15 2 1 101 := rfl
theorem h31_101 : code_ 31 101 = opIst 5 103 := rfl
theorem h31_103 : code_ 31 103 = opIld 4 105 := rfl
theorem h31_105 : code_ 31 105 = opIld 5 107 := rfl
theorem h31_107 : code_ 31 107 = opB (fun x y => x &&& y) 108 := rfl
theorem h31_108 : code_ 31 108 = opIfEq 113 111 := rfl
theorem h31_111 : code_ 31 111 = opC (vI 4) 112 := rfl
theorem h31_112 : code_ 31 112 = opIret := rfl
theorem h31_113 : code_ 31 113 = opAld 3 114 := rfl
theorem h31_114 : code_ 31 114 = opC (vI 0) 115 := rfl
theorem h31_115 : code_ 31 115 = opAld 0 116 := rfl
theorem h31_116 : code_ 31 116 = opIld 4 118 := rfl
theorem h31_118 : code_ 31 118 = opK kI 318 1 99 121 := rfl
theorem h31_121 : code_ 31 121 = opIld 5 123 := rfl
theorem h31_123 : code_ 31 123 = opK kI 318 1 99 126 := rfl
theorem h31_126 : code_ 31 126 = opK kI 93 5 5 129 := rfl
theorem h31_129 : code_ 31 129 = opIfLe 136 132 := rfl
theorem h31_132 : code_ 31 132 = opC (vI 1) 133 := rfl
theorem h31_133 : code_ 31 133 = opGoto 137 := rfl
theorem h31_136 : code_ 31 136 = opC (vI 0) 137 := rfl
theorem h31_137 : code_ 31 137 = opMask [0, 1, 2, 3, 4, 5, 6] (opIst 6 139) := rfl
theorem h31_139 : code_ 31 139 = opIld 6 141 := rfl
theorem h31_141 : code_ 31 141 = opIfEq 148 144 := rfl
theorem h31_144 : code_ 31 144 = opC (vI 0) 145 := rfl
theorem h31_145 : code_ 31 145 = opGoto 149 := rfl
theorem h31_148 : code_ 31 148 = opC (vI 5) 149 := rfl
theorem h31_149 : code_ 31 149 = opMask [0, 1, 2, 3, 4, 5, 6] (opIret) := rfl
theorem h32_0 : code_ 32 0 = opAld 0 1 := rfl
theorem h32_1 : code_ 32 1 = opAld 0 2 := rfl
theorem h32_2 : code_ 32 2 = opGR 1 7 1 100012 5 := rfl
theorem h32_5 : code_ 32 5 = opIld 2 6 := rfl
theorem h32_6 : code_ 32 6 = opIal 7 := rfl
theorem h32_7 : code_ 32 7 = opK kI 15 2 1 10 := rfl
theorem h32_10 : code_ 32 10 = opK kI 318 1 99 13 := rfl
theorem h32_13 : code_ 32 13 = opAld 0 14 := rfl
theorem h32_14 : code_ 32 14 = opAld 0 15 := rfl
theorem h32_15 : code_ 32 15 = opGR 1 7 1 100012 18 := rfl
theorem h32_18 : code_ 32 18 = opIld 1 19 := rfl
theorem h32_19 : code_ 32 19 = opIal 20 := rfl
theorem h32_20 : code_ 32 20 = opK kI 15 2 1 23 := rfl
theorem h32_23 : code_ 32 23 = opK kI 318 1 99 26 := rfl
theorem h32_26 : code_ 32 26 = opCpGt 33 29 := rfl
theorem h32_29 : code_ 32 29 = opC (vI 1) 30 := rfl
theorem h32_30 : code_ 32 30 = opGoto 34 := rfl
theorem h32_33 : code_ 32 33 = opC (vI 0) 34 := rfl
theorem h32_34 : code_ 32 34 = opMask [0, 1, 2] (opZret) := rfl
theorem h33_0 : code_ 33 0 = opAld 0 1 := rfl
theorem h33_1 : code_ 33 1 = opIld 1 2 := rfl
theorem h33_2 : code_ 33 2 = opK kI 6 2 1 5 := rfl
theorem h33_5 : code_ 33 5 = opIfEq 16 8 := rfl
theorem h33_8 : code_ 33 8 = opAld 0 9 := rfl
theorem h33_9 : code_ 33 9 = opIld 2 10 := rfl
theorem h33_10 : code_ 33 10 = opK kI 6 2 1 13 := rfl
theorem h33_13 : code_ 33 13 = opIfNe 18 16 := rfl
theorem h33_16 : code_ 33 16 = opMask [0, 1, 2, 3, 4, 5, 6, 7] (opC (vI (-1)) 17) := rfl
theorem h33_17 : code_ 33 17 = opIret := rfl
theorem h33_18 : code_ 33 18 = opAld 0 19 := rfl
theorem h33_19 : code_ 33 19 = opIld 1 20 := rfl
theorem h33_20 : code_ 33 20 = opIld 2 21 := rfl
theorem h33_21 : code_ 33 21 = opK kI 32 3 1 24 := rfl
theorem h33_24 : code_ 33 24 = opIst 3 25 := rfl
theorem h33_25 : code_ 33 25 = opIld 3 26 := rfl
theorem h33_26 : code_ 33 26 = opIfEq 38 29 := rfl
theorem h33_29 : code_ 33 29 = opAld 0 30 := rfl
theorem h33_30 : code_ 33 30 = opGR 1 7 1 100012 33 := rfl
theorem h33_33 : code_ 33 33 = opIld 2 34 := rfl
theorem h33_34 : code_ 33 34 = opIal 35 := rfl
theorem h33_35 : code_ 33 35 = opGoto 44 := rfl
theorem h33_38 : code_ 33 38 = opAld 0 39 := rfl
theorem h33_39 : code_ 33 39 = opGR 1 7 1 100012 42 := rfl
theorem h33_42 : code_ 33 42 = opIld 1 43 := rfl
theorem h33_43 : code_ 33 43 = opIal 44 := rfl
theorem h33_44 : code_ 33 44 = opMask [4, 5, 6, 7] (opIst 4 46) := rfl
theorem h33_46 : code_ 33 46 = opIld 3 47 := rfl
theorem h33_47 : code_ 33 47 = opIfEq 59 50 := rfl
theorem h33_50 : code_ 33 50 = opAld 0 51 := rfl
theorem h33_51 : code_ 33 51 = opGR 1 7 1 100012 54 := rfl
theorem h33_54 : code_ 33 54 = opIld 1 55 := rfl
theorem h33_55 : code_ 33 55 = opIal 56 := rfl
theorem h33_56 : code_ 33 56 = opGoto 65 := rfl
theorem h33_59 : code_ 33 59 = opAld 0 60 := rfl
theorem h33_60 : code_ 33 60 = opGR 1 7 1 100012 63 := rfl
theorem h33_63 : code_ 33 63 = opIld 2 64 := rfl
theorem h33_64 : code_ 33 64 = opIal 65 := rfl
theorem h33_65 : code_ 33 65 = opMask [1, 2, 3, 5, 6, 7] (opIst 5 67) := rfl
theorem h33_67 : code_ 33 67 = opAld 0 68 := rfl
theorem h33_68 : code_ 33 68 = opIld 4 70 := rfl
theorem h33_70 : code_ 33 70 = opK kI 15 2 1 73 := rfl
theorem h33_73 : code_ 33 73 = opIst 6 75 := rfl
theorem h33_75 : code_ 33 75 = opC (vI 0) 76 := rfl
theorem h33_76 : code_ 33 76 = opIst 7 78 := rfl
theorem h33_78 : code_ 33 78 = opMask [1, 2, 3] (opIld 7 80) := rfl
theorem h33_80 : code_ 33 80 = opC (vI 16) 82 := rfl
theorem h33_82 : code_ 33 82 = opCpGe 112 85 := rfl
theorem h33_85 : code_ 33 85 = opIld 6 87 := rfl
theorem h33_87 : code_ 33 87 = opIld 7 89 := rfl
theorem h33_89 : code_ 33 89 = opB shrI 90 := rfl
theorem h33_90 : code_ 33 90 = opC (vI 1) 91 := rfl
theorem h33_91 : code_ 33 91 = opB (fun x y => x &&& y) 92 := rfl
theorem h33_92 : code_ 33 92 = opC (vI 1) 93 := rfl
theorem h33_93 : code_ 33 93 = opCpNe 106 96 := rfl
theorem h33_96 : code_ 33 96 = opAld 0 97 := rfl
theorem h33_97 : code_ 33 97 = opIld 4 99 := rfl
theorem h33_99 : code_ 33 99 = opIld 5 101 := rfl
theorem h33_101 : code_ 33 101 = opIld 7 103 := rfl
theorem h33_103 : code_ 33 103 = opK kV 34 4 1 106 := rfl
theorem h33_106 : code_ 33 106 = opMask [1, 2, 3] (opInc 7 1 109) := rfl
theorem h33_109 : code_ 33 109 = opGoto 78 := rfl
theorem h33_112 : code_ 33 112 = opAld 0 113 := rfl
theorem h33_113 : code_ 33 113 = opIld 4 115 := rfl
theorem h33_115 : code_ 33 115 = opIld 5 117 := rfl
theorem h33_117 : code_ 33 117 = opK kV 35 3 1 120 := rfl
theorem h33_120 : code_ 33 120 = opIld 6 122 := rfl
theorem h33_122 : code_ 33 122 = opK kI 318 1 99 125 := rfl
theorem h33_125 : code_ 33 125 = opIret := rfl
theorem h34_0 : code_ 34 0 = opIld 1 1 := rfl
theorem h34_1 : code_ 34 1 = opK kI 152 1 99 4 := rfl
theorem h34_4 : code_ 34 4 = opIfEq 36 7 := rfl
theorem h34_7 : code_ 34 7 = opIld 2 8 := rfl
theorem h34_8 : code_ 34 8 = opK kI 152 1 99 11 := rfl
theorem h34_11 : code_ 34 11 = opIfEq 36 14 := rfl
theorem h34_14 : code_ 34 14 = opAld 0 15 := rfl
theorem h34_15 : code_ 34 15 = opGR 1 10 4 100192 18 := rfl
theorem h34_18 : code_ 34 18 = opIld 2 19 := rfl
theorem h34_19 : code_ 34 19 = opC (vI 16) 21 := rfl
theorem h34_21 : code_ 34 21 = opB (fun x y => x * y) 22 := rfl
theorem h34_22 : code_ 34 22 = opIld 3 23 := rfl
theorem h34_23 : code_ 34 23 = opB (fun x y => x + y) 24 := rfl
theorem h34_24 : code_ 34 24 = opAld 0 25 := rfl
theorem h34_25 : code_ 34 25 = opGR 1 10 4 100192 28 := rfl
theorem h34_28 : code_ 34 28 = opIld 1 29 := rfl
theorem h34_29 : code_ 34 29 = opC (vI 16) 31 := rfl
theorem h34_31 : code_ 34 31 = opB (fun x y => x * y) 32 := rfl
theorem h34_32 : code_ 34 32 = opIld 3 33 := rfl
theorem h34_33 : code_ 34 33 = opB (fun x y => x + y) 34 := rfl
theorem h34_34 : code_ 34 34 = opIal 35 := rfl
theorem h34_35 : code_ 34 35 = opIas 36 := rfl
theorem h34_36 : code_ 34 36 = opMask [0, 1, 2, 3] (opRet) := rfl
theorem h35_0 : code_ 35 0 = opC (vI 0) 1 := rfl
theorem h35_1 : code_ 35 1 = opIst 3 2 := rfl
theorem h35_2 : code_ 35 2 = opIld 3 3 := rfl
theorem h35_3 : code_ 35 3 = opC (vI 12) 5 := rfl
theorem h35_5 : code_ 35 5 = opCpGe 31 8 := rfl
theorem h35_8 : code_ 35 8 = opAld 0 9 := rfl
theorem h35_9 : code_ 35 9 = opGR 1 7 1 100012 12 := rfl
theorem h35_12 : code_ 35 12 = opIld 3 13 := rfl
theorem h35_13 : code_ 35 13 = opIal 14 := rfl
theorem h35_14 : code_ 35 14 = opIld 1 15 := rfl
theorem h35_15 : code_ 35 15 = opCpNe 25 18 := rfl
theorem h35_18 : code_ 35 18 = opAld 0 19 := rfl
theorem h35_19 : code_ 35 19 = opGR 1 7 1 100012 22 := rfl
theorem h35_22 : code_ 35 22 = opIld 3 23 := rfl
theorem h35_23 : code_ 35 23 = opIld 2 24 := rfl
theorem h35_24 : code_ 35 24 = opIas 25 := rfl
theorem h35_25 : code_ 35 25 = opInc 3 1 28 := rfl
theorem h35_28 : code_ 35 28 = opGoto 2 := rfl
theorem h35_31 : code_ 35 31 = opAld 0 32 := rfl
theorem h35_32 : code_ 35 32 = opDup 33 := rfl
theorem h35_33 : code_ 35 33 = opGI 1 2 36 := rfl
theorem h35_36 : code_ 35 36 = opC (vI 1) 37 := rfl
theorem h35_37 : code_ 35 37 = opB (fun x y => x + y) 38 := rfl
theorem h35_38 : code_ 35 38 = opPI 1 2 41 := rfl
theorem h35_41 : code_ 35 41 = opAld 0 42 := rfl
theorem h35_42 : code_ 35 42 = opC (vI 2) 43 := rfl
theorem h35_43 : code_ 35 43 = opIld 2 44 := rfl
theorem h35_44 : code_ 35 44 = opIld 1 45 := rfl
theorem h35_45 : code_ 35 45 = opK kV 21 4 1 48 := rfl
theorem h35_48 : code_ 35 48 = opRet := rfl
theorem h36_0 : code_ 36 0 = opAld 0 1 := rfl
theorem h36_1 : code_ 36 1 = opIld 1 2 := rfl
theorem h36_2 : code_ 36 2 = opK kI 6 2 1 5 := rfl
theorem h36_5 : code_ 36 5 = opIfEq 16 8 := rfl
theorem h36_8 : code_ 36 8 = opAld 0 9 := rfl
theorem h36_9 : code_ 36 9 = opIld 2 10 := rfl
theorem h36_10 : code_ 36 10 = opK kI 6 2 1 13 := rfl
theorem h36_13 : code_ 36 13 = opIfNe 18 16 := rfl
theorem h36_16 : code_ 36 16 = opMask [0, 1, 2, 3] (opC (vI (-1)) 17) := rfl
theorem h36_17 : code_ 36 17 = opIret := rfl
theorem h36_18 : code_ 36 18 = opAld 0 19 := rfl
theorem h36_19 : code_ 36 19 = opIld 1 20 := rfl
theorem h36_20 : code_ 36 20 = opIld 2 21 := rfl
theorem h36_21 : code_ 36 21 = opK kI 32 3 1 24 := rfl
theorem h36_24 : code_ 36 24 = opIst 3 25 := rfl
theorem h36_25 : code_ 36 25 = opAld 0 26 := rfl
theorem h36_26 : code_ 36 26 = opIld 3 27 := rfl
theorem h36_27 : code_ 36 27 = opIfEq 39 30 := rfl
theorem h36_30 : code_ 36 30 = opAld 0 31 := rfl
theorem h36_31 : code_ 36 31 = opGR 1 7 1 100012 34 := rfl
theorem h36_34 : code_ 36 34 = opIld 2 35 := rfl
theorem h36_35 : code_ 36 35 = opIal 36 := rfl
theorem h36_36 : code_ 36 36 = opGoto 45 := rfl
theorem h36_39 : code_ 36 39 = opAld 0 40 := rfl
theorem h36_40 : code_ 36 40 = opGR 1 7 1 100012 43 := rfl
theorem h36_43 : code_ 36 43 = opIld 1 44 := rfl
theorem h36_44 : code_ 36 44 = opIal 45 := rfl
theorem h36_45 : code_ 36 45 = opPI 1 3 48 := rfl
theorem h36_48 : code_ 36 48 = opAld 0 49 := rfl
theorem h36_49 : code_ 36 49 = opIld 3 50 := rfl
theorem h36_50 : code_ 36 50 = opIfEq 62 53 := rfl
theorem h36_53 : code_ 36 53 = opAld 0 54 := rfl
theorem h36_54 : code_ 36 54 = opGR 1 7 1 100012 57 := rfl
theorem h36_57 : code_ 36 57 = opIld 1 58 := rfl
theorem h36_58 : code_ 36 58 = opIal 59 := rfl
theorem h36_59 : code_ 36 59 = opGoto 68 := rfl
theorem h36_62 : code_ 36 62 = opAld 0 63 := rfl
theorem h36_63 : code_ 36 63 = opGR 1 7 1 100012 66 := rfl
theorem h36_66 : code_ 36 66 = opIld 2 67 := rfl
theorem h36_67 : code_ 36 67 = opIal 68 := rfl
theorem h36_68 : code_ 36 68 = opMask [1, 2, 3] (opPI 1 4 71) := rfl
theorem h36_71 : code_ 36 71 = opAld 0 72 := rfl
theorem h36_72 : code_ 36 72 = opC (vI 3) 73 := rfl
theorem h36_73 : code_ 36 73 = opAld 0 74 := rfl
theorem h36_74 : code_ 36 74 = opGI 1 3 77 := rfl
theorem h36_77 : code_ 36 77 = opAld 0 78 := rfl
theorem h36_78 : code_ 36 78 = opGI 1 4 81 := rfl
theorem h36_81 : code_ 36 81 = opK kV 21 4 1 84 := rfl
theorem h36_84 : code_ 36 84 = opAld 0 85 := rfl
theorem h36_85 : code_ 36 85 = opK kI 37 1 1 88 := rfl
theorem h36_88 : code_ 36 88 = opIret := rfl
theorem h37_0 : code_ 37 0 = opAld 0 1 := rfl
theorem h37_1 : code_ 37 1 = opAld 0 2 := rfl
theorem h37_2 : code_ 37 2 = opGI 1 3 5 := rfl
theorem h37_5 : code_ 37 5 = opK kI 15 2 1 8 := rfl
theorem h37_8 : code_ 37 8 = opAld 0 9 := rfl
theorem h37_9 : code_ 37 9 = opGI 1 5 12 := rfl
theorem h37_12 : code_ 37 12 = opC (vI (-1)) 13 := rfl
theorem h37_13 : code_ 37 13 = opB (fun x y => x ^^^ y) 14 := rfl
theorem h37_14 : code_ 37 14 = opB (fun x y => x &&& y) 15 := rfl
theorem h37_15 : code_ 37 15 = opK kI 318 1 99 18 := rfl
theorem h37_18 : code_ 37 18 = opIret := rfl
theorem h38_0 : code_ 38 0 = opAld 0 1 := rfl
theorem h38_1 : code_ 38 1 = opAld 0 2 := rfl
theorem h38_2 : code_ 38 2 = opGI 1 3 5 := rfl
theorem h38_5 : code_ 38 5 = opK kI 15 2 1 8 := rfl
theorem h38_8 : code_ 38 8 = opAld 0 9 := rfl
theorem h38_9 : code_ 38 9 = opGI 1 5 12 := rfl
theorem h38_12 : code_ 38 12 = opC (vI (-1)) 13 := rfl
theorem h38_13 : code_ 38 13 = opB (fun x y => x ^^^ y) 14 := rfl
theorem h38_14 : code_ 38 14 = opB (fun x y => x &&& y) 15 := rfl
theorem h38_15 : code_ 38 15 = opIst 1 16 := rfl
theorem h38_16 : code_ 38 16 = opC (vI 0) 17 := rfl
theorem h38_17 : code_ 38 17 = opIst 2 18 := rfl
theorem h38_18 : code_ 38 18 = opIld 2 19 := rfl
theorem h38_19 : code_ 38 19 = opC (vI 16) 21 := rfl
theorem h38_21 : code_ 38 21 = opCpGe 67 24 := rfl
theorem h38_24 : code_ 38 24 = opIld 1 25 := rfl
theorem h38_25 : code_ 38 25 = opIld 2 26 := rfl
theorem h38_26 : code_ 38 26 = opB shrI 27 := rfl
theorem h38_27 : code_ 38 27 = opC (vI 1) 28 := rfl
theorem h38_28 : code_ 38 28 = opB (fun x y => x &&& y) 29 := rfl
theorem h38_29 : code_ 38 29 = opC (vI 1) 30 := rfl
theorem h38_30 : code_ 38 30 = opCpNe 61 33 := rfl
theorem h38_33 : code_ 38 33 = opAld 0 34 := rfl
theorem h38_34 : code_ 38 34 = opAld 0 35 := rfl
theorem h38_35 : code_ 38 35 = opGI 1 3 38 := rfl
theorem h38_38 : code_ 38 38 = opAld 0 39 := rfl
theorem h38_39 : code_ 38 39 = opGI 1 4 42 := rfl
theorem h38_42 : code_ 38 42 = opIld 2 43 := rfl
theorem h38_43 : code_ 38 43 = opK kV 34 4 1 46 := rfl
theorem h38_46 : code_ 38 46 = opAld 0 47 := rfl
theorem h38_47 : code_ 38 47 = opDup 48 := rfl
theorem h38_48 : code_ 38 48 = opGI 1 5 51 := rfl
theorem h38_51 : code_ 38 51 = opC (vI 1) 52 := rfl
theorem h38_52 : code_ 38 52 = opIld 2 53 := rfl
theorem h38_53 : code_ 38 53 = opB shlI 54 := rfl
theorem h38_54 : code_ 38 54 = opB (fun x y => x ||| y) 55 := rfl
theorem h38_55 : code_ 38 55 = opPI 1 5 58 := rfl
theorem h38_58 : code_ 38 58 = opGoto 67 := rfl
theorem h38_61 : code_ 38 61 = opInc 2 1 64 := rfl
theorem h38_64 : code_ 38 64 = opGoto 18 := rfl
theorem h38_67 : code_ 38 67 = opMask [1, 2] (opAld 0 68) := rfl
theorem h38_68 : code_ 38 68 = opK kI 37 1 1 71 := rfl
theorem h38_71 : code_ 38 71 = opIst 2 72 := rfl
theorem h38_72 : code_ 38 72 = opIld 2 73 := rfl
theorem h38_73 : code_ 38 73 = opIfNe 92 76 := rfl
theorem h38_76 : code_ 38 76 = opAld 0 77 := rfl
theorem h38_77 : code_ 38 77 = opAld 0 78 := rfl
theorem h38_78 : code_ 38 78 = opGI 1 3 81 := rfl
theorem h38_81 : code_ 38 81 = opAld 0 82 := rfl
theorem h38_82 : code_ 38 82 = opGI 1 4 85 := rfl
theorem h38_85 : code_ 38 85 = opK kV 35 3 1 88 := rfl
theorem h38_88 : code_ 38 88 = opAld 0 89 := rfl
theorem h38_89 : code_ 38 89 = opK kV 40 1 1 92 := rfl
theorem h38_92 : code_ 38 92 = opMask [0, 1] (opIld 2 93) := rfl
theorem h38_93 : code_ 38 93 = opIret := rfl
theorem h39_0 : code_ 39 0 = opAld 0 1 := rfl
theorem h39_1 : code_ 39 1 = opC (vI 4) 2 := rfl
theorem h39_2 : code_ 39 2 = opAld 0 3 := rfl
theorem h39_3 : code_ 39 3 = opGI 1 3 6 := rfl
theorem h39_6 : code_ 39 6 = opAld 0 7 := rfl
theorem h39_7 : code_ 39 7 = opGI 1 4 10 := rfl
theorem h39_10 : code_ 39 10 = opK kV 21 4 1 13 := rfl
theorem h39_13 : code_ 39 13 = opAld 0 14 := rfl
theorem h39_14 : code_ 39 14 = opK kV 40 1 1 17 := rfl
theorem h39_17 : code_ 39 17 = opRet := rfl
theorem h40_0 : code_ 40 0 = opAld 0 1 := rfl
theorem h40_1 : code_ 40 1 = opC (vI (-1)) 2 := rfl
theorem h40_2 : code_ 40 2 = opPI 1 3 5 := rfl
theorem h40_5 : code_ 40 5 = opAld 0 6 := rfl
theorem h40_6 : code_ 40 6 = opC (vI (-1)) 7 := rfl
theorem h40_7 : code_ 40 7 = opPI 1 4 10 := rfl
theorem h40_10 : code_ 40 10 = opAld 0 11 := rfl
theorem h40_11 : code_ 40 11 = opC (vI 0) 12 := rfl
theorem h40_12 : code_ 40 12 = opPI 1 5 15 := rfl
theorem h40_15 : code_ 40 15 = opRet := rfl
theorem h41_0 : code_ 41 0 = opAld 0 1 := rfl
theorem h41_1 : code_ 41 1 = opK kI 19 1 1 4 := rfl
theorem h41_4 : code_ 41 4 = opIst 1 5 := rfl
theorem h41_5 : code_ 41 5 = opC (vI 0) 6 := rfl
theorem h41_6 : code_ 41 6 = opIst 2 7 := rfl
theorem h41_7 : code_ 41 7 = opC (vI 0) 8 := rfl
theorem h41_8 : code_ 41 8 = opIst 3 9 := rfl
theorem h41_9 : code_ 41 9 = opMask [4, 5] (opIld 3 10) := rfl
theorem h41_10 : code_ 41 10 = opC (vI 12) 12 := rfl
theorem h41_12 : code_ 41 12 = opCpGe 40 15 := rfl
theorem h41_15 : code_ 41 15 = opIld 1 16 := rfl
theorem h41_16 : code_ 41 16 = opIld 3 17 := rfl
theorem h41_17 : code_ 41 17 = opB shrI 18 := rfl
theorem h41_18 : code_ 41 18 = opC (vI 1) 19 := rfl
theorem h41_19 : code_ 41 19 = opB (fun x y => x &&& y) 20 := rfl
theorem h41_20 : code_ 41 20 = opC (vI 1) 21 := rfl
theorem h41_21 : code_ 41 21 = opCpNe 34 24 := rfl
theorem h41_24 : code_ 41 24 = opAld 0 25 := rfl
theorem h41_25 : code_ 41 25 = opGR 1 12 6 100012 28 := rfl
theorem h41_28 : code_ 41 28 = opIld 2 29 := rfl
theorem h41_29 : code_ 41 29 = opIld 3 30 := rfl
theorem h41_30 : code_ 41 30 = opIas 31 := rfl
theorem h41_31 : code_ 41 31 = opInc 2 1 34 := rfl
theorem h41_34 : code_ 41 34 = opMask [4, 5] (opInc 3 1 37) := rfl
theorem h41_37 : code_ 41 37 = opGoto 9 := rfl
theorem h41_40 : code_ 41 40 = opIld 2 41 := rfl
theorem h41_41 : code_ 41 41 = opC (vI 1) 42 := rfl
theorem h41_42 : code_ 41 42 = opB (fun x y => x - y) 43 := rfl
theorem h41_43 : code_ 41 43 = opIst 3 44 := rfl
theorem h41_44 : code_ 41 44 = opMask [1, 4, 5] (opIld 3 45) := rfl
theorem h41_45 : code_ 41 45 = opC (vI 1) 46 := rfl
theorem h41_46 : code_ 41 46 = opCpLt 94 49 := rfl
theorem h41_49 : code_ 41 49 = opAld 0 50 := rfl
theorem h41_50 : code_ 41 50 = opIld 3 51 := rfl
theorem h41_51 : code_ 41 51 = opC (vI 1) 52 := rfl
theorem h41_52 : code_ 41 52 = opB (fun x y => x + y) 53 := rfl
theorem h41_53 : code_ 41 53 = opK kI 20 2 1 56 := rfl
theorem h41_56 : code_ 41 56 = opIst 4 58 := rfl
theorem h41_58 : code_ 41 58 = opAld 0 59 := rfl
theorem h41_59 : code_ 41 59 = opGR 1 12 6 100012 62 := rfl
theorem h41_62 : code_ 41 62 = opIld 3 63 := rfl
theorem h41_63 : code_ 41 63 = opIal 64 := rfl
theorem h41_64 : code_ 41 64 = opIst 5 66 := rfl
theorem h41_66 : code_ 41 66 = opAld 0 67 := rfl
theorem h41_67 : code_ 41 67 = opGR 1 12 6 100012 70 := rfl
theorem h41_70 : code_ 41 70 = opIld 3 71 := rfl
theorem h41_71 : code_ 41 71 = opAld 0 72 := rfl
theorem h41_72 : code_ 41 72 = opGR 1 12 6 100012 75 := rfl
theorem h41_75 : code_ 41 75 = opIld 4 77 := rfl
theorem h41_77 : code_ 41 77 = opIal 78 := rfl
theorem h41_78 : code_ 41 78 = opIas 79 := rfl
theorem h41_79 : code_ 41 79 = opAld 0 80 := rfl
theorem h41_80 : code_ 41 80 = opGR 1 12 6 100012 83 := rfl
theorem h41_83 : code_ 41 83 = opIld 4 85 := rfl
theorem h41_85 : code_ 41 85 = opIld 5 87 := rfl
theorem h41_87 : code_ 41 87 = opIas 88 := rfl
theorem h41_88 : code_ 41 88 = opInc 3 (-1) 91 := rfl
theorem h41_91 : code_ 41 91 = opGoto 44 := rfl
theorem h41_94 : code_ 41 94 = opIld 2 95 := rfl
theorem h41_95 : code_ 41 95 = opIret := rfl
theorem h42_0 : code_ 42 0 = opAld 1 1 := rfl
theorem h42_1 : code_ 42 1 = opAld 0 2 := rfl
theorem h42_2 : code_ 42 2 = opK kI 92 2 5 5 := rfl
theorem h42_5 : code_ 42 5 = opIst 2 6 := rfl
theorem h42_6 : code_ 42 6 = opAld 0 7 := rfl
theorem h42_7 : code_ 42 7 = opK kI 41 1 1 10 := rfl
theorem h42_10 : code_ 42 10 = opC (vI 2) 11 := rfl
theorem h42_11 : code_ 42 11 = opBz (fun x y => x / y) 12 := rfl
theorem h42_12 : code_ 42 12 = opIst 3 13 := rfl
theorem h42_13 : code_ 42 13 = opC (vI 0) 14 := rfl
theorem h42_14 : code_ 42 14 = opIst 4 16 := rfl
theorem h42_16 : code_ 42 16 = opC (vI 0) 17 := rfl
theorem h42_17 : code_ 42 17 = opIst 5 19 := rfl
theorem h42_19 : code_ 42 19 = opC (vI 0) 20 := rfl
theorem h42_20 : code_ 42 20 = opIst 6 22 := rfl
theorem h42_22 : code_ 42 22 = opMask [7, 8, 9, 10, 11, 12] (opIld 6 24) := rfl
theorem h42_24 : code_ 42 24 = opIld 2 25 := rfl
theorem h42_25 : code_ 42 25 = opCpGe 140 28 := rfl
theorem h42_28 : code_ 42 28 = opC (vI 0) 29 := rfl
theorem h42_29 : code_ 42 29 = opIst 7 31 := rfl
theorem h42_31 : code_ 42 31 = opMask [8, 9, 10, 11, 12] (opIld 7 33) := rfl
theorem h42_33 : code_ 42 33 = opIld 3 34 := rfl
theorem h42_34 : code_ 42 34 = opCpGe 134 37 := rfl
theorem h42_37 : code_ 42 37 = opAld 0 38 := rfl
theorem h42_38 : code_ 42 38 = opGR 1 12 6 100012 41 := rfl
theorem h42_41 : code_ 42 41 = opIld 7 43 := rfl
theorem h42_43 : code_ 42 43 = opIal 44 := rfl
theorem h42_44 : code_ 42 44 = opIst 8 46 := rfl
theorem h42_46 : code_ 42 46 = opAld 0 47 := rfl
theorem h42_47 : code_ 42 47 = opGR 1 12 6 100012 50 := rfl
theorem h42_50 : code_ 42 50 = opIld 3 51 := rfl
theorem h42_51 : code_ 42 51 = opIld 7 53 := rfl
theorem h42_53 : code_ 42 53 = opIld 6 55 := rfl
theorem h42_55 : code_ 42 55 = opB (fun x y => x + y) 56 := rfl
theorem h42_56 : code_ 42 56 = opIld 3 57 := rfl
theorem h42_57 : code_ 42 57 = opBz remI 58 := rfl
theorem h42_58 : code_ 42 58 = opB (fun x y => x + y) 59 := rfl
theorem h42_59 : code_ 42 59 = opIal 60 := rfl
theorem h42_60 : code_ 42 60 = opIst 9 62 := rfl
theorem h42_62 : code_ 42 62 = opC (vI 1) 63 := rfl
theorem h42_63 : code_ 42 63 = opIld 8 65 := rfl
theorem h42_65 : code_ 42 65 = opB shlI 66 := rfl
theorem h42_66 : code_ 42 66 = opC (vI 1) 67 := rfl
theorem h42_67 : code_ 42 67 = opIld 9 69 := rfl
theorem h42_69 : code_ 42 69 = opB shlI 70 := rfl
theorem h42_70 : code_ 42 70 = opB (fun x y => x ||| y) 71 := rfl
theorem h42_71 : code_ 42 71 = opIst 10 73 := rfl
theorem h42_73 : code_ 42 73 = opAld 0 74 := rfl
theorem h42_74 : code_ 42 74 = opIld 8 76 := rfl
theorem h42_76 : code_ 42 76 = opK kI 14 2 1 79 := rfl
theorem h42_79 : code_ 42 79 = opIst 11 81 := rfl
theorem h42_81 : code_ 42 81 = opAld 0 82 := rfl
theorem h42_82 : code_ 42 82 = opIld 9 84 := rfl
theorem h42_84 : code_ 42 84 = opK kI 14 2 1 87 := rfl
theorem h42_87 : code_ 42 87 = opIst 12 89 := rfl
theorem h42_89 : code_ 42 89 = opIld 4 91 := rfl
theorem h42_91 : code_ 42 91 = opIld 10 93 := rfl
theorem h42_93 : code_ 42 93 = opB (fun x y => x &&& y) 94 := rfl
theorem h42_94 : code_ 42 94 = opIfNe 128 97 := rfl
theorem h42_97 : code_ 42 97 = opAld 0 98 := rfl
theorem h42_98 : code_ 42 98 = opIld 11 100 := rfl
theorem h42_100 : code_ 42 100 = opIld 12 102 := rfl
theorem h42_102 : code_ 42 102 = opAld 1 103 := rfl
theorem h42_103 : code_ 42 103 = opK kI 31 4 1 106 := rfl
theorem h42_106 : code_ 42 106 = opIfNe 128 109 := rfl
theorem h42_109 : code_ 42 109 = opAld 0 110 := rfl
theorem h42_110 : code_ 42 110 = opIld 11 112 := rfl
theorem h42_112 : code_ 42 112 = opIld 12 114 := rfl
theorem h42_114 : code_ 42 114 = opK kI 33 3 1 117 := rfl
theorem h42_117 : code_ 42 117 = opPop 118 := rfl
theorem h42_118 : code_ 42 118 = opIld 4 120 := rfl
theorem h42_120 : code_ 42 120 = opIld 10 122 := rfl
theorem h42_122 : code_ 42 122 = opB (fun x y => x ||| y) 123 := rfl
theorem h42_123 : code_ 42 123 = opIst 4 125 := rfl
theorem h42_125 : code_ 42 125 = opInc 5 1 128 := rfl
theorem h42_128 : code_ 42 128 = opMask [8, 9, 10, 11, 12] (opInc 7 1 131) := rfl
theorem h42_131 : code_ 42 131 = opGoto 31 := rfl
theorem h42_134 : code_ 42 134 = opInc 6 1 137 := rfl
theorem h42_137 : code_ 42 137 = opGoto 22 := rfl
theorem h42_140 : code_ 42 140 = opIld 5 142 := rfl
theorem h42_142 : code_ 42 142 = opIret := rfl
theorem h43_0 : code_ 43 0 = opAld 0 1 := rfl
theorem h43_1 : code_ 43 1 = opK kI 18 1 1 4 := rfl
theorem h43_4 : code_ 43 4 = opIst 1 5 := rfl
theorem h43_5 : code_ 43 5 = opIld 1 6 := rfl
theorem h43_6 : code_ 43 6 = opIfNe 11 9 := rfl
theorem h43_9 : code_ 43 9 = opC (vI 0) 10 := rfl
theorem h43_10 : code_ 43 10 = opZret := rfl
theorem h43_11 : code_ 43 11 = opAld 0 12 := rfl
theorem h43_12 : code_ 43 12 = opIld 1 13 := rfl
theorem h43_13 : code_ 43 13 = opK kI 20 2 1 16 := rfl
theorem h43_16 : code_ 43 16 = opIst 2 17 := rfl
theorem h43_17 : code_ 43 17 = opC (vI 0) 18 := rfl
theorem h43_18 : code_ 43 18 = opIst 3 19 := rfl
theorem h43_19 : code_ 43 19 = opMask [1] (opIld 3 20) := rfl
theorem h43_20 : code_ 43 20 = opC (vI 192) 23 := rfl
theorem h43_23 : code_ 43 23 = opCpGe 62 26 := rfl
theorem h43_26 : code_ 43 26 = opAld 0 27 := rfl
theorem h43_27 : code_ 43 27 = opIld 3 28 := rfl
theorem h43_28 : code_ 43 28 = opK kI 8 2 1 31 := rfl
theorem h43_31 : code_ 43 31 = opIfEq 56 34 := rfl
theorem h43_34 : code_ 43 34 = opIld 2 35 := rfl
theorem h43_35 : code_ 43 35 = opIfNe 53 38 := rfl
theorem h43_38 : code_ 43 38 = opAld 0 39 := rfl
theorem h43_39 : code_ 43 39 = opIld 3 40 := rfl
theorem h43_40 : code_ 43 40 = opK kI 29 2 1 43 := rfl
theorem h43_43 : code_ 43 43 = opC (vI (-1)) 44 := rfl
theorem h43_44 : code_ 43 44 = opCpEq 51 47 := rfl
theorem h43_47 : code_ 43 47 = opC (vI 1) 48 := rfl
theorem h43_48 : code_ 43 48 = opGoto 52 := rfl
theorem h43_51 : code_ 43 51 = opC (vI 0) 52 := rfl
theorem h43_52 : code_ 43 52 = opMask [0, 1, 2, 3] (opZret) := rfl
theorem h43_53 : code_ 43 53 = opInc 2 (-1) 56 := rfl
theorem h43_56 : code_ 43 56 = opMask [1] (opInc 3 1 59) := rfl
theorem h43_59 : code_ 43 59 = opGoto 19 := rfl
theorem h43_62 : code_ 43 62 = opC (vI 0) 63 := rfl
theorem h43_63 : code_ 43 63 = opZret := rfl
theorem h44_0 : code_ 44 0 = opAld 0 1 := rfl
theorem h44_1 : code_ 44 1 = opC (vI 8) 3 := rfl
theorem h44_3 : code_ 44 3 = opK kI 20 2 1 6 := rfl
theorem h44_6 : code_ 44 6 = opIst 2 7 := rfl
theorem h44_7 : code_ 44 7 = opC (vI 1) 8 := rfl
theorem h44_8 : code_ 44 8 = opIst 3 9 := rfl
theorem h44_9 : code_ 44 9 = opIld 2 10 := rfl
theorem h44_10 : code_ 44 10 = opC (vI 3) 11 := rfl
theorem h44_11 : code_ 44 11 = opCpGt 38 14 := rfl
theorem h44_14 : code_ 44 14 = opAld 0 15 := rfl
theorem h44_15 : code_ 44 15 = opAld 0 16 := rfl
theorem h44_16 : code_ 44 16 = opC (vI 1000) 19 := rfl
theorem h44_19 : code_ 44 19 = opK kI 20 2 1 22 := rfl
theorem h44_22 : code_ 44 22 = opK kI 28 2 1 25 := rfl
theorem h44_25 : code_ 44 25 = opC (vI (-1)) 26 := rfl
theorem h44_26 : code_ 44 26 = opCpEq 33 29 := rfl
theorem h44_29 : code_ 44 29 = opC (vI 1) 30 := rfl
theorem h44_30 : code_ 44 30 = opGoto 34 := rfl
theorem h44_33 : code_ 44 33 = opC (vI 0) 34 := rfl
theorem h44_34 : code_ 44 34 = opMask [1, 2, 3] (opIst 3 35) := rfl
theorem h44_35 : code_ 44 35 = opGoto 58 := rfl
theorem h44_38 : code_ 44 38 = opIld 2 39 := rfl
theorem h44_39 : code_ 44 39 = opC (vI 6) 41 := rfl
theorem h44_41 : code_ 44 41 = opCpGt 52 44 := rfl
theorem h44_44 : code_ 44 44 = opAld 0 45 := rfl
theorem h44_45 : code_ 44 45 = opK kI 43 1 1 48 := rfl
theorem h44_48 : code_ 44 48 = opIst 3 49 := rfl
theorem h44_49 : code_ 44 49 = opGoto 58 := rfl
theorem h44_52 : code_ 44 52 = opAld 0 53 := rfl
theorem h44_53 : code_ 44 53 = opAld 1 54 := rfl
theorem h44_54 : code_ 44 54 = opK kI 42 2 1 57 := rfl
theorem h44_57 : code_ 44 57 = opPop 58 := rfl
theorem h44_58 : code_ 44 58 = opMask [1, 2] (opAld 0 59) := rfl
theorem h44_59 : code_ 44 59 = opDup 60 := rfl
theorem h44_60 : code_ 44 60 = opGI 1 0 63 := rfl
theorem h44_63 : code_ 44 63 = opC (vI 1) 64 := rfl
theorem h44_64 : code_ 44 64 = opB (fun x y => x + y) 65 := rfl
theorem h44_65 : code_ 44 65 = opPI 1 0 68 := rfl
theorem h44_68 : code_ 44 68 = opIld 3 69 := rfl
theorem h44_69 : code_ 44 69 = opZret := rfl
theorem h45_0 : code_ 45 0 = opC (vI 0) 1 := rfl
theorem h45_1 : code_ 45 1 = opIst 2 2 := rfl
theorem h45_2 : code_ 45 2 = opC (vI 0) 3 := rfl
theorem h45_3 : code_ 45 3 = opIst 3 4 := rfl
theorem h45_4 : code_ 45 4 = opIld 3 5 := rfl
theorem h45_5 : code_ 45 5 = opC (vI 16) 7 := rfl
theorem h45_7 : code_ 45 7 = opCpGe 32 10 := rfl
theorem h45_10 : code_ 45 10 = opIld 2 11 := rfl
theorem h45_11 : code_ 45 11 = opC (vI 1) 12 := rfl
theorem h45_12 : code_ 45 12 = opAld 0 13 := rfl
theorem h45_13 : code_ 45 13 = opGR 1 9 3 100192 16 := rfl
theorem h45_16 : code_ 45 16 = opIld 1 17 := rfl
theorem h45_17 : code_ 45 17 = opC (vI 16) 19 := rfl
theorem h45_19 : code_ 45 19 = opB (fun x y => x * y) 20 := rfl
theorem h45_20 : code_ 45 20 = opIld 3 21 := rfl
theorem h45_21 : code_ 45 21 = opB (fun x y => x + y) 22 := rfl
theorem h45_22 : code_ 45 22 = opIal 23 := rfl
theorem h45_23 : code_ 45 23 = opB shlI 24 := rfl
theorem h45_24 : code_ 45 24 = opB (fun x y => x ||| y) 25 := rfl
theorem h45_25 : code_ 45 25 = opIst 2 26 := rfl
theorem h45_26 : code_ 45 26 = opInc 3 1 29 := rfl
theorem h45_29 : code_ 45 29 = opGoto 4 := rfl
theorem h45_32 : code_ 45 32 = opIld 2 33 := rfl
theorem h45_33 : code_ 45 33 = opC (vI 65535) 35 := rfl
theorem h45_35 : code_ 45 35 = opCpNe 42 38 := rfl
theorem h45_38 : code_ 45 38 = opC (vI 1) 39 := rfl
theorem h45_39 : code_ 45 39 = opGoto 43 := rfl
theorem h45_42 : code_ 45 42 = opC (vI 0) 43 := rfl
theorem h45_43 : code_ 45 43 = opMask [0, 1, 2, 3] (opZret) := rfl
theorem h46_0 : code_ 46 0 = opC (vI 0) 1 := rfl
theorem h46_1 : code_ 46 1 = opIst 1 2 := rfl
theorem h46_2 : code_ 46 2 = opMask [2] (opIld 1 3) := rfl
theorem h46_3 : code_ 46 3 = opC (vI 12) 5 := rfl
theorem h46_5 : code_ 46 5 = opCpGe 98 8 := rfl
theorem h46_8 : code_ 46 8 = opAld 0 9 := rfl
theorem h46_9 : code_ 46 9 = opIld 1 10 := rfl
theorem h46_10 : code_ 46 10 = opK kI 6 2 1 13 := rfl
theorem h46_13 : code_ 46 13 = opIfEq 35 16 := rfl
theorem h46_16 : code_ 46 16 = opAld 0 17 := rfl
theorem h46_17 : code_ 46 17 = opGR 1 8 2 100012 20 := rfl
theorem h46_20 : code_ 46 20 = opIld 1 21 := rfl
theorem h46_21 : code_ 46 21 = opIal 22 := rfl
theorem h46_22 : code_ 46 22 = opIfEq 33 25 := rfl
theorem h46_25 : code_ 46 25 = opAld 0 26 := rfl
theorem h46_26 : code_ 46 26 = opIld 1 27 := rfl
theorem h46_27 : code_ 46 27 = opK kI 45 2 1 30 := rfl
theorem h46_30 : code_ 46 30 = opIfNe 35 33 := rfl
theorem h46_33 : code_ 46 33 = opMask [0, 1, 2] (opC (vI 0) 34) := rfl
theorem h46_34 : code_ 46 34 = opZret := rfl
theorem h46_35 : code_ 46 35 = opMask [2] (opIld 1 36) := rfl
theorem h46_36 : code_ 46 36 = opC (vI 1) 37 := rfl
theorem h46_37 : code_ 46 37 = opB (fun x y => x + y) 38 := rfl
theorem h46_38 : code_ 46 38 = opIst 2 39 := rfl
theorem h46_39 : code_ 46 39 = opIld 2 40 := rfl
theorem h46_40 : code_ 46 40 = opC (vI 12) 42 := rfl
theorem h46_42 : code_ 46 42 = opCpGe 92 45 := rfl
theorem h46_45 : code_ 46 45 = opAld 0 46 := rfl
theorem h46_46 : code_ 46 46 = opIld 1 47 := rfl
theorem h46_47 : code_ 46 47 = opK kI 6 2 1 50 := rfl
theorem h46_50 : code_ 46 50 = opIfEq 86 53 := rfl
theorem h46_53 : code_ 46 53 = opAld 0 54 := rfl
theorem h46_54 : code_ 46 54 = opGR 1 7 1 100012 57 := rfl
theorem h46_57 : code_ 46 57 = opIld 1 58 := rfl
theorem h46_58 : code_ 46 58 = opIal 59 := rfl
theorem h46_59 : code_ 46 59 = opAld 0 60 := rfl
theorem h46_60 : code_ 46 60 = opGR 1 7 1 100012 63 := rfl
theorem h46_63 : code_ 46 63 = opIld 2 64 := rfl
theorem h46_64 : code_ 46 64 = opIal 65 := rfl
theorem h46_65 : code_ 46 65 = opCpNe 86 68 := rfl
theorem h46_68 : code_ 46 68 = opAld 0 69 := rfl
theorem h46_69 : code_ 46 69 = opGR 1 8 2 100012 72 := rfl
theorem h46_72 : code_ 46 72 = opIld 1 73 := rfl
theorem h46_73 : code_ 46 73 = opIal 74 := rfl
theorem h46_74 : code_ 46 74 = opAld 0 75 := rfl
theorem h46_75 : code_ 46 75 = opGR 1 8 2 100012 78 := rfl
theorem h46_78 : code_ 46 78 = opIld 2 79 := rfl
theorem h46_79 : code_ 46 79 = opIal 80 := rfl
theorem h46_80 : code_ 46 80 = opB (fun x y => x &&& y) 81 := rfl
theorem h46_81 : code_ 46 81 = opIfEq 86 84 := rfl
theorem h46_84 : code_ 46 84 = opC (vI 0) 85 := rfl
theorem h46_85 : code_ 46 85 = opZret := rfl
theorem h46_86 : code_ 46 86 = opInc 2 1 89 := rfl
theorem h46_89 : code_ 46 89 = opGoto 39 := rfl
theorem h46_92 : code_ 46 92 = opInc 1 1 95 := rfl
theorem h46_95 : code_ 46 95 = opGoto 2 := rfl
theorem h46_98 : code_ 46 98 = opC (vI 1) 99 := rfl
theorem h46_99 : code_ 46 99 = opZret := rfl
theorem h47_0 : code_ 47 0 = opAld 0 1 := rfl
theorem h47_1 : code_ 47 1 = opAld 1 2 := rfl
theorem h47_2 : code_ 47 2 = opK kV 48 2 2 5 := rfl
theorem h47_5 : code_ 47 5 = opAld 0 6 := rfl
theorem h47_6 : code_ 47 6 = opGR 2 3 3 104096 9 := rfl
theorem h47_9 : code_ 47 9 = opC (vI 0) 10 := rfl
theorem h47_10 : code_ 47 10 = opC (vI 0) 11 := rfl
theorem h47_11 : code_ 47 11 = opIas 12 := rfl
theorem h47_12 : code_ 47 12 = opC (vI 0) 13 := rfl
theorem h47_13 : code_ 47 13 = opIst 2 14 := rfl
theorem h47_14 : code_ 47 14 = opMask [1, 3] (opIld 2 15) := rfl
theorem h47_15 : code_ 47 15 = opAld 0 16 := rfl
theorem h47_16 : code_ 47 16 = opGI 2 0 19 := rfl
theorem h47_19 : code_ 47 19 = opCpGe 59 22 := rfl
theorem h47_22 : code_ 47 22 = opC (vI 1) 23 := rfl
theorem h47_23 : code_ 47 23 = opIld 2 24 := rfl
theorem h47_24 : code_ 47 24 = opB shlI 25 := rfl
theorem h47_25 : code_ 47 25 = opIst 3 26 := rfl
theorem h47_26 : code_ 47 26 = opMask [1] (opIld 3 27) := rfl
theorem h47_27 : code_ 47 27 = opC (vI 1) 28 := rfl
theorem h47_28 : code_ 47 28 = opIld 2 29 := rfl
theorem h47_29 : code_ 47 29 = opC (vI 1) 30 := rfl
theorem h47_30 : code_ 47 30 = opB (fun x y => x + y) 31 := rfl
theorem h47_31 : code_ 47 31 = opB shlI 32 := rfl
theorem h47_32 : code_ 47 32 = opCpGe 53 35 := rfl
theorem h47_35 : code_ 47 35 = opAld 0 36 := rfl
theorem h47_36 : code_ 47 36 = opGR 2 3 3 104096 39 := rfl
theorem h47_39 : code_ 47 39 = opIld 3 40 := rfl
theorem h47_40 : code_ 47 40 = opAld 0 41 := rfl
theorem h47_41 : code_ 47 41 = opIld 3 42 := rfl
theorem h47_42 : code_ 47 42 = opIld 2 43 := rfl
theorem h47_43 : code_ 47 43 = opK kI 49 3 2 46 := rfl
theorem h47_46 : code_ 47 46 = opIas 47 := rfl
theorem h47_47 : code_ 47 47 = opInc 3 1 50 := rfl
theorem h47_50 : code_ 47 50 = opGoto 26 := rfl
theorem h47_53 : code_ 47 53 = opInc 2 1 56 := rfl
theorem h47_56 : code_ 47 56 = opGoto 14 := rfl
theorem h47_59 : code_ 47 59 = opRet := rfl
theorem h48_0 : code_ 48 0 = opAld 1 1 := rfl
theorem h48_1 : code_ 48 1 = opK kI 16 1 1 4 := rfl
theorem h48_4 : code_ 48 4 = opIst 2 5 := rfl
theorem h48_5 : code_ 48 5 = opAld 0 6 := rfl
theorem h48_6 : code_ 48 6 = opC (vI 0) 7 := rfl
theorem h48_7 : code_ 48 7 = opPI 2 0 10 := rfl
theorem h48_10 : code_ 48 10 = opC (vI 0) 11 := rfl
theorem h48_11 : code_ 48 11 = opIst 3 12 := rfl
theorem h48_12 : code_ 48 12 = opIld 3 13 := rfl
theorem h48_13 : code_ 48 13 = opC (vI 12) 15 := rfl
theorem h48_15 : code_ 48 15 = opCpGe 67 18 := rfl
theorem h48_18 : code_ 48 18 = opIld 2 19 := rfl
theorem h48_19 : code_ 48 19 = opIld 3 20 := rfl
theorem h48_20 : code_ 48 20 = opB shrI 21 := rfl
theorem h48_21 : code_ 48 21 = opC (vI 1) 22 := rfl
theorem h48_22 : code_ 48 22 = opB (fun x y => x &&& y) 23 := rfl
theorem h48_23 : code_ 48 23 = opC (vI 1) 24 := rfl
theorem h48_24 : code_ 48 24 = opCpNe 61 27 := rfl
theorem h48_27 : code_ 48 27 = opAld 0 28 := rfl
theorem h48_28 : code_ 48 28 = opGR 2 1 1 100012 31 := rfl
theorem h48_31 : code_ 48 31 = opAld 0 32 := rfl
theorem h48_32 : code_ 48 32 = opGI 2 0 35 := rfl
theorem h48_35 : code_ 48 35 = opIld 3 36 := rfl
theorem h48_36 : code_ 48 36 = opIas 37 := rfl
theorem h48_37 : code_ 48 37 = opAld 0 38 := rfl
theorem h48_38 : code_ 48 38 = opGR 2 2 2 100012 41 := rfl
theorem h48_41 : code_ 48 41 = opAld 0 42 := rfl
theorem h48_42 : code_ 48 42 = opGI 2 0 45 := rfl
theorem h48_45 : code_ 48 45 = opAld 1 46 := rfl
theorem h48_46 : code_ 48 46 = opIld 3 47 := rfl
theorem h48_47 : code_ 48 47 = opK kI 15 2 1 50 := rfl
theorem h48_50 : code_ 48 50 = opIas 51 := rfl
theorem h48_51 : code_ 48 51 = opAld 0 52 := rfl
theorem h48_52 : code_ 48 52 = opDup 53 := rfl
theorem h48_53 : code_ 48 53 = opGI 2 0 56 := rfl
theorem h48_56 : code_ 48 56 = opC (vI 1) 57 := rfl
theorem h48_57 : code_ 48 57 = opB (fun x y => x + y) 58 := rfl
theorem h48_58 : code_ 48 58 = opPI 2 0 61 := rfl
theorem h48_61 : code_ 48 61 = opInc 3 1 64 := rfl
theorem h48_64 : code_ 48 64 = opGoto 12 := rfl
theorem h48_67 : code_ 48 67 = opRet := rfl
theorem h49_0 : code_ 49 0 = opIld 1 1 := rfl
theorem h49_1 : code_ 49 1 = opC (vI 1) 2 := rfl
theorem h49_2 : code_ 49 2 = opIld 2 3 := rfl
theorem h49_3 : code_ 49 3 = opB shlI 4 := rfl
theorem h49_4 : code_ 49 4 = opC (vI (-1)) 5 := rfl
theorem h49_5 : code_ 49 5 = opB (fun x y => x ^^^ y) 6 := rfl
theorem h49_6 : code_ 49 6 = opB (fun x y => x &&& y) 7 := rfl
theorem h49_7 : code_ 49 7 = opIst 3 8 := rfl
theorem h49_8 : code_ 49 8 = opAld 0 9 := rfl
theorem h49_9 : code_ 49 9 = opGR 2 3 3 104096 12 := rfl
theorem h49_12 : code_ 49 12 = opIld 3 13 := rfl
theorem h49_13 : code_ 49 13 = opIal 14 := rfl
theorem h49_14 : code_ 49 14 = opIst 4 16 := rfl
theorem h49_16 : code_ 49 16 = opC (vI 0) 17 := rfl
theorem h49_17 : code_ 49 17 = opIst 5 19 := rfl
theorem h49_19 : code_ 49 19 = opMask [1] (opIld 5 21) := rfl
theorem h49_21 : code_ 49 21 = opIld 2 22 := rfl
theorem h49_22 : code_ 49 22 = opCpGe 80 25 := rfl
theorem h49_25 : code_ 49 25 = opIld 3 26 := rfl
theorem h49_26 : code_ 49 26 = opIld 5 28 := rfl
theorem h49_28 : code_ 49 28 = opB shrI 29 := rfl
theorem h49_29 : code_ 49 29 = opC (vI 1) 30 := rfl
theorem h49_30 : code_ 49 30 = opB (fun x y => x &&& y) 31 := rfl
theorem h49_31 : code_ 49 31 = opC (vI 1) 32 := rfl
theorem h49_32 : code_ 49 32 = opCpNe 74 35 := rfl
theorem h49_35 : code_ 49 35 = opAld 0 36 := rfl
theorem h49_36 : code_ 49 36 = opGR 2 2 2 100012 39 := rfl
theorem h49_39 : code_ 49 39 = opIld 5 41 := rfl
theorem h49_41 : code_ 49 41 = opIal 42 := rfl
theorem h49_42 : code_ 49 42 = opAld 0 43 := rfl
theorem h49_43 : code_ 49 43 = opGR 2 2 2 100012 46 := rfl
theorem h49_46 : code_ 49 46 = opIld 2 47 := rfl
theorem h49_47 : code_ 49 47 = opIal 48 := rfl
theorem h49_48 : code_ 49 48 = opB (fun x y => x &&& y) 49 := rfl
theorem h49_49 : code_ 49 49 = opIfNe 74 52 := rfl
theorem h49_52 : code_ 49 52 = opIld 4 54 := rfl
theorem h49_54 : code_ 49 54 = opC (vI 1) 55 := rfl
theorem h49_55 : code_ 49 55 = opAld 0 56 := rfl
theorem h49_56 : code_ 49 56 = opGR 2 3 3 104096 59 := rfl
theorem h49_59 : code_ 49 59 = opIld 3 60 := rfl
theorem h49_60 : code_ 49 60 = opC (vI 1) 61 := rfl
theorem h49_61 : code_ 49 61 = opIld 5 63 := rfl
theorem h49_63 : code_ 49 63 = opB shlI 64 := rfl
theorem h49_64 : code_ 49 64 = opC (vI (-1)) 65 := rfl
theorem h49_65 : code_ 49 65 = opB (fun x y => x ^^^ y) 66 := rfl
theorem h49_66 : code_ 49 66 = opB (fun x y => x &&& y) 67 := rfl
theorem h49_67 : code_ 49 67 = opIal 68 := rfl
theorem h49_68 : code_ 49 68 = opB (fun x y => x + y) 69 := rfl
theorem h49_69 : code_ 49 69 = opM maxI 72 := rfl
theorem h49_72 : code_ 49 72 = opIst 4 74 := rfl
theorem h49_74 : code_ 49 74 = opMask [1] (opInc 5 1 77) := rfl
theorem h49_77 : code_ 49 77 = opGoto 19 := rfl
theorem h49_80 : code_ 49 80 = opIld 4 82 := rfl
theorem h49_82 : code_ 49 82 = opIret := rfl
theorem h50_0 : code_ 50 0 = opAld 0 1 := rfl
theorem h50_1 : code_ 50 1 = opGR 2 3 3 104096 4 := rfl
theorem h50_4 : code_ 50 4 = opC (vI 1) 5 := rfl
theorem h50_5 : code_ 50 5 = opAld 0 6 := rfl
theorem h50_6 : code_ 50 6 = opGI 2 0 9 := rfl
theorem h50_9 : code_ 50 9 = opB shlI 10 := rfl
theorem h50_10 : code_ 50 10 = opC (vI 1) 11 := rfl
theorem h50_11 : code_ 50 11 = opB (fun x y => x - y) 12 := rfl
theorem h50_12 : code_ 50 12 = opIal 13 := rfl
theorem h50_13 : code_ 50 13 = opIret := rfl
theorem h51_0 : code_ 51 0 = opC (vI 1) 1 := rfl
theorem h51_1 : code_ 51 1 = opAld 0 2 := rfl
theorem h51_2 : code_ 51 2 = opGI 2 0 5 := rfl
theorem h51_5 : code_ 51 5 = opB shlI 6 := rfl
theorem h51_6 : code_ 51 6 = opC (vI 1) 7 := rfl
theorem h51_7 : code_ 51 7 = opB (fun x y => x - y) 8 := rfl
theorem h51_8 : code_ 51 8 = opIst 2 9 := rfl
theorem h51_9 : code_ 51 9 = opC (vI 0) 10 := rfl
theorem h51_10 : code_ 51 10 = opIst 3 11 := rfl
theorem h51_11 : code_ 51 11 = opMask [4] (opIld 3 12) := rfl
theorem h51_12 : code_ 51 12 = opAld 0 13 := rfl
theorem h51_13 : code_ 51 13 = opGI 2 0 16 := rfl
theorem h51_16 : code_ 51 16 = opCpGe 121 19 := rfl
theorem h51_19 : code_ 51 19 = opIld 2 20 := rfl
theorem h51_20 : code_ 51 20 = opIld 3 21 := rfl
theorem h51_21 : code_ 51 21 = opB shrI 22 := rfl
theorem h51_22 : code_ 51 22 = opC (vI 1) 23 := rfl
theorem h51_23 : code_ 51 23 = opB (fun x y => x &&& y) 24 := rfl
theorem h51_24 : code_ 51 24 = opC (vI 1) 25 := rfl
theorem h51_25 : code_ 51 25 = opCpNe 115 28 := rfl
theorem h51_28 : code_ 51 28 = opAld 0 29 := rfl
theorem h51_29 : code_ 51 29 = opIld 2 30 := rfl
theorem h51_30 : code_ 51 30 = opIld 3 31 := rfl
theorem h51_31 : code_ 51 31 = opK kI 52 3 2 34 := rfl
theorem h51_34 : code_ 51 34 = opIst 4 36 := rfl
theorem h51_36 : code_ 51 36 = opAld 0 37 := rfl
theorem h51_37 : code_ 51 37 = opGR 2 1 1 100012 40 := rfl
theorem h51_40 : code_ 51 40 = opIld 3 41 := rfl
theorem h51_41 : code_ 51 41 = opIal 42 := rfl
theorem h51_42 : code_ 51 42 = opIld 1 43 := rfl
theorem h51_43 : code_ 51 43 = opCpNe 64 46 := rfl
theorem h51_46 : code_ 51 46 = opIld 4 48 := rfl
theorem h51_48 : code_ 51 48 = opC (vI (-1)) 49 := rfl
theorem h51_49 : code_ 51 49 = opCpNe 56 52 := rfl
theorem h51_52 : code_ 51 52 = opC (vI (-1)) 53 := rfl
theorem h51_53 : code_ 51 53 = opGoto 63 := rfl
theorem h51_56 : code_ 51 56 = opAld 0 57 := rfl
theorem h51_57 : code_ 51 57 = opGR 2 1 1 100012 60 := rfl
theorem h51_60 : code_ 51 60 = opIld 4 62 := rfl
theorem h51_62 : code_ 51 62 = opIal 63 := rfl
theorem h51_63 : code_ 51 63 = opMask [0, 1, 2, 3, 4] (opIret) := rfl
theorem h51_64 : code_ 51 64 = opIld 4 66 := rfl
theorem h51_66 : code_ 51 66 = opC (vI (-1)) 67 := rfl
theorem h51_67 : code_ 51 67 = opCpEq 88 70 := rfl
theorem h51_70 : code_ 51 70 = opAld 0 71 := rfl
theorem h51_71 : code_ 51 71 = opGR 2 1 1 100012 74 := rfl
theorem h51_74 : code_ 51 74 = opIld 4 76 := rfl
theorem h51_76 : code_ 51 76 = opIal 77 := rfl
theorem h51_77 : code_ 51 77 = opIld 1 78 := rfl
theorem h51_78 : code_ 51 78 = opCpNe 88 81 := rfl
theorem h51_81 : code_ 51 81 = opAld 0 82 := rfl
theorem h51_82 : code_ 51 82 = opGR 2 1 1 100012 85 := rfl
theorem h51_85 : code_ 51 85 = opIld 3 86 := rfl
theorem h51_86 : code_ 51 86 = opIal 87 := rfl
theorem h51_87 : code_ 51 87 = opIret := rfl
theorem h51_88 : code_ 51 88 = opIld 2 89 := rfl
theorem h51_89 : code_ 51 89 = opC (vI 1) 90 := rfl
theorem h51_90 : code_ 51 90 = opIld 3 91 := rfl
theorem h51_91 : code_ 51 91 = opB shlI 92 := rfl
theorem h51_92 : code_ 51 92 = opC (vI (-1)) 93 := rfl
theorem h51_93 : code_ 51 93 = opB (fun x y => x ^^^ y) 94 := rfl
theorem h51_94 : code_ 51 94 = opB (fun x y => x &&& y) 95 := rfl
theorem h51_95 : code_ 51 95 = opIst 2 96 := rfl
theorem h51_96 : code_ 51 96 = opIld 4 98 := rfl
theorem h51_98 : code_ 51 98 = opC (vI (-1)) 99 := rfl
theorem h51_99 : code_ 51 99 = opCpNe 106 102 := rfl
theorem h51_102 : code_ 51 102 = opIld 2 103 := rfl
theorem h51_103 : code_ 51 103 = opGoto 114 := rfl
theorem h51_106 : code_ 51 106 = opIld 2 107 := rfl
theorem h51_107 : code_ 51 107 = opC (vI 1) 108 := rfl
theorem h51_108 : code_ 51 108 = opIld 4 110 := rfl
theorem h51_110 : code_ 51 110 = opB shlI 111 := rfl
theorem h51_111 : code_ 51 111 = opC (vI (-1)) 112 := rfl
theorem h51_112 : code_ 51 112 = opB (fun x y => x ^^^ y) 113 := rfl
theorem h51_113 : code_ 51 113 = opB (fun x y => x &&& y) 114 := rfl
theorem h51_114 : code_ 51 114 = opMask [2, 4] (opIst 2 115) := rfl
theorem h51_115 : code_ 51 115 = opMask [4] (opInc 3 1 118) := rfl
theorem h51_118 : code_ 51 118 = opGoto 11 := rfl
theorem h51_121 : code_ 51 121 = opC (vI (-1)) 122 := rfl
theorem h51_122 : code_ 51 122 = opIret := rfl
theorem h52_0 : code_ 52 0 = opIld 2 1 := rfl
theorem h52_1 : code_ 52 1 = opC (vI 1) 2 := rfl
theorem h52_2 : code_ 52 2 = opB (fun x y => x + y) 3 := rfl
theorem h52_3 : code_ 52 3 = opIst 3 4 := rfl
theorem h52_4 : code_ 52 4 = opMask [4] (opIld 3 5) := rfl
theorem h52_5 : code_ 52 5 = opAld 0 6 := rfl
theorem h52_6 : code_ 52 6 = opGI 2 0 9 := rfl
theorem h52_9 : code_ 52 9 = opCpGe 76 12 := rfl
theorem h52_12 : code_ 52 12 = opC (vI 1) 13 := rfl
theorem h52_13 : code_ 52 13 = opIld 2 14 := rfl
theorem h52_14 : code_ 52 14 = opB shlI 15 := rfl
theorem h52_15 : code_ 52 15 = opC (vI 1) 16 := rfl
theorem h52_16 : code_ 52 16 = opIld 3 17 := rfl
theorem h52_17 : code_ 52 17 = opB shlI 18 := rfl
theorem h52_18 : code_ 52 18 = opB (fun x y => x ||| y) 19 := rfl
theorem h52_19 : code_ 52 19 = opIst 4 21 := rfl
theorem h52_21 : code_ 52 21 = opIld 1 22 := rfl
theorem h52_22 : code_ 52 22 = opIld 3 23 := rfl
theorem h52_23 : code_ 52 23 = opB shrI 24 := rfl
theorem h52_24 : code_ 52 24 = opC (vI 1) 25 := rfl
theorem h52_25 : code_ 52 25 = opB (fun x y => x &&& y) 26 := rfl
theorem h52_26 : code_ 52 26 = opC (vI 1) 27 := rfl
theorem h52_27 : code_ 52 27 = opCpNe 70 30 := rfl
theorem h52_30 : code_ 52 30 = opAld 0 31 := rfl
theorem h52_31 : code_ 52 31 = opGR 2 2 2 100012 34 := rfl
theorem h52_34 : code_ 52 34 = opIld 2 35 := rfl
theorem h52_35 : code_ 52 35 = opIal 36 := rfl
theorem h52_36 : code_ 52 36 = opAld 0 37 := rfl
theorem h52_37 : code_ 52 37 = opGR 2 2 2 100012 40 := rfl
theorem h52_40 : code_ 52 40 = opIld 3 41 := rfl
theorem h52_41 : code_ 52 41 = opIal 42 := rfl
theorem h52_42 : code_ 52 42 = opB (fun x y => x &&& y) 43 := rfl
theorem h52_43 : code_ 52 43 = opIfNe 70 46 := rfl
theorem h52_46 : code_ 52 46 = opC (vI 1) 47 := rfl
theorem h52_47 : code_ 52 47 = opAld 0 48 := rfl
theorem h52_48 : code_ 52 48 = opGR 2 3 3 104096 51 := rfl
theorem h52_51 : code_ 52 51 = opIld 1 52 := rfl
theorem h52_52 : code_ 52 52 = opIld 4 54 := rfl
theorem h52_54 : code_ 52 54 = opC (vI (-1)) 55 := rfl
theorem h52_55 : code_ 52 55 = opB (fun x y => x ^^^ y) 56 := rfl
theorem h52_56 : code_ 52 56 = opB (fun x y => x &&& y) 57 := rfl
theorem h52_57 : code_ 52 57 = opIal 58 := rfl
theorem h52_58 : code_ 52 58 = opB (fun x y => x + y) 59 := rfl
theorem h52_59 : code_ 52 59 = opAld 0 60 := rfl
theorem h52_60 : code_ 52 60 = opGR 2 3 3 104096 63 := rfl
theorem h52_63 : code_ 52 63 = opIld 1 64 := rfl
theorem h52_64 : code_ 52 64 = opIal 65 := rfl
theorem h52_65 : code_ 52 65 = opCpNe 70 68 := rfl
theorem h52_68 : code_ 52 68 = opIld 3 69 := rfl
theorem h52_69 : code_ 52 69 = opIret := rfl
theorem h52_70 : code_ 52 70 = opMask [4] (opInc 3 1 73) := rfl
theorem h52_73 : code_ 52 73 = opGoto 4 := rfl
theorem h52_76 : code_ 52 76 = opC (vI (-1)) 77 := rfl
theorem h52_77 : code_ 52 77 = opIret := rfl
theorem h53_0 : code_ 53 0 = opC (vI 24) 2 := rfl
theorem h53_2 : code_ 53 2 = opIst 2 3 := rfl
theorem h53_3 : code_ 53 3 = opIld 2 4 := rfl
theorem h53_4 : code_ 53 4 = opIfLt 49 7 := rfl
theorem h53_7 : code_ 53 7 = opAld 0 8 := rfl
theorem h53_8 : code_ 53 8 = opGI 3 1 11 := rfl
theorem h53_11 : code_ 53 11 = opC (vI 300) 14 := rfl
theorem h53_14 : code_ 53 14 = opCpGe 43 17 := rfl
theorem h53_17 : code_ 53 17 = opAld 0 18 := rfl
theorem h53_18 : code_ 53 18 = opGR 3 0 1 100300 21 := rfl
theorem h53_21 : code_ 53 21 = opAld 0 22 := rfl
theorem h53_22 : code_ 53 22 = opGI 3 1 25 := rfl
theorem h53_25 : code_ 53 25 = opIld 1 26 := rfl
theorem h53_26 : code_ 53 26 = opIld 2 27 := rfl
theorem h53_27 : code_ 53 27 = opB ushI 28 := rfl
theorem h53_28 : code_ 53 28 = opC (vI 255) 31 := rfl
theorem h53_31 : code_ 53 31 = opB (fun x y => x &&& y) 32 := rfl
theorem h53_32 : code_ 53 32 = opIas 33 := rfl
theorem h53_33 : code_ 53 33 = opAld 0 34 := rfl
theorem h53_34 : code_ 53 34 = opDup 35 := rfl
theorem h53_35 : code_ 53 35 = opGI 3 1 38 := rfl
theorem h53_38 : code_ 53 38 = opC (vI 1) 39 := rfl
theorem h53_39 : code_ 53 39 = opB (fun x y => x + y) 40 := rfl
theorem h53_40 : code_ 53 40 = opPI 3 1 43 := rfl
theorem h53_43 : code_ 53 43 = opInc 2 (-8) 46 := rfl
theorem h53_46 : code_ 53 46 = opGoto 3 := rfl
theorem h53_49 : code_ 53 49 = opRet := rfl
theorem h54_0 : code_ 54 0 = opAld 0 1 := rfl
theorem h54_1 : code_ 54 1 = opAld 1 2 := rfl
theorem h54_2 : code_ 54 2 = opPX 3 10 5 5 := rfl
theorem h54_5 : code_ 54 5 = opAld 0 6 := rfl
theorem h54_6 : code_ 54 6 = opGX 3 10 5 9 := rfl
theorem h54_9 : code_ 54 9 = opK kV 84 1 5 12 := rfl
theorem h54_12 : code_ 54 12 = opAld 0 13 := rfl
theorem h54_13 : code_ 54 13 = opC (vI 0) 14 := rfl
theorem h54_14 : code_ 54 14 = opPI 3 2 17 := rfl
theorem h54_17 : code_ 54 17 = opAld 0 18 := rfl
theorem h54_18 : code_ 54 18 = opC (vI (-1)) 19 := rfl
theorem h54_19 : code_ 54 19 = opPI 3 3 22 := rfl
theorem h54_22 : code_ 54 22 = opAld 0 23 := rfl
theorem h54_23 : code_ 54 23 = opK kV 55 1 3 26 := rfl
theorem h54_26 : code_ 54 26 = opAld 0 27 := rfl
theorem h54_27 : code_ 54 27 = opC (vI 0) 28 := rfl
theorem h54_28 : code_ 54 28 = opPI 3 8 31 := rfl
theorem h54_31 : code_ 54 31 = opC (vI 0) 32 := rfl
theorem h54_32 : code_ 54 32 = opIst 2 33 := rfl
theorem h54_33 : code_ 54 33 = opMask [1] (opIld 2 34) := rfl
theorem h54_34 : code_ 54 34 = opC (vI 300) 37 := rfl
theorem h54_37 : code_ 54 37 = opCpGe 59 40 := rfl
theorem h54_40 : code_ 54 40 = opAld 0 41 := rfl
theorem h54_41 : code_ 54 41 = opK kI 65 1 3 44 := rfl
theorem h54_44 : code_ 54 44 = opC (vI 39) 46 := rfl
theorem h54_46 : code_ 54 46 = opCpEq 59 49 := rfl
theorem h54_49 : code_ 54 49 = opAld 0 50 := rfl
theorem h54_50 : code_ 54 50 = opK kV 68 1 3 53 := rfl
theorem h54_53 : code_ 54 53 = opInc 2 1 56 := rfl
theorem h54_56 : code_ 54 56 = opGoto 33 := rfl
theorem h54_59 : code_ 54 59 = opMask [0, 1, 2] (opRet) := rfl
theorem h55_0 : code_ 55 0 = opAld 0 1 := rfl
theorem h55_1 : code_ 55 1 = opC (vI 0) 2 := rfl
theorem h55_2 : code_ 55 2 = opPI 3 7 5 := rfl
theorem h55_5 : code_ 55 5 = opC (vI 0) 6 := rfl
theorem h55_6 : code_ 55 6 = opIst 1 7 := rfl
theorem h55_7 : code_ 55 7 = opIld 1 8 := rfl
theorem h55_8 : code_ 55 8 = opAld 0 9 := rfl
theorem h55_9 : code_ 55 9 = opGI 3 1 12 := rfl
theorem h55_12 : code_ 55 12 = opCpGe 53 15 := rfl
theorem h55_15 : code_ 55 15 = opAld 0 16 := rfl
theorem h55_16 : code_ 55 16 = opGR 3 0 1 100300 19 := rfl
theorem h55_19 : code_ 55 19 = opIld 1 20 := rfl
theorem h55_20 : code_ 55 20 = opIal 21 := rfl
theorem h55_21 : code_ 55 21 = opC (vI 32) 23 := rfl
theorem h55_23 : code_ 55 23 = opCpEq 47 26 := rfl
theorem h55_26 : code_ 55 26 = opAld 0 27 := rfl
theorem h55_27 : code_ 55 27 = opGR 3 0 1 100300 30 := rfl
theorem h55_30 : code_ 55 30 = opIld 1 31 := rfl
theorem h55_31 : code_ 55 31 = opIal 32 := rfl
theorem h55_32 : code_ 55 32 = opC (vI 10) 34 := rfl
theorem h55_34 : code_ 55 34 = opCpEq 47 37 := rfl
theorem h55_37 : code_ 55 37 = opIld 1 38 := rfl
theorem h55_38 : code_ 55 38 = opAld 0 39 := rfl
theorem h55_39 : code_ 55 39 = opIld 1 40 := rfl
theorem h55_40 : code_ 55 40 = opK kI 57 2 3 43 := rfl
theorem h55_43 : code_ 55 43 = opM maxI 46 := rfl
theorem h55_46 : code_ 55 46 = opIst 1 47 := rfl
theorem h55_47 : code_ 55 47 = opInc 1 1 50 := rfl
theorem h55_50 : code_ 55 50 = opGoto 7 := rfl
theorem h55_53 : code_ 55 53 = opRet := rfl
theorem h56_0 : code_ 56 0 = opAld 0 1 := rfl
theorem h56_1 : code_ 56 1 = opGI 3 7 4 := rfl
theorem h56_4 : code_ 56 4 = opC (vI 300) 7 := rfl
theorem h56_7 : code_ 56 7 = opCpGe 50 10 := rfl
theorem h56_10 : code_ 56 10 = opAld 0 11 := rfl
theorem h56_11 : code_ 56 11 = opGR 3 4 2 100300 14 := rfl
theorem h56_14 : code_ 56 14 = opAld 0 15 := rfl
theorem h56_15 : code_ 56 15 = opGI 3 7 18 := rfl
theorem h56_18 : code_ 56 18 = opIld 1 19 := rfl
theorem h56_19 : code_ 56 19 = opIas 20 := rfl
theorem h56_20 : code_ 56 20 = opAld 0 21 := rfl
theorem h56_21 : code_ 56 21 = opGR 3 5 3 100300 24 := rfl
theorem h56_24 : code_ 56 24 = opAld 0 25 := rfl
theorem h56_25 : code_ 56 25 = opGI 3 7 28 := rfl
theorem h56_28 : code_ 56 28 = opIld 2 29 := rfl
theorem h56_29 : code_ 56 29 = opIas 30 := rfl
theorem h56_30 : code_ 56 30 = opAld 0 31 := rfl
theorem h56_31 : code_ 56 31 = opGR 3 6 4 100300 34 := rfl
theorem h56_34 : code_ 56 34 = opAld 0 35 := rfl
theorem h56_35 : code_ 56 35 = opGI 3 7 38 := rfl
theorem h56_38 : code_ 56 38 = opIld 3 39 := rfl
theorem h56_39 : code_ 56 39 = opIas 40 := rfl
theorem h56_40 : code_ 56 40 = opAld 0 41 := rfl
theorem h56_41 : code_ 56 41 = opDup 42 := rfl
theorem h56_42 : code_ 56 42 = opGI 3 7 45 := rfl
theorem h56_45 : code_ 56 45 = opC (vI 1) 46 := rfl
theorem h56_46 : code_ 56 46 = opB (fun x y => x + y) 47 := rfl
theorem h56_47 : code_ 56 47 = opPI 3 7 50 := rfl
theorem h56_50 : code_ 56 50 = opMask [0, 1, 2, 3] (opRet) := rfl
theorem h57_0 : code_ 57 0 = opAld 0 1 := rfl
theorem h57_1 : code_ 57 1 = opGR 3 0 1 100300 4 := rfl
theorem h57_4 : code_ 57 4 = opIld 1 5 := rfl
theorem h57_5 : code_ 57 5 = opIal 6 := rfl
theorem h57_6 : code_ 57 6 = opIst 2 7 := rfl
theorem h57_7 : code_ 57 7 = opIld 2 8 := rfl
theorem h57_8 : code_ 57 8 = opK kI 60 1 99 11 := rfl
theorem h57_11 : code_ 57 11 = opIfEq 36 14 := rfl
theorem h57_14 : code_ 57 14 = opAld 0 15 := rfl
theorem h57_15 : code_ 57 15 = opIld 1 16 := rfl
theorem h57_16 : code_ 57 16 = opK kI 59 2 3 19 := rfl
theorem h57_19 : code_ 57 19 = opIst 3 20 := rfl
theorem h57_20 : code_ 57 20 = opAld 0 21 := rfl
theorem h57_21 : code_ 57 21 = opAld 0 22 := rfl
theorem h57_22 : code_ 57 22 = opIld 1 23 := rfl
theorem h57_23 : code_ 57 23 = opIld 3 24 := rfl
theorem h57_24 : code_ 57 24 = opK kI 62 3 3 27 := rfl
theorem h57_27 : code_ 57 27 = opC (vI 0) 28 := rfl
theorem h57_28 : code_ 57 28 = opIld 1 29 := rfl
theorem h57_29 : code_ 57 29 = opK kV 56 4 3 32 := rfl
theorem h57_32 : code_ 57 32 = opIld 3 33 := rfl
theorem h57_33 : code_ 57 33 = opC (vI 1) 34 := rfl
theorem h57_34 : code_ 57 34 = opB (fun x y => x - y) 35 := rfl
theorem h57_35 : code_ 57 35 = opIret := rfl
theorem h57_36 : code_ 57 36 = opIld 2 37 := rfl
theorem h57_37 : code_ 57 37 = opK kI 61 1 99 40 := rfl
theorem h57_40 : code_ 57 40 = opIfEq 49 43 := rfl
theorem h57_43 : code_ 57 43 = opAld 0 44 := rfl
theorem h57_44 : code_ 57 44 = opIld 1 45 := rfl
theorem h57_45 : code_ 57 45 = opK kI 58 2 3 48 := rfl
theorem h57_48 : code_ 57 48 = opIret := rfl
theorem h57_49 : code_ 57 49 = opIld 1 50 := rfl
theorem h57_50 : code_ 57 50 = opC (vI 1) 51 := rfl
theorem h57_51 : code_ 57 51 = opB (fun x y => x + y) 52 := rfl
theorem h57_52 : code_ 57 52 = opAld 0 53 := rfl
theorem h57_53 : code_ 57 53 = opGI 3 1 56 := rfl
theorem h57_56 : code_ 57 56 = opCpGe 76 59 := rfl
theorem h57_59 : code_ 57 59 = opAld 0 60 := rfl
theorem h57_60 : code_ 57 60 = opGR 3 0 1 100300 63 := rfl
theorem h57_63 : code_ 57 63 = opIld 1 64 := rfl
theorem h57_64 : code_ 57 64 = opC (vI 1) 65 := rfl
theorem h57_65 : code_ 57 65 = opB (fun x y => x + y) 66 := rfl
theorem h57_66 : code_ 57 66 = opIal 67 := rfl
theorem h57_67 : code_ 57 67 = opC (vI 61) 69 := rfl
theorem h57_69 : code_ 57 69 = opCpNe 76 72 := rfl
theorem h57_72 : code_ 57 72 = opC (vI 1) 73 := rfl
theorem h57_73 : code_ 57 73 = opGoto 77 := rfl
theorem h57_76 : code_ 57 76 = opMask [3] (opC (vI 0) 77) := rfl
theorem h57_77 : code_ 57 77 = opMask [3] (opIst 3 78) := rfl
theorem h57_78 : code_ 57 78 = opIld 3 79 := rfl
theorem h57_79 : code_ 57 79 = opIfEq 100 82 := rfl
theorem h57_82 : code_ 57 82 = opIld 2 83 := rfl
theorem h57_83 : code_ 57 83 = opC (vI 60) 85 := rfl
theorem h57_85 : code_ 57 85 = opCpNe 100 88 := rfl
theorem h57_88 : code_ 57 88 = opAld 0 89 := rfl
theorem h57_89 : code_ 57 89 = opC (vI 26) 91 := rfl
theorem h57_91 : code_ 57 91 = opC (vI 0) 92 := rfl
theorem h57_92 : code_ 57 92 = opIld 1 93 := rfl
theorem h57_93 : code_ 57 93 = opK kV 56 4 3 96 := rfl
theorem h57_96 : code_ 57 96 = opIld 1 97 := rfl
theorem h57_97 : code_ 57 97 = opC (vI 1) 98 := rfl
theorem h57_98 : code_ 57 98 = opB (fun x y => x + y) 99 := rfl
theorem h57_99 : code_ 57 99 = opIret := rfl
theorem h57_100 : code_ 57 100 = opIld 3 101 := rfl
theorem h57_101 : code_ 57 101 = opIfEq 122 104 := rfl
theorem h57_104 : code_ 57 104 = opIld 2 105 := rfl
theorem h57_105 : code_ 57 105 = opC (vI 62) 107 := rfl
theorem h57_107 : code_ 57 107 = opCpNe 122 110 := rfl
theorem h57_110 : code_ 57 110 = opAld 0 111 := rfl
theorem h57_111 : code_ 57 111 = opC (vI 28) 113 := rfl
theorem h57_113 : code_ 57 113 = opC (vI 0) 114 := rfl
theorem h57_114 : code_ 57 114 = opIld 1 115 := rfl
theorem h57_115 : code_ 57 115 = opK kV 56 4 3 118 := rfl
theorem h57_118 : code_ 57 118 = opIld 1 119 := rfl
theorem h57_119 : code_ 57 119 = opC (vI 1) 120 := rfl
theorem h57_120 : code_ 57 120 = opB (fun x y => x + y) 121 := rfl
theorem h57_121 : code_ 57 121 = opIret := rfl
theorem h57_122 : code_ 57 122 = opMask [3] (opAld 0 123) := rfl
theorem h57_123 : code_ 57 123 = opIld 2 124 := rfl
theorem h57_124 : code_ 57 124 = opK kI 64 1 99 127 := rfl
theorem h57_127 : code_ 57 127 = opC (vI 0) 128 := rfl
theorem h57_128 : code_ 57 128 = opIld 1 129 := rfl
theorem h57_129 : code_ 57 129 = opK kV 56 4 3 132 := rfl
theorem h57_132 : code_ 57 132 = opIld 1 133 := rfl
theorem h57_133 : code_ 57 133 = opIret := rfl
theorem h58_0 : code_ 58 0 = opC (vI 0) 1 := rfl
theorem h58_1 : code_ 58 1 = opIst 2 2 := rfl
theorem h58_2 : code_ 58 2 = opIld 1 3 := rfl
theorem h58_3 : code_ 58 3 = opIst 3 4 := rfl
theorem h58_4 : code_ 58 4 = opIld 3 5 := rfl
theorem h58_5 : code_ 58 5 = opAld 0 6 := rfl
theorem h58_6 : code_ 58 6 = opGI 3 1 9 := rfl
theorem h58_9 : code_ 58 9 = opCpGe 51 12 := rfl
theorem h58_12 : code_ 58 12 = opAld 0 13 := rfl
theorem h58_13 : code_ 58 13 = opGR 3 0 1 100300 16 := rfl
theorem h58_16 : code_ 58 16 = opIld 3 17 := rfl
theorem h58_17 : code_ 58 17 = opIal 18 := rfl
theorem h58_18 : code_ 58 18 = opK kI 61 1 99 21 := rfl
theorem h58_21 : code_ 58 21 = opIfEq 51 24 := rfl
theorem h58_24 : code_ 58 24 = opC (vI 10000) 27 := rfl
theorem h58_27 : code_ 58 27 = opIld 2 28 := rfl
theorem h58_28 : code_ 58 28 = opC (vI 10) 30 := rfl
theorem h58_30 : code_ 58 30 = opB (fun x y => x * y) 31 := rfl
theorem h58_31 : code_ 58 31 = opAld 0 32 := rfl
theorem h58_32 : code_ 58 32 = opGR 3 0 1 100300 35 := rfl
theorem h58_35 : code_ 58 35 = opIld 3 36 := rfl
theorem h58_36 : code_ 58 36 = opIal 37 := rfl
theorem h58_37 : code_ 58 37 = opB (fun x y => x + y) 38 := rfl
theorem h58_38 : code_ 58 38 = opC (vI 48) 40 := rfl
theorem h58_40 : code_ 58 40 = opB (fun x y => x - y) 41 := rfl
theorem h58_41 : code_ 58 41 = opM minI 44 := rfl
theorem h58_44 : code_ 58 44 = opIst 2 45 := rfl
theorem h58_45 : code_ 58 45 = opInc 3 1 48 := rfl
theorem h58_48 : code_ 58 48 = opGoto 4 := rfl
theorem h58_51 : code_ 58 51 = opAld 0 52 := rfl
theorem h58_52 : code_ 58 52 = opC (vI 38) 54 := rfl
theorem h58_54 : code_ 58 54 = opIld 2 55 := rfl
theorem h58_55 : code_ 58 55 = opIld 1 56 := rfl
theorem h58_56 : code_ 58 56 = opK kV 56 4 3 59 := rfl
theorem h58_59 : code_ 58 59 = opIld 3 60 := rfl
theorem h58_60 : code_ 58 60 = opC (vI 1) 61 := rfl
theorem h58_61 : code_ 58 61 = opB (fun x y => x - y) 62 := rfl
theorem h58_62 : code_ 58 62 = opIret := rfl
theorem h59_0 : code_ 59 0 = opIld 1 1 := rfl
theorem h59_1 : code_ 59 1 = opIst 2 2 := rfl
theorem h59_2 : code_ 59 2 = opMask [1] (opIld 2 3) := rfl
theorem h59_3 : code_ 59 3 = opAld 0 4 := rfl
theorem h59_4 : code_ 59 4 = opGI 3 1 7 := rfl
theorem h59_7 : code_ 59 7 = opCpGe 28 10 := rfl
theorem h59_10 : code_ 59 10 = opAld 0 11 := rfl
theorem h59_11 : code_ 59 11 = opGR 3 0 1 100300 14 := rfl
theorem h59_14 : code_ 59 14 = opIld 2 15 := rfl
theorem h59_15 : code_ 59 15 = opIal 16 := rfl
theorem h59_16 : code_ 59 16 = opK kI 60 1 99 19 := rfl
theorem h59_19 : code_ 59 19 = opIfEq 28 22 := rfl
theorem h59_22 : code_ 59 22 = opInc 2 1 25 := rfl
theorem h59_25 : code_ 59 25 = opGoto 2 := rfl
theorem h59_28 : code_ 59 28 = opMask [0, 1] (opIld 2 29) := rfl
theorem h59_29 : code_ 59 29 = opIret := rfl
theorem h60_0 : code_ 60 0 = opIld 0 1 := rfl
theorem h60_1 : code_ 60 1 = opC (vI 97) 3 := rfl
theorem h60_3 : code_ 60 3 = opCpLt 12 6 := rfl
theorem h60_6 : code_ 60 6 = opIld 0 7 := rfl
theorem h60_7 : code_ 60 7 = opC (vI 122) 9 := rfl
theorem h60_9 : code_ 60 9 = opCpLe 24 12 := rfl
theorem h60_12 : code_ 60 12 = opIld 0 13 := rfl
theorem h60_13 : code_ 60 13 = opC (vI 65) 15 := rfl
theorem h60_15 : code_ 60 15 = opCpLt 28 18 := rfl
theorem h60_18 : code_ 60 18 = opIld 0 19 := rfl
theorem h60_19 : code_ 60 19 = opC (vI 90) 21 := rfl
theorem h60_21 : code_ 60 21 = opCpGt 28 24 := rfl
theorem h60_24 : code_ 60 24 = opMask [0] (opC (vI 1) 25) := rfl
theorem h60_25 : code_ 60 25 = opGoto 29 := rfl
theorem h60_28 : code_ 60 28 = opMask [0] (opC (vI 0) 29) := rfl
theorem h60_29 : code_ 60 29 = opMask [0] (opZret) := rfl
theorem h61_0 : code_ 61 0 = opIld 0 1 := rfl
theorem h61_1 : code_ 61 1 = opC (vI 48) 3 := rfl
theorem h61_3 : code_ 61 3 = opCpLt 16 6 := rfl
theorem h61_6 : code_ 61 6 = opIld 0 7 := rfl
theorem h61_7 : code_ 61 7 = opC (vI 57) 9 := rfl
theorem h61_9 : code_ 61 9 = opCpGt 16 12 := rfl
theorem h61_12 : code_ 61 12 = opC (vI 1) 13 := rfl
theorem h61_13 : code_ 61 13 = opGoto 17 := rfl
theorem h61_16 : code_ 61 16 = opMask [0] (opC (vI 0) 17) := rfl
theorem h61_17 : code_ 61 17 = opMask [0] (opZret) := rfl
theorem h62_0 : code_ 62 0 = opC (vI 0) 1 := rfl
theorem h62_1 : code_ 62 1 = opIst 3 2 := rfl
theorem h62_2 : code_ 62 2 = opC (vI 0) 3 := rfl
theorem h62_3 : code_ 62 3 = opIst 4 5 := rfl
theorem h62_5 : code_ 62 5 = opC (vI 0) 6 := rfl
theorem h62_6 : code_ 62 6 = opIst 5 8 := rfl
theorem h62_8 : code_ 62 8 = opIld 5 10 := rfl
theorem h62_10 : code_ 62 10 = opC (vR 30 0) 12 := rfl
theorem h62_12 : code_ 62 12 = opSln 129 15 := rfl
theorem h62_15 : code_ 62 15 = opCpGe 69 18 := rfl
theorem h62_18 : code_ 62 18 = opC (vR 30 0) 20 := rfl
theorem h62_20 : code_ 62 20 = opIld 5 22 := rfl
theorem h62_22 : code_ 62 22 = opSch 129 wTx 25 := rfl
theorem h62_25 : code_ 62 25 = opC (vI 32) 27 := rfl
theorem h62_27 : code_ 62 27 = opCpNe 63 30 := rfl
theorem h62_30 : code_ 62 30 = opIld 5 32 := rfl
theorem h62_32 : code_ 62 32 = opIld 4 34 := rfl
theorem h62_34 : code_ 62 34 = opB (fun x y => x - y) 35 := rfl
theorem h62_35 : code_ 62 35 = opIld 2 36 := rfl
theorem h62_36 : code_ 62 36 = opIld 1 37 := rfl
theorem h62_37 : code_ 62 37 = opB (fun x y => x - y) 38 := rfl
theorem h62_38 : code_ 62 38 = opCpNe 54 41 := rfl
theorem h62_41 : code_ 62 41 = opAld 0 42 := rfl
theorem h62_42 : code_ 62 42 = opIld 1 43 := rfl
theorem h62_43 : code_ 62 43 = opIld 2 44 := rfl
theorem h62_44 : code_ 62 44 = opIld 4 46 := rfl
theorem h62_46 : code_ 62 46 = opK kI 63 4 3 49 := rfl
theorem h62_49 : code_ 62 49 = opIfEq 54 52 := rfl
theorem h62_52 : code_ 62 52 = opIld 3 53 := rfl
theorem h62_53 : code_ 62 53 = opIret := rfl
theorem h62_54 : code_ 62 54 = opMask [4] (opInc 3 1 57) := rfl
theorem h62_57 : code_ 62 57 = opIld 5 59 := rfl
theorem h62_59 : code_ 62 59 = opC (vI 1) 60 := rfl
theorem h62_60 : code_ 62 60 = opB (fun x y => x + y) 61 := rfl
theorem h62_61 : code_ 62 61 = opIst 4 63 := rfl
theorem h62_63 : code_ 62 63 = opInc 5 1 66 := rfl
theorem h62_66 : code_ 62 66 = opGoto 8 := rfl
theorem h62_69 : code_ 62 69 = opC (vI 40) 71 := rfl
theorem h62_71 : code_ 62 71 = opIret := rfl
theorem h63_0 : code_ 63 0 = opIld 1 1 := rfl
theorem h63_1 : code_ 63 1 = opIst 4 3 := rfl
theorem h63_3 : code_ 63 3 = opMask [5] (opIld 4 5) := rfl
theorem h63_5 : code_ 63 5 = opIld 2 6 := rfl
theorem h63_6 : code_ 63 6 = opCpGe 52 9 := rfl
theorem h63_9 : code_ 63 9 = opIld 3 10 := rfl
theorem h63_10 : code_ 63 10 = opIld 4 12 := rfl
theorem h63_12 : code_ 63 12 = opB (fun x y => x + y) 13 := rfl
theorem h63_13 : code_ 63 13 = opIld 1 14 := rfl
theorem h63_14 : code_ 63 14 = opB (fun x y => x - y) 15 := rfl
theorem h63_15 : code_ 63 15 = opIst 5 17 := rfl
theorem h63_17 : code_ 63 17 = opIld 5 19 := rfl
theorem h63_19 : code_ 63 19 = opC (vR 30 0) 21 := rfl
theorem h63_21 : code_ 63 21 = opSln 129 24 := rfl
theorem h63_24 : code_ 63 24 = opCpGe 44 27 := rfl
theorem h63_27 : code_ 63 27 = opC (vR 30 0) 29 := rfl
theorem h63_29 : code_ 63 29 = opIld 5 31 := rfl
theorem h63_31 : code_ 63 31 = opSch 129 wTx 34 := rfl
theorem h63_34 : code_ 63 34 = opAld 0 35 := rfl
theorem h63_35 : code_ 63 35 = opGR 3 0 1 100300 38 := rfl
theorem h63_38 : code_ 63 38 = opIld 4 40 := rfl
theorem h63_40 : code_ 63 40 = opIal 41 := rfl
theorem h63_41 : code_ 63 41 = opCpEq 46 44 := rfl
theorem h63_44 : code_ 63 44 = opMask [0, 1, 2, 3, 4, 5] (opC (vI 0) 45) := rfl
theorem h63_45 : code_ 63 45 = opZret := rfl
theorem h63_46 : code_ 63 46 = opInc 4 1 49 := rfl
theorem h63_49 : code_ 63 49 = opGoto 3 := rfl
theorem h63_52 : code_ 63 52 = opC (vI 1) 53 := rfl
theorem h63_53 : code_ 63 53 = opZret := rfl
theorem h64_0 : code_ 64 0 = opIld 0 1 := rfl
theorem h64_1 : code_ 64 1 = opSw 161 [(35, 137), (40, 152), (41, 155), (42, 146), (43, 140), (45, 143), (47, 149), (59, 158), (60, 128), (61, 134), (62, 131)] := rfl
theorem h64_128 : code_ 64 128 = opC (vI 25) 130 := rfl
theorem h64_130 : code_ 64 130 = opIret := rfl
theorem h64_131 : code_ 64 131 = opC (vI 27) 133 := rfl
theorem h64_133 : code_ 64 133 = opIret := rfl
theorem h64_134 : code_ 64 134 = opC (vI 29) 136 := rfl
theorem h64_136 : code_ 64 136 = opIret := rfl
theorem h64_137 : code_ 64 137 = opC (vI 30) 139 := rfl
theorem h64_139 : code_ 64 139 = opIret := rfl
theorem h64_140 : code_ 64 140 = opC (vI 31) 142 := rfl
theorem h64_142 : code_ 64 142 = opIret := rfl
theorem h64_143 : code_ 64 143 = opC (vI 32) 145 := rfl
theorem h64_145 : code_ 64 145 = opIret := rfl
theorem h64_146 : code_ 64 146 = opC (vI 33) 148 := rfl
theorem h64_148 : code_ 64 148 = opIret := rfl
theorem h64_149 : code_ 64 149 = opC (vI 34) 151 := rfl
theorem h64_151 : code_ 64 151 = opIret := rfl
theorem h64_152 : code_ 64 152 = opC (vI 35) 154 := rfl
theorem h64_154 : code_ 64 154 = opIret := rfl
theorem h64_155 : code_ 64 155 = opC (vI 36) 157 := rfl
theorem h64_157 : code_ 64 157 = opIret := rfl
theorem h64_158 : code_ 64 158 = opC (vI 37) 160 := rfl
theorem h64_160 : code_ 64 160 = opIret := rfl
theorem h64_161 : code_ 64 161 = opC (vI 40) 163 := rfl
theorem h64_163 : code_ 64 163 = opIret := rfl
theorem h65_0 : code_ 65 0 = opAld 0 1 := rfl
theorem h65_1 : code_ 65 1 = opGI 3 8 4 := rfl
theorem h65_4 : code_ 65 4 = opIfLt 30 7 := rfl
theorem h65_7 : code_ 65 7 = opAld 0 8 := rfl
theorem h65_8 : code_ 65 8 = opGI 3 8 11 := rfl
theorem h65_11 : code_ 65 11 = opAld 0 12 := rfl
theorem h65_12 : code_ 65 12 = opGI 3 7 15 := rfl
theorem h65_15 : code_ 65 15 = opCpGe 30 18 := rfl
theorem h65_18 : code_ 65 18 = opAld 0 19 := rfl
theorem h65_19 : code_ 65 19 = opGR 3 4 2 100300 22 := rfl
theorem h65_22 : code_ 65 22 = opAld 0 23 := rfl
theorem h65_23 : code_ 65 23 = opGI 3 8 26 := rfl
theorem h65_26 : code_ 65 26 = opIal 27 := rfl
theorem h65_27 : code_ 65 27 = opGoto 32 := rfl
theorem h65_30 : code_ 65 30 = opMask [0] (opC (vI 39) 32) := rfl
theorem h65_32 : code_ 65 32 = opMask [0] (opIret) := rfl
theorem h66_0 : code_ 66 0 = opAld 0 1 := rfl
theorem h66_1 : code_ 66 1 = opGI 3 2 4 := rfl
theorem h66_4 : code_ 66 4 = opIfNe 50 7 := rfl
theorem h66_7 : code_ 66 7 = opAld 0 8 := rfl
theorem h66_8 : code_ 66 8 = opIld 1 9 := rfl
theorem h66_9 : code_ 66 9 = opPI 3 2 12 := rfl
theorem h66_12 : code_ 66 12 = opAld 0 13 := rfl
theorem h66_13 : code_ 66 13 = opAld 0 14 := rfl
theorem h66_14 : code_ 66 14 = opGI 3 8 17 := rfl
theorem h66_17 : code_ 66 17 = opIfLt 43 20 := rfl
theorem h66_20 : code_ 66 20 = opAld 0 21 := rfl
theorem h66_21 : code_ 66 21 = opGI 3 8 24 := rfl
theorem h66_24 : code_ 66 24 = opAld 0 25 := rfl
theorem h66_25 : code_ 66 25 = opGI 3 7 28 := rfl
theorem h66_28 : code_ 66 28 = opCpGe 43 31 := rfl
theorem h66_31 : code_ 66 31 = opAld 0 32 := rfl
theorem h66_32 : code_ 66 32 = opGR 3 6 4 100300 35 := rfl
theorem h66_35 : code_ 66 35 = opAld 0 36 := rfl
theorem h66_36 : code_ 66 36 = opGI 3 8 39 := rfl
theorem h66_39 : code_ 66 39 = opIal 40 := rfl
theorem h66_40 : code_ 66 40 = opGoto 47 := rfl
theorem h66_43 : code_ 66 43 = opMask [1] (opAld 0 44) := rfl
theorem h66_44 : code_ 66 44 = opGI 3 1 47 := rfl
theorem h66_47 : code_ 66 47 = opMask [1] (opPI 3 3 50) := rfl
theorem h66_50 : code_ 66 50 = opMask [1] (opAld 0 51) := rfl
theorem h66_51 : code_ 66 51 = opAld 0 52 := rfl
theorem h66_52 : code_ 66 52 = opGI 3 7 55 := rfl
theorem h66_55 : code_ 66 55 = opPI 3 8 58 := rfl
theorem h66_58 : code_ 66 58 = opRet := rfl
theorem h67_0 : code_ 67 0 = opAld 0 1 := rfl
theorem h67_1 : code_ 67 1 = opK kI 65 1 3 4 := rfl
theorem h67_4 : code_ 67 4 = opIld 1 5 := rfl
theorem h67_5 : code_ 67 5 = opCpNe 21 8 := rfl
theorem h67_8 : code_ 67 8 = opAld 0 9 := rfl
theorem h67_9 : code_ 67 9 = opDup 10 := rfl
theorem h67_10 : code_ 67 10 = opGI 3 8 13 := rfl
theorem h67_13 : code_ 67 13 = opC (vI 1) 14 := rfl
theorem h67_14 : code_ 67 14 = opB (fun x y => x + y) 15 := rfl
theorem h67_15 : code_ 67 15 = opPI 3 8 18 := rfl
theorem h67_18 : code_ 67 18 = opGoto 26 := rfl
theorem h67_21 : code_ 67 21 = opAld 0 22 := rfl
theorem h67_22 : code_ 67 22 = opC (vI 1) 23 := rfl
theorem h67_23 : code_ 67 23 = opK kV 66 2 3 26 := rfl
theorem h67_26 : code_ 67 26 = opMask [0, 1] (opRet) := rfl
theorem h68_0 : code_ 68 0 = opAld 0 1 := rfl
theorem h68_1 : code_ 68 1 = opK kI 65 1 3 4 := rfl
theorem h68_4 : code_ 68 4 = opIst 1 5 := rfl
theorem h68_5 : code_ 68 5 = opIld 1 6 := rfl
theorem h68_6 : code_ 68 6 = opC (vI 7) 8 := rfl
theorem h68_8 : code_ 68 8 = opCpLe 17 11 := rfl
theorem h68_11 : code_ 68 11 = opAld 0 12 := rfl
theorem h68_12 : code_ 68 12 = opC (vI 1) 13 := rfl
theorem h68_13 : code_ 68 13 = opK kV 66 2 3 16 := rfl
theorem h68_16 : code_ 68 16 = opRet := rfl
theorem h68_17 : code_ 68 17 = opAld 0 18 := rfl
theorem h68_18 : code_ 68 18 = opGX 3 10 5 21 := rfl
theorem h68_21 : code_ 68 21 = opIld 1 22 := rfl
theorem h68_22 : code_ 68 22 = opK kI 85 2 5 25 := rfl
theorem h68_25 : code_ 68 25 = opIfEq 34 28 := rfl
theorem h68_28 : code_ 68 28 = opAld 0 29 := rfl
theorem h68_29 : code_ 68 29 = opC (vI 4) 30 := rfl
theorem h68_30 : code_ 68 30 = opK kV 66 2 3 33 := rfl
theorem h68_33 : code_ 68 33 = opRet := rfl
theorem h68_34 : code_ 68 34 = opAld 0 35 := rfl
theorem h68_35 : code_ 68 35 = opGX 3 10 5 38 := rfl
theorem h68_38 : code_ 68 38 = opGI 5 0 41 := rfl
theorem h68_41 : code_ 68 41 = opC (vI 24) 43 := rfl
theorem h68_43 : code_ 68 43 = opCpLt 53 46 := rfl
theorem h68_46 : code_ 68 46 = opAld 0 47 := rfl
theorem h68_47 : code_ 68 47 = opC (vI 6) 49 := rfl
theorem h68_49 : code_ 68 49 = opK kV 66 2 3 52 := rfl
theorem h68_52 : code_ 68 52 = opRet := rfl
theorem h68_53 : code_ 68 53 = opAld 0 54 := rfl
theorem h68_54 : code_ 68 54 = opDup 55 := rfl
theorem h68_55 : code_ 68 55 = opGI 3 8 58 := rfl
theorem h68_58 : code_ 68 58 = opC (vI 1) 59 := rfl
theorem h68_59 : code_ 68 59 = opB (fun x y => x + y) 60 := rfl
theorem h68_60 : code_ 68 60 = opPI 3 8 63 := rfl
theorem h68_63 : code_ 68 63 = opC (vI 0) 64 := rfl
theorem h68_64 : code_ 68 64 = opIst 2 65 := rfl
theorem h68_65 : code_ 68 65 = opC (vI 0) 66 := rfl
theorem h68_66 : code_ 68 66 = opIst 3 67 := rfl
theorem h68_67 : code_ 68 67 = opIld 1 68 := rfl
theorem h68_68 : code_ 68 68 = opSw 198 [(2, 108), (3, 120), (4, 132), (5, 159), (6, 195), (7, 184)] := rfl
theorem h68_108 : code_ 68 108 = opAld 0 109 := rfl
theorem h68_109 : code_ 68 109 = opC (vI 0) 110 := rfl
theorem h68_110 : code_ 68 110 = opC (vI 999) 113 := rfl
theorem h68_113 : code_ 68 113 = opK kI 69 3 3 116 := rfl
theorem h68_116 : code_ 68 116 = opIst 2 117 := rfl
theorem h68_117 : code_ 68 117 = opGoto 203 := rfl
theorem h68_120 : code_ 68 120 = opAld 0 121 := rfl
theorem h68_121 : code_ 68 121 = opC (vI 0) 122 := rfl
theorem h68_122 : code_ 68 122 = opC (vI 191) 125 := rfl
theorem h68_125 : code_ 68 125 = opK kI 69 3 3 128 := rfl
theorem h68_128 : code_ 68 128 = opIst 2 129 := rfl
theorem h68_129 : code_ 68 129 = opGoto 203 := rfl
theorem h68_132 : code_ 68 132 = opAld 0 133 := rfl
theorem h68_133 : code_ 68 133 = opC (vI 0) 134 := rfl
theorem h68_134 : code_ 68 134 = opC (vI 999) 137 := rfl
theorem h68_137 : code_ 68 137 = opK kI 69 3 3 140 := rfl
theorem h68_140 : code_ 68 140 = opIst 2 141 := rfl
theorem h68_141 : code_ 68 141 = opAld 0 142 := rfl
theorem h68_142 : code_ 68 142 = opC (vI 8) 144 := rfl
theorem h68_144 : code_ 68 144 = opK kV 67 2 3 147 := rfl
theorem h68_147 : code_ 68 147 = opAld 0 148 := rfl
theorem h68_148 : code_ 68 148 = opC (vI 0) 149 := rfl
theorem h68_149 : code_ 68 149 = opC (vI 191) 152 := rfl
theorem h68_152 : code_ 68 152 = opK kI 69 3 3 155 := rfl
theorem h68_155 : code_ 68 155 = opIst 3 156 := rfl
theorem h68_156 : code_ 68 156 = opGoto 203 := rfl
theorem h68_159 : code_ 68 159 = opAld 0 160 := rfl
theorem h68_160 : code_ 68 160 = opC (vI 0) 161 := rfl
theorem h68_161 : code_ 68 161 = opC (vI 11) 163 := rfl
theorem h68_163 : code_ 68 163 = opK kI 69 3 3 166 := rfl
theorem h68_166 : code_ 68 166 = opIst 2 167 := rfl
theorem h68_167 : code_ 68 167 = opAld 0 168 := rfl
theorem h68_168 : code_ 68 168 = opC (vI 9) 170 := rfl
theorem h68_170 : code_ 68 170 = opK kV 67 2 3 173 := rfl
theorem h68_173 : code_ 68 173 = opAld 0 174 := rfl
theorem h68_174 : code_ 68 174 = opC (vI 0) 175 := rfl
theorem h68_175 : code_ 68 175 = opC (vI 11) 177 := rfl
theorem h68_177 : code_ 68 177 = opK kI 69 3 3 180 := rfl
theorem h68_180 : code_ 68 180 = opIst 3 181 := rfl
theorem h68_181 : code_ 68 181 = opGoto 203 := rfl
theorem h68_184 : code_ 68 184 = opAld 0 185 := rfl
theorem h68_185 : code_ 68 185 = opC (vI 1) 186 := rfl
theorem h68_186 : code_ 68 186 = opC (vI 60) 188 := rfl
theorem h68_188 : code_ 68 188 = opK kI 69 3 3 191 := rfl
theorem h68_191 : code_ 68 191 = opIst 2 192 := rfl
theorem h68_192 : code_ 68 192 = opGoto 203 := rfl
theorem h68_195 : code_ 68 195 = opGoto 203 := rfl
theorem h68_198 : code_ 68 198 = opAld 0 199 := rfl
theorem h68_199 : code_ 68 199 = opIld 1 200 := rfl
theorem h68_200 : code_ 68 200 = opK kV 70 2 3 203 := rfl
theorem h68_203 : code_ 68 203 = opAld 0 204 := rfl
theorem h68_204 : code_ 68 204 = opC (vI 37) 206 := rfl
theorem h68_206 : code_ 68 206 = opK kV 67 2 3 209 := rfl
theorem h68_209 : code_ 68 209 = opAld 0 210 := rfl
theorem h68_210 : code_ 68 210 = opGX 3 10 5 213 := rfl
theorem h68_213 : code_ 68 213 = opIld 1 214 := rfl
theorem h68_214 : code_ 68 214 = opIld 2 215 := rfl
theorem h68_215 : code_ 68 215 = opIld 3 216 := rfl
theorem h68_216 : code_ 68 216 = opK kV 89 4 5 219 := rfl
theorem h68_219 : code_ 68 219 = opRet := rfl
theorem h69_0 : code_ 69 0 = opAld 0 1 := rfl
theorem h69_1 : code_ 69 1 = opK kI 65 1 3 4 := rfl
theorem h69_4 : code_ 69 4 = opC (vI 38) 6 := rfl
theorem h69_6 : code_ 69 6 = opCpEq 16 9 := rfl
theorem h69_9 : code_ 69 9 = opAld 0 10 := rfl
theorem h69_10 : code_ 69 10 = opC (vI 1) 11 := rfl
theorem h69_11 : code_ 69 11 = opK kV 66 2 3 14 := rfl
theorem h69_14 : code_ 69 14 = opC (vI 0) 15 := rfl
theorem h69_15 : code_ 69 15 = opIret := rfl
theorem h69_16 : code_ 69 16 = opAld 0 17 := rfl
theorem h69_17 : code_ 69 17 = opGR 3 5 3 100300 20 := rfl
theorem h69_20 : code_ 69 20 = opAld 0 21 := rfl
theorem h69_21 : code_ 69 21 = opGI 3 8 24 := rfl
theorem h69_24 : code_ 69 24 = opIal 25 := rfl
theorem h69_25 : code_ 69 25 = opIst 3 26 := rfl
theorem h69_26 : code_ 69 26 = opIld 3 27 := rfl
theorem h69_27 : code_ 69 27 = opIld 1 28 := rfl
theorem h69_28 : code_ 69 28 = opCpLt 36 31 := rfl
theorem h69_31 : code_ 69 31 = opIld 3 32 := rfl
theorem h69_32 : code_ 69 32 = opIld 2 33 := rfl
theorem h69_33 : code_ 69 33 = opCpLe 43 36 := rfl
theorem h69_36 : code_ 69 36 = opMask [1, 2, 3] (opAld 0 37) := rfl
theorem h69_37 : code_ 69 37 = opC (vI 2) 38 := rfl
theorem h69_38 : code_ 69 38 = opK kV 66 2 3 41 := rfl
theorem h69_41 : code_ 69 41 = opC (vI 0) 42 := rfl
theorem h69_42 : code_ 69 42 = opIret := rfl
theorem h69_43 : code_ 69 43 = opAld 0 44 := rfl
theorem h69_44 : code_ 69 44 = opDup 45 := rfl
theorem h69_45 : code_ 69 45 = opGI 3 8 48 := rfl
theorem h69_48 : code_ 69 48 = opC (vI 1) 49 := rfl
theorem h69_49 : code_ 69 49 = opB (fun x y => x + y) 50 := rfl
theorem h69_50 : code_ 69 50 = opPI 3 8 53 := rfl
theorem h69_53 : code_ 69 53 = opIld 3 54 := rfl
theorem h69_54 : code_ 69 54 = opIret := rfl
theorem h70_0 : code_ 70 0 = opAld 0 1 := rfl
theorem h70_1 : code_ 70 1 = opIld 1 2 := rfl
theorem h70_2 : code_ 70 2 = opPI 3 9 5 := rfl
theorem h70_5 : code_ 70 5 = opAld 0 6 := rfl
theorem h70_6 : code_ 70 6 = opGX 3 10 5 9 := rfl
theorem h70_9 : code_ 70 9 = opIld 1 10 := rfl
theorem h70_10 : code_ 70 10 = opK kV 87 2 5 13 := rfl
theorem h70_13 : code_ 70 13 = opAld 0 14 := rfl
theorem h70_14 : code_ 70 14 = opC (vI 0) 15 := rfl
theorem h70_15 : code_ 70 15 = opK kV 71 2 3 18 := rfl
theorem h70_18 : code_ 70 18 = opAld 0 19 := rfl
theorem h70_19 : code_ 70 19 = opGX 3 10 5 22 := rfl
theorem h70_22 : code_ 70 22 = opIld 1 23 := rfl
theorem h70_23 : code_ 70 23 = opK kV 88 2 5 26 := rfl
theorem h70_26 : code_ 70 26 = opRet := rfl
theorem h71_0 : code_ 71 0 = opAld 0 1 := rfl
theorem h71_1 : code_ 71 1 = opIld 1 2 := rfl
theorem h71_2 : code_ 71 2 = opK kV 72 2 3 5 := rfl
theorem h71_5 : code_ 71 5 = opC (vI 0) 6 := rfl
theorem h71_6 : code_ 71 6 = opIst 2 7 := rfl
theorem h71_7 : code_ 71 7 = opMask [3] (opIld 2 8) := rfl
theorem h71_8 : code_ 71 8 = opC (vI 300) 11 := rfl
theorem h71_11 : code_ 71 11 = opCpGe 68 14 := rfl
theorem h71_14 : code_ 71 14 = opAld 0 15 := rfl
theorem h71_15 : code_ 71 15 = opK kI 65 1 3 18 := rfl
theorem h71_18 : code_ 71 18 = opC (vI 31) 20 := rfl
theorem h71_20 : code_ 71 20 = opCpEq 32 23 := rfl
theorem h71_23 : code_ 71 23 = opAld 0 24 := rfl
theorem h71_24 : code_ 71 24 = opK kI 65 1 3 27 := rfl
theorem h71_27 : code_ 71 27 = opC (vI 32) 29 := rfl
theorem h71_29 : code_ 71 29 = opCpNe 68 32 := rfl
theorem h71_32 : code_ 71 32 = opMask [3] (opAld 0 33) := rfl
theorem h71_33 : code_ 71 33 = opK kI 65 1 3 36 := rfl
theorem h71_36 : code_ 71 36 = opIst 3 37 := rfl
theorem h71_37 : code_ 71 37 = opAld 0 38 := rfl
theorem h71_38 : code_ 71 38 = opDup 39 := rfl
theorem h71_39 : code_ 71 39 = opGI 3 8 42 := rfl
theorem h71_42 : code_ 71 42 = opC (vI 1) 43 := rfl
theorem h71_43 : code_ 71 43 = opB (fun x y => x + y) 44 := rfl
theorem h71_44 : code_ 71 44 = opPI 3 8 47 := rfl
theorem h71_47 : code_ 71 47 = opAld 0 48 := rfl
theorem h71_48 : code_ 71 48 = opIld 1 49 := rfl
theorem h71_49 : code_ 71 49 = opK kV 72 2 3 52 := rfl
theorem h71_52 : code_ 71 52 = opAld 0 53 := rfl
theorem h71_53 : code_ 71 53 = opGX 3 10 5 56 := rfl
theorem h71_56 : code_ 71 56 = opIld 3 57 := rfl
theorem h71_57 : code_ 71 57 = opC (vI 0) 58 := rfl
theorem h71_58 : code_ 71 58 = opK kI 90 3 5 61 := rfl
theorem h71_61 : code_ 71 61 = opPop 62 := rfl
theorem h71_62 : code_ 71 62 = opInc 2 1 65 := rfl
theorem h71_65 : code_ 71 65 = opGoto 7 := rfl
theorem h71_68 : code_ 71 68 = opMask [0, 1, 2, 3] (opRet) := rfl
theorem h72_0 : code_ 72 0 = opAld 0 1 := rfl
theorem h72_1 : code_ 72 1 = opIld 1 2 := rfl
theorem h72_2 : code_ 72 2 = opK kV 73 2 3 5 := rfl
theorem h72_5 : code_ 72 5 = opC (vI 0) 6 := rfl
theorem h72_6 : code_ 72 6 = opIst 2 7 := rfl
theorem h72_7 : code_ 72 7 = opMask [3] (opIld 2 8) := rfl
theorem h72_8 : code_ 72 8 = opC (vI 300) 11 := rfl
theorem h72_11 : code_ 72 11 = opCpGe 68 14 := rfl
theorem h72_14 : code_ 72 14 = opAld 0 15 := rfl
theorem h72_15 : code_ 72 15 = opK kI 65 1 3 18 := rfl
theorem h72_18 : code_ 72 18 = opC (vI 33) 20 := rfl
theorem h72_20 : code_ 72 20 = opCpEq 32 23 := rfl
theorem h72_23 : code_ 72 23 = opAld 0 24 := rfl
theorem h72_24 : code_ 72 24 = opK kI 65 1 3 27 := rfl
theorem h72_27 : code_ 72 27 = opC (vI 34) 29 := rfl
theorem h72_29 : code_ 72 29 = opCpNe 68 32 := rfl
theorem h72_32 : code_ 72 32 = opMask [3] (opAld 0 33) := rfl
theorem h72_33 : code_ 72 33 = opK kI 65 1 3 36 := rfl
theorem h72_36 : code_ 72 36 = opIst 3 37 := rfl
theorem h72_37 : code_ 72 37 = opAld 0 38 := rfl
theorem h72_38 : code_ 72 38 = opDup 39 := rfl
theorem h72_39 : code_ 72 39 = opGI 3 8 42 := rfl
theorem h72_42 : code_ 72 42 = opC (vI 1) 43 := rfl
theorem h72_43 : code_ 72 43 = opB (fun x y => x + y) 44 := rfl
theorem h72_44 : code_ 72 44 = opPI 3 8 47 := rfl
theorem h72_47 : code_ 72 47 = opAld 0 48 := rfl
theorem h72_48 : code_ 72 48 = opIld 1 49 := rfl
theorem h72_49 : code_ 72 49 = opK kV 73 2 3 52 := rfl
theorem h72_52 : code_ 72 52 = opAld 0 53 := rfl
theorem h72_53 : code_ 72 53 = opGX 3 10 5 56 := rfl
theorem h72_56 : code_ 72 56 = opIld 3 57 := rfl
theorem h72_57 : code_ 72 57 = opC (vI 0) 58 := rfl
theorem h72_58 : code_ 72 58 = opK kI 90 3 5 61 := rfl
theorem h72_61 : code_ 72 61 = opPop 62 := rfl
theorem h72_62 : code_ 72 62 = opInc 2 1 65 := rfl
theorem h72_65 : code_ 72 65 = opGoto 7 := rfl
theorem h72_68 : code_ 72 68 = opMask [0, 1, 2, 3] (opRet) := rfl
theorem h73_0 : code_ 73 0 = opAld 0 1 := rfl
theorem h73_1 : code_ 73 1 = opK kI 65 1 3 4 := rfl
theorem h73_4 : code_ 73 4 = opIst 2 5 := rfl
theorem h73_5 : code_ 73 5 = opIld 2 6 := rfl
theorem h73_6 : code_ 73 6 = opSw 166 [(10, 109), (11, 109), (12, 148), (32, 109), (35, 85), (38, 64)] := rfl
theorem h73_64 : code_ 73 64 = opAld 0 65 := rfl
theorem h73_65 : code_ 73 65 = opGX 3 10 5 68 := rfl
theorem h73_68 : code_ 73 68 = opC (vI 38) 70 := rfl
theorem h73_70 : code_ 73 70 = opAld 0 71 := rfl
theorem h73_71 : code_ 73 71 = opC (vI 0) 72 := rfl
theorem h73_72 : code_ 73 72 = opC (vI 9999) 75 := rfl
theorem h73_75 : code_ 73 75 = opK kI 69 3 3 78 := rfl
theorem h73_78 : code_ 73 78 = opK kI 90 3 5 81 := rfl
theorem h73_81 : code_ 73 81 = opPop 82 := rfl
theorem h73_82 : code_ 73 82 = opGoto 171 := rfl
theorem h73_85 : code_ 73 85 = opAld 0 86 := rfl
theorem h73_86 : code_ 73 86 = opIld 1 87 := rfl
theorem h73_87 : code_ 73 87 = opK kI 74 2 3 90 := rfl
theorem h73_90 : code_ 73 90 = opIfEq 171 93 := rfl
theorem h73_93 : code_ 73 93 = opAld 0 94 := rfl
theorem h73_94 : code_ 73 94 = opIld 1 95 := rfl
theorem h73_95 : code_ 73 95 = opC (vI 1) 96 := rfl
theorem h73_96 : code_ 73 96 = opB (fun x y => x + y) 97 := rfl
theorem h73_97 : code_ 73 97 = opK kV 71 2 3 100 := rfl
theorem h73_100 : code_ 73 100 = opAld 0 101 := rfl
theorem h73_101 : code_ 73 101 = opC (vI 36) 103 := rfl
theorem h73_103 : code_ 73 103 = opK kV 67 2 3 106 := rfl
theorem h73_106 : code_ 73 106 = opGoto 171 := rfl
theorem h73_109 : code_ 73 109 = opAld 0 110 := rfl
theorem h73_110 : code_ 73 110 = opIld 1 111 := rfl
theorem h73_111 : code_ 73 111 = opK kI 74 2 3 114 := rfl
theorem h73_114 : code_ 73 114 = opIfEq 171 117 := rfl
theorem h73_117 : code_ 73 117 = opAld 0 118 := rfl
theorem h73_118 : code_ 73 118 = opIld 1 119 := rfl
theorem h73_119 : code_ 73 119 = opC (vI 1) 120 := rfl
theorem h73_120 : code_ 73 120 = opB (fun x y => x + y) 121 := rfl
theorem h73_121 : code_ 73 121 = opK kV 73 2 3 124 := rfl
theorem h73_124 : code_ 73 124 = opAld 0 125 := rfl
theorem h73_125 : code_ 73 125 = opGX 3 10 5 128 := rfl
theorem h73_128 : code_ 73 128 = opIld 2 129 := rfl
theorem h73_129 : code_ 73 129 = opC (vI 32) 131 := rfl
theorem h73_131 : code_ 73 131 = opCpNe 139 134 := rfl
theorem h73_134 : code_ 73 134 = opC (vI 41) 136 := rfl
theorem h73_136 : code_ 73 136 = opGoto 140 := rfl
theorem h73_139 : code_ 73 139 = opIld 2 140 := rfl
theorem h73_140 : code_ 73 140 = opMask [0, 1, 2] (opC (vI 0) 141) := rfl
theorem h73_141 : code_ 73 141 = opK kI 90 3 5 144 := rfl
theorem h73_144 : code_ 73 144 = opPop 145 := rfl
theorem h73_145 : code_ 73 145 = opGoto 171 := rfl
theorem h73_148 : code_ 73 148 = opAld 0 149 := rfl
theorem h73_149 : code_ 73 149 = opIld 1 150 := rfl
theorem h73_150 : code_ 73 150 = opK kI 74 2 3 153 := rfl
theorem h73_153 : code_ 73 153 = opIfEq 171 156 := rfl
theorem h73_156 : code_ 73 156 = opAld 0 157 := rfl
theorem h73_157 : code_ 73 157 = opIld 1 158 := rfl
theorem h73_158 : code_ 73 158 = opC (vI 1) 159 := rfl
theorem h73_159 : code_ 73 159 = opB (fun x y => x + y) 160 := rfl
theorem h73_160 : code_ 73 160 = opK kV 76 2 3 163 := rfl
theorem h73_163 : code_ 73 163 = opGoto 171 := rfl
theorem h73_166 : code_ 73 166 = opAld 0 167 := rfl
theorem h73_167 : code_ 73 167 = opIld 2 168 := rfl
theorem h73_168 : code_ 73 168 = opK kV 75 2 3 171 := rfl
theorem h73_171 : code_ 73 171 = opMask [0, 1, 2] (opRet) := rfl
theorem h74_0 : code_ 74 0 = opIld 1 1 := rfl
theorem h74_1 : code_ 74 1 = opC (vI 8) 3 := rfl
theorem h74_3 : code_ 74 3 = opCpLt 13 6 := rfl
theorem h74_6 : code_ 74 6 = opAld 0 7 := rfl
theorem h74_7 : code_ 74 7 = opC (vI 3) 8 := rfl
theorem h74_8 : code_ 74 8 = opK kV 66 2 3 11 := rfl
theorem h74_11 : code_ 74 11 = opC (vI 0) 12 := rfl
theorem h74_12 : code_ 74 12 = opZret := rfl
theorem h74_13 : code_ 74 13 = opAld 0 14 := rfl
theorem h74_14 : code_ 74 14 = opDup 15 := rfl
theorem h74_15 : code_ 74 15 = opGI 3 8 18 := rfl
theorem h74_18 : code_ 74 18 = opC (vI 1) 19 := rfl
theorem h74_19 : code_ 74 19 = opB (fun x y => x + y) 20 := rfl
theorem h74_20 : code_ 74 20 = opPI 3 8 23 := rfl
theorem h74_23 : code_ 74 23 = opC (vI 1) 24 := rfl
theorem h74_24 : code_ 74 24 = opZret := rfl
theorem h75_0 : code_ 75 0 = opIld 1 1 := rfl
theorem h75_1 : code_ 75 1 = opC (vI 19) 3 := rfl
theorem h75_3 : code_ 75 3 = opCpLt 12 6 := rfl
theorem h75_6 : code_ 75 6 = opIld 1 7 := rfl
theorem h75_7 : code_ 75 7 = opC (vI 24) 9 := rfl
theorem h75_9 : code_ 75 9 = opCpLe 20 12 := rfl
theorem h75_12 : code_ 75 12 = opMask [1] (opAld 0 13) := rfl
theorem h75_13 : code_ 75 13 = opC (vI 1) 14 := rfl
theorem h75_14 : code_ 75 14 = opK kV 66 2 3 17 := rfl
theorem h75_17 : code_ 75 17 = opGoto 81 := rfl
theorem h75_20 : code_ 75 20 = opAld 0 21 := rfl
theorem h75_21 : code_ 75 21 = opGI 3 9 24 := rfl
theorem h75_24 : code_ 75 24 = opC (vI 1) 25 := rfl
theorem h75_25 : code_ 75 25 = opCpNe 40 28 := rfl
theorem h75_28 : code_ 75 28 = opIld 1 29 := rfl
theorem h75_29 : code_ 75 29 = opC (vI 22) 31 := rfl
theorem h75_31 : code_ 75 31 = opCpEq 53 34 := rfl
theorem h75_34 : code_ 75 34 = opIld 1 35 := rfl
theorem h75_35 : code_ 75 35 = opC (vI 23) 37 := rfl
theorem h75_37 : code_ 75 37 = opCpEq 53 40 := rfl
theorem h75_40 : code_ 75 40 = opAld 0 41 := rfl
theorem h75_41 : code_ 75 41 = opGI 3 9 44 := rfl
theorem h75_44 : code_ 75 44 = opIfNe 61 47 := rfl
theorem h75_47 : code_ 75 47 = opIld 1 48 := rfl
theorem h75_48 : code_ 75 48 = opC (vI 24) 50 := rfl
theorem h75_50 : code_ 75 50 = opCpNe 61 53 := rfl
theorem h75_53 : code_ 75 53 = opMask [1] (opAld 0 54) := rfl
theorem h75_54 : code_ 75 54 = opC (vI 5) 55 := rfl
theorem h75_55 : code_ 75 55 = opK kV 66 2 3 58 := rfl
theorem h75_58 : code_ 75 58 = opGoto 81 := rfl
theorem h75_61 : code_ 75 61 = opAld 0 62 := rfl
theorem h75_62 : code_ 75 62 = opGX 3 10 5 65 := rfl
theorem h75_65 : code_ 75 65 = opIld 1 66 := rfl
theorem h75_66 : code_ 75 66 = opC (vI 0) 67 := rfl
theorem h75_67 : code_ 75 67 = opK kI 90 3 5 70 := rfl
theorem h75_70 : code_ 75 70 = opPop 71 := rfl
theorem h75_71 : code_ 75 71 = opAld 0 72 := rfl
theorem h75_72 : code_ 75 72 = opDup 73 := rfl
theorem h75_73 : code_ 75 73 = opGI 3 8 76 := rfl
theorem h75_76 : code_ 75 76 = opC (vI 1) 77 := rfl
theorem h75_77 : code_ 75 77 = opB (fun x y => x + y) 78 := rfl
theorem h75_78 : code_ 75 78 = opPI 3 8 81 := rfl
theorem h75_81 : code_ 75 81 = opMask [0, 1] (opRet) := rfl
theorem h76_0 : code_ 76 0 = opAld 0 1 := rfl
theorem h76_1 : code_ 76 1 = opIld 1 2 := rfl
theorem h76_2 : code_ 76 2 = opK kV 77 2 3 5 := rfl
theorem h76_5 : code_ 76 5 = opAld 0 6 := rfl
theorem h76_6 : code_ 76 6 = opC (vI 13) 8 := rfl
theorem h76_8 : code_ 76 8 = opK kV 67 2 3 11 := rfl
theorem h76_11 : code_ 76 11 = opAld 0 12 := rfl
theorem h76_12 : code_ 76 12 = opGX 3 10 5 15 := rfl
theorem h76_15 : code_ 76 15 = opC (vI 43) 17 := rfl
theorem h76_17 : code_ 76 17 = opC (vI 0) 18 := rfl
theorem h76_18 : code_ 76 18 = opK kI 90 3 5 21 := rfl
theorem h76_21 : code_ 76 21 = opIst 2 22 := rfl
theorem h76_22 : code_ 76 22 = opAld 0 23 := rfl
theorem h76_23 : code_ 76 23 = opIld 1 24 := rfl
theorem h76_24 : code_ 76 24 = opK kV 71 2 3 27 := rfl
theorem h76_27 : code_ 76 27 = opAld 0 28 := rfl
theorem h76_28 : code_ 76 28 = opC (vI 14) 30 := rfl
theorem h76_30 : code_ 76 30 = opK kV 67 2 3 33 := rfl
theorem h76_33 : code_ 76 33 = opAld 0 34 := rfl
theorem h76_34 : code_ 76 34 = opGX 3 10 5 37 := rfl
theorem h76_37 : code_ 76 37 = opC (vI 42) 39 := rfl
theorem h76_39 : code_ 76 39 = opC (vI 0) 40 := rfl
theorem h76_40 : code_ 76 40 = opK kI 90 3 5 43 := rfl
theorem h76_43 : code_ 76 43 = opIst 3 44 := rfl
theorem h76_44 : code_ 76 44 = opAld 0 45 := rfl
theorem h76_45 : code_ 76 45 = opGX 3 10 5 48 := rfl
theorem h76_48 : code_ 76 48 = opIld 2 49 := rfl
theorem h76_49 : code_ 76 49 = opK kV 91 2 5 52 := rfl
theorem h76_52 : code_ 76 52 = opAld 0 53 := rfl
theorem h76_53 : code_ 76 53 = opIld 1 54 := rfl
theorem h76_54 : code_ 76 54 = opK kV 71 2 3 57 := rfl
theorem h76_57 : code_ 76 57 = opAld 0 58 := rfl
theorem h76_58 : code_ 76 58 = opC (vI 15) 60 := rfl
theorem h76_60 : code_ 76 60 = opK kV 67 2 3 63 := rfl
theorem h76_63 : code_ 76 63 = opAld 0 64 := rfl
theorem h76_64 : code_ 76 64 = opGX 3 10 5 67 := rfl
theorem h76_67 : code_ 76 67 = opIld 3 68 := rfl
theorem h76_68 : code_ 76 68 = opK kV 91 2 5 71 := rfl
theorem h76_71 : code_ 76 71 = opRet := rfl
theorem h77_0 : code_ 77 0 = opAld 0 1 := rfl
theorem h77_1 : code_ 77 1 = opIld 1 2 := rfl
theorem h77_2 : code_ 77 2 = opK kV 78 2 3 5 := rfl
theorem h77_5 : code_ 77 5 = opC (vI 0) 6 := rfl
theorem h77_6 : code_ 77 6 = opIst 2 7 := rfl
theorem h77_7 : code_ 77 7 = opIld 2 8 := rfl
theorem h77_8 : code_ 77 8 = opC (vI 300) 11 := rfl
theorem h77_11 : code_ 77 11 = opCpGe 55 14 := rfl
theorem h77_14 : code_ 77 14 = opAld 0 15 := rfl
theorem h77_15 : code_ 77 15 = opK kI 65 1 3 18 := rfl
theorem h77_18 : code_ 77 18 = opC (vI 16) 20 := rfl
theorem h77_20 : code_ 77 20 = opCpNe 55 23 := rfl
theorem h77_23 : code_ 77 23 = opAld 0 24 := rfl
theorem h77_24 : code_ 77 24 = opDup 25 := rfl
theorem h77_25 : code_ 77 25 = opGI 3 8 28 := rfl
theorem h77_28 : code_ 77 28 = opC (vI 1) 29 := rfl
theorem h77_29 : code_ 77 29 = opB (fun x y => x + y) 30 := rfl
theorem h77_30 : code_ 77 30 = opPI 3 8 33 := rfl
theorem h77_33 : code_ 77 33 = opAld 0 34 := rfl
theorem h77_34 : code_ 77 34 = opIld 1 35 := rfl
theorem h77_35 : code_ 77 35 = opK kV 78 2 3 38 := rfl
theorem h77_38 : code_ 77 38 = opAld 0 39 := rfl
theorem h77_39 : code_ 77 39 = opGX 3 10 5 42 := rfl
theorem h77_42 : code_ 77 42 = opC (vI 16) 44 := rfl
theorem h77_44 : code_ 77 44 = opC (vI 0) 45 := rfl
theorem h77_45 : code_ 77 45 = opK kI 90 3 5 48 := rfl
theorem h77_48 : code_ 77 48 = opPop 49 := rfl
theorem h77_49 : code_ 77 49 = opInc 2 1 52 := rfl
theorem h77_52 : code_ 77 52 = opGoto 7 := rfl
theorem h77_55 : code_ 77 55 = opMask [0, 1, 2] (opRet) := rfl
theorem h78_0 : code_ 78 0 = opAld 0 1 := rfl
theorem h78_1 : code_ 78 1 = opIld 1 2 := rfl
theorem h78_2 : code_ 78 2 = opK kV 79 2 3 5 := rfl
theorem h78_5 : code_ 78 5 = opC (vI 0) 6 := rfl
theorem h78_6 : code_ 78 6 = opIst 2 7 := rfl
theorem h78_7 : code_ 78 7 = opIld 2 8 := rfl
theorem h78_8 : code_ 78 8 = opC (vI 300) 11 := rfl
theorem h78_11 : code_ 78 11 = opCpGe 55 14 := rfl
theorem h78_14 : code_ 78 14 = opAld 0 15 := rfl
theorem h78_15 : code_ 78 15 = opK kI 65 1 3 18 := rfl
theorem h78_18 : code_ 78 18 = opC (vI 17) 20 := rfl
theorem h78_20 : code_ 78 20 = opCpNe 55 23 := rfl
theorem h78_23 : code_ 78 23 = opAld 0 24 := rfl
theorem h78_24 : code_ 78 24 = opDup 25 := rfl
theorem h78_25 : code_ 78 25 = opGI 3 8 28 := rfl
theorem h78_28 : code_ 78 28 = opC (vI 1) 29 := rfl
theorem h78_29 : code_ 78 29 = opB (fun x y => x + y) 30 := rfl
theorem h78_30 : code_ 78 30 = opPI 3 8 33 := rfl
theorem h78_33 : code_ 78 33 = opAld 0 34 := rfl
theorem h78_34 : code_ 78 34 = opIld 1 35 := rfl
theorem h78_35 : code_ 78 35 = opK kV 79 2 3 38 := rfl
theorem h78_38 : code_ 78 38 = opAld 0 39 := rfl
theorem h78_39 : code_ 78 39 = opGX 3 10 5 42 := rfl
theorem h78_42 : code_ 78 42 = opC (vI 17) 44 := rfl
theorem h78_44 : code_ 78 44 = opC (vI 0) 45 := rfl
theorem h78_45 : code_ 78 45 = opK kI 90 3 5 48 := rfl
theorem h78_48 : code_ 78 48 = opPop 49 := rfl
theorem h78_49 : code_ 78 49 = opInc 2 1 52 := rfl
theorem h78_52 : code_ 78 52 = opGoto 7 := rfl
theorem h78_55 : code_ 78 55 = opMask [0, 1, 2] (opRet) := rfl
theorem h79_0 : code_ 79 0 = opAld 0 1 := rfl
theorem h79_1 : code_ 79 1 = opK kI 65 1 3 4 := rfl
theorem h79_4 : code_ 79 4 = opC (vI 18) 6 := rfl
theorem h79_6 : code_ 79 6 = opCpNe 36 9 := rfl
theorem h79_9 : code_ 79 9 = opAld 0 10 := rfl
theorem h79_10 : code_ 79 10 = opIld 1 11 := rfl
theorem h79_11 : code_ 79 11 = opK kI 74 2 3 14 := rfl
theorem h79_14 : code_ 79 14 = opIfEq 35 17 := rfl
theorem h79_17 : code_ 79 17 = opAld 0 18 := rfl
theorem h79_18 : code_ 79 18 = opIld 1 19 := rfl
theorem h79_19 : code_ 79 19 = opC (vI 1) 20 := rfl
theorem h79_20 : code_ 79 20 = opB (fun x y => x + y) 21 := rfl
theorem h79_21 : code_ 79 21 = opK kV 79 2 3 24 := rfl
theorem h79_24 : code_ 79 24 = opAld 0 25 := rfl
theorem h79_25 : code_ 79 25 = opGX 3 10 5 28 := rfl
theorem h79_28 : code_ 79 28 = opC (vI 18) 30 := rfl
theorem h79_30 : code_ 79 30 = opC (vI 0) 31 := rfl
theorem h79_31 : code_ 79 31 = opK kI 90 3 5 34 := rfl
theorem h79_34 : code_ 79 34 = opPop 35 := rfl
theorem h79_35 : code_ 79 35 = opMask [0, 1, 2] (opRet) := rfl
theorem h79_36 : code_ 79 36 = opAld 0 37 := rfl
theorem h79_37 : code_ 79 37 = opIld 1 38 := rfl
theorem h79_38 : code_ 79 38 = opK kV 71 2 3 41 := rfl
theorem h79_41 : code_ 79 41 = opAld 0 42 := rfl
theorem h79_42 : code_ 79 42 = opK kI 65 1 3 45 := rfl
theorem h79_45 : code_ 79 45 = opIst 2 46 := rfl
theorem h79_46 : code_ 79 46 = opIld 2 47 := rfl
theorem h79_47 : code_ 79 47 = opC (vI 25) 49 := rfl
theorem h79_49 : code_ 79 49 = opCpLt 58 52 := rfl
theorem h79_52 : code_ 79 52 = opIld 2 53 := rfl
theorem h79_53 : code_ 79 53 = opC (vI 30) 55 := rfl
theorem h79_55 : code_ 79 55 = opCpLe 64 58 := rfl
theorem h79_58 : code_ 79 58 = opMask [1, 2] (opAld 0 59) := rfl
theorem h79_59 : code_ 79 59 = opC (vI 1) 60 := rfl
theorem h79_60 : code_ 79 60 = opK kV 66 2 3 63 := rfl
theorem h79_63 : code_ 79 63 = opRet := rfl
theorem h79_64 : code_ 79 64 = opAld 0 65 := rfl
theorem h79_65 : code_ 79 65 = opDup 66 := rfl
theorem h79_66 : code_ 79 66 = opGI 3 8 69 := rfl
theorem h79_69 : code_ 79 69 = opC (vI 1) 70 := rfl
theorem h79_70 : code_ 79 70 = opB (fun x y => x + y) 71 := rfl
theorem h79_71 : code_ 79 71 = opPI 3 8 74 := rfl
theorem h79_74 : code_ 79 74 = opAld 0 75 := rfl
theorem h79_75 : code_ 79 75 = opIld 1 76 := rfl
theorem h79_76 : code_ 79 76 = opK kV 71 2 3 79 := rfl
theorem h79_79 : code_ 79 79 = opAld 0 80 := rfl
theorem h79_80 : code_ 79 80 = opGX 3 10 5 83 := rfl
theorem h79_83 : code_ 79 83 = opIld 2 84 := rfl
theorem h79_84 : code_ 79 84 = opC (vI 0) 85 := rfl
theorem h79_85 : code_ 79 85 = opK kI 90 3 5 88 := rfl
theorem h79_88 : code_ 79 88 = opPop 89 := rfl
theorem h79_89 : code_ 79 89 = opRet := rfl
theorem h80_0 : code_ 80 0 = opAld 0 1 := rfl
theorem h80_1 : code_ 80 1 = opGR 4 0 1 21 4 := rfl
theorem h80_4 : code_ 80 4 = opAld 0 5 := rfl
theorem h80_5 : code_ 80 5 = opGI 4 1 8 := rfl
theorem h80_8 : code_ 80 8 = opIld 1 9 := rfl
theorem h80_9 : code_ 80 9 = opB (fun x y => x + y) 10 := rfl
theorem h80_10 : code_ 80 10 = opC (vI 30) 12 := rfl
theorem h80_12 : code_ 80 12 = opBz remI 13 := rfl
theorem h80_13 : code_ 80 13 = opAal 21 1 30 1 7 14 := rfl
theorem h80_14 : code_ 80 14 = opAret := rfl
theorem h81_0 : code_ 81 0 = opAld 0 1 := rfl
theorem h81_1 : code_ 81 1 = opGI 4 2 4 := rfl
theorem h81_4 : code_ 81 4 = opC (vI 30) 6 := rfl
theorem h81_6 : code_ 81 6 = opCpGe 22 9 := rfl
theorem h81_9 : code_ 81 9 = opAld 0 10 := rfl
theorem h81_10 : code_ 81 10 = opDup 11 := rfl
theorem h81_11 : code_ 81 11 = opGI 4 2 14 := rfl
theorem h81_14 : code_ 81 14 = opC (vI 1) 15 := rfl
theorem h81_15 : code_ 81 15 = opB (fun x y => x + y) 16 := rfl
theorem h81_16 : code_ 81 16 = opPI 4 2 19 := rfl
theorem h81_19 : code_ 81 19 = opGoto 35 := rfl
theorem h81_22 : code_ 81 22 = opAld 0 23 := rfl
theorem h81_23 : code_ 81 23 = opAld 0 24 := rfl
theorem h81_24 : code_ 81 24 = opGI 4 1 27 := rfl
theorem h81_27 : code_ 81 27 = opC (vI 1) 28 := rfl
theorem h81_28 : code_ 81 28 = opB (fun x y => x + y) 29 := rfl
theorem h81_29 : code_ 81 29 = opC (vI 30) 31 := rfl
theorem h81_31 : code_ 81 31 = opBz remI 32 := rfl
theorem h81_32 : code_ 81 32 = opPI 4 1 35 := rfl
theorem h81_35 : code_ 81 35 = opAld 0 36 := rfl
theorem h81_36 : code_ 81 36 = opAld 0 37 := rfl
theorem h81_37 : code_ 81 37 = opGI 4 2 40 := rfl
theorem h81_40 : code_ 81 40 = opC (vI 1) 41 := rfl
theorem h81_41 : code_ 81 41 = opB (fun x y => x - y) 42 := rfl
theorem h81_42 : code_ 81 42 = opK (kR 1) 80 2 4 45 := rfl
theorem h81_45 : code_ 81 45 = opAld 1 46 := rfl
theorem h81_46 : code_ 81 46 = opK kV 5 2 1 49 := rfl
theorem h81_49 : code_ 81 49 = opRet := rfl
theorem h82_0 : code_ 82 0 = opAld 0 1 := rfl
theorem h82_1 : code_ 82 1 = opGI 4 2 4 := rfl
theorem h82_4 : code_ 82 4 = opIfLe 29 7 := rfl
theorem h82_7 : code_ 82 7 = opAld 0 8 := rfl
theorem h82_8 : code_ 82 8 = opDup 9 := rfl
theorem h82_9 : code_ 82 9 = opGI 4 2 12 := rfl
theorem h82_12 : code_ 82 12 = opC (vI 1) 13 := rfl
theorem h82_13 : code_ 82 13 = opB (fun x y => x - y) 14 := rfl
theorem h82_14 : code_ 82 14 = opPI 4 2 17 := rfl
theorem h82_17 : code_ 82 17 = opAld 1 18 := rfl
theorem h82_18 : code_ 82 18 = opAld 0 19 := rfl
theorem h82_19 : code_ 82 19 = opAld 0 20 := rfl
theorem h82_20 : code_ 82 20 = opGI 4 2 23 := rfl
theorem h82_23 : code_ 82 23 = opK (kR 1) 80 2 4 26 := rfl
theorem h82_26 : code_ 82 26 = opK kV 5 2 1 29 := rfl
theorem h82_29 : code_ 82 29 = opMask [0, 1] (opRet) := rfl
theorem h83_0 : code_ 83 0 = opAld 0 1 := rfl
theorem h83_1 : code_ 83 1 = opC (vI 0) 2 := rfl
theorem h83_2 : code_ 83 2 = opPI 4 1 5 := rfl
theorem h83_5 : code_ 83 5 = opAld 0 6 := rfl
theorem h83_6 : code_ 83 6 = opAld 1 7 := rfl
theorem h83_7 : code_ 83 7 = opGI 4 2 10 := rfl
theorem h83_10 : code_ 83 10 = opPI 4 2 13 := rfl
theorem h83_13 : code_ 83 13 = opC (vI 0) 14 := rfl
theorem h83_14 : code_ 83 14 = opIst 2 15 := rfl
theorem h83_15 : code_ 83 15 = opIld 2 16 := rfl
theorem h83_16 : code_ 83 16 = opAld 0 17 := rfl
theorem h83_17 : code_ 83 17 = opGI 4 2 20 := rfl
theorem h83_20 : code_ 83 20 = opCpGe 49 23 := rfl
theorem h83_23 : code_ 83 23 = opIld 2 24 := rfl
theorem h83_24 : code_ 83 24 = opC (vI 30) 26 := rfl
theorem h83_26 : code_ 83 26 = opCpGe 49 29 := rfl
theorem h83_29 : code_ 83 29 = opAld 0 30 := rfl
theorem h83_30 : code_ 83 30 = opGR 4 0 1 21 33 := rfl
theorem h83_33 : code_ 83 33 = opIld 2 34 := rfl
theorem h83_34 : code_ 83 34 = opAal 21 1 30 1 7 35 := rfl
theorem h83_35 : code_ 83 35 = opAld 1 36 := rfl
theorem h83_36 : code_ 83 36 = opIld 2 37 := rfl
theorem h83_37 : code_ 83 37 = opK (kR 1) 80 2 4 40 := rfl
theorem h83_40 : code_ 83 40 = opK kV 5 2 1 43 := rfl
theorem h83_43 : code_ 83 43 = opInc 2 1 46 := rfl
theorem h83_46 : code_ 83 46 = opGoto 15 := rfl
theorem h83_49 : code_ 83 49 = opMask [0, 1, 2] (opRet) := rfl
theorem h84_0 : code_ 84 0 = opAld 0 1 := rfl
theorem h84_1 : code_ 84 1 = opC (vI 0) 2 := rfl
theorem h84_2 : code_ 84 2 = opPI 5 0 5 := rfl
theorem h84_5 : code_ 84 5 = opAld 0 6 := rfl
theorem h84_6 : code_ 84 6 = opC (vI 0) 7 := rfl
theorem h84_7 : code_ 84 7 = opPI 5 6 10 := rfl
theorem h84_10 : code_ 84 10 = opAld 0 11 := rfl
theorem h84_11 : code_ 84 11 = opGR 5 4 4 100002 14 := rfl
theorem h84_14 : code_ 84 14 = opC (vI 0) 15 := rfl
theorem h84_15 : code_ 84 15 = opK kV 319 2 99 18 := rfl
theorem h84_18 : code_ 84 18 = opAld 0 19 := rfl
theorem h84_19 : code_ 84 19 = opGR 5 5 5 100002 22 := rfl
theorem h84_22 : code_ 84 22 = opC (vI 0) 23 := rfl
theorem h84_23 : code_ 84 23 = opK kV 319 2 99 26 := rfl
theorem h84_26 : code_ 84 26 = opRet := rfl
theorem h85_0 : code_ 85 0 = opIld 1 1 := rfl
theorem h85_1 : code_ 85 1 = opK kI 86 1 99 4 := rfl
theorem h85_4 : code_ 85 4 = opIfEq 26 7 := rfl
theorem h85_7 : code_ 85 7 = opAld 0 8 := rfl
theorem h85_8 : code_ 85 8 = opGR 5 4 4 100002 11 := rfl
theorem h85_11 : code_ 85 11 = opIld 1 12 := rfl
theorem h85_12 : code_ 85 12 = opIal 13 := rfl
theorem h85_13 : code_ 85 13 = opAld 0 14 := rfl
theorem h85_14 : code_ 85 14 = opGR 5 5 5 100002 17 := rfl
theorem h85_17 : code_ 85 17 = opIld 1 18 := rfl
theorem h85_18 : code_ 85 18 = opIal 19 := rfl
theorem h85_19 : code_ 85 19 = opCpGe 26 22 := rfl
theorem h85_22 : code_ 85 22 = opC (vI 1) 23 := rfl
theorem h85_23 : code_ 85 23 = opGoto 27 := rfl
theorem h85_26 : code_ 85 26 = opMask [0, 1] (opC (vI 0) 27) := rfl
theorem h85_27 : code_ 85 27 = opMask [0, 1] (opZret) := rfl
theorem h86_0 : code_ 86 0 = opIld 0 1 := rfl
theorem h86_1 : code_ 86 1 = opIfEq 9 4 := rfl
theorem h86_4 : code_ 86 4 = opIld 0 5 := rfl
theorem h86_5 : code_ 86 5 = opC (vI 1) 6 := rfl
theorem h86_6 : code_ 86 6 = opCpNe 13 9 := rfl
theorem h86_9 : code_ 86 9 = opMask [0] (opC (vI 1) 10) := rfl
theorem h86_10 : code_ 86 10 = opGoto 14 := rfl
theorem h86_13 : code_ 86 13 = opC (vI 0) 14 := rfl
theorem h86_14 : code_ 86 14 = opMask [0] (opZret) := rfl
theorem h87_0 : code_ 87 0 = opIld 1 1 := rfl
theorem h87_1 : code_ 87 1 = opK kI 86 1 99 4 := rfl
theorem h87_4 : code_ 87 4 = opIfEq 17 7 := rfl
theorem h87_7 : code_ 87 7 = opAld 0 8 := rfl
theorem h87_8 : code_ 87 8 = opGR 5 4 4 100002 11 := rfl
theorem h87_11 : code_ 87 11 = opIld 1 12 := rfl
theorem h87_12 : code_ 87 12 = opAld 0 13 := rfl
theorem h87_13 : code_ 87 13 = opGI 5 6 16 := rfl
theorem h87_16 : code_ 87 16 = opIas 17 := rfl
theorem h87_17 : code_ 87 17 = opMask [0, 1] (opRet) := rfl
theorem h88_0 : code_ 88 0 = opIld 1 1 := rfl
theorem h88_1 : code_ 88 1 = opK kI 86 1 99 4 := rfl
theorem h88_4 : code_ 88 4 = opIfEq 17 7 := rfl
theorem h88_7 : code_ 88 7 = opAld 0 8 := rfl
theorem h88_8 : code_ 88 8 = opGR 5 5 5 100002 11 := rfl
theorem h88_11 : code_ 88 11 = opIld 1 12 := rfl
theorem h88_12 : code_ 88 12 = opAld 0 13 := rfl
theorem h88_13 : code_ 88 13 = opGI 5 6 16 := rfl
theorem h88_16 : code_ 88 16 = opIas 17 := rfl
theorem h88_17 : code_ 88 17 = opMask [0, 1] (opRet) := rfl
theorem h89_0 : code_ 89 0 = opAld 0 1 := rfl
theorem h89_1 : code_ 89 1 = opGI 5 0 4 := rfl
theorem h89_4 : code_ 89 4 = opC (vI 24) 6 := rfl
theorem h89_6 : code_ 89 6 = opCpGe 49 9 := rfl
theorem h89_9 : code_ 89 9 = opAld 0 10 := rfl
theorem h89_10 : code_ 89 10 = opGR 5 1 1 100024 13 := rfl
theorem h89_13 : code_ 89 13 = opAld 0 14 := rfl
theorem h89_14 : code_ 89 14 = opGI 5 0 17 := rfl
theorem h89_17 : code_ 89 17 = opIld 1 18 := rfl
theorem h89_18 : code_ 89 18 = opIas 19 := rfl
theorem h89_19 : code_ 89 19 = opAld 0 20 := rfl
theorem h89_20 : code_ 89 20 = opGR 5 2 2 100024 23 := rfl
theorem h89_23 : code_ 89 23 = opAld 0 24 := rfl
theorem h89_24 : code_ 89 24 = opGI 5 0 27 := rfl
theorem h89_27 : code_ 89 27 = opIld 2 28 := rfl
theorem h89_28 : code_ 89 28 = opIas 29 := rfl
theorem h89_29 : code_ 89 29 = opAld 0 30 := rfl
theorem h89_30 : code_ 89 30 = opGR 5 3 3 100024 33 := rfl
theorem h89_33 : code_ 89 33 = opAld 0 34 := rfl
theorem h89_34 : code_ 89 34 = opGI 5 0 37 := rfl
theorem h89_37 : code_ 89 37 = opIld 3 38 := rfl
theorem h89_38 : code_ 89 38 = opIas 39 := rfl
theorem h89_39 : code_ 89 39 = opAld 0 40 := rfl
theorem h89_40 : code_ 89 40 = opDup 41 := rfl
theorem h89_41 : code_ 89 41 = opGI 5 0 44 := rfl
theorem h89_44 : code_ 89 44 = opC (vI 1) 45 := rfl
theorem h89_45 : code_ 89 45 = opB (fun x y => x + y) 46 := rfl
theorem h89_46 : code_ 89 46 = opPI 5 0 49 := rfl
theorem h89_49 : code_ 89 49 = opMask [0, 1, 2, 3] (opRet) := rfl
theorem h90_0 : code_ 90 0 = opAld 0 1 := rfl
theorem h90_1 : code_ 90 1 = opGI 5 6 4 := rfl
theorem h90_4 : code_ 90 4 = opC (vI 300) 7 := rfl
theorem h90_7 : code_ 90 7 = opCpLt 12 10 := rfl
theorem h90_10 : code_ 90 10 = opC (vI (-1)) 11 := rfl
theorem h90_11 : code_ 90 11 = opIret := rfl
theorem h90_12 : code_ 90 12 = opAld 0 13 := rfl
theorem h90_13 : code_ 90 13 = opGR 5 7 6 100300 16 := rfl
theorem h90_16 : code_ 90 16 = opAld 0 17 := rfl
theorem h90_17 : code_ 90 17 = opGI 5 6 20 := rfl
theorem h90_20 : code_ 90 20 = opIld 1 21 := rfl
theorem h90_21 : code_ 90 21 = opIas 22 := rfl
theorem h90_22 : code_ 90 22 = opAld 0 23 := rfl
theorem h90_23 : code_ 90 23 = opGR 5 8 7 100300 26 := rfl
theorem h90_26 : code_ 90 26 = opAld 0 27 := rfl
theorem h90_27 : code_ 90 27 = opGI 5 6 30 := rfl
theorem h90_30 : code_ 90 30 = opIld 2 31 := rfl
theorem h90_31 : code_ 90 31 = opIas 32 := rfl
theorem h90_32 : code_ 90 32 = opAld 0 33 := rfl
theorem h90_33 : code_ 90 33 = opDup 34 := rfl
theorem h90_34 : code_ 90 34 = opGI 5 6 37 := rfl
theorem h90_37 : code_ 90 37 = opC (vI 1) 38 := rfl
theorem h90_38 : code_ 90 38 = opB (fun x y => x + y) 39 := rfl
theorem h90_39 : code_ 90 39 = opPI 5 6 42 := rfl
theorem h90_42 : code_ 90 42 = opAld 0 43 := rfl
theorem h90_43 : code_ 90 43 = opGI 5 6 46 := rfl
theorem h90_46 : code_ 90 46 = opC (vI 1) 47 := rfl
theorem h90_47 : code_ 90 47 = opB (fun x y => x - y) 48 := rfl
theorem h90_48 : code_ 90 48 = opIret := rfl
theorem h91_0 : code_ 91 0 = opIld 1 1 := rfl
theorem h91_1 : code_ 91 1 = opIfLt 21 4 := rfl
theorem h91_4 : code_ 91 4 = opIld 1 5 := rfl
theorem h91_5 : code_ 91 5 = opC (vI 300) 8 := rfl
theorem h91_8 : code_ 91 8 = opCpGe 21 11 := rfl
theorem h91_11 : code_ 91 11 = opAld 0 12 := rfl
theorem h91_12 : code_ 91 12 = opGR 5 8 7 100300 15 := rfl
theorem h91_15 : code_ 91 15 = opIld 1 16 := rfl
theorem h91_16 : code_ 91 16 = opAld 0 17 := rfl
theorem h91_17 : code_ 91 17 = opGI 5 6 20 := rfl
theorem h91_20 : code_ 91 20 = opIas 21 := rfl
theorem h91_21 : code_ 91 21 = opMask [0, 1] (opRet) := rfl
theorem h92_0 : code_ 92 0 = opC (vI 0) 1 := rfl
theorem h92_1 : code_ 92 1 = opC (vI 12) 3 := rfl
theorem h92_3 : code_ 92 3 = opAld 0 4 := rfl
theorem h92_4 : code_ 92 4 = opC (vI 1) 5 := rfl
theorem h92_5 : code_ 92 5 = opAld 1 6 := rfl
theorem h92_6 : code_ 92 6 = opC (vI 0) 7 := rfl
theorem h92_7 : code_ 92 7 = opC (vI 0) 8 := rfl
theorem h92_8 : code_ 92 8 = opK kI 93 5 5 11 := rfl
theorem h92_11 : code_ 92 11 = opM minI 14 := rfl
theorem h92_14 : code_ 92 14 = opM maxI 17 := rfl
theorem h92_17 : code_ 92 17 = opIret := rfl
theorem h93_0 : code_ 93 0 = opAld 0 1 := rfl
theorem h93_1 : code_ 93 1 = opIld 1 2 := rfl
theorem h93_2 : code_ 93 2 = opK kI 85 2 5 5 := rfl
theorem h93_5 : code_ 93 5 = opIfNe 19 8 := rfl
theorem h93_8 : code_ 93 8 = opIld 1 9 := rfl
theorem h93_9 : code_ 93 9 = opC (vI 1) 10 := rfl
theorem h93_10 : code_ 93 10 = opCpNe 17 13 := rfl
theorem h93_13 : code_ 93 13 = opC (vI 3) 14 := rfl
theorem h93_14 : code_ 93 14 = opGoto 18 := rfl
theorem h93_17 : code_ 93 17 = opC (vI 1) 18 := rfl
theorem h93_18 : code_ 93 18 = opMask [0, 1, 2, 3, 4, 5, 6, 7, 8, 9] (opIret) := rfl
theorem h93_19 : code_ 93 19 = opAld 0 20 := rfl
theorem h93_20 : code_ 93 20 = opGR 5 9 8 100006 23 := rfl
theorem h93_23 : code_ 93 23 = opC (vI 0) 24 := rfl
theorem h93_24 : code_ 93 24 = opAld 2 25 := rfl
theorem h93_25 : code_ 93 25 = opGI 1 0 28 := rfl
theorem h93_28 : code_ 93 28 = opIas 29 := rfl
theorem h93_29 : code_ 93 29 = opAld 0 30 := rfl
theorem h93_30 : code_ 93 30 = opGR 5 9 8 100006 33 := rfl
theorem h93_33 : code_ 93 33 = opC (vI 1) 34 := rfl
theorem h93_34 : code_ 93 34 = opAld 2 35 := rfl
theorem h93_35 : code_ 93 35 = opK kI 17 1 1 38 := rfl
theorem h93_38 : code_ 93 38 = opK kI 318 1 99 41 := rfl
theorem h93_41 : code_ 93 41 = opIas 42 := rfl
theorem h93_42 : code_ 93 42 = opAld 0 43 := rfl
theorem h93_43 : code_ 93 43 = opGR 5 9 8 100006 46 := rfl
theorem h93_46 : code_ 93 46 = opC (vI 2) 47 := rfl
theorem h93_47 : code_ 93 47 = opAld 2 48 := rfl
theorem h93_48 : code_ 93 48 = opK kI 16 1 1 51 := rfl
theorem h93_51 : code_ 93 51 = opK kI 318 1 99 54 := rfl
theorem h93_54 : code_ 93 54 = opIas 55 := rfl
theorem h93_55 : code_ 93 55 = opAld 0 56 := rfl
theorem h93_56 : code_ 93 56 = opGR 5 9 8 100006 59 := rfl
theorem h93_59 : code_ 93 59 = opC (vI 3) 60 := rfl
theorem h93_60 : code_ 93 60 = opIld 3 61 := rfl
theorem h93_61 : code_ 93 61 = opIas 62 := rfl
theorem h93_62 : code_ 93 62 = opAld 0 63 := rfl
theorem h93_63 : code_ 93 63 = opGR 5 9 8 100006 66 := rfl
theorem h93_66 : code_ 93 66 = opC (vI 4) 67 := rfl
theorem h93_67 : code_ 93 67 = opIld 4 69 := rfl
theorem h93_69 : code_ 93 69 = opIas 70 := rfl
theorem h93_70 : code_ 93 70 = opAld 0 71 := rfl
theorem h93_71 : code_ 93 71 = opGR 5 9 8 100006 74 := rfl
theorem h93_74 : code_ 93 74 = opC (vI 5) 75 := rfl
theorem h93_75 : code_ 93 75 = opIld 1 76 := rfl
theorem h93_76 : code_ 93 76 = opC (vI 1) 77 := rfl
theorem h93_77 : code_ 93 77 = opCpNe 90 80 := rfl
theorem h93_80 : code_ 93 80 = opAld 2 81 := rfl
theorem h93_81 : code_ 93 81 = opK kI 19 1 1 84 := rfl
theorem h93_84 : code_ 93 84 = opK kI 318 1 99 87 := rfl
theorem h93_87 : code_ 93 87 = opGoto 91 := rfl
theorem h93_90 : code_ 93 90 = opC (vI 0) 91 := rfl
theorem h93_91 : code_ 93 91 = opMask [3, 4, 5, 6, 7, 8, 9] (opIas 92) := rfl
theorem h93_92 : code_ 93 92 = opC (vI 0) 93 := rfl
theorem h93_93 : code_ 93 93 = opIst 5 95 := rfl
theorem h93_95 : code_ 93 95 = opAld 0 96 := rfl
theorem h93_96 : code_ 93 96 = opGR 5 4 4 100002 99 := rfl
theorem h93_99 : code_ 93 99 = opIld 1 100 := rfl
theorem h93_100 : code_ 93 100 = opIal 101 := rfl
theorem h93_101 : code_ 93 101 = opIst 6 103 := rfl
theorem h93_103 : code_ 93 103 = opC (vI 0) 104 := rfl
theorem h93_104 : code_ 93 104 = opIst 7 106 := rfl
theorem h93_106 : code_ 93 106 = opMask [3, 4, 8, 9] (opIld 7 108) := rfl
theorem h93_108 : code_ 93 108 = opC (vI 300) 111 := rfl
theorem h93_111 : code_ 93 111 = opCpGe 390 114 := rfl
theorem h93_114 : code_ 93 114 = opIld 6 116 := rfl
theorem h93_116 : code_ 93 116 = opIfLt 390 119 := rfl
theorem h93_119 : code_ 93 119 = opIld 6 121 := rfl
theorem h93_121 : code_ 93 121 = opAld 0 122 := rfl
theorem h93_122 : code_ 93 122 = opGR 5 5 5 100002 125 := rfl
theorem h93_125 : code_ 93 125 = opIld 1 126 := rfl
theorem h93_126 : code_ 93 126 = opIal 127 := rfl
theorem h93_127 : code_ 93 127 = opCpGe 390 130 := rfl
theorem h93_130 : code_ 93 130 = opIld 6 132 := rfl
theorem h93_132 : code_ 93 132 = opC (vI 300) 135 := rfl
theorem h93_135 : code_ 93 135 = opCpGe 390 138 := rfl
theorem h93_138 : code_ 93 138 = opAld 0 139 := rfl
theorem h93_139 : code_ 93 139 = opGR 5 7 6 100300 142 := rfl
theorem h93_142 : code_ 93 142 = opIld 6 144 := rfl
theorem h93_144 : code_ 93 144 = opIal 145 := rfl
theorem h93_145 : code_ 93 145 = opIst 8 147 := rfl
theorem h93_147 : code_ 93 147 = opAld 0 148 := rfl
theorem h93_148 : code_ 93 148 = opGR 5 8 7 100300 151 := rfl
theorem h93_151 : code_ 93 151 = opIld 6 153 := rfl
theorem h93_153 : code_ 93 153 = opIal 154 := rfl
theorem h93_154 : code_ 93 154 = opIst 9 156 := rfl
theorem h93_156 : code_ 93 156 = opInc 6 1 159 := rfl
theorem h93_159 : code_ 93 159 = opIld 8 161 := rfl
theorem h93_161 : code_ 93 161 = opSw 292 [(10, 259), (11, 259), (18, 259), (41, 259), (42, 220), (43, 227)] := rfl
theorem h93_220 : code_ 93 220 = opIld 9 222 := rfl
theorem h93_222 : code_ 93 222 = opIst 6 224 := rfl
theorem h93_224 : code_ 93 224 = opGoto 384 := rfl
theorem h93_227 : code_ 93 227 = opC (vI 0) 228 := rfl
theorem h93_228 : code_ 93 228 = opIld 5 230 := rfl
theorem h93_230 : code_ 93 230 = opC (vI 1) 231 := rfl
theorem h93_231 : code_ 93 231 = opB (fun x y => x - y) 232 := rfl
theorem h93_232 : code_ 93 232 = opM maxI 235 := rfl
theorem h93_235 : code_ 93 235 = opIst 5 237 := rfl
theorem h93_237 : code_ 93 237 = opAld 0 238 := rfl
theorem h93_238 : code_ 93 238 = opGR 5 10 9 100064 241 := rfl
theorem h93_241 : code_ 93 241 = opIld 5 243 := rfl
theorem h93_243 : code_ 93 243 = opIal 244 := rfl
theorem h93_244 : code_ 93 244 = opIfNe 252 247 := rfl
theorem h93_247 : code_ 93 247 = opIld 9 249 := rfl
theorem h93_249 : code_ 93 249 = opGoto 254 := rfl
theorem h93_252 : code_ 93 252 = opIld 6 254 := rfl
theorem h93_254 : code_ 93 254 = opMask [3, 4, 6, 8, 9] (opIst 6 256) := rfl
theorem h93_256 : code_ 93 256 = opGoto 384 := rfl
theorem h93_259 : code_ 93 259 = opIld 5 261 := rfl
theorem h93_261 : code_ 93 261 = opC (vI 1) 262 := rfl
theorem h93_262 : code_ 93 262 = opCpLt 384 265 := rfl
theorem h93_265 : code_ 93 265 = opAld 0 266 := rfl
theorem h93_266 : code_ 93 266 = opGR 5 10 9 100064 269 := rfl
theorem h93_269 : code_ 93 269 = opIld 5 271 := rfl
theorem h93_271 : code_ 93 271 = opC (vI 1) 272 := rfl
theorem h93_272 : code_ 93 272 = opB (fun x y => x - y) 273 := rfl
theorem h93_273 : code_ 93 273 = opIld 8 275 := rfl
theorem h93_275 : code_ 93 275 = opAld 0 276 := rfl
theorem h93_276 : code_ 93 276 = opGR 5 10 9 100064 279 := rfl
theorem h93_279 : code_ 93 279 = opIld 5 281 := rfl
theorem h93_281 : code_ 93 281 = opC (vI 1) 282 := rfl
theorem h93_282 : code_ 93 282 = opB (fun x y => x - y) 283 := rfl
theorem h93_283 : code_ 93 283 = opIal 284 := rfl
theorem h93_284 : code_ 93 284 = opAld 2 285 := rfl
theorem h93_285 : code_ 93 285 = opK kI 95 3 99 288 := rfl
theorem h93_288 : code_ 93 288 = opIas 289 := rfl
theorem h93_289 : code_ 93 289 = opGoto 384 := rfl
theorem h93_292 : code_ 93 292 = opIld 8 294 := rfl
theorem h93_294 : code_ 93 294 = opK kI 94 1 99 297 := rfl
theorem h93_297 : code_ 93 297 = opIfEq 342 300 := rfl
theorem h93_300 : code_ 93 300 = opIld 5 302 := rfl
theorem h93_302 : code_ 93 302 = opC (vI 64) 304 := rfl
theorem h93_304 : code_ 93 304 = opCpGe 342 307 := rfl
theorem h93_307 : code_ 93 307 = opAld 0 308 := rfl
theorem h93_308 : code_ 93 308 = opGR 5 10 9 100064 311 := rfl
theorem h93_311 : code_ 93 311 = opIld 5 313 := rfl
theorem h93_313 : code_ 93 313 = opIld 8 315 := rfl
theorem h93_315 : code_ 93 315 = opC (vI 38) 317 := rfl
theorem h93_317 : code_ 93 317 = opCpNe 325 320 := rfl
theorem h93_320 : code_ 93 320 = opIld 9 322 := rfl
theorem h93_322 : code_ 93 322 = opGoto 335 := rfl
theorem h93_325 : code_ 93 325 = opAld 0 326 := rfl
theorem h93_326 : code_ 93 326 = opGR 5 9 8 100006 329 := rfl
theorem h93_329 : code_ 93 329 = opIld 8 331 := rfl
theorem h93_331 : code_ 93 331 = opC (vI 19) 333 := rfl
theorem h93_333 : code_ 93 333 = opB (fun x y => x - y) 334 := rfl
theorem h93_334 : code_ 93 334 = opIal 335 := rfl
theorem h93_335 : code_ 93 335 = opMask [3, 4, 8, 9] (opIas 336) := rfl
theorem h93_336 : code_ 93 336 = opInc 5 1 339 := rfl
theorem h93_339 : code_ 93 339 = opGoto 384 := rfl
theorem h93_342 : code_ 93 342 = opMask [3, 4, 9] (opIld 5 344) := rfl
theorem h93_344 : code_ 93 344 = opC (vI 2) 345 := rfl
theorem h93_345 : code_ 93 345 = opCpLt 384 348 := rfl
theorem h93_348 : code_ 93 348 = opInc 5 (-1) 351 := rfl
theorem h93_351 : code_ 93 351 = opAld 0 352 := rfl
theorem h93_352 : code_ 93 352 = opGR 5 10 9 100064 355 := rfl
theorem h93_355 : code_ 93 355 = opIld 5 357 := rfl
theorem h93_357 : code_ 93 357 = opC (vI 1) 358 := rfl
theorem h93_358 : code_ 93 358 = opB (fun x y => x - y) 359 := rfl
theorem h93_359 : code_ 93 359 = opIld 8 361 := rfl
theorem h93_361 : code_ 93 361 = opAld 0 362 := rfl
theorem h93_362 : code_ 93 362 = opGR 5 10 9 100064 365 := rfl
theorem h93_365 : code_ 93 365 = opIld 5 367 := rfl
theorem h93_367 : code_ 93 367 = opC (vI 1) 368 := rfl
theorem h93_368 : code_ 93 368 = opB (fun x y => x - y) 369 := rfl
theorem h93_369 : code_ 93 369 = opIal 370 := rfl
theorem h93_370 : code_ 93 370 = opAld 0 371 := rfl
theorem h93_371 : code_ 93 371 = opGR 5 10 9 100064 374 := rfl
theorem h93_374 : code_ 93 374 = opIld 5 376 := rfl
theorem h93_376 : code_ 93 376 = opIal 377 := rfl
theorem h93_377 : code_ 93 377 = opK kL 96 3 99 380 := rfl
theorem h93_380 : code_ 93 380 = opK kI 97 1 99 383 := rfl
theorem h93_383 : code_ 93 383 = opIas 384 := rfl
theorem h93_384 : code_ 93 384 = opMask [3, 4, 8, 9] (opInc 7 1 387) := rfl
theorem h93_387 : code_ 93 387 = opGoto 106 := rfl
theorem h93_390 : code_ 93 390 = opMask [1, 2, 3, 4, 5, 6, 7, 8, 9] (opAld 0 391) := rfl
theorem h93_391 : code_ 93 391 = opGR 5 10 9 100064 394 := rfl
theorem h93_394 : code_ 93 394 = opC (vI 0) 395 := rfl
theorem h93_395 : code_ 93 395 = opIal 396 := rfl
theorem h93_396 : code_ 93 396 = opIret := rfl
theorem h94_0 : code_ 94 0 = opIld 0 1 := rfl
theorem h94_1 : code_ 94 1 = opC (vI 38) 3 := rfl
theorem h94_3 : code_ 94 3 = opCpEq 18 6 := rfl
theorem h94_6 : code_ 94 6 = opIld 0 7 := rfl
theorem h94_7 : code_ 94 7 = opC (vI 19) 9 := rfl
theorem h94_9 : code_ 94 9 = opCpLt 22 12 := rfl
theorem h94_12 : code_ 94 12 = opIld 0 13 := rfl
theorem h94_13 : code_ 94 13 = opC (vI 24) 15 := rfl
theorem h94_15 : code_ 94 15 = opCpGt 22 18 := rfl
theorem h94_18 : code_ 94 18 = opMask [0] (opC (vI 1) 19) := rfl
theorem h94_19 : code_ 94 19 = opGoto 23 := rfl
theorem h94_22 : code_ 94 22 = opMask [0] (opC (vI 0) 23) := rfl
theorem h94_23 : code_ 94 23 = opMask [0] (opZret) := rfl
theorem h95_0 : code_ 95 0 = opIld 1 1 := rfl
theorem h95_1 : code_ 95 1 = opIfLt 14 4 := rfl
theorem h95_4 : code_ 95 4 = opIld 1 5 := rfl
theorem h95_5 : code_ 95 5 = opC (vI 12) 7 := rfl
theorem h95_7 : code_ 95 7 = opCpGe 14 10 := rfl
theorem h95_10 : code_ 95 10 = opC (vI 1) 11 := rfl
theorem h95_11 : code_ 95 11 = opGoto 15 := rfl
theorem h95_14 : code_ 95 14 = opMask [3] (opC (vI 0) 15) := rfl
theorem h95_15 : code_ 95 15 = opMask [3] (opIst 3 16) := rfl
theorem h95_16 : code_ 95 16 = opIld 0 17 := rfl
theorem h95_17 : code_ 95 17 = opSw 108 [(10, 73), (11, 91), (18, 60), (41, 70)] := rfl
theorem h95_60 : code_ 95 60 = opIld 1 61 := rfl
theorem h95_61 : code_ 95 61 = opIfNe 68 64 := rfl
theorem h95_64 : code_ 95 64 = opC (vI 1) 65 := rfl
theorem h95_65 : code_ 95 65 = opGoto 69 := rfl
theorem h95_68 : code_ 95 68 = opC (vI 0) 69 := rfl
theorem h95_69 : code_ 95 69 = opMask [0, 1, 2, 3] (opIret) := rfl
theorem h95_70 : code_ 95 70 = opIld 1 71 := rfl
theorem h95_71 : code_ 95 71 = opU (fun x => -x) 72 := rfl
theorem h95_72 : code_ 95 72 = opIret := rfl
theorem h95_73 : code_ 95 73 = opIld 3 74 := rfl
theorem h95_74 : code_ 95 74 = opIfEq 89 77 := rfl
theorem h95_77 : code_ 95 77 = opAld 2 78 := rfl
theorem h95_78 : code_ 95 78 = opGR 1 8 2 100012 81 := rfl
theorem h95_81 : code_ 95 81 = opIld 1 82 := rfl
theorem h95_82 : code_ 95 82 = opIal 83 := rfl
theorem h95_83 : code_ 95 83 = opK kI 318 1 99 86 := rfl
theorem h95_86 : code_ 95 86 = opGoto 90 := rfl
theorem h95_89 : code_ 95 89 = opC (vI 0) 90 := rfl
theorem h95_90 : code_ 95 90 = opMask [0, 1, 2, 3] (opIret) := rfl
theorem h95_91 : code_ 95 91 = opIld 3 92 := rfl
theorem h95_92 : code_ 95 92 = opIfEq 106 95 := rfl
theorem h95_95 : code_ 95 95 = opAld 2 96 := rfl
theorem h95_96 : code_ 95 96 = opGR 1 7 1 100012 99 := rfl
theorem h95_99 : code_ 95 99 = opIld 1 100 := rfl
theorem h95_100 : code_ 95 100 = opIal 101 := rfl
theorem h95_101 : code_ 95 101 = opC (vI 1) 102 := rfl
theorem h95_102 : code_ 95 102 = opB (fun x y => x + y) 103 := rfl
theorem h95_103 : code_ 95 103 = opGoto 107 := rfl
theorem h95_106 : code_ 95 106 = opC (vI 0) 107 := rfl
theorem h95_107 : code_ 95 107 = opMask [0, 1, 2, 3] (opIret) := rfl
theorem h95_108 : code_ 95 108 = opIld 1 109 := rfl
theorem h95_109 : code_ 95 109 = opIret := rfl
theorem h96_0 : code_ 96 0 = opIld 0 1 := rfl
theorem h96_1 : code_ 96 1 = opSw 199 [(16, 123), (17, 128), (25, 133), (26, 144), (27, 155), (28, 166), (29, 177), (30, 188), (31, 92), (32, 98), (33, 104), (34, 110)] := rfl
theorem h96_92 : code_ 96 92 = opIld 1 93 := rfl
theorem h96_93 : code_ 96 93 = opI2L 94 := rfl
theorem h96_94 : code_ 96 94 = opIld 2 95 := rfl
theorem h96_95 : code_ 96 95 = opI2L 96 := rfl
theorem h96_96 : code_ 96 96 = opLB (fun x y => x + y) 97 := rfl
theorem h96_97 : code_ 96 97 = opLret := rfl
theorem h96_98 : code_ 96 98 = opIld 1 99 := rfl
theorem h96_99 : code_ 96 99 = opI2L 100 := rfl
theorem h96_100 : code_ 96 100 = opIld 2 101 := rfl
theorem h96_101 : code_ 96 101 = opI2L 102 := rfl
theorem h96_102 : code_ 96 102 = opLB (fun x y => x - y) 103 := rfl
theorem h96_103 : code_ 96 103 = opLret := rfl
theorem h96_104 : code_ 96 104 = opIld 1 105 := rfl
theorem h96_105 : code_ 96 105 = opI2L 106 := rfl
theorem h96_106 : code_ 96 106 = opIld 2 107 := rfl
theorem h96_107 : code_ 96 107 = opI2L 108 := rfl
theorem h96_108 : code_ 96 108 = opLB (fun x y => x * y) 109 := rfl
theorem h96_109 : code_ 96 109 = opLret := rfl
theorem h96_110 : code_ 96 110 = opIld 2 111 := rfl
theorem h96_111 : code_ 96 111 = opIfNe 118 114 := rfl
theorem h96_114 : code_ 96 114 = opC (vL 0) 115 := rfl
theorem h96_115 : code_ 96 115 = opGoto 122 := rfl
theorem h96_118 : code_ 96 118 = opIld 1 119 := rfl
theorem h96_119 : code_ 96 119 = opIld 2 120 := rfl
theorem h96_120 : code_ 96 120 = opBz (fun x y => x / y) 121 := rfl
theorem h96_121 : code_ 96 121 = opI2L 122 := rfl
theorem h96_122 : code_ 96 122 = opMask [0, 1, 2] (opLret) := rfl
theorem h96_123 : code_ 96 123 = opIld 1 124 := rfl
theorem h96_124 : code_ 96 124 = opIld 2 125 := rfl
theorem h96_125 : code_ 96 125 = opB (fun x y => x ||| y) 126 := rfl
theorem h96_126 : code_ 96 126 = opI2L 127 := rfl
theorem h96_127 : code_ 96 127 = opLret := rfl
theorem h96_128 : code_ 96 128 = opIld 1 129 := rfl
theorem h96_129 : code_ 96 129 = opIld 2 130 := rfl
theorem h96_130 : code_ 96 130 = opB (fun x y => x &&& y) 131 := rfl
theorem h96_131 : code_ 96 131 = opI2L 132 := rfl
theorem h96_132 : code_ 96 132 = opLret := rfl
theorem h96_133 : code_ 96 133 = opIld 1 134 := rfl
theorem h96_134 : code_ 96 134 = opIld 2 135 := rfl
theorem h96_135 : code_ 96 135 = opCpGe 142 138 := rfl
theorem h96_138 : code_ 96 138 = opC (vL 1) 139 := rfl
theorem h96_139 : code_ 96 139 = opGoto 143 := rfl
theorem h96_142 : code_ 96 142 = opC (vL 0) 143 := rfl
theorem h96_143 : code_ 96 143 = opMask [0, 1, 2] (opLret) := rfl
theorem h96_144 : code_ 96 144 = opIld 1 145 := rfl
theorem h96_145 : code_ 96 145 = opIld 2 146 := rfl
theorem h96_146 : code_ 96 146 = opCpGt 153 149 := rfl
theorem h96_149 : code_ 96 149 = opC (vL 1) 150 := rfl
theorem h96_150 : code_ 96 150 = opGoto 154 := rfl
theorem h96_153 : code_ 96 153 = opC (vL 0) 154 := rfl
theorem h96_154 : code_ 96 154 = opMask [0, 1, 2] (opLret) := rfl
theorem h96_155 : code_ 96 155 = opIld 1 156 := rfl
theorem h96_156 : code_ 96 156 = opIld 2 157 := rfl
theorem h96_157 : code_ 96 157 = opCpLe 164 160 := rfl
theorem h96_160 : code_ 96 160 = opC (vL 1) 161 := rfl
theorem h96_161 : code_ 96 161 = opGoto 165 := rfl
theorem h96_164 : code_ 96 164 = opC (vL 0) 165 := rfl
theorem h96_165 : code_ 96 165 = opMask [0, 1, 2] (opLret) := rfl
theorem h96_166 : code_ 96 166 = opIld 1 167 := rfl
theorem h96_167 : code_ 96 167 = opIld 2 168 := rfl
theorem h96_168 : code_ 96 168 = opCpLt 175 171 := rfl
theorem h96_171 : code_ 96 171 = opC (vL 1) 172 := rfl
theorem h96_172 : code_ 96 172 = opGoto 176 := rfl
theorem h96_175 : code_ 96 175 = opC (vL 0) 176 := rfl
theorem h96_176 : code_ 96 176 = opMask [0, 1, 2] (opLret) := rfl
theorem h96_177 : code_ 96 177 = opIld 1 178 := rfl
theorem h96_178 : code_ 96 178 = opIld 2 179 := rfl
theorem h96_179 : code_ 96 179 = opCpNe 186 182 := rfl
theorem h96_182 : code_ 96 182 = opC (vL 1) 183 := rfl
theorem h96_183 : code_ 96 183 = opGoto 187 := rfl
theorem h96_186 : code_ 96 186 = opC (vL 0) 187 := rfl
theorem h96_187 : code_ 96 187 = opMask [0, 1, 2] (opLret) := rfl
theorem h96_188 : code_ 96 188 = opIld 1 189 := rfl
theorem h96_189 : code_ 96 189 = opIld 2 190 := rfl
theorem h96_190 : code_ 96 190 = opCpEq 197 193 := rfl
theorem h96_193 : code_ 96 193 = opC (vL 1) 194 := rfl
theorem h96_194 : code_ 96 194 = opGoto 198 := rfl
theorem h96_197 : code_ 96 197 = opC (vL 0) 198 := rfl
theorem h96_198 : code_ 96 198 = opMask [0, 1, 2] (opLret) := rfl
theorem h96_199 : code_ 96 199 = opC (vL 0) 200 := rfl
theorem h96_200 : code_ 96 200 = opLret := rfl
theorem h97_0 : code_ 97 0 = opC (vL (-1000000)) 3 := rfl
theorem h97_3 : code_ 97 3 = opC (vL 1000000) 6 := rfl
theorem h97_6 : code_ 97 6 = opLld 0 7 := rfl
theorem h97_7 : code_ 97 7 = opML minLo 10 := rfl
theorem h97_10 : code_ 97 10 = opML maxLo 13 := rfl
theorem h97_13 : code_ 97 13 = opL2I 14 := rfl
theorem h97_14 : code_ 97 14 = opIret := rfl
theorem h98_0 : code_ 98 0 = opAld 0 1 := rfl
theorem h98_1 : code_ 98 1 = opGR 6 0 1 1 4 := rfl
theorem h98_4 : code_ 98 4 = opAld 1 5 := rfl
theorem h98_5 : code_ 98 5 = opGR 6 0 1 1 8 := rfl
theorem h98_8 : code_ 98 8 = opK kV 5 2 1 11 := rfl
theorem h98_11 : code_ 98 11 = opAld 0 12 := rfl
theorem h98_12 : code_ 98 12 = opGR 6 1 8 4 15 := rfl
theorem h98_15 : code_ 98 15 = opAld 1 16 := rfl
theorem h98_16 : code_ 98 16 = opGR 6 1 8 4 19 := rfl
theorem h98_19 : code_ 98 19 = opK kV 83 2 4 22 := rfl
theorem h98_22 : code_ 98 22 = opAld 1 23 := rfl
theorem h98_23 : code_ 98 23 = opGR 6 2 220 100008 26 := rfl
theorem h98_26 : code_ 98 26 = opC (vI 0) 27 := rfl
theorem h98_27 : code_ 98 27 = opAld 0 28 := rfl
theorem h98_28 : code_ 98 28 = opGR 6 2 220 100008 31 := rfl
theorem h98_31 : code_ 98 31 = opC (vI 0) 32 := rfl
theorem h98_32 : code_ 98 32 = opC (vI 8) 34 := rfl
theorem h98_34 : code_ 98 34 = opAcp 37 := rfl
theorem h98_37 : code_ 98 37 = opAld 0 38 := rfl
theorem h98_38 : code_ 98 38 = opAld 1 39 := rfl
theorem h98_39 : code_ 98 39 = opGI 6 3 42 := rfl
theorem h98_42 : code_ 98 42 = opPI 6 3 45 := rfl
theorem h98_45 : code_ 98 45 = opAld 0 46 := rfl
theorem h98_46 : code_ 98 46 = opAld 1 47 := rfl
theorem h98_47 : code_ 98 47 = opGI 6 4 50 := rfl
theorem h98_50 : code_ 98 50 = opPI 6 4 53 := rfl
theorem h98_53 : code_ 98 53 = opAld 0 54 := rfl
theorem h98_54 : code_ 98 54 = opAld 1 55 := rfl
theorem h98_55 : code_ 98 55 = opGI 6 5 58 := rfl
theorem h98_58 : code_ 98 58 = opPI 6 5 61 := rfl
theorem h98_61 : code_ 98 61 = opRet := rfl
theorem h99_0 : code_ 99 0 = opAld 0 1 := rfl
theorem h99_1 : code_ 99 1 = opGR 7 0 1 3 4 := rfl
theorem h99_4 : code_ 99 4 = opGI 3 1 7 := rfl
theorem h99_7 : code_ 99 7 = opC (vI 20) 9 := rfl
theorem h99_9 : code_ 99 9 = opB (fun x y => x + y) 10 := rfl
theorem h99_10 : code_ 99 10 = opC (vI 300) 13 := rfl
theorem h99_13 : code_ 99 13 = opCpLe 18 16 := rfl
theorem h99_16 : code_ 99 16 = opC (vI (-1)) 17 := rfl
theorem h99_17 : code_ 99 17 = opIret := rfl
theorem h99_18 : code_ 99 18 = opAld 0 19 := rfl
theorem h99_19 : code_ 99 19 = opGR 7 0 1 3 22 := rfl
theorem h99_22 : code_ 99 22 = opIld 1 23 := rfl
theorem h99_23 : code_ 99 23 = opK kV 53 2 3 26 := rfl
theorem h99_26 : code_ 99 26 = opAld 0 27 := rfl
theorem h99_27 : code_ 99 27 = opGR 7 0 1 3 30 := rfl
theorem h99_30 : code_ 99 30 = opIld 2 31 := rfl
theorem h99_31 : code_ 99 31 = opK kV 53 2 3 34 := rfl
theorem h99_34 : code_ 99 34 = opAld 0 35 := rfl
theorem h99_35 : code_ 99 35 = opGR 7 0 1 3 38 := rfl
theorem h99_38 : code_ 99 38 = opIld 3 39 := rfl
theorem h99_39 : code_ 99 39 = opK kV 53 2 3 42 := rfl
theorem h99_42 : code_ 99 42 = opAld 0 43 := rfl
theorem h99_43 : code_ 99 43 = opGR 7 0 1 3 46 := rfl
theorem h99_46 : code_ 99 46 = opIld 4 48 := rfl
theorem h99_48 : code_ 99 48 = opK kV 53 2 3 51 := rfl
theorem h99_51 : code_ 99 51 = opAld 0 52 := rfl
theorem h99_52 : code_ 99 52 = opGR 7 0 1 3 55 := rfl
theorem h99_55 : code_ 99 55 = opIld 5 57 := rfl
theorem h99_57 : code_ 99 57 = opK kV 53 2 3 60 := rfl
theorem h99_60 : code_ 99 60 = opAld 0 61 := rfl
theorem h99_61 : code_ 99 61 = opGR 7 0 1 3 64 := rfl
theorem h99_64 : code_ 99 64 = opGI 3 1 67 := rfl
theorem h99_67 : code_ 99 67 = opIret := rfl
theorem h100_0 : code_ 100 0 = opIld 1 1 := rfl
theorem h100_1 : code_ 100 1 = opIfLt 15 4 := rfl
theorem h100_4 : code_ 100 4 = opIld 1 5 := rfl
theorem h100_5 : code_ 100 5 = opAld 0 6 := rfl
theorem h100_6 : code_ 100 6 = opGR 7 0 1 3 9 := rfl
theorem h100_9 : code_ 100 9 = opGI 3 1 12 := rfl
theorem h100_12 : code_ 100 12 = opCpLe 17 15 := rfl
theorem h100_15 : code_ 100 15 = opMask [0, 1] (opC (vI (-1)) 16) := rfl
theorem h100_16 : code_ 100 16 = opIret := rfl
theorem h100_17 : code_ 100 17 = opAld 0 18 := rfl
theorem h100_18 : code_ 100 18 = opGR 7 0 1 3 21 := rfl
theorem h100_21 : code_ 100 21 = opIld 1 22 := rfl
theorem h100_22 : code_ 100 22 = opPI 3 1 25 := rfl
theorem h100_25 : code_ 100 25 = opIld 1 26 := rfl
theorem h100_26 : code_ 100 26 = opIret := rfl
theorem h101_0 : code_ 101 0 = opAld 0 1 := rfl
theorem h101_1 : code_ 101 1 = opGR 7 3 27 6 4 := rfl
theorem h101_4 : code_ 101 4 = opGI 6 4 7 := rfl
theorem h101_7 : code_ 101 7 = opIst 1 8 := rfl
theorem h101_8 : code_ 101 8 = opIld 1 9 := rfl
theorem h101_9 : code_ 101 9 = opIfLt 17 12 := rfl
theorem h101_12 : code_ 101 12 = opIld 1 13 := rfl
theorem h101_13 : code_ 101 13 = opC (vI 4) 14 := rfl
theorem h101_14 : code_ 101 14 = opCpLt 19 17 := rfl
theorem h101_17 : code_ 101 17 = opMask [0, 1] (opC (vI (-1)) 18) := rfl
theorem h101_18 : code_ 101 18 = opIret := rfl
theorem h101_19 : code_ 101 19 = opAld 0 20 := rfl
theorem h101_20 : code_ 101 20 = opGR 7 0 1 3 23 := rfl
theorem h101_23 : code_ 101 23 = opAld 0 24 := rfl
theorem h101_24 : code_ 101 24 = opGR 7 1 16 20 27 := rfl
theorem h101_27 : code_ 101 27 = opIld 1 28 := rfl
theorem h101_28 : code_ 101 28 = opAal 20 5 4 468 10 29 := rfl
theorem h101_29 : code_ 101 29 = opK kV 54 2 3 32 := rfl
theorem h101_32 : code_ 101 32 = opAld 0 33 := rfl
theorem h101_33 : code_ 101 33 = opGR 7 0 1 3 36 := rfl
theorem h101_36 : code_ 101 36 = opC (vI 0) 37 := rfl
theorem h101_37 : code_ 101 37 = opPI 3 1 40 := rfl
theorem h101_40 : code_ 101 40 = opAld 0 41 := rfl
theorem h101_41 : code_ 101 41 = opGR 7 0 1 3 44 := rfl
theorem h101_44 : code_ 101 44 = opGI 3 2 47 := rfl
theorem h101_47 : code_ 101 47 = opIfEq 52 50 := rfl
theorem h101_50 : code_ 101 50 = opC (vI (-1)) 51 := rfl
theorem h101_51 : code_ 101 51 = opIret := rfl
theorem h101_52 : code_ 101 52 = opAld 0 53 := rfl
theorem h101_53 : code_ 101 53 = opGR 7 3 27 6 56 := rfl
theorem h101_56 : code_ 101 56 = opIld 1 57 := rfl
theorem h101_57 : code_ 101 57 = opC (vI 1) 58 := rfl
theorem h101_58 : code_ 101 58 = opB (fun x y => x + y) 59 := rfl
theorem h101_59 : code_ 101 59 = opPI 6 4 62 := rfl
theorem h101_62 : code_ 101 62 = opIld 1 63 := rfl
theorem h101_63 : code_ 101 63 = opIret := rfl
theorem h102_0 : code_ 102 0 = opIld 1 1 := rfl
theorem h102_1 : code_ 102 1 = opSw 44 [(0, 28), (1, 36)] := rfl
theorem h102_28 : code_ 102 28 = opAld 0 29 := rfl
theorem h102_29 : code_ 102 29 = opGR 7 0 1 3 32 := rfl
theorem h102_32 : code_ 102 32 = opGI 3 2 35 := rfl
theorem h102_35 : code_ 102 35 = opIret := rfl
theorem h102_36 : code_ 102 36 = opAld 0 37 := rfl
theorem h102_37 : code_ 102 37 = opGR 7 0 1 3 40 := rfl
theorem h102_40 : code_ 102 40 = opGI 3 3 43 := rfl
theorem h102_43 : code_ 102 43 = opIret := rfl
theorem h102_44 : code_ 102 44 = opC (vI (-1)) 45 := rfl
theorem h102_45 : code_ 102 45 = opIret := rfl
theorem h103_0 : code_ 103 0 = opIld 1 1 := rfl
theorem h103_1 : code_ 103 1 = opC (vI (-1)) 2 := rfl
theorem h103_2 : code_ 103 2 = opCpEq 15 5 := rfl
theorem h103_5 : code_ 103 5 = opAld 0 6 := rfl
theorem h103_6 : code_ 103 6 = opIld 1 7 := rfl
theorem h103_7 : code_ 103 7 = opK kI 148 2 7 10 := rfl
theorem h103_10 : code_ 103 10 = opIfNe 15 13 := rfl
theorem h103_13 : code_ 103 13 = opC (vI 0) 14 := rfl
theorem h103_14 : code_ 103 14 = opZret := rfl
theorem h103_15 : code_ 103 15 = opAld 0 16 := rfl
theorem h103_16 : code_ 103 16 = opGR 7 3 27 6 19 := rfl
theorem h103_19 : code_ 103 19 = opIld 1 20 := rfl
theorem h103_20 : code_ 103 20 = opPI 6 5 23 := rfl
theorem h103_23 : code_ 103 23 = opC (vI 1) 24 := rfl
theorem h103_24 : code_ 103 24 = opZret := rfl
theorem h104_0 : code_ 104 0 = opIld 1 1 := rfl
theorem h104_1 : code_ 104 1 = opK kI 153 1 99 4 := rfl
theorem h104_4 : code_ 104 4 = opIfEq 20 7 := rfl
theorem h104_7 : code_ 104 7 = opAld 0 8 := rfl
theorem h104_8 : code_ 104 8 = opGR 7 3 27 6 11 := rfl
theorem h104_11 : code_ 104 11 = opGR 6 0 1 1 14 := rfl
theorem h104_14 : code_ 104 14 = opK kI 25 1 1 17 := rfl
theorem h104_17 : code_ 104 17 = opIfNe 22 20 := rfl
theorem h104_20 : code_ 104 20 = opMask [0, 1] (opC (vI (-1)) 21) := rfl
theorem h104_21 : code_ 104 21 = opIret := rfl
theorem h104_22 : code_ 104 22 = opAld 0 23 := rfl
theorem h104_23 : code_ 104 23 = opGR 7 3 27 6 26 := rfl
theorem h104_26 : code_ 104 26 = opGR 6 1 8 4 29 := rfl
theorem h104_29 : code_ 104 29 = opAld 0 30 := rfl
theorem h104_30 : code_ 104 30 = opGR 7 3 27 6 33 := rfl
theorem h104_33 : code_ 104 33 = opGR 6 0 1 1 36 := rfl
theorem h104_36 : code_ 104 36 = opK kV 81 2 4 39 := rfl
theorem h104_39 : code_ 104 39 = opAld 0 40 := rfl
theorem h104_40 : code_ 104 40 = opGR 7 3 27 6 43 := rfl
theorem h104_43 : code_ 104 43 = opGR 6 0 1 1 46 := rfl
theorem h104_46 : code_ 104 46 = opIld 1 47 := rfl
theorem h104_47 : code_ 104 47 = opK kI 28 2 1 50 := rfl
theorem h104_50 : code_ 104 50 = opIret := rfl
theorem h105_0 : code_ 105 0 = opAld 0 1 := rfl
theorem h105_1 : code_ 105 1 = opGR 7 3 27 6 4 := rfl
theorem h105_4 : code_ 105 4 = opGR 6 0 1 1 7 := rfl
theorem h105_7 : code_ 105 7 = opIld 1 8 := rfl
theorem h105_8 : code_ 105 8 = opK kI 9 2 1 11 := rfl
theorem h105_11 : code_ 105 11 = opIfNe 16 14 := rfl
theorem h105_14 : code_ 105 14 = opC (vI (-1)) 15 := rfl
theorem h105_15 : code_ 105 15 = opIret := rfl
theorem h105_16 : code_ 105 16 = opAld 0 17 := rfl
theorem h105_17 : code_ 105 17 = opGR 7 3 27 6 20 := rfl
theorem h105_20 : code_ 105 20 = opGR 6 1 8 4 23 := rfl
theorem h105_23 : code_ 105 23 = opAld 0 24 := rfl
theorem h105_24 : code_ 105 24 = opGR 7 3 27 6 27 := rfl
theorem h105_27 : code_ 105 27 = opGR 6 0 1 1 30 := rfl
theorem h105_30 : code_ 105 30 = opK kV 81 2 4 33 := rfl
theorem h105_33 : code_ 105 33 = opAld 0 34 := rfl
theorem h105_34 : code_ 105 34 = opGR 7 3 27 6 37 := rfl
theorem h105_37 : code_ 105 37 = opGR 6 0 1 1 40 := rfl
theorem h105_40 : code_ 105 40 = opIld 1 41 := rfl
theorem h105_41 : code_ 105 41 = opK kI 29 2 1 44 := rfl
theorem h105_44 : code_ 105 44 = opIret := rfl
theorem h106_0 : code_ 106 0 = opIld 2 1 := rfl
theorem h106_1 : code_ 106 1 = opK kI 153 1 99 4 := rfl
theorem h106_4 : code_ 106 4 = opIfEq 21 7 := rfl
theorem h106_7 : code_ 106 7 = opAld 0 8 := rfl
theorem h106_8 : code_ 106 8 = opGR 7 3 27 6 11 := rfl
theorem h106_11 : code_ 106 11 = opGR 6 0 1 1 14 := rfl
theorem h106_14 : code_ 106 14 = opIld 1 15 := rfl
theorem h106_15 : code_ 106 15 = opK kI 9 2 1 18 := rfl
theorem h106_18 : code_ 106 18 = opIfNe 23 21 := rfl
theorem h106_21 : code_ 106 21 = opMask [0, 1, 2] (opC (vI 0) 22) := rfl
theorem h106_22 : code_ 106 22 = opZret := rfl
theorem h106_23 : code_ 106 23 = opAld 0 24 := rfl
theorem h106_24 : code_ 106 24 = opGR 7 3 27 6 27 := rfl
theorem h106_27 : code_ 106 27 = opGR 6 1 8 4 30 := rfl
theorem h106_30 : code_ 106 30 = opAld 0 31 := rfl
theorem h106_31 : code_ 106 31 = opGR 7 3 27 6 34 := rfl
theorem h106_34 : code_ 106 34 = opGR 6 0 1 1 37 := rfl
theorem h106_37 : code_ 106 37 = opK kV 81 2 4 40 := rfl
theorem h106_40 : code_ 106 40 = opAld 0 41 := rfl
theorem h106_41 : code_ 106 41 = opGR 7 3 27 6 44 := rfl
theorem h106_44 : code_ 106 44 = opGR 6 0 1 1 47 := rfl
theorem h106_47 : code_ 106 47 = opIld 1 48 := rfl
theorem h106_48 : code_ 106 48 = opIld 2 49 := rfl
theorem h106_49 : code_ 106 49 = opK kV 12 3 1 52 := rfl
theorem h106_52 : code_ 106 52 = opC (vI 1) 53 := rfl
theorem h106_53 : code_ 106 53 = opZret := rfl
theorem h107_0 : code_ 107 0 = opAld 0 1 := rfl
theorem h107_1 : code_ 107 1 = opGR 7 3 27 6 4 := rfl
theorem h107_4 : code_ 107 4 = opGR 6 0 1 1 7 := rfl
theorem h107_7 : code_ 107 7 = opIld 1 8 := rfl
theorem h107_8 : code_ 107 8 = opIld 2 9 := rfl
theorem h107_9 : code_ 107 9 = opAld 0 10 := rfl
theorem h107_10 : code_ 107 10 = opK (kR 5) 149 1 7 13 := rfl
theorem h107_13 : code_ 107 13 = opK kI 31 4 1 16 := rfl
theorem h107_16 : code_ 107 16 = opIfEq 21 19 := rfl
theorem h107_19 : code_ 107 19 = opC (vI (-1)) 20 := rfl
theorem h107_20 : code_ 107 20 = opIret := rfl
theorem h107_21 : code_ 107 21 = opAld 0 22 := rfl
theorem h107_22 : code_ 107 22 = opGR 7 3 27 6 25 := rfl
theorem h107_25 : code_ 107 25 = opGR 6 1 8 4 28 := rfl
theorem h107_28 : code_ 107 28 = opAld 0 29 := rfl
theorem h107_29 : code_ 107 29 = opGR 7 3 27 6 32 := rfl
theorem h107_32 : code_ 107 32 = opGR 6 0 1 1 35 := rfl
theorem h107_35 : code_ 107 35 = opK kV 81 2 4 38 := rfl
theorem h107_38 : code_ 107 38 = opAld 0 39 := rfl
theorem h107_39 : code_ 107 39 = opGR 7 3 27 6 42 := rfl
theorem h107_42 : code_ 107 42 = opGR 6 0 1 1 45 := rfl
theorem h107_45 : code_ 107 45 = opIld 1 46 := rfl
theorem h107_46 : code_ 107 46 = opIld 2 47 := rfl
theorem h107_47 : code_ 107 47 = opK kI 33 3 1 50 := rfl
theorem h107_50 : code_ 107 50 = opIret := rfl
theorem h108_0 : code_ 108 0 = opAld 0 1 := rfl
theorem h108_1 : code_ 108 1 = opGR 7 3 27 6 4 := rfl
theorem h108_4 : code_ 108 4 = opGR 6 0 1 1 7 := rfl
theorem h108_7 : code_ 108 7 = opGI 1 3 10 := rfl
theorem h108_10 : code_ 108 10 = opC (vI (-1)) 11 := rfl
theorem h108_11 : code_ 108 11 = opCpNe 33 14 := rfl
theorem h108_14 : code_ 108 14 = opAld 0 15 := rfl
theorem h108_15 : code_ 108 15 = opGR 7 3 27 6 18 := rfl
theorem h108_18 : code_ 108 18 = opGR 6 0 1 1 21 := rfl
theorem h108_21 : code_ 108 21 = opIld 1 22 := rfl
theorem h108_22 : code_ 108 22 = opIld 2 23 := rfl
theorem h108_23 : code_ 108 23 = opAld 0 24 := rfl
theorem h108_24 : code_ 108 24 = opK (kR 5) 149 1 7 27 := rfl
theorem h108_27 : code_ 108 27 = opK kI 31 4 1 30 := rfl
theorem h108_30 : code_ 108 30 = opIfEq 35 33 := rfl
theorem h108_33 : code_ 108 33 = opMask [0, 1, 2] (opC (vI (-1)) 34) := rfl
theorem h108_34 : code_ 108 34 = opIret := rfl
theorem h108_35 : code_ 108 35 = opAld 0 36 := rfl
theorem h108_36 : code_ 108 36 = opGR 7 3 27 6 39 := rfl
theorem h108_39 : code_ 108 39 = opGR 6 1 8 4 42 := rfl
theorem h108_42 : code_ 108 42 = opAld 0 43 := rfl
theorem h108_43 : code_ 108 43 = opGR 7 3 27 6 46 := rfl
theorem h108_46 : code_ 108 46 = opGR 6 0 1 1 49 := rfl
theorem h108_49 : code_ 108 49 = opK kV 81 2 4 52 := rfl
theorem h108_52 : code_ 108 52 = opAld 0 53 := rfl
theorem h108_53 : code_ 108 53 = opGR 7 3 27 6 56 := rfl
theorem h108_56 : code_ 108 56 = opGR 6 0 1 1 59 := rfl
theorem h108_59 : code_ 108 59 = opIld 1 60 := rfl
theorem h108_60 : code_ 108 60 = opIld 2 61 := rfl
theorem h108_61 : code_ 108 61 = opK kI 36 3 1 64 := rfl
theorem h108_64 : code_ 108 64 = opIret := rfl
theorem h109_0 : code_ 109 0 = opAld 0 1 := rfl
theorem h109_1 : code_ 109 1 = opGR 7 3 27 6 4 := rfl
theorem h109_4 : code_ 109 4 = opGR 6 0 1 1 7 := rfl
theorem h109_7 : code_ 109 7 = opGI 1 3 10 := rfl
theorem h109_10 : code_ 109 10 = opC (vI (-1)) 11 := rfl
theorem h109_11 : code_ 109 11 = opCpNe 16 14 := rfl
theorem h109_14 : code_ 109 14 = opC (vI (-1)) 15 := rfl
theorem h109_15 : code_ 109 15 = opIret := rfl
theorem h109_16 : code_ 109 16 = opAld 0 17 := rfl
theorem h109_17 : code_ 109 17 = opGR 7 3 27 6 20 := rfl
theorem h109_20 : code_ 109 20 = opGR 6 1 8 4 23 := rfl
theorem h109_23 : code_ 109 23 = opAld 0 24 := rfl
theorem h109_24 : code_ 109 24 = opGR 7 3 27 6 27 := rfl
theorem h109_27 : code_ 109 27 = opGR 6 0 1 1 30 := rfl
theorem h109_30 : code_ 109 30 = opK kV 81 2 4 33 := rfl
theorem h109_33 : code_ 109 33 = opAld 0 34 := rfl
theorem h109_34 : code_ 109 34 = opGR 7 3 27 6 37 := rfl
theorem h109_37 : code_ 109 37 = opGR 6 0 1 1 40 := rfl
theorem h109_40 : code_ 109 40 = opK kI 38 1 1 43 := rfl
theorem h109_43 : code_ 109 43 = opIret := rfl
theorem h110_0 : code_ 110 0 = opAld 0 1 := rfl
theorem h110_1 : code_ 110 1 = opGR 7 3 27 6 4 := rfl
theorem h110_4 : code_ 110 4 = opGR 6 0 1 1 7 := rfl
theorem h110_7 : code_ 110 7 = opGI 1 3 10 := rfl
theorem h110_10 : code_ 110 10 = opC (vI (-1)) 11 := rfl
theorem h110_11 : code_ 110 11 = opCpNe 16 14 := rfl
theorem h110_14 : code_ 110 14 = opC (vI 0) 15 := rfl
theorem h110_15 : code_ 110 15 = opZret := rfl
theorem h110_16 : code_ 110 16 = opAld 0 17 := rfl
theorem h110_17 : code_ 110 17 = opGR 7 3 27 6 20 := rfl
theorem h110_20 : code_ 110 20 = opGR 6 1 8 4 23 := rfl
theorem h110_23 : code_ 110 23 = opAld 0 24 := rfl
theorem h110_24 : code_ 110 24 = opGR 7 3 27 6 27 := rfl
theorem h110_27 : code_ 110 27 = opGR 6 0 1 1 30 := rfl
theorem h110_30 : code_ 110 30 = opK kV 81 2 4 33 := rfl
theorem h110_33 : code_ 110 33 = opAld 0 34 := rfl
theorem h110_34 : code_ 110 34 = opGR 7 3 27 6 37 := rfl
theorem h110_37 : code_ 110 37 = opGR 6 0 1 1 40 := rfl
theorem h110_40 : code_ 110 40 = opK kV 39 1 1 43 := rfl
theorem h110_43 : code_ 110 43 = opC (vI 1) 44 := rfl
theorem h110_44 : code_ 110 44 = opZret := rfl
theorem h111_0 : code_ 111 0 = opAld 0 1 := rfl
theorem h111_1 : code_ 111 1 = opGR 7 3 27 6 4 := rfl
theorem h111_4 : code_ 111 4 = opGR 6 1 8 4 7 := rfl
theorem h111_7 : code_ 111 7 = opAld 0 8 := rfl
theorem h111_8 : code_ 111 8 = opGR 7 3 27 6 11 := rfl
theorem h111_11 : code_ 111 11 = opGR 6 0 1 1 14 := rfl
theorem h111_14 : code_ 111 14 = opK kV 81 2 4 17 := rfl
theorem h111_17 : code_ 111 17 = opAld 0 18 := rfl
theorem h111_18 : code_ 111 18 = opGR 7 3 27 6 21 := rfl
theorem h111_21 : code_ 111 21 = opGR 6 0 1 1 24 := rfl
theorem h111_24 : code_ 111 24 = opAld 0 25 := rfl
theorem h111_25 : code_ 111 25 = opK (kR 5) 149 1 7 28 := rfl
theorem h111_28 : code_ 111 28 = opK kI 42 2 1 31 := rfl
theorem h111_31 : code_ 111 31 = opIret := rfl
theorem h112_0 : code_ 112 0 = opIld 1 1 := rfl
theorem h112_1 : code_ 112 1 = opC (vI 1) 2 := rfl
theorem h112_2 : code_ 112 2 = opCpLt 29 5 := rfl
theorem h112_5 : code_ 112 5 = opIld 1 6 := rfl
theorem h112_6 : code_ 112 6 = opC (vI 60) 8 := rfl
theorem h112_8 : code_ 112 8 = opCpGt 29 11 := rfl
theorem h112_11 : code_ 112 11 = opAld 0 12 := rfl
theorem h112_12 : code_ 112 12 = opGR 7 3 27 6 15 := rfl
theorem h112_15 : code_ 112 15 = opGR 6 0 1 1 18 := rfl
theorem h112_18 : code_ 112 18 = opGI 1 0 21 := rfl
theorem h112_21 : code_ 112 21 = opIld 1 22 := rfl
theorem h112_22 : code_ 112 22 = opB (fun x y => x + y) 23 := rfl
theorem h112_23 : code_ 112 23 = opC (vI 9999) 26 := rfl
theorem h112_26 : code_ 112 26 = opCpLe 31 29 := rfl
theorem h112_29 : code_ 112 29 = opMask [0, 1] (opC (vI (-1)) 30) := rfl
theorem h112_30 : code_ 112 30 = opIret := rfl
theorem h112_31 : code_ 112 31 = opAld 0 32 := rfl
theorem h112_32 : code_ 112 32 = opIld 1 33 := rfl
theorem h112_33 : code_ 112 33 = opK kI 150 2 7 36 := rfl
theorem h112_36 : code_ 112 36 = opIret := rfl
theorem h113_0 : code_ 113 0 = opAld 0 1 := rfl
theorem h113_1 : code_ 113 1 = opIld 1 2 := rfl
theorem h113_2 : code_ 113 2 = opK kI 148 2 7 5 := rfl
theorem h113_5 : code_ 113 5 = opIfNe 11 8 := rfl
theorem h113_8 : code_ 113 8 = opC (vI (-2)) 10 := rfl
theorem h113_10 : code_ 113 10 = opIret := rfl
theorem h113_11 : code_ 113 11 = opAld 0 12 := rfl
theorem h113_12 : code_ 113 12 = opGR 7 1 16 20 15 := rfl
theorem h113_15 : code_ 113 15 = opIld 1 16 := rfl
theorem h113_16 : code_ 113 16 = opAal 20 5 4 468 10 17 := rfl
theorem h113_17 : code_ 113 17 = opAst 2 18 := rfl
theorem h113_18 : code_ 113 18 = opC (vI 0) 19 := rfl
theorem h113_19 : code_ 113 19 = opIst 3 20 := rfl
theorem h113_20 : code_ 113 20 = opMask [1, 4, 5, 6] (opIld 3 21) := rfl
theorem h113_21 : code_ 113 21 = opAld 2 22 := rfl
theorem h113_22 : code_ 113 22 = opGI 5 0 25 := rfl
theorem h113_25 : code_ 113 25 = opCpGe 228 28 := rfl
theorem h113_28 : code_ 113 28 = opIld 3 29 := rfl
theorem h113_29 : code_ 113 29 = opC (vI 24) 31 := rfl
theorem h113_31 : code_ 113 31 = opCpGe 228 34 := rfl
theorem h113_34 : code_ 113 34 = opAld 2 35 := rfl
theorem h113_35 : code_ 113 35 = opGR 5 2 2 100024 38 := rfl
theorem h113_38 : code_ 113 38 = opIld 3 39 := rfl
theorem h113_39 : code_ 113 39 = opIal 40 := rfl
theorem h113_40 : code_ 113 40 = opIst 4 42 := rfl
theorem h113_42 : code_ 113 42 = opAld 2 43 := rfl
theorem h113_43 : code_ 113 43 = opGR 5 3 3 100024 46 := rfl
theorem h113_46 : code_ 113 46 = opIld 3 47 := rfl
theorem h113_47 : code_ 113 47 = opIal 48 := rfl
theorem h113_48 : code_ 113 48 = opIst 5 50 := rfl
theorem h113_50 : code_ 113 50 = opC (vI 1) 51 := rfl
theorem h113_51 : code_ 113 51 = opIst 6 53 := rfl
theorem h113_53 : code_ 113 53 = opAld 2 54 := rfl
theorem h113_54 : code_ 113 54 = opGR 5 1 1 100024 57 := rfl
theorem h113_57 : code_ 113 57 = opIld 3 58 := rfl
theorem h113_58 : code_ 113 58 = opIal 59 := rfl
theorem h113_59 : code_ 113 59 = opSw 215 [(2, 96), (3, 116), (4, 136), (5, 149), (6, 171), (7, 179)] := rfl
theorem h113_96 : code_ 113 96 = opAld 0 97 := rfl
theorem h113_97 : code_ 113 97 = opIld 4 99 := rfl
theorem h113_99 : code_ 113 99 = opK kI 104 2 7 102 := rfl
theorem h113_102 : code_ 113 102 = opC (vI (-1)) 103 := rfl
theorem h113_103 : code_ 113 103 = opCpEq 110 106 := rfl
theorem h113_106 : code_ 113 106 = opC (vI 1) 107 := rfl
theorem h113_107 : code_ 113 107 = opGoto 111 := rfl
theorem h113_110 : code_ 113 110 = opC (vI 0) 111 := rfl
theorem h113_111 : code_ 113 111 = opMask [1, 4, 5, 6] (opIst 6 113) := rfl
theorem h113_113 : code_ 113 113 = opGoto 215 := rfl
theorem h113_116 : code_ 113 116 = opAld 0 117 := rfl
theorem h113_117 : code_ 113 117 = opIld 4 119 := rfl
theorem h113_119 : code_ 113 119 = opK kI 105 2 7 122 := rfl
theorem h113_122 : code_ 113 122 = opC (vI (-1)) 123 := rfl
theorem h113_123 : code_ 113 123 = opCpEq 130 126 := rfl
theorem h113_126 : code_ 113 126 = opC (vI 1) 127 := rfl
theorem h113_127 : code_ 113 127 = opGoto 131 := rfl
theorem h113_130 : code_ 113 130 = opC (vI 0) 131 := rfl
theorem h113_131 : code_ 113 131 = opMask [1, 4, 5, 6] (opIst 6 133) := rfl
theorem h113_133 : code_ 113 133 = opGoto 215 := rfl
theorem h113_136 : code_ 113 136 = opAld 0 137 := rfl
theorem h113_137 : code_ 113 137 = opIld 5 139 := rfl
theorem h113_139 : code_ 113 139 = opIld 4 141 := rfl
theorem h113_141 : code_ 113 141 = opK kI 106 3 7 144 := rfl
theorem h113_144 : code_ 113 144 = opIst 6 146 := rfl
theorem h113_146 : code_ 113 146 = opGoto 215 := rfl
theorem h113_149 : code_ 113 149 = opAld 0 150 := rfl
theorem h113_150 : code_ 113 150 = opIld 4 152 := rfl
theorem h113_152 : code_ 113 152 = opIld 5 154 := rfl
theorem h113_154 : code_ 113 154 = opK kI 107 3 7 157 := rfl
theorem h113_157 : code_ 113 157 = opC (vI (-1)) 158 := rfl
theorem h113_158 : code_ 113 158 = opCpEq 165 161 := rfl
theorem h113_161 : code_ 113 161 = opC (vI 1) 162 := rfl
theorem h113_162 : code_ 113 162 = opGoto 166 := rfl
theorem h113_165 : code_ 113 165 = opC (vI 0) 166 := rfl
theorem h113_166 : code_ 113 166 = opMask [1, 4, 5, 6] (opIst 6 168) := rfl
theorem h113_168 : code_ 113 168 = opGoto 215 := rfl
theorem h113_171 : code_ 113 171 = opAld 0 172 := rfl
theorem h113_172 : code_ 113 172 = opK kI 111 1 7 175 := rfl
theorem h113_175 : code_ 113 175 = opPop 176 := rfl
theorem h113_176 : code_ 113 176 = opGoto 215 := rfl
theorem h113_179 : code_ 113 179 = opAld 0 180 := rfl
theorem h113_180 : code_ 113 180 = opGR 7 3 27 6 183 := rfl
theorem h113_183 : code_ 113 183 = opGR 6 0 1 1 186 := rfl
theorem h113_186 : code_ 113 186 = opGI 1 0 189 := rfl
theorem h113_189 : code_ 113 189 = opIld 4 191 := rfl
theorem h113_191 : code_ 113 191 = opB (fun x y => x + y) 192 := rfl
theorem h113_192 : code_ 113 192 = opC (vI 9999) 195 := rfl
theorem h113_195 : code_ 113 195 = opCpGt 202 198 := rfl
theorem h113_198 : code_ 113 198 = opC (vI 1) 199 := rfl
theorem h113_199 : code_ 113 199 = opGoto 203 := rfl
theorem h113_202 : code_ 113 202 = opC (vI 0) 203 := rfl
theorem h113_203 : code_ 113 203 = opMask [1, 5, 6] (opIst 6 205) := rfl
theorem h113_205 : code_ 113 205 = opAld 0 206 := rfl
theorem h113_206 : code_ 113 206 = opIld 4 208 := rfl
theorem h113_208 : code_ 113 208 = opK kI 150 2 7 211 := rfl
theorem h113_211 : code_ 113 211 = opPop 212 := rfl
theorem h113_212 : code_ 113 212 = opGoto 215 := rfl
theorem h113_215 : code_ 113 215 = opMask [1, 4, 5] (opIld 6 217) := rfl
theorem h113_217 : code_ 113 217 = opIfNe 222 220 := rfl
theorem h113_220 : code_ 113 220 = opIld 3 221 := rfl
theorem h113_221 : code_ 113 221 = opIret := rfl
theorem h113_222 : code_ 113 222 = opInc 3 1 225 := rfl
theorem h113_225 : code_ 113 225 = opGoto 20 := rfl
theorem h113_228 : code_ 113 228 = opMask [0, 1, 2, 3, 4, 5, 6] (opC (vI (-1)) 229) := rfl
theorem h113_229 : code_ 113 229 = opIret := rfl
theorem h114_0 : code_ 114 0 = opIld 1 1 := rfl
theorem h114_1 : code_ 114 1 = opIfLt 22 4 := rfl
theorem h114_4 : code_ 114 4 = opIld 1 5 := rfl
theorem h114_5 : code_ 114 5 = opC (vI 9999) 8 := rfl
theorem h114_8 : code_ 114 8 = opCpGt 22 11 := rfl
theorem h114_11 : code_ 114 11 = opIld 2 12 := rfl
theorem h114_12 : code_ 114 12 = opC (vI 1) 13 := rfl
theorem h114_13 : code_ 114 13 = opCpLt 22 16 := rfl
theorem h114_16 : code_ 114 16 = opIld 2 17 := rfl
theorem h114_17 : code_ 114 17 = opC (vI 40) 19 := rfl
theorem h114_19 : code_ 114 19 = opCpLe 24 22 := rfl
theorem h114_22 : code_ 114 22 = opMask [0, 1, 2, 3] (opC (vI (-1)) 23) := rfl
theorem h114_23 : code_ 114 23 = opIret := rfl
theorem h114_24 : code_ 114 24 = opAld 0 25 := rfl
theorem h114_25 : code_ 114 25 = opGR 7 3 27 6 28 := rfl
theorem h114_28 : code_ 114 28 = opGR 6 1 8 4 31 := rfl
theorem h114_31 : code_ 114 31 = opAld 0 32 := rfl
theorem h114_32 : code_ 114 32 = opGR 7 3 27 6 35 := rfl
theorem h114_35 : code_ 114 35 = opGR 6 0 1 1 38 := rfl
theorem h114_38 : code_ 114 38 = opK kV 81 2 4 41 := rfl
theorem h114_41 : code_ 114 41 = opAld 0 42 := rfl
theorem h114_42 : code_ 114 42 = opGR 7 3 27 6 45 := rfl
theorem h114_45 : code_ 114 45 = opGR 6 0 1 1 48 := rfl
theorem h114_48 : code_ 114 48 = opIld 1 49 := rfl
theorem h114_49 : code_ 114 49 = opC (vI 2) 50 := rfl
theorem h114_50 : code_ 114 50 = opB (fun x y => x * y) 51 := rfl
theorem h114_51 : code_ 114 51 = opC (vI 503) 54 := rfl
theorem h114_54 : code_ 114 54 = opB (fun x y => x + y) 55 := rfl
theorem h114_55 : code_ 114 55 = opPI 1 1 58 := rfl
theorem h114_58 : code_ 114 58 = opC (vI 0) 59 := rfl
theorem h114_59 : code_ 114 59 = opIst 3 60 := rfl
theorem h114_60 : code_ 114 60 = opMask [1] (opIld 3 61) := rfl
theorem h114_61 : code_ 114 61 = opIld 2 62 := rfl
theorem h114_62 : code_ 114 62 = opCpGe 102 65 := rfl
theorem h114_65 : code_ 114 65 = opAld 0 66 := rfl
theorem h114_66 : code_ 114 66 = opGR 7 3 27 6 69 := rfl
theorem h114_69 : code_ 114 69 = opGR 6 0 1 1 72 := rfl
theorem h114_72 : code_ 114 72 = opGI 1 0 75 := rfl
theorem h114_75 : code_ 114 75 = opC (vI 9999) 78 := rfl
theorem h114_78 : code_ 114 78 = opCpGe 102 81 := rfl
theorem h114_81 : code_ 114 81 = opAld 0 82 := rfl
theorem h114_82 : code_ 114 82 = opGR 7 3 27 6 85 := rfl
theorem h114_85 : code_ 114 85 = opGR 6 0 1 1 88 := rfl
theorem h114_88 : code_ 114 88 = opAld 0 89 := rfl
theorem h114_89 : code_ 114 89 = opK (kR 5) 149 1 7 92 := rfl
theorem h114_92 : code_ 114 92 = opK kI 44 2 1 95 := rfl
theorem h114_95 : code_ 114 95 = opPop 96 := rfl
theorem h114_96 : code_ 114 96 = opInc 3 1 99 := rfl
theorem h114_99 : code_ 114 99 = opGoto 60 := rfl
theorem h114_102 : code_ 114 102 = opMask [1, 2, 3] (opAld 0 103) := rfl
theorem h114_103 : code_ 114 103 = opGR 7 3 27 6 106 := rfl
theorem h114_106 : code_ 114 106 = opGR 6 0 1 1 109 := rfl
theorem h114_109 : code_ 114 109 = opGI 1 0 112 := rfl
theorem h114_112 : code_ 114 112 = opIret := rfl
theorem h115_0 : code_ 115 0 = opAld 0 1 := rfl
theorem h115_1 : code_ 115 1 = opGR 7 3 27 6 4 := rfl
theorem h115_4 : code_ 115 4 = opGR 6 1 8 4 7 := rfl
theorem h115_7 : code_ 115 7 = opGI 4 2 10 := rfl
theorem h115_10 : code_ 115 10 = opIfNe 15 13 := rfl
theorem h115_13 : code_ 115 13 = opC (vI (-1)) 14 := rfl
theorem h115_14 : code_ 115 14 = opIret := rfl
theorem h115_15 : code_ 115 15 = opAld 0 16 := rfl
theorem h115_16 : code_ 115 16 = opGR 7 3 27 6 19 := rfl
theorem h115_19 : code_ 115 19 = opGR 6 1 8 4 22 := rfl
theorem h115_22 : code_ 115 22 = opAld 0 23 := rfl
theorem h115_23 : code_ 115 23 = opGR 7 3 27 6 26 := rfl
theorem h115_26 : code_ 115 26 = opGR 6 0 1 1 29 := rfl
theorem h115_29 : code_ 115 29 = opK kV 82 2 4 32 := rfl
theorem h115_32 : code_ 115 32 = opAld 0 33 := rfl
theorem h115_33 : code_ 115 33 = opGR 7 3 27 6 36 := rfl
theorem h115_36 : code_ 115 36 = opGR 6 1 8 4 39 := rfl
theorem h115_39 : code_ 115 39 = opGI 4 2 42 := rfl
theorem h115_42 : code_ 115 42 = opIret := rfl
theorem h116_0 : code_ 116 0 = opAld 0 1 := rfl
theorem h116_1 : code_ 116 1 = opGR 7 3 27 6 4 := rfl
theorem h116_4 : code_ 116 4 = opGR 6 0 1 1 7 := rfl
theorem h116_7 : code_ 116 7 = opIld 1 8 := rfl
theorem h116_8 : code_ 116 8 = opK kI 8 2 1 11 := rfl
theorem h116_11 : code_ 116 11 = opIfEq 28 14 := rfl
theorem h116_14 : code_ 116 14 = opAld 0 15 := rfl
theorem h116_15 : code_ 116 15 = opGR 7 3 27 6 18 := rfl
theorem h116_18 : code_ 116 18 = opGR 6 0 1 1 21 := rfl
theorem h116_21 : code_ 116 21 = opIld 1 22 := rfl
theorem h116_22 : code_ 116 22 = opK kI 11 2 1 25 := rfl
theorem h116_25 : code_ 116 25 = opGoto 29 := rfl
theorem h116_28 : code_ 116 28 = opC (vI (-1)) 29 := rfl
theorem h116_29 : code_ 116 29 = opMask [0, 1] (opIret) := rfl
theorem h117_0 : code_ 117 0 = opIld 1 1 := rfl
theorem h117_1 : code_ 117 1 = opK kI 152 1 99 4 := rfl
theorem h117_4 : code_ 117 4 = opIfNe 10 7 := rfl
theorem h117_7 : code_ 117 7 = opC (vI (-2)) 9 := rfl
theorem h117_9 : code_ 117 9 = opIret := rfl
theorem h117_10 : code_ 117 10 = opIld 2 11 := rfl
theorem h117_11 : code_ 117 11 = opSw 118 [(0, 44), (1, 57), (2, 70), (3, 86), (4, 106)] := rfl
theorem h117_44 : code_ 117 44 = opAld 0 45 := rfl
theorem h117_45 : code_ 117 45 = opGR 7 3 27 6 48 := rfl
theorem h117_48 : code_ 117 48 = opGR 6 0 1 1 51 := rfl
theorem h117_51 : code_ 117 51 = opGR 1 7 1 100012 54 := rfl
theorem h117_54 : code_ 117 54 = opIld 1 55 := rfl
theorem h117_55 : code_ 117 55 = opIal 56 := rfl
theorem h117_56 : code_ 117 56 = opIret := rfl
theorem h117_57 : code_ 117 57 = opAld 0 58 := rfl
theorem h117_58 : code_ 117 58 = opGR 7 3 27 6 61 := rfl
theorem h117_61 : code_ 117 61 = opGR 6 0 1 1 64 := rfl
theorem h117_64 : code_ 117 64 = opGR 1 8 2 100012 67 := rfl
theorem h117_67 : code_ 117 67 = opIld 1 68 := rfl
theorem h117_68 : code_ 117 68 = opIal 69 := rfl
theorem h117_69 : code_ 117 69 = opIret := rfl
theorem h117_70 : code_ 117 70 = opAld 0 71 := rfl
theorem h117_71 : code_ 117 71 = opGR 7 3 27 6 74 := rfl
theorem h117_74 : code_ 117 74 = opGR 6 0 1 1 77 := rfl
theorem h117_77 : code_ 117 77 = opGR 1 8 2 100012 80 := rfl
theorem h117_80 : code_ 117 80 = opIld 1 81 := rfl
theorem h117_81 : code_ 117 81 = opIal 82 := rfl
theorem h117_82 : code_ 117 82 = opK kI 318 1 99 85 := rfl
theorem h117_85 : code_ 117 85 = opIret := rfl
theorem h117_86 : code_ 117 86 = opAld 0 87 := rfl
theorem h117_87 : code_ 117 87 = opGR 7 3 27 6 90 := rfl
theorem h117_90 : code_ 117 90 = opGR 6 0 1 1 93 := rfl
theorem h117_93 : code_ 117 93 = opIld 1 94 := rfl
theorem h117_94 : code_ 117 94 = opK kI 7 2 1 97 := rfl
theorem h117_97 : code_ 117 97 = opIfEq 104 100 := rfl
theorem h117_100 : code_ 117 100 = opC (vI 1) 101 := rfl
theorem h117_101 : code_ 117 101 = opGoto 105 := rfl
theorem h117_104 : code_ 117 104 = opC (vI 0) 105 := rfl
theorem h117_105 : code_ 117 105 = opMask [0, 1, 2] (opIret) := rfl
theorem h117_106 : code_ 117 106 = opAld 0 107 := rfl
theorem h117_107 : code_ 117 107 = opGR 7 3 27 6 110 := rfl
theorem h117_110 : code_ 117 110 = opGR 6 0 1 1 113 := rfl
theorem h117_113 : code_ 117 113 = opIld 1 114 := rfl
theorem h117_114 : code_ 117 114 = opK kI 22 2 1 117 := rfl
theorem h117_117 : code_ 117 117 = opIret := rfl
theorem h117_118 : code_ 117 118 = opC (vI (-2)) 120 := rfl
theorem h117_120 : code_ 117 120 = opIret := rfl
theorem h118_0 : code_ 118 0 = opAld 0 1 := rfl
theorem h118_1 : code_ 118 1 = opGR 7 3 27 6 4 := rfl
theorem h118_4 : code_ 118 4 = opGR 6 0 1 1 7 := rfl
theorem h118_7 : code_ 118 7 = opIld 1 8 := rfl
theorem h118_8 : code_ 118 8 = opK kI 6 2 1 11 := rfl
theorem h118_11 : code_ 118 11 = opIfEq 24 14 := rfl
theorem h118_14 : code_ 118 14 = opIld 2 15 := rfl
theorem h118_15 : code_ 118 15 = opIfLt 24 18 := rfl
theorem h118_18 : code_ 118 18 = opIld 2 19 := rfl
theorem h118_19 : code_ 118 19 = opC (vI 16) 21 := rfl
theorem h118_21 : code_ 118 21 = opCpLt 26 24 := rfl
theorem h118_24 : code_ 118 24 = opMask [0, 1, 2] (opC (vI (-1)) 25) := rfl
theorem h118_25 : code_ 118 25 = opIret := rfl
theorem h118_26 : code_ 118 26 = opAld 0 27 := rfl
theorem h118_27 : code_ 118 27 = opGR 7 3 27 6 30 := rfl
theorem h118_30 : code_ 118 30 = opGR 6 0 1 1 33 := rfl
theorem h118_33 : code_ 118 33 = opGR 1 9 3 100192 36 := rfl
theorem h118_36 : code_ 118 36 = opIld 1 37 := rfl
theorem h118_37 : code_ 118 37 = opC (vI 16) 39 := rfl
theorem h118_39 : code_ 118 39 = opB (fun x y => x * y) 40 := rfl
theorem h118_40 : code_ 118 40 = opIld 2 41 := rfl
theorem h118_41 : code_ 118 41 = opB (fun x y => x + y) 42 := rfl
theorem h118_42 : code_ 118 42 = opIal 43 := rfl
theorem h118_43 : code_ 118 43 = opIret := rfl
theorem h119_0 : code_ 119 0 = opIld 1 1 := rfl
theorem h119_1 : code_ 119 1 = opK kI 152 1 99 4 := rfl
theorem h119_4 : code_ 119 4 = opIfNe 10 7 := rfl
theorem h119_7 : code_ 119 7 = opC (vI (-2)) 9 := rfl
theorem h119_9 : code_ 119 9 = opIret := rfl
theorem h119_10 : code_ 119 10 = opIld 2 11 := rfl
theorem h119_11 : code_ 119 11 = opSw 60 [(0, 36), (1, 48)] := rfl
theorem h119_36 : code_ 119 36 = opAld 0 37 := rfl
theorem h119_37 : code_ 119 37 = opGR 7 3 27 6 40 := rfl
theorem h119_40 : code_ 119 40 = opGR 6 0 1 1 43 := rfl
theorem h119_43 : code_ 119 43 = opIld 1 44 := rfl
theorem h119_44 : code_ 119 44 = opK kI 13 2 1 47 := rfl
theorem h119_47 : code_ 119 47 = opIret := rfl
theorem h119_48 : code_ 119 48 = opAld 0 49 := rfl
theorem h119_49 : code_ 119 49 = opGR 7 3 27 6 52 := rfl
theorem h119_52 : code_ 119 52 = opGR 6 0 1 1 55 := rfl
theorem h119_55 : code_ 119 55 = opIld 1 56 := rfl
theorem h119_56 : code_ 119 56 = opK kI 15 2 1 59 := rfl
theorem h119_59 : code_ 119 59 = opIret := rfl
theorem h119_60 : code_ 119 60 = opC (vI (-2)) 62 := rfl
theorem h119_62 : code_ 119 62 = opIret := rfl
theorem h120_0 : code_ 120 0 = opIld 1 1 := rfl
theorem h120_1 : code_ 120 1 = opSw 109 [(0, 40), (1, 51), (2, 62), (3, 76), (4, 87), (5, 98)] := rfl
theorem h120_40 : code_ 120 40 = opAld 0 41 := rfl
theorem h120_41 : code_ 120 41 = opGR 7 3 27 6 44 := rfl
theorem h120_44 : code_ 120 44 = opGR 6 0 1 1 47 := rfl
theorem h120_47 : code_ 120 47 = opGI 1 0 50 := rfl
theorem h120_50 : code_ 120 50 = opIret := rfl
theorem h120_51 : code_ 120 51 = opAld 0 52 := rfl
theorem h120_52 : code_ 120 52 = opGR 7 3 27 6 55 := rfl
theorem h120_55 : code_ 120 55 = opGR 6 0 1 1 58 := rfl
theorem h120_58 : code_ 120 58 = opGI 1 1 61 := rfl
theorem h120_61 : code_ 120 61 = opIret := rfl
theorem h120_62 : code_ 120 62 = opAld 0 63 := rfl
theorem h120_63 : code_ 120 63 = opGR 7 3 27 6 66 := rfl
theorem h120_66 : code_ 120 66 = opGR 6 0 1 1 69 := rfl
theorem h120_69 : code_ 120 69 = opK kI 16 1 1 72 := rfl
theorem h120_72 : code_ 120 72 = opK kI 318 1 99 75 := rfl
theorem h120_75 : code_ 120 75 = opIret := rfl
theorem h120_76 : code_ 120 76 = opAld 0 77 := rfl
theorem h120_77 : code_ 120 77 = opGR 7 3 27 6 80 := rfl
theorem h120_80 : code_ 120 80 = opGR 6 0 1 1 83 := rfl
theorem h120_83 : code_ 120 83 = opK kI 18 1 1 86 := rfl
theorem h120_86 : code_ 120 86 = opIret := rfl
theorem h120_87 : code_ 120 87 = opAld 0 88 := rfl
theorem h120_88 : code_ 120 88 = opGR 7 3 27 6 91 := rfl
theorem h120_91 : code_ 120 91 = opGR 6 0 1 1 94 := rfl
theorem h120_94 : code_ 120 94 = opGI 1 2 97 := rfl
theorem h120_97 : code_ 120 97 = opIret := rfl
theorem h120_98 : code_ 120 98 = opAld 0 99 := rfl
theorem h120_99 : code_ 120 99 = opGR 7 3 27 6 102 := rfl
theorem h120_102 : code_ 120 102 = opGR 6 0 1 1 105 := rfl
theorem h120_105 : code_ 120 105 = opK kI 17 1 1 108 := rfl
theorem h120_108 : code_ 120 108 = opIret := rfl
theorem h120_109 : code_ 120 109 = opC (vI (-2)) 111 := rfl
theorem h120_111 : code_ 120 111 = opIret := rfl
theorem h121_0 : code_ 121 0 = opIld 1 1 := rfl
theorem h121_1 : code_ 121 1 = opC (vI (-1)) 2 := rfl
theorem h121_2 : code_ 121 2 = opCpNe 16 5 := rfl
theorem h121_5 : code_ 121 5 = opAld 0 6 := rfl
theorem h121_6 : code_ 121 6 = opGR 7 3 27 6 9 := rfl
theorem h121_9 : code_ 121 9 = opGR 6 0 1 1 12 := rfl
theorem h121_12 : code_ 121 12 = opGI 1 6 15 := rfl
theorem h121_15 : code_ 121 15 = opIret := rfl
theorem h121_16 : code_ 121 16 = opIld 1 17 := rfl
theorem h121_17 : code_ 121 17 = opIfLt 40 20 := rfl
theorem h121_20 : code_ 121 20 = opIld 1 21 := rfl
theorem h121_21 : code_ 121 21 = opAld 0 22 := rfl
theorem h121_22 : code_ 121 22 = opGR 7 3 27 6 25 := rfl
theorem h121_25 : code_ 121 25 = opGR 6 0 1 1 28 := rfl
theorem h121_28 : code_ 121 28 = opGI 1 6 31 := rfl
theorem h121_31 : code_ 121 31 = opCpGe 40 34 := rfl
theorem h121_34 : code_ 121 34 = opIld 1 35 := rfl
theorem h121_35 : code_ 121 35 = opC (vI 25) 37 := rfl
theorem h121_37 : code_ 121 37 = opCpLt 43 40 := rfl
theorem h121_40 : code_ 121 40 = opMask [0, 1, 2, 3] (opC (vI (-2)) 42) := rfl
theorem h121_42 : code_ 121 42 = opIret := rfl
theorem h121_43 : code_ 121 43 = opAld 0 44 := rfl
theorem h121_44 : code_ 121 44 = opGR 7 3 27 6 47 := rfl
theorem h121_47 : code_ 121 47 = opGR 6 0 1 1 50 := rfl
theorem h121_50 : code_ 121 50 = opGR 1 11 5 100025 53 := rfl
theorem h121_53 : code_ 121 53 = opIld 1 54 := rfl
theorem h121_54 : code_ 121 54 = opIal 55 := rfl
theorem h121_55 : code_ 121 55 = opIst 3 56 := rfl
theorem h121_56 : code_ 121 56 = opIld 2 57 := rfl
theorem h121_57 : code_ 121 57 = opSw 113 [(0, 88), (1, 93), (2, 101), (3, 108)] := rfl
theorem h121_88 : code_ 121 88 = opIld 3 89 := rfl
theorem h121_89 : code_ 121 89 = opC (vI 12) 91 := rfl
theorem h121_91 : code_ 121 91 = opB shrI 92 := rfl
theorem h121_92 : code_ 121 92 = opIret := rfl
theorem h121_93 : code_ 121 93 = opIld 3 94 := rfl
theorem h121_94 : code_ 121 94 = opC (vI 8) 96 := rfl
theorem h121_96 : code_ 121 96 = opB shrI 97 := rfl
theorem h121_97 : code_ 121 97 = opC (vI 15) 99 := rfl
theorem h121_99 : code_ 121 99 = opB (fun x y => x &&& y) 100 := rfl
theorem h121_100 : code_ 121 100 = opIret := rfl
theorem h121_101 : code_ 121 101 = opIld 3 102 := rfl
theorem h121_102 : code_ 121 102 = opC (vI 4) 103 := rfl
theorem h121_103 : code_ 121 103 = opB shrI 104 := rfl
theorem h121_104 : code_ 121 104 = opC (vI 15) 106 := rfl
theorem h121_106 : code_ 121 106 = opB (fun x y => x &&& y) 107 := rfl
theorem h121_107 : code_ 121 107 = opIret := rfl
theorem h121_108 : code_ 121 108 = opIld 3 109 := rfl
theorem h121_109 : code_ 121 109 = opC (vI 15) 111 := rfl
theorem h121_111 : code_ 121 111 = opB (fun x y => x &&& y) 112 := rfl
theorem h121_112 : code_ 121 112 = opIret := rfl
theorem h121_113 : code_ 121 113 = opC (vI (-2)) 115 := rfl
theorem h121_115 : code_ 121 115 = opIret := rfl
theorem h122_0 : code_ 122 0 = opIld 1 1 := rfl
theorem h122_1 : code_ 122 1 = opC (vI 1) 2 := rfl
theorem h122_2 : code_ 122 2 = opCpLt 20 5 := rfl
theorem h122_5 : code_ 122 5 = opIld 1 6 := rfl
theorem h122_6 : code_ 122 6 = opC (vI 60) 8 := rfl
theorem h122_8 : code_ 122 8 = opCpGt 20 11 := rfl
theorem h122_11 : code_ 122 11 = opIld 2 12 := rfl
theorem h122_12 : code_ 122 12 = opIfLt 20 15 := rfl
theorem h122_15 : code_ 122 15 = opIld 2 16 := rfl
theorem h122_16 : code_ 122 16 = opC (vI 2) 17 := rfl
theorem h122_17 : code_ 122 17 = opCpLe 22 20 := rfl
theorem h122_20 : code_ 122 20 = opMask [0, 1, 2, 3] (opC (vI (-1)) 21) := rfl
theorem h122_21 : code_ 122 21 = opIret := rfl
theorem h122_22 : code_ 122 22 = opAld 0 23 := rfl
theorem h122_23 : code_ 122 23 = opGR 7 5 469 1 26 := rfl
theorem h122_26 : code_ 122 26 = opAld 0 27 := rfl
theorem h122_27 : code_ 122 27 = opGR 7 3 27 6 30 := rfl
theorem h122_30 : code_ 122 30 = opGR 6 0 1 1 33 := rfl
theorem h122_33 : code_ 122 33 = opK kV 5 2 1 36 := rfl
theorem h122_36 : code_ 122 36 = opC (vI 0) 37 := rfl
theorem h122_37 : code_ 122 37 = opIst 3 38 := rfl
theorem h122_38 : code_ 122 38 = opIld 3 39 := rfl
theorem h122_39 : code_ 122 39 = opIld 1 40 := rfl
theorem h122_40 : code_ 122 40 = opCpGe 74 43 := rfl
theorem h122_43 : code_ 122 43 = opAld 0 44 := rfl
theorem h122_44 : code_ 122 44 = opGR 7 5 469 1 47 := rfl
theorem h122_47 : code_ 122 47 = opGI 1 0 50 := rfl
theorem h122_50 : code_ 122 50 = opC (vI 9999) 53 := rfl
theorem h122_53 : code_ 122 53 = opCpGe 74 56 := rfl
theorem h122_56 : code_ 122 56 = opAld 0 57 := rfl
theorem h122_57 : code_ 122 57 = opGR 7 5 469 1 60 := rfl
theorem h122_60 : code_ 122 60 = opAld 0 61 := rfl
theorem h122_61 : code_ 122 61 = opK (kR 5) 149 1 7 64 := rfl
theorem h122_64 : code_ 122 64 = opK kI 44 2 1 67 := rfl
theorem h122_67 : code_ 122 67 = opPop 68 := rfl
theorem h122_68 : code_ 122 68 = opInc 3 1 71 := rfl
theorem h122_71 : code_ 122 71 = opGoto 38 := rfl
theorem h122_74 : code_ 122 74 = opMask [1, 3] (opIld 2 75) := rfl
theorem h122_75 : code_ 122 75 = opSw 119 [(0, 100), (1, 111)] := rfl
theorem h122_100 : code_ 122 100 = opAld 0 101 := rfl
theorem h122_101 : code_ 122 101 = opGR 7 5 469 1 104 := rfl
theorem h122_104 : code_ 122 104 = opK kI 16 1 1 107 := rfl
theorem h122_107 : code_ 122 107 = opK kI 318 1 99 110 := rfl
theorem h122_110 : code_ 122 110 = opIret := rfl
theorem h122_111 : code_ 122 111 = opAld 0 112 := rfl
theorem h122_112 : code_ 122 112 = opGR 7 5 469 1 115 := rfl
theorem h122_115 : code_ 122 115 = opK kI 18 1 1 118 := rfl
theorem h122_118 : code_ 122 118 = opIret := rfl
theorem h122_119 : code_ 122 119 = opAld 0 120 := rfl
theorem h122_120 : code_ 122 120 = opGR 7 5 469 1 123 := rfl
theorem h122_123 : code_ 122 123 = opGI 1 2 126 := rfl
theorem h122_126 : code_ 122 126 = opIret := rfl
theorem h123_0 : code_ 123 0 = opAld 0 1 := rfl
theorem h123_1 : code_ 123 1 = opGR 7 3 27 6 4 := rfl
theorem h123_4 : code_ 123 4 = opGR 6 0 1 1 7 := rfl
theorem h123_7 : code_ 123 7 = opIld 1 8 := rfl
theorem h123_8 : code_ 123 8 = opK kI 6 2 1 11 := rfl
theorem h123_11 : code_ 123 11 = opIfEq 28 14 := rfl
theorem h123_14 : code_ 123 14 = opAld 0 15 := rfl
theorem h123_15 : code_ 123 15 = opGR 7 3 27 6 18 := rfl
theorem h123_18 : code_ 123 18 = opGR 6 0 1 1 21 := rfl
theorem h123_21 : code_ 123 21 = opIld 2 22 := rfl
theorem h123_22 : code_ 123 22 = opK kI 6 2 1 25 := rfl
theorem h123_25 : code_ 123 25 = opIfNe 30 28 := rfl
theorem h123_28 : code_ 123 28 = opMask [0, 1, 2] (opC (vI (-1)) 29) := rfl
theorem h123_29 : code_ 123 29 = opIret := rfl
theorem h123_30 : code_ 123 30 = opAld 0 31 := rfl
theorem h123_31 : code_ 123 31 = opGR 7 3 27 6 34 := rfl
theorem h123_34 : code_ 123 34 = opGR 6 0 1 1 37 := rfl
theorem h123_37 : code_ 123 37 = opAld 0 38 := rfl
theorem h123_38 : code_ 123 38 = opGR 7 3 27 6 41 := rfl
theorem h123_41 : code_ 123 41 = opGR 6 0 1 1 44 := rfl
theorem h123_44 : code_ 123 44 = opGR 1 7 1 100012 47 := rfl
theorem h123_47 : code_ 123 47 = opIld 1 48 := rfl
theorem h123_48 : code_ 123 48 = opIal 49 := rfl
theorem h123_49 : code_ 123 49 = opK kI 15 2 1 52 := rfl
theorem h123_52 : code_ 123 52 = opAld 0 53 := rfl
theorem h123_53 : code_ 123 53 = opGR 7 3 27 6 56 := rfl
theorem h123_56 : code_ 123 56 = opGR 6 0 1 1 59 := rfl
theorem h123_59 : code_ 123 59 = opAld 0 60 := rfl
theorem h123_60 : code_ 123 60 = opGR 7 3 27 6 63 := rfl
theorem h123_63 : code_ 123 63 = opGR 6 0 1 1 66 := rfl
theorem h123_66 : code_ 123 66 = opGR 1 7 1 100012 69 := rfl
theorem h123_69 : code_ 123 69 = opIld 2 70 := rfl
theorem h123_70 : code_ 123 70 = opIal 71 := rfl
theorem h123_71 : code_ 123 71 = opK kI 15 2 1 74 := rfl
theorem h123_74 : code_ 123 74 = opB (fun x y => x &&& y) 75 := rfl
theorem h123_75 : code_ 123 75 = opIret := rfl
theorem h124_0 : code_ 124 0 = opAld 0 1 := rfl
theorem h124_1 : code_ 124 1 = opGR 7 3 27 6 4 := rfl
theorem h124_4 : code_ 124 4 = opGR 6 0 1 1 7 := rfl
theorem h124_7 : code_ 124 7 = opIld 1 8 := rfl
theorem h124_8 : code_ 124 8 = opIld 2 9 := rfl
theorem h124_9 : code_ 124 9 = opAld 0 10 := rfl
theorem h124_10 : code_ 124 10 = opK (kR 5) 149 1 7 13 := rfl
theorem h124_13 : code_ 124 13 = opK kI 31 4 1 16 := rfl
theorem h124_16 : code_ 124 16 = opIret := rfl
theorem h125_0 : code_ 125 0 = opIld 1 1 := rfl
theorem h125_1 : code_ 125 1 = opIfLt 20 4 := rfl
theorem h125_4 : code_ 125 4 = opIld 1 5 := rfl
theorem h125_5 : code_ 125 5 = opC (vI 16) 7 := rfl
theorem h125_7 : code_ 125 7 = opCpGt 20 10 := rfl
theorem h125_10 : code_ 125 10 = opIld 2 11 := rfl
theorem h125_11 : code_ 125 11 = opIfLt 20 14 := rfl
theorem h125_14 : code_ 125 14 = opIld 2 15 := rfl
theorem h125_15 : code_ 125 15 = opC (vI 16) 17 := rfl
theorem h125_17 : code_ 125 17 = opCpLe 24 20 := rfl
theorem h125_20 : code_ 125 20 = opMask [0, 1, 2, 3] (opC (vL (-1)) 23) := rfl
theorem h125_23 : code_ 125 23 = opLret := rfl
theorem h125_24 : code_ 125 24 = opC (vI 16) 26 := rfl
theorem h125_26 : code_ 125 26 = opIld 1 27 := rfl
theorem h125_27 : code_ 125 27 = opB (fun x y => x - y) 28 := rfl
theorem h125_28 : code_ 125 28 = opIld 2 29 := rfl
theorem h125_29 : code_ 125 29 = opK kL 154 2 99 32 := rfl
theorem h125_32 : code_ 125 32 = opC (vI 16) 34 := rfl
theorem h125_34 : code_ 125 34 = opIld 2 35 := rfl
theorem h125_35 : code_ 125 35 = opK kL 154 2 99 38 := rfl
theorem h125_38 : code_ 125 38 = opIld 3 39 := rfl
theorem h125_39 : code_ 125 39 = opK kL 156 3 99 42 := rfl
theorem h125_42 : code_ 125 42 = opLret := rfl
theorem h126_0 : code_ 126 0 = opC (vL 0) 1 := rfl
theorem h126_1 : code_ 126 1 = opLst 2 2 := rfl
theorem h126_2 : code_ 126 2 = opAld 0 3 := rfl
theorem h126_3 : code_ 126 3 = opGR 7 3 27 6 6 := rfl
theorem h126_6 : code_ 126 6 = opGR 6 0 1 1 9 := rfl
theorem h126_9 : code_ 126 9 = opK kI 16 1 1 12 := rfl
theorem h126_12 : code_ 126 12 = opIst 4 14 := rfl
theorem h126_14 : code_ 126 14 = opC (vI 0) 15 := rfl
theorem h126_15 : code_ 126 15 = opIst 5 17 := rfl
theorem h126_17 : code_ 126 17 = opMask [6] (opIld 5 19) := rfl
theorem h126_19 : code_ 126 19 = opC (vI 12) 21 := rfl
theorem h126_21 : code_ 126 21 = opCpGe 101 24 := rfl
theorem h126_24 : code_ 126 24 = opIld 5 26 := rfl
theorem h126_26 : code_ 126 26 = opC (vI 1) 27 := rfl
theorem h126_27 : code_ 126 27 = opB (fun x y => x + y) 28 := rfl
theorem h126_28 : code_ 126 28 = opIst 6 30 := rfl
theorem h126_30 : code_ 126 30 = opIld 6 32 := rfl
theorem h126_32 : code_ 126 32 = opC (vI 12) 34 := rfl
theorem h126_34 : code_ 126 34 = opCpGe 95 37 := rfl
theorem h126_37 : code_ 126 37 = opIld 4 39 := rfl
theorem h126_39 : code_ 126 39 = opIld 5 41 := rfl
theorem h126_41 : code_ 126 41 = opB shrI 42 := rfl
theorem h126_42 : code_ 126 42 = opC (vI 1) 43 := rfl
theorem h126_43 : code_ 126 43 = opB (fun x y => x &&& y) 44 := rfl
theorem h126_44 : code_ 126 44 = opC (vI 1) 45 := rfl
theorem h126_45 : code_ 126 45 = opCpNe 89 48 := rfl
theorem h126_48 : code_ 126 48 = opIld 4 50 := rfl
theorem h126_50 : code_ 126 50 = opIld 6 52 := rfl
theorem h126_52 : code_ 126 52 = opB shrI 53 := rfl
theorem h126_53 : code_ 126 53 = opC (vI 1) 54 := rfl
theorem h126_54 : code_ 126 54 = opB (fun x y => x &&& y) 55 := rfl
theorem h126_55 : code_ 126 55 = opC (vI 1) 56 := rfl
theorem h126_56 : code_ 126 56 = opCpNe 89 59 := rfl
theorem h126_59 : code_ 126 59 = opLld 2 60 := rfl
theorem h126_60 : code_ 126 60 = opAld 0 61 := rfl
theorem h126_61 : code_ 126 61 = opGR 7 3 27 6 64 := rfl
theorem h126_64 : code_ 126 64 = opGR 6 0 1 1 67 := rfl
theorem h126_67 : code_ 126 67 = opIld 5 69 := rfl
theorem h126_69 : code_ 126 69 = opK kI 15 2 1 72 := rfl
theorem h126_72 : code_ 126 72 = opAld 0 73 := rfl
theorem h126_73 : code_ 126 73 = opGR 7 3 27 6 76 := rfl
theorem h126_76 : code_ 126 76 = opGR 6 0 1 1 79 := rfl
theorem h126_79 : code_ 126 79 = opIld 6 81 := rfl
theorem h126_81 : code_ 126 81 = opK kI 15 2 1 84 := rfl
theorem h126_84 : code_ 126 84 = opK kL 155 2 99 87 := rfl
theorem h126_87 : code_ 126 87 = opLB (fun x y => x + y) 88 := rfl
theorem h126_88 : code_ 126 88 = opLst 2 89 := rfl
theorem h126_89 : code_ 126 89 = opInc 6 1 92 := rfl
theorem h126_92 : code_ 126 92 = opGoto 30 := rfl
theorem h126_95 : code_ 126 95 = opInc 5 1 98 := rfl
theorem h126_98 : code_ 126 98 = opGoto 17 := rfl
theorem h126_101 : code_ 126 101 = opLld 2 102 := rfl
theorem h126_102 : code_ 126 102 = opC (vL 720720) 105 := rfl
theorem h126_105 : code_ 126 105 = opIld 1 106 := rfl
theorem h126_106 : code_ 126 106 = opK kL 156 3 99 109 := rfl
theorem h126_109 : code_ 126 109 = opLret := rfl
theorem h127_0 : code_ 127 0 = opAld 0 1 := rfl
theorem h127_1 : code_ 127 1 = opGR 7 6 476 2 4 := rfl
theorem h127_4 : code_ 127 4 = opAld 0 5 := rfl
theorem h127_5 : code_ 127 5 = opGR 7 3 27 6 8 := rfl
theorem h127_8 : code_ 127 8 = opGR 6 0 1 1 11 := rfl
theorem h127_11 : code_ 127 11 = opK kV 47 2 2 14 := rfl
theorem h127_14 : code_ 127 14 = opAld 0 15 := rfl
theorem h127_15 : code_ 127 15 = opGR 7 6 476 2 18 := rfl
theorem h127_18 : code_ 127 18 = opK kI 50 1 2 21 := rfl
theorem h127_21 : code_ 127 21 = opIret := rfl
theorem h128_0 : code_ 128 0 = opIld 1 1 := rfl
theorem h128_1 : code_ 128 1 = opK kI 152 1 99 4 := rfl
theorem h128_4 : code_ 128 4 = opIfNe 9 7 := rfl
theorem h128_7 : code_ 128 7 = opC (vI (-1)) 8 := rfl
theorem h128_8 : code_ 128 8 = opIret := rfl
theorem h128_9 : code_ 128 9 = opAld 0 10 := rfl
theorem h128_10 : code_ 128 10 = opGR 7 6 476 2 13 := rfl
theorem h128_13 : code_ 128 13 = opAld 0 14 := rfl
theorem h128_14 : code_ 128 14 = opGR 7 3 27 6 17 := rfl
theorem h128_17 : code_ 128 17 = opGR 6 0 1 1 20 := rfl
theorem h128_20 : code_ 128 20 = opK kV 47 2 2 23 := rfl
theorem h128_23 : code_ 128 23 = opAld 0 24 := rfl
theorem h128_24 : code_ 128 24 = opGR 7 6 476 2 27 := rfl
theorem h128_27 : code_ 128 27 = opIld 1 28 := rfl
theorem h128_28 : code_ 128 28 = opK kI 51 2 2 31 := rfl
theorem h128_31 : code_ 128 31 = opIret := rfl
theorem h129_0 : code_ 129 0 = opAld 0 1 := rfl
theorem h129_1 : code_ 129 1 = opGR 7 7 480 0 4 := rfl
theorem h129_4 : code_ 129 4 = opAld 0 5 := rfl
theorem h129_5 : code_ 129 5 = opGR 7 3 27 6 8 := rfl
theorem h129_8 : code_ 129 8 = opGR 6 0 1 1 11 := rfl
theorem h129_11 : code_ 129 11 = opK kI 0 2 0 14 := rfl
theorem h129_14 : code_ 129 14 = opIret := rfl
theorem h130_0 : code_ 130 0 = opAld 0 1 := rfl
theorem h130_1 : code_ 130 1 = opGR 7 5 469 1 4 := rfl
theorem h130_4 : code_ 130 4 = opAld 0 5 := rfl
theorem h130_5 : code_ 130 5 = opGR 7 3 27 6 8 := rfl
theorem h130_8 : code_ 130 8 = opGR 6 0 1 1 11 := rfl
theorem h130_11 : code_ 130 11 = opK kV 5 2 1 14 := rfl
theorem h130_14 : code_ 130 14 = opAld 0 15 := rfl
theorem h130_15 : code_ 130 15 = opGR 7 5 469 1 18 := rfl
theorem h130_18 : code_ 130 18 = opAld 0 19 := rfl
theorem h130_19 : code_ 130 19 = opK (kR 5) 149 1 7 22 := rfl
theorem h130_22 : code_ 130 22 = opK kI 42 2 1 25 := rfl
theorem h130_25 : code_ 130 25 = opIret := rfl
theorem h131_0 : code_ 131 0 = opAld 0 1 := rfl
theorem h131_1 : code_ 131 1 = opGR 7 3 27 6 4 := rfl
theorem h131_4 : code_ 131 4 = opGR 6 0 1 1 7 := rfl
theorem h131_7 : code_ 131 7 = opK kI 19 1 1 10 := rfl
theorem h131_10 : code_ 131 10 = opIret := rfl
theorem h132_0 : code_ 132 0 = opAld 0 1 := rfl
theorem h132_1 : code_ 132 1 = opGR 7 3 27 6 4 := rfl
theorem h132_4 : code_ 132 4 = opGR 6 0 1 1 7 := rfl
theorem h132_7 : code_ 132 7 = opIld 1 8 := rfl
theorem h132_8 : code_ 132 8 = opK kI 6 2 1 11 := rfl
theorem h132_11 : code_ 132 11 = opIfNe 16 14 := rfl
theorem h132_14 : code_ 132 14 = opC (vI (-1)) 15 := rfl
theorem h132_15 : code_ 132 15 = opIret := rfl
theorem h132_16 : code_ 132 16 = opAld 0 17 := rfl
theorem h132_17 : code_ 132 17 = opGR 7 3 27 6 20 := rfl
theorem h132_20 : code_ 132 20 = opGR 6 0 1 1 23 := rfl
theorem h132_23 : code_ 132 23 = opGR 1 8 2 100012 26 := rfl
theorem h132_26 : code_ 132 26 = opIld 1 27 := rfl
theorem h132_27 : code_ 132 27 = opIal 28 := rfl
theorem h132_28 : code_ 132 28 = opIst 2 29 := rfl
theorem h132_29 : code_ 132 29 = opIld 2 30 := rfl
theorem h132_30 : code_ 132 30 = opIld 2 31 := rfl
theorem h132_31 : code_ 132 31 = opC (vI 1) 32 := rfl
theorem h132_32 : code_ 132 32 = opB shlI 33 := rfl
theorem h132_33 : code_ 132 33 = opC (vI (-1)) 34 := rfl
theorem h132_34 : code_ 132 34 = opB (fun x y => x ^^^ y) 35 := rfl
theorem h132_35 : code_ 132 35 = opB (fun x y => x &&& y) 36 := rfl
theorem h132_36 : code_ 132 36 = opK kI 318 1 99 39 := rfl
theorem h132_39 : code_ 132 39 = opIret := rfl
theorem h133_0 : code_ 133 0 = opAld 0 1 := rfl
theorem h133_1 : code_ 133 1 = opGR 7 3 27 6 4 := rfl
theorem h133_4 : code_ 133 4 = opGR 6 0 1 1 7 := rfl
theorem h133_7 : code_ 133 7 = opIld 1 8 := rfl
theorem h133_8 : code_ 133 8 = opK kI 6 2 1 11 := rfl
theorem h133_11 : code_ 133 11 = opIfNe 16 14 := rfl
theorem h133_14 : code_ 133 14 = opC (vI (-1)) 15 := rfl
theorem h133_15 : code_ 133 15 = opIret := rfl
theorem h133_16 : code_ 133 16 = opC (vI 0) 17 := rfl
theorem h133_17 : code_ 133 17 = opIst 2 18 := rfl
theorem h133_18 : code_ 133 18 = opC (vI 0) 19 := rfl
theorem h133_19 : code_ 133 19 = opIst 3 20 := rfl
theorem h133_20 : code_ 133 20 = opC (vI 0) 21 := rfl
theorem h133_21 : code_ 133 21 = opIst 4 23 := rfl
theorem h133_23 : code_ 133 23 = opIld 4 25 := rfl
theorem h133_25 : code_ 133 25 = opC (vI 16) 27 := rfl
theorem h133_27 : code_ 133 27 = opCpGe 71 30 := rfl
theorem h133_30 : code_ 133 30 = opAld 0 31 := rfl
theorem h133_31 : code_ 133 31 = opGR 7 3 27 6 34 := rfl
theorem h133_34 : code_ 133 34 = opGR 6 0 1 1 37 := rfl
theorem h133_37 : code_ 133 37 = opGR 1 8 2 100012 40 := rfl
theorem h133_40 : code_ 133 40 = opIld 1 41 := rfl
theorem h133_41 : code_ 133 41 = opIal 42 := rfl
theorem h133_42 : code_ 133 42 = opIld 4 44 := rfl
theorem h133_44 : code_ 133 44 = opB shrI 45 := rfl
theorem h133_45 : code_ 133 45 = opC (vI 1) 46 := rfl
theorem h133_46 : code_ 133 46 = opB (fun x y => x &&& y) 47 := rfl
theorem h133_47 : code_ 133 47 = opC (vI 1) 48 := rfl
theorem h133_48 : code_ 133 48 = opCpNe 57 51 := rfl
theorem h133_51 : code_ 133 51 = opIld 3 52 := rfl
theorem h133_52 : code_ 133 52 = opC (vI 1) 53 := rfl
theorem h133_53 : code_ 133 53 = opB (fun x y => x + y) 54 := rfl
theorem h133_54 : code_ 133 54 = opGoto 58 := rfl
theorem h133_57 : code_ 133 57 = opC (vI 0) 58 := rfl
theorem h133_58 : code_ 133 58 = opMask [3] (opIst 3 59) := rfl
theorem h133_59 : code_ 133 59 = opIld 2 60 := rfl
theorem h133_60 : code_ 133 60 = opIld 3 61 := rfl
theorem h133_61 : code_ 133 61 = opM maxI 64 := rfl
theorem h133_64 : code_ 133 64 = opIst 2 65 := rfl
theorem h133_65 : code_ 133 65 = opInc 4 1 68 := rfl
theorem h133_68 : code_ 133 68 = opGoto 23 := rfl
theorem h133_71 : code_ 133 71 = opIld 2 72 := rfl
theorem h133_72 : code_ 133 72 = opIret := rfl
theorem h134_0 : code_ 134 0 = opAld 0 1 := rfl
theorem h134_1 : code_ 134 1 = opGR 7 3 27 6 4 := rfl
theorem h134_4 : code_ 134 4 = opGR 6 0 1 1 7 := rfl
theorem h134_7 : code_ 134 7 = opIld 1 8 := rfl
theorem h134_8 : code_ 134 8 = opK kI 6 2 1 11 := rfl
theorem h134_11 : code_ 134 11 = opIfEq 36 14 := rfl
theorem h134_14 : code_ 134 14 = opIld 3 15 := rfl
theorem h134_15 : code_ 134 15 = opC (vI 1) 16 := rfl
theorem h134_16 : code_ 134 16 = opCpLt 36 19 := rfl
theorem h134_19 : code_ 134 19 = opIld 3 20 := rfl
theorem h134_20 : code_ 134 20 = opC (vI 16) 22 := rfl
theorem h134_22 : code_ 134 22 = opCpGt 36 25 := rfl
theorem h134_25 : code_ 134 25 = opIld 2 26 := rfl
theorem h134_26 : code_ 134 26 = opIfLt 36 29 := rfl
theorem h134_29 : code_ 134 29 = opIld 2 30 := rfl
theorem h134_30 : code_ 134 30 = opC (vI 1) 31 := rfl
theorem h134_31 : code_ 134 31 = opIld 3 32 := rfl
theorem h134_32 : code_ 134 32 = opB shlI 33 := rfl
theorem h134_33 : code_ 134 33 = opCpLt 38 36 := rfl
theorem h134_36 : code_ 134 36 = opMask [0, 1, 2, 3, 4, 5] (opC (vI (-1)) 37) := rfl
theorem h134_37 : code_ 134 37 = opIret := rfl
theorem h134_38 : code_ 134 38 = opC (vI 1) 39 := rfl
theorem h134_39 : code_ 134 39 = opIld 3 40 := rfl
theorem h134_40 : code_ 134 40 = opB shlI 41 := rfl
theorem h134_41 : code_ 134 41 = opC (vI 1) 42 := rfl
theorem h134_42 : code_ 134 42 = opB (fun x y => x - y) 43 := rfl
theorem h134_43 : code_ 134 43 = opIst 4 45 := rfl
theorem h134_45 : code_ 134 45 = opC (vI 0) 46 := rfl
theorem h134_46 : code_ 134 46 = opIst 5 48 := rfl
theorem h134_48 : code_ 134 48 = opIld 5 50 := rfl
theorem h134_50 : code_ 134 50 = opIld 3 51 := rfl
theorem h134_51 : code_ 134 51 = opB (fun x y => x + y) 52 := rfl
theorem h134_52 : code_ 134 52 = opC (vI 16) 54 := rfl
theorem h134_54 : code_ 134 54 = opCpGt 88 57 := rfl
theorem h134_57 : code_ 134 57 = opAld 0 58 := rfl
theorem h134_58 : code_ 134 58 = opGR 7 3 27 6 61 := rfl
theorem h134_61 : code_ 134 61 = opGR 6 0 1 1 64 := rfl
theorem h134_64 : code_ 134 64 = opGR 1 8 2 100012 67 := rfl
theorem h134_67 : code_ 134 67 = opIld 1 68 := rfl
theorem h134_68 : code_ 134 68 = opIal 69 := rfl
theorem h134_69 : code_ 134 69 = opIld 5 71 := rfl
theorem h134_71 : code_ 134 71 = opB shrI 72 := rfl
theorem h134_72 : code_ 134 72 = opIld 4 74 := rfl
theorem h134_74 : code_ 134 74 = opB (fun x y => x &&& y) 75 := rfl
theorem h134_75 : code_ 134 75 = opIld 2 76 := rfl
theorem h134_76 : code_ 134 76 = opCpNe 82 79 := rfl
theorem h134_79 : code_ 134 79 = opIld 5 81 := rfl
theorem h134_81 : code_ 134 81 = opIret := rfl
theorem h134_82 : code_ 134 82 = opInc 5 1 85 := rfl
theorem h134_85 : code_ 134 85 = opGoto 48 := rfl
theorem h134_88 : code_ 134 88 = opC (vI (-1)) 89 := rfl
theorem h134_89 : code_ 134 89 = opIret := rfl
theorem h135_0 : code_ 135 0 = opAld 0 1 := rfl
theorem h135_1 : code_ 135 1 = opGR 7 3 27 6 4 := rfl
theorem h135_4 : code_ 135 4 = opGR 6 0 1 1 7 := rfl
theorem h135_7 : code_ 135 7 = opIld 1 8 := rfl
theorem h135_8 : code_ 135 8 = opK kI 6 2 1 11 := rfl
theorem h135_11 : code_ 135 11 = opIfEq 28 14 := rfl
theorem h135_14 : code_ 135 14 = opAld 0 15 := rfl
theorem h135_15 : code_ 135 15 = opGR 7 3 27 6 18 := rfl
theorem h135_18 : code_ 135 18 = opGR 6 0 1 1 21 := rfl
theorem h135_21 : code_ 135 21 = opIld 2 22 := rfl
theorem h135_22 : code_ 135 22 = opK kI 6 2 1 25 := rfl
theorem h135_25 : code_ 135 25 = opIfNe 30 28 := rfl
theorem h135_28 : code_ 135 28 = opMask [0, 1, 2] (opC (vI (-1)) 29) := rfl
theorem h135_29 : code_ 135 29 = opIret := rfl
theorem h135_30 : code_ 135 30 = opC (vI 16) 32 := rfl
theorem h135_32 : code_ 135 32 = opAld 0 33 := rfl
theorem h135_33 : code_ 135 33 = opGR 7 3 27 6 36 := rfl
theorem h135_36 : code_ 135 36 = opGR 6 0 1 1 39 := rfl
theorem h135_39 : code_ 135 39 = opGR 1 8 2 100012 42 := rfl
theorem h135_42 : code_ 135 42 = opIld 1 43 := rfl
theorem h135_43 : code_ 135 43 = opIal 44 := rfl
theorem h135_44 : code_ 135 44 = opAld 0 45 := rfl
theorem h135_45 : code_ 135 45 = opGR 7 3 27 6 48 := rfl
theorem h135_48 : code_ 135 48 = opGR 6 0 1 1 51 := rfl
theorem h135_51 : code_ 135 51 = opGR 1 8 2 100012 54 := rfl
theorem h135_54 : code_ 135 54 = opIld 2 55 := rfl
theorem h135_55 : code_ 135 55 = opIal 56 := rfl
theorem h135_56 : code_ 135 56 = opB (fun x y => x ^^^ y) 57 := rfl
theorem h135_57 : code_ 135 57 = opK kI 318 1 99 60 := rfl
theorem h135_60 : code_ 135 60 = opB (fun x y => x - y) 61 := rfl
theorem h135_61 : code_ 135 61 = opIret := rfl
theorem h136_0 : code_ 136 0 = opAld 0 1 := rfl
theorem h136_1 : code_ 136 1 = opGR 7 3 27 6 4 := rfl
theorem h136_4 : code_ 136 4 = opGR 6 0 1 1 7 := rfl
theorem h136_7 : code_ 136 7 = opIld 1 8 := rfl
theorem h136_8 : code_ 136 8 = opK kI 6 2 1 11 := rfl
theorem h136_11 : code_ 136 11 = opIfNe 16 14 := rfl
theorem h136_14 : code_ 136 14 = opC (vI (-1)) 15 := rfl
theorem h136_15 : code_ 136 15 = opIret := rfl
theorem h136_16 : code_ 136 16 = opC (vI 0) 17 := rfl
theorem h136_17 : code_ 136 17 = opIst 2 18 := rfl
theorem h136_18 : code_ 136 18 = opC (vI 0) 19 := rfl
theorem h136_19 : code_ 136 19 = opIst 3 20 := rfl
theorem h136_20 : code_ 136 20 = opMask [4] (opIld 3 21) := rfl
theorem h136_21 : code_ 136 21 = opC (vI 16) 23 := rfl
theorem h136_23 : code_ 136 23 = opCpGe 70 26 := rfl
theorem h136_26 : code_ 136 26 = opIld 1 27 := rfl
theorem h136_27 : code_ 136 27 = opC (vI 16) 29 := rfl
theorem h136_29 : code_ 136 29 = opB (fun x y => x * y) 30 := rfl
theorem h136_30 : code_ 136 30 = opIld 3 31 := rfl
theorem h136_31 : code_ 136 31 = opB (fun x y => x + y) 32 := rfl
theorem h136_32 : code_ 136 32 = opIst 4 34 := rfl
theorem h136_34 : code_ 136 34 = opAld 0 35 := rfl
theorem h136_35 : code_ 136 35 = opGR 7 3 27 6 38 := rfl
theorem h136_38 : code_ 136 38 = opGR 6 0 1 1 41 := rfl
theorem h136_41 : code_ 136 41 = opIld 4 43 := rfl
theorem h136_43 : code_ 136 43 = opK kI 8 2 1 46 := rfl
theorem h136_46 : code_ 136 46 = opIfEq 64 49 := rfl
theorem h136_49 : code_ 136 49 = opIld 2 50 := rfl
theorem h136_50 : code_ 136 50 = opAld 0 51 := rfl
theorem h136_51 : code_ 136 51 = opGR 7 3 27 6 54 := rfl
theorem h136_54 : code_ 136 54 = opGR 6 0 1 1 57 := rfl
theorem h136_57 : code_ 136 57 = opIld 4 59 := rfl
theorem h136_59 : code_ 136 59 = opK kI 11 2 1 62 := rfl
theorem h136_62 : code_ 136 62 = opB (fun x y => x + y) 63 := rfl
theorem h136_63 : code_ 136 63 = opIst 2 64 := rfl
theorem h136_64 : code_ 136 64 = opMask [4] (opInc 3 1 67) := rfl
theorem h136_67 : code_ 136 67 = opGoto 20 := rfl
theorem h136_70 : code_ 136 70 = opIld 2 71 := rfl
theorem h136_71 : code_ 136 71 = opIret := rfl
theorem h137_0 : code_ 137 0 = opIld 1 1 := rfl
theorem h137_1 : code_ 137 1 = opK kI 153 1 99 4 := rfl
theorem h137_4 : code_ 137 4 = opIfNe 9 7 := rfl
theorem h137_7 : code_ 137 7 = opC (vI (-1)) 8 := rfl
theorem h137_8 : code_ 137 8 = opIret := rfl
theorem h137_9 : code_ 137 9 = opC (vI 0) 10 := rfl
theorem h137_10 : code_ 137 10 = opIst 2 11 := rfl
theorem h137_11 : code_ 137 11 = opIld 2 12 := rfl
theorem h137_12 : code_ 137 12 = opC (vI 192) 15 := rfl
theorem h137_15 : code_ 137 15 = opCpGe 55 18 := rfl
theorem h137_18 : code_ 137 18 = opAld 0 19 := rfl
theorem h137_19 : code_ 137 19 = opGR 7 3 27 6 22 := rfl
theorem h137_22 : code_ 137 22 = opGR 6 0 1 1 25 := rfl
theorem h137_25 : code_ 137 25 = opIld 2 26 := rfl
theorem h137_26 : code_ 137 26 = opK kI 8 2 1 29 := rfl
theorem h137_29 : code_ 137 29 = opIfEq 49 32 := rfl
theorem h137_32 : code_ 137 32 = opAld 0 33 := rfl
theorem h137_33 : code_ 137 33 = opGR 7 3 27 6 36 := rfl
theorem h137_36 : code_ 137 36 = opGR 6 0 1 1 39 := rfl
theorem h137_39 : code_ 137 39 = opIld 2 40 := rfl
theorem h137_40 : code_ 137 40 = opK kI 11 2 1 43 := rfl
theorem h137_43 : code_ 137 43 = opIld 1 44 := rfl
theorem h137_44 : code_ 137 44 = opCpNe 49 47 := rfl
theorem h137_47 : code_ 137 47 = opIld 2 48 := rfl
theorem h137_48 : code_ 137 48 = opIret := rfl
theorem h137_49 : code_ 137 49 = opInc 2 1 52 := rfl
theorem h137_52 : code_ 137 52 = opGoto 11 := rfl
theorem h137_55 : code_ 137 55 = opC (vI (-1)) 56 := rfl
theorem h137_56 : code_ 137 56 = opIret := rfl
theorem h138_0 : code_ 138 0 = opC (vI (-1)) 1 := rfl
theorem h138_1 : code_ 138 1 = opIst 1 2 := rfl
theorem h138_2 : code_ 138 2 = opC (vI 0) 3 := rfl
theorem h138_3 : code_ 138 3 = opIst 2 4 := rfl
theorem h138_4 : code_ 138 4 = opC (vI 0) 5 := rfl
theorem h138_5 : code_ 138 5 = opIst 3 6 := rfl
theorem h138_6 : code_ 138 6 = opMask [4] (opIld 3 7) := rfl
theorem h138_7 : code_ 138 7 = opC (vI 12) 9 := rfl
theorem h138_9 : code_ 138 9 = opCpGe 46 12 := rfl
theorem h138_12 : code_ 138 12 = opAld 0 13 := rfl
theorem h138_13 : code_ 138 13 = opGR 7 3 27 6 16 := rfl
theorem h138_16 : code_ 138 16 = opGR 6 0 1 1 19 := rfl
theorem h138_19 : code_ 138 19 = opGR 1 8 2 100012 22 := rfl
theorem h138_22 : code_ 138 22 = opIld 3 23 := rfl
theorem h138_23 : code_ 138 23 = opIal 24 := rfl
theorem h138_24 : code_ 138 24 = opK kI 318 1 99 27 := rfl
theorem h138_27 : code_ 138 27 = opIst 4 29 := rfl
theorem h138_29 : code_ 138 29 = opIld 4 31 := rfl
theorem h138_31 : code_ 138 31 = opIld 2 32 := rfl
theorem h138_32 : code_ 138 32 = opCpLe 40 35 := rfl
theorem h138_35 : code_ 138 35 = opIld 4 37 := rfl
theorem h138_37 : code_ 138 37 = opIst 2 38 := rfl
theorem h138_38 : code_ 138 38 = opIld 3 39 := rfl
theorem h138_39 : code_ 138 39 = opIst 1 40 := rfl
theorem h138_40 : code_ 138 40 = opMask [4] (opInc 3 1 43) := rfl
theorem h138_43 : code_ 138 43 = opGoto 6 := rfl
theorem h138_46 : code_ 138 46 = opIld 1 47 := rfl
theorem h138_47 : code_ 138 47 = opIret := rfl
theorem h139_0 : code_ 139 0 = opAld 0 1 := rfl
theorem h139_1 : code_ 139 1 = opGR 7 3 27 6 4 := rfl
theorem h139_4 : code_ 139 4 = opGR 6 0 1 1 7 := rfl
theorem h139_7 : code_ 139 7 = opK kI 46 1 1 10 := rfl
theorem h139_10 : code_ 139 10 = opZret := rfl
theorem h140_0 : code_ 140 0 = opAld 0 1 := rfl
theorem h140_1 : code_ 140 1 = opK (kR 5) 149 1 7 4 := rfl
theorem h140_4 : code_ 140 4 = opAld 0 5 := rfl
theorem h140_5 : code_ 140 5 = opGR 7 3 27 6 8 := rfl
theorem h140_8 : code_ 140 8 = opGR 6 0 1 1 11 := rfl
theorem h140_11 : code_ 140 11 = opK kI 92 2 5 14 := rfl
theorem h140_14 : code_ 140 14 = opIret := rfl
theorem h141_0 : code_ 141 0 = opAld 0 1 := rfl
theorem h141_1 : code_ 141 1 = opGR 7 3 27 6 4 := rfl
theorem h141_4 : code_ 141 4 = opGR 6 0 1 1 7 := rfl
theorem h141_7 : code_ 141 7 = opIld 1 8 := rfl
theorem h141_8 : code_ 141 8 = opK kI 6 2 1 11 := rfl
theorem h141_11 : code_ 141 11 = opIfEq 28 14 := rfl
theorem h141_14 : code_ 141 14 = opAld 0 15 := rfl
theorem h141_15 : code_ 141 15 = opGR 7 3 27 6 18 := rfl
theorem h141_18 : code_ 141 18 = opGR 6 0 1 1 21 := rfl
theorem h141_21 : code_ 141 21 = opIld 2 22 := rfl
theorem h141_22 : code_ 141 22 = opK kI 6 2 1 25 := rfl
theorem h141_25 : code_ 141 25 = opIfNe 30 28 := rfl
theorem h141_28 : code_ 141 28 = opMask [0, 1, 2, 3, 4] (opC (vI 0) 29) := rfl
theorem h141_29 : code_ 141 29 = opZret := rfl
theorem h141_30 : code_ 141 30 = opAld 0 31 := rfl
theorem h141_31 : code_ 141 31 = opGR 7 3 27 6 34 := rfl
theorem h141_34 : code_ 141 34 = opGR 6 0 1 1 37 := rfl
theorem h141_37 : code_ 141 37 = opAld 0 38 := rfl
theorem h141_38 : code_ 141 38 = opGR 7 3 27 6 41 := rfl
theorem h141_41 : code_ 141 41 = opGR 6 0 1 1 44 := rfl
theorem h141_44 : code_ 141 44 = opGR 1 7 1 100012 47 := rfl
theorem h141_47 : code_ 141 47 = opIld 1 48 := rfl
theorem h141_48 : code_ 141 48 = opIal 49 := rfl
theorem h141_49 : code_ 141 49 = opK kI 15 2 1 52 := rfl
theorem h141_52 : code_ 141 52 = opK kI 318 1 99 55 := rfl
theorem h141_55 : code_ 141 55 = opIst 3 56 := rfl
theorem h141_56 : code_ 141 56 = opAld 0 57 := rfl
theorem h141_57 : code_ 141 57 = opGR 7 3 27 6 60 := rfl
theorem h141_60 : code_ 141 60 = opGR 6 0 1 1 63 := rfl
theorem h141_63 : code_ 141 63 = opAld 0 64 := rfl
theorem h141_64 : code_ 141 64 = opGR 7 3 27 6 67 := rfl
theorem h141_67 : code_ 141 67 = opGR 6 0 1 1 70 := rfl
theorem h141_70 : code_ 141 70 = opGR 1 7 1 100012 73 := rfl
theorem h141_73 : code_ 141 73 = opIld 2 74 := rfl
theorem h141_74 : code_ 141 74 = opIal 75 := rfl
theorem h141_75 : code_ 141 75 = opK kI 15 2 1 78 := rfl
theorem h141_78 : code_ 141 78 = opK kI 318 1 99 81 := rfl
theorem h141_81 : code_ 141 81 = opIst 4 83 := rfl
theorem h141_83 : code_ 141 83 = opAld 0 84 := rfl
theorem h141_84 : code_ 141 84 = opK (kR 5) 149 1 7 87 := rfl
theorem h141_87 : code_ 141 87 = opC (vI 0) 88 := rfl
theorem h141_88 : code_ 141 88 = opAld 0 89 := rfl
theorem h141_89 : code_ 141 89 = opGR 7 3 27 6 92 := rfl
theorem h141_92 : code_ 141 92 = opGR 6 0 1 1 95 := rfl
theorem h141_95 : code_ 141 95 = opIld 3 96 := rfl
theorem h141_96 : code_ 141 96 = opIld 4 98 := rfl
theorem h141_98 : code_ 141 98 = opK kI 93 5 5 101 := rfl
theorem h141_101 : code_ 141 101 = opIfLe 108 104 := rfl
theorem h141_104 : code_ 141 104 = opC (vI 1) 105 := rfl
theorem h141_105 : code_ 141 105 = opGoto 109 := rfl
theorem h141_108 : code_ 141 108 = opC (vI 0) 109 := rfl
theorem h141_109 : code_ 141 109 = opMask [0, 1, 2, 3, 4] (opZret) := rfl
theorem h142_0 : code_ 142 0 = opIld 1 1 := rfl
theorem h142_1 : code_ 142 1 = opC (vI (-1)) 2 := rfl
theorem h142_2 : code_ 142 2 = opCpNe 15 5 := rfl
theorem h142_5 : code_ 142 5 = opAld 0 6 := rfl
theorem h142_6 : code_ 142 6 = opGR 7 3 27 6 9 := rfl
theorem h142_9 : code_ 142 9 = opC (vI 0) 10 := rfl
theorem h142_10 : code_ 142 10 = opPI 6 3 13 := rfl
theorem h142_13 : code_ 142 13 = opC (vI 0) 14 := rfl
theorem h142_14 : code_ 142 14 = opIret := rfl
theorem h142_15 : code_ 142 15 = opIld 1 16 := rfl
theorem h142_16 : code_ 142 16 = opIfLt 44 19 := rfl
theorem h142_19 : code_ 142 19 = opIld 1 20 := rfl
theorem h142_20 : code_ 142 20 = opC (vI 16) 22 := rfl
theorem h142_22 : code_ 142 22 = opCpGt 44 25 := rfl
theorem h142_25 : code_ 142 25 = opIld 2 26 := rfl
theorem h142_26 : code_ 142 26 = opIfLt 44 29 := rfl
theorem h142_29 : code_ 142 29 = opIld 2 30 := rfl
theorem h142_30 : code_ 142 30 = opC (vI 16) 32 := rfl
theorem h142_32 : code_ 142 32 = opCpGt 44 35 := rfl
theorem h142_35 : code_ 142 35 = opIld 3 36 := rfl
theorem h142_36 : code_ 142 36 = opIfLt 44 39 := rfl
theorem h142_39 : code_ 142 39 = opIld 3 40 := rfl
theorem h142_40 : code_ 142 40 = opC (vI 1) 41 := rfl
theorem h142_41 : code_ 142 41 = opCpLe 47 44 := rfl
theorem h142_44 : code_ 142 44 = opMask [0, 1, 2, 3] (opC (vI (-2)) 46) := rfl
theorem h142_46 : code_ 142 46 = opIret := rfl
theorem h142_47 : code_ 142 47 = opAld 0 48 := rfl
theorem h142_48 : code_ 142 48 = opGR 7 3 27 6 51 := rfl
theorem h142_51 : code_ 142 51 = opGI 6 3 54 := rfl
theorem h142_54 : code_ 142 54 = opIfLt 69 57 := rfl
theorem h142_57 : code_ 142 57 = opAld 0 58 := rfl
theorem h142_58 : code_ 142 58 = opGR 7 3 27 6 61 := rfl
theorem h142_61 : code_ 142 61 = opGI 6 3 64 := rfl
theorem h142_64 : code_ 142 64 = opC (vI 8) 66 := rfl
theorem h142_66 : code_ 142 66 = opCpLt 72 69 := rfl
theorem h142_69 : code_ 142 69 = opMask [0, 1, 2, 3] (opC (vI (-2)) 71) := rfl
theorem h142_71 : code_ 142 71 = opIret := rfl
theorem h142_72 : code_ 142 72 = opAld 0 73 := rfl
theorem h142_73 : code_ 142 73 = opGR 7 3 27 6 76 := rfl
theorem h142_76 : code_ 142 76 = opGR 6 2 220 100008 79 := rfl
theorem h142_79 : code_ 142 79 = opAld 0 80 := rfl
theorem h142_80 : code_ 142 80 = opGR 7 3 27 6 83 := rfl
theorem h142_83 : code_ 142 83 = opGI 6 3 86 := rfl
theorem h142_86 : code_ 142 86 = opIld 1 87 := rfl
theorem h142_87 : code_ 142 87 = opC (vI 8) 89 := rfl
theorem h142_89 : code_ 142 89 = opB shlI 90 := rfl
theorem h142_90 : code_ 142 90 = opIld 2 91 := rfl
theorem h142_91 : code_ 142 91 = opC (vI 1) 92 := rfl
theorem h142_92 : code_ 142 92 = opB shlI 93 := rfl
theorem h142_93 : code_ 142 93 = opB (fun x y => x ||| y) 94 := rfl
theorem h142_94 : code_ 142 94 = opIld 3 95 := rfl
theorem h142_95 : code_ 142 95 = opB (fun x y => x ||| y) 96 := rfl
theorem h142_96 : code_ 142 96 = opIas 97 := rfl
theorem h142_97 : code_ 142 97 = opAld 0 98 := rfl
theorem h142_98 : code_ 142 98 = opGR 7 3 27 6 101 := rfl
theorem h142_101 : code_ 142 101 = opDup 102 := rfl
theorem h142_102 : code_ 142 102 = opGI 6 3 105 := rfl
theorem h142_105 : code_ 142 105 = opC (vI 1) 106 := rfl
theorem h142_106 : code_ 142 106 = opB (fun x y => x + y) 107 := rfl
theorem h142_107 : code_ 142 107 = opPI 6 3 110 := rfl
theorem h142_110 : code_ 142 110 = opAld 0 111 := rfl
theorem h142_111 : code_ 142 111 = opGR 7 3 27 6 114 := rfl
theorem h142_114 : code_ 142 114 = opGI 6 3 117 := rfl
theorem h142_117 : code_ 142 117 = opIret := rfl
theorem h143_0 : code_ 143 0 = opC (vI 0) 1 := rfl
theorem h143_1 : code_ 143 1 = opIst 1 2 := rfl
theorem h143_2 : code_ 143 2 = opC (vI 0) 3 := rfl
theorem h143_3 : code_ 143 3 = opIst 2 4 := rfl
theorem h143_4 : code_ 143 4 = opIld 2 5 := rfl
theorem h143_5 : code_ 143 5 = opAld 0 6 := rfl
theorem h143_6 : code_ 143 6 = opGR 7 3 27 6 9 := rfl
theorem h143_9 : code_ 143 9 = opGI 6 4 12 := rfl
theorem h143_12 : code_ 143 12 = opCpGe 45 15 := rfl
theorem h143_15 : code_ 143 15 = opIld 2 16 := rfl
theorem h143_16 : code_ 143 16 = opC (vI 4) 17 := rfl
theorem h143_17 : code_ 143 17 = opCpGe 45 20 := rfl
theorem h143_20 : code_ 143 20 = opAld 0 21 := rfl
theorem h143_21 : code_ 143 21 = opAld 0 22 := rfl
theorem h143_22 : code_ 143 22 = opGR 7 1 16 20 25 := rfl
theorem h143_25 : code_ 143 25 = opIld 2 26 := rfl
theorem h143_26 : code_ 143 26 = opAal 20 5 4 468 10 27 := rfl
theorem h143_27 : code_ 143 27 = opK kI 151 2 7 30 := rfl
theorem h143_30 : code_ 143 30 = opIfEq 39 33 := rfl
theorem h143_33 : code_ 143 33 = opIld 1 34 := rfl
theorem h143_34 : code_ 143 34 = opC (vI 1) 35 := rfl
theorem h143_35 : code_ 143 35 = opIld 2 36 := rfl
theorem h143_36 : code_ 143 36 = opB shlI 37 := rfl
theorem h143_37 : code_ 143 37 = opB (fun x y => x ||| y) 38 := rfl
theorem h143_38 : code_ 143 38 = opIst 1 39 := rfl
theorem h143_39 : code_ 143 39 = opInc 2 1 42 := rfl
theorem h143_42 : code_ 143 42 = opGoto 4 := rfl
theorem h143_45 : code_ 143 45 = opMask [0, 2] (opIld 1 46) := rfl
theorem h143_46 : code_ 143 46 = opIret := rfl
theorem h144_0 : code_ 144 0 = opIld 1 1 := rfl
theorem h144_1 : code_ 144 1 = opIfLt 9 4 := rfl
theorem h144_4 : code_ 144 4 = opIld 1 5 := rfl
theorem h144_5 : code_ 144 5 = opC (vI 5) 6 := rfl
theorem h144_6 : code_ 144 6 = opCpLt 12 9 := rfl
theorem h144_9 : code_ 144 9 = opMask [0, 1, 2, 3] (opC (vI (-2)) 11) := rfl
theorem h144_11 : code_ 144 11 = opIret := rfl
theorem h144_12 : code_ 144 12 = opC (vI 0) 13 := rfl
theorem h144_13 : code_ 144 13 = opIst 2 14 := rfl
theorem h144_14 : code_ 144 14 = opC (vI 0) 15 := rfl
theorem h144_15 : code_ 144 15 = opIst 3 16 := rfl
theorem h144_16 : code_ 144 16 = opIld 3 17 := rfl
theorem h144_17 : code_ 144 17 = opAld 0 18 := rfl
theorem h144_18 : code_ 144 18 = opGR 7 3 27 6 21 := rfl
theorem h144_21 : code_ 144 21 = opGR 6 0 1 1 24 := rfl
theorem h144_24 : code_ 144 24 = opGI 1 6 27 := rfl
theorem h144_27 : code_ 144 27 = opCpGe 67 30 := rfl
theorem h144_30 : code_ 144 30 = opIld 3 31 := rfl
theorem h144_31 : code_ 144 31 = opC (vI 25) 33 := rfl
theorem h144_33 : code_ 144 33 = opCpGe 67 36 := rfl
theorem h144_36 : code_ 144 36 = opAld 0 37 := rfl
theorem h144_37 : code_ 144 37 = opGR 7 3 27 6 40 := rfl
theorem h144_40 : code_ 144 40 = opGR 6 0 1 1 43 := rfl
theorem h144_43 : code_ 144 43 = opGR 1 11 5 100025 46 := rfl
theorem h144_46 : code_ 144 46 = opIld 3 47 := rfl
theorem h144_47 : code_ 144 47 = opIal 48 := rfl
theorem h144_48 : code_ 144 48 = opC (vI 8) 50 := rfl
theorem h144_50 : code_ 144 50 = opB shrI 51 := rfl
theorem h144_51 : code_ 144 51 = opC (vI 15) 53 := rfl
theorem h144_53 : code_ 144 53 = opB (fun x y => x &&& y) 54 := rfl
theorem h144_54 : code_ 144 54 = opIld 1 55 := rfl
theorem h144_55 : code_ 144 55 = opCpNe 61 58 := rfl
theorem h144_58 : code_ 144 58 = opInc 2 1 61 := rfl
theorem h144_61 : code_ 144 61 = opInc 3 1 64 := rfl
theorem h144_64 : code_ 144 64 = opGoto 16 := rfl
theorem h144_67 : code_ 144 67 = opMask [0, 1, 3] (opIld 2 68) := rfl
theorem h144_68 : code_ 144 68 = opIret := rfl
theorem h145_0 : code_ 145 0 = opAld 0 1 := rfl
theorem h145_1 : code_ 145 1 = opGR 7 4 248 6 4 := rfl
theorem h145_4 : code_ 145 4 = opAld 0 5 := rfl
theorem h145_5 : code_ 145 5 = opGR 7 3 27 6 8 := rfl
theorem h145_8 : code_ 145 8 = opK kV 98 2 6 11 := rfl
theorem h145_11 : code_ 145 11 = opAld 0 12 := rfl
theorem h145_12 : code_ 145 12 = opGR 7 3 27 6 15 := rfl
theorem h145_15 : code_ 145 15 = opGR 6 0 1 1 18 := rfl
theorem h145_18 : code_ 145 18 = opGI 1 0 21 := rfl
theorem h145_21 : code_ 145 21 = opIret := rfl
theorem h146_0 : code_ 146 0 = opAld 0 1 := rfl
theorem h146_1 : code_ 146 1 = opGR 7 3 27 6 4 := rfl
theorem h146_4 : code_ 146 4 = opAld 0 5 := rfl
theorem h146_5 : code_ 146 5 = opGR 7 4 248 6 8 := rfl
theorem h146_8 : code_ 146 8 = opK kV 98 2 6 11 := rfl
theorem h146_11 : code_ 146 11 = opAld 0 12 := rfl
theorem h146_12 : code_ 146 12 = opGR 7 3 27 6 15 := rfl
theorem h146_15 : code_ 146 15 = opGR 6 0 1 1 18 := rfl
theorem h146_18 : code_ 146 18 = opGI 1 0 21 := rfl
theorem h146_21 : code_ 146 21 = opIret := rfl
theorem h147_0 : code_ 147 0 = opIld 1 1 := rfl
theorem h147_1 : code_ 147 1 = opSw 109 [(0, 44), (1, 52), (2, 60), (3, 71), (4, 79), (5, 87), (6, 98)] := rfl
theorem h147_44 : code_ 147 44 = opAld 0 45 := rfl
theorem h147_45 : code_ 147 45 = opGR 7 3 27 6 48 := rfl
theorem h147_48 : code_ 147 48 = opGI 6 4 51 := rfl
theorem h147_51 : code_ 147 51 = opIret := rfl
theorem h147_52 : code_ 147 52 = opAld 0 53 := rfl
theorem h147_53 : code_ 147 53 = opGR 7 3 27 6 56 := rfl
theorem h147_56 : code_ 147 56 = opGI 6 5 59 := rfl
theorem h147_59 : code_ 147 59 = opIret := rfl
theorem h147_60 : code_ 147 60 = opAld 0 61 := rfl
theorem h147_61 : code_ 147 61 = opGR 7 3 27 6 64 := rfl
theorem h147_64 : code_ 147 64 = opGR 6 1 8 4 67 := rfl
theorem h147_67 : code_ 147 67 = opGI 4 2 70 := rfl
theorem h147_70 : code_ 147 70 = opIret := rfl
theorem h147_71 : code_ 147 71 = opAld 0 72 := rfl
theorem h147_72 : code_ 147 72 = opGR 7 3 27 6 75 := rfl
theorem h147_75 : code_ 147 75 = opGI 6 3 78 := rfl
theorem h147_78 : code_ 147 78 = opIret := rfl
theorem h147_79 : code_ 147 79 = opAld 0 80 := rfl
theorem h147_80 : code_ 147 80 = opGR 7 0 1 3 83 := rfl
theorem h147_83 : code_ 147 83 = opGI 3 1 86 := rfl
theorem h147_86 : code_ 147 86 = opIret := rfl
theorem h147_87 : code_ 147 87 = opAld 0 88 := rfl
theorem h147_88 : code_ 147 88 = opGR 7 3 27 6 91 := rfl
theorem h147_91 : code_ 147 91 = opGR 6 0 1 1 94 := rfl
theorem h147_94 : code_ 147 94 = opGI 1 3 97 := rfl
theorem h147_97 : code_ 147 97 = opIret := rfl
theorem h147_98 : code_ 147 98 = opAld 0 99 := rfl
theorem h147_99 : code_ 147 99 = opGR 7 3 27 6 102 := rfl
theorem h147_102 : code_ 147 102 = opGR 6 0 1 1 105 := rfl
theorem h147_105 : code_ 147 105 = opK kI 37 1 1 108 := rfl
theorem h147_108 : code_ 147 108 = opIret := rfl
theorem h147_109 : code_ 147 109 = opC (vI (-2)) 111 := rfl
theorem h147_111 : code_ 147 111 = opIret := rfl
theorem h148_0 : code_ 148 0 = opIld 1 1 := rfl
theorem h148_1 : code_ 148 1 = opIfLt 24 4 := rfl
theorem h148_4 : code_ 148 4 = opIld 1 5 := rfl
theorem h148_5 : code_ 148 5 = opAld 0 6 := rfl
theorem h148_6 : code_ 148 6 = opGR 7 3 27 6 9 := rfl
theorem h148_9 : code_ 148 9 = opGI 6 4 12 := rfl
theorem h148_12 : code_ 148 12 = opCpGe 24 15 := rfl
theorem h148_15 : code_ 148 15 = opIld 1 16 := rfl
theorem h148_16 : code_ 148 16 = opC (vI 4) 17 := rfl
theorem h148_17 : code_ 148 17 = opCpGe 24 20 := rfl
theorem h148_20 : code_ 148 20 = opC (vI 1) 21 := rfl
theorem h148_21 : code_ 148 21 = opGoto 25 := rfl
theorem h148_24 : code_ 148 24 = opMask [0, 1] (opC (vI 0) 25) := rfl
theorem h148_25 : code_ 148 25 = opMask [0, 1] (opZret) := rfl
theorem h149_0 : code_ 149 0 = opAld 0 1 := rfl
theorem h149_1 : code_ 149 1 = opAld 0 2 := rfl
theorem h149_2 : code_ 149 2 = opGR 7 3 27 6 5 := rfl
theorem h149_5 : code_ 149 5 = opGI 6 5 8 := rfl
theorem h149_8 : code_ 149 8 = opK kI 148 2 7 11 := rfl
theorem h149_11 : code_ 149 11 = opIfEq 29 14 := rfl
theorem h149_14 : code_ 149 14 = opAld 0 15 := rfl
theorem h149_15 : code_ 149 15 = opGR 7 1 16 20 18 := rfl
theorem h149_18 : code_ 149 18 = opAld 0 19 := rfl
theorem h149_19 : code_ 149 19 = opGR 7 3 27 6 22 := rfl
theorem h149_22 : code_ 149 22 = opGI 6 5 25 := rfl
theorem h149_25 : code_ 149 25 = opAal 20 5 4 468 10 26 := rfl
theorem h149_26 : code_ 149 26 = opGoto 33 := rfl
theorem h149_29 : code_ 149 29 = opAld 0 30 := rfl
theorem h149_30 : code_ 149 30 = opGR 7 2 17 5 33 := rfl
theorem h149_33 : code_ 149 33 = opMask [0] (opAret) := rfl
theorem h150_0 : code_ 150 0 = opC (vI 0) 1 := rfl
theorem h150_1 : code_ 150 1 = opIst 2 2 := rfl
theorem h150_2 : code_ 150 2 = opC (vI 0) 3 := rfl
theorem h150_3 : code_ 150 3 = opIst 3 4 := rfl
theorem h150_4 : code_ 150 4 = opIld 3 5 := rfl
theorem h150_5 : code_ 150 5 = opIld 1 6 := rfl
theorem h150_6 : code_ 150 6 = opCpGe 68 9 := rfl
theorem h150_9 : code_ 150 9 = opAld 0 10 := rfl
theorem h150_10 : code_ 150 10 = opGR 7 3 27 6 13 := rfl
theorem h150_13 : code_ 150 13 = opGR 6 0 1 1 16 := rfl
theorem h150_16 : code_ 150 16 = opGI 1 0 19 := rfl
theorem h150_19 : code_ 150 19 = opC (vI 9999) 22 := rfl
theorem h150_22 : code_ 150 22 = opCpGe 68 25 := rfl
theorem h150_25 : code_ 150 25 = opAld 0 26 := rfl
theorem h150_26 : code_ 150 26 = opGR 7 3 27 6 29 := rfl
theorem h150_29 : code_ 150 29 = opGR 6 1 8 4 32 := rfl
theorem h150_32 : code_ 150 32 = opAld 0 33 := rfl
theorem h150_33 : code_ 150 33 = opGR 7 3 27 6 36 := rfl
theorem h150_36 : code_ 150 36 = opGR 6 0 1 1 39 := rfl
theorem h150_39 : code_ 150 39 = opK kV 81 2 4 42 := rfl
theorem h150_42 : code_ 150 42 = opAld 0 43 := rfl
theorem h150_43 : code_ 150 43 = opGR 7 3 27 6 46 := rfl
theorem h150_46 : code_ 150 46 = opGR 6 0 1 1 49 := rfl
theorem h150_49 : code_ 150 49 = opAld 0 50 := rfl
theorem h150_50 : code_ 150 50 = opK (kR 5) 149 1 7 53 := rfl
theorem h150_53 : code_ 150 53 = opK kI 44 2 1 56 := rfl
theorem h150_56 : code_ 150 56 = opIfEq 62 59 := rfl
theorem h150_59 : code_ 150 59 = opInc 2 1 62 := rfl
theorem h150_62 : code_ 150 62 = opInc 3 1 65 := rfl
theorem h150_65 : code_ 150 65 = opGoto 4 := rfl
theorem h150_68 : code_ 150 68 = opMask [0, 1, 3] (opIld 2 69) := rfl
theorem h150_69 : code_ 150 69 = opIret := rfl
theorem h151_0 : code_ 151 0 = opC (vI 0) 1 := rfl
theorem h151_1 : code_ 151 1 = opIst 2 2 := rfl
theorem h151_2 : code_ 151 2 = opMask [3, 4] (opIld 2 3) := rfl
theorem h151_3 : code_ 151 3 = opAld 0 4 := rfl
theorem h151_4 : code_ 151 4 = opGR 7 3 27 6 7 := rfl
theorem h151_7 : code_ 151 7 = opGI 6 3 10 := rfl
theorem h151_10 : code_ 151 10 = opCpGe 86 13 := rfl
theorem h151_13 : code_ 151 13 = opIld 2 14 := rfl
theorem h151_14 : code_ 151 14 = opC (vI 8) 16 := rfl
theorem h151_16 : code_ 151 16 = opCpGe 86 19 := rfl
theorem h151_19 : code_ 151 19 = opAld 0 20 := rfl
theorem h151_20 : code_ 151 20 = opGR 7 3 27 6 23 := rfl
theorem h151_23 : code_ 151 23 = opGR 6 2 220 100008 26 := rfl
theorem h151_26 : code_ 151 26 = opIld 2 27 := rfl
theorem h151_27 : code_ 151 27 = opIal 28 := rfl
theorem h151_28 : code_ 151 28 = opIst 3 29 := rfl
theorem h151_29 : code_ 151 29 = opAld 1 30 := rfl
theorem h151_30 : code_ 151 30 = opC (vI 0) 31 := rfl
theorem h151_31 : code_ 151 31 = opAld 0 32 := rfl
theorem h151_32 : code_ 151 32 = opGR 7 3 27 6 35 := rfl
theorem h151_35 : code_ 151 35 = opGR 6 0 1 1 38 := rfl
theorem h151_38 : code_ 151 38 = opIld 3 39 := rfl
theorem h151_39 : code_ 151 39 = opC (vI 8) 41 := rfl
theorem h151_41 : code_ 151 41 = opB shrI 42 := rfl
theorem h151_42 : code_ 151 42 = opIld 3 43 := rfl
theorem h151_43 : code_ 151 43 = opC (vI 1) 44 := rfl
theorem h151_44 : code_ 151 44 = opB shrI 45 := rfl
theorem h151_45 : code_ 151 45 = opC (vI 127) 47 := rfl
theorem h151_47 : code_ 151 47 = opB (fun x y => x &&& y) 48 := rfl
theorem h151_48 : code_ 151 48 = opK kI 93 5 5 51 := rfl
theorem h151_51 : code_ 151 51 = opIfLe 58 54 := rfl
theorem h151_54 : code_ 151 54 = opC (vI 1) 55 := rfl
theorem h151_55 : code_ 151 55 = opGoto 59 := rfl
theorem h151_58 : code_ 151 58 = opC (vI 0) 59 := rfl
theorem h151_59 : code_ 151 59 = opMask [4] (opIst 4 61) := rfl
theorem h151_61 : code_ 151 61 = opIld 4 63 := rfl
theorem h151_63 : code_ 151 63 = opIld 3 64 := rfl
theorem h151_64 : code_ 151 64 = opC (vI 1) 65 := rfl
theorem h151_65 : code_ 151 65 = opB (fun x y => x &&& y) 66 := rfl
theorem h151_66 : code_ 151 66 = opC (vI 1) 67 := rfl
theorem h151_67 : code_ 151 67 = opCpNe 74 70 := rfl
theorem h151_70 : code_ 151 70 = opC (vI 1) 71 := rfl
theorem h151_71 : code_ 151 71 = opGoto 75 := rfl
theorem h151_74 : code_ 151 74 = opC (vI 0) 75 := rfl
theorem h151_75 : code_ 151 75 = opMask [3, 4] (opCpEq 80 78) := rfl
theorem h151_78 : code_ 151 78 = opC (vI 0) 79 := rfl
theorem h151_79 : code_ 151 79 = opZret := rfl
theorem h151_80 : code_ 151 80 = opInc 2 1 83 := rfl
theorem h151_83 : code_ 151 83 = opGoto 2 := rfl
theorem h151_86 : code_ 151 86 = opMask [0, 1, 2, 3, 4] (opC (vI 1) 87) := rfl
theorem h151_87 : code_ 151 87 = opZret := rfl
theorem h152_0 : code_ 152 0 = opIld 0 1 := rfl
theorem h152_1 : code_ 152 1 = opIfLt 14 4 := rfl
theorem h152_4 : code_ 152 4 = opIld 0 5 := rfl
theorem h152_5 : code_ 152 5 = opC (vI 12) 7 := rfl
theorem h152_7 : code_ 152 7 = opCpGe 14 10 := rfl
theorem h152_10 : code_ 152 10 = opC (vI 1) 11 := rfl
theorem h152_11 : code_ 152 11 = opGoto 15 := rfl
theorem h152_14 : code_ 152 14 = opMask [0] (opC (vI 0) 15) := rfl
theorem h152_15 : code_ 152 15 = opMask [0] (opZret) := rfl
theorem h153_0 : code_ 153 0 = opIld 0 1 := rfl
theorem h153_1 : code_ 153 1 = opIfLt 15 4 := rfl
theorem h153_4 : code_ 153 4 = opIld 0 5 := rfl
theorem h153_5 : code_ 153 5 = opC (vI 1000) 8 := rfl
theorem h153_8 : code_ 153 8 = opCpGe 15 11 := rfl
theorem h153_11 : code_ 153 11 = opC (vI 1) 12 := rfl
theorem h153_12 : code_ 153 12 = opGoto 16 := rfl
theorem h153_15 : code_ 153 15 = opMask [0] (opC (vI 0) 16) := rfl
theorem h153_16 : code_ 153 16 = opMask [0] (opZret) := rfl
theorem h154_0 : code_ 154 0 = opIld 1 1 := rfl
theorem h154_1 : code_ 154 1 = opIld 0 2 := rfl
theorem h154_2 : code_ 154 2 = opCpLe 7 5 := rfl
theorem h154_5 : code_ 154 5 = opC (vL 0) 6 := rfl
theorem h154_6 : code_ 154 6 = opLret := rfl
theorem h154_7 : code_ 154 7 = opC (vL 1) 8 := rfl
theorem h154_8 : code_ 154 8 = opLst 2 9 := rfl
theorem h154_9 : code_ 154 9 = opC (vI 0) 10 := rfl
theorem h154_10 : code_ 154 10 = opIst 4 12 := rfl
theorem h154_12 : code_ 154 12 = opIld 4 14 := rfl
theorem h154_14 : code_ 154 14 = opIld 1 15 := rfl
theorem h154_15 : code_ 154 15 = opCpGe 38 18 := rfl
theorem h154_18 : code_ 154 18 = opLld 2 19 := rfl
theorem h154_19 : code_ 154 19 = opIld 0 20 := rfl
theorem h154_20 : code_ 154 20 = opIld 4 22 := rfl
theorem h154_22 : code_ 154 22 = opB (fun x y => x - y) 23 := rfl
theorem h154_23 : code_ 154 23 = opI2L 24 := rfl
theorem h154_24 : code_ 154 24 = opLB (fun x y => x * y) 25 := rfl
theorem h154_25 : code_ 154 25 = opIld 4 27 := rfl
theorem h154_27 : code_ 154 27 = opC (vI 1) 28 := rfl
theorem h154_28 : code_ 154 28 = opB (fun x y => x + y) 29 := rfl
theorem h154_29 : code_ 154 29 = opI2L 30 := rfl
theorem h154_30 : code_ 154 30 = opLBz (fun x y => x / y) 31 := rfl
theorem h154_31 : code_ 154 31 = opLst 2 32 := rfl
theorem h154_32 : code_ 154 32 = opInc 4 1 35 := rfl
theorem h154_35 : code_ 154 35 = opGoto 12 := rfl
theorem h154_38 : code_ 154 38 = opLld 2 39 := rfl
theorem h154_39 : code_ 154 39 = opLret := rfl
theorem h155_0 : code_ 155 0 = opIld 0 1 := rfl
theorem h155_1 : code_ 155 1 = opK kI 318 1 99 4 := rfl
theorem h155_4 : code_ 155 4 = opIst 2 5 := rfl
theorem h155_5 : code_ 155 5 = opIld 1 6 := rfl
theorem h155_6 : code_ 155 6 = opK kI 318 1 99 9 := rfl
theorem h155_9 : code_ 155 9 = opIst 3 10 := rfl
theorem h155_10 : code_ 155 10 = opC (vI 16) 12 := rfl
theorem h155_12 : code_ 155 12 = opIld 3 13 := rfl
theorem h155_13 : code_ 155 13 = opK kL 154 2 99 16 := rfl
theorem h155_16 : code_ 155 16 = opLst 4 18 := rfl
theorem h155_18 : code_ 155 18 = opLld 4 20 := rfl
theorem h155_20 : code_ 155 20 = opC (vL 0) 21 := rfl
theorem h155_21 : code_ 155 21 = opLcmp 22 := rfl
theorem h155_22 : code_ 155 22 = opIfNe 29 25 := rfl
theorem h155_25 : code_ 155 25 = opC (vL 0) 26 := rfl
theorem h155_26 : code_ 155 26 = opGoto 44 := rfl
theorem h155_29 : code_ 155 29 = opC (vI 16) 31 := rfl
theorem h155_31 : code_ 155 31 = opIld 2 32 := rfl
theorem h155_32 : code_ 155 32 = opB (fun x y => x - y) 33 := rfl
theorem h155_33 : code_ 155 33 = opIld 3 34 := rfl
theorem h155_34 : code_ 155 34 = opK kL 154 2 99 37 := rfl
theorem h155_37 : code_ 155 37 = opC (vL 720720) 40 := rfl
theorem h155_40 : code_ 155 40 = opLld 4 42 := rfl
theorem h155_42 : code_ 155 42 = opLBz (fun x y => x / y) 43 := rfl
theorem h155_43 : code_ 155 43 = opLB (fun x y => x * y) 44 := rfl
theorem h155_44 : code_ 155 44 = opMask [0, 1, 2, 3, 4, 5] (opLret) := rfl
theorem h156_0 : code_ 156 0 = opLld 2 1 := rfl
theorem h156_1 : code_ 156 1 = opLst 5 3 := rfl
theorem h156_3 : code_ 156 3 = opLld 0 4 := rfl
theorem h156_4 : code_ 156 4 = opLst 7 6 := rfl
theorem h156_6 : code_ 156 6 = opC (vI 0) 7 := rfl
theorem h156_7 : code_ 156 7 = opIst 9 9 := rfl
theorem h156_9 : code_ 156 9 = opMask [10, 11] (opIld 9 11) := rfl
theorem h156_11 : code_ 156 11 = opC (vI 100) 13 := rfl
theorem h156_13 : code_ 156 13 = opCpGe 44 16 := rfl
theorem h156_16 : code_ 156 16 = opLld 7 18 := rfl
theorem h156_18 : code_ 156 18 = opC (vL 0) 19 := rfl
theorem h156_19 : code_ 156 19 = opLcmp 20 := rfl
theorem h156_20 : code_ 156 20 = opIfEq 44 23 := rfl
theorem h156_23 : code_ 156 23 = opLld 5 25 := rfl
theorem h156_25 : code_ 156 25 = opLld 7 27 := rfl
theorem h156_27 : code_ 156 27 = opLBz remL 28 := rfl
theorem h156_28 : code_ 156 28 = opLst 10 30 := rfl
theorem h156_30 : code_ 156 30 = opLld 7 32 := rfl
theorem h156_32 : code_ 156 32 = opLst 5 34 := rfl
theorem h156_34 : code_ 156 34 = opLld 10 36 := rfl
theorem h156_36 : code_ 156 36 = opLst 7 38 := rfl
theorem h156_38 : code_ 156 38 = opInc 9 1 41 := rfl
theorem h156_41 : code_ 156 41 = opGoto 9 := rfl
theorem h156_44 : code_ 156 44 = opMask [7, 8, 9, 10, 11] (opLld 5 46) := rfl
theorem h156_46 : code_ 156 46 = opC (vL 0) 47 := rfl
theorem h156_47 : code_ 156 47 = opLcmp 48 := rfl
theorem h156_48 : code_ 156 48 = opIfNe 53 51 := rfl
theorem h156_51 : code_ 156 51 = opC (vL 0) 52 := rfl
theorem h156_52 : code_ 156 52 = opLret := rfl
theorem h156_53 : code_ 156 53 = opIld 4 55 := rfl
theorem h156_55 : code_ 156 55 = opIfEq 62 58 := rfl
theorem h156_58 : code_ 156 58 = opLld 2 59 := rfl
theorem h156_59 : code_ 156 59 = opGoto 63 := rfl
theorem h156_62 : code_ 156 62 = opLld 0 63 := rfl
theorem h156_63 : code_ 156 63 = opMask [0, 1, 2, 3, 4, 7, 8, 9, 10, 11] (opLld 5 65) := rfl
theorem h156_65 : code_ 156 65 = opLBz (fun x y => x / y) 66 := rfl
theorem h156_66 : code_ 156 66 = opLret := rfl
theorem h157_0 : code_ 157 0 = opC (vI 0) 1 := rfl
theorem h157_1 : code_ 157 1 = opIst 2 2 := rfl
theorem h157_2 : code_ 157 2 = opIld 2 3 := rfl
theorem h157_3 : code_ 157 3 = opC (vI 13669) 6 := rfl
theorem h157_6 : code_ 157 6 = opCpGe 21 9 := rfl
theorem h157_9 : code_ 157 9 = opAld 1 10 := rfl
theorem h157_10 : code_ 157 10 = opIld 2 11 := rfl
theorem h157_11 : code_ 157 11 = opAld 0 12 := rfl
theorem h157_12 : code_ 157 12 = opIld 2 13 := rfl
theorem h157_13 : code_ 157 13 = opIal 14 := rfl
theorem h157_14 : code_ 157 14 = opIas 15 := rfl
theorem h157_15 : code_ 157 15 = opInc 2 1 18 := rfl
theorem h157_18 : code_ 157 18 = opGoto 2 := rfl
theorem h157_21 : code_ 157 21 = opRet := rfl
theorem h158_0 : code_ 158 0 = opIld 0 1 := rfl
theorem h158_1 : code_ 158 1 = opIld 1 2 := rfl
theorem h158_2 : code_ 158 2 = opCpLt 14 5 := rfl
theorem h158_5 : code_ 158 5 = opIld 0 6 := rfl
theorem h158_6 : code_ 158 6 = opIld 2 7 := rfl
theorem h158_7 : code_ 158 7 = opCpGt 14 10 := rfl
theorem h158_10 : code_ 158 10 = opC (vI 1) 11 := rfl
theorem h158_11 : code_ 158 11 = opGoto 15 := rfl
theorem h158_14 : code_ 158 14 = opMask [0, 1, 2] (opC (vI 0) 15) := rfl
theorem h158_15 : code_ 158 15 = opMask [0, 1, 2] (opZret) := rfl
theorem h159_0 : code_ 159 0 = opLld 0 1 := rfl
theorem h159_1 : code_ 159 1 = opIld 2 2 := rfl
theorem h159_2 : code_ 159 2 = opI2L 3 := rfl
theorem h159_3 : code_ 159 3 = opLcmp 4 := rfl
theorem h159_4 : code_ 159 4 = opIfGe 11 7 := rfl
theorem h159_7 : code_ 159 7 = opIld 2 8 := rfl
theorem h159_8 : code_ 159 8 = opGoto 24 := rfl
theorem h159_11 : code_ 159 11 = opLld 0 12 := rfl
theorem h159_12 : code_ 159 12 = opIld 3 13 := rfl
theorem h159_13 : code_ 159 13 = opI2L 14 := rfl
theorem h159_14 : code_ 159 14 = opLcmp 15 := rfl
theorem h159_15 : code_ 159 15 = opIfLe 22 18 := rfl
theorem h159_18 : code_ 159 18 = opIld 3 19 := rfl
theorem h159_19 : code_ 159 19 = opGoto 24 := rfl
theorem h159_22 : code_ 159 22 = opLld 0 23 := rfl
theorem h159_23 : code_ 159 23 = opL2I 24 := rfl
theorem h159_24 : code_ 159 24 = opMask [0, 1, 2, 3] (opIret) := rfl
theorem h160_0 : code_ 160 0 = opIld 0 1 := rfl
theorem h160_1 : code_ 160 1 = opIld 1 2 := rfl
theorem h160_2 : code_ 160 2 = opB shrI 3 := rfl
theorem h160_3 : code_ 160 3 = opC (vI 1) 4 := rfl
theorem h160_4 : code_ 160 4 = opB (fun x y => x &&& y) 5 := rfl
theorem h160_5 : code_ 160 5 = opC (vI 1) 6 := rfl
theorem h160_6 : code_ 160 6 = opCpNe 13 9 := rfl
theorem h160_9 : code_ 160 9 = opC (vI 1) 10 := rfl
theorem h160_10 : code_ 160 10 = opGoto 14 := rfl
theorem h160_13 : code_ 160 13 = opC (vI 0) 14 := rfl
theorem h160_14 : code_ 160 14 = opMask [0, 1] (opZret) := rfl
theorem h161_0 : code_ 161 0 = opC (vI 0) 1 := rfl
theorem h161_1 : code_ 161 1 = opIst 1 2 := rfl
theorem h161_2 : code_ 161 2 = opIld 0 3 := rfl
theorem h161_3 : code_ 161 3 = opIst 2 4 := rfl
theorem h161_4 : code_ 161 4 = opMask [0] (opIld 2 5) := rfl
theorem h161_5 : code_ 161 5 = opIfEq 20 8 := rfl
theorem h161_8 : code_ 161 8 = opInc 1 1 11 := rfl
theorem h161_11 : code_ 161 11 = opIld 2 12 := rfl
theorem h161_12 : code_ 161 12 = opIld 2 13 := rfl
theorem h161_13 : code_ 161 13 = opC (vI 1) 14 := rfl
theorem h161_14 : code_ 161 14 = opB (fun x y => x - y) 15 := rfl
theorem h161_15 : code_ 161 15 = opB (fun x y => x &&& y) 16 := rfl
theorem h161_16 : code_ 161 16 = opIst 2 17 := rfl
theorem h161_17 : code_ 161 17 = opGoto 4 := rfl
theorem h161_20 : code_ 161 20 = opIld 1 21 := rfl
theorem h161_21 : code_ 161 21 = opIret := rfl
theorem h162_0 : code_ 162 0 = opIld 0 1 := rfl
theorem h162_1 : code_ 162 1 = opC (vI 0) 2 := rfl
theorem h162_2 : code_ 162 2 = opC (vI 11) 4 := rfl
theorem h162_4 : code_ 162 4 = opK kI 158 3 99 7 := rfl
theorem h162_7 : code_ 162 7 = opZret := rfl
theorem h163_0 : code_ 163 0 = opIld 1 1 := rfl
theorem h163_1 : code_ 163 1 = opK kI 162 1 99 4 := rfl
theorem h163_4 : code_ 163 4 = opIfEq 24 7 := rfl
theorem h163_7 : code_ 163 7 = opAld 0 8 := rfl
theorem h163_8 : code_ 163 8 = opGR 8 0 1 113669 11 := rfl
theorem h163_11 : code_ 163 11 = opC (vI 11) 13 := rfl
theorem h163_13 : code_ 163 13 = opIld 1 14 := rfl
theorem h163_14 : code_ 163 14 = opB (fun x y => x + y) 15 := rfl
theorem h163_15 : code_ 163 15 = opIal 16 := rfl
theorem h163_16 : code_ 163 16 = opC (vI (-1)) 17 := rfl
theorem h163_17 : code_ 163 17 = opCpEq 24 20 := rfl
theorem h163_20 : code_ 163 20 = opC (vI 1) 21 := rfl
theorem h163_21 : code_ 163 21 = opGoto 25 := rfl
theorem h163_24 : code_ 163 24 = opMask [0, 1] (opC (vI 0) 25) := rfl
theorem h163_25 : code_ 163 25 = opMask [0, 1] (opZret) := rfl
theorem h164_0 : code_ 164 0 = opAld 0 1 := rfl
theorem h164_1 : code_ 164 1 = opIld 1 2 := rfl
theorem h164_2 : code_ 164 2 = opK kI 163 2 8 5 := rfl
theorem h164_5 : code_ 164 5 = opIfEq 20 8 := rfl
theorem h164_8 : code_ 164 8 = opAld 0 9 := rfl
theorem h164_9 : code_ 164 9 = opIld 2 10 := rfl
theorem h164_10 : code_ 164 10 = opK kI 163 2 8 13 := rfl
theorem h164_13 : code_ 164 13 = opIfEq 20 16 := rfl
theorem h164_16 : code_ 164 16 = opC (vI 1) 17 := rfl
theorem h164_17 : code_ 164 17 = opGoto 21 := rfl
theorem h164_20 : code_ 164 20 = opMask [0, 1, 2] (opC (vI 0) 21) := rfl
theorem h164_21 : code_ 164 21 = opMask [0, 1, 2] (opZret) := rfl
theorem h165_0 : code_ 165 0 = opC (vI 0) 1 := rfl
theorem h165_1 : code_ 165 1 = opIst 2 2 := rfl
theorem h165_2 : code_ 165 2 = opC (vI 0) 3 := rfl
theorem h165_3 : code_ 165 3 = opIst 3 4 := rfl
theorem h165_4 : code_ 165 4 = opIld 3 5 := rfl
theorem h165_5 : code_ 165 5 = opC (vI 12) 7 := rfl
theorem h165_7 : code_ 165 7 = opCpGe 39 10 := rfl
theorem h165_10 : code_ 165 10 = opIld 2 11 := rfl
theorem h165_11 : code_ 165 11 = opAld 0 12 := rfl
theorem h165_12 : code_ 165 12 = opGR 8 0 1 113669 15 := rfl
theorem h165_15 : code_ 165 15 = opC (vI 11) 17 := rfl
theorem h165_17 : code_ 165 17 = opIld 3 18 := rfl
theorem h165_18 : code_ 165 18 = opB (fun x y => x + y) 19 := rfl
theorem h165_19 : code_ 165 19 = opIal 20 := rfl
theorem h165_20 : code_ 165 20 = opIld 1 21 := rfl
theorem h165_21 : code_ 165 21 = opCpNe 30 24 := rfl
theorem h165_24 : code_ 165 24 = opC (vI 1) 25 := rfl
theorem h165_25 : code_ 165 25 = opIld 3 26 := rfl
theorem h165_26 : code_ 165 26 = opB shlI 27 := rfl
theorem h165_27 : code_ 165 27 = opGoto 31 := rfl
theorem h165_30 : code_ 165 30 = opC (vI 0) 31 := rfl
theorem h165_31 : code_ 165 31 = opMask [2] (opB (fun x y => x ||| y) 32) := rfl
theorem h165_32 : code_ 165 32 = opIst 2 33 := rfl
theorem h165_33 : code_ 165 33 = opInc 3 1 36 := rfl
theorem h165_36 : code_ 165 36 = opGoto 4 := rfl
theorem h165_39 : code_ 165 39 = opIld 2 40 := rfl
theorem h165_40 : code_ 165 40 = opIret := rfl
theorem h166_0 : code_ 166 0 = opC (vI 0) 1 := rfl
theorem h166_1 : code_ 166 1 = opIst 2 2 := rfl
theorem h166_2 : code_ 166 2 = opC (vI 0) 3 := rfl
theorem h166_3 : code_ 166 3 = opIst 3 4 := rfl
theorem h166_4 : code_ 166 4 = opIld 3 5 := rfl
theorem h166_5 : code_ 166 5 = opC (vI 12) 7 := rfl
theorem h166_7 : code_ 166 7 = opCpGe 45 10 := rfl
theorem h166_10 : code_ 166 10 = opIld 2 11 := rfl
theorem h166_11 : code_ 166 11 = opAld 0 12 := rfl
theorem h166_12 : code_ 166 12 = opGR 8 0 1 113669 15 := rfl
theorem h166_15 : code_ 166 15 = opC (vI 11) 17 := rfl
theorem h166_17 : code_ 166 17 = opIld 3 18 := rfl
theorem h166_18 : code_ 166 18 = opB (fun x y => x + y) 19 := rfl
theorem h166_19 : code_ 166 19 = opIal 20 := rfl
theorem h166_20 : code_ 166 20 = opIld 1 21 := rfl
theorem h166_21 : code_ 166 21 = opCpNe 36 24 := rfl
theorem h166_24 : code_ 166 24 = opAld 0 25 := rfl
theorem h166_25 : code_ 166 25 = opGR 8 0 1 113669 28 := rfl
theorem h166_28 : code_ 166 28 = opC (vI 23) 30 := rfl
theorem h166_30 : code_ 166 30 = opIld 3 31 := rfl
theorem h166_31 : code_ 166 31 = opB (fun x y => x + y) 32 := rfl
theorem h166_32 : code_ 166 32 = opIal 33 := rfl
theorem h166_33 : code_ 166 33 = opGoto 37 := rfl
theorem h166_36 : code_ 166 36 = opC (vI 0) 37 := rfl
theorem h166_37 : code_ 166 37 = opMask [2] (opB (fun x y => x ||| y) 38) := rfl
theorem h166_38 : code_ 166 38 = opIst 2 39 := rfl
theorem h166_39 : code_ 166 39 = opInc 3 1 42 := rfl
theorem h166_42 : code_ 166 42 = opGoto 4 := rfl
theorem h166_45 : code_ 166 45 = opIld 2 46 := rfl
theorem h166_46 : code_ 166 46 = opIret := rfl
theorem h167_0 : code_ 167 0 = opAld 0 1 := rfl
theorem h167_1 : code_ 167 1 = opIld 1 2 := rfl
theorem h167_2 : code_ 167 2 = opK kI 165 2 8 5 := rfl
theorem h167_5 : code_ 167 5 = opIfEq 12 8 := rfl
theorem h167_8 : code_ 167 8 = opC (vI 1) 9 := rfl
theorem h167_9 : code_ 167 9 = opGoto 13 := rfl
theorem h167_12 : code_ 167 12 = opC (vI 0) 13 := rfl
theorem h167_13 : code_ 167 13 = opMask [0, 1] (opZret) := rfl
theorem h168_0 : code_ 168 0 = opC (vI 0) 1 := rfl
theorem h168_1 : code_ 168 1 = opIst 1 2 := rfl
theorem h168_2 : code_ 168 2 = opC (vI 0) 3 := rfl
theorem h168_3 : code_ 168 3 = opIst 2 4 := rfl
theorem h168_4 : code_ 168 4 = opIld 2 5 := rfl
theorem h168_5 : code_ 168 5 = opC (vI 12) 7 := rfl
theorem h168_7 : code_ 168 7 = opCpGe 47 10 := rfl
theorem h168_10 : code_ 168 10 = opIld 1 11 := rfl
theorem h168_11 : code_ 168 11 = opAld 0 12 := rfl
theorem h168_12 : code_ 168 12 = opGR 8 0 1 113669 15 := rfl
theorem h168_15 : code_ 168 15 = opC (vI 11) 17 := rfl
theorem h168_17 : code_ 168 17 = opIld 2 18 := rfl
theorem h168_18 : code_ 168 18 = opB (fun x y => x + y) 19 := rfl
theorem h168_19 : code_ 168 19 = opIal 20 := rfl
theorem h168_20 : code_ 168 20 = opC (vI (-1)) 21 := rfl
theorem h168_21 : code_ 168 21 = opCpNe 28 24 := rfl
theorem h168_24 : code_ 168 24 = opC (vI 0) 25 := rfl
theorem h168_25 : code_ 168 25 = opGoto 39 := rfl
theorem h168_28 : code_ 168 28 = opC (vI 1) 29 := rfl
theorem h168_29 : code_ 168 29 = opAld 0 30 := rfl
theorem h168_30 : code_ 168 30 = opGR 8 0 1 113669 33 := rfl
theorem h168_33 : code_ 168 33 = opC (vI 11) 35 := rfl
theorem h168_35 : code_ 168 35 = opIld 2 36 := rfl
theorem h168_36 : code_ 168 36 = opB (fun x y => x + y) 37 := rfl
theorem h168_37 : code_ 168 37 = opIal 38 := rfl
theorem h168_38 : code_ 168 38 = opB shlI 39 := rfl
theorem h168_39 : code_ 168 39 = opMask [1] (opB (fun x y => x ||| y) 40) := rfl
theorem h168_40 : code_ 168 40 = opIst 1 41 := rfl
theorem h168_41 : code_ 168 41 = opInc 2 1 44 := rfl
theorem h168_44 : code_ 168 44 = opGoto 4 := rfl
theorem h168_47 : code_ 168 47 = opIld 1 48 := rfl
theorem h168_48 : code_ 168 48 = opIret := rfl
theorem h169_0 : code_ 169 0 = opC (vI 0) 1 := rfl
theorem h169_1 : code_ 169 1 = opIst 1 2 := rfl
theorem h169_2 : code_ 169 2 = opC (vI 0) 3 := rfl
theorem h169_3 : code_ 169 3 = opIst 2 4 := rfl
theorem h169_4 : code_ 169 4 = opIld 2 5 := rfl
theorem h169_5 : code_ 169 5 = opC (vI 12) 7 := rfl
theorem h169_7 : code_ 169 7 = opCpGe 39 10 := rfl
theorem h169_10 : code_ 169 10 = opIld 1 11 := rfl
theorem h169_11 : code_ 169 11 = opAld 0 12 := rfl
theorem h169_12 : code_ 169 12 = opGR 8 0 1 113669 15 := rfl
theorem h169_15 : code_ 169 15 = opC (vI 11) 17 := rfl
theorem h169_17 : code_ 169 17 = opIld 2 18 := rfl
theorem h169_18 : code_ 169 18 = opB (fun x y => x + y) 19 := rfl
theorem h169_19 : code_ 169 19 = opIal 20 := rfl
theorem h169_20 : code_ 169 20 = opC (vI (-1)) 21 := rfl
theorem h169_21 : code_ 169 21 = opCpNe 28 24 := rfl
theorem h169_24 : code_ 169 24 = opC (vI 0) 25 := rfl
theorem h169_25 : code_ 169 25 = opGoto 31 := rfl
theorem h169_28 : code_ 169 28 = opC (vI 1) 29 := rfl
theorem h169_29 : code_ 169 29 = opIld 2 30 := rfl
theorem h169_30 : code_ 169 30 = opB shlI 31 := rfl
theorem h169_31 : code_ 169 31 = opMask [1] (opB (fun x y => x ||| y) 32) := rfl
theorem h169_32 : code_ 169 32 = opIst 1 33 := rfl
theorem h169_33 : code_ 169 33 = opInc 2 1 36 := rfl
theorem h169_36 : code_ 169 36 = opGoto 4 := rfl
theorem h169_39 : code_ 169 39 = opIld 1 40 := rfl
theorem h169_40 : code_ 169 40 = opIret := rfl
theorem h170_0 : code_ 170 0 = opC (vI 0) 1 := rfl
theorem h170_1 : code_ 170 1 = opIst 1 2 := rfl
theorem h170_2 : code_ 170 2 = opC (vI 0) 3 := rfl
theorem h170_3 : code_ 170 3 = opIst 2 4 := rfl
theorem h170_4 : code_ 170 4 = opIld 2 5 := rfl
theorem h170_5 : code_ 170 5 = opC (vI 12) 7 := rfl
theorem h170_7 : code_ 170 7 = opCpGe 48 10 := rfl
theorem h170_10 : code_ 170 10 = opIld 1 11 := rfl
theorem h170_11 : code_ 170 11 = opAld 0 12 := rfl
theorem h170_12 : code_ 170 12 = opGR 8 0 1 113669 15 := rfl
theorem h170_15 : code_ 170 15 = opC (vI 11) 17 := rfl
theorem h170_17 : code_ 170 17 = opIld 2 18 := rfl
theorem h170_18 : code_ 170 18 = opB (fun x y => x + y) 19 := rfl
theorem h170_19 : code_ 170 19 = opIal 20 := rfl
theorem h170_20 : code_ 170 20 = opC (vI (-1)) 21 := rfl
theorem h170_21 : code_ 170 21 = opCpNe 28 24 := rfl
theorem h170_24 : code_ 170 24 = opC (vI 0) 25 := rfl
theorem h170_25 : code_ 170 25 = opGoto 40 := rfl
theorem h170_28 : code_ 170 28 = opAld 0 29 := rfl
theorem h170_29 : code_ 170 29 = opGR 8 0 1 113669 32 := rfl
theorem h170_32 : code_ 170 32 = opC (vI 23) 34 := rfl
theorem h170_34 : code_ 170 34 = opIld 2 35 := rfl
theorem h170_35 : code_ 170 35 = opB (fun x y => x + y) 36 := rfl
theorem h170_36 : code_ 170 36 = opIal 37 := rfl
theorem h170_37 : code_ 170 37 = opK kI 161 1 99 40 := rfl
theorem h170_40 : code_ 170 40 = opMask [1] (opB (fun x y => x + y) 41) := rfl
theorem h170_41 : code_ 170 41 = opIst 1 42 := rfl
theorem h170_42 : code_ 170 42 = opInc 2 1 45 := rfl
theorem h170_45 : code_ 170 45 = opGoto 4 := rfl
theorem h170_48 : code_ 170 48 = opIld 1 49 := rfl
theorem h170_49 : code_ 170 49 = opIret := rfl
theorem h171_0 : code_ 171 0 = opAld 0 1 := rfl
theorem h171_1 : code_ 171 1 = opGR 8 0 1 113669 4 := rfl
theorem h171_4 : code_ 171 4 = opC (vI 7) 6 := rfl
theorem h171_6 : code_ 171 6 = opIal 7 := rfl
theorem h171_7 : code_ 171 7 = opC (vI (-1)) 8 := rfl
theorem h171_8 : code_ 171 8 = opCpEq 34 11 := rfl
theorem h171_11 : code_ 171 11 = opAld 0 12 := rfl
theorem h171_12 : code_ 171 12 = opGR 8 0 1 113669 15 := rfl
theorem h171_15 : code_ 171 15 = opC (vI 11) 17 := rfl
theorem h171_17 : code_ 171 17 = opIld 1 18 := rfl
theorem h171_18 : code_ 171 18 = opB (fun x y => x + y) 19 := rfl
theorem h171_19 : code_ 171 19 = opIal 20 := rfl
theorem h171_20 : code_ 171 20 = opAld 0 21 := rfl
theorem h171_21 : code_ 171 21 = opGR 8 0 1 113669 24 := rfl
theorem h171_24 : code_ 171 24 = opC (vI 7) 26 := rfl
theorem h171_26 : code_ 171 26 = opIal 27 := rfl
theorem h171_27 : code_ 171 27 = opCpNe 34 30 := rfl
theorem h171_30 : code_ 171 30 = opC (vI 1) 31 := rfl
theorem h171_31 : code_ 171 31 = opGoto 35 := rfl
theorem h171_34 : code_ 171 34 = opMask [0, 1] (opC (vI 0) 35) := rfl
theorem h171_35 : code_ 171 35 = opMask [0, 1] (opZret) := rfl
theorem h172_0 : code_ 172 0 = opAld 0 1 := rfl
theorem h172_1 : code_ 172 1 = opGR 8 0 1 113669 4 := rfl
theorem h172_4 : code_ 172 4 = opC (vI 7) 6 := rfl
theorem h172_6 : code_ 172 6 = opIal 7 := rfl
theorem h172_7 : code_ 172 7 = opC (vI (-1)) 8 := rfl
theorem h172_8 : code_ 172 8 = opCpEq 37 11 := rfl
theorem h172_11 : code_ 172 11 = opIld 1 12 := rfl
theorem h172_12 : code_ 172 12 = opAld 0 13 := rfl
theorem h172_13 : code_ 172 13 = opGR 8 0 1 113669 16 := rfl
theorem h172_16 : code_ 172 16 = opC (vI 7) 18 := rfl
theorem h172_18 : code_ 172 18 = opIal 19 := rfl
theorem h172_19 : code_ 172 19 = opCpEq 33 22 := rfl
theorem h172_22 : code_ 172 22 = opIld 1 23 := rfl
theorem h172_23 : code_ 172 23 = opAld 0 24 := rfl
theorem h172_24 : code_ 172 24 = opGR 8 0 1 113669 27 := rfl
theorem h172_27 : code_ 172 27 = opC (vI 8) 29 := rfl
theorem h172_29 : code_ 172 29 = opIal 30 := rfl
theorem h172_30 : code_ 172 30 = opCpNe 37 33 := rfl
theorem h172_33 : code_ 172 33 = opMask [0, 1] (opC (vI 1) 34) := rfl
theorem h172_34 : code_ 172 34 = opGoto 38 := rfl
theorem h172_37 : code_ 172 37 = opMask [0, 1] (opC (vI 0) 38) := rfl
theorem h172_38 : code_ 172 38 = opMask [0, 1] (opZret) := rfl
theorem h173_0 : code_ 173 0 = opC (vI 0) 1 := rfl
theorem h173_1 : code_ 173 1 = opIst 1 2 := rfl
theorem h173_2 : code_ 173 2 = opC (vI 0) 3 := rfl
theorem h173_3 : code_ 173 3 = opIst 2 4 := rfl
theorem h173_4 : code_ 173 4 = opIld 2 5 := rfl
theorem h173_5 : code_ 173 5 = opC (vI 12) 7 := rfl
theorem h173_7 : code_ 173 7 = opCpGe 55 10 := rfl
theorem h173_10 : code_ 173 10 = opIld 1 11 := rfl
theorem h173_11 : code_ 173 11 = opAld 0 12 := rfl
theorem h173_12 : code_ 173 12 = opIld 2 13 := rfl
theorem h173_13 : code_ 173 13 = opK kI 167 2 8 16 := rfl
theorem h173_16 : code_ 173 16 = opIfEq 46 19 := rfl
theorem h173_19 : code_ 173 19 = opAld 0 20 := rfl
theorem h173_20 : code_ 173 20 = opIld 2 21 := rfl
theorem h173_21 : code_ 173 21 = opK kI 166 2 8 24 := rfl
theorem h173_24 : code_ 173 24 = opK kI 161 1 99 27 := rfl
theorem h173_27 : code_ 173 27 = opC (vI 8) 29 := rfl
theorem h173_29 : code_ 173 29 = opCpGt 46 32 := rfl
theorem h173_32 : code_ 173 32 = opAld 0 33 := rfl
theorem h173_33 : code_ 173 33 = opIld 2 34 := rfl
theorem h173_34 : code_ 173 34 = opK kI 172 2 8 37 := rfl
theorem h173_37 : code_ 173 37 = opIfNe 46 40 := rfl
theorem h173_40 : code_ 173 40 = opC (vI 1) 41 := rfl
theorem h173_41 : code_ 173 41 = opIld 2 42 := rfl
theorem h173_42 : code_ 173 42 = opB shlI 43 := rfl
theorem h173_43 : code_ 173 43 = opGoto 47 := rfl
theorem h173_46 : code_ 173 46 = opMask [1] (opC (vI 0) 47) := rfl
theorem h173_47 : code_ 173 47 = opMask [1] (opB (fun x y => x ||| y) 48) := rfl
theorem h173_48 : code_ 173 48 = opIst 1 49 := rfl
theorem h173_49 : code_ 173 49 = opInc 2 1 52 := rfl
theorem h173_52 : code_ 173 52 = opGoto 4 := rfl
theorem h173_55 : code_ 173 55 = opIld 1 56 := rfl
theorem h173_56 : code_ 173 56 = opIret := rfl
theorem h174_0 : code_ 174 0 = opIld 1 1 := rfl
theorem h174_1 : code_ 174 1 = opC (vI 0) 2 := rfl
theorem h174_2 : code_ 174 2 = opC (vI 191) 5 := rfl
theorem h174_5 : code_ 174 5 = opK kI 158 3 99 8 := rfl
theorem h174_8 : code_ 174 8 = opIfEq 48 11 := rfl
theorem h174_11 : code_ 174 11 = opAld 0 12 := rfl
theorem h174_12 : code_ 174 12 = opIld 1 13 := rfl
theorem h174_13 : code_ 174 13 = opC (vI 16) 15 := rfl
theorem h174_15 : code_ 174 15 = opBz (fun x y => x / y) 16 := rfl
theorem h174_16 : code_ 174 16 = opK kI 163 2 8 19 := rfl
theorem h174_19 : code_ 174 19 = opIfEq 48 22 := rfl
theorem h174_22 : code_ 174 22 = opAld 0 23 := rfl
theorem h174_23 : code_ 174 23 = opGR 8 0 1 113669 26 := rfl
theorem h174_26 : code_ 174 26 = opC (vI 23) 28 := rfl
theorem h174_28 : code_ 174 28 = opIld 1 29 := rfl
theorem h174_29 : code_ 174 29 = opC (vI 16) 31 := rfl
theorem h174_31 : code_ 174 31 = opBz (fun x y => x / y) 32 := rfl
theorem h174_32 : code_ 174 32 = opB (fun x y => x + y) 33 := rfl
theorem h174_33 : code_ 174 33 = opIal 34 := rfl
theorem h174_34 : code_ 174 34 = opIld 1 35 := rfl
theorem h174_35 : code_ 174 35 = opC (vI 16) 37 := rfl
theorem h174_37 : code_ 174 37 = opBz remI 38 := rfl
theorem h174_38 : code_ 174 38 = opK kI 160 2 99 41 := rfl
theorem h174_41 : code_ 174 41 = opIfEq 48 44 := rfl
theorem h174_44 : code_ 174 44 = opC (vI 1) 45 := rfl
theorem h174_45 : code_ 174 45 = opGoto 49 := rfl
theorem h174_48 : code_ 174 48 = opMask [0, 1] (opC (vI 0) 49) := rfl
theorem h174_49 : code_ 174 49 = opMask [0, 1] (opZret) := rfl
theorem h175_0 : code_ 175 0 = opAld 0 1 := rfl
theorem h175_1 : code_ 175 1 = opGR 8 0 1 113669 4 := rfl
theorem h175_4 : code_ 175 4 = opC (vI 227) 7 := rfl
theorem h175_7 : code_ 175 7 = opC (vI 16) 9 := rfl
theorem h175_9 : code_ 175 9 = opIld 1 10 := rfl
theorem h175_10 : code_ 175 10 = opB (fun x y => x * y) 11 := rfl
theorem h175_11 : code_ 175 11 = opB (fun x y => x + y) 12 := rfl
theorem h175_12 : code_ 175 12 = opIld 2 13 := rfl
theorem h175_13 : code_ 175 13 = opB (fun x y => x + y) 14 := rfl
theorem h175_14 : code_ 175 14 = opIal 15 := rfl
theorem h175_15 : code_ 175 15 = opIret := rfl
theorem h176_0 : code_ 176 0 = opC (vI 24) 2 := rfl
theorem h176_2 : code_ 176 2 = opIst 2 3 := rfl
theorem h176_3 : code_ 176 3 = opIld 2 4 := rfl
theorem h176_4 : code_ 176 4 = opIfLt 39 7 := rfl
theorem h176_7 : code_ 176 7 = opAld 0 8 := rfl
theorem h176_8 : code_ 176 8 = opGR 8 3 4 100300 11 := rfl
theorem h176_11 : code_ 176 11 = opAld 0 12 := rfl
theorem h176_12 : code_ 176 12 = opGI 8 4 15 := rfl
theorem h176_15 : code_ 176 15 = opIld 1 16 := rfl
theorem h176_16 : code_ 176 16 = opIld 2 17 := rfl
theorem h176_17 : code_ 176 17 = opB shrI 18 := rfl
theorem h176_18 : code_ 176 18 = opC (vI 255) 21 := rfl
theorem h176_21 : code_ 176 21 = opB (fun x y => x &&& y) 22 := rfl
theorem h176_22 : code_ 176 22 = opIas 23 := rfl
theorem h176_23 : code_ 176 23 = opAld 0 24 := rfl
theorem h176_24 : code_ 176 24 = opDup 25 := rfl
theorem h176_25 : code_ 176 25 = opGI 8 4 28 := rfl
theorem h176_28 : code_ 176 28 = opC (vI 1) 29 := rfl
theorem h176_29 : code_ 176 29 = opB (fun x y => x + y) 30 := rfl
theorem h176_30 : code_ 176 30 = opPI 8 4 33 := rfl
theorem h176_33 : code_ 176 33 = opInc 2 (-8) 36 := rfl
theorem h176_36 : code_ 176 36 = opGoto 3 := rfl
theorem h176_39 : code_ 176 39 = opRet := rfl
theorem h177_0 : code_ 177 0 = opAld 0 1 := rfl
theorem h177_1 : code_ 177 1 = opGI 8 4 4 := rfl
theorem h177_4 : code_ 177 4 = opC (vI 20) 6 := rfl
theorem h177_6 : code_ 177 6 = opB (fun x y => x + y) 7 := rfl
theorem h177_7 : code_ 177 7 = opC (vI 300) 10 := rfl
theorem h177_10 : code_ 177 10 = opCpLe 15 13 := rfl
theorem h177_13 : code_ 177 13 = opC (vI (-1)) 14 := rfl
theorem h177_14 : code_ 177 14 = opIret := rfl
theorem h177_15 : code_ 177 15 = opAld 0 16 := rfl
theorem h177_16 : code_ 177 16 = opIld 1 17 := rfl
theorem h177_17 : code_ 177 17 = opK kV 176 2 8 20 := rfl
theorem h177_20 : code_ 177 20 = opAld 0 21 := rfl
theorem h177_21 : code_ 177 21 = opIld 2 22 := rfl
theorem h177_22 : code_ 177 22 = opK kV 176 2 8 25 := rfl
theorem h177_25 : code_ 177 25 = opAld 0 26 := rfl
theorem h177_26 : code_ 177 26 = opIld 3 27 := rfl
theorem h177_27 : code_ 177 27 = opK kV 176 2 8 30 := rfl
theorem h177_30 : code_ 177 30 = opAld 0 31 := rfl
theorem h177_31 : code_ 177 31 = opIld 4 33 := rfl
theorem h177_33 : code_ 177 33 = opK kV 176 2 8 36 := rfl
theorem h177_36 : code_ 177 36 = opAld 0 37 := rfl
theorem h177_37 : code_ 177 37 = opIld 5 39 := rfl
theorem h177_39 : code_ 177 39 = opK kV 176 2 8 42 := rfl
theorem h177_42 : code_ 177 42 = opAld 0 43 := rfl
theorem h177_43 : code_ 177 43 = opGI 8 4 46 := rfl
theorem h177_46 : code_ 177 46 = opIret := rfl
theorem h178_0 : code_ 178 0 = opIld 1 1 := rfl
theorem h178_1 : code_ 178 1 = opC (vI 0) 2 := rfl
theorem h178_2 : code_ 178 2 = opAld 0 3 := rfl
theorem h178_3 : code_ 178 3 = opGI 8 4 6 := rfl
theorem h178_6 : code_ 178 6 = opK kI 158 3 99 9 := rfl
theorem h178_9 : code_ 178 9 = opIfNe 14 12 := rfl
theorem h178_12 : code_ 178 12 = opC (vI (-1)) 13 := rfl
theorem h178_13 : code_ 178 13 = opIret := rfl
theorem h178_14 : code_ 178 14 = opAld 0 15 := rfl
theorem h178_15 : code_ 178 15 = opIld 1 16 := rfl
theorem h178_16 : code_ 178 16 = opPI 8 4 19 := rfl
theorem h178_19 : code_ 178 19 = opIld 1 20 := rfl
theorem h178_20 : code_ 178 20 = opIret := rfl
theorem h179_0 : code_ 179 0 = opIld 1 1 := rfl
theorem h179_1 : code_ 179 1 = opAld 0 2 := rfl
theorem h179_2 : code_ 179 2 = opGI 8 4 5 := rfl
theorem h179_5 : code_ 179 5 = opCpGe 17 8 := rfl
theorem h179_8 : code_ 179 8 = opAld 0 9 := rfl
theorem h179_9 : code_ 179 9 = opGR 8 3 4 100300 12 := rfl
theorem h179_12 : code_ 179 12 = opIld 1 13 := rfl
theorem h179_13 : code_ 179 13 = opIal 14 := rfl
theorem h179_14 : code_ 179 14 = opGoto 18 := rfl
theorem h179_17 : code_ 179 17 = opC (vI (-1)) 18 := rfl
theorem h179_18 : code_ 179 18 = opMask [0, 1] (opIret) := rfl
theorem h180_0 : code_ 180 0 = opIld 0 1 := rfl
theorem h180_1 : code_ 180 1 = opC (vI 97) 3 := rfl
theorem h180_3 : code_ 180 3 = opCpLt 12 6 := rfl
theorem h180_6 : code_ 180 6 = opIld 0 7 := rfl
theorem h180_7 : code_ 180 7 = opC (vI 122) 9 := rfl
theorem h180_9 : code_ 180 9 = opCpLe 24 12 := rfl
theorem h180_12 : code_ 180 12 = opIld 0 13 := rfl
theorem h180_13 : code_ 180 13 = opC (vI 65) 15 := rfl
theorem h180_15 : code_ 180 15 = opCpLt 28 18 := rfl
theorem h180_18 : code_ 180 18 = opIld 0 19 := rfl
theorem h180_19 : code_ 180 19 = opC (vI 90) 21 := rfl
theorem h180_21 : code_ 180 21 = opCpGt 28 24 := rfl
theorem h180_24 : code_ 180 24 = opMask [0] (opC (vI 1) 25) := rfl
theorem h180_25 : code_ 180 25 = opGoto 29 := rfl
theorem h180_28 : code_ 180 28 = opMask [0] (opC (vI 0) 29) := rfl
theorem h180_29 : code_ 180 29 = opMask [0] (opZret) := rfl
theorem h181_0 : code_ 181 0 = opIld 0 1 := rfl
theorem h181_1 : code_ 181 1 = opC (vI 48) 3 := rfl
theorem h181_3 : code_ 181 3 = opCpLt 16 6 := rfl
theorem h181_6 : code_ 181 6 = opIld 0 7 := rfl
theorem h181_7 : code_ 181 7 = opC (vI 57) 9 := rfl
theorem h181_9 : code_ 181 9 = opCpGt 16 12 := rfl
theorem h181_12 : code_ 181 12 = opC (vI 1) 13 := rfl
theorem h181_13 : code_ 181 13 = opGoto 17 := rfl
theorem h181_16 : code_ 181 16 = opMask [0] (opC (vI 0) 17) := rfl
theorem h181_17 : code_ 181 17 = opMask [0] (opZret) := rfl
theorem h182_0 : code_ 182 0 = opIld 0 1 := rfl
theorem h182_1 : code_ 182 1 = opSw 130 [(35, 128), (40, 128), (41, 128), (42, 128), (43, 128), (45, 128), (47, 128), (58, 128), (59, 128), (60, 128), (61, 128), (62, 128)] := rfl
theorem h182_128 : code_ 182 128 = opC (vI 1) 129 := rfl
theorem h182_129 : code_ 182 129 = opZret := rfl
theorem h182_130 : code_ 182 130 = opC (vI 0) 131 := rfl
theorem h182_131 : code_ 182 131 = opZret := rfl
theorem h183_0 : code_ 183 0 = opMask [1] (opAld 0 1) := rfl
theorem h183_1 : code_ 183 1 = opAld 0 2 := rfl
theorem h183_2 : code_ 183 2 = opGI 8 7 5 := rfl
theorem h183_5 : code_ 183 5 = opK kI 179 2 8 8 := rfl
theorem h183_8 : code_ 183 8 = opC (vI 32) 10 := rfl
theorem h183_10 : code_ 183 10 = opCpEq 26 13 := rfl
theorem h183_13 : code_ 183 13 = opAld 0 14 := rfl
theorem h183_14 : code_ 183 14 = opAld 0 15 := rfl
theorem h183_15 : code_ 183 15 = opGI 8 7 18 := rfl
theorem h183_18 : code_ 183 18 = opK kI 179 2 8 21 := rfl
theorem h183_21 : code_ 183 21 = opC (vI 10) 23 := rfl
theorem h183_23 : code_ 183 23 = opCpNe 39 26 := rfl
theorem h183_26 : code_ 183 26 = opMask [1] (opAld 0 27) := rfl
theorem h183_27 : code_ 183 27 = opDup 28 := rfl
theorem h183_28 : code_ 183 28 = opGI 8 7 31 := rfl
theorem h183_31 : code_ 183 31 = opC (vI 1) 32 := rfl
theorem h183_32 : code_ 183 32 = opB (fun x y => x + y) 33 := rfl
theorem h183_33 : code_ 183 33 = opPI 8 7 36 := rfl
theorem h183_36 : code_ 183 36 = opGoto 0 := rfl
theorem h183_39 : code_ 183 39 = opAld 0 40 := rfl
theorem h183_40 : code_ 183 40 = opAld 0 41 := rfl
theorem h183_41 : code_ 183 41 = opGI 8 7 44 := rfl
theorem h183_44 : code_ 183 44 = opPI 8 8 47 := rfl
theorem h183_47 : code_ 183 47 = opAld 0 48 := rfl
theorem h183_48 : code_ 183 48 = opAld 0 49 := rfl
theorem h183_49 : code_ 183 49 = opGI 8 7 52 := rfl
theorem h183_52 : code_ 183 52 = opK kI 179 2 8 55 := rfl
theorem h183_55 : code_ 183 55 = opIst 1 56 := rfl
theorem h183_56 : code_ 183 56 = opIld 1 57 := rfl
theorem h183_57 : code_ 183 57 = opIfGe 68 60 := rfl
theorem h183_60 : code_ 183 60 = opAld 0 61 := rfl
theorem h183_61 : code_ 183 61 = opC (vI 0) 62 := rfl
theorem h183_62 : code_ 183 62 = opPI 8 9 65 := rfl
theorem h183_65 : code_ 183 65 = opGoto 310 := rfl
theorem h183_68 : code_ 183 68 = opIld 1 69 := rfl
theorem h183_69 : code_ 183 69 = opK kI 181 1 99 72 := rfl
theorem h183_72 : code_ 183 72 = opIfEq 151 75 := rfl
theorem h183_75 : code_ 183 75 = opAld 0 76 := rfl
theorem h183_76 : code_ 183 76 = opC (vI 1) 77 := rfl
theorem h183_77 : code_ 183 77 = opPI 8 9 80 := rfl
theorem h183_80 : code_ 183 80 = opAld 0 81 := rfl
theorem h183_81 : code_ 183 81 = opC (vI 0) 82 := rfl
theorem h183_82 : code_ 183 82 = opPI 8 10 85 := rfl
theorem h183_85 : code_ 183 85 = opMask [1] (opAld 0 86) := rfl
theorem h183_86 : code_ 183 86 = opAld 0 87 := rfl
theorem h183_87 : code_ 183 87 = opGI 8 7 90 := rfl
theorem h183_90 : code_ 183 90 = opK kI 179 2 8 93 := rfl
theorem h183_93 : code_ 183 93 = opK kI 181 1 99 96 := rfl
theorem h183_96 : code_ 183 96 = opIfEq 310 99 := rfl
theorem h183_99 : code_ 183 99 = opAld 0 100 := rfl
theorem h183_100 : code_ 183 100 = opAld 0 101 := rfl
theorem h183_101 : code_ 183 101 = opGI 8 10 104 := rfl
theorem h183_104 : code_ 183 104 = opC (vI 99999) 106 := rfl
theorem h183_106 : code_ 183 106 = opCpLe 116 109 := rfl
theorem h183_109 : code_ 183 109 = opAld 0 110 := rfl
theorem h183_110 : code_ 183 110 = opGI 8 10 113 := rfl
theorem h183_113 : code_ 183 113 = opGoto 135 := rfl
theorem h183_116 : code_ 183 116 = opC (vI 10) 118 := rfl
theorem h183_118 : code_ 183 118 = opAld 0 119 := rfl
theorem h183_119 : code_ 183 119 = opGI 8 10 122 := rfl
theorem h183_122 : code_ 183 122 = opB (fun x y => x * y) 123 := rfl
theorem h183_123 : code_ 183 123 = opAld 0 124 := rfl
theorem h183_124 : code_ 183 124 = opAld 0 125 := rfl
theorem h183_125 : code_ 183 125 = opGI 8 7 128 := rfl
theorem h183_128 : code_ 183 128 = opK kI 179 2 8 131 := rfl
theorem h183_131 : code_ 183 131 = opB (fun x y => x + y) 132 := rfl
theorem h183_132 : code_ 183 132 = opC (vI 48) 134 := rfl
theorem h183_134 : code_ 183 134 = opB (fun x y => x - y) 135 := rfl
theorem h183_135 : code_ 183 135 = opMask [1] (opPI 8 10 138) := rfl
theorem h183_138 : code_ 183 138 = opAld 0 139 := rfl
theorem h183_139 : code_ 183 139 = opDup 140 := rfl
theorem h183_140 : code_ 183 140 = opGI 8 7 143 := rfl
theorem h183_143 : code_ 183 143 = opC (vI 1) 144 := rfl
theorem h183_144 : code_ 183 144 = opB (fun x y => x + y) 145 := rfl
theorem h183_145 : code_ 183 145 = opPI 8 7 148 := rfl
theorem h183_148 : code_ 183 148 = opGoto 85 := rfl
theorem h183_151 : code_ 183 151 = opIld 1 152 := rfl
theorem h183_152 : code_ 183 152 = opK kI 180 1 99 155 := rfl
theorem h183_155 : code_ 183 155 = opIfEq 234 158 := rfl
theorem h183_158 : code_ 183 158 = opAld 0 159 := rfl
theorem h183_159 : code_ 183 159 = opC (vI 2) 160 := rfl
theorem h183_160 : code_ 183 160 = opPI 8 9 163 := rfl
theorem h183_163 : code_ 183 163 = opAld 0 164 := rfl
theorem h183_164 : code_ 183 164 = opC (vL 0) 165 := rfl
theorem h183_165 : code_ 183 165 = opPJ 8 11 168 := rfl
theorem h183_168 : code_ 183 168 = opMask [1] (opAld 0 169) := rfl
theorem h183_169 : code_ 183 169 = opAld 0 170 := rfl
theorem h183_170 : code_ 183 170 = opGI 8 7 173 := rfl
theorem h183_173 : code_ 183 173 = opK kI 179 2 8 176 := rfl
theorem h183_176 : code_ 183 176 = opK kI 180 1 99 179 := rfl
theorem h183_179 : code_ 183 179 = opIfEq 310 182 := rfl
theorem h183_182 : code_ 183 182 = opAld 0 183 := rfl
theorem h183_183 : code_ 183 183 = opAld 0 184 := rfl
theorem h183_184 : code_ 183 184 = opGJ 8 11 187 := rfl
theorem h183_187 : code_ 183 187 = opC (vI 48) 189 := rfl
theorem h183_189 : code_ 183 189 = opLS shrL 190 := rfl
theorem h183_190 : code_ 183 190 = opC (vL 0) 191 := rfl
theorem h183_191 : code_ 183 191 = opLcmp 192 := rfl
theorem h183_192 : code_ 183 192 = opIfEq 201 195 := rfl
theorem h183_195 : code_ 183 195 = opC (vL 1152921504606846976) 198 := rfl
theorem h183_198 : code_ 183 198 = opGoto 218 := rfl
theorem h183_201 : code_ 183 201 = opAld 0 202 := rfl
theorem h183_202 : code_ 183 202 = opGJ 8 11 205 := rfl
theorem h183_205 : code_ 183 205 = opC (vI 8) 207 := rfl
theorem h183_207 : code_ 183 207 = opLS shlL 208 := rfl
theorem h183_208 : code_ 183 208 = opAld 0 209 := rfl
theorem h183_209 : code_ 183 209 = opAld 0 210 := rfl
theorem h183_210 : code_ 183 210 = opGI 8 7 213 := rfl
theorem h183_213 : code_ 183 213 = opK kI 179 2 8 216 := rfl
theorem h183_216 : code_ 183 216 = opI2L 217 := rfl
theorem h183_217 : code_ 183 217 = opLB (fun x y => x ||| y) 218 := rfl
theorem h183_218 : code_ 183 218 = opMask [1] (opPJ 8 11 221) := rfl
theorem h183_221 : code_ 183 221 = opAld 0 222 := rfl
theorem h183_222 : code_ 183 222 = opDup 223 := rfl
theorem h183_223 : code_ 183 223 = opGI 8 7 226 := rfl
theorem h183_226 : code_ 183 226 = opC (vI 1) 227 := rfl
theorem h183_227 : code_ 183 227 = opB (fun x y => x + y) 228 := rfl
theorem h183_228 : code_ 183 228 = opPI 8 7 231 := rfl
theorem h183_231 : code_ 183 231 = opGoto 168 := rfl
theorem h183_234 : code_ 183 234 = opAld 0 235 := rfl
theorem h183_235 : code_ 183 235 = opIld 1 236 := rfl
theorem h183_236 : code_ 183 236 = opK kI 182 1 99 239 := rfl
theorem h183_239 : code_ 183 239 = opIfEq 246 242 := rfl
theorem h183_242 : code_ 183 242 = opIld 1 243 := rfl
theorem h183_243 : code_ 183 243 = opGoto 247 := rfl
theorem h183_246 : code_ 183 246 = opC (vI 3) 247 := rfl
theorem h183_247 : code_ 183 247 = opPI 8 9 250 := rfl
theorem h183_250 : code_ 183 250 = opAld 0 251 := rfl
theorem h183_251 : code_ 183 251 = opDup 252 := rfl
theorem h183_252 : code_ 183 252 = opGI 8 7 255 := rfl
theorem h183_255 : code_ 183 255 = opC (vI 1) 256 := rfl
theorem h183_256 : code_ 183 256 = opB (fun x y => x + y) 257 := rfl
theorem h183_257 : code_ 183 257 = opPI 8 7 260 := rfl
theorem h183_260 : code_ 183 260 = opIld 1 261 := rfl
theorem h183_261 : code_ 183 261 = opC (vI 60) 263 := rfl
theorem h183_263 : code_ 183 263 = opCpEq 272 266 := rfl
theorem h183_266 : code_ 183 266 = opIld 1 267 := rfl
theorem h183_267 : code_ 183 267 = opC (vI 62) 269 := rfl
theorem h183_269 : code_ 183 269 = opCpNe 310 272 := rfl
theorem h183_272 : code_ 183 272 = opAld 0 273 := rfl
theorem h183_273 : code_ 183 273 = opAld 0 274 := rfl
theorem h183_274 : code_ 183 274 = opGI 8 7 277 := rfl
theorem h183_277 : code_ 183 277 = opK kI 179 2 8 280 := rfl
theorem h183_280 : code_ 183 280 = opC (vI 61) 282 := rfl
theorem h183_282 : code_ 183 282 = opCpNe 310 285 := rfl
theorem h183_285 : code_ 183 285 = opAld 0 286 := rfl
theorem h183_286 : code_ 183 286 = opIld 1 287 := rfl
theorem h183_287 : code_ 183 287 = opC (vI 60) 289 := rfl
theorem h183_289 : code_ 183 289 = opCpNe 296 292 := rfl
theorem h183_292 : code_ 183 292 = opC (vI 4) 293 := rfl
theorem h183_293 : code_ 183 293 = opGoto 297 := rfl
theorem h183_296 : code_ 183 296 = opC (vI 5) 297 := rfl
theorem h183_297 : code_ 183 297 = opMask [1] (opPI 8 9 300) := rfl
theorem h183_300 : code_ 183 300 = opAld 0 301 := rfl
theorem h183_301 : code_ 183 301 = opDup 302 := rfl
theorem h183_302 : code_ 183 302 = opGI 8 7 305 := rfl
theorem h183_305 : code_ 183 305 = opC (vI 1) 306 := rfl
theorem h183_306 : code_ 183 306 = opB (fun x y => x + y) 307 := rfl
theorem h183_307 : code_ 183 307 = opPI 8 7 310 := rfl
theorem h183_310 : code_ 183 310 = opMask [0, 1] (opRet) := rfl
theorem h184_0 : code_ 184 0 = opIld 0 1 := rfl
theorem h184_1 : code_ 184 1 = opI2L 2 := rfl
theorem h184_2 : code_ 184 2 = opC (vI 8) 4 := rfl
theorem h184_4 : code_ 184 4 = opLS shlL 5 := rfl
theorem h184_5 : code_ 184 5 = opIld 1 6 := rfl
theorem h184_6 : code_ 184 6 = opI2L 7 := rfl
theorem h184_7 : code_ 184 7 = opLB (fun x y => x ||| y) 8 := rfl
theorem h184_8 : code_ 184 8 = opLret := rfl
theorem h185_0 : code_ 185 0 = opIld 0 1 := rfl
theorem h185_1 : code_ 185 1 = opIld 1 2 := rfl
theorem h185_2 : code_ 185 2 = opK kL 184 2 99 5 := rfl
theorem h185_5 : code_ 185 5 = opC (vI 8) 7 := rfl
theorem h185_7 : code_ 185 7 = opLS shlL 8 := rfl
theorem h185_8 : code_ 185 8 = opIld 2 9 := rfl
theorem h185_9 : code_ 185 9 = opI2L 10 := rfl
theorem h185_10 : code_ 185 10 = opLB (fun x y => x ||| y) 11 := rfl
theorem h185_11 : code_ 185 11 = opLret := rfl
theorem h186_0 : code_ 186 0 = opIld 0 1 := rfl
theorem h186_1 : code_ 186 1 = opIld 1 2 := rfl
theorem h186_2 : code_ 186 2 = opIld 2 3 := rfl
theorem h186_3 : code_ 186 3 = opK kL 185 3 99 6 := rfl
theorem h186_6 : code_ 186 6 = opC (vI 8) 8 := rfl
theorem h186_8 : code_ 186 8 = opLS shlL 9 := rfl
theorem h186_9 : code_ 186 9 = opIld 3 10 := rfl
theorem h186_10 : code_ 186 10 = opI2L 11 := rfl
theorem h186_11 : code_ 186 11 = opLB (fun x y => x ||| y) 12 := rfl
theorem h186_12 : code_ 186 12 = opLret := rfl
theorem h187_0 : code_ 187 0 = opIld 0 1 := rfl
theorem h187_1 : code_ 187 1 = opIld 1 2 := rfl
theorem h187_2 : code_ 187 2 = opIld 2 3 := rfl
theorem h187_3 : code_ 187 3 = opIld 3 4 := rfl
theorem h187_4 : code_ 187 4 = opK kL 186 4 99 7 := rfl
theorem h187_7 : code_ 187 7 = opC (vI 8) 9 := rfl
theorem h187_9 : code_ 187 9 = opLS shlL 10 := rfl
theorem h187_10 : code_ 187 10 = opIld 4 12 := rfl
theorem h187_12 : code_ 187 12 = opI2L 13 := rfl
theorem h187_13 : code_ 187 13 = opLB (fun x y => x ||| y) 14 := rfl
theorem h187_14 : code_ 187 14 = opLret := rfl
theorem h188_0 : code_ 188 0 = opIld 0 1 := rfl
theorem h188_1 : code_ 188 1 = opIld 1 2 := rfl
theorem h188_2 : code_ 188 2 = opIld 2 3 := rfl
theorem h188_3 : code_ 188 3 = opIld 3 4 := rfl
theorem h188_4 : code_ 188 4 = opIld 4 6 := rfl
theorem h188_6 : code_ 188 6 = opK kL 187 5 99 9 := rfl
theorem h188_9 : code_ 188 9 = opC (vI 8) 11 := rfl
theorem h188_11 : code_ 188 11 = opLS shlL 12 := rfl
theorem h188_12 : code_ 188 12 = opIld 5 14 := rfl
theorem h188_14 : code_ 188 14 = opI2L 15 := rfl
theorem h188_15 : code_ 188 15 = opLB (fun x y => x ||| y) 16 := rfl
theorem h188_16 : code_ 188 16 = opLret := rfl
theorem h189_0 : code_ 189 0 = opAld 0 1 := rfl
theorem h189_1 : code_ 189 1 = opGI 8 9 4 := rfl
theorem h189_4 : code_ 189 4 = opC (vI 2) 5 := rfl
theorem h189_5 : code_ 189 5 = opCpNe 21 8 := rfl
theorem h189_8 : code_ 189 8 = opAld 0 9 := rfl
theorem h189_9 : code_ 189 9 = opGJ 8 11 12 := rfl
theorem h189_12 : code_ 189 12 = opLld 1 13 := rfl
theorem h189_13 : code_ 189 13 = opLcmp 14 := rfl
theorem h189_14 : code_ 189 14 = opIfNe 21 17 := rfl
theorem h189_17 : code_ 189 17 = opC (vI 1) 18 := rfl
theorem h189_18 : code_ 189 18 = opGoto 22 := rfl
theorem h189_21 : code_ 189 21 = opMask [0, 1, 2] (opC (vI 0) 22) := rfl
theorem h189_22 : code_ 189 22 = opMask [0, 1, 2] (opZret) := rfl
theorem h190_0 : code_ 190 0 = opAld 0 1 := rfl
theorem h190_1 : code_ 190 1 = opGR 8 2 3 102724 4 := rfl
theorem h190_4 : code_ 190 4 = opAld 0 5 := rfl
theorem h190_5 : code_ 190 5 = opGI 8 12 8 := rfl
theorem h190_8 : code_ 190 8 = opC (vI 73) 10 := rfl
theorem h190_10 : code_ 190 10 = opB (fun x y => x + y) 11 := rfl
theorem h190_11 : code_ 190 11 = opC (vI 2) 12 := rfl
theorem h190_12 : code_ 190 12 = opAld 0 13 := rfl
theorem h190_13 : code_ 190 13 = opGI 8 13 16 := rfl
theorem h190_16 : code_ 190 16 = opB (fun x y => x * y) 17 := rfl
theorem h190_17 : code_ 190 17 = opB (fun x y => x + y) 18 := rfl
theorem h190_18 : code_ 190 18 = opIld 1 19 := rfl
theorem h190_19 : code_ 190 19 = opIas 20 := rfl
theorem h190_20 : code_ 190 20 = opAld 0 21 := rfl
theorem h190_21 : code_ 190 21 = opGR 8 2 3 102724 24 := rfl
theorem h190_24 : code_ 190 24 = opAld 0 25 := rfl
theorem h190_25 : code_ 190 25 = opGI 8 12 28 := rfl
theorem h190_28 : code_ 190 28 = opC (vI 73) 30 := rfl
theorem h190_30 : code_ 190 30 = opB (fun x y => x + y) 31 := rfl
theorem h190_31 : code_ 190 31 = opC (vI 2) 32 := rfl
theorem h190_32 : code_ 190 32 = opAld 0 33 := rfl
theorem h190_33 : code_ 190 33 = opGI 8 13 36 := rfl
theorem h190_36 : code_ 190 36 = opB (fun x y => x * y) 37 := rfl
theorem h190_37 : code_ 190 37 = opB (fun x y => x + y) 38 := rfl
theorem h190_38 : code_ 190 38 = opC (vI 1) 39 := rfl
theorem h190_39 : code_ 190 39 = opB (fun x y => x + y) 40 := rfl
theorem h190_40 : code_ 190 40 = opIld 2 41 := rfl
theorem h190_41 : code_ 190 41 = opIas 42 := rfl
theorem h190_42 : code_ 190 42 = opAld 0 43 := rfl
theorem h190_43 : code_ 190 43 = opDup 44 := rfl
theorem h190_44 : code_ 190 44 = opGI 8 13 47 := rfl
theorem h190_47 : code_ 190 47 = opC (vI 1) 48 := rfl
theorem h190_48 : code_ 190 48 = opB (fun x y => x + y) 49 := rfl
theorem h190_49 : code_ 190 49 = opPI 8 13 52 := rfl
theorem h190_52 : code_ 190 52 = opRet := rfl
theorem h191_0 : code_ 191 0 = opAld 0 1 := rfl
theorem h191_1 : code_ 191 1 = opGI 8 9 4 := rfl
theorem h191_4 : code_ 191 4 = opC (vI 2) 5 := rfl
theorem h191_5 : code_ 191 5 = opCpNe 129 8 := rfl
theorem h191_8 : code_ 191 8 = opAld 0 9 := rfl
theorem h191_9 : code_ 191 9 = opGI 8 7 12 := rfl
theorem h191_12 : code_ 191 12 = opAld 0 13 := rfl
theorem h191_13 : code_ 191 13 = opGI 8 8 16 := rfl
theorem h191_16 : code_ 191 16 = opB (fun x y => x - y) 17 := rfl
theorem h191_17 : code_ 191 17 = opC (vI 7) 19 := rfl
theorem h191_19 : code_ 191 19 = opCpNe 129 22 := rfl
theorem h191_22 : code_ 191 22 = opAld 0 23 := rfl
theorem h191_23 : code_ 191 23 = opAld 0 24 := rfl
theorem h191_24 : code_ 191 24 = opGI 8 8 27 := rfl
theorem h191_27 : code_ 191 27 = opK kI 179 2 8 30 := rfl
theorem h191_30 : code_ 191 30 = opAld 0 31 := rfl
theorem h191_31 : code_ 191 31 = opAld 0 32 := rfl
theorem h191_32 : code_ 191 32 = opGI 8 8 35 := rfl
theorem h191_35 : code_ 191 35 = opC (vI 1) 36 := rfl
theorem h191_36 : code_ 191 36 = opB (fun x y => x + y) 37 := rfl
theorem h191_37 : code_ 191 37 = opK kI 179 2 8 40 := rfl
theorem h191_40 : code_ 191 40 = opAld 0 41 := rfl
theorem h191_41 : code_ 191 41 = opAld 0 42 := rfl
theorem h191_42 : code_ 191 42 = opGI 8 8 45 := rfl
theorem h191_45 : code_ 191 45 = opC (vI 2) 46 := rfl
theorem h191_46 : code_ 191 46 = opB (fun x y => x + y) 47 := rfl
theorem h191_47 : code_ 191 47 = opK kI 179 2 8 50 := rfl
theorem h191_50 : code_ 191 50 = opAld 0 51 := rfl
theorem h191_51 : code_ 191 51 = opAld 0 52 := rfl
theorem h191_52 : code_ 191 52 = opGI 8 8 55 := rfl
theorem h191_55 : code_ 191 55 = opC (vI 3) 56 := rfl
theorem h191_56 : code_ 191 56 = opB (fun x y => x + y) 57 := rfl
theorem h191_57 : code_ 191 57 = opK kI 179 2 8 60 := rfl
theorem h191_60 : code_ 191 60 = opK kL 186 4 99 63 := rfl
theorem h191_63 : code_ 191 63 = opC (vI 99) 65 := rfl
theorem h191_65 : code_ 191 65 = opC (vI 111) 67 := rfl
theorem h191_67 : code_ 191 67 = opC (vI 109) 69 := rfl
theorem h191_69 : code_ 191 69 = opC (vI 112) 71 := rfl
theorem h191_71 : code_ 191 71 = opK kL 186 4 99 74 := rfl
theorem h191_74 : code_ 191 74 = opLcmp 75 := rfl
theorem h191_75 : code_ 191 75 = opIfNe 129 78 := rfl
theorem h191_78 : code_ 191 78 = opAld 0 79 := rfl
theorem h191_79 : code_ 191 79 = opAld 0 80 := rfl
theorem h191_80 : code_ 191 80 = opGI 8 8 83 := rfl
theorem h191_83 : code_ 191 83 = opC (vI 4) 84 := rfl
theorem h191_84 : code_ 191 84 = opB (fun x y => x + y) 85 := rfl
theorem h191_85 : code_ 191 85 = opK kI 179 2 8 88 := rfl
theorem h191_88 : code_ 191 88 = opAld 0 89 := rfl
theorem h191_89 : code_ 191 89 = opAld 0 90 := rfl
theorem h191_90 : code_ 191 90 = opGI 8 8 93 := rfl
theorem h191_93 : code_ 191 93 = opC (vI 5) 94 := rfl
theorem h191_94 : code_ 191 94 = opB (fun x y => x + y) 95 := rfl
theorem h191_95 : code_ 191 95 = opK kI 179 2 8 98 := rfl
theorem h191_98 : code_ 191 98 = opAld 0 99 := rfl
theorem h191_99 : code_ 191 99 = opAld 0 100 := rfl
theorem h191_100 : code_ 191 100 = opGI 8 8 103 := rfl
theorem h191_103 : code_ 191 103 = opC (vI 6) 105 := rfl
theorem h191_105 : code_ 191 105 = opB (fun x y => x + y) 106 := rfl
theorem h191_106 : code_ 191 106 = opK kI 179 2 8 109 := rfl
theorem h191_109 : code_ 191 109 = opK kL 185 3 99 112 := rfl
theorem h191_112 : code_ 191 112 = opC (vI 97) 114 := rfl
theorem h191_114 : code_ 191 114 = opC (vI 99) 116 := rfl
theorem h191_116 : code_ 191 116 = opC (vI 116) 118 := rfl
theorem h191_118 : code_ 191 118 = opK kL 185 3 99 121 := rfl
theorem h191_121 : code_ 191 121 = opLcmp 122 := rfl
theorem h191_122 : code_ 191 122 = opIfNe 129 125 := rfl
theorem h191_125 : code_ 191 125 = opC (vI 1) 126 := rfl
theorem h191_126 : code_ 191 126 = opGoto 130 := rfl
theorem h191_129 : code_ 191 129 = opMask [0] (opC (vI 0) 130) := rfl
theorem h191_130 : code_ 191 130 = opMask [0] (opZret) := rfl
theorem h192_0 : code_ 192 0 = opAld 0 1 := rfl
theorem h192_1 : code_ 192 1 = opGI 8 9 4 := rfl
theorem h192_4 : code_ 192 4 = opC (vI 2) 5 := rfl
theorem h192_5 : code_ 192 5 = opCpEq 10 8 := rfl
theorem h192_8 : code_ 192 8 = opC (vI (-1)) 9 := rfl
theorem h192_9 : code_ 192 9 = opIret := rfl
theorem h192_10 : code_ 192 10 = opAld 0 11 := rfl
theorem h192_11 : code_ 192 11 = opGJ 8 11 14 := rfl
theorem h192_14 : code_ 192 14 = opC (vI 116) 16 := rfl
theorem h192_16 : code_ 192 16 = opC (vI 105) 18 := rfl
theorem h192_18 : code_ 192 18 = opC (vI 109) 20 := rfl
theorem h192_20 : code_ 192 20 = opC (vI 101) 22 := rfl
theorem h192_22 : code_ 192 22 = opK kL 186 4 99 25 := rfl
theorem h192_25 : code_ 192 25 = opLcmp 26 := rfl
theorem h192_26 : code_ 192 26 = opIfNe 31 29 := rfl
theorem h192_29 : code_ 192 29 = opC (vI 0) 30 := rfl
theorem h192_30 : code_ 192 30 = opIret := rfl
theorem h192_31 : code_ 192 31 = opAld 0 32 := rfl
theorem h192_32 : code_ 192 32 = opGJ 8 11 35 := rfl
theorem h192_35 : code_ 192 35 = opC (vI 112) 37 := rfl
theorem h192_37 : code_ 192 37 = opC (vI 97) 39 := rfl
theorem h192_39 : code_ 192 39 = opC (vI 103) 41 := rfl
theorem h192_41 : code_ 192 41 = opC (vI 101) 43 := rfl
theorem h192_43 : code_ 192 43 = opC (vI 115) 45 := rfl
theorem h192_45 : code_ 192 45 = opK kL 187 5 99 48 := rfl
theorem h192_48 : code_ 192 48 = opLcmp 49 := rfl
theorem h192_49 : code_ 192 49 = opIfNe 54 52 := rfl
theorem h192_52 : code_ 192 52 = opC (vI 1) 53 := rfl
theorem h192_53 : code_ 192 53 = opIret := rfl
theorem h192_54 : code_ 192 54 = opAld 0 55 := rfl
theorem h192_55 : code_ 192 55 = opGJ 8 11 58 := rfl
theorem h192_58 : code_ 192 58 = opC (vI 102) 60 := rfl
theorem h192_60 : code_ 192 60 = opC (vI 114) 62 := rfl
theorem h192_62 : code_ 192 62 = opC (vI 97) 64 := rfl
theorem h192_64 : code_ 192 64 = opC (vI 109) 66 := rfl
theorem h192_66 : code_ 192 66 = opC (vI 101) 68 := rfl
theorem h192_68 : code_ 192 68 = opC (vI 115) 70 := rfl
theorem h192_70 : code_ 192 70 = opK kL 188 6 99 73 := rfl
theorem h192_73 : code_ 192 73 = opLcmp 74 := rfl
theorem h192_74 : code_ 192 74 = opIfNe 79 77 := rfl
theorem h192_77 : code_ 192 77 = opC (vI 2) 78 := rfl
theorem h192_78 : code_ 192 78 = opIret := rfl
theorem h192_79 : code_ 192 79 = opAld 0 80 := rfl
theorem h192_80 : code_ 192 80 = opGJ 8 11 83 := rfl
theorem h192_83 : code_ 192 83 = opC (vI 111) 85 := rfl
theorem h192_85 : code_ 192 85 = opC (vI 110) 87 := rfl
theorem h192_87 : code_ 192 87 = opC (vI 101) 89 := rfl
theorem h192_89 : code_ 192 89 = opK kL 185 3 99 92 := rfl
theorem h192_92 : code_ 192 92 = opLcmp 93 := rfl
theorem h192_93 : code_ 192 93 = opIfNe 98 96 := rfl
theorem h192_96 : code_ 192 96 = opC (vI 3) 97 := rfl
theorem h192_97 : code_ 192 97 = opIret := rfl
theorem h192_98 : code_ 192 98 = opAld 0 99 := rfl
theorem h192_99 : code_ 192 99 = opGJ 8 11 102 := rfl
theorem h192_102 : code_ 192 102 = opC (vI 111) 104 := rfl
theorem h192_104 : code_ 192 104 = opC (vI 116) 106 := rfl
theorem h192_106 : code_ 192 106 = opC (vI 104) 108 := rfl
theorem h192_108 : code_ 192 108 = opC (vI 101) 110 := rfl
theorem h192_110 : code_ 192 110 = opC (vI 114) 112 := rfl
theorem h192_112 : code_ 192 112 = opK kL 187 5 99 115 := rfl
theorem h192_115 : code_ 192 115 = opLcmp 116 := rfl
theorem h192_116 : code_ 192 116 = opIfNe 123 119 := rfl
theorem h192_119 : code_ 192 119 = opC (vI 4) 120 := rfl
theorem h192_120 : code_ 192 120 = opGoto 151 := rfl
theorem h192_123 : code_ 192 123 = opAld 0 124 := rfl
theorem h192_124 : code_ 192 124 = opGJ 8 11 127 := rfl
theorem h192_127 : code_ 192 127 = opC (vI 115) 129 := rfl
theorem h192_129 : code_ 192 129 = opC (vI 112) 131 := rfl
theorem h192_131 : code_ 192 131 = opC (vI 97) 133 := rfl
theorem h192_133 : code_ 192 133 = opC (vI 114) 135 := rfl
theorem h192_135 : code_ 192 135 = opC (vI 115) 137 := rfl
theorem h192_137 : code_ 192 137 = opC (vI 101) 139 := rfl
theorem h192_139 : code_ 192 139 = opK kL 188 6 99 142 := rfl
theorem h192_142 : code_ 192 142 = opLcmp 143 := rfl
theorem h192_143 : code_ 192 143 = opIfNe 150 146 := rfl
theorem h192_146 : code_ 192 146 = opC (vI 5) 147 := rfl
theorem h192_147 : code_ 192 147 = opGoto 151 := rfl
theorem h192_150 : code_ 192 150 = opC (vI (-1)) 151 := rfl
theorem h192_151 : code_ 192 151 = opMask [0] (opIret) := rfl
theorem h193_0 : code_ 193 0 = opIld 1 1 := rfl
theorem h193_1 : code_ 193 1 = opC (vI 3) 2 := rfl
theorem h193_2 : code_ 193 2 = opCpLt 28 5 := rfl
theorem h193_5 : code_ 193 5 = opIld 1 6 := rfl
theorem h193_6 : code_ 193 6 = opC (vI 5) 7 := rfl
theorem h193_7 : code_ 193 7 = opCpGe 20 10 := rfl
theorem h193_10 : code_ 193 10 = opAld 0 11 := rfl
theorem h193_11 : code_ 193 11 = opGI 8 14 14 := rfl
theorem h193_14 : code_ 193 14 = opIfNe 32 17 := rfl
theorem h193_17 : code_ 193 17 = opGoto 28 := rfl
theorem h193_20 : code_ 193 20 = opAld 0 21 := rfl
theorem h193_21 : code_ 193 21 = opGI 8 14 24 := rfl
theorem h193_24 : code_ 193 24 = opC (vI 1) 25 := rfl
theorem h193_25 : code_ 193 25 = opCpNe 32 28 := rfl
theorem h193_28 : code_ 193 28 = opMask [0, 1] (opC (vI 1) 29) := rfl
theorem h193_29 : code_ 193 29 = opGoto 33 := rfl
theorem h193_32 : code_ 193 32 = opMask [0, 1] (opC (vI 0) 33) := rfl
theorem h193_33 : code_ 193 33 = opMask [0, 1] (opZret) := rfl
theorem h194_0 : code_ 194 0 = opIld 0 1 := rfl
theorem h194_1 : code_ 194 1 = opC (vI 40) 3 := rfl
theorem h194_3 : code_ 194 3 = opCpLt 10 6 := rfl
theorem h194_6 : code_ 194 6 = opC (vI 0) 7 := rfl
theorem h194_7 : code_ 194 7 = opGoto 73 := rfl
theorem h194_10 : code_ 194 10 = opIld 0 11 := rfl
theorem h194_11 : code_ 194 11 = opC (vI 22) 13 := rfl
theorem h194_13 : code_ 194 13 = opCpNe 20 16 := rfl
theorem h194_16 : code_ 194 16 = opC (vI 1) 17 := rfl
theorem h194_17 : code_ 194 17 = opGoto 73 := rfl
theorem h194_20 : code_ 194 20 = opIld 0 21 := rfl
theorem h194_21 : code_ 194 21 = opC (vI 21) 23 := rfl
theorem h194_23 : code_ 194 23 = opCpNe 30 26 := rfl
theorem h194_26 : code_ 194 26 = opC (vI 2) 27 := rfl
theorem h194_27 : code_ 194 27 = opGoto 73 := rfl
theorem h194_30 : code_ 194 30 = opIld 0 31 := rfl
theorem h194_31 : code_ 194 31 = opC (vI 20) 33 := rfl
theorem h194_33 : code_ 194 33 = opCpNe 40 36 := rfl
theorem h194_36 : code_ 194 36 = opC (vI 3) 37 := rfl
theorem h194_37 : code_ 194 37 = opGoto 73 := rfl
theorem h194_40 : code_ 194 40 = opIld 0 41 := rfl
theorem h194_41 : code_ 194 41 = opC (vI 10) 43 := rfl
theorem h194_43 : code_ 194 43 = opCpLt 50 46 := rfl
theorem h194_46 : code_ 194 46 = opC (vI 4) 47 := rfl
theorem h194_47 : code_ 194 47 = opGoto 73 := rfl
theorem h194_50 : code_ 194 50 = opIld 0 51 := rfl
theorem h194_51 : code_ 194 51 = opC (vI 8) 53 := rfl
theorem h194_53 : code_ 194 53 = opCpLt 61 56 := rfl
theorem h194_56 : code_ 194 56 = opC (vI 6) 58 := rfl
theorem h194_58 : code_ 194 58 = opGoto 73 := rfl
theorem h194_61 : code_ 194 61 = opIld 0 62 := rfl
theorem h194_62 : code_ 194 62 = opC (vI 6) 64 := rfl
theorem h194_64 : code_ 194 64 = opCpLt 71 67 := rfl
theorem h194_67 : code_ 194 67 = opC (vI 5) 68 := rfl
theorem h194_68 : code_ 194 68 = opGoto 73 := rfl
theorem h194_71 : code_ 194 71 = opC (vI 7) 73 := rfl
theorem h194_73 : code_ 194 73 = opMask [0] (opIret) := rfl
theorem h195_0 : code_ 195 0 = opAld 0 1 := rfl
theorem h195_1 : code_ 195 1 = opGI 8 16 4 := rfl
theorem h195_4 : code_ 195 4 = opIfLe 93 7 := rfl
theorem h195_7 : code_ 195 7 = opAld 0 8 := rfl
theorem h195_8 : code_ 195 8 = opGR 8 15 5 100160 11 := rfl
theorem h195_11 : code_ 195 11 = opAld 0 12 := rfl
theorem h195_12 : code_ 195 12 = opGI 8 16 15 := rfl
theorem h195_15 : code_ 195 15 = opC (vI 1) 16 := rfl
theorem h195_16 : code_ 195 16 = opB (fun x y => x - y) 17 := rfl
theorem h195_17 : code_ 195 17 = opIal 18 := rfl
theorem h195_18 : code_ 195 18 = opK kI 194 1 99 21 := rfl
theorem h195_21 : code_ 195 21 = opIld 1 22 := rfl
theorem h195_22 : code_ 195 22 = opCpLt 93 25 := rfl
theorem h195_25 : code_ 195 25 = opAld 0 26 := rfl
theorem h195_26 : code_ 195 26 = opDup 27 := rfl
theorem h195_27 : code_ 195 27 = opGI 8 16 30 := rfl
theorem h195_30 : code_ 195 30 = opC (vI 1) 31 := rfl
theorem h195_31 : code_ 195 31 = opB (fun x y => x - y) 32 := rfl
theorem h195_32 : code_ 195 32 = opPI 8 16 35 := rfl
theorem h195_35 : code_ 195 35 = opAld 0 36 := rfl
theorem h195_36 : code_ 195 36 = opAld 0 37 := rfl
theorem h195_37 : code_ 195 37 = opGR 8 15 5 100160 40 := rfl
theorem h195_40 : code_ 195 40 = opAld 0 41 := rfl
theorem h195_41 : code_ 195 41 = opGI 8 16 44 := rfl
theorem h195_44 : code_ 195 44 = opIal 45 := rfl
theorem h195_45 : code_ 195 45 = opC (vI 0) 46 := rfl
theorem h195_46 : code_ 195 46 = opK kV 190 3 8 49 := rfl
theorem h195_49 : code_ 195 49 = opAld 0 50 := rfl
theorem h195_50 : code_ 195 50 = opGR 8 15 5 100160 53 := rfl
theorem h195_53 : code_ 195 53 = opAld 0 54 := rfl
theorem h195_54 : code_ 195 54 = opGI 8 16 57 := rfl
theorem h195_57 : code_ 195 57 = opIal 58 := rfl
theorem h195_58 : code_ 195 58 = opK kI 194 1 99 61 := rfl
theorem h195_61 : code_ 195 61 = opC (vI 7) 63 := rfl
theorem h195_63 : code_ 195 63 = opCpEq 80 66 := rfl
theorem h195_66 : code_ 195 66 = opAld 0 67 := rfl
theorem h195_67 : code_ 195 67 = opGR 8 15 5 100160 70 := rfl
theorem h195_70 : code_ 195 70 = opAld 0 71 := rfl
theorem h195_71 : code_ 195 71 = opGI 8 16 74 := rfl
theorem h195_74 : code_ 195 74 = opIal 75 := rfl
theorem h195_75 : code_ 195 75 = opC (vI 20) 77 := rfl
theorem h195_77 : code_ 195 77 = opCpNe 0 80 := rfl
theorem h195_80 : code_ 195 80 = opAld 0 81 := rfl
theorem h195_81 : code_ 195 81 = opDup 82 := rfl
theorem h195_82 : code_ 195 82 = opGI 8 17 85 := rfl
theorem h195_85 : code_ 195 85 = opC (vI 1) 86 := rfl
theorem h195_86 : code_ 195 86 = opB (fun x y => x - y) 87 := rfl
theorem h195_87 : code_ 195 87 = opPI 8 17 90 := rfl
theorem h195_90 : code_ 195 90 = opGoto 0 := rfl
theorem h195_93 : code_ 195 93 = opMask [0, 1] (opRet) := rfl
theorem h196_0 : code_ 196 0 = opAld 0 1 := rfl
theorem h196_1 : code_ 196 1 = opGI 8 16 4 := rfl
theorem h196_4 : code_ 196 4 = opC (vI 1) 5 := rfl
theorem h196_5 : code_ 196 5 = opB (fun x y => x - y) 6 := rfl
theorem h196_6 : code_ 196 6 = opIst 1 7 := rfl
theorem h196_7 : code_ 196 7 = opIld 1 8 := rfl
theorem h196_8 : code_ 196 8 = opIfLt 28 11 := rfl
theorem h196_11 : code_ 196 11 = opAld 0 12 := rfl
theorem h196_12 : code_ 196 12 = opGR 8 15 5 100160 15 := rfl
theorem h196_15 : code_ 196 15 = opIld 1 16 := rfl
theorem h196_16 : code_ 196 16 = opIal 17 := rfl
theorem h196_17 : code_ 196 17 = opC (vI 40) 19 := rfl
theorem h196_19 : code_ 196 19 = opCpGe 28 22 := rfl
theorem h196_22 : code_ 196 22 = opInc 1 (-1) 25 := rfl
theorem h196_25 : code_ 196 25 = opGoto 7 := rfl
theorem h196_28 : code_ 196 28 = opMask [0] (opIld 1 29) := rfl
theorem h196_29 : code_ 196 29 = opIret := rfl
theorem h197_0 : code_ 197 0 = opAld 0 1 := rfl
theorem h197_1 : code_ 197 1 = opK kI 196 1 8 4 := rfl
theorem h197_4 : code_ 197 4 = opIfGe 11 7 := rfl
theorem h197_7 : code_ 197 7 = opC (vI (-1)) 8 := rfl
theorem h197_8 : code_ 197 8 = opGoto 20 := rfl
theorem h197_11 : code_ 197 11 = opAld 0 12 := rfl
theorem h197_12 : code_ 197 12 = opGR 8 15 5 100160 15 := rfl
theorem h197_15 : code_ 197 15 = opAld 0 16 := rfl
theorem h197_16 : code_ 197 16 = opK kI 196 1 8 19 := rfl
theorem h197_19 : code_ 197 19 = opIal 20 := rfl
theorem h197_20 : code_ 197 20 = opMask [0] (opIret) := rfl
theorem h198_0 : code_ 198 0 = opAld 0 1 := rfl
theorem h198_1 : code_ 198 1 = opGI 8 16 4 := rfl
theorem h198_4 : code_ 198 4 = opC (vI 1) 5 := rfl
theorem h198_5 : code_ 198 5 = opB (fun x y => x - y) 6 := rfl
theorem h198_6 : code_ 198 6 = opIst 1 7 := rfl
theorem h198_7 : code_ 198 7 = opIld 1 8 := rfl
theorem h198_8 : code_ 198 8 = opIfLt 30 11 := rfl
theorem h198_11 : code_ 198 11 = opAld 0 12 := rfl
theorem h198_12 : code_ 198 12 = opGR 8 15 5 100160 15 := rfl
theorem h198_15 : code_ 198 15 = opIld 1 16 := rfl
theorem h198_16 : code_ 198 16 = opIal 17 := rfl
theorem h198_17 : code_ 198 17 = opK kI 194 1 99 20 := rfl
theorem h198_20 : code_ 198 20 = opC (vI 4) 21 := rfl
theorem h198_21 : code_ 198 21 = opCpLe 30 24 := rfl
theorem h198_24 : code_ 198 24 = opInc 1 (-1) 27 := rfl
theorem h198_27 : code_ 198 27 = opGoto 7 := rfl
theorem h198_30 : code_ 198 30 = opIld 1 31 := rfl
theorem h198_31 : code_ 198 31 = opIfLt 51 34 := rfl
theorem h198_34 : code_ 198 34 = opAld 0 35 := rfl
theorem h198_35 : code_ 198 35 = opGR 8 15 5 100160 38 := rfl
theorem h198_38 : code_ 198 38 = opIld 1 39 := rfl
theorem h198_39 : code_ 198 39 = opIal 40 := rfl
theorem h198_40 : code_ 198 40 = opK kI 194 1 99 43 := rfl
theorem h198_43 : code_ 198 43 = opC (vI 4) 44 := rfl
theorem h198_44 : code_ 198 44 = opCpNe 51 47 := rfl
theorem h198_47 : code_ 198 47 = opC (vI 1) 48 := rfl
theorem h198_48 : code_ 198 48 = opGoto 52 := rfl
theorem h198_51 : code_ 198 51 = opMask [0, 1] (opC (vI 0) 52) := rfl
theorem h198_52 : code_ 198 52 = opMask [0, 1] (opZret) := rfl
theorem h199_0 : code_ 199 0 = opAld 0 1 := rfl
theorem h199_1 : code_ 199 1 = opK kI 197 1 8 4 := rfl
theorem h199_4 : code_ 199 4 = opC (vI 41) 6 := rfl
theorem h199_6 : code_ 199 6 = opCpNe 51 9 := rfl
theorem h199_9 : code_ 199 9 = opAld 0 10 := rfl
theorem h199_10 : code_ 199 10 = opGR 8 15 5 100160 13 := rfl
theorem h199_13 : code_ 199 13 = opAld 0 14 := rfl
theorem h199_14 : code_ 199 14 = opGI 8 16 17 := rfl
theorem h199_17 : code_ 199 17 = opC (vI 1) 18 := rfl
theorem h199_18 : code_ 199 18 = opB (fun x y => x - y) 19 := rfl
theorem h199_19 : code_ 199 19 = opIal 20 := rfl
theorem h199_20 : code_ 199 20 = opC (vI 40) 22 := rfl
theorem h199_22 : code_ 199 22 = opCpGe 47 25 := rfl
theorem h199_25 : code_ 199 25 = opAld 0 26 := rfl
theorem h199_26 : code_ 199 26 = opGR 8 15 5 100160 29 := rfl
theorem h199_29 : code_ 199 29 = opAld 0 30 := rfl
theorem h199_30 : code_ 199 30 = opGI 8 16 33 := rfl
theorem h199_33 : code_ 199 33 = opC (vI 1) 34 := rfl
theorem h199_34 : code_ 199 34 = opB (fun x y => x - y) 35 := rfl
theorem h199_35 : code_ 199 35 = opIal 36 := rfl
theorem h199_36 : code_ 199 36 = opK kI 194 1 99 39 := rfl
theorem h199_39 : code_ 199 39 = opC (vI 1) 40 := rfl
theorem h199_40 : code_ 199 40 = opC (vI 3) 41 := rfl
theorem h199_41 : code_ 199 41 = opK kI 158 3 99 44 := rfl
theorem h199_44 : code_ 199 44 = opIfEq 51 47 := rfl
theorem h199_47 : code_ 199 47 = opMask [0] (opC (vI 1) 48) := rfl
theorem h199_48 : code_ 199 48 = opGoto 52 := rfl
theorem h199_51 : code_ 199 51 = opMask [0] (opC (vI 0) 52) := rfl
theorem h199_52 : code_ 199 52 = opMask [0] (opZret) := rfl
theorem h200_0 : code_ 200 0 = opAld 0 1 := rfl
theorem h200_1 : code_ 200 1 = opGI 8 17 4 := rfl
theorem h200_4 : code_ 200 4 = opC (vI 8) 6 := rfl
theorem h200_6 : code_ 200 6 = opCpNe 11 9 := rfl
theorem h200_9 : code_ 200 9 = opC (vI 3) 10 := rfl
theorem h200_10 : code_ 200 10 = opIret := rfl
theorem h200_11 : code_ 200 11 = opAld 0 12 := rfl
theorem h200_12 : code_ 200 12 = opDup 13 := rfl
theorem h200_13 : code_ 200 13 = opGI 8 17 16 := rfl
theorem h200_16 : code_ 200 16 = opC (vI 1) 17 := rfl
theorem h200_17 : code_ 200 17 = opB (fun x y => x + y) 18 := rfl
theorem h200_18 : code_ 200 18 = opPI 8 17 21 := rfl
theorem h200_21 : code_ 200 21 = opAld 0 22 := rfl
theorem h200_22 : code_ 200 22 = opGR 8 15 5 100160 25 := rfl
theorem h200_25 : code_ 200 25 = opAld 0 26 := rfl
theorem h200_26 : code_ 200 26 = opGI 8 16 29 := rfl
theorem h200_29 : code_ 200 29 = opIld 1 30 := rfl
theorem h200_30 : code_ 200 30 = opIas 31 := rfl
theorem h200_31 : code_ 200 31 = opAld 0 32 := rfl
theorem h200_32 : code_ 200 32 = opDup 33 := rfl
theorem h200_33 : code_ 200 33 = opGI 8 16 36 := rfl
theorem h200_36 : code_ 200 36 = opC (vI 1) 37 := rfl
theorem h200_37 : code_ 200 37 = opB (fun x y => x + y) 38 := rfl
theorem h200_38 : code_ 200 38 = opPI 8 16 41 := rfl
theorem h200_41 : code_ 200 41 = opAld 0 42 := rfl
theorem h200_42 : code_ 200 42 = opK kV 183 1 8 45 := rfl
theorem h200_45 : code_ 200 45 = opC (vI 0) 46 := rfl
theorem h200_46 : code_ 200 46 = opIret := rfl
theorem h201_0 : code_ 201 0 = opAld 0 1 := rfl
theorem h201_1 : code_ 201 1 = opGI 8 9 4 := rfl
theorem h201_4 : code_ 201 4 = opC (vI 1) 5 := rfl
theorem h201_5 : code_ 201 5 = opCpNe 20 8 := rfl
theorem h201_8 : code_ 201 8 = opAld 0 9 := rfl
theorem h201_9 : code_ 201 9 = opGI 8 10 12 := rfl
theorem h201_12 : code_ 201 12 = opC (vI 9999) 15 := rfl
theorem h201_15 : code_ 201 15 = opCpLe 20 18 := rfl
theorem h201_18 : code_ 201 18 = opC (vI 2) 19 := rfl
theorem h201_19 : code_ 201 19 = opIret := rfl
theorem h201_20 : code_ 201 20 = opMask [1] (opAld 0 21) := rfl
theorem h201_21 : code_ 201 21 = opK kI 192 1 8 24 := rfl
theorem h201_24 : code_ 201 24 = opIst 1 25 := rfl
theorem h201_25 : code_ 201 25 = opIld 1 26 := rfl
theorem h201_26 : code_ 201 26 = opIfLt 39 29 := rfl
theorem h201_29 : code_ 201 29 = opAld 0 30 := rfl
theorem h201_30 : code_ 201 30 = opIld 1 31 := rfl
theorem h201_31 : code_ 201 31 = opK kI 193 2 8 34 := rfl
theorem h201_34 : code_ 201 34 = opIfNe 39 37 := rfl
theorem h201_37 : code_ 201 37 = opC (vI 5) 38 := rfl
theorem h201_38 : code_ 201 38 = opIret := rfl
theorem h201_39 : code_ 201 39 = opAld 0 40 := rfl
theorem h201_40 : code_ 201 40 = opGI 8 9 43 := rfl
theorem h201_43 : code_ 201 43 = opC (vI 1) 44 := rfl
theorem h201_44 : code_ 201 44 = opCpEq 51 47 := rfl
theorem h201_47 : code_ 201 47 = opIld 1 48 := rfl
theorem h201_48 : code_ 201 48 = opIfLt 101 51 := rfl
theorem h201_51 : code_ 201 51 = opAld 0 52 := rfl
theorem h201_52 : code_ 201 52 = opAld 0 53 := rfl
theorem h201_53 : code_ 201 53 = opGI 8 9 56 := rfl
theorem h201_56 : code_ 201 56 = opC (vI 1) 57 := rfl
theorem h201_57 : code_ 201 57 = opCpNe 64 60 := rfl
theorem h201_60 : code_ 201 60 = opC (vI 0) 61 := rfl
theorem h201_61 : code_ 201 61 = opGoto 65 := rfl
theorem h201_64 : code_ 201 64 = opC (vI 1) 65 := rfl
theorem h201_65 : code_ 201 65 = opAld 0 66 := rfl
theorem h201_66 : code_ 201 66 = opGI 8 9 69 := rfl
theorem h201_69 : code_ 201 69 = opC (vI 1) 70 := rfl
theorem h201_70 : code_ 201 70 = opCpNe 80 73 := rfl
theorem h201_73 : code_ 201 73 = opAld 0 74 := rfl
theorem h201_74 : code_ 201 74 = opGI 8 10 77 := rfl
theorem h201_77 : code_ 201 77 = opGoto 81 := rfl
theorem h201_80 : code_ 201 80 = opIld 1 81 := rfl
theorem h201_81 : code_ 201 81 = opMask [1] (opK kV 190 3 8 84) := rfl
theorem h201_84 : code_ 201 84 = opAld 0 85 := rfl
theorem h201_85 : code_ 201 85 = opK kV 183 1 8 88 := rfl
theorem h201_88 : code_ 201 88 = opAld 0 89 := rfl
theorem h201_89 : code_ 201 89 = opC (vI 1) 90 := rfl
theorem h201_90 : code_ 201 90 = opPZ 8 18 93 := rfl
theorem h201_93 : code_ 201 93 = opAld 0 94 := rfl
theorem h201_94 : code_ 201 94 = opC (vI 7) 96 := rfl
theorem h201_96 : code_ 201 96 = opK kV 195 2 8 99 := rfl
theorem h201_99 : code_ 201 99 = opC (vI 0) 100 := rfl
theorem h201_100 : code_ 201 100 = opIret := rfl
theorem h201_101 : code_ 201 101 = opAld 0 102 := rfl
theorem h201_102 : code_ 201 102 = opGI 8 9 105 := rfl
theorem h201_105 : code_ 201 105 = opC (vI 40) 107 := rfl
theorem h201_107 : code_ 201 107 = opCpNe 117 110 := rfl
theorem h201_110 : code_ 201 110 = opAld 0 111 := rfl
theorem h201_111 : code_ 201 111 = opC (vI 40) 113 := rfl
theorem h201_113 : code_ 201 113 = opK kI 200 2 8 116 := rfl
theorem h201_116 : code_ 201 116 = opIret := rfl
theorem h201_117 : code_ 201 117 = opAld 0 118 := rfl
theorem h201_118 : code_ 201 118 = opGI 8 9 121 := rfl
theorem h201_121 : code_ 201 121 = opC (vI 45) 123 := rfl
theorem h201_123 : code_ 201 123 = opCpNe 132 126 := rfl
theorem h201_126 : code_ 201 126 = opAld 0 127 := rfl
theorem h201_127 : code_ 201 127 = opC (vI 5) 128 := rfl
theorem h201_128 : code_ 201 128 = opK kI 200 2 8 131 := rfl
theorem h201_131 : code_ 201 131 = opIret := rfl
theorem h201_132 : code_ 201 132 = opAld 0 133 := rfl
theorem h201_133 : code_ 201 133 = opC (vI 108) 135 := rfl
theorem h201_135 : code_ 201 135 = opC (vI 105) 137 := rfl
theorem h201_137 : code_ 201 137 = opC (vI 118) 139 := rfl
theorem h201_139 : code_ 201 139 = opC (vI 101) 141 := rfl
theorem h201_141 : code_ 201 141 = opK kL 186 4 99 144 := rfl
theorem h201_144 : code_ 201 144 = opK kI 189 2 8 147 := rfl
theorem h201_147 : code_ 201 147 = opIfEq 156 150 := rfl
theorem h201_150 : code_ 201 150 = opAld 0 151 := rfl
theorem h201_151 : code_ 201 151 = opC (vI 2) 152 := rfl
theorem h201_152 : code_ 201 152 = opK kI 200 2 8 155 := rfl
theorem h201_155 : code_ 201 155 = opIret := rfl
theorem h201_156 : code_ 201 156 = opAld 0 157 := rfl
theorem h201_157 : code_ 201 157 = opC (vI 112) 159 := rfl
theorem h201_159 : code_ 201 159 = opC (vI 108) 161 := rfl
theorem h201_161 : code_ 201 161 = opC (vI 97) 163 := rfl
theorem h201_163 : code_ 201 163 = opC (vI 99) 165 := rfl
theorem h201_165 : code_ 201 165 = opC (vI 101) 167 := rfl
theorem h201_167 : code_ 201 167 = opK kL 187 5 99 170 := rfl
theorem h201_170 : code_ 201 170 = opK kI 189 2 8 173 := rfl
theorem h201_173 : code_ 201 173 = opIfEq 182 176 := rfl
theorem h201_176 : code_ 201 176 = opAld 0 177 := rfl
theorem h201_177 : code_ 201 177 = opC (vI 4) 178 := rfl
theorem h201_178 : code_ 201 178 = opK kI 200 2 8 181 := rfl
theorem h201_181 : code_ 201 181 = opIret := rfl
theorem h201_182 : code_ 201 182 = opAld 0 183 := rfl
theorem h201_183 : code_ 201 183 = opC (vI 105) 185 := rfl
theorem h201_185 : code_ 201 185 = opC (vI 102) 187 := rfl
theorem h201_187 : code_ 201 187 = opK kL 184 2 99 190 := rfl
theorem h201_190 : code_ 201 190 = opK kI 189 2 8 193 := rfl
theorem h201_193 : code_ 201 193 = opIfEq 203 196 := rfl
theorem h201_196 : code_ 201 196 = opAld 0 197 := rfl
theorem h201_197 : code_ 201 197 = opC (vI 41) 199 := rfl
theorem h201_199 : code_ 201 199 = opK kI 200 2 8 202 := rfl
theorem h201_202 : code_ 201 202 = opIret := rfl
theorem h201_203 : code_ 201 203 = opAld 0 204 := rfl
theorem h201_204 : code_ 201 204 = opC (vI 110) 206 := rfl
theorem h201_206 : code_ 201 206 = opC (vI 111) 208 := rfl
theorem h201_208 : code_ 201 208 = opC (vI 116) 210 := rfl
theorem h201_210 : code_ 201 210 = opK kL 185 3 99 213 := rfl
theorem h201_213 : code_ 201 213 = opK kI 189 2 8 216 := rfl
theorem h201_216 : code_ 201 216 = opIfEq 235 219 := rfl
theorem h201_219 : code_ 201 219 = opAld 0 220 := rfl
theorem h201_220 : code_ 201 220 = opK kI 199 1 8 223 := rfl
theorem h201_223 : code_ 201 223 = opIfEq 235 226 := rfl
theorem h201_226 : code_ 201 226 = opAld 0 227 := rfl
theorem h201_227 : code_ 201 227 = opC (vI 20) 229 := rfl
theorem h201_229 : code_ 201 229 = opK kI 200 2 8 232 := rfl
theorem h201_232 : code_ 201 232 = opGoto 236 := rfl
theorem h201_235 : code_ 201 235 = opMask [0, 1] (opC (vI 1) 236) := rfl
theorem h201_236 : code_ 201 236 = opMask [0, 1] (opIret) := rfl
theorem h202_0 : code_ 202 0 = opAld 0 1 := rfl
theorem h202_1 : code_ 202 1 = opGI 8 9 4 := rfl
theorem h202_4 : code_ 202 4 = opC (vI 60) 6 := rfl
theorem h202_6 : code_ 202 6 = opCpNe 14 9 := rfl
theorem h202_9 : code_ 202 9 = opC (vI 10) 11 := rfl
theorem h202_11 : code_ 202 11 = opGoto 83 := rfl
theorem h202_14 : code_ 202 14 = opAld 0 15 := rfl
theorem h202_15 : code_ 202 15 = opGI 8 9 18 := rfl
theorem h202_18 : code_ 202 18 = opC (vI 4) 19 := rfl
theorem h202_19 : code_ 202 19 = opCpNe 27 22 := rfl
theorem h202_22 : code_ 202 22 = opC (vI 11) 24 := rfl
theorem h202_24 : code_ 202 24 = opGoto 83 := rfl
theorem h202_27 : code_ 202 27 = opAld 0 28 := rfl
theorem h202_28 : code_ 202 28 = opGI 8 9 31 := rfl
theorem h202_31 : code_ 202 31 = opC (vI 62) 33 := rfl
theorem h202_33 : code_ 202 33 = opCpNe 41 36 := rfl
theorem h202_36 : code_ 202 36 = opC (vI 12) 38 := rfl
theorem h202_38 : code_ 202 38 = opGoto 83 := rfl
theorem h202_41 : code_ 202 41 = opAld 0 42 := rfl
theorem h202_42 : code_ 202 42 = opGI 8 9 45 := rfl
theorem h202_45 : code_ 202 45 = opC (vI 5) 46 := rfl
theorem h202_46 : code_ 202 46 = opCpNe 54 49 := rfl
theorem h202_49 : code_ 202 49 = opC (vI 13) 51 := rfl
theorem h202_51 : code_ 202 51 = opGoto 83 := rfl
theorem h202_54 : code_ 202 54 = opAld 0 55 := rfl
theorem h202_55 : code_ 202 55 = opGI 8 9 58 := rfl
theorem h202_58 : code_ 202 58 = opC (vI 61) 60 := rfl
theorem h202_60 : code_ 202 60 = opCpNe 68 63 := rfl
theorem h202_63 : code_ 202 63 = opC (vI 14) 65 := rfl
theorem h202_65 : code_ 202 65 = opGoto 83 := rfl
theorem h202_68 : code_ 202 68 = opAld 0 69 := rfl
theorem h202_69 : code_ 202 69 = opGI 8 9 72 := rfl
theorem h202_72 : code_ 202 72 = opC (vI 35) 74 := rfl
theorem h202_74 : code_ 202 74 = opCpNe 82 77 := rfl
theorem h202_77 : code_ 202 77 = opC (vI 15) 79 := rfl
theorem h202_79 : code_ 202 79 = opGoto 83 := rfl
theorem h202_82 : code_ 202 82 = opC (vI (-1)) 83 := rfl
theorem h202_83 : code_ 202 83 = opMask [0] (opIret) := rfl
theorem h203_0 : code_ 203 0 = opAld 0 1 := rfl
theorem h203_1 : code_ 203 1 = opGI 8 9 4 := rfl
theorem h203_4 : code_ 203 4 = opC (vI 43) 6 := rfl
theorem h203_6 : code_ 203 6 = opCpNe 12 9 := rfl
theorem h203_9 : code_ 203 9 = opC (vI 6) 11 := rfl
theorem h203_11 : code_ 203 11 = opIret := rfl
theorem h203_12 : code_ 203 12 = opAld 0 13 := rfl
theorem h203_13 : code_ 203 13 = opGI 8 9 16 := rfl
theorem h203_16 : code_ 203 16 = opC (vI 45) 18 := rfl
theorem h203_18 : code_ 203 18 = opCpNe 24 21 := rfl
theorem h203_21 : code_ 203 21 = opC (vI 7) 23 := rfl
theorem h203_23 : code_ 203 23 = opIret := rfl
theorem h203_24 : code_ 203 24 = opAld 0 25 := rfl
theorem h203_25 : code_ 203 25 = opGI 8 9 28 := rfl
theorem h203_28 : code_ 203 28 = opC (vI 42) 30 := rfl
theorem h203_30 : code_ 203 30 = opCpNe 36 33 := rfl
theorem h203_33 : code_ 203 33 = opC (vI 8) 35 := rfl
theorem h203_35 : code_ 203 35 = opIret := rfl
theorem h203_36 : code_ 203 36 = opAld 0 37 := rfl
theorem h203_37 : code_ 203 37 = opGI 8 9 40 := rfl
theorem h203_40 : code_ 203 40 = opC (vI 47) 42 := rfl
theorem h203_42 : code_ 203 42 = opCpNe 48 45 := rfl
theorem h203_45 : code_ 203 45 = opC (vI 9) 47 := rfl
theorem h203_47 : code_ 203 47 = opIret := rfl
theorem h203_48 : code_ 203 48 = opAld 0 49 := rfl
theorem h203_49 : code_ 203 49 = opK kI 197 1 8 52 := rfl
theorem h203_52 : code_ 203 52 = opC (vI 41) 54 := rfl
theorem h203_54 : code_ 203 54 = opCpEq 59 57 := rfl
theorem h203_57 : code_ 203 57 = opC (vI (-1)) 58 := rfl
theorem h203_58 : code_ 203 58 = opIret := rfl
theorem h203_59 : code_ 203 59 = opAld 0 60 := rfl
theorem h203_60 : code_ 203 60 = opK kI 198 1 8 63 := rfl
theorem h203_63 : code_ 203 63 = opIfNe 71 66 := rfl
theorem h203_66 : code_ 203 66 = opAld 0 67 := rfl
theorem h203_67 : code_ 203 67 = opK kI 202 1 8 70 := rfl
theorem h203_70 : code_ 203 70 = opIret := rfl
theorem h203_71 : code_ 203 71 = opAld 0 72 := rfl
theorem h203_72 : code_ 203 72 = opC (vI 97) 74 := rfl
theorem h203_74 : code_ 203 74 = opC (vI 110) 76 := rfl
theorem h203_76 : code_ 203 76 = opC (vI 100) 78 := rfl
theorem h203_78 : code_ 203 78 = opK kL 185 3 99 81 := rfl
theorem h203_81 : code_ 203 81 = opK kI 189 2 8 84 := rfl
theorem h203_84 : code_ 203 84 = opIfEq 92 87 := rfl
theorem h203_87 : code_ 203 87 = opC (vI 21) 89 := rfl
theorem h203_89 : code_ 203 89 = opGoto 112 := rfl
theorem h203_92 : code_ 203 92 = opAld 0 93 := rfl
theorem h203_93 : code_ 203 93 = opC (vI 111) 95 := rfl
theorem h203_95 : code_ 203 95 = opC (vI 114) 97 := rfl
theorem h203_97 : code_ 203 97 = opK kL 184 2 99 100 := rfl
theorem h203_100 : code_ 203 100 = opK kI 189 2 8 103 := rfl
theorem h203_103 : code_ 203 103 = opIfEq 111 106 := rfl
theorem h203_106 : code_ 203 106 = opC (vI 22) 108 := rfl
theorem h203_108 : code_ 203 108 = opGoto 112 := rfl
theorem h203_111 : code_ 203 111 = opC (vI (-1)) 112 := rfl
theorem h203_112 : code_ 203 112 = opMask [0] (opIret) := rfl
theorem h204_0 : code_ 204 0 = opIld 1 1 := rfl
theorem h204_1 : code_ 204 1 = opSw 126 [(40, 32), (41, 47), (42, 79), (43, 104)] := rfl
theorem h204_32 : code_ 204 32 = opAld 0 33 := rfl
theorem h204_33 : code_ 204 33 = opGI 8 9 36 := rfl
theorem h204_36 : code_ 204 36 = opC (vI 41) 38 := rfl
theorem h204_38 : code_ 204 38 = opCpNe 45 41 := rfl
theorem h204_41 : code_ 204 41 = opC (vI 0) 42 := rfl
theorem h204_42 : code_ 204 42 = opGoto 46 := rfl
theorem h204_45 : code_ 204 45 = opC (vI (-1)) 46 := rfl
theorem h204_46 : code_ 204 46 = opMask [0, 1] (opIret) := rfl
theorem h204_47 : code_ 204 47 = opAld 0 48 := rfl
theorem h204_48 : code_ 204 48 = opC (vI 116) 50 := rfl
theorem h204_50 : code_ 204 50 = opC (vI 104) 52 := rfl
theorem h204_52 : code_ 204 52 = opC (vI 101) 54 := rfl
theorem h204_54 : code_ 204 54 = opC (vI 110) 56 := rfl
theorem h204_56 : code_ 204 56 = opK kL 186 4 99 59 := rfl
theorem h204_59 : code_ 204 59 = opK kI 189 2 8 62 := rfl
theorem h204_62 : code_ 204 62 = opIfEq 77 65 := rfl
theorem h204_65 : code_ 204 65 = opAld 0 66 := rfl
theorem h204_66 : code_ 204 66 = opK kI 198 1 8 69 := rfl
theorem h204_69 : code_ 204 69 = opIfEq 77 72 := rfl
theorem h204_72 : code_ 204 72 = opC (vI 42) 74 := rfl
theorem h204_74 : code_ 204 74 = opGoto 78 := rfl
theorem h204_77 : code_ 204 77 = opMask [0, 1] (opC (vI (-1)) 78) := rfl
theorem h204_78 : code_ 204 78 = opMask [0, 1] (opIret) := rfl
theorem h204_79 : code_ 204 79 = opAld 0 80 := rfl
theorem h204_80 : code_ 204 80 = opC (vI 101) 82 := rfl
theorem h204_82 : code_ 204 82 = opC (vI 108) 84 := rfl
theorem h204_84 : code_ 204 84 = opC (vI 115) 86 := rfl
theorem h204_86 : code_ 204 86 = opC (vI 101) 88 := rfl
theorem h204_88 : code_ 204 88 = opK kL 186 4 99 91 := rfl
theorem h204_91 : code_ 204 91 = opK kI 189 2 8 94 := rfl
theorem h204_94 : code_ 204 94 = opIfEq 102 97 := rfl
theorem h204_97 : code_ 204 97 = opC (vI 43) 99 := rfl
theorem h204_99 : code_ 204 99 = opGoto 103 := rfl
theorem h204_102 : code_ 204 102 = opC (vI (-1)) 103 := rfl
theorem h204_103 : code_ 204 103 = opMask [0, 1] (opIret) := rfl
theorem h204_104 : code_ 204 104 = opAld 0 105 := rfl
theorem h204_105 : code_ 204 105 = opC (vI 101) 107 := rfl
theorem h204_107 : code_ 204 107 = opC (vI 110) 109 := rfl
theorem h204_109 : code_ 204 109 = opC (vI 100) 111 := rfl
theorem h204_111 : code_ 204 111 = opK kL 185 3 99 114 := rfl
theorem h204_114 : code_ 204 114 = opK kI 189 2 8 117 := rfl
theorem h204_117 : code_ 204 117 = opIfEq 124 120 := rfl
theorem h204_120 : code_ 204 120 = opC (vI 0) 121 := rfl
theorem h204_121 : code_ 204 121 = opGoto 125 := rfl
theorem h204_124 : code_ 204 124 = opC (vI (-1)) 125 := rfl
theorem h204_125 : code_ 204 125 = opMask [0, 1] (opIret) := rfl
theorem h204_126 : code_ 204 126 = opC (vI (-1)) 127 := rfl
theorem h204_127 : code_ 204 127 = opIret := rfl
theorem h205_0 : code_ 205 0 = opAld 0 1 := rfl
theorem h205_1 : code_ 205 1 = opK kI 203 1 8 4 := rfl
theorem h205_4 : code_ 205 4 = opIst 1 5 := rfl
theorem h205_5 : code_ 205 5 = opIld 1 6 := rfl
theorem h205_6 : code_ 205 6 = opIfLt 60 9 := rfl
theorem h205_9 : code_ 205 9 = opAld 0 10 := rfl
theorem h205_10 : code_ 205 10 = opIld 1 11 := rfl
theorem h205_11 : code_ 205 11 = opK kI 194 1 99 14 := rfl
theorem h205_14 : code_ 205 14 = opC (vI 4) 15 := rfl
theorem h205_15 : code_ 205 15 = opCpNe 22 18 := rfl
theorem h205_18 : code_ 205 18 = opC (vI 5) 19 := rfl
theorem h205_19 : code_ 205 19 = opGoto 26 := rfl
theorem h205_22 : code_ 205 22 = opIld 1 23 := rfl
theorem h205_23 : code_ 205 23 = opK kI 194 1 99 26 := rfl
theorem h205_26 : code_ 205 26 = opMask [2, 3] (opK kV 195 2 8 29) := rfl
theorem h205_29 : code_ 205 29 = opAld 0 30 := rfl
theorem h205_30 : code_ 205 30 = opGR 8 15 5 100160 33 := rfl
theorem h205_33 : code_ 205 33 = opAld 0 34 := rfl
theorem h205_34 : code_ 205 34 = opGI 8 16 37 := rfl
theorem h205_37 : code_ 205 37 = opIld 1 38 := rfl
theorem h205_38 : code_ 205 38 = opIas 39 := rfl
theorem h205_39 : code_ 205 39 = opAld 0 40 := rfl
theorem h205_40 : code_ 205 40 = opDup 41 := rfl
theorem h205_41 : code_ 205 41 = opGI 8 16 44 := rfl
theorem h205_44 : code_ 205 44 = opC (vI 1) 45 := rfl
theorem h205_45 : code_ 205 45 = opB (fun x y => x + y) 46 := rfl
theorem h205_46 : code_ 205 46 = opPI 8 16 49 := rfl
theorem h205_49 : code_ 205 49 = opAld 0 50 := rfl
theorem h205_50 : code_ 205 50 = opC (vI 0) 51 := rfl
theorem h205_51 : code_ 205 51 = opPZ 8 18 54 := rfl
theorem h205_54 : code_ 205 54 = opAld 0 55 := rfl
theorem h205_55 : code_ 205 55 = opK kV 183 1 8 58 := rfl
theorem h205_58 : code_ 205 58 = opC (vI 1) 59 := rfl
theorem h205_59 : code_ 205 59 = opZret := rfl
theorem h205_60 : code_ 205 60 = opAld 0 61 := rfl
theorem h205_61 : code_ 205 61 = opK kI 197 1 8 64 := rfl
theorem h205_64 : code_ 205 64 = opIst 2 65 := rfl
theorem h205_65 : code_ 205 65 = opAld 0 66 := rfl
theorem h205_66 : code_ 205 66 = opIld 2 67 := rfl
theorem h205_67 : code_ 205 67 = opK kI 204 2 8 70 := rfl
theorem h205_70 : code_ 205 70 = opIst 3 71 := rfl
theorem h205_71 : code_ 205 71 = opIld 3 72 := rfl
theorem h205_72 : code_ 205 72 = opIfGe 77 75 := rfl
theorem h205_75 : code_ 205 75 = opC (vI 0) 76 := rfl
theorem h205_76 : code_ 205 76 = opZret := rfl
theorem h205_77 : code_ 205 77 = opAld 0 78 := rfl
theorem h205_78 : code_ 205 78 = opC (vI 1) 79 := rfl
theorem h205_79 : code_ 205 79 = opK kV 195 2 8 82 := rfl
theorem h205_82 : code_ 205 82 = opAld 0 83 := rfl
theorem h205_83 : code_ 205 83 = opK kV 183 1 8 86 := rfl
theorem h205_86 : code_ 205 86 = opIld 3 87 := rfl
theorem h205_87 : code_ 205 87 = opIfLe 107 90 := rfl
theorem h205_90 : code_ 205 90 = opAld 0 91 := rfl
theorem h205_91 : code_ 205 91 = opGR 8 15 5 100160 94 := rfl
theorem h205_94 : code_ 205 94 = opAld 0 95 := rfl
theorem h205_95 : code_ 205 95 = opK kI 196 1 8 98 := rfl
theorem h205_98 : code_ 205 98 = opIld 3 99 := rfl
theorem h205_99 : code_ 205 99 = opIas 100 := rfl
theorem h205_100 : code_ 205 100 = opAld 0 101 := rfl
theorem h205_101 : code_ 205 101 = opC (vI 0) 102 := rfl
theorem h205_102 : code_ 205 102 = opPZ 8 18 105 := rfl
theorem h205_105 : code_ 205 105 = opC (vI 1) 106 := rfl
theorem h205_106 : code_ 205 106 = opZret := rfl
theorem h205_107 : code_ 205 107 = opAld 0 108 := rfl
theorem h205_108 : code_ 205 108 = opDup 109 := rfl
theorem h205_109 : code_ 205 109 = opGI 8 17 112 := rfl
theorem h205_112 : code_ 205 112 = opC (vI 1) 113 := rfl
theorem h205_113 : code_ 205 113 = opB (fun x y => x - y) 114 := rfl
theorem h205_114 : code_ 205 114 = opPI 8 17 117 := rfl
theorem h205_117 : code_ 205 117 = opAld 0 118 := rfl
theorem h205_118 : code_ 205 118 = opDup 119 := rfl
theorem h205_119 : code_ 205 119 = opGI 8 16 122 := rfl
theorem h205_122 : code_ 205 122 = opC (vI 1) 123 := rfl
theorem h205_123 : code_ 205 123 = opB (fun x y => x - y) 124 := rfl
theorem h205_124 : code_ 205 124 = opPI 8 16 127 := rfl
theorem h205_127 : code_ 205 127 = opIld 2 128 := rfl
theorem h205_128 : code_ 205 128 = opC (vI 43) 130 := rfl
theorem h205_130 : code_ 205 130 = opCpNe 139 133 := rfl
theorem h205_133 : code_ 205 133 = opAld 0 134 := rfl
theorem h205_134 : code_ 205 134 = opC (vI 3) 135 := rfl
theorem h205_135 : code_ 205 135 = opC (vI 0) 136 := rfl
theorem h205_136 : code_ 205 136 = opK kV 190 3 8 139 := rfl
theorem h205_139 : code_ 205 139 = opMask [1, 2, 3] (opAld 0 140) := rfl
theorem h205_140 : code_ 205 140 = opC (vI 7) 142 := rfl
theorem h205_142 : code_ 205 142 = opK kV 195 2 8 145 := rfl
theorem h205_145 : code_ 205 145 = opC (vI 1) 146 := rfl
theorem h205_146 : code_ 205 146 = opZret := rfl
theorem h206_0 : code_ 206 0 = opAld 0 1 := rfl
theorem h206_1 : code_ 206 1 = opC (vI 0) 2 := rfl
theorem h206_2 : code_ 206 2 = opPI 8 16 5 := rfl
theorem h206_5 : code_ 206 5 = opAld 0 6 := rfl
theorem h206_6 : code_ 206 6 = opC (vI 0) 7 := rfl
theorem h206_7 : code_ 206 7 = opPI 8 17 10 := rfl
theorem h206_10 : code_ 206 10 = opAld 0 11 := rfl
theorem h206_11 : code_ 206 11 = opC (vI 0) 12 := rfl
theorem h206_12 : code_ 206 12 = opPZ 8 18 15 := rfl
theorem h206_15 : code_ 206 15 = opMask [1] (opAld 0 16) := rfl
theorem h206_16 : code_ 206 16 = opGI 8 18 19 := rfl
theorem h206_19 : code_ 206 19 = opIfEq 48 22 := rfl
theorem h206_22 : code_ 206 22 = opAld 0 23 := rfl
theorem h206_23 : code_ 206 23 = opK kI 205 1 8 26 := rfl
theorem h206_26 : code_ 206 26 = opIfEq 32 29 := rfl
theorem h206_29 : code_ 206 29 = opGoto 15 := rfl
theorem h206_32 : code_ 206 32 = opAld 0 33 := rfl
theorem h206_33 : code_ 206 33 = opK kI 197 1 8 36 := rfl
theorem h206_36 : code_ 206 36 = opIfLt 41 39 := rfl
theorem h206_39 : code_ 206 39 = opC (vI 1) 40 := rfl
theorem h206_40 : code_ 206 40 = opIret := rfl
theorem h206_41 : code_ 206 41 = opAld 0 42 := rfl
theorem h206_42 : code_ 206 42 = opC (vI 1) 43 := rfl
theorem h206_43 : code_ 206 43 = opK kV 195 2 8 46 := rfl
theorem h206_46 : code_ 206 46 = opC (vI 0) 47 := rfl
theorem h206_47 : code_ 206 47 = opIret := rfl
theorem h206_48 : code_ 206 48 = opAld 0 49 := rfl
theorem h206_49 : code_ 206 49 = opK kI 201 1 8 52 := rfl
theorem h206_52 : code_ 206 52 = opIst 1 53 := rfl
theorem h206_53 : code_ 206 53 = opIld 1 54 := rfl
theorem h206_54 : code_ 206 54 = opIfEq 59 57 := rfl
theorem h206_57 : code_ 206 57 = opIld 1 58 := rfl
theorem h206_58 : code_ 206 58 = opIret := rfl
theorem h206_59 : code_ 206 59 = opGoto 15 := rfl
theorem h207_0 : code_ 207 0 = opAld 0 1 := rfl
theorem h207_1 : code_ 207 1 = opGI 8 9 4 := rfl
theorem h207_4 : code_ 207 4 = opC (vI 1) 5 := rfl
theorem h207_5 : code_ 207 5 = opCpEq 10 8 := rfl
theorem h207_8 : code_ 207 8 = opC (vI 1) 9 := rfl
theorem h207_9 : code_ 207 9 = opIret := rfl
theorem h207_10 : code_ 207 10 = opAld 0 11 := rfl
theorem h207_11 : code_ 207 11 = opGI 8 10 14 := rfl
theorem h207_14 : code_ 207 14 = opIld 2 15 := rfl
theorem h207_15 : code_ 207 15 = opIld 3 16 := rfl
theorem h207_16 : code_ 207 16 = opK kI 158 3 99 19 := rfl
theorem h207_19 : code_ 207 19 = opIfNe 24 22 := rfl
theorem h207_22 : code_ 207 22 = opC (vI 2) 23 := rfl
theorem h207_23 : code_ 207 23 = opIret := rfl
theorem h207_24 : code_ 207 24 = opAld 0 25 := rfl
theorem h207_25 : code_ 207 25 = opGR 8 2 3 102724 28 := rfl
theorem h207_28 : code_ 207 28 = opIld 1 29 := rfl
theorem h207_29 : code_ 207 29 = opAld 0 30 := rfl
theorem h207_30 : code_ 207 30 = opGI 8 10 33 := rfl
theorem h207_33 : code_ 207 33 = opIas 34 := rfl
theorem h207_34 : code_ 207 34 = opAld 0 35 := rfl
theorem h207_35 : code_ 207 35 = opK kV 183 1 8 38 := rfl
theorem h207_38 : code_ 207 38 = opC (vI 0) 39 := rfl
theorem h207_39 : code_ 207 39 = opIret := rfl
theorem h208_0 : code_ 208 0 = opAld 0 1 := rfl
theorem h208_1 : code_ 208 1 = opGR 8 2 3 102724 4 := rfl
theorem h208_4 : code_ 208 4 = opIld 1 5 := rfl
theorem h208_5 : code_ 208 5 = opC (vI 1) 6 := rfl
theorem h208_6 : code_ 208 6 = opB (fun x y => x + y) 7 := rfl
theorem h208_7 : code_ 208 7 = opAld 0 8 := rfl
theorem h208_8 : code_ 208 8 = opGI 8 13 11 := rfl
theorem h208_11 : code_ 208 11 = opIas 12 := rfl
theorem h208_12 : code_ 208 12 = opAld 0 13 := rfl
theorem h208_13 : code_ 208 13 = opK kI 206 1 8 16 := rfl
theorem h208_16 : code_ 208 16 = opIst 2 17 := rfl
theorem h208_17 : code_ 208 17 = opAld 0 18 := rfl
theorem h208_18 : code_ 208 18 = opGR 8 2 3 102724 21 := rfl
theorem h208_21 : code_ 208 21 = opIld 1 22 := rfl
theorem h208_22 : code_ 208 22 = opC (vI 2) 23 := rfl
theorem h208_23 : code_ 208 23 = opB (fun x y => x + y) 24 := rfl
theorem h208_24 : code_ 208 24 = opAld 0 25 := rfl
theorem h208_25 : code_ 208 25 = opGI 8 13 28 := rfl
theorem h208_28 : code_ 208 28 = opIas 29 := rfl
theorem h208_29 : code_ 208 29 = opIld 2 30 := rfl
theorem h208_30 : code_ 208 30 = opIret := rfl
theorem h209_0 : code_ 209 0 = opAld 0 1 := rfl
theorem h209_1 : code_ 209 1 = opIld 1 2 := rfl
theorem h209_2 : code_ 209 2 = opC (vI 1) 3 := rfl
theorem h209_3 : code_ 209 3 = opB (fun x y => x + y) 4 := rfl
theorem h209_4 : code_ 209 4 = opC (vI 0) 5 := rfl
theorem h209_5 : code_ 209 5 = opIld 2 6 := rfl
theorem h209_6 : code_ 209 6 = opK kI 207 4 8 9 := rfl
theorem h209_9 : code_ 209 9 = opIst 6 11 := rfl
theorem h209_11 : code_ 209 11 = opIld 6 13 := rfl
theorem h209_13 : code_ 209 13 = opIfEq 19 16 := rfl
theorem h209_16 : code_ 209 16 = opIld 6 18 := rfl
theorem h209_18 : code_ 209 18 = opIret := rfl
theorem h209_19 : code_ 209 19 = opAld 0 20 := rfl
theorem h209_20 : code_ 209 20 = opLld 3 21 := rfl
theorem h209_21 : code_ 209 21 = opK kI 189 2 8 24 := rfl
theorem h209_24 : code_ 209 24 = opIfNe 29 27 := rfl
theorem h209_27 : code_ 209 27 = opC (vI 1) 28 := rfl
theorem h209_28 : code_ 209 28 = opIret := rfl
theorem h209_29 : code_ 209 29 = opAld 0 30 := rfl
theorem h209_30 : code_ 209 30 = opK kV 183 1 8 33 := rfl
theorem h209_33 : code_ 209 33 = opAld 0 34 := rfl
theorem h209_34 : code_ 209 34 = opIld 1 35 := rfl
theorem h209_35 : code_ 209 35 = opC (vI 2) 36 := rfl
theorem h209_36 : code_ 209 36 = opB (fun x y => x + y) 37 := rfl
theorem h209_37 : code_ 209 37 = opC (vI 0) 38 := rfl
theorem h209_38 : code_ 209 38 = opIld 5 40 := rfl
theorem h209_40 : code_ 209 40 = opK kI 207 4 8 43 := rfl
theorem h209_43 : code_ 209 43 = opIret := rfl
theorem h210_0 : code_ 210 0 = opIld 1 1 := rfl
theorem h210_1 : code_ 210 1 = opSw 117 [(2, 40), (3, 52), (4, 64), (5, 83), (6, 104), (7, 106)] := rfl
theorem h210_40 : code_ 210 40 = opAld 0 41 := rfl
theorem h210_41 : code_ 210 41 = opIld 2 42 := rfl
theorem h210_42 : code_ 210 42 = opC (vI 1) 43 := rfl
theorem h210_43 : code_ 210 43 = opB (fun x y => x + y) 44 := rfl
theorem h210_44 : code_ 210 44 = opC (vI 0) 45 := rfl
theorem h210_45 : code_ 210 45 = opC (vI 999) 48 := rfl
theorem h210_48 : code_ 210 48 = opK kI 207 4 8 51 := rfl
theorem h210_51 : code_ 210 51 = opIret := rfl
theorem h210_52 : code_ 210 52 = opAld 0 53 := rfl
theorem h210_53 : code_ 210 53 = opIld 2 54 := rfl
theorem h210_54 : code_ 210 54 = opC (vI 1) 55 := rfl
theorem h210_55 : code_ 210 55 = opB (fun x y => x + y) 56 := rfl
theorem h210_56 : code_ 210 56 = opC (vI 0) 57 := rfl
theorem h210_57 : code_ 210 57 = opC (vI 191) 60 := rfl
theorem h210_60 : code_ 210 60 = opK kI 207 4 8 63 := rfl
theorem h210_63 : code_ 210 63 = opIret := rfl
theorem h210_64 : code_ 210 64 = opAld 0 65 := rfl
theorem h210_65 : code_ 210 65 = opIld 2 66 := rfl
theorem h210_66 : code_ 210 66 = opC (vI 999) 69 := rfl
theorem h210_69 : code_ 210 69 = opC (vI 97) 71 := rfl
theorem h210_71 : code_ 210 71 = opC (vI 116) 73 := rfl
theorem h210_73 : code_ 210 73 = opK kL 184 2 99 76 := rfl
theorem h210_76 : code_ 210 76 = opC (vI 191) 79 := rfl
theorem h210_79 : code_ 210 79 = opK kI 209 5 8 82 := rfl
theorem h210_82 : code_ 210 82 = opIret := rfl
theorem h210_83 : code_ 210 83 = opAld 0 84 := rfl
theorem h210_84 : code_ 210 84 = opIld 2 85 := rfl
theorem h210_85 : code_ 210 85 = opC (vI 11) 87 := rfl
theorem h210_87 : code_ 210 87 = opC (vI 119) 89 := rfl
theorem h210_89 : code_ 210 89 = opC (vI 105) 91 := rfl
theorem h210_91 : code_ 210 91 = opC (vI 116) 93 := rfl
theorem h210_93 : code_ 210 93 = opC (vI 104) 95 := rfl
theorem h210_95 : code_ 210 95 = opK kL 186 4 99 98 := rfl
theorem h210_98 : code_ 210 98 = opC (vI 11) 100 := rfl
theorem h210_100 : code_ 210 100 = opK kI 209 5 8 103 := rfl
theorem h210_103 : code_ 210 103 = opIret := rfl
theorem h210_104 : code_ 210 104 = opC (vI 0) 105 := rfl
theorem h210_105 : code_ 210 105 = opIret := rfl
theorem h210_106 : code_ 210 106 = opAld 0 107 := rfl
theorem h210_107 : code_ 210 107 = opIld 2 108 := rfl
theorem h210_108 : code_ 210 108 = opC (vI 1) 109 := rfl
theorem h210_109 : code_ 210 109 = opB (fun x y => x + y) 110 := rfl
theorem h210_110 : code_ 210 110 = opC (vI 1) 111 := rfl
theorem h210_111 : code_ 210 111 = opC (vI 60) 113 := rfl
theorem h210_113 : code_ 210 113 = opK kI 207 4 8 116 := rfl
theorem h210_116 : code_ 210 116 = opIret := rfl
theorem h210_117 : code_ 210 117 = opAld 0 118 := rfl
theorem h210_118 : code_ 210 118 = opIld 2 119 := rfl
theorem h210_119 : code_ 210 119 = opK kI 208 2 8 122 := rfl
theorem h210_122 : code_ 210 122 = opIret := rfl
theorem h211_0 : code_ 211 0 = opAld 0 1 := rfl
theorem h211_1 : code_ 211 1 = opC (vI 109) 3 := rfl
theorem h211_3 : code_ 211 3 = opC (vI 101) 5 := rfl
theorem h211_5 : code_ 211 5 = opC (vI 115) 7 := rfl
theorem h211_7 : code_ 211 7 = opC (vI 104) 9 := rfl
theorem h211_9 : code_ 211 9 = opC (vI 101) 11 := rfl
theorem h211_11 : code_ 211 11 = opC (vI 115) 13 := rfl
theorem h211_13 : code_ 211 13 = opK kL 188 6 99 16 := rfl
theorem h211_16 : code_ 211 16 = opK kI 189 2 8 19 := rfl
theorem h211_19 : code_ 211 19 = opIfEq 24 22 := rfl
theorem h211_22 : code_ 211 22 = opC (vI 0) 23 := rfl
theorem h211_23 : code_ 211 23 = opIret := rfl
theorem h211_24 : code_ 211 24 = opAld 0 25 := rfl
theorem h211_25 : code_ 211 25 = opC (vI 112) 27 := rfl
theorem h211_27 : code_ 211 27 = opC (vI 114) 29 := rfl
theorem h211_29 : code_ 211 29 = opC (vI 111) 31 := rfl
theorem h211_31 : code_ 211 31 = opC (vI 98) 33 := rfl
theorem h211_33 : code_ 211 33 = opC (vI 101) 35 := rfl
theorem h211_35 : code_ 211 35 = opC (vI 115) 37 := rfl
theorem h211_37 : code_ 211 37 = opK kL 188 6 99 40 := rfl
theorem h211_40 : code_ 211 40 = opK kI 189 2 8 43 := rfl
theorem h211_43 : code_ 211 43 = opIfEq 48 46 := rfl
theorem h211_46 : code_ 211 46 = opC (vI 1) 47 := rfl
theorem h211_47 : code_ 211 47 = opIret := rfl
theorem h211_48 : code_ 211 48 = opAld 0 49 := rfl
theorem h211_49 : code_ 211 49 = opC (vI 103) 51 := rfl
theorem h211_51 : code_ 211 51 = opC (vI 105) 53 := rfl
theorem h211_53 : code_ 211 53 = opC (vI 118) 55 := rfl
theorem h211_55 : code_ 211 55 = opC (vI 101) 57 := rfl
theorem h211_57 : code_ 211 57 = opK kL 186 4 99 60 := rfl
theorem h211_60 : code_ 211 60 = opK kI 189 2 8 63 := rfl
theorem h211_63 : code_ 211 63 = opIfEq 68 66 := rfl
theorem h211_66 : code_ 211 66 = opC (vI 2) 67 := rfl
theorem h211_67 : code_ 211 67 = opIret := rfl
theorem h211_68 : code_ 211 68 = opAld 0 69 := rfl
theorem h211_69 : code_ 211 69 = opC (vI 102) 71 := rfl
theorem h211_71 : code_ 211 71 = opC (vI 114) 73 := rfl
theorem h211_73 : code_ 211 73 = opC (vI 101) 75 := rfl
theorem h211_75 : code_ 211 75 = opC (vI 101) 77 := rfl
theorem h211_77 : code_ 211 77 = opK kL 186 4 99 80 := rfl
theorem h211_80 : code_ 211 80 = opK kI 189 2 8 83 := rfl
theorem h211_83 : code_ 211 83 = opIfEq 88 86 := rfl
theorem h211_86 : code_ 211 86 = opC (vI 3) 87 := rfl
theorem h211_87 : code_ 211 87 = opIret := rfl
theorem h211_88 : code_ 211 88 = opAld 0 89 := rfl
theorem h211_89 : code_ 211 89 = opC (vI 119) 91 := rfl
theorem h211_91 : code_ 211 91 = opC (vI 114) 93 := rfl
theorem h211_93 : code_ 211 93 = opC (vI 105) 95 := rfl
theorem h211_95 : code_ 211 95 = opC (vI 116) 97 := rfl
theorem h211_97 : code_ 211 97 = opC (vI 101) 99 := rfl
theorem h211_99 : code_ 211 99 = opK kL 187 5 99 102 := rfl
theorem h211_102 : code_ 211 102 = opK kI 189 2 8 105 := rfl
theorem h211_105 : code_ 211 105 = opIfEq 110 108 := rfl
theorem h211_108 : code_ 211 108 = opC (vI 4) 109 := rfl
theorem h211_109 : code_ 211 109 = opIret := rfl
theorem h211_110 : code_ 211 110 = opAld 0 111 := rfl
theorem h211_111 : code_ 211 111 = opC (vI 109) 113 := rfl
theorem h211_113 : code_ 211 113 = opC (vI 101) 115 := rfl
theorem h211_115 : code_ 211 115 = opC (vI 115) 117 := rfl
theorem h211_117 : code_ 211 117 = opC (vI 104) 119 := rfl
theorem h211_119 : code_ 211 119 = opK kL 186 4 99 122 := rfl
theorem h211_122 : code_ 211 122 = opK kI 189 2 8 125 := rfl
theorem h211_125 : code_ 211 125 = opIfEq 130 128 := rfl
theorem h211_128 : code_ 211 128 = opC (vI 5) 129 := rfl
theorem h211_129 : code_ 211 129 = opIret := rfl
theorem h211_130 : code_ 211 130 = opAld 0 131 := rfl
theorem h211_131 : code_ 211 131 = opK kI 191 1 8 134 := rfl
theorem h211_134 : code_ 211 134 = opIfEq 142 137 := rfl
theorem h211_137 : code_ 211 137 = opC (vI 6) 139 := rfl
theorem h211_139 : code_ 211 139 = opGoto 164 := rfl
theorem h211_142 : code_ 211 142 = opAld 0 143 := rfl
theorem h211_143 : code_ 211 143 = opC (vI 100) 145 := rfl
theorem h211_145 : code_ 211 145 = opC (vI 97) 147 := rfl
theorem h211_147 : code_ 211 147 = opC (vI 121) 149 := rfl
theorem h211_149 : code_ 211 149 = opK kL 185 3 99 152 := rfl
theorem h211_152 : code_ 211 152 = opK kI 189 2 8 155 := rfl
theorem h211_155 : code_ 211 155 = opIfEq 163 158 := rfl
theorem h211_158 : code_ 211 158 = opC (vI 7) 160 := rfl
theorem h211_160 : code_ 211 160 = opGoto 164 := rfl
theorem h211_163 : code_ 211 163 = opC (vI (-1)) 164 := rfl
theorem h211_164 : code_ 211 164 = opMask [0] (opIret) := rfl
theorem h212_0 : code_ 212 0 = opAld 0 1 := rfl
theorem h212_1 : code_ 212 1 = opK kI 211 1 8 4 := rfl
theorem h212_4 : code_ 212 4 = opIst 1 5 := rfl
theorem h212_5 : code_ 212 5 = opIld 1 6 := rfl
theorem h212_6 : code_ 212 6 = opIfGe 11 9 := rfl
theorem h212_9 : code_ 212 9 = opC (vI 1) 10 := rfl
theorem h212_10 : code_ 212 10 = opIret := rfl
theorem h212_11 : code_ 212 11 = opIld 1 12 := rfl
theorem h212_12 : code_ 212 12 = opC (vI 1) 13 := rfl
theorem h212_13 : code_ 212 13 = opCpGt 29 16 := rfl
theorem h212_16 : code_ 212 16 = opAld 0 17 := rfl
theorem h212_17 : code_ 212 17 = opGI 8 19 20 := rfl
theorem h212_20 : code_ 212 20 = opIld 1 21 := rfl
theorem h212_21 : code_ 212 21 = opK kI 160 2 99 24 := rfl
theorem h212_24 : code_ 212 24 = opIfEq 29 27 := rfl
theorem h212_27 : code_ 212 27 = opC (vI 4) 28 := rfl
theorem h212_28 : code_ 212 28 = opIret := rfl
theorem h212_29 : code_ 212 29 = opMask [2, 3, 4] (opAld 0 30) := rfl
theorem h212_30 : code_ 212 30 = opGR 8 2 3 102724 33 := rfl
theorem h212_33 : code_ 212 33 = opAld 0 34 := rfl
theorem h212_34 : code_ 212 34 = opGI 8 12 37 := rfl
theorem h212_37 : code_ 212 37 = opIal 38 := rfl
theorem h212_38 : code_ 212 38 = opIst 2 39 := rfl
theorem h212_39 : code_ 212 39 = opIld 2 40 := rfl
theorem h212_40 : code_ 212 40 = opC (vI 24) 42 := rfl
theorem h212_42 : code_ 212 42 = opCpNe 48 45 := rfl
theorem h212_45 : code_ 212 45 = opC (vI 6) 47 := rfl
theorem h212_47 : code_ 212 47 = opIret := rfl
theorem h212_48 : code_ 212 48 = opIld 1 49 := rfl
theorem h212_49 : code_ 212 49 = opC (vI 1) 50 := rfl
theorem h212_50 : code_ 212 50 = opCpGt 65 53 := rfl
theorem h212_53 : code_ 212 53 = opAld 0 54 := rfl
theorem h212_54 : code_ 212 54 = opDup 55 := rfl
theorem h212_55 : code_ 212 55 = opGI 8 19 58 := rfl
theorem h212_58 : code_ 212 58 = opC (vI 1) 59 := rfl
theorem h212_59 : code_ 212 59 = opIld 1 60 := rfl
theorem h212_60 : code_ 212 60 = opB shlI 61 := rfl
theorem h212_61 : code_ 212 61 = opB (fun x y => x ||| y) 62 := rfl
theorem h212_62 : code_ 212 62 = opPI 8 19 65 := rfl
theorem h212_65 : code_ 212 65 = opMask [3, 4] (opAld 0 66) := rfl
theorem h212_66 : code_ 212 66 = opIld 1 67 := rfl
theorem h212_67 : code_ 212 67 = opPI 8 14 70 := rfl
theorem h212_70 : code_ 212 70 = opAld 0 71 := rfl
theorem h212_71 : code_ 212 71 = opK kV 183 1 8 74 := rfl
theorem h212_74 : code_ 212 74 = opAld 0 75 := rfl
theorem h212_75 : code_ 212 75 = opGI 8 12 78 := rfl
theorem h212_78 : code_ 212 78 = opC (vI 1) 79 := rfl
theorem h212_79 : code_ 212 79 = opB (fun x y => x + y) 80 := rfl
theorem h212_80 : code_ 212 80 = opC (vI 3) 81 := rfl
theorem h212_81 : code_ 212 81 = opIld 2 82 := rfl
theorem h212_82 : code_ 212 82 = opB (fun x y => x * y) 83 := rfl
theorem h212_83 : code_ 212 83 = opB (fun x y => x + y) 84 := rfl
theorem h212_84 : code_ 212 84 = opIst 3 85 := rfl
theorem h212_85 : code_ 212 85 = opAld 0 86 := rfl
theorem h212_86 : code_ 212 86 = opGR 8 2 3 102724 89 := rfl
theorem h212_89 : code_ 212 89 = opIld 3 90 := rfl
theorem h212_90 : code_ 212 90 = opIld 1 91 := rfl
theorem h212_91 : code_ 212 91 = opIas 92 := rfl
theorem h212_92 : code_ 212 92 = opAld 0 93 := rfl
theorem h212_93 : code_ 212 93 = opIld 1 94 := rfl
theorem h212_94 : code_ 212 94 = opIld 3 95 := rfl
theorem h212_95 : code_ 212 95 = opK kI 210 3 8 98 := rfl
theorem h212_98 : code_ 212 98 = opIst 4 100 := rfl
theorem h212_100 : code_ 212 100 = opIld 4 102 := rfl
theorem h212_102 : code_ 212 102 = opIfEq 108 105 := rfl
theorem h212_105 : code_ 212 105 = opIld 4 107 := rfl
theorem h212_107 : code_ 212 107 = opIret := rfl
theorem h212_108 : code_ 212 108 = opAld 0 109 := rfl
theorem h212_109 : code_ 212 109 = opGR 8 2 3 102724 112 := rfl
theorem h212_112 : code_ 212 112 = opAld 0 113 := rfl
theorem h212_113 : code_ 212 113 = opGI 8 12 116 := rfl
theorem h212_116 : code_ 212 116 = opDup2 117 := rfl
theorem h212_117 : code_ 212 117 = opIal 118 := rfl
theorem h212_118 : code_ 212 118 = opC (vI 1) 119 := rfl
theorem h212_119 : code_ 212 119 = opB (fun x y => x + y) 120 := rfl
theorem h212_120 : code_ 212 120 = opIas 121 := rfl
theorem h212_121 : code_ 212 121 = opAld 0 122 := rfl
theorem h212_122 : code_ 212 122 = opGI 8 9 125 := rfl
theorem h212_125 : code_ 212 125 = opC (vI 59) 127 := rfl
theorem h212_127 : code_ 212 127 = opCpEq 132 130 := rfl
theorem h212_130 : code_ 212 130 = opC (vI 1) 131 := rfl
theorem h212_131 : code_ 212 131 = opIret := rfl
theorem h212_132 : code_ 212 132 = opAld 0 133 := rfl
theorem h212_133 : code_ 212 133 = opK kV 183 1 8 136 := rfl
theorem h212_136 : code_ 212 136 = opC (vI 0) 137 := rfl
theorem h212_137 : code_ 212 137 = opIret := rfl
theorem h213_0 : code_ 213 0 = opAld 0 1 := rfl
theorem h213_1 : code_ 213 1 = opC (vI 681) 4 := rfl
theorem h213_4 : code_ 213 4 = opAld 0 5 := rfl
theorem h213_5 : code_ 213 5 = opGR 8 0 1 113669 8 := rfl
theorem h213_8 : code_ 213 8 = opC (vI 0) 9 := rfl
theorem h213_9 : code_ 213 9 = opIal 10 := rfl
theorem h213_10 : code_ 213 10 = opB (fun x y => x * y) 11 := rfl
theorem h213_11 : code_ 213 11 = opPI 8 12 14 := rfl
theorem h213_14 : code_ 213 14 = opAld 0 15 := rfl
theorem h213_15 : code_ 213 15 = opGR 8 2 3 102724 18 := rfl
theorem h213_18 : code_ 213 18 = opAld 0 19 := rfl
theorem h213_19 : code_ 213 19 = opGI 8 12 22 := rfl
theorem h213_22 : code_ 213 22 = opC (vI 0) 23 := rfl
theorem h213_23 : code_ 213 23 = opIas 24 := rfl
theorem h213_24 : code_ 213 24 = opAld 0 25 := rfl
theorem h213_25 : code_ 213 25 = opC (vI 0) 26 := rfl
theorem h213_26 : code_ 213 26 = opPI 8 13 29 := rfl
theorem h213_29 : code_ 213 29 = opAld 0 30 := rfl
theorem h213_30 : code_ 213 30 = opC (vI 0) 31 := rfl
theorem h213_31 : code_ 213 31 = opPI 8 19 34 := rfl
theorem h213_34 : code_ 213 34 = opAld 0 35 := rfl
theorem h213_35 : code_ 213 35 = opC (vI 0) 36 := rfl
theorem h213_36 : code_ 213 36 = opPI 8 7 39 := rfl
theorem h213_39 : code_ 213 39 = opAld 0 40 := rfl
theorem h213_40 : code_ 213 40 = opK kV 183 1 8 43 := rfl
theorem h213_43 : code_ 213 43 = opMask [1] (opAld 0 44) := rfl
theorem h213_44 : code_ 213 44 = opGI 8 9 47 := rfl
theorem h213_47 : code_ 213 47 = opIfEq 64 50 := rfl
theorem h213_50 : code_ 213 50 = opAld 0 51 := rfl
theorem h213_51 : code_ 213 51 = opK kI 212 1 8 54 := rfl
theorem h213_54 : code_ 213 54 = opIst 1 55 := rfl
theorem h213_55 : code_ 213 55 = opIld 1 56 := rfl
theorem h213_56 : code_ 213 56 = opIfEq 61 59 := rfl
theorem h213_59 : code_ 213 59 = opIld 1 60 := rfl
theorem h213_60 : code_ 213 60 = opIret := rfl
theorem h213_61 : code_ 213 61 = opGoto 43 := rfl
theorem h213_64 : code_ 213 64 = opC (vI 0) 65 := rfl
theorem h213_65 : code_ 213 65 = opIret := rfl
theorem h214_0 : code_ 214 0 = opAld 0 1 := rfl
theorem h214_1 : code_ 214 1 = opGR 8 0 1 113669 4 := rfl
theorem h214_4 : code_ 214 4 = opC (vI 0) 5 := rfl
theorem h214_5 : code_ 214 5 = opIal 6 := rfl
theorem h214_6 : code_ 214 6 = opC (vI 4) 7 := rfl
theorem h214_7 : code_ 214 7 = opCpNe 12 10 := rfl
theorem h214_10 : code_ 214 10 = opC (vI (-1)) 11 := rfl
theorem h214_11 : code_ 214 11 = opIret := rfl
theorem h214_12 : code_ 214 12 = opAld 0 13 := rfl
theorem h214_13 : code_ 214 13 = opAld 0 14 := rfl
theorem h214_14 : code_ 214 14 = opK kI 213 1 8 17 := rfl
theorem h214_17 : code_ 214 17 = opPI 8 5 20 := rfl
theorem h214_20 : code_ 214 20 = opAld 0 21 := rfl
theorem h214_21 : code_ 214 21 = opAld 0 22 := rfl
theorem h214_22 : code_ 214 22 = opGI 8 5 25 := rfl
theorem h214_25 : code_ 214 25 = opIfNe 32 28 := rfl
theorem h214_28 : code_ 214 28 = opC (vI (-1)) 29 := rfl
theorem h214_29 : code_ 214 29 = opGoto 36 := rfl
theorem h214_32 : code_ 214 32 = opAld 0 33 := rfl
theorem h214_33 : code_ 214 33 = opGI 8 8 36 := rfl
theorem h214_36 : code_ 214 36 = opPI 8 6 39 := rfl
theorem h214_39 : code_ 214 39 = opAld 0 40 := rfl
theorem h214_40 : code_ 214 40 = opC (vI 0) 41 := rfl
theorem h214_41 : code_ 214 41 = opPI 8 4 44 := rfl
theorem h214_44 : code_ 214 44 = opAld 0 45 := rfl
theorem h214_45 : code_ 214 45 = opGI 8 5 48 := rfl
theorem h214_48 : code_ 214 48 = opIfEq 53 51 := rfl
theorem h214_51 : code_ 214 51 = opC (vI (-1)) 52 := rfl
theorem h214_52 : code_ 214 52 = opIret := rfl
theorem h214_53 : code_ 214 53 = opAld 0 54 := rfl
theorem h214_54 : code_ 214 54 = opGR 8 0 1 113669 57 := rfl
theorem h214_57 : code_ 214 57 = opC (vI 0) 58 := rfl
theorem h214_58 : code_ 214 58 = opDup2 59 := rfl
theorem h214_59 : code_ 214 59 = opIal 60 := rfl
theorem h214_60 : code_ 214 60 = opC (vI 1) 61 := rfl
theorem h214_61 : code_ 214 61 = opB (fun x y => x + y) 62 := rfl
theorem h214_62 : code_ 214 62 = opIas 63 := rfl
theorem h214_63 : code_ 214 63 = opAld 0 64 := rfl
theorem h214_64 : code_ 214 64 = opGR 8 0 1 113669 67 := rfl
theorem h214_67 : code_ 214 67 = opC (vI 0) 68 := rfl
theorem h214_68 : code_ 214 68 = opIal 69 := rfl
theorem h214_69 : code_ 214 69 = opC (vI 1) 70 := rfl
theorem h214_70 : code_ 214 70 = opB (fun x y => x - y) 71 := rfl
theorem h214_71 : code_ 214 71 = opIret := rfl
theorem h215_0 : code_ 215 0 = opIld 1 1 := rfl
theorem h215_1 : code_ 215 1 = opIfNe 11 4 := rfl
theorem h215_4 : code_ 215 4 = opAld 0 5 := rfl
theorem h215_5 : code_ 215 5 = opGI 8 5 8 := rfl
theorem h215_8 : code_ 215 8 = opGoto 24 := rfl
theorem h215_11 : code_ 215 11 = opIld 1 12 := rfl
theorem h215_12 : code_ 215 12 = opC (vI 1) 13 := rfl
theorem h215_13 : code_ 215 13 = opCpNe 23 16 := rfl
theorem h215_16 : code_ 215 16 = opAld 0 17 := rfl
theorem h215_17 : code_ 215 17 = opGI 8 6 20 := rfl
theorem h215_20 : code_ 215 20 = opGoto 24 := rfl
theorem h215_23 : code_ 215 23 = opC (vI (-1)) 24 := rfl
theorem h215_24 : code_ 215 24 = opMask [0, 1] (opIret) := rfl
theorem h216_0 : code_ 216 0 = opIld 1 1 := rfl
theorem h216_1 : code_ 216 1 = opC (vI (-1)) 2 := rfl
theorem h216_2 : code_ 216 2 = opAld 0 3 := rfl
theorem h216_3 : code_ 216 3 = opGR 8 0 1 113669 6 := rfl
theorem h216_6 : code_ 216 6 = opC (vI 0) 7 := rfl
theorem h216_7 : code_ 216 7 = opIal 8 := rfl
theorem h216_8 : code_ 216 8 = opC (vI 1) 9 := rfl
theorem h216_9 : code_ 216 9 = opB (fun x y => x - y) 10 := rfl
theorem h216_10 : code_ 216 10 = opK kI 158 3 99 13 := rfl
theorem h216_13 : code_ 216 13 = opIfNe 18 16 := rfl
theorem h216_16 : code_ 216 16 = opC (vI 0) 17 := rfl
theorem h216_17 : code_ 216 17 = opZret := rfl
theorem h216_18 : code_ 216 18 = opAld 0 19 := rfl
theorem h216_19 : code_ 216 19 = opGR 8 0 1 113669 22 := rfl
theorem h216_22 : code_ 216 22 = opC (vI 1) 23 := rfl
theorem h216_23 : code_ 216 23 = opIld 1 24 := rfl
theorem h216_24 : code_ 216 24 = opIas 25 := rfl
theorem h216_25 : code_ 216 25 = opC (vI 1) 26 := rfl
theorem h216_26 : code_ 216 26 = opZret := rfl
theorem h217_0 : code_ 217 0 = opLld 0 1 := rfl
theorem h217_1 : code_ 217 1 = opC (vL 1000000) 4 := rfl
theorem h217_4 : code_ 217 4 = opLcmp 5 := rfl
theorem h217_5 : code_ 217 5 = opIfLe 14 8 := rfl
theorem h217_8 : code_ 217 8 = opC (vL 1000000) 11 := rfl
theorem h217_11 : code_ 217 11 = opGoto 29 := rfl
theorem h217_14 : code_ 217 14 = opLld 0 15 := rfl
theorem h217_15 : code_ 217 15 = opC (vL (-1000000)) 18 := rfl
theorem h217_18 : code_ 217 18 = opLcmp 19 := rfl
theorem h217_19 : code_ 217 19 = opIfGe 28 22 := rfl
theorem h217_22 : code_ 217 22 = opC (vL (-1000000)) 25 := rfl
theorem h217_25 : code_ 217 25 = opGoto 29 := rfl
theorem h217_28 : code_ 217 28 = opLld 0 29 := rfl
theorem h217_29 : code_ 217 29 = opMask [0, 1] (opLret) := rfl
theorem h218_0 : code_ 218 0 = opIld 0 1 := rfl
theorem h218_1 : code_ 218 1 = opSw 49 [(6, 28), (7, 35), (8, 42)] := rfl
theorem h218_28 : code_ 218 28 = opLld 1 29 := rfl
theorem h218_29 : code_ 218 29 = opLld 3 30 := rfl
theorem h218_30 : code_ 218 30 = opLB (fun x y => x + y) 31 := rfl
theorem h218_31 : code_ 218 31 = opK kL 217 1 99 34 := rfl
theorem h218_34 : code_ 218 34 = opLret := rfl
theorem h218_35 : code_ 218 35 = opLld 1 36 := rfl
theorem h218_36 : code_ 218 36 = opLld 3 37 := rfl
theorem h218_37 : code_ 218 37 = opLB (fun x y => x - y) 38 := rfl
theorem h218_38 : code_ 218 38 = opK kL 217 1 99 41 := rfl
theorem h218_41 : code_ 218 41 = opLret := rfl
theorem h218_42 : code_ 218 42 = opLld 1 43 := rfl
theorem h218_43 : code_ 218 43 = opLld 3 44 := rfl
theorem h218_44 : code_ 218 44 = opLB (fun x y => x * y) 45 := rfl
theorem h218_45 : code_ 218 45 = opK kL 217 1 99 48 := rfl
theorem h218_48 : code_ 218 48 = opLret := rfl
theorem h218_49 : code_ 218 49 = opLld 3 50 := rfl
theorem h218_50 : code_ 218 50 = opC (vL 0) 51 := rfl
theorem h218_51 : code_ 218 51 = opLcmp 52 := rfl
theorem h218_52 : code_ 218 52 = opIfNe 59 55 := rfl
theorem h218_55 : code_ 218 55 = opC (vL 0) 56 := rfl
theorem h218_56 : code_ 218 56 = opGoto 65 := rfl
theorem h218_59 : code_ 218 59 = opLld 1 60 := rfl
theorem h218_60 : code_ 218 60 = opLld 3 61 := rfl
theorem h218_61 : code_ 218 61 = opLBz (fun x y => x / y) 62 := rfl
theorem h218_62 : code_ 218 62 = opK kL 217 1 99 65 := rfl
theorem h218_65 : code_ 218 65 = opMask [0, 1, 2, 3, 4] (opLret) := rfl
theorem h219_0 : code_ 219 0 = opIld 0 1 := rfl
theorem h219_1 : code_ 219 1 = opC (vI 10) 3 := rfl
theorem h219_3 : code_ 219 3 = opCpNe 20 6 := rfl
theorem h219_6 : code_ 219 6 = opLld 1 7 := rfl
theorem h219_7 : code_ 219 7 = opLld 3 8 := rfl
theorem h219_8 : code_ 219 8 = opLcmp 9 := rfl
theorem h219_9 : code_ 219 9 = opIfGe 16 12 := rfl
theorem h219_12 : code_ 219 12 = opC (vI 1) 13 := rfl
theorem h219_13 : code_ 219 13 = opGoto 111 := rfl
theorem h219_16 : code_ 219 16 = opC (vI 0) 17 := rfl
theorem h219_17 : code_ 219 17 = opGoto 111 := rfl
theorem h219_20 : code_ 219 20 = opIld 0 21 := rfl
theorem h219_21 : code_ 219 21 = opC (vI 11) 23 := rfl
theorem h219_23 : code_ 219 23 = opCpNe 40 26 := rfl
theorem h219_26 : code_ 219 26 = opLld 1 27 := rfl
theorem h219_27 : code_ 219 27 = opLld 3 28 := rfl
theorem h219_28 : code_ 219 28 = opLcmp 29 := rfl
theorem h219_29 : code_ 219 29 = opIfGt 36 32 := rfl
theorem h219_32 : code_ 219 32 = opC (vI 1) 33 := rfl
theorem h219_33 : code_ 219 33 = opGoto 111 := rfl
theorem h219_36 : code_ 219 36 = opC (vI 0) 37 := rfl
theorem h219_37 : code_ 219 37 = opGoto 111 := rfl
theorem h219_40 : code_ 219 40 = opIld 0 41 := rfl
theorem h219_41 : code_ 219 41 = opC (vI 12) 43 := rfl
theorem h219_43 : code_ 219 43 = opCpNe 60 46 := rfl
theorem h219_46 : code_ 219 46 = opLld 1 47 := rfl
theorem h219_47 : code_ 219 47 = opLld 3 48 := rfl
theorem h219_48 : code_ 219 48 = opLcmp 49 := rfl
theorem h219_49 : code_ 219 49 = opIfLe 56 52 := rfl
theorem h219_52 : code_ 219 52 = opC (vI 1) 53 := rfl
theorem h219_53 : code_ 219 53 = opGoto 111 := rfl
theorem h219_56 : code_ 219 56 = opC (vI 0) 57 := rfl
theorem h219_57 : code_ 219 57 = opGoto 111 := rfl
theorem h219_60 : code_ 219 60 = opIld 0 61 := rfl
theorem h219_61 : code_ 219 61 = opC (vI 13) 63 := rfl
theorem h219_63 : code_ 219 63 = opCpNe 80 66 := rfl
theorem h219_66 : code_ 219 66 = opLld 1 67 := rfl
theorem h219_67 : code_ 219 67 = opLld 3 68 := rfl
theorem h219_68 : code_ 219 68 = opLcmp 69 := rfl
theorem h219_69 : code_ 219 69 = opIfLt 76 72 := rfl
theorem h219_72 : code_ 219 72 = opC (vI 1) 73 := rfl
theorem h219_73 : code_ 219 73 = opGoto 111 := rfl
theorem h219_76 : code_ 219 76 = opC (vI 0) 77 := rfl
theorem h219_77 : code_ 219 77 = opGoto 111 := rfl
theorem h219_80 : code_ 219 80 = opIld 0 81 := rfl
theorem h219_81 : code_ 219 81 = opC (vI 14) 83 := rfl
theorem h219_83 : code_ 219 83 = opCpNe 100 86 := rfl
theorem h219_86 : code_ 219 86 = opLld 1 87 := rfl
theorem h219_87 : code_ 219 87 = opLld 3 88 := rfl
theorem h219_88 : code_ 219 88 = opLcmp 89 := rfl
theorem h219_89 : code_ 219 89 = opIfNe 96 92 := rfl
theorem h219_92 : code_ 219 92 = opC (vI 1) 93 := rfl
theorem h219_93 : code_ 219 93 = opGoto 111 := rfl
theorem h219_96 : code_ 219 96 = opC (vI 0) 97 := rfl
theorem h219_97 : code_ 219 97 = opGoto 111 := rfl
theorem h219_100 : code_ 219 100 = opLld 1 101 := rfl
theorem h219_101 : code_ 219 101 = opLld 3 102 := rfl
theorem h219_102 : code_ 219 102 = opLcmp 103 := rfl
theorem h219_103 : code_ 219 103 = opIfEq 110 106 := rfl
theorem h219_106 : code_ 219 106 = opC (vI 1) 107 := rfl
theorem h219_107 : code_ 219 107 = opGoto 111 := rfl
theorem h219_110 : code_ 219 110 = opC (vI 0) 111 := rfl
theorem h219_111 : code_ 219 111 = opMask [0, 1, 2, 3, 4] (opZret) := rfl
theorem h220_0 : code_ 220 0 = opIld 1 1 := rfl
theorem h220_1 : code_ 220 1 = opC (vI 5) 2 := rfl
theorem h220_2 : code_ 220 2 = opCpNe 8 5 := rfl
theorem h220_5 : code_ 220 5 = opLld 2 6 := rfl
theorem h220_6 : code_ 220 6 = opLU (fun x => -x) 7 := rfl
theorem h220_7 : code_ 220 7 = opLret := rfl
theorem h220_8 : code_ 220 8 = opLld 2 9 := rfl
theorem h220_9 : code_ 220 9 = opC (vL 0) 10 := rfl
theorem h220_10 : code_ 220 10 = opLcmp 11 := rfl
theorem h220_11 : code_ 220 11 = opIfLt 36 14 := rfl
theorem h220_14 : code_ 220 14 = opLld 2 15 := rfl
theorem h220_15 : code_ 220 15 = opC (vL 12) 18 := rfl
theorem h220_18 : code_ 220 18 = opLcmp 19 := rfl
theorem h220_19 : code_ 220 19 = opIfGe 36 22 := rfl
theorem h220_22 : code_ 220 22 = opAld 0 23 := rfl
theorem h220_23 : code_ 220 23 = opGR 8 0 1 113669 26 := rfl
theorem h220_26 : code_ 220 26 = opC (vI 11) 28 := rfl
theorem h220_28 : code_ 220 28 = opLld 2 29 := rfl
theorem h220_29 : code_ 220 29 = opL2I 30 := rfl
theorem h220_30 : code_ 220 30 = opB (fun x y => x + y) 31 := rfl
theorem h220_31 : code_ 220 31 = opIal 32 := rfl
theorem h220_32 : code_ 220 32 = opC (vI (-1)) 33 := rfl
theorem h220_33 : code_ 220 33 = opCpNe 38 36 := rfl
theorem h220_36 : code_ 220 36 = opMask [0, 1, 2, 3] (opC (vL 0) 37) := rfl
theorem h220_37 : code_ 220 37 = opLret := rfl
theorem h220_38 : code_ 220 38 = opIld 1 39 := rfl
theorem h220_39 : code_ 220 39 = opC (vI 2) 40 := rfl
theorem h220_40 : code_ 220 40 = opCpNe 60 43 := rfl
theorem h220_43 : code_ 220 43 = opAld 0 44 := rfl
theorem h220_44 : code_ 220 44 = opGR 8 0 1 113669 47 := rfl
theorem h220_47 : code_ 220 47 = opC (vI 23) 49 := rfl
theorem h220_49 : code_ 220 49 = opLld 2 50 := rfl
theorem h220_50 : code_ 220 50 = opL2I 51 := rfl
theorem h220_51 : code_ 220 51 = opB (fun x y => x + y) 52 := rfl
theorem h220_52 : code_ 220 52 = opIal 53 := rfl
theorem h220_53 : code_ 220 53 = opK kI 161 1 99 56 := rfl
theorem h220_56 : code_ 220 56 = opI2L 57 := rfl
theorem h220_57 : code_ 220 57 = opGoto 73 := rfl
theorem h220_60 : code_ 220 60 = opC (vI 1) 61 := rfl
theorem h220_61 : code_ 220 61 = opAld 0 62 := rfl
theorem h220_62 : code_ 220 62 = opGR 8 0 1 113669 65 := rfl
theorem h220_65 : code_ 220 65 = opC (vI 11) 67 := rfl
theorem h220_67 : code_ 220 67 = opLld 2 68 := rfl
theorem h220_68 : code_ 220 68 = opL2I 69 := rfl
theorem h220_69 : code_ 220 69 = opB (fun x y => x + y) 70 := rfl
theorem h220_70 : code_ 220 70 = opIal 71 := rfl
theorem h220_71 : code_ 220 71 = opB (fun x y => x + y) 72 := rfl
theorem h220_72 : code_ 220 72 = opI2L 73 := rfl
theorem h220_73 : code_ 220 73 = opMask [0, 1, 2, 3] (opLret) := rfl
theorem h221_0 : code_ 221 0 = opIld 0 1 := rfl
theorem h221_1 : code_ 221 1 = opC (vI 21) 3 := rfl
theorem h221_3 : code_ 221 3 = opCpNe 22 6 := rfl
theorem h221_6 : code_ 221 6 = opIld 1 7 := rfl
theorem h221_7 : code_ 221 7 = opIfEq 18 10 := rfl
theorem h221_10 : code_ 221 10 = opIld 2 11 := rfl
theorem h221_11 : code_ 221 11 = opIfEq 18 14 := rfl
theorem h221_14 : code_ 221 14 = opC (vI 1) 15 := rfl
theorem h221_15 : code_ 221 15 = opGoto 35 := rfl
theorem h221_18 : code_ 221 18 = opMask [0, 1, 2] (opC (vI 0) 19) := rfl
theorem h221_19 : code_ 221 19 = opGoto 35 := rfl
theorem h221_22 : code_ 221 22 = opIld 1 23 := rfl
theorem h221_23 : code_ 221 23 = opIfNe 30 26 := rfl
theorem h221_26 : code_ 221 26 = opIld 2 27 := rfl
theorem h221_27 : code_ 221 27 = opIfEq 34 30 := rfl
theorem h221_30 : code_ 221 30 = opMask [0, 1, 2] (opC (vI 1) 31) := rfl
theorem h221_31 : code_ 221 31 = opGoto 35 := rfl
theorem h221_34 : code_ 221 34 = opC (vI 0) 35 := rfl
theorem h221_35 : code_ 221 35 = opMask [0, 1, 2] (opZret) := rfl
theorem h222_0 : code_ 222 0 = opC (vI 681) 3 := rfl
theorem h222_3 : code_ 222 3 = opIld 1 4 := rfl
theorem h222_4 : code_ 222 4 = opB (fun x y => x * y) 5 := rfl
theorem h222_5 : code_ 222 5 = opC (vI 1) 6 := rfl
theorem h222_6 : code_ 222 6 = opB (fun x y => x + y) 7 := rfl
theorem h222_7 : code_ 222 7 = opC (vI 3) 8 := rfl
theorem h222_8 : code_ 222 8 = opIld 2 9 := rfl
theorem h222_9 : code_ 222 9 = opB (fun x y => x * y) 10 := rfl
theorem h222_10 : code_ 222 10 = opB (fun x y => x + y) 11 := rfl
theorem h222_11 : code_ 222 11 = opIst 3 12 := rfl
theorem h222_12 : code_ 222 12 = opC (vI 681) 15 := rfl
theorem h222_15 : code_ 222 15 = opIld 1 16 := rfl
theorem h222_16 : code_ 222 16 = opB (fun x y => x * y) 17 := rfl
theorem h222_17 : code_ 222 17 = opC (vI 73) 19 := rfl
theorem h222_19 : code_ 222 19 = opB (fun x y => x + y) 20 := rfl
theorem h222_20 : code_ 222 20 = opIst 4 22 := rfl
theorem h222_22 : code_ 222 22 = opC (vI 0) 23 := rfl
theorem h222_23 : code_ 222 23 = opIst 5 25 := rfl
theorem h222_25 : code_ 222 25 = opC (vI 0) 26 := rfl
theorem h222_26 : code_ 222 26 = opIst 6 28 := rfl
theorem h222_28 : code_ 222 28 = opAld 0 29 := rfl
theorem h222_29 : code_ 222 29 = opGR 8 2 3 102724 32 := rfl
theorem h222_32 : code_ 222 32 = opIld 3 33 := rfl
theorem h222_33 : code_ 222 33 = opC (vI 1) 34 := rfl
theorem h222_34 : code_ 222 34 = opB (fun x y => x + y) 35 := rfl
theorem h222_35 : code_ 222 35 = opIal 36 := rfl
theorem h222_36 : code_ 222 36 = opIst 7 38 := rfl
theorem h222_38 : code_ 222 38 = opMask [1, 2, 8, 9] (opIld 7 40) := rfl
theorem h222_40 : code_ 222 40 = opAld 0 41 := rfl
theorem h222_41 : code_ 222 41 = opGR 8 2 3 102724 44 := rfl
theorem h222_44 : code_ 222 44 = opIld 3 45 := rfl
theorem h222_45 : code_ 222 45 = opC (vI 2) 46 := rfl
theorem h222_46 : code_ 222 46 = opB (fun x y => x + y) 47 := rfl
theorem h222_47 : code_ 222 47 = opIal 48 := rfl
theorem h222_48 : code_ 222 48 = opCpGe 355 51 := rfl
theorem h222_51 : code_ 222 51 = opAld 0 52 := rfl
theorem h222_52 : code_ 222 52 = opGR 8 2 3 102724 55 := rfl
theorem h222_55 : code_ 222 55 = opIld 4 57 := rfl
theorem h222_57 : code_ 222 57 = opC (vI 2) 58 := rfl
theorem h222_58 : code_ 222 58 = opIld 7 60 := rfl
theorem h222_60 : code_ 222 60 = opB (fun x y => x * y) 61 := rfl
theorem h222_61 : code_ 222 61 = opB (fun x y => x + y) 62 := rfl
theorem h222_62 : code_ 222 62 = opIal 63 := rfl
theorem h222_63 : code_ 222 63 = opIst 8 65 := rfl
theorem h222_65 : code_ 222 65 = opAld 0 66 := rfl
theorem h222_66 : code_ 222 66 = opGR 8 2 3 102724 69 := rfl
theorem h222_69 : code_ 222 69 = opIld 4 71 := rfl
theorem h222_71 : code_ 222 71 = opC (vI 2) 72 := rfl
theorem h222_72 : code_ 222 72 = opIld 7 74 := rfl
theorem h222_74 : code_ 222 74 = opB (fun x y => x * y) 75 := rfl
theorem h222_75 : code_ 222 75 = opB (fun x y => x + y) 76 := rfl
theorem h222_76 : code_ 222 76 = opC (vI 1) 77 := rfl
theorem h222_77 : code_ 222 77 = opB (fun x y => x + y) 78 := rfl
theorem h222_78 : code_ 222 78 = opIal 79 := rfl
theorem h222_79 : code_ 222 79 = opIst 9 81 := rfl
theorem h222_81 : code_ 222 81 = opIld 8 83 := rfl
theorem h222_83 : code_ 222 83 = opC (vI 1) 84 := rfl
theorem h222_84 : code_ 222 84 = opCpGt 119 87 := rfl
theorem h222_87 : code_ 222 87 = opAld 0 88 := rfl
theorem h222_88 : code_ 222 88 = opGR 8 21 7 300330 91 := rfl
theorem h222_91 : code_ 222 91 = opIld 5 93 := rfl
theorem h222_93 : code_ 222 93 = opIld 8 95 := rfl
theorem h222_95 : code_ 222 95 = opIfNe 104 98 := rfl
theorem h222_98 : code_ 222 98 = opIld 9 100 := rfl
theorem h222_100 : code_ 222 100 = opI2L 101 := rfl
theorem h222_101 : code_ 222 101 = opGoto 112 := rfl
theorem h222_104 : code_ 222 104 = opAld 0 105 := rfl
theorem h222_105 : code_ 222 105 = opGR 8 20 6 100006 108 := rfl
theorem h222_108 : code_ 222 108 = opIld 9 110 := rfl
theorem h222_110 : code_ 222 110 = opIal 111 := rfl
theorem h222_111 : code_ 222 111 = opI2L 112 := rfl
theorem h222_112 : code_ 222 112 = opMask [1, 2, 8, 9] (opLas 113) := rfl
theorem h222_113 : code_ 222 113 = opInc 5 1 116 := rfl
theorem h222_116 : code_ 222 116 = opGoto 349 := rfl
theorem h222_119 : code_ 222 119 = opIld 8 121 := rfl
theorem h222_121 : code_ 222 121 = opC (vI 3) 122 := rfl
theorem h222_122 : code_ 222 122 = opCpNe 160 125 := rfl
theorem h222_125 : code_ 222 125 = opInc 5 (-1) 128 := rfl
theorem h222_128 : code_ 222 128 = opInc 6 (-1) 131 := rfl
theorem h222_131 : code_ 222 131 = opAld 0 132 := rfl
theorem h222_132 : code_ 222 132 = opGR 8 22 8 200330 135 := rfl
theorem h222_135 : code_ 222 135 = opIld 6 137 := rfl
theorem h222_137 : code_ 222 137 = opBal 138 := rfl
theorem h222_138 : code_ 222 138 = opIfNe 349 141 := rfl
theorem h222_141 : code_ 222 141 = opAld 0 142 := rfl
theorem h222_142 : code_ 222 142 = opGR 8 21 7 300330 145 := rfl
theorem h222_145 : code_ 222 145 = opIld 5 147 := rfl
theorem h222_147 : code_ 222 147 = opC (vI 1) 148 := rfl
theorem h222_148 : code_ 222 148 = opB (fun x y => x - y) 149 := rfl
theorem h222_149 : code_ 222 149 = opAld 0 150 := rfl
theorem h222_150 : code_ 222 150 = opGR 8 21 7 300330 153 := rfl
theorem h222_153 : code_ 222 153 = opIld 5 155 := rfl
theorem h222_155 : code_ 222 155 = opLal 156 := rfl
theorem h222_156 : code_ 222 156 = opLas 157 := rfl
theorem h222_157 : code_ 222 157 = opGoto 349 := rfl
theorem h222_160 : code_ 222 160 = opIld 8 162 := rfl
theorem h222_162 : code_ 222 162 = opC (vI 5) 163 := rfl
theorem h222_163 : code_ 222 163 = opCpGt 193 166 := rfl
theorem h222_166 : code_ 222 166 = opAld 0 167 := rfl
theorem h222_167 : code_ 222 167 = opGR 8 21 7 300330 170 := rfl
theorem h222_170 : code_ 222 170 = opIld 5 172 := rfl
theorem h222_172 : code_ 222 172 = opC (vI 1) 173 := rfl
theorem h222_173 : code_ 222 173 = opB (fun x y => x - y) 174 := rfl
theorem h222_174 : code_ 222 174 = opAld 0 175 := rfl
theorem h222_175 : code_ 222 175 = opIld 8 177 := rfl
theorem h222_177 : code_ 222 177 = opAld 0 178 := rfl
theorem h222_178 : code_ 222 178 = opGR 8 21 7 300330 181 := rfl
theorem h222_181 : code_ 222 181 = opIld 5 183 := rfl
theorem h222_183 : code_ 222 183 = opC (vI 1) 184 := rfl
theorem h222_184 : code_ 222 184 = opB (fun x y => x - y) 185 := rfl
theorem h222_185 : code_ 222 185 = opLal 186 := rfl
theorem h222_186 : code_ 222 186 = opK kL 220 3 8 189 := rfl
theorem h222_189 : code_ 222 189 = opLas 190 := rfl
theorem h222_190 : code_ 222 190 = opGoto 349 := rfl
theorem h222_193 : code_ 222 193 = opIld 8 195 := rfl
theorem h222_195 : code_ 222 195 = opC (vI 10) 197 := rfl
theorem h222_197 : code_ 222 197 = opCpGe 236 200 := rfl
theorem h222_200 : code_ 222 200 = opInc 5 (-1) 203 := rfl
theorem h222_203 : code_ 222 203 = opAld 0 204 := rfl
theorem h222_204 : code_ 222 204 = opGR 8 21 7 300330 207 := rfl
theorem h222_207 : code_ 222 207 = opIld 5 209 := rfl
theorem h222_209 : code_ 222 209 = opC (vI 1) 210 := rfl
theorem h222_210 : code_ 222 210 = opB (fun x y => x - y) 211 := rfl
theorem h222_211 : code_ 222 211 = opIld 8 213 := rfl
theorem h222_213 : code_ 222 213 = opAld 0 214 := rfl
theorem h222_214 : code_ 222 214 = opGR 8 21 7 300330 217 := rfl
theorem h222_217 : code_ 222 217 = opIld 5 219 := rfl
theorem h222_219 : code_ 222 219 = opC (vI 1) 220 := rfl
theorem h222_220 : code_ 222 220 = opB (fun x y => x - y) 221 := rfl
theorem h222_221 : code_ 222 221 = opLal 222 := rfl
theorem h222_222 : code_ 222 222 = opAld 0 223 := rfl
theorem h222_223 : code_ 222 223 = opGR 8 21 7 300330 226 := rfl
theorem h222_226 : code_ 222 226 = opIld 5 228 := rfl
theorem h222_228 : code_ 222 228 = opLal 229 := rfl
theorem h222_229 : code_ 222 229 = opK kL 218 3 99 232 := rfl
theorem h222_232 : code_ 222 232 = opLas 233 := rfl
theorem h222_233 : code_ 222 233 = opGoto 349 := rfl
theorem h222_236 : code_ 222 236 = opIld 8 238 := rfl
theorem h222_238 : code_ 222 238 = opC (vI 20) 240 := rfl
theorem h222_240 : code_ 222 240 = opCpGe 280 243 := rfl
theorem h222_243 : code_ 222 243 = opInc 5 (-2) 246 := rfl
theorem h222_246 : code_ 222 246 = opAld 0 247 := rfl
theorem h222_247 : code_ 222 247 = opGR 8 22 8 200330 250 := rfl
theorem h222_250 : code_ 222 250 = opIld 6 252 := rfl
theorem h222_252 : code_ 222 252 = opIld 8 254 := rfl
theorem h222_254 : code_ 222 254 = opAld 0 255 := rfl
theorem h222_255 : code_ 222 255 = opGR 8 21 7 300330 258 := rfl
theorem h222_258 : code_ 222 258 = opIld 5 260 := rfl
theorem h222_260 : code_ 222 260 = opLal 261 := rfl
theorem h222_261 : code_ 222 261 = opAld 0 262 := rfl
theorem h222_262 : code_ 222 262 = opGR 8 21 7 300330 265 := rfl
theorem h222_265 : code_ 222 265 = opIld 5 267 := rfl
theorem h222_267 : code_ 222 267 = opC (vI 1) 268 := rfl
theorem h222_268 : code_ 222 268 = opB (fun x y => x + y) 269 := rfl
theorem h222_269 : code_ 222 269 = opLal 270 := rfl
theorem h222_270 : code_ 222 270 = opK kI 219 3 99 273 := rfl
theorem h222_273 : code_ 222 273 = opBas 274 := rfl
theorem h222_274 : code_ 222 274 = opInc 6 1 277 := rfl
theorem h222_277 : code_ 222 277 = opGoto 349 := rfl
theorem h222_280 : code_ 222 280 = opIld 8 282 := rfl
theorem h222_282 : code_ 222 282 = opC (vI 20) 284 := rfl
theorem h222_284 : code_ 222 284 = opCpNe 316 287 := rfl
theorem h222_287 : code_ 222 287 = opAld 0 288 := rfl
theorem h222_288 : code_ 222 288 = opGR 8 22 8 200330 291 := rfl
theorem h222_291 : code_ 222 291 = opIld 6 293 := rfl
theorem h222_293 : code_ 222 293 = opC (vI 1) 294 := rfl
theorem h222_294 : code_ 222 294 = opB (fun x y => x - y) 295 := rfl
theorem h222_295 : code_ 222 295 = opAld 0 296 := rfl
theorem h222_296 : code_ 222 296 = opGR 8 22 8 200330 299 := rfl
theorem h222_299 : code_ 222 299 = opIld 6 301 := rfl
theorem h222_301 : code_ 222 301 = opC (vI 1) 302 := rfl
theorem h222_302 : code_ 222 302 = opB (fun x y => x - y) 303 := rfl
theorem h222_303 : code_ 222 303 = opBal 304 := rfl
theorem h222_304 : code_ 222 304 = opIfNe 311 307 := rfl
theorem h222_307 : code_ 222 307 = opC (vI 1) 308 := rfl
theorem h222_308 : code_ 222 308 = opGoto 312 := rfl
theorem h222_311 : code_ 222 311 = opC (vI 0) 312 := rfl
theorem h222_312 : code_ 222 312 = opMask [1, 2, 8, 9] (opBas 313) := rfl
theorem h222_313 : code_ 222 313 = opGoto 349 := rfl
theorem h222_316 : code_ 222 316 = opInc 6 (-1) 319 := rfl
theorem h222_319 : code_ 222 319 = opAld 0 320 := rfl
theorem h222_320 : code_ 222 320 = opGR 8 22 8 200330 323 := rfl
theorem h222_323 : code_ 222 323 = opIld 6 325 := rfl
theorem h222_325 : code_ 222 325 = opC (vI 1) 326 := rfl
theorem h222_326 : code_ 222 326 = opB (fun x y => x - y) 327 := rfl
theorem h222_327 : code_ 222 327 = opIld 8 329 := rfl
theorem h222_329 : code_ 222 329 = opAld 0 330 := rfl
theorem h222_330 : code_ 222 330 = opGR 8 22 8 200330 333 := rfl
theorem h222_333 : code_ 222 333 = opIld 6 335 := rfl
theorem h222_335 : code_ 222 335 = opC (vI 1) 336 := rfl
theorem h222_336 : code_ 222 336 = opB (fun x y => x - y) 337 := rfl
theorem h222_337 : code_ 222 337 = opBal 338 := rfl
theorem h222_338 : code_ 222 338 = opAld 0 339 := rfl
theorem h222_339 : code_ 222 339 = opGR 8 22 8 200330 342 := rfl
theorem h222_342 : code_ 222 342 = opIld 6 344 := rfl
theorem h222_344 : code_ 222 344 = opBal 345 := rfl
theorem h222_345 : code_ 222 345 = opK kI 221 3 99 348 := rfl
theorem h222_348 : code_ 222 348 = opBas 349 := rfl
theorem h222_349 : code_ 222 349 = opMask [1, 2, 8, 9] (opInc 7 1 352) := rfl
theorem h222_352 : code_ 222 352 = opGoto 38 := rfl
theorem h222_355 : code_ 222 355 = opAld 0 356 := rfl
theorem h222_356 : code_ 222 356 = opGR 8 21 7 300330 359 := rfl
theorem h222_359 : code_ 222 359 = opC (vI 0) 360 := rfl
theorem h222_360 : code_ 222 360 = opLal 361 := rfl
theorem h222_361 : code_ 222 361 = opLret := rfl
theorem h223_0 : code_ 223 0 = opC (vI 0) 1 := rfl
theorem h223_1 : code_ 223 1 = opIst 3 2 := rfl
theorem h223_2 : code_ 223 2 = opIld 1 3 := rfl
theorem h223_3 : code_ 223 3 = opIfLt 48 6 := rfl
theorem h223_6 : code_ 223 6 = opIld 3 7 := rfl
theorem h223_7 : code_ 223 7 = opAld 0 8 := rfl
theorem h223_8 : code_ 223 8 = opGR 8 2 3 102724 11 := rfl
theorem h223_11 : code_ 223 11 = opC (vI 681) 14 := rfl
theorem h223_14 : code_ 223 14 = opIld 1 15 := rfl
theorem h223_15 : code_ 223 15 = opB (fun x y => x * y) 16 := rfl
theorem h223_16 : code_ 223 16 = opIal 17 := rfl
theorem h223_17 : code_ 223 17 = opCpGe 48 20 := rfl
theorem h223_20 : code_ 223 20 = opAld 0 21 := rfl
theorem h223_21 : code_ 223 21 = opGR 8 2 3 102724 24 := rfl
theorem h223_24 : code_ 223 24 = opC (vI 681) 27 := rfl
theorem h223_27 : code_ 223 27 = opIld 1 28 := rfl
theorem h223_28 : code_ 223 28 = opB (fun x y => x * y) 29 := rfl
theorem h223_29 : code_ 223 29 = opC (vI 1) 30 := rfl
theorem h223_30 : code_ 223 30 = opB (fun x y => x + y) 31 := rfl
theorem h223_31 : code_ 223 31 = opC (vI 3) 32 := rfl
theorem h223_32 : code_ 223 32 = opIld 3 33 := rfl
theorem h223_33 : code_ 223 33 = opB (fun x y => x * y) 34 := rfl
theorem h223_34 : code_ 223 34 = opB (fun x y => x + y) 35 := rfl
theorem h223_35 : code_ 223 35 = opIal 36 := rfl
theorem h223_36 : code_ 223 36 = opIld 2 37 := rfl
theorem h223_37 : code_ 223 37 = opCpNe 42 40 := rfl
theorem h223_40 : code_ 223 40 = opIld 3 41 := rfl
theorem h223_41 : code_ 223 41 = opIret := rfl
theorem h223_42 : code_ 223 42 = opInc 3 1 45 := rfl
theorem h223_45 : code_ 223 45 = opGoto 2 := rfl
theorem h223_48 : code_ 223 48 = opMask [0, 1, 2, 3] (opC (vI (-1)) 49) := rfl
theorem h223_49 : code_ 223 49 = opIret := rfl
theorem h224_0 : code_ 224 0 = opAld 0 1 := rfl
theorem h224_1 : code_ 224 1 = opGR 8 20 6 100006 4 := rfl
theorem h224_4 : code_ 224 4 = opC (vI 0) 5 := rfl
theorem h224_5 : code_ 224 5 = opAld 0 6 := rfl
theorem h224_6 : code_ 224 6 = opGR 8 0 1 113669 9 := rfl
theorem h224_9 : code_ 224 9 = opC (vI 4) 10 := rfl
theorem h224_10 : code_ 224 10 = opIal 11 := rfl
theorem h224_11 : code_ 224 11 = opIas 12 := rfl
theorem h224_12 : code_ 224 12 = opAld 0 13 := rfl
theorem h224_13 : code_ 224 13 = opGR 8 20 6 100006 16 := rfl
theorem h224_16 : code_ 224 16 = opC (vI 1) 17 := rfl
theorem h224_17 : code_ 224 17 = opAld 0 18 := rfl
theorem h224_18 : code_ 224 18 = opK kI 169 1 8 21 := rfl
theorem h224_21 : code_ 224 21 = opK kI 161 1 99 24 := rfl
theorem h224_24 : code_ 224 24 = opIas 25 := rfl
theorem h224_25 : code_ 224 25 = opAld 0 26 := rfl
theorem h224_26 : code_ 224 26 = opGR 8 20 6 100006 29 := rfl
theorem h224_29 : code_ 224 29 = opC (vI 2) 30 := rfl
theorem h224_30 : code_ 224 30 = opAld 0 31 := rfl
theorem h224_31 : code_ 224 31 = opK kI 168 1 8 34 := rfl
theorem h224_34 : code_ 224 34 = opK kI 161 1 99 37 := rfl
theorem h224_37 : code_ 224 37 = opIas 38 := rfl
theorem h224_38 : code_ 224 38 = opRet := rfl
theorem h225_0 : code_ 225 0 = opAld 0 1 := rfl
theorem h225_1 : code_ 225 1 = opIld 1 2 := rfl
theorem h225_2 : code_ 225 2 = opC (vI 0) 3 := rfl
theorem h225_3 : code_ 225 3 = opK kI 223 3 8 6 := rfl
theorem h225_6 : code_ 225 6 = opIst 4 8 := rfl
theorem h225_8 : code_ 225 8 = opIld 4 10 := rfl
theorem h225_10 : code_ 225 10 = opC (vI (-1)) 11 := rfl
theorem h225_11 : code_ 225 11 = opCpNe 16 14 := rfl
theorem h225_14 : code_ 225 14 = opC (vI 1) 15 := rfl
theorem h225_15 : code_ 225 15 = opZret := rfl
theorem h225_16 : code_ 225 16 = opAld 0 17 := rfl
theorem h225_17 : code_ 225 17 = opK kV 224 1 8 20 := rfl
theorem h225_20 : code_ 225 20 = opAld 0 21 := rfl
theorem h225_21 : code_ 225 21 = opGR 8 20 6 100006 24 := rfl
theorem h225_24 : code_ 225 24 = opC (vI 3) 25 := rfl
theorem h225_25 : code_ 225 25 = opIld 2 26 := rfl
theorem h225_26 : code_ 225 26 = opIas 27 := rfl
theorem h225_27 : code_ 225 27 = opAld 0 28 := rfl
theorem h225_28 : code_ 225 28 = opGR 8 20 6 100006 31 := rfl
theorem h225_31 : code_ 225 31 = opC (vI 4) 32 := rfl
theorem h225_32 : code_ 225 32 = opIld 3 33 := rfl
theorem h225_33 : code_ 225 33 = opIas 34 := rfl
theorem h225_34 : code_ 225 34 = opAld 0 35 := rfl
theorem h225_35 : code_ 225 35 = opIld 1 36 := rfl
theorem h225_36 : code_ 225 36 = opIld 4 38 := rfl
theorem h225_38 : code_ 225 38 = opK kL 222 3 8 41 := rfl
theorem h225_41 : code_ 225 41 = opC (vL 0) 42 := rfl
theorem h225_42 : code_ 225 42 = opLcmp 43 := rfl
theorem h225_43 : code_ 225 43 = opIfLe 50 46 := rfl
theorem h225_46 : code_ 225 46 = opC (vI 1) 47 := rfl
theorem h225_47 : code_ 225 47 = opGoto 51 := rfl
theorem h225_50 : code_ 225 50 = opC (vI 0) 51 := rfl
theorem h225_51 : code_ 225 51 = opMask [0, 1, 2, 3, 4] (opZret) := rfl
theorem h226_0 : code_ 226 0 = opAld 0 1 := rfl
theorem h226_1 : code_ 226 1 = opAld 0 2 := rfl
theorem h226_2 : code_ 226 2 = opGR 8 0 1 113669 5 := rfl
theorem h226_5 : code_ 226 5 = opC (vI 1) 6 := rfl
theorem h226_6 : code_ 226 6 = opIal 7 := rfl
theorem h226_7 : code_ 226 7 = opAld 0 8 := rfl
theorem h226_8 : code_ 226 8 = opIld 1 9 := rfl
theorem h226_9 : code_ 226 9 = opK kI 166 2 8 12 := rfl
theorem h226_12 : code_ 226 12 = opK kI 161 1 99 15 := rfl
theorem h226_15 : code_ 226 15 = opAld 0 16 := rfl
theorem h226_16 : code_ 226 16 = opIld 2 17 := rfl
theorem h226_17 : code_ 226 17 = opK kI 166 2 8 20 := rfl
theorem h226_20 : code_ 226 20 = opK kI 161 1 99 23 := rfl
theorem h226_23 : code_ 226 23 = opK kI 225 4 8 26 := rfl
theorem h226_26 : code_ 226 26 = opZret := rfl
theorem h227_0 : code_ 227 0 = opAld 0 1 := rfl
theorem h227_1 : code_ 227 1 = opAld 0 2 := rfl
theorem h227_2 : code_ 227 2 = opGR 8 0 1 113669 5 := rfl
theorem h227_5 : code_ 227 5 = opC (vI 1) 6 := rfl
theorem h227_6 : code_ 227 6 = opIal 7 := rfl
theorem h227_7 : code_ 227 7 = opC (vI 1) 8 := rfl
theorem h227_8 : code_ 227 8 = opK kI 223 3 8 11 := rfl
theorem h227_11 : code_ 227 11 = opIst 1 12 := rfl
theorem h227_12 : code_ 227 12 = opIld 1 13 := rfl
theorem h227_13 : code_ 227 13 = opC (vI (-1)) 14 := rfl
theorem h227_14 : code_ 227 14 = opCpNe 19 17 := rfl
theorem h227_17 : code_ 227 17 = opC (vI 3) 18 := rfl
theorem h227_18 : code_ 227 18 = opIret := rfl
theorem h227_19 : code_ 227 19 = opAld 0 20 := rfl
theorem h227_20 : code_ 227 20 = opK kV 224 1 8 23 := rfl
theorem h227_23 : code_ 227 23 = opAld 0 24 := rfl
theorem h227_24 : code_ 227 24 = opGR 8 20 6 100006 27 := rfl
theorem h227_27 : code_ 227 27 = opC (vI 5) 28 := rfl
theorem h227_28 : code_ 227 28 = opAld 0 29 := rfl
theorem h227_29 : code_ 227 29 = opK kI 173 1 8 32 := rfl
theorem h227_32 : code_ 227 32 = opK kI 161 1 99 35 := rfl
theorem h227_35 : code_ 227 35 = opIas 36 := rfl
theorem h227_36 : code_ 227 36 = opAld 0 37 := rfl
theorem h227_37 : code_ 227 37 = opAld 0 38 := rfl
theorem h227_38 : code_ 227 38 = opGR 8 0 1 113669 41 := rfl
theorem h227_41 : code_ 227 41 = opC (vI 1) 42 := rfl
theorem h227_42 : code_ 227 42 = opIal 43 := rfl
theorem h227_43 : code_ 227 43 = opIld 1 44 := rfl
theorem h227_44 : code_ 227 44 = opK kL 222 3 8 47 := rfl
theorem h227_47 : code_ 227 47 = opC (vI 0) 48 := rfl
theorem h227_48 : code_ 227 48 = opC (vI 12) 50 := rfl
theorem h227_50 : code_ 227 50 = opK kI 159 3 99 53 := rfl
theorem h227_53 : code_ 227 53 = opIret := rfl
theorem h228_0 : code_ 228 0 = opAld 0 1 := rfl
theorem h228_1 : code_ 228 1 = opGR 8 0 1 113669 4 := rfl
theorem h228_4 : code_ 228 4 = opC (vI 10) 6 := rfl
theorem h228_6 : code_ 228 6 = opIal 7 := rfl
theorem h228_7 : code_ 228 7 = opC (vI 25) 9 := rfl
theorem h228_9 : code_ 228 9 = opCpNe 63 12 := rfl
theorem h228_12 : code_ 228 12 = opC (vI 1) 13 := rfl
theorem h228_13 : code_ 228 13 = opIst 4 15 := rfl
theorem h228_15 : code_ 228 15 = opIld 4 17 := rfl
theorem h228_17 : code_ 228 17 = opC (vI 25) 19 := rfl
theorem h228_19 : code_ 228 19 = opCpGe 52 22 := rfl
theorem h228_22 : code_ 228 22 = opAld 0 23 := rfl
theorem h228_23 : code_ 228 23 = opGR 8 0 1 113669 26 := rfl
theorem h228_26 : code_ 228 26 = opC (vI 419) 29 := rfl
theorem h228_29 : code_ 228 29 = opIld 4 31 := rfl
theorem h228_31 : code_ 228 31 = opB (fun x y => x + y) 32 := rfl
theorem h228_32 : code_ 228 32 = opC (vI 1) 33 := rfl
theorem h228_33 : code_ 228 33 = opB (fun x y => x - y) 34 := rfl
theorem h228_34 : code_ 228 34 = opAld 0 35 := rfl
theorem h228_35 : code_ 228 35 = opGR 8 0 1 113669 38 := rfl
theorem h228_38 : code_ 228 38 = opC (vI 419) 41 := rfl
theorem h228_41 : code_ 228 41 = opIld 4 43 := rfl
theorem h228_43 : code_ 228 43 = opB (fun x y => x + y) 44 := rfl
theorem h228_44 : code_ 228 44 = opIal 45 := rfl
theorem h228_45 : code_ 228 45 = opIas 46 := rfl
theorem h228_46 : code_ 228 46 = opInc 4 1 49 := rfl
theorem h228_49 : code_ 228 49 = opGoto 15 := rfl
theorem h228_52 : code_ 228 52 = opAld 0 53 := rfl
theorem h228_53 : code_ 228 53 = opGR 8 0 1 113669 56 := rfl
theorem h228_56 : code_ 228 56 = opC (vI 10) 58 := rfl
theorem h228_58 : code_ 228 58 = opDup2 59 := rfl
theorem h228_59 : code_ 228 59 = opIal 60 := rfl
theorem h228_60 : code_ 228 60 = opC (vI 1) 61 := rfl
theorem h228_61 : code_ 228 61 = opB (fun x y => x - y) 62 := rfl
theorem h228_62 : code_ 228 62 = opIas 63 := rfl
theorem h228_63 : code_ 228 63 = opMask [4] (opAld 0 64) := rfl
theorem h228_64 : code_ 228 64 = opGR 8 0 1 113669 67 := rfl
theorem h228_67 : code_ 228 67 = opC (vI 419) 70 := rfl
theorem h228_70 : code_ 228 70 = opAld 0 71 := rfl
theorem h228_71 : code_ 228 71 = opGR 8 0 1 113669 74 := rfl
theorem h228_74 : code_ 228 74 = opC (vI 10) 76 := rfl
theorem h228_76 : code_ 228 76 = opIal 77 := rfl
theorem h228_77 : code_ 228 77 = opB (fun x y => x + y) 78 := rfl
theorem h228_78 : code_ 228 78 = opAld 0 79 := rfl
theorem h228_79 : code_ 228 79 = opGR 8 0 1 113669 82 := rfl
theorem h228_82 : code_ 228 82 = opC (vI 4) 83 := rfl
theorem h228_83 : code_ 228 83 = opIal 84 := rfl
theorem h228_84 : code_ 228 84 = opC (vI 5) 85 := rfl
theorem h228_85 : code_ 228 85 = opB (fun x y => x * y) 86 := rfl
theorem h228_86 : code_ 228 86 = opIld 1 87 := rfl
theorem h228_87 : code_ 228 87 = opB (fun x y => x + y) 88 := rfl
theorem h228_88 : code_ 228 88 = opC (vI 12) 90 := rfl
theorem h228_90 : code_ 228 90 = opB (fun x y => x * y) 91 := rfl
theorem h228_91 : code_ 228 91 = opIld 2 92 := rfl
theorem h228_92 : code_ 228 92 = opB (fun x y => x + y) 93 := rfl
theorem h228_93 : code_ 228 93 = opC (vI 12) 95 := rfl
theorem h228_95 : code_ 228 95 = opB (fun x y => x * y) 96 := rfl
theorem h228_96 : code_ 228 96 = opIld 3 97 := rfl
theorem h228_97 : code_ 228 97 = opB (fun x y => x + y) 98 := rfl
theorem h228_98 : code_ 228 98 = opIas 99 := rfl
theorem h228_99 : code_ 228 99 = opAld 0 100 := rfl
theorem h228_100 : code_ 228 100 = opGR 8 0 1 113669 103 := rfl
theorem h228_103 : code_ 228 103 = opC (vI 10) 105 := rfl
theorem h228_105 : code_ 228 105 = opDup2 106 := rfl
theorem h228_106 : code_ 228 106 = opIal 107 := rfl
theorem h228_107 : code_ 228 107 = opC (vI 1) 108 := rfl
theorem h228_108 : code_ 228 108 = opB (fun x y => x + y) 109 := rfl
theorem h228_109 : code_ 228 109 = opIas 110 := rfl
theorem h228_110 : code_ 228 110 = opRet := rfl
theorem h229_0 : code_ 229 0 = opAld 0 1 := rfl
theorem h229_1 : code_ 229 1 = opGR 8 0 1 113669 4 := rfl
theorem h229_4 : code_ 229 4 = opC (vI 5) 5 := rfl
theorem h229_5 : code_ 229 5 = opIal 6 := rfl
theorem h229_6 : code_ 229 6 = opIld 1 7 := rfl
theorem h229_7 : code_ 229 7 = opBz remI 8 := rfl
theorem h229_8 : code_ 229 8 = opIst 2 9 := rfl
theorem h229_9 : code_ 229 9 = opAld 0 10 := rfl
theorem h229_10 : code_ 229 10 = opK kV 230 1 8 13 := rfl
theorem h229_13 : code_ 229 13 = opIld 2 14 := rfl
theorem h229_14 : code_ 229 14 = opIret := rfl
theorem h230_0 : code_ 230 0 = opAld 0 1 := rfl
theorem h230_1 : code_ 230 1 = opGR 8 0 1 113669 4 := rfl
theorem h230_4 : code_ 230 4 = opC (vI 5) 5 := rfl
theorem h230_5 : code_ 230 5 = opAld 0 6 := rfl
theorem h230_6 : code_ 230 6 = opGR 8 0 1 113669 9 := rfl
theorem h230_9 : code_ 230 9 = opC (vI 5) 10 := rfl
theorem h230_10 : code_ 230 10 = opIal 11 := rfl
theorem h230_11 : code_ 230 11 = opI2L 12 := rfl
theorem h230_12 : code_ 230 12 = opC (vL 769) 15 := rfl
theorem h230_15 : code_ 230 15 = opLB (fun x y => x * y) 16 := rfl
theorem h230_16 : code_ 230 16 = opC (vL 631) 19 := rfl
theorem h230_19 : code_ 230 19 = opLB (fun x y => x + y) 20 := rfl
theorem h230_20 : code_ 230 20 = opC (vL 31123) 23 := rfl
theorem h230_23 : code_ 230 23 = opLBz remL 24 := rfl
theorem h230_24 : code_ 230 24 = opL2I 25 := rfl
theorem h230_25 : code_ 230 25 = opIas 26 := rfl
theorem h230_26 : code_ 230 26 = opRet := rfl
theorem h231_0 : code_ 231 0 = opAld 0 1 := rfl
theorem h231_1 : code_ 231 1 = opGR 8 0 1 113669 4 := rfl
theorem h231_4 : code_ 231 4 = opC (vI 11) 6 := rfl
theorem h231_6 : code_ 231 6 = opIld 1 7 := rfl
theorem h231_7 : code_ 231 7 = opB (fun x y => x + y) 8 := rfl
theorem h231_8 : code_ 231 8 = opIal 9 := rfl
theorem h231_9 : code_ 231 9 = opC (vI (-1)) 10 := rfl
theorem h231_10 : code_ 231 10 = opCpEq 21 13 := rfl
theorem h231_13 : code_ 231 13 = opAld 0 14 := rfl
theorem h231_14 : code_ 231 14 = opIld 1 15 := rfl
theorem h231_15 : code_ 231 15 = opK kI 171 2 8 18 := rfl
theorem h231_18 : code_ 231 18 = opIfEq 23 21 := rfl
theorem h231_21 : code_ 231 21 = opMask [0, 1, 2, 3] (opC (vI (-1)) 22) := rfl
theorem h231_22 : code_ 231 22 = opIret := rfl
theorem h231_23 : code_ 231 23 = opAld 0 24 := rfl
theorem h231_24 : code_ 231 24 = opAld 0 25 := rfl
theorem h231_25 : code_ 231 25 = opGR 8 0 1 113669 28 := rfl
theorem h231_28 : code_ 231 28 = opC (vI 11) 30 := rfl
theorem h231_30 : code_ 231 30 = opIld 1 31 := rfl
theorem h231_31 : code_ 231 31 = opB (fun x y => x + y) 32 := rfl
theorem h231_32 : code_ 231 32 = opIal 33 := rfl
theorem h231_33 : code_ 231 33 = opK kI 166 2 8 36 := rfl
theorem h231_36 : code_ 231 36 = opAld 0 37 := rfl
theorem h231_37 : code_ 231 37 = opGR 8 0 1 113669 40 := rfl
theorem h231_40 : code_ 231 40 = opC (vI 11) 42 := rfl
theorem h231_42 : code_ 231 42 = opIld 1 43 := rfl
theorem h231_43 : code_ 231 43 = opB (fun x y => x + y) 44 := rfl
theorem h231_44 : code_ 231 44 = opIal 45 := rfl
theorem h231_45 : code_ 231 45 = opAld 0 46 := rfl
theorem h231_46 : code_ 231 46 = opGR 8 0 1 113669 49 := rfl
theorem h231_49 : code_ 231 49 = opC (vI 8) 51 := rfl
theorem h231_51 : code_ 231 51 = opIal 52 := rfl
theorem h231_52 : code_ 231 52 = opCpNe 69 55 := rfl
theorem h231_55 : code_ 231 55 = opAld 0 56 := rfl
theorem h231_56 : code_ 231 56 = opAld 0 57 := rfl
theorem h231_57 : code_ 231 57 = opGR 8 0 1 113669 60 := rfl
theorem h231_60 : code_ 231 60 = opC (vI 7) 62 := rfl
theorem h231_62 : code_ 231 62 = opIal 63 := rfl
theorem h231_63 : code_ 231 63 = opK kI 166 2 8 66 := rfl
theorem h231_66 : code_ 231 66 = opGoto 70 := rfl
theorem h231_69 : code_ 231 69 = opC (vI 0) 70 := rfl
theorem h231_70 : code_ 231 70 = opMask [2, 3] (opB (fun x y => x ||| y) 71) := rfl
theorem h231_71 : code_ 231 71 = opIst 2 72 := rfl
theorem h231_72 : code_ 231 72 = opC (vI 0) 73 := rfl
theorem h231_73 : code_ 231 73 = opIst 3 74 := rfl
theorem h231_74 : code_ 231 74 = opIld 3 75 := rfl
theorem h231_75 : code_ 231 75 = opC (vI 16) 77 := rfl
theorem h231_77 : code_ 231 77 = opCpGe 122 80 := rfl
theorem h231_80 : code_ 231 80 = opIld 2 81 := rfl
theorem h231_81 : code_ 231 81 = opAld 0 82 := rfl
theorem h231_82 : code_ 231 82 = opGR 8 0 1 113669 85 := rfl
theorem h231_85 : code_ 231 85 = opC (vI 35) 87 := rfl
theorem h231_87 : code_ 231 87 = opC (vI 16) 89 := rfl
theorem h231_89 : code_ 231 89 = opIld 1 90 := rfl
theorem h231_90 : code_ 231 90 = opB (fun x y => x * y) 91 := rfl
theorem h231_91 : code_ 231 91 = opB (fun x y => x + y) 92 := rfl
theorem h231_92 : code_ 231 92 = opIld 3 93 := rfl
theorem h231_93 : code_ 231 93 = opB (fun x y => x + y) 94 := rfl
theorem h231_94 : code_ 231 94 = opIal 95 := rfl
theorem h231_95 : code_ 231 95 = opK kI 160 2 99 98 := rfl
theorem h231_98 : code_ 231 98 = opIfNe 116 101 := rfl
theorem h231_101 : code_ 231 101 = opAld 0 102 := rfl
theorem h231_102 : code_ 231 102 = opGR 8 0 1 113669 105 := rfl
theorem h231_105 : code_ 231 105 = opC (vI 35) 107 := rfl
theorem h231_107 : code_ 231 107 = opC (vI 16) 109 := rfl
theorem h231_109 : code_ 231 109 = opIld 1 110 := rfl
theorem h231_110 : code_ 231 110 = opB (fun x y => x * y) 111 := rfl
theorem h231_111 : code_ 231 111 = opB (fun x y => x + y) 112 := rfl
theorem h231_112 : code_ 231 112 = opIld 3 113 := rfl
theorem h231_113 : code_ 231 113 = opB (fun x y => x + y) 114 := rfl
theorem h231_114 : code_ 231 114 = opIal 115 := rfl
theorem h231_115 : code_ 231 115 = opIret := rfl
theorem h231_116 : code_ 231 116 = opInc 3 1 119 := rfl
theorem h231_119 : code_ 231 119 = opGoto 74 := rfl
theorem h231_122 : code_ 231 122 = opC (vI (-1)) 123 := rfl
theorem h231_123 : code_ 231 123 = opIret := rfl
theorem h232_0 : code_ 232 0 = opC (vI 0) 1 := rfl
theorem h232_1 : code_ 232 1 = opIst 1 2 := rfl
theorem h232_2 : code_ 232 2 = opIld 1 3 := rfl
theorem h232_3 : code_ 232 3 = opC (vI 12) 5 := rfl
theorem h232_5 : code_ 232 5 = opCpGe 27 8 := rfl
theorem h232_8 : code_ 232 8 = opAld 0 9 := rfl
theorem h232_9 : code_ 232 9 = opGR 8 0 1 113669 12 := rfl
theorem h232_12 : code_ 232 12 = opC (vI 11) 14 := rfl
theorem h232_14 : code_ 232 14 = opIld 1 15 := rfl
theorem h232_15 : code_ 232 15 = opB (fun x y => x + y) 16 := rfl
theorem h232_16 : code_ 232 16 = opIal 17 := rfl
theorem h232_17 : code_ 232 17 = opC (vI (-1)) 18 := rfl
theorem h232_18 : code_ 232 18 = opCpEq 27 21 := rfl
theorem h232_21 : code_ 232 21 = opInc 1 1 24 := rfl
theorem h232_24 : code_ 232 24 = opGoto 2 := rfl
theorem h232_27 : code_ 232 27 = opMask [0] (opIld 1 28) := rfl
theorem h232_28 : code_ 232 28 = opC (vI 12) 30 := rfl
theorem h232_30 : code_ 232 30 = opCpNe 37 33 := rfl
theorem h232_33 : code_ 232 33 = opC (vI (-1)) 34 := rfl
theorem h232_34 : code_ 232 34 = opGoto 38 := rfl
theorem h232_37 : code_ 232 37 = opIld 1 38 := rfl
theorem h232_38 : code_ 232 38 = opMask [0, 1] (opIret) := rfl
theorem h233_0 : code_ 233 0 = opC (vI 0) 1 := rfl
theorem h233_1 : code_ 233 1 = opIst 1 2 := rfl
theorem h233_2 : code_ 233 2 = opIld 1 3 := rfl
theorem h233_3 : code_ 233 3 = opC (vI 12) 5 := rfl
theorem h233_5 : code_ 233 5 = opCpGe 22 8 := rfl
theorem h233_8 : code_ 233 8 = opAld 0 9 := rfl
theorem h233_9 : code_ 233 9 = opIld 1 10 := rfl
theorem h233_10 : code_ 233 10 = opK kI 167 2 8 13 := rfl
theorem h233_13 : code_ 233 13 = opIfEq 22 16 := rfl
theorem h233_16 : code_ 233 16 = opInc 1 1 19 := rfl
theorem h233_19 : code_ 233 19 = opGoto 2 := rfl
theorem h233_22 : code_ 233 22 = opMask [0] (opIld 1 23) := rfl
theorem h233_23 : code_ 233 23 = opC (vI 12) 25 := rfl
theorem h233_25 : code_ 233 25 = opCpNe 32 28 := rfl
theorem h233_28 : code_ 233 28 = opC (vI (-1)) 29 := rfl
theorem h233_29 : code_ 233 29 = opGoto 33 := rfl
theorem h233_32 : code_ 233 32 = opIld 1 33 := rfl
theorem h233_33 : code_ 233 33 = opMask [0, 1] (opIret) := rfl
theorem h234_0 : code_ 234 0 = opC (vI 0) 1 := rfl
theorem h234_1 : code_ 234 1 = opIst 1 2 := rfl
theorem h234_2 : code_ 234 2 = opIld 1 3 := rfl
theorem h234_3 : code_ 234 3 = opC (vI 12) 5 := rfl
theorem h234_5 : code_ 234 5 = opCpGe 25 8 := rfl
theorem h234_8 : code_ 234 8 = opAld 0 9 := rfl
theorem h234_9 : code_ 234 9 = opIld 1 10 := rfl
theorem h234_10 : code_ 234 10 = opK kI 231 2 8 13 := rfl
theorem h234_13 : code_ 234 13 = opC (vI (-1)) 14 := rfl
theorem h234_14 : code_ 234 14 = opCpEq 19 17 := rfl
theorem h234_17 : code_ 234 17 = opIld 1 18 := rfl
theorem h234_18 : code_ 234 18 = opIret := rfl
theorem h234_19 : code_ 234 19 = opInc 1 1 22 := rfl
theorem h234_22 : code_ 234 22 = opGoto 2 := rfl
theorem h234_25 : code_ 234 25 = opC (vI (-1)) 26 := rfl
theorem h234_26 : code_ 234 26 = opIret := rfl
theorem h235_0 : code_ 235 0 = opAld 0 1 := rfl
theorem h235_1 : code_ 235 1 = opK kI 234 1 8 4 := rfl
theorem h235_4 : code_ 235 4 = opC (vI (-1)) 5 := rfl
theorem h235_5 : code_ 235 5 = opCpNe 24 8 := rfl
theorem h235_8 : code_ 235 8 = opAld 0 9 := rfl
theorem h235_9 : code_ 235 9 = opK kI 232 1 8 12 := rfl
theorem h235_12 : code_ 235 12 = opC (vI (-1)) 13 := rfl
theorem h235_13 : code_ 235 13 = opCpEq 28 16 := rfl
theorem h235_16 : code_ 235 16 = opAld 0 17 := rfl
theorem h235_17 : code_ 235 17 = opK kI 233 1 8 20 := rfl
theorem h235_20 : code_ 235 20 = opC (vI (-1)) 21 := rfl
theorem h235_21 : code_ 235 21 = opCpEq 28 24 := rfl
theorem h235_24 : code_ 235 24 = opMask [0] (opC (vI 1) 25) := rfl
theorem h235_25 : code_ 235 25 = opGoto 29 := rfl
theorem h235_28 : code_ 235 28 = opMask [0] (opC (vI 0) 29) := rfl
theorem h235_29 : code_ 235 29 = opMask [0] (opZret) := rfl
theorem h236_0 : code_ 236 0 = opAld 0 1 := rfl
theorem h236_1 : code_ 236 1 = opGR 8 0 1 113669 4 := rfl
theorem h236_4 : code_ 236 4 = opC (vI 11) 6 := rfl
theorem h236_6 : code_ 236 6 = opIld 1 7 := rfl
theorem h236_7 : code_ 236 7 = opB (fun x y => x + y) 8 := rfl
theorem h236_8 : code_ 236 8 = opIld 2 9 := rfl
theorem h236_9 : code_ 236 9 = opIas 10 := rfl
theorem h236_10 : code_ 236 10 = opAld 0 11 := rfl
theorem h236_11 : code_ 236 11 = opGR 8 0 1 113669 14 := rfl
theorem h236_14 : code_ 236 14 = opC (vI 23) 16 := rfl
theorem h236_16 : code_ 236 16 = opIld 1 17 := rfl
theorem h236_17 : code_ 236 17 = opB (fun x y => x + y) 18 := rfl
theorem h236_18 : code_ 236 18 = opC (vI 0) 19 := rfl
theorem h236_19 : code_ 236 19 = opIas 20 := rfl
theorem h236_20 : code_ 236 20 = opC (vI 35) 22 := rfl
theorem h236_22 : code_ 236 22 = opC (vI 16) 24 := rfl
theorem h236_24 : code_ 236 24 = opIld 1 25 := rfl
theorem h236_25 : code_ 236 25 = opB (fun x y => x * y) 26 := rfl
theorem h236_26 : code_ 236 26 = opB (fun x y => x + y) 27 := rfl
theorem h236_27 : code_ 236 27 = opIst 3 28 := rfl
theorem h236_28 : code_ 236 28 = opC (vI 0) 29 := rfl
theorem h236_29 : code_ 236 29 = opIst 4 31 := rfl
theorem h236_31 : code_ 236 31 = opMask [5, 6] (opIld 4 33) := rfl
theorem h236_33 : code_ 236 33 = opC (vI 16) 35 := rfl
theorem h236_35 : code_ 236 35 = opCpGe 55 38 := rfl
theorem h236_38 : code_ 236 38 = opAld 0 39 := rfl
theorem h236_39 : code_ 236 39 = opGR 8 0 1 113669 42 := rfl
theorem h236_42 : code_ 236 42 = opIld 3 43 := rfl
theorem h236_43 : code_ 236 43 = opIld 4 45 := rfl
theorem h236_45 : code_ 236 45 = opB (fun x y => x + y) 46 := rfl
theorem h236_46 : code_ 236 46 = opIld 4 48 := rfl
theorem h236_48 : code_ 236 48 = opIas 49 := rfl
theorem h236_49 : code_ 236 49 = opInc 4 1 52 := rfl
theorem h236_52 : code_ 236 52 = opGoto 31 := rfl
theorem h236_55 : code_ 236 55 = opC (vI 15) 57 := rfl
theorem h236_57 : code_ 236 57 = opIst 4 59 := rfl
theorem h236_59 : code_ 236 59 = opMask [5, 6] (opIld 4 61) := rfl
theorem h236_61 : code_ 236 61 = opIfLe 120 64 := rfl
theorem h236_64 : code_ 236 64 = opAld 0 65 := rfl
theorem h236_65 : code_ 236 65 = opIld 4 67 := rfl
theorem h236_67 : code_ 236 67 = opC (vI 1) 68 := rfl
theorem h236_68 : code_ 236 68 = opB (fun x y => x + y) 69 := rfl
theorem h236_69 : code_ 236 69 = opK kI 229 2 8 72 := rfl
theorem h236_72 : code_ 236 72 = opIst 5 74 := rfl
theorem h236_74 : code_ 236 74 = opAld 0 75 := rfl
theorem h236_75 : code_ 236 75 = opGR 8 0 1 113669 78 := rfl
theorem h236_78 : code_ 236 78 = opIld 3 79 := rfl
theorem h236_79 : code_ 236 79 = opIld 4 81 := rfl
theorem h236_81 : code_ 236 81 = opB (fun x y => x + y) 82 := rfl
theorem h236_82 : code_ 236 82 = opIal 83 := rfl
theorem h236_83 : code_ 236 83 = opIst 6 85 := rfl
theorem h236_85 : code_ 236 85 = opAld 0 86 := rfl
theorem h236_86 : code_ 236 86 = opGR 8 0 1 113669 89 := rfl
theorem h236_89 : code_ 236 89 = opIld 3 90 := rfl
theorem h236_90 : code_ 236 90 = opIld 4 92 := rfl
theorem h236_92 : code_ 236 92 = opB (fun x y => x + y) 93 := rfl
theorem h236_93 : code_ 236 93 = opAld 0 94 := rfl
theorem h236_94 : code_ 236 94 = opGR 8 0 1 113669 97 := rfl
theorem h236_97 : code_ 236 97 = opIld 3 98 := rfl
theorem h236_98 : code_ 236 98 = opIld 5 100 := rfl
theorem h236_100 : code_ 236 100 = opB (fun x y => x + y) 101 := rfl
theorem h236_101 : code_ 236 101 = opIal 102 := rfl
theorem h236_102 : code_ 236 102 = opIas 103 := rfl
theorem h236_103 : code_ 236 103 = opAld 0 104 := rfl
theorem h236_104 : code_ 236 104 = opGR 8 0 1 113669 107 := rfl
theorem h236_107 : code_ 236 107 = opIld 3 108 := rfl
theorem h236_108 : code_ 236 108 = opIld 5 110 := rfl
theorem h236_110 : code_ 236 110 = opB (fun x y => x + y) 111 := rfl
theorem h236_111 : code_ 236 111 = opIld 6 113 := rfl
theorem h236_113 : code_ 236 113 = opIas 114 := rfl
theorem h236_114 : code_ 236 114 = opInc 4 (-1) 117 := rfl
theorem h236_117 : code_ 236 117 = opGoto 59 := rfl
theorem h236_120 : code_ 236 120 = opAld 0 121 := rfl
theorem h236_121 : code_ 236 121 = opC (vI 0) 122 := rfl
theorem h236_122 : code_ 236 122 = opIld 1 123 := rfl
theorem h236_123 : code_ 236 123 = opIld 2 124 := rfl
theorem h236_124 : code_ 236 124 = opK kV 228 4 8 127 := rfl
theorem h236_127 : code_ 236 127 = opRet := rfl
theorem h237_0 : code_ 237 0 = opAld 0 1 := rfl
theorem h237_1 : code_ 237 1 = opK kI 234 1 8 4 := rfl
theorem h237_4 : code_ 237 4 = opIst 2 5 := rfl
theorem h237_5 : code_ 237 5 = opIld 2 6 := rfl
theorem h237_6 : code_ 237 6 = opC (vI (-1)) 7 := rfl
theorem h237_7 : code_ 237 7 = opCpNe 24 10 := rfl
theorem h237_10 : code_ 237 10 = opAld 0 11 := rfl
theorem h237_11 : code_ 237 11 = opK kI 232 1 8 14 := rfl
theorem h237_14 : code_ 237 14 = opIst 2 15 := rfl
theorem h237_15 : code_ 237 15 = opAld 0 16 := rfl
theorem h237_16 : code_ 237 16 = opIld 2 17 := rfl
theorem h237_17 : code_ 237 17 = opAld 0 18 := rfl
theorem h237_18 : code_ 237 18 = opK kI 233 1 8 21 := rfl
theorem h237_21 : code_ 237 21 = opK kV 236 3 8 24 := rfl
theorem h237_24 : code_ 237 24 = opMask [3] (opAld 0 25) := rfl
theorem h237_25 : code_ 237 25 = opIld 2 26 := rfl
theorem h237_26 : code_ 237 26 = opK kI 231 2 8 29 := rfl
theorem h237_29 : code_ 237 29 = opIst 3 30 := rfl
theorem h237_30 : code_ 237 30 = opAld 0 31 := rfl
theorem h237_31 : code_ 237 31 = opGR 8 0 1 113669 34 := rfl
theorem h237_34 : code_ 237 34 = opC (vI 23) 36 := rfl
theorem h237_36 : code_ 237 36 = opIld 2 37 := rfl
theorem h237_37 : code_ 237 37 = opB (fun x y => x + y) 38 := rfl
theorem h237_38 : code_ 237 38 = opDup2 39 := rfl
theorem h237_39 : code_ 237 39 = opIal 40 := rfl
theorem h237_40 : code_ 237 40 = opC (vI 1) 41 := rfl
theorem h237_41 : code_ 237 41 = opIld 3 42 := rfl
theorem h237_42 : code_ 237 42 = opB shlI 43 := rfl
theorem h237_43 : code_ 237 43 = opB (fun x y => x ||| y) 44 := rfl
theorem h237_44 : code_ 237 44 = opIas 45 := rfl
theorem h237_45 : code_ 237 45 = opAld 0 46 := rfl
theorem h237_46 : code_ 237 46 = opGR 8 0 1 113669 49 := rfl
theorem h237_49 : code_ 237 49 = opC (vI 227) 52 := rfl
theorem h237_52 : code_ 237 52 = opC (vI 16) 54 := rfl
theorem h237_54 : code_ 237 54 = opAld 0 55 := rfl
theorem h237_55 : code_ 237 55 = opGR 8 0 1 113669 58 := rfl
theorem h237_58 : code_ 237 58 = opC (vI 11) 60 := rfl
theorem h237_60 : code_ 237 60 = opIld 2 61 := rfl
theorem h237_61 : code_ 237 61 = opB (fun x y => x + y) 62 := rfl
theorem h237_62 : code_ 237 62 = opIal 63 := rfl
theorem h237_63 : code_ 237 63 = opB (fun x y => x * y) 64 := rfl
theorem h237_64 : code_ 237 64 = opB (fun x y => x + y) 65 := rfl
theorem h237_65 : code_ 237 65 = opIld 3 66 := rfl
theorem h237_66 : code_ 237 66 = opB (fun x y => x + y) 67 := rfl
theorem h237_67 : code_ 237 67 = opIld 1 68 := rfl
theorem h237_68 : code_ 237 68 = opIas 69 := rfl
theorem h237_69 : code_ 237 69 = opC (vI 16) 71 := rfl
theorem h237_71 : code_ 237 71 = opIld 2 72 := rfl
theorem h237_72 : code_ 237 72 = opB (fun x y => x * y) 73 := rfl
theorem h237_73 : code_ 237 73 = opIld 3 74 := rfl
theorem h237_74 : code_ 237 74 = opB (fun x y => x + y) 75 := rfl
theorem h237_75 : code_ 237 75 = opIret := rfl
theorem h238_0 : code_ 238 0 = opAld 0 1 := rfl
theorem h238_1 : code_ 238 1 = opIld 1 2 := rfl
theorem h238_2 : code_ 238 2 = opK kI 174 2 8 5 := rfl
theorem h238_5 : code_ 238 5 = opIfEq 23 8 := rfl
theorem h238_8 : code_ 238 8 = opAld 0 9 := rfl
theorem h238_9 : code_ 238 9 = opIld 1 10 := rfl
theorem h238_10 : code_ 238 10 = opC (vI 16) 12 := rfl
theorem h238_12 : code_ 238 12 = opBz (fun x y => x / y) 13 := rfl
theorem h238_13 : code_ 238 13 = opK kI 171 2 8 16 := rfl
theorem h238_16 : code_ 238 16 = opIfNe 23 19 := rfl
theorem h238_19 : code_ 238 19 = opC (vI 1) 20 := rfl
theorem h238_20 : code_ 238 20 = opGoto 24 := rfl
theorem h238_23 : code_ 238 23 = opMask [0, 1] (opC (vI 0) 24) := rfl
theorem h238_24 : code_ 238 24 = opMask [0, 1] (opZret) := rfl
theorem h239_0 : code_ 239 0 = opIld 1 1 := rfl
theorem h239_1 : code_ 239 1 = opC (vI 16) 3 := rfl
theorem h239_3 : code_ 239 3 = opBz (fun x y => x / y) 4 := rfl
theorem h239_4 : code_ 239 4 = opIst 2 5 := rfl
theorem h239_5 : code_ 239 5 = opAld 0 6 := rfl
theorem h239_6 : code_ 239 6 = opGR 8 0 1 113669 9 := rfl
theorem h239_9 : code_ 239 9 = opC (vI 11) 11 := rfl
theorem h239_11 : code_ 239 11 = opIld 2 12 := rfl
theorem h239_12 : code_ 239 12 = opB (fun x y => x + y) 13 := rfl
theorem h239_13 : code_ 239 13 = opIal 14 := rfl
theorem h239_14 : code_ 239 14 = opIst 3 15 := rfl
theorem h239_15 : code_ 239 15 = opAld 0 16 := rfl
theorem h239_16 : code_ 239 16 = opIld 3 17 := rfl
theorem h239_17 : code_ 239 17 = opIld 1 18 := rfl
theorem h239_18 : code_ 239 18 = opC (vI 16) 20 := rfl
theorem h239_20 : code_ 239 20 = opBz remI 21 := rfl
theorem h239_21 : code_ 239 21 = opK kI 175 3 8 24 := rfl
theorem h239_24 : code_ 239 24 = opIst 4 26 := rfl
theorem h239_26 : code_ 239 26 = opAld 0 27 := rfl
theorem h239_27 : code_ 239 27 = opGR 8 0 1 113669 30 := rfl
theorem h239_30 : code_ 239 30 = opC (vI 23) 32 := rfl
theorem h239_32 : code_ 239 32 = opIld 2 33 := rfl
theorem h239_33 : code_ 239 33 = opB (fun x y => x + y) 34 := rfl
theorem h239_34 : code_ 239 34 = opDup2 35 := rfl
theorem h239_35 : code_ 239 35 = opIal 36 := rfl
theorem h239_36 : code_ 239 36 = opC (vI 1) 37 := rfl
theorem h239_37 : code_ 239 37 = opIld 1 38 := rfl
theorem h239_38 : code_ 239 38 = opC (vI 16) 40 := rfl
theorem h239_40 : code_ 239 40 = opBz remI 41 := rfl
theorem h239_41 : code_ 239 41 = opB shlI 42 := rfl
theorem h239_42 : code_ 239 42 = opC (vI (-1)) 43 := rfl
theorem h239_43 : code_ 239 43 = opB (fun x y => x ^^^ y) 44 := rfl
theorem h239_44 : code_ 239 44 = opB (fun x y => x &&& y) 45 := rfl
theorem h239_45 : code_ 239 45 = opIas 46 := rfl
theorem h239_46 : code_ 239 46 = opAld 0 47 := rfl
theorem h239_47 : code_ 239 47 = opGR 8 0 1 113669 50 := rfl
theorem h239_50 : code_ 239 50 = opC (vI 23) 52 := rfl
theorem h239_52 : code_ 239 52 = opIld 2 53 := rfl
theorem h239_53 : code_ 239 53 = opB (fun x y => x + y) 54 := rfl
theorem h239_54 : code_ 239 54 = opIal 55 := rfl
theorem h239_55 : code_ 239 55 = opIfNe 107 58 := rfl
theorem h239_58 : code_ 239 58 = opAld 0 59 := rfl
theorem h239_59 : code_ 239 59 = opC (vI 1) 60 := rfl
theorem h239_60 : code_ 239 60 = opIld 2 61 := rfl
theorem h239_61 : code_ 239 61 = opIld 3 62 := rfl
theorem h239_62 : code_ 239 62 = opK kV 228 4 8 65 := rfl
theorem h239_65 : code_ 239 65 = opAld 0 66 := rfl
theorem h239_66 : code_ 239 66 = opGR 8 0 1 113669 69 := rfl
theorem h239_69 : code_ 239 69 = opC (vI 11) 71 := rfl
theorem h239_71 : code_ 239 71 = opIld 2 72 := rfl
theorem h239_72 : code_ 239 72 = opB (fun x y => x + y) 73 := rfl
theorem h239_73 : code_ 239 73 = opC (vI (-1)) 74 := rfl
theorem h239_74 : code_ 239 74 = opIas 75 := rfl
theorem h239_75 : code_ 239 75 = opC (vI 0) 76 := rfl
theorem h239_76 : code_ 239 76 = opIst 5 78 := rfl
theorem h239_78 : code_ 239 78 = opMask [1, 3] (opIld 5 80) := rfl
theorem h239_80 : code_ 239 80 = opC (vI 16) 82 := rfl
theorem h239_82 : code_ 239 82 = opCpGe 107 85 := rfl
theorem h239_85 : code_ 239 85 = opAld 0 86 := rfl
theorem h239_86 : code_ 239 86 = opGR 8 0 1 113669 89 := rfl
theorem h239_89 : code_ 239 89 = opC (vI 35) 91 := rfl
theorem h239_91 : code_ 239 91 = opC (vI 16) 93 := rfl
theorem h239_93 : code_ 239 93 = opIld 2 94 := rfl
theorem h239_94 : code_ 239 94 = opB (fun x y => x * y) 95 := rfl
theorem h239_95 : code_ 239 95 = opB (fun x y => x + y) 96 := rfl
theorem h239_96 : code_ 239 96 = opIld 5 98 := rfl
theorem h239_98 : code_ 239 98 = opB (fun x y => x + y) 99 := rfl
theorem h239_99 : code_ 239 99 = opC (vI 0) 100 := rfl
theorem h239_100 : code_ 239 100 = opIas 101 := rfl
theorem h239_101 : code_ 239 101 = opInc 5 1 104 := rfl
theorem h239_104 : code_ 239 104 = opGoto 78 := rfl
theorem h239_107 : code_ 239 107 = opMask [0, 1, 2, 3, 5] (opIld 4 109) := rfl
theorem h239_109 : code_ 239 109 = opIret := rfl
theorem h240_0 : code_ 240 0 = opAld 0 1 := rfl
theorem h240_1 : code_ 240 1 = opIld 1 2 := rfl
theorem h240_2 : code_ 240 2 = opIld 2 3 := rfl
theorem h240_3 : code_ 240 3 = opK kI 164 3 8 6 := rfl
theorem h240_6 : code_ 240 6 = opIfNe 11 9 := rfl
theorem h240_9 : code_ 240 9 = opC (vI 1) 10 := rfl
theorem h240_10 : code_ 240 10 = opIret := rfl
theorem h240_11 : code_ 240 11 = opAld 0 12 := rfl
theorem h240_12 : code_ 240 12 = opGR 8 0 1 113669 15 := rfl
theorem h240_15 : code_ 240 15 = opC (vI 11) 17 := rfl
theorem h240_17 : code_ 240 17 = opIld 1 18 := rfl
theorem h240_18 : code_ 240 18 = opB (fun x y => x + y) 19 := rfl
theorem h240_19 : code_ 240 19 = opIal 20 := rfl
theorem h240_20 : code_ 240 20 = opIst 3 21 := rfl
theorem h240_21 : code_ 240 21 = opAld 0 22 := rfl
theorem h240_22 : code_ 240 22 = opGR 8 0 1 113669 25 := rfl
theorem h240_25 : code_ 240 25 = opC (vI 11) 27 := rfl
theorem h240_27 : code_ 240 27 = opIld 2 28 := rfl
theorem h240_28 : code_ 240 28 = opB (fun x y => x + y) 29 := rfl
theorem h240_29 : code_ 240 29 = opIal 30 := rfl
theorem h240_30 : code_ 240 30 = opIst 4 32 := rfl
theorem h240_32 : code_ 240 32 = opIld 3 33 := rfl
theorem h240_33 : code_ 240 33 = opIld 4 35 := rfl
theorem h240_35 : code_ 240 35 = opCpNe 40 38 := rfl
theorem h240_38 : code_ 240 38 = opC (vI 2) 39 := rfl
theorem h240_39 : code_ 240 39 = opIret := rfl
theorem h240_40 : code_ 240 40 = opAld 0 41 := rfl
theorem h240_41 : code_ 240 41 = opIld 3 42 := rfl
theorem h240_42 : code_ 240 42 = opK kI 172 2 8 45 := rfl
theorem h240_45 : code_ 240 45 = opIfNe 57 48 := rfl
theorem h240_48 : code_ 240 48 = opAld 0 49 := rfl
theorem h240_49 : code_ 240 49 = opIld 4 51 := rfl
theorem h240_51 : code_ 240 51 = opK kI 172 2 8 54 := rfl
theorem h240_54 : code_ 240 54 = opIfEq 59 57 := rfl
theorem h240_57 : code_ 240 57 = opMask [0, 1, 2, 3, 4] (opC (vI 3) 58) := rfl
theorem h240_58 : code_ 240 58 = opIret := rfl
theorem h240_59 : code_ 240 59 = opAld 0 60 := rfl
theorem h240_60 : code_ 240 60 = opIld 3 61 := rfl
theorem h240_61 : code_ 240 61 = opK kI 166 2 8 64 := rfl
theorem h240_64 : code_ 240 64 = opAld 0 65 := rfl
theorem h240_65 : code_ 240 65 = opIld 4 67 := rfl
theorem h240_67 : code_ 240 67 = opK kI 166 2 8 70 := rfl
theorem h240_70 : code_ 240 70 = opB (fun x y => x &&& y) 71 := rfl
theorem h240_71 : code_ 240 71 = opIfEq 76 74 := rfl
theorem h240_74 : code_ 240 74 = opC (vI 4) 75 := rfl
theorem h240_75 : code_ 240 75 = opIret := rfl
theorem h240_76 : code_ 240 76 = opAld 0 77 := rfl
theorem h240_77 : code_ 240 77 = opIld 3 78 := rfl
theorem h240_78 : code_ 240 78 = opIld 4 80 := rfl
theorem h240_80 : code_ 240 80 = opK kI 226 3 8 83 := rfl
theorem h240_83 : code_ 240 83 = opIfEq 90 86 := rfl
theorem h240_86 : code_ 240 86 = opC (vI 0) 87 := rfl
theorem h240_87 : code_ 240 87 = opGoto 91 := rfl
theorem h240_90 : code_ 240 90 = opC (vI 5) 91 := rfl
theorem h240_91 : code_ 240 91 = opMask [0, 1, 2, 3, 4] (opIret) := rfl
theorem h241_0 : code_ 241 0 = opAld 0 1 := rfl
theorem h241_1 : code_ 241 1 = opIld 2 2 := rfl
theorem h241_2 : code_ 241 2 = opK kI 166 2 8 5 := rfl
theorem h241_5 : code_ 241 5 = opK kI 161 1 99 8 := rfl
theorem h241_8 : code_ 241 8 = opAld 0 9 := rfl
theorem h241_9 : code_ 241 9 = opIld 1 10 := rfl
theorem h241_10 : code_ 241 10 = opK kI 166 2 8 13 := rfl
theorem h241_13 : code_ 241 13 = opK kI 161 1 99 16 := rfl
theorem h241_16 : code_ 241 16 = opCpGt 23 19 := rfl
theorem h241_19 : code_ 241 19 = opIld 1 20 := rfl
theorem h241_20 : code_ 241 20 = opGoto 24 := rfl
theorem h241_23 : code_ 241 23 = opIld 2 24 := rfl
theorem h241_24 : code_ 241 24 = opMask [0, 1, 2] (opIret) := rfl
theorem h242_0 : code_ 242 0 = opC (vI 0) 1 := rfl
theorem h242_1 : code_ 242 1 = opIst 4 3 := rfl
theorem h242_3 : code_ 242 3 = opIld 4 5 := rfl
theorem h242_5 : code_ 242 5 = opC (vI 16) 7 := rfl
theorem h242_7 : code_ 242 7 = opCpGe 48 10 := rfl
theorem h242_10 : code_ 242 10 = opIld 3 11 := rfl
theorem h242_11 : code_ 242 11 = opIld 4 13 := rfl
theorem h242_13 : code_ 242 13 = opK kI 160 2 99 16 := rfl
theorem h242_16 : code_ 242 16 = opIfEq 42 19 := rfl
theorem h242_19 : code_ 242 19 = opAld 0 20 := rfl
theorem h242_20 : code_ 242 20 = opGR 8 0 1 113669 23 := rfl
theorem h242_23 : code_ 242 23 = opC (vI 227) 26 := rfl
theorem h242_26 : code_ 242 26 = opC (vI 16) 28 := rfl
theorem h242_28 : code_ 242 28 = opIld 2 29 := rfl
theorem h242_29 : code_ 242 29 = opB (fun x y => x * y) 30 := rfl
theorem h242_30 : code_ 242 30 = opB (fun x y => x + y) 31 := rfl
theorem h242_31 : code_ 242 31 = opIld 4 33 := rfl
theorem h242_33 : code_ 242 33 = opB (fun x y => x + y) 34 := rfl
theorem h242_34 : code_ 242 34 = opAld 0 35 := rfl
theorem h242_35 : code_ 242 35 = opIld 1 36 := rfl
theorem h242_36 : code_ 242 36 = opIld 4 38 := rfl
theorem h242_38 : code_ 242 38 = opK kI 175 3 8 41 := rfl
theorem h242_41 : code_ 242 41 = opIas 42 := rfl
theorem h242_42 : code_ 242 42 = opInc 4 1 45 := rfl
theorem h242_45 : code_ 242 45 = opGoto 3 := rfl
theorem h242_48 : code_ 242 48 = opRet := rfl
theorem h243_0 : code_ 243 0 = opC (vI 0) 1 := rfl
theorem h243_1 : code_ 243 1 = opIst 3 2 := rfl
theorem h243_2 : code_ 243 2 = opIld 3 3 := rfl
theorem h243_3 : code_ 243 3 = opC (vI 12) 5 := rfl
theorem h243_5 : code_ 243 5 = opCpGe 37 8 := rfl
theorem h243_8 : code_ 243 8 = opAld 0 9 := rfl
theorem h243_9 : code_ 243 9 = opGR 8 0 1 113669 12 := rfl
theorem h243_12 : code_ 243 12 = opC (vI 11) 14 := rfl
theorem h243_14 : code_ 243 14 = opIld 3 15 := rfl
theorem h243_15 : code_ 243 15 = opB (fun x y => x + y) 16 := rfl
theorem h243_16 : code_ 243 16 = opIal 17 := rfl
theorem h243_17 : code_ 243 17 = opIld 1 18 := rfl
theorem h243_18 : code_ 243 18 = opCpNe 31 21 := rfl
theorem h243_21 : code_ 243 21 = opAld 0 22 := rfl
theorem h243_22 : code_ 243 22 = opGR 8 0 1 113669 25 := rfl
theorem h243_25 : code_ 243 25 = opC (vI 11) 27 := rfl
theorem h243_27 : code_ 243 27 = opIld 3 28 := rfl
theorem h243_28 : code_ 243 28 = opB (fun x y => x + y) 29 := rfl
theorem h243_29 : code_ 243 29 = opIld 2 30 := rfl
theorem h243_30 : code_ 243 30 = opIas 31 := rfl
theorem h243_31 : code_ 243 31 = opInc 3 1 34 := rfl
theorem h243_34 : code_ 243 34 = opGoto 2 := rfl
theorem h243_37 : code_ 243 37 = opAld 0 38 := rfl
theorem h243_38 : code_ 243 38 = opGR 8 0 1 113669 41 := rfl
theorem h243_41 : code_ 243 41 = opC (vI 6) 43 := rfl
theorem h243_43 : code_ 243 43 = opDup2 44 := rfl
theorem h243_44 : code_ 243 44 = opIal 45 := rfl
theorem h243_45 : code_ 243 45 = opC (vI 1) 46 := rfl
theorem h243_46 : code_ 243 46 = opB (fun x y => x + y) 47 := rfl
theorem h243_47 : code_ 243 47 = opIas 48 := rfl
theorem h243_48 : code_ 243 48 = opAld 0 49 := rfl
theorem h243_49 : code_ 243 49 = opC (vI 2) 50 := rfl
theorem h243_50 : code_ 243 50 = opIld 2 51 := rfl
theorem h243_51 : code_ 243 51 = opIld 1 52 := rfl
theorem h243_52 : code_ 243 52 = opK kV 228 4 8 55 := rfl
theorem h243_55 : code_ 243 55 = opRet := rfl
theorem h244_0 : code_ 244 0 = opAld 0 1 := rfl
theorem h244_1 : code_ 244 1 = opIld 1 2 := rfl
theorem h244_2 : code_ 244 2 = opIld 2 3 := rfl
theorem h244_3 : code_ 244 3 = opK kI 241 3 8 6 := rfl
theorem h244_6 : code_ 244 6 = opIst 3 7 := rfl
theorem h244_7 : code_ 244 7 = opIld 1 8 := rfl
theorem h244_8 : code_ 244 8 = opIld 2 9 := rfl
theorem h244_9 : code_ 244 9 = opB (fun x y => x + y) 10 := rfl
theorem h244_10 : code_ 244 10 = opIld 3 11 := rfl
theorem h244_11 : code_ 244 11 = opB (fun x y => x - y) 12 := rfl
theorem h244_12 : code_ 244 12 = opIst 4 14 := rfl
theorem h244_14 : code_ 244 14 = opAld 0 15 := rfl
theorem h244_15 : code_ 244 15 = opIld 4 17 := rfl
theorem h244_17 : code_ 244 17 = opK kI 166 2 8 20 := rfl
theorem h244_20 : code_ 244 20 = opIst 5 22 := rfl
theorem h244_22 : code_ 244 22 = opAld 0 23 := rfl
theorem h244_23 : code_ 244 23 = opIld 4 25 := rfl
theorem h244_25 : code_ 244 25 = opIld 3 26 := rfl
theorem h244_26 : code_ 244 26 = opIld 5 28 := rfl
theorem h244_28 : code_ 244 28 = opK kV 242 4 8 31 := rfl
theorem h244_31 : code_ 244 31 = opAld 0 32 := rfl
theorem h244_32 : code_ 244 32 = opIld 4 34 := rfl
theorem h244_34 : code_ 244 34 = opIld 3 35 := rfl
theorem h244_35 : code_ 244 35 = opK kV 243 3 8 38 := rfl
theorem h244_38 : code_ 244 38 = opIld 5 40 := rfl
theorem h244_40 : code_ 244 40 = opK kI 161 1 99 43 := rfl
theorem h244_43 : code_ 244 43 = opIret := rfl
theorem h245_0 : code_ 245 0 = opAld 0 1 := rfl
theorem h245_1 : code_ 245 1 = opGR 8 0 1 113669 4 := rfl
theorem h245_4 : code_ 245 4 = opC (vI 7) 6 := rfl
theorem h245_6 : code_ 245 6 = opIal 7 := rfl
theorem h245_7 : code_ 245 7 = opC (vI (-1)) 8 := rfl
theorem h245_8 : code_ 245 8 = opCpNe 15 11 := rfl
theorem h245_11 : code_ 245 11 = opC (vI 0) 12 := rfl
theorem h245_12 : code_ 245 12 = opGoto 36 := rfl
theorem h245_15 : code_ 245 15 = opAld 0 16 := rfl
theorem h245_16 : code_ 245 16 = opAld 0 17 := rfl
theorem h245_17 : code_ 245 17 = opGR 8 0 1 113669 20 := rfl
theorem h245_20 : code_ 245 20 = opC (vI 7) 22 := rfl
theorem h245_22 : code_ 245 22 = opIal 23 := rfl
theorem h245_23 : code_ 245 23 = opK kI 166 2 8 26 := rfl
theorem h245_26 : code_ 245 26 = opAld 0 27 := rfl
theorem h245_27 : code_ 245 27 = opGR 8 0 1 113669 30 := rfl
theorem h245_30 : code_ 245 30 = opC (vI 9) 32 := rfl
theorem h245_32 : code_ 245 32 = opIal 33 := rfl
theorem h245_33 : code_ 245 33 = opC (vI (-1)) 34 := rfl
theorem h245_34 : code_ 245 34 = opB (fun x y => x ^^^ y) 35 := rfl
theorem h245_35 : code_ 245 35 = opB (fun x y => x &&& y) 36 := rfl
theorem h245_36 : code_ 245 36 = opMask [0] (opIret) := rfl
theorem h246_0 : code_ 246 0 = opAld 0 1 := rfl
theorem h246_1 : code_ 246 1 = opGR 8 0 1 113669 4 := rfl
theorem h246_4 : code_ 246 4 = opC (vI 8) 6 := rfl
theorem h246_6 : code_ 246 6 = opAld 0 7 := rfl
theorem h246_7 : code_ 246 7 = opIld 1 8 := rfl
theorem h246_8 : code_ 246 8 = opIld 2 9 := rfl
theorem h246_9 : code_ 246 9 = opK kI 241 3 8 12 := rfl
theorem h246_12 : code_ 246 12 = opIas 13 := rfl
theorem h246_13 : code_ 246 13 = opAld 0 14 := rfl
theorem h246_14 : code_ 246 14 = opGR 8 0 1 113669 17 := rfl
theorem h246_17 : code_ 246 17 = opC (vI 7) 19 := rfl
theorem h246_19 : code_ 246 19 = opIld 1 20 := rfl
theorem h246_20 : code_ 246 20 = opIld 2 21 := rfl
theorem h246_21 : code_ 246 21 = opB (fun x y => x + y) 22 := rfl
theorem h246_22 : code_ 246 22 = opAld 0 23 := rfl
theorem h246_23 : code_ 246 23 = opGR 8 0 1 113669 26 := rfl
theorem h246_26 : code_ 246 26 = opC (vI 8) 28 := rfl
theorem h246_28 : code_ 246 28 = opIal 29 := rfl
theorem h246_29 : code_ 246 29 = opB (fun x y => x - y) 30 := rfl
theorem h246_30 : code_ 246 30 = opIas 31 := rfl
theorem h246_31 : code_ 246 31 = opAld 0 32 := rfl
theorem h246_32 : code_ 246 32 = opGR 8 0 1 113669 35 := rfl
theorem h246_35 : code_ 246 35 = opC (vI 9) 37 := rfl
theorem h246_37 : code_ 246 37 = opC (vI 0) 38 := rfl
theorem h246_38 : code_ 246 38 = opIas 39 := rfl
theorem h246_39 : code_ 246 39 = opAld 0 40 := rfl
theorem h246_40 : code_ 246 40 = opC (vI 3) 41 := rfl
theorem h246_41 : code_ 246 41 = opAld 0 42 := rfl
theorem h246_42 : code_ 246 42 = opGR 8 0 1 113669 45 := rfl
theorem h246_45 : code_ 246 45 = opC (vI 7) 47 := rfl
theorem h246_47 : code_ 246 47 = opIal 48 := rfl
theorem h246_48 : code_ 246 48 = opAld 0 49 := rfl
theorem h246_49 : code_ 246 49 = opGR 8 0 1 113669 52 := rfl
theorem h246_52 : code_ 246 52 = opC (vI 8) 54 := rfl
theorem h246_54 : code_ 246 54 = opIal 55 := rfl
theorem h246_55 : code_ 246 55 = opK kV 228 4 8 58 := rfl
theorem h246_58 : code_ 246 58 = opAld 0 59 := rfl
theorem h246_59 : code_ 246 59 = opAld 0 60 := rfl
theorem h246_60 : code_ 246 60 = opGR 8 0 1 113669 63 := rfl
theorem h246_63 : code_ 246 63 = opC (vI 7) 65 := rfl
theorem h246_65 : code_ 246 65 = opIal 66 := rfl
theorem h246_66 : code_ 246 66 = opK kI 166 2 8 69 := rfl
theorem h246_69 : code_ 246 69 = opK kI 161 1 99 72 := rfl
theorem h246_72 : code_ 246 72 = opIret := rfl
theorem h247_0 : code_ 247 0 = opAld 0 1 := rfl
theorem h247_1 : code_ 247 1 = opGR 8 0 1 113669 4 := rfl
theorem h247_4 : code_ 247 4 = opC (vI 7) 6 := rfl
theorem h247_6 : code_ 247 6 = opC (vI (-1)) 7 := rfl
theorem h247_7 : code_ 247 7 = opIas 8 := rfl
theorem h247_8 : code_ 247 8 = opAld 0 9 := rfl
theorem h247_9 : code_ 247 9 = opGR 8 0 1 113669 12 := rfl
theorem h247_12 : code_ 247 12 = opC (vI 8) 14 := rfl
theorem h247_14 : code_ 247 14 = opC (vI (-1)) 15 := rfl
theorem h247_15 : code_ 247 15 = opIas 16 := rfl
theorem h247_16 : code_ 247 16 = opAld 0 17 := rfl
theorem h247_17 : code_ 247 17 = opGR 8 0 1 113669 20 := rfl
theorem h247_20 : code_ 247 20 = opC (vI 9) 22 := rfl
theorem h247_22 : code_ 247 22 = opC (vI 0) 23 := rfl
theorem h247_23 : code_ 247 23 = opIas 24 := rfl
theorem h247_24 : code_ 247 24 = opRet := rfl
theorem h248_0 : code_ 248 0 = opAld 0 1 := rfl
theorem h248_1 : code_ 248 1 = opK kI 245 1 8 4 := rfl
theorem h248_4 : code_ 248 4 = opIst 1 5 := rfl
theorem h248_5 : code_ 248 5 = opIld 1 6 := rfl
theorem h248_6 : code_ 248 6 = opIld 1 7 := rfl
theorem h248_7 : code_ 248 7 = opU (fun x => -x) 8 := rfl
theorem h248_8 : code_ 248 8 = opB (fun x y => x &&& y) 9 := rfl
theorem h248_9 : code_ 248 9 = opIst 2 10 := rfl
theorem h248_10 : code_ 248 10 = opAld 0 11 := rfl
theorem h248_11 : code_ 248 11 = opAld 0 12 := rfl
theorem h248_12 : code_ 248 12 = opGR 8 0 1 113669 15 := rfl
theorem h248_15 : code_ 248 15 = opC (vI 7) 17 := rfl
theorem h248_17 : code_ 248 17 = opIal 18 := rfl
theorem h248_18 : code_ 248 18 = opAld 0 19 := rfl
theorem h248_19 : code_ 248 19 = opGR 8 0 1 113669 22 := rfl
theorem h248_22 : code_ 248 22 = opC (vI 8) 24 := rfl
theorem h248_24 : code_ 248 24 = opIal 25 := rfl
theorem h248_25 : code_ 248 25 = opIld 2 26 := rfl
theorem h248_26 : code_ 248 26 = opK kV 242 4 8 29 := rfl
theorem h248_29 : code_ 248 29 = opAld 0 30 := rfl
theorem h248_30 : code_ 248 30 = opGR 8 0 1 113669 33 := rfl
theorem h248_33 : code_ 248 33 = opC (vI 9) 35 := rfl
theorem h248_35 : code_ 248 35 = opDup2 36 := rfl
theorem h248_36 : code_ 248 36 = opIal 37 := rfl
theorem h248_37 : code_ 248 37 = opIld 2 38 := rfl
theorem h248_38 : code_ 248 38 = opB (fun x y => x ||| y) 39 := rfl
theorem h248_39 : code_ 248 39 = opIas 40 := rfl
theorem h248_40 : code_ 248 40 = opIld 1 41 := rfl
theorem h248_41 : code_ 248 41 = opIld 2 42 := rfl
theorem h248_42 : code_ 248 42 = opCpNe 73 45 := rfl
theorem h248_45 : code_ 248 45 = opAld 0 46 := rfl
theorem h248_46 : code_ 248 46 = opGR 8 0 1 113669 49 := rfl
theorem h248_49 : code_ 248 49 = opC (vI 7) 51 := rfl
theorem h248_51 : code_ 248 51 = opIal 52 := rfl
theorem h248_52 : code_ 248 52 = opIst 3 53 := rfl
theorem h248_53 : code_ 248 53 = opAld 0 54 := rfl
theorem h248_54 : code_ 248 54 = opGR 8 0 1 113669 57 := rfl
theorem h248_57 : code_ 248 57 = opC (vI 8) 59 := rfl
theorem h248_59 : code_ 248 59 = opIal 60 := rfl
theorem h248_60 : code_ 248 60 = opIst 4 62 := rfl
theorem h248_62 : code_ 248 62 = opAld 0 63 := rfl
theorem h248_63 : code_ 248 63 = opK kV 247 1 8 66 := rfl
theorem h248_66 : code_ 248 66 = opAld 0 67 := rfl
theorem h248_67 : code_ 248 67 = opIld 3 68 := rfl
theorem h248_68 : code_ 248 68 = opIld 4 70 := rfl
theorem h248_70 : code_ 248 70 = opK kV 243 3 8 73 := rfl
theorem h248_73 : code_ 248 73 = opMask [0, 3, 4] (opIld 1 74) := rfl
theorem h248_74 : code_ 248 74 = opIld 2 75 := rfl
theorem h248_75 : code_ 248 75 = opC (vI (-1)) 76 := rfl
theorem h248_76 : code_ 248 76 = opB (fun x y => x ^^^ y) 77 := rfl
theorem h248_77 : code_ 248 77 = opB (fun x y => x &&& y) 78 := rfl
theorem h248_78 : code_ 248 78 = opK kI 161 1 99 81 := rfl
theorem h248_81 : code_ 248 81 = opIret := rfl
theorem h249_0 : code_ 249 0 = opAld 0 1 := rfl
theorem h249_1 : code_ 249 1 = opC (vI 4) 2 := rfl
theorem h249_2 : code_ 249 2 = opAld 0 3 := rfl
theorem h249_3 : code_ 249 3 = opGR 8 0 1 113669 6 := rfl
theorem h249_6 : code_ 249 6 = opC (vI 7) 8 := rfl
theorem h249_8 : code_ 249 8 = opIal 9 := rfl
theorem h249_9 : code_ 249 9 = opAld 0 10 := rfl
theorem h249_10 : code_ 249 10 = opGR 8 0 1 113669 13 := rfl
theorem h249_13 : code_ 249 13 = opC (vI 8) 15 := rfl
theorem h249_15 : code_ 249 15 = opIal 16 := rfl
theorem h249_16 : code_ 249 16 = opK kV 228 4 8 19 := rfl
theorem h249_19 : code_ 249 19 = opAld 0 20 := rfl
theorem h249_20 : code_ 249 20 = opK kV 247 1 8 23 := rfl
theorem h249_23 : code_ 249 23 = opRet := rfl
theorem h250_0 : code_ 250 0 = opC (vI 0) 1 := rfl
theorem h250_1 : code_ 250 1 = opIst 1 2 := rfl
theorem h250_2 : code_ 250 2 = opIld 0 3 := rfl
theorem h250_3 : code_ 250 3 = opIld 1 4 := rfl
theorem h250_4 : code_ 250 4 = opK kI 160 2 99 7 := rfl
theorem h250_7 : code_ 250 7 = opIfNe 16 10 := rfl
theorem h250_10 : code_ 250 10 = opInc 1 1 13 := rfl
theorem h250_13 : code_ 250 13 = opGoto 2 := rfl
theorem h250_16 : code_ 250 16 = opIld 1 17 := rfl
theorem h250_17 : code_ 250 17 = opIret := rfl
theorem h251_0 : code_ 251 0 = opAld 0 1 := rfl
theorem h251_1 : code_ 251 1 = opGR 8 24 10 200012 4 := rfl
theorem h251_4 : code_ 251 4 = opIld 1 5 := rfl
theorem h251_5 : code_ 251 5 = opBal 6 := rfl
theorem h251_6 : code_ 251 6 = opIfNe 41 9 := rfl
theorem h251_9 : code_ 251 9 = opAld 0 10 := rfl
theorem h251_10 : code_ 251 10 = opGR 8 24 10 200012 13 := rfl
theorem h251_13 : code_ 251 13 = opIld 2 14 := rfl
theorem h251_14 : code_ 251 14 = opBal 15 := rfl
theorem h251_15 : code_ 251 15 = opIfNe 41 18 := rfl
theorem h251_18 : code_ 251 18 = opAld 0 19 := rfl
theorem h251_19 : code_ 251 19 = opAld 0 20 := rfl
theorem h251_20 : code_ 251 20 = opIld 1 21 := rfl
theorem h251_21 : code_ 251 21 = opK kI 165 2 8 24 := rfl
theorem h251_24 : code_ 251 24 = opK kI 250 1 99 27 := rfl
theorem h251_27 : code_ 251 27 = opAld 0 28 := rfl
theorem h251_28 : code_ 251 28 = opIld 2 29 := rfl
theorem h251_29 : code_ 251 29 = opK kI 165 2 8 32 := rfl
theorem h251_32 : code_ 251 32 = opK kI 250 1 99 35 := rfl
theorem h251_35 : code_ 251 35 = opK kI 240 3 8 38 := rfl
theorem h251_38 : code_ 251 38 = opIfEq 43 41 := rfl
theorem h251_41 : code_ 251 41 = opMask [0, 1, 2] (opC (vI 0) 42) := rfl
theorem h251_42 : code_ 251 42 = opZret := rfl
theorem h251_43 : code_ 251 43 = opAld 0 44 := rfl
theorem h251_44 : code_ 251 44 = opIld 1 45 := rfl
theorem h251_45 : code_ 251 45 = opIld 2 46 := rfl
theorem h251_46 : code_ 251 46 = opK kI 244 3 8 49 := rfl
theorem h251_49 : code_ 251 49 = opPop 50 := rfl
theorem h251_50 : code_ 251 50 = opAld 0 51 := rfl
theorem h251_51 : code_ 251 51 = opGR 8 24 10 200012 54 := rfl
theorem h251_54 : code_ 251 54 = opIld 1 55 := rfl
theorem h251_55 : code_ 251 55 = opC (vI 1) 56 := rfl
theorem h251_56 : code_ 251 56 = opBas 57 := rfl
theorem h251_57 : code_ 251 57 = opAld 0 58 := rfl
theorem h251_58 : code_ 251 58 = opGR 8 24 10 200012 61 := rfl
theorem h251_61 : code_ 251 61 = opIld 2 62 := rfl
theorem h251_62 : code_ 251 62 = opC (vI 1) 63 := rfl
theorem h251_63 : code_ 251 63 = opBas 64 := rfl
theorem h251_64 : code_ 251 64 = opC (vI 1) 65 := rfl
theorem h251_65 : code_ 251 65 = opZret := rfl
theorem h252_0 : code_ 252 0 = opAld 0 1 := rfl
theorem h252_1 : code_ 252 1 = opK kI 173 1 8 4 := rfl
theorem h252_4 : code_ 252 4 = opIst 1 5 := rfl
theorem h252_5 : code_ 252 5 = opAld 0 6 := rfl
theorem h252_6 : code_ 252 6 = opK kI 227 1 8 9 := rfl
theorem h252_9 : code_ 252 9 = opIst 2 10 := rfl
theorem h252_10 : code_ 252 10 = opC (vI 0) 11 := rfl
theorem h252_11 : code_ 252 11 = opIst 3 12 := rfl
theorem h252_12 : code_ 252 12 = opC (vI 0) 13 := rfl
theorem h252_13 : code_ 252 13 = opIst 4 15 := rfl
theorem h252_15 : code_ 252 15 = opMask [5, 6, 7] (opIld 4 17) := rfl
theorem h252_17 : code_ 252 17 = opC (vI 12) 19 := rfl
theorem h252_19 : code_ 252 19 = opCpGe 59 22 := rfl
theorem h252_22 : code_ 252 22 = opAld 0 23 := rfl
theorem h252_23 : code_ 252 23 = opGR 8 24 10 200012 26 := rfl
theorem h252_26 : code_ 252 26 = opIld 4 28 := rfl
theorem h252_28 : code_ 252 28 = opC (vI 0) 29 := rfl
theorem h252_29 : code_ 252 29 = opBas 30 := rfl
theorem h252_30 : code_ 252 30 = opIld 1 31 := rfl
theorem h252_31 : code_ 252 31 = opIld 4 33 := rfl
theorem h252_33 : code_ 252 33 = opK kI 160 2 99 36 := rfl
theorem h252_36 : code_ 252 36 = opIfNe 42 39 := rfl
theorem h252_39 : code_ 252 39 = opGoto 53 := rfl
theorem h252_42 : code_ 252 42 = opAld 0 43 := rfl
theorem h252_43 : code_ 252 43 = opGR 8 23 9 100012 46 := rfl
theorem h252_46 : code_ 252 46 = opIld 3 47 := rfl
theorem h252_47 : code_ 252 47 = opIld 4 49 := rfl
theorem h252_49 : code_ 252 49 = opIas 50 := rfl
theorem h252_50 : code_ 252 50 = opInc 3 1 53 := rfl
theorem h252_53 : code_ 252 53 = opMask [5, 6, 7] (opInc 4 1 56) := rfl
theorem h252_56 : code_ 252 56 = opGoto 15 := rfl
theorem h252_59 : code_ 252 59 = opIld 3 60 := rfl
theorem h252_60 : code_ 252 60 = opC (vI 1) 61 := rfl
theorem h252_61 : code_ 252 61 = opB (fun x y => x - y) 62 := rfl
theorem h252_62 : code_ 252 62 = opIst 4 64 := rfl
theorem h252_64 : code_ 252 64 = opMask [1, 5, 6, 7] (opIld 4 66) := rfl
theorem h252_66 : code_ 252 66 = opIfLe 117 69 := rfl
theorem h252_69 : code_ 252 69 = opAld 0 70 := rfl
theorem h252_70 : code_ 252 70 = opIld 4 72 := rfl
theorem h252_72 : code_ 252 72 = opC (vI 1) 73 := rfl
theorem h252_73 : code_ 252 73 = opB (fun x y => x + y) 74 := rfl
theorem h252_74 : code_ 252 74 = opK kI 229 2 8 77 := rfl
theorem h252_77 : code_ 252 77 = opIst 5 79 := rfl
theorem h252_79 : code_ 252 79 = opAld 0 80 := rfl
theorem h252_80 : code_ 252 80 = opGR 8 23 9 100012 83 := rfl
theorem h252_83 : code_ 252 83 = opIld 4 85 := rfl
theorem h252_85 : code_ 252 85 = opIal 86 := rfl
theorem h252_86 : code_ 252 86 = opIst 6 88 := rfl
theorem h252_88 : code_ 252 88 = opAld 0 89 := rfl
theorem h252_89 : code_ 252 89 = opGR 8 23 9 100012 92 := rfl
theorem h252_92 : code_ 252 92 = opIld 4 94 := rfl
theorem h252_94 : code_ 252 94 = opAld 0 95 := rfl
theorem h252_95 : code_ 252 95 = opGR 8 23 9 100012 98 := rfl
theorem h252_98 : code_ 252 98 = opIld 5 100 := rfl
theorem h252_100 : code_ 252 100 = opIal 101 := rfl
theorem h252_101 : code_ 252 101 = opIas 102 := rfl
theorem h252_102 : code_ 252 102 = opAld 0 103 := rfl
theorem h252_103 : code_ 252 103 = opGR 8 23 9 100012 106 := rfl
theorem h252_106 : code_ 252 106 = opIld 5 108 := rfl
theorem h252_108 : code_ 252 108 = opIld 6 110 := rfl
theorem h252_110 : code_ 252 110 = opIas 111 := rfl
theorem h252_111 : code_ 252 111 = opInc 4 (-1) 114 := rfl
theorem h252_114 : code_ 252 114 = opGoto 64 := rfl
theorem h252_117 : code_ 252 117 = opIld 3 118 := rfl
theorem h252_118 : code_ 252 118 = opC (vI 2) 119 := rfl
theorem h252_119 : code_ 252 119 = opBz (fun x y => x / y) 120 := rfl
theorem h252_120 : code_ 252 120 = opIst 4 122 := rfl
theorem h252_122 : code_ 252 122 = opC (vI 0) 123 := rfl
theorem h252_123 : code_ 252 123 = opIst 5 125 := rfl
theorem h252_125 : code_ 252 125 = opC (vI 0) 126 := rfl
theorem h252_126 : code_ 252 126 = opIst 6 128 := rfl
theorem h252_128 : code_ 252 128 = opMask [1, 3, 7] (opIld 6 130) := rfl
theorem h252_130 : code_ 252 130 = opIld 2 131 := rfl
theorem h252_131 : code_ 252 131 = opCpGe 201 134 := rfl
theorem h252_134 : code_ 252 134 = opIld 4 136 := rfl
theorem h252_136 : code_ 252 136 = opIfLe 201 139 := rfl
theorem h252_139 : code_ 252 139 = opC (vI 0) 140 := rfl
theorem h252_140 : code_ 252 140 = opIst 7 142 := rfl
theorem h252_142 : code_ 252 142 = opMask [1, 3] (opIld 7 144) := rfl
theorem h252_144 : code_ 252 144 = opIld 4 146 := rfl
theorem h252_146 : code_ 252 146 = opCpGe 195 149 := rfl
theorem h252_149 : code_ 252 149 = opIld 5 151 := rfl
theorem h252_151 : code_ 252 151 = opAld 0 152 := rfl
theorem h252_152 : code_ 252 152 = opAld 0 153 := rfl
theorem h252_153 : code_ 252 153 = opGR 8 23 9 100012 156 := rfl
theorem h252_156 : code_ 252 156 = opIld 7 158 := rfl
theorem h252_158 : code_ 252 158 = opIal 159 := rfl
theorem h252_159 : code_ 252 159 = opAld 0 160 := rfl
theorem h252_160 : code_ 252 160 = opGR 8 23 9 100012 163 := rfl
theorem h252_163 : code_ 252 163 = opIld 4 165 := rfl
theorem h252_165 : code_ 252 165 = opIld 7 167 := rfl
theorem h252_167 : code_ 252 167 = opIld 6 169 := rfl
theorem h252_169 : code_ 252 169 = opB (fun x y => x + y) 170 := rfl
theorem h252_170 : code_ 252 170 = opIld 4 172 := rfl
theorem h252_172 : code_ 252 172 = opBz remI 173 := rfl
theorem h252_173 : code_ 252 173 = opB (fun x y => x + y) 174 := rfl
theorem h252_174 : code_ 252 174 = opIal 175 := rfl
theorem h252_175 : code_ 252 175 = opK kI 251 3 8 178 := rfl
theorem h252_178 : code_ 252 178 = opIfEq 185 181 := rfl
theorem h252_181 : code_ 252 181 = opC (vI 1) 182 := rfl
theorem h252_182 : code_ 252 182 = opGoto 186 := rfl
theorem h252_185 : code_ 252 185 = opC (vI 0) 186 := rfl
theorem h252_186 : code_ 252 186 = opMask [1, 3, 5] (opB (fun x y => x + y) 187) := rfl
theorem h252_187 : code_ 252 187 = opIst 5 189 := rfl
theorem h252_189 : code_ 252 189 = opInc 7 1 192 := rfl
theorem h252_192 : code_ 252 192 = opGoto 142 := rfl
theorem h252_195 : code_ 252 195 = opInc 6 1 198 := rfl
theorem h252_198 : code_ 252 198 = opGoto 128 := rfl
theorem h252_201 : code_ 252 201 = opMask [0, 1, 2, 3, 4, 6, 7] (opIld 5 203) := rfl
theorem h252_203 : code_ 252 203 = opIret := rfl
theorem h253_0 : code_ 253 0 = opC (vI 0) 1 := rfl
theorem h253_1 : code_ 253 1 = opIst 2 2 := rfl
theorem h253_2 : code_ 253 2 = opC (vI 0) 3 := rfl
theorem h253_3 : code_ 253 3 = opIst 3 4 := rfl
theorem h253_4 : code_ 253 4 = opAld 0 5 := rfl
theorem h253_5 : code_ 253 5 = opIld 3 6 := rfl
theorem h253_6 : code_ 253 6 = opK kI 174 2 8 9 := rfl
theorem h253_9 : code_ 253 9 = opIfEq 17 12 := rfl
theorem h253_12 : code_ 253 12 = opIld 2 13 := rfl
theorem h253_13 : code_ 253 13 = opIld 1 14 := rfl
theorem h253_14 : code_ 253 14 = opCpGe 39 17 := rfl
theorem h253_17 : code_ 253 17 = opIld 2 18 := rfl
theorem h253_18 : code_ 253 18 = opAld 0 19 := rfl
theorem h253_19 : code_ 253 19 = opIld 3 20 := rfl
theorem h253_20 : code_ 253 20 = opK kI 174 2 8 23 := rfl
theorem h253_23 : code_ 253 23 = opIfEq 30 26 := rfl
theorem h253_26 : code_ 253 26 = opC (vI 1) 27 := rfl
theorem h253_27 : code_ 253 27 = opGoto 31 := rfl
theorem h253_30 : code_ 253 30 = opC (vI 0) 31 := rfl
theorem h253_31 : code_ 253 31 = opMask [2] (opB (fun x y => x + y) 32) := rfl
theorem h253_32 : code_ 253 32 = opIst 2 33 := rfl
theorem h253_33 : code_ 253 33 = opInc 3 1 36 := rfl
theorem h253_36 : code_ 253 36 = opGoto 4 := rfl
theorem h253_39 : code_ 253 39 = opIld 3 40 := rfl
theorem h253_40 : code_ 253 40 = opIret := rfl
theorem h254_0 : code_ 254 0 = opAld 0 1 := rfl
theorem h254_1 : code_ 254 1 = opC (vI 8) 3 := rfl
theorem h254_3 : code_ 254 3 = opK kI 229 2 8 6 := rfl
theorem h254_6 : code_ 254 6 = opIst 1 7 := rfl
theorem h254_7 : code_ 254 7 = opIld 1 8 := rfl
theorem h254_8 : code_ 254 8 = opC (vI 4) 9 := rfl
theorem h254_9 : code_ 254 9 = opCpGe 46 12 := rfl
theorem h254_12 : code_ 254 12 = opAld 0 13 := rfl
theorem h254_13 : code_ 254 13 = opC (vI 1000) 16 := rfl
theorem h254_16 : code_ 254 16 = opK kI 229 2 8 19 := rfl
theorem h254_19 : code_ 254 19 = opIst 2 20 := rfl
theorem h254_20 : code_ 254 20 = opAld 0 21 := rfl
theorem h254_21 : code_ 254 21 = opK kI 235 1 8 24 := rfl
theorem h254_24 : code_ 254 24 = opIfEq 43 27 := rfl
theorem h254_27 : code_ 254 27 = opAld 0 28 := rfl
theorem h254_28 : code_ 254 28 = opIld 2 29 := rfl
theorem h254_29 : code_ 254 29 = opK kI 237 2 8 32 := rfl
theorem h254_32 : code_ 254 32 = opPop 33 := rfl
theorem h254_33 : code_ 254 33 = opAld 0 34 := rfl
theorem h254_34 : code_ 254 34 = opDup 35 := rfl
theorem h254_35 : code_ 254 35 = opGI 8 25 38 := rfl
theorem h254_38 : code_ 254 38 = opC (vI 1) 39 := rfl
theorem h254_39 : code_ 254 39 = opB (fun x y => x + y) 40 := rfl
theorem h254_40 : code_ 254 40 = opPI 8 25 43 := rfl
theorem h254_43 : code_ 254 43 = opMask [1, 2] (opGoto 114) := rfl
theorem h254_46 : code_ 254 46 = opIld 1 47 := rfl
theorem h254_47 : code_ 254 47 = opC (vI 7) 49 := rfl
theorem h254_49 : code_ 254 49 = opCpNe 70 52 := rfl
theorem h254_52 : code_ 254 52 = opAld 0 53 := rfl
theorem h254_53 : code_ 254 53 = opK kI 252 1 8 56 := rfl
theorem h254_56 : code_ 254 56 = opPop 57 := rfl
theorem h254_57 : code_ 254 57 = opAld 0 58 := rfl
theorem h254_58 : code_ 254 58 = opDup 59 := rfl
theorem h254_59 : code_ 254 59 = opGI 8 25 62 := rfl
theorem h254_62 : code_ 254 62 = opC (vI 1) 63 := rfl
theorem h254_63 : code_ 254 63 = opB (fun x y => x + y) 64 := rfl
theorem h254_64 : code_ 254 64 = opPI 8 25 67 := rfl
theorem h254_67 : code_ 254 67 = opGoto 114 := rfl
theorem h254_70 : code_ 254 70 = opAld 0 71 := rfl
theorem h254_71 : code_ 254 71 = opK kI 170 1 8 74 := rfl
theorem h254_74 : code_ 254 74 = opIfLe 114 77 := rfl
theorem h254_77 : code_ 254 77 = opAld 0 78 := rfl
theorem h254_78 : code_ 254 78 = opAld 0 79 := rfl
theorem h254_79 : code_ 254 79 = opAld 0 80 := rfl
theorem h254_80 : code_ 254 80 = opK kI 170 1 8 83 := rfl
theorem h254_83 : code_ 254 83 = opK kI 229 2 8 86 := rfl
theorem h254_86 : code_ 254 86 = opK kI 253 2 8 89 := rfl
theorem h254_89 : code_ 254 89 = opIst 2 90 := rfl
theorem h254_90 : code_ 254 90 = opAld 0 91 := rfl
theorem h254_91 : code_ 254 91 = opIld 2 92 := rfl
theorem h254_92 : code_ 254 92 = opK kI 238 2 8 95 := rfl
theorem h254_95 : code_ 254 95 = opIfEq 114 98 := rfl
theorem h254_98 : code_ 254 98 = opAld 0 99 := rfl
theorem h254_99 : code_ 254 99 = opIld 2 100 := rfl
theorem h254_100 : code_ 254 100 = opK kI 239 2 8 103 := rfl
theorem h254_103 : code_ 254 103 = opPop 104 := rfl
theorem h254_104 : code_ 254 104 = opAld 0 105 := rfl
theorem h254_105 : code_ 254 105 = opDup 106 := rfl
theorem h254_106 : code_ 254 106 = opGI 8 25 109 := rfl
theorem h254_109 : code_ 254 109 = opC (vI 1) 110 := rfl
theorem h254_110 : code_ 254 110 = opB (fun x y => x + y) 111 := rfl
theorem h254_111 : code_ 254 111 = opPI 8 25 114 := rfl
theorem h254_114 : code_ 254 114 = opMask [1, 2] (opAld 0 115) := rfl
theorem h254_115 : code_ 254 115 = opGR 8 0 1 113669 118 := rfl
theorem h254_118 : code_ 254 118 = opC (vI 4) 119 := rfl
theorem h254_119 : code_ 254 119 = opDup2 120 := rfl
theorem h254_120 : code_ 254 120 = opIal 121 := rfl
theorem h254_121 : code_ 254 121 = opC (vI 1) 122 := rfl
theorem h254_122 : code_ 254 122 = opB (fun x y => x + y) 123 := rfl
theorem h254_123 : code_ 254 123 = opIas 124 := rfl
theorem h254_124 : code_ 254 124 = opRet := rfl
theorem h255_0 : code_ 255 0 = opC (vI 469) 3 := rfl
theorem h255_3 : code_ 255 3 = opC (vI 440) 6 := rfl
theorem h255_6 : code_ 255 6 = opIld 0 7 := rfl
theorem h255_7 : code_ 255 7 = opIld 1 8 := rfl
theorem h255_8 : code_ 255 8 = opB (fun x y => x + y) 9 := rfl
theorem h255_9 : code_ 255 9 = opC (vI 30) 11 := rfl
theorem h255_11 : code_ 255 11 = opBz remI 12 := rfl
theorem h255_12 : code_ 255 12 = opB (fun x y => x * y) 13 := rfl
theorem h255_13 : code_ 255 13 = opB (fun x y => x + y) 14 := rfl
theorem h255_14 : code_ 255 14 = opIret := rfl
theorem h256_0 : code_ 256 0 = opAld 0 1 := rfl
theorem h256_1 : code_ 256 1 = opGR 8 0 1 113669 4 := rfl
theorem h256_4 : code_ 256 4 = opC (vI 2) 5 := rfl
theorem h256_5 : code_ 256 5 = opIal 6 := rfl
theorem h256_6 : code_ 256 6 = opC (vI 30) 8 := rfl
theorem h256_8 : code_ 256 8 = opCpNe 42 11 := rfl
theorem h256_11 : code_ 256 11 = opAld 0 12 := rfl
theorem h256_12 : code_ 256 12 = opGR 8 0 1 113669 15 := rfl
theorem h256_15 : code_ 256 15 = opC (vI 468) 18 := rfl
theorem h256_18 : code_ 256 18 = opAld 0 19 := rfl
theorem h256_19 : code_ 256 19 = opGR 8 0 1 113669 22 := rfl
theorem h256_22 : code_ 256 22 = opC (vI 468) 25 := rfl
theorem h256_25 : code_ 256 25 = opIal 26 := rfl
theorem h256_26 : code_ 256 26 = opC (vI 1) 27 := rfl
theorem h256_27 : code_ 256 27 = opB (fun x y => x + y) 28 := rfl
theorem h256_28 : code_ 256 28 = opC (vI 30) 30 := rfl
theorem h256_30 : code_ 256 30 = opBz remI 31 := rfl
theorem h256_31 : code_ 256 31 = opIas 32 := rfl
theorem h256_32 : code_ 256 32 = opAld 0 33 := rfl
theorem h256_33 : code_ 256 33 = opGR 8 0 1 113669 36 := rfl
theorem h256_36 : code_ 256 36 = opC (vI 2) 37 := rfl
theorem h256_37 : code_ 256 37 = opDup2 38 := rfl
theorem h256_38 : code_ 256 38 = opIal 39 := rfl
theorem h256_39 : code_ 256 39 = opC (vI 1) 40 := rfl
theorem h256_40 : code_ 256 40 = opB (fun x y => x - y) 41 := rfl
theorem h256_41 : code_ 256 41 = opIas 42 := rfl
theorem h256_42 : code_ 256 42 = opMask [1, 2] (opAld 0 43) := rfl
theorem h256_43 : code_ 256 43 = opGR 8 0 1 113669 46 := rfl
theorem h256_46 : code_ 256 46 = opC (vI 468) 49 := rfl
theorem h256_49 : code_ 256 49 = opIal 50 := rfl
theorem h256_50 : code_ 256 50 = opAld 0 51 := rfl
theorem h256_51 : code_ 256 51 = opGR 8 0 1 113669 54 := rfl
theorem h256_54 : code_ 256 54 = opC (vI 2) 55 := rfl
theorem h256_55 : code_ 256 55 = opIal 56 := rfl
theorem h256_56 : code_ 256 56 = opK kI 255 2 99 59 := rfl
theorem h256_59 : code_ 256 59 = opIst 1 60 := rfl
theorem h256_60 : code_ 256 60 = opC (vI 0) 61 := rfl
theorem h256_61 : code_ 256 61 = opIst 2 62 := rfl
theorem h256_62 : code_ 256 62 = opIld 2 63 := rfl
theorem h256_63 : code_ 256 63 = opC (vI 440) 66 := rfl
theorem h256_66 : code_ 256 66 = opCpGe 91 69 := rfl
theorem h256_69 : code_ 256 69 = opAld 0 70 := rfl
theorem h256_70 : code_ 256 70 = opGR 8 0 1 113669 73 := rfl
theorem h256_73 : code_ 256 73 = opIld 1 74 := rfl
theorem h256_74 : code_ 256 74 = opIld 2 75 := rfl
theorem h256_75 : code_ 256 75 = opB (fun x y => x + y) 76 := rfl
theorem h256_76 : code_ 256 76 = opAld 0 77 := rfl
theorem h256_77 : code_ 256 77 = opGR 8 0 1 113669 80 := rfl
theorem h256_80 : code_ 256 80 = opC (vI 4) 81 := rfl
theorem h256_81 : code_ 256 81 = opIld 2 82 := rfl
theorem h256_82 : code_ 256 82 = opB (fun x y => x + y) 83 := rfl
theorem h256_83 : code_ 256 83 = opIal 84 := rfl
theorem h256_84 : code_ 256 84 = opIas 85 := rfl
theorem h256_85 : code_ 256 85 = opInc 2 1 88 := rfl
theorem h256_88 : code_ 256 88 = opGoto 62 := rfl
theorem h256_91 : code_ 256 91 = opAld 0 92 := rfl
theorem h256_92 : code_ 256 92 = opGR 8 0 1 113669 95 := rfl
theorem h256_95 : code_ 256 95 = opC (vI 2) 96 := rfl
theorem h256_96 : code_ 256 96 = opDup2 97 := rfl
theorem h256_97 : code_ 256 97 = opIal 98 := rfl
theorem h256_98 : code_ 256 98 = opC (vI 1) 99 := rfl
theorem h256_99 : code_ 256 99 = opB (fun x y => x + y) 100 := rfl
theorem h256_100 : code_ 256 100 = opIas 101 := rfl
theorem h256_101 : code_ 256 101 = opRet := rfl
theorem h257_0 : code_ 257 0 = opAld 0 1 := rfl
theorem h257_1 : code_ 257 1 = opGR 8 0 1 113669 4 := rfl
theorem h257_4 : code_ 257 4 = opC (vI 2) 5 := rfl
theorem h257_5 : code_ 257 5 = opIal 6 := rfl
theorem h257_6 : code_ 257 6 = opIfNe 11 9 := rfl
theorem h257_9 : code_ 257 9 = opC (vI (-1)) 10 := rfl
theorem h257_10 : code_ 257 10 = opIret := rfl
theorem h257_11 : code_ 257 11 = opAld 0 12 := rfl
theorem h257_12 : code_ 257 12 = opGR 8 0 1 113669 15 := rfl
theorem h257_15 : code_ 257 15 = opC (vI 2) 16 := rfl
theorem h257_16 : code_ 257 16 = opDup2 17 := rfl
theorem h257_17 : code_ 257 17 = opIal 18 := rfl
theorem h257_18 : code_ 257 18 = opC (vI 1) 19 := rfl
theorem h257_19 : code_ 257 19 = opB (fun x y => x - y) 20 := rfl
theorem h257_20 : code_ 257 20 = opIas 21 := rfl
theorem h257_21 : code_ 257 21 = opAld 0 22 := rfl
theorem h257_22 : code_ 257 22 = opGR 8 0 1 113669 25 := rfl
theorem h257_25 : code_ 257 25 = opC (vI 468) 28 := rfl
theorem h257_28 : code_ 257 28 = opIal 29 := rfl
theorem h257_29 : code_ 257 29 = opAld 0 30 := rfl
theorem h257_30 : code_ 257 30 = opGR 8 0 1 113669 33 := rfl
theorem h257_33 : code_ 257 33 = opC (vI 2) 34 := rfl
theorem h257_34 : code_ 257 34 = opIal 35 := rfl
theorem h257_35 : code_ 257 35 = opK kI 255 2 99 38 := rfl
theorem h257_38 : code_ 257 38 = opIst 1 39 := rfl
theorem h257_39 : code_ 257 39 = opC (vI 0) 40 := rfl
theorem h257_40 : code_ 257 40 = opIst 2 41 := rfl
theorem h257_41 : code_ 257 41 = opIld 2 42 := rfl
theorem h257_42 : code_ 257 42 = opC (vI 440) 45 := rfl
theorem h257_45 : code_ 257 45 = opCpGe 70 48 := rfl
theorem h257_48 : code_ 257 48 = opAld 0 49 := rfl
theorem h257_49 : code_ 257 49 = opGR 8 0 1 113669 52 := rfl
theorem h257_52 : code_ 257 52 = opC (vI 4) 53 := rfl
theorem h257_53 : code_ 257 53 = opIld 2 54 := rfl
theorem h257_54 : code_ 257 54 = opB (fun x y => x + y) 55 := rfl
theorem h257_55 : code_ 257 55 = opAld 0 56 := rfl
theorem h257_56 : code_ 257 56 = opGR 8 0 1 113669 59 := rfl
theorem h257_59 : code_ 257 59 = opIld 1 60 := rfl
theorem h257_60 : code_ 257 60 = opIld 2 61 := rfl
theorem h257_61 : code_ 257 61 = opB (fun x y => x + y) 62 := rfl
theorem h257_62 : code_ 257 62 = opIal 63 := rfl
theorem h257_63 : code_ 257 63 = opIas 64 := rfl
theorem h257_64 : code_ 257 64 = opInc 2 1 67 := rfl
theorem h257_67 : code_ 257 67 = opGoto 41 := rfl
theorem h257_70 : code_ 257 70 = opAld 0 71 := rfl
theorem h257_71 : code_ 257 71 = opGR 8 0 1 113669 74 := rfl
theorem h257_74 : code_ 257 74 = opC (vI 2) 75 := rfl
theorem h257_75 : code_ 257 75 = opIal 76 := rfl
theorem h257_76 : code_ 257 76 = opIret := rfl
theorem h258_0 : code_ 258 0 = opIld 0 1 := rfl
theorem h258_1 : code_ 258 1 = opC (vI 0) 2 := rfl
theorem h258_2 : code_ 258 2 = opC (vI 999) 5 := rfl
theorem h258_5 : code_ 258 5 = opK kI 158 3 99 8 := rfl
theorem h258_8 : code_ 258 8 = opZret := rfl
theorem h259_0 : code_ 259 0 = opIld 1 1 := rfl
theorem h259_1 : code_ 259 1 = opK kI 258 1 99 4 := rfl
theorem h259_4 : code_ 259 4 = opIfEq 14 7 := rfl
theorem h259_7 : code_ 259 7 = opAld 0 8 := rfl
theorem h259_8 : code_ 259 8 = opK kI 235 1 8 11 := rfl
theorem h259_11 : code_ 259 11 = opIfNe 16 14 := rfl
theorem h259_14 : code_ 259 14 = opMask [0, 1] (opC (vI (-1)) 15) := rfl
theorem h259_15 : code_ 259 15 = opIret := rfl
theorem h259_16 : code_ 259 16 = opAld 0 17 := rfl
theorem h259_17 : code_ 259 17 = opK kV 256 1 8 20 := rfl
theorem h259_20 : code_ 259 20 = opAld 0 21 := rfl
theorem h259_21 : code_ 259 21 = opIld 1 22 := rfl
theorem h259_22 : code_ 259 22 = opK kI 237 2 8 25 := rfl
theorem h259_25 : code_ 259 25 = opIret := rfl
theorem h260_0 : code_ 260 0 = opAld 0 1 := rfl
theorem h260_1 : code_ 260 1 = opIld 1 2 := rfl
theorem h260_2 : code_ 260 2 = opK kI 238 2 8 5 := rfl
theorem h260_5 : code_ 260 5 = opIfNe 10 8 := rfl
theorem h260_8 : code_ 260 8 = opC (vI (-1)) 9 := rfl
theorem h260_9 : code_ 260 9 = opIret := rfl
theorem h260_10 : code_ 260 10 = opAld 0 11 := rfl
theorem h260_11 : code_ 260 11 = opK kV 256 1 8 14 := rfl
theorem h260_14 : code_ 260 14 = opAld 0 15 := rfl
theorem h260_15 : code_ 260 15 = opIld 1 16 := rfl
theorem h260_16 : code_ 260 16 = opK kI 239 2 8 19 := rfl
theorem h260_19 : code_ 260 19 = opIret := rfl
theorem h261_0 : code_ 261 0 = opIld 2 1 := rfl
theorem h261_1 : code_ 261 1 = opK kI 258 1 99 4 := rfl
theorem h261_4 : code_ 261 4 = opIfEq 15 7 := rfl
theorem h261_7 : code_ 261 7 = opAld 0 8 := rfl
theorem h261_8 : code_ 261 8 = opIld 1 9 := rfl
theorem h261_9 : code_ 261 9 = opK kI 238 2 8 12 := rfl
theorem h261_12 : code_ 261 12 = opIfNe 17 15 := rfl
theorem h261_15 : code_ 261 15 = opMask [0, 1, 2] (opC (vI 0) 16) := rfl
theorem h261_16 : code_ 261 16 = opZret := rfl
theorem h261_17 : code_ 261 17 = opAld 0 18 := rfl
theorem h261_18 : code_ 261 18 = opK kV 256 1 8 21 := rfl
theorem h261_21 : code_ 261 21 = opAld 0 22 := rfl
theorem h261_22 : code_ 261 22 = opGR 8 0 1 113669 25 := rfl
theorem h261_25 : code_ 261 25 = opC (vI 227) 28 := rfl
theorem h261_28 : code_ 261 28 = opC (vI 16) 30 := rfl
theorem h261_30 : code_ 261 30 = opAld 0 31 := rfl
theorem h261_31 : code_ 261 31 = opGR 8 0 1 113669 34 := rfl
theorem h261_34 : code_ 261 34 = opC (vI 11) 36 := rfl
theorem h261_36 : code_ 261 36 = opIld 1 37 := rfl
theorem h261_37 : code_ 261 37 = opC (vI 16) 39 := rfl
theorem h261_39 : code_ 261 39 = opBz (fun x y => x / y) 40 := rfl
theorem h261_40 : code_ 261 40 = opB (fun x y => x + y) 41 := rfl
theorem h261_41 : code_ 261 41 = opIal 42 := rfl
theorem h261_42 : code_ 261 42 = opB (fun x y => x * y) 43 := rfl
theorem h261_43 : code_ 261 43 = opB (fun x y => x + y) 44 := rfl
theorem h261_44 : code_ 261 44 = opIld 1 45 := rfl
theorem h261_45 : code_ 261 45 = opC (vI 16) 47 := rfl
theorem h261_47 : code_ 261 47 = opBz remI 48 := rfl
theorem h261_48 : code_ 261 48 = opB (fun x y => x + y) 49 := rfl
theorem h261_49 : code_ 261 49 = opIld 2 50 := rfl
theorem h261_50 : code_ 261 50 = opIas 51 := rfl
theorem h261_51 : code_ 261 51 = opC (vI 1) 52 := rfl
theorem h261_52 : code_ 261 52 = opZret := rfl
theorem h262_0 : code_ 262 0 = opIld 1 1 := rfl
theorem h262_1 : code_ 262 1 = opK kI 162 1 99 4 := rfl
theorem h262_4 : code_ 262 4 = opIfEq 27 7 := rfl
theorem h262_7 : code_ 262 7 = opIld 2 8 := rfl
theorem h262_8 : code_ 262 8 = opK kI 162 1 99 11 := rfl
theorem h262_11 : code_ 262 11 = opIfEq 27 14 := rfl
theorem h262_14 : code_ 262 14 = opAld 0 15 := rfl
theorem h262_15 : code_ 262 15 = opIld 1 16 := rfl
theorem h262_16 : code_ 262 16 = opIld 2 17 := rfl
theorem h262_17 : code_ 262 17 = opK kI 240 3 8 20 := rfl
theorem h262_20 : code_ 262 20 = opIfNe 27 23 := rfl
theorem h262_23 : code_ 262 23 = opC (vI 1) 24 := rfl
theorem h262_24 : code_ 262 24 = opGoto 28 := rfl
theorem h262_27 : code_ 262 27 = opMask [0, 1, 2] (opC (vI 0) 28) := rfl
theorem h262_28 : code_ 262 28 = opMask [0, 1, 2] (opZret) := rfl
theorem h263_0 : code_ 263 0 = opAld 0 1 := rfl
theorem h263_1 : code_ 263 1 = opIld 1 2 := rfl
theorem h263_2 : code_ 263 2 = opIld 2 3 := rfl
theorem h263_3 : code_ 263 3 = opK kI 262 3 8 6 := rfl
theorem h263_6 : code_ 263 6 = opIfNe 11 9 := rfl
theorem h263_9 : code_ 263 9 = opC (vI (-1)) 10 := rfl
theorem h263_10 : code_ 263 10 = opIret := rfl
theorem h263_11 : code_ 263 11 = opAld 0 12 := rfl
theorem h263_12 : code_ 263 12 = opK kV 256 1 8 15 := rfl
theorem h263_15 : code_ 263 15 = opAld 0 16 := rfl
theorem h263_16 : code_ 263 16 = opAld 0 17 := rfl
theorem h263_17 : code_ 263 17 = opGR 8 0 1 113669 20 := rfl
theorem h263_20 : code_ 263 20 = opC (vI 11) 22 := rfl
theorem h263_22 : code_ 263 22 = opIld 1 23 := rfl
theorem h263_23 : code_ 263 23 = opB (fun x y => x + y) 24 := rfl
theorem h263_24 : code_ 263 24 = opIal 25 := rfl
theorem h263_25 : code_ 263 25 = opAld 0 26 := rfl
theorem h263_26 : code_ 263 26 = opGR 8 0 1 113669 29 := rfl
theorem h263_29 : code_ 263 29 = opC (vI 11) 31 := rfl
theorem h263_31 : code_ 263 31 = opIld 2 32 := rfl
theorem h263_32 : code_ 263 32 = opB (fun x y => x + y) 33 := rfl
theorem h263_33 : code_ 263 33 = opIal 34 := rfl
theorem h263_34 : code_ 263 34 = opK kI 244 3 8 37 := rfl
theorem h263_37 : code_ 263 37 = opIret := rfl
theorem h264_0 : code_ 264 0 = opAld 0 1 := rfl
theorem h264_1 : code_ 264 1 = opGR 8 0 1 113669 4 := rfl
theorem h264_4 : code_ 264 4 = opC (vI 7) 6 := rfl
theorem h264_6 : code_ 264 6 = opIal 7 := rfl
theorem h264_7 : code_ 264 7 = opC (vI (-1)) 8 := rfl
theorem h264_8 : code_ 264 8 = opCpNe 20 11 := rfl
theorem h264_11 : code_ 264 11 = opAld 0 12 := rfl
theorem h264_12 : code_ 264 12 = opIld 1 13 := rfl
theorem h264_13 : code_ 264 13 = opIld 2 14 := rfl
theorem h264_14 : code_ 264 14 = opK kI 262 3 8 17 := rfl
theorem h264_17 : code_ 264 17 = opIfNe 22 20 := rfl
theorem h264_20 : code_ 264 20 = opMask [0, 1, 2] (opC (vI (-1)) 21) := rfl
theorem h264_21 : code_ 264 21 = opIret := rfl
theorem h264_22 : code_ 264 22 = opAld 0 23 := rfl
theorem h264_23 : code_ 264 23 = opK kV 256 1 8 26 := rfl
theorem h264_26 : code_ 264 26 = opAld 0 27 := rfl
theorem h264_27 : code_ 264 27 = opAld 0 28 := rfl
theorem h264_28 : code_ 264 28 = opGR 8 0 1 113669 31 := rfl
theorem h264_31 : code_ 264 31 = opC (vI 11) 33 := rfl
theorem h264_33 : code_ 264 33 = opIld 1 34 := rfl
theorem h264_34 : code_ 264 34 = opB (fun x y => x + y) 35 := rfl
theorem h264_35 : code_ 264 35 = opIal 36 := rfl
theorem h264_36 : code_ 264 36 = opAld 0 37 := rfl
theorem h264_37 : code_ 264 37 = opGR 8 0 1 113669 40 := rfl
theorem h264_40 : code_ 264 40 = opC (vI 11) 42 := rfl
theorem h264_42 : code_ 264 42 = opIld 2 43 := rfl
theorem h264_43 : code_ 264 43 = opB (fun x y => x + y) 44 := rfl
theorem h264_44 : code_ 264 44 = opIal 45 := rfl
theorem h264_45 : code_ 264 45 = opK kI 246 3 8 48 := rfl
theorem h264_48 : code_ 264 48 = opIret := rfl
theorem h265_0 : code_ 265 0 = opAld 0 1 := rfl
theorem h265_1 : code_ 265 1 = opGR 8 0 1 113669 4 := rfl
theorem h265_4 : code_ 265 4 = opC (vI 7) 6 := rfl
theorem h265_6 : code_ 265 6 = opIal 7 := rfl
theorem h265_7 : code_ 265 7 = opC (vI (-1)) 8 := rfl
theorem h265_8 : code_ 265 8 = opCpNe 13 11 := rfl
theorem h265_11 : code_ 265 11 = opC (vI (-1)) 12 := rfl
theorem h265_12 : code_ 265 12 = opIret := rfl
theorem h265_13 : code_ 265 13 = opAld 0 14 := rfl
theorem h265_14 : code_ 265 14 = opK kV 256 1 8 17 := rfl
theorem h265_17 : code_ 265 17 = opAld 0 18 := rfl
theorem h265_18 : code_ 265 18 = opK kI 248 1 8 21 := rfl
theorem h265_21 : code_ 265 21 = opIret := rfl
theorem h266_0 : code_ 266 0 = opAld 0 1 := rfl
theorem h266_1 : code_ 266 1 = opGR 8 0 1 113669 4 := rfl
theorem h266_4 : code_ 266 4 = opC (vI 7) 6 := rfl
theorem h266_6 : code_ 266 6 = opIal 7 := rfl
theorem h266_7 : code_ 266 7 = opC (vI (-1)) 8 := rfl
theorem h266_8 : code_ 266 8 = opCpNe 13 11 := rfl
theorem h266_11 : code_ 266 11 = opC (vI 0) 12 := rfl
theorem h266_12 : code_ 266 12 = opZret := rfl
theorem h266_13 : code_ 266 13 = opAld 0 14 := rfl
theorem h266_14 : code_ 266 14 = opK kV 256 1 8 17 := rfl
theorem h266_17 : code_ 266 17 = opAld 0 18 := rfl
theorem h266_18 : code_ 266 18 = opK kV 249 1 8 21 := rfl
theorem h266_21 : code_ 266 21 = opC (vI 1) 22 := rfl
theorem h266_22 : code_ 266 22 = opZret := rfl
theorem h267_0 : code_ 267 0 = opAld 0 1 := rfl
theorem h267_1 : code_ 267 1 = opK kV 256 1 8 4 := rfl
theorem h267_4 : code_ 267 4 = opAld 0 5 := rfl
theorem h267_5 : code_ 267 5 = opK kI 252 1 8 8 := rfl
theorem h267_8 : code_ 267 8 = opIret := rfl
theorem h268_0 : code_ 268 0 = opAld 0 1 := rfl
theorem h268_1 : code_ 268 1 = opC (vI 0) 2 := rfl
theorem h268_2 : code_ 268 2 = opPI 8 25 5 := rfl
theorem h268_5 : code_ 268 5 = opC (vI 0) 6 := rfl
theorem h268_6 : code_ 268 6 = opIst 2 7 := rfl
theorem h268_7 : code_ 268 7 = opIld 2 8 := rfl
theorem h268_8 : code_ 268 8 = opIld 1 9 := rfl
theorem h268_9 : code_ 268 9 = opCpGe 40 12 := rfl
theorem h268_12 : code_ 268 12 = opAld 0 13 := rfl
theorem h268_13 : code_ 268 13 = opGR 8 0 1 113669 16 := rfl
theorem h268_16 : code_ 268 16 = opC (vI 4) 17 := rfl
theorem h268_17 : code_ 268 17 = opIal 18 := rfl
theorem h268_18 : code_ 268 18 = opC (vI 9999) 21 := rfl
theorem h268_21 : code_ 268 21 = opCpNe 26 24 := rfl
theorem h268_24 : code_ 268 24 = opC (vI 0) 25 := rfl
theorem h268_25 : code_ 268 25 = opZret := rfl
theorem h268_26 : code_ 268 26 = opAld 0 27 := rfl
theorem h268_27 : code_ 268 27 = opK kV 256 1 8 30 := rfl
theorem h268_30 : code_ 268 30 = opAld 0 31 := rfl
theorem h268_31 : code_ 268 31 = opK kV 254 1 8 34 := rfl
theorem h268_34 : code_ 268 34 = opInc 2 1 37 := rfl
theorem h268_37 : code_ 268 37 = opGoto 7 := rfl
theorem h268_40 : code_ 268 40 = opC (vI 1) 41 := rfl
theorem h268_41 : code_ 268 41 = opZret := rfl
theorem h269_0 : code_ 269 0 = opIld 1 1 := rfl
theorem h269_1 : code_ 269 1 = opC (vI 1) 2 := rfl
theorem h269_2 : code_ 269 2 = opC (vI 60) 4 := rfl
theorem h269_4 : code_ 269 4 = opK kI 158 3 99 7 := rfl
theorem h269_7 : code_ 269 7 = opIfEq 39 10 := rfl
theorem h269_10 : code_ 269 10 = opAld 0 11 := rfl
theorem h269_11 : code_ 269 11 = opGR 8 0 1 113669 14 := rfl
theorem h269_14 : code_ 269 14 = opC (vI 4) 15 := rfl
theorem h269_15 : code_ 269 15 = opIal 16 := rfl
theorem h269_16 : code_ 269 16 = opIld 1 17 := rfl
theorem h269_17 : code_ 269 17 = opB (fun x y => x + y) 18 := rfl
theorem h269_18 : code_ 269 18 = opC (vI 9999) 21 := rfl
theorem h269_21 : code_ 269 21 = opCpGt 39 24 := rfl
theorem h269_24 : code_ 269 24 = opAld 0 25 := rfl
theorem h269_25 : code_ 269 25 = opIld 1 26 := rfl
theorem h269_26 : code_ 269 26 = opK kI 268 2 8 29 := rfl
theorem h269_29 : code_ 269 29 = opIfEq 39 32 := rfl
theorem h269_32 : code_ 269 32 = opAld 0 33 := rfl
theorem h269_33 : code_ 269 33 = opGI 8 25 36 := rfl
theorem h269_36 : code_ 269 36 = opGoto 40 := rfl
theorem h269_39 : code_ 269 39 = opMask [0, 1] (opC (vI (-1)) 40) := rfl
theorem h269_40 : code_ 269 40 = opMask [0, 1] (opIret) := rfl
theorem h270_0 : code_ 270 0 = opAld 0 1 := rfl
theorem h270_1 : code_ 270 1 = opGR 8 2 3 102724 4 := rfl
theorem h270_4 : code_ 270 4 = opIld 1 5 := rfl
theorem h270_5 : code_ 270 5 = opC (vI 1) 6 := rfl
theorem h270_6 : code_ 270 6 = opB (fun x y => x + y) 7 := rfl
theorem h270_7 : code_ 270 7 = opIal 8 := rfl
theorem h270_8 : code_ 270 8 = opIst 2 9 := rfl
theorem h270_9 : code_ 270 9 = opAld 0 10 := rfl
theorem h270_10 : code_ 270 10 = opGR 8 2 3 102724 13 := rfl
theorem h270_13 : code_ 270 13 = opIld 1 14 := rfl
theorem h270_14 : code_ 270 14 = opC (vI 2) 15 := rfl
theorem h270_15 : code_ 270 15 = opB (fun x y => x + y) 16 := rfl
theorem h270_16 : code_ 270 16 = opIal 17 := rfl
theorem h270_17 : code_ 270 17 = opIst 3 18 := rfl
theorem h270_18 : code_ 270 18 = opAld 0 19 := rfl
theorem h270_19 : code_ 270 19 = opGR 8 2 3 102724 22 := rfl
theorem h270_22 : code_ 270 22 = opIld 1 23 := rfl
theorem h270_23 : code_ 270 23 = opIal 24 := rfl
theorem h270_24 : code_ 270 24 = opSw 133 [(2, 64), (3, 78), (4, 92), (5, 99), (6, 114), (7, 127)] := rfl
theorem h270_64 : code_ 270 64 = opAld 0 65 := rfl
theorem h270_65 : code_ 270 65 = opIld 2 66 := rfl
theorem h270_66 : code_ 270 66 = opK kI 259 2 8 69 := rfl
theorem h270_69 : code_ 270 69 = opIfLt 76 72 := rfl
theorem h270_72 : code_ 270 72 = opC (vI 1) 73 := rfl
theorem h270_73 : code_ 270 73 = opGoto 77 := rfl
theorem h270_76 : code_ 270 76 = opC (vI 0) 77 := rfl
theorem h270_77 : code_ 270 77 = opMask [0, 1, 2, 3] (opZret) := rfl
theorem h270_78 : code_ 270 78 = opAld 0 79 := rfl
theorem h270_79 : code_ 270 79 = opIld 2 80 := rfl
theorem h270_80 : code_ 270 80 = opK kI 260 2 8 83 := rfl
theorem h270_83 : code_ 270 83 = opIfLt 90 86 := rfl
theorem h270_86 : code_ 270 86 = opC (vI 1) 87 := rfl
theorem h270_87 : code_ 270 87 = opGoto 91 := rfl
theorem h270_90 : code_ 270 90 = opC (vI 0) 91 := rfl
theorem h270_91 : code_ 270 91 = opMask [0, 1, 2, 3] (opZret) := rfl
theorem h270_92 : code_ 270 92 = opAld 0 93 := rfl
theorem h270_93 : code_ 270 93 = opIld 3 94 := rfl
theorem h270_94 : code_ 270 94 = opIld 2 95 := rfl
theorem h270_95 : code_ 270 95 = opK kI 261 3 8 98 := rfl
theorem h270_98 : code_ 270 98 = opZret := rfl
theorem h270_99 : code_ 270 99 = opAld 0 100 := rfl
theorem h270_100 : code_ 270 100 = opIld 2 101 := rfl
theorem h270_101 : code_ 270 101 = opIld 3 102 := rfl
theorem h270_102 : code_ 270 102 = opK kI 263 3 8 105 := rfl
theorem h270_105 : code_ 270 105 = opIfLt 112 108 := rfl
theorem h270_108 : code_ 270 108 = opC (vI 1) 109 := rfl
theorem h270_109 : code_ 270 109 = opGoto 113 := rfl
theorem h270_112 : code_ 270 112 = opC (vI 0) 113 := rfl
theorem h270_113 : code_ 270 113 = opMask [0, 1, 2, 3] (opZret) := rfl
theorem h270_114 : code_ 270 114 = opAld 0 115 := rfl
theorem h270_115 : code_ 270 115 = opK kI 267 1 8 118 := rfl
theorem h270_118 : code_ 270 118 = opIfLt 125 121 := rfl
theorem h270_121 : code_ 270 121 = opC (vI 1) 122 := rfl
theorem h270_122 : code_ 270 122 = opGoto 126 := rfl
theorem h270_125 : code_ 270 125 = opC (vI 0) 126 := rfl
theorem h270_126 : code_ 270 126 = opMask [0, 1, 2, 3] (opZret) := rfl
theorem h270_127 : code_ 270 127 = opAld 0 128 := rfl
theorem h270_128 : code_ 270 128 = opIld 2 129 := rfl
theorem h270_129 : code_ 270 129 = opK kI 268 2 8 132 := rfl
theorem h270_132 : code_ 270 132 = opZret := rfl
theorem h270_133 : code_ 270 133 = opC (vI 1) 134 := rfl
theorem h270_134 : code_ 270 134 = opZret := rfl
theorem h271_0 : code_ 271 0 = opIld 1 1 := rfl
theorem h271_1 : code_ 271 1 = opC (vI 0) 2 := rfl
theorem h271_2 : code_ 271 2 = opAld 0 3 := rfl
theorem h271_3 : code_ 271 3 = opGR 8 0 1 113669 6 := rfl
theorem h271_6 : code_ 271 6 = opC (vI 0) 7 := rfl
theorem h271_7 : code_ 271 7 = opIal 8 := rfl
theorem h271_8 : code_ 271 8 = opC (vI 1) 9 := rfl
theorem h271_9 : code_ 271 9 = opB (fun x y => x - y) 10 := rfl
theorem h271_10 : code_ 271 10 = opK kI 158 3 99 13 := rfl
theorem h271_13 : code_ 271 13 = opIfNe 19 16 := rfl
theorem h271_16 : code_ 271 16 = opC (vI (-2)) 18 := rfl
theorem h271_18 : code_ 271 18 = opIret := rfl
theorem h271_19 : code_ 271 19 = opC (vI 0) 20 := rfl
theorem h271_20 : code_ 271 20 = opIst 2 21 := rfl
theorem h271_21 : code_ 271 21 = opIld 2 22 := rfl
theorem h271_22 : code_ 271 22 = opAld 0 23 := rfl
theorem h271_23 : code_ 271 23 = opGR 8 2 3 102724 26 := rfl
theorem h271_26 : code_ 271 26 = opC (vI 681) 29 := rfl
theorem h271_29 : code_ 271 29 = opIld 1 30 := rfl
theorem h271_30 : code_ 271 30 = opB (fun x y => x * y) 31 := rfl
theorem h271_31 : code_ 271 31 = opIal 32 := rfl
theorem h271_32 : code_ 271 32 = opCpGe 61 35 := rfl
theorem h271_35 : code_ 271 35 = opAld 0 36 := rfl
theorem h271_36 : code_ 271 36 = opC (vI 681) 39 := rfl
theorem h271_39 : code_ 271 39 = opIld 1 40 := rfl
theorem h271_40 : code_ 271 40 = opB (fun x y => x * y) 41 := rfl
theorem h271_41 : code_ 271 41 = opC (vI 1) 42 := rfl
theorem h271_42 : code_ 271 42 = opB (fun x y => x + y) 43 := rfl
theorem h271_43 : code_ 271 43 = opC (vI 3) 44 := rfl
theorem h271_44 : code_ 271 44 = opIld 2 45 := rfl
theorem h271_45 : code_ 271 45 = opB (fun x y => x * y) 46 := rfl
theorem h271_46 : code_ 271 46 = opB (fun x y => x + y) 47 := rfl
theorem h271_47 : code_ 271 47 = opK kI 270 2 8 50 := rfl
theorem h271_50 : code_ 271 50 = opIfNe 55 53 := rfl
theorem h271_53 : code_ 271 53 = opIld 2 54 := rfl
theorem h271_54 : code_ 271 54 = opIret := rfl
theorem h271_55 : code_ 271 55 = opInc 2 1 58 := rfl
theorem h271_58 : code_ 271 58 = opGoto 21 := rfl
theorem h271_61 : code_ 271 61 = opC (vI (-1)) 62 := rfl
theorem h271_62 : code_ 271 62 = opIret := rfl
theorem h272_0 : code_ 272 0 = opIld 1 1 := rfl
theorem h272_1 : code_ 272 1 = opC (vI 0) 2 := rfl
theorem h272_2 : code_ 272 2 = opC (vI 9999) 5 := rfl
theorem h272_5 : code_ 272 5 = opK kI 158 3 99 8 := rfl
theorem h272_8 : code_ 272 8 = opIfEq 21 11 := rfl
theorem h272_11 : code_ 272 11 = opIld 2 12 := rfl
theorem h272_12 : code_ 272 12 = opC (vI 1) 13 := rfl
theorem h272_13 : code_ 272 13 = opC (vI 40) 15 := rfl
theorem h272_15 : code_ 272 15 = opK kI 158 3 99 18 := rfl
theorem h272_18 : code_ 272 18 = opIfNe 23 21 := rfl
theorem h272_21 : code_ 272 21 = opMask [0, 1, 2, 3] (opC (vI (-1)) 22) := rfl
theorem h272_22 : code_ 272 22 = opIret := rfl
theorem h272_23 : code_ 272 23 = opAld 0 24 := rfl
theorem h272_24 : code_ 272 24 = opK kV 256 1 8 27 := rfl
theorem h272_27 : code_ 272 27 = opAld 0 28 := rfl
theorem h272_28 : code_ 272 28 = opGR 8 0 1 113669 31 := rfl
theorem h272_31 : code_ 272 31 = opC (vI 5) 32 := rfl
theorem h272_32 : code_ 272 32 = opIld 1 33 := rfl
theorem h272_33 : code_ 272 33 = opC (vI 2) 34 := rfl
theorem h272_34 : code_ 272 34 = opB (fun x y => x * y) 35 := rfl
theorem h272_35 : code_ 272 35 = opC (vI 503) 38 := rfl
theorem h272_38 : code_ 272 38 = opB (fun x y => x + y) 39 := rfl
theorem h272_39 : code_ 272 39 = opIas 40 := rfl
theorem h272_40 : code_ 272 40 = opC (vI 0) 41 := rfl
theorem h272_41 : code_ 272 41 = opIst 3 42 := rfl
theorem h272_42 : code_ 272 42 = opMask [1] (opIld 3 43) := rfl
theorem h272_43 : code_ 272 43 = opIld 2 44 := rfl
theorem h272_44 : code_ 272 44 = opCpGe 69 47 := rfl
theorem h272_47 : code_ 272 47 = opAld 0 48 := rfl
theorem h272_48 : code_ 272 48 = opGR 8 0 1 113669 51 := rfl
theorem h272_51 : code_ 272 51 = opC (vI 4) 52 := rfl
theorem h272_52 : code_ 272 52 = opIal 53 := rfl
theorem h272_53 : code_ 272 53 = opC (vI 9999) 56 := rfl
theorem h272_56 : code_ 272 56 = opCpGe 63 59 := rfl
theorem h272_59 : code_ 272 59 = opAld 0 60 := rfl
theorem h272_60 : code_ 272 60 = opK kV 254 1 8 63 := rfl
theorem h272_63 : code_ 272 63 = opMask [1] (opInc 3 1 66) := rfl
theorem h272_66 : code_ 272 66 = opGoto 42 := rfl
theorem h272_69 : code_ 272 69 = opAld 0 70 := rfl
theorem h272_70 : code_ 272 70 = opGR 8 0 1 113669 73 := rfl
theorem h272_73 : code_ 272 73 = opC (vI 4) 74 := rfl
theorem h272_74 : code_ 272 74 = opIal 75 := rfl
theorem h272_75 : code_ 272 75 = opIret := rfl
theorem h273_0 : code_ 273 0 = opAld 0 1 := rfl
theorem h273_1 : code_ 273 1 = opIld 1 2 := rfl
theorem h273_2 : code_ 273 2 = opK kI 174 2 8 5 := rfl
theorem h273_5 : code_ 273 5 = opIfEq 31 8 := rfl
theorem h273_8 : code_ 273 8 = opAld 0 9 := rfl
theorem h273_9 : code_ 273 9 = opAld 0 10 := rfl
theorem h273_10 : code_ 273 10 = opGR 8 0 1 113669 13 := rfl
theorem h273_13 : code_ 273 13 = opC (vI 11) 15 := rfl
theorem h273_15 : code_ 273 15 = opIld 1 16 := rfl
theorem h273_16 : code_ 273 16 = opC (vI 16) 18 := rfl
theorem h273_18 : code_ 273 18 = opBz (fun x y => x / y) 19 := rfl
theorem h273_19 : code_ 273 19 = opB (fun x y => x + y) 20 := rfl
theorem h273_20 : code_ 273 20 = opIal 21 := rfl
theorem h273_21 : code_ 273 21 = opIld 1 22 := rfl
theorem h273_22 : code_ 273 22 = opC (vI 16) 24 := rfl
theorem h273_24 : code_ 273 24 = opBz remI 25 := rfl
theorem h273_25 : code_ 273 25 = opK kI 175 3 8 28 := rfl
theorem h273_28 : code_ 273 28 = opGoto 32 := rfl
theorem h273_31 : code_ 273 31 = opC (vI (-1)) 32 := rfl
theorem h273_32 : code_ 273 32 = opMask [0, 1] (opIret) := rfl
theorem h274_0 : code_ 274 0 = opIld 1 1 := rfl
theorem h274_1 : code_ 274 1 = opK kI 162 1 99 4 := rfl
theorem h274_4 : code_ 274 4 = opIfNe 10 7 := rfl
theorem h274_7 : code_ 274 7 = opC (vI (-2)) 9 := rfl
theorem h274_9 : code_ 274 9 = opIret := rfl
theorem h274_10 : code_ 274 10 = opAld 0 11 := rfl
theorem h274_11 : code_ 274 11 = opIld 1 12 := rfl
theorem h274_12 : code_ 274 12 = opK kI 163 2 8 15 := rfl
theorem h274_15 : code_ 274 15 = opIfEq 30 18 := rfl
theorem h274_18 : code_ 274 18 = opAld 0 19 := rfl
theorem h274_19 : code_ 274 19 = opGR 8 0 1 113669 22 := rfl
theorem h274_22 : code_ 274 22 = opC (vI 23) 24 := rfl
theorem h274_24 : code_ 274 24 = opIld 1 25 := rfl
theorem h274_25 : code_ 274 25 = opB (fun x y => x + y) 26 := rfl
theorem h274_26 : code_ 274 26 = opIal 27 := rfl
theorem h274_27 : code_ 274 27 = opGoto 31 := rfl
theorem h274_30 : code_ 274 30 = opC (vI 0) 31 := rfl
theorem h274_31 : code_ 274 31 = opMask [3] (opIst 3 32) := rfl
theorem h274_32 : code_ 274 32 = opIld 2 33 := rfl
theorem h274_33 : code_ 274 33 = opSw 113 [(0, 68), (1, 78), (2, 80), (3, 85), (4, 107)] := rfl
theorem h274_68 : code_ 274 68 = opAld 0 69 := rfl
theorem h274_69 : code_ 274 69 = opGR 8 0 1 113669 72 := rfl
theorem h274_72 : code_ 274 72 = opC (vI 11) 74 := rfl
theorem h274_74 : code_ 274 74 = opIld 1 75 := rfl
theorem h274_75 : code_ 274 75 = opB (fun x y => x + y) 76 := rfl
theorem h274_76 : code_ 274 76 = opIal 77 := rfl
theorem h274_77 : code_ 274 77 = opIret := rfl
theorem h274_78 : code_ 274 78 = opIld 3 79 := rfl
theorem h274_79 : code_ 274 79 = opIret := rfl
theorem h274_80 : code_ 274 80 = opIld 3 81 := rfl
theorem h274_81 : code_ 274 81 = opK kI 161 1 99 84 := rfl
theorem h274_84 : code_ 274 84 = opIret := rfl
theorem h274_85 : code_ 274 85 = opAld 0 86 := rfl
theorem h274_86 : code_ 274 86 = opIld 1 87 := rfl
theorem h274_87 : code_ 274 87 = opK kI 163 2 8 90 := rfl
theorem h274_90 : code_ 274 90 = opIfEq 105 93 := rfl
theorem h274_93 : code_ 274 93 = opAld 0 94 := rfl
theorem h274_94 : code_ 274 94 = opIld 1 95 := rfl
theorem h274_95 : code_ 274 95 = opK kI 171 2 8 98 := rfl
theorem h274_98 : code_ 274 98 = opIfEq 105 101 := rfl
theorem h274_101 : code_ 274 101 = opC (vI 1) 102 := rfl
theorem h274_102 : code_ 274 102 = opGoto 106 := rfl
theorem h274_105 : code_ 274 105 = opMask [0, 1, 2, 3] (opC (vI 0) 106) := rfl
theorem h274_106 : code_ 274 106 = opMask [0, 1, 2, 3] (opIret) := rfl
theorem h274_107 : code_ 274 107 = opAld 0 108 := rfl
theorem h274_108 : code_ 274 108 = opIld 1 109 := rfl
theorem h274_109 : code_ 274 109 = opK kI 231 2 8 112 := rfl
theorem h274_112 : code_ 274 112 = opIret := rfl
theorem h274_113 : code_ 274 113 = opC (vI (-2)) 115 := rfl
theorem h274_115 : code_ 274 115 = opIret := rfl
theorem h275_0 : code_ 275 0 = opAld 0 1 := rfl
theorem h275_1 : code_ 275 1 = opIld 1 2 := rfl
theorem h275_2 : code_ 275 2 = opK kI 163 2 8 5 := rfl
theorem h275_5 : code_ 275 5 = opIfEq 35 8 := rfl
theorem h275_8 : code_ 275 8 = opIld 2 9 := rfl
theorem h275_9 : code_ 275 9 = opC (vI 0) 10 := rfl
theorem h275_10 : code_ 275 10 = opC (vI 15) 12 := rfl
theorem h275_12 : code_ 275 12 = opK kI 158 3 99 15 := rfl
theorem h275_15 : code_ 275 15 = opIfEq 35 18 := rfl
theorem h275_18 : code_ 275 18 = opAld 0 19 := rfl
theorem h275_19 : code_ 275 19 = opGR 8 0 1 113669 22 := rfl
theorem h275_22 : code_ 275 22 = opC (vI 35) 24 := rfl
theorem h275_24 : code_ 275 24 = opC (vI 16) 26 := rfl
theorem h275_26 : code_ 275 26 = opIld 1 27 := rfl
theorem h275_27 : code_ 275 27 = opB (fun x y => x * y) 28 := rfl
theorem h275_28 : code_ 275 28 = opB (fun x y => x + y) 29 := rfl
theorem h275_29 : code_ 275 29 = opIld 2 30 := rfl
theorem h275_30 : code_ 275 30 = opB (fun x y => x + y) 31 := rfl
theorem h275_31 : code_ 275 31 = opIal 32 := rfl
theorem h275_32 : code_ 275 32 = opGoto 36 := rfl
theorem h275_35 : code_ 275 35 = opMask [0, 1, 2] (opC (vI (-1)) 36) := rfl
theorem h275_36 : code_ 275 36 = opMask [0, 1, 2] (opIret) := rfl
theorem h276_0 : code_ 276 0 = opIld 1 1 := rfl
theorem h276_1 : code_ 276 1 = opK kI 162 1 99 4 := rfl
theorem h276_4 : code_ 276 4 = opIfNe 12 7 := rfl
theorem h276_7 : code_ 276 7 = opC (vI (-2)) 9 := rfl
theorem h276_9 : code_ 276 9 = opGoto 39 := rfl
theorem h276_12 : code_ 276 12 = opIld 2 13 := rfl
theorem h276_13 : code_ 276 13 = opIfNe 24 16 := rfl
theorem h276_16 : code_ 276 16 = opAld 0 17 := rfl
theorem h276_17 : code_ 276 17 = opIld 1 18 := rfl
theorem h276_18 : code_ 276 18 = opK kI 165 2 8 21 := rfl
theorem h276_21 : code_ 276 21 = opGoto 39 := rfl
theorem h276_24 : code_ 276 24 = opIld 2 25 := rfl
theorem h276_25 : code_ 276 25 = opC (vI 1) 26 := rfl
theorem h276_26 : code_ 276 26 = opCpNe 37 29 := rfl
theorem h276_29 : code_ 276 29 = opAld 0 30 := rfl
theorem h276_30 : code_ 276 30 = opIld 1 31 := rfl
theorem h276_31 : code_ 276 31 = opK kI 166 2 8 34 := rfl
theorem h276_34 : code_ 276 34 = opGoto 39 := rfl
theorem h276_37 : code_ 276 37 = opC (vI (-2)) 39 := rfl
theorem h276_39 : code_ 276 39 = opMask [0, 1, 2] (opIret) := rfl
theorem h277_0 : code_ 277 0 = opIld 1 1 := rfl
theorem h277_1 : code_ 277 1 = opSw 80 [(0, 40), (1, 47), (2, 54), (3, 62), (4, 67), (5, 75)] := rfl
theorem h277_40 : code_ 277 40 = opAld 0 41 := rfl
theorem h277_41 : code_ 277 41 = opGR 8 0 1 113669 44 := rfl
theorem h277_44 : code_ 277 44 = opC (vI 4) 45 := rfl
theorem h277_45 : code_ 277 45 = opIal 46 := rfl
theorem h277_46 : code_ 277 46 = opIret := rfl
theorem h277_47 : code_ 277 47 = opAld 0 48 := rfl
theorem h277_48 : code_ 277 48 = opGR 8 0 1 113669 51 := rfl
theorem h277_51 : code_ 277 51 = opC (vI 5) 52 := rfl
theorem h277_52 : code_ 277 52 = opIal 53 := rfl
theorem h277_53 : code_ 277 53 = opIret := rfl
theorem h277_54 : code_ 277 54 = opAld 0 55 := rfl
theorem h277_55 : code_ 277 55 = opK kI 168 1 8 58 := rfl
theorem h277_58 : code_ 277 58 = opK kI 161 1 99 61 := rfl
theorem h277_61 : code_ 277 61 = opIret := rfl
theorem h277_62 : code_ 277 62 = opAld 0 63 := rfl
theorem h277_63 : code_ 277 63 = opK kI 170 1 8 66 := rfl
theorem h277_66 : code_ 277 66 = opIret := rfl
theorem h277_67 : code_ 277 67 = opAld 0 68 := rfl
theorem h277_68 : code_ 277 68 = opGR 8 0 1 113669 71 := rfl
theorem h277_71 : code_ 277 71 = opC (vI 6) 73 := rfl
theorem h277_73 : code_ 277 73 = opIal 74 := rfl
theorem h277_74 : code_ 277 74 = opIret := rfl
theorem h277_75 : code_ 277 75 = opAld 0 76 := rfl
theorem h277_76 : code_ 277 76 = opK kI 169 1 8 79 := rfl
theorem h277_79 : code_ 277 79 = opIret := rfl
theorem h277_80 : code_ 277 80 = opC (vI (-2)) 82 := rfl
theorem h277_82 : code_ 277 82 = opIret := rfl
theorem h278_0 : code_ 278 0 = opAld 0 1 := rfl
theorem h278_1 : code_ 278 1 = opGR 8 0 1 113669 4 := rfl
theorem h278_4 : code_ 278 4 = opC (vI 419) 7 := rfl
theorem h278_7 : code_ 278 7 = opIld 1 8 := rfl
theorem h278_8 : code_ 278 8 = opB (fun x y => x + y) 9 := rfl
theorem h278_9 : code_ 278 9 = opIal 10 := rfl
theorem h278_10 : code_ 278 10 = opIst 3 11 := rfl
theorem h278_11 : code_ 278 11 = opIld 2 12 := rfl
theorem h278_12 : code_ 278 12 = opIfNe 23 15 := rfl
theorem h278_15 : code_ 278 15 = opIld 3 16 := rfl
theorem h278_16 : code_ 278 16 = opC (vI 720) 19 := rfl
theorem h278_19 : code_ 278 19 = opBz (fun x y => x / y) 20 := rfl
theorem h278_20 : code_ 278 20 = opGoto 57 := rfl
theorem h278_23 : code_ 278 23 = opIld 2 24 := rfl
theorem h278_24 : code_ 278 24 = opC (vI 1) 25 := rfl
theorem h278_25 : code_ 278 25 = opCpNe 38 28 := rfl
theorem h278_28 : code_ 278 28 = opIld 3 29 := rfl
theorem h278_29 : code_ 278 29 = opC (vI 144) 32 := rfl
theorem h278_32 : code_ 278 32 = opBz (fun x y => x / y) 33 := rfl
theorem h278_33 : code_ 278 33 = opC (vI 5) 34 := rfl
theorem h278_34 : code_ 278 34 = opBz remI 35 := rfl
theorem h278_35 : code_ 278 35 = opGoto 57 := rfl
theorem h278_38 : code_ 278 38 = opIld 2 39 := rfl
theorem h278_39 : code_ 278 39 = opC (vI 2) 40 := rfl
theorem h278_40 : code_ 278 40 = opCpNe 53 43 := rfl
theorem h278_43 : code_ 278 43 = opIld 3 44 := rfl
theorem h278_44 : code_ 278 44 = opC (vI 12) 46 := rfl
theorem h278_46 : code_ 278 46 = opBz (fun x y => x / y) 47 := rfl
theorem h278_47 : code_ 278 47 = opC (vI 12) 49 := rfl
theorem h278_49 : code_ 278 49 = opBz remI 50 := rfl
theorem h278_50 : code_ 278 50 = opGoto 57 := rfl
theorem h278_53 : code_ 278 53 = opIld 3 54 := rfl
theorem h278_54 : code_ 278 54 = opC (vI 12) 56 := rfl
theorem h278_56 : code_ 278 56 = opBz remI 57 := rfl
theorem h278_57 : code_ 278 57 = opMask [0, 1, 2, 3] (opIret) := rfl
theorem h279_0 : code_ 279 0 = opIld 1 1 := rfl
theorem h279_1 : code_ 279 1 = opC (vI (-1)) 2 := rfl
theorem h279_2 : code_ 279 2 = opCpNe 13 5 := rfl
theorem h279_5 : code_ 279 5 = opAld 0 6 := rfl
theorem h279_6 : code_ 279 6 = opGR 8 0 1 113669 9 := rfl
theorem h279_9 : code_ 279 9 = opC (vI 10) 11 := rfl
theorem h279_11 : code_ 279 11 = opIal 12 := rfl
theorem h279_12 : code_ 279 12 = opIret := rfl
theorem h279_13 : code_ 279 13 = opIld 1 14 := rfl
theorem h279_14 : code_ 279 14 = opC (vI 0) 15 := rfl
theorem h279_15 : code_ 279 15 = opAld 0 16 := rfl
theorem h279_16 : code_ 279 16 = opGR 8 0 1 113669 19 := rfl
theorem h279_19 : code_ 279 19 = opC (vI 10) 21 := rfl
theorem h279_21 : code_ 279 21 = opIal 22 := rfl
theorem h279_22 : code_ 279 22 = opC (vI 1) 23 := rfl
theorem h279_23 : code_ 279 23 = opB (fun x y => x - y) 24 := rfl
theorem h279_24 : code_ 279 24 = opK kI 158 3 99 27 := rfl
theorem h279_27 : code_ 279 27 = opIfEq 48 30 := rfl
theorem h279_30 : code_ 279 30 = opIld 2 31 := rfl
theorem h279_31 : code_ 279 31 = opC (vI 0) 32 := rfl
theorem h279_32 : code_ 279 32 = opC (vI 3) 33 := rfl
theorem h279_33 : code_ 279 33 = opK kI 158 3 99 36 := rfl
theorem h279_36 : code_ 279 36 = opIfEq 48 39 := rfl
theorem h279_39 : code_ 279 39 = opAld 0 40 := rfl
theorem h279_40 : code_ 279 40 = opIld 1 41 := rfl
theorem h279_41 : code_ 279 41 = opIld 2 42 := rfl
theorem h279_42 : code_ 279 42 = opK kI 278 3 8 45 := rfl
theorem h279_45 : code_ 279 45 = opGoto 50 := rfl
theorem h279_48 : code_ 279 48 = opMask [0, 1, 2] (opC (vI (-2)) 50) := rfl
theorem h279_50 : code_ 279 50 = opMask [0, 1, 2] (opIret) := rfl
theorem h280_0 : code_ 280 0 = opIld 1 1 := rfl
theorem h280_1 : code_ 280 1 = opC (vI 0) 2 := rfl
theorem h280_2 : code_ 280 2 = opC (vI 4) 3 := rfl
theorem h280_3 : code_ 280 3 = opK kI 158 3 99 6 := rfl
theorem h280_6 : code_ 280 6 = opIfNe 12 9 := rfl
theorem h280_9 : code_ 280 9 = opC (vI (-2)) 11 := rfl
theorem h280_11 : code_ 280 11 = opIret := rfl
theorem h280_12 : code_ 280 12 = opC (vI 0) 13 := rfl
theorem h280_13 : code_ 280 13 = opIst 2 14 := rfl
theorem h280_14 : code_ 280 14 = opC (vI 0) 15 := rfl
theorem h280_15 : code_ 280 15 = opIst 3 16 := rfl
theorem h280_16 : code_ 280 16 = opIld 3 17 := rfl
theorem h280_17 : code_ 280 17 = opAld 0 18 := rfl
theorem h280_18 : code_ 280 18 = opGR 8 0 1 113669 21 := rfl
theorem h280_21 : code_ 280 21 = opC (vI 10) 23 := rfl
theorem h280_23 : code_ 280 23 = opIal 24 := rfl
theorem h280_24 : code_ 280 24 = opCpGe 51 27 := rfl
theorem h280_27 : code_ 280 27 = opIld 2 28 := rfl
theorem h280_28 : code_ 280 28 = opAld 0 29 := rfl
theorem h280_29 : code_ 280 29 = opIld 3 30 := rfl
theorem h280_30 : code_ 280 30 = opC (vI 1) 31 := rfl
theorem h280_31 : code_ 280 31 = opK kI 278 3 8 34 := rfl
theorem h280_34 : code_ 280 34 = opIld 1 35 := rfl
theorem h280_35 : code_ 280 35 = opCpNe 42 38 := rfl
theorem h280_38 : code_ 280 38 = opC (vI 1) 39 := rfl
theorem h280_39 : code_ 280 39 = opGoto 43 := rfl
theorem h280_42 : code_ 280 42 = opC (vI 0) 43 := rfl
theorem h280_43 : code_ 280 43 = opMask [2] (opB (fun x y => x + y) 44) := rfl
theorem h280_44 : code_ 280 44 = opIst 2 45 := rfl
theorem h280_45 : code_ 280 45 = opInc 3 1 48 := rfl
theorem h280_48 : code_ 280 48 = opGoto 16 := rfl
theorem h280_51 : code_ 280 51 = opIld 2 52 := rfl
theorem h280_52 : code_ 280 52 = opIret := rfl
theorem h281_0 : code_ 281 0 = opC (vI 0) 1 := rfl
theorem h281_1 : code_ 281 1 = opIst 1 2 := rfl
theorem h281_2 : code_ 281 2 = opIld 1 3 := rfl
theorem h281_3 : code_ 281 3 = opC (vI 440) 6 := rfl
theorem h281_6 : code_ 281 6 = opCpGe 29 9 := rfl
theorem h281_9 : code_ 281 9 = opAld 0 10 := rfl
theorem h281_10 : code_ 281 10 = opGR 8 26 11 100440 13 := rfl
theorem h281_13 : code_ 281 13 = opIld 1 14 := rfl
theorem h281_14 : code_ 281 14 = opAld 0 15 := rfl
theorem h281_15 : code_ 281 15 = opGR 8 0 1 113669 18 := rfl
theorem h281_18 : code_ 281 18 = opC (vI 4) 19 := rfl
theorem h281_19 : code_ 281 19 = opIld 1 20 := rfl
theorem h281_20 : code_ 281 20 = opB (fun x y => x + y) 21 := rfl
theorem h281_21 : code_ 281 21 = opIal 22 := rfl
theorem h281_22 : code_ 281 22 = opIas 23 := rfl
theorem h281_23 : code_ 281 23 = opInc 1 1 26 := rfl
theorem h281_26 : code_ 281 26 = opGoto 2 := rfl
theorem h281_29 : code_ 281 29 = opRet := rfl
theorem h282_0 : code_ 282 0 = opC (vI 0) 1 := rfl
theorem h282_1 : code_ 282 1 = opIst 1 2 := rfl
theorem h282_2 : code_ 282 2 = opIld 1 3 := rfl
theorem h282_3 : code_ 282 3 = opC (vI 440) 6 := rfl
theorem h282_6 : code_ 282 6 = opCpGe 29 9 := rfl
theorem h282_9 : code_ 282 9 = opAld 0 10 := rfl
theorem h282_10 : code_ 282 10 = opGR 8 0 1 113669 13 := rfl
theorem h282_13 : code_ 282 13 = opC (vI 4) 14 := rfl
theorem h282_14 : code_ 282 14 = opIld 1 15 := rfl
theorem h282_15 : code_ 282 15 = opB (fun x y => x + y) 16 := rfl
theorem h282_16 : code_ 282 16 = opAld 0 17 := rfl
theorem h282_17 : code_ 282 17 = opGR 8 26 11 100440 20 := rfl
theorem h282_20 : code_ 282 20 = opIld 1 21 := rfl
theorem h282_21 : code_ 282 21 = opIal 22 := rfl
theorem h282_22 : code_ 282 22 = opIas 23 := rfl
theorem h282_23 : code_ 282 23 = opInc 1 1 26 := rfl
theorem h282_26 : code_ 282 26 = opGoto 2 := rfl
theorem h282_29 : code_ 282 29 = opRet := rfl
theorem h283_0 : code_ 283 0 = opIld 1 1 := rfl
theorem h283_1 : code_ 283 1 = opC (vI 1) 2 := rfl
theorem h283_2 : code_ 283 2 = opC (vI 60) 4 := rfl
theorem h283_4 : code_ 283 4 = opK kI 158 3 99 7 := rfl
theorem h283_7 : code_ 283 7 = opIfEq 19 10 := rfl
theorem h283_10 : code_ 283 10 = opIld 2 11 := rfl
theorem h283_11 : code_ 283 11 = opC (vI 0) 12 := rfl
theorem h283_12 : code_ 283 12 = opC (vI 2) 13 := rfl
theorem h283_13 : code_ 283 13 = opK kI 158 3 99 16 := rfl
theorem h283_16 : code_ 283 16 = opIfNe 21 19 := rfl
theorem h283_19 : code_ 283 19 = opMask [0, 1, 2, 3] (opC (vI (-1)) 20) := rfl
theorem h283_20 : code_ 283 20 = opIret := rfl
theorem h283_21 : code_ 283 21 = opAld 0 22 := rfl
theorem h283_22 : code_ 283 22 = opK kV 281 1 8 25 := rfl
theorem h283_25 : code_ 283 25 = opC (vI 0) 26 := rfl
theorem h283_26 : code_ 283 26 = opIst 3 27 := rfl
theorem h283_27 : code_ 283 27 = opIld 3 28 := rfl
theorem h283_28 : code_ 283 28 = opIld 1 29 := rfl
theorem h283_29 : code_ 283 29 = opCpGe 54 32 := rfl
theorem h283_32 : code_ 283 32 = opAld 0 33 := rfl
theorem h283_33 : code_ 283 33 = opGR 8 0 1 113669 36 := rfl
theorem h283_36 : code_ 283 36 = opC (vI 4) 37 := rfl
theorem h283_37 : code_ 283 37 = opIal 38 := rfl
theorem h283_38 : code_ 283 38 = opC (vI 9999) 41 := rfl
theorem h283_41 : code_ 283 41 = opCpGe 48 44 := rfl
theorem h283_44 : code_ 283 44 = opAld 0 45 := rfl
theorem h283_45 : code_ 283 45 = opK kV 254 1 8 48 := rfl
theorem h283_48 : code_ 283 48 = opInc 3 1 51 := rfl
theorem h283_51 : code_ 283 51 = opGoto 27 := rfl
theorem h283_54 : code_ 283 54 = opIld 2 55 := rfl
theorem h283_55 : code_ 283 55 = opIfNe 68 58 := rfl
theorem h283_58 : code_ 283 58 = opAld 0 59 := rfl
theorem h283_59 : code_ 283 59 = opK kI 168 1 8 62 := rfl
theorem h283_62 : code_ 283 62 = opK kI 161 1 99 65 := rfl
theorem h283_65 : code_ 283 65 = opGoto 87 := rfl
theorem h283_68 : code_ 283 68 = opIld 2 69 := rfl
theorem h283_69 : code_ 283 69 = opC (vI 1) 70 := rfl
theorem h283_70 : code_ 283 70 = opCpNe 80 73 := rfl
theorem h283_73 : code_ 283 73 = opAld 0 74 := rfl
theorem h283_74 : code_ 283 74 = opK kI 170 1 8 77 := rfl
theorem h283_77 : code_ 283 77 = opGoto 87 := rfl
theorem h283_80 : code_ 283 80 = opAld 0 81 := rfl
theorem h283_81 : code_ 283 81 = opGR 8 0 1 113669 84 := rfl
theorem h283_84 : code_ 283 84 = opC (vI 6) 86 := rfl
theorem h283_86 : code_ 283 86 = opIal 87 := rfl
theorem h283_87 : code_ 283 87 = opMask [1, 2, 3] (opIst 3 88) := rfl
theorem h283_88 : code_ 283 88 = opAld 0 89 := rfl
theorem h283_89 : code_ 283 89 = opK kV 282 1 8 92 := rfl
theorem h283_92 : code_ 283 92 = opIld 3 93 := rfl
theorem h283_93 : code_ 283 93 = opIret := rfl
theorem h284_0 : code_ 284 0 = opAld 0 1 := rfl
theorem h284_1 : code_ 284 1 = opK kV 281 1 8 4 := rfl
theorem h284_4 : code_ 284 4 = opAld 0 5 := rfl
theorem h284_5 : code_ 284 5 = opK kI 252 1 8 8 := rfl
theorem h284_8 : code_ 284 8 = opIst 1 9 := rfl
theorem h284_9 : code_ 284 9 = opAld 0 10 := rfl
theorem h284_10 : code_ 284 10 = opK kV 282 1 8 13 := rfl
theorem h284_13 : code_ 284 13 = opIld 1 14 := rfl
theorem h284_14 : code_ 284 14 = opIret := rfl
theorem h285_0 : code_ 285 0 = opAld 0 1 := rfl
theorem h285_1 : code_ 285 1 = opIld 1 2 := rfl
theorem h285_2 : code_ 285 2 = opIld 2 3 := rfl
theorem h285_3 : code_ 285 3 = opK kI 164 3 8 6 := rfl
theorem h285_6 : code_ 285 6 = opIfEq 39 9 := rfl
theorem h285_9 : code_ 285 9 = opAld 0 10 := rfl
theorem h285_10 : code_ 285 10 = opAld 0 11 := rfl
theorem h285_11 : code_ 285 11 = opGR 8 0 1 113669 14 := rfl
theorem h285_14 : code_ 285 14 = opC (vI 11) 16 := rfl
theorem h285_16 : code_ 285 16 = opIld 1 17 := rfl
theorem h285_17 : code_ 285 17 = opB (fun x y => x + y) 18 := rfl
theorem h285_18 : code_ 285 18 = opIal 19 := rfl
theorem h285_19 : code_ 285 19 = opK kI 166 2 8 22 := rfl
theorem h285_22 : code_ 285 22 = opAld 0 23 := rfl
theorem h285_23 : code_ 285 23 = opAld 0 24 := rfl
theorem h285_24 : code_ 285 24 = opGR 8 0 1 113669 27 := rfl
theorem h285_27 : code_ 285 27 = opC (vI 11) 29 := rfl
theorem h285_29 : code_ 285 29 = opIld 2 30 := rfl
theorem h285_30 : code_ 285 30 = opB (fun x y => x + y) 31 := rfl
theorem h285_31 : code_ 285 31 = opIal 32 := rfl
theorem h285_32 : code_ 285 32 = opK kI 166 2 8 35 := rfl
theorem h285_35 : code_ 285 35 = opB (fun x y => x &&& y) 36 := rfl
theorem h285_36 : code_ 285 36 = opGoto 40 := rfl
theorem h285_39 : code_ 285 39 = opC (vI (-1)) 40 := rfl
theorem h285_40 : code_ 285 40 = opMask [0, 1, 2] (opIret) := rfl
theorem h286_0 : code_ 286 0 = opIld 1 1 := rfl
theorem h286_1 : code_ 286 1 = opK kI 162 1 99 4 := rfl
theorem h286_4 : code_ 286 4 = opIfEq 23 7 := rfl
theorem h286_7 : code_ 286 7 = opIld 2 8 := rfl
theorem h286_8 : code_ 286 8 = opK kI 162 1 99 11 := rfl
theorem h286_11 : code_ 286 11 = opIfEq 23 14 := rfl
theorem h286_14 : code_ 286 14 = opAld 0 15 := rfl
theorem h286_15 : code_ 286 15 = opIld 1 16 := rfl
theorem h286_16 : code_ 286 16 = opIld 2 17 := rfl
theorem h286_17 : code_ 286 17 = opK kI 240 3 8 20 := rfl
theorem h286_20 : code_ 286 20 = opGoto 24 := rfl
theorem h286_23 : code_ 286 23 = opMask [0, 1, 2] (opC (vI (-1)) 24) := rfl
theorem h286_24 : code_ 286 24 = opMask [0, 1, 2] (opIret) := rfl
theorem h287_0 : code_ 287 0 = opAld 0 1 := rfl
theorem h287_1 : code_ 287 1 = opK kI 173 1 8 4 := rfl
theorem h287_4 : code_ 287 4 = opIret := rfl
theorem h288_0 : code_ 288 0 = opLld 0 1 := rfl
theorem h288_1 : code_ 288 1 = opLst 4 3 := rfl
theorem h288_3 : code_ 288 3 = opLld 2 4 := rfl
theorem h288_4 : code_ 288 4 = opLst 6 6 := rfl
theorem h288_6 : code_ 288 6 = opMask [0, 1, 2, 3, 8, 9] (opLld 6 8) := rfl
theorem h288_8 : code_ 288 8 = opC (vL 0) 9 := rfl
theorem h288_9 : code_ 288 9 = opLcmp 10 := rfl
theorem h288_10 : code_ 288 10 = opIfEq 31 13 := rfl
theorem h288_13 : code_ 288 13 = opLld 4 15 := rfl
theorem h288_15 : code_ 288 15 = opLld 6 17 := rfl
theorem h288_17 : code_ 288 17 = opLBz remL 18 := rfl
theorem h288_18 : code_ 288 18 = opLst 8 20 := rfl
theorem h288_20 : code_ 288 20 = opLld 6 22 := rfl
theorem h288_22 : code_ 288 22 = opLst 4 24 := rfl
theorem h288_24 : code_ 288 24 = opLld 8 26 := rfl
theorem h288_26 : code_ 288 26 = opLst 6 28 := rfl
theorem h288_28 : code_ 288 28 = opGoto 6 := rfl
theorem h288_31 : code_ 288 31 = opLld 4 33 := rfl
theorem h288_33 : code_ 288 33 = opLret := rfl
theorem h289_0 : code_ 289 0 = opIld 1 1 := rfl
theorem h289_1 : code_ 289 1 = opIld 0 2 := rfl
theorem h289_2 : code_ 289 2 = opCpLe 9 5 := rfl
theorem h289_5 : code_ 289 5 = opC (vL 0) 6 := rfl
theorem h289_6 : code_ 289 6 = opGoto 10 := rfl
theorem h289_9 : code_ 289 9 = opC (vL 1) 10 := rfl
theorem h289_10 : code_ 289 10 = opMask [2, 3, 4] (opLst 2 11) := rfl
theorem h289_11 : code_ 289 11 = opC (vI 1) 12 := rfl
theorem h289_12 : code_ 289 12 = opIst 4 14 := rfl
theorem h289_14 : code_ 289 14 = opIld 4 16 := rfl
theorem h289_16 : code_ 289 16 = opIld 1 17 := rfl
theorem h289_17 : code_ 289 17 = opCpGt 46 20 := rfl
theorem h289_20 : code_ 289 20 = opLld 2 21 := rfl
theorem h289_21 : code_ 289 21 = opC (vL 0) 22 := rfl
theorem h289_22 : code_ 289 22 = opLcmp 23 := rfl
theorem h289_23 : code_ 289 23 = opIfLe 46 26 := rfl
theorem h289_26 : code_ 289 26 = opLld 2 27 := rfl
theorem h289_27 : code_ 289 27 = opIld 0 28 := rfl
theorem h289_28 : code_ 289 28 = opIld 4 30 := rfl
theorem h289_30 : code_ 289 30 = opB (fun x y => x - y) 31 := rfl
theorem h289_31 : code_ 289 31 = opC (vI 1) 32 := rfl
theorem h289_32 : code_ 289 32 = opB (fun x y => x + y) 33 := rfl
theorem h289_33 : code_ 289 33 = opI2L 34 := rfl
theorem h289_34 : code_ 289 34 = opLB (fun x y => x * y) 35 := rfl
theorem h289_35 : code_ 289 35 = opIld 4 37 := rfl
theorem h289_37 : code_ 289 37 = opI2L 38 := rfl
theorem h289_38 : code_ 289 38 = opLBz (fun x y => x / y) 39 := rfl
theorem h289_39 : code_ 289 39 = opLst 2 40 := rfl
theorem h289_40 : code_ 289 40 = opInc 4 1 43 := rfl
theorem h289_43 : code_ 289 43 = opGoto 14 := rfl
theorem h289_46 : code_ 289 46 = opMask [0, 1, 4] (opLld 2 47) := rfl
theorem h289_47 : code_ 289 47 = opLret := rfl
theorem h290_0 : code_ 290 0 = opIld 1 1 := rfl
theorem h290_1 : code_ 290 1 = opC (vI 0) 2 := rfl
theorem h290_2 : code_ 290 2 = opC (vI 16) 4 := rfl
theorem h290_4 : code_ 290 4 = opK kI 158 3 99 7 := rfl
theorem h290_7 : code_ 290 7 = opIfEq 20 10 := rfl
theorem h290_10 : code_ 290 10 = opIld 2 11 := rfl
theorem h290_11 : code_ 290 11 = opC (vI 0) 12 := rfl
theorem h290_12 : code_ 290 12 = opC (vI 16) 14 := rfl
theorem h290_14 : code_ 290 14 = opK kI 158 3 99 17 := rfl
theorem h290_17 : code_ 290 17 = opIfNe 24 20 := rfl
theorem h290_20 : code_ 290 20 = opMask [0, 1, 2, 3, 4, 5, 6, 7] (opC (vL (-1)) 23) := rfl
theorem h290_23 : code_ 290 23 = opLret := rfl
theorem h290_24 : code_ 290 24 = opC (vI 16) 26 := rfl
theorem h290_26 : code_ 290 26 = opIld 1 27 := rfl
theorem h290_27 : code_ 290 27 = opB (fun x y => x - y) 28 := rfl
theorem h290_28 : code_ 290 28 = opIld 2 29 := rfl
theorem h290_29 : code_ 290 29 = opK kL 289 2 99 32 := rfl
theorem h290_32 : code_ 290 32 = opLst 4 34 := rfl
theorem h290_34 : code_ 290 34 = opC (vI 16) 36 := rfl
theorem h290_36 : code_ 290 36 = opIld 2 37 := rfl
theorem h290_37 : code_ 290 37 = opK kL 289 2 99 40 := rfl
theorem h290_40 : code_ 290 40 = opLst 6 42 := rfl
theorem h290_42 : code_ 290 42 = opIld 3 43 := rfl
theorem h290_43 : code_ 290 43 = opIfEq 51 46 := rfl
theorem h290_46 : code_ 290 46 = opLld 6 48 := rfl
theorem h290_48 : code_ 290 48 = opGoto 53 := rfl
theorem h290_51 : code_ 290 51 = opLld 4 53 := rfl
theorem h290_53 : code_ 290 53 = opMask [0, 1, 2, 3] (opLld 4 55) := rfl
theorem h290_55 : code_ 290 55 = opLld 6 57 := rfl
theorem h290_57 : code_ 290 57 = opK kL 288 2 99 60 := rfl
theorem h290_60 : code_ 290 60 = opLBz (fun x y => x / y) 61 := rfl
theorem h290_61 : code_ 290 61 = opLret := rfl
theorem h291_0 : code_ 291 0 = opC (vL 0) 1 := rfl
theorem h291_1 : code_ 291 1 = opLst 2 2 := rfl
theorem h291_2 : code_ 291 2 = opC (vL 1) 3 := rfl
theorem h291_3 : code_ 291 3 = opLst 4 5 := rfl
theorem h291_5 : code_ 291 5 = opC (vI 0) 6 := rfl
theorem h291_6 : code_ 291 6 = opIst 6 8 := rfl
theorem h291_8 : code_ 291 8 = opMask [7, 8, 9, 10, 11, 12, 13] (opIld 6 10) := rfl
theorem h291_10 : code_ 291 10 = opC (vI 12) 12 := rfl
theorem h291_12 : code_ 291 12 = opCpGe 141 15 := rfl
theorem h291_15 : code_ 291 15 = opIld 6 17 := rfl
theorem h291_17 : code_ 291 17 = opC (vI 1) 18 := rfl
theorem h291_18 : code_ 291 18 = opB (fun x y => x + y) 19 := rfl
theorem h291_19 : code_ 291 19 = opIst 7 21 := rfl
theorem h291_21 : code_ 291 21 = opMask [8, 9, 10, 11, 12, 13] (opIld 7 23) := rfl
theorem h291_23 : code_ 291 23 = opC (vI 12) 25 := rfl
theorem h291_25 : code_ 291 25 = opCpGe 135 28 := rfl
theorem h291_28 : code_ 291 28 = opAld 0 29 := rfl
theorem h291_29 : code_ 291 29 = opIld 6 31 := rfl
theorem h291_31 : code_ 291 31 = opK kI 167 2 8 34 := rfl
theorem h291_34 : code_ 291 34 = opIfEq 129 37 := rfl
theorem h291_37 : code_ 291 37 = opAld 0 38 := rfl
theorem h291_38 : code_ 291 38 = opIld 7 40 := rfl
theorem h291_40 : code_ 291 40 = opK kI 167 2 8 43 := rfl
theorem h291_43 : code_ 291 43 = opIfNe 49 46 := rfl
theorem h291_46 : code_ 291 46 = opGoto 129 := rfl
theorem h291_49 : code_ 291 49 = opC (vI 16) 51 := rfl
theorem h291_51 : code_ 291 51 = opAld 0 52 := rfl
theorem h291_52 : code_ 291 52 = opIld 6 54 := rfl
theorem h291_54 : code_ 291 54 = opK kI 166 2 8 57 := rfl
theorem h291_57 : code_ 291 57 = opK kI 161 1 99 60 := rfl
theorem h291_60 : code_ 291 60 = opB (fun x y => x - y) 61 := rfl
theorem h291_61 : code_ 291 61 = opAld 0 62 := rfl
theorem h291_62 : code_ 291 62 = opIld 7 64 := rfl
theorem h291_64 : code_ 291 64 = opK kI 166 2 8 67 := rfl
theorem h291_67 : code_ 291 67 = opK kI 161 1 99 70 := rfl
theorem h291_70 : code_ 291 70 = opK kL 289 2 99 73 := rfl
theorem h291_73 : code_ 291 73 = opLst 8 75 := rfl
theorem h291_75 : code_ 291 75 = opC (vI 16) 77 := rfl
theorem h291_77 : code_ 291 77 = opAld 0 78 := rfl
theorem h291_78 : code_ 291 78 = opIld 7 80 := rfl
theorem h291_80 : code_ 291 80 = opK kI 166 2 8 83 := rfl
theorem h291_83 : code_ 291 83 = opK kI 161 1 99 86 := rfl
theorem h291_86 : code_ 291 86 = opK kL 289 2 99 89 := rfl
theorem h291_89 : code_ 291 89 = opLst 10 91 := rfl
theorem h291_91 : code_ 291 91 = opLld 2 92 := rfl
theorem h291_92 : code_ 291 92 = opLld 10 94 := rfl
theorem h291_94 : code_ 291 94 = opLB (fun x y => x * y) 95 := rfl
theorem h291_95 : code_ 291 95 = opLld 8 97 := rfl
theorem h291_97 : code_ 291 97 = opLld 4 99 := rfl
theorem h291_99 : code_ 291 99 = opLB (fun x y => x * y) 100 := rfl
theorem h291_100 : code_ 291 100 = opLB (fun x y => x + y) 101 := rfl
theorem h291_101 : code_ 291 101 = opLst 2 102 := rfl
theorem h291_102 : code_ 291 102 = opLld 4 104 := rfl
theorem h291_104 : code_ 291 104 = opLld 10 106 := rfl
theorem h291_106 : code_ 291 106 = opLB (fun x y => x * y) 107 := rfl
theorem h291_107 : code_ 291 107 = opLst 4 109 := rfl
theorem h291_109 : code_ 291 109 = opLld 2 110 := rfl
theorem h291_110 : code_ 291 110 = opLld 4 112 := rfl
theorem h291_112 : code_ 291 112 = opK kL 288 2 99 115 := rfl
theorem h291_115 : code_ 291 115 = opLst 12 117 := rfl
theorem h291_117 : code_ 291 117 = opLld 2 118 := rfl
theorem h291_118 : code_ 291 118 = opLld 12 120 := rfl
theorem h291_120 : code_ 291 120 = opLBz (fun x y => x / y) 121 := rfl
theorem h291_121 : code_ 291 121 = opLst 2 122 := rfl
theorem h291_122 : code_ 291 122 = opLld 4 124 := rfl
theorem h291_124 : code_ 291 124 = opLld 12 126 := rfl
theorem h291_126 : code_ 291 126 = opLBz (fun x y => x / y) 127 := rfl
theorem h291_127 : code_ 291 127 = opLst 4 129 := rfl
theorem h291_129 : code_ 291 129 = opMask [8, 9, 10, 11, 12, 13] (opInc 7 1 132) := rfl
theorem h291_132 : code_ 291 132 = opGoto 21 := rfl
theorem h291_135 : code_ 291 135 = opInc 6 1 138 := rfl
theorem h291_138 : code_ 291 138 = opGoto 8 := rfl
theorem h291_141 : code_ 291 141 = opIld 1 142 := rfl
theorem h291_142 : code_ 291 142 = opIfEq 150 145 := rfl
theorem h291_145 : code_ 291 145 = opLld 4 147 := rfl
theorem h291_147 : code_ 291 147 = opGoto 151 := rfl
theorem h291_150 : code_ 291 150 = opLld 2 151 := rfl
theorem h291_151 : code_ 291 151 = opMask [0, 1, 2, 3, 4, 5, 6, 7, 8, 9, 10, 11, 12, 13] (opLret) := rfl
theorem h292_0 : code_ 292 0 = opC (vI 0) 1 := rfl
theorem h292_1 : code_ 292 1 = opIst 1 2 := rfl
theorem h292_2 : code_ 292 2 = opIld 1 3 := rfl
theorem h292_3 : code_ 292 3 = opC (vI 12) 5 := rfl
theorem h292_5 : code_ 292 5 = opCpGe 25 8 := rfl
theorem h292_8 : code_ 292 8 = opAld 0 9 := rfl
theorem h292_9 : code_ 292 9 = opGR 8 27 12 100012 12 := rfl
theorem h292_12 : code_ 292 12 = opIld 1 13 := rfl
theorem h292_13 : code_ 292 13 = opAld 0 14 := rfl
theorem h292_14 : code_ 292 14 = opIld 1 15 := rfl
theorem h292_15 : code_ 292 15 = opK kI 166 2 8 18 := rfl
theorem h292_18 : code_ 292 18 = opIas 19 := rfl
theorem h292_19 : code_ 292 19 = opInc 1 1 22 := rfl
theorem h292_22 : code_ 292 22 = opGoto 2 := rfl
theorem h292_25 : code_ 292 25 = opRet := rfl
theorem h293_0 : code_ 293 0 = opAld 0 1 := rfl
theorem h293_1 : code_ 293 1 = opGR 8 27 12 100012 4 := rfl
theorem h293_4 : code_ 293 4 = opIld 1 5 := rfl
theorem h293_5 : code_ 293 5 = opIal 6 := rfl
theorem h293_6 : code_ 293 6 = opAld 0 7 := rfl
theorem h293_7 : code_ 293 7 = opGR 8 27 12 100012 10 := rfl
theorem h293_10 : code_ 293 10 = opIld 2 11 := rfl
theorem h293_11 : code_ 293 11 = opIal 12 := rfl
theorem h293_12 : code_ 293 12 = opB (fun x y => x &&& y) 13 := rfl
theorem h293_13 : code_ 293 13 = opIfNe 20 16 := rfl
theorem h293_16 : code_ 293 16 = opC (vI 1) 17 := rfl
theorem h293_17 : code_ 293 17 = opGoto 21 := rfl
theorem h293_20 : code_ 293 20 = opC (vI 0) 21 := rfl
theorem h293_21 : code_ 293 21 = opMask [0, 1, 2] (opZret) := rfl
theorem h294_0 : code_ 294 0 = opIld 0 1 := rfl
theorem h294_1 : code_ 294 1 = opC (vI 1) 2 := rfl
theorem h294_2 : code_ 294 2 = opIld 1 3 := rfl
theorem h294_3 : code_ 294 3 = opB shlI 4 := rfl
theorem h294_4 : code_ 294 4 = opC (vI (-1)) 5 := rfl
theorem h294_5 : code_ 294 5 = opB (fun x y => x ^^^ y) 6 := rfl
theorem h294_6 : code_ 294 6 = opB (fun x y => x &&& y) 7 := rfl
theorem h294_7 : code_ 294 7 = opIret := rfl
theorem h295_0 : code_ 295 0 = opAld 0 1 := rfl
theorem h295_1 : code_ 295 1 = opK kV 292 1 8 4 := rfl
theorem h295_4 : code_ 295 4 = opAld 0 5 := rfl
theorem h295_5 : code_ 295 5 = opGR 8 28 13 104096 8 := rfl
theorem h295_8 : code_ 295 8 = opC (vI 0) 9 := rfl
theorem h295_9 : code_ 295 9 = opC (vI 0) 10 := rfl
theorem h295_10 : code_ 295 10 = opIas 11 := rfl
theorem h295_11 : code_ 295 11 = opC (vI 1) 12 := rfl
theorem h295_12 : code_ 295 12 = opIst 2 13 := rfl
theorem h295_13 : code_ 295 13 = opMask [3, 4, 5, 6] (opIld 2 14) := rfl
theorem h295_14 : code_ 295 14 = opIld 1 15 := rfl
theorem h295_15 : code_ 295 15 = opCpGt 137 18 := rfl
theorem h295_18 : code_ 295 18 = opIld 2 19 := rfl
theorem h295_19 : code_ 295 19 = opIld 1 20 := rfl
theorem h295_20 : code_ 295 20 = opC (vI (-1)) 21 := rfl
theorem h295_21 : code_ 295 21 = opB (fun x y => x ^^^ y) 22 := rfl
theorem h295_22 : code_ 295 22 = opB (fun x y => x &&& y) 23 := rfl
theorem h295_23 : code_ 295 23 = opIfEq 29 26 := rfl
theorem h295_26 : code_ 295 26 = opGoto 131 := rfl
theorem h295_29 : code_ 295 29 = opIld 2 30 := rfl
theorem h295_30 : code_ 295 30 = opK kI 250 1 99 33 := rfl
theorem h295_33 : code_ 295 33 = opIst 3 34 := rfl
theorem h295_34 : code_ 295 34 = opIld 2 35 := rfl
theorem h295_35 : code_ 295 35 = opIld 3 36 := rfl
theorem h295_36 : code_ 295 36 = opK kI 294 2 99 39 := rfl
theorem h295_39 : code_ 295 39 = opIst 4 41 := rfl
theorem h295_41 : code_ 295 41 = opAld 0 42 := rfl
theorem h295_42 : code_ 295 42 = opGR 8 28 13 104096 45 := rfl
theorem h295_45 : code_ 295 45 = opIld 4 47 := rfl
theorem h295_47 : code_ 295 47 = opIal 48 := rfl
theorem h295_48 : code_ 295 48 = opIst 5 50 := rfl
theorem h295_50 : code_ 295 50 = opIld 3 51 := rfl
theorem h295_51 : code_ 295 51 = opC (vI 1) 52 := rfl
theorem h295_52 : code_ 295 52 = opB (fun x y => x + y) 53 := rfl
theorem h295_53 : code_ 295 53 = opIst 6 55 := rfl
theorem h295_55 : code_ 295 55 = opIld 6 57 := rfl
theorem h295_57 : code_ 295 57 = opC (vI 12) 59 := rfl
theorem h295_59 : code_ 295 59 = opCpGe 123 62 := rfl
theorem h295_62 : code_ 295 62 = opIld 4 64 := rfl
theorem h295_64 : code_ 295 64 = opIld 6 66 := rfl
theorem h295_66 : code_ 295 66 = opK kI 160 2 99 69 := rfl
theorem h295_69 : code_ 295 69 = opIfEq 117 72 := rfl
theorem h295_72 : code_ 295 72 = opAld 0 73 := rfl
theorem h295_73 : code_ 295 73 = opIld 3 74 := rfl
theorem h295_74 : code_ 295 74 = opIld 6 76 := rfl
theorem h295_76 : code_ 295 76 = opK kI 293 3 8 79 := rfl
theorem h295_79 : code_ 295 79 = opIfEq 117 82 := rfl
theorem h295_82 : code_ 295 82 = opC (vI 1) 83 := rfl
theorem h295_83 : code_ 295 83 = opAld 0 84 := rfl
theorem h295_84 : code_ 295 84 = opGR 8 28 13 104096 87 := rfl
theorem h295_87 : code_ 295 87 = opIld 4 89 := rfl
theorem h295_89 : code_ 295 89 = opIld 6 91 := rfl
theorem h295_91 : code_ 295 91 = opK kI 294 2 99 94 := rfl
theorem h295_94 : code_ 295 94 = opIal 95 := rfl
theorem h295_95 : code_ 295 95 = opB (fun x y => x + y) 96 := rfl
theorem h295_96 : code_ 295 96 = opIld 5 98 := rfl
theorem h295_98 : code_ 295 98 = opCpLe 117 101 := rfl
theorem h295_101 : code_ 295 101 = opC (vI 1) 102 := rfl
theorem h295_102 : code_ 295 102 = opAld 0 103 := rfl
theorem h295_103 : code_ 295 103 = opGR 8 28 13 104096 106 := rfl
theorem h295_106 : code_ 295 106 = opIld 4 108 := rfl
theorem h295_108 : code_ 295 108 = opIld 6 110 := rfl
theorem h295_110 : code_ 295 110 = opK kI 294 2 99 113 := rfl
theorem h295_113 : code_ 295 113 = opIal 114 := rfl
theorem h295_114 : code_ 295 114 = opB (fun x y => x + y) 115 := rfl
theorem h295_115 : code_ 295 115 = opIst 5 117 := rfl
theorem h295_117 : code_ 295 117 = opInc 6 1 120 := rfl
theorem h295_120 : code_ 295 120 = opGoto 55 := rfl
theorem h295_123 : code_ 295 123 = opAld 0 124 := rfl
theorem h295_124 : code_ 295 124 = opGR 8 28 13 104096 127 := rfl
theorem h295_127 : code_ 295 127 = opIld 2 128 := rfl
theorem h295_128 : code_ 295 128 = opIld 5 130 := rfl
theorem h295_130 : code_ 295 130 = opIas 131 := rfl
theorem h295_131 : code_ 295 131 = opMask [3, 4, 5, 6] (opInc 2 1 134) := rfl
theorem h295_134 : code_ 295 134 = opGoto 13 := rfl
theorem h295_137 : code_ 295 137 = opRet := rfl
theorem h296_0 : code_ 296 0 = opAld 0 1 := rfl
theorem h296_1 : code_ 296 1 = opAld 0 2 := rfl
theorem h296_2 : code_ 296 2 = opK kI 168 1 8 5 := rfl
theorem h296_5 : code_ 296 5 = opK kV 295 2 8 8 := rfl
theorem h296_8 : code_ 296 8 = opAld 0 9 := rfl
theorem h296_9 : code_ 296 9 = opGR 8 28 13 104096 12 := rfl
theorem h296_12 : code_ 296 12 = opAld 0 13 := rfl
theorem h296_13 : code_ 296 13 = opK kI 168 1 8 16 := rfl
theorem h296_16 : code_ 296 16 = opIal 17 := rfl
theorem h296_17 : code_ 296 17 = opIret := rfl
theorem h297_0 : code_ 297 0 = opIld 1 1 := rfl
theorem h297_1 : code_ 297 1 = opIld 2 2 := rfl
theorem h297_2 : code_ 297 2 = opK kI 294 2 99 5 := rfl
theorem h297_5 : code_ 297 5 = opIst 3 6 := rfl
theorem h297_6 : code_ 297 6 = opIld 2 7 := rfl
theorem h297_7 : code_ 297 7 = opC (vI 1) 8 := rfl
theorem h297_8 : code_ 297 8 = opB (fun x y => x + y) 9 := rfl
theorem h297_9 : code_ 297 9 = opIst 4 11 := rfl
theorem h297_11 : code_ 297 11 = opIld 4 13 := rfl
theorem h297_13 : code_ 297 13 = opC (vI 12) 15 := rfl
theorem h297_15 : code_ 297 15 = opCpGe 68 18 := rfl
theorem h297_18 : code_ 297 18 = opIld 3 19 := rfl
theorem h297_19 : code_ 297 19 = opIld 4 21 := rfl
theorem h297_21 : code_ 297 21 = opK kI 160 2 99 24 := rfl
theorem h297_24 : code_ 297 24 = opIfEq 62 27 := rfl
theorem h297_27 : code_ 297 27 = opAld 0 28 := rfl
theorem h297_28 : code_ 297 28 = opIld 2 29 := rfl
theorem h297_29 : code_ 297 29 = opIld 4 31 := rfl
theorem h297_31 : code_ 297 31 = opK kI 293 3 8 34 := rfl
theorem h297_34 : code_ 297 34 = opIfEq 62 37 := rfl
theorem h297_37 : code_ 297 37 = opC (vI 1) 38 := rfl
theorem h297_38 : code_ 297 38 = opAld 0 39 := rfl
theorem h297_39 : code_ 297 39 = opGR 8 28 13 104096 42 := rfl
theorem h297_42 : code_ 297 42 = opIld 3 43 := rfl
theorem h297_43 : code_ 297 43 = opIld 4 45 := rfl
theorem h297_45 : code_ 297 45 = opK kI 294 2 99 48 := rfl
theorem h297_48 : code_ 297 48 = opIal 49 := rfl
theorem h297_49 : code_ 297 49 = opB (fun x y => x + y) 50 := rfl
theorem h297_50 : code_ 297 50 = opAld 0 51 := rfl
theorem h297_51 : code_ 297 51 = opGR 8 28 13 104096 54 := rfl
theorem h297_54 : code_ 297 54 = opIld 1 55 := rfl
theorem h297_55 : code_ 297 55 = opIal 56 := rfl
theorem h297_56 : code_ 297 56 = opCpNe 62 59 := rfl
theorem h297_59 : code_ 297 59 = opIld 4 61 := rfl
theorem h297_61 : code_ 297 61 = opIret := rfl
theorem h297_62 : code_ 297 62 = opInc 4 1 65 := rfl
theorem h297_65 : code_ 297 65 = opGoto 11 := rfl
theorem h297_68 : code_ 297 68 = opC (vI (-1)) 69 := rfl
theorem h297_69 : code_ 297 69 = opIret := rfl
theorem h298_0 : code_ 298 0 = opAld 0 1 := rfl
theorem h298_1 : code_ 298 1 = opK kI 168 1 8 4 := rfl
theorem h298_4 : code_ 298 4 = opIst 1 5 := rfl
theorem h298_5 : code_ 298 5 = opAld 0 6 := rfl
theorem h298_6 : code_ 298 6 = opIld 1 7 := rfl
theorem h298_7 : code_ 298 7 = opK kV 295 2 8 10 := rfl
theorem h298_10 : code_ 298 10 = opC (vI 0) 11 := rfl
theorem h298_11 : code_ 298 11 = opIst 2 12 := rfl
theorem h298_12 : code_ 298 12 = opMask [3] (opIld 2 13) := rfl
theorem h298_13 : code_ 298 13 = opC (vI 12) 15 := rfl
theorem h298_15 : code_ 298 15 = opCpGe 31 18 := rfl
theorem h298_18 : code_ 298 18 = opAld 0 19 := rfl
theorem h298_19 : code_ 298 19 = opGR 8 31 16 100012 22 := rfl
theorem h298_22 : code_ 298 22 = opIld 2 23 := rfl
theorem h298_23 : code_ 298 23 = opC (vI (-1)) 24 := rfl
theorem h298_24 : code_ 298 24 = opIas 25 := rfl
theorem h298_25 : code_ 298 25 = opInc 2 1 28 := rfl
theorem h298_28 : code_ 298 28 = opGoto 12 := rfl
theorem h298_31 : code_ 298 31 = opMask [2, 3] (opIld 1 32) := rfl
theorem h298_32 : code_ 298 32 = opIfEq 84 35 := rfl
theorem h298_35 : code_ 298 35 = opIld 1 36 := rfl
theorem h298_36 : code_ 298 36 = opK kI 250 1 99 39 := rfl
theorem h298_39 : code_ 298 39 = opIst 2 40 := rfl
theorem h298_40 : code_ 298 40 = opAld 0 41 := rfl
theorem h298_41 : code_ 298 41 = opIld 1 42 := rfl
theorem h298_42 : code_ 298 42 = opIld 2 43 := rfl
theorem h298_43 : code_ 298 43 = opK kI 297 3 8 46 := rfl
theorem h298_46 : code_ 298 46 = opIst 3 47 := rfl
theorem h298_47 : code_ 298 47 = opIld 1 48 := rfl
theorem h298_48 : code_ 298 48 = opIld 2 49 := rfl
theorem h298_49 : code_ 298 49 = opK kI 294 2 99 52 := rfl
theorem h298_52 : code_ 298 52 = opIst 1 53 := rfl
theorem h298_53 : code_ 298 53 = opIld 3 54 := rfl
theorem h298_54 : code_ 298 54 = opC (vI (-1)) 55 := rfl
theorem h298_55 : code_ 298 55 = opCpNe 61 58 := rfl
theorem h298_58 : code_ 298 58 = opGoto 31 := rfl
theorem h298_61 : code_ 298 61 = opAld 0 62 := rfl
theorem h298_62 : code_ 298 62 = opGR 8 31 16 100012 65 := rfl
theorem h298_65 : code_ 298 65 = opIld 2 66 := rfl
theorem h298_66 : code_ 298 66 = opIld 3 67 := rfl
theorem h298_67 : code_ 298 67 = opIas 68 := rfl
theorem h298_68 : code_ 298 68 = opAld 0 69 := rfl
theorem h298_69 : code_ 298 69 = opGR 8 31 16 100012 72 := rfl
theorem h298_72 : code_ 298 72 = opIld 3 73 := rfl
theorem h298_73 : code_ 298 73 = opIld 2 74 := rfl
theorem h298_74 : code_ 298 74 = opIas 75 := rfl
theorem h298_75 : code_ 298 75 = opIld 1 76 := rfl
theorem h298_76 : code_ 298 76 = opIld 3 77 := rfl
theorem h298_77 : code_ 298 77 = opK kI 294 2 99 80 := rfl
theorem h298_80 : code_ 298 80 = opIst 1 81 := rfl
theorem h298_81 : code_ 298 81 = opGoto 31 := rfl
theorem h298_84 : code_ 298 84 = opRet := rfl
theorem h299_0 : code_ 299 0 = opIld 1 1 := rfl
theorem h299_1 : code_ 299 1 = opK kI 162 1 99 4 := rfl
theorem h299_4 : code_ 299 4 = opIfNe 9 7 := rfl
theorem h299_7 : code_ 299 7 = opC (vI (-1)) 8 := rfl
theorem h299_8 : code_ 299 8 = opIret := rfl
theorem h299_9 : code_ 299 9 = opAld 0 10 := rfl
theorem h299_10 : code_ 299 10 = opK kV 298 1 8 13 := rfl
theorem h299_13 : code_ 299 13 = opAld 0 14 := rfl
theorem h299_14 : code_ 299 14 = opGR 8 31 16 100012 17 := rfl
theorem h299_17 : code_ 299 17 = opIld 1 18 := rfl
theorem h299_18 : code_ 299 18 = opIal 19 := rfl
theorem h299_19 : code_ 299 19 = opIret := rfl
theorem h300_0 : code_ 300 0 = opAld 0 1 := rfl
theorem h300_1 : code_ 300 1 = opK kV 292 1 8 4 := rfl
theorem h300_4 : code_ 300 4 = opAld 0 5 := rfl
theorem h300_5 : code_ 300 5 = opGR 8 29 14 104096 8 := rfl
theorem h300_8 : code_ 300 8 = opC (vI 0) 9 := rfl
theorem h300_9 : code_ 300 9 = opC (vI 0) 10 := rfl
theorem h300_10 : code_ 300 10 = opIas 11 := rfl
theorem h300_11 : code_ 300 11 = opC (vI 1) 12 := rfl
theorem h300_12 : code_ 300 12 = opIst 2 13 := rfl
theorem h300_13 : code_ 300 13 = opMask [3, 4] (opIld 2 14) := rfl
theorem h300_14 : code_ 300 14 = opIld 1 15 := rfl
theorem h300_15 : code_ 300 15 = opCpGt 89 18 := rfl
theorem h300_18 : code_ 300 18 = opIld 2 19 := rfl
theorem h300_19 : code_ 300 19 = opIld 1 20 := rfl
theorem h300_20 : code_ 300 20 = opC (vI (-1)) 21 := rfl
theorem h300_21 : code_ 300 21 = opB (fun x y => x ^^^ y) 22 := rfl
theorem h300_22 : code_ 300 22 = opB (fun x y => x &&& y) 23 := rfl
theorem h300_23 : code_ 300 23 = opIfEq 29 26 := rfl
theorem h300_26 : code_ 300 26 = opGoto 83 := rfl
theorem h300_29 : code_ 300 29 = opIld 2 30 := rfl
theorem h300_30 : code_ 300 30 = opK kI 250 1 99 33 := rfl
theorem h300_33 : code_ 300 33 = opIst 3 34 := rfl
theorem h300_34 : code_ 300 34 = opAld 0 35 := rfl
theorem h300_35 : code_ 300 35 = opGR 8 29 14 104096 38 := rfl
theorem h300_38 : code_ 300 38 = opIld 2 39 := rfl
theorem h300_39 : code_ 300 39 = opIld 3 40 := rfl
theorem h300_40 : code_ 300 40 = opK kI 294 2 99 43 := rfl
theorem h300_43 : code_ 300 43 = opIal 44 := rfl
theorem h300_44 : code_ 300 44 = opIst 4 46 := rfl
theorem h300_46 : code_ 300 46 = opAld 0 47 := rfl
theorem h300_47 : code_ 300 47 = opGR 8 29 14 104096 50 := rfl
theorem h300_50 : code_ 300 50 = opIld 2 51 := rfl
theorem h300_51 : code_ 300 51 = opIld 4 53 := rfl
theorem h300_53 : code_ 300 53 = opC (vI (-1)) 54 := rfl
theorem h300_54 : code_ 300 54 = opCpEq 69 57 := rfl
theorem h300_57 : code_ 300 57 = opIld 4 59 := rfl
theorem h300_59 : code_ 300 59 = opAld 0 60 := rfl
theorem h300_60 : code_ 300 60 = opGR 8 27 12 100012 63 := rfl
theorem h300_63 : code_ 300 63 = opIld 3 64 := rfl
theorem h300_64 : code_ 300 64 = opIal 65 := rfl
theorem h300_65 : code_ 300 65 = opB (fun x y => x &&& y) 66 := rfl
theorem h300_66 : code_ 300 66 = opIfEq 73 69 := rfl
theorem h300_69 : code_ 300 69 = opMask [3, 4] (opC (vI (-1)) 70) := rfl
theorem h300_70 : code_ 300 70 = opGoto 82 := rfl
theorem h300_73 : code_ 300 73 = opIld 4 75 := rfl
theorem h300_75 : code_ 300 75 = opAld 0 76 := rfl
theorem h300_76 : code_ 300 76 = opGR 8 27 12 100012 79 := rfl
theorem h300_79 : code_ 300 79 = opIld 3 80 := rfl
theorem h300_80 : code_ 300 80 = opIal 81 := rfl
theorem h300_81 : code_ 300 81 = opB (fun x y => x ||| y) 82 := rfl
theorem h300_82 : code_ 300 82 = opMask [3, 4] (opIas 83) := rfl
theorem h300_83 : code_ 300 83 = opMask [3, 4] (opInc 2 1 86) := rfl
theorem h300_86 : code_ 300 86 = opGoto 13 := rfl
theorem h300_89 : code_ 300 89 = opRet := rfl
theorem h301_0 : code_ 301 0 = opAld 0 1 := rfl
theorem h301_1 : code_ 301 1 = opK kI 168 1 8 4 := rfl
theorem h301_4 : code_ 301 4 = opIst 1 5 := rfl
theorem h301_5 : code_ 301 5 = opAld 0 6 := rfl
theorem h301_6 : code_ 301 6 = opIld 1 7 := rfl
theorem h301_7 : code_ 301 7 = opK kV 300 2 8 10 := rfl
theorem h301_10 : code_ 301 10 = opAld 0 11 := rfl
theorem h301_11 : code_ 301 11 = opGR 8 30 15 104096 14 := rfl
theorem h301_14 : code_ 301 14 = opC (vI 0) 15 := rfl
theorem h301_15 : code_ 301 15 = opC (vI 0) 16 := rfl
theorem h301_16 : code_ 301 16 = opIas 17 := rfl
theorem h301_17 : code_ 301 17 = opC (vI 1) 18 := rfl
theorem h301_18 : code_ 301 18 = opIst 2 19 := rfl
theorem h301_19 : code_ 301 19 = opMask [3, 4, 5, 6] (opIld 2 20) := rfl
theorem h301_20 : code_ 301 20 = opIld 1 21 := rfl
theorem h301_21 : code_ 301 21 = opCpGt 145 24 := rfl
theorem h301_24 : code_ 301 24 = opIld 2 25 := rfl
theorem h301_25 : code_ 301 25 = opIld 1 26 := rfl
theorem h301_26 : code_ 301 26 = opC (vI (-1)) 27 := rfl
theorem h301_27 : code_ 301 27 = opB (fun x y => x ^^^ y) 28 := rfl
theorem h301_28 : code_ 301 28 = opB (fun x y => x &&& y) 29 := rfl
theorem h301_29 : code_ 301 29 = opIfEq 35 32 := rfl
theorem h301_32 : code_ 301 32 = opGoto 139 := rfl
theorem h301_35 : code_ 301 35 = opIld 2 36 := rfl
theorem h301_36 : code_ 301 36 = opK kI 250 1 99 39 := rfl
theorem h301_39 : code_ 301 39 = opIst 3 40 := rfl
theorem h301_40 : code_ 301 40 = opIld 2 41 := rfl
theorem h301_41 : code_ 301 41 = opIld 3 42 := rfl
theorem h301_42 : code_ 301 42 = opK kI 294 2 99 45 := rfl
theorem h301_45 : code_ 301 45 = opIst 4 47 := rfl
theorem h301_47 : code_ 301 47 = opC (vI 12) 49 := rfl
theorem h301_49 : code_ 301 49 = opIst 5 51 := rfl
theorem h301_51 : code_ 301 51 = opIld 4 53 := rfl
theorem h301_53 : code_ 301 53 = opIst 6 55 := rfl
theorem h301_55 : code_ 301 55 = opIld 6 57 := rfl
theorem h301_57 : code_ 301 57 = opIfLt 131 60 := rfl
theorem h301_60 : code_ 301 60 = opAld 0 61 := rfl
theorem h301_61 : code_ 301 61 = opGR 8 29 14 104096 64 := rfl
theorem h301_64 : code_ 301 64 = opIld 6 66 := rfl
theorem h301_66 : code_ 301 66 = opC (vI 1) 67 := rfl
theorem h301_67 : code_ 301 67 = opIld 3 68 := rfl
theorem h301_68 : code_ 301 68 = opB shlI 69 := rfl
theorem h301_69 : code_ 301 69 = opB (fun x y => x ||| y) 70 := rfl
theorem h301_70 : code_ 301 70 = opIal 71 := rfl
theorem h301_71 : code_ 301 71 = opC (vI (-1)) 72 := rfl
theorem h301_72 : code_ 301 72 = opCpEq 110 75 := rfl
theorem h301_75 : code_ 301 75 = opC (vI 1) 76 := rfl
theorem h301_76 : code_ 301 76 = opAld 0 77 := rfl
theorem h301_77 : code_ 301 77 = opGR 8 30 15 104096 80 := rfl
theorem h301_80 : code_ 301 80 = opIld 4 82 := rfl
theorem h301_82 : code_ 301 82 = opIld 6 84 := rfl
theorem h301_84 : code_ 301 84 = opC (vI (-1)) 85 := rfl
theorem h301_85 : code_ 301 85 = opB (fun x y => x ^^^ y) 86 := rfl
theorem h301_86 : code_ 301 86 = opB (fun x y => x &&& y) 87 := rfl
theorem h301_87 : code_ 301 87 = opIal 88 := rfl
theorem h301_88 : code_ 301 88 = opB (fun x y => x + y) 89 := rfl
theorem h301_89 : code_ 301 89 = opIld 5 91 := rfl
theorem h301_91 : code_ 301 91 = opCpGe 110 94 := rfl
theorem h301_94 : code_ 301 94 = opC (vI 1) 95 := rfl
theorem h301_95 : code_ 301 95 = opAld 0 96 := rfl
theorem h301_96 : code_ 301 96 = opGR 8 30 15 104096 99 := rfl
theorem h301_99 : code_ 301 99 = opIld 4 101 := rfl
theorem h301_101 : code_ 301 101 = opIld 6 103 := rfl
theorem h301_103 : code_ 301 103 = opC (vI (-1)) 104 := rfl
theorem h301_104 : code_ 301 104 = opB (fun x y => x ^^^ y) 105 := rfl
theorem h301_105 : code_ 301 105 = opB (fun x y => x &&& y) 106 := rfl
theorem h301_106 : code_ 301 106 = opIal 107 := rfl
theorem h301_107 : code_ 301 107 = opB (fun x y => x + y) 108 := rfl
theorem h301_108 : code_ 301 108 = opIst 5 110 := rfl
theorem h301_110 : code_ 301 110 = opIld 6 112 := rfl
theorem h301_112 : code_ 301 112 = opIfNe 119 115 := rfl
theorem h301_115 : code_ 301 115 = opC (vI (-1)) 116 := rfl
theorem h301_116 : code_ 301 116 = opGoto 126 := rfl
theorem h301_119 : code_ 301 119 = opIld 6 121 := rfl
theorem h301_121 : code_ 301 121 = opC (vI 1) 122 := rfl
theorem h301_122 : code_ 301 122 = opB (fun x y => x - y) 123 := rfl
theorem h301_123 : code_ 301 123 = opIld 4 125 := rfl
theorem h301_125 : code_ 301 125 = opB (fun x y => x &&& y) 126 := rfl
theorem h301_126 : code_ 301 126 = opMask [6] (opIst 6 128) := rfl
theorem h301_128 : code_ 301 128 = opGoto 55 := rfl
theorem h301_131 : code_ 301 131 = opAld 0 132 := rfl
theorem h301_132 : code_ 301 132 = opGR 8 30 15 104096 135 := rfl
theorem h301_135 : code_ 301 135 = opIld 2 136 := rfl
theorem h301_136 : code_ 301 136 = opIld 5 138 := rfl
theorem h301_138 : code_ 301 138 = opIas 139 := rfl
theorem h301_139 : code_ 301 139 = opMask [3, 4, 5, 6] (opInc 2 1 142) := rfl
theorem h301_142 : code_ 301 142 = opGoto 19 := rfl
theorem h301_145 : code_ 301 145 = opAld 0 146 := rfl
theorem h301_146 : code_ 301 146 = opGR 8 30 15 104096 149 := rfl
theorem h301_149 : code_ 301 149 = opIld 1 150 := rfl
theorem h301_150 : code_ 301 150 = opIal 151 := rfl
theorem h301_151 : code_ 301 151 = opIret := rfl
theorem h302_0 : code_ 302 0 = opAld 0 1 := rfl
theorem h302_1 : code_ 302 1 = opIld 1 2 := rfl
theorem h302_2 : code_ 302 2 = opK kI 163 2 8 5 := rfl
theorem h302_5 : code_ 302 5 = opIfEq 37 8 := rfl
theorem h302_8 : code_ 302 8 = opAld 0 9 := rfl
theorem h302_9 : code_ 302 9 = opGR 8 0 1 113669 12 := rfl
theorem h302_12 : code_ 302 12 = opC (vI 23) 14 := rfl
theorem h302_14 : code_ 302 14 = opIld 1 15 := rfl
theorem h302_15 : code_ 302 15 = opB (fun x y => x + y) 16 := rfl
theorem h302_16 : code_ 302 16 = opIal 17 := rfl
theorem h302_17 : code_ 302 17 = opAld 0 18 := rfl
theorem h302_18 : code_ 302 18 = opGR 8 0 1 113669 21 := rfl
theorem h302_21 : code_ 302 21 = opC (vI 23) 23 := rfl
theorem h302_23 : code_ 302 23 = opIld 1 24 := rfl
theorem h302_24 : code_ 302 24 = opB (fun x y => x + y) 25 := rfl
theorem h302_25 : code_ 302 25 = opIal 26 := rfl
theorem h302_26 : code_ 302 26 = opC (vI 1) 27 := rfl
theorem h302_27 : code_ 302 27 = opB shlI 28 := rfl
theorem h302_28 : code_ 302 28 = opC (vI (-1)) 29 := rfl
theorem h302_29 : code_ 302 29 = opB (fun x y => x ^^^ y) 30 := rfl
theorem h302_30 : code_ 302 30 = opB (fun x y => x &&& y) 31 := rfl
theorem h302_31 : code_ 302 31 = opK kI 161 1 99 34 := rfl
theorem h302_34 : code_ 302 34 = opGoto 38 := rfl
theorem h302_37 : code_ 302 37 = opC (vI (-1)) 38 := rfl
theorem h302_38 : code_ 302 38 = opMask [0, 1] (opIret) := rfl
theorem h303_0 : code_ 303 0 = opAld 0 1 := rfl
theorem h303_1 : code_ 303 1 = opIld 1 2 := rfl
theorem h303_2 : code_ 303 2 = opK kI 163 2 8 5 := rfl
theorem h303_5 : code_ 303 5 = opIfNe 10 8 := rfl
theorem h303_8 : code_ 303 8 = opC (vI (-1)) 9 := rfl
theorem h303_9 : code_ 303 9 = opIret := rfl
theorem h303_10 : code_ 303 10 = opC (vI 0) 11 := rfl
theorem h303_11 : code_ 303 11 = opIst 2 12 := rfl
theorem h303_12 : code_ 303 12 = opAld 0 13 := rfl
theorem h303_13 : code_ 303 13 = opGR 8 0 1 113669 16 := rfl
theorem h303_16 : code_ 303 16 = opC (vI 23) 18 := rfl
theorem h303_18 : code_ 303 18 = opIld 1 19 := rfl
theorem h303_19 : code_ 303 19 = opB (fun x y => x + y) 20 := rfl
theorem h303_20 : code_ 303 20 = opIal 21 := rfl
theorem h303_21 : code_ 303 21 = opIst 3 22 := rfl
theorem h303_22 : code_ 303 22 = opMask [0, 1] (opIld 3 23) := rfl
theorem h303_23 : code_ 303 23 = opIfEq 38 26 := rfl
theorem h303_26 : code_ 303 26 = opInc 2 1 29 := rfl
theorem h303_29 : code_ 303 29 = opIld 3 30 := rfl
theorem h303_30 : code_ 303 30 = opIld 3 31 := rfl
theorem h303_31 : code_ 303 31 = opC (vI 1) 32 := rfl
theorem h303_32 : code_ 303 32 = opB shlI 33 := rfl
theorem h303_33 : code_ 303 33 = opB (fun x y => x &&& y) 34 := rfl
theorem h303_34 : code_ 303 34 = opIst 3 35 := rfl
theorem h303_35 : code_ 303 35 = opGoto 22 := rfl
theorem h303_38 : code_ 303 38 = opIld 2 39 := rfl
theorem h303_39 : code_ 303 39 = opIret := rfl
theorem h304_0 : code_ 304 0 = opAld 0 1 := rfl
theorem h304_1 : code_ 304 1 = opIld 1 2 := rfl
theorem h304_2 : code_ 304 2 = opK kI 163 2 8 5 := rfl
theorem h304_5 : code_ 304 5 = opIfEq 31 8 := rfl
theorem h304_8 : code_ 304 8 = opIld 3 9 := rfl
theorem h304_9 : code_ 304 9 = opC (vI 1) 10 := rfl
theorem h304_10 : code_ 304 10 = opC (vI 16) 12 := rfl
theorem h304_12 : code_ 304 12 = opK kI 158 3 99 15 := rfl
theorem h304_15 : code_ 304 15 = opIfEq 31 18 := rfl
theorem h304_18 : code_ 304 18 = opIld 2 19 := rfl
theorem h304_19 : code_ 304 19 = opC (vI 0) 20 := rfl
theorem h304_20 : code_ 304 20 = opC (vI 1) 21 := rfl
theorem h304_21 : code_ 304 21 = opIld 3 22 := rfl
theorem h304_22 : code_ 304 22 = opB shlI 23 := rfl
theorem h304_23 : code_ 304 23 = opC (vI 1) 24 := rfl
theorem h304_24 : code_ 304 24 = opB (fun x y => x - y) 25 := rfl
theorem h304_25 : code_ 304 25 = opK kI 158 3 99 28 := rfl
theorem h304_28 : code_ 304 28 = opIfNe 33 31 := rfl
theorem h304_31 : code_ 304 31 = opMask [0, 1, 2, 3, 4] (opC (vI (-1)) 32) := rfl
theorem h304_32 : code_ 304 32 = opIret := rfl
theorem h304_33 : code_ 304 33 = opC (vI 0) 34 := rfl
theorem h304_34 : code_ 304 34 = opIst 4 36 := rfl
theorem h304_36 : code_ 304 36 = opIld 4 38 := rfl
theorem h304_38 : code_ 304 38 = opIld 3 39 := rfl
theorem h304_39 : code_ 304 39 = opB (fun x y => x + y) 40 := rfl
theorem h304_40 : code_ 304 40 = opC (vI 16) 42 := rfl
theorem h304_42 : code_ 304 42 = opCpGt 76 45 := rfl
theorem h304_45 : code_ 304 45 = opAld 0 46 := rfl
theorem h304_46 : code_ 304 46 = opGR 8 0 1 113669 49 := rfl
theorem h304_49 : code_ 304 49 = opC (vI 23) 51 := rfl
theorem h304_51 : code_ 304 51 = opIld 1 52 := rfl
theorem h304_52 : code_ 304 52 = opB (fun x y => x + y) 53 := rfl
theorem h304_53 : code_ 304 53 = opIal 54 := rfl
theorem h304_54 : code_ 304 54 = opIld 4 56 := rfl
theorem h304_56 : code_ 304 56 = opB shrI 57 := rfl
theorem h304_57 : code_ 304 57 = opC (vI 1) 58 := rfl
theorem h304_58 : code_ 304 58 = opIld 3 59 := rfl
theorem h304_59 : code_ 304 59 = opB shlI 60 := rfl
theorem h304_60 : code_ 304 60 = opC (vI 1) 61 := rfl
theorem h304_61 : code_ 304 61 = opB (fun x y => x - y) 62 := rfl
theorem h304_62 : code_ 304 62 = opB (fun x y => x &&& y) 63 := rfl
theorem h304_63 : code_ 304 63 = opIld 2 64 := rfl
theorem h304_64 : code_ 304 64 = opCpNe 70 67 := rfl
theorem h304_67 : code_ 304 67 = opIld 4 69 := rfl
theorem h304_69 : code_ 304 69 = opIret := rfl
theorem h304_70 : code_ 304 70 = opInc 4 1 73 := rfl
theorem h304_73 : code_ 304 73 = opGoto 36 := rfl
theorem h304_76 : code_ 304 76 = opC (vI (-1)) 77 := rfl
theorem h304_77 : code_ 304 77 = opIret := rfl
theorem h305_0 : code_ 305 0 = opAld 0 1 := rfl
theorem h305_1 : code_ 305 1 = opIld 1 2 := rfl
theorem h305_2 : code_ 305 2 = opIld 2 3 := rfl
theorem h305_3 : code_ 305 3 = opK kI 164 3 8 6 := rfl
theorem h305_6 : code_ 305 6 = opIfEq 37 9 := rfl
theorem h305_9 : code_ 305 9 = opC (vI 16) 11 := rfl
theorem h305_11 : code_ 305 11 = opAld 0 12 := rfl
theorem h305_12 : code_ 305 12 = opGR 8 0 1 113669 15 := rfl
theorem h305_15 : code_ 305 15 = opC (vI 23) 17 := rfl
theorem h305_17 : code_ 305 17 = opIld 1 18 := rfl
theorem h305_18 : code_ 305 18 = opB (fun x y => x + y) 19 := rfl
theorem h305_19 : code_ 305 19 = opIal 20 := rfl
theorem h305_20 : code_ 305 20 = opAld 0 21 := rfl
theorem h305_21 : code_ 305 21 = opGR 8 0 1 113669 24 := rfl
theorem h305_24 : code_ 305 24 = opC (vI 23) 26 := rfl
theorem h305_26 : code_ 305 26 = opIld 2 27 := rfl
theorem h305_27 : code_ 305 27 = opB (fun x y => x + y) 28 := rfl
theorem h305_28 : code_ 305 28 = opIal 29 := rfl
theorem h305_29 : code_ 305 29 = opB (fun x y => x ^^^ y) 30 := rfl
theorem h305_30 : code_ 305 30 = opK kI 161 1 99 33 := rfl
theorem h305_33 : code_ 305 33 = opB (fun x y => x - y) 34 := rfl
theorem h305_34 : code_ 305 34 = opGoto 38 := rfl
theorem h305_37 : code_ 305 37 = opC (vI (-1)) 38 := rfl
theorem h305_38 : code_ 305 38 = opMask [0, 1, 2] (opIret) := rfl
theorem h306_0 : code_ 306 0 = opAld 0 1 := rfl
theorem h306_1 : code_ 306 1 = opIld 1 2 := rfl
theorem h306_2 : code_ 306 2 = opK kI 163 2 8 5 := rfl
theorem h306_5 : code_ 306 5 = opIfNe 10 8 := rfl
theorem h306_8 : code_ 306 8 = opC (vI (-1)) 9 := rfl
theorem h306_9 : code_ 306 9 = opIret := rfl
theorem h306_10 : code_ 306 10 = opC (vI 0) 11 := rfl
theorem h306_11 : code_ 306 11 = opIst 2 12 := rfl
theorem h306_12 : code_ 306 12 = opC (vI 0) 13 := rfl
theorem h306_13 : code_ 306 13 = opIst 3 14 := rfl
theorem h306_14 : code_ 306 14 = opIld 3 15 := rfl
theorem h306_15 : code_ 306 15 = opC (vI 16) 17 := rfl
theorem h306_17 : code_ 306 17 = opCpGe 63 20 := rfl
theorem h306_20 : code_ 306 20 = opIld 2 21 := rfl
theorem h306_21 : code_ 306 21 = opAld 0 22 := rfl
theorem h306_22 : code_ 306 22 = opGR 8 0 1 113669 25 := rfl
theorem h306_25 : code_ 306 25 = opC (vI 23) 27 := rfl
theorem h306_27 : code_ 306 27 = opIld 1 28 := rfl
theorem h306_28 : code_ 306 28 = opB (fun x y => x + y) 29 := rfl
theorem h306_29 : code_ 306 29 = opIal 30 := rfl
theorem h306_30 : code_ 306 30 = opIld 3 31 := rfl
theorem h306_31 : code_ 306 31 = opK kI 160 2 99 34 := rfl
theorem h306_34 : code_ 306 34 = opIfEq 54 37 := rfl
theorem h306_37 : code_ 306 37 = opAld 0 38 := rfl
theorem h306_38 : code_ 306 38 = opAld 0 39 := rfl
theorem h306_39 : code_ 306 39 = opGR 8 0 1 113669 42 := rfl
theorem h306_42 : code_ 306 42 = opC (vI 11) 44 := rfl
theorem h306_44 : code_ 306 44 = opIld 1 45 := rfl
theorem h306_45 : code_ 306 45 = opB (fun x y => x + y) 46 := rfl
theorem h306_46 : code_ 306 46 = opIal 47 := rfl
theorem h306_47 : code_ 306 47 = opIld 3 48 := rfl
theorem h306_48 : code_ 306 48 = opK kI 175 3 8 51 := rfl
theorem h306_51 : code_ 306 51 = opGoto 55 := rfl
theorem h306_54 : code_ 306 54 = opC (vI 0) 55 := rfl
theorem h306_55 : code_ 306 55 = opMask [2] (opB (fun x y => x + y) 56) := rfl
theorem h306_56 : code_ 306 56 = opIst 2 57 := rfl
theorem h306_57 : code_ 306 57 = opInc 3 1 60 := rfl
theorem h306_60 : code_ 306 60 = opGoto 14 := rfl
theorem h306_63 : code_ 306 63 = opIld 2 64 := rfl
theorem h306_64 : code_ 306 64 = opIret := rfl
theorem h307_0 : code_ 307 0 = opIld 1 1 := rfl
theorem h307_1 : code_ 307 1 = opK kI 258 1 99 4 := rfl
theorem h307_4 : code_ 307 4 = opIfNe 9 7 := rfl
theorem h307_7 : code_ 307 7 = opC (vI (-1)) 8 := rfl
theorem h307_8 : code_ 307 8 = opIret := rfl
theorem h307_9 : code_ 307 9 = opC (vI 0) 10 := rfl
theorem h307_10 : code_ 307 10 = opIst 2 11 := rfl
theorem h307_11 : code_ 307 11 = opIld 2 12 := rfl
theorem h307_12 : code_ 307 12 = opC (vI 192) 15 := rfl
theorem h307_15 : code_ 307 15 = opCpGe 58 18 := rfl
theorem h307_18 : code_ 307 18 = opAld 0 19 := rfl
theorem h307_19 : code_ 307 19 = opIld 2 20 := rfl
theorem h307_20 : code_ 307 20 = opK kI 174 2 8 23 := rfl
theorem h307_23 : code_ 307 23 = opIfEq 52 26 := rfl
theorem h307_26 : code_ 307 26 = opAld 0 27 := rfl
theorem h307_27 : code_ 307 27 = opAld 0 28 := rfl
theorem h307_28 : code_ 307 28 = opGR 8 0 1 113669 31 := rfl
theorem h307_31 : code_ 307 31 = opC (vI 11) 33 := rfl
theorem h307_33 : code_ 307 33 = opIld 2 34 := rfl
theorem h307_34 : code_ 307 34 = opC (vI 16) 36 := rfl
theorem h307_36 : code_ 307 36 = opBz (fun x y => x / y) 37 := rfl
theorem h307_37 : code_ 307 37 = opB (fun x y => x + y) 38 := rfl
theorem h307_38 : code_ 307 38 = opIal 39 := rfl
theorem h307_39 : code_ 307 39 = opIld 2 40 := rfl
theorem h307_40 : code_ 307 40 = opC (vI 16) 42 := rfl
theorem h307_42 : code_ 307 42 = opBz remI 43 := rfl
theorem h307_43 : code_ 307 43 = opK kI 175 3 8 46 := rfl
theorem h307_46 : code_ 307 46 = opIld 1 47 := rfl
theorem h307_47 : code_ 307 47 = opCpNe 52 50 := rfl
theorem h307_50 : code_ 307 50 = opIld 2 51 := rfl
theorem h307_51 : code_ 307 51 = opIret := rfl
theorem h307_52 : code_ 307 52 = opInc 2 1 55 := rfl
theorem h307_55 : code_ 307 55 = opGoto 11 := rfl
theorem h307_58 : code_ 307 58 = opC (vI (-1)) 59 := rfl
theorem h307_59 : code_ 307 59 = opIret := rfl
theorem h308_0 : code_ 308 0 = opC (vI (-1)) 1 := rfl
theorem h308_1 : code_ 308 1 = opIst 1 2 := rfl
theorem h308_2 : code_ 308 2 = opC (vI 0) 3 := rfl
theorem h308_3 : code_ 308 3 = opIst 2 4 := rfl
theorem h308_4 : code_ 308 4 = opIld 2 5 := rfl
theorem h308_5 : code_ 308 5 = opC (vI 12) 7 := rfl
theorem h308_7 : code_ 308 7 = opCpGe 58 10 := rfl
theorem h308_10 : code_ 308 10 = opAld 0 11 := rfl
theorem h308_11 : code_ 308 11 = opIld 2 12 := rfl
theorem h308_12 : code_ 308 12 = opK kI 163 2 8 15 := rfl
theorem h308_15 : code_ 308 15 = opIfEq 52 18 := rfl
theorem h308_18 : code_ 308 18 = opIld 1 19 := rfl
theorem h308_19 : code_ 308 19 = opC (vI (-1)) 20 := rfl
theorem h308_20 : code_ 308 20 = opCpEq 50 23 := rfl
theorem h308_23 : code_ 308 23 = opAld 0 24 := rfl
theorem h308_24 : code_ 308 24 = opGR 8 0 1 113669 27 := rfl
theorem h308_27 : code_ 308 27 = opC (vI 23) 29 := rfl
theorem h308_29 : code_ 308 29 = opIld 2 30 := rfl
theorem h308_30 : code_ 308 30 = opB (fun x y => x + y) 31 := rfl
theorem h308_31 : code_ 308 31 = opIal 32 := rfl
theorem h308_32 : code_ 308 32 = opK kI 161 1 99 35 := rfl
theorem h308_35 : code_ 308 35 = opAld 0 36 := rfl
theorem h308_36 : code_ 308 36 = opGR 8 0 1 113669 39 := rfl
theorem h308_39 : code_ 308 39 = opC (vI 23) 41 := rfl
theorem h308_41 : code_ 308 41 = opIld 1 42 := rfl
theorem h308_42 : code_ 308 42 = opB (fun x y => x + y) 43 := rfl
theorem h308_43 : code_ 308 43 = opIal 44 := rfl
theorem h308_44 : code_ 308 44 = opK kI 161 1 99 47 := rfl
theorem h308_47 : code_ 308 47 = opCpLe 52 50 := rfl
theorem h308_50 : code_ 308 50 = opMask [1] (opIld 2 51) := rfl
theorem h308_51 : code_ 308 51 = opIst 1 52 := rfl
theorem h308_52 : code_ 308 52 = opInc 2 1 55 := rfl
theorem h308_55 : code_ 308 55 = opGoto 4 := rfl
theorem h308_58 : code_ 308 58 = opIld 1 59 := rfl
theorem h308_59 : code_ 308 59 = opIret := rfl
theorem h309_0 : code_ 309 0 = opAld 0 1 := rfl
theorem h309_1 : code_ 309 1 = opIld 1 2 := rfl
theorem h309_2 : code_ 309 2 = opK kI 163 2 8 5 := rfl
theorem h309_5 : code_ 309 5 = opIfNe 10 8 := rfl
theorem h309_8 : code_ 309 8 = opC (vI 1) 9 := rfl
theorem h309_9 : code_ 309 9 = opZret := rfl
theorem h309_10 : code_ 309 10 = opC (vI 0) 11 := rfl
theorem h309_11 : code_ 309 11 = opIst 2 12 := rfl
theorem h309_12 : code_ 309 12 = opC (vI 0) 13 := rfl
theorem h309_13 : code_ 309 13 = opIst 3 14 := rfl
theorem h309_14 : code_ 309 14 = opIld 3 15 := rfl
theorem h309_15 : code_ 309 15 = opC (vI 16) 17 := rfl
theorem h309_17 : code_ 309 17 = opCpGe 45 20 := rfl
theorem h309_20 : code_ 309 20 = opIld 2 21 := rfl
theorem h309_21 : code_ 309 21 = opC (vI 1) 22 := rfl
theorem h309_22 : code_ 309 22 = opAld 0 23 := rfl
theorem h309_23 : code_ 309 23 = opGR 8 0 1 113669 26 := rfl
theorem h309_26 : code_ 309 26 = opC (vI 35) 28 := rfl
theorem h309_28 : code_ 309 28 = opC (vI 16) 30 := rfl
theorem h309_30 : code_ 309 30 = opIld 1 31 := rfl
theorem h309_31 : code_ 309 31 = opB (fun x y => x * y) 32 := rfl
theorem h309_32 : code_ 309 32 = opB (fun x y => x + y) 33 := rfl
theorem h309_33 : code_ 309 33 = opIld 3 34 := rfl
theorem h309_34 : code_ 309 34 = opB (fun x y => x + y) 35 := rfl
theorem h309_35 : code_ 309 35 = opIal 36 := rfl
theorem h309_36 : code_ 309 36 = opB shlI 37 := rfl
theorem h309_37 : code_ 309 37 = opB (fun x y => x ||| y) 38 := rfl
theorem h309_38 : code_ 309 38 = opIst 2 39 := rfl
theorem h309_39 : code_ 309 39 = opInc 3 1 42 := rfl
theorem h309_42 : code_ 309 42 = opGoto 14 := rfl
theorem h309_45 : code_ 309 45 = opIld 2 46 := rfl
theorem h309_46 : code_ 309 46 = opC (vI 65535) 49 := rfl
theorem h309_49 : code_ 309 49 = opCpNe 64 52 := rfl
theorem h309_52 : code_ 309 52 = opAld 0 53 := rfl
theorem h309_53 : code_ 309 53 = opGR 8 0 1 113669 56 := rfl
theorem h309_56 : code_ 309 56 = opC (vI 23) 58 := rfl
theorem h309_58 : code_ 309 58 = opIld 1 59 := rfl
theorem h309_59 : code_ 309 59 = opB (fun x y => x + y) 60 := rfl
theorem h309_60 : code_ 309 60 = opIal 61 := rfl
theorem h309_61 : code_ 309 61 = opIfNe 66 64 := rfl
theorem h309_64 : code_ 309 64 = opMask [0, 1, 2, 3] (opC (vI 0) 65) := rfl
theorem h309_65 : code_ 309 65 = opZret := rfl
theorem h309_66 : code_ 309 66 = opIld 1 67 := rfl
theorem h309_67 : code_ 309 67 = opC (vI 1) 68 := rfl
theorem h309_68 : code_ 309 68 = opB (fun x y => x + y) 69 := rfl
theorem h309_69 : code_ 309 69 = opIst 3 70 := rfl
theorem h309_70 : code_ 309 70 = opMask [2] (opIld 3 71) := rfl
theorem h309_71 : code_ 309 71 = opC (vI 12) 73 := rfl
theorem h309_73 : code_ 309 73 = opCpGe 127 76 := rfl
theorem h309_76 : code_ 309 76 = opAld 0 77 := rfl
theorem h309_77 : code_ 309 77 = opGR 8 0 1 113669 80 := rfl
theorem h309_80 : code_ 309 80 = opC (vI 11) 82 := rfl
theorem h309_82 : code_ 309 82 = opIld 3 83 := rfl
theorem h309_83 : code_ 309 83 = opB (fun x y => x + y) 84 := rfl
theorem h309_84 : code_ 309 84 = opIal 85 := rfl
theorem h309_85 : code_ 309 85 = opAld 0 86 := rfl
theorem h309_86 : code_ 309 86 = opGR 8 0 1 113669 89 := rfl
theorem h309_89 : code_ 309 89 = opC (vI 11) 91 := rfl
theorem h309_91 : code_ 309 91 = opIld 1 92 := rfl
theorem h309_92 : code_ 309 92 = opB (fun x y => x + y) 93 := rfl
theorem h309_93 : code_ 309 93 = opIal 94 := rfl
theorem h309_94 : code_ 309 94 = opCpNe 121 97 := rfl
theorem h309_97 : code_ 309 97 = opAld 0 98 := rfl
theorem h309_98 : code_ 309 98 = opGR 8 0 1 113669 101 := rfl
theorem h309_101 : code_ 309 101 = opC (vI 23) 103 := rfl
theorem h309_103 : code_ 309 103 = opIld 1 104 := rfl
theorem h309_104 : code_ 309 104 = opB (fun x y => x + y) 105 := rfl
theorem h309_105 : code_ 309 105 = opIal 106 := rfl
theorem h309_106 : code_ 309 106 = opAld 0 107 := rfl
theorem h309_107 : code_ 309 107 = opGR 8 0 1 113669 110 := rfl
theorem h309_110 : code_ 309 110 = opC (vI 23) 112 := rfl
theorem h309_112 : code_ 309 112 = opIld 3 113 := rfl
theorem h309_113 : code_ 309 113 = opB (fun x y => x + y) 114 := rfl
theorem h309_114 : code_ 309 114 = opIal 115 := rfl
theorem h309_115 : code_ 309 115 = opB (fun x y => x &&& y) 116 := rfl
theorem h309_116 : code_ 309 116 = opIfEq 121 119 := rfl
theorem h309_119 : code_ 309 119 = opC (vI 0) 120 := rfl
theorem h309_120 : code_ 309 120 = opZret := rfl
theorem h309_121 : code_ 309 121 = opMask [2] (opInc 3 1 124) := rfl
theorem h309_124 : code_ 309 124 = opGoto 70 := rfl
theorem h309_127 : code_ 309 127 = opC (vI 1) 128 := rfl
theorem h309_128 : code_ 309 128 = opZret := rfl
theorem h310_0 : code_ 310 0 = opC (vI 0) 1 := rfl
theorem h310_1 : code_ 310 1 = opIst 1 2 := rfl
theorem h310_2 : code_ 310 2 = opIld 1 3 := rfl
theorem h310_3 : code_ 310 3 = opC (vI 12) 5 := rfl
theorem h310_5 : code_ 310 5 = opCpGe 24 8 := rfl
theorem h310_8 : code_ 310 8 = opAld 0 9 := rfl
theorem h310_9 : code_ 310 9 = opIld 1 10 := rfl
theorem h310_10 : code_ 310 10 = opK kI 309 2 8 13 := rfl
theorem h310_13 : code_ 310 13 = opIfNe 18 16 := rfl
theorem h310_16 : code_ 310 16 = opC (vI 0) 17 := rfl
theorem h310_17 : code_ 310 17 = opZret := rfl
theorem h310_18 : code_ 310 18 = opInc 1 1 21 := rfl
theorem h310_21 : code_ 310 21 = opGoto 2 := rfl
theorem h310_24 : code_ 310 24 = opC (vI 1) 25 := rfl
theorem h310_25 : code_ 310 25 = opZret := rfl
theorem h311_0 : code_ 311 0 = opAld 0 1 := rfl
theorem h311_1 : code_ 311 1 = opK kI 227 1 8 4 := rfl
theorem h311_4 : code_ 311 4 = opIret := rfl
theorem h312_0 : code_ 312 0 = opAld 0 1 := rfl
theorem h312_1 : code_ 312 1 = opIld 1 2 := rfl
theorem h312_2 : code_ 312 2 = opIld 2 3 := rfl
theorem h312_3 : code_ 312 3 = opK kI 164 3 8 6 := rfl
theorem h312_6 : code_ 312 6 = opIfEq 38 9 := rfl
theorem h312_9 : code_ 312 9 = opAld 0 10 := rfl
theorem h312_10 : code_ 312 10 = opAld 0 11 := rfl
theorem h312_11 : code_ 312 11 = opGR 8 0 1 113669 14 := rfl
theorem h312_14 : code_ 312 14 = opC (vI 11) 16 := rfl
theorem h312_16 : code_ 312 16 = opIld 1 17 := rfl
theorem h312_17 : code_ 312 17 = opB (fun x y => x + y) 18 := rfl
theorem h312_18 : code_ 312 18 = opIal 19 := rfl
theorem h312_19 : code_ 312 19 = opAld 0 20 := rfl
theorem h312_20 : code_ 312 20 = opGR 8 0 1 113669 23 := rfl
theorem h312_23 : code_ 312 23 = opC (vI 11) 25 := rfl
theorem h312_25 : code_ 312 25 = opIld 2 26 := rfl
theorem h312_26 : code_ 312 26 = opB (fun x y => x + y) 27 := rfl
theorem h312_27 : code_ 312 27 = opIal 28 := rfl
theorem h312_28 : code_ 312 28 = opK kI 226 3 8 31 := rfl
theorem h312_31 : code_ 312 31 = opIfEq 38 34 := rfl
theorem h312_34 : code_ 312 34 = opC (vI 1) 35 := rfl
theorem h312_35 : code_ 312 35 = opGoto 39 := rfl
theorem h312_38 : code_ 312 38 = opMask [0, 1, 2] (opC (vI 0) 39) := rfl
theorem h312_39 : code_ 312 39 = opMask [0, 1, 2] (opZret) := rfl
theorem h313_0 : code_ 313 0 = opIld 1 1 := rfl
theorem h313_1 : code_ 313 1 = opC (vI (-1)) 2 := rfl
theorem h313_2 : code_ 313 2 = opCpNe 14 5 := rfl
theorem h313_5 : code_ 313 5 = opAld 0 6 := rfl
theorem h313_6 : code_ 313 6 = opGR 8 0 1 113669 9 := rfl
theorem h313_9 : code_ 313 9 = opC (vI 3) 10 := rfl
theorem h313_10 : code_ 313 10 = opC (vI 0) 11 := rfl
theorem h313_11 : code_ 313 11 = opIas 12 := rfl
theorem h313_12 : code_ 313 12 = opC (vI 0) 13 := rfl
theorem h313_13 : code_ 313 13 = opIret := rfl
theorem h313_14 : code_ 313 14 = opIld 1 15 := rfl
theorem h313_15 : code_ 313 15 = opC (vI 0) 16 := rfl
theorem h313_16 : code_ 313 16 = opC (vI 16) 18 := rfl
theorem h313_18 : code_ 313 18 = opK kI 158 3 99 21 := rfl
theorem h313_21 : code_ 313 21 = opIfEq 54 24 := rfl
theorem h313_24 : code_ 313 24 = opIld 2 25 := rfl
theorem h313_25 : code_ 313 25 = opC (vI 0) 26 := rfl
theorem h313_26 : code_ 313 26 = opC (vI 16) 28 := rfl
theorem h313_28 : code_ 313 28 = opK kI 158 3 99 31 := rfl
theorem h313_31 : code_ 313 31 = opIfEq 54 34 := rfl
theorem h313_34 : code_ 313 34 = opIld 3 35 := rfl
theorem h313_35 : code_ 313 35 = opC (vI 0) 36 := rfl
theorem h313_36 : code_ 313 36 = opC (vI 1) 37 := rfl
theorem h313_37 : code_ 313 37 = opK kI 158 3 99 40 := rfl
theorem h313_40 : code_ 313 40 = opIfEq 54 43 := rfl
theorem h313_43 : code_ 313 43 = opAld 0 44 := rfl
theorem h313_44 : code_ 313 44 = opGR 8 0 1 113669 47 := rfl
theorem h313_47 : code_ 313 47 = opC (vI 3) 48 := rfl
theorem h313_48 : code_ 313 48 = opIal 49 := rfl
theorem h313_49 : code_ 313 49 = opC (vI 8) 51 := rfl
theorem h313_51 : code_ 313 51 = opCpNe 57 54 := rfl
theorem h313_54 : code_ 313 54 = opMask [0, 1, 2, 3, 4] (opC (vI (-2)) 56) := rfl
theorem h313_56 : code_ 313 56 = opIret := rfl
theorem h313_57 : code_ 313 57 = opC (vI 444) 60 := rfl
theorem h313_60 : code_ 313 60 = opC (vI 3) 61 := rfl
theorem h313_61 : code_ 313 61 = opAld 0 62 := rfl
theorem h313_62 : code_ 313 62 = opGR 8 0 1 113669 65 := rfl
theorem h313_65 : code_ 313 65 = opC (vI 3) 66 := rfl
theorem h313_66 : code_ 313 66 = opIal 67 := rfl
theorem h313_67 : code_ 313 67 = opB (fun x y => x * y) 68 := rfl
theorem h313_68 : code_ 313 68 = opB (fun x y => x + y) 69 := rfl
theorem h313_69 : code_ 313 69 = opIst 4 71 := rfl
theorem h313_71 : code_ 313 71 = opAld 0 72 := rfl
theorem h313_72 : code_ 313 72 = opGR 8 0 1 113669 75 := rfl
theorem h313_75 : code_ 313 75 = opIld 4 77 := rfl
theorem h313_77 : code_ 313 77 = opIld 1 78 := rfl
theorem h313_78 : code_ 313 78 = opIas 79 := rfl
theorem h313_79 : code_ 313 79 = opAld 0 80 := rfl
theorem h313_80 : code_ 313 80 = opGR 8 0 1 113669 83 := rfl
theorem h313_83 : code_ 313 83 = opIld 4 85 := rfl
theorem h313_85 : code_ 313 85 = opC (vI 1) 86 := rfl
theorem h313_86 : code_ 313 86 = opB (fun x y => x + y) 87 := rfl
theorem h313_87 : code_ 313 87 = opIld 2 88 := rfl
theorem h313_88 : code_ 313 88 = opIas 89 := rfl
theorem h313_89 : code_ 313 89 = opAld 0 90 := rfl
theorem h313_90 : code_ 313 90 = opGR 8 0 1 113669 93 := rfl
theorem h313_93 : code_ 313 93 = opIld 4 95 := rfl
theorem h313_95 : code_ 313 95 = opC (vI 2) 96 := rfl
theorem h313_96 : code_ 313 96 = opB (fun x y => x + y) 97 := rfl
theorem h313_97 : code_ 313 97 = opIld 3 98 := rfl
theorem h313_98 : code_ 313 98 = opIas 99 := rfl
theorem h313_99 : code_ 313 99 = opAld 0 100 := rfl
theorem h313_100 : code_ 313 100 = opGR 8 0 1 113669 103 := rfl
theorem h313_103 : code_ 313 103 = opC (vI 3) 104 := rfl
theorem h313_104 : code_ 313 104 = opDup2 105 := rfl
theorem h313_105 : code_ 313 105 = opIal 106 := rfl
theorem h313_106 : code_ 313 106 = opC (vI 1) 107 := rfl
theorem h313_107 : code_ 313 107 = opB (fun x y => x + y) 108 := rfl
theorem h313_108 : code_ 313 108 = opIas 109 := rfl
theorem h313_109 : code_ 313 109 = opAld 0 110 := rfl
theorem h313_110 : code_ 313 110 = opGR 8 0 1 113669 113 := rfl
theorem h313_113 : code_ 313 113 = opC (vI 3) 114 := rfl
theorem h313_114 : code_ 313 114 = opIal 115 := rfl
theorem h313_115 : code_ 313 115 = opIret := rfl
theorem h314_0 : code_ 314 0 = opC (vI 0) 1 := rfl
theorem h314_1 : code_ 314 1 = opIst 1 2 := rfl
theorem h314_2 : code_ 314 2 = opC (vI 0) 3 := rfl
theorem h314_3 : code_ 314 3 = opIst 2 4 := rfl
theorem h314_4 : code_ 314 4 = opMask [3, 4] (opIld 2 5) := rfl
theorem h314_5 : code_ 314 5 = opAld 0 6 := rfl
theorem h314_6 : code_ 314 6 = opGR 8 0 1 113669 9 := rfl
theorem h314_9 : code_ 314 9 = opC (vI 0) 10 := rfl
theorem h314_10 : code_ 314 10 = opIal 11 := rfl
theorem h314_11 : code_ 314 11 = opCpGe 116 14 := rfl
theorem h314_14 : code_ 314 14 = opC (vI 1) 15 := rfl
theorem h314_15 : code_ 314 15 = opIst 3 16 := rfl
theorem h314_16 : code_ 314 16 = opC (vI 444) 19 := rfl
theorem h314_19 : code_ 314 19 = opIst 4 21 := rfl
theorem h314_21 : code_ 314 21 = opIld 4 23 := rfl
theorem h314_23 : code_ 314 23 = opC (vI 444) 26 := rfl
theorem h314_26 : code_ 314 26 = opC (vI 3) 27 := rfl
theorem h314_27 : code_ 314 27 = opAld 0 28 := rfl
theorem h314_28 : code_ 314 28 = opGR 8 0 1 113669 31 := rfl
theorem h314_31 : code_ 314 31 = opC (vI 3) 32 := rfl
theorem h314_32 : code_ 314 32 = opIal 33 := rfl
theorem h314_33 : code_ 314 33 = opB (fun x y => x * y) 34 := rfl
theorem h314_34 : code_ 314 34 = opB (fun x y => x + y) 35 := rfl
theorem h314_35 : code_ 314 35 = opCpGe 96 38 := rfl
theorem h314_38 : code_ 314 38 = opIld 3 39 := rfl
theorem h314_39 : code_ 314 39 = opIfEq 88 42 := rfl
theorem h314_42 : code_ 314 42 = opAld 0 43 := rfl
theorem h314_43 : code_ 314 43 = opIld 2 44 := rfl
theorem h314_44 : code_ 314 44 = opAld 0 45 := rfl
theorem h314_45 : code_ 314 45 = opGR 8 0 1 113669 48 := rfl
theorem h314_48 : code_ 314 48 = opIld 4 50 := rfl
theorem h314_50 : code_ 314 50 = opIal 51 := rfl
theorem h314_51 : code_ 314 51 = opAld 0 52 := rfl
theorem h314_52 : code_ 314 52 = opGR 8 0 1 113669 55 := rfl
theorem h314_55 : code_ 314 55 = opIld 4 57 := rfl
theorem h314_57 : code_ 314 57 = opC (vI 1) 58 := rfl
theorem h314_58 : code_ 314 58 = opB (fun x y => x + y) 59 := rfl
theorem h314_59 : code_ 314 59 = opIal 60 := rfl
theorem h314_60 : code_ 314 60 = opK kI 225 4 8 63 := rfl
theorem h314_63 : code_ 314 63 = opAld 0 64 := rfl
theorem h314_64 : code_ 314 64 = opGR 8 0 1 113669 67 := rfl
theorem h314_67 : code_ 314 67 = opIld 4 69 := rfl
theorem h314_69 : code_ 314 69 = opC (vI 2) 70 := rfl
theorem h314_70 : code_ 314 70 = opB (fun x y => x + y) 71 := rfl
theorem h314_71 : code_ 314 71 = opIal 72 := rfl
theorem h314_72 : code_ 314 72 = opC (vI 1) 73 := rfl
theorem h314_73 : code_ 314 73 = opCpNe 80 76 := rfl
theorem h314_76 : code_ 314 76 = opC (vI 1) 77 := rfl
theorem h314_77 : code_ 314 77 = opGoto 81 := rfl
theorem h314_80 : code_ 314 80 = opC (vI 0) 81 := rfl
theorem h314_81 : code_ 314 81 = opMask [3] (opCpNe 88 84) := rfl
theorem h314_84 : code_ 314 84 = opC (vI 1) 85 := rfl
theorem h314_85 : code_ 314 85 = opGoto 89 := rfl
theorem h314_88 : code_ 314 88 = opMask [3] (opC (vI 0) 89) := rfl
theorem h314_89 : code_ 314 89 = opMask [3] (opIst 3 90) := rfl
theorem h314_90 : code_ 314 90 = opInc 4 3 93 := rfl
theorem h314_93 : code_ 314 93 = opGoto 21 := rfl
theorem h314_96 : code_ 314 96 = opIld 1 97 := rfl
theorem h314_97 : code_ 314 97 = opIld 3 98 := rfl
theorem h314_98 : code_ 314 98 = opIfEq 107 101 := rfl
theorem h314_101 : code_ 314 101 = opC (vI 1) 102 := rfl
theorem h314_102 : code_ 314 102 = opIld 2 103 := rfl
theorem h314_103 : code_ 314 103 = opB shlI 104 := rfl
theorem h314_104 : code_ 314 104 = opGoto 108 := rfl
theorem h314_107 : code_ 314 107 = opC (vI 0) 108 := rfl
theorem h314_108 : code_ 314 108 = opMask [1, 3, 4] (opB (fun x y => x ||| y) 109) := rfl
theorem h314_109 : code_ 314 109 = opIst 1 110 := rfl
theorem h314_110 : code_ 314 110 = opInc 2 1 113 := rfl
theorem h314_113 : code_ 314 113 = opGoto 4 := rfl
theorem h314_116 : code_ 314 116 = opIld 1 117 := rfl
theorem h314_117 : code_ 314 117 = opIret := rfl
theorem h315_0 : code_ 315 0 = opAld 0 1 := rfl
theorem h315_1 : code_ 315 1 = opGR 8 0 1 113669 4 := rfl
theorem h315_4 : code_ 315 4 = opAld 0 5 := rfl
theorem h315_5 : code_ 315 5 = opGR 8 1 2 113669 8 := rfl
theorem h315_8 : code_ 315 8 = opK kV 157 2 99 11 := rfl
theorem h315_11 : code_ 315 11 = opAld 0 12 := rfl
theorem h315_12 : code_ 315 12 = opGR 8 0 1 113669 15 := rfl
theorem h315_15 : code_ 315 15 = opC (vI 4) 16 := rfl
theorem h315_16 : code_ 315 16 = opIal 17 := rfl
theorem h315_17 : code_ 315 17 = opIret := rfl
theorem h316_0 : code_ 316 0 = opAld 0 1 := rfl
theorem h316_1 : code_ 316 1 = opGR 8 1 2 113669 4 := rfl
theorem h316_4 : code_ 316 4 = opAld 0 5 := rfl
theorem h316_5 : code_ 316 5 = opGR 8 0 1 113669 8 := rfl
theorem h316_8 : code_ 316 8 = opK kV 157 2 99 11 := rfl
theorem h316_11 : code_ 316 11 = opAld 0 12 := rfl
theorem h316_12 : code_ 316 12 = opGR 8 0 1 113669 15 := rfl
theorem h316_15 : code_ 316 15 = opC (vI 4) 16 := rfl
theorem h316_16 : code_ 316 16 = opIal 17 := rfl
theorem h316_17 : code_ 316 17 = opIret := rfl
theorem h317_0 : code_ 317 0 = opIld 1 1 := rfl
theorem h317_1 : code_ 317 1 = opSw 49 [(4, 28), (5, 33), (6, 41)] := rfl
theorem h317_28 : code_ 317 28 = opAld 0 29 := rfl
theorem h317_29 : code_ 317 29 = opGI 8 4 32 := rfl
theorem h317_32 : code_ 317 32 = opIret := rfl
theorem h317_33 : code_ 317 33 = opAld 0 34 := rfl
theorem h317_34 : code_ 317 34 = opGR 8 0 1 113669 37 := rfl
theorem h317_37 : code_ 317 37 = opC (vI 7) 39 := rfl
theorem h317_39 : code_ 317 39 = opIal 40 := rfl
theorem h317_40 : code_ 317 40 = opIret := rfl
theorem h317_41 : code_ 317 41 = opAld 0 42 := rfl
theorem h317_42 : code_ 317 42 = opK kI 245 1 8 45 := rfl
theorem h317_45 : code_ 317 45 = opK kI 161 1 99 48 := rfl
theorem h317_48 : code_ 317 48 = opIret := rfl
theorem h317_49 : code_ 317 49 = opIld 1 50 := rfl
theorem h317_50 : code_ 317 50 = opC (vI 0) 51 := rfl
theorem h317_51 : code_ 317 51 = opC (vI 3) 52 := rfl
theorem h317_52 : code_ 317 52 = opK kI 158 3 99 55 := rfl
theorem h317_55 : code_ 317 55 = opIfEq 67 58 := rfl
theorem h317_58 : code_ 317 58 = opAld 0 59 := rfl
theorem h317_59 : code_ 317 59 = opGR 8 0 1 113669 62 := rfl
theorem h317_62 : code_ 317 62 = opIld 1 63 := rfl
theorem h317_63 : code_ 317 63 = opIal 64 := rfl
theorem h317_64 : code_ 317 64 = opGoto 69 := rfl
theorem h317_67 : code_ 317 67 = opC (vI (-2)) 69 := rfl
theorem h317_69 : code_ 317 69 = opMask [0, 1] (opIret) := rfl
theorem h318_0 : code_ 318 0 = opIld 0 1 := rfl
theorem h318_1 : code_ 318 1 = opIld 0 2 := rfl
theorem h318_2 : code_ 318 2 = opC (vI 1) 3 := rfl
theorem h318_3 : code_ 318 3 = opB ushI 4 := rfl
theorem h318_4 : code_ 318 4 = opC (vI 1431655765) 7 := rfl
theorem h318_7 : code_ 318 7 = opB (fun x y => x &&& y) 8 := rfl
theorem h318_8 : code_ 318 8 = opB (fun x y => x - y) 9 := rfl
theorem h318_9 : code_ 318 9 = opIst 0 10 := rfl
theorem h318_10 : code_ 318 10 = opIld 0 11 := rfl
theorem h318_11 : code_ 318 11 = opC (vI 858993459) 14 := rfl
theorem h318_14 : code_ 318 14 = opB (fun x y => x &&& y) 15 := rfl
theorem h318_15 : code_ 318 15 = opIld 0 16 := rfl
theorem h318_16 : code_ 318 16 = opC (vI 2) 17 := rfl
theorem h318_17 : code_ 318 17 = opB ushI 18 := rfl
theorem h318_18 : code_ 318 18 = opC (vI 858993459) 21 := rfl
theorem h318_21 : code_ 318 21 = opB (fun x y => x &&& y) 22 := rfl
theorem h318_22 : code_ 318 22 = opB (fun x y => x + y) 23 := rfl
theorem h318_23 : code_ 318 23 = opIst 0 24 := rfl
theorem h318_24 : code_ 318 24 = opIld 0 25 := rfl
theorem h318_25 : code_ 318 25 = opIld 0 26 := rfl
theorem h318_26 : code_ 318 26 = opC (vI 4) 27 := rfl
theorem h318_27 : code_ 318 27 = opB ushI 28 := rfl
theorem h318_28 : code_ 318 28 = opB (fun x y => x + y) 29 := rfl
theorem h318_29 : code_ 318 29 = opC (vI 252645135) 32 := rfl
theorem h318_32 : code_ 318 32 = opB (fun x y => x &&& y) 33 := rfl
theorem h318_33 : code_ 318 33 = opIst 0 34 := rfl
theorem h318_34 : code_ 318 34 = opIld 0 35 := rfl
theorem h318_35 : code_ 318 35 = opIld 0 36 := rfl
theorem h318_36 : code_ 318 36 = opC (vI 8) 38 := rfl
theorem h318_38 : code_ 318 38 = opB ushI 39 := rfl
theorem h318_39 : code_ 318 39 = opB (fun x y => x + y) 40 := rfl
theorem h318_40 : code_ 318 40 = opIst 0 41 := rfl
theorem h318_41 : code_ 318 41 = opIld 0 42 := rfl
theorem h318_42 : code_ 318 42 = opIld 0 43 := rfl
theorem h318_43 : code_ 318 43 = opC (vI 16) 45 := rfl
theorem h318_45 : code_ 318 45 = opB ushI 46 := rfl
theorem h318_46 : code_ 318 46 = opB (fun x y => x + y) 47 := rfl
theorem h318_47 : code_ 318 47 = opIst 0 48 := rfl
theorem h318_48 : code_ 318 48 = opIld 0 49 := rfl
theorem h318_49 : code_ 318 49 = opC (vI 63) 51 := rfl
theorem h318_51 : code_ 318 51 = opB (fun x y => x &&& y) 52 := rfl
theorem h318_52 : code_ 318 52 = opIret := rfl
theorem h319_0 : code_ 319 0 = opC (vI 0) 1 := rfl
theorem h319_1 : code_ 319 1 = opIst 2 2 := rfl
theorem h319_2 : code_ 319 2 = opAld 0 3 := rfl
theorem h319_3 : code_ 319 3 = opAln 4 := rfl
theorem h319_4 : code_ 319 4 = opIst 3 5 := rfl
theorem h319_5 : code_ 319 5 = opIld 2 6 := rfl
theorem h319_6 : code_ 319 6 = opIld 3 7 := rfl
theorem h319_7 : code_ 319 7 = opCpGe 20 10 := rfl
theorem h319_10 : code_ 319 10 = opAld 0 11 := rfl
theorem h319_11 : code_ 319 11 = opIld 2 12 := rfl
theorem h319_12 : code_ 319 12 = opIld 1 13 := rfl
theorem h319_13 : code_ 319 13 = opIas 14 := rfl
theorem h319_14 : code_ 319 14 = opInc 2 1 17 := rfl
theorem h319_17 : code_ 319 17 = opGoto 5 := rfl
theorem h319_20 : code_ 319 20 = opRet := rfl
theorem h320_18 : code_ 320 18 = opIld 3 19 := rfl
theorem h320_19 : code_ 320 19 = opAld 0 20 := rfl
theorem h320_20 : code_ 320 20 = opScL 21 := rfl
theorem h320_21 : code_ 320 21 = opC (vI 6) 23 := rfl
theorem h320_23 : code_ 320 23 = opB (fun x y => x - y) 24 := rfl
theorem h320_24 : code_ 320 24 = opCpGt 1491 27 := rfl
theorem h320_27 : code_ 320 27 = opAld 0 28 := rfl
theorem h320_28 : code_ 320 28 = opIld 3 29 := rfl
theorem h320_29 : code_ 320 29 = opScI 30 := rfl
theorem h320_30 : code_ 320 30 = opC (vI 63) 32 := rfl
theorem h320_32 : code_ 320 32 = opB (fun x y => x &&& y) 33 := rfl
theorem h320_33 : code_ 320 33 = opSw 1485 [(0, 244), (1, 307), (2, 330), (3, 343), (4, 366), (5, 389), (6, 412), (7, 435), (8, 468), (9, 501), (10, 534), (11, 547), (12, 560), (13, 573), (14, 596), (15, 619), (16, 652), (17, 665), (18, 688), (19, 721), (20, 754), (21, 787), (22, 810), (23, 843), (24, 876), (25, 909), (26, 942), (27, 1002), (28, 1042), (29, 1055), (30, 1078), (31, 1091), (32, 1104), (33, 1117), (34, 1140), (35, 1163), (36, 1206), (37, 1239), (38, 1262), (39, 1285), (40, 1298), (41, 1311), (42, 1324), (43, 1357), (44, 1400), (45, 1413), (46, 1436), (47, 1449), (48, 1462)] := rfl
theorem h320_244 : code_ 320 244 = opAld 1 245 := rfl
theorem h320_245 : code_ 320 245 = opAld 0 246 := rfl
theorem h320_246 : code_ 320 246 = opIld 3 247 := rfl
theorem h320_247 : code_ 320 247 = opC (vI 1) 248 := rfl
theorem h320_248 : code_ 320 248 = opB (fun x y => x + y) 249 := rfl
theorem h320_249 : code_ 320 249 = opScI 250 := rfl
theorem h320_250 : code_ 320 250 = opAld 0 251 := rfl
theorem h320_251 : code_ 320 251 = opIld 3 252 := rfl
theorem h320_252 : code_ 320 252 = opC (vI 2) 253 := rfl
theorem h320_253 : code_ 320 253 = opB (fun x y => x + y) 254 := rfl
theorem h320_254 : code_ 320 254 = opScI 255 := rfl
theorem h320_255 : code_ 320 255 = opAld 0 256 := rfl
theorem h320_256 : code_ 320 256 = opIld 3 257 := rfl
theorem h320_257 : code_ 320 257 = opC (vI 3) 258 := rfl
theorem h320_258 : code_ 320 258 = opB (fun x y => x + y) 259 := rfl
theorem h320_259 : code_ 320 259 = opScI 260 := rfl
theorem h320_260 : code_ 320 260 = opAld 0 261 := rfl
theorem h320_261 : code_ 320 261 = opIld 3 262 := rfl
theorem h320_262 : code_ 320 262 = opC (vI 4) 263 := rfl
theorem h320_263 : code_ 320 263 = opB (fun x y => x + y) 264 := rfl
theorem h320_264 : code_ 320 264 = opScI 265 := rfl
theorem h320_265 : code_ 320 265 = opAld 0 266 := rfl
theorem h320_266 : code_ 320 266 = opIld 3 267 := rfl
theorem h320_267 : code_ 320 267 = opC (vI 5) 268 := rfl
theorem h320_268 : code_ 320 268 = opB (fun x y => x + y) 269 := rfl
theorem h320_269 : code_ 320 269 = opScI 270 := rfl
theorem h320_270 : code_ 320 270 = opK kI 99 6 7 273 := rfl
theorem h320_273 : code_ 320 273 = opAld 2 274 := rfl
theorem h320_274 : code_ 320 274 = opAld 0 275 := rfl
theorem h320_275 : code_ 320 275 = opIld 3 276 := rfl
theorem h320_276 : code_ 320 276 = opC (vI 1) 277 := rfl
theorem h320_277 : code_ 320 277 = opB (fun x y => x + y) 278 := rfl
theorem h320_278 : code_ 320 278 = opScI 279 := rfl
theorem h320_279 : code_ 320 279 = opAld 0 280 := rfl
theorem h320_280 : code_ 320 280 = opIld 3 281 := rfl
theorem h320_281 : code_ 320 281 = opC (vI 2) 282 := rfl
theorem h320_282 : code_ 320 282 = opB (fun x y => x + y) 283 := rfl
theorem h320_283 : code_ 320 283 = opScI 284 := rfl
theorem h320_284 : code_ 320 284 = opAld 0 285 := rfl
theorem h320_285 : code_ 320 285 = opIld 3 286 := rfl
theorem h320_286 : code_ 320 286 = opC (vI 3) 287 := rfl
theorem h320_287 : code_ 320 287 = opB (fun x y => x + y) 288 := rfl
theorem h320_288 : code_ 320 288 = opScI 289 := rfl
theorem h320_289 : code_ 320 289 = opAld 0 290 := rfl
theorem h320_290 : code_ 320 290 = opIld 3 291 := rfl
theorem h320_291 : code_ 320 291 = opC (vI 4) 292 := rfl
theorem h320_292 : code_ 320 292 = opB (fun x y => x + y) 293 := rfl
theorem h320_293 : code_ 320 293 = opScI 294 := rfl
theorem h320_294 : code_ 320 294 = opAld 0 295 := rfl
theorem h320_295 : code_ 320 295 = opIld 3 296 := rfl
theorem h320_296 : code_ 320 296 = opC (vI 5) 297 := rfl
theorem h320_297 : code_ 320 297 = opB (fun x y => x + y) 298 := rfl
theorem h320_298 : code_ 320 298 = opScI 299 := rfl
theorem h320_299 : code_ 320 299 = opK kI 177 6 8 302 := rfl
theorem h320_302 : code_ 320 302 = opCpEq 1485 305 := rfl
theorem h320_305 : code_ 320 305 = opC (vI 0) 306 := rfl
theorem h320_306 : code_ 320 306 = opZret := rfl
theorem h320_307 : code_ 320 307 = opAld 1 308 := rfl
theorem h320_308 : code_ 320 308 = opAld 0 309 := rfl
theorem h320_309 : code_ 320 309 = opIld 3 310 := rfl
theorem h320_310 : code_ 320 310 = opC (vI 1) 311 := rfl
theorem h320_311 : code_ 320 311 = opB (fun x y => x + y) 312 := rfl
theorem h320_312 : code_ 320 312 = opScI 313 := rfl
theorem h320_313 : code_ 320 313 = opK kI 100 2 7 316 := rfl
theorem h320_316 : code_ 320 316 = opAld 2 317 := rfl
theorem h320_317 : code_ 320 317 = opAld 0 318 := rfl
theorem h320_318 : code_ 320 318 = opIld 3 319 := rfl
theorem h320_319 : code_ 320 319 = opC (vI 1) 320 := rfl
theorem h320_320 : code_ 320 320 = opB (fun x y => x + y) 321 := rfl
theorem h320_321 : code_ 320 321 = opScI 322 := rfl
theorem h320_322 : code_ 320 322 = opK kI 178 2 8 325 := rfl
theorem h320_325 : code_ 320 325 = opCpEq 1485 328 := rfl
theorem h320_328 : code_ 320 328 = opC (vI 0) 329 := rfl
theorem h320_329 : code_ 320 329 = opZret := rfl
theorem h320_330 : code_ 320 330 = opAld 1 331 := rfl
theorem h320_331 : code_ 320 331 = opK kI 101 1 7 334 := rfl
theorem h320_334 : code_ 320 334 = opAld 2 335 := rfl
theorem h320_335 : code_ 320 335 = opK kI 214 1 8 338 := rfl
theorem h320_338 : code_ 320 338 = opCpEq 1485 341 := rfl
theorem h320_341 : code_ 320 341 = opC (vI 0) 342 := rfl
theorem h320_342 : code_ 320 342 = opZret := rfl
theorem h320_343 : code_ 320 343 = opAld 1 344 := rfl
theorem h320_344 : code_ 320 344 = opAld 0 345 := rfl
theorem h320_345 : code_ 320 345 = opIld 3 346 := rfl
theorem h320_346 : code_ 320 346 = opC (vI 1) 347 := rfl
theorem h320_347 : code_ 320 347 = opB (fun x y => x + y) 348 := rfl
theorem h320_348 : code_ 320 348 = opScI 349 := rfl
theorem h320_349 : code_ 320 349 = opK kI 102 2 7 352 := rfl
theorem h320_352 : code_ 320 352 = opAld 2 353 := rfl
theorem h320_353 : code_ 320 353 = opAld 0 354 := rfl
theorem h320_354 : code_ 320 354 = opIld 3 355 := rfl
theorem h320_355 : code_ 320 355 = opC (vI 1) 356 := rfl
theorem h320_356 : code_ 320 356 = opB (fun x y => x + y) 357 := rfl
theorem h320_357 : code_ 320 357 = opScI 358 := rfl
theorem h320_358 : code_ 320 358 = opK kI 215 2 8 361 := rfl
theorem h320_361 : code_ 320 361 = opCpEq 1485 364 := rfl
theorem h320_364 : code_ 320 364 = opC (vI 0) 365 := rfl
theorem h320_365 : code_ 320 365 = opZret := rfl
theorem h320_366 : code_ 320 366 = opAld 1 367 := rfl
theorem h320_367 : code_ 320 367 = opAld 0 368 := rfl
theorem h320_368 : code_ 320 368 = opIld 3 369 := rfl
theorem h320_369 : code_ 320 369 = opC (vI 1) 370 := rfl
theorem h320_370 : code_ 320 370 = opB (fun x y => x + y) 371 := rfl
theorem h320_371 : code_ 320 371 = opScI 372 := rfl
theorem h320_372 : code_ 320 372 = opK kI 103 2 7 375 := rfl
theorem h320_375 : code_ 320 375 = opAld 2 376 := rfl
theorem h320_376 : code_ 320 376 = opAld 0 377 := rfl
theorem h320_377 : code_ 320 377 = opIld 3 378 := rfl
theorem h320_378 : code_ 320 378 = opC (vI 1) 379 := rfl
theorem h320_379 : code_ 320 379 = opB (fun x y => x + y) 380 := rfl
theorem h320_380 : code_ 320 380 = opScI 381 := rfl
theorem h320_381 : code_ 320 381 = opK kI 216 2 8 384 := rfl
theorem h320_384 : code_ 320 384 = opCpEq 1485 387 := rfl
theorem h320_387 : code_ 320 387 = opC (vI 0) 388 := rfl
theorem h320_388 : code_ 320 388 = opZret := rfl
theorem h320_389 : code_ 320 389 = opAld 1 390 := rfl
theorem h320_390 : code_ 320 390 = opAld 0 391 := rfl
theorem h320_391 : code_ 320 391 = opIld 3 392 := rfl
theorem h320_392 : code_ 320 392 = opC (vI 1) 393 := rfl
theorem h320_393 : code_ 320 393 = opB (fun x y => x + y) 394 := rfl
theorem h320_394 : code_ 320 394 = opScI 395 := rfl
theorem h320_395 : code_ 320 395 = opK kI 104 2 7 398 := rfl
theorem h320_398 : code_ 320 398 = opAld 2 399 := rfl
theorem h320_399 : code_ 320 399 = opAld 0 400 := rfl
theorem h320_400 : code_ 320 400 = opIld 3 401 := rfl
theorem h320_401 : code_ 320 401 = opC (vI 1) 402 := rfl
theorem h320_402 : code_ 320 402 = opB (fun x y => x + y) 403 := rfl
theorem h320_403 : code_ 320 403 = opScI 404 := rfl
theorem h320_404 : code_ 320 404 = opK kI 259 2 8 407 := rfl
theorem h320_407 : code_ 320 407 = opCpEq 1485 410 := rfl
theorem h320_410 : code_ 320 410 = opC (vI 0) 411 := rfl
theorem h320_411 : code_ 320 411 = opZret := rfl
theorem h320_412 : code_ 320 412 = opAld 1 413 := rfl
theorem h320_413 : code_ 320 413 = opAld 0 414 := rfl
theorem h320_414 : code_ 320 414 = opIld 3 415 := rfl
theorem h320_415 : code_ 320 415 = opC (vI 1) 416 := rfl
theorem h320_416 : code_ 320 416 = opB (fun x y => x + y) 417 := rfl
theorem h320_417 : code_ 320 417 = opScI 418 := rfl
theorem h320_418 : code_ 320 418 = opK kI 105 2 7 421 := rfl
theorem h320_421 : code_ 320 421 = opAld 2 422 := rfl
theorem h320_422 : code_ 320 422 = opAld 0 423 := rfl
theorem h320_423 : code_ 320 423 = opIld 3 424 := rfl
theorem h320_424 : code_ 320 424 = opC (vI 1) 425 := rfl
theorem h320_425 : code_ 320 425 = opB (fun x y => x + y) 426 := rfl
theorem h320_426 : code_ 320 426 = opScI 427 := rfl
theorem h320_427 : code_ 320 427 = opK kI 260 2 8 430 := rfl
theorem h320_430 : code_ 320 430 = opCpEq 1485 433 := rfl
theorem h320_433 : code_ 320 433 = opC (vI 0) 434 := rfl
theorem h320_434 : code_ 320 434 = opZret := rfl
theorem h320_435 : code_ 320 435 = opAld 1 436 := rfl
theorem h320_436 : code_ 320 436 = opAld 0 437 := rfl
theorem h320_437 : code_ 320 437 = opIld 3 438 := rfl
theorem h320_438 : code_ 320 438 = opC (vI 1) 439 := rfl
theorem h320_439 : code_ 320 439 = opB (fun x y => x + y) 440 := rfl
theorem h320_440 : code_ 320 440 = opScI 441 := rfl
theorem h320_441 : code_ 320 441 = opAld 0 442 := rfl
theorem h320_442 : code_ 320 442 = opIld 3 443 := rfl
theorem h320_443 : code_ 320 443 = opC (vI 2) 444 := rfl
theorem h320_444 : code_ 320 444 = opB (fun x y => x + y) 445 := rfl
theorem h320_445 : code_ 320 445 = opScI 446 := rfl
theorem h320_446 : code_ 320 446 = opK kI 106 3 7 449 := rfl
theorem h320_449 : code_ 320 449 = opAld 2 450 := rfl
theorem h320_450 : code_ 320 450 = opAld 0 451 := rfl
theorem h320_451 : code_ 320 451 = opIld 3 452 := rfl
theorem h320_452 : code_ 320 452 = opC (vI 1) 453 := rfl
theorem h320_453 : code_ 320 453 = opB (fun x y => x + y) 454 := rfl
theorem h320_454 : code_ 320 454 = opScI 455 := rfl
theorem h320_455 : code_ 320 455 = opAld 0 456 := rfl
theorem h320_456 : code_ 320 456 = opIld 3 457 := rfl
theorem h320_457 : code_ 320 457 = opC (vI 2) 458 := rfl
theorem h320_458 : code_ 320 458 = opB (fun x y => x + y) 459 := rfl
theorem h320_459 : code_ 320 459 = opScI 460 := rfl
theorem h320_460 : code_ 320 460 = opK kI 261 3 8 463 := rfl
theorem h320_463 : code_ 320 463 = opCpEq 1485 466 := rfl
theorem h320_466 : code_ 320 466 = opC (vI 0) 467 := rfl
theorem h320_467 : code_ 320 467 = opZret := rfl
theorem h320_468 : code_ 320 468 = opAld 1 469 := rfl
theorem h320_469 : code_ 320 469 = opAld 0 470 := rfl
theorem h320_470 : code_ 320 470 = opIld 3 471 := rfl
theorem h320_471 : code_ 320 471 = opC (vI 1) 472 := rfl
theorem h320_472 : code_ 320 472 = opB (fun x y => x + y) 473 := rfl
theorem h320_473 : code_ 320 473 = opScI 474 := rfl
theorem h320_474 : code_ 320 474 = opAld 0 475 := rfl
theorem h320_475 : code_ 320 475 = opIld 3 476 := rfl
theorem h320_476 : code_ 320 476 = opC (vI 2) 477 := rfl
theorem h320_477 : code_ 320 477 = opB (fun x y => x + y) 478 := rfl
theorem h320_478 : code_ 320 478 = opScI 479 := rfl
theorem h320_479 : code_ 320 479 = opK kI 107 3 7 482 := rfl
theorem h320_482 : code_ 320 482 = opAld 2 483 := rfl
theorem h320_483 : code_ 320 483 = opAld 0 484 := rfl
theorem h320_484 : code_ 320 484 = opIld 3 485 := rfl
theorem h320_485 : code_ 320 485 = opC (vI 1) 486 := rfl
theorem h320_486 : code_ 320 486 = opB (fun x y => x + y) 487 := rfl
theorem h320_487 : code_ 320 487 = opScI 488 := rfl
theorem h320_488 : code_ 320 488 = opAld 0 489 := rfl
theorem h320_489 : code_ 320 489 = opIld 3 490 := rfl
theorem h320_490 : code_ 320 490 = opC (vI 2) 491 := rfl
theorem h320_491 : code_ 320 491 = opB (fun x y => x + y) 492 := rfl
theorem h320_492 : code_ 320 492 = opScI 493 := rfl
theorem h320_493 : code_ 320 493 = opK kI 263 3 8 496 := rfl
theorem h320_496 : code_ 320 496 = opCpEq 1485 499 := rfl
theorem h320_499 : code_ 320 499 = opC (vI 0) 500 := rfl
theorem h320_500 : code_ 320 500 = opZret := rfl
theorem h320_501 : code_ 320 501 = opAld 1 502 := rfl
theorem h320_502 : code_ 320 502 = opAld 0 503 := rfl
theorem h320_503 : code_ 320 503 = opIld 3 504 := rfl
theorem h320_504 : code_ 320 504 = opC (vI 1) 505 := rfl
theorem h320_505 : code_ 320 505 = opB (fun x y => x + y) 506 := rfl
theorem h320_506 : code_ 320 506 = opScI 507 := rfl
theorem h320_507 : code_ 320 507 = opAld 0 508 := rfl
theorem h320_508 : code_ 320 508 = opIld 3 509 := rfl
theorem h320_509 : code_ 320 509 = opC (vI 2) 510 := rfl
theorem h320_510 : code_ 320 510 = opB (fun x y => x + y) 511 := rfl
theorem h320_511 : code_ 320 511 = opScI 512 := rfl
theorem h320_512 : code_ 320 512 = opK kI 108 3 7 515 := rfl
theorem h320_515 : code_ 320 515 = opAld 2 516 := rfl
theorem h320_516 : code_ 320 516 = opAld 0 517 := rfl
theorem h320_517 : code_ 320 517 = opIld 3 518 := rfl
theorem h320_518 : code_ 320 518 = opC (vI 1) 519 := rfl
theorem h320_519 : code_ 320 519 = opB (fun x y => x + y) 520 := rfl
theorem h320_520 : code_ 320 520 = opScI 521 := rfl
theorem h320_521 : code_ 320 521 = opAld 0 522 := rfl
theorem h320_522 : code_ 320 522 = opIld 3 523 := rfl
theorem h320_523 : code_ 320 523 = opC (vI 2) 524 := rfl
theorem h320_524 : code_ 320 524 = opB (fun x y => x + y) 525 := rfl
theorem h320_525 : code_ 320 525 = opScI 526 := rfl
theorem h320_526 : code_ 320 526 = opK kI 264 3 8 529 := rfl
theorem h320_529 : code_ 320 529 = opCpEq 1485 532 := rfl
theorem h320_532 : code_ 320 532 = opC (vI 0) 533 := rfl
theorem h320_533 : code_ 320 533 = opZret := rfl
theorem h320_534 : code_ 320 534 = opAld 1 535 := rfl
theorem h320_535 : code_ 320 535 = opK kI 109 1 7 538 := rfl
theorem h320_538 : code_ 320 538 = opAld 2 539 := rfl
theorem h320_539 : code_ 320 539 = opK kI 265 1 8 542 := rfl
theorem h320_542 : code_ 320 542 = opCpEq 1485 545 := rfl
theorem h320_545 : code_ 320 545 = opC (vI 0) 546 := rfl
theorem h320_546 : code_ 320 546 = opZret := rfl
theorem h320_547 : code_ 320 547 = opAld 1 548 := rfl
theorem h320_548 : code_ 320 548 = opK kI 110 1 7 551 := rfl
theorem h320_551 : code_ 320 551 = opAld 2 552 := rfl
theorem h320_552 : code_ 320 552 = opK kI 266 1 8 555 := rfl
theorem h320_555 : code_ 320 555 = opCpEq 1485 558 := rfl
theorem h320_558 : code_ 320 558 = opC (vI 0) 559 := rfl
theorem h320_559 : code_ 320 559 = opZret := rfl
theorem h320_560 : code_ 320 560 = opAld 1 561 := rfl
theorem h320_561 : code_ 320 561 = opK kI 111 1 7 564 := rfl
theorem h320_564 : code_ 320 564 = opAld 2 565 := rfl
theorem h320_565 : code_ 320 565 = opK kI 267 1 8 568 := rfl
theorem h320_568 : code_ 320 568 = opCpEq 1485 571 := rfl
theorem h320_571 : code_ 320 571 = opC (vI 0) 572 := rfl
theorem h320_572 : code_ 320 572 = opZret := rfl
theorem h320_573 : code_ 320 573 = opAld 1 574 := rfl
theorem h320_574 : code_ 320 574 = opAld 0 575 := rfl
theorem h320_575 : code_ 320 575 = opIld 3 576 := rfl
theorem h320_576 : code_ 320 576 = opC (vI 1) 577 := rfl
theorem h320_577 : code_ 320 577 = opB (fun x y => x + y) 578 := rfl
theorem h320_578 : code_ 320 578 = opScI 579 := rfl
theorem h320_579 : code_ 320 579 = opK kI 112 2 7 582 := rfl
theorem h320_582 : code_ 320 582 = opAld 2 583 := rfl
theorem h320_583 : code_ 320 583 = opAld 0 584 := rfl
theorem h320_584 : code_ 320 584 = opIld 3 585 := rfl
theorem h320_585 : code_ 320 585 = opC (vI 1) 586 := rfl
theorem h320_586 : code_ 320 586 = opB (fun x y => x + y) 587 := rfl
theorem h320_587 : code_ 320 587 = opScI 588 := rfl
theorem h320_588 : code_ 320 588 = opK kI 269 2 8 591 := rfl
theorem h320_591 : code_ 320 591 = opCpEq 1485 594 := rfl
theorem h320_594 : code_ 320 594 = opC (vI 0) 595 := rfl
theorem h320_595 : code_ 320 595 = opZret := rfl
theorem h320_596 : code_ 320 596 = opAld 1 597 := rfl
theorem h320_597 : code_ 320 597 = opAld 0 598 := rfl
theorem h320_598 : code_ 320 598 = opIld 3 599 := rfl
theorem h320_599 : code_ 320 599 = opC (vI 1) 600 := rfl
theorem h320_600 : code_ 320 600 = opB (fun x y => x + y) 601 := rfl
theorem h320_601 : code_ 320 601 = opScI 602 := rfl
theorem h320_602 : code_ 320 602 = opK kI 113 2 7 605 := rfl
theorem h320_605 : code_ 320 605 = opAld 2 606 := rfl
theorem h320_606 : code_ 320 606 = opAld 0 607 := rfl
theorem h320_607 : code_ 320 607 = opIld 3 608 := rfl
theorem h320_608 : code_ 320 608 = opC (vI 1) 609 := rfl
theorem h320_609 : code_ 320 609 = opB (fun x y => x + y) 610 := rfl
theorem h320_610 : code_ 320 610 = opScI 611 := rfl
theorem h320_611 : code_ 320 611 = opK kI 271 2 8 614 := rfl
theorem h320_614 : code_ 320 614 = opCpEq 1485 617 := rfl
theorem h320_617 : code_ 320 617 = opC (vI 0) 618 := rfl
theorem h320_618 : code_ 320 618 = opZret := rfl
theorem h320_619 : code_ 320 619 = opAld 1 620 := rfl
theorem h320_620 : code_ 320 620 = opAld 0 621 := rfl
theorem h320_621 : code_ 320 621 = opIld 3 622 := rfl
theorem h320_622 : code_ 320 622 = opC (vI 1) 623 := rfl
theorem h320_623 : code_ 320 623 = opB (fun x y => x + y) 624 := rfl
theorem h320_624 : code_ 320 624 = opScI 625 := rfl
theorem h320_625 : code_ 320 625 = opAld 0 626 := rfl
theorem h320_626 : code_ 320 626 = opIld 3 627 := rfl
theorem h320_627 : code_ 320 627 = opC (vI 2) 628 := rfl
theorem h320_628 : code_ 320 628 = opB (fun x y => x + y) 629 := rfl
theorem h320_629 : code_ 320 629 = opScI 630 := rfl
theorem h320_630 : code_ 320 630 = opK kI 114 3 7 633 := rfl
theorem h320_633 : code_ 320 633 = opAld 2 634 := rfl
theorem h320_634 : code_ 320 634 = opAld 0 635 := rfl
theorem h320_635 : code_ 320 635 = opIld 3 636 := rfl
theorem h320_636 : code_ 320 636 = opC (vI 1) 637 := rfl
theorem h320_637 : code_ 320 637 = opB (fun x y => x + y) 638 := rfl
theorem h320_638 : code_ 320 638 = opScI 639 := rfl
theorem h320_639 : code_ 320 639 = opAld 0 640 := rfl
theorem h320_640 : code_ 320 640 = opIld 3 641 := rfl
theorem h320_641 : code_ 320 641 = opC (vI 2) 642 := rfl
theorem h320_642 : code_ 320 642 = opB (fun x y => x + y) 643 := rfl
theorem h320_643 : code_ 320 643 = opScI 644 := rfl
theorem h320_644 : code_ 320 644 = opK kI 272 3 8 647 := rfl
theorem h320_647 : code_ 320 647 = opCpEq 1485 650 := rfl
theorem h320_650 : code_ 320 650 = opC (vI 0) 651 := rfl
theorem h320_651 : code_ 320 651 = opZret := rfl
theorem h320_652 : code_ 320 652 = opAld 1 653 := rfl
theorem h320_653 : code_ 320 653 = opK kI 115 1 7 656 := rfl
theorem h320_656 : code_ 320 656 = opAld 2 657 := rfl
theorem h320_657 : code_ 320 657 = opK kI 257 1 8 660 := rfl
theorem h320_660 : code_ 320 660 = opCpEq 1485 663 := rfl
theorem h320_663 : code_ 320 663 = opC (vI 0) 664 := rfl
theorem h320_664 : code_ 320 664 = opZret := rfl
theorem h320_665 : code_ 320 665 = opAld 1 666 := rfl
theorem h320_666 : code_ 320 666 = opAld 0 667 := rfl
theorem h320_667 : code_ 320 667 = opIld 3 668 := rfl
theorem h320_668 : code_ 320 668 = opC (vI 1) 669 := rfl
theorem h320_669 : code_ 320 669 = opB (fun x y => x + y) 670 := rfl
theorem h320_670 : code_ 320 670 = opScI 671 := rfl
theorem h320_671 : code_ 320 671 = opK kI 116 2 7 674 := rfl
theorem h320_674 : code_ 320 674 = opAld 2 675 := rfl
theorem h320_675 : code_ 320 675 = opAld 0 676 := rfl
theorem h320_676 : code_ 320 676 = opIld 3 677 := rfl
theorem h320_677 : code_ 320 677 = opC (vI 1) 678 := rfl
theorem h320_678 : code_ 320 678 = opB (fun x y => x + y) 679 := rfl
theorem h320_679 : code_ 320 679 = opScI 680 := rfl
theorem h320_680 : code_ 320 680 = opK kI 273 2 8 683 := rfl
theorem h320_683 : code_ 320 683 = opCpEq 1485 686 := rfl
theorem h320_686 : code_ 320 686 = opC (vI 0) 687 := rfl
theorem h320_687 : code_ 320 687 = opZret := rfl
theorem h320_688 : code_ 320 688 = opAld 1 689 := rfl
theorem h320_689 : code_ 320 689 = opAld 0 690 := rfl
theorem h320_690 : code_ 320 690 = opIld 3 691 := rfl
theorem h320_691 : code_ 320 691 = opC (vI 1) 692 := rfl
theorem h320_692 : code_ 320 692 = opB (fun x y => x + y) 693 := rfl
theorem h320_693 : code_ 320 693 = opScI 694 := rfl
theorem h320_694 : code_ 320 694 = opAld 0 695 := rfl
theorem h320_695 : code_ 320 695 = opIld 3 696 := rfl
theorem h320_696 : code_ 320 696 = opC (vI 2) 697 := rfl
theorem h320_697 : code_ 320 697 = opB (fun x y => x + y) 698 := rfl
theorem h320_698 : code_ 320 698 = opScI 699 := rfl
theorem h320_699 : code_ 320 699 = opK kI 117 3 7 702 := rfl
theorem h320_702 : code_ 320 702 = opAld 2 703 := rfl
theorem h320_703 : code_ 320 703 = opAld 0 704 := rfl
theorem h320_704 : code_ 320 704 = opIld 3 705 := rfl
theorem h320_705 : code_ 320 705 = opC (vI 1) 706 := rfl
theorem h320_706 : code_ 320 706 = opB (fun x y => x + y) 707 := rfl
theorem h320_707 : code_ 320 707 = opScI 708 := rfl
theorem h320_708 : code_ 320 708 = opAld 0 709 := rfl
theorem h320_709 : code_ 320 709 = opIld 3 710 := rfl
theorem h320_710 : code_ 320 710 = opC (vI 2) 711 := rfl
theorem h320_711 : code_ 320 711 = opB (fun x y => x + y) 712 := rfl
theorem h320_712 : code_ 320 712 = opScI 713 := rfl
theorem h320_713 : code_ 320 713 = opK kI 274 3 8 716 := rfl
theorem h320_716 : code_ 320 716 = opCpEq 1485 719 := rfl
theorem h320_719 : code_ 320 719 = opC (vI 0) 720 := rfl
theorem h320_720 : code_ 320 720 = opZret := rfl
theorem h320_721 : code_ 320 721 = opAld 1 722 := rfl
theorem h320_722 : code_ 320 722 = opAld 0 723 := rfl
theorem h320_723 : code_ 320 723 = opIld 3 724 := rfl
theorem h320_724 : code_ 320 724 = opC (vI 1) 725 := rfl
theorem h320_725 : code_ 320 725 = opB (fun x y => x + y) 726 := rfl
theorem h320_726 : code_ 320 726 = opScI 727 := rfl
theorem h320_727 : code_ 320 727 = opAld 0 728 := rfl
theorem h320_728 : code_ 320 728 = opIld 3 729 := rfl
theorem h320_729 : code_ 320 729 = opC (vI 2) 730 := rfl
theorem h320_730 : code_ 320 730 = opB (fun x y => x + y) 731 := rfl
theorem h320_731 : code_ 320 731 = opScI 732 := rfl
theorem h320_732 : code_ 320 732 = opK kI 118 3 7 735 := rfl
theorem h320_735 : code_ 320 735 = opAld 2 736 := rfl
theorem h320_736 : code_ 320 736 = opAld 0 737 := rfl
theorem h320_737 : code_ 320 737 = opIld 3 738 := rfl
theorem h320_738 : code_ 320 738 = opC (vI 1) 739 := rfl
theorem h320_739 : code_ 320 739 = opB (fun x y => x + y) 740 := rfl
theorem h320_740 : code_ 320 740 = opScI 741 := rfl
theorem h320_741 : code_ 320 741 = opAld 0 742 := rfl
theorem h320_742 : code_ 320 742 = opIld 3 743 := rfl
theorem h320_743 : code_ 320 743 = opC (vI 2) 744 := rfl
theorem h320_744 : code_ 320 744 = opB (fun x y => x + y) 745 := rfl
theorem h320_745 : code_ 320 745 = opScI 746 := rfl
theorem h320_746 : code_ 320 746 = opK kI 275 3 8 749 := rfl
theorem h320_749 : code_ 320 749 = opCpEq 1485 752 := rfl
theorem h320_752 : code_ 320 752 = opC (vI 0) 753 := rfl
theorem h320_753 : code_ 320 753 = opZret := rfl
theorem h320_754 : code_ 320 754 = opAld 1 755 := rfl
theorem h320_755 : code_ 320 755 = opAld 0 756 := rfl
theorem h320_756 : code_ 320 756 = opIld 3 757 := rfl
theorem h320_757 : code_ 320 757 = opC (vI 1) 758 := rfl
theorem h320_758 : code_ 320 758 = opB (fun x y => x + y) 759 := rfl
theorem h320_759 : code_ 320 759 = opScI 760 := rfl
theorem h320_760 : code_ 320 760 = opAld 0 761 := rfl
theorem h320_761 : code_ 320 761 = opIld 3 762 := rfl
theorem h320_762 : code_ 320 762 = opC (vI 2) 763 := rfl
theorem h320_763 : code_ 320 763 = opB (fun x y => x + y) 764 := rfl
theorem h320_764 : code_ 320 764 = opScI 765 := rfl
theorem h320_765 : code_ 320 765 = opK kI 119 3 7 768 := rfl
theorem h320_768 : code_ 320 768 = opAld 2 769 := rfl
theorem h320_769 : code_ 320 769 = opAld 0 770 := rfl
theorem h320_770 : code_ 320 770 = opIld 3 771 := rfl
theorem h320_771 : code_ 320 771 = opC (vI 1) 772 := rfl
theorem h320_772 : code_ 320 772 = opB (fun x y => x + y) 773 := rfl
theorem h320_773 : code_ 320 773 = opScI 774 := rfl
theorem h320_774 : code_ 320 774 = opAld 0 775 := rfl
theorem h320_775 : code_ 320 775 = opIld 3 776 := rfl
theorem h320_776 : code_ 320 776 = opC (vI 2) 777 := rfl
theorem h320_777 : code_ 320 777 = opB (fun x y => x + y) 778 := rfl
theorem h320_778 : code_ 320 778 = opScI 779 := rfl
theorem h320_779 : code_ 320 779 = opK kI 276 3 8 782 := rfl
theorem h320_782 : code_ 320 782 = opCpEq 1485 785 := rfl
theorem h320_785 : code_ 320 785 = opC (vI 0) 786 := rfl
theorem h320_786 : code_ 320 786 = opZret := rfl
theorem h320_787 : code_ 320 787 = opAld 1 788 := rfl
theorem h320_788 : code_ 320 788 = opAld 0 789 := rfl
theorem h320_789 : code_ 320 789 = opIld 3 790 := rfl
theorem h320_790 : code_ 320 790 = opC (vI 1) 791 := rfl
theorem h320_791 : code_ 320 791 = opB (fun x y => x + y) 792 := rfl
theorem h320_792 : code_ 320 792 = opScI 793 := rfl
theorem h320_793 : code_ 320 793 = opK kI 120 2 7 796 := rfl
theorem h320_796 : code_ 320 796 = opAld 2 797 := rfl
theorem h320_797 : code_ 320 797 = opAld 0 798 := rfl
theorem h320_798 : code_ 320 798 = opIld 3 799 := rfl
theorem h320_799 : code_ 320 799 = opC (vI 1) 800 := rfl
theorem h320_800 : code_ 320 800 = opB (fun x y => x + y) 801 := rfl
theorem h320_801 : code_ 320 801 = opScI 802 := rfl
theorem h320_802 : code_ 320 802 = opK kI 277 2 8 805 := rfl
theorem h320_805 : code_ 320 805 = opCpEq 1485 808 := rfl
theorem h320_808 : code_ 320 808 = opC (vI 0) 809 := rfl
theorem h320_809 : code_ 320 809 = opZret := rfl
theorem h320_810 : code_ 320 810 = opAld 1 811 := rfl
theorem h320_811 : code_ 320 811 = opAld 0 812 := rfl
theorem h320_812 : code_ 320 812 = opIld 3 813 := rfl
theorem h320_813 : code_ 320 813 = opC (vI 1) 814 := rfl
theorem h320_814 : code_ 320 814 = opB (fun x y => x + y) 815 := rfl
theorem h320_815 : code_ 320 815 = opScI 816 := rfl
theorem h320_816 : code_ 320 816 = opAld 0 817 := rfl
theorem h320_817 : code_ 320 817 = opIld 3 818 := rfl
theorem h320_818 : code_ 320 818 = opC (vI 2) 819 := rfl
theorem h320_819 : code_ 320 819 = opB (fun x y => x + y) 820 := rfl
theorem h320_820 : code_ 320 820 = opScI 821 := rfl
theorem h320_821 : code_ 320 821 = opK kI 121 3 7 824 := rfl
theorem h320_824 : code_ 320 824 = opAld 2 825 := rfl
theorem h320_825 : code_ 320 825 = opAld 0 826 := rfl
theorem h320_826 : code_ 320 826 = opIld 3 827 := rfl
theorem h320_827 : code_ 320 827 = opC (vI 1) 828 := rfl
theorem h320_828 : code_ 320 828 = opB (fun x y => x + y) 829 := rfl
theorem h320_829 : code_ 320 829 = opScI 830 := rfl
theorem h320_830 : code_ 320 830 = opAld 0 831 := rfl
theorem h320_831 : code_ 320 831 = opIld 3 832 := rfl
theorem h320_832 : code_ 320 832 = opC (vI 2) 833 := rfl
theorem h320_833 : code_ 320 833 = opB (fun x y => x + y) 834 := rfl
theorem h320_834 : code_ 320 834 = opScI 835 := rfl
theorem h320_835 : code_ 320 835 = opK kI 279 3 8 838 := rfl
theorem h320_838 : code_ 320 838 = opCpEq 1485 841 := rfl
theorem h320_841 : code_ 320 841 = opC (vI 0) 842 := rfl
theorem h320_842 : code_ 320 842 = opZret := rfl
theorem h320_843 : code_ 320 843 = opAld 1 844 := rfl
theorem h320_844 : code_ 320 844 = opAld 0 845 := rfl
theorem h320_845 : code_ 320 845 = opIld 3 846 := rfl
theorem h320_846 : code_ 320 846 = opC (vI 1) 847 := rfl
theorem h320_847 : code_ 320 847 = opB (fun x y => x + y) 848 := rfl
theorem h320_848 : code_ 320 848 = opScI 849 := rfl
theorem h320_849 : code_ 320 849 = opAld 0 850 := rfl
theorem h320_850 : code_ 320 850 = opIld 3 851 := rfl
theorem h320_851 : code_ 320 851 = opC (vI 2) 852 := rfl
theorem h320_852 : code_ 320 852 = opB (fun x y => x + y) 853 := rfl
theorem h320_853 : code_ 320 853 = opScI 854 := rfl
theorem h320_854 : code_ 320 854 = opK kI 122 3 7 857 := rfl
theorem h320_857 : code_ 320 857 = opAld 2 858 := rfl
theorem h320_858 : code_ 320 858 = opAld 0 859 := rfl
theorem h320_859 : code_ 320 859 = opIld 3 860 := rfl
theorem h320_860 : code_ 320 860 = opC (vI 1) 861 := rfl
theorem h320_861 : code_ 320 861 = opB (fun x y => x + y) 862 := rfl
theorem h320_862 : code_ 320 862 = opScI 863 := rfl
theorem h320_863 : code_ 320 863 = opAld 0 864 := rfl
theorem h320_864 : code_ 320 864 = opIld 3 865 := rfl
theorem h320_865 : code_ 320 865 = opC (vI 2) 866 := rfl
theorem h320_866 : code_ 320 866 = opB (fun x y => x + y) 867 := rfl
theorem h320_867 : code_ 320 867 = opScI 868 := rfl
theorem h320_868 : code_ 320 868 = opK kI 283 3 8 871 := rfl
theorem h320_871 : code_ 320 871 = opCpEq 1485 874 := rfl
theorem h320_874 : code_ 320 874 = opC (vI 0) 875 := rfl
theorem h320_875 : code_ 320 875 = opZret := rfl
theorem h320_876 : code_ 320 876 = opAld 1 877 := rfl
theorem h320_877 : code_ 320 877 = opAld 0 878 := rfl
theorem h320_878 : code_ 320 878 = opIld 3 879 := rfl
theorem h320_879 : code_ 320 879 = opC (vI 1) 880 := rfl
theorem h320_880 : code_ 320 880 = opB (fun x y => x + y) 881 := rfl
theorem h320_881 : code_ 320 881 = opScI 882 := rfl
theorem h320_882 : code_ 320 882 = opAld 0 883 := rfl
theorem h320_883 : code_ 320 883 = opIld 3 884 := rfl
theorem h320_884 : code_ 320 884 = opC (vI 2) 885 := rfl
theorem h320_885 : code_ 320 885 = opB (fun x y => x + y) 886 := rfl
theorem h320_886 : code_ 320 886 = opScI 887 := rfl
theorem h320_887 : code_ 320 887 = opK kI 123 3 7 890 := rfl
theorem h320_890 : code_ 320 890 = opAld 2 891 := rfl
theorem h320_891 : code_ 320 891 = opAld 0 892 := rfl
theorem h320_892 : code_ 320 892 = opIld 3 893 := rfl
theorem h320_893 : code_ 320 893 = opC (vI 1) 894 := rfl
theorem h320_894 : code_ 320 894 = opB (fun x y => x + y) 895 := rfl
theorem h320_895 : code_ 320 895 = opScI 896 := rfl
theorem h320_896 : code_ 320 896 = opAld 0 897 := rfl
theorem h320_897 : code_ 320 897 = opIld 3 898 := rfl
theorem h320_898 : code_ 320 898 = opC (vI 2) 899 := rfl
theorem h320_899 : code_ 320 899 = opB (fun x y => x + y) 900 := rfl
theorem h320_900 : code_ 320 900 = opScI 901 := rfl
theorem h320_901 : code_ 320 901 = opK kI 285 3 8 904 := rfl
theorem h320_904 : code_ 320 904 = opCpEq 1485 907 := rfl
theorem h320_907 : code_ 320 907 = opC (vI 0) 908 := rfl
theorem h320_908 : code_ 320 908 = opZret := rfl
theorem h320_909 : code_ 320 909 = opAld 1 910 := rfl
theorem h320_910 : code_ 320 910 = opAld 0 911 := rfl
theorem h320_911 : code_ 320 911 = opIld 3 912 := rfl
theorem h320_912 : code_ 320 912 = opC (vI 1) 913 := rfl
theorem h320_913 : code_ 320 913 = opB (fun x y => x + y) 914 := rfl
theorem h320_914 : code_ 320 914 = opScI 915 := rfl
theorem h320_915 : code_ 320 915 = opAld 0 916 := rfl
theorem h320_916 : code_ 320 916 = opIld 3 917 := rfl
theorem h320_917 : code_ 320 917 = opC (vI 2) 918 := rfl
theorem h320_918 : code_ 320 918 = opB (fun x y => x + y) 919 := rfl
theorem h320_919 : code_ 320 919 = opScI 920 := rfl
theorem h320_920 : code_ 320 920 = opK kI 124 3 7 923 := rfl
theorem h320_923 : code_ 320 923 = opAld 2 924 := rfl
theorem h320_924 : code_ 320 924 = opAld 0 925 := rfl
theorem h320_925 : code_ 320 925 = opIld 3 926 := rfl
theorem h320_926 : code_ 320 926 = opC (vI 1) 927 := rfl
theorem h320_927 : code_ 320 927 = opB (fun x y => x + y) 928 := rfl
theorem h320_928 : code_ 320 928 = opScI 929 := rfl
theorem h320_929 : code_ 320 929 = opAld 0 930 := rfl
theorem h320_930 : code_ 320 930 = opIld 3 931 := rfl
theorem h320_931 : code_ 320 931 = opC (vI 2) 932 := rfl
theorem h320_932 : code_ 320 932 = opB (fun x y => x + y) 933 := rfl
theorem h320_933 : code_ 320 933 = opScI 934 := rfl
theorem h320_934 : code_ 320 934 = opK kI 286 3 8 937 := rfl
theorem h320_937 : code_ 320 937 = opCpEq 1485 940 := rfl
theorem h320_940 : code_ 320 940 = opC (vI 0) 941 := rfl
theorem h320_941 : code_ 320 941 = opZret := rfl
theorem h320_942 : code_ 320 942 = opAld 1 943 := rfl
theorem h320_943 : code_ 320 943 = opAld 0 944 := rfl
theorem h320_944 : code_ 320 944 = opIld 3 945 := rfl
theorem h320_945 : code_ 320 945 = opC (vI 1) 946 := rfl
theorem h320_946 : code_ 320 946 = opB (fun x y => x + y) 947 := rfl
theorem h320_947 : code_ 320 947 = opScI 948 := rfl
theorem h320_948 : code_ 320 948 = opAld 0 949 := rfl
theorem h320_949 : code_ 320 949 = opIld 3 950 := rfl
theorem h320_950 : code_ 320 950 = opC (vI 2) 951 := rfl
theorem h320_951 : code_ 320 951 = opB (fun x y => x + y) 952 := rfl
theorem h320_952 : code_ 320 952 = opScI 953 := rfl
theorem h320_953 : code_ 320 953 = opAld 0 954 := rfl
theorem h320_954 : code_ 320 954 = opIld 3 955 := rfl
theorem h320_955 : code_ 320 955 = opC (vI 3) 956 := rfl
theorem h320_956 : code_ 320 956 = opB (fun x y => x + y) 957 := rfl
theorem h320_957 : code_ 320 957 = opScI 958 := rfl
theorem h320_958 : code_ 320 958 = opIfEq 965 961 := rfl
theorem h320_961 : code_ 320 961 = opC (vI 1) 962 := rfl
theorem h320_962 : code_ 320 962 = opGoto 966 := rfl
theorem h320_965 : code_ 320 965 = opC (vI 0) 966 := rfl
theorem h320_966 : code_ 320 966 = opK kL 125 4 7 969 := rfl
theorem h320_969 : code_ 320 969 = opAld 2 970 := rfl
theorem h320_970 : code_ 320 970 = opAld 0 971 := rfl
theorem h320_971 : code_ 320 971 = opIld 3 972 := rfl
theorem h320_972 : code_ 320 972 = opC (vI 1) 973 := rfl
theorem h320_973 : code_ 320 973 = opB (fun x y => x + y) 974 := rfl
theorem h320_974 : code_ 320 974 = opScI 975 := rfl
theorem h320_975 : code_ 320 975 = opAld 0 976 := rfl
theorem h320_976 : code_ 320 976 = opIld 3 977 := rfl
theorem h320_977 : code_ 320 977 = opC (vI 2) 978 := rfl
theorem h320_978 : code_ 320 978 = opB (fun x y => x + y) 979 := rfl
theorem h320_979 : code_ 320 979 = opScI 980 := rfl
theorem h320_980 : code_ 320 980 = opAld 0 981 := rfl
theorem h320_981 : code_ 320 981 = opIld 3 982 := rfl
theorem h320_982 : code_ 320 982 = opC (vI 3) 983 := rfl
theorem h320_983 : code_ 320 983 = opB (fun x y => x + y) 984 := rfl
theorem h320_984 : code_ 320 984 = opScI 985 := rfl
theorem h320_985 : code_ 320 985 = opIfEq 992 988 := rfl
theorem h320_988 : code_ 320 988 = opC (vI 1) 989 := rfl
theorem h320_989 : code_ 320 989 = opGoto 993 := rfl
theorem h320_992 : code_ 320 992 = opC (vI 0) 993 := rfl
theorem h320_993 : code_ 320 993 = opK kL 290 4 8 996 := rfl
theorem h320_996 : code_ 320 996 = opLcmp 997 := rfl
theorem h320_997 : code_ 320 997 = opIfEq 1485 1000 := rfl
theorem h320_1000 : code_ 320 1000 = opC (vI 0) 1001 := rfl
theorem h320_1001 : code_ 320 1001 = opZret := rfl
theorem h320_1002 : code_ 320 1002 = opAld 1 1003 := rfl
theorem h320_1003 : code_ 320 1003 = opAld 0 1004 := rfl
theorem h320_1004 : code_ 320 1004 = opIld 3 1005 := rfl
theorem h320_1005 : code_ 320 1005 = opC (vI 1) 1006 := rfl
theorem h320_1006 : code_ 320 1006 = opB (fun x y => x + y) 1007 := rfl
theorem h320_1007 : code_ 320 1007 = opScI 1008 := rfl
theorem h320_1008 : code_ 320 1008 = opIfEq 1015 1011 := rfl
theorem h320_1011 : code_ 320 1011 = opC (vI 1) 1012 := rfl
theorem h320_1012 : code_ 320 1012 = opGoto 1016 := rfl
theorem h320_1015 : code_ 320 1015 = opC (vI 0) 1016 := rfl
theorem h320_1016 : code_ 320 1016 = opK kL 126 2 7 1019 := rfl
theorem h320_1019 : code_ 320 1019 = opAld 2 1020 := rfl
theorem h320_1020 : code_ 320 1020 = opAld 0 1021 := rfl
theorem h320_1021 : code_ 320 1021 = opIld 3 1022 := rfl
theorem h320_1022 : code_ 320 1022 = opC (vI 1) 1023 := rfl
theorem h320_1023 : code_ 320 1023 = opB (fun x y => x + y) 1024 := rfl
theorem h320_1024 : code_ 320 1024 = opScI 1025 := rfl
theorem h320_1025 : code_ 320 1025 = opIfEq 1032 1028 := rfl
theorem h320_1028 : code_ 320 1028 = opC (vI 1) 1029 := rfl
theorem h320_1029 : code_ 320 1029 = opGoto 1033 := rfl
theorem h320_1032 : code_ 320 1032 = opC (vI 0) 1033 := rfl
theorem h320_1033 : code_ 320 1033 = opK kL 291 2 8 1036 := rfl
theorem h320_1036 : code_ 320 1036 = opLcmp 1037 := rfl
theorem h320_1037 : code_ 320 1037 = opIfEq 1485 1040 := rfl
theorem h320_1040 : code_ 320 1040 = opC (vI 0) 1041 := rfl
theorem h320_1041 : code_ 320 1041 = opZret := rfl
theorem h320_1042 : code_ 320 1042 = opAld 1 1043 := rfl
theorem h320_1043 : code_ 320 1043 = opK kI 127 1 7 1046 := rfl
theorem h320_1046 : code_ 320 1046 = opAld 2 1047 := rfl
theorem h320_1047 : code_ 320 1047 = opK kI 296 1 8 1050 := rfl
theorem h320_1050 : code_ 320 1050 = opCpEq 1485 1053 := rfl
theorem h320_1053 : code_ 320 1053 = opC (vI 0) 1054 := rfl
theorem h320_1054 : code_ 320 1054 = opZret := rfl
theorem h320_1055 : code_ 320 1055 = opAld 1 1056 := rfl
theorem h320_1056 : code_ 320 1056 = opAld 0 1057 := rfl
theorem h320_1057 : code_ 320 1057 = opIld 3 1058 := rfl
theorem h320_1058 : code_ 320 1058 = opC (vI 1) 1059 := rfl
theorem h320_1059 : code_ 320 1059 = opB (fun x y => x + y) 1060 := rfl
theorem h320_1060 : code_ 320 1060 = opScI 1061 := rfl
theorem h320_1061 : code_ 320 1061 = opK kI 128 2 7 1064 := rfl
theorem h320_1064 : code_ 320 1064 = opAld 2 1065 := rfl
theorem h320_1065 : code_ 320 1065 = opAld 0 1066 := rfl
theorem h320_1066 : code_ 320 1066 = opIld 3 1067 := rfl
theorem h320_1067 : code_ 320 1067 = opC (vI 1) 1068 := rfl
theorem h320_1068 : code_ 320 1068 = opB (fun x y => x + y) 1069 := rfl
theorem h320_1069 : code_ 320 1069 = opScI 1070 := rfl
theorem h320_1070 : code_ 320 1070 = opK kI 299 2 8 1073 := rfl
theorem h320_1073 : code_ 320 1073 = opCpEq 1485 1076 := rfl
theorem h320_1076 : code_ 320 1076 = opC (vI 0) 1077 := rfl
theorem h320_1077 : code_ 320 1077 = opZret := rfl
theorem h320_1078 : code_ 320 1078 = opAld 1 1079 := rfl
theorem h320_1079 : code_ 320 1079 = opK kI 129 1 7 1082 := rfl
theorem h320_1082 : code_ 320 1082 = opAld 2 1083 := rfl
theorem h320_1083 : code_ 320 1083 = opK kI 301 1 8 1086 := rfl
theorem h320_1086 : code_ 320 1086 = opCpEq 1485 1089 := rfl
theorem h320_1089 : code_ 320 1089 = opC (vI 0) 1090 := rfl
theorem h320_1090 : code_ 320 1090 = opZret := rfl
theorem h320_1091 : code_ 320 1091 = opAld 1 1092 := rfl
theorem h320_1092 : code_ 320 1092 = opK kI 130 1 7 1095 := rfl
theorem h320_1095 : code_ 320 1095 = opAld 2 1096 := rfl
theorem h320_1096 : code_ 320 1096 = opK kI 284 1 8 1099 := rfl
theorem h320_1099 : code_ 320 1099 = opCpEq 1485 1102 := rfl
theorem h320_1102 : code_ 320 1102 = opC (vI 0) 1103 := rfl
theorem h320_1103 : code_ 320 1103 = opZret := rfl
theorem h320_1104 : code_ 320 1104 = opAld 1 1105 := rfl
theorem h320_1105 : code_ 320 1105 = opK kI 131 1 7 1108 := rfl
theorem h320_1108 : code_ 320 1108 = opAld 2 1109 := rfl
theorem h320_1109 : code_ 320 1109 = opK kI 287 1 8 1112 := rfl
theorem h320_1112 : code_ 320 1112 = opCpEq 1485 1115 := rfl
theorem h320_1115 : code_ 320 1115 = opC (vI 0) 1116 := rfl
theorem h320_1116 : code_ 320 1116 = opZret := rfl
theorem h320_1117 : code_ 320 1117 = opAld 1 1118 := rfl
theorem h320_1118 : code_ 320 1118 = opAld 0 1119 := rfl
theorem h320_1119 : code_ 320 1119 = opIld 3 1120 := rfl
theorem h320_1120 : code_ 320 1120 = opC (vI 1) 1121 := rfl
theorem h320_1121 : code_ 320 1121 = opB (fun x y => x + y) 1122 := rfl
theorem h320_1122 : code_ 320 1122 = opScI 1123 := rfl
theorem h320_1123 : code_ 320 1123 = opK kI 132 2 7 1126 := rfl
theorem h320_1126 : code_ 320 1126 = opAld 2 1127 := rfl
theorem h320_1127 : code_ 320 1127 = opAld 0 1128 := rfl
theorem h320_1128 : code_ 320 1128 = opIld 3 1129 := rfl
theorem h320_1129 : code_ 320 1129 = opC (vI 1) 1130 := rfl
theorem h320_1130 : code_ 320 1130 = opB (fun x y => x + y) 1131 := rfl
theorem h320_1131 : code_ 320 1131 = opScI 1132 := rfl
theorem h320_1132 : code_ 320 1132 = opK kI 302 2 8 1135 := rfl
theorem h320_1135 : code_ 320 1135 = opCpEq 1485 1138 := rfl
theorem h320_1138 : code_ 320 1138 = opC (vI 0) 1139 := rfl
theorem h320_1139 : code_ 320 1139 = opZret := rfl
theorem h320_1140 : code_ 320 1140 = opAld 1 1141 := rfl
theorem h320_1141 : code_ 320 1141 = opAld 0 1142 := rfl
theorem h320_1142 : code_ 320 1142 = opIld 3 1143 := rfl
theorem h320_1143 : code_ 320 1143 = opC (vI 1) 1144 := rfl
theorem h320_1144 : code_ 320 1144 = opB (fun x y => x + y) 1145 := rfl
theorem h320_1145 : code_ 320 1145 = opScI 1146 := rfl
theorem h320_1146 : code_ 320 1146 = opK kI 133 2 7 1149 := rfl
theorem h320_1149 : code_ 320 1149 = opAld 2 1150 := rfl
theorem h320_1150 : code_ 320 1150 = opAld 0 1151 := rfl
theorem h320_1151 : code_ 320 1151 = opIld 3 1152 := rfl
theorem h320_1152 : code_ 320 1152 = opC (vI 1) 1153 := rfl
theorem h320_1153 : code_ 320 1153 = opB (fun x y => x + y) 1154 := rfl
theorem h320_1154 : code_ 320 1154 = opScI 1155 := rfl
theorem h320_1155 : code_ 320 1155 = opK kI 303 2 8 1158 := rfl
theorem h320_1158 : code_ 320 1158 = opCpEq 1485 1161 := rfl
theorem h320_1161 : code_ 320 1161 = opC (vI 0) 1162 := rfl
theorem h320_1162 : code_ 320 1162 = opZret := rfl
theorem h320_1163 : code_ 320 1163 = opAld 1 1164 := rfl
theorem h320_1164 : code_ 320 1164 = opAld 0 1165 := rfl
theorem h320_1165 : code_ 320 1165 = opIld 3 1166 := rfl
theorem h320_1166 : code_ 320 1166 = opC (vI 1) 1167 := rfl
theorem h320_1167 : code_ 320 1167 = opB (fun x y => x + y) 1168 := rfl
theorem h320_1168 : code_ 320 1168 = opScI 1169 := rfl
theorem h320_1169 : code_ 320 1169 = opAld 0 1170 := rfl
theorem h320_1170 : code_ 320 1170 = opIld 3 1171 := rfl
theorem h320_1171 : code_ 320 1171 = opC (vI 2) 1172 := rfl
theorem h320_1172 : code_ 320 1172 = opB (fun x y => x + y) 1173 := rfl
theorem h320_1173 : code_ 320 1173 = opScI 1174 := rfl
theorem h320_1174 : code_ 320 1174 = opAld 0 1175 := rfl
theorem h320_1175 : code_ 320 1175 = opIld 3 1176 := rfl
theorem h320_1176 : code_ 320 1176 = opC (vI 3) 1177 := rfl
theorem h320_1177 : code_ 320 1177 = opB (fun x y => x + y) 1178 := rfl
theorem h320_1178 : code_ 320 1178 = opScI 1179 := rfl
theorem h320_1179 : code_ 320 1179 = opK kI 134 4 7 1182 := rfl
theorem h320_1182 : code_ 320 1182 = opAld 2 1183 := rfl
theorem h320_1183 : code_ 320 1183 = opAld 0 1184 := rfl
theorem h320_1184 : code_ 320 1184 = opIld 3 1185 := rfl
theorem h320_1185 : code_ 320 1185 = opC (vI 1) 1186 := rfl
theorem h320_1186 : code_ 320 1186 = opB (fun x y => x + y) 1187 := rfl
theorem h320_1187 : code_ 320 1187 = opScI 1188 := rfl
theorem h320_1188 : code_ 320 1188 = opAld 0 1189 := rfl
theorem h320_1189 : code_ 320 1189 = opIld 3 1190 := rfl
theorem h320_1190 : code_ 320 1190 = opC (vI 2) 1191 := rfl
theorem h320_1191 : code_ 320 1191 = opB (fun x y => x + y) 1192 := rfl
theorem h320_1192 : code_ 320 1192 = opScI 1193 := rfl
theorem h320_1193 : code_ 320 1193 = opAld 0 1194 := rfl
theorem h320_1194 : code_ 320 1194 = opIld 3 1195 := rfl
theorem h320_1195 : code_ 320 1195 = opC (vI 3) 1196 := rfl
theorem h320_1196 : code_ 320 1196 = opB (fun x y => x + y) 1197 := rfl
theorem h320_1197 : code_ 320 1197 = opScI 1198 := rfl
theorem h320_1198 : code_ 320 1198 = opK kI 304 4 8 1201 := rfl
theorem h320_1201 : code_ 320 1201 = opCpEq 1485 1204 := rfl
theorem h320_1204 : code_ 320 1204 = opC (vI 0) 1205 := rfl
theorem h320_1205 : code_ 320 1205 = opZret := rfl
theorem h320_1206 : code_ 320 1206 = opAld 1 1207 := rfl
theorem h320_1207 : code_ 320 1207 = opAld 0 1208 := rfl
theorem h320_1208 : code_ 320 1208 = opIld 3 1209 := rfl
theorem h320_1209 : code_ 320 1209 = opC (vI 1) 1210 := rfl
theorem h320_1210 : code_ 320 1210 = opB (fun x y => x + y) 1211 := rfl
theorem h320_1211 : code_ 320 1211 = opScI 1212 := rfl
theorem h320_1212 : code_ 320 1212 = opAld 0 1213 := rfl
theorem h320_1213 : code_ 320 1213 = opIld 3 1214 := rfl
theorem h320_1214 : code_ 320 1214 = opC (vI 2) 1215 := rfl
theorem h320_1215 : code_ 320 1215 = opB (fun x y => x + y) 1216 := rfl
theorem h320_1216 : code_ 320 1216 = opScI 1217 := rfl
theorem h320_1217 : code_ 320 1217 = opK kI 135 3 7 1220 := rfl
theorem h320_1220 : code_ 320 1220 = opAld 2 1221 := rfl
theorem h320_1221 : code_ 320 1221 = opAld 0 1222 := rfl
theorem h320_1222 : code_ 320 1222 = opIld 3 1223 := rfl
theorem h320_1223 : code_ 320 1223 = opC (vI 1) 1224 := rfl
theorem h320_1224 : code_ 320 1224 = opB (fun x y => x + y) 1225 := rfl
theorem h320_1225 : code_ 320 1225 = opScI 1226 := rfl
theorem h320_1226 : code_ 320 1226 = opAld 0 1227 := rfl
theorem h320_1227 : code_ 320 1227 = opIld 3 1228 := rfl
theorem h320_1228 : code_ 320 1228 = opC (vI 2) 1229 := rfl
theorem h320_1229 : code_ 320 1229 = opB (fun x y => x + y) 1230 := rfl
theorem h320_1230 : code_ 320 1230 = opScI 1231 := rfl
theorem h320_1231 : code_ 320 1231 = opK kI 305 3 8 1234 := rfl
theorem h320_1234 : code_ 320 1234 = opCpEq 1485 1237 := rfl
theorem h320_1237 : code_ 320 1237 = opC (vI 0) 1238 := rfl
theorem h320_1238 : code_ 320 1238 = opZret := rfl
theorem h320_1239 : code_ 320 1239 = opAld 1 1240 := rfl
theorem h320_1240 : code_ 320 1240 = opAld 0 1241 := rfl
theorem h320_1241 : code_ 320 1241 = opIld 3 1242 := rfl
theorem h320_1242 : code_ 320 1242 = opC (vI 1) 1243 := rfl
theorem h320_1243 : code_ 320 1243 = opB (fun x y => x + y) 1244 := rfl
theorem h320_1244 : code_ 320 1244 = opScI 1245 := rfl
theorem h320_1245 : code_ 320 1245 = opK kI 136 2 7 1248 := rfl
theorem h320_1248 : code_ 320 1248 = opAld 2 1249 := rfl
theorem h320_1249 : code_ 320 1249 = opAld 0 1250 := rfl
theorem h320_1250 : code_ 320 1250 = opIld 3 1251 := rfl
theorem h320_1251 : code_ 320 1251 = opC (vI 1) 1252 := rfl
theorem h320_1252 : code_ 320 1252 = opB (fun x y => x + y) 1253 := rfl
theorem h320_1253 : code_ 320 1253 = opScI 1254 := rfl
theorem h320_1254 : code_ 320 1254 = opK kI 306 2 8 1257 := rfl
theorem h320_1257 : code_ 320 1257 = opCpEq 1485 1260 := rfl
theorem h320_1260 : code_ 320 1260 = opC (vI 0) 1261 := rfl
theorem h320_1261 : code_ 320 1261 = opZret := rfl
theorem h320_1262 : code_ 320 1262 = opAld 1 1263 := rfl
theorem h320_1263 : code_ 320 1263 = opAld 0 1264 := rfl
theorem h320_1264 : code_ 320 1264 = opIld 3 1265 := rfl
theorem h320_1265 : code_ 320 1265 = opC (vI 1) 1266 := rfl
theorem h320_1266 : code_ 320 1266 = opB (fun x y => x + y) 1267 := rfl
theorem h320_1267 : code_ 320 1267 = opScI 1268 := rfl
theorem h320_1268 : code_ 320 1268 = opK kI 137 2 7 1271 := rfl
theorem h320_1271 : code_ 320 1271 = opAld 2 1272 := rfl
theorem h320_1272 : code_ 320 1272 = opAld 0 1273 := rfl
theorem h320_1273 : code_ 320 1273 = opIld 3 1274 := rfl
theorem h320_1274 : code_ 320 1274 = opC (vI 1) 1275 := rfl
theorem h320_1275 : code_ 320 1275 = opB (fun x y => x + y) 1276 := rfl
theorem h320_1276 : code_ 320 1276 = opScI 1277 := rfl
theorem h320_1277 : code_ 320 1277 = opK kI 307 2 8 1280 := rfl
theorem h320_1280 : code_ 320 1280 = opCpEq 1485 1283 := rfl
theorem h320_1283 : code_ 320 1283 = opC (vI 0) 1284 := rfl
theorem h320_1284 : code_ 320 1284 = opZret := rfl
theorem h320_1285 : code_ 320 1285 = opAld 1 1286 := rfl
theorem h320_1286 : code_ 320 1286 = opK kI 138 1 7 1289 := rfl
theorem h320_1289 : code_ 320 1289 = opAld 2 1290 := rfl
theorem h320_1290 : code_ 320 1290 = opK kI 308 1 8 1293 := rfl
theorem h320_1293 : code_ 320 1293 = opCpEq 1485 1296 := rfl
theorem h320_1296 : code_ 320 1296 = opC (vI 0) 1297 := rfl
theorem h320_1297 : code_ 320 1297 = opZret := rfl
theorem h320_1298 : code_ 320 1298 = opAld 1 1299 := rfl
theorem h320_1299 : code_ 320 1299 = opK kI 139 1 7 1302 := rfl
theorem h320_1302 : code_ 320 1302 = opAld 2 1303 := rfl
theorem h320_1303 : code_ 320 1303 = opK kI 310 1 8 1306 := rfl
theorem h320_1306 : code_ 320 1306 = opCpEq 1485 1309 := rfl
theorem h320_1309 : code_ 320 1309 = opC (vI 0) 1310 := rfl
theorem h320_1310 : code_ 320 1310 = opZret := rfl
theorem h320_1311 : code_ 320 1311 = opAld 1 1312 := rfl
theorem h320_1312 : code_ 320 1312 = opK kI 140 1 7 1315 := rfl
theorem h320_1315 : code_ 320 1315 = opAld 2 1316 := rfl
theorem h320_1316 : code_ 320 1316 = opK kI 311 1 8 1319 := rfl
theorem h320_1319 : code_ 320 1319 = opCpEq 1485 1322 := rfl
theorem h320_1322 : code_ 320 1322 = opC (vI 0) 1323 := rfl
theorem h320_1323 : code_ 320 1323 = opZret := rfl
theorem h320_1324 : code_ 320 1324 = opAld 1 1325 := rfl
theorem h320_1325 : code_ 320 1325 = opAld 0 1326 := rfl
theorem h320_1326 : code_ 320 1326 = opIld 3 1327 := rfl
theorem h320_1327 : code_ 320 1327 = opC (vI 1) 1328 := rfl
theorem h320_1328 : code_ 320 1328 = opB (fun x y => x + y) 1329 := rfl
theorem h320_1329 : code_ 320 1329 = opScI 1330 := rfl
theorem h320_1330 : code_ 320 1330 = opAld 0 1331 := rfl
theorem h320_1331 : code_ 320 1331 = opIld 3 1332 := rfl
theorem h320_1332 : code_ 320 1332 = opC (vI 2) 1333 := rfl
theorem h320_1333 : code_ 320 1333 = opB (fun x y => x + y) 1334 := rfl
theorem h320_1334 : code_ 320 1334 = opScI 1335 := rfl
theorem h320_1335 : code_ 320 1335 = opK kI 141 3 7 1338 := rfl
theorem h320_1338 : code_ 320 1338 = opAld 2 1339 := rfl
theorem h320_1339 : code_ 320 1339 = opAld 0 1340 := rfl
theorem h320_1340 : code_ 320 1340 = opIld 3 1341 := rfl
theorem h320_1341 : code_ 320 1341 = opC (vI 1) 1342 := rfl
theorem h320_1342 : code_ 320 1342 = opB (fun x y => x + y) 1343 := rfl
theorem h320_1343 : code_ 320 1343 = opScI 1344 := rfl
theorem h320_1344 : code_ 320 1344 = opAld 0 1345 := rfl
theorem h320_1345 : code_ 320 1345 = opIld 3 1346 := rfl
theorem h320_1346 : code_ 320 1346 = opC (vI 2) 1347 := rfl
theorem h320_1347 : code_ 320 1347 = opB (fun x y => x + y) 1348 := rfl
theorem h320_1348 : code_ 320 1348 = opScI 1349 := rfl
theorem h320_1349 : code_ 320 1349 = opK kI 312 3 8 1352 := rfl
theorem h320_1352 : code_ 320 1352 = opCpEq 1485 1355 := rfl
theorem h320_1355 : code_ 320 1355 = opC (vI 0) 1356 := rfl
theorem h320_1356 : code_ 320 1356 = opZret := rfl
theorem h320_1357 : code_ 320 1357 = opAld 1 1358 := rfl
theorem h320_1358 : code_ 320 1358 = opAld 0 1359 := rfl
theorem h320_1359 : code_ 320 1359 = opIld 3 1360 := rfl
theorem h320_1360 : code_ 320 1360 = opC (vI 1) 1361 := rfl
theorem h320_1361 : code_ 320 1361 = opB (fun x y => x + y) 1362 := rfl
theorem h320_1362 : code_ 320 1362 = opScI 1363 := rfl
theorem h320_1363 : code_ 320 1363 = opAld 0 1364 := rfl
theorem h320_1364 : code_ 320 1364 = opIld 3 1365 := rfl
theorem h320_1365 : code_ 320 1365 = opC (vI 2) 1366 := rfl
theorem h320_1366 : code_ 320 1366 = opB (fun x y => x + y) 1367 := rfl
theorem h320_1367 : code_ 320 1367 = opScI 1368 := rfl
theorem h320_1368 : code_ 320 1368 = opAld 0 1369 := rfl
theorem h320_1369 : code_ 320 1369 = opIld 3 1370 := rfl
theorem h320_1370 : code_ 320 1370 = opC (vI 3) 1371 := rfl
theorem h320_1371 : code_ 320 1371 = opB (fun x y => x + y) 1372 := rfl
theorem h320_1372 : code_ 320 1372 = opScI 1373 := rfl
theorem h320_1373 : code_ 320 1373 = opK kI 142 4 7 1376 := rfl
theorem h320_1376 : code_ 320 1376 = opAld 2 1377 := rfl
theorem h320_1377 : code_ 320 1377 = opAld 0 1378 := rfl
theorem h320_1378 : code_ 320 1378 = opIld 3 1379 := rfl
theorem h320_1379 : code_ 320 1379 = opC (vI 1) 1380 := rfl
theorem h320_1380 : code_ 320 1380 = opB (fun x y => x + y) 1381 := rfl
theorem h320_1381 : code_ 320 1381 = opScI 1382 := rfl
theorem h320_1382 : code_ 320 1382 = opAld 0 1383 := rfl
theorem h320_1383 : code_ 320 1383 = opIld 3 1384 := rfl
theorem h320_1384 : code_ 320 1384 = opC (vI 2) 1385 := rfl
theorem h320_1385 : code_ 320 1385 = opB (fun x y => x + y) 1386 := rfl
theorem h320_1386 : code_ 320 1386 = opScI 1387 := rfl
theorem h320_1387 : code_ 320 1387 = opAld 0 1388 := rfl
theorem h320_1388 : code_ 320 1388 = opIld 3 1389 := rfl
theorem h320_1389 : code_ 320 1389 = opC (vI 3) 1390 := rfl
theorem h320_1390 : code_ 320 1390 = opB (fun x y => x + y) 1391 := rfl
theorem h320_1391 : code_ 320 1391 = opScI 1392 := rfl
theorem h320_1392 : code_ 320 1392 = opK kI 313 4 8 1395 := rfl
theorem h320_1395 : code_ 320 1395 = opCpEq 1485 1398 := rfl
theorem h320_1398 : code_ 320 1398 = opC (vI 0) 1399 := rfl
theorem h320_1399 : code_ 320 1399 = opZret := rfl
theorem h320_1400 : code_ 320 1400 = opAld 1 1401 := rfl
theorem h320_1401 : code_ 320 1401 = opK kI 143 1 7 1404 := rfl
theorem h320_1404 : code_ 320 1404 = opAld 2 1405 := rfl
theorem h320_1405 : code_ 320 1405 = opK kI 314 1 8 1408 := rfl
theorem h320_1408 : code_ 320 1408 = opCpEq 1485 1411 := rfl
theorem h320_1411 : code_ 320 1411 = opC (vI 0) 1412 := rfl
theorem h320_1412 : code_ 320 1412 = opZret := rfl
theorem h320_1413 : code_ 320 1413 = opAld 1 1414 := rfl
theorem h320_1414 : code_ 320 1414 = opAld 0 1415 := rfl
theorem h320_1415 : code_ 320 1415 = opIld 3 1416 := rfl
theorem h320_1416 : code_ 320 1416 = opC (vI 1) 1417 := rfl
theorem h320_1417 : code_ 320 1417 = opB (fun x y => x + y) 1418 := rfl
theorem h320_1418 : code_ 320 1418 = opScI 1419 := rfl
theorem h320_1419 : code_ 320 1419 = opK kI 144 2 7 1422 := rfl
theorem h320_1422 : code_ 320 1422 = opAld 2 1423 := rfl
theorem h320_1423 : code_ 320 1423 = opAld 0 1424 := rfl
theorem h320_1424 : code_ 320 1424 = opIld 3 1425 := rfl
theorem h320_1425 : code_ 320 1425 = opC (vI 1) 1426 := rfl
theorem h320_1426 : code_ 320 1426 = opB (fun x y => x + y) 1427 := rfl
theorem h320_1427 : code_ 320 1427 = opScI 1428 := rfl
theorem h320_1428 : code_ 320 1428 = opK kI 280 2 8 1431 := rfl
theorem h320_1431 : code_ 320 1431 = opCpEq 1485 1434 := rfl
theorem h320_1434 : code_ 320 1434 = opC (vI 0) 1435 := rfl
theorem h320_1435 : code_ 320 1435 = opZret := rfl
theorem h320_1436 : code_ 320 1436 = opAld 1 1437 := rfl
theorem h320_1437 : code_ 320 1437 = opK kI 145 1 7 1440 := rfl
theorem h320_1440 : code_ 320 1440 = opAld 2 1441 := rfl
theorem h320_1441 : code_ 320 1441 = opK kI 315 1 8 1444 := rfl
theorem h320_1444 : code_ 320 1444 = opCpEq 1485 1447 := rfl
theorem h320_1447 : code_ 320 1447 = opC (vI 0) 1448 := rfl
theorem h320_1448 : code_ 320 1448 = opZret := rfl
theorem h320_1449 : code_ 320 1449 = opAld 1 1450 := rfl
theorem h320_1450 : code_ 320 1450 = opK kI 146 1 7 1453 := rfl
theorem h320_1453 : code_ 320 1453 = opAld 2 1454 := rfl
theorem h320_1454 : code_ 320 1454 = opK kI 316 1 8 1457 := rfl
theorem h320_1457 : code_ 320 1457 = opCpEq 1485 1460 := rfl
theorem h320_1460 : code_ 320 1460 = opC (vI 0) 1461 := rfl
theorem h320_1461 : code_ 320 1461 = opZret := rfl
theorem h320_1462 : code_ 320 1462 = opAld 1 1463 := rfl
theorem h320_1463 : code_ 320 1463 = opAld 0 1464 := rfl
theorem h320_1464 : code_ 320 1464 = opIld 3 1465 := rfl
theorem h320_1465 : code_ 320 1465 = opC (vI 1) 1466 := rfl
theorem h320_1466 : code_ 320 1466 = opB (fun x y => x + y) 1467 := rfl
theorem h320_1467 : code_ 320 1467 = opScI 1468 := rfl
theorem h320_1468 : code_ 320 1468 = opK kI 147 2 7 1471 := rfl
theorem h320_1471 : code_ 320 1471 = opAld 2 1472 := rfl
theorem h320_1472 : code_ 320 1472 = opAld 0 1473 := rfl
theorem h320_1473 : code_ 320 1473 = opIld 3 1474 := rfl
theorem h320_1474 : code_ 320 1474 = opC (vI 1) 1475 := rfl
theorem h320_1475 : code_ 320 1475 = opB (fun x y => x + y) 1476 := rfl
theorem h320_1476 : code_ 320 1476 = opScI 1477 := rfl
theorem h320_1477 : code_ 320 1477 = opK kI 317 2 8 1480 := rfl
theorem h320_1480 : code_ 320 1480 = opCpEq 1485 1483 := rfl
theorem h320_1483 : code_ 320 1483 = opC (vI 0) 1484 := rfl
theorem h320_1484 : code_ 320 1484 = opZret := rfl
theorem h320_1485 : code_ 320 1485 = opInc 3 6 1488 := rfl
theorem h320_1488 : code_ 320 1488 = opGoto 18 := rfl
theorem h320_1491 : code_ 320 1491 = opC (vI 1) 1492 := rfl
theorem h320_1492 : code_ 320 1492 = opZret := rfl
