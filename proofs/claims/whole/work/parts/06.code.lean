theorem al_0 {P : Nat → Prop} : ∀ m, m < 0 → P m := fun _ h => absurd h (Nat.not_lt_zero _)
theorem al_s {P : Nat → Prop} {n : Nat} (h : ∀ m, m < n → P m) (k : P n) : ∀ m, m < n + 1 → P m := fun m z => (Nat.lt_succ_iff_lt_or_eq.mp z).elim (h m) (fun e => e ▸ k)
def kMc (m : Nat) : Prop := lw_tbl[(kMq m).1]? = some (.code (yN m) (bN m) (mW m) (rN m))
set_option maxRecDepth 100000 in
theorem kMc_0 : kMc 0 := by
  unfold kMc
  rfl
set_option maxRecDepth 100000 in
theorem kMc_1 : kMc 1 := by
  unfold kMc
  rfl
set_option maxRecDepth 100000 in
theorem kMc_2 : kMc 2 := by
  unfold kMc
  rfl
set_option maxRecDepth 100000 in
theorem kMc_3 : kMc 3 := by
  unfold kMc
  rfl
set_option maxRecDepth 100000 in
theorem kMc_4 : kMc 4 := by
  unfold kMc
  rfl
set_option maxRecDepth 100000 in
theorem kMc_5 : kMc 5 := by
  unfold kMc
  rfl
set_option maxRecDepth 100000 in
theorem kMc_6 : kMc 6 := by
  unfold kMc
  rfl
set_option maxRecDepth 100000 in
theorem kMc_7 : kMc 7 := by
  unfold kMc
  rfl
set_option maxRecDepth 100000 in
theorem kMc_8 : kMc 8 := by
  unfold kMc
  rfl
set_option maxRecDepth 100000 in
theorem kMc_9 : kMc 9 := by
  unfold kMc
  rfl
set_option maxRecDepth 100000 in
theorem kMc_10 : kMc 10 := by
  unfold kMc
  rfl
set_option maxRecDepth 100000 in
theorem kMc_11 : kMc 11 := by
  unfold kMc
  rfl
set_option maxRecDepth 100000 in
theorem kMc_12 : kMc 12 := by
  unfold kMc
  rfl
set_option maxRecDepth 100000 in
theorem kMc_13 : kMc 13 := by
  unfold kMc
  rfl
set_option maxRecDepth 100000 in
theorem kMc_14 : kMc 14 := by
  unfold kMc
  rfl
set_option maxRecDepth 100000 in
theorem kMc_15 : kMc 15 := by
  unfold kMc
  rfl
set_option maxRecDepth 100000 in
theorem kMc_16 : kMc 16 := by
  unfold kMc
  rfl
set_option maxRecDepth 100000 in
theorem kMc_17 : kMc 17 := by
  unfold kMc
  rfl
set_option maxRecDepth 100000 in
theorem kMc_18 : kMc 18 := by
  unfold kMc
  rfl
set_option maxRecDepth 100000 in
theorem kMc_19 : kMc 19 := by
  unfold kMc
  rfl
set_option maxRecDepth 100000 in
theorem kMc_20 : kMc 20 := by
  unfold kMc
  rfl
set_option maxRecDepth 100000 in
theorem kMc_21 : kMc 21 := by
  unfold kMc
  rfl
set_option maxRecDepth 100000 in
theorem kMc_22 : kMc 22 := by
  unfold kMc
  rfl
set_option maxRecDepth 100000 in
theorem kMc_23 : kMc 23 := by
  unfold kMc
  rfl
set_option maxRecDepth 100000 in
theorem kMc_24 : kMc 24 := by
  unfold kMc
  rfl
set_option maxRecDepth 100000 in
theorem kMc_25 : kMc 25 := by
  unfold kMc
  rfl
set_option maxRecDepth 100000 in
theorem kMc_26 : kMc 26 := by
  unfold kMc
  rfl
set_option maxRecDepth 100000 in
theorem kMc_27 : kMc 27 := by
  unfold kMc
  rfl
set_option maxRecDepth 100000 in
theorem kMc_28 : kMc 28 := by
  unfold kMc
  rfl
set_option maxRecDepth 100000 in
theorem kMc_29 : kMc 29 := by
  unfold kMc
  rfl
set_option maxRecDepth 100000 in
theorem kMc_30 : kMc 30 := by
  unfold kMc
  rfl
set_option maxRecDepth 100000 in
theorem kMc_31 : kMc 31 := by
  unfold kMc
  rfl
set_option maxRecDepth 100000 in
theorem kMc_32 : kMc 32 := by
  unfold kMc
  rfl
set_option maxRecDepth 100000 in
theorem kMc_33 : kMc 33 := by
  unfold kMc
  rfl
set_option maxRecDepth 100000 in
theorem kMc_34 : kMc 34 := by
  unfold kMc
  rfl
set_option maxRecDepth 100000 in
theorem kMc_35 : kMc 35 := by
  unfold kMc
  rfl
set_option maxRecDepth 100000 in
theorem kMc_36 : kMc 36 := by
  unfold kMc
  rfl
set_option maxRecDepth 100000 in
theorem kMc_37 : kMc 37 := by
  unfold kMc
  rfl
set_option maxRecDepth 100000 in
theorem kMc_38 : kMc 38 := by
  unfold kMc
  rfl
set_option maxRecDepth 100000 in
theorem kMc_39 : kMc 39 := by
  unfold kMc
  rfl
set_option maxRecDepth 100000 in
theorem kMc_40 : kMc 40 := by
  unfold kMc
  rfl
set_option maxRecDepth 100000 in
theorem kMc_41 : kMc 41 := by
  unfold kMc
  rfl
set_option maxRecDepth 100000 in
theorem kMc_42 : kMc 42 := by
  unfold kMc
  rfl
set_option maxRecDepth 100000 in
theorem kMc_43 : kMc 43 := by
  unfold kMc
  rfl
set_option maxRecDepth 100000 in
theorem kMc_44 : kMc 44 := by
  unfold kMc
  rfl
set_option maxRecDepth 100000 in
theorem kMc_45 : kMc 45 := by
  unfold kMc
  rfl
set_option maxRecDepth 100000 in
theorem kMc_46 : kMc 46 := by
  unfold kMc
  rfl
set_option maxRecDepth 100000 in
theorem kMc_47 : kMc 47 := by
  unfold kMc
  rfl
set_option maxRecDepth 100000 in
theorem kMc_48 : kMc 48 := by
  unfold kMc
  rfl
set_option maxRecDepth 100000 in
theorem kMc_49 : kMc 49 := by
  unfold kMc
  rfl
set_option maxRecDepth 100000 in
theorem kMc_50 : kMc 50 := by
  unfold kMc
  rfl
set_option maxRecDepth 100000 in
theorem kMc_51 : kMc 51 := by
  unfold kMc
  rfl
set_option maxRecDepth 100000 in
theorem kMc_52 : kMc 52 := by
  unfold kMc
  rfl
set_option maxRecDepth 100000 in
theorem kMc_53 : kMc 53 := by
  unfold kMc
  rfl
set_option maxRecDepth 100000 in
theorem kMc_54 : kMc 54 := by
  unfold kMc
  rfl
set_option maxRecDepth 100000 in
theorem kMc_55 : kMc 55 := by
  unfold kMc
  rfl
set_option maxRecDepth 100000 in
theorem kMc_56 : kMc 56 := by
  unfold kMc
  rfl
set_option maxRecDepth 100000 in
theorem kMc_57 : kMc 57 := by
  unfold kMc
  rfl
set_option maxRecDepth 100000 in
theorem kMc_58 : kMc 58 := by
  unfold kMc
  rfl
set_option maxRecDepth 100000 in
theorem kMc_59 : kMc 59 := by
  unfold kMc
  rfl
set_option maxRecDepth 100000 in
theorem kMc_60 : kMc 60 := by
  unfold kMc
  rfl
set_option maxRecDepth 100000 in
theorem kMc_61 : kMc 61 := by
  unfold kMc
  rfl
set_option maxRecDepth 100000 in
theorem kMc_62 : kMc 62 := by
  unfold kMc
  rfl
set_option maxRecDepth 100000 in
theorem kMc_63 : kMc 63 := by
  unfold kMc
  rfl
set_option maxRecDepth 100000 in
theorem kMc_64 : kMc 64 := by
  unfold kMc
  rfl
set_option maxRecDepth 100000 in
theorem kMc_65 : kMc 65 := by
  unfold kMc
  rfl
set_option maxRecDepth 100000 in
theorem kMc_66 : kMc 66 := by
  unfold kMc
  rfl
set_option maxRecDepth 100000 in
theorem kMc_67 : kMc 67 := by
  unfold kMc
  rfl
set_option maxRecDepth 100000 in
theorem kMc_68 : kMc 68 := by
  unfold kMc
  rfl
set_option maxRecDepth 100000 in
theorem kMc_69 : kMc 69 := by
  unfold kMc
  rfl
set_option maxRecDepth 100000 in
theorem kMc_70 : kMc 70 := by
  unfold kMc
  rfl
set_option maxRecDepth 100000 in
theorem kMc_71 : kMc 71 := by
  unfold kMc
  rfl
set_option maxRecDepth 100000 in
theorem kMc_72 : kMc 72 := by
  unfold kMc
  rfl
set_option maxRecDepth 100000 in
theorem kMc_73 : kMc 73 := by
  unfold kMc
  rfl
set_option maxRecDepth 100000 in
theorem kMc_74 : kMc 74 := by
  unfold kMc
  rfl
set_option maxRecDepth 100000 in
theorem kMc_75 : kMc 75 := by
  unfold kMc
  rfl
set_option maxRecDepth 100000 in
theorem kMc_76 : kMc 76 := by
  unfold kMc
  rfl
set_option maxRecDepth 100000 in
theorem kMc_77 : kMc 77 := by
  unfold kMc
  rfl
set_option maxRecDepth 100000 in
theorem kMc_78 : kMc 78 := by
  unfold kMc
  rfl
set_option maxRecDepth 100000 in
theorem kMc_79 : kMc 79 := by
  unfold kMc
  rfl
set_option maxRecDepth 100000 in
theorem kMc_80 : kMc 80 := by
  unfold kMc
  rfl
set_option maxRecDepth 100000 in
theorem kMc_81 : kMc 81 := by
  unfold kMc
  rfl
set_option maxRecDepth 100000 in
theorem kMc_82 : kMc 82 := by
  unfold kMc
  rfl
set_option maxRecDepth 100000 in
theorem kMc_83 : kMc 83 := by
  unfold kMc
  rfl
set_option maxRecDepth 100000 in
theorem kMc_84 : kMc 84 := by
  unfold kMc
  rfl
set_option maxRecDepth 100000 in
theorem kMc_85 : kMc 85 := by
  unfold kMc
  rfl
set_option maxRecDepth 100000 in
theorem kMc_86 : kMc 86 := by
  unfold kMc
  rfl
set_option maxRecDepth 100000 in
theorem kMc_87 : kMc 87 := by
  unfold kMc
  rfl
set_option maxRecDepth 100000 in
theorem kMc_88 : kMc 88 := by
  unfold kMc
  rfl
set_option maxRecDepth 100000 in
theorem kMc_89 : kMc 89 := by
  unfold kMc
  rfl
set_option maxRecDepth 100000 in
theorem kMc_90 : kMc 90 := by
  unfold kMc
  rfl
set_option maxRecDepth 100000 in
theorem kMc_91 : kMc 91 := by
  unfold kMc
  rfl
set_option maxRecDepth 100000 in
theorem kMc_92 : kMc 92 := by
  unfold kMc
  rfl
set_option maxRecDepth 100000 in
theorem kMc_93 : kMc 93 := by
  unfold kMc
  rfl
set_option maxRecDepth 100000 in
theorem kMc_94 : kMc 94 := by
  unfold kMc
  rfl
set_option maxRecDepth 100000 in
theorem kMc_95 : kMc 95 := by
  unfold kMc
  rfl
set_option maxRecDepth 100000 in
theorem kMc_96 : kMc 96 := by
  unfold kMc
  rfl
set_option maxRecDepth 100000 in
theorem kMc_97 : kMc 97 := by
  unfold kMc
  rfl
set_option maxRecDepth 100000 in
theorem kMc_98 : kMc 98 := by
  unfold kMc
  rfl
set_option maxRecDepth 100000 in
theorem kMc_99 : kMc 99 := by
  unfold kMc
  rfl
set_option maxRecDepth 100000 in
theorem kMc_100 : kMc 100 := by
  unfold kMc
  rfl
set_option maxRecDepth 100000 in
theorem kMc_101 : kMc 101 := by
  unfold kMc
  rfl
set_option maxRecDepth 100000 in
theorem kMc_102 : kMc 102 := by
  unfold kMc
  rfl
set_option maxRecDepth 100000 in
theorem kMc_103 : kMc 103 := by
  unfold kMc
  rfl
set_option maxRecDepth 100000 in
theorem kMc_104 : kMc 104 := by
  unfold kMc
  rfl
set_option maxRecDepth 100000 in
theorem kMc_105 : kMc 105 := by
  unfold kMc
  rfl
set_option maxRecDepth 100000 in
theorem kMc_106 : kMc 106 := by
  unfold kMc
  rfl
set_option maxRecDepth 100000 in
theorem kMc_107 : kMc 107 := by
  unfold kMc
  rfl
set_option maxRecDepth 100000 in
theorem kMc_108 : kMc 108 := by
  unfold kMc
  rfl
set_option maxRecDepth 100000 in
theorem kMc_109 : kMc 109 := by
  unfold kMc
  rfl
set_option maxRecDepth 100000 in
theorem kMc_110 : kMc 110 := by
  unfold kMc
  rfl
set_option maxRecDepth 100000 in
theorem kMc_111 : kMc 111 := by
  unfold kMc
  rfl
set_option maxRecDepth 100000 in
theorem kMc_112 : kMc 112 := by
  unfold kMc
  rfl
set_option maxRecDepth 100000 in
theorem kMc_113 : kMc 113 := by
  unfold kMc
  rfl
set_option maxRecDepth 100000 in
theorem kMc_114 : kMc 114 := by
  unfold kMc
  rfl
set_option maxRecDepth 100000 in
theorem kMc_115 : kMc 115 := by
  unfold kMc
  rfl
set_option maxRecDepth 100000 in
theorem kMc_116 : kMc 116 := by
  unfold kMc
  rfl
set_option maxRecDepth 100000 in
theorem kMc_117 : kMc 117 := by
  unfold kMc
  rfl
set_option maxRecDepth 100000 in
theorem kMc_118 : kMc 118 := by
  unfold kMc
  rfl
set_option maxRecDepth 100000 in
theorem kMc_119 : kMc 119 := by
  unfold kMc
  rfl
set_option maxRecDepth 100000 in
theorem kMc_120 : kMc 120 := by
  unfold kMc
  rfl
set_option maxRecDepth 100000 in
theorem kMc_121 : kMc 121 := by
  unfold kMc
  rfl
set_option maxRecDepth 100000 in
theorem kMc_122 : kMc 122 := by
  unfold kMc
  rfl
set_option maxRecDepth 100000 in
theorem kMc_123 : kMc 123 := by
  unfold kMc
  rfl
set_option maxRecDepth 100000 in
theorem kMc_124 : kMc 124 := by
  unfold kMc
  rfl
set_option maxRecDepth 100000 in
theorem kMc_125 : kMc 125 := by
  unfold kMc
  rfl
set_option maxRecDepth 100000 in
theorem kMc_126 : kMc 126 := by
  unfold kMc
  rfl
set_option maxRecDepth 100000 in
theorem kMc_127 : kMc 127 := by
  unfold kMc
  rfl
set_option maxRecDepth 100000 in
theorem kMc_128 : kMc 128 := by
  unfold kMc
  rfl
set_option maxRecDepth 100000 in
theorem kMc_129 : kMc 129 := by
  unfold kMc
  rfl
set_option maxRecDepth 100000 in
theorem kMc_130 : kMc 130 := by
  unfold kMc
  rfl
set_option maxRecDepth 100000 in
theorem kMc_131 : kMc 131 := by
  unfold kMc
  rfl
set_option maxRecDepth 100000 in
theorem kMc_132 : kMc 132 := by
  unfold kMc
  rfl
theorem kX_code1 : Cond.code Lib.Math.max.name Lib.Math.max.code 2 (some .int) ∈ lw_tbl := List.mem_of_getElem? (i := (kMq 0).1) (by decide +kernel)
theorem kX_code2 : Cond.code Lib.Math.min.name Lib.Math.min.code 2 (some .int) ∈ lw_tbl := List.mem_of_getElem? (i := (kMq 1).1) (by decide +kernel)
theorem kX_st1 : Cond.static Lib.Math.max.name ∈ lw_tbl := List.mem_of_getElem? (i := (kMq 0).2.1) (by decide +kernel)
theorem kX_st2 : Cond.static Lib.Math.min.name ∈ lw_tbl := List.mem_of_getElem? (i := (kMq 1).2.1) (by decide +kernel)
theorem kX_in : Cond.initialized "java/lang/Math" ∈ lw_tbl := List.mem_of_getElem? (i := (kMq 0).2.2.2) (by decide +kernel)
theorem kA_link : Cond.methodLink (cN kA.1) kA.2.1 arraycopyName ∈ lw_tbl := List.mem_of_getElem? (i := kA.2.2) (by decide +kernel)
theorem kA_nat : Cond.native arraycopyName ∈ lw_tbl := by decide +kernel
theorem kA_stat : Cond.static arraycopyName ∈ lw_tbl := by decide +kernel
theorem kA_init : Cond.initialized "java/lang/System" ∈ lw_tbl := by decide +kernel
theorem kM_code : ∀ m, m < 133 → kMc m :=
  have a1 := al_s (P := kMc) al_0 kMc_0
  have a2 := al_s a1 kMc_1
  have a3 := al_s a2 kMc_2
  have a4 := al_s a3 kMc_3
  have a5 := al_s a4 kMc_4
  have a6 := al_s a5 kMc_5
  have a7 := al_s a6 kMc_6
  have a8 := al_s a7 kMc_7
  have a9 := al_s a8 kMc_8
  have a10 := al_s a9 kMc_9
  have a11 := al_s a10 kMc_10
  have a12 := al_s a11 kMc_11
  have a13 := al_s a12 kMc_12
  have a14 := al_s a13 kMc_13
  have a15 := al_s a14 kMc_14
  have a16 := al_s a15 kMc_15
  have a17 := al_s a16 kMc_16
  have a18 := al_s a17 kMc_17
  have a19 := al_s a18 kMc_18
  have a20 := al_s a19 kMc_19
  have a21 := al_s a20 kMc_20
  have a22 := al_s a21 kMc_21
  have a23 := al_s a22 kMc_22
  have a24 := al_s a23 kMc_23
  have a25 := al_s a24 kMc_24
  have a26 := al_s a25 kMc_25
  have a27 := al_s a26 kMc_26
  have a28 := al_s a27 kMc_27
  have a29 := al_s a28 kMc_28
  have a30 := al_s a29 kMc_29
  have a31 := al_s a30 kMc_30
  have a32 := al_s a31 kMc_31
  have a33 := al_s a32 kMc_32
  have a34 := al_s a33 kMc_33
  have a35 := al_s a34 kMc_34
  have a36 := al_s a35 kMc_35
  have a37 := al_s a36 kMc_36
  have a38 := al_s a37 kMc_37
  have a39 := al_s a38 kMc_38
  have a40 := al_s a39 kMc_39
  have a41 := al_s a40 kMc_40
  have a42 := al_s a41 kMc_41
  have a43 := al_s a42 kMc_42
  have a44 := al_s a43 kMc_43
  have a45 := al_s a44 kMc_44
  have a46 := al_s a45 kMc_45
  have a47 := al_s a46 kMc_46
  have a48 := al_s a47 kMc_47
  have a49 := al_s a48 kMc_48
  have a50 := al_s a49 kMc_49
  have a51 := al_s a50 kMc_50
  have a52 := al_s a51 kMc_51
  have a53 := al_s a52 kMc_52
  have a54 := al_s a53 kMc_53
  have a55 := al_s a54 kMc_54
  have a56 := al_s a55 kMc_55
  have a57 := al_s a56 kMc_56
  have a58 := al_s a57 kMc_57
  have a59 := al_s a58 kMc_58
  have a60 := al_s a59 kMc_59
  have a61 := al_s a60 kMc_60
  have a62 := al_s a61 kMc_61
  have a63 := al_s a62 kMc_62
  have a64 := al_s a63 kMc_63
  have a65 := al_s a64 kMc_64
  have a66 := al_s a65 kMc_65
  have a67 := al_s a66 kMc_66
  have a68 := al_s a67 kMc_67
  have a69 := al_s a68 kMc_68
  have a70 := al_s a69 kMc_69
  have a71 := al_s a70 kMc_70
  have a72 := al_s a71 kMc_71
  have a73 := al_s a72 kMc_72
  have a74 := al_s a73 kMc_73
  have a75 := al_s a74 kMc_74
  have a76 := al_s a75 kMc_75
  have a77 := al_s a76 kMc_76
  have a78 := al_s a77 kMc_77
  have a79 := al_s a78 kMc_78
  have a80 := al_s a79 kMc_79
  have a81 := al_s a80 kMc_80
  have a82 := al_s a81 kMc_81
  have a83 := al_s a82 kMc_82
  have a84 := al_s a83 kMc_83
  have a85 := al_s a84 kMc_84
  have a86 := al_s a85 kMc_85
  have a87 := al_s a86 kMc_86
  have a88 := al_s a87 kMc_87
  have a89 := al_s a88 kMc_88
  have a90 := al_s a89 kMc_89
  have a91 := al_s a90 kMc_90
  have a92 := al_s a91 kMc_91
  have a93 := al_s a92 kMc_92
  have a94 := al_s a93 kMc_93
  have a95 := al_s a94 kMc_94
  have a96 := al_s a95 kMc_95
  have a97 := al_s a96 kMc_96
  have a98 := al_s a97 kMc_97
  have a99 := al_s a98 kMc_98
  have a100 := al_s a99 kMc_99
  have a101 := al_s a100 kMc_100
  have a102 := al_s a101 kMc_101
  have a103 := al_s a102 kMc_102
  have a104 := al_s a103 kMc_103
  have a105 := al_s a104 kMc_104
  have a106 := al_s a105 kMc_105
  have a107 := al_s a106 kMc_106
  have a108 := al_s a107 kMc_107
  have a109 := al_s a108 kMc_108
  have a110 := al_s a109 kMc_109
  have a111 := al_s a110 kMc_110
  have a112 := al_s a111 kMc_111
  have a113 := al_s a112 kMc_112
  have a114 := al_s a113 kMc_113
  have a115 := al_s a114 kMc_114
  have a116 := al_s a115 kMc_115
  have a117 := al_s a116 kMc_116
  have a118 := al_s a117 kMc_117
  have a119 := al_s a118 kMc_118
  have a120 := al_s a119 kMc_119
  have a121 := al_s a120 kMc_120
  have a122 := al_s a121 kMc_121
  have a123 := al_s a122 kMc_122
  have a124 := al_s a123 kMc_123
  have a125 := al_s a124 kMc_124
  have a126 := al_s a125 kMc_125
  have a127 := al_s a126 kMc_126
  have a128 := al_s a127 kMc_127
  have a129 := al_s a128 kMc_128
  have a130 := al_s a129 kMc_129
  have a131 := al_s a130 kMc_130
  have a132 := al_s a131 kMc_131
  have a133 := al_s a132 kMc_132
  a133
