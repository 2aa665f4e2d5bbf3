theorem ckL_42 : ckR 133 42 = true := by decide +kernel
theorem ckL_43 : ckR 133 43 = true := by decide +kernel
theorem ckL_44 : ckR 133 44 = true := by decide +kernel
theorem ckL_45 : ckR 133 45 = true := by decide +kernel
theorem ckL_46 : ckR 133 46 = true := by decide +kernel
theorem ckL_47 : ckR 133 47 = true := by decide +kernel
theorem ckL_48 : ckR 133 48 = true := by decide +kernel
theorem ckL_49 : ckR 133 49 = true := by decide +kernel
theorem ckL_50 : ckR 133 50 = true := by decide +kernel
theorem ckL_51 : ckR 133 51 = true := by decide +kernel
theorem ckL_52 : ckR 133 52 = true := by decide +kernel
theorem ckL_53 : ckR 133 53 = true := by decide +kernel
theorem ckL_54 : ckR 133 54 = true := by decide +kernel
theorem ckL_55 : ckR 133 55 = true := by decide +kernel
theorem ckL_all : ∀ r, r < 56 → ckR 133 r = true :=
  have a1 := al_s (P := fun r => ckR 133 r = true) al_0 ckL_0
  have a2 := al_s a1 ckL_1
  have a3 := al_s a2 ckL_2
  have a4 := al_s a3 ckL_3
  have a5 := al_s a4 ckL_4
  have a6 := al_s a5 ckL_5
  have a7 := al_s a6 ckL_6
  have a8 := al_s a7 ckL_7
  have a9 := al_s a8 ckL_8
  have a10 := al_s a9 ckL_9
  have a11 := al_s a10 ckL_10
  have a12 := al_s a11 ckL_11
  have a13 := al_s a12 ckL_12
  have a14 := al_s a13 ckL_13
  have a15 := al_s a14 ckL_14
  have a16 := al_s a15 ckL_15
  have a17 := al_s a16 ckL_16
  have a18 := al_s a17 ckL_17
  have a19 := al_s a18 ckL_18
  have a20 := al_s a19 ckL_19
  have a21 := al_s a20 ckL_20
  have a22 := al_s a21 ckL_21
  have a23 := al_s a22 ckL_22
  have a24 := al_s a23 ckL_23
  have a25 := al_s a24 ckL_24
  have a26 := al_s a25 ckL_25
  have a27 := al_s a26 ckL_26
  have a28 := al_s a27 ckL_27
  have a29 := al_s a28 ckL_28
  have a30 := al_s a29 ckL_29
  have a31 := al_s a30 ckL_30
  have a32 := al_s a31 ckL_31
  have a33 := al_s a32 ckL_32
  have a34 := al_s a33 ckL_33
  have a35 := al_s a34 ckL_34
  have a36 := al_s a35 ckL_35
  have a37 := al_s a36 ckL_36
  have a38 := al_s a37 ckL_37
  have a39 := al_s a38 ckL_38
  have a40 := al_s a39 ckL_39
  have a41 := al_s a40 ckL_40
  have a42 := al_s a41 ckL_41
  have a43 := al_s a42 ckL_42
  have a44 := al_s a43 ckL_43
  have a45 := al_s a44 ckL_44
  have a46 := al_s a45 ckL_45
  have a47 := al_s a46 ckL_46
  have a48 := al_s a47 ckL_47
  have a49 := al_s a48 ckL_48
  have a50 := al_s a49 ckL_49
  have a51 := al_s a50 ckL_50
  have a52 := al_s a51 ckL_51
  have a53 := al_s a52 ckL_52
  have a54 := al_s a53 ckL_53
  have a55 := al_s a54 ckL_54
  have a56 := al_s a55 ckL_55
  a56
theorem ckG_133 : ckG 133 = true := List.all_eq_true.mpr (fun r hr => ckL_all r (by
  have h1 := List.mem_range.mp hr
  have h2 : (mCode 133).length = 56 := by decide +kernel
  omega))
theorem ck_all : ∀ m, m < 134 → ckG m = true :=
  have a1 := al_s (P := fun m => ckG m = true) al_0 ckG_0
  have a2 := al_s a1 ckG_1
  have a3 := al_s a2 ckG_2
  have a4 := al_s a3 ckG_3
  have a5 := al_s a4 ckG_4
  have a6 := al_s a5 ckG_5
  have a7 := al_s a6 ckG_6
  have a8 := al_s a7 ckG_7
  have a9 := al_s a8 ckG_8
  have a10 := al_s a9 ckG_9
  have a11 := al_s a10 ckG_10
  have a12 := al_s a11 ckG_11
  have a13 := al_s a12 ckG_12
  have a14 := al_s a13 ckG_13
  have a15 := al_s a14 ckG_14
  have a16 := al_s a15 ckG_15
  have a17 := al_s a16 ckG_16
  have a18 := al_s a17 ckG_17
  have a19 := al_s a18 ckG_18
  have a20 := al_s a19 ckG_19
  have a21 := al_s a20 ckG_20
  have a22 := al_s a21 ckG_21
  have a23 := al_s a22 ckG_22
  have a24 := al_s a23 ckG_23
  have a25 := al_s a24 ckG_24
  have a26 := al_s a25 ckG_25
  have a27 := al_s a26 ckG_26
  have a28 := al_s a27 ckG_27
  have a29 := al_s a28 ckG_28
  have a30 := al_s a29 ckG_29
  have a31 := al_s a30 ckG_30
  have a32 := al_s a31 ckG_31
  have a33 := al_s a32 ckG_32
  have a34 := al_s a33 ckG_33
  have a35 := al_s a34 ckG_34
  have a36 := al_s a35 ckG_35
  have a37 := al_s a36 ckG_36
  have a38 := al_s a37 ckG_37
  have a39 := al_s a38 ckG_38
  have a40 := al_s a39 ckG_39
  have a41 := al_s a40 ckG_40
  have a42 := al_s a41 ckG_41
  have a43 := al_s a42 ckG_42
  have a44 := al_s a43 ckG_43
  have a45 := al_s a44 ckG_44
  have a46 := al_s a45 ckG_45
  have a47 := al_s a46 ckG_46
  have a48 := al_s a47 ckG_47
  have a49 := al_s a48 ckG_48
  have a50 := al_s a49 ckG_49
  have a51 := al_s a50 ckG_50
  have a52 := al_s a51 ckG_51
  have a53 := al_s a52 ckG_52
  have a54 := al_s a53 ckG_53
  have a55 := al_s a54 ckG_54
  have a56 := al_s a55 ckG_55
  have a57 := al_s a56 ckG_56
  have a58 := al_s a57 ckG_57
  have a59 := al_s a58 ckG_58
  have a60 := al_s a59 ckG_59
  have a61 := al_s a60 ckG_60
  have a62 := al_s a61 ckG_61
  have a63 := al_s a62 ckG_62
  have a64 := al_s a63 ckG_63
  have a65 := al_s a64 ckG_64
  have a66 := al_s a65 ckG_65
  have a67 := al_s a66 ckG_66
  have a68 := al_s a67 ckG_67
  have a69 := al_s a68 ckG_68
  have a70 := al_s a69 ckG_69
  have a71 := al_s a70 ckG_70
  have a72 := al_s a71 ckG_71
  have a73 := al_s a72 ckG_72
  have a74 := al_s a73 ckG_73
  have a75 := al_s a74 ckG_74
  have a76 := al_s a75 ckG_75
  have a77 := al_s a76 ckG_76
  have a78 := al_s a77 ckG_77
  have a79 := al_s a78 ckG_78
  have a80 := al_s a79 ckG_79
  have a81 := al_s a80 ckG_80
  have a82 := al_s a81 ckG_81
  have a83 := al_s a82 ckG_82
  have a84 := al_s a83 ckG_83
  have a85 := al_s a84 ckG_84
  have a86 := al_s a85 ckG_85
  have a87 := al_s a86 ckG_86
  have a88 := al_s a87 ckG_87
  have a89 := al_s a88 ckG_88
  have a90 := al_s a89 ckG_89
  have a91 := al_s a90 ckG_90
  have a92 := al_s a91 ckG_91
  have a93 := al_s a92 ckG_92
  have a94 := al_s a93 ckG_93
  have a95 := al_s a94 ckG_94
  have a96 := al_s a95 ckG_95
  have a97 := al_s a96 ckG_96
  have a98 := al_s a97 ckG_97
  have a99 := al_s a98 ckG_98
  have a100 := al_s a99 ckG_99
  have a101 := al_s a100 ckG_100
  have a102 := al_s a101 ckG_101
  have a103 := al_s a102 ckG_102
  have a104 := al_s a103 ckG_103
  have a105 := al_s a104 ckG_104
  have a106 := al_s a105 ckG_105
  have a107 := al_s a106 ckG_106
  have a108 := al_s a107 ckG_107
  have a109 := al_s a108 ckG_108
  have a110 := al_s a109 ckG_109
  have a111 := al_s a110 ckG_110
  have a112 := al_s a111 ckG_111
  have a113 := al_s a112 ckG_112
  have a114 := al_s a113 ckG_113
  have a115 := al_s a114 ckG_114
  have a116 := al_s a115 ckG_115
  have a117 := al_s a116 ckG_116
  have a118 := al_s a117 ckG_117
  have a119 := al_s a118 ckG_118
  have a120 := al_s a119 ckG_119
  have a121 := al_s a120 ckG_120
  have a122 := al_s a121 ckG_121
  have a123 := al_s a122 ckG_122
  have a124 := al_s a123 ckG_123
  have a125 := al_s a124 ckG_124
  have a126 := al_s a125 ckG_125
  have a127 := al_s a126 ckG_126
  have a128 := al_s a127 ckG_127
  have a129 := al_s a128 ckG_128
  have a130 := al_s a129 ckG_129
  have a131 := al_s a130 ckG_130
  have a132 := al_s a131 ckG_131
  have a133 := al_s a132 ckG_132
  have a134 := al_s a133 ckG_133
  a134
theorem pg_in : ∀ (m pc : Nat) (e : mE), pg m pc = some e → m < 134 := by
  intro m pc e h
  rcases Nat.lt_or_ge m 134 with q | q
  · exact q
  · exfalso
    have hz : mCode m = [] := by
      unfold mCode
      rcases Nat.lt_or_ge (m / 16) 9 with z | z
      · have h8 : m / 16 = 8 := by omega
        rw [h8]
        have : ∀ k, 6 ≤ k → mNth [mp_128, mp_129, mp_130, mp_131, mp_132, mp_133] k = none := by
          intro k hk
          rw [mNth_get]
          simp; omega
        show (match mNth [mp_128, mp_129, mp_130, mp_131, mp_132, mp_133] (m % 16) with
          | some c => c
          | none => []) = []
        rw [this _ (by omega)]
      · have : mNth pgs (m / 16) = none := by
          rw [mNth_get]
          have hl : pgs.length = 9 := rfl
          simp; omega
        rw [this]
    unfold pg mGrid at h
    rw [hz] at h
    simp [mNth] at h
theorem ck_at {m pc : Nat} {e : mE} (h : pg m pc = some e) : ck m pc e = true := by
  have h1 := ck_all m (pg_in m pc e h)
  unfold pg mGrid at h
  have hr : ∃ r, mNth (mCode m) (pc / 16) = some r ∧ mNth r (pc % 16) = some (some e) := by
    split at h
    next r hr =>
      split at h
      next e2 he =>
        subst h
        exact ⟨r, hr, he⟩
      next => cases h
    next => cases h
  obtain ⟨r, hr, he⟩ := hr
  unfold ckG at h1
  have hl : pc / 16 < (mCode m).length := by
    rw [mNth_get] at hr
    exact (List.getElem?_eq_some_iff.mp hr).1
  have h2 := List.all_eq_true.mp h1 (pc / 16) (List.mem_range.mpr hl)
  unfold ckR at h2
  have h3 := List.all_eq_true.mp h2 (pc % 16) (List.mem_range.mpr (Nat.mod_lt _ (by decide)))
  rw [hr] at h3
  simp only [Option.getD_some] at h3
  rw [he] at h3
  have : 16 * (pc / 16) + pc % 16 = pc := Nat.div_add_mod pc 16
  rw [this] at h3
  exact h3
