def ilen (pc : Nat) : Instr → Nat
  | .aload _ | .iload _ | .lload _ | .astore _ | .istore _ | .lstore _ | .bipush _ | .ldc _ => 2
  | .sipush _ | .ldc2_w _ | .iinc _ _ | .ifCond _ _ | .if_icmp _ _ | .goto _ | .getfield _ | .putfield _ | .invokevirtual _ | .invokestatic _ | .invokespecial _ | .new _ => 3
  | .tableswitch _ _ _ offs => 1 + (3 - pc % 4) + 12 + 4 * offs.size
  | _ => 1
def ck (m pc : Nat) (e : mE) : Bool := decide (decode (bN m) pc = .ok (e.1, ilen pc e.1)) && (match e.1 with
  | .iconst n => decide (Int32.ofInt n = jI e.2.2.2)
  | .bipush n => decide ((Int8.ofInt n).toInt32 = jI e.2.2.2)
  | .sipush n => decide ((Int16.ofInt n).toInt32 = jI e.2.2.2)
  | .lconst n => decide (Int64.ofNat (n : Nat) = jL e.2.2.2)
  | .ldc i => kI.any (fun q => decide (q.1 = mK m ∧ q.2.1 = i ∧ q.2.2.1 = e.2.2.2))
  | .ldc2_w i => kL.any (fun q => decide (q.1 = mK m ∧ q.2.1 = i ∧ q.2.2.1 = e.2.2.2))
  | .ifCond _ off => decide ((pc : Int) + off = (e.2.1 : Int))
  | .if_icmp _ off => decide ((pc : Int) + off = (e.2.1 : Int))
  | .goto off => decide ((pc : Int) + off = (e.2.1 : Int))
  | .tableswitch d lo hi offs => decide ((pc : Int) + d = (e.2.1 : Int) ∧ (offs.size : Int) = hi - lo + 1 ∧ ∀ o ∈ offs.toList, 0 ≤ (pc : Int) + o)
  | .getfield i => kF.any (fun q => decide (q.1 = mK m ∧ q.2.1 = i ∧ q.2.2.1 = e.2.1 ∧ q.2.2.2.1 = e.2.2.1))
  | .putfield i => kF.any (fun q => decide (q.1 = mK m ∧ q.2.1 = i ∧ q.2.2.1 = e.2.1 ∧ q.2.2.2.1 = e.2.2.1))
  | .invokevirtual i => kV.any (fun q => decide (q.1 = mK m ∧ q.2.1 = i ∧ q.2.2.1 = e.2.1))
  | .invokestatic i => if e.2.1 = 900 then decide (mK m = kA.1 ∧ i = kA.2.1) else if e.2.1 = 901 ∨ e.2.1 = 902 then kX.any (fun q => decide (q.1 = mK m ∧ q.2.1 = i ∧ q.2.2.1 = e.2.1)) else (kS.any (fun q => decide (q.1 = mK m ∧ q.2.1 = i ∧ q.2.2.1 = e.2.1)) || kN.any (fun q => decide (q.1 = mK m ∧ q.2.1 = i ∧ q.2.2.1 = e.2.1)))
  | .ireturn => if e.2.1 = 0 then decide (rN m = some .int) else decide (rN m = some .boolean)
  | .lreturn => decide (rN m = some .long)
  | .areturn => (match rN m with
    | some (.object _) => true
    | _ => false)
  | .return_ => decide (rN m = none)
  | _ => true)
def ckR (m r : Nat) : Bool := (List.range 16).all (fun c => match mNth ((mNth (mCode m) r).getD []) c with
  | some (some e) => ck m (16 * r + c) e
  | _ => true)
def ckG (m : Nat) : Bool := (List.range (mCode m).length).all (ckR m)
theorem ckG_0 : ckG 0 = true := by decide +kernel
theorem ckG_1 : ckG 1 = true := by decide +kernel
theorem ckG_2 : ckG 2 = true := by decide +kernel
theorem ckG_3 : ckG 3 = true := by decide +kernel
theorem ckG_4 : ckG 4 = true := by decide +kernel
theorem ckG_5 : ckG 5 = true := by decide +kernel
theorem ckG_6 : ckG 6 = true := by decide +kernel
theorem ckG_7 : ckG 7 = true := by decide +kernel
theorem ckG_8 : ckG 8 = true := by decide +kernel
theorem ckG_9 : ckG 9 = true := by decide +kernel
theorem ckG_10 : ckG 10 = true := by decide +kernel
theorem ckG_11 : ckG 11 = true := by decide +kernel
theorem ckG_12 : ckG 12 = true := by decide +kernel
theorem ckG_13 : ckG 13 = true := by decide +kernel
theorem ckG_14 : ckG 14 = true := by decide +kernel
theorem ckG_15 : ckG 15 = true := by decide +kernel
theorem ckG_16 : ckG 16 = true := by decide +kernel
theorem ckG_17 : ckG 17 = true := by decide +kernel
theorem ckG_18 : ckG 18 = true := by decide +kernel
theorem ckG_19 : ckG 19 = true := by decide +kernel
theorem ckG_20 : ckG 20 = true := by decide +kernel
theorem ckG_21 : ckG 21 = true := by decide +kernel
theorem ckG_22 : ckG 22 = true := by decide +kernel
theorem ckG_23 : ckG 23 = true := by decide +kernel
theorem ckG_24 : ckG 24 = true := by decide +kernel
theorem ckG_25 : ckG 25 = true := by decide +kernel
theorem ckG_26 : ckG 26 = true := by decide +kernel
theorem ckG_27 : ckG 27 = true := by decide +kernel
theorem ckG_28 : ckG 28 = true := by decide +kernel
theorem ckG_29 : ckG 29 = true := by decide +kernel
theorem ckG_30 : ckG 30 = true := by decide +kernel
theorem ckG_31 : ckG 31 = true := by decide +kernel
theorem ckG_32 : ckG 32 = true := by decide +kernel
theorem ckG_33 : ckG 33 = true := by decide +kernel
theorem ckG_34 : ckG 34 = true := by decide +kernel
theorem ckG_35 : ckG 35 = true := by decide +kernel
theorem ckG_36 : ckG 36 = true := by decide +kernel
theorem ckG_37 : ckG 37 = true := by decide +kernel
theorem ckG_38 : ckG 38 = true := by decide +kernel
theorem ckG_39 : ckG 39 = true := by decide +kernel
theorem ckG_40 : ckG 40 = true := by decide +kernel
theorem ckG_41 : ckG 41 = true := by decide +kernel
theorem ckG_42 : ckG 42 = true := by decide +kernel
theorem ckG_43 : ckG 43 = true := by decide +kernel
theorem ckG_44 : ckG 44 = true := by decide +kernel
theorem ckG_45 : ckG 45 = true := by decide +kernel
theorem ckG_46 : ckG 46 = true := by decide +kernel
theorem ckG_47 : ckG 47 = true := by decide +kernel
theorem ckG_48 : ckG 48 = true := by decide +kernel
theorem ckG_49 : ckG 49 = true := by decide +kernel
theorem ckG_50 : ckG 50 = true := by decide +kernel
theorem ckG_51 : ckG 51 = true := by decide +kernel
theorem ckG_52 : ckG 52 = true := by decide +kernel
theorem ckG_53 : ckG 53 = true := by decide +kernel
theorem ckG_54 : ckG 54 = true := by decide +kernel
theorem ckG_55 : ckG 55 = true := by decide +kernel
theorem ckG_56 : ckG 56 = true := by decide +kernel
theorem ckG_57 : ckG 57 = true := by decide +kernel
theorem ckG_58 : ckG 58 = true := by decide +kernel
theorem ckG_59 : ckG 59 = true := by decide +kernel
theorem ckG_60 : ckG 60 = true := by decide +kernel
theorem ckG_61 : ckG 61 = true := by decide +kernel
theorem ckG_62 : ckG 62 = true := by decide +kernel
theorem ckG_63 : ckG 63 = true := by decide +kernel
theorem ckG_64 : ckG 64 = true := by decide +kernel
theorem ckG_65 : ckG 65 = true := by decide +kernel
theorem ckG_66 : ckG 66 = true := by decide +kernel
theorem ckG_67 : ckG 67 = true := by decide +kernel
theorem ckG_68 : ckG 68 = true := by decide +kernel
theorem ckG_69 : ckG 69 = true := by decide +kernel
theorem ckG_70 : ckG 70 = true := by decide +kernel
theorem ckG_71 : ckG 71 = true := by decide +kernel
theorem ckG_72 : ckG 72 = true := by decide +kernel
theorem ckG_73 : ckG 73 = true := by decide +kernel
theorem ckG_74 : ckG 74 = true := by decide +kernel
theorem ckG_75 : ckG 75 = true := by decide +kernel
theorem ckG_76 : ckG 76 = true := by decide +kernel
theorem ckG_77 : ckG 77 = true := by decide +kernel
theorem ckG_78 : ckG 78 = true := by decide +kernel
theorem ckG_79 : ckG 79 = true := by decide +kernel
theorem ckG_80 : ckG 80 = true := by decide +kernel
theorem ckG_81 : ckG 81 = true := by decide +kernel
theorem ckG_82 : ckG 82 = true := by decide +kernel
theorem ckG_83 : ckG 83 = true := by decide +kernel
theorem ckG_84 : ckG 84 = true := by decide +kernel
theorem ckG_85 : ckG 85 = true := by decide +kernel
theorem ckG_86 : ckG 86 = true := by decide +kernel
theorem ckG_87 : ckG 87 = true := by decide +kernel
theorem ckG_88 : ckG 88 = true := by decide +kernel
theorem ckG_89 : ckG 89 = true := by decide +kernel
theorem ckG_90 : ckG 90 = true := by decide +kernel
theorem ckG_91 : ckG 91 = true := by decide +kernel
theorem ckG_92 : ckG 92 = true := by decide +kernel
theorem ckG_93 : ckG 93 = true := by decide +kernel
theorem ckG_94 : ckG 94 = true := by decide +kernel
theorem ckG_95 : ckG 95 = true := by decide +kernel
theorem ckG_96 : ckG 96 = true := by decide +kernel
theorem ckG_97 : ckG 97 = true := by decide +kernel
theorem ckG_98 : ckG 98 = true := by decide +kernel
theorem ckG_99 : ckG 99 = true := by decide +kernel
theorem ckG_100 : ckG 100 = true := by decide +kernel
theorem ckG_101 : ckG 101 = true := by decide +kernel
theorem ckG_102 : ckG 102 = true := by decide +kernel
theorem ckG_103 : ckG 103 = true := by decide +kernel
theorem ckG_104 : ckG 104 = true := by decide +kernel
theorem ckG_105 : ckG 105 = true := by decide +kernel
theorem ckG_106 : ckG 106 = true := by decide +kernel
theorem ckG_107 : ckG 107 = true := by decide +kernel
theorem ckG_108 : ckG 108 = true := by decide +kernel
theorem ckG_109 : ckG 109 = true := by decide +kernel
theorem ckG_110 : ckG 110 = true := by decide +kernel
theorem ckG_111 : ckG 111 = true := by decide +kernel
theorem ckG_112 : ckG 112 = true := by decide +kernel
theorem ckG_113 : ckG 113 = true := by decide +kernel
theorem ckG_114 : ckG 114 = true := by decide +kernel
theorem ckG_115 : ckG 115 = true := by decide +kernel
theorem ckG_116 : ckG 116 = true := by decide +kernel
theorem ckG_117 : ckG 117 = true := by decide +kernel
theorem ckG_118 : ckG 118 = true := by decide +kernel
theorem ckG_119 : ckG 119 = true := by decide +kernel
theorem ckG_120 : ckG 120 = true := by decide +kernel
theorem ckG_121 : ckG 121 = true := by decide +kernel
theorem ckG_122 : ckG 122 = true := by decide +kernel
theorem ckG_123 : ckG 123 = true := by decide +kernel
theorem ckG_124 : ckG 124 = true := by decide +kernel
theorem ckG_125 : ckG 125 = true := by decide +kernel
theorem ckG_126 : ckG 126 = true := by decide +kernel
theorem ckG_127 : ckG 127 = true := by decide +kernel
theorem ckG_128 : ckG 128 = true := by decide +kernel
theorem ckG_129 : ckG 129 = true := by decide +kernel
theorem ckG_130 : ckG 130 = true := by decide +kernel
theorem ckG_131 : ckG 131 = true := by decide +kernel
theorem ckG_132 : ckG 132 = true := by decide +kernel
