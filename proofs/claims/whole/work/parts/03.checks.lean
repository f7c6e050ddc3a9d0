/-! the tables of part 02 against the code and the words: decided by the kernel -/
def fixlen (ins : Instr) (len : Nat) : Nat := match ins with
  | .iconst _ => 1 | .bipush _ => 2 | .sipush _ => 3 | .ldc _ => 2 | .ldc_w _ => 3 | .ldc2_w _ => 3 | .lconst _ => 1 | .iload_n _ => 1 | .iload _ => 2 | .aload_n _ => 1 | .aload _ => 2 | .lload_n _ => 1
  | .istore_n _ => 1 | .istore _ => 2 | .astore_n _ => 1 | .astore _ => 2 | .lstore_n _ => 1 | .iinc _ _ => 3 | .dup => 1 | .dup2 => 1 | .iadd => 1 | .isub => 1 | .imul => 1 | .iand => 1 | .ior => 1 | .ixor => 1 | .ishl => 1 | .ishr => 1 | .iushr => 1 | .idiv => 1 | .irem => 1 | .ineg => 1 | .i2b => 1 | .i2s => 1 | .i2l => 1 | .l2i => 1 | .ladd => 1 | .land => 1 | .lor => 1 | .lshl => 1 | .lshr => 1 | .lushr => 1 | .lcmp => 1
  | .goto _ => 3 | .ifCond _ _ => 3 | .if_icmp _ _ => 3 | .getstatic _ => 3 | .getfield _ => 3 | .putfield _ => 3 | .arraylength => 1 | .iaload => 1 | .iastore => 1 | .aaload => 1 | .aastore => 1 | .new _ => 3 | .newarray _ => 2 | .anewarray _ => 3
  | .return_ => 1 | .ireturn => 1 | .lreturn => 1 | .invokevirtual _ => 3 | .invokestatic _ => 3 | .invokespecial _ => 3
  | _ => len
abbrev LkT : Type := List (Nat × Nat × Nat × Nat × Nat)
def lkh (T : LkT) (o ix a b : Nat) : Bool := T.any (fun q => Nat.beq q.1 o && Nat.beq q.2.1 ix && Nat.beq q.2.2.1 a && Nat.beq q.2.2.2.1 b)
def ckl (o : Nat) (ins : Instr) (a b : Nat) : Bool := match ins with
  | .getfield ix => lkh FLk o ix a b
  | .putfield ix => lkh FLk o ix a b
  | .getstatic ix => lkh SLk o ix a b
  | .invokevirtual ix => lkh MLk o ix a b
  | .invokestatic ix => lkh MLk o ix a b
  | .invokespecial ix => lkh MLk o ix a b
  | .new ix => lkh CLk o ix a 0
  | .anewarray ix => lkh CLk o ix a 0
  | .ldc ix => lkh KIk o ix a 0
  | .ldc_w ix => lkh KIk o ix a 0
  | .ldc2_w ix => lkh KLk o ix a 0
  | _ => true
def cki (i pc : Nat) : Bool := match itT i pc with
  | none => true
  | some (ins, len, a, b) => decide (decode (mB i) pc = .ok (ins, fixlen ins len)) && ckl (mO i) ins a b
def ckm (i : Nat) : Bool := (List.range (mN i)).all (cki i)
theorem range_all_add (f : Nat → Bool) (lo n : Nat) : ((List.range n).all (fun k => f (lo + k)) = true) → ∀ i, lo ≤ i → i < lo + n → f i = true := by
  intro h i h1 h2
  have := List.all_eq_true.mp h (i - lo) (List.mem_range.mpr (by omega))
  rwa [show lo + (i - lo) = i by omega] at this
set_option maxRecDepth 1000000 in
theorem ckm_0 : ckm 0 = true := by decide +kernel
set_option maxRecDepth 1000000 in
theorem ckm_1 : ckm 1 = true := by decide +kernel
set_option maxRecDepth 1000000 in
theorem ckm_2 : ckm 2 = true := by decide +kernel
set_option maxRecDepth 1000000 in
theorem ckm_3 : ckm 3 = true := by decide +kernel
set_option maxRecDepth 1000000 in
theorem ckm_4 : ckm 4 = true := by decide +kernel
set_option maxRecDepth 1000000 in
theorem ckm_5 : ckm 5 = true := by decide +kernel
set_option maxRecDepth 1000000 in
theorem ckm_6 : ckm 6 = true := by decide +kernel
set_option maxRecDepth 1000000 in
theorem ckm_7 : ckm 7 = true := by decide +kernel
set_option maxRecDepth 1000000 in
theorem ckm_8 : ckm 8 = true := by decide +kernel
set_option maxRecDepth 1000000 in
theorem ckm_9 : ckm 9 = true := by decide +kernel
set_option maxRecDepth 1000000 in
theorem ckm_10 : ckm 10 = true := by decide +kernel
set_option maxRecDepth 1000000 in
theorem ckm_11 : ckm 11 = true := by decide +kernel
set_option maxRecDepth 1000000 in
theorem ckm_12 : ckm 12 = true := by decide +kernel
set_option maxRecDepth 1000000 in
theorem ckm_13 : ckm 13 = true := by decide +kernel
set_option maxRecDepth 1000000 in
theorem ckm_14 : ckm 14 = true := by decide +kernel
set_option maxRecDepth 1000000 in
theorem ckm_15 : ckm 15 = true := by decide +kernel
set_option maxRecDepth 1000000 in
theorem ckm_16 : ckm 16 = true := by decide +kernel
set_option maxRecDepth 1000000 in
theorem ckm_17 : ckm 17 = true := by decide +kernel
set_option maxRecDepth 1000000 in
theorem ckm_18 : ckm 18 = true := by decide +kernel
set_option maxRecDepth 1000000 in
theorem ckm_19 : ckm 19 = true := by decide +kernel
set_option maxRecDepth 1000000 in
theorem ckm_20 : ckm 20 = true := by decide +kernel
set_option maxRecDepth 1000000 in
theorem ckm_21 : ckm 21 = true := by decide +kernel
set_option maxRecDepth 1000000 in
theorem ckm_22 : ckm 22 = true := by decide +kernel
set_option maxRecDepth 1000000 in
theorem ckm_23 : ckm 23 = true := by decide +kernel
set_option maxRecDepth 1000000 in
theorem ckm_24 : ckm 24 = true := by decide +kernel
set_option maxRecDepth 1000000 in
theorem ckm_25 : ckm 25 = true := by decide +kernel
set_option maxRecDepth 1000000 in
theorem ckm_26 : ckm 26 = true := by decide +kernel
set_option maxRecDepth 1000000 in
theorem ckm_27 : ckm 27 = true := by decide +kernel
set_option maxRecDepth 1000000 in
theorem ckm_28 : ckm 28 = true := by decide +kernel
set_option maxRecDepth 1000000 in
theorem ckm_29 : ckm 29 = true := by decide +kernel
set_option maxRecDepth 1000000 in
theorem ckm_30 : ckm 30 = true := by decide +kernel
set_option maxRecDepth 1000000 in
theorem ckm_31 : ckm 31 = true := by decide +kernel
set_option maxRecDepth 1000000 in
theorem ckm_32 : ckm 32 = true := by decide +kernel
set_option maxRecDepth 1000000 in
theorem ckm_33 : ckm 33 = true := by decide +kernel
set_option maxRecDepth 1000000 in
theorem ckm_34 : ckm 34 = true := by decide +kernel
set_option maxRecDepth 1000000 in
theorem ckm_35 : ckm 35 = true := by decide +kernel
set_option maxRecDepth 1000000 in
theorem ckm_36 : ckm 36 = true := by decide +kernel
set_option maxRecDepth 1000000 in
theorem ckm_37 : ckm 37 = true := by decide +kernel
set_option maxRecDepth 1000000 in
theorem ckm_38 : ckm 38 = true := by decide +kernel
set_option maxRecDepth 1000000 in
theorem ckm_39 : ckm 39 = true := by decide +kernel
set_option maxRecDepth 1000000 in
theorem ckm_40 : ckm 40 = true := by decide +kernel
set_option maxRecDepth 1000000 in
theorem ckm_41 : ckm 41 = true := by decide +kernel
set_option maxRecDepth 1000000 in
theorem ckm_42 : ckm 42 = true := by decide +kernel
set_option maxRecDepth 1000000 in
theorem ckm_43 : ckm 43 = true := by decide +kernel
set_option maxRecDepth 1000000 in
theorem ckm_44 : ckm 44 = true := by decide +kernel
set_option maxRecDepth 1000000 in
theorem ckm_45 : ckm 45 = true := by decide +kernel
set_option maxRecDepth 1000000 in
theorem ckm_46 : ckm 46 = true := by decide +kernel
set_option maxRecDepth 1000000 in
theorem ckm_47 : ckm 47 = true := by decide +kernel
set_option maxRecDepth 1000000 in
theorem ckm_48 : ckm 48 = true := by decide +kernel
set_option maxRecDepth 1000000 in
theorem ckm_49 : ckm 49 = true := by decide +kernel
set_option maxRecDepth 1000000 in
theorem ckm_50 : ckm 50 = true := by decide +kernel
set_option maxRecDepth 1000000 in
theorem ckm_51 : ckm 51 = true := by decide +kernel
set_option maxRecDepth 1000000 in
theorem ckm_52 : ckm 52 = true := by decide +kernel
set_option maxRecDepth 1000000 in
theorem ckm_53 : ckm 53 = true := by decide +kernel
set_option maxRecDepth 1000000 in
theorem ckm_54 : ckm 54 = true := by decide +kernel
set_option maxRecDepth 1000000 in
theorem ckm_55 : ckm 55 = true := by decide +kernel
set_option maxRecDepth 1000000 in
theorem ckm_56 : ckm 56 = true := by decide +kernel
set_option maxRecDepth 1000000 in
theorem ckm_57 : ckm 57 = true := by decide +kernel
set_option maxRecDepth 1000000 in
theorem ckm_58 : ckm 58 = true := by decide +kernel
set_option maxRecDepth 1000000 in
theorem ckm_59 : ckm 59 = true := by decide +kernel
set_option maxRecDepth 1000000 in
theorem ckm_60 : ckm 60 = true := by decide +kernel
set_option maxRecDepth 1000000 in
theorem ckm_61 : ckm 61 = true := by decide +kernel
set_option maxRecDepth 1000000 in
theorem ckm_62 : ckm 62 = true := by decide +kernel
set_option maxRecDepth 1000000 in
theorem ckm_63 : ckm 63 = true := by decide +kernel
set_option maxRecDepth 1000000 in
theorem ckm_64 : ckm 64 = true := by decide +kernel
set_option maxRecDepth 1000000 in
theorem ckm_65 : ckm 65 = true := by decide +kernel
set_option maxRecDepth 1000000 in
theorem ckm_66 : ckm 66 = true := by decide +kernel
set_option maxRecDepth 1000000 in
theorem ckm_67 : ckm 67 = true := by decide +kernel
set_option maxRecDepth 1000000 in
theorem ckm_68 : ckm 68 = true := by decide +kernel
set_option maxRecDepth 1000000 in
theorem ckm_69 : ckm 69 = true := by decide +kernel
set_option maxRecDepth 1000000 in
theorem ckm_70 : ckm 70 = true := by decide +kernel
set_option maxRecDepth 1000000 in
theorem ckm_71 : ckm 71 = true := by decide +kernel
set_option maxRecDepth 1000000 in
theorem ckm_72 : ckm 72 = true := by decide +kernel
set_option maxRecDepth 1000000 in
theorem ckm_73 : ckm 73 = true := by decide +kernel
set_option maxRecDepth 1000000 in
theorem ckm_74 : ckm 74 = true := by decide +kernel
set_option maxRecDepth 1000000 in
theorem ckm_75 : ckm 75 = true := by decide +kernel
set_option maxRecDepth 1000000 in
theorem ckm_76 : ckm 76 = true := by decide +kernel
set_option maxRecDepth 1000000 in
theorem ckm_77 : ckm 77 = true := by decide +kernel
set_option maxRecDepth 1000000 in
theorem ckm_78 : ckm 78 = true := by decide +kernel
set_option maxRecDepth 1000000 in
theorem ckm_79 : ckm 79 = true := by decide +kernel
set_option maxRecDepth 1000000 in
theorem ckm_80 : ckm 80 = true := by decide +kernel
set_option maxRecDepth 1000000 in
theorem ckm_81 : ckm 81 = true := by decide +kernel
set_option maxRecDepth 1000000 in
theorem ckm_82 : ckm 82 = true := by decide +kernel
set_option maxRecDepth 1000000 in
theorem ckm_83 : ckm 83 = true := by decide +kernel
set_option maxRecDepth 1000000 in
theorem ckm_84 : ckm 84 = true := by decide +kernel
set_option maxRecDepth 1000000 in
theorem ckm_85 : ckm 85 = true := by decide +kernel
set_option maxRecDepth 1000000 in
theorem ckm_86 : ckm 86 = true := by decide +kernel
set_option maxRecDepth 1000000 in
theorem ckm_87 : ckm 87 = true := by decide +kernel
set_option maxRecDepth 1000000 in
theorem ckm_88 : ckm 88 = true := by decide +kernel
set_option maxRecDepth 1000000 in
theorem ckm_89 : ckm 89 = true := by decide +kernel
set_option maxRecDepth 1000000 in
theorem ckm_90 : ckm 90 = true := by decide +kernel
set_option maxRecDepth 1000000 in
theorem ckm_91 : ckm 91 = true := by decide +kernel
set_option maxRecDepth 1000000 in
theorem ckm_92 : ckm 92 = true := by decide +kernel
set_option maxRecDepth 1000000 in
theorem ckm_93 : ckm 93 = true := by decide +kernel
set_option maxRecDepth 1000000 in
theorem ckm_94 : ckm 94 = true := by decide +kernel
set_option maxRecDepth 1000000 in
theorem ckm_95 : ckm 95 = true := by decide +kernel
set_option maxRecDepth 1000000 in
theorem ckm_96 : ckm 96 = true := by decide +kernel
set_option maxRecDepth 1000000 in
theorem ckm_97 : ckm 97 = true := by decide +kernel
set_option maxRecDepth 1000000 in
theorem ckm_98 : ckm 98 = true := by decide +kernel
set_option maxRecDepth 1000000 in
theorem ckm_99 : ckm 99 = true := by decide +kernel
set_option maxRecDepth 1000000 in
theorem ckm_100 : ckm 100 = true := by decide +kernel
set_option maxRecDepth 1000000 in
theorem ckm_101 : ckm 101 = true := by decide +kernel
set_option maxRecDepth 1000000 in
theorem ckm_102 : ckm 102 = true := by decide +kernel
set_option maxRecDepth 1000000 in
theorem ckm_103 : ckm 103 = true := by decide +kernel
set_option maxRecDepth 1000000 in
theorem ckm_104 : ckm 104 = true := by decide +kernel
set_option maxRecDepth 1000000 in
theorem ckm_105 : ckm 105 = true := by decide +kernel
set_option maxRecDepth 1000000 in
theorem ckm_106 : ckm 106 = true := by decide +kernel
set_option maxRecDepth 1000000 in
theorem ckm_107 : ckm 107 = true := by decide +kernel
set_option maxRecDepth 1000000 in
theorem ckm_108 : ckm 108 = true := by decide +kernel
set_option maxRecDepth 1000000 in
theorem ckm_109 : ckm 109 = true := by decide +kernel
set_option maxRecDepth 1000000 in
theorem ckm_110 : ckm 110 = true := by decide +kernel
set_option maxRecDepth 1000000 in
theorem ckm_111 : ckm 111 = true := by decide +kernel
set_option maxRecDepth 1000000 in
theorem ckm_112 : ckm 112 = true := by decide +kernel
set_option maxRecDepth 1000000 in
theorem ckm_113 : ckm 113 = true := by decide +kernel
set_option maxRecDepth 1000000 in
theorem ckm_114 : ckm 114 = true := by decide +kernel
set_option maxRecDepth 1000000 in
theorem ckm_115 : ckm 115 = true := by decide +kernel
set_option maxRecDepth 1000000 in
theorem ckm_116 : ckm 116 = true := by decide +kernel
set_option maxRecDepth 1000000 in
theorem ckm_117 : ckm 117 = true := by decide +kernel
set_option maxRecDepth 1000000 in
theorem ckm_118 : ckm 118 = true := by decide +kernel
set_option maxRecDepth 1000000 in
theorem ckm_119 : ckm 119 = true := by decide +kernel
set_option maxRecDepth 1000000 in
theorem ckm_120 : ckm 120 = true := by decide +kernel
set_option maxRecDepth 1000000 in
theorem ckm_121 : ckm 121 = true := by decide +kernel
set_option maxRecDepth 1000000 in
theorem ckm_122 : ckm 122 = true := by decide +kernel
set_option maxRecDepth 1000000 in
theorem ckm_123 : ckm 123 = true := by decide +kernel
set_option maxRecDepth 1000000 in
theorem ckm_124 : ckm 124 = true := by decide +kernel
set_option maxRecDepth 1000000 in
theorem ckm_125 : ckm 125 = true := by decide +kernel
set_option maxRecDepth 1000000 in
theorem ckm_126 : ckm 126 = true := by decide +kernel
set_option maxRecDepth 1000000 in
theorem ckm_127 : ckm 127 = true := by decide +kernel
set_option maxRecDepth 1000000 in
theorem ckm_128 : ckm 128 = true := by decide +kernel
set_option maxRecDepth 1000000 in
theorem ckm_129 : ckm 129 = true := by decide +kernel
set_option maxRecDepth 1000000 in
theorem ckm_130 : ckm 130 = true := by decide +kernel
set_option maxRecDepth 1000000 in
theorem ckm_131 : ckm 131 = true := by decide +kernel
set_option maxRecDepth 1000000 in
theorem ckm_132 : ckm 132 = true := by decide +kernel
set_option maxRecDepth 1000000 in
theorem ckm_133 : ckm 133 = true := by decide +kernel
set_option maxRecDepth 1000000 in
theorem ckm_134 : ckm 134 = true := by decide +kernel
set_option maxRecDepth 1000000 in
theorem ckm_135 : ckm 135 = true := by decide +kernel
set_option maxRecDepth 1000000 in
theorem ckm_136 : ckm 136 = true := by decide +kernel
set_option maxRecDepth 1000000 in
theorem ckm_137 : ckm 137 = true := by decide +kernel
set_option maxRecDepth 1000000 in
theorem ckm_138 : ckm 138 = true := by decide +kernel
set_option maxRecDepth 1000000 in
theorem ckm_139 : ckm 139 = true := by decide +kernel
set_option maxRecDepth 1000000 in
theorem ckm_140 : ckm 140 = true := by decide +kernel
set_option maxRecDepth 1000000 in
theorem ckm_141 : ckm 141 = true := by decide +kernel
set_option maxRecDepth 1000000 in
theorem ckm_142 : ckm 142 = true := by decide +kernel
set_option maxRecDepth 1000000 in
theorem ckm_143 : ckm 143 = true := by decide +kernel
set_option maxRecDepth 1000000 in
theorem ckm_144 : ckm 144 = true := by decide +kernel
set_option maxRecDepth 1000000 in
theorem ckm_145 : ckm 145 = true := by decide +kernel
set_option maxRecDepth 1000000 in
theorem ckm_146 : ckm 146 = true := by decide +kernel
set_option maxRecDepth 1000000 in
theorem ckm_147 : ckm 147 = true := by decide +kernel
set_option maxRecDepth 1000000 in
theorem ckm_148 : ckm 148 = true := by decide +kernel
set_option maxRecDepth 1000000 in
theorem ckm_149 : ckm 149 = true := by decide +kernel
set_option maxRecDepth 1000000 in
theorem ckm_150 : ckm 150 = true := by decide +kernel
set_option maxRecDepth 1000000 in
theorem ckm_151 : ckm 151 = true := by decide +kernel
set_option maxRecDepth 1000000 in
theorem ckm_152 : ckm 152 = true := by decide +kernel
set_option maxRecDepth 1000000 in
theorem ckm_153 : ckm 153 = true := by decide +kernel
set_option maxRecDepth 1000000 in
theorem ckm_154 : ckm 154 = true := by decide +kernel
set_option maxRecDepth 1000000 in
theorem ckm_155 : ckm 155 = true := by decide +kernel
set_option maxRecDepth 1000000 in
theorem ckm_156 : ckm 156 = true := by decide +kernel
set_option maxRecDepth 1000000 in
theorem ckm_157 : ckm 157 = true := by decide +kernel
set_option maxRecDepth 1000000 in
theorem ckm_158 : ckm 158 = true := by decide +kernel
set_option maxRecDepth 1000000 in
theorem ckm_159 : ckm 159 = true := by decide +kernel
set_option maxRecDepth 1000000 in
theorem ckm_160 : ckm 160 = true := by decide +kernel
set_option maxRecDepth 1000000 in
theorem ckm_161 : ckm 161 = true := by decide +kernel
set_option maxRecDepth 1000000 in
theorem ckm_162 : ckm 162 = true := by decide +kernel
set_option maxRecDepth 1000000 in
theorem ckm_163 : ckm 163 = true := by decide +kernel
set_option maxRecDepth 1000000 in
theorem ckm_164 : ckm 164 = true := by decide +kernel
set_option maxRecDepth 1000000 in
theorem ckm_165 : ckm 165 = true := by decide +kernel
set_option maxRecDepth 1000000 in
theorem ckm_166 : ckm 166 = true := by decide +kernel
set_option maxRecDepth 1000000 in
theorem ckm_167 : ckm 167 = true := by decide +kernel
set_option maxRecDepth 1000000 in
theorem ckm_168 : ckm 168 = true := by decide +kernel
set_option maxRecDepth 1000000 in
theorem ckm_169 : ckm 169 = true := by decide +kernel
set_option maxRecDepth 1000000 in
theorem ckm_170 : ckm 170 = true := by decide +kernel
set_option maxRecDepth 1000000 in
theorem ckm_171 : ckm 171 = true := by decide +kernel
set_option maxRecDepth 1000000 in
theorem ckm_172 : ckm 172 = true := by decide +kernel
set_option maxRecDepth 1000000 in
theorem ckm_173 : ckm 173 = true := by decide +kernel
set_option maxRecDepth 1000000 in
theorem ckm_174 : ckm 174 = true := by decide +kernel
set_option maxRecDepth 1000000 in
theorem ckm_175 : ckm 175 = true := by decide +kernel
set_option maxRecDepth 1000000 in
theorem ckm_176 : ckm 176 = true := by decide +kernel
set_option maxRecDepth 1000000 in
theorem ckm_177 : ckm 177 = true := by decide +kernel
set_option maxRecDepth 1000000 in
theorem ckm_178 : ckm 178 = true := by decide +kernel
set_option maxRecDepth 1000000 in
theorem ckm_179 : ckm 179 = true := by decide +kernel
set_option maxRecDepth 1000000 in
theorem ckm_180 : ckm 180 = true := by decide +kernel
set_option maxRecDepth 1000000 in
theorem ckm_181 : ckm 181 = true := by decide +kernel
set_option maxRecDepth 1000000 in
theorem ckm_182 : ckm 182 = true := by decide +kernel
set_option maxRecDepth 1000000 in
theorem ckm_183 : ckm 183 = true := by decide +kernel
set_option maxRecDepth 1000000 in
theorem ckm_184 : ckm 184 = true := by decide +kernel
set_option maxRecDepth 1000000 in
theorem ckm_185 : ckm 185 = true := by decide +kernel
set_option maxRecDepth 1000000 in
theorem ckm_186 : ckm 186 = true := by decide +kernel
set_option maxRecDepth 1000000 in
theorem ckm_187 : ckm 187 = true := by decide +kernel
set_option maxRecDepth 1000000 in
theorem ckm_188 : ckm 188 = true := by decide +kernel
set_option maxRecDepth 1000000 in
theorem ckm_189 : ckm 189 = true := by decide +kernel
set_option maxRecDepth 1000000 in
theorem ckm_190 : ckm 190 = true := by decide +kernel
set_option maxRecDepth 1000000 in
theorem ckm_191 : ckm 191 = true := by decide +kernel
set_option maxRecDepth 1000000 in
theorem ckm_192 : ckm 192 = true := by decide +kernel
set_option maxRecDepth 1000000 in
theorem ckm_193 : ckm 193 = true := by decide +kernel
set_option maxRecDepth 1000000 in
theorem ckm_194 : ckm 194 = true := by decide +kernel
set_option maxRecDepth 1000000 in
theorem ckm_195 : ckm 195 = true := by decide +kernel
set_option maxRecDepth 1000000 in
theorem ckm_196 : ckm 196 = true := by decide +kernel
set_option maxRecDepth 1000000 in
theorem ckm_197 : ckm 197 = true := by decide +kernel
set_option maxRecDepth 1000000 in
theorem ckm_198 : ckm 198 = true := by decide +kernel
set_option maxRecDepth 1000000 in
theorem ckm_199 : ckm 199 = true := by decide +kernel
set_option maxRecDepth 1000000 in
theorem ckm_200 : ckm 200 = true := by decide +kernel
set_option maxRecDepth 1000000 in
theorem ckm_201 : ckm 201 = true := by decide +kernel
set_option maxRecDepth 1000000 in
theorem ckm_202 : ckm 202 = true := by decide +kernel
set_option maxRecDepth 1000000 in
theorem ckm_203 : ckm 203 = true := by decide +kernel
set_option maxRecDepth 1000000 in
theorem ckm_204 : ckm 204 = true := by decide +kernel
set_option maxRecDepth 1000000 in
theorem ckm_205 : ckm 205 = true := by decide +kernel
set_option maxRecDepth 1000000 in
theorem ckm_206 : ckm 206 = true := by decide +kernel
set_option maxRecDepth 1000000 in
theorem ckm_207 : ckm 207 = true := by decide +kernel
set_option maxRecDepth 1000000 in
theorem ckm_208 : ckm 208 = true := by decide +kernel
set_option maxRecDepth 1000000 in
theorem ckm_209 : ckm 209 = true := by decide +kernel
set_option maxRecDepth 1000000 in
theorem ckm_210 : ckm 210 = true := by decide +kernel
set_option maxRecDepth 1000000 in
theorem ckm_211 : ckm 211 = true := by decide +kernel
set_option maxRecDepth 1000000 in
theorem ckm_212 : ckm 212 = true := by decide +kernel
set_option maxRecDepth 1000000 in
theorem ckm_213 : ckm 213 = true := by decide +kernel
set_option maxRecDepth 1000000 in
theorem ckm_214 : ckm 214 = true := by decide +kernel
set_option maxRecDepth 1000000 in
theorem ckm_215 : ckm 215 = true := by decide +kernel
set_option maxRecDepth 1000000 in
theorem ckm_216 : ckm 216 = true := by decide +kernel
set_option maxRecDepth 1000000 in
theorem ckm_217 : ckm 217 = true := by decide +kernel
set_option maxRecDepth 1000000 in
theorem ckm_218 : ckm 218 = true := by decide +kernel
set_option maxRecDepth 1000000 in
theorem ckm_219 : ckm 219 = true := by decide +kernel
set_option maxRecDepth 1000000 in
theorem ckm_220 : ckm 220 = true := by decide +kernel
set_option maxRecDepth 1000000 in
theorem ckm_221 : ckm 221 = true := by decide +kernel
set_option maxRecDepth 1000000 in
theorem ckm_222 : ckm 222 = true := by decide +kernel
set_option maxRecDepth 1000000 in
theorem ckm_223 : ckm 223 = true := by decide +kernel
set_option maxRecDepth 1000000 in
theorem ckm_224 : ckm 224 = true := by decide +kernel
set_option maxRecDepth 1000000 in
theorem ckm_225 : ckm 225 = true := by decide +kernel
set_option maxRecDepth 1000000 in
theorem ckm_226 : ckm 226 = true := by decide +kernel
set_option maxRecDepth 1000000 in
theorem ckm_227 : ckm 227 = true := by decide +kernel
set_option maxRecDepth 1000000 in
theorem ckm_228 : ckm 228 = true := by decide +kernel
set_option maxRecDepth 1000000 in
theorem ckm_229 : ckm 229 = true := by decide +kernel
set_option maxRecDepth 1000000 in
theorem ckm_230 : ckm 230 = true := by decide +kernel
set_option maxRecDepth 1000000 in
theorem ckm_231 : ckm 231 = true := by decide +kernel
set_option maxRecDepth 1000000 in
theorem ckm_232 : ckm 232 = true := by decide +kernel
set_option maxRecDepth 1000000 in
theorem ckm_233 : ckm 233 = true := by decide +kernel
set_option maxRecDepth 1000000 in
theorem ckm_234 : ckm 234 = true := by decide +kernel
set_option maxRecDepth 1000000 in
theorem ckm_235 : ckm 235 = true := by decide +kernel
set_option maxRecDepth 1000000 in
theorem ckm_236 : ckm 236 = true := by decide +kernel
set_option maxRecDepth 1000000 in
theorem ckm_237 : ckm 237 = true := by decide +kernel
set_option maxRecDepth 1000000 in
theorem ckm_238 : ckm 238 = true := by decide +kernel
set_option maxRecDepth 1000000 in
theorem ckm_239 : ckm 239 = true := by decide +kernel
set_option maxRecDepth 1000000 in
theorem ckm_240 : ckm 240 = true := by decide +kernel
set_option maxRecDepth 1000000 in
theorem ckm_241 : ckm 241 = true := by decide +kernel
set_option maxRecDepth 1000000 in
theorem ckm_242 : ckm 242 = true := by decide +kernel
set_option maxRecDepth 1000000 in
theorem ckm_243 : ckm 243 = true := by decide +kernel
set_option maxRecDepth 1000000 in
theorem ckm_244 : ckm 244 = true := by decide +kernel
set_option maxRecDepth 1000000 in
theorem ckm_245 : ckm 245 = true := by decide +kernel
set_option maxRecDepth 1000000 in
theorem ckm_246 : ckm 246 = true := by decide +kernel
set_option maxRecDepth 1000000 in
theorem ckm_247 : ckm 247 = true := by decide +kernel
set_option maxRecDepth 1000000 in
theorem ckm_248 : ckm 248 = true := by decide +kernel
set_option maxRecDepth 1000000 in
theorem ckm_249 : ckm 249 = true := by decide +kernel
set_option maxRecDepth 1000000 in
theorem ckm_250 : ckm 250 = true := by decide +kernel
set_option maxRecDepth 1000000 in
theorem ckm_251 : ckm 251 = true := by decide +kernel
set_option maxRecDepth 1000000 in
theorem ckm_252 : ckm 252 = true := by decide +kernel
set_option maxRecDepth 1000000 in
theorem ckm_253 : ckm 253 = true := by decide +kernel
set_option maxRecDepth 1000000 in
theorem ckm_254 : ckm 254 = true := by decide +kernel
set_option maxRecDepth 1000000 in
theorem ckm_255 : ckm 255 = true := by decide +kernel
set_option maxRecDepth 1000000 in
theorem ckm_256 : ckm 256 = true := by decide +kernel
set_option maxRecDepth 1000000 in
theorem ckm_257 : ckm 257 = true := by decide +kernel
set_option maxRecDepth 1000000 in
theorem ckL_0 : (List.range 70).all (fun k => cki 258 (0 + k)) = true := by decide +kernel
set_option maxRecDepth 1000000 in
theorem ckL_70 : (List.range 70).all (fun k => cki 258 (70 + k)) = true := by decide +kernel
set_option maxRecDepth 1000000 in
theorem ckL_140 : (List.range 70).all (fun k => cki 258 (140 + k)) = true := by decide +kernel
set_option maxRecDepth 1000000 in
theorem ckL_210 : (List.range 70).all (fun k => cki 258 (210 + k)) = true := by decide +kernel
set_option maxRecDepth 1000000 in
theorem ckL_280 : (List.range 70).all (fun k => cki 258 (280 + k)) = true := by decide +kernel
set_option maxRecDepth 1000000 in
theorem ckL_350 : (List.range 70).all (fun k => cki 258 (350 + k)) = true := by decide +kernel
set_option maxRecDepth 1000000 in
theorem ckL_420 : (List.range 70).all (fun k => cki 258 (420 + k)) = true := by decide +kernel
set_option maxRecDepth 1000000 in
theorem ckL_490 : (List.range 70).all (fun k => cki 258 (490 + k)) = true := by decide +kernel
set_option maxRecDepth 1000000 in
theorem ckL_560 : (List.range 70).all (fun k => cki 258 (560 + k)) = true := by decide +kernel
set_option maxRecDepth 1000000 in
theorem ckL_630 : (List.range 70).all (fun k => cki 258 (630 + k)) = true := by decide +kernel
set_option maxRecDepth 1000000 in
theorem ckL_700 : (List.range 70).all (fun k => cki 258 (700 + k)) = true := by decide +kernel
set_option maxRecDepth 1000000 in
theorem ckL_770 : (List.range 70).all (fun k => cki 258 (770 + k)) = true := by decide +kernel
set_option maxRecDepth 1000000 in
theorem ckL_840 : (List.range 70).all (fun k => cki 258 (840 + k)) = true := by decide +kernel
set_option maxRecDepth 1000000 in
theorem ckL_910 : (List.range 70).all (fun k => cki 258 (910 + k)) = true := by decide +kernel
set_option maxRecDepth 1000000 in
theorem ckL_980 : (List.range 70).all (fun k => cki 258 (980 + k)) = true := by decide +kernel
set_option maxRecDepth 1000000 in
theorem ckL_1050 : (List.range 70).all (fun k => cki 258 (1050 + k)) = true := by decide +kernel
set_option maxRecDepth 1000000 in
theorem ckL_1120 : (List.range 70).all (fun k => cki 258 (1120 + k)) = true := by decide +kernel
set_option maxRecDepth 1000000 in
theorem ckL_1190 : (List.range 70).all (fun k => cki 258 (1190 + k)) = true := by decide +kernel
set_option maxRecDepth 1000000 in
theorem ckL_1260 : (List.range 70).all (fun k => cki 258 (1260 + k)) = true := by decide +kernel
set_option maxRecDepth 1000000 in
theorem ckL_1330 : (List.range 70).all (fun k => cki 258 (1330 + k)) = true := by decide +kernel
theorem ckL_all (pc : Nat) (h : pc < 1400) : cki 258 pc = true := by
  by_cases h0 : pc < 70
  · exact range_all_add (cki 258) 0 70 ckL_0 pc (by omega) h0
  by_cases h70 : pc < 140
  · exact range_all_add (cki 258) 70 70 ckL_70 pc (by omega) h70
  by_cases h140 : pc < 210
  · exact range_all_add (cki 258) 140 70 ckL_140 pc (by omega) h140
  by_cases h210 : pc < 280
  · exact range_all_add (cki 258) 210 70 ckL_210 pc (by omega) h210
  by_cases h280 : pc < 350
  · exact range_all_add (cki 258) 280 70 ckL_280 pc (by omega) h280
  by_cases h350 : pc < 420
  · exact range_all_add (cki 258) 350 70 ckL_350 pc (by omega) h350
  by_cases h420 : pc < 490
  · exact range_all_add (cki 258) 420 70 ckL_420 pc (by omega) h420
  by_cases h490 : pc < 560
  · exact range_all_add (cki 258) 490 70 ckL_490 pc (by omega) h490
  by_cases h560 : pc < 630
  · exact range_all_add (cki 258) 560 70 ckL_560 pc (by omega) h560
  by_cases h630 : pc < 700
  · exact range_all_add (cki 258) 630 70 ckL_630 pc (by omega) h630
  by_cases h700 : pc < 770
  · exact range_all_add (cki 258) 700 70 ckL_700 pc (by omega) h700
  by_cases h770 : pc < 840
  · exact range_all_add (cki 258) 770 70 ckL_770 pc (by omega) h770
  by_cases h840 : pc < 910
  · exact range_all_add (cki 258) 840 70 ckL_840 pc (by omega) h840
  by_cases h910 : pc < 980
  · exact range_all_add (cki 258) 910 70 ckL_910 pc (by omega) h910
  by_cases h980 : pc < 1050
  · exact range_all_add (cki 258) 980 70 ckL_980 pc (by omega) h980
  by_cases h1050 : pc < 1120
  · exact range_all_add (cki 258) 1050 70 ckL_1050 pc (by omega) h1050
  by_cases h1120 : pc < 1190
  · exact range_all_add (cki 258) 1120 70 ckL_1120 pc (by omega) h1120
  by_cases h1190 : pc < 1260
  · exact range_all_add (cki 258) 1190 70 ckL_1190 pc (by omega) h1190
  by_cases h1260 : pc < 1330
  · exact range_all_add (cki 258) 1260 70 ckL_1260 pc (by omega) h1260
  by_cases h1330 : pc < 1400
  · exact range_all_add (cki 258) 1330 70 ckL_1330 pc (by omega) h1330
  omega
set_option maxRecDepth 100000 in
theorem ckm_b43 : ∀ i, i < 43 → ckm i = true := lt_s (lt_s (lt_s (lt_s (lt_s (lt_s (lt_s (lt_s (lt_s (lt_s (lt_s (lt_s (lt_s (lt_s (lt_s (lt_s (lt_s (lt_s (lt_s (lt_s (lt_s (lt_s (lt_s (lt_s (lt_s (lt_s (lt_s (lt_s (lt_s (lt_s (lt_s (lt_s (lt_s (lt_s (lt_s (lt_s (lt_s (lt_s (lt_s (lt_s (lt_s (lt_s (lt_s (lt_0) ckm_0) ckm_1) ckm_2) ckm_3) ckm_4) ckm_5) ckm_6) ckm_7) ckm_8) ckm_9) ckm_10) ckm_11) ckm_12) ckm_13) ckm_14) ckm_15) ckm_16) ckm_17) ckm_18) ckm_19) ckm_20) ckm_21) ckm_22) ckm_23) ckm_24) ckm_25) ckm_26) ckm_27) ckm_28) ckm_29) ckm_30) ckm_31) ckm_32) ckm_33) ckm_34) ckm_35) ckm_36) ckm_37) ckm_38) ckm_39) ckm_40) ckm_41) ckm_42
set_option maxRecDepth 100000 in
theorem ckm_b86 : ∀ i, i < 86 → ckm i = true := lt_s (lt_s (lt_s (lt_s (lt_s (lt_s (lt_s (lt_s (lt_s (lt_s (lt_s (lt_s (lt_s (lt_s (lt_s (lt_s (lt_s (lt_s (lt_s (lt_s (lt_s (lt_s (lt_s (lt_s (lt_s (lt_s (lt_s (lt_s (lt_s (lt_s (lt_s (lt_s (lt_s (lt_s (lt_s (lt_s (lt_s (lt_s (lt_s (lt_s (lt_s (lt_s (lt_s (ckm_b43) ckm_43) ckm_44) ckm_45) ckm_46) ckm_47) ckm_48) ckm_49) ckm_50) ckm_51) ckm_52) ckm_53) ckm_54) ckm_55) ckm_56) ckm_57) ckm_58) ckm_59) ckm_60) ckm_61) ckm_62) ckm_63) ckm_64) ckm_65) ckm_66) ckm_67) ckm_68) ckm_69) ckm_70) ckm_71) ckm_72) ckm_73) ckm_74) ckm_75) ckm_76) ckm_77) ckm_78) ckm_79) ckm_80) ckm_81) ckm_82) ckm_83) ckm_84) ckm_85
set_option maxRecDepth 100000 in
theorem ckm_b129 : ∀ i, i < 129 → ckm i = true := lt_s (lt_s (lt_s (lt_s (lt_s (lt_s (lt_s (lt_s (lt_s (lt_s (lt_s (lt_s (lt_s (lt_s (lt_s (lt_s (lt_s (lt_s (lt_s (lt_s (lt_s (lt_s (lt_s (lt_s (lt_s (lt_s (lt_s (lt_s (lt_s (lt_s (lt_s (lt_s (lt_s (lt_s (lt_s (lt_s (lt_s (lt_s (lt_s (lt_s (lt_s (lt_s (lt_s (ckm_b86) ckm_86) ckm_87) ckm_88) ckm_89) ckm_90) ckm_91) ckm_92) ckm_93) ckm_94) ckm_95) ckm_96) ckm_97) ckm_98) ckm_99) ckm_100) ckm_101) ckm_102) ckm_103) ckm_104) ckm_105) ckm_106) ckm_107) ckm_108) ckm_109) ckm_110) ckm_111) ckm_112) ckm_113) ckm_114) ckm_115) ckm_116) ckm_117) ckm_118) ckm_119) ckm_120) ckm_121) ckm_122) ckm_123) ckm_124) ckm_125) ckm_126) ckm_127) ckm_128
set_option maxRecDepth 100000 in
theorem ckm_b172 : ∀ i, i < 172 → ckm i = true := lt_s (lt_s (lt_s (lt_s (lt_s (lt_s (lt_s (lt_s (lt_s (lt_s (lt_s (lt_s (lt_s (lt_s (lt_s (lt_s (lt_s (lt_s (lt_s (lt_s (lt_s (lt_s (lt_s (lt_s (lt_s (lt_s (lt_s (lt_s (lt_s (lt_s (lt_s (lt_s (lt_s (lt_s (lt_s (lt_s (lt_s (lt_s (lt_s (lt_s (lt_s (lt_s (lt_s (ckm_b129) ckm_129) ckm_130) ckm_131) ckm_132) ckm_133) ckm_134) ckm_135) ckm_136) ckm_137) ckm_138) ckm_139) ckm_140) ckm_141) ckm_142) ckm_143) ckm_144) ckm_145) ckm_146) ckm_147) ckm_148) ckm_149) ckm_150) ckm_151) ckm_152) ckm_153) ckm_154) ckm_155) ckm_156) ckm_157) ckm_158) ckm_159) ckm_160) ckm_161) ckm_162) ckm_163) ckm_164) ckm_165) ckm_166) ckm_167) ckm_168) ckm_169) ckm_170) ckm_171
set_option maxRecDepth 100000 in
theorem ckm_b215 : ∀ i, i < 215 → ckm i = true := lt_s (lt_s (lt_s (lt_s (lt_s (lt_s (lt_s (lt_s (lt_s (lt_s (lt_s (lt_s (lt_s (lt_s (lt_s (lt_s (lt_s (lt_s (lt_s (lt_s (lt_s (lt_s (lt_s (lt_s (lt_s (lt_s (lt_s (lt_s (lt_s (lt_s (lt_s (lt_s (lt_s (lt_s (lt_s (lt_s (lt_s (lt_s (lt_s (lt_s (lt_s (lt_s (lt_s (ckm_b172) ckm_172) ckm_173) ckm_174) ckm_175) ckm_176) ckm_177) ckm_178) ckm_179) ckm_180) ckm_181) ckm_182) ckm_183) ckm_184) ckm_185) ckm_186) ckm_187) ckm_188) ckm_189) ckm_190) ckm_191) ckm_192) ckm_193) ckm_194) ckm_195) ckm_196) ckm_197) ckm_198) ckm_199) ckm_200) ckm_201) ckm_202) ckm_203) ckm_204) ckm_205) ckm_206) ckm_207) ckm_208) ckm_209) ckm_210) ckm_211) ckm_212) ckm_213) ckm_214
set_option maxRecDepth 100000 in
theorem ckm_b258 : ∀ i, i < 258 → ckm i = true := lt_s (lt_s (lt_s (lt_s (lt_s (lt_s (lt_s (lt_s (lt_s (lt_s (lt_s (lt_s (lt_s (lt_s (lt_s (lt_s (lt_s (lt_s (lt_s (lt_s (lt_s (lt_s (lt_s (lt_s (lt_s (lt_s (lt_s (lt_s (lt_s (lt_s (lt_s (lt_s (lt_s (lt_s (lt_s (lt_s (lt_s (lt_s (lt_s (lt_s (lt_s (lt_s (lt_s (ckm_b215) ckm_215) ckm_216) ckm_217) ckm_218) ckm_219) ckm_220) ckm_221) ckm_222) ckm_223) ckm_224) ckm_225) ckm_226) ckm_227) ckm_228) ckm_229) ckm_230) ckm_231) ckm_232) ckm_233) ckm_234) ckm_235) ckm_236) ckm_237) ckm_238) ckm_239) ckm_240) ckm_241) ckm_242) ckm_243) ckm_244) ckm_245) ckm_246) ckm_247) ckm_248) ckm_249) ckm_250) ckm_251) ckm_252) ckm_253) ckm_254) ckm_255) ckm_256) ckm_257
theorem it_spec {i pc : Nat} {ins : Instr} {len a b : Nat} (h : it i pc = some (ins, len, a, b)) : decode (mB i) pc = .ok (ins, fixlen ins len) ∧ ckl (mO i) ins a b = true := by
  unfold it at h
  cases hg : (Nat.blt i 259 && Nat.blt pc (mN i)) with
  | false => rw [hg] at h; cases h
  | true =>
    rw [hg] at h
    have h' : itT i pc = some (ins, len, a, b) := h
    obtain ⟨h1, h2⟩ := Bool.and_eq_true_iff.mp hg
    have h1 : i < 259 := Nat.blt_eq.mp h1
    have h2 : pc < mN i := Nat.blt_eq.mp h2
    have hc : cki i pc = true := by
      by_cases hl : i < 258
      · exact List.all_eq_true.mp (ckm_b258 i hl) pc (List.mem_range.mpr h2)
      · have e : i = 258 := by omega
        subst e
        exact ckL_all pc h2
    unfold cki at hc
    rw [h'] at hc
    obtain ⟨h3, h4⟩ := Bool.and_eq_true_iff.mp hc
    exact ⟨of_decide_eq_true h3, h4⟩
