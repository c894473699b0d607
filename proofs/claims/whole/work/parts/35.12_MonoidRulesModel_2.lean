theorem d_Md_treat_0 : decode (fnB F_Md_treat) 0 = .ok (.aload_n 0, 1) := by decide +kernel
theorem d_Md_treat_1 : decode (fnB F_Md_treat) 1 = .ok (.getfield 90, 3) := by decide +kernel
theorem d_Md_treat_4 : decode (fnB F_Md_treat) 4 = .ok (.istore_n 1, 1) := by decide +kernel
theorem d_Md_treat_5 : decode (fnB F_Md_treat) 5 = .ok (.aload_n 0, 1) := by decide +kernel
theorem d_Md_treat_6 : decode (fnB F_Md_treat) 6 = .ok (.aload_n 0, 1) := by decide +kernel
theorem d_Md_treat_7 : decode (fnB F_Md_treat) 7 = .ok (.getfield 90, 3) := by decide +kernel
theorem d_Md_treat_10 : decode (fnB F_Md_treat) 10 = .ok (.iconst 1, 1) := by decide +kernel
theorem d_Md_treat_11 : decode (fnB F_Md_treat) 11 = .ok (.iadd, 1) := by decide +kernel
theorem d_Md_treat_12 : decode (fnB F_Md_treat) 12 = .ok (.sipush 1000, 3) := by decide +kernel
theorem d_Md_treat_15 : decode (fnB F_Md_treat) 15 = .ok (.irem, 1) := by decide +kernel
theorem d_Md_treat_16 : decode (fnB F_Md_treat) 16 = .ok (.putfield 90, 3) := by decide +kernel
theorem d_Md_treat_19 : decode (fnB F_Md_treat) 19 = .ok (.aload_n 0, 1) := by decide +kernel
theorem d_Md_treat_20 : decode (fnB F_Md_treat) 20 = .ok (.dup, 1) := by decide +kernel
theorem d_Md_treat_21 : decode (fnB F_Md_treat) 21 = .ok (.getfield 93, 3) := by decide +kernel
theorem d_Md_treat_24 : decode (fnB F_Md_treat) 24 = .ok (.iconst 1, 1) := by decide +kernel
theorem d_Md_treat_25 : decode (fnB F_Md_treat) 25 = .ok (.isub, 1) := by decide +kernel
theorem d_Md_treat_26 : decode (fnB F_Md_treat) 26 = .ok (.putfield 93, 3) := by decide +kernel
theorem d_Md_treat_29 : decode (fnB F_Md_treat) 29 = .ok (.aload_n 0, 1) := by decide +kernel
theorem d_Md_treat_30 : decode (fnB F_Md_treat) 30 = .ok (.dup, 1) := by decide +kernel
theorem d_Md_treat_31 : decode (fnB F_Md_treat) 31 = .ok (.getfield 96, 3) := by decide +kernel
theorem d_Md_treat_34 : decode (fnB F_Md_treat) 34 = .ok (.iconst 1, 1) := by decide +kernel
theorem d_Md_treat_35 : decode (fnB F_Md_treat) 35 = .ok (.iadd, 1) := by decide +kernel
theorem d_Md_treat_36 : decode (fnB F_Md_treat) 36 = .ok (.putfield 96, 3) := by decide +kernel
theorem d_Md_treat_39 : decode (fnB F_Md_treat) 39 = .ok (.iconst 0, 1) := by decide +kernel
theorem d_Md_treat_40 : decode (fnB F_Md_treat) 40 = .ok (.istore_n 2, 1) := by decide +kernel
theorem d_Md_treat_41 : decode (fnB F_Md_treat) 41 = .ok (.iload_n 2, 1) := by decide +kernel
theorem d_Md_treat_42 : decode (fnB F_Md_treat) 42 = .ok (.aload_n 0, 1) := by decide +kernel
theorem d_Md_treat_43 : decode (fnB F_Md_treat) 43 = .ok (.getfield 118, 3) := by decide +kernel
theorem d_Md_treat_46 : decode (fnB F_Md_treat) 46 = .ok (.iconst 2, 1) := by decide +kernel
theorem d_Md_treat_47 : decode (fnB F_Md_treat) 47 = .ok (.iload_n 1, 1) := by decide +kernel
theorem d_Md_treat_48 : decode (fnB F_Md_treat) 48 = .ok (.imul, 1) := by decide +kernel
theorem d_Md_treat_49 : decode (fnB F_Md_treat) 49 = .ok (.iaload, 1) := by decide +kernel
theorem d_Md_treat_50 : decode (fnB F_Md_treat) 50 = .ok (.if_icmp .ge 27, 3) := by decide +kernel
theorem d_Md_treat_53 : decode (fnB F_Md_treat) 53 = .ok (.aload_n 0, 1) := by decide +kernel
theorem d_Md_treat_54 : decode (fnB F_Md_treat) 54 = .ok (.getfield 157, 3) := by decide +kernel
theorem d_Md_treat_57 : decode (fnB F_Md_treat) 57 = .ok (.iload_n 2, 1) := by decide +kernel
theorem d_Md_treat_58 : decode (fnB F_Md_treat) 58 = .ok (.aload_n 0, 1) := by decide +kernel
theorem d_Md_treat_59 : decode (fnB F_Md_treat) 59 = .ok (.getfield 121, 3) := by decide +kernel
theorem d_Md_treat_62 : decode (fnB F_Md_treat) 62 = .ok (.sipush 240, 3) := by decide +kernel
theorem d_Md_treat_65 : decode (fnB F_Md_treat) 65 = .ok (.iload_n 1, 1) := by decide +kernel
theorem d_Md_treat_66 : decode (fnB F_Md_treat) 66 = .ok (.imul, 1) := by decide +kernel
theorem d_Md_treat_67 : decode (fnB F_Md_treat) 67 = .ok (.iload_n 2, 1) := by decide +kernel
theorem d_Md_treat_68 : decode (fnB F_Md_treat) 68 = .ok (.iadd, 1) := by decide +kernel
theorem d_Md_treat_69 : decode (fnB F_Md_treat) 69 = .ok (.iaload, 1) := by decide +kernel
theorem d_Md_treat_70 : decode (fnB F_Md_treat) 70 = .ok (.iastore, 1) := by decide +kernel
theorem d_Md_treat_71 : decode (fnB F_Md_treat) 71 = .ok (.iinc 2 1, 3) := by decide +kernel
theorem d_Md_treat_74 : decode (fnB F_Md_treat) 74 = .ok (.goto (-33), 3) := by decide +kernel
theorem d_Md_treat_77 : decode (fnB F_Md_treat) 77 = .ok (.aload_n 0, 1) := by decide +kernel
theorem d_Md_treat_78 : decode (fnB F_Md_treat) 78 = .ok (.aload_n 0, 1) := by decide +kernel
theorem d_Md_treat_79 : decode (fnB F_Md_treat) 79 = .ok (.getfield 157, 3) := by decide +kernel
theorem d_Md_treat_82 : decode (fnB F_Md_treat) 82 = .ok (.aload_n 0, 1) := by decide +kernel
theorem d_Md_treat_83 : decode (fnB F_Md_treat) 83 = .ok (.getfield 118, 3) := by decide +kernel
theorem d_Md_treat_86 : decode (fnB F_Md_treat) 86 = .ok (.iconst 2, 1) := by decide +kernel
theorem d_Md_treat_87 : decode (fnB F_Md_treat) 87 = .ok (.iload_n 1, 1) := by decide +kernel
theorem d_Md_treat_88 : decode (fnB F_Md_treat) 88 = .ok (.imul, 1) := by decide +kernel
theorem d_Md_treat_89 : decode (fnB F_Md_treat) 89 = .ok (.iaload, 1) := by decide +kernel
theorem d_Md_treat_90 : decode (fnB F_Md_treat) 90 = .ok (.invokevirtual 224, 3) := by decide +kernel
theorem d_Md_treat_93 : decode (fnB F_Md_treat) 93 = .ok (.istore_n 2, 1) := by decide +kernel
theorem d_Md_treat_94 : decode (fnB F_Md_treat) 94 = .ok (.aload_n 0, 1) := by decide +kernel
theorem d_Md_treat_95 : decode (fnB F_Md_treat) 95 = .ok (.getfield 102, 3) := by decide +kernel
theorem d_Md_treat_98 : decode (fnB F_Md_treat) 98 = .ok (.ifCond .eq 4, 3) := by decide +kernel
theorem d_Md_treat_101 : decode (fnB F_Md_treat) 101 = .ok (.return_, 1) := by decide +kernel
theorem d_Md_treat_102 : decode (fnB F_Md_treat) 102 = .ok (.iconst 0, 1) := by decide +kernel
theorem d_Md_treat_103 : decode (fnB F_Md_treat) 103 = .ok (.istore_n 3, 1) := by decide +kernel
theorem d_Md_treat_104 : decode (fnB F_Md_treat) 104 = .ok (.iload_n 3, 1) := by decide +kernel
theorem d_Md_treat_105 : decode (fnB F_Md_treat) 105 = .ok (.aload_n 0, 1) := by decide +kernel
theorem d_Md_treat_106 : decode (fnB F_Md_treat) 106 = .ok (.getfield 118, 3) := by decide +kernel
theorem d_Md_treat_109 : decode (fnB F_Md_treat) 109 = .ok (.iconst 2, 1) := by decide +kernel
theorem d_Md_treat_110 : decode (fnB F_Md_treat) 110 = .ok (.iload_n 1, 1) := by decide +kernel
theorem d_Md_treat_111 : decode (fnB F_Md_treat) 111 = .ok (.imul, 1) := by decide +kernel
theorem d_Md_treat_112 : decode (fnB F_Md_treat) 112 = .ok (.iconst 1, 1) := by decide +kernel
theorem d_Md_treat_113 : decode (fnB F_Md_treat) 113 = .ok (.iadd, 1) := by decide +kernel
theorem d_Md_treat_114 : decode (fnB F_Md_treat) 114 = .ok (.iaload, 1) := by decide +kernel
theorem d_Md_treat_115 : decode (fnB F_Md_treat) 115 = .ok (.if_icmp .ge 30, 3) := by decide +kernel
theorem d_Md_treat_118 : decode (fnB F_Md_treat) 118 = .ok (.aload_n 0, 1) := by decide +kernel
theorem d_Md_treat_119 : decode (fnB F_Md_treat) 119 = .ok (.getfield 160, 3) := by decide +kernel
theorem d_Md_treat_122 : decode (fnB F_Md_treat) 122 = .ok (.iload_n 3, 1) := by decide +kernel
theorem d_Md_treat_123 : decode (fnB F_Md_treat) 123 = .ok (.aload_n 0, 1) := by decide +kernel
theorem d_Md_treat_124 : decode (fnB F_Md_treat) 124 = .ok (.getfield 121, 3) := by decide +kernel
theorem d_Md_treat_127 : decode (fnB F_Md_treat) 127 = .ok (.sipush 240, 3) := by decide +kernel
theorem d_Md_treat_130 : decode (fnB F_Md_treat) 130 = .ok (.iload_n 1, 1) := by decide +kernel
theorem d_Md_treat_131 : decode (fnB F_Md_treat) 131 = .ok (.imul, 1) := by decide +kernel
theorem d_Md_treat_132 : decode (fnB F_Md_treat) 132 = .ok (.bipush 120, 2) := by decide +kernel
theorem d_Md_treat_134 : decode (fnB F_Md_treat) 134 = .ok (.iadd, 1) := by decide +kernel
theorem d_Md_treat_135 : decode (fnB F_Md_treat) 135 = .ok (.iload_n 3, 1) := by decide +kernel
theorem d_Md_treat_136 : decode (fnB F_Md_treat) 136 = .ok (.iadd, 1) := by decide +kernel
theorem d_Md_treat_137 : decode (fnB F_Md_treat) 137 = .ok (.iaload, 1) := by decide +kernel
theorem d_Md_treat_138 : decode (fnB F_Md_treat) 138 = .ok (.iastore, 1) := by decide +kernel
theorem d_Md_treat_139 : decode (fnB F_Md_treat) 139 = .ok (.iinc 3 1, 3) := by decide +kernel
theorem d_Md_treat_142 : decode (fnB F_Md_treat) 142 = .ok (.goto (-38), 3) := by decide +kernel
theorem d_Md_treat_145 : decode (fnB F_Md_treat) 145 = .ok (.aload_n 0, 1) := by decide +kernel
theorem d_Md_treat_146 : decode (fnB F_Md_treat) 146 = .ok (.aload_n 0, 1) := by decide +kernel
theorem d_Md_treat_147 : decode (fnB F_Md_treat) 147 = .ok (.getfield 160, 3) := by decide +kernel
theorem d_Md_treat_150 : decode (fnB F_Md_treat) 150 = .ok (.aload_n 0, 1) := by decide +kernel
theorem d_Md_treat_151 : decode (fnB F_Md_treat) 151 = .ok (.getfield 118, 3) := by decide +kernel
theorem d_Md_treat_154 : decode (fnB F_Md_treat) 154 = .ok (.iconst 2, 1) := by decide +kernel
theorem d_Md_treat_155 : decode (fnB F_Md_treat) 155 = .ok (.iload_n 1, 1) := by decide +kernel
theorem d_Md_treat_156 : decode (fnB F_Md_treat) 156 = .ok (.imul, 1) := by decide +kernel
theorem d_Md_treat_157 : decode (fnB F_Md_treat) 157 = .ok (.iconst 1, 1) := by decide +kernel
theorem d_Md_treat_158 : decode (fnB F_Md_treat) 158 = .ok (.iadd, 1) := by decide +kernel
theorem d_Md_treat_159 : decode (fnB F_Md_treat) 159 = .ok (.iaload, 1) := by decide +kernel
theorem d_Md_treat_160 : decode (fnB F_Md_treat) 160 = .ok (.invokevirtual 224, 3) := by decide +kernel
theorem d_Md_treat_163 : decode (fnB F_Md_treat) 163 = .ok (.istore_n 3, 1) := by decide +kernel
theorem d_Md_treat_164 : decode (fnB F_Md_treat) 164 = .ok (.aload_n 0, 1) := by decide +kernel
theorem d_Md_treat_165 : decode (fnB F_Md_treat) 165 = .ok (.getfield 102, 3) := by decide +kernel
theorem d_Md_treat_168 : decode (fnB F_Md_treat) 168 = .ok (.ifCond .ne 30, 3) := by decide +kernel
theorem d_Md_treat_171 : decode (fnB F_Md_treat) 171 = .ok (.aload_n 0, 1) := by decide +kernel
theorem d_Md_treat_172 : decode (fnB F_Md_treat) 172 = .ok (.getfield 157, 3) := by decide +kernel
theorem d_Md_treat_175 : decode (fnB F_Md_treat) 175 = .ok (.iconst 0, 1) := by decide +kernel
theorem d_Md_treat_176 : decode (fnB F_Md_treat) 176 = .ok (.iload_n 2, 1) := by decide +kernel
theorem d_Md_treat_177 : decode (fnB F_Md_treat) 177 = .ok (.aload_n 0, 1) := by decide +kernel
theorem d_Md_treat_178 : decode (fnB F_Md_treat) 178 = .ok (.getfield 160, 3) := by decide +kernel
theorem d_Md_treat_181 : decode (fnB F_Md_treat) 181 = .ok (.iconst 0, 1) := by decide +kernel
theorem d_Md_treat_182 : decode (fnB F_Md_treat) 182 = .ok (.iload_n 3, 1) := by decide +kernel
theorem d_Md_treat_183 : decode (fnB F_Md_treat) 183 = .ok (.invokestatic 237, 3) := by decide +kernel
theorem d_Md_treat_186 : decode (fnB F_Md_treat) 186 = .ok (.ifCond .eq 12, 3) := by decide +kernel
theorem d_Md_treat_189 : decode (fnB F_Md_treat) 189 = .ok (.aload_n 0, 1) := by decide +kernel
theorem d_Md_treat_190 : decode (fnB F_Md_treat) 190 = .ok (.iload_n 2, 1) := by decide +kernel
theorem d_Md_treat_191 : decode (fnB F_Md_treat) 191 = .ok (.iload_n 3, 1) := by decide +kernel
theorem d_Md_treat_192 : decode (fnB F_Md_treat) 192 = .ok (.invokevirtual 241, 3) := by decide +kernel
theorem d_Md_treat_195 : decode (fnB F_Md_treat) 195 = .ok (.ifCond .ne 4, 3) := by decide +kernel
theorem d_Md_treat_198 : decode (fnB F_Md_treat) 198 = .ok (.return_, 1) := by decide +kernel
theorem d_Md_treat_199 : decode (fnB F_Md_treat) 199 = .ok (.aload_n 0, 1) := by decide +kernel
theorem d_Md_treat_200 : decode (fnB F_Md_treat) 200 = .ok (.getfield 87, 3) := by decide +kernel
theorem d_Md_treat_203 : decode (fnB F_Md_treat) 203 = .ok (.iconst 1, 1) := by decide +kernel
theorem d_Md_treat_204 : decode (fnB F_Md_treat) 204 = .ok (.isub, 1) := by decide +kernel
theorem d_Md_treat_205 : decode (fnB F_Md_treat) 205 = .ok (.istore 4, 2) := by decide +kernel
theorem d_Md_treat_207 : decode (fnB F_Md_treat) 207 = .ok (.aload_n 0, 1) := by decide +kernel
theorem d_Md_treat_208 : decode (fnB F_Md_treat) 208 = .ok (.iload 4, 2) := by decide +kernel
theorem d_Md_treat_210 : decode (fnB F_Md_treat) 210 = .ok (.invokevirtual 244, 3) := by decide +kernel
theorem d_Md_treat_213 : decode (fnB F_Md_treat) 213 = .ok (.aload_n 0, 1) := by decide +kernel
theorem d_Md_treat_214 : decode (fnB F_Md_treat) 214 = .ok (.getfield 102, 3) := by decide +kernel
theorem d_Md_treat_217 : decode (fnB F_Md_treat) 217 = .ok (.ifCond .ne 9, 3) := by decide +kernel
theorem d_Md_treat_220 : decode (fnB F_Md_treat) 220 = .ok (.aload_n 0, 1) := by decide +kernel
theorem d_Md_treat_221 : decode (fnB F_Md_treat) 221 = .ok (.iload 4, 2) := by decide +kernel
theorem d_Md_treat_223 : decode (fnB F_Md_treat) 223 = .ok (.invokevirtual 247, 3) := by decide +kernel
theorem d_Md_treat_226 : decode (fnB F_Md_treat) 226 = .ok (.iconst 0, 1) := by decide +kernel
theorem d_Md_treat_227 : decode (fnB F_Md_treat) 227 = .ok (.istore 5, 2) := by decide +kernel
theorem d_Md_treat_229 : decode (fnB F_Md_treat) 229 = .ok (.iload 5, 2) := by decide +kernel
theorem d_Md_treat_231 : decode (fnB F_Md_treat) 231 = .ok (.iload 4, 2) := by decide +kernel
theorem d_Md_treat_233 : decode (fnB F_Md_treat) 233 = .ok (.if_icmp .gt 56, 3) := by decide +kernel
theorem d_Md_treat_236 : decode (fnB F_Md_treat) 236 = .ok (.aload_n 0, 1) := by decide +kernel
theorem d_Md_treat_237 : decode (fnB F_Md_treat) 237 = .ok (.getfield 102, 3) := by decide +kernel
theorem d_Md_treat_240 : decode (fnB F_Md_treat) 240 = .ok (.ifCond .ne 49, 3) := by decide +kernel
theorem d_Md_treat_243 : decode (fnB F_Md_treat) 243 = .ok (.aload_n 0, 1) := by decide +kernel
theorem d_Md_treat_244 : decode (fnB F_Md_treat) 244 = .ok (.getfield 152, 3) := by decide +kernel
theorem d_Md_treat_247 : decode (fnB F_Md_treat) 247 = .ok (.iload 5, 2) := by decide +kernel
theorem d_Md_treat_249 : decode (fnB F_Md_treat) 249 = .ok (.baload, 1) := by decide +kernel
theorem d_Md_treat_250 : decode (fnB F_Md_treat) 250 = .ok (.ifCond .eq 33, 3) := by decide +kernel
theorem d_Md_treat_253 : decode (fnB F_Md_treat) 253 = .ok (.aload_n 0, 1) := by decide +kernel
theorem d_Md_treat_254 : decode (fnB F_Md_treat) 254 = .ok (.iload 4, 2) := by decide +kernel
theorem d_Md_treat_256 : decode (fnB F_Md_treat) 256 = .ok (.iload 5, 2) := by decide +kernel
theorem d_Md_treat_258 : decode (fnB F_Md_treat) 258 = .ok (.invokevirtual 250, 3) := by decide +kernel
theorem d_Md_treat_261 : decode (fnB F_Md_treat) 261 = .ok (.iload 5, 2) := by decide +kernel
theorem d_Md_treat_263 : decode (fnB F_Md_treat) 263 = .ok (.iload 4, 2) := by decide +kernel
theorem d_Md_treat_265 : decode (fnB F_Md_treat) 265 = .ok (.if_icmp .ge 18, 3) := by decide +kernel
theorem d_Md_treat_268 : decode (fnB F_Md_treat) 268 = .ok (.aload_n 0, 1) := by decide +kernel
theorem d_Md_treat_269 : decode (fnB F_Md_treat) 269 = .ok (.getfield 102, 3) := by decide +kernel
theorem d_Md_treat_272 : decode (fnB F_Md_treat) 272 = .ok (.ifCond .ne 11, 3) := by decide +kernel
theorem d_Md_treat_275 : decode (fnB F_Md_treat) 275 = .ok (.aload_n 0, 1) := by decide +kernel
theorem d_Md_treat_276 : decode (fnB F_Md_treat) 276 = .ok (.iload 5, 2) := by decide +kernel
theorem d_Md_treat_278 : decode (fnB F_Md_treat) 278 = .ok (.iload 4, 2) := by decide +kernel
theorem d_Md_treat_280 : decode (fnB F_Md_treat) 280 = .ok (.invokevirtual 250, 3) := by decide +kernel
theorem d_Md_treat_283 : decode (fnB F_Md_treat) 283 = .ok (.iinc 5 1, 3) := by decide +kernel
theorem d_Md_treat_286 : decode (fnB F_Md_treat) 286 = .ok (.goto (-57), 3) := by decide +kernel
theorem d_Md_treat_289 : decode (fnB F_Md_treat) 289 = .ok (.return_, 1) := by decide +kernel
theorem B_Md_treat_0 : (∀ (l1 l2 l3 l4 l5 : Value) (x : Nat) (st : List Value) (M : Mm) (Q : Option Value → Mm → Prop), wp F_Md_treat 0 [.ref x, l1, l2, l3, l4, l5] st M Q = wp F_Md_treat 1 [.ref x, l1, l2, l3, l4, l5] (.ref x :: st) M Q) ∧
  (∀ (l0 l1 l2 l3 l4 l5 : Value) (a : Nat) (st : List Value) (M : Mm) (Q : Option Value → Mm → Prop), wp F_Md_treat 1 [l0, l1, l2, l3, l4, l5] (.ref a :: st) M Q = (sh M a = some (.inl 12) ∧ wp F_Md_treat 4 [l0, l1, l2, l3, l4, l5] (.int (gI M a 24) :: st) M Q)) ∧
  (∀ (l0 l1 l2 l3 l4 l5 : Value) (x : Int32) (st : List Value) (M : Mm) (Q : Option Value → Mm → Prop), wp F_Md_treat 4 [l0, l1, l2, l3, l4, l5] (.int x :: st) M Q = wp F_Md_treat 5 [clr l0, .int x, l2, l3, l4, l5] st M Q) ∧
  (∀ (l1 l2 l3 l4 l5 : Value) (x : Nat) (st : List Value) (M : Mm) (Q : Option Value → Mm → Prop), wp F_Md_treat 5 [.ref x, l1, l2, l3, l4, l5] st M Q = wp F_Md_treat 6 [.ref x, l1, l2, l3, l4, l5] (.ref x :: st) M Q) ∧
  (∀ (l1 l2 l3 l4 l5 : Value) (x : Nat) (st : List Value) (M : Mm) (Q : Option Value → Mm → Prop), wp F_Md_treat 6 [.ref x, l1, l2, l3, l4, l5] st M Q = wp F_Md_treat 7 [.ref x, l1, l2, l3, l4, l5] (.ref x :: st) M Q) ∧
  (∀ (l0 l1 l2 l3 l4 l5 : Value) (a : Nat) (st : List Value) (M : Mm) (Q : Option Value → Mm → Prop), wp F_Md_treat 7 [l0, l1, l2, l3, l4, l5] (.ref a :: st) M Q = (sh M a = some (.inl 12) ∧ wp F_Md_treat 10 [l0, l1, l2, l3, l4, l5] (.int (gI M a 24) :: st) M Q)) ∧
  (∀ (l0 l1 l2 l3 l4 l5 : Value) (st : List Value) (M : Mm) (Q : Option Value → Mm → Prop), wp F_Md_treat 10 [l0, l1, l2, l3, l4, l5] st M Q = wp F_Md_treat 11 [l0, l1, l2, l3, l4, l5] (.int 1 :: st) M Q) ∧
  (∀ (l0 l1 l2 l3 l4 l5 : Value) (x y : Int32) (st : List Value) (M : Mm) (Q : Option Value → Mm → Prop), wp F_Md_treat 11 [l0, l1, l2, l3, l4, l5] (.int y :: .int x :: st) M Q = wp F_Md_treat 12 [l0, l1, l2, l3, l4, l5] (.int (x + y) :: st) M Q) ∧
  (∀ (l0 l1 l2 l3 l4 l5 : Value) (st : List Value) (M : Mm) (Q : Option Value → Mm → Prop), wp F_Md_treat 12 [l0, l1, l2, l3, l4, l5] st M Q = wp F_Md_treat 15 [l0, l1, l2, l3, l4, l5] (.int 1000 :: st) M Q) ∧
  (∀ (l0 l1 l2 l3 l4 l5 : Value) (x y : Int32) (st : List Value) (M : Mm) (Q : Option Value → Mm → Prop), wp F_Md_treat 15 [l0, l1, l2, l3, l4, l5] (.int y :: .int x :: st) M Q = (¬ y = 0 ∧ wp F_Md_treat 16 [l0, l1, l2, l3, l4, l5] (.int (x - x / y * y) :: st) M Q)) ∧
  (∀ (l0 l1 l2 l3 l4 l5 : Value) (a : Nat) (x : Int32) (st : List Value) (M : Mm) (Q : Option Value → Mm → Prop), wp F_Md_treat 16 [l0, l1, l2, l3, l4, l5] (.int x :: .ref a :: st) M Q = (sh M a = some (.inl 12) ∧ wp F_Md_treat 19 [l0, l1, l2, l3, l4, l5] st (sI M a 24 x) Q)) ∧
  (∀ (l1 l2 l3 l4 l5 : Value) (x : Nat) (st : List Value) (M : Mm) (Q : Option Value → Mm → Prop), wp F_Md_treat 19 [.ref x, l1, l2, l3, l4, l5] st M Q = wp F_Md_treat 20 [.ref x, l1, l2, l3, l4, l5] (.ref x :: st) M Q) ∧
  (∀ (l0 l1 l2 l3 l4 l5 : Value) (x : Nat) (st : List Value) (M : Mm) (Q : Option Value → Mm → Prop), wp F_Md_treat 20 [l0, l1, l2, l3, l4, l5] (.ref x :: st) M Q = wp F_Md_treat 21 [l0, l1, l2, l3, l4, l5] (.ref x :: .ref x :: st) M Q) ∧
  (∀ (l0 l1 l2 l3 l4 l5 : Value) (a : Nat) (st : List Value) (M : Mm) (Q : Option Value → Mm → Prop), wp F_Md_treat 21 [l0, l1, l2, l3, l4, l5] (.ref a :: st) M Q = (sh M a = some (.inl 12) ∧ wp F_Md_treat 24 [l0, l1, l2, l3, l4, l5] (.int (gI M a 25) :: st) M Q)) ∧
  (∀ (l0 l1 l2 l3 l4 l5 : Value) (st : List Value) (M : Mm) (Q : Option Value → Mm → Prop), wp F_Md_treat 24 [l0, l1, l2, l3, l4, l5] st M Q = wp F_Md_treat 25 [l0, l1, l2, l3, l4, l5] (.int 1 :: st) M Q) ∧
  (∀ (l0 l1 l2 l3 l4 l5 : Value) (x y : Int32) (st : List Value) (M : Mm) (Q : Option Value → Mm → Prop), wp F_Md_treat 25 [l0, l1, l2, l3, l4, l5] (.int y :: .int x :: st) M Q = wp F_Md_treat 26 [l0, l1, l2, l3, l4, l5] (.int (x - y) :: st) M Q) ∧
  (∀ (l0 l1 l2 l3 l4 l5 : Value) (a : Nat) (x : Int32) (st : List Value) (M : Mm) (Q : Option Value → Mm → Prop), wp F_Md_treat 26 [l0, l1, l2, l3, l4, l5] (.int x :: .ref a :: st) M Q = (sh M a = some (.inl 12) ∧ wp F_Md_treat 29 [l0, l1, l2, l3, l4, l5] st (sI M a 25 x) Q)) ∧
  (∀ (l1 l2 l3 l4 l5 : Value) (x : Nat) (st : List Value) (M : Mm) (Q : Option Value → Mm → Prop), wp F_Md_treat 29 [.ref x, l1, l2, l3, l4, l5] st M Q = wp F_Md_treat 30 [.ref x, l1, l2, l3, l4, l5] (.ref x :: st) M Q) ∧
  (∀ (l0 l1 l2 l3 l4 l5 : Value) (x : Nat) (st : List Value) (M : Mm) (Q : Option Value → Mm → Prop), wp F_Md_treat 30 [l0, l1, l2, l3, l4, l5] (.ref x :: st) M Q = wp F_Md_treat 31 [l0, l1, l2, l3, l4, l5] (.ref x :: .ref x :: st) M Q) ∧
  (∀ (l0 l1 l2 l3 l4 l5 : Value) (a : Nat) (st : List Value) (M : Mm) (Q : Option Value → Mm → Prop), wp F_Md_treat 31 [l0, l1, l2, l3, l4, l5] (.ref a :: st) M Q = (sh M a = some (.inl 12) ∧ wp F_Md_treat 34 [l0, l1, l2, l3, l4, l5] (.int (gI M a 26) :: st) M Q)) ∧
  (∀ (l0 l1 l2 l3 l4 l5 : Value) (st : List Value) (M : Mm) (Q : Option Value → Mm → Prop), wp F_Md_treat 34 [l0, l1, l2, l3, l4, l5] st M Q = wp F_Md_treat 35 [l0, l1, l2, l3, l4, l5] (.int 1 :: st) M Q) ∧
  (∀ (l0 l1 l2 l3 l4 l5 : Value) (x y : Int32) (st : List Value) (M : Mm) (Q : Option Value → Mm → Prop), wp F_Md_treat 35 [l0, l1, l2, l3, l4, l5] (.int y :: .int x :: st) M Q = wp F_Md_treat 36 [l0, l1, l2, l3, l4, l5] (.int (x + y) :: st) M Q) ∧
  (∀ (l0 l1 l2 l3 l4 l5 : Value) (a : Nat) (x : Int32) (st : List Value) (M : Mm) (Q : Option Value → Mm → Prop), wp F_Md_treat 36 [l0, l1, l2, l3, l4, l5] (.int x :: .ref a :: st) M Q = (sh M a = some (.inl 12) ∧ wp F_Md_treat 39 [l0, l1, l2, l3, l4, l5] st (sI M a 26 x) Q)) ∧
  (∀ (l0 l1 l2 l3 l4 l5 : Value) (st : List Value) (M : Mm) (Q : Option Value → Mm → Prop), wp F_Md_treat 39 [l0, l1, l2, l3, l4, l5] st M Q = wp F_Md_treat 40 [l0, l1, l2, l3, l4, l5] (.int 0 :: st) M Q) ∧
  (∀ (l0 l1 l2 l3 l4 l5 : Value) (x : Int32) (st : List Value) (M : Mm) (Q : Option Value → Mm → Prop), wp F_Md_treat 40 [l0, l1, l2, l3, l4, l5] (.int x :: st) M Q = wp F_Md_treat 41 [l0, clr l1, .int x, l3, l4, l5] st M Q) := ⟨fun _ _ _ _ _ _ _ _ _ => wp_in d_Md_treat_0 rfl rfl, fun _ _ _ _ _ _ _ _ _ _ => wp_getI d_Md_treat_1 fl_12_90 rfl, fun _ _ _ _ _ _ _ _ _ _ => wp_in d_Md_treat_4 rfl rfl, fun _ _ _ _ _ _ _ _ _ => wp_in d_Md_treat_5 rfl rfl, fun _ _ _ _ _ _ _ _ _ => wp_in d_Md_treat_6 rfl rfl, fun _ _ _ _ _ _ _ _ _ _ => wp_getI d_Md_treat_7 fl_12_90 rfl, fun _ _ _ _ _ _ _ _ _ => wp_iconst d_Md_treat_10 (by decide), fun _ _ _ _ _ _ _ _ _ _ _ => wp_in d_Md_treat_11 rfl rfl, fun _ _ _ _ _ _ _ _ _ => wp_sipush d_Md_treat_12 (by decide), fun _ _ _ _ _ _ _ _ _ _ _ => wp_irem d_Md_treat_15, fun _ _ _ _ _ _ _ _ _ _ _ => wp_putI d_Md_treat_16 fl_12_90 rfl rfl, fun _ _ _ _ _ _ _ _ _ => wp_in d_Md_treat_19 rfl rfl, fun _ _ _ _ _ _ _ _ _ _ => wp_in d_Md_treat_20 rfl rfl, fun _ _ _ _ _ _ _ _ _ _ => wp_getI d_Md_treat_21 fl_12_93 rfl, fun _ _ _ _ _ _ _ _ _ => wp_iconst d_Md_treat_24 (by decide), fun _ _ _ _ _ _ _ _ _ _ _ => wp_in d_Md_treat_25 rfl rfl, fun _ _ _ _ _ _ _ _ _ _ _ => wp_putI d_Md_treat_26 fl_12_93 rfl rfl, fun _ _ _ _ _ _ _ _ _ => wp_in d_Md_treat_29 rfl rfl, fun _ _ _ _ _ _ _ _ _ _ => wp_in d_Md_treat_30 rfl rfl, fun _ _ _ _ _ _ _ _ _ _ => wp_getI d_Md_treat_31 fl_12_96 rfl, fun _ _ _ _ _ _ _ _ _ => wp_iconst d_Md_treat_34 (by decide), fun _ _ _ _ _ _ _ _ _ _ _ => wp_in d_Md_treat_35 rfl rfl, fun _ _ _ _ _ _ _ _ _ _ _ => wp_putI d_Md_treat_36 fl_12_96 rfl rfl, fun _ _ _ _ _ _ _ _ _ => wp_iconst d_Md_treat_39 (by decide), fun _ _ _ _ _ _ _ _ _ _ => wp_in d_Md_treat_40 rfl rfl⟩
theorem B_Md_treat_41 : (∀ (l0 l1 l3 l4 l5 : Value) (x : Int32) (st : List Value) (M : Mm) (Q : Option Value → Mm → Prop), wp F_Md_treat 41 [l0, l1, .int x, l3, l4, l5] st M Q = wp F_Md_treat 42 [l0, l1, .int x, l3, l4, l5] (.int x :: st) M Q) ∧
  (∀ (l1 l2 l3 l4 l5 : Value) (x : Nat) (st : List Value) (M : Mm) (Q : Option Value → Mm → Prop), wp F_Md_treat 42 [.ref x, l1, l2, l3, l4, l5] st M Q = wp F_Md_treat 43 [.ref x, l1, l2, l3, l4, l5] (.ref x :: st) M Q) ∧
  (∀ (l0 l1 l2 l3 l4 l5 : Value) (a : Nat) (st : List Value) (M : Mm) (Q : Option Value → Mm → Prop), wp F_Md_treat 43 [l0, l1, l2, l3, l4, l5] (.ref a :: st) M Q = (sh M a = some (.inl 12) ∧ wp F_Md_treat 46 [l0, l1, l2, l3, l4, l5] (va_rf (gR M a 23) :: st) M Q)) ∧
  (∀ (l0 l1 l2 l3 l4 l5 : Value) (st : List Value) (M : Mm) (Q : Option Value → Mm → Prop), wp F_Md_treat 46 [l0, l1, l2, l3, l4, l5] st M Q = wp F_Md_treat 47 [l0, l1, l2, l3, l4, l5] (.int 2 :: st) M Q) ∧
  (∀ (l0 l2 l3 l4 l5 : Value) (x : Int32) (st : List Value) (M : Mm) (Q : Option Value → Mm → Prop), wp F_Md_treat 47 [l0, .int x, l2, l3, l4, l5] st M Q = wp F_Md_treat 48 [l0, .int x, l2, l3, l4, l5] (.int x :: st) M Q) ∧
  (∀ (l0 l1 l2 l3 l4 l5 : Value) (x y : Int32) (st : List Value) (M : Mm) (Q : Option Value → Mm → Prop), wp F_Md_treat 48 [l0, l1, l2, l3, l4, l5] (.int y :: .int x :: st) M Q = wp F_Md_treat 49 [l0, l1, l2, l3, l4, l5] (.int (x * y) :: st) M Q) ∧
  (∀ (l0 l1 l2 l3 l4 l5 : Value) (a : Nat) (j : Int32) (st : List Value) (M : Mm) (Q : Option Value → Mm → Prop), wp F_Md_treat 49 [l0, l1, l2, l3, l4, l5] (.int j :: .ref a :: st) M Q = (ixI M a j ∧ wp F_Md_treat 50 [l0, l1, l2, l3, l4, l5] (.int (gI M a (cl j)) :: st) M Q)) ∧
  (∀ (l0 l1 l2 l3 l4 l5 : Value) (x y : Int32) (st : List Value) (M : Mm) (Q : Option Value → Mm → Prop), wp F_Md_treat 50 [l0, l1, l2, l3, l4, l5] (.int y :: .int x :: st) M Q = if y ≤ x then wp F_Md_treat 77 [l0, l1, l2, l3, l4, l5] st M Q else wp F_Md_treat 53 [l0, l1, l2, l3, l4, l5] st M Q) ∧
  (∀ (l1 l2 l3 l4 l5 : Value) (x : Nat) (st : List Value) (M : Mm) (Q : Option Value → Mm → Prop), wp F_Md_treat 53 [.ref x, l1, l2, l3, l4, l5] st M Q = wp F_Md_treat 54 [.ref x, l1, l2, l3, l4, l5] (.ref x :: st) M Q) ∧
  (∀ (l0 l1 l2 l3 l4 l5 : Value) (a : Nat) (st : List Value) (M : Mm) (Q : Option Value → Mm → Prop), wp F_Md_treat 54 [l0, l1, l2, l3, l4, l5] (.ref a :: st) M Q = (sh M a = some (.inl 12) ∧ wp F_Md_treat 57 [l0, l1, l2, l3, l4, l5] (va_rf (gR M a 29) :: st) M Q)) ∧
  (∀ (l0 l1 l3 l4 l5 : Value) (x : Int32) (st : List Value) (M : Mm) (Q : Option Value → Mm → Prop), wp F_Md_treat 57 [l0, l1, .int x, l3, l4, l5] st M Q = wp F_Md_treat 58 [l0, l1, .int x, l3, l4, l5] (.int x :: st) M Q) ∧
  (∀ (l1 l2 l3 l4 l5 : Value) (x : Nat) (st : List Value) (M : Mm) (Q : Option Value → Mm → Prop), wp F_Md_treat 58 [.ref x, l1, l2, l3, l4, l5] st M Q = wp F_Md_treat 59 [.ref x, l1, l2, l3, l4, l5] (.ref x :: st) M Q) ∧
  (∀ (l0 l1 l2 l3 l4 l5 : Value) (a : Nat) (st : List Value) (M : Mm) (Q : Option Value → Mm → Prop), wp F_Md_treat 59 [l0, l1, l2, l3, l4, l5] (.ref a :: st) M Q = (sh M a = some (.inl 12) ∧ wp F_Md_treat 62 [l0, l1, l2, l3, l4, l5] (va_rf (gR M a 22) :: st) M Q)) ∧
  (∀ (l0 l1 l2 l3 l4 l5 : Value) (st : List Value) (M : Mm) (Q : Option Value → Mm → Prop), wp F_Md_treat 62 [l0, l1, l2, l3, l4, l5] st M Q = wp F_Md_treat 65 [l0, l1, l2, l3, l4, l5] (.int 240 :: st) M Q) ∧
  (∀ (l0 l2 l3 l4 l5 : Value) (x : Int32) (st : List Value) (M : Mm) (Q : Option Value → Mm → Prop), wp F_Md_treat 65 [l0, .int x, l2, l3, l4, l5] st M Q = wp F_Md_treat 66 [l0, .int x, l2, l3, l4, l5] (.int x :: st) M Q) ∧
  (∀ (l0 l1 l2 l3 l4 l5 : Value) (x y : Int32) (st : List Value) (M : Mm) (Q : Option Value → Mm → Prop), wp F_Md_treat 66 [l0, l1, l2, l3, l4, l5] (.int y :: .int x :: st) M Q = wp F_Md_treat 67 [l0, l1, l2, l3, l4, l5] (.int (x * y) :: st) M Q) ∧
  (∀ (l0 l1 l3 l4 l5 : Value) (x : Int32) (st : List Value) (M : Mm) (Q : Option Value → Mm → Prop), wp F_Md_treat 67 [l0, l1, .int x, l3, l4, l5] st M Q = wp F_Md_treat 68 [l0, l1, .int x, l3, l4, l5] (.int x :: st) M Q) ∧
  (∀ (l0 l1 l2 l3 l4 l5 : Value) (x y : Int32) (st : List Value) (M : Mm) (Q : Option Value → Mm → Prop), wp F_Md_treat 68 [l0, l1, l2, l3, l4, l5] (.int y :: .int x :: st) M Q = wp F_Md_treat 69 [l0, l1, l2, l3, l4, l5] (.int (x + y) :: st) M Q) ∧
  (∀ (l0 l1 l2 l3 l4 l5 : Value) (a : Nat) (j : Int32) (st : List Value) (M : Mm) (Q : Option Value → Mm → Prop), wp F_Md_treat 69 [l0, l1, l2, l3, l4, l5] (.int j :: .ref a :: st) M Q = (ixI M a j ∧ wp F_Md_treat 70 [l0, l1, l2, l3, l4, l5] (.int (gI M a (cl j)) :: st) M Q)) ∧
  (∀ (l0 l1 l2 l3 l4 l5 : Value) (a : Nat) (j x : Int32) (st : List Value) (M : Mm) (Q : Option Value → Mm → Prop), wp F_Md_treat 70 [l0, l1, l2, l3, l4, l5] (.int x :: .int j :: .ref a :: st) M Q = (ixW M a j ∧ wp F_Md_treat 71 [l0, l1, l2, l3, l4, l5] st (sI M a (cl j) x) Q)) ∧
  (∀ (l0 l1 l3 l4 l5 : Value) (x : Int32) (st : List Value) (M : Mm) (Q : Option Value → Mm → Prop), wp F_Md_treat 71 [l0, l1, .int x, l3, l4, l5] st M Q = wp F_Md_treat 74 [l0, clr l1, .int (x + 1), l3, l4, l5] st M Q) := ⟨fun _ _ _ _ _ _ _ _ _ => wp_in d_Md_treat_41 rfl rfl, fun _ _ _ _ _ _ _ _ _ => wp_in d_Md_treat_42 rfl rfl, fun _ _ _ _ _ _ _ _ _ _ => wp_getA d_Md_treat_43 fl_12_118 rfl, fun _ _ _ _ _ _ _ _ _ => wp_iconst d_Md_treat_46 (by decide), fun _ _ _ _ _ _ _ _ _ => wp_in d_Md_treat_47 rfl rfl, fun _ _ _ _ _ _ _ _ _ _ _ => wp_in d_Md_treat_48 rfl rfl, fun _ _ _ _ _ _ _ _ _ _ _ => wp_iald d_Md_treat_49, fun _ _ _ _ _ _ _ _ _ _ _ => wp_icmp_ge d_Md_treat_50 rfl, fun _ _ _ _ _ _ _ _ _ => wp_in d_Md_treat_53 rfl rfl, fun _ _ _ _ _ _ _ _ _ _ => wp_getA d_Md_treat_54 fl_12_157 rfl, fun _ _ _ _ _ _ _ _ _ => wp_in d_Md_treat_57 rfl rfl, fun _ _ _ _ _ _ _ _ _ => wp_in d_Md_treat_58 rfl rfl, fun _ _ _ _ _ _ _ _ _ _ => wp_getA d_Md_treat_59 fl_12_121 rfl, fun _ _ _ _ _ _ _ _ _ => wp_sipush d_Md_treat_62 (by decide), fun _ _ _ _ _ _ _ _ _ => wp_in d_Md_treat_65 rfl rfl, fun _ _ _ _ _ _ _ _ _ _ _ => wp_in d_Md_treat_66 rfl rfl, fun _ _ _ _ _ _ _ _ _ => wp_in d_Md_treat_67 rfl rfl, fun _ _ _ _ _ _ _ _ _ _ _ => wp_in d_Md_treat_68 rfl rfl, fun _ _ _ _ _ _ _ _ _ _ _ => wp_iald d_Md_treat_69, fun _ _ _ _ _ _ _ _ _ _ _ _ => wp_iast d_Md_treat_70, fun _ _ _ _ _ _ _ _ _ => wp_iinc d_Md_treat_71 (by decide) rfl rfl⟩
theorem B_Md_treat_77 : (∀ (l1 l2 l3 l4 l5 : Value) (x : Nat) (st : List Value) (M : Mm) (Q : Option Value → Mm → Prop), wp F_Md_treat 77 [.ref x, l1, l2, l3, l4, l5] st M Q = wp F_Md_treat 78 [.ref x, l1, l2, l3, l4, l5] (.ref x :: st) M Q) ∧
  (∀ (l1 l2 l3 l4 l5 : Value) (x : Nat) (st : List Value) (M : Mm) (Q : Option Value → Mm → Prop), wp F_Md_treat 78 [.ref x, l1, l2, l3, l4, l5] st M Q = wp F_Md_treat 79 [.ref x, l1, l2, l3, l4, l5] (.ref x :: st) M Q) ∧
  (∀ (l0 l1 l2 l3 l4 l5 : Value) (a : Nat) (st : List Value) (M : Mm) (Q : Option Value → Mm → Prop), wp F_Md_treat 79 [l0, l1, l2, l3, l4, l5] (.ref a :: st) M Q = (sh M a = some (.inl 12) ∧ wp F_Md_treat 82 [l0, l1, l2, l3, l4, l5] (va_rf (gR M a 29) :: st) M Q)) ∧
  (∀ (l1 l2 l3 l4 l5 : Value) (x : Nat) (st : List Value) (M : Mm) (Q : Option Value → Mm → Prop), wp F_Md_treat 82 [.ref x, l1, l2, l3, l4, l5] st M Q = wp F_Md_treat 83 [.ref x, l1, l2, l3, l4, l5] (.ref x :: st) M Q) ∧
  (∀ (l0 l1 l2 l3 l4 l5 : Value) (a : Nat) (st : List Value) (M : Mm) (Q : Option Value → Mm → Prop), wp F_Md_treat 83 [l0, l1, l2, l3, l4, l5] (.ref a :: st) M Q = (sh M a = some (.inl 12) ∧ wp F_Md_treat 86 [l0, l1, l2, l3, l4, l5] (va_rf (gR M a 23) :: st) M Q)) ∧
  (∀ (l0 l1 l2 l3 l4 l5 : Value) (st : List Value) (M : Mm) (Q : Option Value → Mm → Prop), wp F_Md_treat 86 [l0, l1, l2, l3, l4, l5] st M Q = wp F_Md_treat 87 [l0, l1, l2, l3, l4, l5] (.int 2 :: st) M Q) ∧
  (∀ (l0 l2 l3 l4 l5 : Value) (x : Int32) (st : List Value) (M : Mm) (Q : Option Value → Mm → Prop), wp F_Md_treat 87 [l0, .int x, l2, l3, l4, l5] st M Q = wp F_Md_treat 88 [l0, .int x, l2, l3, l4, l5] (.int x :: st) M Q) ∧
  (∀ (l0 l1 l2 l3 l4 l5 : Value) (x y : Int32) (st : List Value) (M : Mm) (Q : Option Value → Mm → Prop), wp F_Md_treat 88 [l0, l1, l2, l3, l4, l5] (.int y :: .int x :: st) M Q = wp F_Md_treat 89 [l0, l1, l2, l3, l4, l5] (.int (x * y) :: st) M Q) ∧
  (∀ (l0 l1 l2 l3 l4 l5 : Value) (a : Nat) (j : Int32) (st : List Value) (M : Mm) (Q : Option Value → Mm → Prop), wp F_Md_treat 89 [l0, l1, l2, l3, l4, l5] (.int j :: .ref a :: st) M Q = (ixI M a j ∧ wp F_Md_treat 90 [l0, l1, l2, l3, l4, l5] (.int (gI M a (cl j)) :: st) M Q)) ∧
  (∀ (l0 l1 l2 l3 l4 l5 : Value) (b : Nat) (p0 : Nat) (p1 : Int32) (M : Mm) (Q : Option Value → Mm → Prop), wp F_Md_treat 90 [l0, l1, l2, l3, l4, l5] [.int p1, .ref p0, .ref b] M Q = (sh M b = some (.inl 12) ∧ wp F_Md_form 0 [.ref b, .ref p0, .int p1, jk] [] M (fun r M1 => wp F_Md_treat 93 [l0, l1, l2, l3, l4, l5] (r.toList ++ []) M1 Q))) ∧
  (∀ (l0 l1 l2 l3 l4 l5 : Value) (x : Int32) (st : List Value) (M : Mm) (Q : Option Value → Mm → Prop), wp F_Md_treat 93 [l0, l1, l2, l3, l4, l5] (.int x :: st) M Q = wp F_Md_treat 94 [l0, clr l1, .int x, l3, l4, l5] st M Q) ∧
  (∀ (l1 l2 l3 l4 l5 : Value) (x : Nat) (st : List Value) (M : Mm) (Q : Option Value → Mm → Prop), wp F_Md_treat 94 [.ref x, l1, l2, l3, l4, l5] st M Q = wp F_Md_treat 95 [.ref x, l1, l2, l3, l4, l5] (.ref x :: st) M Q) ∧
  (∀ (l0 l1 l2 l3 l4 l5 : Value) (a : Nat) (st : List Value) (M : Mm) (Q : Option Value → Mm → Prop), wp F_Md_treat 95 [l0, l1, l2, l3, l4, l5] (.ref a :: st) M Q = (sh M a = some (.inl 12) ∧ wp F_Md_treat 98 [l0, l1, l2, l3, l4, l5] (.int (gI M a 28) :: st) M Q)) ∧
  (∀ (l0 l1 l2 l3 l4 l5 : Value) (x : Int32) (st : List Value) (M : Mm) (Q : Option Value → Mm → Prop), wp F_Md_treat 98 [l0, l1, l2, l3, l4, l5] (.int x :: st) M Q = if x = 0 then wp F_Md_treat 102 [l0, l1, l2, l3, l4, l5] st M Q else wp F_Md_treat 101 [l0, l1, l2, l3, l4, l5] st M Q) ∧
  (∀ (l0 l1 l2 l3 l4 l5 : Value) (M : Mm) (Q : Option Value → Mm → Prop), wp F_Md_treat 101 [l0, l1, l2, l3, l4, l5] [] M Q = Q none M) := ⟨fun _ _ _ _ _ _ _ _ _ => wp_in d_Md_treat_77 rfl rfl, fun _ _ _ _ _ _ _ _ _ => wp_in d_Md_treat_78 rfl rfl, fun _ _ _ _ _ _ _ _ _ _ => wp_getA d_Md_treat_79 fl_12_157 rfl, fun _ _ _ _ _ _ _ _ _ => wp_in d_Md_treat_82 rfl rfl, fun _ _ _ _ _ _ _ _ _ _ => wp_getA d_Md_treat_83 fl_12_118 rfl, fun _ _ _ _ _ _ _ _ _ => wp_iconst d_Md_treat_86 (by decide), fun _ _ _ _ _ _ _ _ _ => wp_in d_Md_treat_87 rfl rfl, fun _ _ _ _ _ _ _ _ _ _ _ => wp_in d_Md_treat_88 rfl rfl, fun _ _ _ _ _ _ _ _ _ _ _ => wp_iald d_Md_treat_89, fun _ _ _ _ _ _ _ _ _ _ _ => wp_callV d_Md_treat_90 ml_12_224 rfl rfl rfl, fun _ _ _ _ _ _ _ _ _ _ => wp_in d_Md_treat_93 rfl rfl, fun _ _ _ _ _ _ _ _ _ => wp_in d_Md_treat_94 rfl rfl, fun _ _ _ _ _ _ _ _ _ _ => wp_getI d_Md_treat_95 fl_12_102 rfl, fun _ _ _ _ _ _ _ _ _ _ => wp_if_eq d_Md_treat_98 rfl, fun _ _ _ _ _ _ _ _ => wp_retV d_Md_treat_101 rfl⟩
theorem B_Md_treat_102 : (∀ (l0 l1 l2 l3 l4 l5 : Value) (st : List Value) (M : Mm) (Q : Option Value → Mm → Prop), wp F_Md_treat 102 [l0, l1, l2, l3, l4, l5] st M Q = wp F_Md_treat 103 [l0, l1, l2, l3, l4, l5] (.int 0 :: st) M Q) ∧
  (∀ (l0 l1 l2 l3 l4 l5 : Value) (x : Int32) (st : List Value) (M : Mm) (Q : Option Value → Mm → Prop), wp F_Md_treat 103 [l0, l1, l2, l3, l4, l5] (.int x :: st) M Q = wp F_Md_treat 104 [l0, l1, clr l2, .int x, l4, l5] st M Q) := ⟨fun _ _ _ _ _ _ _ _ _ => wp_iconst d_Md_treat_102 (by decide), fun _ _ _ _ _ _ _ _ _ _ => wp_in d_Md_treat_103 rfl rfl⟩
theorem B_Md_treat_104 : (∀ (l0 l1 l2 l4 l5 : Value) (x : Int32) (st : List Value) (M : Mm) (Q : Option Value → Mm → Prop), wp F_Md_treat 104 [l0, l1, l2, .int x, l4, l5] st M Q = wp F_Md_treat 105 [l0, l1, l2, .int x, l4, l5] (.int x :: st) M Q) ∧
  (∀ (l1 l2 l3 l4 l5 : Value) (x : Nat) (st : List Value) (M : Mm) (Q : Option Value → Mm → Prop), wp F_Md_treat 105 [.ref x, l1, l2, l3, l4, l5] st M Q = wp F_Md_treat 106 [.ref x, l1, l2, l3, l4, l5] (.ref x :: st) M Q) ∧
  (∀ (l0 l1 l2 l3 l4 l5 : Value) (a : Nat) (st : List Value) (M : Mm) (Q : Option Value → Mm → Prop), wp F_Md_treat 106 [l0, l1, l2, l3, l4, l5] (.ref a :: st) M Q = (sh M a = some (.inl 12) ∧ wp F_Md_treat 109 [l0, l1, l2, l3, l4, l5] (va_rf (gR M a 23) :: st) M Q)) ∧
  (∀ (l0 l1 l2 l3 l4 l5 : Value) (st : List Value) (M : Mm) (Q : Option Value → Mm → Prop), wp F_Md_treat 109 [l0, l1, l2, l3, l4, l5] st M Q = wp F_Md_treat 110 [l0, l1, l2, l3, l4, l5] (.int 2 :: st) M Q) ∧
  (∀ (l0 l2 l3 l4 l5 : Value) (x : Int32) (st : List Value) (M : Mm) (Q : Option Value → Mm → Prop), wp F_Md_treat 110 [l0, .int x, l2, l3, l4, l5] st M Q = wp F_Md_treat 111 [l0, .int x, l2, l3, l4, l5] (.int x :: st) M Q) ∧
  (∀ (l0 l1 l2 l3 l4 l5 : Value) (x y : Int32) (st : List Value) (M : Mm) (Q : Option Value → Mm → Prop), wp F_Md_treat 111 [l0, l1, l2, l3, l4, l5] (.int y :: .int x :: st) M Q = wp F_Md_treat 112 [l0, l1, l2, l3, l4, l5] (.int (x * y) :: st) M Q) ∧
  (∀ (l0 l1 l2 l3 l4 l5 : Value) (st : List Value) (M : Mm) (Q : Option Value → Mm → Prop), wp F_Md_treat 112 [l0, l1, l2, l3, l4, l5] st M Q = wp F_Md_treat 113 [l0, l1, l2, l3, l4, l5] (.int 1 :: st) M Q) ∧
  (∀ (l0 l1 l2 l3 l4 l5 : Value) (x y : Int32) (st : List Value) (M : Mm) (Q : Option Value → Mm → Prop), wp F_Md_treat 113 [l0, l1, l2, l3, l4, l5] (.int y :: .int x :: st) M Q = wp F_Md_treat 114 [l0, l1, l2, l3, l4, l5] (.int (x + y) :: st) M Q) ∧
  (∀ (l0 l1 l2 l3 l4 l5 : Value) (a : Nat) (j : Int32) (st : List Value) (M : Mm) (Q : Option Value → Mm → Prop), wp F_Md_treat 114 [l0, l1, l2, l3, l4, l5] (.int j :: .ref a :: st) M Q = (ixI M a j ∧ wp F_Md_treat 115 [l0, l1, l2, l3, l4, l5] (.int (gI M a (cl j)) :: st) M Q)) ∧
  (∀ (l0 l1 l2 l3 l4 l5 : Value) (x y : Int32) (st : List Value) (M : Mm) (Q : Option Value → Mm → Prop), wp F_Md_treat 115 [l0, l1, l2, l3, l4, l5] (.int y :: .int x :: st) M Q = if y ≤ x then wp F_Md_treat 145 [l0, l1, l2, l3, l4, l5] st M Q else wp F_Md_treat 118 [l0, l1, l2, l3, l4, l5] st M Q) ∧
  (∀ (l1 l2 l3 l4 l5 : Value) (x : Nat) (st : List Value) (M : Mm) (Q : Option Value → Mm → Prop), wp F_Md_treat 118 [.ref x, l1, l2, l3, l4, l5] st M Q = wp F_Md_treat 119 [.ref x, l1, l2, l3, l4, l5] (.ref x :: st) M Q) ∧
  (∀ (l0 l1 l2 l3 l4 l5 : Value) (a : Nat) (st : List Value) (M : Mm) (Q : Option Value → Mm → Prop), wp F_Md_treat 119 [l0, l1, l2, l3, l4, l5] (.ref a :: st) M Q = (sh M a = some (.inl 12) ∧ wp F_Md_treat 122 [l0, l1, l2, l3, l4, l5] (va_rf (gR M a 30) :: st) M Q)) ∧
  (∀ (l0 l1 l2 l4 l5 : Value) (x : Int32) (st : List Value) (M : Mm) (Q : Option Value → Mm → Prop), wp F_Md_treat 122 [l0, l1, l2, .int x, l4, l5] st M Q = wp F_Md_treat 123 [l0, l1, l2, .int x, l4, l5] (.int x :: st) M Q) ∧
  (∀ (l1 l2 l3 l4 l5 : Value) (x : Nat) (st : List Value) (M : Mm) (Q : Option Value → Mm → Prop), wp F_Md_treat 123 [.ref x, l1, l2, l3, l4, l5] st M Q = wp F_Md_treat 124 [.ref x, l1, l2, l3, l4, l5] (.ref x :: st) M Q) ∧
  (∀ (l0 l1 l2 l3 l4 l5 : Value) (a : Nat) (st : List Value) (M : Mm) (Q : Option Value → Mm → Prop), wp F_Md_treat 124 [l0, l1, l2, l3, l4, l5] (.ref a :: st) M Q = (sh M a = some (.inl 12) ∧ wp F_Md_treat 127 [l0, l1, l2, l3, l4, l5] (va_rf (gR M a 22) :: st) M Q)) ∧
  (∀ (l0 l1 l2 l3 l4 l5 : Value) (st : List Value) (M : Mm) (Q : Option Value → Mm → Prop), wp F_Md_treat 127 [l0, l1, l2, l3, l4, l5] st M Q = wp F_Md_treat 130 [l0, l1, l2, l3, l4, l5] (.int 240 :: st) M Q) ∧
  (∀ (l0 l2 l3 l4 l5 : Value) (x : Int32) (st : List Value) (M : Mm) (Q : Option Value → Mm → Prop), wp F_Md_treat 130 [l0, .int x, l2, l3, l4, l5] st M Q = wp F_Md_treat 131 [l0, .int x, l2, l3, l4, l5] (.int x :: st) M Q) ∧
  (∀ (l0 l1 l2 l3 l4 l5 : Value) (x y : Int32) (st : List Value) (M : Mm) (Q : Option Value → Mm → Prop), wp F_Md_treat 131 [l0, l1, l2, l3, l4, l5] (.int y :: .int x :: st) M Q = wp F_Md_treat 132 [l0, l1, l2, l3, l4, l5] (.int (x * y) :: st) M Q) ∧
  (∀ (l0 l1 l2 l3 l4 l5 : Value) (st : List Value) (M : Mm) (Q : Option Value → Mm → Prop), wp F_Md_treat 132 [l0, l1, l2, l3, l4, l5] st M Q = wp F_Md_treat 134 [l0, l1, l2, l3, l4, l5] (.int 120 :: st) M Q) ∧
  (∀ (l0 l1 l2 l3 l4 l5 : Value) (x y : Int32) (st : List Value) (M : Mm) (Q : Option Value → Mm → Prop), wp F_Md_treat 134 [l0, l1, l2, l3, l4, l5] (.int y :: .int x :: st) M Q = wp F_Md_treat 135 [l0, l1, l2, l3, l4, l5] (.int (x + y) :: st) M Q) ∧
  (∀ (l0 l1 l2 l4 l5 : Value) (x : Int32) (st : List Value) (M : Mm) (Q : Option Value → Mm → Prop), wp F_Md_treat 135 [l0, l1, l2, .int x, l4, l5] st M Q = wp F_Md_treat 136 [l0, l1, l2, .int x, l4, l5] (.int x :: st) M Q) ∧
  (∀ (l0 l1 l2 l3 l4 l5 : Value) (x y : Int32) (st : List Value) (M : Mm) (Q : Option Value → Mm → Prop), wp F_Md_treat 136 [l0, l1, l2, l3, l4, l5] (.int y :: .int x :: st) M Q = wp F_Md_treat 137 [l0, l1, l2, l3, l4, l5] (.int (x + y) :: st) M Q) ∧
  (∀ (l0 l1 l2 l3 l4 l5 : Value) (a : Nat) (j : Int32) (st : List Value) (M : Mm) (Q : Option Value → Mm → Prop), wp F_Md_treat 137 [l0, l1, l2, l3, l4, l5] (.int j :: .ref a :: st) M Q = (ixI M a j ∧ wp F_Md_treat 138 [l0, l1, l2, l3, l4, l5] (.int (gI M a (cl j)) :: st) M Q)) ∧
  (∀ (l0 l1 l2 l3 l4 l5 : Value) (a : Nat) (j x : Int32) (st : List Value) (M : Mm) (Q : Option Value → Mm → Prop), wp F_Md_treat 138 [l0, l1, l2, l3, l4, l5] (.int x :: .int j :: .ref a :: st) M Q = (ixW M a j ∧ wp F_Md_treat 139 [l0, l1, l2, l3, l4, l5] st (sI M a (cl j) x) Q)) ∧
  (∀ (l0 l1 l2 l4 l5 : Value) (x : Int32) (st : List Value) (M : Mm) (Q : Option Value → Mm → Prop), wp F_Md_treat 139 [l0, l1, l2, .int x, l4, l5] st M Q = wp F_Md_treat 142 [l0, l1, clr l2, .int (x + 1), l4, l5] st M Q) := ⟨fun _ _ _ _ _ _ _ _ _ => wp_in d_Md_treat_104 rfl rfl, fun _ _ _ _ _ _ _ _ _ => wp_in d_Md_treat_105 rfl rfl, fun _ _ _ _ _ _ _ _ _ _ => wp_getA d_Md_treat_106 fl_12_118 rfl, fun _ _ _ _ _ _ _ _ _ => wp_iconst d_Md_treat_109 (by decide), fun _ _ _ _ _ _ _ _ _ => wp_in d_Md_treat_110 rfl rfl, fun _ _ _ _ _ _ _ _ _ _ _ => wp_in d_Md_treat_111 rfl rfl, fun _ _ _ _ _ _ _ _ _ => wp_iconst d_Md_treat_112 (by decide), fun _ _ _ _ _ _ _ _ _ _ _ => wp_in d_Md_treat_113 rfl rfl, fun _ _ _ _ _ _ _ _ _ _ _ => wp_iald d_Md_treat_114, fun _ _ _ _ _ _ _ _ _ _ _ => wp_icmp_ge d_Md_treat_115 rfl, fun _ _ _ _ _ _ _ _ _ => wp_in d_Md_treat_118 rfl rfl, fun _ _ _ _ _ _ _ _ _ _ => wp_getA d_Md_treat_119 fl_12_160 rfl, fun _ _ _ _ _ _ _ _ _ => wp_in d_Md_treat_122 rfl rfl, fun _ _ _ _ _ _ _ _ _ => wp_in d_Md_treat_123 rfl rfl, fun _ _ _ _ _ _ _ _ _ _ => wp_getA d_Md_treat_124 fl_12_121 rfl, fun _ _ _ _ _ _ _ _ _ => wp_sipush d_Md_treat_127 (by decide), fun _ _ _ _ _ _ _ _ _ => wp_in d_Md_treat_130 rfl rfl, fun _ _ _ _ _ _ _ _ _ _ _ => wp_in d_Md_treat_131 rfl rfl, fun _ _ _ _ _ _ _ _ _ => wp_bipush d_Md_treat_132 (by decide), fun _ _ _ _ _ _ _ _ _ _ _ => wp_in d_Md_treat_134 rfl rfl, fun _ _ _ _ _ _ _ _ _ => wp_in d_Md_treat_135 rfl rfl, fun _ _ _ _ _ _ _ _ _ _ _ => wp_in d_Md_treat_136 rfl rfl, fun _ _ _ _ _ _ _ _ _ _ _ => wp_iald d_Md_treat_137, fun _ _ _ _ _ _ _ _ _ _ _ _ => wp_iast d_Md_treat_138, fun _ _ _ _ _ _ _ _ _ => wp_iinc d_Md_treat_139 (by decide) rfl rfl⟩
theorem B_Md_treat_145 : (∀ (l1 l2 l3 l4 l5 : Value) (x : Nat) (st : List Value) (M : Mm) (Q : Option Value → Mm → Prop), wp F_Md_treat 145 [.ref x, l1, l2, l3, l4, l5] st M Q = wp F_Md_treat 146 [.ref x, l1, l2, l3, l4, l5] (.ref x :: st) M Q) ∧
  (∀ (l1 l2 l3 l4 l5 : Value) (x : Nat) (st : List Value) (M : Mm) (Q : Option Value → Mm → Prop), wp F_Md_treat 146 [.ref x, l1, l2, l3, l4, l5] st M Q = wp F_Md_treat 147 [.ref x, l1, l2, l3, l4, l5] (.ref x :: st) M Q) ∧
  (∀ (l0 l1 l2 l3 l4 l5 : Value) (a : Nat) (st : List Value) (M : Mm) (Q : Option Value → Mm → Prop), wp F_Md_treat 147 [l0, l1, l2, l3, l4, l5] (.ref a :: st) M Q = (sh M a = some (.inl 12) ∧ wp F_Md_treat 150 [l0, l1, l2, l3, l4, l5] (va_rf (gR M a 30) :: st) M Q)) ∧
  (∀ (l1 l2 l3 l4 l5 : Value) (x : Nat) (st : List Value) (M : Mm) (Q : Option Value → Mm → Prop), wp F_Md_treat 150 [.ref x, l1, l2, l3, l4, l5] st M Q = wp F_Md_treat 151 [.ref x, l1, l2, l3, l4, l5] (.ref x :: st) M Q) ∧
  (∀ (l0 l1 l2 l3 l4 l5 : Value) (a : Nat) (st : List Value) (M : Mm) (Q : Option Value → Mm → Prop), wp F_Md_treat 151 [l0, l1, l2, l3, l4, l5] (.ref a :: st) M Q = (sh M a = some (.inl 12) ∧ wp F_Md_treat 154 [l0, l1, l2, l3, l4, l5] (va_rf (gR M a 23) :: st) M Q)) ∧
  (∀ (l0 l1 l2 l3 l4 l5 : Value) (st : List Value) (M : Mm) (Q : Option Value → Mm → Prop), wp F_Md_treat 154 [l0, l1, l2, l3, l4, l5] st M Q = wp F_Md_treat 155 [l0, l1, l2, l3, l4, l5] (.int 2 :: st) M Q) ∧
  (∀ (l0 l2 l3 l4 l5 : Value) (x : Int32) (st : List Value) (M : Mm) (Q : Option Value → Mm → Prop), wp F_Md_treat 155 [l0, .int x, l2, l3, l4, l5] st M Q = wp F_Md_treat 156 [l0, .int x, l2, l3, l4, l5] (.int x :: st) M Q) ∧
  (∀ (l0 l1 l2 l3 l4 l5 : Value) (x y : Int32) (st : List Value) (M : Mm) (Q : Option Value → Mm → Prop), wp F_Md_treat 156 [l0, l1, l2, l3, l4, l5] (.int y :: .int x :: st) M Q = wp F_Md_treat 157 [l0, l1, l2, l3, l4, l5] (.int (x * y) :: st) M Q) ∧
  (∀ (l0 l1 l2 l3 l4 l5 : Value) (st : List Value) (M : Mm) (Q : Option Value → Mm → Prop), wp F_Md_treat 157 [l0, l1, l2, l3, l4, l5] st M Q = wp F_Md_treat 158 [l0, l1, l2, l3, l4, l5] (.int 1 :: st) M Q) ∧
  (∀ (l0 l1 l2 l3 l4 l5 : Value) (x y : Int32) (st : List Value) (M : Mm) (Q : Option Value → Mm → Prop), wp F_Md_treat 158 [l0, l1, l2, l3, l4, l5] (.int y :: .int x :: st) M Q = wp F_Md_treat 159 [l0, l1, l2, l3, l4, l5] (.int (x + y) :: st) M Q) ∧
  (∀ (l0 l1 l2 l3 l4 l5 : Value) (a : Nat) (j : Int32) (st : List Value) (M : Mm) (Q : Option Value → Mm → Prop), wp F_Md_treat 159 [l0, l1, l2, l3, l4, l5] (.int j :: .ref a :: st) M Q = (ixI M a j ∧ wp F_Md_treat 160 [l0, l1, l2, l3, l4, l5] (.int (gI M a (cl j)) :: st) M Q)) ∧
  (∀ (l0 l1 l2 l3 l4 l5 : Value) (b : Nat) (p0 : Nat) (p1 : Int32) (M : Mm) (Q : Option Value → Mm → Prop), wp F_Md_treat 160 [l0, l1, l2, l3, l4, l5] [.int p1, .ref p0, .ref b] M Q = (sh M b = some (.inl 12) ∧ wp F_Md_form 0 [.ref b, .ref p0, .int p1, jk] [] M (fun r M1 => wp F_Md_treat 163 [l0, l1, l2, l3, l4, l5] (r.toList ++ []) M1 Q))) ∧
  (∀ (l0 l1 l2 l3 l4 l5 : Value) (x : Int32) (st : List Value) (M : Mm) (Q : Option Value → Mm → Prop), wp F_Md_treat 163 [l0, l1, l2, l3, l4, l5] (.int x :: st) M Q = wp F_Md_treat 164 [l0, l1, clr l2, .int x, l4, l5] st M Q) ∧
  (∀ (l1 l2 l3 l4 l5 : Value) (x : Nat) (st : List Value) (M : Mm) (Q : Option Value → Mm → Prop), wp F_Md_treat 164 [.ref x, l1, l2, l3, l4, l5] st M Q = wp F_Md_treat 165 [.ref x, l1, l2, l3, l4, l5] (.ref x :: st) M Q) ∧
  (∀ (l0 l1 l2 l3 l4 l5 : Value) (a : Nat) (st : List Value) (M : Mm) (Q : Option Value → Mm → Prop), wp F_Md_treat 165 [l0, l1, l2, l3, l4, l5] (.ref a :: st) M Q = (sh M a = some (.inl 12) ∧ wp F_Md_treat 168 [l0, l1, l2, l3, l4, l5] (.int (gI M a 28) :: st) M Q)) ∧
  (∀ (l0 l1 l2 l3 l4 l5 : Value) (x : Int32) (st : List Value) (M : Mm) (Q : Option Value → Mm → Prop), wp F_Md_treat 168 [l0, l1, l2, l3, l4, l5] (.int x :: st) M Q = if x = 0 then wp F_Md_treat 171 [l0, l1, l2, l3, l4, l5] st M Q else wp F_Md_treat 198 [l0, l1, l2, l3, l4, l5] st M Q) ∧
  (∀ (l1 l2 l3 l4 l5 : Value) (x : Nat) (st : List Value) (M : Mm) (Q : Option Value → Mm → Prop), wp F_Md_treat 171 [.ref x, l1, l2, l3, l4, l5] st M Q = wp F_Md_treat 172 [.ref x, l1, l2, l3, l4, l5] (.ref x :: st) M Q) ∧
  (∀ (l0 l1 l2 l3 l4 l5 : Value) (a : Nat) (st : List Value) (M : Mm) (Q : Option Value → Mm → Prop), wp F_Md_treat 172 [l0, l1, l2, l3, l4, l5] (.ref a :: st) M Q = (sh M a = some (.inl 12) ∧ wp F_Md_treat 175 [l0, l1, l2, l3, l4, l5] (va_rf (gR M a 29) :: st) M Q)) ∧
  (∀ (l0 l1 l2 l3 l4 l5 : Value) (st : List Value) (M : Mm) (Q : Option Value → Mm → Prop), wp F_Md_treat 175 [l0, l1, l2, l3, l4, l5] st M Q = wp F_Md_treat 176 [l0, l1, l2, l3, l4, l5] (.int 0 :: st) M Q) ∧
  (∀ (l0 l1 l3 l4 l5 : Value) (x : Int32) (st : List Value) (M : Mm) (Q : Option Value → Mm → Prop), wp F_Md_treat 176 [l0, l1, .int x, l3, l4, l5] st M Q = wp F_Md_treat 177 [l0, l1, .int x, l3, l4, l5] (.int x :: st) M Q) ∧
  (∀ (l1 l2 l3 l4 l5 : Value) (x : Nat) (st : List Value) (M : Mm) (Q : Option Value → Mm → Prop), wp F_Md_treat 177 [.ref x, l1, l2, l3, l4, l5] st M Q = wp F_Md_treat 178 [.ref x, l1, l2, l3, l4, l5] (.ref x :: st) M Q) ∧
  (∀ (l0 l1 l2 l3 l4 l5 : Value) (a : Nat) (st : List Value) (M : Mm) (Q : Option Value → Mm → Prop), wp F_Md_treat 178 [l0, l1, l2, l3, l4, l5] (.ref a :: st) M Q = (sh M a = some (.inl 12) ∧ wp F_Md_treat 181 [l0, l1, l2, l3, l4, l5] (va_rf (gR M a 30) :: st) M Q)) ∧
  (∀ (l0 l1 l2 l3 l4 l5 : Value) (st : List Value) (M : Mm) (Q : Option Value → Mm → Prop), wp F_Md_treat 181 [l0, l1, l2, l3, l4, l5] st M Q = wp F_Md_treat 182 [l0, l1, l2, l3, l4, l5] (.int 0 :: st) M Q) ∧
  (∀ (l0 l1 l2 l4 l5 : Value) (x : Int32) (st : List Value) (M : Mm) (Q : Option Value → Mm → Prop), wp F_Md_treat 182 [l0, l1, l2, .int x, l4, l5] st M Q = wp F_Md_treat 183 [l0, l1, l2, .int x, l4, l5] (.int x :: st) M Q) ∧
  (∀ (l0 l1 l2 l3 l4 l5 : Value) (p0 : Nat) (p1 : Int32) (p2 : Int32) (p3 : Nat) (p4 : Int32) (p5 : Int32) (M : Mm) (Q : Option Value → Mm → Prop), wp F_Md_treat 183 [l0, l1, l2, l3, l4, l5] [.int p5, .int p4, .ref p3, .int p2, .int p1, .ref p0] M Q = wp F_Md_greater 0 [.ref p0, .int p1, .int p2, .ref p3, .int p4, .int p5, jk] [] M (fun r M1 => wp F_Md_treat 186 [l0, l1, l2, l3, l4, l5] (r.toList ++ []) M1 Q)) ∧
  (∀ (l0 l1 l2 l3 l4 l5 : Value) (x : Int32) (st : List Value) (M : Mm) (Q : Option Value → Mm → Prop), wp F_Md_treat 186 [l0, l1, l2, l3, l4, l5] (.int x :: st) M Q = if x = 0 then wp F_Md_treat 198 [l0, l1, l2, l3, l4, l5] st M Q else wp F_Md_treat 189 [l0, l1, l2, l3, l4, l5] st M Q) ∧
  (∀ (l1 l2 l3 l4 l5 : Value) (x : Nat) (st : List Value) (M : Mm) (Q : Option Value → Mm → Prop), wp F_Md_treat 189 [.ref x, l1, l2, l3, l4, l5] st M Q = wp F_Md_treat 190 [.ref x, l1, l2, l3, l4, l5] (.ref x :: st) M Q) ∧
  (∀ (l0 l1 l3 l4 l5 : Value) (x : Int32) (st : List Value) (M : Mm) (Q : Option Value → Mm → Prop), wp F_Md_treat 190 [l0, l1, .int x, l3, l4, l5] st M Q = wp F_Md_treat 191 [l0, l1, .int x, l3, l4, l5] (.int x :: st) M Q) ∧
  (∀ (l0 l1 l2 l4 l5 : Value) (x : Int32) (st : List Value) (M : Mm) (Q : Option Value → Mm → Prop), wp F_Md_treat 191 [l0, l1, l2, .int x, l4, l5] st M Q = wp F_Md_treat 192 [l0, l1, l2, .int x, l4, l5] (.int x :: st) M Q) ∧
  (∀ (l0 l1 l2 l3 l4 l5 : Value) (b : Nat) (p0 : Int32) (p1 : Int32) (M : Mm) (Q : Option Value → Mm → Prop), wp F_Md_treat 192 [l0, l1, l2, l3, l4, l5] [.int p1, .int p0, .ref b] M Q = (sh M b = some (.inl 12) ∧ wp F_Md_isMade 0 [.ref b, .int p0, .int p1, jk, jk, jk, jk] [] M (fun r M1 => wp F_Md_treat 195 [l0, l1, l2, l3, l4, l5] (r.toList ++ []) M1 Q))) ∧
  (∀ (l0 l1 l2 l3 l4 l5 : Value) (x : Int32) (st : List Value) (M : Mm) (Q : Option Value → Mm → Prop), wp F_Md_treat 195 [l0, l1, l2, l3, l4, l5] (.int x :: st) M Q = if x = 0 then wp F_Md_treat 198 [l0, l1, l2, l3, l4, l5] st M Q else wp F_Md_treat 199 [l0, l1, l2, l3, l4, l5] st M Q) := ⟨fun _ _ _ _ _ _ _ _ _ => wp_in d_Md_treat_145 rfl rfl, fun _ _ _ _ _ _ _ _ _ => wp_in d_Md_treat_146 rfl rfl, fun _ _ _ _ _ _ _ _ _ _ => wp_getA d_Md_treat_147 fl_12_160 rfl, fun _ _ _ _ _ _ _ _ _ => wp_in d_Md_treat_150 rfl rfl, fun _ _ _ _ _ _ _ _ _ _ => wp_getA d_Md_treat_151 fl_12_118 rfl, fun _ _ _ _ _ _ _ _ _ => wp_iconst d_Md_treat_154 (by decide), fun _ _ _ _ _ _ _ _ _ => wp_in d_Md_treat_155 rfl rfl, fun _ _ _ _ _ _ _ _ _ _ _ => wp_in d_Md_treat_156 rfl rfl, fun _ _ _ _ _ _ _ _ _ => wp_iconst d_Md_treat_157 (by decide), fun _ _ _ _ _ _ _ _ _ _ _ => wp_in d_Md_treat_158 rfl rfl, fun _ _ _ _ _ _ _ _ _ _ _ => wp_iald d_Md_treat_159, fun _ _ _ _ _ _ _ _ _ _ _ => wp_callV d_Md_treat_160 ml_12_224 rfl rfl rfl, fun _ _ _ _ _ _ _ _ _ _ => wp_in d_Md_treat_163 rfl rfl, fun _ _ _ _ _ _ _ _ _ => wp_in d_Md_treat_164 rfl rfl, fun _ _ _ _ _ _ _ _ _ _ => wp_getI d_Md_treat_165 fl_12_102 rfl, fun _ _ _ _ _ _ _ _ _ _ => wp_if_ne d_Md_treat_168 rfl, fun _ _ _ _ _ _ _ _ _ => wp_in d_Md_treat_171 rfl rfl, fun _ _ _ _ _ _ _ _ _ _ => wp_getA d_Md_treat_172 fl_12_157 rfl, fun _ _ _ _ _ _ _ _ _ => wp_iconst d_Md_treat_175 (by decide), fun _ _ _ _ _ _ _ _ _ => wp_in d_Md_treat_176 rfl rfl, fun _ _ _ _ _ _ _ _ _ => wp_in d_Md_treat_177 rfl rfl, fun _ _ _ _ _ _ _ _ _ _ => wp_getA d_Md_treat_178 fl_12_160 rfl, fun _ _ _ _ _ _ _ _ _ => wp_iconst d_Md_treat_181 (by decide), fun _ _ _ _ _ _ _ _ _ => wp_in d_Md_treat_182 rfl rfl, fun _ _ _ _ _ _ _ _ _ _ _ _ _ _ => wp_callS d_Md_treat_183 ml_12_237 (Nat.le_of_ble_eq_true rfl) rfl rfl rfl, fun _ _ _ _ _ _ _ _ _ _ => wp_if_eq d_Md_treat_186 rfl, fun _ _ _ _ _ _ _ _ _ => wp_in d_Md_treat_189 rfl rfl, fun _ _ _ _ _ _ _ _ _ => wp_in d_Md_treat_190 rfl rfl, fun _ _ _ _ _ _ _ _ _ => wp_in d_Md_treat_191 rfl rfl, fun _ _ _ _ _ _ _ _ _ _ _ => wp_callV d_Md_treat_192 ml_12_241 rfl rfl rfl, fun _ _ _ _ _ _ _ _ _ _ => wp_if_ne d_Md_treat_195 rfl⟩
theorem B_Md_treat_198 : (∀ (l0 l1 l2 l3 l4 l5 : Value) (M : Mm) (Q : Option Value → Mm → Prop), wp F_Md_treat 198 [l0, l1, l2, l3, l4, l5] [] M Q = Q none M) := fun _ _ _ _ _ _ _ _ => wp_retV d_Md_treat_198 rfl
theorem B_Md_treat_199 : (∀ (l1 l2 l3 l4 l5 : Value) (x : Nat) (st : List Value) (M : Mm) (Q : Option Value → Mm → Prop), wp F_Md_treat 199 [.ref x, l1, l2, l3, l4, l5] st M Q = wp F_Md_treat 200 [.ref x, l1, l2, l3, l4, l5] (.ref x :: st) M Q) ∧
  (∀ (l0 l1 l2 l3 l4 l5 : Value) (a : Nat) (st : List Value) (M : Mm) (Q : Option Value → Mm → Prop), wp F_Md_treat 200 [l0, l1, l2, l3, l4, l5] (.ref a :: st) M Q = (sh M a = some (.inl 12) ∧ wp F_Md_treat 203 [l0, l1, l2, l3, l4, l5] (.int (gI M a 21) :: st) M Q)) ∧
  (∀ (l0 l1 l2 l3 l4 l5 : Value) (st : List Value) (M : Mm) (Q : Option Value → Mm → Prop), wp F_Md_treat 203 [l0, l1, l2, l3, l4, l5] st M Q = wp F_Md_treat 204 [l0, l1, l2, l3, l4, l5] (.int 1 :: st) M Q) ∧
  (∀ (l0 l1 l2 l3 l4 l5 : Value) (x y : Int32) (st : List Value) (M : Mm) (Q : Option Value → Mm → Prop), wp F_Md_treat 204 [l0, l1, l2, l3, l4, l5] (.int y :: .int x :: st) M Q = wp F_Md_treat 205 [l0, l1, l2, l3, l4, l5] (.int (x - y) :: st) M Q) ∧
  (∀ (l0 l1 l2 l3 l4 l5 : Value) (x : Int32) (st : List Value) (M : Mm) (Q : Option Value → Mm → Prop), wp F_Md_treat 205 [l0, l1, l2, l3, l4, l5] (.int x :: st) M Q = wp F_Md_treat 207 [l0, l1, l2, clr l3, .int x, l5] st M Q) ∧
  (∀ (l1 l2 l3 l4 l5 : Value) (x : Nat) (st : List Value) (M : Mm) (Q : Option Value → Mm → Prop), wp F_Md_treat 207 [.ref x, l1, l2, l3, l4, l5] st M Q = wp F_Md_treat 208 [.ref x, l1, l2, l3, l4, l5] (.ref x :: st) M Q) ∧
  (∀ (l0 l1 l2 l3 l5 : Value) (x : Int32) (st : List Value) (M : Mm) (Q : Option Value → Mm → Prop), wp F_Md_treat 208 [l0, l1, l2, l3, .int x, l5] st M Q = wp F_Md_treat 210 [l0, l1, l2, l3, .int x, l5] (.int x :: st) M Q) ∧
  (∀ (l0 l1 l2 l3 l4 l5 : Value) (b : Nat) (p0 : Int32) (M : Mm) (Q : Option Value → Mm → Prop), wp F_Md_treat 210 [l0, l1, l2, l3, l4, l5] [.int p0, .ref b] M Q = (sh M b = some (.inl 12) ∧ wp F_Md_dropOlder 0 [.ref b, .int p0, jk, jk] [] M (fun r M1 => wp F_Md_treat 213 [l0, l1, l2, l3, l4, l5] (r.toList ++ []) M1 Q))) ∧
  (∀ (l1 l2 l3 l4 l5 : Value) (x : Nat) (st : List Value) (M : Mm) (Q : Option Value → Mm → Prop), wp F_Md_treat 213 [.ref x, l1, l2, l3, l4, l5] st M Q = wp F_Md_treat 214 [.ref x, l1, l2, l3, l4, l5] (.ref x :: st) M Q) ∧
  (∀ (l0 l1 l2 l3 l4 l5 : Value) (a : Nat) (st : List Value) (M : Mm) (Q : Option Value → Mm → Prop), wp F_Md_treat 214 [l0, l1, l2, l3, l4, l5] (.ref a :: st) M Q = (sh M a = some (.inl 12) ∧ wp F_Md_treat 217 [l0, l1, l2, l3, l4, l5] (.int (gI M a 28) :: st) M Q)) ∧
  (∀ (l0 l1 l2 l3 l4 l5 : Value) (x : Int32) (st : List Value) (M : Mm) (Q : Option Value → Mm → Prop), wp F_Md_treat 217 [l0, l1, l2, l3, l4, l5] (.int x :: st) M Q = if x = 0 then wp F_Md_treat 220 [l0, l1, l2, l3, l4, l5] st M Q else wp F_Md_treat 226 [l0, l1, l2, l3, l4, l5] st M Q) ∧
  (∀ (l1 l2 l3 l4 l5 : Value) (x : Nat) (st : List Value) (M : Mm) (Q : Option Value → Mm → Prop), wp F_Md_treat 220 [.ref x, l1, l2, l3, l4, l5] st M Q = wp F_Md_treat 221 [.ref x, l1, l2, l3, l4, l5] (.ref x :: st) M Q) ∧
  (∀ (l0 l1 l2 l3 l5 : Value) (x : Int32) (st : List Value) (M : Mm) (Q : Option Value → Mm → Prop), wp F_Md_treat 221 [l0, l1, l2, l3, .int x, l5] st M Q = wp F_Md_treat 223 [l0, l1, l2, l3, .int x, l5] (.int x :: st) M Q) ∧
  (∀ (l0 l1 l2 l3 l4 l5 : Value) (b : Nat) (p0 : Int32) (M : Mm) (Q : Option Value → Mm → Prop), wp F_Md_treat 223 [l0, l1, l2, l3, l4, l5] [.int p0, .ref b] M Q = (sh M b = some (.inl 12) ∧ wp F_Md_shortenOlder 0 [.ref b, .int p0, jk, jk, jk] [] M (fun r M1 => wp F_Md_treat 226 [l0, l1, l2, l3, l4, l5] (r.toList ++ []) M1 Q))) := ⟨fun _ _ _ _ _ _ _ _ _ => wp_in d_Md_treat_199 rfl rfl, fun _ _ _ _ _ _ _ _ _ _ => wp_getI d_Md_treat_200 fl_12_87 rfl, fun _ _ _ _ _ _ _ _ _ => wp_iconst d_Md_treat_203 (by decide), fun _ _ _ _ _ _ _ _ _ _ _ => wp_in d_Md_treat_204 rfl rfl, fun _ _ _ _ _ _ _ _ _ _ => wp_in d_Md_treat_205 rfl rfl, fun _ _ _ _ _ _ _ _ _ => wp_in d_Md_treat_207 rfl rfl, fun _ _ _ _ _ _ _ _ _ => wp_in d_Md_treat_208 rfl rfl, fun _ _ _ _ _ _ _ _ _ _ => wp_callV d_Md_treat_210 ml_12_244 rfl rfl rfl, fun _ _ _ _ _ _ _ _ _ => wp_in d_Md_treat_213 rfl rfl, fun _ _ _ _ _ _ _ _ _ _ => wp_getI d_Md_treat_214 fl_12_102 rfl, fun _ _ _ _ _ _ _ _ _ _ => wp_if_ne d_Md_treat_217 rfl, fun _ _ _ _ _ _ _ _ _ => wp_in d_Md_treat_220 rfl rfl, fun _ _ _ _ _ _ _ _ _ => wp_in d_Md_treat_221 rfl rfl, fun _ _ _ _ _ _ _ _ _ _ => wp_callV d_Md_treat_223 ml_12_247 rfl rfl rfl⟩
theorem B_Md_treat_226 : (∀ (l0 l1 l2 l3 l4 l5 : Value) (st : List Value) (M : Mm) (Q : Option Value → Mm → Prop), wp F_Md_treat 226 [l0, l1, l2, l3, l4, l5] st M Q = wp F_Md_treat 227 [l0, l1, l2, l3, l4, l5] (.int 0 :: st) M Q) ∧
  (∀ (l0 l1 l2 l3 l4 l5 : Value) (x : Int32) (st : List Value) (M : Mm) (Q : Option Value → Mm → Prop), wp F_Md_treat 227 [l0, l1, l2, l3, l4, l5] (.int x :: st) M Q = wp F_Md_treat 229 [l0, l1, l2, l3, clr l4, .int x] st M Q) := ⟨fun _ _ _ _ _ _ _ _ _ => wp_iconst d_Md_treat_226 (by decide), fun _ _ _ _ _ _ _ _ _ _ => wp_in d_Md_treat_227 rfl rfl⟩
theorem B_Md_treat_229 : (∀ (l0 l1 l2 l3 l4 : Value) (x : Int32) (st : List Value) (M : Mm) (Q : Option Value → Mm → Prop), wp F_Md_treat 229 [l0, l1, l2, l3, l4, .int x] st M Q = wp F_Md_treat 231 [l0, l1, l2, l3, l4, .int x] (.int x :: st) M Q) ∧
  (∀ (l0 l1 l2 l3 l5 : Value) (x : Int32) (st : List Value) (M : Mm) (Q : Option Value → Mm → Prop), wp F_Md_treat 231 [l0, l1, l2, l3, .int x, l5] st M Q = wp F_Md_treat 233 [l0, l1, l2, l3, .int x, l5] (.int x :: st) M Q) ∧
  (∀ (l0 l1 l2 l3 l4 l5 : Value) (x y : Int32) (st : List Value) (M : Mm) (Q : Option Value → Mm → Prop), wp F_Md_treat 233 [l0, l1, l2, l3, l4, l5] (.int y :: .int x :: st) M Q = if y < x then wp F_Md_treat 289 [l0, l1, l2, l3, l4, l5] st M Q else wp F_Md_treat 236 [l0, l1, l2, l3, l4, l5] st M Q) ∧
  (∀ (l1 l2 l3 l4 l5 : Value) (x : Nat) (st : List Value) (M : Mm) (Q : Option Value → Mm → Prop), wp F_Md_treat 236 [.ref x, l1, l2, l3, l4, l5] st M Q = wp F_Md_treat 237 [.ref x, l1, l2, l3, l4, l5] (.ref x :: st) M Q) ∧
  (∀ (l0 l1 l2 l3 l4 l5 : Value) (a : Nat) (st : List Value) (M : Mm) (Q : Option Value → Mm → Prop), wp F_Md_treat 237 [l0, l1, l2, l3, l4, l5] (.ref a :: st) M Q = (sh M a = some (.inl 12) ∧ wp F_Md_treat 240 [l0, l1, l2, l3, l4, l5] (.int (gI M a 28) :: st) M Q)) ∧
  (∀ (l0 l1 l2 l3 l4 l5 : Value) (x : Int32) (st : List Value) (M : Mm) (Q : Option Value → Mm → Prop), wp F_Md_treat 240 [l0, l1, l2, l3, l4, l5] (.int x :: st) M Q = if x = 0 then wp F_Md_treat 243 [l0, l1, l2, l3, l4, l5] st M Q else wp F_Md_treat 289 [l0, l1, l2, l3, l4, l5] st M Q) ∧
  (∀ (l1 l2 l3 l4 l5 : Value) (x : Nat) (st : List Value) (M : Mm) (Q : Option Value → Mm → Prop), wp F_Md_treat 243 [.ref x, l1, l2, l3, l4, l5] st M Q = wp F_Md_treat 244 [.ref x, l1, l2, l3, l4, l5] (.ref x :: st) M Q) ∧
  (∀ (l0 l1 l2 l3 l4 l5 : Value) (a : Nat) (st : List Value) (M : Mm) (Q : Option Value → Mm → Prop), wp F_Md_treat 244 [l0, l1, l2, l3, l4, l5] (.ref a :: st) M Q = (sh M a = some (.inl 12) ∧ wp F_Md_treat 247 [l0, l1, l2, l3, l4, l5] (va_rf (gR M a 20) :: st) M Q)) ∧
  (∀ (l0 l1 l2 l3 l4 : Value) (x : Int32) (st : List Value) (M : Mm) (Q : Option Value → Mm → Prop), wp F_Md_treat 247 [l0, l1, l2, l3, l4, .int x] st M Q = wp F_Md_treat 249 [l0, l1, l2, l3, l4, .int x] (.int x :: st) M Q) ∧
  (∀ (l0 l1 l2 l3 l4 l5 : Value) (a : Nat) (j : Int32) (st : List Value) (M : Mm) (Q : Option Value → Mm → Prop), wp F_Md_treat 249 [l0, l1, l2, l3, l4, l5] (.int j :: .ref a :: st) M Q = (ixB M a j ∧ wp F_Md_treat 250 [l0, l1, l2, l3, l4, l5] (.int (gI M a (cl j)) :: st) M Q)) ∧
  (∀ (l0 l1 l2 l3 l4 l5 : Value) (x : Int32) (st : List Value) (M : Mm) (Q : Option Value → Mm → Prop), wp F_Md_treat 250 [l0, l1, l2, l3, l4, l5] (.int x :: st) M Q = if x = 0 then wp F_Md_treat 283 [l0, l1, l2, l3, l4, l5] st M Q else wp F_Md_treat 253 [l0, l1, l2, l3, l4, l5] st M Q) ∧
  (∀ (l1 l2 l3 l4 l5 : Value) (x : Nat) (st : List Value) (M : Mm) (Q : Option Value → Mm → Prop), wp F_Md_treat 253 [.ref x, l1, l2, l3, l4, l5] st M Q = wp F_Md_treat 254 [.ref x, l1, l2, l3, l4, l5] (.ref x :: st) M Q) ∧
  (∀ (l0 l1 l2 l3 l5 : Value) (x : Int32) (st : List Value) (M : Mm) (Q : Option Value → Mm → Prop), wp F_Md_treat 254 [l0, l1, l2, l3, .int x, l5] st M Q = wp F_Md_treat 256 [l0, l1, l2, l3, .int x, l5] (.int x :: st) M Q) ∧
  (∀ (l0 l1 l2 l3 l4 : Value) (x : Int32) (st : List Value) (M : Mm) (Q : Option Value → Mm → Prop), wp F_Md_treat 256 [l0, l1, l2, l3, l4, .int x] st M Q = wp F_Md_treat 258 [l0, l1, l2, l3, l4, .int x] (.int x :: st) M Q) ∧
  (∀ (l0 l1 l2 l3 l4 l5 : Value) (b : Nat) (p0 : Int32) (p1 : Int32) (M : Mm) (Q : Option Value → Mm → Prop), wp F_Md_treat 258 [l0, l1, l2, l3, l4, l5] [.int p1, .int p0, .ref b] M Q = (sh M b = some (.inl 12) ∧ wp F_Md_overlapAll 0 [.ref b, .int p0, .int p1, jk, jk] [] M (fun r M1 => wp F_Md_treat 261 [l0, l1, l2, l3, l4, l5] (r.toList ++ []) M1 Q))) ∧
  (∀ (l0 l1 l2 l3 l4 : Value) (x : Int32) (st : List Value) (M : Mm) (Q : Option Value → Mm → Prop), wp F_Md_treat 261 [l0, l1, l2, l3, l4, .int x] st M Q = wp F_Md_treat 263 [l0, l1, l2, l3, l4, .int x] (.int x :: st) M Q) ∧
  (∀ (l0 l1 l2 l3 l5 : Value) (x : Int32) (st : List Value) (M : Mm) (Q : Option Value → Mm → Prop), wp F_Md_treat 263 [l0, l1, l2, l3, .int x, l5] st M Q = wp F_Md_treat 265 [l0, l1, l2, l3, .int x, l5] (.int x :: st) M Q) ∧
  (∀ (l0 l1 l2 l3 l4 l5 : Value) (x y : Int32) (st : List Value) (M : Mm) (Q : Option Value → Mm → Prop), wp F_Md_treat 265 [l0, l1, l2, l3, l4, l5] (.int y :: .int x :: st) M Q = if y ≤ x then wp F_Md_treat 283 [l0, l1, l2, l3, l4, l5] st M Q else wp F_Md_treat 268 [l0, l1, l2, l3, l4, l5] st M Q) ∧
  (∀ (l1 l2 l3 l4 l5 : Value) (x : Nat) (st : List Value) (M : Mm) (Q : Option Value → Mm → Prop), wp F_Md_treat 268 [.ref x, l1, l2, l3, l4, l5] st M Q = wp F_Md_treat 269 [.ref x, l1, l2, l3, l4, l5] (.ref x :: st) M Q) ∧
  (∀ (l0 l1 l2 l3 l4 l5 : Value) (a : Nat) (st : List Value) (M : Mm) (Q : Option Value → Mm → Prop), wp F_Md_treat 269 [l0, l1, l2, l3, l4, l5] (.ref a :: st) M Q = (sh M a = some (.inl 12) ∧ wp F_Md_treat 272 [l0, l1, l2, l3, l4, l5] (.int (gI M a 28) :: st) M Q)) ∧
  (∀ (l0 l1 l2 l3 l4 l5 : Value) (x : Int32) (st : List Value) (M : Mm) (Q : Option Value → Mm → Prop), wp F_Md_treat 272 [l0, l1, l2, l3, l4, l5] (.int x :: st) M Q = if x = 0 then wp F_Md_treat 275 [l0, l1, l2, l3, l4, l5] st M Q else wp F_Md_treat 283 [l0, l1, l2, l3, l4, l5] st M Q) ∧
  (∀ (l1 l2 l3 l4 l5 : Value) (x : Nat) (st : List Value) (M : Mm) (Q : Option Value → Mm → Prop), wp F_Md_treat 275 [.ref x, l1, l2, l3, l4, l5] st M Q = wp F_Md_treat 276 [.ref x, l1, l2, l3, l4, l5] (.ref x :: st) M Q) ∧
  (∀ (l0 l1 l2 l3 l4 : Value) (x : Int32) (st : List Value) (M : Mm) (Q : Option Value → Mm → Prop), wp F_Md_treat 276 [l0, l1, l2, l3, l4, .int x] st M Q = wp F_Md_treat 278 [l0, l1, l2, l3, l4, .int x] (.int x :: st) M Q) ∧
  (∀ (l0 l1 l2 l3 l5 : Value) (x : Int32) (st : List Value) (M : Mm) (Q : Option Value → Mm → Prop), wp F_Md_treat 278 [l0, l1, l2, l3, .int x, l5] st M Q = wp F_Md_treat 280 [l0, l1, l2, l3, .int x, l5] (.int x :: st) M Q) ∧
  (∀ (l0 l1 l2 l3 l4 l5 : Value) (b : Nat) (p0 : Int32) (p1 : Int32) (M : Mm) (Q : Option Value → Mm → Prop), wp F_Md_treat 280 [l0, l1, l2, l3, l4, l5] [.int p1, .int p0, .ref b] M Q = (sh M b = some (.inl 12) ∧ wp F_Md_overlapAll 0 [.ref b, .int p0, .int p1, jk, jk] [] M (fun r M1 => wp F_Md_treat 283 [l0, l1, l2, l3, l4, l5] (r.toList ++ []) M1 Q))) := ⟨fun _ _ _ _ _ _ _ _ _ => wp_in d_Md_treat_229 rfl rfl, fun _ _ _ _ _ _ _ _ _ => wp_in d_Md_treat_231 rfl rfl, fun _ _ _ _ _ _ _ _ _ _ _ => wp_icmp_gt d_Md_treat_233 rfl, fun _ _ _ _ _ _ _ _ _ => wp_in d_Md_treat_236 rfl rfl, fun _ _ _ _ _ _ _ _ _ _ => wp_getI d_Md_treat_237 fl_12_102 rfl, fun _ _ _ _ _ _ _ _ _ _ => wp_if_ne d_Md_treat_240 rfl, fun _ _ _ _ _ _ _ _ _ => wp_in d_Md_treat_243 rfl rfl, fun _ _ _ _ _ _ _ _ _ _ => wp_getA d_Md_treat_244 fl_12_152 rfl, fun _ _ _ _ _ _ _ _ _ => wp_in d_Md_treat_247 rfl rfl, fun _ _ _ _ _ _ _ _ _ _ _ => wp_bald d_Md_treat_249, fun _ _ _ _ _ _ _ _ _ _ => wp_if_eq d_Md_treat_250 rfl, fun _ _ _ _ _ _ _ _ _ => wp_in d_Md_treat_253 rfl rfl, fun _ _ _ _ _ _ _ _ _ => wp_in d_Md_treat_254 rfl rfl, fun _ _ _ _ _ _ _ _ _ => wp_in d_Md_treat_256 rfl rfl, fun _ _ _ _ _ _ _ _ _ _ _ => wp_callV d_Md_treat_258 ml_12_250 rfl rfl rfl, fun _ _ _ _ _ _ _ _ _ => wp_in d_Md_treat_261 rfl rfl, fun _ _ _ _ _ _ _ _ _ => wp_in d_Md_treat_263 rfl rfl, fun _ _ _ _ _ _ _ _ _ _ _ => wp_icmp_ge d_Md_treat_265 rfl, fun _ _ _ _ _ _ _ _ _ => wp_in d_Md_treat_268 rfl rfl, fun _ _ _ _ _ _ _ _ _ _ => wp_getI d_Md_treat_269 fl_12_102 rfl, fun _ _ _ _ _ _ _ _ _ _ => wp_if_ne d_Md_treat_272 rfl, fun _ _ _ _ _ _ _ _ _ => wp_in d_Md_treat_275 rfl rfl, fun _ _ _ _ _ _ _ _ _ => wp_in d_Md_treat_276 rfl rfl, fun _ _ _ _ _ _ _ _ _ => wp_in d_Md_treat_278 rfl rfl, fun _ _ _ _ _ _ _ _ _ _ _ => wp_callV d_Md_treat_280 ml_12_250 rfl rfl rfl⟩
theorem B_Md_treat_283 : (∀ (l0 l1 l2 l3 l4 : Value) (x : Int32) (st : List Value) (M : Mm) (Q : Option Value → Mm → Prop), wp F_Md_treat 283 [l0, l1, l2, l3, l4, .int x] st M Q = wp F_Md_treat 286 [l0, l1, l2, l3, clr l4, .int (x + 1)] st M Q) := fun _ _ _ _ _ _ _ _ _ => wp_iinc d_Md_treat_283 (by decide) rfl rfl
theorem B_Md_treat_289 : (∀ (l0 l1 l2 l3 l4 l5 : Value) (M : Mm) (Q : Option Value → Mm → Prop), wp F_Md_treat 289 [l0, l1, l2, l3, l4, l5] [] M Q = Q none M) := fun _ _ _ _ _ _ _ _ => wp_retV d_Md_treat_289 rfl
theorem G_Md_treat_74 (l0 l1 l2 l3 l4 l5 : Value) (st : List Value) (M : Mm) (Q : Option Value → Mm → Prop) : wp F_Md_treat 74 [l0, l1, l2, l3, l4, l5] st M Q = wp F_Md_treat 41 [l0, l1, l2, l3, l4, l5] st M Q := wp_goto d_Md_treat_74 rfl
theorem G_Md_treat_142 (l0 l1 l2 l3 l4 l5 : Value) (st : List Value) (M : Mm) (Q : Option Value → Mm → Prop) : wp F_Md_treat 142 [l0, l1, l2, l3, l4, l5] st M Q = wp F_Md_treat 104 [l0, l1, l2, l3, l4, l5] st M Q := wp_goto d_Md_treat_142 rfl
theorem G_Md_treat_286 (l0 l1 l2 l3 l4 l5 : Value) (st : List Value) (M : Mm) (Q : Option Value → Mm → Prop) : wp F_Md_treat 286 [l0, l1, l2, l3, l4, l5] st M Q = wp F_Md_treat 229 [l0, l1, l2, l3, l4, l5] st M Q := wp_goto d_Md_treat_286 rfl
theorem d_Md_complete_0 : decode (fnB F_Md_complete) 0 = .ok (.aload_n 0, 1) := by decide +kernel
theorem d_Md_complete_1 : decode (fnB F_Md_complete) 1 = .ok (.iconst 0, 1) := by decide +kernel
theorem d_Md_complete_2 : decode (fnB F_Md_complete) 2 = .ok (.putfield 1, 3) := by decide +kernel
theorem d_Md_complete_5 : decode (fnB F_Md_complete) 5 = .ok (.iload_n 1, 1) := by decide +kernel
theorem d_Md_complete_6 : decode (fnB F_Md_complete) 6 = .ok (.i2l, 1) := by decide +kernel
theorem d_Md_complete_7 : decode (fnB F_Md_complete) 7 = .ok (.lconst 1, 1) := by decide +kernel
theorem d_Md_complete_8 : decode (fnB F_Md_complete) 8 = .ok (.ldc2_w 253, 3) := by decide +kernel
theorem d_Md_complete_11 : decode (fnB F_Md_complete) 11 = .ok (.invokestatic 9, 3) := by decide +kernel
theorem d_Md_complete_14 : decode (fnB F_Md_complete) 14 = .ok (.ifCond .ne 6, 3) := by decide +kernel
theorem d_Md_complete_17 : decode (fnB F_Md_complete) 17 = .ok (.bipush (-2), 2) := by decide +kernel
theorem d_Md_complete_19 : decode (fnB F_Md_complete) 19 = .ok (.ireturn, 1) := by decide +kernel
theorem d_Md_complete_20 : decode (fnB F_Md_complete) 20 = .ok (.iconst 0, 1) := by decide +kernel
theorem d_Md_complete_21 : decode (fnB F_Md_complete) 21 = .ok (.istore_n 2, 1) := by decide +kernel
theorem d_Md_complete_22 : decode (fnB F_Md_complete) 22 = .ok (.iload_n 2, 1) := by decide +kernel
theorem d_Md_complete_23 : decode (fnB F_Md_complete) 23 = .ok (.iload_n 1, 1) := by decide +kernel
theorem d_Md_complete_24 : decode (fnB F_Md_complete) 24 = .ok (.if_icmp .ge 27, 3) := by decide +kernel
theorem d_Md_complete_27 : decode (fnB F_Md_complete) 27 = .ok (.aload_n 0, 1) := by decide +kernel
theorem d_Md_complete_28 : decode (fnB F_Md_complete) 28 = .ok (.getfield 93, 3) := by decide +kernel
theorem d_Md_complete_31 : decode (fnB F_Md_complete) 31 = .ok (.ifCond .le 20, 3) := by decide +kernel
theorem d_Md_complete_34 : decode (fnB F_Md_complete) 34 = .ok (.aload_n 0, 1) := by decide +kernel
theorem d_Md_complete_35 : decode (fnB F_Md_complete) 35 = .ok (.getfield 102, 3) := by decide +kernel
theorem d_Md_complete_38 : decode (fnB F_Md_complete) 38 = .ok (.ifCond .ne 13, 3) := by decide +kernel
theorem d_Md_complete_41 : decode (fnB F_Md_complete) 41 = .ok (.aload_n 0, 1) := by decide +kernel
theorem d_Md_complete_42 : decode (fnB F_Md_complete) 42 = .ok (.invokevirtual 255, 3) := by decide +kernel
theorem d_Md_complete_45 : decode (fnB F_Md_complete) 45 = .ok (.iinc 2 1, 3) := by decide +kernel
theorem d_Md_complete_48 : decode (fnB F_Md_complete) 48 = .ok (.goto (-26), 3) := by decide +kernel
theorem d_Md_complete_51 : decode (fnB F_Md_complete) 51 = .ok (.aload_n 0, 1) := by decide +kernel
theorem d_Md_complete_52 : decode (fnB F_Md_complete) 52 = .ok (.getfield 102, 3) := by decide +kernel
theorem d_Md_complete_55 : decode (fnB F_Md_complete) 55 = .ok (.ifCond .eq 7, 3) := by decide +kernel
theorem d_Md_complete_58 : decode (fnB F_Md_complete) 58 = .ok (.iconst 2, 1) := by decide +kernel
theorem d_Md_complete_59 : decode (fnB F_Md_complete) 59 = .ok (.goto 15, 3) := by decide +kernel
theorem d_Md_complete_62 : decode (fnB F_Md_complete) 62 = .ok (.aload_n 0, 1) := by decide +kernel
theorem d_Md_complete_63 : decode (fnB F_Md_complete) 63 = .ok (.getfield 93, 3) := by decide +kernel
theorem d_Md_complete_66 : decode (fnB F_Md_complete) 66 = .ok (.ifCond .ne 7, 3) := by decide +kernel
theorem d_Md_complete_69 : decode (fnB F_Md_complete) 69 = .ok (.iconst 1, 1) := by decide +kernel
theorem d_Md_complete_70 : decode (fnB F_Md_complete) 70 = .ok (.goto 4, 3) := by decide +kernel
theorem d_Md_complete_73 : decode (fnB F_Md_complete) 73 = .ok (.iconst 0, 1) := by decide +kernel
theorem d_Md_complete_74 : decode (fnB F_Md_complete) 74 = .ok (.ireturn, 1) := by decide +kernel
theorem B_Md_complete_0 : (∀ (l1 l2 : Value) (x : Nat) (st : List Value) (M : Mm) (Q : Option Value → Mm → Prop), wp F_Md_complete 0 [.ref x, l1, l2] st M Q = wp F_Md_complete 1 [.ref x, l1, l2] (.ref x :: st) M Q) ∧
  (∀ (l0 l1 l2 : Value) (st : List Value) (M : Mm) (Q : Option Value → Mm → Prop), wp F_Md_complete 1 [l0, l1, l2] st M Q = wp F_Md_complete 2 [l0, l1, l2] (.int 0 :: st) M Q) ∧
  (∀ (l0 l1 l2 : Value) (a : Nat) (x : Int32) (st : List Value) (M : Mm) (Q : Option Value → Mm → Prop), wp F_Md_complete 2 [l0, l1, l2] (.int x :: .ref a :: st) M Q = (sh M a = some (.inl 12) ∧ wp F_Md_complete 5 [l0, l1, l2] st (sI M a 0 x) Q)) ∧
  (∀ (l0 l2 : Value) (x : Int32) (st : List Value) (M : Mm) (Q : Option Value → Mm → Prop), wp F_Md_complete 5 [l0, .int x, l2] st M Q = wp F_Md_complete 6 [l0, .int x, l2] (.int x :: st) M Q) ∧
  (∀ (l0 l1 l2 : Value) (x : Int32) (st : List Value) (M : Mm) (Q : Option Value → Mm → Prop), wp F_Md_complete 6 [l0, l1, l2] (.int x :: st) M Q = wp F_Md_complete 7 [l0, l1, l2] (.long x.toInt64 :: st) M Q) ∧
  (∀ (l0 l1 l2 : Value) (st : List Value) (M : Mm) (Q : Option Value → Mm → Prop), wp F_Md_complete 7 [l0, l1, l2] st M Q = wp F_Md_complete 8 [l0, l1, l2] (.long 1 :: st) M Q) ∧
  (∀ (l0 l1 l2 : Value) (st : List Value) (M : Mm) (Q : Option Value → Mm → Prop), wp F_Md_complete 8 [l0, l1, l2] st M Q = wp F_Md_complete 11 [l0, l1, l2] (.long 500 :: st) M Q) ∧
  (∀ (l0 l1 l2 : Value) (p0 : Int64) (p1 : Int64) (p2 : Int64) (M : Mm) (Q : Option Value → Mm → Prop), wp F_Md_complete 11 [l0, l1, l2] [.long p2, .long p1, .long p0] M Q = wp F_Md_in 0 [.long p0, jk, .long p1, jk, .long p2, jk] [] M (fun r M1 => wp F_Md_complete 14 [l0, l1, l2] (r.toList ++ []) M1 Q)) ∧
  (∀ (l0 l1 l2 : Value) (x : Int32) (st : List Value) (M : Mm) (Q : Option Value → Mm → Prop), wp F_Md_complete 14 [l0, l1, l2] (.int x :: st) M Q = if x = 0 then wp F_Md_complete 17 [l0, l1, l2] st M Q else wp F_Md_complete 20 [l0, l1, l2] st M Q) ∧
  (∀ (l0 l1 l2 : Value) (st : List Value) (M : Mm) (Q : Option Value → Mm → Prop), wp F_Md_complete 17 [l0, l1, l2] st M Q = wp F_Md_complete 19 [l0, l1, l2] (.int (-2) :: st) M Q) ∧
  (∀ (l0 l1 l2 : Value) (v : Int32) (M : Mm) (Q : Option Value → Mm → Prop), wp F_Md_complete 19 [l0, l1, l2] [.int v] M Q = Q (some (.int v)) M) := ⟨fun _ _ _ _ _ _ => wp_in d_Md_complete_0 rfl rfl, fun _ _ _ _ _ _ => wp_iconst d_Md_complete_1 (by decide), fun _ _ _ _ _ _ _ _ => wp_putI d_Md_complete_2 fl_12_1 rfl rfl, fun _ _ _ _ _ _ => wp_in d_Md_complete_5 rfl rfl, fun _ _ _ _ _ _ _ => wp_in d_Md_complete_6 rfl rfl, fun _ _ _ _ _ _ => wp_lconst d_Md_complete_7 (by decide), fun _ _ _ _ _ _ => wp_ldc2 d_Md_complete_8 ll_12_253, fun _ _ _ _ _ _ _ _ => wp_callS d_Md_complete_11 ml_12_9 (Nat.le_of_ble_eq_true rfl) rfl rfl rfl, fun _ _ _ _ _ _ _ => wp_if_ne d_Md_complete_14 rfl, fun _ _ _ _ _ _ => wp_bipush d_Md_complete_17 (by decide), fun _ _ _ _ _ _ => wp_retI d_Md_complete_19 rfl⟩
theorem B_Md_complete_20 : (∀ (l0 l1 l2 : Value) (st : List Value) (M : Mm) (Q : Option Value → Mm → Prop), wp F_Md_complete 20 [l0, l1, l2] st M Q = wp F_Md_complete 21 [l0, l1, l2] (.int 0 :: st) M Q) ∧
  (∀ (l0 l1 l2 : Value) (x : Int32) (st : List Value) (M : Mm) (Q : Option Value → Mm → Prop), wp F_Md_complete 21 [l0, l1, l2] (.int x :: st) M Q = wp F_Md_complete 22 [l0, clr l1, .int x] st M Q) := ⟨fun _ _ _ _ _ _ => wp_iconst d_Md_complete_20 (by decide), fun _ _ _ _ _ _ _ => wp_in d_Md_complete_21 rfl rfl⟩
theorem B_Md_complete_22 : (∀ (l0 l1 : Value) (x : Int32) (st : List Value) (M : Mm) (Q : Option Value → Mm → Prop), wp F_Md_complete 22 [l0, l1, .int x] st M Q = wp F_Md_complete 23 [l0, l1, .int x] (.int x :: st) M Q) ∧
  (∀ (l0 l2 : Value) (x : Int32) (st : List Value) (M : Mm) (Q : Option Value → Mm → Prop), wp F_Md_complete 23 [l0, .int x, l2] st M Q = wp F_Md_complete 24 [l0, .int x, l2] (.int x :: st) M Q) ∧
  (∀ (l0 l1 l2 : Value) (x y : Int32) (st : List Value) (M : Mm) (Q : Option Value → Mm → Prop), wp F_Md_complete 24 [l0, l1, l2] (.int y :: .int x :: st) M Q = if y ≤ x then wp F_Md_complete 51 [l0, l1, l2] st M Q else wp F_Md_complete 27 [l0, l1, l2] st M Q) ∧
  (∀ (l1 l2 : Value) (x : Nat) (st : List Value) (M : Mm) (Q : Option Value → Mm → Prop), wp F_Md_complete 27 [.ref x, l1, l2] st M Q = wp F_Md_complete 28 [.ref x, l1, l2] (.ref x :: st) M Q) ∧
  (∀ (l0 l1 l2 : Value) (a : Nat) (st : List Value) (M : Mm) (Q : Option Value → Mm → Prop), wp F_Md_complete 28 [l0, l1, l2] (.ref a :: st) M Q = (sh M a = some (.inl 12) ∧ wp F_Md_complete 31 [l0, l1, l2] (.int (gI M a 25) :: st) M Q)) ∧
  (∀ (l0 l1 l2 : Value) (x : Int32) (st : List Value) (M : Mm) (Q : Option Value → Mm → Prop), wp F_Md_complete 31 [l0, l1, l2] (.int x :: st) M Q = if x ≤ 0 then wp F_Md_complete 51 [l0, l1, l2] st M Q else wp F_Md_complete 34 [l0, l1, l2] st M Q) ∧
  (∀ (l1 l2 : Value) (x : Nat) (st : List Value) (M : Mm) (Q : Option Value → Mm → Prop), wp F_Md_complete 34 [.ref x, l1, l2] st M Q = wp F_Md_complete 35 [.ref x, l1, l2] (.ref x :: st) M Q) ∧
  (∀ (l0 l1 l2 : Value) (a : Nat) (st : List Value) (M : Mm) (Q : Option Value → Mm → Prop), wp F_Md_complete 35 [l0, l1, l2] (.ref a :: st) M Q = (sh M a = some (.inl 12) ∧ wp F_Md_complete 38 [l0, l1, l2] (.int (gI M a 28) :: st) M Q)) ∧
  (∀ (l0 l1 l2 : Value) (x : Int32) (st : List Value) (M : Mm) (Q : Option Value → Mm → Prop), wp F_Md_complete 38 [l0, l1, l2] (.int x :: st) M Q = if x = 0 then wp F_Md_complete 41 [l0, l1, l2] st M Q else wp F_Md_complete 51 [l0, l1, l2] st M Q) ∧
  (∀ (l1 l2 : Value) (x : Nat) (st : List Value) (M : Mm) (Q : Option Value → Mm → Prop), wp F_Md_complete 41 [.ref x, l1, l2] st M Q = wp F_Md_complete 42 [.ref x, l1, l2] (.ref x :: st) M Q) ∧
  (∀ (l0 l1 l2 : Value) (b : Nat) (M : Mm) (Q : Option Value → Mm → Prop), wp F_Md_complete 42 [l0, l1, l2] [.ref b] M Q = (sh M b = some (.inl 12) ∧ wp F_Md_treat 0 [.ref b, jk, jk, jk, jk, jk] [] M (fun r M1 => wp F_Md_complete 45 [l0, l1, l2] (r.toList ++ []) M1 Q))) ∧
  (∀ (l0 l1 : Value) (x : Int32) (st : List Value) (M : Mm) (Q : Option Value → Mm → Prop), wp F_Md_complete 45 [l0, l1, .int x] st M Q = wp F_Md_complete 48 [l0, clr l1, .int (x + 1)] st M Q) := ⟨fun _ _ _ _ _ _ => wp_in d_Md_complete_22 rfl rfl, fun _ _ _ _ _ _ => wp_in d_Md_complete_23 rfl rfl, fun _ _ _ _ _ _ _ _ => wp_icmp_ge d_Md_complete_24 rfl, fun _ _ _ _ _ _ => wp_in d_Md_complete_27 rfl rfl, fun _ _ _ _ _ _ _ => wp_getI d_Md_complete_28 fl_12_93 rfl, fun _ _ _ _ _ _ _ => wp_if_le d_Md_complete_31 rfl, fun _ _ _ _ _ _ => wp_in d_Md_complete_34 rfl rfl, fun _ _ _ _ _ _ _ => wp_getI d_Md_complete_35 fl_12_102 rfl, fun _ _ _ _ _ _ _ => wp_if_ne d_Md_complete_38 rfl, fun _ _ _ _ _ _ => wp_in d_Md_complete_41 rfl rfl, fun _ _ _ _ _ _ => wp_callV d_Md_complete_42 ml_12_255 rfl rfl rfl, fun _ _ _ _ _ _ => wp_iinc d_Md_complete_45 (by decide) rfl rfl⟩
theorem B_Md_complete_51 : (∀ (l1 l2 : Value) (x : Nat) (st : List Value) (M : Mm) (Q : Option Value → Mm → Prop), wp F_Md_complete 51 [.ref x, l1, l2] st M Q = wp F_Md_complete 52 [.ref x, l1, l2] (.ref x :: st) M Q) ∧
  (∀ (l0 l1 l2 : Value) (a : Nat) (st : List Value) (M : Mm) (Q : Option Value → Mm → Prop), wp F_Md_complete 52 [l0, l1, l2] (.ref a :: st) M Q = (sh M a = some (.inl 12) ∧ wp F_Md_complete 55 [l0, l1, l2] (.int (gI M a 28) :: st) M Q)) ∧
  (∀ (l0 l1 l2 : Value) (x : Int32) (st : List Value) (M : Mm) (Q : Option Value → Mm → Prop), wp F_Md_complete 55 [l0, l1, l2] (.int x :: st) M Q = if x = 0 then wp F_Md_complete 62 [l0, l1, l2] st M Q else wp F_Md_complete 58 [l0, l1, l2] st M Q) ∧
  (∀ (l0 l1 l2 : Value) (st : List Value) (M : Mm) (Q : Option Value → Mm → Prop), wp F_Md_complete 58 [l0, l1, l2] st M Q = wp F_Md_complete 59 [l0, l1, l2] (.int 2 :: st) M Q) ∧
  (∀ (l0 l1 l2 : Value) (st : List Value) (M : Mm) (Q : Option Value → Mm → Prop), wp F_Md_complete 59 [l0, l1, l2] st M Q = wp F_Md_complete 74 [l0, l1, l2] st M Q) := ⟨fun _ _ _ _ _ _ => wp_in d_Md_complete_51 rfl rfl, fun _ _ _ _ _ _ _ => wp_getI d_Md_complete_52 fl_12_102 rfl, fun _ _ _ _ _ _ _ => wp_if_eq d_Md_complete_55 rfl, fun _ _ _ _ _ _ => wp_iconst d_Md_complete_58 (by decide), fun _ _ _ _ _ _ => wp_goto d_Md_complete_59 rfl⟩
theorem B_Md_complete_62 : (∀ (l1 l2 : Value) (x : Nat) (st : List Value) (M : Mm) (Q : Option Value → Mm → Prop), wp F_Md_complete 62 [.ref x, l1, l2] st M Q = wp F_Md_complete 63 [.ref x, l1, l2] (.ref x :: st) M Q) ∧
  (∀ (l0 l1 l2 : Value) (a : Nat) (st : List Value) (M : Mm) (Q : Option Value → Mm → Prop), wp F_Md_complete 63 [l0, l1, l2] (.ref a :: st) M Q = (sh M a = some (.inl 12) ∧ wp F_Md_complete 66 [l0, l1, l2] (.int (gI M a 25) :: st) M Q)) ∧
  (∀ (l0 l1 l2 : Value) (x : Int32) (st : List Value) (M : Mm) (Q : Option Value → Mm → Prop), wp F_Md_complete 66 [l0, l1, l2] (.int x :: st) M Q = if x = 0 then wp F_Md_complete 69 [l0, l1, l2] st M Q else wp F_Md_complete 73 [l0, l1, l2] st M Q) ∧
  (∀ (l0 l1 l2 : Value) (st : List Value) (M : Mm) (Q : Option Value → Mm → Prop), wp F_Md_complete 69 [l0, l1, l2] st M Q = wp F_Md_complete 70 [l0, l1, l2] (.int 1 :: st) M Q) ∧
  (∀ (l0 l1 l2 : Value) (st : List Value) (M : Mm) (Q : Option Value → Mm → Prop), wp F_Md_complete 70 [l0, l1, l2] st M Q = wp F_Md_complete 74 [l0, l1, l2] st M Q) := ⟨fun _ _ _ _ _ _ => wp_in d_Md_complete_62 rfl rfl, fun _ _ _ _ _ _ _ => wp_getI d_Md_complete_63 fl_12_93 rfl, fun _ _ _ _ _ _ _ => wp_if_ne d_Md_complete_66 rfl, fun _ _ _ _ _ _ => wp_iconst d_Md_complete_69 (by decide), fun _ _ _ _ _ _ => wp_goto d_Md_complete_70 rfl⟩
theorem B_Md_complete_73 : (∀ (l0 l1 l2 : Value) (st : List Value) (M : Mm) (Q : Option Value → Mm → Prop), wp F_Md_complete 73 [l0, l1, l2] st M Q = wp F_Md_complete 74 [l0, l1, l2] (.int 0 :: st) M Q) := fun _ _ _ _ _ _ => wp_iconst d_Md_complete_73 (by decide)
theorem B_Md_complete_74 : (∀ (l0 l1 l2 : Value) (v : Int32) (M : Mm) (Q : Option Value → Mm → Prop), wp F_Md_complete 74 [l0, l1, l2] [.int v] M Q = Q (some (.int v)) M) := fun _ _ _ _ _ _ => wp_retI d_Md_complete_74 rfl
theorem G_Md_complete_48 (l0 l1 l2 : Value) (st : List Value) (M : Mm) (Q : Option Value → Mm → Prop) : wp F_Md_complete 48 [l0, l1, l2] st M Q = wp F_Md_complete 22 [l0, l1, l2] st M Q := wp_goto d_Md_complete_48 rfl
theorem d_Md_live_0 : decode (fnB F_Md_live) 0 = .ok (.iconst 0, 1) := by decide +kernel
theorem d_Md_live_1 : decode (fnB F_Md_live) 1 = .ok (.istore_n 1, 1) := by decide +kernel
theorem d_Md_live_2 : decode (fnB F_Md_live) 2 = .ok (.iconst 0, 1) := by decide +kernel
theorem d_Md_live_3 : decode (fnB F_Md_live) 3 = .ok (.istore_n 2, 1) := by decide +kernel
theorem d_Md_live_4 : decode (fnB F_Md_live) 4 = .ok (.iload_n 2, 1) := by decide +kernel
theorem d_Md_live_5 : decode (fnB F_Md_live) 5 = .ok (.aload_n 0, 1) := by decide +kernel
theorem d_Md_live_6 : decode (fnB F_Md_live) 6 = .ok (.getfield 87, 3) := by decide +kernel
theorem d_Md_live_9 : decode (fnB F_Md_live) 9 = .ok (.if_icmp .ge 26, 3) := by decide +kernel
theorem d_Md_live_12 : decode (fnB F_Md_live) 12 = .ok (.iload_n 1, 1) := by decide +kernel
theorem d_Md_live_13 : decode (fnB F_Md_live) 13 = .ok (.aload_n 0, 1) := by decide +kernel
theorem d_Md_live_14 : decode (fnB F_Md_live) 14 = .ok (.getfield 152, 3) := by decide +kernel
theorem d_Md_live_17 : decode (fnB F_Md_live) 17 = .ok (.iload_n 2, 1) := by decide +kernel
theorem d_Md_live_18 : decode (fnB F_Md_live) 18 = .ok (.baload, 1) := by decide +kernel
theorem d_Md_live_19 : decode (fnB F_Md_live) 19 = .ok (.ifCond .eq 7, 3) := by decide +kernel
theorem d_Md_live_22 : decode (fnB F_Md_live) 22 = .ok (.iconst 1, 1) := by decide +kernel
theorem d_Md_live_23 : decode (fnB F_Md_live) 23 = .ok (.goto 4, 3) := by decide +kernel
theorem d_Md_live_26 : decode (fnB F_Md_live) 26 = .ok (.iconst 0, 1) := by decide +kernel
theorem d_Md_live_27 : decode (fnB F_Md_live) 27 = .ok (.iadd, 1) := by decide +kernel
theorem d_Md_live_28 : decode (fnB F_Md_live) 28 = .ok (.istore_n 1, 1) := by decide +kernel
theorem d_Md_live_29 : decode (fnB F_Md_live) 29 = .ok (.iinc 2 1, 3) := by decide +kernel
theorem d_Md_live_32 : decode (fnB F_Md_live) 32 = .ok (.goto (-28), 3) := by decide +kernel
theorem d_Md_live_35 : decode (fnB F_Md_live) 35 = .ok (.iload_n 1, 1) := by decide +kernel
theorem d_Md_live_36 : decode (fnB F_Md_live) 36 = .ok (.ireturn, 1) := by decide +kernel
theorem B_Md_live_0 : (∀ (l0 l1 l2 : Value) (st : List Value) (M : Mm) (Q : Option Value → Mm → Prop), wp F_Md_live 0 [l0, l1, l2] st M Q = wp F_Md_live 1 [l0, l1, l2] (.int 0 :: st) M Q) ∧
  (∀ (l0 l1 l2 : Value) (x : Int32) (st : List Value) (M : Mm) (Q : Option Value → Mm → Prop), wp F_Md_live 1 [l0, l1, l2] (.int x :: st) M Q = wp F_Md_live 2 [clr l0, .int x, l2] st M Q) ∧
  (∀ (l0 l1 l2 : Value) (st : List Value) (M : Mm) (Q : Option Value → Mm → Prop), wp F_Md_live 2 [l0, l1, l2] st M Q = wp F_Md_live 3 [l0, l1, l2] (.int 0 :: st) M Q) ∧
  (∀ (l0 l1 l2 : Value) (x : Int32) (st : List Value) (M : Mm) (Q : Option Value → Mm → Prop), wp F_Md_live 3 [l0, l1, l2] (.int x :: st) M Q = wp F_Md_live 4 [l0, clr l1, .int x] st M Q) := ⟨fun _ _ _ _ _ _ => wp_iconst d_Md_live_0 (by decide), fun _ _ _ _ _ _ _ => wp_in d_Md_live_1 rfl rfl, fun _ _ _ _ _ _ => wp_iconst d_Md_live_2 (by decide), fun _ _ _ _ _ _ _ => wp_in d_Md_live_3 rfl rfl⟩
theorem B_Md_live_4 : (∀ (l0 l1 : Value) (x : Int32) (st : List Value) (M : Mm) (Q : Option Value → Mm → Prop), wp F_Md_live 4 [l0, l1, .int x] st M Q = wp F_Md_live 5 [l0, l1, .int x] (.int x :: st) M Q) ∧
  (∀ (l1 l2 : Value) (x : Nat) (st : List Value) (M : Mm) (Q : Option Value → Mm → Prop), wp F_Md_live 5 [.ref x, l1, l2] st M Q = wp F_Md_live 6 [.ref x, l1, l2] (.ref x :: st) M Q) ∧
  (∀ (l0 l1 l2 : Value) (a : Nat) (st : List Value) (M : Mm) (Q : Option Value → Mm → Prop), wp F_Md_live 6 [l0, l1, l2] (.ref a :: st) M Q = (sh M a = some (.inl 12) ∧ wp F_Md_live 9 [l0, l1, l2] (.int (gI M a 21) :: st) M Q)) ∧
  (∀ (l0 l1 l2 : Value) (x y : Int32) (st : List Value) (M : Mm) (Q : Option Value → Mm → Prop), wp F_Md_live 9 [l0, l1, l2] (.int y :: .int x :: st) M Q = if y ≤ x then wp F_Md_live 35 [l0, l1, l2] st M Q else wp F_Md_live 12 [l0, l1, l2] st M Q) ∧
  (∀ (l0 l2 : Value) (x : Int32) (st : List Value) (M : Mm) (Q : Option Value → Mm → Prop), wp F_Md_live 12 [l0, .int x, l2] st M Q = wp F_Md_live 13 [l0, .int x, l2] (.int x :: st) M Q) ∧
  (∀ (l1 l2 : Value) (x : Nat) (st : List Value) (M : Mm) (Q : Option Value → Mm → Prop), wp F_Md_live 13 [.ref x, l1, l2] st M Q = wp F_Md_live 14 [.ref x, l1, l2] (.ref x :: st) M Q) ∧
  (∀ (l0 l1 l2 : Value) (a : Nat) (st : List Value) (M : Mm) (Q : Option Value → Mm → Prop), wp F_Md_live 14 [l0, l1, l2] (.ref a :: st) M Q = (sh M a = some (.inl 12) ∧ wp F_Md_live 17 [l0, l1, l2] (va_rf (gR M a 20) :: st) M Q)) ∧
  (∀ (l0 l1 : Value) (x : Int32) (st : List Value) (M : Mm) (Q : Option Value → Mm → Prop), wp F_Md_live 17 [l0, l1, .int x] st M Q = wp F_Md_live 18 [l0, l1, .int x] (.int x :: st) M Q) ∧
  (∀ (l0 l1 l2 : Value) (a : Nat) (j : Int32) (st : List Value) (M : Mm) (Q : Option Value → Mm → Prop), wp F_Md_live 18 [l0, l1, l2] (.int j :: .ref a :: st) M Q = (ixB M a j ∧ wp F_Md_live 19 [l0, l1, l2] (.int (gI M a (cl j)) :: st) M Q)) ∧
  (∀ (l0 l1 l2 : Value) (x : Int32) (st : List Value) (M : Mm) (Q : Option Value → Mm → Prop), wp F_Md_live 19 [l0, l1, l2] (.int x :: st) M Q = if x = 0 then wp F_Md_live 26 [l0, l1, l2] st M Q else wp F_Md_live 22 [l0, l1, l2] st M Q) ∧
  (∀ (l0 l1 l2 : Value) (st : List Value) (M : Mm) (Q : Option Value → Mm → Prop), wp F_Md_live 22 [l0, l1, l2] st M Q = wp F_Md_live 23 [l0, l1, l2] (.int 1 :: st) M Q) ∧
  (∀ (l0 l1 l2 : Value) (st : List Value) (M : Mm) (Q : Option Value → Mm → Prop), wp F_Md_live 23 [l0, l1, l2] st M Q = wp F_Md_live 27 [l0, l1, l2] st M Q) := ⟨fun _ _ _ _ _ _ => wp_in d_Md_live_4 rfl rfl, fun _ _ _ _ _ _ => wp_in d_Md_live_5 rfl rfl, fun _ _ _ _ _ _ _ => wp_getI d_Md_live_6 fl_12_87 rfl, fun _ _ _ _ _ _ _ _ => wp_icmp_ge d_Md_live_9 rfl, fun _ _ _ _ _ _ => wp_in d_Md_live_12 rfl rfl, fun _ _ _ _ _ _ => wp_in d_Md_live_13 rfl rfl, fun _ _ _ _ _ _ _ => wp_getA d_Md_live_14 fl_12_152 rfl, fun _ _ _ _ _ _ => wp_in d_Md_live_17 rfl rfl, fun _ _ _ _ _ _ _ _ => wp_bald d_Md_live_18, fun _ _ _ _ _ _ _ => wp_if_eq d_Md_live_19 rfl, fun _ _ _ _ _ _ => wp_iconst d_Md_live_22 (by decide), fun _ _ _ _ _ _ => wp_goto d_Md_live_23 rfl⟩
theorem B_Md_live_26 : (∀ (l0 l1 l2 : Value) (st : List Value) (M : Mm) (Q : Option Value → Mm → Prop), wp F_Md_live 26 [l0, l1, l2] st M Q = wp F_Md_live 27 [l0, l1, l2] (.int 0 :: st) M Q) := fun _ _ _ _ _ _ => wp_iconst d_Md_live_26 (by decide)
theorem B_Md_live_27 : (∀ (l0 l1 l2 : Value) (x y : Int32) (st : List Value) (M : Mm) (Q : Option Value → Mm → Prop), wp F_Md_live 27 [l0, l1, l2] (.int y :: .int x :: st) M Q = wp F_Md_live 28 [l0, l1, l2] (.int (x + y) :: st) M Q) ∧
  (∀ (l0 l1 l2 : Value) (x : Int32) (st : List Value) (M : Mm) (Q : Option Value → Mm → Prop), wp F_Md_live 28 [l0, l1, l2] (.int x :: st) M Q = wp F_Md_live 29 [clr l0, .int x, l2] st M Q) ∧
  (∀ (l0 l1 : Value) (x : Int32) (st : List Value) (M : Mm) (Q : Option Value → Mm → Prop), wp F_Md_live 29 [l0, l1, .int x] st M Q = wp F_Md_live 32 [l0, clr l1, .int (x + 1)] st M Q) := ⟨fun _ _ _ _ _ _ _ _ => wp_in d_Md_live_27 rfl rfl, fun _ _ _ _ _ _ _ => wp_in d_Md_live_28 rfl rfl, fun _ _ _ _ _ _ => wp_iinc d_Md_live_29 (by decide) rfl rfl⟩
theorem B_Md_live_35 : (∀ (l0 l2 : Value) (x : Int32) (st : List Value) (M : Mm) (Q : Option Value → Mm → Prop), wp F_Md_live 35 [l0, .int x, l2] st M Q = wp F_Md_live 36 [l0, .int x, l2] (.int x :: st) M Q) ∧
  (∀ (l0 l1 l2 : Value) (v : Int32) (M : Mm) (Q : Option Value → Mm → Prop), wp F_Md_live 36 [l0, l1, l2] [.int v] M Q = Q (some (.int v)) M) := ⟨fun _ _ _ _ _ _ => wp_in d_Md_live_35 rfl rfl, fun _ _ _ _ _ _ => wp_retI d_Md_live_36 rfl⟩
theorem G_Md_live_32 (l0 l1 l2 : Value) (st : List Value) (M : Mm) (Q : Option Value → Mm → Prop) : wp F_Md_live 32 [l0, l1, l2] st M Q = wp F_Md_live 4 [l0, l1, l2] st M Q := wp_goto d_Md_live_32 rfl
theorem d_Md_count_0 : decode (fnB F_Md_count) 0 = .ok (.aload_n 0, 1) := by decide +kernel
theorem d_Md_count_1 : decode (fnB F_Md_count) 1 = .ok (.iconst 0, 1) := by decide +kernel
theorem d_Md_count_2 : decode (fnB F_Md_count) 2 = .ok (.putfield 1, 3) := by decide +kernel
theorem d_Md_count_5 : decode (fnB F_Md_count) 5 = .ok (.iload_n 1, 1) := by decide +kernel
theorem d_Md_count_6 : decode (fnB F_Md_count) 6 = .ok (.tableswitch 102 0 7 #[46, 51, 56, 61, 66, 71, 84, 97], 46) := by decide +kernel
theorem d_Md_count_52 : decode (fnB F_Md_count) 52 = .ok (.aload_n 0, 1) := by decide +kernel
theorem d_Md_count_53 : decode (fnB F_Md_count) 53 = .ok (.getfield 81, 3) := by decide +kernel
theorem d_Md_count_56 : decode (fnB F_Md_count) 56 = .ok (.ireturn, 1) := by decide +kernel
theorem d_Md_count_57 : decode (fnB F_Md_count) 57 = .ok (.aload_n 0, 1) := by decide +kernel
theorem d_Md_count_58 : decode (fnB F_Md_count) 58 = .ok (.getfield 87, 3) := by decide +kernel
theorem d_Md_count_61 : decode (fnB F_Md_count) 61 = .ok (.ireturn, 1) := by decide +kernel
theorem d_Md_count_62 : decode (fnB F_Md_count) 62 = .ok (.aload_n 0, 1) := by decide +kernel
theorem d_Md_count_63 : decode (fnB F_Md_count) 63 = .ok (.invokevirtual 258, 3) := by decide +kernel
theorem d_Md_count_66 : decode (fnB F_Md_count) 66 = .ok (.ireturn, 1) := by decide +kernel
theorem d_Md_count_67 : decode (fnB F_Md_count) 67 = .ok (.aload_n 0, 1) := by decide +kernel
theorem d_Md_count_68 : decode (fnB F_Md_count) 68 = .ok (.getfield 93, 3) := by decide +kernel
theorem d_Md_count_71 : decode (fnB F_Md_count) 71 = .ok (.ireturn, 1) := by decide +kernel
theorem d_Md_count_72 : decode (fnB F_Md_count) 72 = .ok (.aload_n 0, 1) := by decide +kernel
theorem d_Md_count_73 : decode (fnB F_Md_count) 73 = .ok (.getfield 96, 3) := by decide +kernel
theorem d_Md_count_76 : decode (fnB F_Md_count) 76 = .ok (.ireturn, 1) := by decide +kernel
theorem d_Md_count_77 : decode (fnB F_Md_count) 77 = .ok (.aload_n 0, 1) := by decide +kernel
theorem d_Md_count_78 : decode (fnB F_Md_count) 78 = .ok (.invokevirtual 261, 3) := by decide +kernel
theorem d_Md_count_81 : decode (fnB F_Md_count) 81 = .ok (.ifCond .eq 7, 3) := by decide +kernel
theorem d_Md_count_84 : decode (fnB F_Md_count) 84 = .ok (.iconst 1, 1) := by decide +kernel
theorem d_Md_count_85 : decode (fnB F_Md_count) 85 = .ok (.goto 4, 3) := by decide +kernel
theorem d_Md_count_88 : decode (fnB F_Md_count) 88 = .ok (.iconst 0, 1) := by decide +kernel
theorem d_Md_count_89 : decode (fnB F_Md_count) 89 = .ok (.ireturn, 1) := by decide +kernel
theorem d_Md_count_90 : decode (fnB F_Md_count) 90 = .ok (.aload_n 0, 1) := by decide +kernel
theorem d_Md_count_91 : decode (fnB F_Md_count) 91 = .ok (.getfield 102, 3) := by decide +kernel
theorem d_Md_count_94 : decode (fnB F_Md_count) 94 = .ok (.ifCond .eq 7, 3) := by decide +kernel
theorem d_Md_count_97 : decode (fnB F_Md_count) 97 = .ok (.iconst 1, 1) := by decide +kernel
theorem d_Md_count_98 : decode (fnB F_Md_count) 98 = .ok (.goto 4, 3) := by decide +kernel
theorem d_Md_count_101 : decode (fnB F_Md_count) 101 = .ok (.iconst 0, 1) := by decide +kernel
theorem d_Md_count_102 : decode (fnB F_Md_count) 102 = .ok (.ireturn, 1) := by decide +kernel
theorem d_Md_count_103 : decode (fnB F_Md_count) 103 = .ok (.aload_n 0, 1) := by decide +kernel
theorem d_Md_count_104 : decode (fnB F_Md_count) 104 = .ok (.getfield 99, 3) := by decide +kernel
theorem d_Md_count_107 : decode (fnB F_Md_count) 107 = .ok (.ireturn, 1) := by decide +kernel
theorem d_Md_count_108 : decode (fnB F_Md_count) 108 = .ok (.bipush (-2), 2) := by decide +kernel
theorem d_Md_count_110 : decode (fnB F_Md_count) 110 = .ok (.ireturn, 1) := by decide +kernel
theorem B_Md_count_0 : (∀ (l1 : Value) (x : Nat) (st : List Value) (M : Mm) (Q : Option Value → Mm → Prop), wp F_Md_count 0 [.ref x, l1] st M Q = wp F_Md_count 1 [.ref x, l1] (.ref x :: st) M Q) ∧
  (∀ (l0 l1 : Value) (st : List Value) (M : Mm) (Q : Option Value → Mm → Prop), wp F_Md_count 1 [l0, l1] st M Q = wp F_Md_count 2 [l0, l1] (.int 0 :: st) M Q) ∧
  (∀ (l0 l1 : Value) (a : Nat) (x : Int32) (st : List Value) (M : Mm) (Q : Option Value → Mm → Prop), wp F_Md_count 2 [l0, l1] (.int x :: .ref a :: st) M Q = (sh M a = some (.inl 12) ∧ wp F_Md_count 5 [l0, l1] st (sI M a 0 x) Q)) ∧
  (∀ (l0 : Value) (x : Int32) (st : List Value) (M : Mm) (Q : Option Value → Mm → Prop), wp F_Md_count 5 [l0, .int x] st M Q = wp F_Md_count 6 [l0, .int x] (.int x :: st) M Q) ∧
  (∀ (l0 l1 : Value) (st : List Value) (M : Mm) (Q : Option Value → Mm → Prop), wp F_Md_count 6 [l0, l1] (.int 0 :: st) M Q = wp F_Md_count 52 [l0, l1] st M Q) ∧
  (∀ (l0 l1 : Value) (st : List Value) (M : Mm) (Q : Option Value → Mm → Prop), wp F_Md_count 6 [l0, l1] (.int 1 :: st) M Q = wp F_Md_count 57 [l0, l1] st M Q) ∧
  (∀ (l0 l1 : Value) (st : List Value) (M : Mm) (Q : Option Value → Mm → Prop), wp F_Md_count 6 [l0, l1] (.int 2 :: st) M Q = wp F_Md_count 62 [l0, l1] st M Q) ∧
  (∀ (l0 l1 : Value) (st : List Value) (M : Mm) (Q : Option Value → Mm → Prop), wp F_Md_count 6 [l0, l1] (.int 3 :: st) M Q = wp F_Md_count 67 [l0, l1] st M Q) ∧
  (∀ (l0 l1 : Value) (st : List Value) (M : Mm) (Q : Option Value → Mm → Prop), wp F_Md_count 6 [l0, l1] (.int 4 :: st) M Q = wp F_Md_count 72 [l0, l1] st M Q) ∧
  (∀ (l0 l1 : Value) (st : List Value) (M : Mm) (Q : Option Value → Mm → Prop), wp F_Md_count 6 [l0, l1] (.int 5 :: st) M Q = wp F_Md_count 77 [l0, l1] st M Q) ∧
  (∀ (l0 l1 : Value) (st : List Value) (M : Mm) (Q : Option Value → Mm → Prop), wp F_Md_count 6 [l0, l1] (.int 6 :: st) M Q = wp F_Md_count 90 [l0, l1] st M Q) ∧
  (∀ (l0 l1 : Value) (st : List Value) (M : Mm) (Q : Option Value → Mm → Prop), wp F_Md_count 6 [l0, l1] (.int 7 :: st) M Q = wp F_Md_count 103 [l0, l1] st M Q) := ⟨fun _ _ _ _ _ => wp_in d_Md_count_0 rfl rfl, fun _ _ _ _ _ => wp_iconst d_Md_count_1 (by decide), fun _ _ _ _ _ _ _ => wp_putI d_Md_count_2 fl_12_1 rfl rfl, fun _ _ _ _ _ => wp_in d_Md_count_5 rfl rfl, fun _ _ _ _ _ => wp_swI d_Md_count_6 (by decide) rfl rfl, fun _ _ _ _ _ => wp_swI d_Md_count_6 (by decide) rfl rfl, fun _ _ _ _ _ => wp_swI d_Md_count_6 (by decide) rfl rfl, fun _ _ _ _ _ => wp_swI d_Md_count_6 (by decide) rfl rfl, fun _ _ _ _ _ => wp_swI d_Md_count_6 (by decide) rfl rfl, fun _ _ _ _ _ => wp_swI d_Md_count_6 (by decide) rfl rfl, fun _ _ _ _ _ => wp_swI d_Md_count_6 (by decide) rfl rfl, fun _ _ _ _ _ => wp_swI d_Md_count_6 (by decide) rfl rfl⟩
theorem B_Md_count_52 : (∀ (l1 : Value) (x : Nat) (st : List Value) (M : Mm) (Q : Option Value → Mm → Prop), wp F_Md_count 52 [.ref x, l1] st M Q = wp F_Md_count 53 [.ref x, l1] (.ref x :: st) M Q) ∧
  (∀ (l0 l1 : Value) (a : Nat) (st : List Value) (M : Mm) (Q : Option Value → Mm → Prop), wp F_Md_count 53 [l0, l1] (.ref a :: st) M Q = (sh M a = some (.inl 12) ∧ wp F_Md_count 56 [l0, l1] (.int (gI M a 11) :: st) M Q)) ∧
  (∀ (l0 l1 : Value) (v : Int32) (M : Mm) (Q : Option Value → Mm → Prop), wp F_Md_count 56 [l0, l1] [.int v] M Q = Q (some (.int v)) M) := ⟨fun _ _ _ _ _ => wp_in d_Md_count_52 rfl rfl, fun _ _ _ _ _ _ => wp_getI d_Md_count_53 fl_12_81 rfl, fun _ _ _ _ _ => wp_retI d_Md_count_56 rfl⟩
theorem B_Md_count_57 : (∀ (l1 : Value) (x : Nat) (st : List Value) (M : Mm) (Q : Option Value → Mm → Prop), wp F_Md_count 57 [.ref x, l1] st M Q = wp F_Md_count 58 [.ref x, l1] (.ref x :: st) M Q) ∧
  (∀ (l0 l1 : Value) (a : Nat) (st : List Value) (M : Mm) (Q : Option Value → Mm → Prop), wp F_Md_count 58 [l0, l1] (.ref a :: st) M Q = (sh M a = some (.inl 12) ∧ wp F_Md_count 61 [l0, l1] (.int (gI M a 21) :: st) M Q)) ∧
  (∀ (l0 l1 : Value) (v : Int32) (M : Mm) (Q : Option Value → Mm → Prop), wp F_Md_count 61 [l0, l1] [.int v] M Q = Q (some (.int v)) M) := ⟨fun _ _ _ _ _ => wp_in d_Md_count_57 rfl rfl, fun _ _ _ _ _ _ => wp_getI d_Md_count_58 fl_12_87 rfl, fun _ _ _ _ _ => wp_retI d_Md_count_61 rfl⟩
theorem B_Md_count_62 : (∀ (l1 : Value) (x : Nat) (st : List Value) (M : Mm) (Q : Option Value → Mm → Prop), wp F_Md_count 62 [.ref x, l1] st M Q = wp F_Md_count 63 [.ref x, l1] (.ref x :: st) M Q) ∧
  (∀ (l0 l1 : Value) (b : Nat) (M : Mm) (Q : Option Value → Mm → Prop), wp F_Md_count 63 [l0, l1] [.ref b] M Q = (sh M b = some (.inl 12) ∧ wp F_Md_live 0 [.ref b, jk, jk] [] M (fun r M1 => wp F_Md_count 66 [l0, l1] (r.toList ++ []) M1 Q))) ∧
  (∀ (l0 l1 : Value) (v : Int32) (M : Mm) (Q : Option Value → Mm → Prop), wp F_Md_count 66 [l0, l1] [.int v] M Q = Q (some (.int v)) M) := ⟨fun _ _ _ _ _ => wp_in d_Md_count_62 rfl rfl, fun _ _ _ _ _ => wp_callV d_Md_count_63 ml_12_258 rfl rfl rfl, fun _ _ _ _ _ => wp_retI d_Md_count_66 rfl⟩
theorem B_Md_count_67 : (∀ (l1 : Value) (x : Nat) (st : List Value) (M : Mm) (Q : Option Value → Mm → Prop), wp F_Md_count 67 [.ref x, l1] st M Q = wp F_Md_count 68 [.ref x, l1] (.ref x :: st) M Q) ∧
  (∀ (l0 l1 : Value) (a : Nat) (st : List Value) (M : Mm) (Q : Option Value → Mm → Prop), wp F_Md_count 68 [l0, l1] (.ref a :: st) M Q = (sh M a = some (.inl 12) ∧ wp F_Md_count 71 [l0, l1] (.int (gI M a 25) :: st) M Q)) ∧
  (∀ (l0 l1 : Value) (v : Int32) (M : Mm) (Q : Option Value → Mm → Prop), wp F_Md_count 71 [l0, l1] [.int v] M Q = Q (some (.int v)) M) := ⟨fun _ _ _ _ _ => wp_in d_Md_count_67 rfl rfl, fun _ _ _ _ _ _ => wp_getI d_Md_count_68 fl_12_93 rfl, fun _ _ _ _ _ => wp_retI d_Md_count_71 rfl⟩
theorem B_Md_count_72 : (∀ (l1 : Value) (x : Nat) (st : List Value) (M : Mm) (Q : Option Value → Mm → Prop), wp F_Md_count 72 [.ref x, l1] st M Q = wp F_Md_count 73 [.ref x, l1] (.ref x :: st) M Q) ∧
  (∀ (l0 l1 : Value) (a : Nat) (st : List Value) (M : Mm) (Q : Option Value → Mm → Prop), wp F_Md_count 73 [l0, l1] (.ref a :: st) M Q = (sh M a = some (.inl 12) ∧ wp F_Md_count 76 [l0, l1] (.int (gI M a 26) :: st) M Q)) ∧
  (∀ (l0 l1 : Value) (v : Int32) (M : Mm) (Q : Option Value → Mm → Prop), wp F_Md_count 76 [l0, l1] [.int v] M Q = Q (some (.int v)) M) := ⟨fun _ _ _ _ _ => wp_in d_Md_count_72 rfl rfl, fun _ _ _ _ _ _ => wp_getI d_Md_count_73 fl_12_96 rfl, fun _ _ _ _ _ => wp_retI d_Md_count_76 rfl⟩
theorem B_Md_count_77 : (∀ (l1 : Value) (x : Nat) (st : List Value) (M : Mm) (Q : Option Value → Mm → Prop), wp F_Md_count 77 [.ref x, l1] st M Q = wp F_Md_count 78 [.ref x, l1] (.ref x :: st) M Q) ∧
  (∀ (l0 l1 : Value) (b : Nat) (M : Mm) (Q : Option Value → Mm → Prop), wp F_Md_count 78 [l0, l1] [.ref b] M Q = (sh M b = some (.inl 12) ∧ wp F_Md_isComplete 0 [.ref b] [] M (fun r M1 => wp F_Md_count 81 [l0, l1] (r.toList ++ []) M1 Q))) ∧
  (∀ (l0 l1 : Value) (x : Int32) (st : List Value) (M : Mm) (Q : Option Value → Mm → Prop), wp F_Md_count 81 [l0, l1] (.int x :: st) M Q = if x = 0 then wp F_Md_count 88 [l0, l1] st M Q else wp F_Md_count 84 [l0, l1] st M Q) ∧
  (∀ (l0 l1 : Value) (st : List Value) (M : Mm) (Q : Option Value → Mm → Prop), wp F_Md_count 84 [l0, l1] st M Q = wp F_Md_count 85 [l0, l1] (.int 1 :: st) M Q) ∧
  (∀ (l0 l1 : Value) (st : List Value) (M : Mm) (Q : Option Value → Mm → Prop), wp F_Md_count 85 [l0, l1] st M Q = wp F_Md_count 89 [l0, l1] st M Q) := ⟨fun _ _ _ _ _ => wp_in d_Md_count_77 rfl rfl, fun _ _ _ _ _ => wp_callV d_Md_count_78 ml_12_261 rfl rfl rfl, fun _ _ _ _ _ _ => wp_if_eq d_Md_count_81 rfl, fun _ _ _ _ _ => wp_iconst d_Md_count_84 (by decide), fun _ _ _ _ _ => wp_goto d_Md_count_85 rfl⟩
theorem B_Md_count_88 : (∀ (l0 l1 : Value) (st : List Value) (M : Mm) (Q : Option Value → Mm → Prop), wp F_Md_count 88 [l0, l1] st M Q = wp F_Md_count 89 [l0, l1] (.int 0 :: st) M Q) := fun _ _ _ _ _ => wp_iconst d_Md_count_88 (by decide)
theorem B_Md_count_89 : (∀ (l0 l1 : Value) (v : Int32) (M : Mm) (Q : Option Value → Mm → Prop), wp F_Md_count 89 [l0, l1] [.int v] M Q = Q (some (.int v)) M) := fun _ _ _ _ _ => wp_retI d_Md_count_89 rfl
theorem B_Md_count_90 : (∀ (l1 : Value) (x : Nat) (st : List Value) (M : Mm) (Q : Option Value → Mm → Prop), wp F_Md_count 90 [.ref x, l1] st M Q = wp F_Md_count 91 [.ref x, l1] (.ref x :: st) M Q) ∧
  (∀ (l0 l1 : Value) (a : Nat) (st : List Value) (M : Mm) (Q : Option Value → Mm → Prop), wp F_Md_count 91 [l0, l1] (.ref a :: st) M Q = (sh M a = some (.inl 12) ∧ wp F_Md_count 94 [l0, l1] (.int (gI M a 28) :: st) M Q)) ∧
  (∀ (l0 l1 : Value) (x : Int32) (st : List Value) (M : Mm) (Q : Option Value → Mm → Prop), wp F_Md_count 94 [l0, l1] (.int x :: st) M Q = if x = 0 then wp F_Md_count 101 [l0, l1] st M Q else wp F_Md_count 97 [l0, l1] st M Q) ∧
  (∀ (l0 l1 : Value) (st : List Value) (M : Mm) (Q : Option Value → Mm → Prop), wp F_Md_count 97 [l0, l1] st M Q = wp F_Md_count 98 [l0, l1] (.int 1 :: st) M Q) ∧
  (∀ (l0 l1 : Value) (st : List Value) (M : Mm) (Q : Option Value → Mm → Prop), wp F_Md_count 98 [l0, l1] st M Q = wp F_Md_count 102 [l0, l1] st M Q) := ⟨fun _ _ _ _ _ => wp_in d_Md_count_90 rfl rfl, fun _ _ _ _ _ _ => wp_getI d_Md_count_91 fl_12_102 rfl, fun _ _ _ _ _ _ => wp_if_eq d_Md_count_94 rfl, fun _ _ _ _ _ => wp_iconst d_Md_count_97 (by decide), fun _ _ _ _ _ => wp_goto d_Md_count_98 rfl⟩
theorem B_Md_count_101 : (∀ (l0 l1 : Value) (st : List Value) (M : Mm) (Q : Option Value → Mm → Prop), wp F_Md_count 101 [l0, l1] st M Q = wp F_Md_count 102 [l0, l1] (.int 0 :: st) M Q) := fun _ _ _ _ _ => wp_iconst d_Md_count_101 (by decide)
theorem B_Md_count_102 : (∀ (l0 l1 : Value) (v : Int32) (M : Mm) (Q : Option Value → Mm → Prop), wp F_Md_count 102 [l0, l1] [.int v] M Q = Q (some (.int v)) M) := fun _ _ _ _ _ => wp_retI d_Md_count_102 rfl
theorem B_Md_count_103 : (∀ (l1 : Value) (x : Nat) (st : List Value) (M : Mm) (Q : Option Value → Mm → Prop), wp F_Md_count 103 [.ref x, l1] st M Q = wp F_Md_count 104 [.ref x, l1] (.ref x :: st) M Q) ∧
  (∀ (l0 l1 : Value) (a : Nat) (st : List Value) (M : Mm) (Q : Option Value → Mm → Prop), wp F_Md_count 104 [l0, l1] (.ref a :: st) M Q = (sh M a = some (.inl 12) ∧ wp F_Md_count 107 [l0, l1] (.int (gI M a 27) :: st) M Q)) ∧
  (∀ (l0 l1 : Value) (v : Int32) (M : Mm) (Q : Option Value → Mm → Prop), wp F_Md_count 107 [l0, l1] [.int v] M Q = Q (some (.int v)) M) := ⟨fun _ _ _ _ _ => wp_in d_Md_count_103 rfl rfl, fun _ _ _ _ _ _ => wp_getI d_Md_count_104 fl_12_99 rfl, fun _ _ _ _ _ => wp_retI d_Md_count_107 rfl⟩
theorem B_Md_count_108 : (∀ (l0 l1 : Value) (st : List Value) (M : Mm) (Q : Option Value → Mm → Prop), wp F_Md_count 108 [l0, l1] st M Q = wp F_Md_count 110 [l0, l1] (.int (-2) :: st) M Q) ∧
  (∀ (l0 l1 : Value) (v : Int32) (M : Mm) (Q : Option Value → Mm → Prop), wp F_Md_count 110 [l0, l1] [.int v] M Q = Q (some (.int v)) M) := ⟨fun _ _ _ _ _ => wp_bipush d_Md_count_108 (by decide), fun _ _ _ _ _ => wp_retI d_Md_count_110 rfl⟩
theorem sw_Md_count_6 (l0 l1 : Value) (st : List Value) (M : Mm) (Q : Option Value → Mm → Prop) (x : Int32) (h : x.toInt < 0 ∨ 7 < x.toInt) : wp F_Md_count 6 [l0, l1] (.int x :: st) M Q = wp F_Md_count 108 [l0, l1] st M Q := wp_swO d_Md_count_6 rfl h
theorem d_Md_isRule_0 : decode (fnB F_Md_isRule) 0 = .ok (.iload_n 1, 1) := by decide +kernel
theorem d_Md_isRule_1 : decode (fnB F_Md_isRule) 1 = .ok (.i2l, 1) := by decide +kernel
theorem d_Md_isRule_2 : decode (fnB F_Md_isRule) 2 = .ok (.lconst 0, 1) := by decide +kernel
theorem d_Md_isRule_3 : decode (fnB F_Md_isRule) 3 = .ok (.aload_n 0, 1) := by decide +kernel
theorem d_Md_isRule_4 : decode (fnB F_Md_isRule) 4 = .ok (.getfield 87, 3) := by decide +kernel
theorem d_Md_isRule_7 : decode (fnB F_Md_isRule) 7 = .ok (.iconst 1, 1) := by decide +kernel
theorem d_Md_isRule_8 : decode (fnB F_Md_isRule) 8 = .ok (.isub, 1) := by decide +kernel
theorem d_Md_isRule_9 : decode (fnB F_Md_isRule) 9 = .ok (.i2l, 1) := by decide +kernel
theorem d_Md_isRule_10 : decode (fnB F_Md_isRule) 10 = .ok (.invokestatic 9, 3) := by decide +kernel
theorem d_Md_isRule_13 : decode (fnB F_Md_isRule) 13 = .ok (.ireturn, 1) := by decide +kernel
theorem B_Md_isRule_0 : (∀ (l0 : Value) (x : Int32) (st : List Value) (M : Mm) (Q : Option Value → Mm → Prop), wp F_Md_isRule 0 [l0, .int x] st M Q = wp F_Md_isRule 1 [l0, .int x] (.int x :: st) M Q) ∧
  (∀ (l0 l1 : Value) (x : Int32) (st : List Value) (M : Mm) (Q : Option Value → Mm → Prop), wp F_Md_isRule 1 [l0, l1] (.int x :: st) M Q = wp F_Md_isRule 2 [l0, l1] (.long x.toInt64 :: st) M Q) ∧
  (∀ (l0 l1 : Value) (st : List Value) (M : Mm) (Q : Option Value → Mm → Prop), wp F_Md_isRule 2 [l0, l1] st M Q = wp F_Md_isRule 3 [l0, l1] (.long 0 :: st) M Q) ∧
  (∀ (l1 : Value) (x : Nat) (st : List Value) (M : Mm) (Q : Option Value → Mm → Prop), wp F_Md_isRule 3 [.ref x, l1] st M Q = wp F_Md_isRule 4 [.ref x, l1] (.ref x :: st) M Q) ∧
  (∀ (l0 l1 : Value) (a : Nat) (st : List Value) (M : Mm) (Q : Option Value → Mm → Prop), wp F_Md_isRule 4 [l0, l1] (.ref a :: st) M Q = (sh M a = some (.inl 12) ∧ wp F_Md_isRule 7 [l0, l1] (.int (gI M a 21) :: st) M Q)) ∧
  (∀ (l0 l1 : Value) (st : List Value) (M : Mm) (Q : Option Value → Mm → Prop), wp F_Md_isRule 7 [l0, l1] st M Q = wp F_Md_isRule 8 [l0, l1] (.int 1 :: st) M Q) ∧
  (∀ (l0 l1 : Value) (x y : Int32) (st : List Value) (M : Mm) (Q : Option Value → Mm → Prop), wp F_Md_isRule 8 [l0, l1] (.int y :: .int x :: st) M Q = wp F_Md_isRule 9 [l0, l1] (.int (x - y) :: st) M Q) ∧
  (∀ (l0 l1 : Value) (x : Int32) (st : List Value) (M : Mm) (Q : Option Value → Mm → Prop), wp F_Md_isRule 9 [l0, l1] (.int x :: st) M Q = wp F_Md_isRule 10 [l0, l1] (.long x.toInt64 :: st) M Q) ∧
  (∀ (l0 l1 : Value) (p0 : Int64) (p1 : Int64) (p2 : Int64) (M : Mm) (Q : Option Value → Mm → Prop), wp F_Md_isRule 10 [l0, l1] [.long p2, .long p1, .long p0] M Q = wp F_Md_in 0 [.long p0, jk, .long p1, jk, .long p2, jk] [] M (fun r M1 => wp F_Md_isRule 13 [l0, l1] (r.toList ++ []) M1 Q)) ∧
  (∀ (l0 l1 : Value) (v : Int32) (M : Mm) (Q : Option Value → Mm → Prop), wp F_Md_isRule 13 [l0, l1] [.int v] M Q = ((v = 0 ∨ v = 1) ∧ Q (some (.int v)) M)) := ⟨fun _ _ _ _ _ => wp_in d_Md_isRule_0 rfl rfl, fun _ _ _ _ _ _ => wp_in d_Md_isRule_1 rfl rfl, fun _ _ _ _ _ => wp_lconst d_Md_isRule_2 (by decide), fun _ _ _ _ _ => wp_in d_Md_isRule_3 rfl rfl, fun _ _ _ _ _ _ => wp_getI d_Md_isRule_4 fl_12_87 rfl, fun _ _ _ _ _ => wp_iconst d_Md_isRule_7 (by decide), fun _ _ _ _ _ _ _ => wp_in d_Md_isRule_8 rfl rfl, fun _ _ _ _ _ _ => wp_in d_Md_isRule_9 rfl rfl, fun _ _ _ _ _ _ _ => wp_callS d_Md_isRule_10 ml_12_9 (Nat.le_of_ble_eq_true rfl) rfl rfl rfl, fun _ _ _ _ _ => wp_retZ d_Md_isRule_13 rfl⟩
theorem d_Md_rule_0 : decode (fnB F_Md_rule) 0 = .ok (.aload_n 0, 1) := by decide +kernel
theorem d_Md_rule_1 : decode (fnB F_Md_rule) 1 = .ok (.iconst 0, 1) := by decide +kernel
theorem d_Md_rule_2 : decode (fnB F_Md_rule) 2 = .ok (.putfield 1, 3) := by decide +kernel
theorem d_Md_rule_5 : decode (fnB F_Md_rule) 5 = .ok (.aload_n 0, 1) := by decide +kernel
theorem d_Md_rule_6 : decode (fnB F_Md_rule) 6 = .ok (.iload_n 1, 1) := by decide +kernel
theorem d_Md_rule_7 : decode (fnB F_Md_rule) 7 = .ok (.invokevirtual 265, 3) := by decide +kernel
theorem d_Md_rule_10 : decode (fnB F_Md_rule) 10 = .ok (.ifCond .eq 15, 3) := by decide +kernel
theorem d_Md_rule_13 : decode (fnB F_Md_rule) 13 = .ok (.iload_n 2, 1) := by decide +kernel
theorem d_Md_rule_14 : decode (fnB F_Md_rule) 14 = .ok (.i2l, 1) := by decide +kernel
theorem d_Md_rule_15 : decode (fnB F_Md_rule) 15 = .ok (.lconst 0, 1) := by decide +kernel
theorem d_Md_rule_16 : decode (fnB F_Md_rule) 16 = .ok (.ldc2_w 268, 3) := by decide +kernel
theorem d_Md_rule_19 : decode (fnB F_Md_rule) 19 = .ok (.invokestatic 9, 3) := by decide +kernel
theorem d_Md_rule_22 : decode (fnB F_Md_rule) 22 = .ok (.ifCond .ne 6, 3) := by decide +kernel
theorem d_Md_rule_25 : decode (fnB F_Md_rule) 25 = .ok (.bipush (-2), 2) := by decide +kernel
theorem d_Md_rule_27 : decode (fnB F_Md_rule) 27 = .ok (.ireturn, 1) := by decide +kernel
theorem d_Md_rule_28 : decode (fnB F_Md_rule) 28 = .ok (.iload_n 2, 1) := by decide +kernel
theorem d_Md_rule_29 : decode (fnB F_Md_rule) 29 = .ok (.ifCond .ne 20, 3) := by decide +kernel
theorem d_Md_rule_32 : decode (fnB F_Md_rule) 32 = .ok (.aload_n 0, 1) := by decide +kernel
theorem d_Md_rule_33 : decode (fnB F_Md_rule) 33 = .ok (.getfield 152, 3) := by decide +kernel
theorem d_Md_rule_36 : decode (fnB F_Md_rule) 36 = .ok (.iload_n 1, 1) := by decide +kernel
theorem d_Md_rule_37 : decode (fnB F_Md_rule) 37 = .ok (.baload, 1) := by decide +kernel
theorem d_Md_rule_38 : decode (fnB F_Md_rule) 38 = .ok (.ifCond .eq 7, 3) := by decide +kernel
theorem d_Md_rule_41 : decode (fnB F_Md_rule) 41 = .ok (.iconst 1, 1) := by decide +kernel
theorem d_Md_rule_42 : decode (fnB F_Md_rule) 42 = .ok (.goto 27, 3) := by decide +kernel
theorem d_Md_rule_45 : decode (fnB F_Md_rule) 45 = .ok (.iconst 0, 1) := by decide +kernel
theorem d_Md_rule_46 : decode (fnB F_Md_rule) 46 = .ok (.goto 23, 3) := by decide +kernel
theorem d_Md_rule_49 : decode (fnB F_Md_rule) 49 = .ok (.iload_n 2, 1) := by decide +kernel
theorem d_Md_rule_50 : decode (fnB F_Md_rule) 50 = .ok (.iconst 1, 1) := by decide +kernel
theorem d_Md_rule_51 : decode (fnB F_Md_rule) 51 = .ok (.if_icmp .ne 12, 3) := by decide +kernel
theorem d_Md_rule_54 : decode (fnB F_Md_rule) 54 = .ok (.aload_n 0, 1) := by decide +kernel
theorem d_Md_rule_55 : decode (fnB F_Md_rule) 55 = .ok (.getfield 143, 3) := by decide +kernel
theorem d_Md_rule_58 : decode (fnB F_Md_rule) 58 = .ok (.iload_n 1, 1) := by decide +kernel
theorem d_Md_rule_59 : decode (fnB F_Md_rule) 59 = .ok (.iaload, 1) := by decide +kernel
theorem d_Md_rule_60 : decode (fnB F_Md_rule) 60 = .ok (.goto 9, 3) := by decide +kernel
theorem d_Md_rule_63 : decode (fnB F_Md_rule) 63 = .ok (.aload_n 0, 1) := by decide +kernel
theorem d_Md_rule_64 : decode (fnB F_Md_rule) 64 = .ok (.getfield 149, 3) := by decide +kernel
theorem d_Md_rule_67 : decode (fnB F_Md_rule) 67 = .ok (.iload_n 1, 1) := by decide +kernel
theorem d_Md_rule_68 : decode (fnB F_Md_rule) 68 = .ok (.iaload, 1) := by decide +kernel
theorem d_Md_rule_69 : decode (fnB F_Md_rule) 69 = .ok (.ireturn, 1) := by decide +kernel
theorem B_Md_rule_0 : (∀ (l1 l2 : Value) (x : Nat) (st : List Value) (M : Mm) (Q : Option Value → Mm → Prop), wp F_Md_rule 0 [.ref x, l1, l2] st M Q = wp F_Md_rule 1 [.ref x, l1, l2] (.ref x :: st) M Q) ∧
  (∀ (l0 l1 l2 : Value) (st : List Value) (M : Mm) (Q : Option Value → Mm → Prop), wp F_Md_rule 1 [l0, l1, l2] st M Q = wp F_Md_rule 2 [l0, l1, l2] (.int 0 :: st) M Q) ∧
  (∀ (l0 l1 l2 : Value) (a : Nat) (x : Int32) (st : List Value) (M : Mm) (Q : Option Value → Mm → Prop), wp F_Md_rule 2 [l0, l1, l2] (.int x :: .ref a :: st) M Q = (sh M a = some (.inl 12) ∧ wp F_Md_rule 5 [l0, l1, l2] st (sI M a 0 x) Q)) ∧
  (∀ (l1 l2 : Value) (x : Nat) (st : List Value) (M : Mm) (Q : Option Value → Mm → Prop), wp F_Md_rule 5 [.ref x, l1, l2] st M Q = wp F_Md_rule 6 [.ref x, l1, l2] (.ref x :: st) M Q) ∧
  (∀ (l0 l2 : Value) (x : Int32) (st : List Value) (M : Mm) (Q : Option Value → Mm → Prop), wp F_Md_rule 6 [l0, .int x, l2] st M Q = wp F_Md_rule 7 [l0, .int x, l2] (.int x :: st) M Q) ∧
  (∀ (l0 l1 l2 : Value) (b : Nat) (p0 : Int32) (M : Mm) (Q : Option Value → Mm → Prop), wp F_Md_rule 7 [l0, l1, l2] [.int p0, .ref b] M Q = (sh M b = some (.inl 12) ∧ wp F_Md_isRule 0 [.ref b, .int p0] [] M (fun r M1 => wp F_Md_rule 10 [l0, l1, l2] (r.toList ++ []) M1 Q))) ∧
  (∀ (l0 l1 l2 : Value) (x : Int32) (st : List Value) (M : Mm) (Q : Option Value → Mm → Prop), wp F_Md_rule 10 [l0, l1, l2] (.int x :: st) M Q = if x = 0 then wp F_Md_rule 25 [l0, l1, l2] st M Q else wp F_Md_rule 13 [l0, l1, l2] st M Q) ∧
  (∀ (l0 l1 : Value) (x : Int32) (st : List Value) (M : Mm) (Q : Option Value → Mm → Prop), wp F_Md_rule 13 [l0, l1, .int x] st M Q = wp F_Md_rule 14 [l0, l1, .int x] (.int x :: st) M Q) ∧
  (∀ (l0 l1 l2 : Value) (x : Int32) (st : List Value) (M : Mm) (Q : Option Value → Mm → Prop), wp F_Md_rule 14 [l0, l1, l2] (.int x :: st) M Q = wp F_Md_rule 15 [l0, l1, l2] (.long x.toInt64 :: st) M Q) ∧
  (∀ (l0 l1 l2 : Value) (st : List Value) (M : Mm) (Q : Option Value → Mm → Prop), wp F_Md_rule 15 [l0, l1, l2] st M Q = wp F_Md_rule 16 [l0, l1, l2] (.long 0 :: st) M Q) ∧
  (∀ (l0 l1 l2 : Value) (st : List Value) (M : Mm) (Q : Option Value → Mm → Prop), wp F_Md_rule 16 [l0, l1, l2] st M Q = wp F_Md_rule 19 [l0, l1, l2] (.long 2 :: st) M Q) ∧
  (∀ (l0 l1 l2 : Value) (p0 : Int64) (p1 : Int64) (p2 : Int64) (M : Mm) (Q : Option Value → Mm → Prop), wp F_Md_rule 19 [l0, l1, l2] [.long p2, .long p1, .long p0] M Q = wp F_Md_in 0 [.long p0, jk, .long p1, jk, .long p2, jk] [] M (fun r M1 => wp F_Md_rule 22 [l0, l1, l2] (r.toList ++ []) M1 Q)) ∧
  (∀ (l0 l1 l2 : Value) (x : Int32) (st : List Value) (M : Mm) (Q : Option Value → Mm → Prop), wp F_Md_rule 22 [l0, l1, l2] (.int x :: st) M Q = if x = 0 then wp F_Md_rule 25 [l0, l1, l2] st M Q else wp F_Md_rule 28 [l0, l1, l2] st M Q) := ⟨fun _ _ _ _ _ _ => wp_in d_Md_rule_0 rfl rfl, fun _ _ _ _ _ _ => wp_iconst d_Md_rule_1 (by decide), fun _ _ _ _ _ _ _ _ => wp_putI d_Md_rule_2 fl_12_1 rfl rfl, fun _ _ _ _ _ _ => wp_in d_Md_rule_5 rfl rfl, fun _ _ _ _ _ _ => wp_in d_Md_rule_6 rfl rfl, fun _ _ _ _ _ _ _ => wp_callV d_Md_rule_7 ml_12_265 rfl rfl rfl, fun _ _ _ _ _ _ _ => wp_if_eq d_Md_rule_10 rfl, fun _ _ _ _ _ _ => wp_in d_Md_rule_13 rfl rfl, fun _ _ _ _ _ _ _ => wp_in d_Md_rule_14 rfl rfl, fun _ _ _ _ _ _ => wp_lconst d_Md_rule_15 (by decide), fun _ _ _ _ _ _ => wp_ldc2 d_Md_rule_16 ll_12_268, fun _ _ _ _ _ _ _ _ => wp_callS d_Md_rule_19 ml_12_9 (Nat.le_of_ble_eq_true rfl) rfl rfl rfl, fun _ _ _ _ _ _ _ => wp_if_ne d_Md_rule_22 rfl⟩
theorem B_Md_rule_25 : (∀ (l0 l1 l2 : Value) (st : List Value) (M : Mm) (Q : Option Value → Mm → Prop), wp F_Md_rule 25 [l0, l1, l2] st M Q = wp F_Md_rule 27 [l0, l1, l2] (.int (-2) :: st) M Q) ∧
  (∀ (l0 l1 l2 : Value) (v : Int32) (M : Mm) (Q : Option Value → Mm → Prop), wp F_Md_rule 27 [l0, l1, l2] [.int v] M Q = Q (some (.int v)) M) := ⟨fun _ _ _ _ _ _ => wp_bipush d_Md_rule_25 (by decide), fun _ _ _ _ _ _ => wp_retI d_Md_rule_27 rfl⟩
theorem B_Md_rule_28 : (∀ (l0 l1 : Value) (x : Int32) (st : List Value) (M : Mm) (Q : Option Value → Mm → Prop), wp F_Md_rule 28 [l0, l1, .int x] st M Q = wp F_Md_rule 29 [l0, l1, .int x] (.int x :: st) M Q) ∧
  (∀ (l0 l1 l2 : Value) (x : Int32) (st : List Value) (M : Mm) (Q : Option Value → Mm → Prop), wp F_Md_rule 29 [l0, l1, l2] (.int x :: st) M Q = if x = 0 then wp F_Md_rule 32 [l0, l1, l2] st M Q else wp F_Md_rule 49 [l0, l1, l2] st M Q) ∧
  (∀ (l1 l2 : Value) (x : Nat) (st : List Value) (M : Mm) (Q : Option Value → Mm → Prop), wp F_Md_rule 32 [.ref x, l1, l2] st M Q = wp F_Md_rule 33 [.ref x, l1, l2] (.ref x :: st) M Q) ∧
  (∀ (l0 l1 l2 : Value) (a : Nat) (st : List Value) (M : Mm) (Q : Option Value → Mm → Prop), wp F_Md_rule 33 [l0, l1, l2] (.ref a :: st) M Q = (sh M a = some (.inl 12) ∧ wp F_Md_rule 36 [l0, l1, l2] (va_rf (gR M a 20) :: st) M Q)) ∧
  (∀ (l0 l2 : Value) (x : Int32) (st : List Value) (M : Mm) (Q : Option Value → Mm → Prop), wp F_Md_rule 36 [l0, .int x, l2] st M Q = wp F_Md_rule 37 [l0, .int x, l2] (.int x :: st) M Q) ∧
  (∀ (l0 l1 l2 : Value) (a : Nat) (j : Int32) (st : List Value) (M : Mm) (Q : Option Value → Mm → Prop), wp F_Md_rule 37 [l0, l1, l2] (.int j :: .ref a :: st) M Q = (ixB M a j ∧ wp F_Md_rule 38 [l0, l1, l2] (.int (gI M a (cl j)) :: st) M Q)) ∧
  (∀ (l0 l1 l2 : Value) (x : Int32) (st : List Value) (M : Mm) (Q : Option Value → Mm → Prop), wp F_Md_rule 38 [l0, l1, l2] (.int x :: st) M Q = if x = 0 then wp F_Md_rule 45 [l0, l1, l2] st M Q else wp F_Md_rule 41 [l0, l1, l2] st M Q) ∧
  (∀ (l0 l1 l2 : Value) (st : List Value) (M : Mm) (Q : Option Value → Mm → Prop), wp F_Md_rule 41 [l0, l1, l2] st M Q = wp F_Md_rule 42 [l0, l1, l2] (.int 1 :: st) M Q) ∧
  (∀ (l0 l1 l2 : Value) (st : List Value) (M : Mm) (Q : Option Value → Mm → Prop), wp F_Md_rule 42 [l0, l1, l2] st M Q = wp F_Md_rule 69 [l0, l1, l2] st M Q) := ⟨fun _ _ _ _ _ _ => wp_in d_Md_rule_28 rfl rfl, fun _ _ _ _ _ _ _ => wp_if_ne d_Md_rule_29 rfl, fun _ _ _ _ _ _ => wp_in d_Md_rule_32 rfl rfl, fun _ _ _ _ _ _ _ => wp_getA d_Md_rule_33 fl_12_152 rfl, fun _ _ _ _ _ _ => wp_in d_Md_rule_36 rfl rfl, fun _ _ _ _ _ _ _ _ => wp_bald d_Md_rule_37, fun _ _ _ _ _ _ _ => wp_if_eq d_Md_rule_38 rfl, fun _ _ _ _ _ _ => wp_iconst d_Md_rule_41 (by decide), fun _ _ _ _ _ _ => wp_goto d_Md_rule_42 rfl⟩
theorem B_Md_rule_45 : (∀ (l0 l1 l2 : Value) (st : List Value) (M : Mm) (Q : Option Value → Mm → Prop), wp F_Md_rule 45 [l0, l1, l2] st M Q = wp F_Md_rule 46 [l0, l1, l2] (.int 0 :: st) M Q) ∧
  (∀ (l0 l1 l2 : Value) (st : List Value) (M : Mm) (Q : Option Value → Mm → Prop), wp F_Md_rule 46 [l0, l1, l2] st M Q = wp F_Md_rule 69 [l0, l1, l2] st M Q) := ⟨fun _ _ _ _ _ _ => wp_iconst d_Md_rule_45 (by decide), fun _ _ _ _ _ _ => wp_goto d_Md_rule_46 rfl⟩
theorem B_Md_rule_49 : (∀ (l0 l1 : Value) (x : Int32) (st : List Value) (M : Mm) (Q : Option Value → Mm → Prop), wp F_Md_rule 49 [l0, l1, .int x] st M Q = wp F_Md_rule 50 [l0, l1, .int x] (.int x :: st) M Q) ∧
  (∀ (l0 l1 l2 : Value) (st : List Value) (M : Mm) (Q : Option Value → Mm → Prop), wp F_Md_rule 50 [l0, l1, l2] st M Q = wp F_Md_rule 51 [l0, l1, l2] (.int 1 :: st) M Q) ∧
  (∀ (l0 l1 l2 : Value) (x y : Int32) (st : List Value) (M : Mm) (Q : Option Value → Mm → Prop), wp F_Md_rule 51 [l0, l1, l2] (.int y :: .int x :: st) M Q = if x = y then wp F_Md_rule 54 [l0, l1, l2] st M Q else wp F_Md_rule 63 [l0, l1, l2] st M Q) ∧
  (∀ (l1 l2 : Value) (x : Nat) (st : List Value) (M : Mm) (Q : Option Value → Mm → Prop), wp F_Md_rule 54 [.ref x, l1, l2] st M Q = wp F_Md_rule 55 [.ref x, l1, l2] (.ref x :: st) M Q) ∧
  (∀ (l0 l1 l2 : Value) (a : Nat) (st : List Value) (M : Mm) (Q : Option Value → Mm → Prop), wp F_Md_rule 55 [l0, l1, l2] (.ref a :: st) M Q = (sh M a = some (.inl 12) ∧ wp F_Md_rule 58 [l0, l1, l2] (va_rf (gR M a 17) :: st) M Q)) ∧
  (∀ (l0 l2 : Value) (x : Int32) (st : List Value) (M : Mm) (Q : Option Value → Mm → Prop), wp F_Md_rule 58 [l0, .int x, l2] st M Q = wp F_Md_rule 59 [l0, .int x, l2] (.int x :: st) M Q) ∧
  (∀ (l0 l1 l2 : Value) (a : Nat) (j : Int32) (st : List Value) (M : Mm) (Q : Option Value → Mm → Prop), wp F_Md_rule 59 [l0, l1, l2] (.int j :: .ref a :: st) M Q = (ixI M a j ∧ wp F_Md_rule 60 [l0, l1, l2] (.int (gI M a (cl j)) :: st) M Q)) ∧
  (∀ (l0 l1 l2 : Value) (st : List Value) (M : Mm) (Q : Option Value → Mm → Prop), wp F_Md_rule 60 [l0, l1, l2] st M Q = wp F_Md_rule 69 [l0, l1, l2] st M Q) := ⟨fun _ _ _ _ _ _ => wp_in d_Md_rule_49 rfl rfl, fun _ _ _ _ _ _ => wp_iconst d_Md_rule_50 (by decide), fun _ _ _ _ _ _ _ _ => wp_icmp_ne d_Md_rule_51 rfl, fun _ _ _ _ _ _ => wp_in d_Md_rule_54 rfl rfl, fun _ _ _ _ _ _ _ => wp_getA d_Md_rule_55 fl_12_143 rfl, fun _ _ _ _ _ _ => wp_in d_Md_rule_58 rfl rfl, fun _ _ _ _ _ _ _ _ => wp_iald d_Md_rule_59, fun _ _ _ _ _ _ => wp_goto d_Md_rule_60 rfl⟩
theorem B_Md_rule_63 : (∀ (l1 l2 : Value) (x : Nat) (st : List Value) (M : Mm) (Q : Option Value → Mm → Prop), wp F_Md_rule 63 [.ref x, l1, l2] st M Q = wp F_Md_rule 64 [.ref x, l1, l2] (.ref x :: st) M Q) ∧
  (∀ (l0 l1 l2 : Value) (a : Nat) (st : List Value) (M : Mm) (Q : Option Value → Mm → Prop), wp F_Md_rule 64 [l0, l1, l2] (.ref a :: st) M Q = (sh M a = some (.inl 12) ∧ wp F_Md_rule 67 [l0, l1, l2] (va_rf (gR M a 19) :: st) M Q)) ∧
  (∀ (l0 l2 : Value) (x : Int32) (st : List Value) (M : Mm) (Q : Option Value → Mm → Prop), wp F_Md_rule 67 [l0, .int x, l2] st M Q = wp F_Md_rule 68 [l0, .int x, l2] (.int x :: st) M Q) ∧
  (∀ (l0 l1 l2 : Value) (a : Nat) (j : Int32) (st : List Value) (M : Mm) (Q : Option Value → Mm → Prop), wp F_Md_rule 68 [l0, l1, l2] (.int j :: .ref a :: st) M Q = (ixI M a j ∧ wp F_Md_rule 69 [l0, l1, l2] (.int (gI M a (cl j)) :: st) M Q)) := ⟨fun _ _ _ _ _ _ => wp_in d_Md_rule_63 rfl rfl, fun _ _ _ _ _ _ _ => wp_getA d_Md_rule_64 fl_12_149 rfl, fun _ _ _ _ _ _ => wp_in d_Md_rule_67 rfl rfl, fun _ _ _ _ _ _ _ _ => wp_iald d_Md_rule_68⟩
theorem B_Md_rule_69 : (∀ (l0 l1 l2 : Value) (v : Int32) (M : Mm) (Q : Option Value → Mm → Prop), wp F_Md_rule 69 [l0, l1, l2] [.int v] M Q = Q (some (.int v)) M) := fun _ _ _ _ _ _ => wp_retI d_Md_rule_69 rfl
theorem d_Md_ruleLetter_0 : decode (fnB F_Md_ruleLetter) 0 = .ok (.aload_n 0, 1) := by decide +kernel
theorem d_Md_ruleLetter_1 : decode (fnB F_Md_ruleLetter) 1 = .ok (.iconst 0, 1) := by decide +kernel
theorem d_Md_ruleLetter_2 : decode (fnB F_Md_ruleLetter) 2 = .ok (.putfield 1, 3) := by decide +kernel
theorem d_Md_ruleLetter_5 : decode (fnB F_Md_ruleLetter) 5 = .ok (.aload_n 0, 1) := by decide +kernel
theorem d_Md_ruleLetter_6 : decode (fnB F_Md_ruleLetter) 6 = .ok (.iload_n 1, 1) := by decide +kernel
theorem d_Md_ruleLetter_7 : decode (fnB F_Md_ruleLetter) 7 = .ok (.invokevirtual 265, 3) := by decide +kernel
theorem d_Md_ruleLetter_10 : decode (fnB F_Md_ruleLetter) 10 = .ok (.ifCond .eq 13, 3) := by decide +kernel
theorem d_Md_ruleLetter_13 : decode (fnB F_Md_ruleLetter) 13 = .ok (.iload_n 2, 1) := by decide +kernel
theorem d_Md_ruleLetter_14 : decode (fnB F_Md_ruleLetter) 14 = .ok (.i2l, 1) := by decide +kernel
theorem d_Md_ruleLetter_15 : decode (fnB F_Md_ruleLetter) 15 = .ok (.lconst 0, 1) := by decide +kernel
theorem d_Md_ruleLetter_16 : decode (fnB F_Md_ruleLetter) 16 = .ok (.lconst 1, 1) := by decide +kernel
theorem d_Md_ruleLetter_17 : decode (fnB F_Md_ruleLetter) 17 = .ok (.invokestatic 9, 3) := by decide +kernel
theorem d_Md_ruleLetter_20 : decode (fnB F_Md_ruleLetter) 20 = .ok (.ifCond .ne 6, 3) := by decide +kernel
theorem d_Md_ruleLetter_23 : decode (fnB F_Md_ruleLetter) 23 = .ok (.bipush (-2), 2) := by decide +kernel
theorem d_Md_ruleLetter_25 : decode (fnB F_Md_ruleLetter) 25 = .ok (.ireturn, 1) := by decide +kernel
theorem d_Md_ruleLetter_26 : decode (fnB F_Md_ruleLetter) 26 = .ok (.iload_n 2, 1) := by decide +kernel
theorem d_Md_ruleLetter_27 : decode (fnB F_Md_ruleLetter) 27 = .ok (.ifCond .ne 12, 3) := by decide +kernel
theorem d_Md_ruleLetter_30 : decode (fnB F_Md_ruleLetter) 30 = .ok (.aload_n 0, 1) := by decide +kernel
theorem d_Md_ruleLetter_31 : decode (fnB F_Md_ruleLetter) 31 = .ok (.getfield 143, 3) := by decide +kernel
theorem d_Md_ruleLetter_34 : decode (fnB F_Md_ruleLetter) 34 = .ok (.iload_n 1, 1) := by decide +kernel
theorem d_Md_ruleLetter_35 : decode (fnB F_Md_ruleLetter) 35 = .ok (.iaload, 1) := by decide +kernel
theorem d_Md_ruleLetter_36 : decode (fnB F_Md_ruleLetter) 36 = .ok (.goto 9, 3) := by decide +kernel
theorem d_Md_ruleLetter_39 : decode (fnB F_Md_ruleLetter) 39 = .ok (.aload_n 0, 1) := by decide +kernel
theorem d_Md_ruleLetter_40 : decode (fnB F_Md_ruleLetter) 40 = .ok (.getfield 149, 3) := by decide +kernel
theorem d_Md_ruleLetter_43 : decode (fnB F_Md_ruleLetter) 43 = .ok (.iload_n 1, 1) := by decide +kernel
theorem d_Md_ruleLetter_44 : decode (fnB F_Md_ruleLetter) 44 = .ok (.iaload, 1) := by decide +kernel
theorem d_Md_ruleLetter_45 : decode (fnB F_Md_ruleLetter) 45 = .ok (.istore 4, 2) := by decide +kernel
theorem d_Md_ruleLetter_47 : decode (fnB F_Md_ruleLetter) 47 = .ok (.iload_n 3, 1) := by decide +kernel
theorem d_Md_ruleLetter_48 : decode (fnB F_Md_ruleLetter) 48 = .ok (.i2l, 1) := by decide +kernel
theorem d_Md_ruleLetter_49 : decode (fnB F_Md_ruleLetter) 49 = .ok (.lconst 0, 1) := by decide +kernel
theorem d_Md_ruleLetter_50 : decode (fnB F_Md_ruleLetter) 50 = .ok (.iload 4, 2) := by decide +kernel
theorem d_Md_ruleLetter_52 : decode (fnB F_Md_ruleLetter) 52 = .ok (.iconst 1, 1) := by decide +kernel
theorem d_Md_ruleLetter_53 : decode (fnB F_Md_ruleLetter) 53 = .ok (.isub, 1) := by decide +kernel
theorem d_Md_ruleLetter_54 : decode (fnB F_Md_ruleLetter) 54 = .ok (.i2l, 1) := by decide +kernel
theorem d_Md_ruleLetter_55 : decode (fnB F_Md_ruleLetter) 55 = .ok (.invokestatic 9, 3) := by decide +kernel
theorem d_Md_ruleLetter_58 : decode (fnB F_Md_ruleLetter) 58 = .ok (.ifCond .ne 7, 3) := by decide +kernel
theorem d_Md_ruleLetter_61 : decode (fnB F_Md_ruleLetter) 61 = .ok (.iconst (-1), 1) := by decide +kernel
theorem d_Md_ruleLetter_62 : decode (fnB F_Md_ruleLetter) 62 = .ok (.goto 32, 3) := by decide +kernel
theorem d_Md_ruleLetter_65 : decode (fnB F_Md_ruleLetter) 65 = .ok (.iload_n 2, 1) := by decide +kernel
theorem d_Md_ruleLetter_66 : decode (fnB F_Md_ruleLetter) 66 = .ok (.ifCond .ne 17, 3) := by decide +kernel
theorem d_Md_ruleLetter_69 : decode (fnB F_Md_ruleLetter) 69 = .ok (.aload_n 0, 1) := by decide +kernel
theorem d_Md_ruleLetter_70 : decode (fnB F_Md_ruleLetter) 70 = .ok (.getfield 140, 3) := by decide +kernel
theorem d_Md_ruleLetter_73 : decode (fnB F_Md_ruleLetter) 73 = .ok (.bipush 60, 2) := by decide +kernel
theorem d_Md_ruleLetter_75 : decode (fnB F_Md_ruleLetter) 75 = .ok (.iload_n 1, 1) := by decide +kernel
theorem d_Md_ruleLetter_76 : decode (fnB F_Md_ruleLetter) 76 = .ok (.imul, 1) := by decide +kernel
theorem d_Md_ruleLetter_77 : decode (fnB F_Md_ruleLetter) 77 = .ok (.iload_n 3, 1) := by decide +kernel
theorem d_Md_ruleLetter_78 : decode (fnB F_Md_ruleLetter) 78 = .ok (.iadd, 1) := by decide +kernel
theorem d_Md_ruleLetter_79 : decode (fnB F_Md_ruleLetter) 79 = .ok (.iaload, 1) := by decide +kernel
theorem d_Md_ruleLetter_80 : decode (fnB F_Md_ruleLetter) 80 = .ok (.goto 14, 3) := by decide +kernel
theorem d_Md_ruleLetter_83 : decode (fnB F_Md_ruleLetter) 83 = .ok (.aload_n 0, 1) := by decide +kernel
theorem d_Md_ruleLetter_84 : decode (fnB F_Md_ruleLetter) 84 = .ok (.getfield 146, 3) := by decide +kernel
theorem d_Md_ruleLetter_87 : decode (fnB F_Md_ruleLetter) 87 = .ok (.bipush 60, 2) := by decide +kernel
theorem d_Md_ruleLetter_89 : decode (fnB F_Md_ruleLetter) 89 = .ok (.iload_n 1, 1) := by decide +kernel
theorem d_Md_ruleLetter_90 : decode (fnB F_Md_ruleLetter) 90 = .ok (.imul, 1) := by decide +kernel
theorem d_Md_ruleLetter_91 : decode (fnB F_Md_ruleLetter) 91 = .ok (.iload_n 3, 1) := by decide +kernel
theorem d_Md_ruleLetter_92 : decode (fnB F_Md_ruleLetter) 92 = .ok (.iadd, 1) := by decide +kernel
theorem d_Md_ruleLetter_93 : decode (fnB F_Md_ruleLetter) 93 = .ok (.iaload, 1) := by decide +kernel
theorem d_Md_ruleLetter_94 : decode (fnB F_Md_ruleLetter) 94 = .ok (.ireturn, 1) := by decide +kernel
theorem B_Md_ruleLetter_0 : (∀ (l1 l2 l3 l4 : Value) (x : Nat) (st : List Value) (M : Mm) (Q : Option Value → Mm → Prop), wp F_Md_ruleLetter 0 [.ref x, l1, l2, l3, l4] st M Q = wp F_Md_ruleLetter 1 [.ref x, l1, l2, l3, l4] (.ref x :: st) M Q) ∧
  (∀ (l0 l1 l2 l3 l4 : Value) (st : List Value) (M : Mm) (Q : Option Value → Mm → Prop), wp F_Md_ruleLetter 1 [l0, l1, l2, l3, l4] st M Q = wp F_Md_ruleLetter 2 [l0, l1, l2, l3, l4] (.int 0 :: st) M Q) ∧
  (∀ (l0 l1 l2 l3 l4 : Value) (a : Nat) (x : Int32) (st : List Value) (M : Mm) (Q : Option Value → Mm → Prop), wp F_Md_ruleLetter 2 [l0, l1, l2, l3, l4] (.int x :: .ref a :: st) M Q = (sh M a = some (.inl 12) ∧ wp F_Md_ruleLetter 5 [l0, l1, l2, l3, l4] st (sI M a 0 x) Q)) ∧
  (∀ (l1 l2 l3 l4 : Value) (x : Nat) (st : List Value) (M : Mm) (Q : Option Value → Mm → Prop), wp F_Md_ruleLetter 5 [.ref x, l1, l2, l3, l4] st M Q = wp F_Md_ruleLetter 6 [.ref x, l1, l2, l3, l4] (.ref x :: st) M Q) ∧
  (∀ (l0 l2 l3 l4 : Value) (x : Int32) (st : List Value) (M : Mm) (Q : Option Value → Mm → Prop), wp F_Md_ruleLetter 6 [l0, .int x, l2, l3, l4] st M Q = wp F_Md_ruleLetter 7 [l0, .int x, l2, l3, l4] (.int x :: st) M Q) ∧
  (∀ (l0 l1 l2 l3 l4 : Value) (b : Nat) (p0 : Int32) (M : Mm) (Q : Option Value → Mm → Prop), wp F_Md_ruleLetter 7 [l0, l1, l2, l3, l4] [.int p0, .ref b] M Q = (sh M b = some (.inl 12) ∧ wp F_Md_isRule 0 [.ref b, .int p0] [] M (fun r M1 => wp F_Md_ruleLetter 10 [l0, l1, l2, l3, l4] (r.toList ++ []) M1 Q))) ∧
  (∀ (l0 l1 l2 l3 l4 : Value) (x : Int32) (st : List Value) (M : Mm) (Q : Option Value → Mm → Prop), wp F_Md_ruleLetter 10 [l0, l1, l2, l3, l4] (.int x :: st) M Q = if x = 0 then wp F_Md_ruleLetter 23 [l0, l1, l2, l3, l4] st M Q else wp F_Md_ruleLetter 13 [l0, l1, l2, l3, l4] st M Q) ∧
  (∀ (l0 l1 l3 l4 : Value) (x : Int32) (st : List Value) (M : Mm) (Q : Option Value → Mm → Prop), wp F_Md_ruleLetter 13 [l0, l1, .int x, l3, l4] st M Q = wp F_Md_ruleLetter 14 [l0, l1, .int x, l3, l4] (.int x :: st) M Q) ∧
  (∀ (l0 l1 l2 l3 l4 : Value) (x : Int32) (st : List Value) (M : Mm) (Q : Option Value → Mm → Prop), wp F_Md_ruleLetter 14 [l0, l1, l2, l3, l4] (.int x :: st) M Q = wp F_Md_ruleLetter 15 [l0, l1, l2, l3, l4] (.long x.toInt64 :: st) M Q) ∧
  (∀ (l0 l1 l2 l3 l4 : Value) (st : List Value) (M : Mm) (Q : Option Value → Mm → Prop), wp F_Md_ruleLetter 15 [l0, l1, l2, l3, l4] st M Q = wp F_Md_ruleLetter 16 [l0, l1, l2, l3, l4] (.long 0 :: st) M Q) ∧
  (∀ (l0 l1 l2 l3 l4 : Value) (st : List Value) (M : Mm) (Q : Option Value → Mm → Prop), wp F_Md_ruleLetter 16 [l0, l1, l2, l3, l4] st M Q = wp F_Md_ruleLetter 17 [l0, l1, l2, l3, l4] (.long 1 :: st) M Q) ∧
  (∀ (l0 l1 l2 l3 l4 : Value) (p0 : Int64) (p1 : Int64) (p2 : Int64) (M : Mm) (Q : Option Value → Mm → Prop), wp F_Md_ruleLetter 17 [l0, l1, l2, l3, l4] [.long p2, .long p1, .long p0] M Q = wp F_Md_in 0 [.long p0, jk, .long p1, jk, .long p2, jk] [] M (fun r M1 => wp F_Md_ruleLetter 20 [l0, l1, l2, l3, l4] (r.toList ++ []) M1 Q)) ∧
  (∀ (l0 l1 l2 l3 l4 : Value) (x : Int32) (st : List Value) (M : Mm) (Q : Option Value → Mm → Prop), wp F_Md_ruleLetter 20 [l0, l1, l2, l3, l4] (.int x :: st) M Q = if x = 0 then wp F_Md_ruleLetter 23 [l0, l1, l2, l3, l4] st M Q else wp F_Md_ruleLetter 26 [l0, l1, l2, l3, l4] st M Q) := ⟨fun _ _ _ _ _ _ _ _ => wp_in d_Md_ruleLetter_0 rfl rfl, fun _ _ _ _ _ _ _ _ => wp_iconst d_Md_ruleLetter_1 (by decide), fun _ _ _ _ _ _ _ _ _ _ => wp_putI d_Md_ruleLetter_2 fl_12_1 rfl rfl, fun _ _ _ _ _ _ _ _ => wp_in d_Md_ruleLetter_5 rfl rfl, fun _ _ _ _ _ _ _ _ => wp_in d_Md_ruleLetter_6 rfl rfl, fun _ _ _ _ _ _ _ _ _ => wp_callV d_Md_ruleLetter_7 ml_12_265 rfl rfl rfl, fun _ _ _ _ _ _ _ _ _ => wp_if_eq d_Md_ruleLetter_10 rfl, fun _ _ _ _ _ _ _ _ => wp_in d_Md_ruleLetter_13 rfl rfl, fun _ _ _ _ _ _ _ _ _ => wp_in d_Md_ruleLetter_14 rfl rfl, fun _ _ _ _ _ _ _ _ => wp_lconst d_Md_ruleLetter_15 (by decide), fun _ _ _ _ _ _ _ _ => wp_lconst d_Md_ruleLetter_16 (by decide), fun _ _ _ _ _ _ _ _ _ _ => wp_callS d_Md_ruleLetter_17 ml_12_9 (Nat.le_of_ble_eq_true rfl) rfl rfl rfl, fun _ _ _ _ _ _ _ _ _ => wp_if_ne d_Md_ruleLetter_20 rfl⟩
theorem B_Md_ruleLetter_23 : (∀ (l0 l1 l2 l3 l4 : Value) (st : List Value) (M : Mm) (Q : Option Value → Mm → Prop), wp F_Md_ruleLetter 23 [l0, l1, l2, l3, l4] st M Q = wp F_Md_ruleLetter 25 [l0, l1, l2, l3, l4] (.int (-2) :: st) M Q) ∧
  (∀ (l0 l1 l2 l3 l4 : Value) (v : Int32) (M : Mm) (Q : Option Value → Mm → Prop), wp F_Md_ruleLetter 25 [l0, l1, l2, l3, l4] [.int v] M Q = Q (some (.int v)) M) := ⟨fun _ _ _ _ _ _ _ _ => wp_bipush d_Md_ruleLetter_23 (by decide), fun _ _ _ _ _ _ _ _ => wp_retI d_Md_ruleLetter_25 rfl⟩
theorem B_Md_ruleLetter_26 : (∀ (l0 l1 l3 l4 : Value) (x : Int32) (st : List Value) (M : Mm) (Q : Option Value → Mm → Prop), wp F_Md_ruleLetter 26 [l0, l1, .int x, l3, l4] st M Q = wp F_Md_ruleLetter 27 [l0, l1, .int x, l3, l4] (.int x :: st) M Q) ∧
  (∀ (l0 l1 l2 l3 l4 : Value) (x : Int32) (st : List Value) (M : Mm) (Q : Option Value → Mm → Prop), wp F_Md_ruleLetter 27 [l0, l1, l2, l3, l4] (.int x :: st) M Q = if x = 0 then wp F_Md_ruleLetter 30 [l0, l1, l2, l3, l4] st M Q else wp F_Md_ruleLetter 39 [l0, l1, l2, l3, l4] st M Q) ∧
  (∀ (l1 l2 l3 l4 : Value) (x : Nat) (st : List Value) (M : Mm) (Q : Option Value → Mm → Prop), wp F_Md_ruleLetter 30 [.ref x, l1, l2, l3, l4] st M Q = wp F_Md_ruleLetter 31 [.ref x, l1, l2, l3, l4] (.ref x :: st) M Q) ∧
  (∀ (l0 l1 l2 l3 l4 : Value) (a : Nat) (st : List Value) (M : Mm) (Q : Option Value → Mm → Prop), wp F_Md_ruleLetter 31 [l0, l1, l2, l3, l4] (.ref a :: st) M Q = (sh M a = some (.inl 12) ∧ wp F_Md_ruleLetter 34 [l0, l1, l2, l3, l4] (va_rf (gR M a 17) :: st) M Q)) ∧
  (∀ (l0 l2 l3 l4 : Value) (x : Int32) (st : List Value) (M : Mm) (Q : Option Value → Mm → Prop), wp F_Md_ruleLetter 34 [l0, .int x, l2, l3, l4] st M Q = wp F_Md_ruleLetter 35 [l0, .int x, l2, l3, l4] (.int x :: st) M Q) ∧
  (∀ (l0 l1 l2 l3 l4 : Value) (a : Nat) (j : Int32) (st : List Value) (M : Mm) (Q : Option Value → Mm → Prop), wp F_Md_ruleLetter 35 [l0, l1, l2, l3, l4] (.int j :: .ref a :: st) M Q = (ixI M a j ∧ wp F_Md_ruleLetter 36 [l0, l1, l2, l3, l4] (.int (gI M a (cl j)) :: st) M Q)) ∧
  (∀ (l0 l1 l2 l3 l4 : Value) (st : List Value) (M : Mm) (Q : Option Value → Mm → Prop), wp F_Md_ruleLetter 36 [l0, l1, l2, l3, l4] st M Q = wp F_Md_ruleLetter 45 [l0, l1, l2, l3, l4] st M Q) := ⟨fun _ _ _ _ _ _ _ _ => wp_in d_Md_ruleLetter_26 rfl rfl, fun _ _ _ _ _ _ _ _ _ => wp_if_ne d_Md_ruleLetter_27 rfl, fun _ _ _ _ _ _ _ _ => wp_in d_Md_ruleLetter_30 rfl rfl, fun _ _ _ _ _ _ _ _ _ => wp_getA d_Md_ruleLetter_31 fl_12_143 rfl, fun _ _ _ _ _ _ _ _ => wp_in d_Md_ruleLetter_34 rfl rfl, fun _ _ _ _ _ _ _ _ _ _ => wp_iald d_Md_ruleLetter_35, fun _ _ _ _ _ _ _ _ => wp_goto d_Md_ruleLetter_36 rfl⟩
theorem B_Md_ruleLetter_39 : (∀ (l1 l2 l3 l4 : Value) (x : Nat) (st : List Value) (M : Mm) (Q : Option Value → Mm → Prop), wp F_Md_ruleLetter 39 [.ref x, l1, l2, l3, l4] st M Q = wp F_Md_ruleLetter 40 [.ref x, l1, l2, l3, l4] (.ref x :: st) M Q) ∧
  (∀ (l0 l1 l2 l3 l4 : Value) (a : Nat) (st : List Value) (M : Mm) (Q : Option Value → Mm → Prop), wp F_Md_ruleLetter 40 [l0, l1, l2, l3, l4] (.ref a :: st) M Q = (sh M a = some (.inl 12) ∧ wp F_Md_ruleLetter 43 [l0, l1, l2, l3, l4] (va_rf (gR M a 19) :: st) M Q)) ∧
  (∀ (l0 l2 l3 l4 : Value) (x : Int32) (st : List Value) (M : Mm) (Q : Option Value → Mm → Prop), wp F_Md_ruleLetter 43 [l0, .int x, l2, l3, l4] st M Q = wp F_Md_ruleLetter 44 [l0, .int x, l2, l3, l4] (.int x :: st) M Q) ∧
  (∀ (l0 l1 l2 l3 l4 : Value) (a : Nat) (j : Int32) (st : List Value) (M : Mm) (Q : Option Value → Mm → Prop), wp F_Md_ruleLetter 44 [l0, l1, l2, l3, l4] (.int j :: .ref a :: st) M Q = (ixI M a j ∧ wp F_Md_ruleLetter 45 [l0, l1, l2, l3, l4] (.int (gI M a (cl j)) :: st) M Q)) := ⟨fun _ _ _ _ _ _ _ _ => wp_in d_Md_ruleLetter_39 rfl rfl, fun _ _ _ _ _ _ _ _ _ => wp_getA d_Md_ruleLetter_40 fl_12_149 rfl, fun _ _ _ _ _ _ _ _ => wp_in d_Md_ruleLetter_43 rfl rfl, fun _ _ _ _ _ _ _ _ _ _ => wp_iald d_Md_ruleLetter_44⟩
theorem B_Md_ruleLetter_45 : (∀ (l0 l1 l2 l3 l4 : Value) (x : Int32) (st : List Value) (M : Mm) (Q : Option Value → Mm → Prop), wp F_Md_ruleLetter 45 [l0, l1, l2, l3, l4] (.int x :: st) M Q = wp F_Md_ruleLetter 47 [l0, l1, l2, clr l3, .int x] st M Q) ∧
  (∀ (l0 l1 l2 l4 : Value) (x : Int32) (st : List Value) (M : Mm) (Q : Option Value → Mm → Prop), wp F_Md_ruleLetter 47 [l0, l1, l2, .int x, l4] st M Q = wp F_Md_ruleLetter 48 [l0, l1, l2, .int x, l4] (.int x :: st) M Q) ∧
  (∀ (l0 l1 l2 l3 l4 : Value) (x : Int32) (st : List Value) (M : Mm) (Q : Option Value → Mm → Prop), wp F_Md_ruleLetter 48 [l0, l1, l2, l3, l4] (.int x :: st) M Q = wp F_Md_ruleLetter 49 [l0, l1, l2, l3, l4] (.long x.toInt64 :: st) M Q) ∧
  (∀ (l0 l1 l2 l3 l4 : Value) (st : List Value) (M : Mm) (Q : Option Value → Mm → Prop), wp F_Md_ruleLetter 49 [l0, l1, l2, l3, l4] st M Q = wp F_Md_ruleLetter 50 [l0, l1, l2, l3, l4] (.long 0 :: st) M Q) ∧
  (∀ (l0 l1 l2 l3 : Value) (x : Int32) (st : List Value) (M : Mm) (Q : Option Value → Mm → Prop), wp F_Md_ruleLetter 50 [l0, l1, l2, l3, .int x] st M Q = wp F_Md_ruleLetter 52 [l0, l1, l2, l3, .int x] (.int x :: st) M Q) ∧
  (∀ (l0 l1 l2 l3 l4 : Value) (st : List Value) (M : Mm) (Q : Option Value → Mm → Prop), wp F_Md_ruleLetter 52 [l0, l1, l2, l3, l4] st M Q = wp F_Md_ruleLetter 53 [l0, l1, l2, l3, l4] (.int 1 :: st) M Q) ∧
  (∀ (l0 l1 l2 l3 l4 : Value) (x y : Int32) (st : List Value) (M : Mm) (Q : Option Value → Mm → Prop), wp F_Md_ruleLetter 53 [l0, l1, l2, l3, l4] (.int y :: .int x :: st) M Q = wp F_Md_ruleLetter 54 [l0, l1, l2, l3, l4] (.int (x - y) :: st) M Q) ∧
  (∀ (l0 l1 l2 l3 l4 : Value) (x : Int32) (st : List Value) (M : Mm) (Q : Option Value → Mm → Prop), wp F_Md_ruleLetter 54 [l0, l1, l2, l3, l4] (.int x :: st) M Q = wp F_Md_ruleLetter 55 [l0, l1, l2, l3, l4] (.long x.toInt64 :: st) M Q) ∧
  (∀ (l0 l1 l2 l3 l4 : Value) (p0 : Int64) (p1 : Int64) (p2 : Int64) (M : Mm) (Q : Option Value → Mm → Prop), wp F_Md_ruleLetter 55 [l0, l1, l2, l3, l4] [.long p2, .long p1, .long p0] M Q = wp F_Md_in 0 [.long p0, jk, .long p1, jk, .long p2, jk] [] M (fun r M1 => wp F_Md_ruleLetter 58 [l0, l1, l2, l3, l4] (r.toList ++ []) M1 Q)) ∧
  (∀ (l0 l1 l2 l3 l4 : Value) (x : Int32) (st : List Value) (M : Mm) (Q : Option Value → Mm → Prop), wp F_Md_ruleLetter 58 [l0, l1, l2, l3, l4] (.int x :: st) M Q = if x = 0 then wp F_Md_ruleLetter 61 [l0, l1, l2, l3, l4] st M Q else wp F_Md_ruleLetter 65 [l0, l1, l2, l3, l4] st M Q) ∧
  (∀ (l0 l1 l2 l3 l4 : Value) (st : List Value) (M : Mm) (Q : Option Value → Mm → Prop), wp F_Md_ruleLetter 61 [l0, l1, l2, l3, l4] st M Q = wp F_Md_ruleLetter 62 [l0, l1, l2, l3, l4] (.int (-1) :: st) M Q) ∧
  (∀ (l0 l1 l2 l3 l4 : Value) (st : List Value) (M : Mm) (Q : Option Value → Mm → Prop), wp F_Md_ruleLetter 62 [l0, l1, l2, l3, l4] st M Q = wp F_Md_ruleLetter 94 [l0, l1, l2, l3, l4] st M Q) := ⟨fun _ _ _ _ _ _ _ _ _ => wp_in d_Md_ruleLetter_45 rfl rfl, fun _ _ _ _ _ _ _ _ => wp_in d_Md_ruleLetter_47 rfl rfl, fun _ _ _ _ _ _ _ _ _ => wp_in d_Md_ruleLetter_48 rfl rfl, fun _ _ _ _ _ _ _ _ => wp_lconst d_Md_ruleLetter_49 (by decide), fun _ _ _ _ _ _ _ _ => wp_in d_Md_ruleLetter_50 rfl rfl, fun _ _ _ _ _ _ _ _ => wp_iconst d_Md_ruleLetter_52 (by decide), fun _ _ _ _ _ _ _ _ _ _ => wp_in d_Md_ruleLetter_53 rfl rfl, fun _ _ _ _ _ _ _ _ _ => wp_in d_Md_ruleLetter_54 rfl rfl, fun _ _ _ _ _ _ _ _ _ _ => wp_callS d_Md_ruleLetter_55 ml_12_9 (Nat.le_of_ble_eq_true rfl) rfl rfl rfl, fun _ _ _ _ _ _ _ _ _ => wp_if_ne d_Md_ruleLetter_58 rfl, fun _ _ _ _ _ _ _ _ => wp_iconst d_Md_ruleLetter_61 (by decide), fun _ _ _ _ _ _ _ _ => wp_goto d_Md_ruleLetter_62 rfl⟩
theorem B_Md_ruleLetter_65 : (∀ (l0 l1 l3 l4 : Value) (x : Int32) (st : List Value) (M : Mm) (Q : Option Value → Mm → Prop), wp F_Md_ruleLetter 65 [l0, l1, .int x, l3, l4] st M Q = wp F_Md_ruleLetter 66 [l0, l1, .int x, l3, l4] (.int x :: st) M Q) ∧
  (∀ (l0 l1 l2 l3 l4 : Value) (x : Int32) (st : List Value) (M : Mm) (Q : Option Value → Mm → Prop), wp F_Md_ruleLetter 66 [l0, l1, l2, l3, l4] (.int x :: st) M Q = if x = 0 then wp F_Md_ruleLetter 69 [l0, l1, l2, l3, l4] st M Q else wp F_Md_ruleLetter 83 [l0, l1, l2, l3, l4] st M Q) ∧
  (∀ (l1 l2 l3 l4 : Value) (x : Nat) (st : List Value) (M : Mm) (Q : Option Value → Mm → Prop), wp F_Md_ruleLetter 69 [.ref x, l1, l2, l3, l4] st M Q = wp F_Md_ruleLetter 70 [.ref x, l1, l2, l3, l4] (.ref x :: st) M Q) ∧
  (∀ (l0 l1 l2 l3 l4 : Value) (a : Nat) (st : List Value) (M : Mm) (Q : Option Value → Mm → Prop), wp F_Md_ruleLetter 70 [l0, l1, l2, l3, l4] (.ref a :: st) M Q = (sh M a = some (.inl 12) ∧ wp F_Md_ruleLetter 73 [l0, l1, l2, l3, l4] (va_rf (gR M a 16) :: st) M Q)) ∧
  (∀ (l0 l1 l2 l3 l4 : Value) (st : List Value) (M : Mm) (Q : Option Value → Mm → Prop), wp F_Md_ruleLetter 73 [l0, l1, l2, l3, l4] st M Q = wp F_Md_ruleLetter 75 [l0, l1, l2, l3, l4] (.int 60 :: st) M Q) ∧
  (∀ (l0 l2 l3 l4 : Value) (x : Int32) (st : List Value) (M : Mm) (Q : Option Value → Mm → Prop), wp F_Md_ruleLetter 75 [l0, .int x, l2, l3, l4] st M Q = wp F_Md_ruleLetter 76 [l0, .int x, l2, l3, l4] (.int x :: st) M Q) ∧
  (∀ (l0 l1 l2 l3 l4 : Value) (x y : Int32) (st : List Value) (M : Mm) (Q : Option Value → Mm → Prop), wp F_Md_ruleLetter 76 [l0, l1, l2, l3, l4] (.int y :: .int x :: st) M Q = wp F_Md_ruleLetter 77 [l0, l1, l2, l3, l4] (.int (x * y) :: st) M Q) ∧
  (∀ (l0 l1 l2 l4 : Value) (x : Int32) (st : List Value) (M : Mm) (Q : Option Value → Mm → Prop), wp F_Md_ruleLetter 77 [l0, l1, l2, .int x, l4] st M Q = wp F_Md_ruleLetter 78 [l0, l1, l2, .int x, l4] (.int x :: st) M Q) ∧
  (∀ (l0 l1 l2 l3 l4 : Value) (x y : Int32) (st : List Value) (M : Mm) (Q : Option Value → Mm → Prop), wp F_Md_ruleLetter 78 [l0, l1, l2, l3, l4] (.int y :: .int x :: st) M Q = wp F_Md_ruleLetter 79 [l0, l1, l2, l3, l4] (.int (x + y) :: st) M Q) ∧
  (∀ (l0 l1 l2 l3 l4 : Value) (a : Nat) (j : Int32) (st : List Value) (M : Mm) (Q : Option Value → Mm → Prop), wp F_Md_ruleLetter 79 [l0, l1, l2, l3, l4] (.int j :: .ref a :: st) M Q = (ixI M a j ∧ wp F_Md_ruleLetter 80 [l0, l1, l2, l3, l4] (.int (gI M a (cl j)) :: st) M Q)) ∧
  (∀ (l0 l1 l2 l3 l4 : Value) (st : List Value) (M : Mm) (Q : Option Value → Mm → Prop), wp F_Md_ruleLetter 80 [l0, l1, l2, l3, l4] st M Q = wp F_Md_ruleLetter 94 [l0, l1, l2, l3, l4] st M Q) := ⟨fun _ _ _ _ _ _ _ _ => wp_in d_Md_ruleLetter_65 rfl rfl, fun _ _ _ _ _ _ _ _ _ => wp_if_ne d_Md_ruleLetter_66 rfl, fun _ _ _ _ _ _ _ _ => wp_in d_Md_ruleLetter_69 rfl rfl, fun _ _ _ _ _ _ _ _ _ => wp_getA d_Md_ruleLetter_70 fl_12_140 rfl, fun _ _ _ _ _ _ _ _ => wp_bipush d_Md_ruleLetter_73 (by decide), fun _ _ _ _ _ _ _ _ => wp_in d_Md_ruleLetter_75 rfl rfl, fun _ _ _ _ _ _ _ _ _ _ => wp_in d_Md_ruleLetter_76 rfl rfl, fun _ _ _ _ _ _ _ _ => wp_in d_Md_ruleLetter_77 rfl rfl, fun _ _ _ _ _ _ _ _ _ _ => wp_in d_Md_ruleLetter_78 rfl rfl, fun _ _ _ _ _ _ _ _ _ _ => wp_iald d_Md_ruleLetter_79, fun _ _ _ _ _ _ _ _ => wp_goto d_Md_ruleLetter_80 rfl⟩
theorem B_Md_ruleLetter_83 : (∀ (l1 l2 l3 l4 : Value) (x : Nat) (st : List Value) (M : Mm) (Q : Option Value → Mm → Prop), wp F_Md_ruleLetter 83 [.ref x, l1, l2, l3, l4] st M Q = wp F_Md_ruleLetter 84 [.ref x, l1, l2, l3, l4] (.ref x :: st) M Q) ∧
  (∀ (l0 l1 l2 l3 l4 : Value) (a : Nat) (st : List Value) (M : Mm) (Q : Option Value → Mm → Prop), wp F_Md_ruleLetter 84 [l0, l1, l2, l3, l4] (.ref a :: st) M Q = (sh M a = some (.inl 12) ∧ wp F_Md_ruleLetter 87 [l0, l1, l2, l3, l4] (va_rf (gR M a 18) :: st) M Q)) ∧
  (∀ (l0 l1 l2 l3 l4 : Value) (st : List Value) (M : Mm) (Q : Option Value → Mm → Prop), wp F_Md_ruleLetter 87 [l0, l1, l2, l3, l4] st M Q = wp F_Md_ruleLetter 89 [l0, l1, l2, l3, l4] (.int 60 :: st) M Q) ∧
  (∀ (l0 l2 l3 l4 : Value) (x : Int32) (st : List Value) (M : Mm) (Q : Option Value → Mm → Prop), wp F_Md_ruleLetter 89 [l0, .int x, l2, l3, l4] st M Q = wp F_Md_ruleLetter 90 [l0, .int x, l2, l3, l4] (.int x :: st) M Q) ∧
  (∀ (l0 l1 l2 l3 l4 : Value) (x y : Int32) (st : List Value) (M : Mm) (Q : Option Value → Mm → Prop), wp F_Md_ruleLetter 90 [l0, l1, l2, l3, l4] (.int y :: .int x :: st) M Q = wp F_Md_ruleLetter 91 [l0, l1, l2, l3, l4] (.int (x * y) :: st) M Q) ∧
  (∀ (l0 l1 l2 l4 : Value) (x : Int32) (st : List Value) (M : Mm) (Q : Option Value → Mm → Prop), wp F_Md_ruleLetter 91 [l0, l1, l2, .int x, l4] st M Q = wp F_Md_ruleLetter 92 [l0, l1, l2, .int x, l4] (.int x :: st) M Q) ∧
  (∀ (l0 l1 l2 l3 l4 : Value) (x y : Int32) (st : List Value) (M : Mm) (Q : Option Value → Mm → Prop), wp F_Md_ruleLetter 92 [l0, l1, l2, l3, l4] (.int y :: .int x :: st) M Q = wp F_Md_ruleLetter 93 [l0, l1, l2, l3, l4] (.int (x + y) :: st) M Q) ∧
  (∀ (l0 l1 l2 l3 l4 : Value) (a : Nat) (j : Int32) (st : List Value) (M : Mm) (Q : Option Value → Mm → Prop), wp F_Md_ruleLetter 93 [l0, l1, l2, l3, l4] (.int j :: .ref a :: st) M Q = (ixI M a j ∧ wp F_Md_ruleLetter 94 [l0, l1, l2, l3, l4] (.int (gI M a (cl j)) :: st) M Q)) := ⟨fun _ _ _ _ _ _ _ _ => wp_in d_Md_ruleLetter_83 rfl rfl, fun _ _ _ _ _ _ _ _ _ => wp_getA d_Md_ruleLetter_84 fl_12_146 rfl, fun _ _ _ _ _ _ _ _ => wp_bipush d_Md_ruleLetter_87 (by decide), fun _ _ _ _ _ _ _ _ => wp_in d_Md_ruleLetter_89 rfl rfl, fun _ _ _ _ _ _ _ _ _ _ => wp_in d_Md_ruleLetter_90 rfl rfl, fun _ _ _ _ _ _ _ _ => wp_in d_Md_ruleLetter_91 rfl rfl, fun _ _ _ _ _ _ _ _ _ _ => wp_in d_Md_ruleLetter_92 rfl rfl, fun _ _ _ _ _ _ _ _ _ _ => wp_iald d_Md_ruleLetter_93⟩
theorem B_Md_ruleLetter_94 : (∀ (l0 l1 l2 l3 l4 : Value) (v : Int32) (M : Mm) (Q : Option Value → Mm → Prop), wp F_Md_ruleLetter 94 [l0, l1, l2, l3, l4] [.int v] M Q = Q (some (.int v)) M) := fun _ _ _ _ _ _ _ _ => wp_retI d_Md_ruleLetter_94 rfl
theorem d_Md_waiting_0 : decode (fnB F_Md_waiting) 0 = .ok (.aload_n 0, 1) := by decide +kernel
theorem d_Md_waiting_1 : decode (fnB F_Md_waiting) 1 = .ok (.iconst 0, 1) := by decide +kernel
theorem d_Md_waiting_2 : decode (fnB F_Md_waiting) 2 = .ok (.putfield 1, 3) := by decide +kernel
theorem d_Md_waiting_5 : decode (fnB F_Md_waiting) 5 = .ok (.iload_n 1, 1) := by decide +kernel
theorem d_Md_waiting_6 : decode (fnB F_Md_waiting) 6 = .ok (.i2l, 1) := by decide +kernel
theorem d_Md_waiting_7 : decode (fnB F_Md_waiting) 7 = .ok (.lconst 0, 1) := by decide +kernel
theorem d_Md_waiting_8 : decode (fnB F_Md_waiting) 8 = .ok (.aload_n 0, 1) := by decide +kernel
theorem d_Md_waiting_9 : decode (fnB F_Md_waiting) 9 = .ok (.getfield 93, 3) := by decide +kernel
theorem d_Md_waiting_12 : decode (fnB F_Md_waiting) 12 = .ok (.iconst 1, 1) := by decide +kernel
theorem d_Md_waiting_13 : decode (fnB F_Md_waiting) 13 = .ok (.isub, 1) := by decide +kernel
theorem d_Md_waiting_14 : decode (fnB F_Md_waiting) 14 = .ok (.i2l, 1) := by decide +kernel
theorem d_Md_waiting_15 : decode (fnB F_Md_waiting) 15 = .ok (.invokestatic 9, 3) := by decide +kernel
theorem d_Md_waiting_18 : decode (fnB F_Md_waiting) 18 = .ok (.ifCond .eq 13, 3) := by decide +kernel
theorem d_Md_waiting_21 : decode (fnB F_Md_waiting) 21 = .ok (.iload_n 2, 1) := by decide +kernel
theorem d_Md_waiting_22 : decode (fnB F_Md_waiting) 22 = .ok (.i2l, 1) := by decide +kernel
theorem d_Md_waiting_23 : decode (fnB F_Md_waiting) 23 = .ok (.lconst 0, 1) := by decide +kernel
theorem d_Md_waiting_24 : decode (fnB F_Md_waiting) 24 = .ok (.lconst 1, 1) := by decide +kernel
theorem d_Md_waiting_25 : decode (fnB F_Md_waiting) 25 = .ok (.invokestatic 9, 3) := by decide +kernel
theorem d_Md_waiting_28 : decode (fnB F_Md_waiting) 28 = .ok (.ifCond .ne 6, 3) := by decide +kernel
theorem d_Md_waiting_31 : decode (fnB F_Md_waiting) 31 = .ok (.bipush (-2), 2) := by decide +kernel
theorem d_Md_waiting_33 : decode (fnB F_Md_waiting) 33 = .ok (.ireturn, 1) := by decide +kernel
theorem d_Md_waiting_34 : decode (fnB F_Md_waiting) 34 = .ok (.iconst 2, 1) := by decide +kernel
theorem d_Md_waiting_35 : decode (fnB F_Md_waiting) 35 = .ok (.aload_n 0, 1) := by decide +kernel
theorem d_Md_waiting_36 : decode (fnB F_Md_waiting) 36 = .ok (.getfield 90, 3) := by decide +kernel
theorem d_Md_waiting_39 : decode (fnB F_Md_waiting) 39 = .ok (.iload_n 1, 1) := by decide +kernel
theorem d_Md_waiting_40 : decode (fnB F_Md_waiting) 40 = .ok (.iadd, 1) := by decide +kernel
theorem d_Md_waiting_41 : decode (fnB F_Md_waiting) 41 = .ok (.sipush 1000, 3) := by decide +kernel
theorem d_Md_waiting_44 : decode (fnB F_Md_waiting) 44 = .ok (.irem, 1) := by decide +kernel
theorem d_Md_waiting_45 : decode (fnB F_Md_waiting) 45 = .ok (.imul, 1) := by decide +kernel
theorem d_Md_waiting_46 : decode (fnB F_Md_waiting) 46 = .ok (.iload_n 2, 1) := by decide +kernel
theorem d_Md_waiting_47 : decode (fnB F_Md_waiting) 47 = .ok (.iadd, 1) := by decide +kernel
theorem d_Md_waiting_48 : decode (fnB F_Md_waiting) 48 = .ok (.istore 4, 2) := by decide +kernel
theorem d_Md_waiting_50 : decode (fnB F_Md_waiting) 50 = .ok (.iload_n 3, 1) := by decide +kernel
theorem d_Md_waiting_51 : decode (fnB F_Md_waiting) 51 = .ok (.i2l, 1) := by decide +kernel
theorem d_Md_waiting_52 : decode (fnB F_Md_waiting) 52 = .ok (.lconst 0, 1) := by decide +kernel
theorem d_Md_waiting_53 : decode (fnB F_Md_waiting) 53 = .ok (.aload_n 0, 1) := by decide +kernel
theorem d_Md_waiting_54 : decode (fnB F_Md_waiting) 54 = .ok (.getfield 118, 3) := by decide +kernel
theorem d_Md_waiting_57 : decode (fnB F_Md_waiting) 57 = .ok (.iload 4, 2) := by decide +kernel
theorem d_Md_waiting_59 : decode (fnB F_Md_waiting) 59 = .ok (.iaload, 1) := by decide +kernel
theorem d_Md_waiting_60 : decode (fnB F_Md_waiting) 60 = .ok (.iconst 1, 1) := by decide +kernel
theorem d_Md_waiting_61 : decode (fnB F_Md_waiting) 61 = .ok (.isub, 1) := by decide +kernel
theorem d_Md_waiting_62 : decode (fnB F_Md_waiting) 62 = .ok (.i2l, 1) := by decide +kernel
theorem d_Md_waiting_63 : decode (fnB F_Md_waiting) 63 = .ok (.invokestatic 9, 3) := by decide +kernel
theorem d_Md_waiting_66 : decode (fnB F_Md_waiting) 66 = .ok (.ifCond .eq 18, 3) := by decide +kernel
theorem d_Md_waiting_69 : decode (fnB F_Md_waiting) 69 = .ok (.aload_n 0, 1) := by decide +kernel
theorem d_Md_waiting_70 : decode (fnB F_Md_waiting) 70 = .ok (.getfield 121, 3) := by decide +kernel
theorem d_Md_waiting_73 : decode (fnB F_Md_waiting) 73 = .ok (.bipush 120, 2) := by decide +kernel
theorem d_Md_waiting_75 : decode (fnB F_Md_waiting) 75 = .ok (.iload 4, 2) := by decide +kernel
theorem d_Md_waiting_77 : decode (fnB F_Md_waiting) 77 = .ok (.imul, 1) := by decide +kernel
theorem d_Md_waiting_78 : decode (fnB F_Md_waiting) 78 = .ok (.iload_n 3, 1) := by decide +kernel
theorem d_Md_waiting_79 : decode (fnB F_Md_waiting) 79 = .ok (.iadd, 1) := by decide +kernel
theorem d_Md_waiting_80 : decode (fnB F_Md_waiting) 80 = .ok (.iaload, 1) := by decide +kernel
theorem d_Md_waiting_81 : decode (fnB F_Md_waiting) 81 = .ok (.goto 4, 3) := by decide +kernel
theorem d_Md_waiting_84 : decode (fnB F_Md_waiting) 84 = .ok (.iconst (-1), 1) := by decide +kernel
theorem d_Md_waiting_85 : decode (fnB F_Md_waiting) 85 = .ok (.ireturn, 1) := by decide +kernel
theorem B_Md_waiting_0 : (∀ (l1 l2 l3 l4 : Value) (x : Nat) (st : List Value) (M : Mm) (Q : Option Value → Mm → Prop), wp F_Md_waiting 0 [.ref x, l1, l2, l3, l4] st M Q = wp F_Md_waiting 1 [.ref x, l1, l2, l3, l4] (.ref x :: st) M Q) ∧
  (∀ (l0 l1 l2 l3 l4 : Value) (st : List Value) (M : Mm) (Q : Option Value → Mm → Prop), wp F_Md_waiting 1 [l0, l1, l2, l3, l4] st M Q = wp F_Md_waiting 2 [l0, l1, l2, l3, l4] (.int 0 :: st) M Q) ∧
  (∀ (l0 l1 l2 l3 l4 : Value) (a : Nat) (x : Int32) (st : List Value) (M : Mm) (Q : Option Value → Mm → Prop), wp F_Md_waiting 2 [l0, l1, l2, l3, l4] (.int x :: .ref a :: st) M Q = (sh M a = some (.inl 12) ∧ wp F_Md_waiting 5 [l0, l1, l2, l3, l4] st (sI M a 0 x) Q)) ∧
  (∀ (l0 l2 l3 l4 : Value) (x : Int32) (st : List Value) (M : Mm) (Q : Option Value → Mm → Prop), wp F_Md_waiting 5 [l0, .int x, l2, l3, l4] st M Q = wp F_Md_waiting 6 [l0, .int x, l2, l3, l4] (.int x :: st) M Q) ∧
  (∀ (l0 l1 l2 l3 l4 : Value) (x : Int32) (st : List Value) (M : Mm) (Q : Option Value → Mm → Prop), wp F_Md_waiting 6 [l0, l1, l2, l3, l4] (.int x :: st) M Q = wp F_Md_waiting 7 [l0, l1, l2, l3, l4] (.long x.toInt64 :: st) M Q) ∧
  (∀ (l0 l1 l2 l3 l4 : Value) (st : List Value) (M : Mm) (Q : Option Value → Mm → Prop), wp F_Md_waiting 7 [l0, l1, l2, l3, l4] st M Q = wp F_Md_waiting 8 [l0, l1, l2, l3, l4] (.long 0 :: st) M Q) ∧
  (∀ (l1 l2 l3 l4 : Value) (x : Nat) (st : List Value) (M : Mm) (Q : Option Value → Mm → Prop), wp F_Md_waiting 8 [.ref x, l1, l2, l3, l4] st M Q = wp F_Md_waiting 9 [.ref x, l1, l2, l3, l4] (.ref x :: st) M Q) ∧
  (∀ (l0 l1 l2 l3 l4 : Value) (a : Nat) (st : List Value) (M : Mm) (Q : Option Value → Mm → Prop), wp F_Md_waiting 9 [l0, l1, l2, l3, l4] (.ref a :: st) M Q = (sh M a = some (.inl 12) ∧ wp F_Md_waiting 12 [l0, l1, l2, l3, l4] (.int (gI M a 25) :: st) M Q)) ∧
  (∀ (l0 l1 l2 l3 l4 : Value) (st : List Value) (M : Mm) (Q : Option Value → Mm → Prop), wp F_Md_waiting 12 [l0, l1, l2, l3, l4] st M Q = wp F_Md_waiting 13 [l0, l1, l2, l3, l4] (.int 1 :: st) M Q) ∧
  (∀ (l0 l1 l2 l3 l4 : Value) (x y : Int32) (st : List Value) (M : Mm) (Q : Option Value → Mm → Prop), wp F_Md_waiting 13 [l0, l1, l2, l3, l4] (.int y :: .int x :: st) M Q = wp F_Md_waiting 14 [l0, l1, l2, l3, l4] (.int (x - y) :: st) M Q) ∧
  (∀ (l0 l1 l2 l3 l4 : Value) (x : Int32) (st : List Value) (M : Mm) (Q : Option Value → Mm → Prop), wp F_Md_waiting 14 [l0, l1, l2, l3, l4] (.int x :: st) M Q = wp F_Md_waiting 15 [l0, l1, l2, l3, l4] (.long x.toInt64 :: st) M Q) ∧
  (∀ (l0 l1 l2 l3 l4 : Value) (p0 : Int64) (p1 : Int64) (p2 : Int64) (M : Mm) (Q : Option Value → Mm → Prop), wp F_Md_waiting 15 [l0, l1, l2, l3, l4] [.long p2, .long p1, .long p0] M Q = wp F_Md_in 0 [.long p0, jk, .long p1, jk, .long p2, jk] [] M (fun r M1 => wp F_Md_waiting 18 [l0, l1, l2, l3, l4] (r.toList ++ []) M1 Q)) ∧
  (∀ (l0 l1 l2 l3 l4 : Value) (x : Int32) (st : List Value) (M : Mm) (Q : Option Value → Mm → Prop), wp F_Md_waiting 18 [l0, l1, l2, l3, l4] (.int x :: st) M Q = if x = 0 then wp F_Md_waiting 31 [l0, l1, l2, l3, l4] st M Q else wp F_Md_waiting 21 [l0, l1, l2, l3, l4] st M Q) ∧
  (∀ (l0 l1 l3 l4 : Value) (x : Int32) (st : List Value) (M : Mm) (Q : Option Value → Mm → Prop), wp F_Md_waiting 21 [l0, l1, .int x, l3, l4] st M Q = wp F_Md_waiting 22 [l0, l1, .int x, l3, l4] (.int x :: st) M Q) ∧
  (∀ (l0 l1 l2 l3 l4 : Value) (x : Int32) (st : List Value) (M : Mm) (Q : Option Value → Mm → Prop), wp F_Md_waiting 22 [l0, l1, l2, l3, l4] (.int x :: st) M Q = wp F_Md_waiting 23 [l0, l1, l2, l3, l4] (.long x.toInt64 :: st) M Q) ∧
  (∀ (l0 l1 l2 l3 l4 : Value) (st : List Value) (M : Mm) (Q : Option Value → Mm → Prop), wp F_Md_waiting 23 [l0, l1, l2, l3, l4] st M Q = wp F_Md_waiting 24 [l0, l1, l2, l3, l4] (.long 0 :: st) M Q) ∧
  (∀ (l0 l1 l2 l3 l4 : Value) (st : List Value) (M : Mm) (Q : Option Value → Mm → Prop), wp F_Md_waiting 24 [l0, l1, l2, l3, l4] st M Q = wp F_Md_waiting 25 [l0, l1, l2, l3, l4] (.long 1 :: st) M Q) ∧
  (∀ (l0 l1 l2 l3 l4 : Value) (p0 : Int64) (p1 : Int64) (p2 : Int64) (M : Mm) (Q : Option Value → Mm → Prop), wp F_Md_waiting 25 [l0, l1, l2, l3, l4] [.long p2, .long p1, .long p0] M Q = wp F_Md_in 0 [.long p0, jk, .long p1, jk, .long p2, jk] [] M (fun r M1 => wp F_Md_waiting 28 [l0, l1, l2, l3, l4] (r.toList ++ []) M1 Q)) ∧
  (∀ (l0 l1 l2 l3 l4 : Value) (x : Int32) (st : List Value) (M : Mm) (Q : Option Value → Mm → Prop), wp F_Md_waiting 28 [l0, l1, l2, l3, l4] (.int x :: st) M Q = if x = 0 then wp F_Md_waiting 31 [l0, l1, l2, l3, l4] st M Q else wp F_Md_waiting 34 [l0, l1, l2, l3, l4] st M Q) := ⟨fun _ _ _ _ _ _ _ _ => wp_in d_Md_waiting_0 rfl rfl, fun _ _ _ _ _ _ _ _ => wp_iconst d_Md_waiting_1 (by decide), fun _ _ _ _ _ _ _ _ _ _ => wp_putI d_Md_waiting_2 fl_12_1 rfl rfl, fun _ _ _ _ _ _ _ _ => wp_in d_Md_waiting_5 rfl rfl, fun _ _ _ _ _ _ _ _ _ => wp_in d_Md_waiting_6 rfl rfl, fun _ _ _ _ _ _ _ _ => wp_lconst d_Md_waiting_7 (by decide), fun _ _ _ _ _ _ _ _ => wp_in d_Md_waiting_8 rfl rfl, fun _ _ _ _ _ _ _ _ _ => wp_getI d_Md_waiting_9 fl_12_93 rfl, fun _ _ _ _ _ _ _ _ => wp_iconst d_Md_waiting_12 (by decide), fun _ _ _ _ _ _ _ _ _ _ => wp_in d_Md_waiting_13 rfl rfl, fun _ _ _ _ _ _ _ _ _ => wp_in d_Md_waiting_14 rfl rfl, fun _ _ _ _ _ _ _ _ _ _ => wp_callS d_Md_waiting_15 ml_12_9 (Nat.le_of_ble_eq_true rfl) rfl rfl rfl, fun _ _ _ _ _ _ _ _ _ => wp_if_eq d_Md_waiting_18 rfl, fun _ _ _ _ _ _ _ _ => wp_in d_Md_waiting_21 rfl rfl, fun _ _ _ _ _ _ _ _ _ => wp_in d_Md_waiting_22 rfl rfl, fun _ _ _ _ _ _ _ _ => wp_lconst d_Md_waiting_23 (by decide), fun _ _ _ _ _ _ _ _ => wp_lconst d_Md_waiting_24 (by decide), fun _ _ _ _ _ _ _ _ _ _ => wp_callS d_Md_waiting_25 ml_12_9 (Nat.le_of_ble_eq_true rfl) rfl rfl rfl, fun _ _ _ _ _ _ _ _ _ => wp_if_ne d_Md_waiting_28 rfl⟩
theorem B_Md_waiting_31 : (∀ (l0 l1 l2 l3 l4 : Value) (st : List Value) (M : Mm) (Q : Option Value → Mm → Prop), wp F_Md_waiting 31 [l0, l1, l2, l3, l4] st M Q = wp F_Md_waiting 33 [l0, l1, l2, l3, l4] (.int (-2) :: st) M Q) ∧
  (∀ (l0 l1 l2 l3 l4 : Value) (v : Int32) (M : Mm) (Q : Option Value → Mm → Prop), wp F_Md_waiting 33 [l0, l1, l2, l3, l4] [.int v] M Q = Q (some (.int v)) M) := ⟨fun _ _ _ _ _ _ _ _ => wp_bipush d_Md_waiting_31 (by decide), fun _ _ _ _ _ _ _ _ => wp_retI d_Md_waiting_33 rfl⟩
theorem B_Md_waiting_34 : (∀ (l0 l1 l2 l3 l4 : Value) (st : List Value) (M : Mm) (Q : Option Value → Mm → Prop), wp F_Md_waiting 34 [l0, l1, l2, l3, l4] st M Q = wp F_Md_waiting 35 [l0, l1, l2, l3, l4] (.int 2 :: st) M Q) ∧
  (∀ (l1 l2 l3 l4 : Value) (x : Nat) (st : List Value) (M : Mm) (Q : Option Value → Mm → Prop), wp F_Md_waiting 35 [.ref x, l1, l2, l3, l4] st M Q = wp F_Md_waiting 36 [.ref x, l1, l2, l3, l4] (.ref x :: st) M Q) ∧
  (∀ (l0 l1 l2 l3 l4 : Value) (a : Nat) (st : List Value) (M : Mm) (Q : Option Value → Mm → Prop), wp F_Md_waiting 36 [l0, l1, l2, l3, l4] (.ref a :: st) M Q = (sh M a = some (.inl 12) ∧ wp F_Md_waiting 39 [l0, l1, l2, l3, l4] (.int (gI M a 24) :: st) M Q)) ∧
  (∀ (l0 l2 l3 l4 : Value) (x : Int32) (st : List Value) (M : Mm) (Q : Option Value → Mm → Prop), wp F_Md_waiting 39 [l0, .int x, l2, l3, l4] st M Q = wp F_Md_waiting 40 [l0, .int x, l2, l3, l4] (.int x :: st) M Q) ∧
  (∀ (l0 l1 l2 l3 l4 : Value) (x y : Int32) (st : List Value) (M : Mm) (Q : Option Value → Mm → Prop), wp F_Md_waiting 40 [l0, l1, l2, l3, l4] (.int y :: .int x :: st) M Q = wp F_Md_waiting 41 [l0, l1, l2, l3, l4] (.int (x + y) :: st) M Q) ∧
  (∀ (l0 l1 l2 l3 l4 : Value) (st : List Value) (M : Mm) (Q : Option Value → Mm → Prop), wp F_Md_waiting 41 [l0, l1, l2, l3, l4] st M Q = wp F_Md_waiting 44 [l0, l1, l2, l3, l4] (.int 1000 :: st) M Q) ∧
  (∀ (l0 l1 l2 l3 l4 : Value) (x y : Int32) (st : List Value) (M : Mm) (Q : Option Value → Mm → Prop), wp F_Md_waiting 44 [l0, l1, l2, l3, l4] (.int y :: .int x :: st) M Q = (¬ y = 0 ∧ wp F_Md_waiting 45 [l0, l1, l2, l3, l4] (.int (x - x / y * y) :: st) M Q)) ∧
  (∀ (l0 l1 l2 l3 l4 : Value) (x y : Int32) (st : List Value) (M : Mm) (Q : Option Value → Mm → Prop), wp F_Md_waiting 45 [l0, l1, l2, l3, l4] (.int y :: .int x :: st) M Q = wp F_Md_waiting 46 [l0, l1, l2, l3, l4] (.int (x * y) :: st) M Q) ∧
  (∀ (l0 l1 l3 l4 : Value) (x : Int32) (st : List Value) (M : Mm) (Q : Option Value → Mm → Prop), wp F_Md_waiting 46 [l0, l1, .int x, l3, l4] st M Q = wp F_Md_waiting 47 [l0, l1, .int x, l3, l4] (.int x :: st) M Q) ∧
  (∀ (l0 l1 l2 l3 l4 : Value) (x y : Int32) (st : List Value) (M : Mm) (Q : Option Value → Mm → Prop), wp F_Md_waiting 47 [l0, l1, l2, l3, l4] (.int y :: .int x :: st) M Q = wp F_Md_waiting 48 [l0, l1, l2, l3, l4] (.int (x + y) :: st) M Q) ∧
  (∀ (l0 l1 l2 l3 l4 : Value) (x : Int32) (st : List Value) (M : Mm) (Q : Option Value → Mm → Prop), wp F_Md_waiting 48 [l0, l1, l2, l3, l4] (.int x :: st) M Q = wp F_Md_waiting 50 [l0, l1, l2, clr l3, .int x] st M Q) ∧
  (∀ (l0 l1 l2 l4 : Value) (x : Int32) (st : List Value) (M : Mm) (Q : Option Value → Mm → Prop), wp F_Md_waiting 50 [l0, l1, l2, .int x, l4] st M Q = wp F_Md_waiting 51 [l0, l1, l2, .int x, l4] (.int x :: st) M Q) ∧
  (∀ (l0 l1 l2 l3 l4 : Value) (x : Int32) (st : List Value) (M : Mm) (Q : Option Value → Mm → Prop), wp F_Md_waiting 51 [l0, l1, l2, l3, l4] (.int x :: st) M Q = wp F_Md_waiting 52 [l0, l1, l2, l3, l4] (.long x.toInt64 :: st) M Q) ∧
  (∀ (l0 l1 l2 l3 l4 : Value) (st : List Value) (M : Mm) (Q : Option Value → Mm → Prop), wp F_Md_waiting 52 [l0, l1, l2, l3, l4] st M Q = wp F_Md_waiting 53 [l0, l1, l2, l3, l4] (.long 0 :: st) M Q) ∧
  (∀ (l1 l2 l3 l4 : Value) (x : Nat) (st : List Value) (M : Mm) (Q : Option Value → Mm → Prop), wp F_Md_waiting 53 [.ref x, l1, l2, l3, l4] st M Q = wp F_Md_waiting 54 [.ref x, l1, l2, l3, l4] (.ref x :: st) M Q) ∧
  (∀ (l0 l1 l2 l3 l4 : Value) (a : Nat) (st : List Value) (M : Mm) (Q : Option Value → Mm → Prop), wp F_Md_waiting 54 [l0, l1, l2, l3, l4] (.ref a :: st) M Q = (sh M a = some (.inl 12) ∧ wp F_Md_waiting 57 [l0, l1, l2, l3, l4] (va_rf (gR M a 23) :: st) M Q)) ∧
  (∀ (l0 l1 l2 l3 : Value) (x : Int32) (st : List Value) (M : Mm) (Q : Option Value → Mm → Prop), wp F_Md_waiting 57 [l0, l1, l2, l3, .int x] st M Q = wp F_Md_waiting 59 [l0, l1, l2, l3, .int x] (.int x :: st) M Q) ∧
  (∀ (l0 l1 l2 l3 l4 : Value) (a : Nat) (j : Int32) (st : List Value) (M : Mm) (Q : Option Value → Mm → Prop), wp F_Md_waiting 59 [l0, l1, l2, l3, l4] (.int j :: .ref a :: st) M Q = (ixI M a j ∧ wp F_Md_waiting 60 [l0, l1, l2, l3, l4] (.int (gI M a (cl j)) :: st) M Q)) ∧
  (∀ (l0 l1 l2 l3 l4 : Value) (st : List Value) (M : Mm) (Q : Option Value → Mm → Prop), wp F_Md_waiting 60 [l0, l1, l2, l3, l4] st M Q = wp F_Md_waiting 61 [l0, l1, l2, l3, l4] (.int 1 :: st) M Q) ∧
  (∀ (l0 l1 l2 l3 l4 : Value) (x y : Int32) (st : List Value) (M : Mm) (Q : Option Value → Mm → Prop), wp F_Md_waiting 61 [l0, l1, l2, l3, l4] (.int y :: .int x :: st) M Q = wp F_Md_waiting 62 [l0, l1, l2, l3, l4] (.int (x - y) :: st) M Q) ∧
  (∀ (l0 l1 l2 l3 l4 : Value) (x : Int32) (st : List Value) (M : Mm) (Q : Option Value → Mm → Prop), wp F_Md_waiting 62 [l0, l1, l2, l3, l4] (.int x :: st) M Q = wp F_Md_waiting 63 [l0, l1, l2, l3, l4] (.long x.toInt64 :: st) M Q) ∧
  (∀ (l0 l1 l2 l3 l4 : Value) (p0 : Int64) (p1 : Int64) (p2 : Int64) (M : Mm) (Q : Option Value → Mm → Prop), wp F_Md_waiting 63 [l0, l1, l2, l3, l4] [.long p2, .long p1, .long p0] M Q = wp F_Md_in 0 [.long p0, jk, .long p1, jk, .long p2, jk] [] M (fun r M1 => wp F_Md_waiting 66 [l0, l1, l2, l3, l4] (r.toList ++ []) M1 Q)) ∧
  (∀ (l0 l1 l2 l3 l4 : Value) (x : Int32) (st : List Value) (M : Mm) (Q : Option Value → Mm → Prop), wp F_Md_waiting 66 [l0, l1, l2, l3, l4] (.int x :: st) M Q = if x = 0 then wp F_Md_waiting 84 [l0, l1, l2, l3, l4] st M Q else wp F_Md_waiting 69 [l0, l1, l2, l3, l4] st M Q) ∧
  (∀ (l1 l2 l3 l4 : Value) (x : Nat) (st : List Value) (M : Mm) (Q : Option Value → Mm → Prop), wp F_Md_waiting 69 [.ref x, l1, l2, l3, l4] st M Q = wp F_Md_waiting 70 [.ref x, l1, l2, l3, l4] (.ref x :: st) M Q) ∧
  (∀ (l0 l1 l2 l3 l4 : Value) (a : Nat) (st : List Value) (M : Mm) (Q : Option Value → Mm → Prop), wp F_Md_waiting 70 [l0, l1, l2, l3, l4] (.ref a :: st) M Q = (sh M a = some (.inl 12) ∧ wp F_Md_waiting 73 [l0, l1, l2, l3, l4] (va_rf (gR M a 22) :: st) M Q)) ∧
  (∀ (l0 l1 l2 l3 l4 : Value) (st : List Value) (M : Mm) (Q : Option Value → Mm → Prop), wp F_Md_waiting 73 [l0, l1, l2, l3, l4] st M Q = wp F_Md_waiting 75 [l0, l1, l2, l3, l4] (.int 120 :: st) M Q) ∧
  (∀ (l0 l1 l2 l3 : Value) (x : Int32) (st : List Value) (M : Mm) (Q : Option Value → Mm → Prop), wp F_Md_waiting 75 [l0, l1, l2, l3, .int x] st M Q = wp F_Md_waiting 77 [l0, l1, l2, l3, .int x] (.int x :: st) M Q) ∧
  (∀ (l0 l1 l2 l3 l4 : Value) (x y : Int32) (st : List Value) (M : Mm) (Q : Option Value → Mm → Prop), wp F_Md_waiting 77 [l0, l1, l2, l3, l4] (.int y :: .int x :: st) M Q = wp F_Md_waiting 78 [l0, l1, l2, l3, l4] (.int (x * y) :: st) M Q) ∧
  (∀ (l0 l1 l2 l4 : Value) (x : Int32) (st : List Value) (M : Mm) (Q : Option Value → Mm → Prop), wp F_Md_waiting 78 [l0, l1, l2, .int x, l4] st M Q = wp F_Md_waiting 79 [l0, l1, l2, .int x, l4] (.int x :: st) M Q) ∧
  (∀ (l0 l1 l2 l3 l4 : Value) (x y : Int32) (st : List Value) (M : Mm) (Q : Option Value → Mm → Prop), wp F_Md_waiting 79 [l0, l1, l2, l3, l4] (.int y :: .int x :: st) M Q = wp F_Md_waiting 80 [l0, l1, l2, l3, l4] (.int (x + y) :: st) M Q) ∧
  (∀ (l0 l1 l2 l3 l4 : Value) (a : Nat) (j : Int32) (st : List Value) (M : Mm) (Q : Option Value → Mm → Prop), wp F_Md_waiting 80 [l0, l1, l2, l3, l4] (.int j :: .ref a :: st) M Q = (ixI M a j ∧ wp F_Md_waiting 81 [l0, l1, l2, l3, l4] (.int (gI M a (cl j)) :: st) M Q)) ∧
  (∀ (l0 l1 l2 l3 l4 : Value) (st : List Value) (M : Mm) (Q : Option Value → Mm → Prop), wp F_Md_waiting 81 [l0, l1, l2, l3, l4] st M Q = wp F_Md_waiting 85 [l0, l1, l2, l3, l4] st M Q) := ⟨fun _ _ _ _ _ _ _ _ => wp_iconst d_Md_waiting_34 (by decide), fun _ _ _ _ _ _ _ _ => wp_in d_Md_waiting_35 rfl rfl, fun _ _ _ _ _ _ _ _ _ => wp_getI d_Md_waiting_36 fl_12_90 rfl, fun _ _ _ _ _ _ _ _ => wp_in d_Md_waiting_39 rfl rfl, fun _ _ _ _ _ _ _ _ _ _ => wp_in d_Md_waiting_40 rfl rfl, fun _ _ _ _ _ _ _ _ => wp_sipush d_Md_waiting_41 (by decide), fun _ _ _ _ _ _ _ _ _ _ => wp_irem d_Md_waiting_44, fun _ _ _ _ _ _ _ _ _ _ => wp_in d_Md_waiting_45 rfl rfl, fun _ _ _ _ _ _ _ _ => wp_in d_Md_waiting_46 rfl rfl, fun _ _ _ _ _ _ _ _ _ _ => wp_in d_Md_waiting_47 rfl rfl, fun _ _ _ _ _ _ _ _ _ => wp_in d_Md_waiting_48 rfl rfl, fun _ _ _ _ _ _ _ _ => wp_in d_Md_waiting_50 rfl rfl, fun _ _ _ _ _ _ _ _ _ => wp_in d_Md_waiting_51 rfl rfl, fun _ _ _ _ _ _ _ _ => wp_lconst d_Md_waiting_52 (by decide), fun _ _ _ _ _ _ _ _ => wp_in d_Md_waiting_53 rfl rfl, fun _ _ _ _ _ _ _ _ _ => wp_getA d_Md_waiting_54 fl_12_118 rfl, fun _ _ _ _ _ _ _ _ => wp_in d_Md_waiting_57 rfl rfl, fun _ _ _ _ _ _ _ _ _ _ => wp_iald d_Md_waiting_59, fun _ _ _ _ _ _ _ _ => wp_iconst d_Md_waiting_60 (by decide), fun _ _ _ _ _ _ _ _ _ _ => wp_in d_Md_waiting_61 rfl rfl, fun _ _ _ _ _ _ _ _ _ => wp_in d_Md_waiting_62 rfl rfl, fun _ _ _ _ _ _ _ _ _ _ => wp_callS d_Md_waiting_63 ml_12_9 (Nat.le_of_ble_eq_true rfl) rfl rfl rfl, fun _ _ _ _ _ _ _ _ _ => wp_if_eq d_Md_waiting_66 rfl, fun _ _ _ _ _ _ _ _ => wp_in d_Md_waiting_69 rfl rfl, fun _ _ _ _ _ _ _ _ _ => wp_getA d_Md_waiting_70 fl_12_121 rfl, fun _ _ _ _ _ _ _ _ => wp_bipush d_Md_waiting_73 (by decide), fun _ _ _ _ _ _ _ _ => wp_in d_Md_waiting_75 rfl rfl, fun _ _ _ _ _ _ _ _ _ _ => wp_in d_Md_waiting_77 rfl rfl, fun _ _ _ _ _ _ _ _ => wp_in d_Md_waiting_78 rfl rfl, fun _ _ _ _ _ _ _ _ _ _ => wp_in d_Md_waiting_79 rfl rfl, fun _ _ _ _ _ _ _ _ _ _ => wp_iald d_Md_waiting_80, fun _ _ _ _ _ _ _ _ => wp_goto d_Md_waiting_81 rfl⟩
theorem B_Md_waiting_84 : (∀ (l0 l1 l2 l3 l4 : Value) (st : List Value) (M : Mm) (Q : Option Value → Mm → Prop), wp F_Md_waiting 84 [l0, l1, l2, l3, l4] st M Q = wp F_Md_waiting 85 [l0, l1, l2, l3, l4] (.int (-1) :: st) M Q) := fun _ _ _ _ _ _ _ _ => wp_iconst d_Md_waiting_84 (by decide)
theorem B_Md_waiting_85 : (∀ (l0 l1 l2 l3 l4 : Value) (v : Int32) (M : Mm) (Q : Option Value → Mm → Prop), wp F_Md_waiting 85 [l0, l1, l2, l3, l4] [.int v] M Q = Q (some (.int v)) M) := fun _ _ _ _ _ _ _ _ => wp_retI d_Md_waiting_85 rfl
theorem d_Md_open_0 : decode (fnB F_Md_open) 0 = .ok (.aload_n 0, 1) := by decide +kernel
theorem d_Md_open_1 : decode (fnB F_Md_open) 1 = .ok (.iconst 0, 1) := by decide +kernel
theorem d_Md_open_2 : decode (fnB F_Md_open) 2 = .ok (.putfield 1, 3) := by decide +kernel
theorem d_Md_open_5 : decode (fnB F_Md_open) 5 = .ok (.iconst 0, 1) := by decide +kernel
theorem d_Md_open_6 : decode (fnB F_Md_open) 6 = .ok (.istore_n 1, 1) := by decide +kernel
theorem d_Md_open_7 : decode (fnB F_Md_open) 7 = .ok (.iload_n 1, 1) := by decide +kernel
theorem d_Md_open_8 : decode (fnB F_Md_open) 8 = .ok (.aload_n 0, 1) := by decide +kernel
theorem d_Md_open_9 : decode (fnB F_Md_open) 9 = .ok (.getfield 87, 3) := by decide +kernel
theorem d_Md_open_12 : decode (fnB F_Md_open) 12 = .ok (.if_icmp .ge 193, 3) := by decide +kernel
theorem d_Md_open_15 : decode (fnB F_Md_open) 15 = .ok (.iconst 0, 1) := by decide +kernel
theorem d_Md_open_16 : decode (fnB F_Md_open) 16 = .ok (.istore_n 2, 1) := by decide +kernel
theorem d_Md_open_17 : decode (fnB F_Md_open) 17 = .ok (.iload_n 2, 1) := by decide +kernel
theorem d_Md_open_18 : decode (fnB F_Md_open) 18 = .ok (.aload_n 0, 1) := by decide +kernel
theorem d_Md_open_19 : decode (fnB F_Md_open) 19 = .ok (.getfield 87, 3) := by decide +kernel
theorem d_Md_open_22 : decode (fnB F_Md_open) 22 = .ok (.if_icmp .ge 177, 3) := by decide +kernel
theorem d_Md_open_25 : decode (fnB F_Md_open) 25 = .ok (.aload_n 0, 1) := by decide +kernel
theorem d_Md_open_26 : decode (fnB F_Md_open) 26 = .ok (.getfield 152, 3) := by decide +kernel
theorem d_Md_open_29 : decode (fnB F_Md_open) 29 = .ok (.iload_n 1, 1) := by decide +kernel
theorem d_Md_open_30 : decode (fnB F_Md_open) 30 = .ok (.baload, 1) := by decide +kernel
theorem d_Md_open_31 : decode (fnB F_Md_open) 31 = .ok (.ifCond .eq 12, 3) := by decide +kernel
theorem d_Md_open_34 : decode (fnB F_Md_open) 34 = .ok (.aload_n 0, 1) := by decide +kernel
theorem d_Md_open_35 : decode (fnB F_Md_open) 35 = .ok (.getfield 152, 3) := by decide +kernel
theorem d_Md_open_38 : decode (fnB F_Md_open) 38 = .ok (.iload_n 2, 1) := by decide +kernel
theorem d_Md_open_39 : decode (fnB F_Md_open) 39 = .ok (.baload, 1) := by decide +kernel
theorem d_Md_open_40 : decode (fnB F_Md_open) 40 = .ok (.ifCond .ne 7, 3) := by decide +kernel
theorem d_Md_open_43 : decode (fnB F_Md_open) 43 = .ok (.iconst 0, 1) := by decide +kernel
theorem d_Md_open_44 : decode (fnB F_Md_open) 44 = .ok (.goto 33, 3) := by decide +kernel
theorem d_Md_open_47 : decode (fnB F_Md_open) 47 = .ok (.aload_n 0, 1) := by decide +kernel
theorem d_Md_open_48 : decode (fnB F_Md_open) 48 = .ok (.getfield 143, 3) := by decide +kernel
theorem d_Md_open_51 : decode (fnB F_Md_open) 51 = .ok (.iload_n 1, 1) := by decide +kernel
theorem d_Md_open_52 : decode (fnB F_Md_open) 52 = .ok (.iaload, 1) := by decide +kernel
theorem d_Md_open_53 : decode (fnB F_Md_open) 53 = .ok (.aload_n 0, 1) := by decide +kernel
theorem d_Md_open_54 : decode (fnB F_Md_open) 54 = .ok (.getfield 143, 3) := by decide +kernel
theorem d_Md_open_57 : decode (fnB F_Md_open) 57 = .ok (.iload_n 2, 1) := by decide +kernel
theorem d_Md_open_58 : decode (fnB F_Md_open) 58 = .ok (.iaload, 1) := by decide +kernel
theorem d_Md_open_59 : decode (fnB F_Md_open) 59 = .ok (.if_icmp .ge 12, 3) := by decide +kernel
theorem d_Md_open_62 : decode (fnB F_Md_open) 62 = .ok (.aload_n 0, 1) := by decide +kernel
theorem d_Md_open_63 : decode (fnB F_Md_open) 63 = .ok (.getfield 143, 3) := by decide +kernel
theorem d_Md_open_66 : decode (fnB F_Md_open) 66 = .ok (.iload_n 1, 1) := by decide +kernel
theorem d_Md_open_67 : decode (fnB F_Md_open) 67 = .ok (.iaload, 1) := by decide +kernel
theorem d_Md_open_68 : decode (fnB F_Md_open) 68 = .ok (.goto 9, 3) := by decide +kernel
theorem d_Md_open_71 : decode (fnB F_Md_open) 71 = .ok (.aload_n 0, 1) := by decide +kernel
theorem d_Md_open_72 : decode (fnB F_Md_open) 72 = .ok (.getfield 143, 3) := by decide +kernel
theorem d_Md_open_75 : decode (fnB F_Md_open) 75 = .ok (.iload_n 2, 1) := by decide +kernel
theorem d_Md_open_76 : decode (fnB F_Md_open) 76 = .ok (.iaload, 1) := by decide +kernel
theorem d_Md_open_77 : decode (fnB F_Md_open) 77 = .ok (.istore_n 3, 1) := by decide +kernel
theorem d_Md_open_78 : decode (fnB F_Md_open) 78 = .ok (.iconst 1, 1) := by decide +kernel
theorem d_Md_open_79 : decode (fnB F_Md_open) 79 = .ok (.istore 4, 2) := by decide +kernel
theorem d_Md_open_81 : decode (fnB F_Md_open) 81 = .ok (.iload 4, 2) := by decide +kernel
theorem d_Md_open_83 : decode (fnB F_Md_open) 83 = .ok (.iload_n 3, 1) := by decide +kernel
theorem d_Md_open_84 : decode (fnB F_Md_open) 84 = .ok (.if_icmp .ge 109, 3) := by decide +kernel
theorem d_Md_open_87 : decode (fnB F_Md_open) 87 = .ok (.aload_n 0, 1) := by decide +kernel
theorem d_Md_open_88 : decode (fnB F_Md_open) 88 = .ok (.iload_n 1, 1) := by decide +kernel
theorem d_Md_open_89 : decode (fnB F_Md_open) 89 = .ok (.iload_n 2, 1) := by decide +kernel
theorem d_Md_open_90 : decode (fnB F_Md_open) 90 = .ok (.iload 4, 2) := by decide +kernel
theorem d_Md_open_92 : decode (fnB F_Md_open) 92 = .ok (.invokevirtual 233, 3) := by decide +kernel
theorem d_Md_open_95 : decode (fnB F_Md_open) 95 = .ok (.ifCond .eq 92, 3) := by decide +kernel
theorem d_Md_open_98 : decode (fnB F_Md_open) 98 = .ok (.aload_n 0, 1) := by decide +kernel
theorem d_Md_open_99 : decode (fnB F_Md_open) 99 = .ok (.getfield 230, 3) := by decide +kernel
theorem d_Md_open_102 : decode (fnB F_Md_open) 102 = .ok (.istore 5, 2) := by decide +kernel
theorem d_Md_open_104 : decode (fnB F_Md_open) 104 = .ok (.aload_n 0, 1) := by decide +kernel
theorem d_Md_open_105 : decode (fnB F_Md_open) 105 = .ok (.aload_n 0, 1) := by decide +kernel
theorem d_Md_open_106 : decode (fnB F_Md_open) 106 = .ok (.getfield 157, 3) := by decide +kernel
theorem d_Md_open_109 : decode (fnB F_Md_open) 109 = .ok (.aload_n 0, 1) := by decide +kernel
theorem d_Md_open_110 : decode (fnB F_Md_open) 110 = .ok (.getfield 227, 3) := by decide +kernel
theorem d_Md_open_113 : decode (fnB F_Md_open) 113 = .ok (.invokevirtual 213, 3) := by decide +kernel
theorem d_Md_open_116 : decode (fnB F_Md_open) 116 = .ok (.istore 6, 2) := by decide +kernel
theorem d_Md_open_118 : decode (fnB F_Md_open) 118 = .ok (.iload 6, 2) := by decide +kernel
theorem d_Md_open_120 : decode (fnB F_Md_open) 120 = .ok (.iconst (-1), 1) := by decide +kernel
theorem d_Md_open_121 : decode (fnB F_Md_open) 121 = .ok (.if_icmp .ne 7, 3) := by decide +kernel
theorem d_Md_open_124 : decode (fnB F_Md_open) 124 = .ok (.iconst (-1), 1) := by decide +kernel
theorem d_Md_open_125 : decode (fnB F_Md_open) 125 = .ok (.goto 13, 3) := by decide +kernel
theorem d_Md_open_128 : decode (fnB F_Md_open) 128 = .ok (.aload_n 0, 1) := by decide +kernel
theorem d_Md_open_129 : decode (fnB F_Md_open) 129 = .ok (.aload_n 0, 1) := by decide +kernel
theorem d_Md_open_130 : decode (fnB F_Md_open) 130 = .ok (.getfield 160, 3) := by decide +kernel
theorem d_Md_open_133 : decode (fnB F_Md_open) 133 = .ok (.iload 5, 2) := by decide +kernel
theorem d_Md_open_135 : decode (fnB F_Md_open) 135 = .ok (.invokevirtual 213, 3) := by decide +kernel
theorem d_Md_open_138 : decode (fnB F_Md_open) 138 = .ok (.istore 7, 2) := by decide +kernel
theorem d_Md_open_140 : decode (fnB F_Md_open) 140 = .ok (.iload 7, 2) := by decide +kernel
theorem d_Md_open_142 : decode (fnB F_Md_open) 142 = .ok (.iconst (-1), 1) := by decide +kernel
theorem d_Md_open_143 : decode (fnB F_Md_open) 143 = .ok (.if_icmp .ne 6, 3) := by decide +kernel
theorem d_Md_open_146 : decode (fnB F_Md_open) 146 = .ok (.bipush (-4), 2) := by decide +kernel
theorem d_Md_open_148 : decode (fnB F_Md_open) 148 = .ok (.ireturn, 1) := by decide +kernel
theorem d_Md_open_149 : decode (fnB F_Md_open) 149 = .ok (.aload_n 0, 1) := by decide +kernel
theorem d_Md_open_150 : decode (fnB F_Md_open) 150 = .ok (.getfield 157, 3) := by decide +kernel
theorem d_Md_open_153 : decode (fnB F_Md_open) 153 = .ok (.iconst 0, 1) := by decide +kernel
theorem d_Md_open_154 : decode (fnB F_Md_open) 154 = .ok (.iload 6, 2) := by decide +kernel
theorem d_Md_open_156 : decode (fnB F_Md_open) 156 = .ok (.aload_n 0, 1) := by decide +kernel
theorem d_Md_open_157 : decode (fnB F_Md_open) 157 = .ok (.getfield 160, 3) := by decide +kernel
theorem d_Md_open_160 : decode (fnB F_Md_open) 160 = .ok (.iconst 0, 1) := by decide +kernel
theorem d_Md_open_161 : decode (fnB F_Md_open) 161 = .ok (.iload 7, 2) := by decide +kernel
theorem d_Md_open_163 : decode (fnB F_Md_open) 163 = .ok (.invokestatic 237, 3) := by decide +kernel
theorem d_Md_open_166 : decode (fnB F_Md_open) 166 = .ok (.ifCond .eq 21, 3) := by decide +kernel
theorem d_Md_open_169 : decode (fnB F_Md_open) 169 = .ok (.aload_n 0, 1) := by decide +kernel
theorem d_Md_open_170 : decode (fnB F_Md_open) 170 = .ok (.iload_n 1, 1) := by decide +kernel
theorem d_Md_open_171 : decode (fnB F_Md_open) 171 = .ok (.putfield 112, 3) := by decide +kernel
theorem d_Md_open_174 : decode (fnB F_Md_open) 174 = .ok (.aload_n 0, 1) := by decide +kernel
theorem d_Md_open_175 : decode (fnB F_Md_open) 175 = .ok (.iload_n 2, 1) := by decide +kernel
theorem d_Md_open_176 : decode (fnB F_Md_open) 176 = .ok (.putfield 270, 3) := by decide +kernel
theorem d_Md_open_179 : decode (fnB F_Md_open) 179 = .ok (.aload_n 0, 1) := by decide +kernel
theorem d_Md_open_180 : decode (fnB F_Md_open) 180 = .ok (.iload 4, 2) := by decide +kernel
theorem d_Md_open_182 : decode (fnB F_Md_open) 182 = .ok (.putfield 273, 3) := by decide +kernel
theorem d_Md_open_185 : decode (fnB F_Md_open) 185 = .ok (.iconst 1, 1) := by decide +kernel
theorem d_Md_open_186 : decode (fnB F_Md_open) 186 = .ok (.ireturn, 1) := by decide +kernel
theorem d_Md_open_187 : decode (fnB F_Md_open) 187 = .ok (.iinc 4 1, 3) := by decide +kernel
theorem d_Md_open_190 : decode (fnB F_Md_open) 190 = .ok (.goto (-109), 3) := by decide +kernel
theorem d_Md_open_193 : decode (fnB F_Md_open) 193 = .ok (.iinc 2 1, 3) := by decide +kernel
theorem d_Md_open_196 : decode (fnB F_Md_open) 196 = .ok (.goto (-179), 3) := by decide +kernel
theorem d_Md_open_199 : decode (fnB F_Md_open) 199 = .ok (.iinc 1 1, 3) := by decide +kernel
theorem d_Md_open_202 : decode (fnB F_Md_open) 202 = .ok (.goto (-195), 3) := by decide +kernel
theorem d_Md_open_205 : decode (fnB F_Md_open) 205 = .ok (.iconst 0, 1) := by decide +kernel
theorem d_Md_open_206 : decode (fnB F_Md_open) 206 = .ok (.ireturn, 1) := by decide +kernel
theorem B_Md_open_0 : (∀ (l1 l2 l3 l4 l5 l6 l7 : Value) (x : Nat) (st : List Value) (M : Mm) (Q : Option Value → Mm → Prop), wp F_Md_open 0 [.ref x, l1, l2, l3, l4, l5, l6, l7] st M Q = wp F_Md_open 1 [.ref x, l1, l2, l3, l4, l5, l6, l7] (.ref x :: st) M Q) ∧
  (∀ (l0 l1 l2 l3 l4 l5 l6 l7 : Value) (st : List Value) (M : Mm) (Q : Option Value → Mm → Prop), wp F_Md_open 1 [l0, l1, l2, l3, l4, l5, l6, l7] st M Q = wp F_Md_open 2 [l0, l1, l2, l3, l4, l5, l6, l7] (.int 0 :: st) M Q) ∧
  (∀ (l0 l1 l2 l3 l4 l5 l6 l7 : Value) (a : Nat) (x : Int32) (st : List Value) (M : Mm) (Q : Option Value → Mm → Prop), wp F_Md_open 2 [l0, l1, l2, l3, l4, l5, l6, l7] (.int x :: .ref a :: st) M Q = (sh M a = some (.inl 12) ∧ wp F_Md_open 5 [l0, l1, l2, l3, l4, l5, l6, l7] st (sI M a 0 x) Q)) ∧
  (∀ (l0 l1 l2 l3 l4 l5 l6 l7 : Value) (st : List Value) (M : Mm) (Q : Option Value → Mm → Prop), wp F_Md_open 5 [l0, l1, l2, l3, l4, l5, l6, l7] st M Q = wp F_Md_open 6 [l0, l1, l2, l3, l4, l5, l6, l7] (.int 0 :: st) M Q) ∧
  (∀ (l0 l1 l2 l3 l4 l5 l6 l7 : Value) (x : Int32) (st : List Value) (M : Mm) (Q : Option Value → Mm → Prop), wp F_Md_open 6 [l0, l1, l2, l3, l4, l5, l6, l7] (.int x :: st) M Q = wp F_Md_open 7 [clr l0, .int x, l2, l3, l4, l5, l6, l7] st M Q) := ⟨fun _ _ _ _ _ _ _ _ _ _ _ => wp_in d_Md_open_0 rfl rfl, fun _ _ _ _ _ _ _ _ _ _ _ => wp_iconst d_Md_open_1 (by decide), fun _ _ _ _ _ _ _ _ _ _ _ _ _ => wp_putI d_Md_open_2 fl_12_1 rfl rfl, fun _ _ _ _ _ _ _ _ _ _ _ => wp_iconst d_Md_open_5 (by decide), fun _ _ _ _ _ _ _ _ _ _ _ _ => wp_in d_Md_open_6 rfl rfl⟩
theorem B_Md_open_7 : (∀ (l0 l2 l3 l4 l5 l6 l7 : Value) (x : Int32) (st : List Value) (M : Mm) (Q : Option Value → Mm → Prop), wp F_Md_open 7 [l0, .int x, l2, l3, l4, l5, l6, l7] st M Q = wp F_Md_open 8 [l0, .int x, l2, l3, l4, l5, l6, l7] (.int x :: st) M Q) ∧
  (∀ (l1 l2 l3 l4 l5 l6 l7 : Value) (x : Nat) (st : List Value) (M : Mm) (Q : Option Value → Mm → Prop), wp F_Md_open 8 [.ref x, l1, l2, l3, l4, l5, l6, l7] st M Q = wp F_Md_open 9 [.ref x, l1, l2, l3, l4, l5, l6, l7] (.ref x :: st) M Q) ∧
  (∀ (l0 l1 l2 l3 l4 l5 l6 l7 : Value) (a : Nat) (st : List Value) (M : Mm) (Q : Option Value → Mm → Prop), wp F_Md_open 9 [l0, l1, l2, l3, l4, l5, l6, l7] (.ref a :: st) M Q = (sh M a = some (.inl 12) ∧ wp F_Md_open 12 [l0, l1, l2, l3, l4, l5, l6, l7] (.int (gI M a 21) :: st) M Q)) ∧
  (∀ (l0 l1 l2 l3 l4 l5 l6 l7 : Value) (x y : Int32) (st : List Value) (M : Mm) (Q : Option Value → Mm → Prop), wp F_Md_open 12 [l0, l1, l2, l3, l4, l5, l6, l7] (.int y :: .int x :: st) M Q = if y ≤ x then wp F_Md_open 205 [l0, l1, l2, l3, l4, l5, l6, l7] st M Q else wp F_Md_open 15 [l0, l1, l2, l3, l4, l5, l6, l7] st M Q) ∧
  (∀ (l0 l1 l2 l3 l4 l5 l6 l7 : Value) (st : List Value) (M : Mm) (Q : Option Value → Mm → Prop), wp F_Md_open 15 [l0, l1, l2, l3, l4, l5, l6, l7] st M Q = wp F_Md_open 16 [l0, l1, l2, l3, l4, l5, l6, l7] (.int 0 :: st) M Q) ∧
  (∀ (l0 l1 l2 l3 l4 l5 l6 l7 : Value) (x : Int32) (st : List Value) (M : Mm) (Q : Option Value → Mm → Prop), wp F_Md_open 16 [l0, l1, l2, l3, l4, l5, l6, l7] (.int x :: st) M Q = wp F_Md_open 17 [l0, clr l1, .int x, l3, l4, l5, l6, l7] st M Q) := ⟨fun _ _ _ _ _ _ _ _ _ _ _ => wp_in d_Md_open_7 rfl rfl, fun _ _ _ _ _ _ _ _ _ _ _ => wp_in d_Md_open_8 rfl rfl, fun _ _ _ _ _ _ _ _ _ _ _ _ => wp_getI d_Md_open_9 fl_12_87 rfl, fun _ _ _ _ _ _ _ _ _ _ _ _ _ => wp_icmp_ge d_Md_open_12 rfl, fun _ _ _ _ _ _ _ _ _ _ _ => wp_iconst d_Md_open_15 (by decide), fun _ _ _ _ _ _ _ _ _ _ _ _ => wp_in d_Md_open_16 rfl rfl⟩
theorem B_Md_open_17 : (∀ (l0 l1 l3 l4 l5 l6 l7 : Value) (x : Int32) (st : List Value) (M : Mm) (Q : Option Value → Mm → Prop), wp F_Md_open 17 [l0, l1, .int x, l3, l4, l5, l6, l7] st M Q = wp F_Md_open 18 [l0, l1, .int x, l3, l4, l5, l6, l7] (.int x :: st) M Q) ∧
  (∀ (l1 l2 l3 l4 l5 l6 l7 : Value) (x : Nat) (st : List Value) (M : Mm) (Q : Option Value → Mm → Prop), wp F_Md_open 18 [.ref x, l1, l2, l3, l4, l5, l6, l7] st M Q = wp F_Md_open 19 [.ref x, l1, l2, l3, l4, l5, l6, l7] (.ref x :: st) M Q) ∧
  (∀ (l0 l1 l2 l3 l4 l5 l6 l7 : Value) (a : Nat) (st : List Value) (M : Mm) (Q : Option Value → Mm → Prop), wp F_Md_open 19 [l0, l1, l2, l3, l4, l5, l6, l7] (.ref a :: st) M Q = (sh M a = some (.inl 12) ∧ wp F_Md_open 22 [l0, l1, l2, l3, l4, l5, l6, l7] (.int (gI M a 21) :: st) M Q)) ∧
  (∀ (l0 l1 l2 l3 l4 l5 l6 l7 : Value) (x y : Int32) (st : List Value) (M : Mm) (Q : Option Value → Mm → Prop), wp F_Md_open 22 [l0, l1, l2, l3, l4, l5, l6, l7] (.int y :: .int x :: st) M Q = if y ≤ x then wp F_Md_open 199 [l0, l1, l2, l3, l4, l5, l6, l7] st M Q else wp F_Md_open 25 [l0, l1, l2, l3, l4, l5, l6, l7] st M Q) ∧
  (∀ (l1 l2 l3 l4 l5 l6 l7 : Value) (x : Nat) (st : List Value) (M : Mm) (Q : Option Value → Mm → Prop), wp F_Md_open 25 [.ref x, l1, l2, l3, l4, l5, l6, l7] st M Q = wp F_Md_open 26 [.ref x, l1, l2, l3, l4, l5, l6, l7] (.ref x :: st) M Q) ∧
  (∀ (l0 l1 l2 l3 l4 l5 l6 l7 : Value) (a : Nat) (st : List Value) (M : Mm) (Q : Option Value → Mm → Prop), wp F_Md_open 26 [l0, l1, l2, l3, l4, l5, l6, l7] (.ref a :: st) M Q = (sh M a = some (.inl 12) ∧ wp F_Md_open 29 [l0, l1, l2, l3, l4, l5, l6, l7] (va_rf (gR M a 20) :: st) M Q)) ∧
  (∀ (l0 l2 l3 l4 l5 l6 l7 : Value) (x : Int32) (st : List Value) (M : Mm) (Q : Option Value → Mm → Prop), wp F_Md_open 29 [l0, .int x, l2, l3, l4, l5, l6, l7] st M Q = wp F_Md_open 30 [l0, .int x, l2, l3, l4, l5, l6, l7] (.int x :: st) M Q) ∧
  (∀ (l0 l1 l2 l3 l4 l5 l6 l7 : Value) (a : Nat) (j : Int32) (st : List Value) (M : Mm) (Q : Option Value → Mm → Prop), wp F_Md_open 30 [l0, l1, l2, l3, l4, l5, l6, l7] (.int j :: .ref a :: st) M Q = (ixB M a j ∧ wp F_Md_open 31 [l0, l1, l2, l3, l4, l5, l6, l7] (.int (gI M a (cl j)) :: st) M Q)) ∧
  (∀ (l0 l1 l2 l3 l4 l5 l6 l7 : Value) (x : Int32) (st : List Value) (M : Mm) (Q : Option Value → Mm → Prop), wp F_Md_open 31 [l0, l1, l2, l3, l4, l5, l6, l7] (.int x :: st) M Q = if x = 0 then wp F_Md_open 43 [l0, l1, l2, l3, l4, l5, l6, l7] st M Q else wp F_Md_open 34 [l0, l1, l2, l3, l4, l5, l6, l7] st M Q) ∧
  (∀ (l1 l2 l3 l4 l5 l6 l7 : Value) (x : Nat) (st : List Value) (M : Mm) (Q : Option Value → Mm → Prop), wp F_Md_open 34 [.ref x, l1, l2, l3, l4, l5, l6, l7] st M Q = wp F_Md_open 35 [.ref x, l1, l2, l3, l4, l5, l6, l7] (.ref x :: st) M Q) ∧
  (∀ (l0 l1 l2 l3 l4 l5 l6 l7 : Value) (a : Nat) (st : List Value) (M : Mm) (Q : Option Value → Mm → Prop), wp F_Md_open 35 [l0, l1, l2, l3, l4, l5, l6, l7] (.ref a :: st) M Q = (sh M a = some (.inl 12) ∧ wp F_Md_open 38 [l0, l1, l2, l3, l4, l5, l6, l7] (va_rf (gR M a 20) :: st) M Q)) ∧
  (∀ (l0 l1 l3 l4 l5 l6 l7 : Value) (x : Int32) (st : List Value) (M : Mm) (Q : Option Value → Mm → Prop), wp F_Md_open 38 [l0, l1, .int x, l3, l4, l5, l6, l7] st M Q = wp F_Md_open 39 [l0, l1, .int x, l3, l4, l5, l6, l7] (.int x :: st) M Q) ∧
  (∀ (l0 l1 l2 l3 l4 l5 l6 l7 : Value) (a : Nat) (j : Int32) (st : List Value) (M : Mm) (Q : Option Value → Mm → Prop), wp F_Md_open 39 [l0, l1, l2, l3, l4, l5, l6, l7] (.int j :: .ref a :: st) M Q = (ixB M a j ∧ wp F_Md_open 40 [l0, l1, l2, l3, l4, l5, l6, l7] (.int (gI M a (cl j)) :: st) M Q)) ∧
  (∀ (l0 l1 l2 l3 l4 l5 l6 l7 : Value) (x : Int32) (st : List Value) (M : Mm) (Q : Option Value → Mm → Prop), wp F_Md_open 40 [l0, l1, l2, l3, l4, l5, l6, l7] (.int x :: st) M Q = if x = 0 then wp F_Md_open 43 [l0, l1, l2, l3, l4, l5, l6, l7] st M Q else wp F_Md_open 47 [l0, l1, l2, l3, l4, l5, l6, l7] st M Q) := ⟨fun _ _ _ _ _ _ _ _ _ _ _ => wp_in d_Md_open_17 rfl rfl, fun _ _ _ _ _ _ _ _ _ _ _ => wp_in d_Md_open_18 rfl rfl, fun _ _ _ _ _ _ _ _ _ _ _ _ => wp_getI d_Md_open_19 fl_12_87 rfl, fun _ _ _ _ _ _ _ _ _ _ _ _ _ => wp_icmp_ge d_Md_open_22 rfl, fun _ _ _ _ _ _ _ _ _ _ _ => wp_in d_Md_open_25 rfl rfl, fun _ _ _ _ _ _ _ _ _ _ _ _ => wp_getA d_Md_open_26 fl_12_152 rfl, fun _ _ _ _ _ _ _ _ _ _ _ => wp_in d_Md_open_29 rfl rfl, fun _ _ _ _ _ _ _ _ _ _ _ _ _ => wp_bald d_Md_open_30, fun _ _ _ _ _ _ _ _ _ _ _ _ => wp_if_eq d_Md_open_31 rfl, fun _ _ _ _ _ _ _ _ _ _ _ => wp_in d_Md_open_34 rfl rfl, fun _ _ _ _ _ _ _ _ _ _ _ _ => wp_getA d_Md_open_35 fl_12_152 rfl, fun _ _ _ _ _ _ _ _ _ _ _ => wp_in d_Md_open_38 rfl rfl, fun _ _ _ _ _ _ _ _ _ _ _ _ _ => wp_bald d_Md_open_39, fun _ _ _ _ _ _ _ _ _ _ _ _ => wp_if_ne d_Md_open_40 rfl⟩
theorem B_Md_open_43 : (∀ (l0 l1 l2 l3 l4 l5 l6 l7 : Value) (st : List Value) (M : Mm) (Q : Option Value → Mm → Prop), wp F_Md_open 43 [l0, l1, l2, l3, l4, l5, l6, l7] st M Q = wp F_Md_open 44 [l0, l1, l2, l3, l4, l5, l6, l7] (.int 0 :: st) M Q) ∧
  (∀ (l0 l1 l2 l3 l4 l5 l6 l7 : Value) (st : List Value) (M : Mm) (Q : Option Value → Mm → Prop), wp F_Md_open 44 [l0, l1, l2, l3, l4, l5, l6, l7] st M Q = wp F_Md_open 77 [l0, l1, l2, l3, l4, l5, l6, l7] st M Q) := ⟨fun _ _ _ _ _ _ _ _ _ _ _ => wp_iconst d_Md_open_43 (by decide), fun _ _ _ _ _ _ _ _ _ _ _ => wp_goto d_Md_open_44 rfl⟩
theorem B_Md_open_47 : (∀ (l1 l2 l3 l4 l5 l6 l7 : Value) (x : Nat) (st : List Value) (M : Mm) (Q : Option Value → Mm → Prop), wp F_Md_open 47 [.ref x, l1, l2, l3, l4, l5, l6, l7] st M Q = wp F_Md_open 48 [.ref x, l1, l2, l3, l4, l5, l6, l7] (.ref x :: st) M Q) ∧
  (∀ (l0 l1 l2 l3 l4 l5 l6 l7 : Value) (a : Nat) (st : List Value) (M : Mm) (Q : Option Value → Mm → Prop), wp F_Md_open 48 [l0, l1, l2, l3, l4, l5, l6, l7] (.ref a :: st) M Q = (sh M a = some (.inl 12) ∧ wp F_Md_open 51 [l0, l1, l2, l3, l4, l5, l6, l7] (va_rf (gR M a 17) :: st) M Q)) ∧
  (∀ (l0 l2 l3 l4 l5 l6 l7 : Value) (x : Int32) (st : List Value) (M : Mm) (Q : Option Value → Mm → Prop), wp F_Md_open 51 [l0, .int x, l2, l3, l4, l5, l6, l7] st M Q = wp F_Md_open 52 [l0, .int x, l2, l3, l4, l5, l6, l7] (.int x :: st) M Q) ∧
  (∀ (l0 l1 l2 l3 l4 l5 l6 l7 : Value) (a : Nat) (j : Int32) (st : List Value) (M : Mm) (Q : Option Value → Mm → Prop), wp F_Md_open 52 [l0, l1, l2, l3, l4, l5, l6, l7] (.int j :: .ref a :: st) M Q = (ixI M a j ∧ wp F_Md_open 53 [l0, l1, l2, l3, l4, l5, l6, l7] (.int (gI M a (cl j)) :: st) M Q)) ∧
  (∀ (l1 l2 l3 l4 l5 l6 l7 : Value) (x : Nat) (st : List Value) (M : Mm) (Q : Option Value → Mm → Prop), wp F_Md_open 53 [.ref x, l1, l2, l3, l4, l5, l6, l7] st M Q = wp F_Md_open 54 [.ref x, l1, l2, l3, l4, l5, l6, l7] (.ref x :: st) M Q) ∧
  (∀ (l0 l1 l2 l3 l4 l5 l6 l7 : Value) (a : Nat) (st : List Value) (M : Mm) (Q : Option Value → Mm → Prop), wp F_Md_open 54 [l0, l1, l2, l3, l4, l5, l6, l7] (.ref a :: st) M Q = (sh M a = some (.inl 12) ∧ wp F_Md_open 57 [l0, l1, l2, l3, l4, l5, l6, l7] (va_rf (gR M a 17) :: st) M Q)) ∧
  (∀ (l0 l1 l3 l4 l5 l6 l7 : Value) (x : Int32) (st : List Value) (M : Mm) (Q : Option Value → Mm → Prop), wp F_Md_open 57 [l0, l1, .int x, l3, l4, l5, l6, l7] st M Q = wp F_Md_open 58 [l0, l1, .int x, l3, l4, l5, l6, l7] (.int x :: st) M Q) ∧
  (∀ (l0 l1 l2 l3 l4 l5 l6 l7 : Value) (a : Nat) (j : Int32) (st : List Value) (M : Mm) (Q : Option Value → Mm → Prop), wp F_Md_open 58 [l0, l1, l2, l3, l4, l5, l6, l7] (.int j :: .ref a :: st) M Q = (ixI M a j ∧ wp F_Md_open 59 [l0, l1, l2, l3, l4, l5, l6, l7] (.int (gI M a (cl j)) :: st) M Q)) ∧
  (∀ (l0 l1 l2 l3 l4 l5 l6 l7 : Value) (x y : Int32) (st : List Value) (M : Mm) (Q : Option Value → Mm → Prop), wp F_Md_open 59 [l0, l1, l2, l3, l4, l5, l6, l7] (.int y :: .int x :: st) M Q = if y ≤ x then wp F_Md_open 71 [l0, l1, l2, l3, l4, l5, l6, l7] st M Q else wp F_Md_open 62 [l0, l1, l2, l3, l4, l5, l6, l7] st M Q) ∧
  (∀ (l1 l2 l3 l4 l5 l6 l7 : Value) (x : Nat) (st : List Value) (M : Mm) (Q : Option Value → Mm → Prop), wp F_Md_open 62 [.ref x, l1, l2, l3, l4, l5, l6, l7] st M Q = wp F_Md_open 63 [.ref x, l1, l2, l3, l4, l5, l6, l7] (.ref x :: st) M Q) ∧
  (∀ (l0 l1 l2 l3 l4 l5 l6 l7 : Value) (a : Nat) (st : List Value) (M : Mm) (Q : Option Value → Mm → Prop), wp F_Md_open 63 [l0, l1, l2, l3, l4, l5, l6, l7] (.ref a :: st) M Q = (sh M a = some (.inl 12) ∧ wp F_Md_open 66 [l0, l1, l2, l3, l4, l5, l6, l7] (va_rf (gR M a 17) :: st) M Q)) ∧
  (∀ (l0 l2 l3 l4 l5 l6 l7 : Value) (x : Int32) (st : List Value) (M : Mm) (Q : Option Value → Mm → Prop), wp F_Md_open 66 [l0, .int x, l2, l3, l4, l5, l6, l7] st M Q = wp F_Md_open 67 [l0, .int x, l2, l3, l4, l5, l6, l7] (.int x :: st) M Q) ∧
  (∀ (l0 l1 l2 l3 l4 l5 l6 l7 : Value) (a : Nat) (j : Int32) (st : List Value) (M : Mm) (Q : Option Value → Mm → Prop), wp F_Md_open 67 [l0, l1, l2, l3, l4, l5, l6, l7] (.int j :: .ref a :: st) M Q = (ixI M a j ∧ wp F_Md_open 68 [l0, l1, l2, l3, l4, l5, l6, l7] (.int (gI M a (cl j)) :: st) M Q)) ∧
  (∀ (l0 l1 l2 l3 l4 l5 l6 l7 : Value) (st : List Value) (M : Mm) (Q : Option Value → Mm → Prop), wp F_Md_open 68 [l0, l1, l2, l3, l4, l5, l6, l7] st M Q = wp F_Md_open 77 [l0, l1, l2, l3, l4, l5, l6, l7] st M Q) := ⟨fun _ _ _ _ _ _ _ _ _ _ _ => wp_in d_Md_open_47 rfl rfl, fun _ _ _ _ _ _ _ _ _ _ _ _ => wp_getA d_Md_open_48 fl_12_143 rfl, fun _ _ _ _ _ _ _ _ _ _ _ => wp_in d_Md_open_51 rfl rfl, fun _ _ _ _ _ _ _ _ _ _ _ _ _ => wp_iald d_Md_open_52, fun _ _ _ _ _ _ _ _ _ _ _ => wp_in d_Md_open_53 rfl rfl, fun _ _ _ _ _ _ _ _ _ _ _ _ => wp_getA d_Md_open_54 fl_12_143 rfl, fun _ _ _ _ _ _ _ _ _ _ _ => wp_in d_Md_open_57 rfl rfl, fun _ _ _ _ _ _ _ _ _ _ _ _ _ => wp_iald d_Md_open_58, fun _ _ _ _ _ _ _ _ _ _ _ _ _ => wp_icmp_ge d_Md_open_59 rfl, fun _ _ _ _ _ _ _ _ _ _ _ => wp_in d_Md_open_62 rfl rfl, fun _ _ _ _ _ _ _ _ _ _ _ _ => wp_getA d_Md_open_63 fl_12_143 rfl, fun _ _ _ _ _ _ _ _ _ _ _ => wp_in d_Md_open_66 rfl rfl, fun _ _ _ _ _ _ _ _ _ _ _ _ _ => wp_iald d_Md_open_67, fun _ _ _ _ _ _ _ _ _ _ _ => wp_goto d_Md_open_68 rfl⟩
theorem B_Md_open_71 : (∀ (l1 l2 l3 l4 l5 l6 l7 : Value) (x : Nat) (st : List Value) (M : Mm) (Q : Option Value → Mm → Prop), wp F_Md_open 71 [.ref x, l1, l2, l3, l4, l5, l6, l7] st M Q = wp F_Md_open 72 [.ref x, l1, l2, l3, l4, l5, l6, l7] (.ref x :: st) M Q) ∧
  (∀ (l0 l1 l2 l3 l4 l5 l6 l7 : Value) (a : Nat) (st : List Value) (M : Mm) (Q : Option Value → Mm → Prop), wp F_Md_open 72 [l0, l1, l2, l3, l4, l5, l6, l7] (.ref a :: st) M Q = (sh M a = some (.inl 12) ∧ wp F_Md_open 75 [l0, l1, l2, l3, l4, l5, l6, l7] (va_rf (gR M a 17) :: st) M Q)) ∧
  (∀ (l0 l1 l3 l4 l5 l6 l7 : Value) (x : Int32) (st : List Value) (M : Mm) (Q : Option Value → Mm → Prop), wp F_Md_open 75 [l0, l1, .int x, l3, l4, l5, l6, l7] st M Q = wp F_Md_open 76 [l0, l1, .int x, l3, l4, l5, l6, l7] (.int x :: st) M Q) ∧
  (∀ (l0 l1 l2 l3 l4 l5 l6 l7 : Value) (a : Nat) (j : Int32) (st : List Value) (M : Mm) (Q : Option Value → Mm → Prop), wp F_Md_open 76 [l0, l1, l2, l3, l4, l5, l6, l7] (.int j :: .ref a :: st) M Q = (ixI M a j ∧ wp F_Md_open 77 [l0, l1, l2, l3, l4, l5, l6, l7] (.int (gI M a (cl j)) :: st) M Q)) := ⟨fun _ _ _ _ _ _ _ _ _ _ _ => wp_in d_Md_open_71 rfl rfl, fun _ _ _ _ _ _ _ _ _ _ _ _ => wp_getA d_Md_open_72 fl_12_143 rfl, fun _ _ _ _ _ _ _ _ _ _ _ => wp_in d_Md_open_75 rfl rfl, fun _ _ _ _ _ _ _ _ _ _ _ _ _ => wp_iald d_Md_open_76⟩
theorem B_Md_open_77 : (∀ (l0 l1 l2 l3 l4 l5 l6 l7 : Value) (x : Int32) (st : List Value) (M : Mm) (Q : Option Value → Mm → Prop), wp F_Md_open 77 [l0, l1, l2, l3, l4, l5, l6, l7] (.int x :: st) M Q = wp F_Md_open 78 [l0, l1, clr l2, .int x, l4, l5, l6, l7] st M Q) ∧
  (∀ (l0 l1 l2 l3 l4 l5 l6 l7 : Value) (st : List Value) (M : Mm) (Q : Option Value → Mm → Prop), wp F_Md_open 78 [l0, l1, l2, l3, l4, l5, l6, l7] st M Q = wp F_Md_open 79 [l0, l1, l2, l3, l4, l5, l6, l7] (.int 1 :: st) M Q) ∧
  (∀ (l0 l1 l2 l3 l4 l5 l6 l7 : Value) (x : Int32) (st : List Value) (M : Mm) (Q : Option Value → Mm → Prop), wp F_Md_open 79 [l0, l1, l2, l3, l4, l5, l6, l7] (.int x :: st) M Q = wp F_Md_open 81 [l0, l1, l2, clr l3, .int x, l5, l6, l7] st M Q) := ⟨fun _ _ _ _ _ _ _ _ _ _ _ _ => wp_in d_Md_open_77 rfl rfl, fun _ _ _ _ _ _ _ _ _ _ _ => wp_iconst d_Md_open_78 (by decide), fun _ _ _ _ _ _ _ _ _ _ _ _ => wp_in d_Md_open_79 rfl rfl⟩
theorem B_Md_open_81 : (∀ (l0 l1 l2 l3 l5 l6 l7 : Value) (x : Int32) (st : List Value) (M : Mm) (Q : Option Value → Mm → Prop), wp F_Md_open 81 [l0, l1, l2, l3, .int x, l5, l6, l7] st M Q = wp F_Md_open 83 [l0, l1, l2, l3, .int x, l5, l6, l7] (.int x :: st) M Q) ∧
  (∀ (l0 l1 l2 l4 l5 l6 l7 : Value) (x : Int32) (st : List Value) (M : Mm) (Q : Option Value → Mm → Prop), wp F_Md_open 83 [l0, l1, l2, .int x, l4, l5, l6, l7] st M Q = wp F_Md_open 84 [l0, l1, l2, .int x, l4, l5, l6, l7] (.int x :: st) M Q) ∧
  (∀ (l0 l1 l2 l3 l4 l5 l6 l7 : Value) (x y : Int32) (st : List Value) (M : Mm) (Q : Option Value → Mm → Prop), wp F_Md_open 84 [l0, l1, l2, l3, l4, l5, l6, l7] (.int y :: .int x :: st) M Q = if y ≤ x then wp F_Md_open 193 [l0, l1, l2, l3, l4, l5, l6, l7] st M Q else wp F_Md_open 87 [l0, l1, l2, l3, l4, l5, l6, l7] st M Q) ∧
  (∀ (l1 l2 l3 l4 l5 l6 l7 : Value) (x : Nat) (st : List Value) (M : Mm) (Q : Option Value → Mm → Prop), wp F_Md_open 87 [.ref x, l1, l2, l3, l4, l5, l6, l7] st M Q = wp F_Md_open 88 [.ref x, l1, l2, l3, l4, l5, l6, l7] (.ref x :: st) M Q) ∧
  (∀ (l0 l2 l3 l4 l5 l6 l7 : Value) (x : Int32) (st : List Value) (M : Mm) (Q : Option Value → Mm → Prop), wp F_Md_open 88 [l0, .int x, l2, l3, l4, l5, l6, l7] st M Q = wp F_Md_open 89 [l0, .int x, l2, l3, l4, l5, l6, l7] (.int x :: st) M Q) ∧
  (∀ (l0 l1 l3 l4 l5 l6 l7 : Value) (x : Int32) (st : List Value) (M : Mm) (Q : Option Value → Mm → Prop), wp F_Md_open 89 [l0, l1, .int x, l3, l4, l5, l6, l7] st M Q = wp F_Md_open 90 [l0, l1, .int x, l3, l4, l5, l6, l7] (.int x :: st) M Q) ∧
  (∀ (l0 l1 l2 l3 l5 l6 l7 : Value) (x : Int32) (st : List Value) (M : Mm) (Q : Option Value → Mm → Prop), wp F_Md_open 90 [l0, l1, l2, l3, .int x, l5, l6, l7] st M Q = wp F_Md_open 92 [l0, l1, l2, l3, .int x, l5, l6, l7] (.int x :: st) M Q) ∧
  (∀ (l0 l1 l2 l3 l4 l5 l6 l7 : Value) (b : Nat) (p0 : Int32) (p1 : Int32) (p2 : Int32) (M : Mm) (Q : Option Value → Mm → Prop), wp F_Md_open 92 [l0, l1, l2, l3, l4, l5, l6, l7] [.int p2, .int p1, .int p0, .ref b] M Q = (sh M b = some (.inl 12) ∧ wp F_Md_overlaps 0 [.ref b, .int p0, .int p1, .int p2, jk] [] M (fun r M1 => wp F_Md_open 95 [l0, l1, l2, l3, l4, l5, l6, l7] (r.toList ++ []) M1 Q))) ∧
  (∀ (l0 l1 l2 l3 l4 l5 l6 l7 : Value) (x : Int32) (st : List Value) (M : Mm) (Q : Option Value → Mm → Prop), wp F_Md_open 95 [l0, l1, l2, l3, l4, l5, l6, l7] (.int x :: st) M Q = if x = 0 then wp F_Md_open 187 [l0, l1, l2, l3, l4, l5, l6, l7] st M Q else wp F_Md_open 98 [l0, l1, l2, l3, l4, l5, l6, l7] st M Q) ∧
  (∀ (l1 l2 l3 l4 l5 l6 l7 : Value) (x : Nat) (st : List Value) (M : Mm) (Q : Option Value → Mm → Prop), wp F_Md_open 98 [.ref x, l1, l2, l3, l4, l5, l6, l7] st M Q = wp F_Md_open 99 [.ref x, l1, l2, l3, l4, l5, l6, l7] (.ref x :: st) M Q) ∧
  (∀ (l0 l1 l2 l3 l4 l5 l6 l7 : Value) (a : Nat) (st : List Value) (M : Mm) (Q : Option Value → Mm → Prop), wp F_Md_open 99 [l0, l1, l2, l3, l4, l5, l6, l7] (.ref a :: st) M Q = (sh M a = some (.inl 12) ∧ wp F_Md_open 102 [l0, l1, l2, l3, l4, l5, l6, l7] (.int (gI M a 38) :: st) M Q)) ∧
  (∀ (l0 l1 l2 l3 l4 l5 l6 l7 : Value) (x : Int32) (st : List Value) (M : Mm) (Q : Option Value → Mm → Prop), wp F_Md_open 102 [l0, l1, l2, l3, l4, l5, l6, l7] (.int x :: st) M Q = wp F_Md_open 104 [l0, l1, l2, l3, clr l4, .int x, l6, l7] st M Q) ∧
  (∀ (l1 l2 l3 l4 l5 l6 l7 : Value) (x : Nat) (st : List Value) (M : Mm) (Q : Option Value → Mm → Prop), wp F_Md_open 104 [.ref x, l1, l2, l3, l4, l5, l6, l7] st M Q = wp F_Md_open 105 [.ref x, l1, l2, l3, l4, l5, l6, l7] (.ref x :: st) M Q) ∧
  (∀ (l1 l2 l3 l4 l5 l6 l7 : Value) (x : Nat) (st : List Value) (M : Mm) (Q : Option Value → Mm → Prop), wp F_Md_open 105 [.ref x, l1, l2, l3, l4, l5, l6, l7] st M Q = wp F_Md_open 106 [.ref x, l1, l2, l3, l4, l5, l6, l7] (.ref x :: st) M Q) ∧
  (∀ (l0 l1 l2 l3 l4 l5 l6 l7 : Value) (a : Nat) (st : List Value) (M : Mm) (Q : Option Value → Mm → Prop), wp F_Md_open 106 [l0, l1, l2, l3, l4, l5, l6, l7] (.ref a :: st) M Q = (sh M a = some (.inl 12) ∧ wp F_Md_open 109 [l0, l1, l2, l3, l4, l5, l6, l7] (va_rf (gR M a 29) :: st) M Q)) ∧
  (∀ (l1 l2 l3 l4 l5 l6 l7 : Value) (x : Nat) (st : List Value) (M : Mm) (Q : Option Value → Mm → Prop), wp F_Md_open 109 [.ref x, l1, l2, l3, l4, l5, l6, l7] st M Q = wp F_Md_open 110 [.ref x, l1, l2, l3, l4, l5, l6, l7] (.ref x :: st) M Q) ∧
  (∀ (l0 l1 l2 l3 l4 l5 l6 l7 : Value) (a : Nat) (st : List Value) (M : Mm) (Q : Option Value → Mm → Prop), wp F_Md_open 110 [l0, l1, l2, l3, l4, l5, l6, l7] (.ref a :: st) M Q = (sh M a = some (.inl 12) ∧ wp F_Md_open 113 [l0, l1, l2, l3, l4, l5, l6, l7] (.int (gI M a 37) :: st) M Q)) ∧
  (∀ (l0 l1 l2 l3 l4 l5 l6 l7 : Value) (b : Nat) (p0 : Nat) (p1 : Int32) (M : Mm) (Q : Option Value → Mm → Prop), wp F_Md_open 113 [l0, l1, l2, l3, l4, l5, l6, l7] [.int p1, .ref p0, .ref b] M Q = (sh M b = some (.inl 12) ∧ wp F_Md_shrink 0 [.ref b, .ref p0, .int p1, jk, jk, jk, jk, jk, jk] [] M (fun r M1 => wp F_Md_open 116 [l0, l1, l2, l3, l4, l5, l6, l7] (r.toList ++ []) M1 Q))) ∧
  (∀ (l0 l1 l2 l3 l4 l5 l6 l7 : Value) (x : Int32) (st : List Value) (M : Mm) (Q : Option Value → Mm → Prop), wp F_Md_open 116 [l0, l1, l2, l3, l4, l5, l6, l7] (.int x :: st) M Q = wp F_Md_open 118 [l0, l1, l2, l3, l4, clr l5, .int x, l7] st M Q) ∧
  (∀ (l0 l1 l2 l3 l4 l5 l7 : Value) (x : Int32) (st : List Value) (M : Mm) (Q : Option Value → Mm → Prop), wp F_Md_open 118 [l0, l1, l2, l3, l4, l5, .int x, l7] st M Q = wp F_Md_open 120 [l0, l1, l2, l3, l4, l5, .int x, l7] (.int x :: st) M Q) ∧
  (∀ (l0 l1 l2 l3 l4 l5 l6 l7 : Value) (st : List Value) (M : Mm) (Q : Option Value → Mm → Prop), wp F_Md_open 120 [l0, l1, l2, l3, l4, l5, l6, l7] st M Q = wp F_Md_open 121 [l0, l1, l2, l3, l4, l5, l6, l7] (.int (-1) :: st) M Q) ∧
  (∀ (l0 l1 l2 l3 l4 l5 l6 l7 : Value) (x y : Int32) (st : List Value) (M : Mm) (Q : Option Value → Mm → Prop), wp F_Md_open 121 [l0, l1, l2, l3, l4, l5, l6, l7] (.int y :: .int x :: st) M Q = if x = y then wp F_Md_open 124 [l0, l1, l2, l3, l4, l5, l6, l7] st M Q else wp F_Md_open 128 [l0, l1, l2, l3, l4, l5, l6, l7] st M Q) ∧
  (∀ (l0 l1 l2 l3 l4 l5 l6 l7 : Value) (st : List Value) (M : Mm) (Q : Option Value → Mm → Prop), wp F_Md_open 124 [l0, l1, l2, l3, l4, l5, l6, l7] st M Q = wp F_Md_open 125 [l0, l1, l2, l3, l4, l5, l6, l7] (.int (-1) :: st) M Q) ∧
  (∀ (l0 l1 l2 l3 l4 l5 l6 l7 : Value) (st : List Value) (M : Mm) (Q : Option Value → Mm → Prop), wp F_Md_open 125 [l0, l1, l2, l3, l4, l5, l6, l7] st M Q = wp F_Md_open 138 [l0, l1, l2, l3, l4, l5, l6, l7] st M Q) := ⟨fun _ _ _ _ _ _ _ _ _ _ _ => wp_in d_Md_open_81 rfl rfl, fun _ _ _ _ _ _ _ _ _ _ _ => wp_in d_Md_open_83 rfl rfl, fun _ _ _ _ _ _ _ _ _ _ _ _ _ => wp_icmp_ge d_Md_open_84 rfl, fun _ _ _ _ _ _ _ _ _ _ _ => wp_in d_Md_open_87 rfl rfl, fun _ _ _ _ _ _ _ _ _ _ _ => wp_in d_Md_open_88 rfl rfl, fun _ _ _ _ _ _ _ _ _ _ _ => wp_in d_Md_open_89 rfl rfl, fun _ _ _ _ _ _ _ _ _ _ _ => wp_in d_Md_open_90 rfl rfl, fun _ _ _ _ _ _ _ _ _ _ _ _ _ _ => wp_callV d_Md_open_92 ml_12_233 rfl rfl rfl, fun _ _ _ _ _ _ _ _ _ _ _ _ => wp_if_eq d_Md_open_95 rfl, fun _ _ _ _ _ _ _ _ _ _ _ => wp_in d_Md_open_98 rfl rfl, fun _ _ _ _ _ _ _ _ _ _ _ _ => wp_getI d_Md_open_99 fl_12_230 rfl, fun _ _ _ _ _ _ _ _ _ _ _ _ => wp_in d_Md_open_102 rfl rfl, fun _ _ _ _ _ _ _ _ _ _ _ => wp_in d_Md_open_104 rfl rfl, fun _ _ _ _ _ _ _ _ _ _ _ => wp_in d_Md_open_105 rfl rfl, fun _ _ _ _ _ _ _ _ _ _ _ _ => wp_getA d_Md_open_106 fl_12_157 rfl, fun _ _ _ _ _ _ _ _ _ _ _ => wp_in d_Md_open_109 rfl rfl, fun _ _ _ _ _ _ _ _ _ _ _ _ => wp_getI d_Md_open_110 fl_12_227 rfl, fun _ _ _ _ _ _ _ _ _ _ _ _ _ => wp_callV d_Md_open_113 ml_12_213 rfl rfl rfl, fun _ _ _ _ _ _ _ _ _ _ _ _ => wp_in d_Md_open_116 rfl rfl, fun _ _ _ _ _ _ _ _ _ _ _ => wp_in d_Md_open_118 rfl rfl, fun _ _ _ _ _ _ _ _ _ _ _ => wp_iconst d_Md_open_120 (by decide), fun _ _ _ _ _ _ _ _ _ _ _ _ _ => wp_icmp_ne d_Md_open_121 rfl, fun _ _ _ _ _ _ _ _ _ _ _ => wp_iconst d_Md_open_124 (by decide), fun _ _ _ _ _ _ _ _ _ _ _ => wp_goto d_Md_open_125 rfl⟩
theorem B_Md_open_128 : (∀ (l1 l2 l3 l4 l5 l6 l7 : Value) (x : Nat) (st : List Value) (M : Mm) (Q : Option Value → Mm → Prop), wp F_Md_open 128 [.ref x, l1, l2, l3, l4, l5, l6, l7] st M Q = wp F_Md_open 129 [.ref x, l1, l2, l3, l4, l5, l6, l7] (.ref x :: st) M Q) ∧
  (∀ (l1 l2 l3 l4 l5 l6 l7 : Value) (x : Nat) (st : List Value) (M : Mm) (Q : Option Value → Mm → Prop), wp F_Md_open 129 [.ref x, l1, l2, l3, l4, l5, l6, l7] st M Q = wp F_Md_open 130 [.ref x, l1, l2, l3, l4, l5, l6, l7] (.ref x :: st) M Q) ∧
  (∀ (l0 l1 l2 l3 l4 l5 l6 l7 : Value) (a : Nat) (st : List Value) (M : Mm) (Q : Option Value → Mm → Prop), wp F_Md_open 130 [l0, l1, l2, l3, l4, l5, l6, l7] (.ref a :: st) M Q = (sh M a = some (.inl 12) ∧ wp F_Md_open 133 [l0, l1, l2, l3, l4, l5, l6, l7] (va_rf (gR M a 30) :: st) M Q)) ∧
  (∀ (l0 l1 l2 l3 l4 l6 l7 : Value) (x : Int32) (st : List Value) (M : Mm) (Q : Option Value → Mm → Prop), wp F_Md_open 133 [l0, l1, l2, l3, l4, .int x, l6, l7] st M Q = wp F_Md_open 135 [l0, l1, l2, l3, l4, .int x, l6, l7] (.int x :: st) M Q) ∧
  (∀ (l0 l1 l2 l3 l4 l5 l6 l7 : Value) (b : Nat) (p0 : Nat) (p1 : Int32) (M : Mm) (Q : Option Value → Mm → Prop), wp F_Md_open 135 [l0, l1, l2, l3, l4, l5, l6, l7] [.int p1, .ref p0, .ref b] M Q = (sh M b = some (.inl 12) ∧ wp F_Md_shrink 0 [.ref b, .ref p0, .int p1, jk, jk, jk, jk, jk, jk] [] M (fun r M1 => wp F_Md_open 138 [l0, l1, l2, l3, l4, l5, l6, l7] (r.toList ++ []) M1 Q))) := ⟨fun _ _ _ _ _ _ _ _ _ _ _ => wp_in d_Md_open_128 rfl rfl, fun _ _ _ _ _ _ _ _ _ _ _ => wp_in d_Md_open_129 rfl rfl, fun _ _ _ _ _ _ _ _ _ _ _ _ => wp_getA d_Md_open_130 fl_12_160 rfl, fun _ _ _ _ _ _ _ _ _ _ _ => wp_in d_Md_open_133 rfl rfl, fun _ _ _ _ _ _ _ _ _ _ _ _ _ => wp_callV d_Md_open_135 ml_12_213 rfl rfl rfl⟩
theorem B_Md_open_138 : (∀ (l0 l1 l2 l3 l4 l5 l6 l7 : Value) (x : Int32) (st : List Value) (M : Mm) (Q : Option Value → Mm → Prop), wp F_Md_open 138 [l0, l1, l2, l3, l4, l5, l6, l7] (.int x :: st) M Q = wp F_Md_open 140 [l0, l1, l2, l3, l4, l5, clr l6, .int x] st M Q) ∧
  (∀ (l0 l1 l2 l3 l4 l5 l6 : Value) (x : Int32) (st : List Value) (M : Mm) (Q : Option Value → Mm → Prop), wp F_Md_open 140 [l0, l1, l2, l3, l4, l5, l6, .int x] st M Q = wp F_Md_open 142 [l0, l1, l2, l3, l4, l5, l6, .int x] (.int x :: st) M Q) ∧
  (∀ (l0 l1 l2 l3 l4 l5 l6 l7 : Value) (st : List Value) (M : Mm) (Q : Option Value → Mm → Prop), wp F_Md_open 142 [l0, l1, l2, l3, l4, l5, l6, l7] st M Q = wp F_Md_open 143 [l0, l1, l2, l3, l4, l5, l6, l7] (.int (-1) :: st) M Q) ∧
  (∀ (l0 l1 l2 l3 l4 l5 l6 l7 : Value) (x y : Int32) (st : List Value) (M : Mm) (Q : Option Value → Mm → Prop), wp F_Md_open 143 [l0, l1, l2, l3, l4, l5, l6, l7] (.int y :: .int x :: st) M Q = if x = y then wp F_Md_open 146 [l0, l1, l2, l3, l4, l5, l6, l7] st M Q else wp F_Md_open 149 [l0, l1, l2, l3, l4, l5, l6, l7] st M Q) ∧
  (∀ (l0 l1 l2 l3 l4 l5 l6 l7 : Value) (st : List Value) (M : Mm) (Q : Option Value → Mm → Prop), wp F_Md_open 146 [l0, l1, l2, l3, l4, l5, l6, l7] st M Q = wp F_Md_open 148 [l0, l1, l2, l3, l4, l5, l6, l7] (.int (-4) :: st) M Q) ∧
  (∀ (l0 l1 l2 l3 l4 l5 l6 l7 : Value) (v : Int32) (M : Mm) (Q : Option Value → Mm → Prop), wp F_Md_open 148 [l0, l1, l2, l3, l4, l5, l6, l7] [.int v] M Q = Q (some (.int v)) M) := ⟨fun _ _ _ _ _ _ _ _ _ _ _ _ => wp_in d_Md_open_138 rfl rfl, fun _ _ _ _ _ _ _ _ _ _ _ => wp_in d_Md_open_140 rfl rfl, fun _ _ _ _ _ _ _ _ _ _ _ => wp_iconst d_Md_open_142 (by decide), fun _ _ _ _ _ _ _ _ _ _ _ _ _ => wp_icmp_ne d_Md_open_143 rfl, fun _ _ _ _ _ _ _ _ _ _ _ => wp_bipush d_Md_open_146 (by decide), fun _ _ _ _ _ _ _ _ _ _ _ => wp_retI d_Md_open_148 rfl⟩
theorem B_Md_open_149 : (∀ (l1 l2 l3 l4 l5 l6 l7 : Value) (x : Nat) (st : List Value) (M : Mm) (Q : Option Value → Mm → Prop), wp F_Md_open 149 [.ref x, l1, l2, l3, l4, l5, l6, l7] st M Q = wp F_Md_open 150 [.ref x, l1, l2, l3, l4, l5, l6, l7] (.ref x :: st) M Q) ∧
  (∀ (l0 l1 l2 l3 l4 l5 l6 l7 : Value) (a : Nat) (st : List Value) (M : Mm) (Q : Option Value → Mm → Prop), wp F_Md_open 150 [l0, l1, l2, l3, l4, l5, l6, l7] (.ref a :: st) M Q = (sh M a = some (.inl 12) ∧ wp F_Md_open 153 [l0, l1, l2, l3, l4, l5, l6, l7] (va_rf (gR M a 29) :: st) M Q)) ∧
  (∀ (l0 l1 l2 l3 l4 l5 l6 l7 : Value) (st : List Value) (M : Mm) (Q : Option Value → Mm → Prop), wp F_Md_open 153 [l0, l1, l2, l3, l4, l5, l6, l7] st M Q = wp F_Md_open 154 [l0, l1, l2, l3, l4, l5, l6, l7] (.int 0 :: st) M Q) ∧
  (∀ (l0 l1 l2 l3 l4 l5 l7 : Value) (x : Int32) (st : List Value) (M : Mm) (Q : Option Value → Mm → Prop), wp F_Md_open 154 [l0, l1, l2, l3, l4, l5, .int x, l7] st M Q = wp F_Md_open 156 [l0, l1, l2, l3, l4, l5, .int x, l7] (.int x :: st) M Q) ∧
  (∀ (l1 l2 l3 l4 l5 l6 l7 : Value) (x : Nat) (st : List Value) (M : Mm) (Q : Option Value → Mm → Prop), wp F_Md_open 156 [.ref x, l1, l2, l3, l4, l5, l6, l7] st M Q = wp F_Md_open 157 [.ref x, l1, l2, l3, l4, l5, l6, l7] (.ref x :: st) M Q) ∧
  (∀ (l0 l1 l2 l3 l4 l5 l6 l7 : Value) (a : Nat) (st : List Value) (M : Mm) (Q : Option Value → Mm → Prop), wp F_Md_open 157 [l0, l1, l2, l3, l4, l5, l6, l7] (.ref a :: st) M Q = (sh M a = some (.inl 12) ∧ wp F_Md_open 160 [l0, l1, l2, l3, l4, l5, l6, l7] (va_rf (gR M a 30) :: st) M Q)) ∧
  (∀ (l0 l1 l2 l3 l4 l5 l6 l7 : Value) (st : List Value) (M : Mm) (Q : Option Value → Mm → Prop), wp F_Md_open 160 [l0, l1, l2, l3, l4, l5, l6, l7] st M Q = wp F_Md_open 161 [l0, l1, l2, l3, l4, l5, l6, l7] (.int 0 :: st) M Q) ∧
  (∀ (l0 l1 l2 l3 l4 l5 l6 : Value) (x : Int32) (st : List Value) (M : Mm) (Q : Option Value → Mm → Prop), wp F_Md_open 161 [l0, l1, l2, l3, l4, l5, l6, .int x] st M Q = wp F_Md_open 163 [l0, l1, l2, l3, l4, l5, l6, .int x] (.int x :: st) M Q) ∧
  (∀ (l0 l1 l2 l3 l4 l5 l6 l7 : Value) (p0 : Nat) (p1 : Int32) (p2 : Int32) (p3 : Nat) (p4 : Int32) (p5 : Int32) (M : Mm) (Q : Option Value → Mm → Prop), wp F_Md_open 163 [l0, l1, l2, l3, l4, l5, l6, l7] [.int p5, .int p4, .ref p3, .int p2, .int p1, .ref p0] M Q = wp F_Md_greater 0 [.ref p0, .int p1, .int p2, .ref p3, .int p4, .int p5, jk] [] M (fun r M1 => wp F_Md_open 166 [l0, l1, l2, l3, l4, l5, l6, l7] (r.toList ++ []) M1 Q)) ∧
  (∀ (l0 l1 l2 l3 l4 l5 l6 l7 : Value) (x : Int32) (st : List Value) (M : Mm) (Q : Option Value → Mm → Prop), wp F_Md_open 166 [l0, l1, l2, l3, l4, l5, l6, l7] (.int x :: st) M Q = if x = 0 then wp F_Md_open 187 [l0, l1, l2, l3, l4, l5, l6, l7] st M Q else wp F_Md_open 169 [l0, l1, l2, l3, l4, l5, l6, l7] st M Q) ∧
  (∀ (l1 l2 l3 l4 l5 l6 l7 : Value) (x : Nat) (st : List Value) (M : Mm) (Q : Option Value → Mm → Prop), wp F_Md_open 169 [.ref x, l1, l2, l3, l4, l5, l6, l7] st M Q = wp F_Md_open 170 [.ref x, l1, l2, l3, l4, l5, l6, l7] (.ref x :: st) M Q) ∧
  (∀ (l0 l2 l3 l4 l5 l6 l7 : Value) (x : Int32) (st : List Value) (M : Mm) (Q : Option Value → Mm → Prop), wp F_Md_open 170 [l0, .int x, l2, l3, l4, l5, l6, l7] st M Q = wp F_Md_open 171 [l0, .int x, l2, l3, l4, l5, l6, l7] (.int x :: st) M Q) ∧
  (∀ (l0 l1 l2 l3 l4 l5 l6 l7 : Value) (a : Nat) (x : Int32) (st : List Value) (M : Mm) (Q : Option Value → Mm → Prop), wp F_Md_open 171 [l0, l1, l2, l3, l4, l5, l6, l7] (.int x :: .ref a :: st) M Q = (sh M a = some (.inl 12) ∧ wp F_Md_open 174 [l0, l1, l2, l3, l4, l5, l6, l7] st (sI M a 39 x) Q)) ∧
  (∀ (l1 l2 l3 l4 l5 l6 l7 : Value) (x : Nat) (st : List Value) (M : Mm) (Q : Option Value → Mm → Prop), wp F_Md_open 174 [.ref x, l1, l2, l3, l4, l5, l6, l7] st M Q = wp F_Md_open 175 [.ref x, l1, l2, l3, l4, l5, l6, l7] (.ref x :: st) M Q) ∧
  (∀ (l0 l1 l3 l4 l5 l6 l7 : Value) (x : Int32) (st : List Value) (M : Mm) (Q : Option Value → Mm → Prop), wp F_Md_open 175 [l0, l1, .int x, l3, l4, l5, l6, l7] st M Q = wp F_Md_open 176 [l0, l1, .int x, l3, l4, l5, l6, l7] (.int x :: st) M Q) ∧
  (∀ (l0 l1 l2 l3 l4 l5 l6 l7 : Value) (a : Nat) (x : Int32) (st : List Value) (M : Mm) (Q : Option Value → Mm → Prop), wp F_Md_open 176 [l0, l1, l2, l3, l4, l5, l6, l7] (.int x :: .ref a :: st) M Q = (sh M a = some (.inl 12) ∧ wp F_Md_open 179 [l0, l1, l2, l3, l4, l5, l6, l7] st (sI M a 40 x) Q)) ∧
  (∀ (l1 l2 l3 l4 l5 l6 l7 : Value) (x : Nat) (st : List Value) (M : Mm) (Q : Option Value → Mm → Prop), wp F_Md_open 179 [.ref x, l1, l2, l3, l4, l5, l6, l7] st M Q = wp F_Md_open 180 [.ref x, l1, l2, l3, l4, l5, l6, l7] (.ref x :: st) M Q) ∧
  (∀ (l0 l1 l2 l3 l5 l6 l7 : Value) (x : Int32) (st : List Value) (M : Mm) (Q : Option Value → Mm → Prop), wp F_Md_open 180 [l0, l1, l2, l3, .int x, l5, l6, l7] st M Q = wp F_Md_open 182 [l0, l1, l2, l3, .int x, l5, l6, l7] (.int x :: st) M Q) ∧
  (∀ (l0 l1 l2 l3 l4 l5 l6 l7 : Value) (a : Nat) (x : Int32) (st : List Value) (M : Mm) (Q : Option Value → Mm → Prop), wp F_Md_open 182 [l0, l1, l2, l3, l4, l5, l6, l7] (.int x :: .ref a :: st) M Q = (sh M a = some (.inl 12) ∧ wp F_Md_open 185 [l0, l1, l2, l3, l4, l5, l6, l7] st (sI M a 41 x) Q)) ∧
  (∀ (l0 l1 l2 l3 l4 l5 l6 l7 : Value) (st : List Value) (M : Mm) (Q : Option Value → Mm → Prop), wp F_Md_open 185 [l0, l1, l2, l3, l4, l5, l6, l7] st M Q = wp F_Md_open 186 [l0, l1, l2, l3, l4, l5, l6, l7] (.int 1 :: st) M Q) ∧
  (∀ (l0 l1 l2 l3 l4 l5 l6 l7 : Value) (v : Int32) (M : Mm) (Q : Option Value → Mm → Prop), wp F_Md_open 186 [l0, l1, l2, l3, l4, l5, l6, l7] [.int v] M Q = Q (some (.int v)) M) := ⟨fun _ _ _ _ _ _ _ _ _ _ _ => wp_in d_Md_open_149 rfl rfl, fun _ _ _ _ _ _ _ _ _ _ _ _ => wp_getA d_Md_open_150 fl_12_157 rfl, fun _ _ _ _ _ _ _ _ _ _ _ => wp_iconst d_Md_open_153 (by decide), fun _ _ _ _ _ _ _ _ _ _ _ => wp_in d_Md_open_154 rfl rfl, fun _ _ _ _ _ _ _ _ _ _ _ => wp_in d_Md_open_156 rfl rfl, fun _ _ _ _ _ _ _ _ _ _ _ _ => wp_getA d_Md_open_157 fl_12_160 rfl, fun _ _ _ _ _ _ _ _ _ _ _ => wp_iconst d_Md_open_160 (by decide), fun _ _ _ _ _ _ _ _ _ _ _ => wp_in d_Md_open_161 rfl rfl, fun _ _ _ _ _ _ _ _ _ _ _ _ _ _ _ _ => wp_callS d_Md_open_163 ml_12_237 (Nat.le_of_ble_eq_true rfl) rfl rfl rfl, fun _ _ _ _ _ _ _ _ _ _ _ _ => wp_if_eq d_Md_open_166 rfl, fun _ _ _ _ _ _ _ _ _ _ _ => wp_in d_Md_open_169 rfl rfl, fun _ _ _ _ _ _ _ _ _ _ _ => wp_in d_Md_open_170 rfl rfl, fun _ _ _ _ _ _ _ _ _ _ _ _ _ => wp_putI d_Md_open_171 fl_12_112 rfl rfl, fun _ _ _ _ _ _ _ _ _ _ _ => wp_in d_Md_open_174 rfl rfl, fun _ _ _ _ _ _ _ _ _ _ _ => wp_in d_Md_open_175 rfl rfl, fun _ _ _ _ _ _ _ _ _ _ _ _ _ => wp_putI d_Md_open_176 fl_12_270 rfl rfl, fun _ _ _ _ _ _ _ _ _ _ _ => wp_in d_Md_open_179 rfl rfl, fun _ _ _ _ _ _ _ _ _ _ _ => wp_in d_Md_open_180 rfl rfl, fun _ _ _ _ _ _ _ _ _ _ _ _ _ => wp_putI d_Md_open_182 fl_12_273 rfl rfl, fun _ _ _ _ _ _ _ _ _ _ _ => wp_iconst d_Md_open_185 (by decide), fun _ _ _ _ _ _ _ _ _ _ _ => wp_retI d_Md_open_186 rfl⟩
theorem B_Md_open_187 : (∀ (l0 l1 l2 l3 l5 l6 l7 : Value) (x : Int32) (st : List Value) (M : Mm) (Q : Option Value → Mm → Prop), wp F_Md_open 187 [l0, l1, l2, l3, .int x, l5, l6, l7] st M Q = wp F_Md_open 190 [l0, l1, l2, clr l3, .int (x + 1), l5, l6, l7] st M Q) := fun _ _ _ _ _ _ _ _ _ _ _ => wp_iinc d_Md_open_187 (by decide) rfl rfl
theorem B_Md_open_193 : (∀ (l0 l1 l3 l4 l5 l6 l7 : Value) (x : Int32) (st : List Value) (M : Mm) (Q : Option Value → Mm → Prop), wp F_Md_open 193 [l0, l1, .int x, l3, l4, l5, l6, l7] st M Q = wp F_Md_open 196 [l0, clr l1, .int (x + 1), l3, l4, l5, l6, l7] st M Q) := fun _ _ _ _ _ _ _ _ _ _ _ => wp_iinc d_Md_open_193 (by decide) rfl rfl
theorem B_Md_open_199 : (∀ (l0 l2 l3 l4 l5 l6 l7 : Value) (x : Int32) (st : List Value) (M : Mm) (Q : Option Value → Mm → Prop), wp F_Md_open 199 [l0, .int x, l2, l3, l4, l5, l6, l7] st M Q = wp F_Md_open 202 [clr l0, .int (x + 1), l2, l3, l4, l5, l6, l7] st M Q) := fun _ _ _ _ _ _ _ _ _ _ _ => wp_iinc d_Md_open_199 (by decide) rfl rfl
theorem B_Md_open_205 : (∀ (l0 l1 l2 l3 l4 l5 l6 l7 : Value) (st : List Value) (M : Mm) (Q : Option Value → Mm → Prop), wp F_Md_open 205 [l0, l1, l2, l3, l4, l5, l6, l7] st M Q = wp F_Md_open 206 [l0, l1, l2, l3, l4, l5, l6, l7] (.int 0 :: st) M Q) ∧
  (∀ (l0 l1 l2 l3 l4 l5 l6 l7 : Value) (v : Int32) (M : Mm) (Q : Option Value → Mm → Prop), wp F_Md_open 206 [l0, l1, l2, l3, l4, l5, l6, l7] [.int v] M Q = Q (some (.int v)) M) := ⟨fun _ _ _ _ _ _ _ _ _ _ _ => wp_iconst d_Md_open_205 (by decide), fun _ _ _ _ _ _ _ _ _ _ _ => wp_retI d_Md_open_206 rfl⟩
theorem G_Md_open_190 (l0 l1 l2 l3 l4 l5 l6 l7 : Value) (st : List Value) (M : Mm) (Q : Option Value → Mm → Prop) : wp F_Md_open 190 [l0, l1, l2, l3, l4, l5, l6, l7] st M Q = wp F_Md_open 81 [l0, l1, l2, l3, l4, l5, l6, l7] st M Q := wp_goto d_Md_open_190 rfl
theorem G_Md_open_196 (l0 l1 l2 l3 l4 l5 l6 l7 : Value) (st : List Value) (M : Mm) (Q : Option Value → Mm → Prop) : wp F_Md_open 196 [l0, l1, l2, l3, l4, l5, l6, l7] st M Q = wp F_Md_open 17 [l0, l1, l2, l3, l4, l5, l6, l7] st M Q := wp_goto d_Md_open_196 rfl
theorem G_Md_open_202 (l0 l1 l2 l3 l4 l5 l6 l7 : Value) (st : List Value) (M : Mm) (Q : Option Value → Mm → Prop) : wp F_Md_open 202 [l0, l1, l2, l3, l4, l5, l6, l7] st M Q = wp F_Md_open 7 [l0, l1, l2, l3, l4, l5, l6, l7] st M Q := wp_goto d_Md_open_202 rfl
theorem d_Md_overlap_0 : decode (fnB F_Md_overlap) 0 = .ok (.aload_n 0, 1) := by decide +kernel
theorem d_Md_overlap_1 : decode (fnB F_Md_overlap) 1 = .ok (.iconst 0, 1) := by decide +kernel
theorem d_Md_overlap_2 : decode (fnB F_Md_overlap) 2 = .ok (.putfield 1, 3) := by decide +kernel
theorem d_Md_overlap_5 : decode (fnB F_Md_overlap) 5 = .ok (.iload_n 1, 1) := by decide +kernel
theorem d_Md_overlap_6 : decode (fnB F_Md_overlap) 6 = .ok (.i2l, 1) := by decide +kernel
theorem d_Md_overlap_7 : decode (fnB F_Md_overlap) 7 = .ok (.lconst 0, 1) := by decide +kernel
theorem d_Md_overlap_8 : decode (fnB F_Md_overlap) 8 = .ok (.ldc2_w 268, 3) := by decide +kernel
theorem d_Md_overlap_11 : decode (fnB F_Md_overlap) 11 = .ok (.invokestatic 9, 3) := by decide +kernel
theorem d_Md_overlap_14 : decode (fnB F_Md_overlap) 14 = .ok (.ifCond .ne 6, 3) := by decide +kernel
theorem d_Md_overlap_17 : decode (fnB F_Md_overlap) 17 = .ok (.bipush (-2), 2) := by decide +kernel
theorem d_Md_overlap_19 : decode (fnB F_Md_overlap) 19 = .ok (.ireturn, 1) := by decide +kernel
theorem d_Md_overlap_20 : decode (fnB F_Md_overlap) 20 = .ok (.aload_n 0, 1) := by decide +kernel
theorem d_Md_overlap_21 : decode (fnB F_Md_overlap) 21 = .ok (.getfield 112, 3) := by decide +kernel
theorem d_Md_overlap_24 : decode (fnB F_Md_overlap) 24 = .ok (.iconst (-1), 1) := by decide +kernel
theorem d_Md_overlap_25 : decode (fnB F_Md_overlap) 25 = .ok (.if_icmp .ne 7, 3) := by decide +kernel
theorem d_Md_overlap_28 : decode (fnB F_Md_overlap) 28 = .ok (.iconst (-1), 1) := by decide +kernel
theorem d_Md_overlap_29 : decode (fnB F_Md_overlap) 29 = .ok (.goto 30, 3) := by decide +kernel
theorem d_Md_overlap_32 : decode (fnB F_Md_overlap) 32 = .ok (.iload_n 1, 1) := by decide +kernel
theorem d_Md_overlap_33 : decode (fnB F_Md_overlap) 33 = .ok (.ifCond .ne 10, 3) := by decide +kernel
theorem d_Md_overlap_36 : decode (fnB F_Md_overlap) 36 = .ok (.aload_n 0, 1) := by decide +kernel
theorem d_Md_overlap_37 : decode (fnB F_Md_overlap) 37 = .ok (.getfield 112, 3) := by decide +kernel
theorem d_Md_overlap_40 : decode (fnB F_Md_overlap) 40 = .ok (.goto 19, 3) := by decide +kernel
theorem d_Md_overlap_43 : decode (fnB F_Md_overlap) 43 = .ok (.iload_n 1, 1) := by decide +kernel
theorem d_Md_overlap_44 : decode (fnB F_Md_overlap) 44 = .ok (.iconst 1, 1) := by decide +kernel
theorem d_Md_overlap_45 : decode (fnB F_Md_overlap) 45 = .ok (.if_icmp .ne 10, 3) := by decide +kernel
theorem d_Md_overlap_48 : decode (fnB F_Md_overlap) 48 = .ok (.aload_n 0, 1) := by decide +kernel
theorem d_Md_overlap_49 : decode (fnB F_Md_overlap) 49 = .ok (.getfield 270, 3) := by decide +kernel
theorem d_Md_overlap_52 : decode (fnB F_Md_overlap) 52 = .ok (.goto 7, 3) := by decide +kernel
theorem d_Md_overlap_55 : decode (fnB F_Md_overlap) 55 = .ok (.aload_n 0, 1) := by decide +kernel
theorem d_Md_overlap_56 : decode (fnB F_Md_overlap) 56 = .ok (.getfield 273, 3) := by decide +kernel
theorem d_Md_overlap_59 : decode (fnB F_Md_overlap) 59 = .ok (.ireturn, 1) := by decide +kernel
theorem B_Md_overlap_0 : (∀ (l1 : Value) (x : Nat) (st : List Value) (M : Mm) (Q : Option Value → Mm → Prop), wp F_Md_overlap 0 [.ref x, l1] st M Q = wp F_Md_overlap 1 [.ref x, l1] (.ref x :: st) M Q) ∧
  (∀ (l0 l1 : Value) (st : List Value) (M : Mm) (Q : Option Value → Mm → Prop), wp F_Md_overlap 1 [l0, l1] st M Q = wp F_Md_overlap 2 [l0, l1] (.int 0 :: st) M Q) ∧
  (∀ (l0 l1 : Value) (a : Nat) (x : Int32) (st : List Value) (M : Mm) (Q : Option Value → Mm → Prop), wp F_Md_overlap 2 [l0, l1] (.int x :: .ref a :: st) M Q = (sh M a = some (.inl 12) ∧ wp F_Md_overlap 5 [l0, l1] st (sI M a 0 x) Q)) ∧
  (∀ (l0 : Value) (x : Int32) (st : List Value) (M : Mm) (Q : Option Value → Mm → Prop), wp F_Md_overlap 5 [l0, .int x] st M Q = wp F_Md_overlap 6 [l0, .int x] (.int x :: st) M Q) ∧
  (∀ (l0 l1 : Value) (x : Int32) (st : List Value) (M : Mm) (Q : Option Value → Mm → Prop), wp F_Md_overlap 6 [l0, l1] (.int x :: st) M Q = wp F_Md_overlap 7 [l0, l1] (.long x.toInt64 :: st) M Q) ∧
  (∀ (l0 l1 : Value) (st : List Value) (M : Mm) (Q : Option Value → Mm → Prop), wp F_Md_overlap 7 [l0, l1] st M Q = wp F_Md_overlap 8 [l0, l1] (.long 0 :: st) M Q) ∧
  (∀ (l0 l1 : Value) (st : List Value) (M : Mm) (Q : Option Value → Mm → Prop), wp F_Md_overlap 8 [l0, l1] st M Q = wp F_Md_overlap 11 [l0, l1] (.long 2 :: st) M Q) ∧
  (∀ (l0 l1 : Value) (p0 : Int64) (p1 : Int64) (p2 : Int64) (M : Mm) (Q : Option Value → Mm → Prop), wp F_Md_overlap 11 [l0, l1] [.long p2, .long p1, .long p0] M Q = wp F_Md_in 0 [.long p0, jk, .long p1, jk, .long p2, jk] [] M (fun r M1 => wp F_Md_overlap 14 [l0, l1] (r.toList ++ []) M1 Q)) ∧
  (∀ (l0 l1 : Value) (x : Int32) (st : List Value) (M : Mm) (Q : Option Value → Mm → Prop), wp F_Md_overlap 14 [l0, l1] (.int x :: st) M Q = if x = 0 then wp F_Md_overlap 17 [l0, l1] st M Q else wp F_Md_overlap 20 [l0, l1] st M Q) ∧
  (∀ (l0 l1 : Value) (st : List Value) (M : Mm) (Q : Option Value → Mm → Prop), wp F_Md_overlap 17 [l0, l1] st M Q = wp F_Md_overlap 19 [l0, l1] (.int (-2) :: st) M Q) ∧
  (∀ (l0 l1 : Value) (v : Int32) (M : Mm) (Q : Option Value → Mm → Prop), wp F_Md_overlap 19 [l0, l1] [.int v] M Q = Q (some (.int v)) M) := ⟨fun _ _ _ _ _ => wp_in d_Md_overlap_0 rfl rfl, fun _ _ _ _ _ => wp_iconst d_Md_overlap_1 (by decide), fun _ _ _ _ _ _ _ => wp_putI d_Md_overlap_2 fl_12_1 rfl rfl, fun _ _ _ _ _ => wp_in d_Md_overlap_5 rfl rfl, fun _ _ _ _ _ _ => wp_in d_Md_overlap_6 rfl rfl, fun _ _ _ _ _ => wp_lconst d_Md_overlap_7 (by decide), fun _ _ _ _ _ => wp_ldc2 d_Md_overlap_8 ll_12_268, fun _ _ _ _ _ _ _ => wp_callS d_Md_overlap_11 ml_12_9 (Nat.le_of_ble_eq_true rfl) rfl rfl rfl, fun _ _ _ _ _ _ => wp_if_ne d_Md_overlap_14 rfl, fun _ _ _ _ _ => wp_bipush d_Md_overlap_17 (by decide), fun _ _ _ _ _ => wp_retI d_Md_overlap_19 rfl⟩
theorem B_Md_overlap_20 : (∀ (l1 : Value) (x : Nat) (st : List Value) (M : Mm) (Q : Option Value → Mm → Prop), wp F_Md_overlap 20 [.ref x, l1] st M Q = wp F_Md_overlap 21 [.ref x, l1] (.ref x :: st) M Q) ∧
  (∀ (l0 l1 : Value) (a : Nat) (st : List Value) (M : Mm) (Q : Option Value → Mm → Prop), wp F_Md_overlap 21 [l0, l1] (.ref a :: st) M Q = (sh M a = some (.inl 12) ∧ wp F_Md_overlap 24 [l0, l1] (.int (gI M a 39) :: st) M Q)) ∧
  (∀ (l0 l1 : Value) (st : List Value) (M : Mm) (Q : Option Value → Mm → Prop), wp F_Md_overlap 24 [l0, l1] st M Q = wp F_Md_overlap 25 [l0, l1] (.int (-1) :: st) M Q) ∧
  (∀ (l0 l1 : Value) (x y : Int32) (st : List Value) (M : Mm) (Q : Option Value → Mm → Prop), wp F_Md_overlap 25 [l0, l1] (.int y :: .int x :: st) M Q = if x = y then wp F_Md_overlap 28 [l0, l1] st M Q else wp F_Md_overlap 32 [l0, l1] st M Q) ∧
  (∀ (l0 l1 : Value) (st : List Value) (M : Mm) (Q : Option Value → Mm → Prop), wp F_Md_overlap 28 [l0, l1] st M Q = wp F_Md_overlap 29 [l0, l1] (.int (-1) :: st) M Q) ∧
  (∀ (l0 l1 : Value) (st : List Value) (M : Mm) (Q : Option Value → Mm → Prop), wp F_Md_overlap 29 [l0, l1] st M Q = wp F_Md_overlap 59 [l0, l1] st M Q) := ⟨fun _ _ _ _ _ => wp_in d_Md_overlap_20 rfl rfl, fun _ _ _ _ _ _ => wp_getI d_Md_overlap_21 fl_12_112 rfl, fun _ _ _ _ _ => wp_iconst d_Md_overlap_24 (by decide), fun _ _ _ _ _ _ _ => wp_icmp_ne d_Md_overlap_25 rfl, fun _ _ _ _ _ => wp_iconst d_Md_overlap_28 (by decide), fun _ _ _ _ _ => wp_goto d_Md_overlap_29 rfl⟩
theorem B_Md_overlap_32 : (∀ (l0 : Value) (x : Int32) (st : List Value) (M : Mm) (Q : Option Value → Mm → Prop), wp F_Md_overlap 32 [l0, .int x] st M Q = wp F_Md_overlap 33 [l0, .int x] (.int x :: st) M Q) ∧
  (∀ (l0 l1 : Value) (x : Int32) (st : List Value) (M : Mm) (Q : Option Value → Mm → Prop), wp F_Md_overlap 33 [l0, l1] (.int x :: st) M Q = if x = 0 then wp F_Md_overlap 36 [l0, l1] st M Q else wp F_Md_overlap 43 [l0, l1] st M Q) ∧
  (∀ (l1 : Value) (x : Nat) (st : List Value) (M : Mm) (Q : Option Value → Mm → Prop), wp F_Md_overlap 36 [.ref x, l1] st M Q = wp F_Md_overlap 37 [.ref x, l1] (.ref x :: st) M Q) ∧
  (∀ (l0 l1 : Value) (a : Nat) (st : List Value) (M : Mm) (Q : Option Value → Mm → Prop), wp F_Md_overlap 37 [l0, l1] (.ref a :: st) M Q = (sh M a = some (.inl 12) ∧ wp F_Md_overlap 40 [l0, l1] (.int (gI M a 39) :: st) M Q)) ∧
  (∀ (l0 l1 : Value) (st : List Value) (M : Mm) (Q : Option Value → Mm → Prop), wp F_Md_overlap 40 [l0, l1] st M Q = wp F_Md_overlap 59 [l0, l1] st M Q) := ⟨fun _ _ _ _ _ => wp_in d_Md_overlap_32 rfl rfl, fun _ _ _ _ _ _ => wp_if_ne d_Md_overlap_33 rfl, fun _ _ _ _ _ => wp_in d_Md_overlap_36 rfl rfl, fun _ _ _ _ _ _ => wp_getI d_Md_overlap_37 fl_12_112 rfl, fun _ _ _ _ _ => wp_goto d_Md_overlap_40 rfl⟩
theorem B_Md_overlap_43 : (∀ (l0 : Value) (x : Int32) (st : List Value) (M : Mm) (Q : Option Value → Mm → Prop), wp F_Md_overlap 43 [l0, .int x] st M Q = wp F_Md_overlap 44 [l0, .int x] (.int x :: st) M Q) ∧
  (∀ (l0 l1 : Value) (st : List Value) (M : Mm) (Q : Option Value → Mm → Prop), wp F_Md_overlap 44 [l0, l1] st M Q = wp F_Md_overlap 45 [l0, l1] (.int 1 :: st) M Q) ∧
  (∀ (l0 l1 : Value) (x y : Int32) (st : List Value) (M : Mm) (Q : Option Value → Mm → Prop), wp F_Md_overlap 45 [l0, l1] (.int y :: .int x :: st) M Q = if x = y then wp F_Md_overlap 48 [l0, l1] st M Q else wp F_Md_overlap 55 [l0, l1] st M Q) ∧
  (∀ (l1 : Value) (x : Nat) (st : List Value) (M : Mm) (Q : Option Value → Mm → Prop), wp F_Md_overlap 48 [.ref x, l1] st M Q = wp F_Md_overlap 49 [.ref x, l1] (.ref x :: st) M Q) ∧
  (∀ (l0 l1 : Value) (a : Nat) (st : List Value) (M : Mm) (Q : Option Value → Mm → Prop), wp F_Md_overlap 49 [l0, l1] (.ref a :: st) M Q = (sh M a = some (.inl 12) ∧ wp F_Md_overlap 52 [l0, l1] (.int (gI M a 40) :: st) M Q)) ∧
  (∀ (l0 l1 : Value) (st : List Value) (M : Mm) (Q : Option Value → Mm → Prop), wp F_Md_overlap 52 [l0, l1] st M Q = wp F_Md_overlap 59 [l0, l1] st M Q) := ⟨fun _ _ _ _ _ => wp_in d_Md_overlap_43 rfl rfl, fun _ _ _ _ _ => wp_iconst d_Md_overlap_44 (by decide), fun _ _ _ _ _ _ _ => wp_icmp_ne d_Md_overlap_45 rfl, fun _ _ _ _ _ => wp_in d_Md_overlap_48 rfl rfl, fun _ _ _ _ _ _ => wp_getI d_Md_overlap_49 fl_12_270 rfl, fun _ _ _ _ _ => wp_goto d_Md_overlap_52 rfl⟩
theorem B_Md_overlap_55 : (∀ (l1 : Value) (x : Nat) (st : List Value) (M : Mm) (Q : Option Value → Mm → Prop), wp F_Md_overlap 55 [.ref x, l1] st M Q = wp F_Md_overlap 56 [.ref x, l1] (.ref x :: st) M Q) ∧
  (∀ (l0 l1 : Value) (a : Nat) (st : List Value) (M : Mm) (Q : Option Value → Mm → Prop), wp F_Md_overlap 56 [l0, l1] (.ref a :: st) M Q = (sh M a = some (.inl 12) ∧ wp F_Md_overlap 59 [l0, l1] (.int (gI M a 41) :: st) M Q)) := ⟨fun _ _ _ _ _ => wp_in d_Md_overlap_55 rfl rfl, fun _ _ _ _ _ _ => wp_getI d_Md_overlap_56 fl_12_273 rfl⟩
theorem B_Md_overlap_59 : (∀ (l0 l1 : Value) (v : Int32) (M : Mm) (Q : Option Value → Mm → Prop), wp F_Md_overlap 59 [l0, l1] [.int v] M Q = Q (some (.int v)) M) := fun _ _ _ _ _ => wp_retI d_Md_overlap_59 rfl
theorem d_Md_length_0 : decode (fnB F_Md_length) 0 = .ok (.aload_n 0, 1) := by decide +kernel
theorem d_Md_length_1 : decode (fnB F_Md_length) 1 = .ok (.iconst 0, 1) := by decide +kernel
theorem d_Md_length_2 : decode (fnB F_Md_length) 2 = .ok (.putfield 1, 3) := by decide +kernel
theorem d_Md_length_5 : decode (fnB F_Md_length) 5 = .ok (.iload_n 1, 1) := by decide +kernel
theorem d_Md_length_6 : decode (fnB F_Md_length) 6 = .ok (.invokestatic 126, 3) := by decide +kernel
theorem d_Md_length_9 : decode (fnB F_Md_length) 9 = .ok (.ifCond .eq 12, 3) := by decide +kernel
theorem d_Md_length_12 : decode (fnB F_Md_length) 12 = .ok (.aload_n 0, 1) := by decide +kernel
theorem d_Md_length_13 : decode (fnB F_Md_length) 13 = .ok (.getfield 115, 3) := by decide +kernel
theorem d_Md_length_16 : decode (fnB F_Md_length) 16 = .ok (.iload_n 1, 1) := by decide +kernel
theorem d_Md_length_17 : decode (fnB F_Md_length) 17 = .ok (.iaload, 1) := by decide +kernel
theorem d_Md_length_18 : decode (fnB F_Md_length) 18 = .ok (.goto 5, 3) := by decide +kernel
theorem d_Md_length_21 : decode (fnB F_Md_length) 21 = .ok (.bipush (-2), 2) := by decide +kernel
theorem d_Md_length_23 : decode (fnB F_Md_length) 23 = .ok (.ireturn, 1) := by decide +kernel
theorem B_Md_length_0 : (∀ (l1 : Value) (x : Nat) (st : List Value) (M : Mm) (Q : Option Value → Mm → Prop), wp F_Md_length 0 [.ref x, l1] st M Q = wp F_Md_length 1 [.ref x, l1] (.ref x :: st) M Q) ∧
  (∀ (l0 l1 : Value) (st : List Value) (M : Mm) (Q : Option Value → Mm → Prop), wp F_Md_length 1 [l0, l1] st M Q = wp F_Md_length 2 [l0, l1] (.int 0 :: st) M Q) ∧
  (∀ (l0 l1 : Value) (a : Nat) (x : Int32) (st : List Value) (M : Mm) (Q : Option Value → Mm → Prop), wp F_Md_length 2 [l0, l1] (.int x :: .ref a :: st) M Q = (sh M a = some (.inl 12) ∧ wp F_Md_length 5 [l0, l1] st (sI M a 0 x) Q)) ∧
  (∀ (l0 : Value) (x : Int32) (st : List Value) (M : Mm) (Q : Option Value → Mm → Prop), wp F_Md_length 5 [l0, .int x] st M Q = wp F_Md_length 6 [l0, .int x] (.int x :: st) M Q) ∧
  (∀ (l0 l1 : Value) (p0 : Int32) (M : Mm) (Q : Option Value → Mm → Prop), wp F_Md_length 6 [l0, l1] [.int p0] M Q = wp F_Md_isSlot 0 [.int p0] [] M (fun r M1 => wp F_Md_length 9 [l0, l1] (r.toList ++ []) M1 Q)) ∧
  (∀ (l0 l1 : Value) (x : Int32) (st : List Value) (M : Mm) (Q : Option Value → Mm → Prop), wp F_Md_length 9 [l0, l1] (.int x :: st) M Q = if x = 0 then wp F_Md_length 21 [l0, l1] st M Q else wp F_Md_length 12 [l0, l1] st M Q) ∧
  (∀ (l1 : Value) (x : Nat) (st : List Value) (M : Mm) (Q : Option Value → Mm → Prop), wp F_Md_length 12 [.ref x, l1] st M Q = wp F_Md_length 13 [.ref x, l1] (.ref x :: st) M Q) ∧
  (∀ (l0 l1 : Value) (a : Nat) (st : List Value) (M : Mm) (Q : Option Value → Mm → Prop), wp F_Md_length 13 [l0, l1] (.ref a :: st) M Q = (sh M a = some (.inl 12) ∧ wp F_Md_length 16 [l0, l1] (va_rf (gR M a 43) :: st) M Q)) ∧
  (∀ (l0 : Value) (x : Int32) (st : List Value) (M : Mm) (Q : Option Value → Mm → Prop), wp F_Md_length 16 [l0, .int x] st M Q = wp F_Md_length 17 [l0, .int x] (.int x :: st) M Q) ∧
  (∀ (l0 l1 : Value) (a : Nat) (j : Int32) (st : List Value) (M : Mm) (Q : Option Value → Mm → Prop), wp F_Md_length 17 [l0, l1] (.int j :: .ref a :: st) M Q = (ixI M a j ∧ wp F_Md_length 18 [l0, l1] (.int (gI M a (cl j)) :: st) M Q)) ∧
  (∀ (l0 l1 : Value) (st : List Value) (M : Mm) (Q : Option Value → Mm → Prop), wp F_Md_length 18 [l0, l1] st M Q = wp F_Md_length 23 [l0, l1] st M Q) := ⟨fun _ _ _ _ _ => wp_in d_Md_length_0 rfl rfl, fun _ _ _ _ _ => wp_iconst d_Md_length_1 (by decide), fun _ _ _ _ _ _ _ => wp_putI d_Md_length_2 fl_12_1 rfl rfl, fun _ _ _ _ _ => wp_in d_Md_length_5 rfl rfl, fun _ _ _ _ _ => wp_callS d_Md_length_6 ml_12_126 (Nat.le_of_ble_eq_true rfl) rfl rfl rfl, fun _ _ _ _ _ _ => wp_if_eq d_Md_length_9 rfl, fun _ _ _ _ _ => wp_in d_Md_length_12 rfl rfl, fun _ _ _ _ _ _ => wp_getA d_Md_length_13 fl_12_115 rfl, fun _ _ _ _ _ => wp_in d_Md_length_16 rfl rfl, fun _ _ _ _ _ _ _ => wp_iald d_Md_length_17, fun _ _ _ _ _ => wp_goto d_Md_length_18 rfl⟩
theorem B_Md_length_21 : (∀ (l0 l1 : Value) (st : List Value) (M : Mm) (Q : Option Value → Mm → Prop), wp F_Md_length 21 [l0, l1] st M Q = wp F_Md_length 23 [l0, l1] (.int (-2) :: st) M Q) := fun _ _ _ _ _ => wp_bipush d_Md_length_21 (by decide)
theorem B_Md_length_23 : (∀ (l0 l1 : Value) (v : Int32) (M : Mm) (Q : Option Value → Mm → Prop), wp F_Md_length 23 [l0, l1] [.int v] M Q = Q (some (.int v)) M) := fun _ _ _ _ _ => wp_retI d_Md_length_23 rfl
theorem d_Md_letter_0 : decode (fnB F_Md_letter) 0 = .ok (.aload_n 0, 1) := by decide +kernel
theorem d_Md_letter_1 : decode (fnB F_Md_letter) 1 = .ok (.iconst 0, 1) := by decide +kernel
theorem d_Md_letter_2 : decode (fnB F_Md_letter) 2 = .ok (.putfield 1, 3) := by decide +kernel
theorem d_Md_letter_5 : decode (fnB F_Md_letter) 5 = .ok (.iload_n 1, 1) := by decide +kernel
theorem d_Md_letter_6 : decode (fnB F_Md_letter) 6 = .ok (.invokestatic 126, 3) := by decide +kernel
theorem d_Md_letter_9 : decode (fnB F_Md_letter) 9 = .ok (.ifCond .ne 8, 3) := by decide +kernel
theorem d_Md_letter_12 : decode (fnB F_Md_letter) 12 = .ok (.bipush (-2), 2) := by decide +kernel
theorem d_Md_letter_14 : decode (fnB F_Md_letter) 14 = .ok (.goto 36, 3) := by decide +kernel
theorem d_Md_letter_17 : decode (fnB F_Md_letter) 17 = .ok (.iload_n 2, 1) := by decide +kernel
theorem d_Md_letter_18 : decode (fnB F_Md_letter) 18 = .ok (.i2l, 1) := by decide +kernel
theorem d_Md_letter_19 : decode (fnB F_Md_letter) 19 = .ok (.lconst 0, 1) := by decide +kernel
theorem d_Md_letter_20 : decode (fnB F_Md_letter) 20 = .ok (.aload_n 0, 1) := by decide +kernel
theorem d_Md_letter_21 : decode (fnB F_Md_letter) 21 = .ok (.getfield 115, 3) := by decide +kernel
theorem d_Md_letter_24 : decode (fnB F_Md_letter) 24 = .ok (.iload_n 1, 1) := by decide +kernel
theorem d_Md_letter_25 : decode (fnB F_Md_letter) 25 = .ok (.iaload, 1) := by decide +kernel
theorem d_Md_letter_26 : decode (fnB F_Md_letter) 26 = .ok (.iconst 1, 1) := by decide +kernel
theorem d_Md_letter_27 : decode (fnB F_Md_letter) 27 = .ok (.isub, 1) := by decide +kernel
theorem d_Md_letter_28 : decode (fnB F_Md_letter) 28 = .ok (.i2l, 1) := by decide +kernel
theorem d_Md_letter_29 : decode (fnB F_Md_letter) 29 = .ok (.invokestatic 9, 3) := by decide +kernel
theorem d_Md_letter_32 : decode (fnB F_Md_letter) 32 = .ok (.ifCond .eq 17, 3) := by decide +kernel
theorem d_Md_letter_35 : decode (fnB F_Md_letter) 35 = .ok (.aload_n 0, 1) := by decide +kernel
theorem d_Md_letter_36 : decode (fnB F_Md_letter) 36 = .ok (.getfield 132, 3) := by decide +kernel
theorem d_Md_letter_39 : decode (fnB F_Md_letter) 39 = .ok (.bipush 80, 2) := by decide +kernel
theorem d_Md_letter_41 : decode (fnB F_Md_letter) 41 = .ok (.iload_n 1, 1) := by decide +kernel
theorem d_Md_letter_42 : decode (fnB F_Md_letter) 42 = .ok (.imul, 1) := by decide +kernel
theorem d_Md_letter_43 : decode (fnB F_Md_letter) 43 = .ok (.iload_n 2, 1) := by decide +kernel
theorem d_Md_letter_44 : decode (fnB F_Md_letter) 44 = .ok (.iadd, 1) := by decide +kernel
theorem d_Md_letter_45 : decode (fnB F_Md_letter) 45 = .ok (.iaload, 1) := by decide +kernel
theorem d_Md_letter_46 : decode (fnB F_Md_letter) 46 = .ok (.goto 4, 3) := by decide +kernel
theorem d_Md_letter_49 : decode (fnB F_Md_letter) 49 = .ok (.iconst (-1), 1) := by decide +kernel
theorem d_Md_letter_50 : decode (fnB F_Md_letter) 50 = .ok (.ireturn, 1) := by decide +kernel
theorem B_Md_letter_0 : (∀ (l1 l2 : Value) (x : Nat) (st : List Value) (M : Mm) (Q : Option Value → Mm → Prop), wp F_Md_letter 0 [.ref x, l1, l2] st M Q = wp F_Md_letter 1 [.ref x, l1, l2] (.ref x :: st) M Q) ∧
  (∀ (l0 l1 l2 : Value) (st : List Value) (M : Mm) (Q : Option Value → Mm → Prop), wp F_Md_letter 1 [l0, l1, l2] st M Q = wp F_Md_letter 2 [l0, l1, l2] (.int 0 :: st) M Q) ∧
  (∀ (l0 l1 l2 : Value) (a : Nat) (x : Int32) (st : List Value) (M : Mm) (Q : Option Value → Mm → Prop), wp F_Md_letter 2 [l0, l1, l2] (.int x :: .ref a :: st) M Q = (sh M a = some (.inl 12) ∧ wp F_Md_letter 5 [l0, l1, l2] st (sI M a 0 x) Q)) ∧
  (∀ (l0 l2 : Value) (x : Int32) (st : List Value) (M : Mm) (Q : Option Value → Mm → Prop), wp F_Md_letter 5 [l0, .int x, l2] st M Q = wp F_Md_letter 6 [l0, .int x, l2] (.int x :: st) M Q) ∧
  (∀ (l0 l1 l2 : Value) (p0 : Int32) (M : Mm) (Q : Option Value → Mm → Prop), wp F_Md_letter 6 [l0, l1, l2] [.int p0] M Q = wp F_Md_isSlot 0 [.int p0] [] M (fun r M1 => wp F_Md_letter 9 [l0, l1, l2] (r.toList ++ []) M1 Q)) ∧
  (∀ (l0 l1 l2 : Value) (x : Int32) (st : List Value) (M : Mm) (Q : Option Value → Mm → Prop), wp F_Md_letter 9 [l0, l1, l2] (.int x :: st) M Q = if x = 0 then wp F_Md_letter 12 [l0, l1, l2] st M Q else wp F_Md_letter 17 [l0, l1, l2] st M Q) ∧
  (∀ (l0 l1 l2 : Value) (st : List Value) (M : Mm) (Q : Option Value → Mm → Prop), wp F_Md_letter 12 [l0, l1, l2] st M Q = wp F_Md_letter 14 [l0, l1, l2] (.int (-2) :: st) M Q) ∧
  (∀ (l0 l1 l2 : Value) (st : List Value) (M : Mm) (Q : Option Value → Mm → Prop), wp F_Md_letter 14 [l0, l1, l2] st M Q = wp F_Md_letter 50 [l0, l1, l2] st M Q) := ⟨fun _ _ _ _ _ _ => wp_in d_Md_letter_0 rfl rfl, fun _ _ _ _ _ _ => wp_iconst d_Md_letter_1 (by decide), fun _ _ _ _ _ _ _ _ => wp_putI d_Md_letter_2 fl_12_1 rfl rfl, fun _ _ _ _ _ _ => wp_in d_Md_letter_5 rfl rfl, fun _ _ _ _ _ _ => wp_callS d_Md_letter_6 ml_12_126 (Nat.le_of_ble_eq_true rfl) rfl rfl rfl, fun _ _ _ _ _ _ _ => wp_if_ne d_Md_letter_9 rfl, fun _ _ _ _ _ _ => wp_bipush d_Md_letter_12 (by decide), fun _ _ _ _ _ _ => wp_goto d_Md_letter_14 rfl⟩
theorem B_Md_letter_17 : (∀ (l0 l1 : Value) (x : Int32) (st : List Value) (M : Mm) (Q : Option Value → Mm → Prop), wp F_Md_letter 17 [l0, l1, .int x] st M Q = wp F_Md_letter 18 [l0, l1, .int x] (.int x :: st) M Q) ∧
  (∀ (l0 l1 l2 : Value) (x : Int32) (st : List Value) (M : Mm) (Q : Option Value → Mm → Prop), wp F_Md_letter 18 [l0, l1, l2] (.int x :: st) M Q = wp F_Md_letter 19 [l0, l1, l2] (.long x.toInt64 :: st) M Q) ∧
  (∀ (l0 l1 l2 : Value) (st : List Value) (M : Mm) (Q : Option Value → Mm → Prop), wp F_Md_letter 19 [l0, l1, l2] st M Q = wp F_Md_letter 20 [l0, l1, l2] (.long 0 :: st) M Q) ∧
  (∀ (l1 l2 : Value) (x : Nat) (st : List Value) (M : Mm) (Q : Option Value → Mm → Prop), wp F_Md_letter 20 [.ref x, l1, l2] st M Q = wp F_Md_letter 21 [.ref x, l1, l2] (.ref x :: st) M Q) ∧
  (∀ (l0 l1 l2 : Value) (a : Nat) (st : List Value) (M : Mm) (Q : Option Value → Mm → Prop), wp F_Md_letter 21 [l0, l1, l2] (.ref a :: st) M Q = (sh M a = some (.inl 12) ∧ wp F_Md_letter 24 [l0, l1, l2] (va_rf (gR M a 43) :: st) M Q)) ∧
  (∀ (l0 l2 : Value) (x : Int32) (st : List Value) (M : Mm) (Q : Option Value → Mm → Prop), wp F_Md_letter 24 [l0, .int x, l2] st M Q = wp F_Md_letter 25 [l0, .int x, l2] (.int x :: st) M Q) ∧
  (∀ (l0 l1 l2 : Value) (a : Nat) (j : Int32) (st : List Value) (M : Mm) (Q : Option Value → Mm → Prop), wp F_Md_letter 25 [l0, l1, l2] (.int j :: .ref a :: st) M Q = (ixI M a j ∧ wp F_Md_letter 26 [l0, l1, l2] (.int (gI M a (cl j)) :: st) M Q)) ∧
  (∀ (l0 l1 l2 : Value) (st : List Value) (M : Mm) (Q : Option Value → Mm → Prop), wp F_Md_letter 26 [l0, l1, l2] st M Q = wp F_Md_letter 27 [l0, l1, l2] (.int 1 :: st) M Q) ∧
  (∀ (l0 l1 l2 : Value) (x y : Int32) (st : List Value) (M : Mm) (Q : Option Value → Mm → Prop), wp F_Md_letter 27 [l0, l1, l2] (.int y :: .int x :: st) M Q = wp F_Md_letter 28 [l0, l1, l2] (.int (x - y) :: st) M Q) ∧
  (∀ (l0 l1 l2 : Value) (x : Int32) (st : List Value) (M : Mm) (Q : Option Value → Mm → Prop), wp F_Md_letter 28 [l0, l1, l2] (.int x :: st) M Q = wp F_Md_letter 29 [l0, l1, l2] (.long x.toInt64 :: st) M Q) ∧
  (∀ (l0 l1 l2 : Value) (p0 : Int64) (p1 : Int64) (p2 : Int64) (M : Mm) (Q : Option Value → Mm → Prop), wp F_Md_letter 29 [l0, l1, l2] [.long p2, .long p1, .long p0] M Q = wp F_Md_in 0 [.long p0, jk, .long p1, jk, .long p2, jk] [] M (fun r M1 => wp F_Md_letter 32 [l0, l1, l2] (r.toList ++ []) M1 Q)) ∧
  (∀ (l0 l1 l2 : Value) (x : Int32) (st : List Value) (M : Mm) (Q : Option Value → Mm → Prop), wp F_Md_letter 32 [l0, l1, l2] (.int x :: st) M Q = if x = 0 then wp F_Md_letter 49 [l0, l1, l2] st M Q else wp F_Md_letter 35 [l0, l1, l2] st M Q) ∧
  (∀ (l1 l2 : Value) (x : Nat) (st : List Value) (M : Mm) (Q : Option Value → Mm → Prop), wp F_Md_letter 35 [.ref x, l1, l2] st M Q = wp F_Md_letter 36 [.ref x, l1, l2] (.ref x :: st) M Q) ∧
  (∀ (l0 l1 l2 : Value) (a : Nat) (st : List Value) (M : Mm) (Q : Option Value → Mm → Prop), wp F_Md_letter 36 [l0, l1, l2] (.ref a :: st) M Q = (sh M a = some (.inl 12) ∧ wp F_Md_letter 39 [l0, l1, l2] (va_rf (gR M a 42) :: st) M Q)) ∧
  (∀ (l0 l1 l2 : Value) (st : List Value) (M : Mm) (Q : Option Value → Mm → Prop), wp F_Md_letter 39 [l0, l1, l2] st M Q = wp F_Md_letter 41 [l0, l1, l2] (.int 80 :: st) M Q) ∧
  (∀ (l0 l2 : Value) (x : Int32) (st : List Value) (M : Mm) (Q : Option Value → Mm → Prop), wp F_Md_letter 41 [l0, .int x, l2] st M Q = wp F_Md_letter 42 [l0, .int x, l2] (.int x :: st) M Q) ∧
  (∀ (l0 l1 l2 : Value) (x y : Int32) (st : List Value) (M : Mm) (Q : Option Value → Mm → Prop), wp F_Md_letter 42 [l0, l1, l2] (.int y :: .int x :: st) M Q = wp F_Md_letter 43 [l0, l1, l2] (.int (x * y) :: st) M Q) ∧
  (∀ (l0 l1 : Value) (x : Int32) (st : List Value) (M : Mm) (Q : Option Value → Mm → Prop), wp F_Md_letter 43 [l0, l1, .int x] st M Q = wp F_Md_letter 44 [l0, l1, .int x] (.int x :: st) M Q) ∧
  (∀ (l0 l1 l2 : Value) (x y : Int32) (st : List Value) (M : Mm) (Q : Option Value → Mm → Prop), wp F_Md_letter 44 [l0, l1, l2] (.int y :: .int x :: st) M Q = wp F_Md_letter 45 [l0, l1, l2] (.int (x + y) :: st) M Q) ∧
  (∀ (l0 l1 l2 : Value) (a : Nat) (j : Int32) (st : List Value) (M : Mm) (Q : Option Value → Mm → Prop), wp F_Md_letter 45 [l0, l1, l2] (.int j :: .ref a :: st) M Q = (ixI M a j ∧ wp F_Md_letter 46 [l0, l1, l2] (.int (gI M a (cl j)) :: st) M Q)) ∧
  (∀ (l0 l1 l2 : Value) (st : List Value) (M : Mm) (Q : Option Value → Mm → Prop), wp F_Md_letter 46 [l0, l1, l2] st M Q = wp F_Md_letter 50 [l0, l1, l2] st M Q) := ⟨fun _ _ _ _ _ _ => wp_in d_Md_letter_17 rfl rfl, fun _ _ _ _ _ _ _ => wp_in d_Md_letter_18 rfl rfl, fun _ _ _ _ _ _ => wp_lconst d_Md_letter_19 (by decide), fun _ _ _ _ _ _ => wp_in d_Md_letter_20 rfl rfl, fun _ _ _ _ _ _ _ => wp_getA d_Md_letter_21 fl_12_115 rfl, fun _ _ _ _ _ _ => wp_in d_Md_letter_24 rfl rfl, fun _ _ _ _ _ _ _ _ => wp_iald d_Md_letter_25, fun _ _ _ _ _ _ => wp_iconst d_Md_letter_26 (by decide), fun _ _ _ _ _ _ _ _ => wp_in d_Md_letter_27 rfl rfl, fun _ _ _ _ _ _ _ => wp_in d_Md_letter_28 rfl rfl, fun _ _ _ _ _ _ _ _ => wp_callS d_Md_letter_29 ml_12_9 (Nat.le_of_ble_eq_true rfl) rfl rfl rfl, fun _ _ _ _ _ _ _ => wp_if_eq d_Md_letter_32 rfl, fun _ _ _ _ _ _ => wp_in d_Md_letter_35 rfl rfl, fun _ _ _ _ _ _ _ => wp_getA d_Md_letter_36 fl_12_132 rfl, fun _ _ _ _ _ _ => wp_bipush d_Md_letter_39 (by decide), fun _ _ _ _ _ _ => wp_in d_Md_letter_41 rfl rfl, fun _ _ _ _ _ _ _ _ => wp_in d_Md_letter_42 rfl rfl, fun _ _ _ _ _ _ => wp_in d_Md_letter_43 rfl rfl, fun _ _ _ _ _ _ _ _ => wp_in d_Md_letter_44 rfl rfl, fun _ _ _ _ _ _ _ _ => wp_iald d_Md_letter_45, fun _ _ _ _ _ _ => wp_goto d_Md_letter_46 rfl⟩
theorem B_Md_letter_49 : (∀ (l0 l1 l2 : Value) (st : List Value) (M : Mm) (Q : Option Value → Mm → Prop), wp F_Md_letter 49 [l0, l1, l2] st M Q = wp F_Md_letter 50 [l0, l1, l2] (.int (-1) :: st) M Q) := fun _ _ _ _ _ _ => wp_iconst d_Md_letter_49 (by decide)
theorem B_Md_letter_50 : (∀ (l0 l1 l2 : Value) (v : Int32) (M : Mm) (Q : Option Value → Mm → Prop), wp F_Md_letter 50 [l0, l1, l2] [.int v] M Q = Q (some (.int v)) M) := fun _ _ _ _ _ _ => wp_retI d_Md_letter_50 rfl
theorem d_Md_takeOne_0 : decode (fnB F_Md_takeOne) 0 = .ok (.iconst 0, 1) := by decide +kernel
theorem d_Md_takeOne_1 : decode (fnB F_Md_takeOne) 1 = .ok (.istore_n 3, 1) := by decide +kernel
theorem d_Md_takeOne_2 : decode (fnB F_Md_takeOne) 2 = .ok (.iload_n 3, 1) := by decide +kernel
theorem d_Md_takeOne_3 : decode (fnB F_Md_takeOne) 3 = .ok (.aload_n 0, 1) := by decide +kernel
theorem d_Md_takeOne_4 : decode (fnB F_Md_takeOne) 4 = .ok (.getfield 115, 3) := by decide +kernel
theorem d_Md_takeOne_7 : decode (fnB F_Md_takeOne) 7 = .ok (.iload_n 1, 1) := by decide +kernel
theorem d_Md_takeOne_8 : decode (fnB F_Md_takeOne) 8 = .ok (.iaload, 1) := by decide +kernel
theorem d_Md_takeOne_9 : decode (fnB F_Md_takeOne) 9 = .ok (.if_icmp .ge 28, 3) := by decide +kernel
theorem d_Md_takeOne_12 : decode (fnB F_Md_takeOne) 12 = .ok (.aload_n 0, 1) := by decide +kernel
theorem d_Md_takeOne_13 : decode (fnB F_Md_takeOne) 13 = .ok (.getfield 157, 3) := by decide +kernel
theorem d_Md_takeOne_16 : decode (fnB F_Md_takeOne) 16 = .ok (.iload_n 2, 1) := by decide +kernel
theorem d_Md_takeOne_17 : decode (fnB F_Md_takeOne) 17 = .ok (.iload_n 3, 1) := by decide +kernel
theorem d_Md_takeOne_18 : decode (fnB F_Md_takeOne) 18 = .ok (.iadd, 1) := by decide +kernel
theorem d_Md_takeOne_19 : decode (fnB F_Md_takeOne) 19 = .ok (.aload_n 0, 1) := by decide +kernel
theorem d_Md_takeOne_20 : decode (fnB F_Md_takeOne) 20 = .ok (.getfield 132, 3) := by decide +kernel
theorem d_Md_takeOne_23 : decode (fnB F_Md_takeOne) 23 = .ok (.bipush 80, 2) := by decide +kernel
theorem d_Md_takeOne_25 : decode (fnB F_Md_takeOne) 25 = .ok (.iload_n 1, 1) := by decide +kernel
theorem d_Md_takeOne_26 : decode (fnB F_Md_takeOne) 26 = .ok (.imul, 1) := by decide +kernel
theorem d_Md_takeOne_27 : decode (fnB F_Md_takeOne) 27 = .ok (.iload_n 3, 1) := by decide +kernel
theorem d_Md_takeOne_28 : decode (fnB F_Md_takeOne) 28 = .ok (.iadd, 1) := by decide +kernel
theorem d_Md_takeOne_29 : decode (fnB F_Md_takeOne) 29 = .ok (.iaload, 1) := by decide +kernel
theorem d_Md_takeOne_30 : decode (fnB F_Md_takeOne) 30 = .ok (.iastore, 1) := by decide +kernel
theorem d_Md_takeOne_31 : decode (fnB F_Md_takeOne) 31 = .ok (.iinc 3 1, 3) := by decide +kernel
theorem d_Md_takeOne_34 : decode (fnB F_Md_takeOne) 34 = .ok (.goto (-32), 3) := by decide +kernel
theorem d_Md_takeOne_37 : decode (fnB F_Md_takeOne) 37 = .ok (.iload_n 2, 1) := by decide +kernel
theorem d_Md_takeOne_38 : decode (fnB F_Md_takeOne) 38 = .ok (.aload_n 0, 1) := by decide +kernel
theorem d_Md_takeOne_39 : decode (fnB F_Md_takeOne) 39 = .ok (.getfield 115, 3) := by decide +kernel
theorem d_Md_takeOne_42 : decode (fnB F_Md_takeOne) 42 = .ok (.iload_n 1, 1) := by decide +kernel
theorem d_Md_takeOne_43 : decode (fnB F_Md_takeOne) 43 = .ok (.iaload, 1) := by decide +kernel
theorem d_Md_takeOne_44 : decode (fnB F_Md_takeOne) 44 = .ok (.iadd, 1) := by decide +kernel
theorem d_Md_takeOne_45 : decode (fnB F_Md_takeOne) 45 = .ok (.ireturn, 1) := by decide +kernel
theorem B_Md_takeOne_0 : (∀ (l0 l1 l2 l3 : Value) (st : List Value) (M : Mm) (Q : Option Value → Mm → Prop), wp F_Md_takeOne 0 [l0, l1, l2, l3] st M Q = wp F_Md_takeOne 1 [l0, l1, l2, l3] (.int 0 :: st) M Q) ∧
  (∀ (l0 l1 l2 l3 : Value) (x : Int32) (st : List Value) (M : Mm) (Q : Option Value → Mm → Prop), wp F_Md_takeOne 1 [l0, l1, l2, l3] (.int x :: st) M Q = wp F_Md_takeOne 2 [l0, l1, clr l2, .int x] st M Q) := ⟨fun _ _ _ _ _ _ _ => wp_iconst d_Md_takeOne_0 (by decide), fun _ _ _ _ _ _ _ _ => wp_in d_Md_takeOne_1 rfl rfl⟩
theorem B_Md_takeOne_2 : (∀ (l0 l1 l2 : Value) (x : Int32) (st : List Value) (M : Mm) (Q : Option Value → Mm → Prop), wp F_Md_takeOne 2 [l0, l1, l2, .int x] st M Q = wp F_Md_takeOne 3 [l0, l1, l2, .int x] (.int x :: st) M Q) ∧
  (∀ (l1 l2 l3 : Value) (x : Nat) (st : List Value) (M : Mm) (Q : Option Value → Mm → Prop), wp F_Md_takeOne 3 [.ref x, l1, l2, l3] st M Q = wp F_Md_takeOne 4 [.ref x, l1, l2, l3] (.ref x :: st) M Q) ∧
  (∀ (l0 l1 l2 l3 : Value) (a : Nat) (st : List Value) (M : Mm) (Q : Option Value → Mm → Prop), wp F_Md_takeOne 4 [l0, l1, l2, l3] (.ref a :: st) M Q = (sh M a = some (.inl 12) ∧ wp F_Md_takeOne 7 [l0, l1, l2, l3] (va_rf (gR M a 43) :: st) M Q)) ∧
  (∀ (l0 l2 l3 : Value) (x : Int32) (st : List Value) (M : Mm) (Q : Option Value → Mm → Prop), wp F_Md_takeOne 7 [l0, .int x, l2, l3] st M Q = wp F_Md_takeOne 8 [l0, .int x, l2, l3] (.int x :: st) M Q) ∧
  (∀ (l0 l1 l2 l3 : Value) (a : Nat) (j : Int32) (st : List Value) (M : Mm) (Q : Option Value → Mm → Prop), wp F_Md_takeOne 8 [l0, l1, l2, l3] (.int j :: .ref a :: st) M Q = (ixI M a j ∧ wp F_Md_takeOne 9 [l0, l1, l2, l3] (.int (gI M a (cl j)) :: st) M Q)) ∧
  (∀ (l0 l1 l2 l3 : Value) (x y : Int32) (st : List Value) (M : Mm) (Q : Option Value → Mm → Prop), wp F_Md_takeOne 9 [l0, l1, l2, l3] (.int y :: .int x :: st) M Q = if y ≤ x then wp F_Md_takeOne 37 [l0, l1, l2, l3] st M Q else wp F_Md_takeOne 12 [l0, l1, l2, l3] st M Q) ∧
  (∀ (l1 l2 l3 : Value) (x : Nat) (st : List Value) (M : Mm) (Q : Option Value → Mm → Prop), wp F_Md_takeOne 12 [.ref x, l1, l2, l3] st M Q = wp F_Md_takeOne 13 [.ref x, l1, l2, l3] (.ref x :: st) M Q) ∧
  (∀ (l0 l1 l2 l3 : Value) (a : Nat) (st : List Value) (M : Mm) (Q : Option Value → Mm → Prop), wp F_Md_takeOne 13 [l0, l1, l2, l3] (.ref a :: st) M Q = (sh M a = some (.inl 12) ∧ wp F_Md_takeOne 16 [l0, l1, l2, l3] (va_rf (gR M a 29) :: st) M Q)) ∧
  (∀ (l0 l1 l3 : Value) (x : Int32) (st : List Value) (M : Mm) (Q : Option Value → Mm → Prop), wp F_Md_takeOne 16 [l0, l1, .int x, l3] st M Q = wp F_Md_takeOne 17 [l0, l1, .int x, l3] (.int x :: st) M Q) ∧
  (∀ (l0 l1 l2 : Value) (x : Int32) (st : List Value) (M : Mm) (Q : Option Value → Mm → Prop), wp F_Md_takeOne 17 [l0, l1, l2, .int x] st M Q = wp F_Md_takeOne 18 [l0, l1, l2, .int x] (.int x :: st) M Q) ∧
  (∀ (l0 l1 l2 l3 : Value) (x y : Int32) (st : List Value) (M : Mm) (Q : Option Value → Mm → Prop), wp F_Md_takeOne 18 [l0, l1, l2, l3] (.int y :: .int x :: st) M Q = wp F_Md_takeOne 19 [l0, l1, l2, l3] (.int (x + y) :: st) M Q) ∧
  (∀ (l1 l2 l3 : Value) (x : Nat) (st : List Value) (M : Mm) (Q : Option Value → Mm → Prop), wp F_Md_takeOne 19 [.ref x, l1, l2, l3] st M Q = wp F_Md_takeOne 20 [.ref x, l1, l2, l3] (.ref x :: st) M Q) ∧
  (∀ (l0 l1 l2 l3 : Value) (a : Nat) (st : List Value) (M : Mm) (Q : Option Value → Mm → Prop), wp F_Md_takeOne 20 [l0, l1, l2, l3] (.ref a :: st) M Q = (sh M a = some (.inl 12) ∧ wp F_Md_takeOne 23 [l0, l1, l2, l3] (va_rf (gR M a 42) :: st) M Q)) ∧
  (∀ (l0 l1 l2 l3 : Value) (st : List Value) (M : Mm) (Q : Option Value → Mm → Prop), wp F_Md_takeOne 23 [l0, l1, l2, l3] st M Q = wp F_Md_takeOne 25 [l0, l1, l2, l3] (.int 80 :: st) M Q) ∧
  (∀ (l0 l2 l3 : Value) (x : Int32) (st : List Value) (M : Mm) (Q : Option Value → Mm → Prop), wp F_Md_takeOne 25 [l0, .int x, l2, l3] st M Q = wp F_Md_takeOne 26 [l0, .int x, l2, l3] (.int x :: st) M Q) ∧
  (∀ (l0 l1 l2 l3 : Value) (x y : Int32) (st : List Value) (M : Mm) (Q : Option Value → Mm → Prop), wp F_Md_takeOne 26 [l0, l1, l2, l3] (.int y :: .int x :: st) M Q = wp F_Md_takeOne 27 [l0, l1, l2, l3] (.int (x * y) :: st) M Q) ∧
  (∀ (l0 l1 l2 : Value) (x : Int32) (st : List Value) (M : Mm) (Q : Option Value → Mm → Prop), wp F_Md_takeOne 27 [l0, l1, l2, .int x] st M Q = wp F_Md_takeOne 28 [l0, l1, l2, .int x] (.int x :: st) M Q) ∧
  (∀ (l0 l1 l2 l3 : Value) (x y : Int32) (st : List Value) (M : Mm) (Q : Option Value → Mm → Prop), wp F_Md_takeOne 28 [l0, l1, l2, l3] (.int y :: .int x :: st) M Q = wp F_Md_takeOne 29 [l0, l1, l2, l3] (.int (x + y) :: st) M Q) ∧
  (∀ (l0 l1 l2 l3 : Value) (a : Nat) (j : Int32) (st : List Value) (M : Mm) (Q : Option Value → Mm → Prop), wp F_Md_takeOne 29 [l0, l1, l2, l3] (.int j :: .ref a :: st) M Q = (ixI M a j ∧ wp F_Md_takeOne 30 [l0, l1, l2, l3] (.int (gI M a (cl j)) :: st) M Q)) ∧
  (∀ (l0 l1 l2 l3 : Value) (a : Nat) (j x : Int32) (st : List Value) (M : Mm) (Q : Option Value → Mm → Prop), wp F_Md_takeOne 30 [l0, l1, l2, l3] (.int x :: .int j :: .ref a :: st) M Q = (ixW M a j ∧ wp F_Md_takeOne 31 [l0, l1, l2, l3] st (sI M a (cl j) x) Q)) ∧
  (∀ (l0 l1 l2 : Value) (x : Int32) (st : List Value) (M : Mm) (Q : Option Value → Mm → Prop), wp F_Md_takeOne 31 [l0, l1, l2, .int x] st M Q = wp F_Md_takeOne 34 [l0, l1, clr l2, .int (x + 1)] st M Q) := ⟨fun _ _ _ _ _ _ _ => wp_in d_Md_takeOne_2 rfl rfl, fun _ _ _ _ _ _ _ => wp_in d_Md_takeOne_3 rfl rfl, fun _ _ _ _ _ _ _ _ => wp_getA d_Md_takeOne_4 fl_12_115 rfl, fun _ _ _ _ _ _ _ => wp_in d_Md_takeOne_7 rfl rfl, fun _ _ _ _ _ _ _ _ _ => wp_iald d_Md_takeOne_8, fun _ _ _ _ _ _ _ _ _ => wp_icmp_ge d_Md_takeOne_9 rfl, fun _ _ _ _ _ _ _ => wp_in d_Md_takeOne_12 rfl rfl, fun _ _ _ _ _ _ _ _ => wp_getA d_Md_takeOne_13 fl_12_157 rfl, fun _ _ _ _ _ _ _ => wp_in d_Md_takeOne_16 rfl rfl, fun _ _ _ _ _ _ _ => wp_in d_Md_takeOne_17 rfl rfl, fun _ _ _ _ _ _ _ _ _ => wp_in d_Md_takeOne_18 rfl rfl, fun _ _ _ _ _ _ _ => wp_in d_Md_takeOne_19 rfl rfl, fun _ _ _ _ _ _ _ _ => wp_getA d_Md_takeOne_20 fl_12_132 rfl, fun _ _ _ _ _ _ _ => wp_bipush d_Md_takeOne_23 (by decide), fun _ _ _ _ _ _ _ => wp_in d_Md_takeOne_25 rfl rfl, fun _ _ _ _ _ _ _ _ _ => wp_in d_Md_takeOne_26 rfl rfl, fun _ _ _ _ _ _ _ => wp_in d_Md_takeOne_27 rfl rfl, fun _ _ _ _ _ _ _ _ _ => wp_in d_Md_takeOne_28 rfl rfl, fun _ _ _ _ _ _ _ _ _ => wp_iald d_Md_takeOne_29, fun _ _ _ _ _ _ _ _ _ _ => wp_iast d_Md_takeOne_30, fun _ _ _ _ _ _ _ => wp_iinc d_Md_takeOne_31 (by decide) rfl rfl⟩
theorem B_Md_takeOne_37 : (∀ (l0 l1 l3 : Value) (x : Int32) (st : List Value) (M : Mm) (Q : Option Value → Mm → Prop), wp F_Md_takeOne 37 [l0, l1, .int x, l3] st M Q = wp F_Md_takeOne 38 [l0, l1, .int x, l3] (.int x :: st) M Q) ∧
  (∀ (l1 l2 l3 : Value) (x : Nat) (st : List Value) (M : Mm) (Q : Option Value → Mm → Prop), wp F_Md_takeOne 38 [.ref x, l1, l2, l3] st M Q = wp F_Md_takeOne 39 [.ref x, l1, l2, l3] (.ref x :: st) M Q) ∧
  (∀ (l0 l1 l2 l3 : Value) (a : Nat) (st : List Value) (M : Mm) (Q : Option Value → Mm → Prop), wp F_Md_takeOne 39 [l0, l1, l2, l3] (.ref a :: st) M Q = (sh M a = some (.inl 12) ∧ wp F_Md_takeOne 42 [l0, l1, l2, l3] (va_rf (gR M a 43) :: st) M Q)) ∧
  (∀ (l0 l2 l3 : Value) (x : Int32) (st : List Value) (M : Mm) (Q : Option Value → Mm → Prop), wp F_Md_takeOne 42 [l0, .int x, l2, l3] st M Q = wp F_Md_takeOne 43 [l0, .int x, l2, l3] (.int x :: st) M Q) ∧
  (∀ (l0 l1 l2 l3 : Value) (a : Nat) (j : Int32) (st : List Value) (M : Mm) (Q : Option Value → Mm → Prop), wp F_Md_takeOne 43 [l0, l1, l2, l3] (.int j :: .ref a :: st) M Q = (ixI M a j ∧ wp F_Md_takeOne 44 [l0, l1, l2, l3] (.int (gI M a (cl j)) :: st) M Q)) ∧
  (∀ (l0 l1 l2 l3 : Value) (x y : Int32) (st : List Value) (M : Mm) (Q : Option Value → Mm → Prop), wp F_Md_takeOne 44 [l0, l1, l2, l3] (.int y :: .int x :: st) M Q = wp F_Md_takeOne 45 [l0, l1, l2, l3] (.int (x + y) :: st) M Q) ∧
  (∀ (l0 l1 l2 l3 : Value) (v : Int32) (M : Mm) (Q : Option Value → Mm → Prop), wp F_Md_takeOne 45 [l0, l1, l2, l3] [.int v] M Q = Q (some (.int v)) M) := ⟨fun _ _ _ _ _ _ _ => wp_in d_Md_takeOne_37 rfl rfl, fun _ _ _ _ _ _ _ => wp_in d_Md_takeOne_38 rfl rfl, fun _ _ _ _ _ _ _ _ => wp_getA d_Md_takeOne_39 fl_12_115 rfl, fun _ _ _ _ _ _ _ => wp_in d_Md_takeOne_42 rfl rfl, fun _ _ _ _ _ _ _ _ _ => wp_iald d_Md_takeOne_43, fun _ _ _ _ _ _ _ _ _ => wp_in d_Md_takeOne_44 rfl rfl, fun _ _ _ _ _ _ _ => wp_retI d_Md_takeOne_45 rfl⟩
theorem G_Md_takeOne_34 (l0 l1 l2 l3 : Value) (st : List Value) (M : Mm) (Q : Option Value → Mm → Prop) : wp F_Md_takeOne 34 [l0, l1, l2, l3] st M Q = wp F_Md_takeOne 2 [l0, l1, l2, l3] st M Q := wp_goto d_Md_takeOne_34 rfl
theorem d_Md_toSlot_0 : decode (fnB F_Md_toSlot) 0 = .ok (.iconst 0, 1) := by decide +kernel
theorem d_Md_toSlot_1 : decode (fnB F_Md_toSlot) 1 = .ok (.istore_n 3, 1) := by decide +kernel
theorem d_Md_toSlot_2 : decode (fnB F_Md_toSlot) 2 = .ok (.iload_n 3, 1) := by decide +kernel
theorem d_Md_toSlot_3 : decode (fnB F_Md_toSlot) 3 = .ok (.iload_n 2, 1) := by decide +kernel
theorem d_Md_toSlot_4 : decode (fnB F_Md_toSlot) 4 = .ok (.if_icmp .ge 26, 3) := by decide +kernel
theorem d_Md_toSlot_7 : decode (fnB F_Md_toSlot) 7 = .ok (.aload_n 0, 1) := by decide +kernel
theorem d_Md_toSlot_8 : decode (fnB F_Md_toSlot) 8 = .ok (.getfield 132, 3) := by decide +kernel
theorem d_Md_toSlot_11 : decode (fnB F_Md_toSlot) 11 = .ok (.bipush 80, 2) := by decide +kernel
theorem d_Md_toSlot_13 : decode (fnB F_Md_toSlot) 13 = .ok (.iload_n 1, 1) := by decide +kernel
theorem d_Md_toSlot_14 : decode (fnB F_Md_toSlot) 14 = .ok (.imul, 1) := by decide +kernel
theorem d_Md_toSlot_15 : decode (fnB F_Md_toSlot) 15 = .ok (.iload_n 3, 1) := by decide +kernel
theorem d_Md_toSlot_16 : decode (fnB F_Md_toSlot) 16 = .ok (.iadd, 1) := by decide +kernel
theorem d_Md_toSlot_17 : decode (fnB F_Md_toSlot) 17 = .ok (.aload_n 0, 1) := by decide +kernel
theorem d_Md_toSlot_18 : decode (fnB F_Md_toSlot) 18 = .ok (.getfield 157, 3) := by decide +kernel
theorem d_Md_toSlot_21 : decode (fnB F_Md_toSlot) 21 = .ok (.iload_n 3, 1) := by decide +kernel
theorem d_Md_toSlot_22 : decode (fnB F_Md_toSlot) 22 = .ok (.iaload, 1) := by decide +kernel
theorem d_Md_toSlot_23 : decode (fnB F_Md_toSlot) 23 = .ok (.iastore, 1) := by decide +kernel
theorem d_Md_toSlot_24 : decode (fnB F_Md_toSlot) 24 = .ok (.iinc 3 1, 3) := by decide +kernel
theorem d_Md_toSlot_27 : decode (fnB F_Md_toSlot) 27 = .ok (.goto (-25), 3) := by decide +kernel
theorem d_Md_toSlot_30 : decode (fnB F_Md_toSlot) 30 = .ok (.aload_n 0, 1) := by decide +kernel
theorem d_Md_toSlot_31 : decode (fnB F_Md_toSlot) 31 = .ok (.getfield 115, 3) := by decide +kernel
theorem d_Md_toSlot_34 : decode (fnB F_Md_toSlot) 34 = .ok (.iload_n 1, 1) := by decide +kernel
theorem d_Md_toSlot_35 : decode (fnB F_Md_toSlot) 35 = .ok (.iload_n 2, 1) := by decide +kernel
theorem d_Md_toSlot_36 : decode (fnB F_Md_toSlot) 36 = .ok (.iastore, 1) := by decide +kernel
theorem d_Md_toSlot_37 : decode (fnB F_Md_toSlot) 37 = .ok (.return_, 1) := by decide +kernel
theorem B_Md_toSlot_0 : (∀ (l0 l1 l2 l3 : Value) (st : List Value) (M : Mm) (Q : Option Value → Mm → Prop), wp F_Md_toSlot 0 [l0, l1, l2, l3] st M Q = wp F_Md_toSlot 1 [l0, l1, l2, l3] (.int 0 :: st) M Q) ∧
  (∀ (l0 l1 l2 l3 : Value) (x : Int32) (st : List Value) (M : Mm) (Q : Option Value → Mm → Prop), wp F_Md_toSlot 1 [l0, l1, l2, l3] (.int x :: st) M Q = wp F_Md_toSlot 2 [l0, l1, clr l2, .int x] st M Q) := ⟨fun _ _ _ _ _ _ _ => wp_iconst d_Md_toSlot_0 (by decide), fun _ _ _ _ _ _ _ _ => wp_in d_Md_toSlot_1 rfl rfl⟩
theorem B_Md_toSlot_2 : (∀ (l0 l1 l2 : Value) (x : Int32) (st : List Value) (M : Mm) (Q : Option Value → Mm → Prop), wp F_Md_toSlot 2 [l0, l1, l2, .int x] st M Q = wp F_Md_toSlot 3 [l0, l1, l2, .int x] (.int x :: st) M Q) ∧
  (∀ (l0 l1 l3 : Value) (x : Int32) (st : List Value) (M : Mm) (Q : Option Value → Mm → Prop), wp F_Md_toSlot 3 [l0, l1, .int x, l3] st M Q = wp F_Md_toSlot 4 [l0, l1, .int x, l3] (.int x :: st) M Q) ∧
  (∀ (l0 l1 l2 l3 : Value) (x y : Int32) (st : List Value) (M : Mm) (Q : Option Value → Mm → Prop), wp F_Md_toSlot 4 [l0, l1, l2, l3] (.int y :: .int x :: st) M Q = if y ≤ x then wp F_Md_toSlot 30 [l0, l1, l2, l3] st M Q else wp F_Md_toSlot 7 [l0, l1, l2, l3] st M Q) ∧
  (∀ (l1 l2 l3 : Value) (x : Nat) (st : List Value) (M : Mm) (Q : Option Value → Mm → Prop), wp F_Md_toSlot 7 [.ref x, l1, l2, l3] st M Q = wp F_Md_toSlot 8 [.ref x, l1, l2, l3] (.ref x :: st) M Q) ∧
  (∀ (l0 l1 l2 l3 : Value) (a : Nat) (st : List Value) (M : Mm) (Q : Option Value → Mm → Prop), wp F_Md_toSlot 8 [l0, l1, l2, l3] (.ref a :: st) M Q = (sh M a = some (.inl 12) ∧ wp F_Md_toSlot 11 [l0, l1, l2, l3] (va_rf (gR M a 42) :: st) M Q)) ∧
  (∀ (l0 l1 l2 l3 : Value) (st : List Value) (M : Mm) (Q : Option Value → Mm → Prop), wp F_Md_toSlot 11 [l0, l1, l2, l3] st M Q = wp F_Md_toSlot 13 [l0, l1, l2, l3] (.int 80 :: st) M Q) ∧
  (∀ (l0 l2 l3 : Value) (x : Int32) (st : List Value) (M : Mm) (Q : Option Value → Mm → Prop), wp F_Md_toSlot 13 [l0, .int x, l2, l3] st M Q = wp F_Md_toSlot 14 [l0, .int x, l2, l3] (.int x :: st) M Q) ∧
  (∀ (l0 l1 l2 l3 : Value) (x y : Int32) (st : List Value) (M : Mm) (Q : Option Value → Mm → Prop), wp F_Md_toSlot 14 [l0, l1, l2, l3] (.int y :: .int x :: st) M Q = wp F_Md_toSlot 15 [l0, l1, l2, l3] (.int (x * y) :: st) M Q) ∧
  (∀ (l0 l1 l2 : Value) (x : Int32) (st : List Value) (M : Mm) (Q : Option Value → Mm → Prop), wp F_Md_toSlot 15 [l0, l1, l2, .int x] st M Q = wp F_Md_toSlot 16 [l0, l1, l2, .int x] (.int x :: st) M Q) ∧
  (∀ (l0 l1 l2 l3 : Value) (x y : Int32) (st : List Value) (M : Mm) (Q : Option Value → Mm → Prop), wp F_Md_toSlot 16 [l0, l1, l2, l3] (.int y :: .int x :: st) M Q = wp F_Md_toSlot 17 [l0, l1, l2, l3] (.int (x + y) :: st) M Q) ∧
  (∀ (l1 l2 l3 : Value) (x : Nat) (st : List Value) (M : Mm) (Q : Option Value → Mm → Prop), wp F_Md_toSlot 17 [.ref x, l1, l2, l3] st M Q = wp F_Md_toSlot 18 [.ref x, l1, l2, l3] (.ref x :: st) M Q) ∧
  (∀ (l0 l1 l2 l3 : Value) (a : Nat) (st : List Value) (M : Mm) (Q : Option Value → Mm → Prop), wp F_Md_toSlot 18 [l0, l1, l2, l3] (.ref a :: st) M Q = (sh M a = some (.inl 12) ∧ wp F_Md_toSlot 21 [l0, l1, l2, l3] (va_rf (gR M a 29) :: st) M Q)) ∧
  (∀ (l0 l1 l2 : Value) (x : Int32) (st : List Value) (M : Mm) (Q : Option Value → Mm → Prop), wp F_Md_toSlot 21 [l0, l1, l2, .int x] st M Q = wp F_Md_toSlot 22 [l0, l1, l2, .int x] (.int x :: st) M Q) ∧
  (∀ (l0 l1 l2 l3 : Value) (a : Nat) (j : Int32) (st : List Value) (M : Mm) (Q : Option Value → Mm → Prop), wp F_Md_toSlot 22 [l0, l1, l2, l3] (.int j :: .ref a :: st) M Q = (ixI M a j ∧ wp F_Md_toSlot 23 [l0, l1, l2, l3] (.int (gI M a (cl j)) :: st) M Q)) ∧
  (∀ (l0 l1 l2 l3 : Value) (a : Nat) (j x : Int32) (st : List Value) (M : Mm) (Q : Option Value → Mm → Prop), wp F_Md_toSlot 23 [l0, l1, l2, l3] (.int x :: .int j :: .ref a :: st) M Q = (ixW M a j ∧ wp F_Md_toSlot 24 [l0, l1, l2, l3] st (sI M a (cl j) x) Q)) ∧
  (∀ (l0 l1 l2 : Value) (x : Int32) (st : List Value) (M : Mm) (Q : Option Value → Mm → Prop), wp F_Md_toSlot 24 [l0, l1, l2, .int x] st M Q = wp F_Md_toSlot 27 [l0, l1, clr l2, .int (x + 1)] st M Q) := ⟨fun _ _ _ _ _ _ _ => wp_in d_Md_toSlot_2 rfl rfl, fun _ _ _ _ _ _ _ => wp_in d_Md_toSlot_3 rfl rfl, fun _ _ _ _ _ _ _ _ _ => wp_icmp_ge d_Md_toSlot_4 rfl, fun _ _ _ _ _ _ _ => wp_in d_Md_toSlot_7 rfl rfl, fun _ _ _ _ _ _ _ _ => wp_getA d_Md_toSlot_8 fl_12_132 rfl, fun _ _ _ _ _ _ _ => wp_bipush d_Md_toSlot_11 (by decide), fun _ _ _ _ _ _ _ => wp_in d_Md_toSlot_13 rfl rfl, fun _ _ _ _ _ _ _ _ _ => wp_in d_Md_toSlot_14 rfl rfl, fun _ _ _ _ _ _ _ => wp_in d_Md_toSlot_15 rfl rfl, fun _ _ _ _ _ _ _ _ _ => wp_in d_Md_toSlot_16 rfl rfl, fun _ _ _ _ _ _ _ => wp_in d_Md_toSlot_17 rfl rfl, fun _ _ _ _ _ _ _ _ => wp_getA d_Md_toSlot_18 fl_12_157 rfl, fun _ _ _ _ _ _ _ => wp_in d_Md_toSlot_21 rfl rfl, fun _ _ _ _ _ _ _ _ _ => wp_iald d_Md_toSlot_22, fun _ _ _ _ _ _ _ _ _ _ => wp_iast d_Md_toSlot_23, fun _ _ _ _ _ _ _ => wp_iinc d_Md_toSlot_24 (by decide) rfl rfl⟩
theorem B_Md_toSlot_30 : (∀ (l1 l2 l3 : Value) (x : Nat) (st : List Value) (M : Mm) (Q : Option Value → Mm → Prop), wp F_Md_toSlot 30 [.ref x, l1, l2, l3] st M Q = wp F_Md_toSlot 31 [.ref x, l1, l2, l3] (.ref x :: st) M Q) ∧
  (∀ (l0 l1 l2 l3 : Value) (a : Nat) (st : List Value) (M : Mm) (Q : Option Value → Mm → Prop), wp F_Md_toSlot 31 [l0, l1, l2, l3] (.ref a :: st) M Q = (sh M a = some (.inl 12) ∧ wp F_Md_toSlot 34 [l0, l1, l2, l3] (va_rf (gR M a 43) :: st) M Q)) ∧
  (∀ (l0 l2 l3 : Value) (x : Int32) (st : List Value) (M : Mm) (Q : Option Value → Mm → Prop), wp F_Md_toSlot 34 [l0, .int x, l2, l3] st M Q = wp F_Md_toSlot 35 [l0, .int x, l2, l3] (.int x :: st) M Q) ∧
  (∀ (l0 l1 l3 : Value) (x : Int32) (st : List Value) (M : Mm) (Q : Option Value → Mm → Prop), wp F_Md_toSlot 35 [l0, l1, .int x, l3] st M Q = wp F_Md_toSlot 36 [l0, l1, .int x, l3] (.int x :: st) M Q) ∧
  (∀ (l0 l1 l2 l3 : Value) (a : Nat) (j x : Int32) (st : List Value) (M : Mm) (Q : Option Value → Mm → Prop), wp F_Md_toSlot 36 [l0, l1, l2, l3] (.int x :: .int j :: .ref a :: st) M Q = (ixW M a j ∧ wp F_Md_toSlot 37 [l0, l1, l2, l3] st (sI M a (cl j) x) Q)) ∧
  (∀ (l0 l1 l2 l3 : Value) (M : Mm) (Q : Option Value → Mm → Prop), wp F_Md_toSlot 37 [l0, l1, l2, l3] [] M Q = Q none M) := ⟨fun _ _ _ _ _ _ _ => wp_in d_Md_toSlot_30 rfl rfl, fun _ _ _ _ _ _ _ _ => wp_getA d_Md_toSlot_31 fl_12_115 rfl, fun _ _ _ _ _ _ _ => wp_in d_Md_toSlot_34 rfl rfl, fun _ _ _ _ _ _ _ => wp_in d_Md_toSlot_35 rfl rfl, fun _ _ _ _ _ _ _ _ _ _ => wp_iast d_Md_toSlot_36, fun _ _ _ _ _ _ => wp_retV d_Md_toSlot_37 rfl⟩
theorem G_Md_toSlot_27 (l0 l1 l2 l3 : Value) (st : List Value) (M : Mm) (Q : Option Value → Mm → Prop) : wp F_Md_toSlot 27 [l0, l1, l2, l3] st M Q = wp F_Md_toSlot 2 [l0, l1, l2, l3] st M Q := wp_goto d_Md_toSlot_27 rfl
theorem d_Md_join_0 : decode (fnB F_Md_join) 0 = .ok (.aload_n 0, 1) := by decide +kernel
theorem d_Md_join_1 : decode (fnB F_Md_join) 1 = .ok (.iconst 0, 1) := by decide +kernel
theorem d_Md_join_2 : decode (fnB F_Md_join) 2 = .ok (.putfield 1, 3) := by decide +kernel
theorem d_Md_join_5 : decode (fnB F_Md_join) 5 = .ok (.iload_n 1, 1) := by decide +kernel
theorem d_Md_join_6 : decode (fnB F_Md_join) 6 = .ok (.invokestatic 126, 3) := by decide +kernel
theorem d_Md_join_9 : decode (fnB F_Md_join) 9 = .ok (.ifCond .eq 17, 3) := by decide +kernel
theorem d_Md_join_12 : decode (fnB F_Md_join) 12 = .ok (.iload_n 2, 1) := by decide +kernel
theorem d_Md_join_13 : decode (fnB F_Md_join) 13 = .ok (.invokestatic 126, 3) := by decide +kernel
theorem d_Md_join_16 : decode (fnB F_Md_join) 16 = .ok (.ifCond .eq 10, 3) := by decide +kernel
theorem d_Md_join_19 : decode (fnB F_Md_join) 19 = .ok (.iload_n 3, 1) := by decide +kernel
theorem d_Md_join_20 : decode (fnB F_Md_join) 20 = .ok (.invokestatic 126, 3) := by decide +kernel
theorem d_Md_join_23 : decode (fnB F_Md_join) 23 = .ok (.ifCond .ne 6, 3) := by decide +kernel
theorem d_Md_join_26 : decode (fnB F_Md_join) 26 = .ok (.bipush (-2), 2) := by decide +kernel
theorem d_Md_join_28 : decode (fnB F_Md_join) 28 = .ok (.ireturn, 1) := by decide +kernel
theorem d_Md_join_29 : decode (fnB F_Md_join) 29 = .ok (.aload_n 0, 1) := by decide +kernel
theorem d_Md_join_30 : decode (fnB F_Md_join) 30 = .ok (.getfield 115, 3) := by decide +kernel
theorem d_Md_join_33 : decode (fnB F_Md_join) 33 = .ok (.iload_n 2, 1) := by decide +kernel
theorem d_Md_join_34 : decode (fnB F_Md_join) 34 = .ok (.iaload, 1) := by decide +kernel
theorem d_Md_join_35 : decode (fnB F_Md_join) 35 = .ok (.aload_n 0, 1) := by decide +kernel
theorem d_Md_join_36 : decode (fnB F_Md_join) 36 = .ok (.getfield 115, 3) := by decide +kernel
theorem d_Md_join_39 : decode (fnB F_Md_join) 39 = .ok (.iload_n 3, 1) := by decide +kernel
theorem d_Md_join_40 : decode (fnB F_Md_join) 40 = .ok (.iaload, 1) := by decide +kernel
theorem d_Md_join_41 : decode (fnB F_Md_join) 41 = .ok (.iadd, 1) := by decide +kernel
theorem d_Md_join_42 : decode (fnB F_Md_join) 42 = .ok (.bipush 80, 2) := by decide +kernel
theorem d_Md_join_44 : decode (fnB F_Md_join) 44 = .ok (.if_icmp .le 6, 3) := by decide +kernel
theorem d_Md_join_47 : decode (fnB F_Md_join) 47 = .ok (.bipush (-4), 2) := by decide +kernel
theorem d_Md_join_49 : decode (fnB F_Md_join) 49 = .ok (.ireturn, 1) := by decide +kernel
theorem d_Md_join_50 : decode (fnB F_Md_join) 50 = .ok (.aload_n 0, 1) := by decide +kernel
theorem d_Md_join_51 : decode (fnB F_Md_join) 51 = .ok (.iload_n 3, 1) := by decide +kernel
theorem d_Md_join_52 : decode (fnB F_Md_join) 52 = .ok (.aload_n 0, 1) := by decide +kernel
theorem d_Md_join_53 : decode (fnB F_Md_join) 53 = .ok (.iload_n 2, 1) := by decide +kernel
theorem d_Md_join_54 : decode (fnB F_Md_join) 54 = .ok (.iconst 0, 1) := by decide +kernel
theorem d_Md_join_55 : decode (fnB F_Md_join) 55 = .ok (.invokevirtual 276, 3) := by decide +kernel
theorem d_Md_join_58 : decode (fnB F_Md_join) 58 = .ok (.invokevirtual 276, 3) := by decide +kernel
theorem d_Md_join_61 : decode (fnB F_Md_join) 61 = .ok (.istore 4, 2) := by decide +kernel
theorem d_Md_join_63 : decode (fnB F_Md_join) 63 = .ok (.aload_n 0, 1) := by decide +kernel
theorem d_Md_join_64 : decode (fnB F_Md_join) 64 = .ok (.iload_n 1, 1) := by decide +kernel
theorem d_Md_join_65 : decode (fnB F_Md_join) 65 = .ok (.iload 4, 2) := by decide +kernel
theorem d_Md_join_67 : decode (fnB F_Md_join) 67 = .ok (.invokevirtual 280, 3) := by decide +kernel
theorem d_Md_join_70 : decode (fnB F_Md_join) 70 = .ok (.iload 4, 2) := by decide +kernel
theorem d_Md_join_72 : decode (fnB F_Md_join) 72 = .ok (.ireturn, 1) := by decide +kernel
theorem B_Md_join_0 : (∀ (l1 l2 l3 l4 : Value) (x : Nat) (st : List Value) (M : Mm) (Q : Option Value → Mm → Prop), wp F_Md_join 0 [.ref x, l1, l2, l3, l4] st M Q = wp F_Md_join 1 [.ref x, l1, l2, l3, l4] (.ref x :: st) M Q) ∧
  (∀ (l0 l1 l2 l3 l4 : Value) (st : List Value) (M : Mm) (Q : Option Value → Mm → Prop), wp F_Md_join 1 [l0, l1, l2, l3, l4] st M Q = wp F_Md_join 2 [l0, l1, l2, l3, l4] (.int 0 :: st) M Q) ∧
  (∀ (l0 l1 l2 l3 l4 : Value) (a : Nat) (x : Int32) (st : List Value) (M : Mm) (Q : Option Value → Mm → Prop), wp F_Md_join 2 [l0, l1, l2, l3, l4] (.int x :: .ref a :: st) M Q = (sh M a = some (.inl 12) ∧ wp F_Md_join 5 [l0, l1, l2, l3, l4] st (sI M a 0 x) Q)) ∧
  (∀ (l0 l2 l3 l4 : Value) (x : Int32) (st : List Value) (M : Mm) (Q : Option Value → Mm → Prop), wp F_Md_join 5 [l0, .int x, l2, l3, l4] st M Q = wp F_Md_join 6 [l0, .int x, l2, l3, l4] (.int x :: st) M Q) ∧
  (∀ (l0 l1 l2 l3 l4 : Value) (p0 : Int32) (M : Mm) (Q : Option Value → Mm → Prop), wp F_Md_join 6 [l0, l1, l2, l3, l4] [.int p0] M Q = wp F_Md_isSlot 0 [.int p0] [] M (fun r M1 => wp F_Md_join 9 [l0, l1, l2, l3, l4] (r.toList ++ []) M1 Q)) ∧
  (∀ (l0 l1 l2 l3 l4 : Value) (x : Int32) (st : List Value) (M : Mm) (Q : Option Value → Mm → Prop), wp F_Md_join 9 [l0, l1, l2, l3, l4] (.int x :: st) M Q = if x = 0 then wp F_Md_join 26 [l0, l1, l2, l3, l4] st M Q else wp F_Md_join 12 [l0, l1, l2, l3, l4] st M Q) ∧
  (∀ (l0 l1 l3 l4 : Value) (x : Int32) (st : List Value) (M : Mm) (Q : Option Value → Mm → Prop), wp F_Md_join 12 [l0, l1, .int x, l3, l4] st M Q = wp F_Md_join 13 [l0, l1, .int x, l3, l4] (.int x :: st) M Q) ∧
  (∀ (l0 l1 l2 l3 l4 : Value) (p0 : Int32) (M : Mm) (Q : Option Value → Mm → Prop), wp F_Md_join 13 [l0, l1, l2, l3, l4] [.int p0] M Q = wp F_Md_isSlot 0 [.int p0] [] M (fun r M1 => wp F_Md_join 16 [l0, l1, l2, l3, l4] (r.toList ++ []) M1 Q)) ∧
  (∀ (l0 l1 l2 l3 l4 : Value) (x : Int32) (st : List Value) (M : Mm) (Q : Option Value → Mm → Prop), wp F_Md_join 16 [l0, l1, l2, l3, l4] (.int x :: st) M Q = if x = 0 then wp F_Md_join 26 [l0, l1, l2, l3, l4] st M Q else wp F_Md_join 19 [l0, l1, l2, l3, l4] st M Q) ∧
  (∀ (l0 l1 l2 l4 : Value) (x : Int32) (st : List Value) (M : Mm) (Q : Option Value → Mm → Prop), wp F_Md_join 19 [l0, l1, l2, .int x, l4] st M Q = wp F_Md_join 20 [l0, l1, l2, .int x, l4] (.int x :: st) M Q) ∧
  (∀ (l0 l1 l2 l3 l4 : Value) (p0 : Int32) (M : Mm) (Q : Option Value → Mm → Prop), wp F_Md_join 20 [l0, l1, l2, l3, l4] [.int p0] M Q = wp F_Md_isSlot 0 [.int p0] [] M (fun r M1 => wp F_Md_join 23 [l0, l1, l2, l3, l4] (r.toList ++ []) M1 Q)) ∧
  (∀ (l0 l1 l2 l3 l4 : Value) (x : Int32) (st : List Value) (M : Mm) (Q : Option Value → Mm → Prop), wp F_Md_join 23 [l0, l1, l2, l3, l4] (.int x :: st) M Q = if x = 0 then wp F_Md_join 26 [l0, l1, l2, l3, l4] st M Q else wp F_Md_join 29 [l0, l1, l2, l3, l4] st M Q) := ⟨fun _ _ _ _ _ _ _ _ => wp_in d_Md_join_0 rfl rfl, fun _ _ _ _ _ _ _ _ => wp_iconst d_Md_join_1 (by decide), fun _ _ _ _ _ _ _ _ _ _ => wp_putI d_Md_join_2 fl_12_1 rfl rfl, fun _ _ _ _ _ _ _ _ => wp_in d_Md_join_5 rfl rfl, fun _ _ _ _ _ _ _ _ => wp_callS d_Md_join_6 ml_12_126 (Nat.le_of_ble_eq_true rfl) rfl rfl rfl, fun _ _ _ _ _ _ _ _ _ => wp_if_eq d_Md_join_9 rfl, fun _ _ _ _ _ _ _ _ => wp_in d_Md_join_12 rfl rfl, fun _ _ _ _ _ _ _ _ => wp_callS d_Md_join_13 ml_12_126 (Nat.le_of_ble_eq_true rfl) rfl rfl rfl, fun _ _ _ _ _ _ _ _ _ => wp_if_eq d_Md_join_16 rfl, fun _ _ _ _ _ _ _ _ => wp_in d_Md_join_19 rfl rfl, fun _ _ _ _ _ _ _ _ => wp_callS d_Md_join_20 ml_12_126 (Nat.le_of_ble_eq_true rfl) rfl rfl rfl, fun _ _ _ _ _ _ _ _ _ => wp_if_ne d_Md_join_23 rfl⟩
theorem B_Md_join_26 : (∀ (l0 l1 l2 l3 l4 : Value) (st : List Value) (M : Mm) (Q : Option Value → Mm → Prop), wp F_Md_join 26 [l0, l1, l2, l3, l4] st M Q = wp F_Md_join 28 [l0, l1, l2, l3, l4] (.int (-2) :: st) M Q) ∧
  (∀ (l0 l1 l2 l3 l4 : Value) (v : Int32) (M : Mm) (Q : Option Value → Mm → Prop), wp F_Md_join 28 [l0, l1, l2, l3, l4] [.int v] M Q = Q (some (.int v)) M) := ⟨fun _ _ _ _ _ _ _ _ => wp_bipush d_Md_join_26 (by decide), fun _ _ _ _ _ _ _ _ => wp_retI d_Md_join_28 rfl⟩
theorem B_Md_join_29 : (∀ (l1 l2 l3 l4 : Value) (x : Nat) (st : List Value) (M : Mm) (Q : Option Value → Mm → Prop), wp F_Md_join 29 [.ref x, l1, l2, l3, l4] st M Q = wp F_Md_join 30 [.ref x, l1, l2, l3, l4] (.ref x :: st) M Q) ∧
  (∀ (l0 l1 l2 l3 l4 : Value) (a : Nat) (st : List Value) (M : Mm) (Q : Option Value → Mm → Prop), wp F_Md_join 30 [l0, l1, l2, l3, l4] (.ref a :: st) M Q = (sh M a = some (.inl 12) ∧ wp F_Md_join 33 [l0, l1, l2, l3, l4] (va_rf (gR M a 43) :: st) M Q)) ∧
  (∀ (l0 l1 l3 l4 : Value) (x : Int32) (st : List Value) (M : Mm) (Q : Option Value → Mm → Prop), wp F_Md_join 33 [l0, l1, .int x, l3, l4] st M Q = wp F_Md_join 34 [l0, l1, .int x, l3, l4] (.int x :: st) M Q) ∧
  (∀ (l0 l1 l2 l3 l4 : Value) (a : Nat) (j : Int32) (st : List Value) (M : Mm) (Q : Option Value → Mm → Prop), wp F_Md_join 34 [l0, l1, l2, l3, l4] (.int j :: .ref a :: st) M Q = (ixI M a j ∧ wp F_Md_join 35 [l0, l1, l2, l3, l4] (.int (gI M a (cl j)) :: st) M Q)) ∧
  (∀ (l1 l2 l3 l4 : Value) (x : Nat) (st : List Value) (M : Mm) (Q : Option Value → Mm → Prop), wp F_Md_join 35 [.ref x, l1, l2, l3, l4] st M Q = wp F_Md_join 36 [.ref x, l1, l2, l3, l4] (.ref x :: st) M Q) ∧
  (∀ (l0 l1 l2 l3 l4 : Value) (a : Nat) (st : List Value) (M : Mm) (Q : Option Value → Mm → Prop), wp F_Md_join 36 [l0, l1, l2, l3, l4] (.ref a :: st) M Q = (sh M a = some (.inl 12) ∧ wp F_Md_join 39 [l0, l1, l2, l3, l4] (va_rf (gR M a 43) :: st) M Q)) ∧
  (∀ (l0 l1 l2 l4 : Value) (x : Int32) (st : List Value) (M : Mm) (Q : Option Value → Mm → Prop), wp F_Md_join 39 [l0, l1, l2, .int x, l4] st M Q = wp F_Md_join 40 [l0, l1, l2, .int x, l4] (.int x :: st) M Q) ∧
  (∀ (l0 l1 l2 l3 l4 : Value) (a : Nat) (j : Int32) (st : List Value) (M : Mm) (Q : Option Value → Mm → Prop), wp F_Md_join 40 [l0, l1, l2, l3, l4] (.int j :: .ref a :: st) M Q = (ixI M a j ∧ wp F_Md_join 41 [l0, l1, l2, l3, l4] (.int (gI M a (cl j)) :: st) M Q)) ∧
  (∀ (l0 l1 l2 l3 l4 : Value) (x y : Int32) (st : List Value) (M : Mm) (Q : Option Value → Mm → Prop), wp F_Md_join 41 [l0, l1, l2, l3, l4] (.int y :: .int x :: st) M Q = wp F_Md_join 42 [l0, l1, l2, l3, l4] (.int (x + y) :: st) M Q) ∧
  (∀ (l0 l1 l2 l3 l4 : Value) (st : List Value) (M : Mm) (Q : Option Value → Mm → Prop), wp F_Md_join 42 [l0, l1, l2, l3, l4] st M Q = wp F_Md_join 44 [l0, l1, l2, l3, l4] (.int 80 :: st) M Q) ∧
  (∀ (l0 l1 l2 l3 l4 : Value) (x y : Int32) (st : List Value) (M : Mm) (Q : Option Value → Mm → Prop), wp F_Md_join 44 [l0, l1, l2, l3, l4] (.int y :: .int x :: st) M Q = if x ≤ y then wp F_Md_join 50 [l0, l1, l2, l3, l4] st M Q else wp F_Md_join 47 [l0, l1, l2, l3, l4] st M Q) ∧
  (∀ (l0 l1 l2 l3 l4 : Value) (st : List Value) (M : Mm) (Q : Option Value → Mm → Prop), wp F_Md_join 47 [l0, l1, l2, l3, l4] st M Q = wp F_Md_join 49 [l0, l1, l2, l3, l4] (.int (-4) :: st) M Q) ∧
  (∀ (l0 l1 l2 l3 l4 : Value) (v : Int32) (M : Mm) (Q : Option Value → Mm → Prop), wp F_Md_join 49 [l0, l1, l2, l3, l4] [.int v] M Q = Q (some (.int v)) M) := ⟨fun _ _ _ _ _ _ _ _ => wp_in d_Md_join_29 rfl rfl, fun _ _ _ _ _ _ _ _ _ => wp_getA d_Md_join_30 fl_12_115 rfl, fun _ _ _ _ _ _ _ _ => wp_in d_Md_join_33 rfl rfl, fun _ _ _ _ _ _ _ _ _ _ => wp_iald d_Md_join_34, fun _ _ _ _ _ _ _ _ => wp_in d_Md_join_35 rfl rfl, fun _ _ _ _ _ _ _ _ _ => wp_getA d_Md_join_36 fl_12_115 rfl, fun _ _ _ _ _ _ _ _ => wp_in d_Md_join_39 rfl rfl, fun _ _ _ _ _ _ _ _ _ _ => wp_iald d_Md_join_40, fun _ _ _ _ _ _ _ _ _ _ => wp_in d_Md_join_41 rfl rfl, fun _ _ _ _ _ _ _ _ => wp_bipush d_Md_join_42 (by decide), fun _ _ _ _ _ _ _ _ _ _ => wp_icmp_le d_Md_join_44 rfl, fun _ _ _ _ _ _ _ _ => wp_bipush d_Md_join_47 (by decide), fun _ _ _ _ _ _ _ _ => wp_retI d_Md_join_49 rfl⟩
theorem B_Md_join_50 : (∀ (l1 l2 l3 l4 : Value) (x : Nat) (st : List Value) (M : Mm) (Q : Option Value → Mm → Prop), wp F_Md_join 50 [.ref x, l1, l2, l3, l4] st M Q = wp F_Md_join 51 [.ref x, l1, l2, l3, l4] (.ref x :: st) M Q) ∧
  (∀ (l0 l1 l2 l4 : Value) (x : Int32) (st : List Value) (M : Mm) (Q : Option Value → Mm → Prop), wp F_Md_join 51 [l0, l1, l2, .int x, l4] st M Q = wp F_Md_join 52 [l0, l1, l2, .int x, l4] (.int x :: st) M Q) ∧
  (∀ (l1 l2 l3 l4 : Value) (x : Nat) (st : List Value) (M : Mm) (Q : Option Value → Mm → Prop), wp F_Md_join 52 [.ref x, l1, l2, l3, l4] st M Q = wp F_Md_join 53 [.ref x, l1, l2, l3, l4] (.ref x :: st) M Q) ∧
  (∀ (l0 l1 l3 l4 : Value) (x : Int32) (st : List Value) (M : Mm) (Q : Option Value → Mm → Prop), wp F_Md_join 53 [l0, l1, .int x, l3, l4] st M Q = wp F_Md_join 54 [l0, l1, .int x, l3, l4] (.int x :: st) M Q) ∧
  (∀ (l0 l1 l2 l3 l4 : Value) (st : List Value) (M : Mm) (Q : Option Value → Mm → Prop), wp F_Md_join 54 [l0, l1, l2, l3, l4] st M Q = wp F_Md_join 55 [l0, l1, l2, l3, l4] (.int 0 :: st) M Q) ∧
  (∀ (l0 l1 l2 l3 l4 : Value) (b : Nat) (p0 : Int32) (p1 : Int32) (r0 r1 : Value) (M : Mm) (Q : Option Value → Mm → Prop), wp F_Md_join 55 [l0, l1, l2, l3, l4] [.int p1, .int p0, .ref b, r0, r1] M Q = (sh M b = some (.inl 12) ∧ wp F_Md_takeOne 0 [.ref b, .int p0, .int p1, jk] [] M (fun r M1 => wp F_Md_join 58 [l0, l1, l2, l3, l4] (r.toList ++ [r0, r1]) M1 Q))) ∧
  (∀ (l0 l1 l2 l3 l4 : Value) (b : Nat) (p0 : Int32) (p1 : Int32) (M : Mm) (Q : Option Value → Mm → Prop), wp F_Md_join 58 [l0, l1, l2, l3, l4] [.int p1, .int p0, .ref b] M Q = (sh M b = some (.inl 12) ∧ wp F_Md_takeOne 0 [.ref b, .int p0, .int p1, jk] [] M (fun r M1 => wp F_Md_join 61 [l0, l1, l2, l3, l4] (r.toList ++ []) M1 Q))) ∧
  (∀ (l0 l1 l2 l3 l4 : Value) (x : Int32) (st : List Value) (M : Mm) (Q : Option Value → Mm → Prop), wp F_Md_join 61 [l0, l1, l2, l3, l4] (.int x :: st) M Q = wp F_Md_join 63 [l0, l1, l2, clr l3, .int x] st M Q) ∧
  (∀ (l1 l2 l3 l4 : Value) (x : Nat) (st : List Value) (M : Mm) (Q : Option Value → Mm → Prop), wp F_Md_join 63 [.ref x, l1, l2, l3, l4] st M Q = wp F_Md_join 64 [.ref x, l1, l2, l3, l4] (.ref x :: st) M Q) ∧
  (∀ (l0 l2 l3 l4 : Value) (x : Int32) (st : List Value) (M : Mm) (Q : Option Value → Mm → Prop), wp F_Md_join 64 [l0, .int x, l2, l3, l4] st M Q = wp F_Md_join 65 [l0, .int x, l2, l3, l4] (.int x :: st) M Q) ∧
  (∀ (l0 l1 l2 l3 : Value) (x : Int32) (st : List Value) (M : Mm) (Q : Option Value → Mm → Prop), wp F_Md_join 65 [l0, l1, l2, l3, .int x] st M Q = wp F_Md_join 67 [l0, l1, l2, l3, .int x] (.int x :: st) M Q) ∧
  (∀ (l0 l1 l2 l3 l4 : Value) (b : Nat) (p0 : Int32) (p1 : Int32) (M : Mm) (Q : Option Value → Mm → Prop), wp F_Md_join 67 [l0, l1, l2, l3, l4] [.int p1, .int p0, .ref b] M Q = (sh M b = some (.inl 12) ∧ wp F_Md_toSlot 0 [.ref b, .int p0, .int p1, jk] [] M (fun r M1 => wp F_Md_join 70 [l0, l1, l2, l3, l4] (r.toList ++ []) M1 Q))) ∧
  (∀ (l0 l1 l2 l3 : Value) (x : Int32) (st : List Value) (M : Mm) (Q : Option Value → Mm → Prop), wp F_Md_join 70 [l0, l1, l2, l3, .int x] st M Q = wp F_Md_join 72 [l0, l1, l2, l3, .int x] (.int x :: st) M Q) ∧
  (∀ (l0 l1 l2 l3 l4 : Value) (v : Int32) (M : Mm) (Q : Option Value → Mm → Prop), wp F_Md_join 72 [l0, l1, l2, l3, l4] [.int v] M Q = Q (some (.int v)) M) := ⟨fun _ _ _ _ _ _ _ _ => wp_in d_Md_join_50 rfl rfl, fun _ _ _ _ _ _ _ _ => wp_in d_Md_join_51 rfl rfl, fun _ _ _ _ _ _ _ _ => wp_in d_Md_join_52 rfl rfl, fun _ _ _ _ _ _ _ _ => wp_in d_Md_join_53 rfl rfl, fun _ _ _ _ _ _ _ _ => wp_iconst d_Md_join_54 (by decide), fun _ _ _ _ _ _ _ _ _ _ _ _ => wp_callV d_Md_join_55 ml_12_276 rfl rfl rfl, fun _ _ _ _ _ _ _ _ _ _ => wp_callV d_Md_join_58 ml_12_276 rfl rfl rfl, fun _ _ _ _ _ _ _ _ _ => wp_in d_Md_join_61 rfl rfl, fun _ _ _ _ _ _ _ _ => wp_in d_Md_join_63 rfl rfl, fun _ _ _ _ _ _ _ _ => wp_in d_Md_join_64 rfl rfl, fun _ _ _ _ _ _ _ _ => wp_in d_Md_join_65 rfl rfl, fun _ _ _ _ _ _ _ _ _ _ => wp_callV d_Md_join_67 ml_12_280 rfl rfl rfl, fun _ _ _ _ _ _ _ _ => wp_in d_Md_join_70 rfl rfl, fun _ _ _ _ _ _ _ _ => wp_retI d_Md_join_72 rfl⟩
theorem d_Md_reduce_0 : decode (fnB F_Md_reduce) 0 = .ok (.aload_n 0, 1) := by decide +kernel
theorem d_Md_reduce_1 : decode (fnB F_Md_reduce) 1 = .ok (.iconst 0, 1) := by decide +kernel
theorem d_Md_reduce_2 : decode (fnB F_Md_reduce) 2 = .ok (.putfield 1, 3) := by decide +kernel
theorem d_Md_reduce_5 : decode (fnB F_Md_reduce) 5 = .ok (.iload_n 1, 1) := by decide +kernel
theorem d_Md_reduce_6 : decode (fnB F_Md_reduce) 6 = .ok (.invokestatic 126, 3) := by decide +kernel
theorem d_Md_reduce_9 : decode (fnB F_Md_reduce) 9 = .ok (.ifCond .ne 6, 3) := by decide +kernel
theorem d_Md_reduce_12 : decode (fnB F_Md_reduce) 12 = .ok (.bipush (-2), 2) := by decide +kernel
theorem d_Md_reduce_14 : decode (fnB F_Md_reduce) 14 = .ok (.ireturn, 1) := by decide +kernel
theorem d_Md_reduce_15 : decode (fnB F_Md_reduce) 15 = .ok (.aload_n 0, 1) := by decide +kernel
theorem d_Md_reduce_16 : decode (fnB F_Md_reduce) 16 = .ok (.aload_n 0, 1) := by decide +kernel
theorem d_Md_reduce_17 : decode (fnB F_Md_reduce) 17 = .ok (.getfield 157, 3) := by decide +kernel
theorem d_Md_reduce_20 : decode (fnB F_Md_reduce) 20 = .ok (.aload_n 0, 1) := by decide +kernel
theorem d_Md_reduce_21 : decode (fnB F_Md_reduce) 21 = .ok (.iload_n 1, 1) := by decide +kernel
theorem d_Md_reduce_22 : decode (fnB F_Md_reduce) 22 = .ok (.iconst 0, 1) := by decide +kernel
theorem d_Md_reduce_23 : decode (fnB F_Md_reduce) 23 = .ok (.invokevirtual 276, 3) := by decide +kernel
theorem d_Md_reduce_26 : decode (fnB F_Md_reduce) 26 = .ok (.invokevirtual 213, 3) := by decide +kernel
theorem d_Md_reduce_29 : decode (fnB F_Md_reduce) 29 = .ok (.istore_n 2, 1) := by decide +kernel
theorem d_Md_reduce_30 : decode (fnB F_Md_reduce) 30 = .ok (.iload_n 2, 1) := by decide +kernel
theorem d_Md_reduce_31 : decode (fnB F_Md_reduce) 31 = .ok (.iconst (-1), 1) := by decide +kernel
theorem d_Md_reduce_32 : decode (fnB F_Md_reduce) 32 = .ok (.if_icmp .ne 6, 3) := by decide +kernel
theorem d_Md_reduce_35 : decode (fnB F_Md_reduce) 35 = .ok (.bipush (-4), 2) := by decide +kernel
theorem d_Md_reduce_37 : decode (fnB F_Md_reduce) 37 = .ok (.ireturn, 1) := by decide +kernel
theorem d_Md_reduce_38 : decode (fnB F_Md_reduce) 38 = .ok (.aload_n 0, 1) := by decide +kernel
theorem d_Md_reduce_39 : decode (fnB F_Md_reduce) 39 = .ok (.iload_n 1, 1) := by decide +kernel
theorem d_Md_reduce_40 : decode (fnB F_Md_reduce) 40 = .ok (.iload_n 2, 1) := by decide +kernel
theorem d_Md_reduce_41 : decode (fnB F_Md_reduce) 41 = .ok (.invokevirtual 280, 3) := by decide +kernel
theorem d_Md_reduce_44 : decode (fnB F_Md_reduce) 44 = .ok (.aload_n 0, 1) := by decide +kernel
theorem d_Md_reduce_45 : decode (fnB F_Md_reduce) 45 = .ok (.aload_n 0, 1) := by decide +kernel
theorem d_Md_reduce_46 : decode (fnB F_Md_reduce) 46 = .ok (.getfield 206, 3) := by decide +kernel
theorem d_Md_reduce_49 : decode (fnB F_Md_reduce) 49 = .ok (.sipush 300, 3) := by decide +kernel
theorem d_Md_reduce_52 : decode (fnB F_Md_reduce) 52 = .ok (.if_icmp .ge 10, 3) := by decide +kernel
theorem d_Md_reduce_55 : decode (fnB F_Md_reduce) 55 = .ok (.aload_n 0, 1) := by decide +kernel
theorem d_Md_reduce_56 : decode (fnB F_Md_reduce) 56 = .ok (.getfield 206, 3) := by decide +kernel
theorem d_Md_reduce_59 : decode (fnB F_Md_reduce) 59 = .ok (.goto 6, 3) := by decide +kernel
theorem d_Md_reduce_62 : decode (fnB F_Md_reduce) 62 = .ok (.sipush 300, 3) := by decide +kernel
theorem d_Md_reduce_65 : decode (fnB F_Md_reduce) 65 = .ok (.putfield 109, 3) := by decide +kernel
theorem d_Md_reduce_68 : decode (fnB F_Md_reduce) 68 = .ok (.iconst 0, 1) := by decide +kernel
theorem d_Md_reduce_69 : decode (fnB F_Md_reduce) 69 = .ok (.istore_n 3, 1) := by decide +kernel
theorem d_Md_reduce_70 : decode (fnB F_Md_reduce) 70 = .ok (.iload_n 3, 1) := by decide +kernel
theorem d_Md_reduce_71 : decode (fnB F_Md_reduce) 71 = .ok (.aload_n 0, 1) := by decide +kernel
theorem d_Md_reduce_72 : decode (fnB F_Md_reduce) 72 = .ok (.getfield 109, 3) := by decide +kernel
theorem d_Md_reduce_75 : decode (fnB F_Md_reduce) 75 = .ok (.if_icmp .ge 33, 3) := by decide +kernel
theorem d_Md_reduce_78 : decode (fnB F_Md_reduce) 78 = .ok (.aload_n 0, 1) := by decide +kernel
theorem d_Md_reduce_79 : decode (fnB F_Md_reduce) 79 = .ok (.getfield 163, 3) := by decide +kernel
theorem d_Md_reduce_82 : decode (fnB F_Md_reduce) 82 = .ok (.iload_n 3, 1) := by decide +kernel
theorem d_Md_reduce_83 : decode (fnB F_Md_reduce) 83 = .ok (.aload_n 0, 1) := by decide +kernel
theorem d_Md_reduce_84 : decode (fnB F_Md_reduce) 84 = .ok (.getfield 169, 3) := by decide +kernel
theorem d_Md_reduce_87 : decode (fnB F_Md_reduce) 87 = .ok (.iload_n 3, 1) := by decide +kernel
theorem d_Md_reduce_88 : decode (fnB F_Md_reduce) 88 = .ok (.iaload, 1) := by decide +kernel
theorem d_Md_reduce_89 : decode (fnB F_Md_reduce) 89 = .ok (.iastore, 1) := by decide +kernel
theorem d_Md_reduce_90 : decode (fnB F_Md_reduce) 90 = .ok (.aload_n 0, 1) := by decide +kernel
theorem d_Md_reduce_91 : decode (fnB F_Md_reduce) 91 = .ok (.getfield 166, 3) := by decide +kernel
theorem d_Md_reduce_94 : decode (fnB F_Md_reduce) 94 = .ok (.iload_n 3, 1) := by decide +kernel
theorem d_Md_reduce_95 : decode (fnB F_Md_reduce) 95 = .ok (.aload_n 0, 1) := by decide +kernel
theorem d_Md_reduce_96 : decode (fnB F_Md_reduce) 96 = .ok (.getfield 172, 3) := by decide +kernel
theorem d_Md_reduce_99 : decode (fnB F_Md_reduce) 99 = .ok (.iload_n 3, 1) := by decide +kernel
theorem d_Md_reduce_100 : decode (fnB F_Md_reduce) 100 = .ok (.iaload, 1) := by decide +kernel
theorem d_Md_reduce_101 : decode (fnB F_Md_reduce) 101 = .ok (.iastore, 1) := by decide +kernel
theorem d_Md_reduce_102 : decode (fnB F_Md_reduce) 102 = .ok (.iinc 3 1, 3) := by decide +kernel
theorem d_Md_reduce_105 : decode (fnB F_Md_reduce) 105 = .ok (.goto (-35), 3) := by decide +kernel
theorem d_Md_reduce_108 : decode (fnB F_Md_reduce) 108 = .ok (.aload_n 0, 1) := by decide +kernel
theorem d_Md_reduce_109 : decode (fnB F_Md_reduce) 109 = .ok (.getfield 206, 3) := by decide +kernel
theorem d_Md_reduce_112 : decode (fnB F_Md_reduce) 112 = .ok (.ireturn, 1) := by decide +kernel
theorem B_Md_reduce_0 : (∀ (l1 l2 l3 : Value) (x : Nat) (st : List Value) (M : Mm) (Q : Option Value → Mm → Prop), wp F_Md_reduce 0 [.ref x, l1, l2, l3] st M Q = wp F_Md_reduce 1 [.ref x, l1, l2, l3] (.ref x :: st) M Q) ∧
  (∀ (l0 l1 l2 l3 : Value) (st : List Value) (M : Mm) (Q : Option Value → Mm → Prop), wp F_Md_reduce 1 [l0, l1, l2, l3] st M Q = wp F_Md_reduce 2 [l0, l1, l2, l3] (.int 0 :: st) M Q) ∧
  (∀ (l0 l1 l2 l3 : Value) (a : Nat) (x : Int32) (st : List Value) (M : Mm) (Q : Option Value → Mm → Prop), wp F_Md_reduce 2 [l0, l1, l2, l3] (.int x :: .ref a :: st) M Q = (sh M a = some (.inl 12) ∧ wp F_Md_reduce 5 [l0, l1, l2, l3] st (sI M a 0 x) Q)) ∧
  (∀ (l0 l2 l3 : Value) (x : Int32) (st : List Value) (M : Mm) (Q : Option Value → Mm → Prop), wp F_Md_reduce 5 [l0, .int x, l2, l3] st M Q = wp F_Md_reduce 6 [l0, .int x, l2, l3] (.int x :: st) M Q) ∧
  (∀ (l0 l1 l2 l3 : Value) (p0 : Int32) (M : Mm) (Q : Option Value → Mm → Prop), wp F_Md_reduce 6 [l0, l1, l2, l3] [.int p0] M Q = wp F_Md_isSlot 0 [.int p0] [] M (fun r M1 => wp F_Md_reduce 9 [l0, l1, l2, l3] (r.toList ++ []) M1 Q)) ∧
  (∀ (l0 l1 l2 l3 : Value) (x : Int32) (st : List Value) (M : Mm) (Q : Option Value → Mm → Prop), wp F_Md_reduce 9 [l0, l1, l2, l3] (.int x :: st) M Q = if x = 0 then wp F_Md_reduce 12 [l0, l1, l2, l3] st M Q else wp F_Md_reduce 15 [l0, l1, l2, l3] st M Q) ∧
  (∀ (l0 l1 l2 l3 : Value) (st : List Value) (M : Mm) (Q : Option Value → Mm → Prop), wp F_Md_reduce 12 [l0, l1, l2, l3] st M Q = wp F_Md_reduce 14 [l0, l1, l2, l3] (.int (-2) :: st) M Q) ∧
  (∀ (l0 l1 l2 l3 : Value) (v : Int32) (M : Mm) (Q : Option Value → Mm → Prop), wp F_Md_reduce 14 [l0, l1, l2, l3] [.int v] M Q = Q (some (.int v)) M) := ⟨fun _ _ _ _ _ _ _ => wp_in d_Md_reduce_0 rfl rfl, fun _ _ _ _ _ _ _ => wp_iconst d_Md_reduce_1 (by decide), fun _ _ _ _ _ _ _ _ _ => wp_putI d_Md_reduce_2 fl_12_1 rfl rfl, fun _ _ _ _ _ _ _ => wp_in d_Md_reduce_5 rfl rfl, fun _ _ _ _ _ _ _ => wp_callS d_Md_reduce_6 ml_12_126 (Nat.le_of_ble_eq_true rfl) rfl rfl rfl, fun _ _ _ _ _ _ _ _ => wp_if_ne d_Md_reduce_9 rfl, fun _ _ _ _ _ _ _ => wp_bipush d_Md_reduce_12 (by decide), fun _ _ _ _ _ _ _ => wp_retI d_Md_reduce_14 rfl⟩
theorem B_Md_reduce_15 : (∀ (l1 l2 l3 : Value) (x : Nat) (st : List Value) (M : Mm) (Q : Option Value → Mm → Prop), wp F_Md_reduce 15 [.ref x, l1, l2, l3] st M Q = wp F_Md_reduce 16 [.ref x, l1, l2, l3] (.ref x :: st) M Q) ∧
  (∀ (l1 l2 l3 : Value) (x : Nat) (st : List Value) (M : Mm) (Q : Option Value → Mm → Prop), wp F_Md_reduce 16 [.ref x, l1, l2, l3] st M Q = wp F_Md_reduce 17 [.ref x, l1, l2, l3] (.ref x :: st) M Q) ∧
  (∀ (l0 l1 l2 l3 : Value) (a : Nat) (st : List Value) (M : Mm) (Q : Option Value → Mm → Prop), wp F_Md_reduce 17 [l0, l1, l2, l3] (.ref a :: st) M Q = (sh M a = some (.inl 12) ∧ wp F_Md_reduce 20 [l0, l1, l2, l3] (va_rf (gR M a 29) :: st) M Q)) ∧
  (∀ (l1 l2 l3 : Value) (x : Nat) (st : List Value) (M : Mm) (Q : Option Value → Mm → Prop), wp F_Md_reduce 20 [.ref x, l1, l2, l3] st M Q = wp F_Md_reduce 21 [.ref x, l1, l2, l3] (.ref x :: st) M Q) ∧
  (∀ (l0 l2 l3 : Value) (x : Int32) (st : List Value) (M : Mm) (Q : Option Value → Mm → Prop), wp F_Md_reduce 21 [l0, .int x, l2, l3] st M Q = wp F_Md_reduce 22 [l0, .int x, l2, l3] (.int x :: st) M Q) ∧
  (∀ (l0 l1 l2 l3 : Value) (st : List Value) (M : Mm) (Q : Option Value → Mm → Prop), wp F_Md_reduce 22 [l0, l1, l2, l3] st M Q = wp F_Md_reduce 23 [l0, l1, l2, l3] (.int 0 :: st) M Q) ∧
  (∀ (l0 l1 l2 l3 : Value) (b : Nat) (p0 : Int32) (p1 : Int32) (r0 r1 : Value) (M : Mm) (Q : Option Value → Mm → Prop), wp F_Md_reduce 23 [l0, l1, l2, l3] [.int p1, .int p0, .ref b, r0, r1] M Q = (sh M b = some (.inl 12) ∧ wp F_Md_takeOne 0 [.ref b, .int p0, .int p1, jk] [] M (fun r M1 => wp F_Md_reduce 26 [l0, l1, l2, l3] (r.toList ++ [r0, r1]) M1 Q))) ∧
  (∀ (l0 l1 l2 l3 : Value) (b : Nat) (p0 : Nat) (p1 : Int32) (M : Mm) (Q : Option Value → Mm → Prop), wp F_Md_reduce 26 [l0, l1, l2, l3] [.int p1, .ref p0, .ref b] M Q = (sh M b = some (.inl 12) ∧ wp F_Md_shrink 0 [.ref b, .ref p0, .int p1, jk, jk, jk, jk, jk, jk] [] M (fun r M1 => wp F_Md_reduce 29 [l0, l1, l2, l3] (r.toList ++ []) M1 Q))) ∧
  (∀ (l0 l1 l2 l3 : Value) (x : Int32) (st : List Value) (M : Mm) (Q : Option Value → Mm → Prop), wp F_Md_reduce 29 [l0, l1, l2, l3] (.int x :: st) M Q = wp F_Md_reduce 30 [l0, clr l1, .int x, l3] st M Q) ∧
  (∀ (l0 l1 l3 : Value) (x : Int32) (st : List Value) (M : Mm) (Q : Option Value → Mm → Prop), wp F_Md_reduce 30 [l0, l1, .int x, l3] st M Q = wp F_Md_reduce 31 [l0, l1, .int x, l3] (.int x :: st) M Q) ∧
  (∀ (l0 l1 l2 l3 : Value) (st : List Value) (M : Mm) (Q : Option Value → Mm → Prop), wp F_Md_reduce 31 [l0, l1, l2, l3] st M Q = wp F_Md_reduce 32 [l0, l1, l2, l3] (.int (-1) :: st) M Q) ∧
  (∀ (l0 l1 l2 l3 : Value) (x y : Int32) (st : List Value) (M : Mm) (Q : Option Value → Mm → Prop), wp F_Md_reduce 32 [l0, l1, l2, l3] (.int y :: .int x :: st) M Q = if x = y then wp F_Md_reduce 35 [l0, l1, l2, l3] st M Q else wp F_Md_reduce 38 [l0, l1, l2, l3] st M Q) ∧
  (∀ (l0 l1 l2 l3 : Value) (st : List Value) (M : Mm) (Q : Option Value → Mm → Prop), wp F_Md_reduce 35 [l0, l1, l2, l3] st M Q = wp F_Md_reduce 37 [l0, l1, l2, l3] (.int (-4) :: st) M Q) ∧
  (∀ (l0 l1 l2 l3 : Value) (v : Int32) (M : Mm) (Q : Option Value → Mm → Prop), wp F_Md_reduce 37 [l0, l1, l2, l3] [.int v] M Q = Q (some (.int v)) M) := ⟨fun _ _ _ _ _ _ _ => wp_in d_Md_reduce_15 rfl rfl, fun _ _ _ _ _ _ _ => wp_in d_Md_reduce_16 rfl rfl, fun _ _ _ _ _ _ _ _ => wp_getA d_Md_reduce_17 fl_12_157 rfl, fun _ _ _ _ _ _ _ => wp_in d_Md_reduce_20 rfl rfl, fun _ _ _ _ _ _ _ => wp_in d_Md_reduce_21 rfl rfl, fun _ _ _ _ _ _ _ => wp_iconst d_Md_reduce_22 (by decide), fun _ _ _ _ _ _ _ _ _ _ _ => wp_callV d_Md_reduce_23 ml_12_276 rfl rfl rfl, fun _ _ _ _ _ _ _ _ _ => wp_callV d_Md_reduce_26 ml_12_213 rfl rfl rfl, fun _ _ _ _ _ _ _ _ => wp_in d_Md_reduce_29 rfl rfl, fun _ _ _ _ _ _ _ => wp_in d_Md_reduce_30 rfl rfl, fun _ _ _ _ _ _ _ => wp_iconst d_Md_reduce_31 (by decide), fun _ _ _ _ _ _ _ _ _ => wp_icmp_ne d_Md_reduce_32 rfl, fun _ _ _ _ _ _ _ => wp_bipush d_Md_reduce_35 (by decide), fun _ _ _ _ _ _ _ => wp_retI d_Md_reduce_37 rfl⟩
theorem B_Md_reduce_38 : (∀ (l1 l2 l3 : Value) (x : Nat) (st : List Value) (M : Mm) (Q : Option Value → Mm → Prop), wp F_Md_reduce 38 [.ref x, l1, l2, l3] st M Q = wp F_Md_reduce 39 [.ref x, l1, l2, l3] (.ref x :: st) M Q) ∧
  (∀ (l0 l2 l3 : Value) (x : Int32) (st : List Value) (M : Mm) (Q : Option Value → Mm → Prop), wp F_Md_reduce 39 [l0, .int x, l2, l3] st M Q = wp F_Md_reduce 40 [l0, .int x, l2, l3] (.int x :: st) M Q) ∧
  (∀ (l0 l1 l3 : Value) (x : Int32) (st : List Value) (M : Mm) (Q : Option Value → Mm → Prop), wp F_Md_reduce 40 [l0, l1, .int x, l3] st M Q = wp F_Md_reduce 41 [l0, l1, .int x, l3] (.int x :: st) M Q) ∧
  (∀ (l0 l1 l2 l3 : Value) (b : Nat) (p0 : Int32) (p1 : Int32) (M : Mm) (Q : Option Value → Mm → Prop), wp F_Md_reduce 41 [l0, l1, l2, l3] [.int p1, .int p0, .ref b] M Q = (sh M b = some (.inl 12) ∧ wp F_Md_toSlot 0 [.ref b, .int p0, .int p1, jk] [] M (fun r M1 => wp F_Md_reduce 44 [l0, l1, l2, l3] (r.toList ++ []) M1 Q))) ∧
  (∀ (l1 l2 l3 : Value) (x : Nat) (st : List Value) (M : Mm) (Q : Option Value → Mm → Prop), wp F_Md_reduce 44 [.ref x, l1, l2, l3] st M Q = wp F_Md_reduce 45 [.ref x, l1, l2, l3] (.ref x :: st) M Q) ∧
  (∀ (l1 l2 l3 : Value) (x : Nat) (st : List Value) (M : Mm) (Q : Option Value → Mm → Prop), wp F_Md_reduce 45 [.ref x, l1, l2, l3] st M Q = wp F_Md_reduce 46 [.ref x, l1, l2, l3] (.ref x :: st) M Q) ∧
  (∀ (l0 l1 l2 l3 : Value) (a : Nat) (st : List Value) (M : Mm) (Q : Option Value → Mm → Prop), wp F_Md_reduce 46 [l0, l1, l2, l3] (.ref a :: st) M Q = (sh M a = some (.inl 12) ∧ wp F_Md_reduce 49 [l0, l1, l2, l3] (.int (gI M a 31) :: st) M Q)) ∧
  (∀ (l0 l1 l2 l3 : Value) (st : List Value) (M : Mm) (Q : Option Value → Mm → Prop), wp F_Md_reduce 49 [l0, l1, l2, l3] st M Q = wp F_Md_reduce 52 [l0, l1, l2, l3] (.int 300 :: st) M Q) ∧
  (∀ (l0 l1 l2 l3 : Value) (x y : Int32) (st : List Value) (M : Mm) (Q : Option Value → Mm → Prop), wp F_Md_reduce 52 [l0, l1, l2, l3] (.int y :: .int x :: st) M Q = if y ≤ x then wp F_Md_reduce 62 [l0, l1, l2, l3] st M Q else wp F_Md_reduce 55 [l0, l1, l2, l3] st M Q) ∧
  (∀ (l1 l2 l3 : Value) (x : Nat) (st : List Value) (M : Mm) (Q : Option Value → Mm → Prop), wp F_Md_reduce 55 [.ref x, l1, l2, l3] st M Q = wp F_Md_reduce 56 [.ref x, l1, l2, l3] (.ref x :: st) M Q) ∧
  (∀ (l0 l1 l2 l3 : Value) (a : Nat) (st : List Value) (M : Mm) (Q : Option Value → Mm → Prop), wp F_Md_reduce 56 [l0, l1, l2, l3] (.ref a :: st) M Q = (sh M a = some (.inl 12) ∧ wp F_Md_reduce 59 [l0, l1, l2, l3] (.int (gI M a 31) :: st) M Q)) ∧
  (∀ (l0 l1 l2 l3 : Value) (st : List Value) (M : Mm) (Q : Option Value → Mm → Prop), wp F_Md_reduce 59 [l0, l1, l2, l3] st M Q = wp F_Md_reduce 65 [l0, l1, l2, l3] st M Q) := ⟨fun _ _ _ _ _ _ _ => wp_in d_Md_reduce_38 rfl rfl, fun _ _ _ _ _ _ _ => wp_in d_Md_reduce_39 rfl rfl, fun _ _ _ _ _ _ _ => wp_in d_Md_reduce_40 rfl rfl, fun _ _ _ _ _ _ _ _ _ => wp_callV d_Md_reduce_41 ml_12_280 rfl rfl rfl, fun _ _ _ _ _ _ _ => wp_in d_Md_reduce_44 rfl rfl, fun _ _ _ _ _ _ _ => wp_in d_Md_reduce_45 rfl rfl, fun _ _ _ _ _ _ _ _ => wp_getI d_Md_reduce_46 fl_12_206 rfl, fun _ _ _ _ _ _ _ => wp_sipush d_Md_reduce_49 (by decide), fun _ _ _ _ _ _ _ _ _ => wp_icmp_ge d_Md_reduce_52 rfl, fun _ _ _ _ _ _ _ => wp_in d_Md_reduce_55 rfl rfl, fun _ _ _ _ _ _ _ _ => wp_getI d_Md_reduce_56 fl_12_206 rfl, fun _ _ _ _ _ _ _ => wp_goto d_Md_reduce_59 rfl⟩
theorem B_Md_reduce_62 : (∀ (l0 l1 l2 l3 : Value) (st : List Value) (M : Mm) (Q : Option Value → Mm → Prop), wp F_Md_reduce 62 [l0, l1, l2, l3] st M Q = wp F_Md_reduce 65 [l0, l1, l2, l3] (.int 300 :: st) M Q) := fun _ _ _ _ _ _ _ => wp_sipush d_Md_reduce_62 (by decide)
theorem B_Md_reduce_65 : (∀ (l0 l1 l2 l3 : Value) (a : Nat) (x : Int32) (st : List Value) (M : Mm) (Q : Option Value → Mm → Prop), wp F_Md_reduce 65 [l0, l1, l2, l3] (.int x :: .ref a :: st) M Q = (sh M a = some (.inl 12) ∧ wp F_Md_reduce 68 [l0, l1, l2, l3] st (sI M a 36 x) Q)) ∧
  (∀ (l0 l1 l2 l3 : Value) (st : List Value) (M : Mm) (Q : Option Value → Mm → Prop), wp F_Md_reduce 68 [l0, l1, l2, l3] st M Q = wp F_Md_reduce 69 [l0, l1, l2, l3] (.int 0 :: st) M Q) ∧
  (∀ (l0 l1 l2 l3 : Value) (x : Int32) (st : List Value) (M : Mm) (Q : Option Value → Mm → Prop), wp F_Md_reduce 69 [l0, l1, l2, l3] (.int x :: st) M Q = wp F_Md_reduce 70 [l0, l1, clr l2, .int x] st M Q) := ⟨fun _ _ _ _ _ _ _ _ _ => wp_putI d_Md_reduce_65 fl_12_109 rfl rfl, fun _ _ _ _ _ _ _ => wp_iconst d_Md_reduce_68 (by decide), fun _ _ _ _ _ _ _ _ => wp_in d_Md_reduce_69 rfl rfl⟩
theorem B_Md_reduce_70 : (∀ (l0 l1 l2 : Value) (x : Int32) (st : List Value) (M : Mm) (Q : Option Value → Mm → Prop), wp F_Md_reduce 70 [l0, l1, l2, .int x] st M Q = wp F_Md_reduce 71 [l0, l1, l2, .int x] (.int x :: st) M Q) ∧
  (∀ (l1 l2 l3 : Value) (x : Nat) (st : List Value) (M : Mm) (Q : Option Value → Mm → Prop), wp F_Md_reduce 71 [.ref x, l1, l2, l3] st M Q = wp F_Md_reduce 72 [.ref x, l1, l2, l3] (.ref x :: st) M Q) ∧
  (∀ (l0 l1 l2 l3 : Value) (a : Nat) (st : List Value) (M : Mm) (Q : Option Value → Mm → Prop), wp F_Md_reduce 72 [l0, l1, l2, l3] (.ref a :: st) M Q = (sh M a = some (.inl 12) ∧ wp F_Md_reduce 75 [l0, l1, l2, l3] (.int (gI M a 36) :: st) M Q)) ∧
  (∀ (l0 l1 l2 l3 : Value) (x y : Int32) (st : List Value) (M : Mm) (Q : Option Value → Mm → Prop), wp F_Md_reduce 75 [l0, l1, l2, l3] (.int y :: .int x :: st) M Q = if y ≤ x then wp F_Md_reduce 108 [l0, l1, l2, l3] st M Q else wp F_Md_reduce 78 [l0, l1, l2, l3] st M Q) ∧
  (∀ (l1 l2 l3 : Value) (x : Nat) (st : List Value) (M : Mm) (Q : Option Value → Mm → Prop), wp F_Md_reduce 78 [.ref x, l1, l2, l3] st M Q = wp F_Md_reduce 79 [.ref x, l1, l2, l3] (.ref x :: st) M Q) ∧
  (∀ (l0 l1 l2 l3 : Value) (a : Nat) (st : List Value) (M : Mm) (Q : Option Value → Mm → Prop), wp F_Md_reduce 79 [l0, l1, l2, l3] (.ref a :: st) M Q = (sh M a = some (.inl 12) ∧ wp F_Md_reduce 82 [l0, l1, l2, l3] (va_rf (gR M a 32) :: st) M Q)) ∧
  (∀ (l0 l1 l2 : Value) (x : Int32) (st : List Value) (M : Mm) (Q : Option Value → Mm → Prop), wp F_Md_reduce 82 [l0, l1, l2, .int x] st M Q = wp F_Md_reduce 83 [l0, l1, l2, .int x] (.int x :: st) M Q) ∧
  (∀ (l1 l2 l3 : Value) (x : Nat) (st : List Value) (M : Mm) (Q : Option Value → Mm → Prop), wp F_Md_reduce 83 [.ref x, l1, l2, l3] st M Q = wp F_Md_reduce 84 [.ref x, l1, l2, l3] (.ref x :: st) M Q) ∧
  (∀ (l0 l1 l2 l3 : Value) (a : Nat) (st : List Value) (M : Mm) (Q : Option Value → Mm → Prop), wp F_Md_reduce 84 [l0, l1, l2, l3] (.ref a :: st) M Q = (sh M a = some (.inl 12) ∧ wp F_Md_reduce 87 [l0, l1, l2, l3] (va_rf (gR M a 34) :: st) M Q)) ∧
  (∀ (l0 l1 l2 : Value) (x : Int32) (st : List Value) (M : Mm) (Q : Option Value → Mm → Prop), wp F_Md_reduce 87 [l0, l1, l2, .int x] st M Q = wp F_Md_reduce 88 [l0, l1, l2, .int x] (.int x :: st) M Q) ∧
  (∀ (l0 l1 l2 l3 : Value) (a : Nat) (j : Int32) (st : List Value) (M : Mm) (Q : Option Value → Mm → Prop), wp F_Md_reduce 88 [l0, l1, l2, l3] (.int j :: .ref a :: st) M Q = (ixI M a j ∧ wp F_Md_reduce 89 [l0, l1, l2, l3] (.int (gI M a (cl j)) :: st) M Q)) ∧
  (∀ (l0 l1 l2 l3 : Value) (a : Nat) (j x : Int32) (st : List Value) (M : Mm) (Q : Option Value → Mm → Prop), wp F_Md_reduce 89 [l0, l1, l2, l3] (.int x :: .int j :: .ref a :: st) M Q = (ixW M a j ∧ wp F_Md_reduce 90 [l0, l1, l2, l3] st (sI M a (cl j) x) Q)) ∧
  (∀ (l1 l2 l3 : Value) (x : Nat) (st : List Value) (M : Mm) (Q : Option Value → Mm → Prop), wp F_Md_reduce 90 [.ref x, l1, l2, l3] st M Q = wp F_Md_reduce 91 [.ref x, l1, l2, l3] (.ref x :: st) M Q) ∧
  (∀ (l0 l1 l2 l3 : Value) (a : Nat) (st : List Value) (M : Mm) (Q : Option Value → Mm → Prop), wp F_Md_reduce 91 [l0, l1, l2, l3] (.ref a :: st) M Q = (sh M a = some (.inl 12) ∧ wp F_Md_reduce 94 [l0, l1, l2, l3] (va_rf (gR M a 33) :: st) M Q)) ∧
  (∀ (l0 l1 l2 : Value) (x : Int32) (st : List Value) (M : Mm) (Q : Option Value → Mm → Prop), wp F_Md_reduce 94 [l0, l1, l2, .int x] st M Q = wp F_Md_reduce 95 [l0, l1, l2, .int x] (.int x :: st) M Q) ∧
  (∀ (l1 l2 l3 : Value) (x : Nat) (st : List Value) (M : Mm) (Q : Option Value → Mm → Prop), wp F_Md_reduce 95 [.ref x, l1, l2, l3] st M Q = wp F_Md_reduce 96 [.ref x, l1, l2, l3] (.ref x :: st) M Q) ∧
  (∀ (l0 l1 l2 l3 : Value) (a : Nat) (st : List Value) (M : Mm) (Q : Option Value → Mm → Prop), wp F_Md_reduce 96 [l0, l1, l2, l3] (.ref a :: st) M Q = (sh M a = some (.inl 12) ∧ wp F_Md_reduce 99 [l0, l1, l2, l3] (va_rf (gR M a 35) :: st) M Q)) ∧
  (∀ (l0 l1 l2 : Value) (x : Int32) (st : List Value) (M : Mm) (Q : Option Value → Mm → Prop), wp F_Md_reduce 99 [l0, l1, l2, .int x] st M Q = wp F_Md_reduce 100 [l0, l1, l2, .int x] (.int x :: st) M Q) ∧
  (∀ (l0 l1 l2 l3 : Value) (a : Nat) (j : Int32) (st : List Value) (M : Mm) (Q : Option Value → Mm → Prop), wp F_Md_reduce 100 [l0, l1, l2, l3] (.int j :: .ref a :: st) M Q = (ixI M a j ∧ wp F_Md_reduce 101 [l0, l1, l2, l3] (.int (gI M a (cl j)) :: st) M Q)) ∧
  (∀ (l0 l1 l2 l3 : Value) (a : Nat) (j x : Int32) (st : List Value) (M : Mm) (Q : Option Value → Mm → Prop), wp F_Md_reduce 101 [l0, l1, l2, l3] (.int x :: .int j :: .ref a :: st) M Q = (ixW M a j ∧ wp F_Md_reduce 102 [l0, l1, l2, l3] st (sI M a (cl j) x) Q)) ∧
  (∀ (l0 l1 l2 : Value) (x : Int32) (st : List Value) (M : Mm) (Q : Option Value → Mm → Prop), wp F_Md_reduce 102 [l0, l1, l2, .int x] st M Q = wp F_Md_reduce 105 [l0, l1, clr l2, .int (x + 1)] st M Q) := ⟨fun _ _ _ _ _ _ _ => wp_in d_Md_reduce_70 rfl rfl, fun _ _ _ _ _ _ _ => wp_in d_Md_reduce_71 rfl rfl, fun _ _ _ _ _ _ _ _ => wp_getI d_Md_reduce_72 fl_12_109 rfl, fun _ _ _ _ _ _ _ _ _ => wp_icmp_ge d_Md_reduce_75 rfl, fun _ _ _ _ _ _ _ => wp_in d_Md_reduce_78 rfl rfl, fun _ _ _ _ _ _ _ _ => wp_getA d_Md_reduce_79 fl_12_163 rfl, fun _ _ _ _ _ _ _ => wp_in d_Md_reduce_82 rfl rfl, fun _ _ _ _ _ _ _ => wp_in d_Md_reduce_83 rfl rfl, fun _ _ _ _ _ _ _ _ => wp_getA d_Md_reduce_84 fl_12_169 rfl, fun _ _ _ _ _ _ _ => wp_in d_Md_reduce_87 rfl rfl, fun _ _ _ _ _ _ _ _ _ => wp_iald d_Md_reduce_88, fun _ _ _ _ _ _ _ _ _ _ => wp_iast d_Md_reduce_89, fun _ _ _ _ _ _ _ => wp_in d_Md_reduce_90 rfl rfl, fun _ _ _ _ _ _ _ _ => wp_getA d_Md_reduce_91 fl_12_166 rfl, fun _ _ _ _ _ _ _ => wp_in d_Md_reduce_94 rfl rfl, fun _ _ _ _ _ _ _ => wp_in d_Md_reduce_95 rfl rfl, fun _ _ _ _ _ _ _ _ => wp_getA d_Md_reduce_96 fl_12_172 rfl, fun _ _ _ _ _ _ _ => wp_in d_Md_reduce_99 rfl rfl, fun _ _ _ _ _ _ _ _ _ => wp_iald d_Md_reduce_100, fun _ _ _ _ _ _ _ _ _ _ => wp_iast d_Md_reduce_101, fun _ _ _ _ _ _ _ => wp_iinc d_Md_reduce_102 (by decide) rfl rfl⟩
theorem B_Md_reduce_108 : (∀ (l1 l2 l3 : Value) (x : Nat) (st : List Value) (M : Mm) (Q : Option Value → Mm → Prop), wp F_Md_reduce 108 [.ref x, l1, l2, l3] st M Q = wp F_Md_reduce 109 [.ref x, l1, l2, l3] (.ref x :: st) M Q) ∧
  (∀ (l0 l1 l2 l3 : Value) (a : Nat) (st : List Value) (M : Mm) (Q : Option Value → Mm → Prop), wp F_Md_reduce 109 [l0, l1, l2, l3] (.ref a :: st) M Q = (sh M a = some (.inl 12) ∧ wp F_Md_reduce 112 [l0, l1, l2, l3] (.int (gI M a 31) :: st) M Q)) ∧
  (∀ (l0 l1 l2 l3 : Value) (v : Int32) (M : Mm) (Q : Option Value → Mm → Prop), wp F_Md_reduce 112 [l0, l1, l2, l3] [.int v] M Q = Q (some (.int v)) M) := ⟨fun _ _ _ _ _ _ _ => wp_in d_Md_reduce_108 rfl rfl, fun _ _ _ _ _ _ _ _ => wp_getI d_Md_reduce_109 fl_12_206 rfl, fun _ _ _ _ _ _ _ => wp_retI d_Md_reduce_112 rfl⟩
theorem G_Md_reduce_105 (l0 l1 l2 l3 : Value) (st : List Value) (M : Mm) (Q : Option Value → Mm → Prop) : wp F_Md_reduce 105 [l0, l1, l2, l3] st M Q = wp F_Md_reduce 70 [l0, l1, l2, l3] st M Q := wp_goto d_Md_reduce_105 rfl
theorem d_Md_step_0 : decode (fnB F_Md_step) 0 = .ok (.aload_n 0, 1) := by decide +kernel
theorem d_Md_step_1 : decode (fnB F_Md_step) 1 = .ok (.iconst 0, 1) := by decide +kernel
theorem d_Md_step_2 : decode (fnB F_Md_step) 2 = .ok (.putfield 1, 3) := by decide +kernel
theorem d_Md_step_5 : decode (fnB F_Md_step) 5 = .ok (.iload_n 2, 1) := by decide +kernel
theorem d_Md_step_6 : decode (fnB F_Md_step) 6 = .ok (.i2l, 1) := by decide +kernel
theorem d_Md_step_7 : decode (fnB F_Md_step) 7 = .ok (.lconst 0, 1) := by decide +kernel
theorem d_Md_step_8 : decode (fnB F_Md_step) 8 = .ok (.lconst 1, 1) := by decide +kernel
theorem d_Md_step_9 : decode (fnB F_Md_step) 9 = .ok (.invokestatic 9, 3) := by decide +kernel
theorem d_Md_step_12 : decode (fnB F_Md_step) 12 = .ok (.ifCond .ne 6, 3) := by decide +kernel
theorem d_Md_step_15 : decode (fnB F_Md_step) 15 = .ok (.bipush (-2), 2) := by decide +kernel
theorem d_Md_step_17 : decode (fnB F_Md_step) 17 = .ok (.ireturn, 1) := by decide +kernel
theorem d_Md_step_18 : decode (fnB F_Md_step) 18 = .ok (.iload_n 1, 1) := by decide +kernel
theorem d_Md_step_19 : decode (fnB F_Md_step) 19 = .ok (.i2l, 1) := by decide +kernel
theorem d_Md_step_20 : decode (fnB F_Md_step) 20 = .ok (.lconst 0, 1) := by decide +kernel
theorem d_Md_step_21 : decode (fnB F_Md_step) 21 = .ok (.aload_n 0, 1) := by decide +kernel
theorem d_Md_step_22 : decode (fnB F_Md_step) 22 = .ok (.getfield 109, 3) := by decide +kernel
theorem d_Md_step_25 : decode (fnB F_Md_step) 25 = .ok (.iconst 1, 1) := by decide +kernel
theorem d_Md_step_26 : decode (fnB F_Md_step) 26 = .ok (.isub, 1) := by decide +kernel
theorem d_Md_step_27 : decode (fnB F_Md_step) 27 = .ok (.i2l, 1) := by decide +kernel
theorem d_Md_step_28 : decode (fnB F_Md_step) 28 = .ok (.invokestatic 9, 3) := by decide +kernel
theorem d_Md_step_31 : decode (fnB F_Md_step) 31 = .ok (.ifCond .ne 7, 3) := by decide +kernel
theorem d_Md_step_34 : decode (fnB F_Md_step) 34 = .ok (.iconst (-1), 1) := by decide +kernel
theorem d_Md_step_35 : decode (fnB F_Md_step) 35 = .ok (.goto 22, 3) := by decide +kernel
theorem d_Md_step_38 : decode (fnB F_Md_step) 38 = .ok (.iload_n 2, 1) := by decide +kernel
theorem d_Md_step_39 : decode (fnB F_Md_step) 39 = .ok (.ifCond .ne 12, 3) := by decide +kernel
theorem d_Md_step_42 : decode (fnB F_Md_step) 42 = .ok (.aload_n 0, 1) := by decide +kernel
theorem d_Md_step_43 : decode (fnB F_Md_step) 43 = .ok (.getfield 163, 3) := by decide +kernel
theorem d_Md_step_46 : decode (fnB F_Md_step) 46 = .ok (.iload_n 1, 1) := by decide +kernel
theorem d_Md_step_47 : decode (fnB F_Md_step) 47 = .ok (.iaload, 1) := by decide +kernel
theorem d_Md_step_48 : decode (fnB F_Md_step) 48 = .ok (.goto 9, 3) := by decide +kernel
theorem d_Md_step_51 : decode (fnB F_Md_step) 51 = .ok (.aload_n 0, 1) := by decide +kernel
theorem d_Md_step_52 : decode (fnB F_Md_step) 52 = .ok (.getfield 166, 3) := by decide +kernel
theorem d_Md_step_55 : decode (fnB F_Md_step) 55 = .ok (.iload_n 1, 1) := by decide +kernel
theorem d_Md_step_56 : decode (fnB F_Md_step) 56 = .ok (.iaload, 1) := by decide +kernel
theorem d_Md_step_57 : decode (fnB F_Md_step) 57 = .ok (.ireturn, 1) := by decide +kernel
theorem B_Md_step_0 : (∀ (l1 l2 : Value) (x : Nat) (st : List Value) (M : Mm) (Q : Option Value → Mm → Prop), wp F_Md_step 0 [.ref x, l1, l2] st M Q = wp F_Md_step 1 [.ref x, l1, l2] (.ref x :: st) M Q) ∧
  (∀ (l0 l1 l2 : Value) (st : List Value) (M : Mm) (Q : Option Value → Mm → Prop), wp F_Md_step 1 [l0, l1, l2] st M Q = wp F_Md_step 2 [l0, l1, l2] (.int 0 :: st) M Q) ∧
  (∀ (l0 l1 l2 : Value) (a : Nat) (x : Int32) (st : List Value) (M : Mm) (Q : Option Value → Mm → Prop), wp F_Md_step 2 [l0, l1, l2] (.int x :: .ref a :: st) M Q = (sh M a = some (.inl 12) ∧ wp F_Md_step 5 [l0, l1, l2] st (sI M a 0 x) Q)) ∧
  (∀ (l0 l1 : Value) (x : Int32) (st : List Value) (M : Mm) (Q : Option Value → Mm → Prop), wp F_Md_step 5 [l0, l1, .int x] st M Q = wp F_Md_step 6 [l0, l1, .int x] (.int x :: st) M Q) ∧
  (∀ (l0 l1 l2 : Value) (x : Int32) (st : List Value) (M : Mm) (Q : Option Value → Mm → Prop), wp F_Md_step 6 [l0, l1, l2] (.int x :: st) M Q = wp F_Md_step 7 [l0, l1, l2] (.long x.toInt64 :: st) M Q) ∧
  (∀ (l0 l1 l2 : Value) (st : List Value) (M : Mm) (Q : Option Value → Mm → Prop), wp F_Md_step 7 [l0, l1, l2] st M Q = wp F_Md_step 8 [l0, l1, l2] (.long 0 :: st) M Q) ∧
  (∀ (l0 l1 l2 : Value) (st : List Value) (M : Mm) (Q : Option Value → Mm → Prop), wp F_Md_step 8 [l0, l1, l2] st M Q = wp F_Md_step 9 [l0, l1, l2] (.long 1 :: st) M Q) ∧
  (∀ (l0 l1 l2 : Value) (p0 : Int64) (p1 : Int64) (p2 : Int64) (M : Mm) (Q : Option Value → Mm → Prop), wp F_Md_step 9 [l0, l1, l2] [.long p2, .long p1, .long p0] M Q = wp F_Md_in 0 [.long p0, jk, .long p1, jk, .long p2, jk] [] M (fun r M1 => wp F_Md_step 12 [l0, l1, l2] (r.toList ++ []) M1 Q)) ∧
  (∀ (l0 l1 l2 : Value) (x : Int32) (st : List Value) (M : Mm) (Q : Option Value → Mm → Prop), wp F_Md_step 12 [l0, l1, l2] (.int x :: st) M Q = if x = 0 then wp F_Md_step 15 [l0, l1, l2] st M Q else wp F_Md_step 18 [l0, l1, l2] st M Q) ∧
  (∀ (l0 l1 l2 : Value) (st : List Value) (M : Mm) (Q : Option Value → Mm → Prop), wp F_Md_step 15 [l0, l1, l2] st M Q = wp F_Md_step 17 [l0, l1, l2] (.int (-2) :: st) M Q) ∧
  (∀ (l0 l1 l2 : Value) (v : Int32) (M : Mm) (Q : Option Value → Mm → Prop), wp F_Md_step 17 [l0, l1, l2] [.int v] M Q = Q (some (.int v)) M) := ⟨fun _ _ _ _ _ _ => wp_in d_Md_step_0 rfl rfl, fun _ _ _ _ _ _ => wp_iconst d_Md_step_1 (by decide), fun _ _ _ _ _ _ _ _ => wp_putI d_Md_step_2 fl_12_1 rfl rfl, fun _ _ _ _ _ _ => wp_in d_Md_step_5 rfl rfl, fun _ _ _ _ _ _ _ => wp_in d_Md_step_6 rfl rfl, fun _ _ _ _ _ _ => wp_lconst d_Md_step_7 (by decide), fun _ _ _ _ _ _ => wp_lconst d_Md_step_8 (by decide), fun _ _ _ _ _ _ _ _ => wp_callS d_Md_step_9 ml_12_9 (Nat.le_of_ble_eq_true rfl) rfl rfl rfl, fun _ _ _ _ _ _ _ => wp_if_ne d_Md_step_12 rfl, fun _ _ _ _ _ _ => wp_bipush d_Md_step_15 (by decide), fun _ _ _ _ _ _ => wp_retI d_Md_step_17 rfl⟩
theorem B_Md_step_18 : (∀ (l0 l2 : Value) (x : Int32) (st : List Value) (M : Mm) (Q : Option Value → Mm → Prop), wp F_Md_step 18 [l0, .int x, l2] st M Q = wp F_Md_step 19 [l0, .int x, l2] (.int x :: st) M Q) ∧
  (∀ (l0 l1 l2 : Value) (x : Int32) (st : List Value) (M : Mm) (Q : Option Value → Mm → Prop), wp F_Md_step 19 [l0, l1, l2] (.int x :: st) M Q = wp F_Md_step 20 [l0, l1, l2] (.long x.toInt64 :: st) M Q) ∧
  (∀ (l0 l1 l2 : Value) (st : List Value) (M : Mm) (Q : Option Value → Mm → Prop), wp F_Md_step 20 [l0, l1, l2] st M Q = wp F_Md_step 21 [l0, l1, l2] (.long 0 :: st) M Q) ∧
  (∀ (l1 l2 : Value) (x : Nat) (st : List Value) (M : Mm) (Q : Option Value → Mm → Prop), wp F_Md_step 21 [.ref x, l1, l2] st M Q = wp F_Md_step 22 [.ref x, l1, l2] (.ref x :: st) M Q) ∧
  (∀ (l0 l1 l2 : Value) (a : Nat) (st : List Value) (M : Mm) (Q : Option Value → Mm → Prop), wp F_Md_step 22 [l0, l1, l2] (.ref a :: st) M Q = (sh M a = some (.inl 12) ∧ wp F_Md_step 25 [l0, l1, l2] (.int (gI M a 36) :: st) M Q)) ∧
  (∀ (l0 l1 l2 : Value) (st : List Value) (M : Mm) (Q : Option Value → Mm → Prop), wp F_Md_step 25 [l0, l1, l2] st M Q = wp F_Md_step 26 [l0, l1, l2] (.int 1 :: st) M Q) ∧
  (∀ (l0 l1 l2 : Value) (x y : Int32) (st : List Value) (M : Mm) (Q : Option Value → Mm → Prop), wp F_Md_step 26 [l0, l1, l2] (.int y :: .int x :: st) M Q = wp F_Md_step 27 [l0, l1, l2] (.int (x - y) :: st) M Q) ∧
  (∀ (l0 l1 l2 : Value) (x : Int32) (st : List Value) (M : Mm) (Q : Option Value → Mm → Prop), wp F_Md_step 27 [l0, l1, l2] (.int x :: st) M Q = wp F_Md_step 28 [l0, l1, l2] (.long x.toInt64 :: st) M Q) ∧
  (∀ (l0 l1 l2 : Value) (p0 : Int64) (p1 : Int64) (p2 : Int64) (M : Mm) (Q : Option Value → Mm → Prop), wp F_Md_step 28 [l0, l1, l2] [.long p2, .long p1, .long p0] M Q = wp F_Md_in 0 [.long p0, jk, .long p1, jk, .long p2, jk] [] M (fun r M1 => wp F_Md_step 31 [l0, l1, l2] (r.toList ++ []) M1 Q)) ∧
  (∀ (l0 l1 l2 : Value) (x : Int32) (st : List Value) (M : Mm) (Q : Option Value → Mm → Prop), wp F_Md_step 31 [l0, l1, l2] (.int x :: st) M Q = if x = 0 then wp F_Md_step 34 [l0, l1, l2] st M Q else wp F_Md_step 38 [l0, l1, l2] st M Q) ∧
  (∀ (l0 l1 l2 : Value) (st : List Value) (M : Mm) (Q : Option Value → Mm → Prop), wp F_Md_step 34 [l0, l1, l2] st M Q = wp F_Md_step 35 [l0, l1, l2] (.int (-1) :: st) M Q) ∧
  (∀ (l0 l1 l2 : Value) (st : List Value) (M : Mm) (Q : Option Value → Mm → Prop), wp F_Md_step 35 [l0, l1, l2] st M Q = wp F_Md_step 57 [l0, l1, l2] st M Q) := ⟨fun _ _ _ _ _ _ => wp_in d_Md_step_18 rfl rfl, fun _ _ _ _ _ _ _ => wp_in d_Md_step_19 rfl rfl, fun _ _ _ _ _ _ => wp_lconst d_Md_step_20 (by decide), fun _ _ _ _ _ _ => wp_in d_Md_step_21 rfl rfl, fun _ _ _ _ _ _ _ => wp_getI d_Md_step_22 fl_12_109 rfl, fun _ _ _ _ _ _ => wp_iconst d_Md_step_25 (by decide), fun _ _ _ _ _ _ _ _ => wp_in d_Md_step_26 rfl rfl, fun _ _ _ _ _ _ _ => wp_in d_Md_step_27 rfl rfl, fun _ _ _ _ _ _ _ _ => wp_callS d_Md_step_28 ml_12_9 (Nat.le_of_ble_eq_true rfl) rfl rfl rfl, fun _ _ _ _ _ _ _ => wp_if_ne d_Md_step_31 rfl, fun _ _ _ _ _ _ => wp_iconst d_Md_step_34 (by decide), fun _ _ _ _ _ _ => wp_goto d_Md_step_35 rfl⟩
theorem B_Md_step_38 : (∀ (l0 l1 : Value) (x : Int32) (st : List Value) (M : Mm) (Q : Option Value → Mm → Prop), wp F_Md_step 38 [l0, l1, .int x] st M Q = wp F_Md_step 39 [l0, l1, .int x] (.int x :: st) M Q) ∧
  (∀ (l0 l1 l2 : Value) (x : Int32) (st : List Value) (M : Mm) (Q : Option Value → Mm → Prop), wp F_Md_step 39 [l0, l1, l2] (.int x :: st) M Q = if x = 0 then wp F_Md_step 42 [l0, l1, l2] st M Q else wp F_Md_step 51 [l0, l1, l2] st M Q) ∧
  (∀ (l1 l2 : Value) (x : Nat) (st : List Value) (M : Mm) (Q : Option Value → Mm → Prop), wp F_Md_step 42 [.ref x, l1, l2] st M Q = wp F_Md_step 43 [.ref x, l1, l2] (.ref x :: st) M Q) ∧
  (∀ (l0 l1 l2 : Value) (a : Nat) (st : List Value) (M : Mm) (Q : Option Value → Mm → Prop), wp F_Md_step 43 [l0, l1, l2] (.ref a :: st) M Q = (sh M a = some (.inl 12) ∧ wp F_Md_step 46 [l0, l1, l2] (va_rf (gR M a 32) :: st) M Q)) ∧
  (∀ (l0 l2 : Value) (x : Int32) (st : List Value) (M : Mm) (Q : Option Value → Mm → Prop), wp F_Md_step 46 [l0, .int x, l2] st M Q = wp F_Md_step 47 [l0, .int x, l2] (.int x :: st) M Q) ∧
  (∀ (l0 l1 l2 : Value) (a : Nat) (j : Int32) (st : List Value) (M : Mm) (Q : Option Value → Mm → Prop), wp F_Md_step 47 [l0, l1, l2] (.int j :: .ref a :: st) M Q = (ixI M a j ∧ wp F_Md_step 48 [l0, l1, l2] (.int (gI M a (cl j)) :: st) M Q)) ∧
  (∀ (l0 l1 l2 : Value) (st : List Value) (M : Mm) (Q : Option Value → Mm → Prop), wp F_Md_step 48 [l0, l1, l2] st M Q = wp F_Md_step 57 [l0, l1, l2] st M Q) := ⟨fun _ _ _ _ _ _ => wp_in d_Md_step_38 rfl rfl, fun _ _ _ _ _ _ _ => wp_if_ne d_Md_step_39 rfl, fun _ _ _ _ _ _ => wp_in d_Md_step_42 rfl rfl, fun _ _ _ _ _ _ _ => wp_getA d_Md_step_43 fl_12_163 rfl, fun _ _ _ _ _ _ => wp_in d_Md_step_46 rfl rfl, fun _ _ _ _ _ _ _ _ => wp_iald d_Md_step_47, fun _ _ _ _ _ _ => wp_goto d_Md_step_48 rfl⟩
theorem B_Md_step_51 : (∀ (l1 l2 : Value) (x : Nat) (st : List Value) (M : Mm) (Q : Option Value → Mm → Prop), wp F_Md_step 51 [.ref x, l1, l2] st M Q = wp F_Md_step 52 [.ref x, l1, l2] (.ref x :: st) M Q) ∧
  (∀ (l0 l1 l2 : Value) (a : Nat) (st : List Value) (M : Mm) (Q : Option Value → Mm → Prop), wp F_Md_step 52 [l0, l1, l2] (.ref a :: st) M Q = (sh M a = some (.inl 12) ∧ wp F_Md_step 55 [l0, l1, l2] (va_rf (gR M a 33) :: st) M Q)) ∧
  (∀ (l0 l2 : Value) (x : Int32) (st : List Value) (M : Mm) (Q : Option Value → Mm → Prop), wp F_Md_step 55 [l0, .int x, l2] st M Q = wp F_Md_step 56 [l0, .int x, l2] (.int x :: st) M Q) ∧
  (∀ (l0 l1 l2 : Value) (a : Nat) (j : Int32) (st : List Value) (M : Mm) (Q : Option Value → Mm → Prop), wp F_Md_step 56 [l0, l1, l2] (.int j :: .ref a :: st) M Q = (ixI M a j ∧ wp F_Md_step 57 [l0, l1, l2] (.int (gI M a (cl j)) :: st) M Q)) := ⟨fun _ _ _ _ _ _ => wp_in d_Md_step_51 rfl rfl, fun _ _ _ _ _ _ _ => wp_getA d_Md_step_52 fl_12_166 rfl, fun _ _ _ _ _ _ => wp_in d_Md_step_55 rfl rfl, fun _ _ _ _ _ _ _ _ => wp_iald d_Md_step_56⟩
theorem B_Md_step_57 : (∀ (l0 l1 l2 : Value) (v : Int32) (M : Mm) (Q : Option Value → Mm → Prop), wp F_Md_step 57 [l0, l1, l2] [.int v] M Q = Q (some (.int v)) M) := fun _ _ _ _ _ _ => wp_retI d_Md_step_57 rfl
