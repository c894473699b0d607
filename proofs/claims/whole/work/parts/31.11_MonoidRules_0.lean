theorem d_Mr_init_0 : decode (fnB F_Mr_init) 0 = .ok (.aload_n 0, 1) := by decide +kernel
theorem d_Mr_init_1 : decode (fnB F_Mr_init) 1 = .ok (.invokespecial 3, 3) := by decide +kernel
theorem d_Mr_init_4 : decode (fnB F_Mr_init) 4 = .ok (.aload_n 0, 1) := by decide +kernel
theorem d_Mr_init_5 : decode (fnB F_Mr_init) 5 = .ok (.sipush 600, 3) := by decide +kernel
theorem d_Mr_init_8 : decode (fnB F_Mr_init) 8 = .ok (.newarray .byte, 2) := by decide +kernel
theorem d_Mr_init_10 : decode (fnB F_Mr_init) 10 = .ok (.putfield 9, 3) := by decide +kernel
theorem d_Mr_init_13 : decode (fnB F_Mr_init) 13 = .ok (.aload_n 0, 1) := by decide +kernel
theorem d_Mr_init_14 : decode (fnB F_Mr_init) 14 = .ok (.bipush 26, 2) := by decide +kernel
theorem d_Mr_init_16 : decode (fnB F_Mr_init) 16 = .ok (.newarray .int, 2) := by decide +kernel
theorem d_Mr_init_18 : decode (fnB F_Mr_init) 18 = .ok (.putfield 13, 3) := by decide +kernel
theorem d_Mr_init_21 : decode (fnB F_Mr_init) 21 = .ok (.aload_n 0, 1) := by decide +kernel
theorem d_Mr_init_22 : decode (fnB F_Mr_init) 22 = .ok (.new 17, 3) := by decide +kernel
theorem d_Mr_init_25 : decode (fnB F_Mr_init) 25 = .ok (.dup, 1) := by decide +kernel
theorem d_Mr_init_26 : decode (fnB F_Mr_init) 26 = .ok (.invokespecial 19, 3) := by decide +kernel
theorem d_Mr_init_29 : decode (fnB F_Mr_init) 29 = .ok (.putfield 20, 3) := by decide +kernel
theorem d_Mr_init_32 : decode (fnB F_Mr_init) 32 = .ok (.aload_n 0, 1) := by decide +kernel
theorem d_Mr_init_33 : decode (fnB F_Mr_init) 33 = .ok (.bipush 8, 2) := by decide +kernel
theorem d_Mr_init_35 : decode (fnB F_Mr_init) 35 = .ok (.anewarray 24, 3) := by decide +kernel
theorem d_Mr_init_38 : decode (fnB F_Mr_init) 38 = .ok (.putfield 26, 3) := by decide +kernel
theorem d_Mr_init_41 : decode (fnB F_Mr_init) 41 = .ok (.aload_n 0, 1) := by decide +kernel
theorem d_Mr_init_42 : decode (fnB F_Mr_init) 42 = .ok (.new 30, 3) := by decide +kernel
theorem d_Mr_init_45 : decode (fnB F_Mr_init) 45 = .ok (.dup, 1) := by decide +kernel
theorem d_Mr_init_46 : decode (fnB F_Mr_init) 46 = .ok (.invokespecial 32, 3) := by decide +kernel
theorem d_Mr_init_49 : decode (fnB F_Mr_init) 49 = .ok (.putfield 33, 3) := by decide +kernel
theorem d_Mr_init_52 : decode (fnB F_Mr_init) 52 = .ok (.aload_n 0, 1) := by decide +kernel
theorem d_Mr_init_53 : decode (fnB F_Mr_init) 53 = .ok (.new 37, 3) := by decide +kernel
theorem d_Mr_init_56 : decode (fnB F_Mr_init) 56 = .ok (.dup, 1) := by decide +kernel
theorem d_Mr_init_57 : decode (fnB F_Mr_init) 57 = .ok (.invokespecial 39, 3) := by decide +kernel
theorem d_Mr_init_60 : decode (fnB F_Mr_init) 60 = .ok (.putfield 40, 3) := by decide +kernel
theorem d_Mr_init_63 : decode (fnB F_Mr_init) 63 = .ok (.aload_n 0, 1) := by decide +kernel
theorem d_Mr_init_64 : decode (fnB F_Mr_init) 64 = .ok (.new 44, 3) := by decide +kernel
theorem d_Mr_init_67 : decode (fnB F_Mr_init) 67 = .ok (.dup, 1) := by decide +kernel
theorem d_Mr_init_68 : decode (fnB F_Mr_init) 68 = .ok (.invokespecial 46, 3) := by decide +kernel
theorem d_Mr_init_71 : decode (fnB F_Mr_init) 71 = .ok (.putfield 47, 3) := by decide +kernel
theorem d_Mr_init_74 : decode (fnB F_Mr_init) 74 = .ok (.aload_n 0, 1) := by decide +kernel
theorem d_Mr_init_75 : decode (fnB F_Mr_init) 75 = .ok (.new 51, 3) := by decide +kernel
theorem d_Mr_init_78 : decode (fnB F_Mr_init) 78 = .ok (.dup, 1) := by decide +kernel
theorem d_Mr_init_79 : decode (fnB F_Mr_init) 79 = .ok (.aload_n 0, 1) := by decide +kernel
theorem d_Mr_init_80 : decode (fnB F_Mr_init) 80 = .ok (.getfield 33, 3) := by decide +kernel
theorem d_Mr_init_83 : decode (fnB F_Mr_init) 83 = .ok (.aload_n 0, 1) := by decide +kernel
theorem d_Mr_init_84 : decode (fnB F_Mr_init) 84 = .ok (.getfield 47, 3) := by decide +kernel
theorem d_Mr_init_87 : decode (fnB F_Mr_init) 87 = .ok (.invokespecial 53, 3) := by decide +kernel
theorem d_Mr_init_90 : decode (fnB F_Mr_init) 90 = .ok (.putfield 56, 3) := by decide +kernel
theorem d_Mr_init_93 : decode (fnB F_Mr_init) 93 = .ok (.aload_n 0, 1) := by decide +kernel
theorem d_Mr_init_94 : decode (fnB F_Mr_init) 94 = .ok (.new 60, 3) := by decide +kernel
theorem d_Mr_init_97 : decode (fnB F_Mr_init) 97 = .ok (.dup, 1) := by decide +kernel
theorem d_Mr_init_98 : decode (fnB F_Mr_init) 98 = .ok (.aload_n 0, 1) := by decide +kernel
theorem d_Mr_init_99 : decode (fnB F_Mr_init) 99 = .ok (.getfield 33, 3) := by decide +kernel
theorem d_Mr_init_102 : decode (fnB F_Mr_init) 102 = .ok (.aload_n 0, 1) := by decide +kernel
theorem d_Mr_init_103 : decode (fnB F_Mr_init) 103 = .ok (.getfield 40, 3) := by decide +kernel
theorem d_Mr_init_106 : decode (fnB F_Mr_init) 106 = .ok (.aload_n 0, 1) := by decide +kernel
theorem d_Mr_init_107 : decode (fnB F_Mr_init) 107 = .ok (.getfield 56, 3) := by decide +kernel
theorem d_Mr_init_110 : decode (fnB F_Mr_init) 110 = .ok (.invokespecial 62, 3) := by decide +kernel
theorem d_Mr_init_113 : decode (fnB F_Mr_init) 113 = .ok (.putfield 65, 3) := by decide +kernel
theorem d_Mr_init_116 : decode (fnB F_Mr_init) 116 = .ok (.aload_n 0, 1) := by decide +kernel
theorem d_Mr_init_117 : decode (fnB F_Mr_init) 117 = .ok (.new 69, 3) := by decide +kernel
theorem d_Mr_init_120 : decode (fnB F_Mr_init) 120 = .ok (.dup, 1) := by decide +kernel
theorem d_Mr_init_121 : decode (fnB F_Mr_init) 121 = .ok (.aload_n 0, 1) := by decide +kernel
theorem d_Mr_init_122 : decode (fnB F_Mr_init) 122 = .ok (.getfield 33, 3) := by decide +kernel
theorem d_Mr_init_125 : decode (fnB F_Mr_init) 125 = .ok (.aload_n 0, 1) := by decide +kernel
theorem d_Mr_init_126 : decode (fnB F_Mr_init) 126 = .ok (.getfield 56, 3) := by decide +kernel
theorem d_Mr_init_129 : decode (fnB F_Mr_init) 129 = .ok (.invokespecial 71, 3) := by decide +kernel
theorem d_Mr_init_132 : decode (fnB F_Mr_init) 132 = .ok (.putfield 74, 3) := by decide +kernel
theorem d_Mr_init_135 : decode (fnB F_Mr_init) 135 = .ok (.aload_n 0, 1) := by decide +kernel
theorem d_Mr_init_136 : decode (fnB F_Mr_init) 136 = .ok (.new 78, 3) := by decide +kernel
theorem d_Mr_init_139 : decode (fnB F_Mr_init) 139 = .ok (.dup, 1) := by decide +kernel
theorem d_Mr_init_140 : decode (fnB F_Mr_init) 140 = .ok (.aload_n 0, 1) := by decide +kernel
theorem d_Mr_init_141 : decode (fnB F_Mr_init) 141 = .ok (.getfield 33, 3) := by decide +kernel
theorem d_Mr_init_144 : decode (fnB F_Mr_init) 144 = .ok (.aload_n 0, 1) := by decide +kernel
theorem d_Mr_init_145 : decode (fnB F_Mr_init) 145 = .ok (.getfield 47, 3) := by decide +kernel
theorem d_Mr_init_148 : decode (fnB F_Mr_init) 148 = .ok (.invokespecial 80, 3) := by decide +kernel
theorem d_Mr_init_151 : decode (fnB F_Mr_init) 151 = .ok (.putfield 81, 3) := by decide +kernel
theorem d_Mr_init_154 : decode (fnB F_Mr_init) 154 = .ok (.aload_n 0, 1) := by decide +kernel
theorem d_Mr_init_155 : decode (fnB F_Mr_init) 155 = .ok (.sipush 300, 3) := by decide +kernel
theorem d_Mr_init_158 : decode (fnB F_Mr_init) 158 = .ok (.newarray .int, 2) := by decide +kernel
theorem d_Mr_init_160 : decode (fnB F_Mr_init) 160 = .ok (.putfield 85, 3) := by decide +kernel
theorem d_Mr_init_163 : decode (fnB F_Mr_init) 163 = .ok (.aload_n 0, 1) := by decide +kernel
theorem d_Mr_init_164 : decode (fnB F_Mr_init) 164 = .ok (.sipush 300, 3) := by decide +kernel
theorem d_Mr_init_167 : decode (fnB F_Mr_init) 167 = .ok (.newarray .int, 2) := by decide +kernel
theorem d_Mr_init_169 : decode (fnB F_Mr_init) 169 = .ok (.putfield 88, 3) := by decide +kernel
theorem d_Mr_init_172 : decode (fnB F_Mr_init) 172 = .ok (.aload_n 0, 1) := by decide +kernel
theorem d_Mr_init_173 : decode (fnB F_Mr_init) 173 = .ok (.new 24, 3) := by decide +kernel
theorem d_Mr_init_176 : decode (fnB F_Mr_init) 176 = .ok (.dup, 1) := by decide +kernel
theorem d_Mr_init_177 : decode (fnB F_Mr_init) 177 = .ok (.bipush 120, 2) := by decide +kernel
theorem d_Mr_init_179 : decode (fnB F_Mr_init) 179 = .ok (.invokespecial 91, 3) := by decide +kernel
theorem d_Mr_init_182 : decode (fnB F_Mr_init) 182 = .ok (.putfield 94, 3) := by decide +kernel
theorem d_Mr_init_185 : decode (fnB F_Mr_init) 185 = .ok (.aload_n 0, 1) := by decide +kernel
theorem d_Mr_init_186 : decode (fnB F_Mr_init) 186 = .ok (.new 24, 3) := by decide +kernel
theorem d_Mr_init_189 : decode (fnB F_Mr_init) 189 = .ok (.dup, 1) := by decide +kernel
theorem d_Mr_init_190 : decode (fnB F_Mr_init) 190 = .ok (.bipush 120, 2) := by decide +kernel
theorem d_Mr_init_192 : decode (fnB F_Mr_init) 192 = .ok (.invokespecial 91, 3) := by decide +kernel
theorem d_Mr_init_195 : decode (fnB F_Mr_init) 195 = .ok (.putfield 98, 3) := by decide +kernel
theorem d_Mr_init_198 : decode (fnB F_Mr_init) 198 = .ok (.aload_n 0, 1) := by decide +kernel
theorem d_Mr_init_199 : decode (fnB F_Mr_init) 199 = .ok (.new 24, 3) := by decide +kernel
theorem d_Mr_init_202 : decode (fnB F_Mr_init) 202 = .ok (.dup, 1) := by decide +kernel
theorem d_Mr_init_203 : decode (fnB F_Mr_init) 203 = .ok (.bipush 120, 2) := by decide +kernel
theorem d_Mr_init_205 : decode (fnB F_Mr_init) 205 = .ok (.invokespecial 91, 3) := by decide +kernel
theorem d_Mr_init_208 : decode (fnB F_Mr_init) 208 = .ok (.putfield 101, 3) := by decide +kernel
theorem d_Mr_init_211 : decode (fnB F_Mr_init) 211 = .ok (.aload_n 0, 1) := by decide +kernel
theorem d_Mr_init_212 : decode (fnB F_Mr_init) 212 = .ok (.sipush 201, 3) := by decide +kernel
theorem d_Mr_init_215 : decode (fnB F_Mr_init) 215 = .ok (.newarray .int, 2) := by decide +kernel
theorem d_Mr_init_217 : decode (fnB F_Mr_init) 217 = .ok (.putfield 104, 3) := by decide +kernel
theorem d_Mr_init_220 : decode (fnB F_Mr_init) 220 = .ok (.iconst 0, 1) := by decide +kernel
theorem d_Mr_init_221 : decode (fnB F_Mr_init) 221 = .ok (.istore_n 1, 1) := by decide +kernel
theorem d_Mr_init_222 : decode (fnB F_Mr_init) 222 = .ok (.iload_n 1, 1) := by decide +kernel
theorem d_Mr_init_223 : decode (fnB F_Mr_init) 223 = .ok (.bipush 26, 2) := by decide +kernel
theorem d_Mr_init_225 : decode (fnB F_Mr_init) 225 = .ok (.if_icmp .ge 16, 3) := by decide +kernel
theorem d_Mr_init_228 : decode (fnB F_Mr_init) 228 = .ok (.aload_n 0, 1) := by decide +kernel
theorem d_Mr_init_229 : decode (fnB F_Mr_init) 229 = .ok (.getfield 13, 3) := by decide +kernel
theorem d_Mr_init_232 : decode (fnB F_Mr_init) 232 = .ok (.iload_n 1, 1) := by decide +kernel
theorem d_Mr_init_233 : decode (fnB F_Mr_init) 233 = .ok (.iconst (-1), 1) := by decide +kernel
theorem d_Mr_init_234 : decode (fnB F_Mr_init) 234 = .ok (.iastore, 1) := by decide +kernel
theorem d_Mr_init_235 : decode (fnB F_Mr_init) 235 = .ok (.iinc 1 1, 3) := by decide +kernel
theorem d_Mr_init_238 : decode (fnB F_Mr_init) 238 = .ok (.goto (-16), 3) := by decide +kernel
theorem d_Mr_init_241 : decode (fnB F_Mr_init) 241 = .ok (.iconst 0, 1) := by decide +kernel
theorem d_Mr_init_242 : decode (fnB F_Mr_init) 242 = .ok (.istore_n 1, 1) := by decide +kernel
theorem d_Mr_init_243 : decode (fnB F_Mr_init) 243 = .ok (.iload_n 1, 1) := by decide +kernel
theorem d_Mr_init_244 : decode (fnB F_Mr_init) 244 = .ok (.bipush 8, 2) := by decide +kernel
theorem d_Mr_init_246 : decode (fnB F_Mr_init) 246 = .ok (.if_icmp .ge 24, 3) := by decide +kernel
theorem d_Mr_init_249 : decode (fnB F_Mr_init) 249 = .ok (.aload_n 0, 1) := by decide +kernel
theorem d_Mr_init_250 : decode (fnB F_Mr_init) 250 = .ok (.getfield 26, 3) := by decide +kernel
theorem d_Mr_init_253 : decode (fnB F_Mr_init) 253 = .ok (.iload_n 1, 1) := by decide +kernel
theorem d_Mr_init_254 : decode (fnB F_Mr_init) 254 = .ok (.new 24, 3) := by decide +kernel
theorem d_Mr_init_257 : decode (fnB F_Mr_init) 257 = .ok (.dup, 1) := by decide +kernel
theorem d_Mr_init_258 : decode (fnB F_Mr_init) 258 = .ok (.bipush 80, 2) := by decide +kernel
theorem d_Mr_init_260 : decode (fnB F_Mr_init) 260 = .ok (.invokespecial 91, 3) := by decide +kernel
theorem d_Mr_init_263 : decode (fnB F_Mr_init) 263 = .ok (.aastore, 1) := by decide +kernel
theorem d_Mr_init_264 : decode (fnB F_Mr_init) 264 = .ok (.iinc 1 1, 3) := by decide +kernel
theorem d_Mr_init_267 : decode (fnB F_Mr_init) 267 = .ok (.goto (-24), 3) := by decide +kernel
theorem d_Mr_init_270 : decode (fnB F_Mr_init) 270 = .ok (.return_, 1) := by decide +kernel
theorem B_Mr_init_0 : (∀ (l1 : Value) (x : Nat) (st : List Value) (M : Mm) (Q : Option Value → Mm → Prop), wp F_Mr_init 0 [.ref x, l1] st M Q = wp F_Mr_init 1 [.ref x, l1] (.ref x :: st) M Q) ∧
  (∀ (l0 l1 : Value) (a : Nat) (M : Mm) (Q : Option Value → Mm → Prop), wp F_Mr_init 1 [l0, l1] [.ref a] M Q = wp F_Mr_init 4 [l0, l1] [] M Q) ∧
  (∀ (l1 : Value) (x : Nat) (st : List Value) (M : Mm) (Q : Option Value → Mm → Prop), wp F_Mr_init 4 [.ref x, l1] st M Q = wp F_Mr_init 5 [.ref x, l1] (.ref x :: st) M Q) ∧
  (∀ (l0 l1 : Value) (st : List Value) (M : Mm) (Q : Option Value → Mm → Prop), wp F_Mr_init 5 [l0, l1] st M Q = wp F_Mr_init 8 [l0, l1] (.int 600 :: st) M Q) ∧
  (∀ (l0 l1 : Value) (n : Int32) (st : List Value) (M : Mm) (Q : Option Value → Mm → Prop), wp F_Mr_init 8 [l0, l1] (.int n :: st) M Q = ((¬ n < 0 ∧ cl n ≤ 16777216) ∧ wp F_Mr_init 10 [l0, l1] (.ref (nxt M) :: st) (nw M (.inr (2, cl n)) (cl n)) Q)) ∧
  (∀ (l0 l1 : Value) (a x : Nat) (st : List Value) (M : Mm) (Q : Option Value → Mm → Prop), wp F_Mr_init 10 [l0, l1] (.ref x :: .ref a :: st) M Q = (sh M a = some (.inl 11) ∧ wp F_Mr_init 13 [l0, l1] st (sR M a 0 (some x)) Q)) ∧
  (∀ (l1 : Value) (x : Nat) (st : List Value) (M : Mm) (Q : Option Value → Mm → Prop), wp F_Mr_init 13 [.ref x, l1] st M Q = wp F_Mr_init 14 [.ref x, l1] (.ref x :: st) M Q) ∧
  (∀ (l0 l1 : Value) (st : List Value) (M : Mm) (Q : Option Value → Mm → Prop), wp F_Mr_init 14 [l0, l1] st M Q = wp F_Mr_init 16 [l0, l1] (.int 26 :: st) M Q) ∧
  (∀ (l0 l1 : Value) (n : Int32) (st : List Value) (M : Mm) (Q : Option Value → Mm → Prop), wp F_Mr_init 16 [l0, l1] (.int n :: st) M Q = ((¬ n < 0 ∧ cl n ≤ 16777216) ∧ wp F_Mr_init 18 [l0, l1] (.ref (nxt M) :: st) (nw M (.inr (0, cl n)) (cl n)) Q)) ∧
  (∀ (l0 l1 : Value) (a x : Nat) (st : List Value) (M : Mm) (Q : Option Value → Mm → Prop), wp F_Mr_init 18 [l0, l1] (.ref x :: .ref a :: st) M Q = (sh M a = some (.inl 11) ∧ wp F_Mr_init 21 [l0, l1] st (sR M a 3 (some x)) Q)) ∧
  (∀ (l1 : Value) (x : Nat) (st : List Value) (M : Mm) (Q : Option Value → Mm → Prop), wp F_Mr_init 21 [.ref x, l1] st M Q = wp F_Mr_init 22 [.ref x, l1] (.ref x :: st) M Q) ∧
  (∀ (l0 l1 : Value) (st : List Value) (M : Mm) (Q : Option Value → Mm → Prop), wp F_Mr_init 22 [l0, l1] st M Q = wp F_Mr_init 25 [l0, l1] (.ref (nxt M) :: st) (nw M (.inl 5) 10) Q) ∧
  (∀ (l0 l1 : Value) (x : Nat) (st : List Value) (M : Mm) (Q : Option Value → Mm → Prop), wp F_Mr_init 25 [l0, l1] (.ref x :: st) M Q = wp F_Mr_init 26 [l0, l1] (.ref x :: .ref x :: st) M Q) ∧
  (∀ (l0 l1 : Value) (b : Nat) (r0 r1 : Value) (M : Mm) (Q : Option Value → Mm → Prop), wp F_Mr_init 26 [l0, l1] [.ref b, r0, r1] M Q = wp F_Presentation_init 0 [.ref b] [] M (fun r M1 => wp F_Mr_init 29 [l0, l1] (r.toList ++ [r0, r1]) M1 Q)) ∧
  (∀ (l0 l1 : Value) (a x : Nat) (st : List Value) (M : Mm) (Q : Option Value → Mm → Prop), wp F_Mr_init 29 [l0, l1] (.ref x :: .ref a :: st) M Q = (sh M a = some (.inl 11) ∧ wp F_Mr_init 32 [l0, l1] st (sR M a 4 (some x)) Q)) ∧
  (∀ (l1 : Value) (x : Nat) (st : List Value) (M : Mm) (Q : Option Value → Mm → Prop), wp F_Mr_init 32 [.ref x, l1] st M Q = wp F_Mr_init 33 [.ref x, l1] (.ref x :: st) M Q) ∧
  (∀ (l0 l1 : Value) (st : List Value) (M : Mm) (Q : Option Value → Mm → Prop), wp F_Mr_init 33 [l0, l1] st M Q = wp F_Mr_init 35 [l0, l1] (.int 8 :: st) M Q) ∧
  (∀ (l0 l1 : Value) (n : Int32) (st : List Value) (M : Mm) (Q : Option Value → Mm → Prop), wp F_Mr_init 35 [l0, l1] (.int n :: st) M Q = ((¬ n < 0 ∧ cl n ≤ 16777216) ∧ wp F_Mr_init 38 [l0, l1] (.ref (nxt M) :: st) (nw M (.inr (10, cl n)) (cl n)) Q)) ∧
  (∀ (l0 l1 : Value) (a x : Nat) (st : List Value) (M : Mm) (Q : Option Value → Mm → Prop), wp F_Mr_init 38 [l0, l1] (.ref x :: .ref a :: st) M Q = (sh M a = some (.inl 11) ∧ wp F_Mr_init 41 [l0, l1] st (sR M a 5 (some x)) Q)) ∧
  (∀ (l1 : Value) (x : Nat) (st : List Value) (M : Mm) (Q : Option Value → Mm → Prop), wp F_Mr_init 41 [.ref x, l1] st M Q = wp F_Mr_init 42 [.ref x, l1] (.ref x :: st) M Q) ∧
  (∀ (l0 l1 : Value) (st : List Value) (M : Mm) (Q : Option Value → Mm → Prop), wp F_Mr_init 42 [l0, l1] st M Q = wp F_Mr_init 45 [l0, l1] (.ref (nxt M) :: st) (nw M (.inl 9) 4) Q) ∧
  (∀ (l0 l1 : Value) (x : Nat) (st : List Value) (M : Mm) (Q : Option Value → Mm → Prop), wp F_Mr_init 45 [l0, l1] (.ref x :: st) M Q = wp F_Mr_init 46 [l0, l1] (.ref x :: .ref x :: st) M Q) ∧
  (∀ (l0 l1 : Value) (b : Nat) (r0 r1 : Value) (M : Mm) (Q : Option Value → Mm → Prop), wp F_Mr_init 46 [l0, l1] [.ref b, r0, r1] M Q = wp F_Rules_init 0 [.ref b, jk] [] M (fun r M1 => wp F_Mr_init 49 [l0, l1] (r.toList ++ [r0, r1]) M1 Q)) ∧
  (∀ (l0 l1 : Value) (a x : Nat) (st : List Value) (M : Mm) (Q : Option Value → Mm → Prop), wp F_Mr_init 49 [l0, l1] (.ref x :: .ref a :: st) M Q = (sh M a = some (.inl 11) ∧ wp F_Mr_init 52 [l0, l1] st (sR M a 6 (some x)) Q)) ∧
  (∀ (l1 : Value) (x : Nat) (st : List Value) (M : Mm) (Q : Option Value → Mm → Prop), wp F_Mr_init 52 [.ref x, l1] st M Q = wp F_Mr_init 53 [.ref x, l1] (.ref x :: st) M Q) ∧
  (∀ (l0 l1 : Value) (st : List Value) (M : Mm) (Q : Option Value → Mm → Prop), wp F_Mr_init 53 [l0, l1] st M Q = wp F_Mr_init 56 [l0, l1] (.ref (nxt M) :: st) (nw M (.inl 7) 3) Q) ∧
  (∀ (l0 l1 : Value) (x : Nat) (st : List Value) (M : Mm) (Q : Option Value → Mm → Prop), wp F_Mr_init 56 [l0, l1] (.ref x :: st) M Q = wp F_Mr_init 57 [l0, l1] (.ref x :: .ref x :: st) M Q) ∧
  (∀ (l0 l1 : Value) (b : Nat) (r0 r1 : Value) (M : Mm) (Q : Option Value → Mm → Prop), wp F_Mr_init 57 [l0, l1] [.ref b, r0, r1] M Q = wp F_Row_init 0 [.ref b] [] M (fun r M1 => wp F_Mr_init 60 [l0, l1] (r.toList ++ [r0, r1]) M1 Q)) ∧
  (∀ (l0 l1 : Value) (a x : Nat) (st : List Value) (M : Mm) (Q : Option Value → Mm → Prop), wp F_Mr_init 60 [l0, l1] (.ref x :: .ref a :: st) M Q = (sh M a = some (.inl 11) ∧ wp F_Mr_init 63 [l0, l1] st (sR M a 7 (some x)) Q)) ∧
  (∀ (l1 : Value) (x : Nat) (st : List Value) (M : Mm) (Q : Option Value → Mm → Prop), wp F_Mr_init 63 [.ref x, l1] st M Q = wp F_Mr_init 64 [.ref x, l1] (.ref x :: st) M Q) ∧
  (∀ (l0 l1 : Value) (st : List Value) (M : Mm) (Q : Option Value → Mm → Prop), wp F_Mr_init 64 [l0, l1] st M Q = wp F_Mr_init 67 [l0, l1] (.ref (nxt M) :: st) (nw M (.inl 3) 7) Q) ∧
  (∀ (l0 l1 : Value) (x : Nat) (st : List Value) (M : Mm) (Q : Option Value → Mm → Prop), wp F_Mr_init 67 [l0, l1] (.ref x :: st) M Q = wp F_Mr_init 68 [l0, l1] (.ref x :: .ref x :: st) M Q) ∧
  (∀ (l0 l1 : Value) (b : Nat) (r0 r1 : Value) (M : Mm) (Q : Option Value → Mm → Prop), wp F_Mr_init 68 [l0, l1] [.ref b, r0, r1] M Q = wp F_Machine_init 0 [.ref b] [] M (fun r M1 => wp F_Mr_init 71 [l0, l1] (r.toList ++ [r0, r1]) M1 Q)) ∧
  (∀ (l0 l1 : Value) (a x : Nat) (st : List Value) (M : Mm) (Q : Option Value → Mm → Prop), wp F_Mr_init 71 [l0, l1] (.ref x :: .ref a :: st) M Q = (sh M a = some (.inl 11) ∧ wp F_Mr_init 74 [l0, l1] st (sR M a 8 (some x)) Q)) ∧
  (∀ (l1 : Value) (x : Nat) (st : List Value) (M : Mm) (Q : Option Value → Mm → Prop), wp F_Mr_init 74 [.ref x, l1] st M Q = wp F_Mr_init 75 [.ref x, l1] (.ref x :: st) M Q) ∧
  (∀ (l0 l1 : Value) (st : List Value) (M : Mm) (Q : Option Value → Mm → Prop), wp F_Mr_init 75 [l0, l1] st M Q = wp F_Mr_init 78 [l0, l1] (.ref (nxt M) :: st) (nw M (.inl 6) 8) Q) ∧
  (∀ (l0 l1 : Value) (x : Nat) (st : List Value) (M : Mm) (Q : Option Value → Mm → Prop), wp F_Mr_init 78 [l0, l1] (.ref x :: st) M Q = wp F_Mr_init 79 [l0, l1] (.ref x :: .ref x :: st) M Q) ∧
  (∀ (l1 : Value) (x : Nat) (st : List Value) (M : Mm) (Q : Option Value → Mm → Prop), wp F_Mr_init 79 [.ref x, l1] st M Q = wp F_Mr_init 80 [.ref x, l1] (.ref x :: st) M Q) ∧
  (∀ (l0 l1 : Value) (a : Nat) (st : List Value) (M : Mm) (Q : Option Value → Mm → Prop), wp F_Mr_init 80 [l0, l1] (.ref a :: st) M Q = (sh M a = some (.inl 11) ∧ wp F_Mr_init 83 [l0, l1] (va_rf (gR M a 6) :: st) M Q)) ∧
  (∀ (l1 : Value) (x : Nat) (st : List Value) (M : Mm) (Q : Option Value → Mm → Prop), wp F_Mr_init 83 [.ref x, l1] st M Q = wp F_Mr_init 84 [.ref x, l1] (.ref x :: st) M Q) := ⟨fun _ _ _ _ _ => wp_in d_Mr_init_0 rfl rfl, fun _ _ _ _ _ => wp_obj d_Mr_init_1 ml_11_3 (Nat.le_of_ble_eq_true rfl), fun _ _ _ _ _ => wp_in d_Mr_init_4 rfl rfl, fun _ _ _ _ _ => wp_sipush d_Mr_init_5 (by decide), fun _ _ _ _ _ _ => wp_new_byte d_Mr_init_8, fun _ _ _ _ _ _ _ => wp_putRA d_Mr_init_10 fl_11_9 rfl rfl, fun _ _ _ _ _ => wp_in d_Mr_init_13 rfl rfl, fun _ _ _ _ _ => wp_bipush d_Mr_init_14 (by decide), fun _ _ _ _ _ _ => wp_new_int d_Mr_init_16, fun _ _ _ _ _ _ _ => wp_putRA d_Mr_init_18 fl_11_13 rfl rfl, fun _ _ _ _ _ => wp_in d_Mr_init_21 rfl rfl, fun _ _ _ _ _ => wp_new d_Mr_init_22 nl_11_17, fun _ _ _ _ _ _ => wp_in d_Mr_init_25 rfl rfl, fun _ _ _ _ _ _ _ => wp_callI d_Mr_init_26 (Or.inr ml_11_19) rfl rfl rfl, fun _ _ _ _ _ _ _ => wp_putRO d_Mr_init_29 fl_11_20 rfl rfl, fun _ _ _ _ _ => wp_in d_Mr_init_32 rfl rfl, fun _ _ _ _ _ => wp_bipush d_Mr_init_33 (by decide), fun _ _ _ _ _ _ => wp_anew d_Mr_init_35 al_11_24, fun _ _ _ _ _ _ _ => wp_putRA d_Mr_init_38 fl_11_26 rfl rfl, fun _ _ _ _ _ => wp_in d_Mr_init_41 rfl rfl, fun _ _ _ _ _ => wp_new d_Mr_init_42 nl_11_30, fun _ _ _ _ _ _ => wp_in d_Mr_init_45 rfl rfl, fun _ _ _ _ _ _ _ => wp_callI d_Mr_init_46 (Or.inl ml_11_32) rfl rfl rfl, fun _ _ _ _ _ _ _ => wp_putRO d_Mr_init_49 fl_11_33 rfl rfl, fun _ _ _ _ _ => wp_in d_Mr_init_52 rfl rfl, fun _ _ _ _ _ => wp_new d_Mr_init_53 nl_11_37, fun _ _ _ _ _ _ => wp_in d_Mr_init_56 rfl rfl, fun _ _ _ _ _ _ _ => wp_callI d_Mr_init_57 (Or.inr ml_11_39) rfl rfl rfl, fun _ _ _ _ _ _ _ => wp_putRO d_Mr_init_60 fl_11_40 rfl rfl, fun _ _ _ _ _ => wp_in d_Mr_init_63 rfl rfl, fun _ _ _ _ _ => wp_new d_Mr_init_64 nl_11_44, fun _ _ _ _ _ _ => wp_in d_Mr_init_67 rfl rfl, fun _ _ _ _ _ _ _ => wp_callI d_Mr_init_68 (Or.inr ml_11_46) rfl rfl rfl, fun _ _ _ _ _ _ _ => wp_putRO d_Mr_init_71 fl_11_47 rfl rfl, fun _ _ _ _ _ => wp_in d_Mr_init_74 rfl rfl, fun _ _ _ _ _ => wp_new d_Mr_init_75 nl_11_51, fun _ _ _ _ _ _ => wp_in d_Mr_init_78 rfl rfl, fun _ _ _ _ _ => wp_in d_Mr_init_79 rfl rfl, fun _ _ _ _ _ _ => wp_getA d_Mr_init_80 fl_11_33 rfl, fun _ _ _ _ _ => wp_in d_Mr_init_83 rfl rfl⟩
theorem B_Mr_init_0_1 : (∀ (l0 l1 : Value) (a : Nat) (st : List Value) (M : Mm) (Q : Option Value → Mm → Prop), wp F_Mr_init 84 [l0, l1] (.ref a :: st) M Q = (sh M a = some (.inl 11) ∧ wp F_Mr_init 87 [l0, l1] (va_rf (gR M a 8) :: st) M Q)) ∧
  (∀ (l0 l1 : Value) (b : Nat) (p0 : Nat) (p1 : Nat) (r0 r1 : Value) (M : Mm) (Q : Option Value → Mm → Prop), wp F_Mr_init 87 [l0, l1] [.ref p1, .ref p0, .ref b, r0, r1] M Q = wp F_Reducer_init 0 [.ref b, .ref p0, .ref p1] [] M (fun r M1 => wp F_Mr_init 90 [l0, l1] (r.toList ++ [r0, r1]) M1 Q)) ∧
  (∀ (l0 l1 : Value) (a x : Nat) (st : List Value) (M : Mm) (Q : Option Value → Mm → Prop), wp F_Mr_init 90 [l0, l1] (.ref x :: .ref a :: st) M Q = (sh M a = some (.inl 11) ∧ wp F_Mr_init 93 [l0, l1] st (sR M a 9 (some x)) Q)) ∧
  (∀ (l1 : Value) (x : Nat) (st : List Value) (M : Mm) (Q : Option Value → Mm → Prop), wp F_Mr_init 93 [.ref x, l1] st M Q = wp F_Mr_init 94 [.ref x, l1] (.ref x :: st) M Q) ∧
  (∀ (l0 l1 : Value) (st : List Value) (M : Mm) (Q : Option Value → Mm → Prop), wp F_Mr_init 94 [l0, l1] st M Q = wp F_Mr_init 97 [l0, l1] (.ref (nxt M) :: st) (nw M (.inl 0) 8) Q) ∧
  (∀ (l0 l1 : Value) (x : Nat) (st : List Value) (M : Mm) (Q : Option Value → Mm → Prop), wp F_Mr_init 97 [l0, l1] (.ref x :: st) M Q = wp F_Mr_init 98 [l0, l1] (.ref x :: .ref x :: st) M Q) ∧
  (∀ (l1 : Value) (x : Nat) (st : List Value) (M : Mm) (Q : Option Value → Mm → Prop), wp F_Mr_init 98 [.ref x, l1] st M Q = wp F_Mr_init 99 [.ref x, l1] (.ref x :: st) M Q) ∧
  (∀ (l0 l1 : Value) (a : Nat) (st : List Value) (M : Mm) (Q : Option Value → Mm → Prop), wp F_Mr_init 99 [l0, l1] (.ref a :: st) M Q = (sh M a = some (.inl 11) ∧ wp F_Mr_init 102 [l0, l1] (va_rf (gR M a 6) :: st) M Q)) ∧
  (∀ (l1 : Value) (x : Nat) (st : List Value) (M : Mm) (Q : Option Value → Mm → Prop), wp F_Mr_init 102 [.ref x, l1] st M Q = wp F_Mr_init 103 [.ref x, l1] (.ref x :: st) M Q) ∧
  (∀ (l0 l1 : Value) (a : Nat) (st : List Value) (M : Mm) (Q : Option Value → Mm → Prop), wp F_Mr_init 103 [l0, l1] (.ref a :: st) M Q = (sh M a = some (.inl 11) ∧ wp F_Mr_init 106 [l0, l1] (va_rf (gR M a 7) :: st) M Q)) ∧
  (∀ (l1 : Value) (x : Nat) (st : List Value) (M : Mm) (Q : Option Value → Mm → Prop), wp F_Mr_init 106 [.ref x, l1] st M Q = wp F_Mr_init 107 [.ref x, l1] (.ref x :: st) M Q) ∧
  (∀ (l0 l1 : Value) (a : Nat) (st : List Value) (M : Mm) (Q : Option Value → Mm → Prop), wp F_Mr_init 107 [l0, l1] (.ref a :: st) M Q = (sh M a = some (.inl 11) ∧ wp F_Mr_init 110 [l0, l1] (va_rf (gR M a 9) :: st) M Q)) ∧
  (∀ (l0 l1 : Value) (b : Nat) (p0 : Nat) (p1 : Nat) (p2 : Nat) (r0 r1 : Value) (M : Mm) (Q : Option Value → Mm → Prop), wp F_Mr_init 110 [l0, l1] [.ref p2, .ref p1, .ref p0, .ref b, r0, r1] M Q = wp F_Completion_init 0 [.ref b, .ref p0, .ref p1, .ref p2] [] M (fun r M1 => wp F_Mr_init 113 [l0, l1] (r.toList ++ [r0, r1]) M1 Q)) ∧
  (∀ (l0 l1 : Value) (a x : Nat) (st : List Value) (M : Mm) (Q : Option Value → Mm → Prop), wp F_Mr_init 113 [l0, l1] (.ref x :: .ref a :: st) M Q = (sh M a = some (.inl 11) ∧ wp F_Mr_init 116 [l0, l1] st (sR M a 10 (some x)) Q)) ∧
  (∀ (l1 : Value) (x : Nat) (st : List Value) (M : Mm) (Q : Option Value → Mm → Prop), wp F_Mr_init 116 [.ref x, l1] st M Q = wp F_Mr_init 117 [.ref x, l1] (.ref x :: st) M Q) ∧
  (∀ (l0 l1 : Value) (st : List Value) (M : Mm) (Q : Option Value → Mm → Prop), wp F_Mr_init 117 [l0, l1] st M Q = wp F_Mr_init 120 [l0, l1] (.ref (nxt M) :: st) (nw M (.inl 2) 10) Q) ∧
  (∀ (l0 l1 : Value) (x : Nat) (st : List Value) (M : Mm) (Q : Option Value → Mm → Prop), wp F_Mr_init 120 [l0, l1] (.ref x :: st) M Q = wp F_Mr_init 121 [l0, l1] (.ref x :: .ref x :: st) M Q) ∧
  (∀ (l1 : Value) (x : Nat) (st : List Value) (M : Mm) (Q : Option Value → Mm → Prop), wp F_Mr_init 121 [.ref x, l1] st M Q = wp F_Mr_init 122 [.ref x, l1] (.ref x :: st) M Q) ∧
  (∀ (l0 l1 : Value) (a : Nat) (st : List Value) (M : Mm) (Q : Option Value → Mm → Prop), wp F_Mr_init 122 [l0, l1] (.ref a :: st) M Q = (sh M a = some (.inl 11) ∧ wp F_Mr_init 125 [l0, l1] (va_rf (gR M a 6) :: st) M Q)) ∧
  (∀ (l1 : Value) (x : Nat) (st : List Value) (M : Mm) (Q : Option Value → Mm → Prop), wp F_Mr_init 125 [.ref x, l1] st M Q = wp F_Mr_init 126 [.ref x, l1] (.ref x :: st) M Q) ∧
  (∀ (l0 l1 : Value) (a : Nat) (st : List Value) (M : Mm) (Q : Option Value → Mm → Prop), wp F_Mr_init 126 [l0, l1] (.ref a :: st) M Q = (sh M a = some (.inl 11) ∧ wp F_Mr_init 129 [l0, l1] (va_rf (gR M a 9) :: st) M Q)) ∧
  (∀ (l0 l1 : Value) (b : Nat) (p0 : Nat) (p1 : Nat) (r0 r1 : Value) (M : Mm) (Q : Option Value → Mm → Prop), wp F_Mr_init 129 [l0, l1] [.ref p1, .ref p0, .ref b, r0, r1] M Q = wp F_Finder_init 0 [.ref b, .ref p0, .ref p1] [] M (fun r M1 => wp F_Mr_init 132 [l0, l1] (r.toList ++ [r0, r1]) M1 Q)) ∧
  (∀ (l0 l1 : Value) (a x : Nat) (st : List Value) (M : Mm) (Q : Option Value → Mm → Prop), wp F_Mr_init 132 [l0, l1] (.ref x :: .ref a :: st) M Q = (sh M a = some (.inl 11) ∧ wp F_Mr_init 135 [l0, l1] st (sR M a 11 (some x)) Q)) ∧
  (∀ (l1 : Value) (x : Nat) (st : List Value) (M : Mm) (Q : Option Value → Mm → Prop), wp F_Mr_init 135 [.ref x, l1] st M Q = wp F_Mr_init 136 [.ref x, l1] (.ref x :: st) M Q) ∧
  (∀ (l0 l1 : Value) (st : List Value) (M : Mm) (Q : Option Value → Mm → Prop), wp F_Mr_init 136 [l0, l1] st M Q = wp F_Mr_init 139 [l0, l1] (.ref (nxt M) :: st) (nw M (.inl 1) 9) Q) ∧
  (∀ (l0 l1 : Value) (x : Nat) (st : List Value) (M : Mm) (Q : Option Value → Mm → Prop), wp F_Mr_init 139 [l0, l1] (.ref x :: st) M Q = wp F_Mr_init 140 [l0, l1] (.ref x :: .ref x :: st) M Q) ∧
  (∀ (l1 : Value) (x : Nat) (st : List Value) (M : Mm) (Q : Option Value → Mm → Prop), wp F_Mr_init 140 [.ref x, l1] st M Q = wp F_Mr_init 141 [.ref x, l1] (.ref x :: st) M Q) ∧
  (∀ (l0 l1 : Value) (a : Nat) (st : List Value) (M : Mm) (Q : Option Value → Mm → Prop), wp F_Mr_init 141 [l0, l1] (.ref a :: st) M Q = (sh M a = some (.inl 11) ∧ wp F_Mr_init 144 [l0, l1] (va_rf (gR M a 6) :: st) M Q)) ∧
  (∀ (l1 : Value) (x : Nat) (st : List Value) (M : Mm) (Q : Option Value → Mm → Prop), wp F_Mr_init 144 [.ref x, l1] st M Q = wp F_Mr_init 145 [.ref x, l1] (.ref x :: st) M Q) ∧
  (∀ (l0 l1 : Value) (a : Nat) (st : List Value) (M : Mm) (Q : Option Value → Mm → Prop), wp F_Mr_init 145 [l0, l1] (.ref a :: st) M Q = (sh M a = some (.inl 11) ∧ wp F_Mr_init 148 [l0, l1] (va_rf (gR M a 8) :: st) M Q)) ∧
  (∀ (l0 l1 : Value) (b : Nat) (p0 : Nat) (p1 : Nat) (r0 r1 : Value) (M : Mm) (Q : Option Value → Mm → Prop), wp F_Mr_init 148 [l0, l1] [.ref p1, .ref p0, .ref b, r0, r1] M Q = wp F_Elements_init 0 [.ref b, .ref p0, .ref p1] [] M (fun r M1 => wp F_Mr_init 151 [l0, l1] (r.toList ++ [r0, r1]) M1 Q)) ∧
  (∀ (l0 l1 : Value) (a x : Nat) (st : List Value) (M : Mm) (Q : Option Value → Mm → Prop), wp F_Mr_init 151 [l0, l1] (.ref x :: .ref a :: st) M Q = (sh M a = some (.inl 11) ∧ wp F_Mr_init 154 [l0, l1] st (sR M a 12 (some x)) Q)) ∧
  (∀ (l1 : Value) (x : Nat) (st : List Value) (M : Mm) (Q : Option Value → Mm → Prop), wp F_Mr_init 154 [.ref x, l1] st M Q = wp F_Mr_init 155 [.ref x, l1] (.ref x :: st) M Q) ∧
  (∀ (l0 l1 : Value) (st : List Value) (M : Mm) (Q : Option Value → Mm → Prop), wp F_Mr_init 155 [l0, l1] st M Q = wp F_Mr_init 158 [l0, l1] (.int 300 :: st) M Q) ∧
  (∀ (l0 l1 : Value) (n : Int32) (st : List Value) (M : Mm) (Q : Option Value → Mm → Prop), wp F_Mr_init 158 [l0, l1] (.int n :: st) M Q = ((¬ n < 0 ∧ cl n ≤ 16777216) ∧ wp F_Mr_init 160 [l0, l1] (.ref (nxt M) :: st) (nw M (.inr (0, cl n)) (cl n)) Q)) ∧
  (∀ (l0 l1 : Value) (a x : Nat) (st : List Value) (M : Mm) (Q : Option Value → Mm → Prop), wp F_Mr_init 160 [l0, l1] (.ref x :: .ref a :: st) M Q = (sh M a = some (.inl 11) ∧ wp F_Mr_init 163 [l0, l1] st (sR M a 13 (some x)) Q)) ∧
  (∀ (l1 : Value) (x : Nat) (st : List Value) (M : Mm) (Q : Option Value → Mm → Prop), wp F_Mr_init 163 [.ref x, l1] st M Q = wp F_Mr_init 164 [.ref x, l1] (.ref x :: st) M Q) ∧
  (∀ (l0 l1 : Value) (st : List Value) (M : Mm) (Q : Option Value → Mm → Prop), wp F_Mr_init 164 [l0, l1] st M Q = wp F_Mr_init 167 [l0, l1] (.int 300 :: st) M Q) ∧
  (∀ (l0 l1 : Value) (n : Int32) (st : List Value) (M : Mm) (Q : Option Value → Mm → Prop), wp F_Mr_init 167 [l0, l1] (.int n :: st) M Q = ((¬ n < 0 ∧ cl n ≤ 16777216) ∧ wp F_Mr_init 169 [l0, l1] (.ref (nxt M) :: st) (nw M (.inr (0, cl n)) (cl n)) Q)) ∧
  (∀ (l0 l1 : Value) (a x : Nat) (st : List Value) (M : Mm) (Q : Option Value → Mm → Prop), wp F_Mr_init 169 [l0, l1] (.ref x :: .ref a :: st) M Q = (sh M a = some (.inl 11) ∧ wp F_Mr_init 172 [l0, l1] st (sR M a 14 (some x)) Q)) := ⟨fun _ _ _ _ _ _ => wp_getA d_Mr_init_84 fl_11_47 rfl, fun _ _ _ _ _ _ _ _ _ => wp_callI d_Mr_init_87 (Or.inl ml_11_53) rfl rfl rfl, fun _ _ _ _ _ _ _ => wp_putRO d_Mr_init_90 fl_11_56 rfl rfl, fun _ _ _ _ _ => wp_in d_Mr_init_93 rfl rfl, fun _ _ _ _ _ => wp_new d_Mr_init_94 nl_11_60, fun _ _ _ _ _ _ => wp_in d_Mr_init_97 rfl rfl, fun _ _ _ _ _ => wp_in d_Mr_init_98 rfl rfl, fun _ _ _ _ _ _ => wp_getA d_Mr_init_99 fl_11_33 rfl, fun _ _ _ _ _ => wp_in d_Mr_init_102 rfl rfl, fun _ _ _ _ _ _ => wp_getA d_Mr_init_103 fl_11_40 rfl, fun _ _ _ _ _ => wp_in d_Mr_init_106 rfl rfl, fun _ _ _ _ _ _ => wp_getA d_Mr_init_107 fl_11_56 rfl, fun _ _ _ _ _ _ _ _ _ _ => wp_callI d_Mr_init_110 (Or.inl ml_11_62) rfl rfl rfl, fun _ _ _ _ _ _ _ => wp_putRO d_Mr_init_113 fl_11_65 rfl rfl, fun _ _ _ _ _ => wp_in d_Mr_init_116 rfl rfl, fun _ _ _ _ _ => wp_new d_Mr_init_117 nl_11_69, fun _ _ _ _ _ _ => wp_in d_Mr_init_120 rfl rfl, fun _ _ _ _ _ => wp_in d_Mr_init_121 rfl rfl, fun _ _ _ _ _ _ => wp_getA d_Mr_init_122 fl_11_33 rfl, fun _ _ _ _ _ => wp_in d_Mr_init_125 rfl rfl, fun _ _ _ _ _ _ => wp_getA d_Mr_init_126 fl_11_56 rfl, fun _ _ _ _ _ _ _ _ _ => wp_callI d_Mr_init_129 (Or.inl ml_11_71) rfl rfl rfl, fun _ _ _ _ _ _ _ => wp_putRO d_Mr_init_132 fl_11_74 rfl rfl, fun _ _ _ _ _ => wp_in d_Mr_init_135 rfl rfl, fun _ _ _ _ _ => wp_new d_Mr_init_136 nl_11_78, fun _ _ _ _ _ _ => wp_in d_Mr_init_139 rfl rfl, fun _ _ _ _ _ => wp_in d_Mr_init_140 rfl rfl, fun _ _ _ _ _ _ => wp_getA d_Mr_init_141 fl_11_33 rfl, fun _ _ _ _ _ => wp_in d_Mr_init_144 rfl rfl, fun _ _ _ _ _ _ => wp_getA d_Mr_init_145 fl_11_47 rfl, fun _ _ _ _ _ _ _ _ _ => wp_callI d_Mr_init_148 (Or.inl ml_11_80) rfl rfl rfl, fun _ _ _ _ _ _ _ => wp_putRO d_Mr_init_151 fl_11_81 rfl rfl, fun _ _ _ _ _ => wp_in d_Mr_init_154 rfl rfl, fun _ _ _ _ _ => wp_sipush d_Mr_init_155 (by decide), fun _ _ _ _ _ _ => wp_new_int d_Mr_init_158, fun _ _ _ _ _ _ _ => wp_putRA d_Mr_init_160 fl_11_85 rfl rfl, fun _ _ _ _ _ => wp_in d_Mr_init_163 rfl rfl, fun _ _ _ _ _ => wp_sipush d_Mr_init_164 (by decide), fun _ _ _ _ _ _ => wp_new_int d_Mr_init_167, fun _ _ _ _ _ _ _ => wp_putRA d_Mr_init_169 fl_11_88 rfl rfl⟩
theorem B_Mr_init_0_2 : (∀ (l1 : Value) (x : Nat) (st : List Value) (M : Mm) (Q : Option Value → Mm → Prop), wp F_Mr_init 172 [.ref x, l1] st M Q = wp F_Mr_init 173 [.ref x, l1] (.ref x :: st) M Q) ∧
  (∀ (l0 l1 : Value) (st : List Value) (M : Mm) (Q : Option Value → Mm → Prop), wp F_Mr_init 173 [l0, l1] st M Q = wp F_Mr_init 176 [l0, l1] (.ref (nxt M) :: st) (nw M (.inl 10) 2) Q) ∧
  (∀ (l0 l1 : Value) (x : Nat) (st : List Value) (M : Mm) (Q : Option Value → Mm → Prop), wp F_Mr_init 176 [l0, l1] (.ref x :: st) M Q = wp F_Mr_init 177 [l0, l1] (.ref x :: .ref x :: st) M Q) ∧
  (∀ (l0 l1 : Value) (st : List Value) (M : Mm) (Q : Option Value → Mm → Prop), wp F_Mr_init 177 [l0, l1] st M Q = wp F_Mr_init 179 [l0, l1] (.int 120 :: st) M Q) ∧
  (∀ (l0 l1 : Value) (b : Nat) (p0 : Int32) (r0 r1 : Value) (M : Mm) (Q : Option Value → Mm → Prop), wp F_Mr_init 179 [l0, l1] [.int p0, .ref b, r0, r1] M Q = wp F_Word_init 0 [.ref b, .int p0] [] M (fun r M1 => wp F_Mr_init 182 [l0, l1] (r.toList ++ [r0, r1]) M1 Q)) ∧
  (∀ (l0 l1 : Value) (a x : Nat) (st : List Value) (M : Mm) (Q : Option Value → Mm → Prop), wp F_Mr_init 182 [l0, l1] (.ref x :: .ref a :: st) M Q = (sh M a = some (.inl 11) ∧ wp F_Mr_init 185 [l0, l1] st (sR M a 16 (some x)) Q)) ∧
  (∀ (l1 : Value) (x : Nat) (st : List Value) (M : Mm) (Q : Option Value → Mm → Prop), wp F_Mr_init 185 [.ref x, l1] st M Q = wp F_Mr_init 186 [.ref x, l1] (.ref x :: st) M Q) ∧
  (∀ (l0 l1 : Value) (st : List Value) (M : Mm) (Q : Option Value → Mm → Prop), wp F_Mr_init 186 [l0, l1] st M Q = wp F_Mr_init 189 [l0, l1] (.ref (nxt M) :: st) (nw M (.inl 10) 2) Q) ∧
  (∀ (l0 l1 : Value) (x : Nat) (st : List Value) (M : Mm) (Q : Option Value → Mm → Prop), wp F_Mr_init 189 [l0, l1] (.ref x :: st) M Q = wp F_Mr_init 190 [l0, l1] (.ref x :: .ref x :: st) M Q) ∧
  (∀ (l0 l1 : Value) (st : List Value) (M : Mm) (Q : Option Value → Mm → Prop), wp F_Mr_init 190 [l0, l1] st M Q = wp F_Mr_init 192 [l0, l1] (.int 120 :: st) M Q) ∧
  (∀ (l0 l1 : Value) (b : Nat) (p0 : Int32) (r0 r1 : Value) (M : Mm) (Q : Option Value → Mm → Prop), wp F_Mr_init 192 [l0, l1] [.int p0, .ref b, r0, r1] M Q = wp F_Word_init 0 [.ref b, .int p0] [] M (fun r M1 => wp F_Mr_init 195 [l0, l1] (r.toList ++ [r0, r1]) M1 Q)) ∧
  (∀ (l0 l1 : Value) (a x : Nat) (st : List Value) (M : Mm) (Q : Option Value → Mm → Prop), wp F_Mr_init 195 [l0, l1] (.ref x :: .ref a :: st) M Q = (sh M a = some (.inl 11) ∧ wp F_Mr_init 198 [l0, l1] st (sR M a 17 (some x)) Q)) ∧
  (∀ (l1 : Value) (x : Nat) (st : List Value) (M : Mm) (Q : Option Value → Mm → Prop), wp F_Mr_init 198 [.ref x, l1] st M Q = wp F_Mr_init 199 [.ref x, l1] (.ref x :: st) M Q) ∧
  (∀ (l0 l1 : Value) (st : List Value) (M : Mm) (Q : Option Value → Mm → Prop), wp F_Mr_init 199 [l0, l1] st M Q = wp F_Mr_init 202 [l0, l1] (.ref (nxt M) :: st) (nw M (.inl 10) 2) Q) ∧
  (∀ (l0 l1 : Value) (x : Nat) (st : List Value) (M : Mm) (Q : Option Value → Mm → Prop), wp F_Mr_init 202 [l0, l1] (.ref x :: st) M Q = wp F_Mr_init 203 [l0, l1] (.ref x :: .ref x :: st) M Q) ∧
  (∀ (l0 l1 : Value) (st : List Value) (M : Mm) (Q : Option Value → Mm → Prop), wp F_Mr_init 203 [l0, l1] st M Q = wp F_Mr_init 205 [l0, l1] (.int 120 :: st) M Q) ∧
  (∀ (l0 l1 : Value) (b : Nat) (p0 : Int32) (r0 r1 : Value) (M : Mm) (Q : Option Value → Mm → Prop), wp F_Mr_init 205 [l0, l1] [.int p0, .ref b, r0, r1] M Q = wp F_Word_init 0 [.ref b, .int p0] [] M (fun r M1 => wp F_Mr_init 208 [l0, l1] (r.toList ++ [r0, r1]) M1 Q)) ∧
  (∀ (l0 l1 : Value) (a x : Nat) (st : List Value) (M : Mm) (Q : Option Value → Mm → Prop), wp F_Mr_init 208 [l0, l1] (.ref x :: .ref a :: st) M Q = (sh M a = some (.inl 11) ∧ wp F_Mr_init 211 [l0, l1] st (sR M a 18 (some x)) Q)) ∧
  (∀ (l1 : Value) (x : Nat) (st : List Value) (M : Mm) (Q : Option Value → Mm → Prop), wp F_Mr_init 211 [.ref x, l1] st M Q = wp F_Mr_init 212 [.ref x, l1] (.ref x :: st) M Q) ∧
  (∀ (l0 l1 : Value) (st : List Value) (M : Mm) (Q : Option Value → Mm → Prop), wp F_Mr_init 212 [l0, l1] st M Q = wp F_Mr_init 215 [l0, l1] (.int 201 :: st) M Q) ∧
  (∀ (l0 l1 : Value) (n : Int32) (st : List Value) (M : Mm) (Q : Option Value → Mm → Prop), wp F_Mr_init 215 [l0, l1] (.int n :: st) M Q = ((¬ n < 0 ∧ cl n ≤ 16777216) ∧ wp F_Mr_init 217 [l0, l1] (.ref (nxt M) :: st) (nw M (.inr (0, cl n)) (cl n)) Q)) ∧
  (∀ (l0 l1 : Value) (a x : Nat) (st : List Value) (M : Mm) (Q : Option Value → Mm → Prop), wp F_Mr_init 217 [l0, l1] (.ref x :: .ref a :: st) M Q = (sh M a = some (.inl 11) ∧ wp F_Mr_init 220 [l0, l1] st (sR M a 19 (some x)) Q)) ∧
  (∀ (l0 l1 : Value) (st : List Value) (M : Mm) (Q : Option Value → Mm → Prop), wp F_Mr_init 220 [l0, l1] st M Q = wp F_Mr_init 221 [l0, l1] (.int 0 :: st) M Q) ∧
  (∀ (l0 l1 : Value) (x : Int32) (st : List Value) (M : Mm) (Q : Option Value → Mm → Prop), wp F_Mr_init 221 [l0, l1] (.int x :: st) M Q = wp F_Mr_init 222 [clr l0, .int x] st M Q) := ⟨fun _ _ _ _ _ => wp_in d_Mr_init_172 rfl rfl, fun _ _ _ _ _ => wp_new d_Mr_init_173 nl_11_24, fun _ _ _ _ _ _ => wp_in d_Mr_init_176 rfl rfl, fun _ _ _ _ _ => wp_bipush d_Mr_init_177 (by decide), fun _ _ _ _ _ _ _ _ => wp_callI d_Mr_init_179 (Or.inl ml_11_91) rfl rfl rfl, fun _ _ _ _ _ _ _ => wp_putRO d_Mr_init_182 fl_11_94 rfl rfl, fun _ _ _ _ _ => wp_in d_Mr_init_185 rfl rfl, fun _ _ _ _ _ => wp_new d_Mr_init_186 nl_11_24, fun _ _ _ _ _ _ => wp_in d_Mr_init_189 rfl rfl, fun _ _ _ _ _ => wp_bipush d_Mr_init_190 (by decide), fun _ _ _ _ _ _ _ _ => wp_callI d_Mr_init_192 (Or.inl ml_11_91) rfl rfl rfl, fun _ _ _ _ _ _ _ => wp_putRO d_Mr_init_195 fl_11_98 rfl rfl, fun _ _ _ _ _ => wp_in d_Mr_init_198 rfl rfl, fun _ _ _ _ _ => wp_new d_Mr_init_199 nl_11_24, fun _ _ _ _ _ _ => wp_in d_Mr_init_202 rfl rfl, fun _ _ _ _ _ => wp_bipush d_Mr_init_203 (by decide), fun _ _ _ _ _ _ _ _ => wp_callI d_Mr_init_205 (Or.inl ml_11_91) rfl rfl rfl, fun _ _ _ _ _ _ _ => wp_putRO d_Mr_init_208 fl_11_101 rfl rfl, fun _ _ _ _ _ => wp_in d_Mr_init_211 rfl rfl, fun _ _ _ _ _ => wp_sipush d_Mr_init_212 (by decide), fun _ _ _ _ _ _ => wp_new_int d_Mr_init_215, fun _ _ _ _ _ _ _ => wp_putRA d_Mr_init_217 fl_11_104 rfl rfl, fun _ _ _ _ _ => wp_iconst d_Mr_init_220 (by decide), fun _ _ _ _ _ _ => wp_in d_Mr_init_221 rfl rfl⟩
theorem B_Mr_init_222 : (∀ (l0 : Value) (x : Int32) (st : List Value) (M : Mm) (Q : Option Value → Mm → Prop), wp F_Mr_init 222 [l0, .int x] st M Q = wp F_Mr_init 223 [l0, .int x] (.int x :: st) M Q) ∧
  (∀ (l0 l1 : Value) (st : List Value) (M : Mm) (Q : Option Value → Mm → Prop), wp F_Mr_init 223 [l0, l1] st M Q = wp F_Mr_init 225 [l0, l1] (.int 26 :: st) M Q) ∧
  (∀ (l0 l1 : Value) (x y : Int32) (st : List Value) (M : Mm) (Q : Option Value → Mm → Prop), wp F_Mr_init 225 [l0, l1] (.int y :: .int x :: st) M Q = if y ≤ x then wp F_Mr_init 241 [l0, l1] st M Q else wp F_Mr_init 228 [l0, l1] st M Q) ∧
  (∀ (l1 : Value) (x : Nat) (st : List Value) (M : Mm) (Q : Option Value → Mm → Prop), wp F_Mr_init 228 [.ref x, l1] st M Q = wp F_Mr_init 229 [.ref x, l1] (.ref x :: st) M Q) ∧
  (∀ (l0 l1 : Value) (a : Nat) (st : List Value) (M : Mm) (Q : Option Value → Mm → Prop), wp F_Mr_init 229 [l0, l1] (.ref a :: st) M Q = (sh M a = some (.inl 11) ∧ wp F_Mr_init 232 [l0, l1] (va_rf (gR M a 3) :: st) M Q)) ∧
  (∀ (l0 : Value) (x : Int32) (st : List Value) (M : Mm) (Q : Option Value → Mm → Prop), wp F_Mr_init 232 [l0, .int x] st M Q = wp F_Mr_init 233 [l0, .int x] (.int x :: st) M Q) ∧
  (∀ (l0 l1 : Value) (st : List Value) (M : Mm) (Q : Option Value → Mm → Prop), wp F_Mr_init 233 [l0, l1] st M Q = wp F_Mr_init 234 [l0, l1] (.int (-1) :: st) M Q) ∧
  (∀ (l0 l1 : Value) (a : Nat) (j x : Int32) (st : List Value) (M : Mm) (Q : Option Value → Mm → Prop), wp F_Mr_init 234 [l0, l1] (.int x :: .int j :: .ref a :: st) M Q = (ixW M a j ∧ wp F_Mr_init 235 [l0, l1] st (sI M a (cl j) x) Q)) ∧
  (∀ (l0 : Value) (x : Int32) (st : List Value) (M : Mm) (Q : Option Value → Mm → Prop), wp F_Mr_init 235 [l0, .int x] st M Q = wp F_Mr_init 238 [clr l0, .int (x + 1)] st M Q) := ⟨fun _ _ _ _ _ => wp_in d_Mr_init_222 rfl rfl, fun _ _ _ _ _ => wp_bipush d_Mr_init_223 (by decide), fun _ _ _ _ _ _ _ => wp_icmp_ge d_Mr_init_225 rfl, fun _ _ _ _ _ => wp_in d_Mr_init_228 rfl rfl, fun _ _ _ _ _ _ => wp_getA d_Mr_init_229 fl_11_13 rfl, fun _ _ _ _ _ => wp_in d_Mr_init_232 rfl rfl, fun _ _ _ _ _ => wp_iconst d_Mr_init_233 (by decide), fun _ _ _ _ _ _ _ _ => wp_iast d_Mr_init_234, fun _ _ _ _ _ => wp_iinc d_Mr_init_235 (by decide) rfl rfl⟩
theorem B_Mr_init_241 : (∀ (l0 l1 : Value) (st : List Value) (M : Mm) (Q : Option Value → Mm → Prop), wp F_Mr_init 241 [l0, l1] st M Q = wp F_Mr_init 242 [l0, l1] (.int 0 :: st) M Q) ∧
  (∀ (l0 l1 : Value) (x : Int32) (st : List Value) (M : Mm) (Q : Option Value → Mm → Prop), wp F_Mr_init 242 [l0, l1] (.int x :: st) M Q = wp F_Mr_init 243 [clr l0, .int x] st M Q) := ⟨fun _ _ _ _ _ => wp_iconst d_Mr_init_241 (by decide), fun _ _ _ _ _ _ => wp_in d_Mr_init_242 rfl rfl⟩
theorem B_Mr_init_243 : (∀ (l0 : Value) (x : Int32) (st : List Value) (M : Mm) (Q : Option Value → Mm → Prop), wp F_Mr_init 243 [l0, .int x] st M Q = wp F_Mr_init 244 [l0, .int x] (.int x :: st) M Q) ∧
  (∀ (l0 l1 : Value) (st : List Value) (M : Mm) (Q : Option Value → Mm → Prop), wp F_Mr_init 244 [l0, l1] st M Q = wp F_Mr_init 246 [l0, l1] (.int 8 :: st) M Q) ∧
  (∀ (l0 l1 : Value) (x y : Int32) (st : List Value) (M : Mm) (Q : Option Value → Mm → Prop), wp F_Mr_init 246 [l0, l1] (.int y :: .int x :: st) M Q = if y ≤ x then wp F_Mr_init 270 [l0, l1] st M Q else wp F_Mr_init 249 [l0, l1] st M Q) ∧
  (∀ (l1 : Value) (x : Nat) (st : List Value) (M : Mm) (Q : Option Value → Mm → Prop), wp F_Mr_init 249 [.ref x, l1] st M Q = wp F_Mr_init 250 [.ref x, l1] (.ref x :: st) M Q) ∧
  (∀ (l0 l1 : Value) (a : Nat) (st : List Value) (M : Mm) (Q : Option Value → Mm → Prop), wp F_Mr_init 250 [l0, l1] (.ref a :: st) M Q = (sh M a = some (.inl 11) ∧ wp F_Mr_init 253 [l0, l1] (va_rf (gR M a 5) :: st) M Q)) ∧
  (∀ (l0 : Value) (x : Int32) (st : List Value) (M : Mm) (Q : Option Value → Mm → Prop), wp F_Mr_init 253 [l0, .int x] st M Q = wp F_Mr_init 254 [l0, .int x] (.int x :: st) M Q) ∧
  (∀ (l0 l1 : Value) (st : List Value) (M : Mm) (Q : Option Value → Mm → Prop), wp F_Mr_init 254 [l0, l1] st M Q = wp F_Mr_init 257 [l0, l1] (.ref (nxt M) :: st) (nw M (.inl 10) 2) Q) ∧
  (∀ (l0 l1 : Value) (x : Nat) (st : List Value) (M : Mm) (Q : Option Value → Mm → Prop), wp F_Mr_init 257 [l0, l1] (.ref x :: st) M Q = wp F_Mr_init 258 [l0, l1] (.ref x :: .ref x :: st) M Q) ∧
  (∀ (l0 l1 : Value) (st : List Value) (M : Mm) (Q : Option Value → Mm → Prop), wp F_Mr_init 258 [l0, l1] st M Q = wp F_Mr_init 260 [l0, l1] (.int 80 :: st) M Q) ∧
  (∀ (l0 l1 : Value) (b : Nat) (p0 : Int32) (r0 r1 r2 : Value) (M : Mm) (Q : Option Value → Mm → Prop), wp F_Mr_init 260 [l0, l1] [.int p0, .ref b, r0, r1, r2] M Q = wp F_Word_init 0 [.ref b, .int p0] [] M (fun r M1 => wp F_Mr_init 263 [l0, l1] (r.toList ++ [r0, r1, r2]) M1 Q)) ∧
  (∀ (l0 l1 : Value) (a v : Nat) (j : Int32) (st : List Value) (M : Mm) (Q : Option Value → Mm → Prop), wp F_Mr_init 263 [l0, l1] (.ref v :: .int j :: .ref a :: st) M Q = ((∃ kd n c, sh M a = some (.inr (kd, n)) ∧ sh M v = some (.inl c) ∧ lk aO 0 kd = some c ∧ inb j n = true) ∧ wp F_Mr_init 264 [l0, l1] st (sR M a (cl j) (some v)) Q)) ∧
  (∀ (l0 : Value) (x : Int32) (st : List Value) (M : Mm) (Q : Option Value → Mm → Prop), wp F_Mr_init 264 [l0, .int x] st M Q = wp F_Mr_init 267 [clr l0, .int (x + 1)] st M Q) := ⟨fun _ _ _ _ _ => wp_in d_Mr_init_243 rfl rfl, fun _ _ _ _ _ => wp_bipush d_Mr_init_244 (by decide), fun _ _ _ _ _ _ _ => wp_icmp_ge d_Mr_init_246 rfl, fun _ _ _ _ _ => wp_in d_Mr_init_249 rfl rfl, fun _ _ _ _ _ _ => wp_getA d_Mr_init_250 fl_11_26 rfl, fun _ _ _ _ _ => wp_in d_Mr_init_253 rfl rfl, fun _ _ _ _ _ => wp_new d_Mr_init_254 nl_11_24, fun _ _ _ _ _ _ => wp_in d_Mr_init_257 rfl rfl, fun _ _ _ _ _ => wp_bipush d_Mr_init_258 (by decide), fun _ _ _ _ _ _ _ _ _ => wp_callI d_Mr_init_260 (Or.inl ml_11_91) rfl rfl rfl, fun _ _ _ _ _ _ _ _ => wp_aast d_Mr_init_263, fun _ _ _ _ _ => wp_iinc d_Mr_init_264 (by decide) rfl rfl⟩
theorem B_Mr_init_270 : (∀ (l0 l1 : Value) (M : Mm) (Q : Option Value → Mm → Prop), wp F_Mr_init 270 [l0, l1] [] M Q = Q none M) := fun _ _ _ _ => wp_retV d_Mr_init_270 rfl
theorem G_Mr_init_238 (l0 l1 : Value) (st : List Value) (M : Mm) (Q : Option Value → Mm → Prop) : wp F_Mr_init 238 [l0, l1] st M Q = wp F_Mr_init 222 [l0, l1] st M Q := wp_goto d_Mr_init_238 rfl
theorem G_Mr_init_267 (l0 l1 : Value) (st : List Value) (M : Mm) (Q : Option Value → Mm → Prop) : wp F_Mr_init 267 [l0, l1] st M Q = wp F_Mr_init 243 [l0, l1] st M Q := wp_goto d_Mr_init_267 rfl
theorem d_Mr_feed_0 : decode (fnB F_Mr_feed) 0 = .ok (.iload_n 3, 1) := by decide +kernel
theorem d_Mr_feed_1 : decode (fnB F_Mr_feed) 1 = .ok (.iconst 1, 1) := by decide +kernel
theorem d_Mr_feed_2 : decode (fnB F_Mr_feed) 2 = .ok (.if_icmp .lt 9, 3) := by decide +kernel
theorem d_Mr_feed_5 : decode (fnB F_Mr_feed) 5 = .ok (.iload_n 3, 1) := by decide +kernel
theorem d_Mr_feed_6 : decode (fnB F_Mr_feed) 6 = .ok (.bipush 8, 2) := by decide +kernel
theorem d_Mr_feed_8 : decode (fnB F_Mr_feed) 8 = .ok (.if_icmp .le 6, 3) := by decide +kernel
theorem d_Mr_feed_11 : decode (fnB F_Mr_feed) 11 = .ok (.bipush (-2), 2) := by decide +kernel
theorem d_Mr_feed_13 : decode (fnB F_Mr_feed) 13 = .ok (.ireturn, 1) := by decide +kernel
theorem d_Mr_feed_14 : decode (fnB F_Mr_feed) 14 = .ok (.aload_n 0, 1) := by decide +kernel
theorem d_Mr_feed_15 : decode (fnB F_Mr_feed) 15 = .ok (.getfield 107, 3) := by decide +kernel
theorem d_Mr_feed_18 : decode (fnB F_Mr_feed) 18 = .ok (.iload_n 3, 1) := by decide +kernel
theorem d_Mr_feed_19 : decode (fnB F_Mr_feed) 19 = .ok (.iadd, 1) := by decide +kernel
theorem d_Mr_feed_20 : decode (fnB F_Mr_feed) 20 = .ok (.sipush 600, 3) := by decide +kernel
theorem d_Mr_feed_23 : decode (fnB F_Mr_feed) 23 = .ok (.if_icmp .le 6, 3) := by decide +kernel
theorem d_Mr_feed_26 : decode (fnB F_Mr_feed) 26 = .ok (.bipush (-4), 2) := by decide +kernel
theorem d_Mr_feed_28 : decode (fnB F_Mr_feed) 28 = .ok (.ireturn, 1) := by decide +kernel
theorem d_Mr_feed_29 : decode (fnB F_Mr_feed) 29 = .ok (.iload_n 3, 1) := by decide +kernel
theorem d_Mr_feed_30 : decode (fnB F_Mr_feed) 30 = .ok (.iconst 1, 1) := by decide +kernel
theorem d_Mr_feed_31 : decode (fnB F_Mr_feed) 31 = .ok (.isub, 1) := by decide +kernel
theorem d_Mr_feed_32 : decode (fnB F_Mr_feed) 32 = .ok (.istore 4, 2) := by decide +kernel
theorem d_Mr_feed_34 : decode (fnB F_Mr_feed) 34 = .ok (.iload 4, 2) := by decide +kernel
theorem d_Mr_feed_36 : decode (fnB F_Mr_feed) 36 = .ok (.ifCond .lt 37, 3) := by decide +kernel
theorem d_Mr_feed_39 : decode (fnB F_Mr_feed) 39 = .ok (.aload_n 0, 1) := by decide +kernel
theorem d_Mr_feed_40 : decode (fnB F_Mr_feed) 40 = .ok (.getfield 9, 3) := by decide +kernel
theorem d_Mr_feed_43 : decode (fnB F_Mr_feed) 43 = .ok (.aload_n 0, 1) := by decide +kernel
theorem d_Mr_feed_44 : decode (fnB F_Mr_feed) 44 = .ok (.getfield 107, 3) := by decide +kernel
theorem d_Mr_feed_47 : decode (fnB F_Mr_feed) 47 = .ok (.lload_n 1, 1) := by decide +kernel
theorem d_Mr_feed_48 : decode (fnB F_Mr_feed) 48 = .ok (.bipush 8, 2) := by decide +kernel
theorem d_Mr_feed_50 : decode (fnB F_Mr_feed) 50 = .ok (.iload 4, 2) := by decide +kernel
theorem d_Mr_feed_52 : decode (fnB F_Mr_feed) 52 = .ok (.imul, 1) := by decide +kernel
theorem d_Mr_feed_53 : decode (fnB F_Mr_feed) 53 = .ok (.lushr, 1) := by decide +kernel
theorem d_Mr_feed_54 : decode (fnB F_Mr_feed) 54 = .ok (.l2i, 1) := by decide +kernel
theorem d_Mr_feed_55 : decode (fnB F_Mr_feed) 55 = .ok (.i2b, 1) := by decide +kernel
theorem d_Mr_feed_56 : decode (fnB F_Mr_feed) 56 = .ok (.bastore, 1) := by decide +kernel
theorem d_Mr_feed_57 : decode (fnB F_Mr_feed) 57 = .ok (.aload_n 0, 1) := by decide +kernel
theorem d_Mr_feed_58 : decode (fnB F_Mr_feed) 58 = .ok (.dup, 1) := by decide +kernel
theorem d_Mr_feed_59 : decode (fnB F_Mr_feed) 59 = .ok (.getfield 107, 3) := by decide +kernel
theorem d_Mr_feed_62 : decode (fnB F_Mr_feed) 62 = .ok (.iconst 1, 1) := by decide +kernel
theorem d_Mr_feed_63 : decode (fnB F_Mr_feed) 63 = .ok (.iadd, 1) := by decide +kernel
theorem d_Mr_feed_64 : decode (fnB F_Mr_feed) 64 = .ok (.putfield 107, 3) := by decide +kernel
theorem d_Mr_feed_67 : decode (fnB F_Mr_feed) 67 = .ok (.iinc 4 (-1), 3) := by decide +kernel
theorem d_Mr_feed_70 : decode (fnB F_Mr_feed) 70 = .ok (.goto (-36), 3) := by decide +kernel
theorem d_Mr_feed_73 : decode (fnB F_Mr_feed) 73 = .ok (.aload_n 0, 1) := by decide +kernel
theorem d_Mr_feed_74 : decode (fnB F_Mr_feed) 74 = .ok (.getfield 107, 3) := by decide +kernel
theorem d_Mr_feed_77 : decode (fnB F_Mr_feed) 77 = .ok (.ireturn, 1) := by decide +kernel
theorem B_Mr_feed_0 : (∀ (l0 l1 l2 l4 : Value) (x : Int32) (st : List Value) (M : Mm) (Q : Option Value → Mm → Prop), wp F_Mr_feed 0 [l0, l1, l2, .int x, l4] st M Q = wp F_Mr_feed 1 [l0, l1, l2, .int x, l4] (.int x :: st) M Q) ∧
  (∀ (l0 l1 l2 l3 l4 : Value) (st : List Value) (M : Mm) (Q : Option Value → Mm → Prop), wp F_Mr_feed 1 [l0, l1, l2, l3, l4] st M Q = wp F_Mr_feed 2 [l0, l1, l2, l3, l4] (.int 1 :: st) M Q) ∧
  (∀ (l0 l1 l2 l3 l4 : Value) (x y : Int32) (st : List Value) (M : Mm) (Q : Option Value → Mm → Prop), wp F_Mr_feed 2 [l0, l1, l2, l3, l4] (.int y :: .int x :: st) M Q = if x < y then wp F_Mr_feed 11 [l0, l1, l2, l3, l4] st M Q else wp F_Mr_feed 5 [l0, l1, l2, l3, l4] st M Q) ∧
  (∀ (l0 l1 l2 l4 : Value) (x : Int32) (st : List Value) (M : Mm) (Q : Option Value → Mm → Prop), wp F_Mr_feed 5 [l0, l1, l2, .int x, l4] st M Q = wp F_Mr_feed 6 [l0, l1, l2, .int x, l4] (.int x :: st) M Q) ∧
  (∀ (l0 l1 l2 l3 l4 : Value) (st : List Value) (M : Mm) (Q : Option Value → Mm → Prop), wp F_Mr_feed 6 [l0, l1, l2, l3, l4] st M Q = wp F_Mr_feed 8 [l0, l1, l2, l3, l4] (.int 8 :: st) M Q) ∧
  (∀ (l0 l1 l2 l3 l4 : Value) (x y : Int32) (st : List Value) (M : Mm) (Q : Option Value → Mm → Prop), wp F_Mr_feed 8 [l0, l1, l2, l3, l4] (.int y :: .int x :: st) M Q = if x ≤ y then wp F_Mr_feed 14 [l0, l1, l2, l3, l4] st M Q else wp F_Mr_feed 11 [l0, l1, l2, l3, l4] st M Q) := ⟨fun _ _ _ _ _ _ _ _ => wp_in d_Mr_feed_0 rfl rfl, fun _ _ _ _ _ _ _ _ => wp_iconst d_Mr_feed_1 (by decide), fun _ _ _ _ _ _ _ _ _ _ => wp_icmp_lt d_Mr_feed_2 rfl, fun _ _ _ _ _ _ _ _ => wp_in d_Mr_feed_5 rfl rfl, fun _ _ _ _ _ _ _ _ => wp_bipush d_Mr_feed_6 (by decide), fun _ _ _ _ _ _ _ _ _ _ => wp_icmp_le d_Mr_feed_8 rfl⟩
theorem B_Mr_feed_11 : (∀ (l0 l1 l2 l3 l4 : Value) (st : List Value) (M : Mm) (Q : Option Value → Mm → Prop), wp F_Mr_feed 11 [l0, l1, l2, l3, l4] st M Q = wp F_Mr_feed 13 [l0, l1, l2, l3, l4] (.int (-2) :: st) M Q) ∧
  (∀ (l0 l1 l2 l3 l4 : Value) (v : Int32) (M : Mm) (Q : Option Value → Mm → Prop), wp F_Mr_feed 13 [l0, l1, l2, l3, l4] [.int v] M Q = Q (some (.int v)) M) := ⟨fun _ _ _ _ _ _ _ _ => wp_bipush d_Mr_feed_11 (by decide), fun _ _ _ _ _ _ _ _ => wp_retI d_Mr_feed_13 rfl⟩
theorem B_Mr_feed_14 : (∀ (l1 l2 l3 l4 : Value) (x : Nat) (st : List Value) (M : Mm) (Q : Option Value → Mm → Prop), wp F_Mr_feed 14 [.ref x, l1, l2, l3, l4] st M Q = wp F_Mr_feed 15 [.ref x, l1, l2, l3, l4] (.ref x :: st) M Q) ∧
  (∀ (l0 l1 l2 l3 l4 : Value) (a : Nat) (st : List Value) (M : Mm) (Q : Option Value → Mm → Prop), wp F_Mr_feed 15 [l0, l1, l2, l3, l4] (.ref a :: st) M Q = (sh M a = some (.inl 11) ∧ wp F_Mr_feed 18 [l0, l1, l2, l3, l4] (.int (gI M a 1) :: st) M Q)) ∧
  (∀ (l0 l1 l2 l4 : Value) (x : Int32) (st : List Value) (M : Mm) (Q : Option Value → Mm → Prop), wp F_Mr_feed 18 [l0, l1, l2, .int x, l4] st M Q = wp F_Mr_feed 19 [l0, l1, l2, .int x, l4] (.int x :: st) M Q) ∧
  (∀ (l0 l1 l2 l3 l4 : Value) (x y : Int32) (st : List Value) (M : Mm) (Q : Option Value → Mm → Prop), wp F_Mr_feed 19 [l0, l1, l2, l3, l4] (.int y :: .int x :: st) M Q = wp F_Mr_feed 20 [l0, l1, l2, l3, l4] (.int (x + y) :: st) M Q) ∧
  (∀ (l0 l1 l2 l3 l4 : Value) (st : List Value) (M : Mm) (Q : Option Value → Mm → Prop), wp F_Mr_feed 20 [l0, l1, l2, l3, l4] st M Q = wp F_Mr_feed 23 [l0, l1, l2, l3, l4] (.int 600 :: st) M Q) ∧
  (∀ (l0 l1 l2 l3 l4 : Value) (x y : Int32) (st : List Value) (M : Mm) (Q : Option Value → Mm → Prop), wp F_Mr_feed 23 [l0, l1, l2, l3, l4] (.int y :: .int x :: st) M Q = if x ≤ y then wp F_Mr_feed 29 [l0, l1, l2, l3, l4] st M Q else wp F_Mr_feed 26 [l0, l1, l2, l3, l4] st M Q) ∧
  (∀ (l0 l1 l2 l3 l4 : Value) (st : List Value) (M : Mm) (Q : Option Value → Mm → Prop), wp F_Mr_feed 26 [l0, l1, l2, l3, l4] st M Q = wp F_Mr_feed 28 [l0, l1, l2, l3, l4] (.int (-4) :: st) M Q) ∧
  (∀ (l0 l1 l2 l3 l4 : Value) (v : Int32) (M : Mm) (Q : Option Value → Mm → Prop), wp F_Mr_feed 28 [l0, l1, l2, l3, l4] [.int v] M Q = Q (some (.int v)) M) := ⟨fun _ _ _ _ _ _ _ _ => wp_in d_Mr_feed_14 rfl rfl, fun _ _ _ _ _ _ _ _ _ => wp_getI d_Mr_feed_15 fl_11_107 rfl, fun _ _ _ _ _ _ _ _ => wp_in d_Mr_feed_18 rfl rfl, fun _ _ _ _ _ _ _ _ _ _ => wp_in d_Mr_feed_19 rfl rfl, fun _ _ _ _ _ _ _ _ => wp_sipush d_Mr_feed_20 (by decide), fun _ _ _ _ _ _ _ _ _ _ => wp_icmp_le d_Mr_feed_23 rfl, fun _ _ _ _ _ _ _ _ => wp_bipush d_Mr_feed_26 (by decide), fun _ _ _ _ _ _ _ _ => wp_retI d_Mr_feed_28 rfl⟩
theorem B_Mr_feed_29 : (∀ (l0 l1 l2 l4 : Value) (x : Int32) (st : List Value) (M : Mm) (Q : Option Value → Mm → Prop), wp F_Mr_feed 29 [l0, l1, l2, .int x, l4] st M Q = wp F_Mr_feed 30 [l0, l1, l2, .int x, l4] (.int x :: st) M Q) ∧
  (∀ (l0 l1 l2 l3 l4 : Value) (st : List Value) (M : Mm) (Q : Option Value → Mm → Prop), wp F_Mr_feed 30 [l0, l1, l2, l3, l4] st M Q = wp F_Mr_feed 31 [l0, l1, l2, l3, l4] (.int 1 :: st) M Q) ∧
  (∀ (l0 l1 l2 l3 l4 : Value) (x y : Int32) (st : List Value) (M : Mm) (Q : Option Value → Mm → Prop), wp F_Mr_feed 31 [l0, l1, l2, l3, l4] (.int y :: .int x :: st) M Q = wp F_Mr_feed 32 [l0, l1, l2, l3, l4] (.int (x - y) :: st) M Q) ∧
  (∀ (l0 l1 l2 l3 l4 : Value) (x : Int32) (st : List Value) (M : Mm) (Q : Option Value → Mm → Prop), wp F_Mr_feed 32 [l0, l1, l2, l3, l4] (.int x :: st) M Q = wp F_Mr_feed 34 [l0, l1, l2, clr l3, .int x] st M Q) := ⟨fun _ _ _ _ _ _ _ _ => wp_in d_Mr_feed_29 rfl rfl, fun _ _ _ _ _ _ _ _ => wp_iconst d_Mr_feed_30 (by decide), fun _ _ _ _ _ _ _ _ _ _ => wp_in d_Mr_feed_31 rfl rfl, fun _ _ _ _ _ _ _ _ _ => wp_in d_Mr_feed_32 rfl rfl⟩
theorem B_Mr_feed_34 : (∀ (l0 l1 l2 l3 : Value) (x : Int32) (st : List Value) (M : Mm) (Q : Option Value → Mm → Prop), wp F_Mr_feed 34 [l0, l1, l2, l3, .int x] st M Q = wp F_Mr_feed 36 [l0, l1, l2, l3, .int x] (.int x :: st) M Q) ∧
  (∀ (l0 l1 l2 l3 l4 : Value) (x : Int32) (st : List Value) (M : Mm) (Q : Option Value → Mm → Prop), wp F_Mr_feed 36 [l0, l1, l2, l3, l4] (.int x :: st) M Q = if x < 0 then wp F_Mr_feed 73 [l0, l1, l2, l3, l4] st M Q else wp F_Mr_feed 39 [l0, l1, l2, l3, l4] st M Q) ∧
  (∀ (l1 l2 l3 l4 : Value) (x : Nat) (st : List Value) (M : Mm) (Q : Option Value → Mm → Prop), wp F_Mr_feed 39 [.ref x, l1, l2, l3, l4] st M Q = wp F_Mr_feed 40 [.ref x, l1, l2, l3, l4] (.ref x :: st) M Q) ∧
  (∀ (l0 l1 l2 l3 l4 : Value) (a : Nat) (st : List Value) (M : Mm) (Q : Option Value → Mm → Prop), wp F_Mr_feed 40 [l0, l1, l2, l3, l4] (.ref a :: st) M Q = (sh M a = some (.inl 11) ∧ wp F_Mr_feed 43 [l0, l1, l2, l3, l4] (va_rf (gR M a 0) :: st) M Q)) ∧
  (∀ (l1 l2 l3 l4 : Value) (x : Nat) (st : List Value) (M : Mm) (Q : Option Value → Mm → Prop), wp F_Mr_feed 43 [.ref x, l1, l2, l3, l4] st M Q = wp F_Mr_feed 44 [.ref x, l1, l2, l3, l4] (.ref x :: st) M Q) ∧
  (∀ (l0 l1 l2 l3 l4 : Value) (a : Nat) (st : List Value) (M : Mm) (Q : Option Value → Mm → Prop), wp F_Mr_feed 44 [l0, l1, l2, l3, l4] (.ref a :: st) M Q = (sh M a = some (.inl 11) ∧ wp F_Mr_feed 47 [l0, l1, l2, l3, l4] (.int (gI M a 1) :: st) M Q)) ∧
  (∀ (l0 l2 l3 l4 : Value) (x : Int64) (st : List Value) (M : Mm) (Q : Option Value → Mm → Prop), wp F_Mr_feed 47 [l0, .long x, l2, l3, l4] st M Q = wp F_Mr_feed 48 [l0, .long x, l2, l3, l4] (.long x :: st) M Q) ∧
  (∀ (l0 l1 l2 l3 l4 : Value) (st : List Value) (M : Mm) (Q : Option Value → Mm → Prop), wp F_Mr_feed 48 [l0, l1, l2, l3, l4] st M Q = wp F_Mr_feed 50 [l0, l1, l2, l3, l4] (.int 8 :: st) M Q) ∧
  (∀ (l0 l1 l2 l3 : Value) (x : Int32) (st : List Value) (M : Mm) (Q : Option Value → Mm → Prop), wp F_Mr_feed 50 [l0, l1, l2, l3, .int x] st M Q = wp F_Mr_feed 52 [l0, l1, l2, l3, .int x] (.int x :: st) M Q) ∧
  (∀ (l0 l1 l2 l3 l4 : Value) (x y : Int32) (st : List Value) (M : Mm) (Q : Option Value → Mm → Prop), wp F_Mr_feed 52 [l0, l1, l2, l3, l4] (.int y :: .int x :: st) M Q = wp F_Mr_feed 53 [l0, l1, l2, l3, l4] (.int (x * y) :: st) M Q) ∧
  (∀ (l0 l1 l2 l3 l4 : Value) (x : Int64) (y : Int32) (st : List Value) (M : Mm) (Q : Option Value → Mm → Prop), wp F_Mr_feed 53 [l0, l1, l2, l3, l4] (.int y :: .long x :: st) M Q = wp F_Mr_feed 54 [l0, l1, l2, l3, l4] (.long (x.toUInt64 >>> (y.toInt64.toUInt64 &&& Int64.toUInt64 63)).toInt64 :: st) M Q) ∧
  (∀ (l0 l1 l2 l3 l4 : Value) (x : Int64) (st : List Value) (M : Mm) (Q : Option Value → Mm → Prop), wp F_Mr_feed 54 [l0, l1, l2, l3, l4] (.long x :: st) M Q = wp F_Mr_feed 55 [l0, l1, l2, l3, l4] (.int x.toInt32 :: st) M Q) ∧
  (∀ (l0 l1 l2 l3 l4 : Value) (x : Int32) (st : List Value) (M : Mm) (Q : Option Value → Mm → Prop), wp F_Mr_feed 55 [l0, l1, l2, l3, l4] (.int x :: st) M Q = wp F_Mr_feed 56 [l0, l1, l2, l3, l4] (.int x.toInt8.toInt32 :: st) M Q) ∧
  (∀ (l0 l1 l2 l3 l4 : Value) (a : Nat) (j x : Int32) (st : List Value) (M : Mm) (Q : Option Value → Mm → Prop), wp F_Mr_feed 56 [l0, l1, l2, l3, l4] (.int x :: .int j :: .ref a :: st) M Q = bsW M a j x (fun M1 => wp F_Mr_feed 57 [l0, l1, l2, l3, l4] st M1 Q)) ∧
  (∀ (l1 l2 l3 l4 : Value) (x : Nat) (st : List Value) (M : Mm) (Q : Option Value → Mm → Prop), wp F_Mr_feed 57 [.ref x, l1, l2, l3, l4] st M Q = wp F_Mr_feed 58 [.ref x, l1, l2, l3, l4] (.ref x :: st) M Q) ∧
  (∀ (l0 l1 l2 l3 l4 : Value) (x : Nat) (st : List Value) (M : Mm) (Q : Option Value → Mm → Prop), wp F_Mr_feed 58 [l0, l1, l2, l3, l4] (.ref x :: st) M Q = wp F_Mr_feed 59 [l0, l1, l2, l3, l4] (.ref x :: .ref x :: st) M Q) ∧
  (∀ (l0 l1 l2 l3 l4 : Value) (a : Nat) (st : List Value) (M : Mm) (Q : Option Value → Mm → Prop), wp F_Mr_feed 59 [l0, l1, l2, l3, l4] (.ref a :: st) M Q = (sh M a = some (.inl 11) ∧ wp F_Mr_feed 62 [l0, l1, l2, l3, l4] (.int (gI M a 1) :: st) M Q)) ∧
  (∀ (l0 l1 l2 l3 l4 : Value) (st : List Value) (M : Mm) (Q : Option Value → Mm → Prop), wp F_Mr_feed 62 [l0, l1, l2, l3, l4] st M Q = wp F_Mr_feed 63 [l0, l1, l2, l3, l4] (.int 1 :: st) M Q) ∧
  (∀ (l0 l1 l2 l3 l4 : Value) (x y : Int32) (st : List Value) (M : Mm) (Q : Option Value → Mm → Prop), wp F_Mr_feed 63 [l0, l1, l2, l3, l4] (.int y :: .int x :: st) M Q = wp F_Mr_feed 64 [l0, l1, l2, l3, l4] (.int (x + y) :: st) M Q) ∧
  (∀ (l0 l1 l2 l3 l4 : Value) (a : Nat) (x : Int32) (st : List Value) (M : Mm) (Q : Option Value → Mm → Prop), wp F_Mr_feed 64 [l0, l1, l2, l3, l4] (.int x :: .ref a :: st) M Q = (sh M a = some (.inl 11) ∧ wp F_Mr_feed 67 [l0, l1, l2, l3, l4] st (sI M a 1 x) Q)) ∧
  (∀ (l0 l1 l2 l3 : Value) (x : Int32) (st : List Value) (M : Mm) (Q : Option Value → Mm → Prop), wp F_Mr_feed 67 [l0, l1, l2, l3, .int x] st M Q = wp F_Mr_feed 70 [l0, l1, l2, clr l3, .int (x + (-1))] st M Q) := ⟨fun _ _ _ _ _ _ _ _ => wp_in d_Mr_feed_34 rfl rfl, fun _ _ _ _ _ _ _ _ _ => wp_if_lt d_Mr_feed_36 rfl, fun _ _ _ _ _ _ _ _ => wp_in d_Mr_feed_39 rfl rfl, fun _ _ _ _ _ _ _ _ _ => wp_getA d_Mr_feed_40 fl_11_9 rfl, fun _ _ _ _ _ _ _ _ => wp_in d_Mr_feed_43 rfl rfl, fun _ _ _ _ _ _ _ _ _ => wp_getI d_Mr_feed_44 fl_11_107 rfl, fun _ _ _ _ _ _ _ _ => wp_in d_Mr_feed_47 rfl rfl, fun _ _ _ _ _ _ _ _ => wp_bipush d_Mr_feed_48 (by decide), fun _ _ _ _ _ _ _ _ => wp_in d_Mr_feed_50 rfl rfl, fun _ _ _ _ _ _ _ _ _ _ => wp_in d_Mr_feed_52 rfl rfl, fun _ _ _ _ _ _ _ _ _ _ => wp_in d_Mr_feed_53 rfl rfl, fun _ _ _ _ _ _ _ _ _ => wp_in d_Mr_feed_54 rfl rfl, fun _ _ _ _ _ _ _ _ _ => wp_in d_Mr_feed_55 rfl rfl, fun _ _ _ _ _ _ _ _ _ _ _ => wp_bast d_Mr_feed_56, fun _ _ _ _ _ _ _ _ => wp_in d_Mr_feed_57 rfl rfl, fun _ _ _ _ _ _ _ _ _ => wp_in d_Mr_feed_58 rfl rfl, fun _ _ _ _ _ _ _ _ _ => wp_getI d_Mr_feed_59 fl_11_107 rfl, fun _ _ _ _ _ _ _ _ => wp_iconst d_Mr_feed_62 (by decide), fun _ _ _ _ _ _ _ _ _ _ => wp_in d_Mr_feed_63 rfl rfl, fun _ _ _ _ _ _ _ _ _ _ => wp_putI d_Mr_feed_64 fl_11_107 rfl rfl, fun _ _ _ _ _ _ _ _ => wp_iinc d_Mr_feed_67 (by decide) rfl rfl⟩
theorem B_Mr_feed_73 : (∀ (l1 l2 l3 l4 : Value) (x : Nat) (st : List Value) (M : Mm) (Q : Option Value → Mm → Prop), wp F_Mr_feed 73 [.ref x, l1, l2, l3, l4] st M Q = wp F_Mr_feed 74 [.ref x, l1, l2, l3, l4] (.ref x :: st) M Q) ∧
  (∀ (l0 l1 l2 l3 l4 : Value) (a : Nat) (st : List Value) (M : Mm) (Q : Option Value → Mm → Prop), wp F_Mr_feed 74 [l0, l1, l2, l3, l4] (.ref a :: st) M Q = (sh M a = some (.inl 11) ∧ wp F_Mr_feed 77 [l0, l1, l2, l3, l4] (.int (gI M a 1) :: st) M Q)) ∧
  (∀ (l0 l1 l2 l3 l4 : Value) (v : Int32) (M : Mm) (Q : Option Value → Mm → Prop), wp F_Mr_feed 77 [l0, l1, l2, l3, l4] [.int v] M Q = Q (some (.int v)) M) := ⟨fun _ _ _ _ _ _ _ _ => wp_in d_Mr_feed_73 rfl rfl, fun _ _ _ _ _ _ _ _ _ => wp_getI d_Mr_feed_74 fl_11_107 rfl, fun _ _ _ _ _ _ _ _ => wp_retI d_Mr_feed_77 rfl⟩
theorem G_Mr_feed_70 (l0 l1 l2 l3 l4 : Value) (st : List Value) (M : Mm) (Q : Option Value → Mm → Prop) : wp F_Mr_feed 70 [l0, l1, l2, l3, l4] st M Q = wp F_Mr_feed 34 [l0, l1, l2, l3, l4] st M Q := wp_goto d_Mr_feed_70 rfl
theorem d_Mr_read_0 : decode (fnB F_Mr_read) 0 = .ok (.aload_n 0, 1) := by decide +kernel
theorem d_Mr_read_1 : decode (fnB F_Mr_read) 1 = .ok (.getfield 107, 3) := by decide +kernel
theorem d_Mr_read_4 : decode (fnB F_Mr_read) 4 = .ok (.istore_n 1, 1) := by decide +kernel
theorem d_Mr_read_5 : decode (fnB F_Mr_read) 5 = .ok (.aload_n 0, 1) := by decide +kernel
theorem d_Mr_read_6 : decode (fnB F_Mr_read) 6 = .ok (.iconst 0, 1) := by decide +kernel
theorem d_Mr_read_7 : decode (fnB F_Mr_read) 7 = .ok (.putfield 107, 3) := by decide +kernel
theorem d_Mr_read_10 : decode (fnB F_Mr_read) 10 = .ok (.aload_n 0, 1) := by decide +kernel
theorem d_Mr_read_11 : decode (fnB F_Mr_read) 11 = .ok (.getfield 20, 3) := by decide +kernel
theorem d_Mr_read_14 : decode (fnB F_Mr_read) 14 = .ok (.aload_n 0, 1) := by decide +kernel
theorem d_Mr_read_15 : decode (fnB F_Mr_read) 15 = .ok (.getfield 9, 3) := by decide +kernel
theorem d_Mr_read_18 : decode (fnB F_Mr_read) 18 = .ok (.iload_n 1, 1) := by decide +kernel
theorem d_Mr_read_19 : decode (fnB F_Mr_read) 19 = .ok (.invokevirtual 111, 3) := by decide +kernel
theorem d_Mr_read_22 : decode (fnB F_Mr_read) 22 = .ok (.ifCond .ne 8, 3) := by decide +kernel
theorem d_Mr_read_25 : decode (fnB F_Mr_read) 25 = .ok (.aload_n 0, 1) := by decide +kernel
theorem d_Mr_read_26 : decode (fnB F_Mr_read) 26 = .ok (.invokevirtual 115, 3) := by decide +kernel
theorem d_Mr_read_29 : decode (fnB F_Mr_read) 29 = .ok (.ireturn, 1) := by decide +kernel
theorem d_Mr_read_30 : decode (fnB F_Mr_read) 30 = .ok (.aload_n 0, 1) := by decide +kernel
theorem d_Mr_read_31 : decode (fnB F_Mr_read) 31 = .ok (.invokevirtual 119, 3) := by decide +kernel
theorem d_Mr_read_34 : decode (fnB F_Mr_read) 34 = .ok (.aload_n 0, 1) := by decide +kernel
theorem d_Mr_read_35 : decode (fnB F_Mr_read) 35 = .ok (.getfield 20, 3) := by decide +kernel
theorem d_Mr_read_38 : decode (fnB F_Mr_read) 38 = .ok (.getfield 122, 3) := by decide +kernel
theorem d_Mr_read_41 : decode (fnB F_Mr_read) 41 = .ok (.ireturn, 1) := by decide +kernel
theorem B_Mr_read_0 : (∀ (l1 : Value) (x : Nat) (st : List Value) (M : Mm) (Q : Option Value → Mm → Prop), wp F_Mr_read 0 [.ref x, l1] st M Q = wp F_Mr_read 1 [.ref x, l1] (.ref x :: st) M Q) ∧
  (∀ (l0 l1 : Value) (a : Nat) (st : List Value) (M : Mm) (Q : Option Value → Mm → Prop), wp F_Mr_read 1 [l0, l1] (.ref a :: st) M Q = (sh M a = some (.inl 11) ∧ wp F_Mr_read 4 [l0, l1] (.int (gI M a 1) :: st) M Q)) ∧
  (∀ (l0 l1 : Value) (x : Int32) (st : List Value) (M : Mm) (Q : Option Value → Mm → Prop), wp F_Mr_read 4 [l0, l1] (.int x :: st) M Q = wp F_Mr_read 5 [clr l0, .int x] st M Q) ∧
  (∀ (l1 : Value) (x : Nat) (st : List Value) (M : Mm) (Q : Option Value → Mm → Prop), wp F_Mr_read 5 [.ref x, l1] st M Q = wp F_Mr_read 6 [.ref x, l1] (.ref x :: st) M Q) ∧
  (∀ (l0 l1 : Value) (st : List Value) (M : Mm) (Q : Option Value → Mm → Prop), wp F_Mr_read 6 [l0, l1] st M Q = wp F_Mr_read 7 [l0, l1] (.int 0 :: st) M Q) ∧
  (∀ (l0 l1 : Value) (a : Nat) (x : Int32) (st : List Value) (M : Mm) (Q : Option Value → Mm → Prop), wp F_Mr_read 7 [l0, l1] (.int x :: .ref a :: st) M Q = (sh M a = some (.inl 11) ∧ wp F_Mr_read 10 [l0, l1] st (sI M a 1 x) Q)) ∧
  (∀ (l1 : Value) (x : Nat) (st : List Value) (M : Mm) (Q : Option Value → Mm → Prop), wp F_Mr_read 10 [.ref x, l1] st M Q = wp F_Mr_read 11 [.ref x, l1] (.ref x :: st) M Q) ∧
  (∀ (l0 l1 : Value) (a : Nat) (st : List Value) (M : Mm) (Q : Option Value → Mm → Prop), wp F_Mr_read 11 [l0, l1] (.ref a :: st) M Q = (sh M a = some (.inl 11) ∧ wp F_Mr_read 14 [l0, l1] (va_rf (gR M a 4) :: st) M Q)) ∧
  (∀ (l1 : Value) (x : Nat) (st : List Value) (M : Mm) (Q : Option Value → Mm → Prop), wp F_Mr_read 14 [.ref x, l1] st M Q = wp F_Mr_read 15 [.ref x, l1] (.ref x :: st) M Q) ∧
  (∀ (l0 l1 : Value) (a : Nat) (st : List Value) (M : Mm) (Q : Option Value → Mm → Prop), wp F_Mr_read 15 [l0, l1] (.ref a :: st) M Q = (sh M a = some (.inl 11) ∧ wp F_Mr_read 18 [l0, l1] (va_rf (gR M a 0) :: st) M Q)) ∧
  (∀ (l0 : Value) (x : Int32) (st : List Value) (M : Mm) (Q : Option Value → Mm → Prop), wp F_Mr_read 18 [l0, .int x] st M Q = wp F_Mr_read 19 [l0, .int x] (.int x :: st) M Q) ∧
  (∀ (l0 l1 : Value) (b : Nat) (p0 : Nat) (p1 : Int32) (M : Mm) (Q : Option Value → Mm → Prop), wp F_Mr_read 19 [l0, l1] [.int p1, .ref p0, .ref b] M Q = (sh M b = some (.inl 5) ∧ wp F_Presentation_takeSystem 0 [.ref b, .ref p0, .int p1, jk] [] M (fun r M1 => wp F_Mr_read 22 [l0, l1] (r.toList ++ []) M1 Q))) ∧
  (∀ (l0 l1 : Value) (x : Int32) (st : List Value) (M : Mm) (Q : Option Value → Mm → Prop), wp F_Mr_read 22 [l0, l1] (.int x :: st) M Q = if x = 0 then wp F_Mr_read 25 [l0, l1] st M Q else wp F_Mr_read 30 [l0, l1] st M Q) ∧
  (∀ (l1 : Value) (x : Nat) (st : List Value) (M : Mm) (Q : Option Value → Mm → Prop), wp F_Mr_read 25 [.ref x, l1] st M Q = wp F_Mr_read 26 [.ref x, l1] (.ref x :: st) M Q) ∧
  (∀ (l0 l1 : Value) (b : Nat) (M : Mm) (Q : Option Value → Mm → Prop), wp F_Mr_read 26 [l0, l1] [.ref b] M Q = (sh M b = some (.inl 11) ∧ wp F_Mr_tellFault 0 [.ref b] [] M (fun r M1 => wp F_Mr_read 29 [l0, l1] (r.toList ++ []) M1 Q))) ∧
  (∀ (l0 l1 : Value) (v : Int32) (M : Mm) (Q : Option Value → Mm → Prop), wp F_Mr_read 29 [l0, l1] [.int v] M Q = Q (some (.int v)) M) := ⟨fun _ _ _ _ _ => wp_in d_Mr_read_0 rfl rfl, fun _ _ _ _ _ _ => wp_getI d_Mr_read_1 fl_11_107 rfl, fun _ _ _ _ _ _ => wp_in d_Mr_read_4 rfl rfl, fun _ _ _ _ _ => wp_in d_Mr_read_5 rfl rfl, fun _ _ _ _ _ => wp_iconst d_Mr_read_6 (by decide), fun _ _ _ _ _ _ _ => wp_putI d_Mr_read_7 fl_11_107 rfl rfl, fun _ _ _ _ _ => wp_in d_Mr_read_10 rfl rfl, fun _ _ _ _ _ _ => wp_getA d_Mr_read_11 fl_11_20 rfl, fun _ _ _ _ _ => wp_in d_Mr_read_14 rfl rfl, fun _ _ _ _ _ _ => wp_getA d_Mr_read_15 fl_11_9 rfl, fun _ _ _ _ _ => wp_in d_Mr_read_18 rfl rfl, fun _ _ _ _ _ _ _ => wp_callV d_Mr_read_19 ml_11_111 rfl rfl rfl, fun _ _ _ _ _ _ => wp_if_ne d_Mr_read_22 rfl, fun _ _ _ _ _ => wp_in d_Mr_read_25 rfl rfl, fun _ _ _ _ _ => wp_callV d_Mr_read_26 ml_11_115 rfl rfl rfl, fun _ _ _ _ _ => wp_retI d_Mr_read_29 rfl⟩
theorem B_Mr_read_30 : (∀ (l1 : Value) (x : Nat) (st : List Value) (M : Mm) (Q : Option Value → Mm → Prop), wp F_Mr_read 30 [.ref x, l1] st M Q = wp F_Mr_read 31 [.ref x, l1] (.ref x :: st) M Q) ∧
  (∀ (l0 l1 : Value) (b : Nat) (M : Mm) (Q : Option Value → Mm → Prop), wp F_Mr_read 31 [l0, l1] [.ref b] M Q = (sh M b = some (.inl 11) ∧ wp F_Mr_beginSystem 0 [.ref b, jk, jk] [] M (fun r M1 => wp F_Mr_read 34 [l0, l1] (r.toList ++ []) M1 Q))) ∧
  (∀ (l1 : Value) (x : Nat) (st : List Value) (M : Mm) (Q : Option Value → Mm → Prop), wp F_Mr_read 34 [.ref x, l1] st M Q = wp F_Mr_read 35 [.ref x, l1] (.ref x :: st) M Q) ∧
  (∀ (l0 l1 : Value) (a : Nat) (st : List Value) (M : Mm) (Q : Option Value → Mm → Prop), wp F_Mr_read 35 [l0, l1] (.ref a :: st) M Q = (sh M a = some (.inl 11) ∧ wp F_Mr_read 38 [l0, l1] (va_rf (gR M a 4) :: st) M Q)) ∧
  (∀ (l0 l1 : Value) (a : Nat) (st : List Value) (M : Mm) (Q : Option Value → Mm → Prop), wp F_Mr_read 38 [l0, l1] (.ref a :: st) M Q = (sh M a = some (.inl 5) ∧ wp F_Mr_read 41 [l0, l1] (.int (gI M a 2) :: st) M Q)) ∧
  (∀ (l0 l1 : Value) (v : Int32) (M : Mm) (Q : Option Value → Mm → Prop), wp F_Mr_read 41 [l0, l1] [.int v] M Q = Q (some (.int v)) M) := ⟨fun _ _ _ _ _ => wp_in d_Mr_read_30 rfl rfl, fun _ _ _ _ _ => wp_callV d_Mr_read_31 ml_11_119 rfl rfl rfl, fun _ _ _ _ _ => wp_in d_Mr_read_34 rfl rfl, fun _ _ _ _ _ _ => wp_getA d_Mr_read_35 fl_11_20 rfl, fun _ _ _ _ _ _ => wp_getI d_Mr_read_38 fl_11_122 rfl, fun _ _ _ _ _ => wp_retI d_Mr_read_41 rfl⟩
theorem d_Mr_word_0 : decode (fnB F_Mr_word) 0 = .ok (.iload_n 1, 1) := by decide +kernel
theorem d_Mr_word_1 : decode (fnB F_Mr_word) 1 = .ok (.invokestatic 125, 3) := by decide +kernel
theorem d_Mr_word_4 : decode (fnB F_Mr_word) 4 = .ok (.ifCond .ne 6, 3) := by decide +kernel
theorem d_Mr_word_7 : decode (fnB F_Mr_word) 7 = .ok (.bipush (-2), 2) := by decide +kernel
theorem d_Mr_word_9 : decode (fnB F_Mr_word) 9 = .ok (.ireturn, 1) := by decide +kernel
theorem d_Mr_word_10 : decode (fnB F_Mr_word) 10 = .ok (.aload_n 0, 1) := by decide +kernel
theorem d_Mr_word_11 : decode (fnB F_Mr_word) 11 = .ok (.getfield 107, 3) := by decide +kernel
theorem d_Mr_word_14 : decode (fnB F_Mr_word) 14 = .ok (.istore_n 2, 1) := by decide +kernel
theorem d_Mr_word_15 : decode (fnB F_Mr_word) 15 = .ok (.aload_n 0, 1) := by decide +kernel
theorem d_Mr_word_16 : decode (fnB F_Mr_word) 16 = .ok (.iconst 0, 1) := by decide +kernel
theorem d_Mr_word_17 : decode (fnB F_Mr_word) 17 = .ok (.putfield 107, 3) := by decide +kernel
theorem d_Mr_word_20 : decode (fnB F_Mr_word) 20 = .ok (.aload_n 0, 1) := by decide +kernel
theorem d_Mr_word_21 : decode (fnB F_Mr_word) 21 = .ok (.getfield 20, 3) := by decide +kernel
theorem d_Mr_word_24 : decode (fnB F_Mr_word) 24 = .ok (.aload_n 0, 1) := by decide +kernel
theorem d_Mr_word_25 : decode (fnB F_Mr_word) 25 = .ok (.getfield 9, 3) := by decide +kernel
theorem d_Mr_word_28 : decode (fnB F_Mr_word) 28 = .ok (.iload_n 2, 1) := by decide +kernel
theorem d_Mr_word_29 : decode (fnB F_Mr_word) 29 = .ok (.aload_n 0, 1) := by decide +kernel
theorem d_Mr_word_30 : decode (fnB F_Mr_word) 30 = .ok (.getfield 13, 3) := by decide +kernel
theorem d_Mr_word_33 : decode (fnB F_Mr_word) 33 = .ok (.invokevirtual 129, 3) := by decide +kernel
theorem d_Mr_word_36 : decode (fnB F_Mr_word) 36 = .ok (.ifCond .ne 8, 3) := by decide +kernel
theorem d_Mr_word_39 : decode (fnB F_Mr_word) 39 = .ok (.aload_n 0, 1) := by decide +kernel
theorem d_Mr_word_40 : decode (fnB F_Mr_word) 40 = .ok (.invokevirtual 115, 3) := by decide +kernel
theorem d_Mr_word_43 : decode (fnB F_Mr_word) 43 = .ok (.ireturn, 1) := by decide +kernel
theorem d_Mr_word_44 : decode (fnB F_Mr_word) 44 = .ok (.aload_n 0, 1) := by decide +kernel
theorem d_Mr_word_45 : decode (fnB F_Mr_word) 45 = .ok (.getfield 26, 3) := by decide +kernel
theorem d_Mr_word_48 : decode (fnB F_Mr_word) 48 = .ok (.iload_n 1, 1) := by decide +kernel
theorem d_Mr_word_49 : decode (fnB F_Mr_word) 49 = .ok (.aaload, 1) := by decide +kernel
theorem d_Mr_word_50 : decode (fnB F_Mr_word) 50 = .ok (.aload_n 0, 1) := by decide +kernel
theorem d_Mr_word_51 : decode (fnB F_Mr_word) 51 = .ok (.getfield 20, 3) := by decide +kernel
theorem d_Mr_word_54 : decode (fnB F_Mr_word) 54 = .ok (.getfield 133, 3) := by decide +kernel
theorem d_Mr_word_57 : decode (fnB F_Mr_word) 57 = .ok (.invokevirtual 136, 3) := by decide +kernel
theorem d_Mr_word_60 : decode (fnB F_Mr_word) 60 = .ok (.aload_n 0, 1) := by decide +kernel
theorem d_Mr_word_61 : decode (fnB F_Mr_word) 61 = .ok (.getfield 26, 3) := by decide +kernel
theorem d_Mr_word_64 : decode (fnB F_Mr_word) 64 = .ok (.iload_n 1, 1) := by decide +kernel
theorem d_Mr_word_65 : decode (fnB F_Mr_word) 65 = .ok (.aaload, 1) := by decide +kernel
theorem d_Mr_word_66 : decode (fnB F_Mr_word) 66 = .ok (.getfield 140, 3) := by decide +kernel
theorem d_Mr_word_69 : decode (fnB F_Mr_word) 69 = .ok (.ireturn, 1) := by decide +kernel
theorem B_Mr_word_0 : (∀ (l0 l2 : Value) (x : Int32) (st : List Value) (M : Mm) (Q : Option Value → Mm → Prop), wp F_Mr_word 0 [l0, .int x, l2] st M Q = wp F_Mr_word 1 [l0, .int x, l2] (.int x :: st) M Q) ∧
  (∀ (l0 l1 l2 : Value) (p0 : Int32) (M : Mm) (Q : Option Value → Mm → Prop), wp F_Mr_word 1 [l0, l1, l2] [.int p0] M Q = wp F_Mr_isSlot 0 [.int p0] [] M (fun r M1 => wp F_Mr_word 4 [l0, l1, l2] (r.toList ++ []) M1 Q)) ∧
  (∀ (l0 l1 l2 : Value) (x : Int32) (st : List Value) (M : Mm) (Q : Option Value → Mm → Prop), wp F_Mr_word 4 [l0, l1, l2] (.int x :: st) M Q = if x = 0 then wp F_Mr_word 7 [l0, l1, l2] st M Q else wp F_Mr_word 10 [l0, l1, l2] st M Q) ∧
  (∀ (l0 l1 l2 : Value) (st : List Value) (M : Mm) (Q : Option Value → Mm → Prop), wp F_Mr_word 7 [l0, l1, l2] st M Q = wp F_Mr_word 9 [l0, l1, l2] (.int (-2) :: st) M Q) ∧
  (∀ (l0 l1 l2 : Value) (v : Int32) (M : Mm) (Q : Option Value → Mm → Prop), wp F_Mr_word 9 [l0, l1, l2] [.int v] M Q = Q (some (.int v)) M) := ⟨fun _ _ _ _ _ _ => wp_in d_Mr_word_0 rfl rfl, fun _ _ _ _ _ _ => wp_callS d_Mr_word_1 ml_11_125 (Nat.le_of_ble_eq_true rfl) rfl rfl rfl, fun _ _ _ _ _ _ _ => wp_if_ne d_Mr_word_4 rfl, fun _ _ _ _ _ _ => wp_bipush d_Mr_word_7 (by decide), fun _ _ _ _ _ _ => wp_retI d_Mr_word_9 rfl⟩
theorem B_Mr_word_10 : (∀ (l1 l2 : Value) (x : Nat) (st : List Value) (M : Mm) (Q : Option Value → Mm → Prop), wp F_Mr_word 10 [.ref x, l1, l2] st M Q = wp F_Mr_word 11 [.ref x, l1, l2] (.ref x :: st) M Q) ∧
  (∀ (l0 l1 l2 : Value) (a : Nat) (st : List Value) (M : Mm) (Q : Option Value → Mm → Prop), wp F_Mr_word 11 [l0, l1, l2] (.ref a :: st) M Q = (sh M a = some (.inl 11) ∧ wp F_Mr_word 14 [l0, l1, l2] (.int (gI M a 1) :: st) M Q)) ∧
  (∀ (l0 l1 l2 : Value) (x : Int32) (st : List Value) (M : Mm) (Q : Option Value → Mm → Prop), wp F_Mr_word 14 [l0, l1, l2] (.int x :: st) M Q = wp F_Mr_word 15 [l0, clr l1, .int x] st M Q) ∧
  (∀ (l1 l2 : Value) (x : Nat) (st : List Value) (M : Mm) (Q : Option Value → Mm → Prop), wp F_Mr_word 15 [.ref x, l1, l2] st M Q = wp F_Mr_word 16 [.ref x, l1, l2] (.ref x :: st) M Q) ∧
  (∀ (l0 l1 l2 : Value) (st : List Value) (M : Mm) (Q : Option Value → Mm → Prop), wp F_Mr_word 16 [l0, l1, l2] st M Q = wp F_Mr_word 17 [l0, l1, l2] (.int 0 :: st) M Q) ∧
  (∀ (l0 l1 l2 : Value) (a : Nat) (x : Int32) (st : List Value) (M : Mm) (Q : Option Value → Mm → Prop), wp F_Mr_word 17 [l0, l1, l2] (.int x :: .ref a :: st) M Q = (sh M a = some (.inl 11) ∧ wp F_Mr_word 20 [l0, l1, l2] st (sI M a 1 x) Q)) ∧
  (∀ (l1 l2 : Value) (x : Nat) (st : List Value) (M : Mm) (Q : Option Value → Mm → Prop), wp F_Mr_word 20 [.ref x, l1, l2] st M Q = wp F_Mr_word 21 [.ref x, l1, l2] (.ref x :: st) M Q) ∧
  (∀ (l0 l1 l2 : Value) (a : Nat) (st : List Value) (M : Mm) (Q : Option Value → Mm → Prop), wp F_Mr_word 21 [l0, l1, l2] (.ref a :: st) M Q = (sh M a = some (.inl 11) ∧ wp F_Mr_word 24 [l0, l1, l2] (va_rf (gR M a 4) :: st) M Q)) ∧
  (∀ (l1 l2 : Value) (x : Nat) (st : List Value) (M : Mm) (Q : Option Value → Mm → Prop), wp F_Mr_word 24 [.ref x, l1, l2] st M Q = wp F_Mr_word 25 [.ref x, l1, l2] (.ref x :: st) M Q) ∧
  (∀ (l0 l1 l2 : Value) (a : Nat) (st : List Value) (M : Mm) (Q : Option Value → Mm → Prop), wp F_Mr_word 25 [l0, l1, l2] (.ref a :: st) M Q = (sh M a = some (.inl 11) ∧ wp F_Mr_word 28 [l0, l1, l2] (va_rf (gR M a 0) :: st) M Q)) ∧
  (∀ (l0 l1 : Value) (x : Int32) (st : List Value) (M : Mm) (Q : Option Value → Mm → Prop), wp F_Mr_word 28 [l0, l1, .int x] st M Q = wp F_Mr_word 29 [l0, l1, .int x] (.int x :: st) M Q) ∧
  (∀ (l1 l2 : Value) (x : Nat) (st : List Value) (M : Mm) (Q : Option Value → Mm → Prop), wp F_Mr_word 29 [.ref x, l1, l2] st M Q = wp F_Mr_word 30 [.ref x, l1, l2] (.ref x :: st) M Q) ∧
  (∀ (l0 l1 l2 : Value) (a : Nat) (st : List Value) (M : Mm) (Q : Option Value → Mm → Prop), wp F_Mr_word 30 [l0, l1, l2] (.ref a :: st) M Q = (sh M a = some (.inl 11) ∧ wp F_Mr_word 33 [l0, l1, l2] (va_rf (gR M a 3) :: st) M Q)) ∧
  (∀ (l0 l1 l2 : Value) (b : Nat) (p0 : Nat) (p1 : Int32) (p2 : Nat) (M : Mm) (Q : Option Value → Mm → Prop), wp F_Mr_word 33 [l0, l1, l2] [.ref p2, .int p1, .ref p0, .ref b] M Q = (sh M b = some (.inl 5) ∧ wp F_Presentation_takeSlotWord 0 [.ref b, .ref p0, .int p1, .ref p2, jk] [] M (fun r M1 => wp F_Mr_word 36 [l0, l1, l2] (r.toList ++ []) M1 Q))) ∧
  (∀ (l0 l1 l2 : Value) (x : Int32) (st : List Value) (M : Mm) (Q : Option Value → Mm → Prop), wp F_Mr_word 36 [l0, l1, l2] (.int x :: st) M Q = if x = 0 then wp F_Mr_word 39 [l0, l1, l2] st M Q else wp F_Mr_word 44 [l0, l1, l2] st M Q) ∧
  (∀ (l1 l2 : Value) (x : Nat) (st : List Value) (M : Mm) (Q : Option Value → Mm → Prop), wp F_Mr_word 39 [.ref x, l1, l2] st M Q = wp F_Mr_word 40 [.ref x, l1, l2] (.ref x :: st) M Q) ∧
  (∀ (l0 l1 l2 : Value) (b : Nat) (M : Mm) (Q : Option Value → Mm → Prop), wp F_Mr_word 40 [l0, l1, l2] [.ref b] M Q = (sh M b = some (.inl 11) ∧ wp F_Mr_tellFault 0 [.ref b] [] M (fun r M1 => wp F_Mr_word 43 [l0, l1, l2] (r.toList ++ []) M1 Q))) ∧
  (∀ (l0 l1 l2 : Value) (v : Int32) (M : Mm) (Q : Option Value → Mm → Prop), wp F_Mr_word 43 [l0, l1, l2] [.int v] M Q = Q (some (.int v)) M) := ⟨fun _ _ _ _ _ _ => wp_in d_Mr_word_10 rfl rfl, fun _ _ _ _ _ _ _ => wp_getI d_Mr_word_11 fl_11_107 rfl, fun _ _ _ _ _ _ _ => wp_in d_Mr_word_14 rfl rfl, fun _ _ _ _ _ _ => wp_in d_Mr_word_15 rfl rfl, fun _ _ _ _ _ _ => wp_iconst d_Mr_word_16 (by decide), fun _ _ _ _ _ _ _ _ => wp_putI d_Mr_word_17 fl_11_107 rfl rfl, fun _ _ _ _ _ _ => wp_in d_Mr_word_20 rfl rfl, fun _ _ _ _ _ _ _ => wp_getA d_Mr_word_21 fl_11_20 rfl, fun _ _ _ _ _ _ => wp_in d_Mr_word_24 rfl rfl, fun _ _ _ _ _ _ _ => wp_getA d_Mr_word_25 fl_11_9 rfl, fun _ _ _ _ _ _ => wp_in d_Mr_word_28 rfl rfl, fun _ _ _ _ _ _ => wp_in d_Mr_word_29 rfl rfl, fun _ _ _ _ _ _ _ => wp_getA d_Mr_word_30 fl_11_13 rfl, fun _ _ _ _ _ _ _ _ _ => wp_callV d_Mr_word_33 ml_11_129 rfl rfl rfl, fun _ _ _ _ _ _ _ => wp_if_ne d_Mr_word_36 rfl, fun _ _ _ _ _ _ => wp_in d_Mr_word_39 rfl rfl, fun _ _ _ _ _ _ => wp_callV d_Mr_word_40 ml_11_115 rfl rfl rfl, fun _ _ _ _ _ _ => wp_retI d_Mr_word_43 rfl⟩
theorem B_Mr_word_44 : (∀ (l1 l2 : Value) (x : Nat) (st : List Value) (M : Mm) (Q : Option Value → Mm → Prop), wp F_Mr_word 44 [.ref x, l1, l2] st M Q = wp F_Mr_word 45 [.ref x, l1, l2] (.ref x :: st) M Q) ∧
  (∀ (l0 l1 l2 : Value) (a : Nat) (st : List Value) (M : Mm) (Q : Option Value → Mm → Prop), wp F_Mr_word 45 [l0, l1, l2] (.ref a :: st) M Q = (sh M a = some (.inl 11) ∧ wp F_Mr_word 48 [l0, l1, l2] (va_rf (gR M a 5) :: st) M Q)) ∧
  (∀ (l0 l2 : Value) (x : Int32) (st : List Value) (M : Mm) (Q : Option Value → Mm → Prop), wp F_Mr_word 48 [l0, .int x, l2] st M Q = wp F_Mr_word 49 [l0, .int x, l2] (.int x :: st) M Q) ∧
  (∀ (l0 l1 l2 : Value) (a : Nat) (j : Int32) (st : List Value) (M : Mm) (Q : Option Value → Mm → Prop), wp F_Mr_word 49 [l0, l1, l2] (.int j :: .ref a :: st) M Q = (ixR M a j ∧ wp F_Mr_word 50 [l0, l1, l2] (va_rf (gR M a (cl j)) :: st) M Q)) ∧
  (∀ (l1 l2 : Value) (x : Nat) (st : List Value) (M : Mm) (Q : Option Value → Mm → Prop), wp F_Mr_word 50 [.ref x, l1, l2] st M Q = wp F_Mr_word 51 [.ref x, l1, l2] (.ref x :: st) M Q) ∧
  (∀ (l0 l1 l2 : Value) (a : Nat) (st : List Value) (M : Mm) (Q : Option Value → Mm → Prop), wp F_Mr_word 51 [l0, l1, l2] (.ref a :: st) M Q = (sh M a = some (.inl 11) ∧ wp F_Mr_word 54 [l0, l1, l2] (va_rf (gR M a 4) :: st) M Q)) ∧
  (∀ (l0 l1 l2 : Value) (a : Nat) (st : List Value) (M : Mm) (Q : Option Value → Mm → Prop), wp F_Mr_word 54 [l0, l1, l2] (.ref a :: st) M Q = (sh M a = some (.inl 5) ∧ wp F_Mr_word 57 [l0, l1, l2] (va_rf (gR M a 3) :: st) M Q)) ∧
  (∀ (l0 l1 l2 : Value) (b : Nat) (p0 : Nat) (M : Mm) (Q : Option Value → Mm → Prop), wp F_Mr_word 57 [l0, l1, l2] [.ref p0, .ref b] M Q = (sh M b = some (.inl 10) ∧ wp F_Word_become 0 [.ref b, .ref p0, jk, jk] [] M (fun r M1 => wp F_Mr_word 60 [l0, l1, l2] (r.toList ++ []) M1 Q))) ∧
  (∀ (l1 l2 : Value) (x : Nat) (st : List Value) (M : Mm) (Q : Option Value → Mm → Prop), wp F_Mr_word 60 [.ref x, l1, l2] st M Q = wp F_Mr_word 61 [.ref x, l1, l2] (.ref x :: st) M Q) ∧
  (∀ (l0 l1 l2 : Value) (a : Nat) (st : List Value) (M : Mm) (Q : Option Value → Mm → Prop), wp F_Mr_word 61 [l0, l1, l2] (.ref a :: st) M Q = (sh M a = some (.inl 11) ∧ wp F_Mr_word 64 [l0, l1, l2] (va_rf (gR M a 5) :: st) M Q)) ∧
  (∀ (l0 l2 : Value) (x : Int32) (st : List Value) (M : Mm) (Q : Option Value → Mm → Prop), wp F_Mr_word 64 [l0, .int x, l2] st M Q = wp F_Mr_word 65 [l0, .int x, l2] (.int x :: st) M Q) ∧
  (∀ (l0 l1 l2 : Value) (a : Nat) (j : Int32) (st : List Value) (M : Mm) (Q : Option Value → Mm → Prop), wp F_Mr_word 65 [l0, l1, l2] (.int j :: .ref a :: st) M Q = (ixR M a j ∧ wp F_Mr_word 66 [l0, l1, l2] (va_rf (gR M a (cl j)) :: st) M Q)) ∧
  (∀ (l0 l1 l2 : Value) (a : Nat) (st : List Value) (M : Mm) (Q : Option Value → Mm → Prop), wp F_Mr_word 66 [l0, l1, l2] (.ref a :: st) M Q = (sh M a = some (.inl 10) ∧ wp F_Mr_word 69 [l0, l1, l2] (.int (gI M a 1) :: st) M Q)) ∧
  (∀ (l0 l1 l2 : Value) (v : Int32) (M : Mm) (Q : Option Value → Mm → Prop), wp F_Mr_word 69 [l0, l1, l2] [.int v] M Q = Q (some (.int v)) M) := ⟨fun _ _ _ _ _ _ => wp_in d_Mr_word_44 rfl rfl, fun _ _ _ _ _ _ _ => wp_getA d_Mr_word_45 fl_11_26 rfl, fun _ _ _ _ _ _ => wp_in d_Mr_word_48 rfl rfl, fun _ _ _ _ _ _ _ _ => wp_aald d_Mr_word_49, fun _ _ _ _ _ _ => wp_in d_Mr_word_50 rfl rfl, fun _ _ _ _ _ _ _ => wp_getA d_Mr_word_51 fl_11_20 rfl, fun _ _ _ _ _ _ _ => wp_getA d_Mr_word_54 fl_11_133 rfl, fun _ _ _ _ _ _ _ => wp_callV d_Mr_word_57 ml_11_136 rfl rfl rfl, fun _ _ _ _ _ _ => wp_in d_Mr_word_60 rfl rfl, fun _ _ _ _ _ _ _ => wp_getA d_Mr_word_61 fl_11_26 rfl, fun _ _ _ _ _ _ => wp_in d_Mr_word_64 rfl rfl, fun _ _ _ _ _ _ _ _ => wp_aald d_Mr_word_65, fun _ _ _ _ _ _ _ => wp_getI d_Mr_word_66 fl_11_140 rfl, fun _ _ _ _ _ _ => wp_retI d_Mr_word_69 rfl⟩
theorem d_Mr_fault_0 : decode (fnB F_Mr_fault) 0 = .ok (.aload_n 0, 1) := by decide +kernel
theorem d_Mr_fault_1 : decode (fnB F_Mr_fault) 1 = .ok (.getfield 143, 3) := by decide +kernel
theorem d_Mr_fault_4 : decode (fnB F_Mr_fault) 4 = .ok (.ireturn, 1) := by decide +kernel
theorem B_Mr_fault_0 : (∀ (x : Nat) (st : List Value) (M : Mm) (Q : Option Value → Mm → Prop), wp F_Mr_fault 0 [.ref x] st M Q = wp F_Mr_fault 1 [.ref x] (.ref x :: st) M Q) ∧
  (∀ (l0 : Value) (a : Nat) (st : List Value) (M : Mm) (Q : Option Value → Mm → Prop), wp F_Mr_fault 1 [l0] (.ref a :: st) M Q = (sh M a = some (.inl 11) ∧ wp F_Mr_fault 4 [l0] (.int (gI M a 2) :: st) M Q)) ∧
  (∀ (l0 : Value) (v : Int32) (M : Mm) (Q : Option Value → Mm → Prop), wp F_Mr_fault 4 [l0] [.int v] M Q = Q (some (.int v)) M) := ⟨fun _ _ _ _ => wp_in d_Mr_fault_0 rfl rfl, fun _ _ _ _ _ => wp_getI d_Mr_fault_1 fl_11_143 rfl, fun _ _ _ _ => wp_retI d_Mr_fault_4 rfl⟩
theorem d_Mr_tellFault_0 : decode (fnB F_Mr_tellFault) 0 = .ok (.aload_n 0, 1) := by decide +kernel
theorem d_Mr_tellFault_1 : decode (fnB F_Mr_tellFault) 1 = .ok (.aload_n 0, 1) := by decide +kernel
theorem d_Mr_tellFault_2 : decode (fnB F_Mr_tellFault) 2 = .ok (.getfield 20, 3) := by decide +kernel
theorem d_Mr_tellFault_5 : decode (fnB F_Mr_tellFault) 5 = .ok (.getfield 146, 3) := by decide +kernel
theorem d_Mr_tellFault_8 : decode (fnB F_Mr_tellFault) 8 = .ok (.putfield 143, 3) := by decide +kernel
theorem d_Mr_tellFault_11 : decode (fnB F_Mr_tellFault) 11 = .ok (.sipush (-1000), 3) := by decide +kernel
theorem d_Mr_tellFault_14 : decode (fnB F_Mr_tellFault) 14 = .ok (.aload_n 0, 1) := by decide +kernel
theorem d_Mr_tellFault_15 : decode (fnB F_Mr_tellFault) 15 = .ok (.getfield 20, 3) := by decide +kernel
theorem d_Mr_tellFault_18 : decode (fnB F_Mr_tellFault) 18 = .ok (.getfield 149, 3) := by decide +kernel
theorem d_Mr_tellFault_21 : decode (fnB F_Mr_tellFault) 21 = .ok (.isub, 1) := by decide +kernel
theorem d_Mr_tellFault_22 : decode (fnB F_Mr_tellFault) 22 = .ok (.ireturn, 1) := by decide +kernel
theorem B_Mr_tellFault_0 : (∀ (x : Nat) (st : List Value) (M : Mm) (Q : Option Value → Mm → Prop), wp F_Mr_tellFault 0 [.ref x] st M Q = wp F_Mr_tellFault 1 [.ref x] (.ref x :: st) M Q) ∧
  (∀ (x : Nat) (st : List Value) (M : Mm) (Q : Option Value → Mm → Prop), wp F_Mr_tellFault 1 [.ref x] st M Q = wp F_Mr_tellFault 2 [.ref x] (.ref x :: st) M Q) ∧
  (∀ (l0 : Value) (a : Nat) (st : List Value) (M : Mm) (Q : Option Value → Mm → Prop), wp F_Mr_tellFault 2 [l0] (.ref a :: st) M Q = (sh M a = some (.inl 11) ∧ wp F_Mr_tellFault 5 [l0] (va_rf (gR M a 4) :: st) M Q)) ∧
  (∀ (l0 : Value) (a : Nat) (st : List Value) (M : Mm) (Q : Option Value → Mm → Prop), wp F_Mr_tellFault 5 [l0] (.ref a :: st) M Q = (sh M a = some (.inl 5) ∧ wp F_Mr_tellFault 8 [l0] (.int (gI M a 8) :: st) M Q)) ∧
  (∀ (l0 : Value) (a : Nat) (x : Int32) (st : List Value) (M : Mm) (Q : Option Value → Mm → Prop), wp F_Mr_tellFault 8 [l0] (.int x :: .ref a :: st) M Q = (sh M a = some (.inl 11) ∧ wp F_Mr_tellFault 11 [l0] st (sI M a 2 x) Q)) ∧
  (∀ (l0 : Value) (st : List Value) (M : Mm) (Q : Option Value → Mm → Prop), wp F_Mr_tellFault 11 [l0] st M Q = wp F_Mr_tellFault 14 [l0] (.int (-1000) :: st) M Q) ∧
  (∀ (x : Nat) (st : List Value) (M : Mm) (Q : Option Value → Mm → Prop), wp F_Mr_tellFault 14 [.ref x] st M Q = wp F_Mr_tellFault 15 [.ref x] (.ref x :: st) M Q) ∧
  (∀ (l0 : Value) (a : Nat) (st : List Value) (M : Mm) (Q : Option Value → Mm → Prop), wp F_Mr_tellFault 15 [l0] (.ref a :: st) M Q = (sh M a = some (.inl 11) ∧ wp F_Mr_tellFault 18 [l0] (va_rf (gR M a 4) :: st) M Q)) ∧
  (∀ (l0 : Value) (a : Nat) (st : List Value) (M : Mm) (Q : Option Value → Mm → Prop), wp F_Mr_tellFault 18 [l0] (.ref a :: st) M Q = (sh M a = some (.inl 5) ∧ wp F_Mr_tellFault 21 [l0] (.int (gI M a 9) :: st) M Q)) ∧
  (∀ (l0 : Value) (x y : Int32) (st : List Value) (M : Mm) (Q : Option Value → Mm → Prop), wp F_Mr_tellFault 21 [l0] (.int y :: .int x :: st) M Q = wp F_Mr_tellFault 22 [l0] (.int (x - y) :: st) M Q) ∧
  (∀ (l0 : Value) (v : Int32) (M : Mm) (Q : Option Value → Mm → Prop), wp F_Mr_tellFault 22 [l0] [.int v] M Q = Q (some (.int v)) M) := ⟨fun _ _ _ _ => wp_in d_Mr_tellFault_0 rfl rfl, fun _ _ _ _ => wp_in d_Mr_tellFault_1 rfl rfl, fun _ _ _ _ _ => wp_getA d_Mr_tellFault_2 fl_11_20 rfl, fun _ _ _ _ _ => wp_getI d_Mr_tellFault_5 fl_11_146 rfl, fun _ _ _ _ _ _ => wp_putI d_Mr_tellFault_8 fl_11_143 rfl rfl, fun _ _ _ _ => wp_sipush d_Mr_tellFault_11 (by decide), fun _ _ _ _ => wp_in d_Mr_tellFault_14 rfl rfl, fun _ _ _ _ _ => wp_getA d_Mr_tellFault_15 fl_11_20 rfl, fun _ _ _ _ _ => wp_getI d_Mr_tellFault_18 fl_11_149 rfl, fun _ _ _ _ _ _ => wp_in d_Mr_tellFault_21 rfl rfl, fun _ _ _ _ => wp_retI d_Mr_tellFault_22 rfl⟩
theorem d_Mr_beginSystem_0 : decode (fnB F_Mr_beginSystem) 0 = .ok (.aload_n 0, 1) := by decide +kernel
theorem d_Mr_beginSystem_1 : decode (fnB F_Mr_beginSystem) 1 = .ok (.getfield 20, 3) := by decide +kernel
theorem d_Mr_beginSystem_4 : decode (fnB F_Mr_beginSystem) 4 = .ok (.getfield 152, 3) := by decide +kernel
theorem d_Mr_beginSystem_7 : decode (fnB F_Mr_beginSystem) 7 = .ok (.iconst 0, 1) := by decide +kernel
theorem d_Mr_beginSystem_8 : decode (fnB F_Mr_beginSystem) 8 = .ok (.aload_n 0, 1) := by decide +kernel
theorem d_Mr_beginSystem_9 : decode (fnB F_Mr_beginSystem) 9 = .ok (.getfield 13, 3) := by decide +kernel
theorem d_Mr_beginSystem_12 : decode (fnB F_Mr_beginSystem) 12 = .ok (.iconst 0, 1) := by decide +kernel
theorem d_Mr_beginSystem_13 : decode (fnB F_Mr_beginSystem) 13 = .ok (.bipush 26, 2) := by decide +kernel
theorem d_Mr_beginSystem_15 : decode (fnB F_Mr_beginSystem) 15 = .ok (.invokestatic 155, 3) := by decide +kernel
theorem d_Mr_beginSystem_18 : decode (fnB F_Mr_beginSystem) 18 = .ok (.iconst 0, 1) := by decide +kernel
theorem d_Mr_beginSystem_19 : decode (fnB F_Mr_beginSystem) 19 = .ok (.istore_n 1, 1) := by decide +kernel
theorem d_Mr_beginSystem_20 : decode (fnB F_Mr_beginSystem) 20 = .ok (.iload_n 1, 1) := by decide +kernel
theorem d_Mr_beginSystem_21 : decode (fnB F_Mr_beginSystem) 21 = .ok (.bipush 8, 2) := by decide +kernel
theorem d_Mr_beginSystem_23 : decode (fnB F_Mr_beginSystem) 23 = .ok (.if_icmp .ge 18, 3) := by decide +kernel
theorem d_Mr_beginSystem_26 : decode (fnB F_Mr_beginSystem) 26 = .ok (.aload_n 0, 1) := by decide +kernel
theorem d_Mr_beginSystem_27 : decode (fnB F_Mr_beginSystem) 27 = .ok (.getfield 26, 3) := by decide +kernel
theorem d_Mr_beginSystem_30 : decode (fnB F_Mr_beginSystem) 30 = .ok (.iload_n 1, 1) := by decide +kernel
theorem d_Mr_beginSystem_31 : decode (fnB F_Mr_beginSystem) 31 = .ok (.aaload, 1) := by decide +kernel
theorem d_Mr_beginSystem_32 : decode (fnB F_Mr_beginSystem) 32 = .ok (.invokevirtual 161, 3) := by decide +kernel
theorem d_Mr_beginSystem_35 : decode (fnB F_Mr_beginSystem) 35 = .ok (.iinc 1 1, 3) := by decide +kernel
theorem d_Mr_beginSystem_38 : decode (fnB F_Mr_beginSystem) 38 = .ok (.goto (-18), 3) := by decide +kernel
theorem d_Mr_beginSystem_41 : decode (fnB F_Mr_beginSystem) 41 = .ok (.aload_n 0, 1) := by decide +kernel
theorem d_Mr_beginSystem_42 : decode (fnB F_Mr_beginSystem) 42 = .ok (.getfield 33, 3) := by decide +kernel
theorem d_Mr_beginSystem_45 : decode (fnB F_Mr_beginSystem) 45 = .ok (.aload_n 0, 1) := by decide +kernel
theorem d_Mr_beginSystem_46 : decode (fnB F_Mr_beginSystem) 46 = .ok (.getfield 20, 3) := by decide +kernel
theorem d_Mr_beginSystem_49 : decode (fnB F_Mr_beginSystem) 49 = .ok (.getfield 164, 3) := by decide +kernel
theorem d_Mr_beginSystem_52 : decode (fnB F_Mr_beginSystem) 52 = .ok (.invokevirtual 167, 3) := by decide +kernel
theorem d_Mr_beginSystem_55 : decode (fnB F_Mr_beginSystem) 55 = .ok (.aload_n 0, 1) := by decide +kernel
theorem d_Mr_beginSystem_56 : decode (fnB F_Mr_beginSystem) 56 = .ok (.getfield 40, 3) := by decide +kernel
theorem d_Mr_beginSystem_59 : decode (fnB F_Mr_beginSystem) 59 = .ok (.invokevirtual 170, 3) := by decide +kernel
theorem d_Mr_beginSystem_62 : decode (fnB F_Mr_beginSystem) 62 = .ok (.iconst 0, 1) := by decide +kernel
theorem d_Mr_beginSystem_63 : decode (fnB F_Mr_beginSystem) 63 = .ok (.istore_n 1, 1) := by decide +kernel
theorem d_Mr_beginSystem_64 : decode (fnB F_Mr_beginSystem) 64 = .ok (.iload_n 1, 1) := by decide +kernel
theorem d_Mr_beginSystem_65 : decode (fnB F_Mr_beginSystem) 65 = .ok (.aload_n 0, 1) := by decide +kernel
theorem d_Mr_beginSystem_66 : decode (fnB F_Mr_beginSystem) 66 = .ok (.getfield 20, 3) := by decide +kernel
theorem d_Mr_beginSystem_69 : decode (fnB F_Mr_beginSystem) 69 = .ok (.getfield 122, 3) := by decide +kernel
theorem d_Mr_beginSystem_72 : decode (fnB F_Mr_beginSystem) 72 = .ok (.if_icmp .ge 51, 3) := by decide +kernel
theorem d_Mr_beginSystem_75 : decode (fnB F_Mr_beginSystem) 75 = .ok (.aload_n 0, 1) := by decide +kernel
theorem d_Mr_beginSystem_76 : decode (fnB F_Mr_beginSystem) 76 = .ok (.getfield 40, 3) := by decide +kernel
theorem d_Mr_beginSystem_79 : decode (fnB F_Mr_beginSystem) 79 = .ok (.invokevirtual 171, 3) := by decide +kernel
theorem d_Mr_beginSystem_82 : decode (fnB F_Mr_beginSystem) 82 = .ok (.astore_n 2, 1) := by decide +kernel
theorem d_Mr_beginSystem_83 : decode (fnB F_Mr_beginSystem) 83 = .ok (.aload_n 2, 1) := by decide +kernel
theorem d_Mr_beginSystem_84 : decode (fnB F_Mr_beginSystem) 84 = .ok (.ifnull 33, 3) := by decide +kernel
theorem d_Mr_beginSystem_87 : decode (fnB F_Mr_beginSystem) 87 = .ok (.aload_n 0, 1) := by decide +kernel
theorem d_Mr_beginSystem_88 : decode (fnB F_Mr_beginSystem) 88 = .ok (.getfield 20, 3) := by decide +kernel
theorem d_Mr_beginSystem_91 : decode (fnB F_Mr_beginSystem) 91 = .ok (.iconst 2, 1) := by decide +kernel
theorem d_Mr_beginSystem_92 : decode (fnB F_Mr_beginSystem) 92 = .ok (.iload_n 1, 1) := by decide +kernel
theorem d_Mr_beginSystem_93 : decode (fnB F_Mr_beginSystem) 93 = .ok (.imul, 1) := by decide +kernel
theorem d_Mr_beginSystem_94 : decode (fnB F_Mr_beginSystem) 94 = .ok (.aload_n 2, 1) := by decide +kernel
theorem d_Mr_beginSystem_95 : decode (fnB F_Mr_beginSystem) 95 = .ok (.getfield 175, 3) := by decide +kernel
theorem d_Mr_beginSystem_98 : decode (fnB F_Mr_beginSystem) 98 = .ok (.invokevirtual 178, 3) := by decide +kernel
theorem d_Mr_beginSystem_101 : decode (fnB F_Mr_beginSystem) 101 = .ok (.aload_n 0, 1) := by decide +kernel
theorem d_Mr_beginSystem_102 : decode (fnB F_Mr_beginSystem) 102 = .ok (.getfield 20, 3) := by decide +kernel
theorem d_Mr_beginSystem_105 : decode (fnB F_Mr_beginSystem) 105 = .ok (.iconst 2, 1) := by decide +kernel
theorem d_Mr_beginSystem_106 : decode (fnB F_Mr_beginSystem) 106 = .ok (.iload_n 1, 1) := by decide +kernel
theorem d_Mr_beginSystem_107 : decode (fnB F_Mr_beginSystem) 107 = .ok (.imul, 1) := by decide +kernel
theorem d_Mr_beginSystem_108 : decode (fnB F_Mr_beginSystem) 108 = .ok (.iconst 1, 1) := by decide +kernel
theorem d_Mr_beginSystem_109 : decode (fnB F_Mr_beginSystem) 109 = .ok (.iadd, 1) := by decide +kernel
theorem d_Mr_beginSystem_110 : decode (fnB F_Mr_beginSystem) 110 = .ok (.aload_n 2, 1) := by decide +kernel
theorem d_Mr_beginSystem_111 : decode (fnB F_Mr_beginSystem) 111 = .ok (.getfield 182, 3) := by decide +kernel
theorem d_Mr_beginSystem_114 : decode (fnB F_Mr_beginSystem) 114 = .ok (.invokevirtual 178, 3) := by decide +kernel
theorem d_Mr_beginSystem_117 : decode (fnB F_Mr_beginSystem) 117 = .ok (.iinc 1 1, 3) := by decide +kernel
theorem d_Mr_beginSystem_120 : decode (fnB F_Mr_beginSystem) 120 = .ok (.goto (-56), 3) := by decide +kernel
theorem d_Mr_beginSystem_123 : decode (fnB F_Mr_beginSystem) 123 = .ok (.aload_n 0, 1) := by decide +kernel
theorem d_Mr_beginSystem_124 : decode (fnB F_Mr_beginSystem) 124 = .ok (.getfield 65, 3) := by decide +kernel
theorem d_Mr_beginSystem_127 : decode (fnB F_Mr_beginSystem) 127 = .ok (.invokevirtual 183, 3) := by decide +kernel
theorem d_Mr_beginSystem_130 : decode (fnB F_Mr_beginSystem) 130 = .ok (.aload_n 0, 1) := by decide +kernel
theorem d_Mr_beginSystem_131 : decode (fnB F_Mr_beginSystem) 131 = .ok (.getfield 74, 3) := by decide +kernel
theorem d_Mr_beginSystem_134 : decode (fnB F_Mr_beginSystem) 134 = .ok (.invokevirtual 185, 3) := by decide +kernel
theorem d_Mr_beginSystem_137 : decode (fnB F_Mr_beginSystem) 137 = .ok (.aload_n 0, 1) := by decide +kernel
theorem d_Mr_beginSystem_138 : decode (fnB F_Mr_beginSystem) 138 = .ok (.getfield 81, 3) := by decide +kernel
theorem d_Mr_beginSystem_141 : decode (fnB F_Mr_beginSystem) 141 = .ok (.invokevirtual 186, 3) := by decide +kernel
theorem d_Mr_beginSystem_144 : decode (fnB F_Mr_beginSystem) 144 = .ok (.aload_n 0, 1) := by decide +kernel
theorem d_Mr_beginSystem_145 : decode (fnB F_Mr_beginSystem) 145 = .ok (.iconst 0, 1) := by decide +kernel
theorem d_Mr_beginSystem_146 : decode (fnB F_Mr_beginSystem) 146 = .ok (.putfield 187, 3) := by decide +kernel
theorem d_Mr_beginSystem_149 : decode (fnB F_Mr_beginSystem) 149 = .ok (.return_, 1) := by decide +kernel
theorem B_Mr_beginSystem_0 : (∀ (l1 l2 : Value) (x : Nat) (st : List Value) (M : Mm) (Q : Option Value → Mm → Prop), wp F_Mr_beginSystem 0 [.ref x, l1, l2] st M Q = wp F_Mr_beginSystem 1 [.ref x, l1, l2] (.ref x :: st) M Q) ∧
  (∀ (l0 l1 l2 : Value) (a : Nat) (st : List Value) (M : Mm) (Q : Option Value → Mm → Prop), wp F_Mr_beginSystem 1 [l0, l1, l2] (.ref a :: st) M Q = (sh M a = some (.inl 11) ∧ wp F_Mr_beginSystem 4 [l0, l1, l2] (va_rf (gR M a 4) :: st) M Q)) ∧
  (∀ (l0 l1 l2 : Value) (a : Nat) (st : List Value) (M : Mm) (Q : Option Value → Mm → Prop), wp F_Mr_beginSystem 4 [l0, l1, l2] (.ref a :: st) M Q = (sh M a = some (.inl 5) ∧ wp F_Mr_beginSystem 7 [l0, l1, l2] (va_rf (gR M a 0) :: st) M Q)) ∧
  (∀ (l0 l1 l2 : Value) (st : List Value) (M : Mm) (Q : Option Value → Mm → Prop), wp F_Mr_beginSystem 7 [l0, l1, l2] st M Q = wp F_Mr_beginSystem 8 [l0, l1, l2] (.int 0 :: st) M Q) ∧
  (∀ (l1 l2 : Value) (x : Nat) (st : List Value) (M : Mm) (Q : Option Value → Mm → Prop), wp F_Mr_beginSystem 8 [.ref x, l1, l2] st M Q = wp F_Mr_beginSystem 9 [.ref x, l1, l2] (.ref x :: st) M Q) ∧
  (∀ (l0 l1 l2 : Value) (a : Nat) (st : List Value) (M : Mm) (Q : Option Value → Mm → Prop), wp F_Mr_beginSystem 9 [l0, l1, l2] (.ref a :: st) M Q = (sh M a = some (.inl 11) ∧ wp F_Mr_beginSystem 12 [l0, l1, l2] (va_rf (gR M a 3) :: st) M Q)) ∧
  (∀ (l0 l1 l2 : Value) (st : List Value) (M : Mm) (Q : Option Value → Mm → Prop), wp F_Mr_beginSystem 12 [l0, l1, l2] st M Q = wp F_Mr_beginSystem 13 [l0, l1, l2] (.int 0 :: st) M Q) ∧
  (∀ (l0 l1 l2 : Value) (st : List Value) (M : Mm) (Q : Option Value → Mm → Prop), wp F_Mr_beginSystem 13 [l0, l1, l2] st M Q = wp F_Mr_beginSystem 15 [l0, l1, l2] (.int 26 :: st) M Q) ∧
  (∀ (l0 l1 l2 : Value) (a b : Nat) (sp dp n : Int32) (M : Mm) (Q : Option Value → Mm → Prop), wp F_Mr_beginSystem 15 [l0, l1, l2] [.int n, .int dp, .ref b, .int sp, .ref a] M Q = (cpOk M a b sp dp n ∧ wp F_Mr_beginSystem 18 [l0, l1, l2] [] (cpI M a b (cl sp) (cl dp) (cl n)) Q)) ∧
  (∀ (l0 l1 l2 : Value) (st : List Value) (M : Mm) (Q : Option Value → Mm → Prop), wp F_Mr_beginSystem 18 [l0, l1, l2] st M Q = wp F_Mr_beginSystem 19 [l0, l1, l2] (.int 0 :: st) M Q) ∧
  (∀ (l0 l1 l2 : Value) (x : Int32) (st : List Value) (M : Mm) (Q : Option Value → Mm → Prop), wp F_Mr_beginSystem 19 [l0, l1, l2] (.int x :: st) M Q = wp F_Mr_beginSystem 20 [clr l0, .int x, l2] st M Q) := ⟨fun _ _ _ _ _ _ => wp_in d_Mr_beginSystem_0 rfl rfl, fun _ _ _ _ _ _ _ => wp_getA d_Mr_beginSystem_1 fl_11_20 rfl, fun _ _ _ _ _ _ _ => wp_getA d_Mr_beginSystem_4 fl_11_152 rfl, fun _ _ _ _ _ _ => wp_iconst d_Mr_beginSystem_7 (by decide), fun _ _ _ _ _ _ => wp_in d_Mr_beginSystem_8 rfl rfl, fun _ _ _ _ _ _ _ => wp_getA d_Mr_beginSystem_9 fl_11_13 rfl, fun _ _ _ _ _ _ => wp_iconst d_Mr_beginSystem_12 (by decide), fun _ _ _ _ _ _ => wp_bipush d_Mr_beginSystem_13 (by decide), fun _ _ _ _ _ _ _ _ _ _ => wp_copy d_Mr_beginSystem_15 ml_11_155 (Nat.le_of_ble_eq_true rfl), fun _ _ _ _ _ _ => wp_iconst d_Mr_beginSystem_18 (by decide), fun _ _ _ _ _ _ _ => wp_in d_Mr_beginSystem_19 rfl rfl⟩
theorem B_Mr_beginSystem_20 : (∀ (l0 l2 : Value) (x : Int32) (st : List Value) (M : Mm) (Q : Option Value → Mm → Prop), wp F_Mr_beginSystem 20 [l0, .int x, l2] st M Q = wp F_Mr_beginSystem 21 [l0, .int x, l2] (.int x :: st) M Q) ∧
  (∀ (l0 l1 l2 : Value) (st : List Value) (M : Mm) (Q : Option Value → Mm → Prop), wp F_Mr_beginSystem 21 [l0, l1, l2] st M Q = wp F_Mr_beginSystem 23 [l0, l1, l2] (.int 8 :: st) M Q) ∧
  (∀ (l0 l1 l2 : Value) (x y : Int32) (st : List Value) (M : Mm) (Q : Option Value → Mm → Prop), wp F_Mr_beginSystem 23 [l0, l1, l2] (.int y :: .int x :: st) M Q = if y ≤ x then wp F_Mr_beginSystem 41 [l0, l1, l2] st M Q else wp F_Mr_beginSystem 26 [l0, l1, l2] st M Q) ∧
  (∀ (l1 l2 : Value) (x : Nat) (st : List Value) (M : Mm) (Q : Option Value → Mm → Prop), wp F_Mr_beginSystem 26 [.ref x, l1, l2] st M Q = wp F_Mr_beginSystem 27 [.ref x, l1, l2] (.ref x :: st) M Q) ∧
  (∀ (l0 l1 l2 : Value) (a : Nat) (st : List Value) (M : Mm) (Q : Option Value → Mm → Prop), wp F_Mr_beginSystem 27 [l0, l1, l2] (.ref a :: st) M Q = (sh M a = some (.inl 11) ∧ wp F_Mr_beginSystem 30 [l0, l1, l2] (va_rf (gR M a 5) :: st) M Q)) ∧
  (∀ (l0 l2 : Value) (x : Int32) (st : List Value) (M : Mm) (Q : Option Value → Mm → Prop), wp F_Mr_beginSystem 30 [l0, .int x, l2] st M Q = wp F_Mr_beginSystem 31 [l0, .int x, l2] (.int x :: st) M Q) ∧
  (∀ (l0 l1 l2 : Value) (a : Nat) (j : Int32) (st : List Value) (M : Mm) (Q : Option Value → Mm → Prop), wp F_Mr_beginSystem 31 [l0, l1, l2] (.int j :: .ref a :: st) M Q = (ixR M a j ∧ wp F_Mr_beginSystem 32 [l0, l1, l2] (va_rf (gR M a (cl j)) :: st) M Q)) ∧
  (∀ (l0 l1 l2 : Value) (b : Nat) (M : Mm) (Q : Option Value → Mm → Prop), wp F_Mr_beginSystem 32 [l0, l1, l2] [.ref b] M Q = (sh M b = some (.inl 10) ∧ wp F_Word_clear 0 [.ref b] [] M (fun r M1 => wp F_Mr_beginSystem 35 [l0, l1, l2] (r.toList ++ []) M1 Q))) ∧
  (∀ (l0 l2 : Value) (x : Int32) (st : List Value) (M : Mm) (Q : Option Value → Mm → Prop), wp F_Mr_beginSystem 35 [l0, .int x, l2] st M Q = wp F_Mr_beginSystem 38 [clr l0, .int (x + 1), l2] st M Q) := ⟨fun _ _ _ _ _ _ => wp_in d_Mr_beginSystem_20 rfl rfl, fun _ _ _ _ _ _ => wp_bipush d_Mr_beginSystem_21 (by decide), fun _ _ _ _ _ _ _ _ => wp_icmp_ge d_Mr_beginSystem_23 rfl, fun _ _ _ _ _ _ => wp_in d_Mr_beginSystem_26 rfl rfl, fun _ _ _ _ _ _ _ => wp_getA d_Mr_beginSystem_27 fl_11_26 rfl, fun _ _ _ _ _ _ => wp_in d_Mr_beginSystem_30 rfl rfl, fun _ _ _ _ _ _ _ _ => wp_aald d_Mr_beginSystem_31, fun _ _ _ _ _ _ => wp_callV d_Mr_beginSystem_32 ml_11_161 rfl rfl rfl, fun _ _ _ _ _ _ => wp_iinc d_Mr_beginSystem_35 (by decide) rfl rfl⟩
theorem B_Mr_beginSystem_41 : (∀ (l1 l2 : Value) (x : Nat) (st : List Value) (M : Mm) (Q : Option Value → Mm → Prop), wp F_Mr_beginSystem 41 [.ref x, l1, l2] st M Q = wp F_Mr_beginSystem 42 [.ref x, l1, l2] (.ref x :: st) M Q) ∧
  (∀ (l0 l1 l2 : Value) (a : Nat) (st : List Value) (M : Mm) (Q : Option Value → Mm → Prop), wp F_Mr_beginSystem 42 [l0, l1, l2] (.ref a :: st) M Q = (sh M a = some (.inl 11) ∧ wp F_Mr_beginSystem 45 [l0, l1, l2] (va_rf (gR M a 6) :: st) M Q)) ∧
  (∀ (l1 l2 : Value) (x : Nat) (st : List Value) (M : Mm) (Q : Option Value → Mm → Prop), wp F_Mr_beginSystem 45 [.ref x, l1, l2] st M Q = wp F_Mr_beginSystem 46 [.ref x, l1, l2] (.ref x :: st) M Q) ∧
  (∀ (l0 l1 l2 : Value) (a : Nat) (st : List Value) (M : Mm) (Q : Option Value → Mm → Prop), wp F_Mr_beginSystem 46 [l0, l1, l2] (.ref a :: st) M Q = (sh M a = some (.inl 11) ∧ wp F_Mr_beginSystem 49 [l0, l1, l2] (va_rf (gR M a 4) :: st) M Q)) ∧
  (∀ (l0 l1 l2 : Value) (a : Nat) (st : List Value) (M : Mm) (Q : Option Value → Mm → Prop), wp F_Mr_beginSystem 49 [l0, l1, l2] (.ref a :: st) M Q = (sh M a = some (.inl 5) ∧ wp F_Mr_beginSystem 52 [l0, l1, l2] (.int (gI M a 1) :: st) M Q)) ∧
  (∀ (l0 l1 l2 : Value) (b : Nat) (p0 : Int32) (M : Mm) (Q : Option Value → Mm → Prop), wp F_Mr_beginSystem 52 [l0, l1, l2] [.int p0, .ref b] M Q = (sh M b = some (.inl 9) ∧ wp F_Rules_begin 0 [.ref b, .int p0] [] M (fun r M1 => wp F_Mr_beginSystem 55 [l0, l1, l2] (r.toList ++ []) M1 Q))) ∧
  (∀ (l1 l2 : Value) (x : Nat) (st : List Value) (M : Mm) (Q : Option Value → Mm → Prop), wp F_Mr_beginSystem 55 [.ref x, l1, l2] st M Q = wp F_Mr_beginSystem 56 [.ref x, l1, l2] (.ref x :: st) M Q) ∧
  (∀ (l0 l1 l2 : Value) (a : Nat) (st : List Value) (M : Mm) (Q : Option Value → Mm → Prop), wp F_Mr_beginSystem 56 [l0, l1, l2] (.ref a :: st) M Q = (sh M a = some (.inl 11) ∧ wp F_Mr_beginSystem 59 [l0, l1, l2] (va_rf (gR M a 7) :: st) M Q)) ∧
  (∀ (l0 l1 l2 : Value) (b : Nat) (M : Mm) (Q : Option Value → Mm → Prop), wp F_Mr_beginSystem 59 [l0, l1, l2] [.ref b] M Q = (sh M b = some (.inl 7) ∧ wp F_Row_clear 0 [.ref b] [] M (fun r M1 => wp F_Mr_beginSystem 62 [l0, l1, l2] (r.toList ++ []) M1 Q))) ∧
  (∀ (l0 l1 l2 : Value) (st : List Value) (M : Mm) (Q : Option Value → Mm → Prop), wp F_Mr_beginSystem 62 [l0, l1, l2] st M Q = wp F_Mr_beginSystem 63 [l0, l1, l2] (.int 0 :: st) M Q) ∧
  (∀ (l0 l1 l2 : Value) (x : Int32) (st : List Value) (M : Mm) (Q : Option Value → Mm → Prop), wp F_Mr_beginSystem 63 [l0, l1, l2] (.int x :: st) M Q = wp F_Mr_beginSystem 64 [clr l0, .int x, l2] st M Q) := ⟨fun _ _ _ _ _ _ => wp_in d_Mr_beginSystem_41 rfl rfl, fun _ _ _ _ _ _ _ => wp_getA d_Mr_beginSystem_42 fl_11_33 rfl, fun _ _ _ _ _ _ => wp_in d_Mr_beginSystem_45 rfl rfl, fun _ _ _ _ _ _ _ => wp_getA d_Mr_beginSystem_46 fl_11_20 rfl, fun _ _ _ _ _ _ _ => wp_getI d_Mr_beginSystem_49 fl_11_164 rfl, fun _ _ _ _ _ _ _ => wp_callV d_Mr_beginSystem_52 ml_11_167 rfl rfl rfl, fun _ _ _ _ _ _ => wp_in d_Mr_beginSystem_55 rfl rfl, fun _ _ _ _ _ _ _ => wp_getA d_Mr_beginSystem_56 fl_11_40 rfl, fun _ _ _ _ _ _ => wp_callV d_Mr_beginSystem_59 ml_11_170 rfl rfl rfl, fun _ _ _ _ _ _ => wp_iconst d_Mr_beginSystem_62 (by decide), fun _ _ _ _ _ _ _ => wp_in d_Mr_beginSystem_63 rfl rfl⟩
theorem B_Mr_beginSystem_64 : (∀ (l0 l2 : Value) (x : Int32) (st : List Value) (M : Mm) (Q : Option Value → Mm → Prop), wp F_Mr_beginSystem 64 [l0, .int x, l2] st M Q = wp F_Mr_beginSystem 65 [l0, .int x, l2] (.int x :: st) M Q) ∧
  (∀ (l1 l2 : Value) (x : Nat) (st : List Value) (M : Mm) (Q : Option Value → Mm → Prop), wp F_Mr_beginSystem 65 [.ref x, l1, l2] st M Q = wp F_Mr_beginSystem 66 [.ref x, l1, l2] (.ref x :: st) M Q) ∧
  (∀ (l0 l1 l2 : Value) (a : Nat) (st : List Value) (M : Mm) (Q : Option Value → Mm → Prop), wp F_Mr_beginSystem 66 [l0, l1, l2] (.ref a :: st) M Q = (sh M a = some (.inl 11) ∧ wp F_Mr_beginSystem 69 [l0, l1, l2] (va_rf (gR M a 4) :: st) M Q)) ∧
  (∀ (l0 l1 l2 : Value) (a : Nat) (st : List Value) (M : Mm) (Q : Option Value → Mm → Prop), wp F_Mr_beginSystem 69 [l0, l1, l2] (.ref a :: st) M Q = (sh M a = some (.inl 5) ∧ wp F_Mr_beginSystem 72 [l0, l1, l2] (.int (gI M a 2) :: st) M Q)) ∧
  (∀ (l0 l1 l2 : Value) (x y : Int32) (st : List Value) (M : Mm) (Q : Option Value → Mm → Prop), wp F_Mr_beginSystem 72 [l0, l1, l2] (.int y :: .int x :: st) M Q = if y ≤ x then wp F_Mr_beginSystem 123 [l0, l1, l2] st M Q else wp F_Mr_beginSystem 75 [l0, l1, l2] st M Q) ∧
  (∀ (l1 l2 : Value) (x : Nat) (st : List Value) (M : Mm) (Q : Option Value → Mm → Prop), wp F_Mr_beginSystem 75 [.ref x, l1, l2] st M Q = wp F_Mr_beginSystem 76 [.ref x, l1, l2] (.ref x :: st) M Q) ∧
  (∀ (l0 l1 l2 : Value) (a : Nat) (st : List Value) (M : Mm) (Q : Option Value → Mm → Prop), wp F_Mr_beginSystem 76 [l0, l1, l2] (.ref a :: st) M Q = (sh M a = some (.inl 11) ∧ wp F_Mr_beginSystem 79 [l0, l1, l2] (va_rf (gR M a 7) :: st) M Q)) ∧
  (∀ (l0 l1 l2 : Value) (b : Nat) (M : Mm) (Q : Option Value → Mm → Prop), wp F_Mr_beginSystem 79 [l0, l1, l2] [.ref b] M Q = (sh M b = some (.inl 7) ∧ wp F_Row_behind 0 [.ref b, jk] [] M (fun r M1 => wp F_Mr_beginSystem 82 [l0, l1, l2] (r.toList ++ []) M1 Q))) ∧
  (∀ (l0 l1 l2 : Value) (x : Nat) (st : List Value) (M : Mm) (Q : Option Value → Mm → Prop), wp F_Mr_beginSystem 82 [l0, l1, l2] (.ref x :: st) M Q = wp F_Mr_beginSystem 83 [l0, clr l1, .ref x] st M Q) ∧
  (∀ (l0 l1 l2 : Value) (st : List Value) (M : Mm) (Q : Option Value → Mm → Prop), wp F_Mr_beginSystem 82 [l0, l1, l2] (.null :: st) M Q = wp F_Mr_beginSystem 83 [l0, clr l1, .null] st M Q) ∧
  (∀ (l0 l1 : Value) (x : Nat) (st : List Value) (M : Mm) (Q : Option Value → Mm → Prop), wp F_Mr_beginSystem 83 [l0, l1, .ref x] st M Q = wp F_Mr_beginSystem 84 [l0, l1, .ref x] (.ref x :: st) M Q) ∧
  (∀ (l0 l1 : Value) (st : List Value) (M : Mm) (Q : Option Value → Mm → Prop), wp F_Mr_beginSystem 83 [l0, l1, .null] st M Q = wp F_Mr_beginSystem 84 [l0, l1, .null] (.null :: st) M Q) ∧
  (∀ (l0 l1 l2 : Value) (x : Nat) (st : List Value) (M : Mm) (Q : Option Value → Mm → Prop), wp F_Mr_beginSystem 84 [l0, l1, l2] (.ref x :: st) M Q = wp F_Mr_beginSystem 87 [l0, l1, l2] st M Q) ∧
  (∀ (l0 l1 l2 : Value) (st : List Value) (M : Mm) (Q : Option Value → Mm → Prop), wp F_Mr_beginSystem 84 [l0, l1, l2] (.null :: st) M Q = wp F_Mr_beginSystem 117 [l0, l1, l2] st M Q) ∧
  (∀ (l1 l2 : Value) (x : Nat) (st : List Value) (M : Mm) (Q : Option Value → Mm → Prop), wp F_Mr_beginSystem 87 [.ref x, l1, l2] st M Q = wp F_Mr_beginSystem 88 [.ref x, l1, l2] (.ref x :: st) M Q) ∧
  (∀ (l0 l1 l2 : Value) (a : Nat) (st : List Value) (M : Mm) (Q : Option Value → Mm → Prop), wp F_Mr_beginSystem 88 [l0, l1, l2] (.ref a :: st) M Q = (sh M a = some (.inl 11) ∧ wp F_Mr_beginSystem 91 [l0, l1, l2] (va_rf (gR M a 4) :: st) M Q)) ∧
  (∀ (l0 l1 l2 : Value) (st : List Value) (M : Mm) (Q : Option Value → Mm → Prop), wp F_Mr_beginSystem 91 [l0, l1, l2] st M Q = wp F_Mr_beginSystem 92 [l0, l1, l2] (.int 2 :: st) M Q) ∧
  (∀ (l0 l2 : Value) (x : Int32) (st : List Value) (M : Mm) (Q : Option Value → Mm → Prop), wp F_Mr_beginSystem 92 [l0, .int x, l2] st M Q = wp F_Mr_beginSystem 93 [l0, .int x, l2] (.int x :: st) M Q) ∧
  (∀ (l0 l1 l2 : Value) (x y : Int32) (st : List Value) (M : Mm) (Q : Option Value → Mm → Prop), wp F_Mr_beginSystem 93 [l0, l1, l2] (.int y :: .int x :: st) M Q = wp F_Mr_beginSystem 94 [l0, l1, l2] (.int (x * y) :: st) M Q) ∧
  (∀ (l0 l1 : Value) (x : Nat) (st : List Value) (M : Mm) (Q : Option Value → Mm → Prop), wp F_Mr_beginSystem 94 [l0, l1, .ref x] st M Q = wp F_Mr_beginSystem 95 [l0, l1, .ref x] (.ref x :: st) M Q) ∧
  (∀ (l0 l1 : Value) (st : List Value) (M : Mm) (Q : Option Value → Mm → Prop), wp F_Mr_beginSystem 94 [l0, l1, .null] st M Q = wp F_Mr_beginSystem 95 [l0, l1, .null] (.null :: st) M Q) ∧
  (∀ (l0 l1 l2 : Value) (a : Nat) (st : List Value) (M : Mm) (Q : Option Value → Mm → Prop), wp F_Mr_beginSystem 95 [l0, l1, l2] (.ref a :: st) M Q = (sh M a = some (.inl 4) ∧ wp F_Mr_beginSystem 98 [l0, l1, l2] (va_rf (gR M a 0) :: st) M Q)) ∧
  (∀ (l0 l1 l2 : Value) (b : Nat) (p0 : Int32) (p1 : Nat) (M : Mm) (Q : Option Value → Mm → Prop), wp F_Mr_beginSystem 98 [l0, l1, l2] [.ref p1, .int p0, .ref b] M Q = (sh M b = some (.inl 5) ∧ wp F_Presentation_copyWord 0 [.ref b, .int p0, .ref p1] [] M (fun r M1 => wp F_Mr_beginSystem 101 [l0, l1, l2] (r.toList ++ []) M1 Q))) ∧
  (∀ (l1 l2 : Value) (x : Nat) (st : List Value) (M : Mm) (Q : Option Value → Mm → Prop), wp F_Mr_beginSystem 101 [.ref x, l1, l2] st M Q = wp F_Mr_beginSystem 102 [.ref x, l1, l2] (.ref x :: st) M Q) ∧
  (∀ (l0 l1 l2 : Value) (a : Nat) (st : List Value) (M : Mm) (Q : Option Value → Mm → Prop), wp F_Mr_beginSystem 102 [l0, l1, l2] (.ref a :: st) M Q = (sh M a = some (.inl 11) ∧ wp F_Mr_beginSystem 105 [l0, l1, l2] (va_rf (gR M a 4) :: st) M Q)) ∧
  (∀ (l0 l1 l2 : Value) (st : List Value) (M : Mm) (Q : Option Value → Mm → Prop), wp F_Mr_beginSystem 105 [l0, l1, l2] st M Q = wp F_Mr_beginSystem 106 [l0, l1, l2] (.int 2 :: st) M Q) ∧
  (∀ (l0 l2 : Value) (x : Int32) (st : List Value) (M : Mm) (Q : Option Value → Mm → Prop), wp F_Mr_beginSystem 106 [l0, .int x, l2] st M Q = wp F_Mr_beginSystem 107 [l0, .int x, l2] (.int x :: st) M Q) ∧
  (∀ (l0 l1 l2 : Value) (x y : Int32) (st : List Value) (M : Mm) (Q : Option Value → Mm → Prop), wp F_Mr_beginSystem 107 [l0, l1, l2] (.int y :: .int x :: st) M Q = wp F_Mr_beginSystem 108 [l0, l1, l2] (.int (x * y) :: st) M Q) ∧
  (∀ (l0 l1 l2 : Value) (st : List Value) (M : Mm) (Q : Option Value → Mm → Prop), wp F_Mr_beginSystem 108 [l0, l1, l2] st M Q = wp F_Mr_beginSystem 109 [l0, l1, l2] (.int 1 :: st) M Q) ∧
  (∀ (l0 l1 l2 : Value) (x y : Int32) (st : List Value) (M : Mm) (Q : Option Value → Mm → Prop), wp F_Mr_beginSystem 109 [l0, l1, l2] (.int y :: .int x :: st) M Q = wp F_Mr_beginSystem 110 [l0, l1, l2] (.int (x + y) :: st) M Q) ∧
  (∀ (l0 l1 : Value) (x : Nat) (st : List Value) (M : Mm) (Q : Option Value → Mm → Prop), wp F_Mr_beginSystem 110 [l0, l1, .ref x] st M Q = wp F_Mr_beginSystem 111 [l0, l1, .ref x] (.ref x :: st) M Q) ∧
  (∀ (l0 l1 : Value) (st : List Value) (M : Mm) (Q : Option Value → Mm → Prop), wp F_Mr_beginSystem 110 [l0, l1, .null] st M Q = wp F_Mr_beginSystem 111 [l0, l1, .null] (.null :: st) M Q) ∧
  (∀ (l0 l1 l2 : Value) (a : Nat) (st : List Value) (M : Mm) (Q : Option Value → Mm → Prop), wp F_Mr_beginSystem 111 [l0, l1, l2] (.ref a :: st) M Q = (sh M a = some (.inl 4) ∧ wp F_Mr_beginSystem 114 [l0, l1, l2] (va_rf (gR M a 1) :: st) M Q)) ∧
  (∀ (l0 l1 l2 : Value) (b : Nat) (p0 : Int32) (p1 : Nat) (M : Mm) (Q : Option Value → Mm → Prop), wp F_Mr_beginSystem 114 [l0, l1, l2] [.ref p1, .int p0, .ref b] M Q = (sh M b = some (.inl 5) ∧ wp F_Presentation_copyWord 0 [.ref b, .int p0, .ref p1] [] M (fun r M1 => wp F_Mr_beginSystem 117 [l0, l1, l2] (r.toList ++ []) M1 Q))) := ⟨fun _ _ _ _ _ _ => wp_in d_Mr_beginSystem_64 rfl rfl, fun _ _ _ _ _ _ => wp_in d_Mr_beginSystem_65 rfl rfl, fun _ _ _ _ _ _ _ => wp_getA d_Mr_beginSystem_66 fl_11_20 rfl, fun _ _ _ _ _ _ _ => wp_getI d_Mr_beginSystem_69 fl_11_122 rfl, fun _ _ _ _ _ _ _ _ => wp_icmp_ge d_Mr_beginSystem_72 rfl, fun _ _ _ _ _ _ => wp_in d_Mr_beginSystem_75 rfl rfl, fun _ _ _ _ _ _ _ => wp_getA d_Mr_beginSystem_76 fl_11_40 rfl, fun _ _ _ _ _ _ => wp_callV d_Mr_beginSystem_79 ml_11_171 rfl rfl rfl, fun _ _ _ _ _ _ _ => wp_in d_Mr_beginSystem_82 rfl rfl, fun _ _ _ _ _ _ => wp_in d_Mr_beginSystem_82 rfl rfl, fun _ _ _ _ _ _ => wp_in d_Mr_beginSystem_83 rfl rfl, fun _ _ _ _ _ => wp_in d_Mr_beginSystem_83 rfl rfl, fun _ _ _ _ _ _ _ => wp_in d_Mr_beginSystem_84 rfl rfl, fun _ _ _ _ _ _ => wp_in d_Mr_beginSystem_84 rfl rfl, fun _ _ _ _ _ _ => wp_in d_Mr_beginSystem_87 rfl rfl, fun _ _ _ _ _ _ _ => wp_getA d_Mr_beginSystem_88 fl_11_20 rfl, fun _ _ _ _ _ _ => wp_iconst d_Mr_beginSystem_91 (by decide), fun _ _ _ _ _ _ => wp_in d_Mr_beginSystem_92 rfl rfl, fun _ _ _ _ _ _ _ _ => wp_in d_Mr_beginSystem_93 rfl rfl, fun _ _ _ _ _ _ => wp_in d_Mr_beginSystem_94 rfl rfl, fun _ _ _ _ _ => wp_in d_Mr_beginSystem_94 rfl rfl, fun _ _ _ _ _ _ _ => wp_getA d_Mr_beginSystem_95 fl_11_175 rfl, fun _ _ _ _ _ _ _ _ => wp_callV d_Mr_beginSystem_98 ml_11_178 rfl rfl rfl, fun _ _ _ _ _ _ => wp_in d_Mr_beginSystem_101 rfl rfl, fun _ _ _ _ _ _ _ => wp_getA d_Mr_beginSystem_102 fl_11_20 rfl, fun _ _ _ _ _ _ => wp_iconst d_Mr_beginSystem_105 (by decide), fun _ _ _ _ _ _ => wp_in d_Mr_beginSystem_106 rfl rfl, fun _ _ _ _ _ _ _ _ => wp_in d_Mr_beginSystem_107 rfl rfl, fun _ _ _ _ _ _ => wp_iconst d_Mr_beginSystem_108 (by decide), fun _ _ _ _ _ _ _ _ => wp_in d_Mr_beginSystem_109 rfl rfl, fun _ _ _ _ _ _ => wp_in d_Mr_beginSystem_110 rfl rfl, fun _ _ _ _ _ => wp_in d_Mr_beginSystem_110 rfl rfl, fun _ _ _ _ _ _ _ => wp_getA d_Mr_beginSystem_111 fl_11_182 rfl, fun _ _ _ _ _ _ _ _ => wp_callV d_Mr_beginSystem_114 ml_11_178 rfl rfl rfl⟩
theorem B_Mr_beginSystem_117 : (∀ (l0 l2 : Value) (x : Int32) (st : List Value) (M : Mm) (Q : Option Value → Mm → Prop), wp F_Mr_beginSystem 117 [l0, .int x, l2] st M Q = wp F_Mr_beginSystem 120 [clr l0, .int (x + 1), l2] st M Q) := fun _ _ _ _ _ _ => wp_iinc d_Mr_beginSystem_117 (by decide) rfl rfl
theorem B_Mr_beginSystem_123 : (∀ (l1 l2 : Value) (x : Nat) (st : List Value) (M : Mm) (Q : Option Value → Mm → Prop), wp F_Mr_beginSystem 123 [.ref x, l1, l2] st M Q = wp F_Mr_beginSystem 124 [.ref x, l1, l2] (.ref x :: st) M Q) ∧
  (∀ (l0 l1 l2 : Value) (a : Nat) (st : List Value) (M : Mm) (Q : Option Value → Mm → Prop), wp F_Mr_beginSystem 124 [l0, l1, l2] (.ref a :: st) M Q = (sh M a = some (.inl 11) ∧ wp F_Mr_beginSystem 127 [l0, l1, l2] (va_rf (gR M a 10) :: st) M Q)) ∧
  (∀ (l0 l1 l2 : Value) (b : Nat) (M : Mm) (Q : Option Value → Mm → Prop), wp F_Mr_beginSystem 127 [l0, l1, l2] [.ref b] M Q = (sh M b = some (.inl 0) ∧ wp F_Completion_begin 0 [.ref b] [] M (fun r M1 => wp F_Mr_beginSystem 130 [l0, l1, l2] (r.toList ++ []) M1 Q))) ∧
  (∀ (l1 l2 : Value) (x : Nat) (st : List Value) (M : Mm) (Q : Option Value → Mm → Prop), wp F_Mr_beginSystem 130 [.ref x, l1, l2] st M Q = wp F_Mr_beginSystem 131 [.ref x, l1, l2] (.ref x :: st) M Q) ∧
  (∀ (l0 l1 l2 : Value) (a : Nat) (st : List Value) (M : Mm) (Q : Option Value → Mm → Prop), wp F_Mr_beginSystem 131 [l0, l1, l2] (.ref a :: st) M Q = (sh M a = some (.inl 11) ∧ wp F_Mr_beginSystem 134 [l0, l1, l2] (va_rf (gR M a 11) :: st) M Q)) ∧
  (∀ (l0 l1 l2 : Value) (b : Nat) (M : Mm) (Q : Option Value → Mm → Prop), wp F_Mr_beginSystem 134 [l0, l1, l2] [.ref b] M Q = (sh M b = some (.inl 2) ∧ wp F_Finder_begin 0 [.ref b] [] M (fun r M1 => wp F_Mr_beginSystem 137 [l0, l1, l2] (r.toList ++ []) M1 Q))) ∧
  (∀ (l1 l2 : Value) (x : Nat) (st : List Value) (M : Mm) (Q : Option Value → Mm → Prop), wp F_Mr_beginSystem 137 [.ref x, l1, l2] st M Q = wp F_Mr_beginSystem 138 [.ref x, l1, l2] (.ref x :: st) M Q) ∧
  (∀ (l0 l1 l2 : Value) (a : Nat) (st : List Value) (M : Mm) (Q : Option Value → Mm → Prop), wp F_Mr_beginSystem 138 [l0, l1, l2] (.ref a :: st) M Q = (sh M a = some (.inl 11) ∧ wp F_Mr_beginSystem 141 [l0, l1, l2] (va_rf (gR M a 12) :: st) M Q)) ∧
  (∀ (l0 l1 l2 : Value) (b : Nat) (M : Mm) (Q : Option Value → Mm → Prop), wp F_Mr_beginSystem 141 [l0, l1, l2] [.ref b] M Q = (sh M b = some (.inl 1) ∧ wp F_Elements_begin 0 [.ref b] [] M (fun r M1 => wp F_Mr_beginSystem 144 [l0, l1, l2] (r.toList ++ []) M1 Q))) ∧
  (∀ (l1 l2 : Value) (x : Nat) (st : List Value) (M : Mm) (Q : Option Value → Mm → Prop), wp F_Mr_beginSystem 144 [.ref x, l1, l2] st M Q = wp F_Mr_beginSystem 145 [.ref x, l1, l2] (.ref x :: st) M Q) ∧
  (∀ (l0 l1 l2 : Value) (st : List Value) (M : Mm) (Q : Option Value → Mm → Prop), wp F_Mr_beginSystem 145 [l0, l1, l2] st M Q = wp F_Mr_beginSystem 146 [l0, l1, l2] (.int 0 :: st) M Q) ∧
  (∀ (l0 l1 l2 : Value) (a : Nat) (x : Int32) (st : List Value) (M : Mm) (Q : Option Value → Mm → Prop), wp F_Mr_beginSystem 146 [l0, l1, l2] (.int x :: .ref a :: st) M Q = (sh M a = some (.inl 11) ∧ wp F_Mr_beginSystem 149 [l0, l1, l2] st (sI M a 15 x) Q)) ∧
  (∀ (l0 l1 l2 : Value) (M : Mm) (Q : Option Value → Mm → Prop), wp F_Mr_beginSystem 149 [l0, l1, l2] [] M Q = Q none M) := ⟨fun _ _ _ _ _ _ => wp_in d_Mr_beginSystem_123 rfl rfl, fun _ _ _ _ _ _ _ => wp_getA d_Mr_beginSystem_124 fl_11_65 rfl, fun _ _ _ _ _ _ => wp_callV d_Mr_beginSystem_127 ml_11_183 rfl rfl rfl, fun _ _ _ _ _ _ => wp_in d_Mr_beginSystem_130 rfl rfl, fun _ _ _ _ _ _ _ => wp_getA d_Mr_beginSystem_131 fl_11_74 rfl, fun _ _ _ _ _ _ => wp_callV d_Mr_beginSystem_134 ml_11_185 rfl rfl rfl, fun _ _ _ _ _ _ => wp_in d_Mr_beginSystem_137 rfl rfl, fun _ _ _ _ _ _ _ => wp_getA d_Mr_beginSystem_138 fl_11_81 rfl, fun _ _ _ _ _ _ => wp_callV d_Mr_beginSystem_141 ml_11_186 rfl rfl rfl, fun _ _ _ _ _ _ => wp_in d_Mr_beginSystem_144 rfl rfl, fun _ _ _ _ _ _ => wp_iconst d_Mr_beginSystem_145 (by decide), fun _ _ _ _ _ _ _ _ => wp_putI d_Mr_beginSystem_146 fl_11_187 rfl rfl, fun _ _ _ _ _ => wp_retV d_Mr_beginSystem_149 rfl⟩
theorem G_Mr_beginSystem_38 (l0 l1 l2 : Value) (st : List Value) (M : Mm) (Q : Option Value → Mm → Prop) : wp F_Mr_beginSystem 38 [l0, l1, l2] st M Q = wp F_Mr_beginSystem 20 [l0, l1, l2] st M Q := wp_goto d_Mr_beginSystem_38 rfl
theorem G_Mr_beginSystem_120 (l0 l1 l2 : Value) (st : List Value) (M : Mm) (Q : Option Value → Mm → Prop) : wp F_Mr_beginSystem 120 [l0, l1, l2] st M Q = wp F_Mr_beginSystem 64 [l0, l1, l2] st M Q := wp_goto d_Mr_beginSystem_120 rfl
theorem d_Mr_complete_0 : decode (fnB F_Mr_complete) 0 = .ok (.iload_n 1, 1) := by decide +kernel
theorem d_Mr_complete_1 : decode (fnB F_Mr_complete) 1 = .ok (.iconst 1, 1) := by decide +kernel
theorem d_Mr_complete_2 : decode (fnB F_Mr_complete) 2 = .ok (.if_icmp .lt 10, 3) := by decide +kernel
theorem d_Mr_complete_5 : decode (fnB F_Mr_complete) 5 = .ok (.iload_n 1, 1) := by decide +kernel
theorem d_Mr_complete_6 : decode (fnB F_Mr_complete) 6 = .ok (.sipush 500, 3) := by decide +kernel
theorem d_Mr_complete_9 : decode (fnB F_Mr_complete) 9 = .ok (.if_icmp .le 6, 3) := by decide +kernel
theorem d_Mr_complete_12 : decode (fnB F_Mr_complete) 12 = .ok (.bipush (-2), 2) := by decide +kernel
theorem d_Mr_complete_14 : decode (fnB F_Mr_complete) 14 = .ok (.ireturn, 1) := by decide +kernel
theorem d_Mr_complete_15 : decode (fnB F_Mr_complete) 15 = .ok (.iconst 0, 1) := by decide +kernel
theorem d_Mr_complete_16 : decode (fnB F_Mr_complete) 16 = .ok (.istore_n 2, 1) := by decide +kernel
theorem d_Mr_complete_17 : decode (fnB F_Mr_complete) 17 = .ok (.iload_n 2, 1) := by decide +kernel
theorem d_Mr_complete_18 : decode (fnB F_Mr_complete) 18 = .ok (.iload_n 1, 1) := by decide +kernel
theorem d_Mr_complete_19 : decode (fnB F_Mr_complete) 19 = .ok (.if_icmp .ge 33, 3) := by decide +kernel
theorem d_Mr_complete_22 : decode (fnB F_Mr_complete) 22 = .ok (.aload_n 0, 1) := by decide +kernel
theorem d_Mr_complete_23 : decode (fnB F_Mr_complete) 23 = .ok (.getfield 65, 3) := by decide +kernel
theorem d_Mr_complete_26 : decode (fnB F_Mr_complete) 26 = .ok (.invokevirtual 190, 3) := by decide +kernel
theorem d_Mr_complete_29 : decode (fnB F_Mr_complete) 29 = .ok (.ifCond .eq 23, 3) := by decide +kernel
theorem d_Mr_complete_32 : decode (fnB F_Mr_complete) 32 = .ok (.aload_n 0, 1) := by decide +kernel
theorem d_Mr_complete_33 : decode (fnB F_Mr_complete) 33 = .ok (.getfield 65, 3) := by decide +kernel
theorem d_Mr_complete_36 : decode (fnB F_Mr_complete) 36 = .ok (.invokevirtual 194, 3) := by decide +kernel
theorem d_Mr_complete_39 : decode (fnB F_Mr_complete) 39 = .ok (.aload_n 0, 1) := by decide +kernel
theorem d_Mr_complete_40 : decode (fnB F_Mr_complete) 40 = .ok (.getfield 74, 3) := by decide +kernel
theorem d_Mr_complete_43 : decode (fnB F_Mr_complete) 43 = .ok (.invokevirtual 197, 3) := by decide +kernel
theorem d_Mr_complete_46 : decode (fnB F_Mr_complete) 46 = .ok (.iinc 2 1, 3) := by decide +kernel
theorem d_Mr_complete_49 : decode (fnB F_Mr_complete) 49 = .ok (.goto (-32), 3) := by decide +kernel
theorem d_Mr_complete_52 : decode (fnB F_Mr_complete) 52 = .ok (.aload_n 0, 1) := by decide +kernel
theorem d_Mr_complete_53 : decode (fnB F_Mr_complete) 53 = .ok (.getfield 65, 3) := by decide +kernel
theorem d_Mr_complete_56 : decode (fnB F_Mr_complete) 56 = .ok (.getfield 200, 3) := by decide +kernel
theorem d_Mr_complete_59 : decode (fnB F_Mr_complete) 59 = .ok (.ifCond .eq 5, 3) := by decide +kernel
theorem d_Mr_complete_62 : decode (fnB F_Mr_complete) 62 = .ok (.iconst 2, 1) := by decide +kernel
theorem d_Mr_complete_63 : decode (fnB F_Mr_complete) 63 = .ok (.ireturn, 1) := by decide +kernel
theorem d_Mr_complete_64 : decode (fnB F_Mr_complete) 64 = .ok (.aload_n 0, 1) := by decide +kernel
theorem d_Mr_complete_65 : decode (fnB F_Mr_complete) 65 = .ok (.getfield 65, 3) := by decide +kernel
theorem d_Mr_complete_68 : decode (fnB F_Mr_complete) 68 = .ok (.invokevirtual 204, 3) := by decide +kernel
theorem d_Mr_complete_71 : decode (fnB F_Mr_complete) 71 = .ok (.ifCond .eq 7, 3) := by decide +kernel
theorem d_Mr_complete_74 : decode (fnB F_Mr_complete) 74 = .ok (.iconst 1, 1) := by decide +kernel
theorem d_Mr_complete_75 : decode (fnB F_Mr_complete) 75 = .ok (.goto 4, 3) := by decide +kernel
theorem d_Mr_complete_78 : decode (fnB F_Mr_complete) 78 = .ok (.iconst 0, 1) := by decide +kernel
theorem d_Mr_complete_79 : decode (fnB F_Mr_complete) 79 = .ok (.ireturn, 1) := by decide +kernel
theorem B_Mr_complete_0 : (∀ (l0 l2 : Value) (x : Int32) (st : List Value) (M : Mm) (Q : Option Value → Mm → Prop), wp F_Mr_complete 0 [l0, .int x, l2] st M Q = wp F_Mr_complete 1 [l0, .int x, l2] (.int x :: st) M Q) ∧
  (∀ (l0 l1 l2 : Value) (st : List Value) (M : Mm) (Q : Option Value → Mm → Prop), wp F_Mr_complete 1 [l0, l1, l2] st M Q = wp F_Mr_complete 2 [l0, l1, l2] (.int 1 :: st) M Q) ∧
  (∀ (l0 l1 l2 : Value) (x y : Int32) (st : List Value) (M : Mm) (Q : Option Value → Mm → Prop), wp F_Mr_complete 2 [l0, l1, l2] (.int y :: .int x :: st) M Q = if x < y then wp F_Mr_complete 12 [l0, l1, l2] st M Q else wp F_Mr_complete 5 [l0, l1, l2] st M Q) ∧
  (∀ (l0 l2 : Value) (x : Int32) (st : List Value) (M : Mm) (Q : Option Value → Mm → Prop), wp F_Mr_complete 5 [l0, .int x, l2] st M Q = wp F_Mr_complete 6 [l0, .int x, l2] (.int x :: st) M Q) ∧
  (∀ (l0 l1 l2 : Value) (st : List Value) (M : Mm) (Q : Option Value → Mm → Prop), wp F_Mr_complete 6 [l0, l1, l2] st M Q = wp F_Mr_complete 9 [l0, l1, l2] (.int 500 :: st) M Q) ∧
  (∀ (l0 l1 l2 : Value) (x y : Int32) (st : List Value) (M : Mm) (Q : Option Value → Mm → Prop), wp F_Mr_complete 9 [l0, l1, l2] (.int y :: .int x :: st) M Q = if x ≤ y then wp F_Mr_complete 15 [l0, l1, l2] st M Q else wp F_Mr_complete 12 [l0, l1, l2] st M Q) := ⟨fun _ _ _ _ _ _ => wp_in d_Mr_complete_0 rfl rfl, fun _ _ _ _ _ _ => wp_iconst d_Mr_complete_1 (by decide), fun _ _ _ _ _ _ _ _ => wp_icmp_lt d_Mr_complete_2 rfl, fun _ _ _ _ _ _ => wp_in d_Mr_complete_5 rfl rfl, fun _ _ _ _ _ _ => wp_sipush d_Mr_complete_6 (by decide), fun _ _ _ _ _ _ _ _ => wp_icmp_le d_Mr_complete_9 rfl⟩
theorem B_Mr_complete_12 : (∀ (l0 l1 l2 : Value) (st : List Value) (M : Mm) (Q : Option Value → Mm → Prop), wp F_Mr_complete 12 [l0, l1, l2] st M Q = wp F_Mr_complete 14 [l0, l1, l2] (.int (-2) :: st) M Q) ∧
  (∀ (l0 l1 l2 : Value) (v : Int32) (M : Mm) (Q : Option Value → Mm → Prop), wp F_Mr_complete 14 [l0, l1, l2] [.int v] M Q = Q (some (.int v)) M) := ⟨fun _ _ _ _ _ _ => wp_bipush d_Mr_complete_12 (by decide), fun _ _ _ _ _ _ => wp_retI d_Mr_complete_14 rfl⟩
theorem B_Mr_complete_15 : (∀ (l0 l1 l2 : Value) (st : List Value) (M : Mm) (Q : Option Value → Mm → Prop), wp F_Mr_complete 15 [l0, l1, l2] st M Q = wp F_Mr_complete 16 [l0, l1, l2] (.int 0 :: st) M Q) ∧
  (∀ (l0 l1 l2 : Value) (x : Int32) (st : List Value) (M : Mm) (Q : Option Value → Mm → Prop), wp F_Mr_complete 16 [l0, l1, l2] (.int x :: st) M Q = wp F_Mr_complete 17 [l0, clr l1, .int x] st M Q) := ⟨fun _ _ _ _ _ _ => wp_iconst d_Mr_complete_15 (by decide), fun _ _ _ _ _ _ _ => wp_in d_Mr_complete_16 rfl rfl⟩
theorem B_Mr_complete_17 : (∀ (l0 l1 : Value) (x : Int32) (st : List Value) (M : Mm) (Q : Option Value → Mm → Prop), wp F_Mr_complete 17 [l0, l1, .int x] st M Q = wp F_Mr_complete 18 [l0, l1, .int x] (.int x :: st) M Q) ∧
  (∀ (l0 l2 : Value) (x : Int32) (st : List Value) (M : Mm) (Q : Option Value → Mm → Prop), wp F_Mr_complete 18 [l0, .int x, l2] st M Q = wp F_Mr_complete 19 [l0, .int x, l2] (.int x :: st) M Q) ∧
  (∀ (l0 l1 l2 : Value) (x y : Int32) (st : List Value) (M : Mm) (Q : Option Value → Mm → Prop), wp F_Mr_complete 19 [l0, l1, l2] (.int y :: .int x :: st) M Q = if y ≤ x then wp F_Mr_complete 52 [l0, l1, l2] st M Q else wp F_Mr_complete 22 [l0, l1, l2] st M Q) ∧
  (∀ (l1 l2 : Value) (x : Nat) (st : List Value) (M : Mm) (Q : Option Value → Mm → Prop), wp F_Mr_complete 22 [.ref x, l1, l2] st M Q = wp F_Mr_complete 23 [.ref x, l1, l2] (.ref x :: st) M Q) ∧
  (∀ (l0 l1 l2 : Value) (a : Nat) (st : List Value) (M : Mm) (Q : Option Value → Mm → Prop), wp F_Mr_complete 23 [l0, l1, l2] (.ref a :: st) M Q = (sh M a = some (.inl 11) ∧ wp F_Mr_complete 26 [l0, l1, l2] (va_rf (gR M a 10) :: st) M Q)) ∧
  (∀ (l0 l1 l2 : Value) (b : Nat) (M : Mm) (Q : Option Value → Mm → Prop), wp F_Mr_complete 26 [l0, l1, l2] [.ref b] M Q = (sh M b = some (.inl 0) ∧ wp F_Completion_canTreat 0 [.ref b] [] M (fun r M1 => wp F_Mr_complete 29 [l0, l1, l2] (r.toList ++ []) M1 Q))) ∧
  (∀ (l0 l1 l2 : Value) (x : Int32) (st : List Value) (M : Mm) (Q : Option Value → Mm → Prop), wp F_Mr_complete 29 [l0, l1, l2] (.int x :: st) M Q = if x = 0 then wp F_Mr_complete 52 [l0, l1, l2] st M Q else wp F_Mr_complete 32 [l0, l1, l2] st M Q) ∧
  (∀ (l1 l2 : Value) (x : Nat) (st : List Value) (M : Mm) (Q : Option Value → Mm → Prop), wp F_Mr_complete 32 [.ref x, l1, l2] st M Q = wp F_Mr_complete 33 [.ref x, l1, l2] (.ref x :: st) M Q) ∧
  (∀ (l0 l1 l2 : Value) (a : Nat) (st : List Value) (M : Mm) (Q : Option Value → Mm → Prop), wp F_Mr_complete 33 [l0, l1, l2] (.ref a :: st) M Q = (sh M a = some (.inl 11) ∧ wp F_Mr_complete 36 [l0, l1, l2] (va_rf (gR M a 10) :: st) M Q)) ∧
  (∀ (l0 l1 l2 : Value) (b : Nat) (M : Mm) (Q : Option Value → Mm → Prop), wp F_Mr_complete 36 [l0, l1, l2] [.ref b] M Q = (sh M b = some (.inl 0) ∧ wp F_Completion_treat 0 [.ref b, jk, jk, jk] [] M (fun r M1 => wp F_Mr_complete 39 [l0, l1, l2] (r.toList ++ []) M1 Q))) ∧
  (∀ (l1 l2 : Value) (x : Nat) (st : List Value) (M : Mm) (Q : Option Value → Mm → Prop), wp F_Mr_complete 39 [.ref x, l1, l2] st M Q = wp F_Mr_complete 40 [.ref x, l1, l2] (.ref x :: st) M Q) ∧
  (∀ (l0 l1 l2 : Value) (a : Nat) (st : List Value) (M : Mm) (Q : Option Value → Mm → Prop), wp F_Mr_complete 40 [l0, l1, l2] (.ref a :: st) M Q = (sh M a = some (.inl 11) ∧ wp F_Mr_complete 43 [l0, l1, l2] (va_rf (gR M a 11) :: st) M Q)) ∧
  (∀ (l0 l1 l2 : Value) (b : Nat) (M : Mm) (Q : Option Value → Mm → Prop), wp F_Mr_complete 43 [l0, l1, l2] [.ref b] M Q = (sh M b = some (.inl 2) ∧ wp F_Finder_forgetAnswer 0 [.ref b] [] M (fun r M1 => wp F_Mr_complete 46 [l0, l1, l2] (r.toList ++ []) M1 Q))) ∧
  (∀ (l0 l1 : Value) (x : Int32) (st : List Value) (M : Mm) (Q : Option Value → Mm → Prop), wp F_Mr_complete 46 [l0, l1, .int x] st M Q = wp F_Mr_complete 49 [l0, clr l1, .int (x + 1)] st M Q) := ⟨fun _ _ _ _ _ _ => wp_in d_Mr_complete_17 rfl rfl, fun _ _ _ _ _ _ => wp_in d_Mr_complete_18 rfl rfl, fun _ _ _ _ _ _ _ _ => wp_icmp_ge d_Mr_complete_19 rfl, fun _ _ _ _ _ _ => wp_in d_Mr_complete_22 rfl rfl, fun _ _ _ _ _ _ _ => wp_getA d_Mr_complete_23 fl_11_65 rfl, fun _ _ _ _ _ _ => wp_callV d_Mr_complete_26 ml_11_190 rfl rfl rfl, fun _ _ _ _ _ _ _ => wp_if_eq d_Mr_complete_29 rfl, fun _ _ _ _ _ _ => wp_in d_Mr_complete_32 rfl rfl, fun _ _ _ _ _ _ _ => wp_getA d_Mr_complete_33 fl_11_65 rfl, fun _ _ _ _ _ _ => wp_callV d_Mr_complete_36 ml_11_194 rfl rfl rfl, fun _ _ _ _ _ _ => wp_in d_Mr_complete_39 rfl rfl, fun _ _ _ _ _ _ _ => wp_getA d_Mr_complete_40 fl_11_74 rfl, fun _ _ _ _ _ _ => wp_callV d_Mr_complete_43 ml_11_197 rfl rfl rfl, fun _ _ _ _ _ _ => wp_iinc d_Mr_complete_46 (by decide) rfl rfl⟩
theorem B_Mr_complete_52 : (∀ (l1 l2 : Value) (x : Nat) (st : List Value) (M : Mm) (Q : Option Value → Mm → Prop), wp F_Mr_complete 52 [.ref x, l1, l2] st M Q = wp F_Mr_complete 53 [.ref x, l1, l2] (.ref x :: st) M Q) ∧
  (∀ (l0 l1 l2 : Value) (a : Nat) (st : List Value) (M : Mm) (Q : Option Value → Mm → Prop), wp F_Mr_complete 53 [l0, l1, l2] (.ref a :: st) M Q = (sh M a = some (.inl 11) ∧ wp F_Mr_complete 56 [l0, l1, l2] (va_rf (gR M a 10) :: st) M Q)) ∧
  (∀ (l0 l1 l2 : Value) (a : Nat) (st : List Value) (M : Mm) (Q : Option Value → Mm → Prop), wp F_Mr_complete 56 [l0, l1, l2] (.ref a :: st) M Q = (sh M a = some (.inl 0) ∧ wp F_Mr_complete 59 [l0, l1, l2] (.int (gI M a 7) :: st) M Q)) ∧
  (∀ (l0 l1 l2 : Value) (x : Int32) (st : List Value) (M : Mm) (Q : Option Value → Mm → Prop), wp F_Mr_complete 59 [l0, l1, l2] (.int x :: st) M Q = if x = 0 then wp F_Mr_complete 64 [l0, l1, l2] st M Q else wp F_Mr_complete 62 [l0, l1, l2] st M Q) ∧
  (∀ (l0 l1 l2 : Value) (st : List Value) (M : Mm) (Q : Option Value → Mm → Prop), wp F_Mr_complete 62 [l0, l1, l2] st M Q = wp F_Mr_complete 63 [l0, l1, l2] (.int 2 :: st) M Q) ∧
  (∀ (l0 l1 l2 : Value) (v : Int32) (M : Mm) (Q : Option Value → Mm → Prop), wp F_Mr_complete 63 [l0, l1, l2] [.int v] M Q = Q (some (.int v)) M) := ⟨fun _ _ _ _ _ _ => wp_in d_Mr_complete_52 rfl rfl, fun _ _ _ _ _ _ _ => wp_getA d_Mr_complete_53 fl_11_65 rfl, fun _ _ _ _ _ _ _ => wp_getI d_Mr_complete_56 fl_11_200 rfl, fun _ _ _ _ _ _ _ => wp_if_eq d_Mr_complete_59 rfl, fun _ _ _ _ _ _ => wp_iconst d_Mr_complete_62 (by decide), fun _ _ _ _ _ _ => wp_retI d_Mr_complete_63 rfl⟩
theorem B_Mr_complete_64 : (∀ (l1 l2 : Value) (x : Nat) (st : List Value) (M : Mm) (Q : Option Value → Mm → Prop), wp F_Mr_complete 64 [.ref x, l1, l2] st M Q = wp F_Mr_complete 65 [.ref x, l1, l2] (.ref x :: st) M Q) ∧
  (∀ (l0 l1 l2 : Value) (a : Nat) (st : List Value) (M : Mm) (Q : Option Value → Mm → Prop), wp F_Mr_complete 65 [l0, l1, l2] (.ref a :: st) M Q = (sh M a = some (.inl 11) ∧ wp F_Mr_complete 68 [l0, l1, l2] (va_rf (gR M a 10) :: st) M Q)) ∧
  (∀ (l0 l1 l2 : Value) (b : Nat) (M : Mm) (Q : Option Value → Mm → Prop), wp F_Mr_complete 68 [l0, l1, l2] [.ref b] M Q = (sh M b = some (.inl 0) ∧ wp F_Completion_isDone 0 [.ref b] [] M (fun r M1 => wp F_Mr_complete 71 [l0, l1, l2] (r.toList ++ []) M1 Q))) ∧
  (∀ (l0 l1 l2 : Value) (x : Int32) (st : List Value) (M : Mm) (Q : Option Value → Mm → Prop), wp F_Mr_complete 71 [l0, l1, l2] (.int x :: st) M Q = if x = 0 then wp F_Mr_complete 78 [l0, l1, l2] st M Q else wp F_Mr_complete 74 [l0, l1, l2] st M Q) ∧
  (∀ (l0 l1 l2 : Value) (st : List Value) (M : Mm) (Q : Option Value → Mm → Prop), wp F_Mr_complete 74 [l0, l1, l2] st M Q = wp F_Mr_complete 75 [l0, l1, l2] (.int 1 :: st) M Q) ∧
  (∀ (l0 l1 l2 : Value) (st : List Value) (M : Mm) (Q : Option Value → Mm → Prop), wp F_Mr_complete 75 [l0, l1, l2] st M Q = wp F_Mr_complete 79 [l0, l1, l2] st M Q) := ⟨fun _ _ _ _ _ _ => wp_in d_Mr_complete_64 rfl rfl, fun _ _ _ _ _ _ _ => wp_getA d_Mr_complete_65 fl_11_65 rfl, fun _ _ _ _ _ _ => wp_callV d_Mr_complete_68 ml_11_204 rfl rfl rfl, fun _ _ _ _ _ _ _ => wp_if_eq d_Mr_complete_71 rfl, fun _ _ _ _ _ _ => wp_iconst d_Mr_complete_74 (by decide), fun _ _ _ _ _ _ => wp_goto d_Mr_complete_75 rfl⟩
theorem B_Mr_complete_78 : (∀ (l0 l1 l2 : Value) (st : List Value) (M : Mm) (Q : Option Value → Mm → Prop), wp F_Mr_complete 78 [l0, l1, l2] st M Q = wp F_Mr_complete 79 [l0, l1, l2] (.int 0 :: st) M Q) := fun _ _ _ _ _ _ => wp_iconst d_Mr_complete_78 (by decide)
theorem B_Mr_complete_79 : (∀ (l0 l1 l2 : Value) (v : Int32) (M : Mm) (Q : Option Value → Mm → Prop), wp F_Mr_complete 79 [l0, l1, l2] [.int v] M Q = Q (some (.int v)) M) := fun _ _ _ _ _ _ => wp_retI d_Mr_complete_79 rfl
theorem G_Mr_complete_49 (l0 l1 l2 : Value) (st : List Value) (M : Mm) (Q : Option Value → Mm → Prop) : wp F_Mr_complete 49 [l0, l1, l2] st M Q = wp F_Mr_complete 17 [l0, l1, l2] st M Q := wp_goto d_Mr_complete_49 rfl
theorem d_Mr_count_0 : decode (fnB F_Mr_count) 0 = .ok (.iload_n 1, 1) := by decide +kernel
theorem d_Mr_count_1 : decode (fnB F_Mr_count) 1 = .ok (.tableswitch 127 0 7 #[47, 55, 63, 71, 79, 87, 103, 119], 47) := by decide +kernel
theorem d_Mr_count_48 : decode (fnB F_Mr_count) 48 = .ok (.aload_n 0, 1) := by decide +kernel
theorem d_Mr_count_49 : decode (fnB F_Mr_count) 49 = .ok (.getfield 33, 3) := by decide +kernel
theorem d_Mr_count_52 : decode (fnB F_Mr_count) 52 = .ok (.getfield 207, 3) := by decide +kernel
theorem d_Mr_count_55 : decode (fnB F_Mr_count) 55 = .ok (.ireturn, 1) := by decide +kernel
theorem d_Mr_count_56 : decode (fnB F_Mr_count) 56 = .ok (.aload_n 0, 1) := by decide +kernel
theorem d_Mr_count_57 : decode (fnB F_Mr_count) 57 = .ok (.getfield 33, 3) := by decide +kernel
theorem d_Mr_count_60 : decode (fnB F_Mr_count) 60 = .ok (.getfield 208, 3) := by decide +kernel
theorem d_Mr_count_63 : decode (fnB F_Mr_count) 63 = .ok (.ireturn, 1) := by decide +kernel
theorem d_Mr_count_64 : decode (fnB F_Mr_count) 64 = .ok (.aload_n 0, 1) := by decide +kernel
theorem d_Mr_count_65 : decode (fnB F_Mr_count) 65 = .ok (.getfield 33, 3) := by decide +kernel
theorem d_Mr_count_68 : decode (fnB F_Mr_count) 68 = .ok (.invokevirtual 211, 3) := by decide +kernel
theorem d_Mr_count_71 : decode (fnB F_Mr_count) 71 = .ok (.ireturn, 1) := by decide +kernel
theorem d_Mr_count_72 : decode (fnB F_Mr_count) 72 = .ok (.aload_n 0, 1) := by decide +kernel
theorem d_Mr_count_73 : decode (fnB F_Mr_count) 73 = .ok (.getfield 40, 3) := by decide +kernel
theorem d_Mr_count_76 : decode (fnB F_Mr_count) 76 = .ok (.getfield 214, 3) := by decide +kernel
theorem d_Mr_count_79 : decode (fnB F_Mr_count) 79 = .ok (.ireturn, 1) := by decide +kernel
theorem d_Mr_count_80 : decode (fnB F_Mr_count) 80 = .ok (.aload_n 0, 1) := by decide +kernel
theorem d_Mr_count_81 : decode (fnB F_Mr_count) 81 = .ok (.getfield 65, 3) := by decide +kernel
theorem d_Mr_count_84 : decode (fnB F_Mr_count) 84 = .ok (.getfield 217, 3) := by decide +kernel
theorem d_Mr_count_87 : decode (fnB F_Mr_count) 87 = .ok (.ireturn, 1) := by decide +kernel
theorem d_Mr_count_88 : decode (fnB F_Mr_count) 88 = .ok (.aload_n 0, 1) := by decide +kernel
theorem d_Mr_count_89 : decode (fnB F_Mr_count) 89 = .ok (.getfield 65, 3) := by decide +kernel
theorem d_Mr_count_92 : decode (fnB F_Mr_count) 92 = .ok (.invokevirtual 204, 3) := by decide +kernel
theorem d_Mr_count_95 : decode (fnB F_Mr_count) 95 = .ok (.ifCond .eq 7, 3) := by decide +kernel
theorem d_Mr_count_98 : decode (fnB F_Mr_count) 98 = .ok (.iconst 1, 1) := by decide +kernel
theorem d_Mr_count_99 : decode (fnB F_Mr_count) 99 = .ok (.goto 4, 3) := by decide +kernel
theorem d_Mr_count_102 : decode (fnB F_Mr_count) 102 = .ok (.iconst 0, 1) := by decide +kernel
theorem d_Mr_count_103 : decode (fnB F_Mr_count) 103 = .ok (.ireturn, 1) := by decide +kernel
theorem d_Mr_count_104 : decode (fnB F_Mr_count) 104 = .ok (.aload_n 0, 1) := by decide +kernel
theorem d_Mr_count_105 : decode (fnB F_Mr_count) 105 = .ok (.getfield 65, 3) := by decide +kernel
theorem d_Mr_count_108 : decode (fnB F_Mr_count) 108 = .ok (.getfield 200, 3) := by decide +kernel
theorem d_Mr_count_111 : decode (fnB F_Mr_count) 111 = .ok (.ifCond .eq 7, 3) := by decide +kernel
theorem d_Mr_count_114 : decode (fnB F_Mr_count) 114 = .ok (.iconst 1, 1) := by decide +kernel
theorem d_Mr_count_115 : decode (fnB F_Mr_count) 115 = .ok (.goto 4, 3) := by decide +kernel
theorem d_Mr_count_118 : decode (fnB F_Mr_count) 118 = .ok (.iconst 0, 1) := by decide +kernel
theorem d_Mr_count_119 : decode (fnB F_Mr_count) 119 = .ok (.ireturn, 1) := by decide +kernel
theorem d_Mr_count_120 : decode (fnB F_Mr_count) 120 = .ok (.aload_n 0, 1) := by decide +kernel
theorem d_Mr_count_121 : decode (fnB F_Mr_count) 121 = .ok (.getfield 65, 3) := by decide +kernel
theorem d_Mr_count_124 : decode (fnB F_Mr_count) 124 = .ok (.getfield 220, 3) := by decide +kernel
theorem d_Mr_count_127 : decode (fnB F_Mr_count) 127 = .ok (.ireturn, 1) := by decide +kernel
theorem d_Mr_count_128 : decode (fnB F_Mr_count) 128 = .ok (.bipush (-2), 2) := by decide +kernel
theorem d_Mr_count_130 : decode (fnB F_Mr_count) 130 = .ok (.ireturn, 1) := by decide +kernel
theorem B_Mr_count_0 : (∀ (l0 : Value) (x : Int32) (st : List Value) (M : Mm) (Q : Option Value → Mm → Prop), wp F_Mr_count 0 [l0, .int x] st M Q = wp F_Mr_count 1 [l0, .int x] (.int x :: st) M Q) ∧
  (∀ (l0 l1 : Value) (st : List Value) (M : Mm) (Q : Option Value → Mm → Prop), wp F_Mr_count 1 [l0, l1] (.int 0 :: st) M Q = wp F_Mr_count 48 [l0, l1] st M Q) ∧
  (∀ (l0 l1 : Value) (st : List Value) (M : Mm) (Q : Option Value → Mm → Prop), wp F_Mr_count 1 [l0, l1] (.int 1 :: st) M Q = wp F_Mr_count 56 [l0, l1] st M Q) ∧
  (∀ (l0 l1 : Value) (st : List Value) (M : Mm) (Q : Option Value → Mm → Prop), wp F_Mr_count 1 [l0, l1] (.int 2 :: st) M Q = wp F_Mr_count 64 [l0, l1] st M Q) ∧
  (∀ (l0 l1 : Value) (st : List Value) (M : Mm) (Q : Option Value → Mm → Prop), wp F_Mr_count 1 [l0, l1] (.int 3 :: st) M Q = wp F_Mr_count 72 [l0, l1] st M Q) ∧
  (∀ (l0 l1 : Value) (st : List Value) (M : Mm) (Q : Option Value → Mm → Prop), wp F_Mr_count 1 [l0, l1] (.int 4 :: st) M Q = wp F_Mr_count 80 [l0, l1] st M Q) ∧
  (∀ (l0 l1 : Value) (st : List Value) (M : Mm) (Q : Option Value → Mm → Prop), wp F_Mr_count 1 [l0, l1] (.int 5 :: st) M Q = wp F_Mr_count 88 [l0, l1] st M Q) ∧
  (∀ (l0 l1 : Value) (st : List Value) (M : Mm) (Q : Option Value → Mm → Prop), wp F_Mr_count 1 [l0, l1] (.int 6 :: st) M Q = wp F_Mr_count 104 [l0, l1] st M Q) ∧
  (∀ (l0 l1 : Value) (st : List Value) (M : Mm) (Q : Option Value → Mm → Prop), wp F_Mr_count 1 [l0, l1] (.int 7 :: st) M Q = wp F_Mr_count 120 [l0, l1] st M Q) := ⟨fun _ _ _ _ _ => wp_in d_Mr_count_0 rfl rfl, fun _ _ _ _ _ => wp_swI d_Mr_count_1 (by decide) rfl rfl, fun _ _ _ _ _ => wp_swI d_Mr_count_1 (by decide) rfl rfl, fun _ _ _ _ _ => wp_swI d_Mr_count_1 (by decide) rfl rfl, fun _ _ _ _ _ => wp_swI d_Mr_count_1 (by decide) rfl rfl, fun _ _ _ _ _ => wp_swI d_Mr_count_1 (by decide) rfl rfl, fun _ _ _ _ _ => wp_swI d_Mr_count_1 (by decide) rfl rfl, fun _ _ _ _ _ => wp_swI d_Mr_count_1 (by decide) rfl rfl, fun _ _ _ _ _ => wp_swI d_Mr_count_1 (by decide) rfl rfl⟩
theorem B_Mr_count_48 : (∀ (l1 : Value) (x : Nat) (st : List Value) (M : Mm) (Q : Option Value → Mm → Prop), wp F_Mr_count 48 [.ref x, l1] st M Q = wp F_Mr_count 49 [.ref x, l1] (.ref x :: st) M Q) ∧
  (∀ (l0 l1 : Value) (a : Nat) (st : List Value) (M : Mm) (Q : Option Value → Mm → Prop), wp F_Mr_count 49 [l0, l1] (.ref a :: st) M Q = (sh M a = some (.inl 11) ∧ wp F_Mr_count 52 [l0, l1] (va_rf (gR M a 6) :: st) M Q)) ∧
  (∀ (l0 l1 : Value) (a : Nat) (st : List Value) (M : Mm) (Q : Option Value → Mm → Prop), wp F_Mr_count 52 [l0, l1] (.ref a :: st) M Q = (sh M a = some (.inl 9) ∧ wp F_Mr_count 55 [l0, l1] (.int (gI M a 2) :: st) M Q)) ∧
  (∀ (l0 l1 : Value) (v : Int32) (M : Mm) (Q : Option Value → Mm → Prop), wp F_Mr_count 55 [l0, l1] [.int v] M Q = Q (some (.int v)) M) := ⟨fun _ _ _ _ _ => wp_in d_Mr_count_48 rfl rfl, fun _ _ _ _ _ _ => wp_getA d_Mr_count_49 fl_11_33 rfl, fun _ _ _ _ _ _ => wp_getI d_Mr_count_52 fl_11_207 rfl, fun _ _ _ _ _ => wp_retI d_Mr_count_55 rfl⟩
theorem B_Mr_count_56 : (∀ (l1 : Value) (x : Nat) (st : List Value) (M : Mm) (Q : Option Value → Mm → Prop), wp F_Mr_count 56 [.ref x, l1] st M Q = wp F_Mr_count 57 [.ref x, l1] (.ref x :: st) M Q) ∧
  (∀ (l0 l1 : Value) (a : Nat) (st : List Value) (M : Mm) (Q : Option Value → Mm → Prop), wp F_Mr_count 57 [l0, l1] (.ref a :: st) M Q = (sh M a = some (.inl 11) ∧ wp F_Mr_count 60 [l0, l1] (va_rf (gR M a 6) :: st) M Q)) ∧
  (∀ (l0 l1 : Value) (a : Nat) (st : List Value) (M : Mm) (Q : Option Value → Mm → Prop), wp F_Mr_count 60 [l0, l1] (.ref a :: st) M Q = (sh M a = some (.inl 9) ∧ wp F_Mr_count 63 [l0, l1] (.int (gI M a 1) :: st) M Q)) ∧
  (∀ (l0 l1 : Value) (v : Int32) (M : Mm) (Q : Option Value → Mm → Prop), wp F_Mr_count 63 [l0, l1] [.int v] M Q = Q (some (.int v)) M) := ⟨fun _ _ _ _ _ => wp_in d_Mr_count_56 rfl rfl, fun _ _ _ _ _ _ => wp_getA d_Mr_count_57 fl_11_33 rfl, fun _ _ _ _ _ _ => wp_getI d_Mr_count_60 fl_11_208 rfl, fun _ _ _ _ _ => wp_retI d_Mr_count_63 rfl⟩
theorem B_Mr_count_64 : (∀ (l1 : Value) (x : Nat) (st : List Value) (M : Mm) (Q : Option Value → Mm → Prop), wp F_Mr_count 64 [.ref x, l1] st M Q = wp F_Mr_count 65 [.ref x, l1] (.ref x :: st) M Q) ∧
  (∀ (l0 l1 : Value) (a : Nat) (st : List Value) (M : Mm) (Q : Option Value → Mm → Prop), wp F_Mr_count 65 [l0, l1] (.ref a :: st) M Q = (sh M a = some (.inl 11) ∧ wp F_Mr_count 68 [l0, l1] (va_rf (gR M a 6) :: st) M Q)) ∧
  (∀ (l0 l1 : Value) (b : Nat) (M : Mm) (Q : Option Value → Mm → Prop), wp F_Mr_count 68 [l0, l1] [.ref b] M Q = (sh M b = some (.inl 9) ∧ wp F_Rules_liveOnes 0 [.ref b, jk, jk] [] M (fun r M1 => wp F_Mr_count 71 [l0, l1] (r.toList ++ []) M1 Q))) ∧
  (∀ (l0 l1 : Value) (v : Int32) (M : Mm) (Q : Option Value → Mm → Prop), wp F_Mr_count 71 [l0, l1] [.int v] M Q = Q (some (.int v)) M) := ⟨fun _ _ _ _ _ => wp_in d_Mr_count_64 rfl rfl, fun _ _ _ _ _ _ => wp_getA d_Mr_count_65 fl_11_33 rfl, fun _ _ _ _ _ => wp_callV d_Mr_count_68 ml_11_211 rfl rfl rfl, fun _ _ _ _ _ => wp_retI d_Mr_count_71 rfl⟩
theorem B_Mr_count_72 : (∀ (l1 : Value) (x : Nat) (st : List Value) (M : Mm) (Q : Option Value → Mm → Prop), wp F_Mr_count 72 [.ref x, l1] st M Q = wp F_Mr_count 73 [.ref x, l1] (.ref x :: st) M Q) ∧
  (∀ (l0 l1 : Value) (a : Nat) (st : List Value) (M : Mm) (Q : Option Value → Mm → Prop), wp F_Mr_count 73 [l0, l1] (.ref a :: st) M Q = (sh M a = some (.inl 11) ∧ wp F_Mr_count 76 [l0, l1] (va_rf (gR M a 7) :: st) M Q)) ∧
  (∀ (l0 l1 : Value) (a : Nat) (st : List Value) (M : Mm) (Q : Option Value → Mm → Prop), wp F_Mr_count 76 [l0, l1] (.ref a :: st) M Q = (sh M a = some (.inl 7) ∧ wp F_Mr_count 79 [l0, l1] (.int (gI M a 2) :: st) M Q)) ∧
  (∀ (l0 l1 : Value) (v : Int32) (M : Mm) (Q : Option Value → Mm → Prop), wp F_Mr_count 79 [l0, l1] [.int v] M Q = Q (some (.int v)) M) := ⟨fun _ _ _ _ _ => wp_in d_Mr_count_72 rfl rfl, fun _ _ _ _ _ _ => wp_getA d_Mr_count_73 fl_11_40 rfl, fun _ _ _ _ _ _ => wp_getI d_Mr_count_76 fl_11_214 rfl, fun _ _ _ _ _ => wp_retI d_Mr_count_79 rfl⟩
theorem B_Mr_count_80 : (∀ (l1 : Value) (x : Nat) (st : List Value) (M : Mm) (Q : Option Value → Mm → Prop), wp F_Mr_count 80 [.ref x, l1] st M Q = wp F_Mr_count 81 [.ref x, l1] (.ref x :: st) M Q) ∧
  (∀ (l0 l1 : Value) (a : Nat) (st : List Value) (M : Mm) (Q : Option Value → Mm → Prop), wp F_Mr_count 81 [l0, l1] (.ref a :: st) M Q = (sh M a = some (.inl 11) ∧ wp F_Mr_count 84 [l0, l1] (va_rf (gR M a 10) :: st) M Q)) ∧
  (∀ (l0 l1 : Value) (a : Nat) (st : List Value) (M : Mm) (Q : Option Value → Mm → Prop), wp F_Mr_count 84 [l0, l1] (.ref a :: st) M Q = (sh M a = some (.inl 0) ∧ wp F_Mr_count 87 [l0, l1] (.int (gI M a 5) :: st) M Q)) ∧
  (∀ (l0 l1 : Value) (v : Int32) (M : Mm) (Q : Option Value → Mm → Prop), wp F_Mr_count 87 [l0, l1] [.int v] M Q = Q (some (.int v)) M) := ⟨fun _ _ _ _ _ => wp_in d_Mr_count_80 rfl rfl, fun _ _ _ _ _ _ => wp_getA d_Mr_count_81 fl_11_65 rfl, fun _ _ _ _ _ _ => wp_getI d_Mr_count_84 fl_11_217 rfl, fun _ _ _ _ _ => wp_retI d_Mr_count_87 rfl⟩
theorem B_Mr_count_88 : (∀ (l1 : Value) (x : Nat) (st : List Value) (M : Mm) (Q : Option Value → Mm → Prop), wp F_Mr_count 88 [.ref x, l1] st M Q = wp F_Mr_count 89 [.ref x, l1] (.ref x :: st) M Q) ∧
  (∀ (l0 l1 : Value) (a : Nat) (st : List Value) (M : Mm) (Q : Option Value → Mm → Prop), wp F_Mr_count 89 [l0, l1] (.ref a :: st) M Q = (sh M a = some (.inl 11) ∧ wp F_Mr_count 92 [l0, l1] (va_rf (gR M a 10) :: st) M Q)) ∧
  (∀ (l0 l1 : Value) (b : Nat) (M : Mm) (Q : Option Value → Mm → Prop), wp F_Mr_count 92 [l0, l1] [.ref b] M Q = (sh M b = some (.inl 0) ∧ wp F_Completion_isDone 0 [.ref b] [] M (fun r M1 => wp F_Mr_count 95 [l0, l1] (r.toList ++ []) M1 Q))) ∧
  (∀ (l0 l1 : Value) (x : Int32) (st : List Value) (M : Mm) (Q : Option Value → Mm → Prop), wp F_Mr_count 95 [l0, l1] (.int x :: st) M Q = if x = 0 then wp F_Mr_count 102 [l0, l1] st M Q else wp F_Mr_count 98 [l0, l1] st M Q) ∧
  (∀ (l0 l1 : Value) (st : List Value) (M : Mm) (Q : Option Value → Mm → Prop), wp F_Mr_count 98 [l0, l1] st M Q = wp F_Mr_count 99 [l0, l1] (.int 1 :: st) M Q) ∧
  (∀ (l0 l1 : Value) (st : List Value) (M : Mm) (Q : Option Value → Mm → Prop), wp F_Mr_count 99 [l0, l1] st M Q = wp F_Mr_count 103 [l0, l1] st M Q) := ⟨fun _ _ _ _ _ => wp_in d_Mr_count_88 rfl rfl, fun _ _ _ _ _ _ => wp_getA d_Mr_count_89 fl_11_65 rfl, fun _ _ _ _ _ => wp_callV d_Mr_count_92 ml_11_204 rfl rfl rfl, fun _ _ _ _ _ _ => wp_if_eq d_Mr_count_95 rfl, fun _ _ _ _ _ => wp_iconst d_Mr_count_98 (by decide), fun _ _ _ _ _ => wp_goto d_Mr_count_99 rfl⟩
theorem B_Mr_count_102 : (∀ (l0 l1 : Value) (st : List Value) (M : Mm) (Q : Option Value → Mm → Prop), wp F_Mr_count 102 [l0, l1] st M Q = wp F_Mr_count 103 [l0, l1] (.int 0 :: st) M Q) := fun _ _ _ _ _ => wp_iconst d_Mr_count_102 (by decide)
theorem B_Mr_count_103 : (∀ (l0 l1 : Value) (v : Int32) (M : Mm) (Q : Option Value → Mm → Prop), wp F_Mr_count 103 [l0, l1] [.int v] M Q = Q (some (.int v)) M) := fun _ _ _ _ _ => wp_retI d_Mr_count_103 rfl
theorem B_Mr_count_104 : (∀ (l1 : Value) (x : Nat) (st : List Value) (M : Mm) (Q : Option Value → Mm → Prop), wp F_Mr_count 104 [.ref x, l1] st M Q = wp F_Mr_count 105 [.ref x, l1] (.ref x :: st) M Q) ∧
  (∀ (l0 l1 : Value) (a : Nat) (st : List Value) (M : Mm) (Q : Option Value → Mm → Prop), wp F_Mr_count 105 [l0, l1] (.ref a :: st) M Q = (sh M a = some (.inl 11) ∧ wp F_Mr_count 108 [l0, l1] (va_rf (gR M a 10) :: st) M Q)) ∧
  (∀ (l0 l1 : Value) (a : Nat) (st : List Value) (M : Mm) (Q : Option Value → Mm → Prop), wp F_Mr_count 108 [l0, l1] (.ref a :: st) M Q = (sh M a = some (.inl 0) ∧ wp F_Mr_count 111 [l0, l1] (.int (gI M a 7) :: st) M Q)) ∧
  (∀ (l0 l1 : Value) (x : Int32) (st : List Value) (M : Mm) (Q : Option Value → Mm → Prop), wp F_Mr_count 111 [l0, l1] (.int x :: st) M Q = if x = 0 then wp F_Mr_count 118 [l0, l1] st M Q else wp F_Mr_count 114 [l0, l1] st M Q) ∧
  (∀ (l0 l1 : Value) (st : List Value) (M : Mm) (Q : Option Value → Mm → Prop), wp F_Mr_count 114 [l0, l1] st M Q = wp F_Mr_count 115 [l0, l1] (.int 1 :: st) M Q) ∧
  (∀ (l0 l1 : Value) (st : List Value) (M : Mm) (Q : Option Value → Mm → Prop), wp F_Mr_count 115 [l0, l1] st M Q = wp F_Mr_count 119 [l0, l1] st M Q) := ⟨fun _ _ _ _ _ => wp_in d_Mr_count_104 rfl rfl, fun _ _ _ _ _ _ => wp_getA d_Mr_count_105 fl_11_65 rfl, fun _ _ _ _ _ _ => wp_getI d_Mr_count_108 fl_11_200 rfl, fun _ _ _ _ _ _ => wp_if_eq d_Mr_count_111 rfl, fun _ _ _ _ _ => wp_iconst d_Mr_count_114 (by decide), fun _ _ _ _ _ => wp_goto d_Mr_count_115 rfl⟩
theorem B_Mr_count_118 : (∀ (l0 l1 : Value) (st : List Value) (M : Mm) (Q : Option Value → Mm → Prop), wp F_Mr_count 118 [l0, l1] st M Q = wp F_Mr_count 119 [l0, l1] (.int 0 :: st) M Q) := fun _ _ _ _ _ => wp_iconst d_Mr_count_118 (by decide)
theorem B_Mr_count_119 : (∀ (l0 l1 : Value) (v : Int32) (M : Mm) (Q : Option Value → Mm → Prop), wp F_Mr_count 119 [l0, l1] [.int v] M Q = Q (some (.int v)) M) := fun _ _ _ _ _ => wp_retI d_Mr_count_119 rfl
theorem B_Mr_count_120 : (∀ (l1 : Value) (x : Nat) (st : List Value) (M : Mm) (Q : Option Value → Mm → Prop), wp F_Mr_count 120 [.ref x, l1] st M Q = wp F_Mr_count 121 [.ref x, l1] (.ref x :: st) M Q) ∧
  (∀ (l0 l1 : Value) (a : Nat) (st : List Value) (M : Mm) (Q : Option Value → Mm → Prop), wp F_Mr_count 121 [l0, l1] (.ref a :: st) M Q = (sh M a = some (.inl 11) ∧ wp F_Mr_count 124 [l0, l1] (va_rf (gR M a 10) :: st) M Q)) ∧
  (∀ (l0 l1 : Value) (a : Nat) (st : List Value) (M : Mm) (Q : Option Value → Mm → Prop), wp F_Mr_count 124 [l0, l1] (.ref a :: st) M Q = (sh M a = some (.inl 0) ∧ wp F_Mr_count 127 [l0, l1] (.int (gI M a 6) :: st) M Q)) ∧
  (∀ (l0 l1 : Value) (v : Int32) (M : Mm) (Q : Option Value → Mm → Prop), wp F_Mr_count 127 [l0, l1] [.int v] M Q = Q (some (.int v)) M) := ⟨fun _ _ _ _ _ => wp_in d_Mr_count_120 rfl rfl, fun _ _ _ _ _ _ => wp_getA d_Mr_count_121 fl_11_65 rfl, fun _ _ _ _ _ _ => wp_getI d_Mr_count_124 fl_11_220 rfl, fun _ _ _ _ _ => wp_retI d_Mr_count_127 rfl⟩
theorem B_Mr_count_128 : (∀ (l0 l1 : Value) (st : List Value) (M : Mm) (Q : Option Value → Mm → Prop), wp F_Mr_count 128 [l0, l1] st M Q = wp F_Mr_count 130 [l0, l1] (.int (-2) :: st) M Q) ∧
  (∀ (l0 l1 : Value) (v : Int32) (M : Mm) (Q : Option Value → Mm → Prop), wp F_Mr_count 130 [l0, l1] [.int v] M Q = Q (some (.int v)) M) := ⟨fun _ _ _ _ _ => wp_bipush d_Mr_count_128 (by decide), fun _ _ _ _ _ => wp_retI d_Mr_count_130 rfl⟩
theorem sw_Mr_count_1 (l0 l1 : Value) (st : List Value) (M : Mm) (Q : Option Value → Mm → Prop) (x : Int32) (h : x.toInt < 0 ∨ 7 < x.toInt) : wp F_Mr_count 1 [l0, l1] (.int x :: st) M Q = wp F_Mr_count 128 [l0, l1] st M Q := wp_swO d_Mr_count_1 rfl h
theorem d_Mr_rule_0 : decode (fnB F_Mr_rule) 0 = .ok (.aload_n 0, 1) := by decide +kernel
theorem d_Mr_rule_1 : decode (fnB F_Mr_rule) 1 = .ok (.getfield 33, 3) := by decide +kernel
theorem d_Mr_rule_4 : decode (fnB F_Mr_rule) 4 = .ok (.iload_n 1, 1) := by decide +kernel
theorem d_Mr_rule_5 : decode (fnB F_Mr_rule) 5 = .ok (.invokevirtual 223, 3) := by decide +kernel
theorem d_Mr_rule_8 : decode (fnB F_Mr_rule) 8 = .ok (.ifCond .ne 6, 3) := by decide +kernel
theorem d_Mr_rule_11 : decode (fnB F_Mr_rule) 11 = .ok (.bipush (-2), 2) := by decide +kernel
theorem d_Mr_rule_13 : decode (fnB F_Mr_rule) 13 = .ok (.ireturn, 1) := by decide +kernel
theorem d_Mr_rule_14 : decode (fnB F_Mr_rule) 14 = .ok (.iload_n 2, 1) := by decide +kernel
theorem d_Mr_rule_15 : decode (fnB F_Mr_rule) 15 = .ok (.tableswitch 78 0 2 #[25, 46, 62], 25) := by decide +kernel
theorem d_Mr_rule_40 : decode (fnB F_Mr_rule) 40 = .ok (.aload_n 0, 1) := by decide +kernel
theorem d_Mr_rule_41 : decode (fnB F_Mr_rule) 41 = .ok (.getfield 33, 3) := by decide +kernel
theorem d_Mr_rule_44 : decode (fnB F_Mr_rule) 44 = .ok (.getfield 226, 3) := by decide +kernel
theorem d_Mr_rule_47 : decode (fnB F_Mr_rule) 47 = .ok (.iload_n 1, 1) := by decide +kernel
theorem d_Mr_rule_48 : decode (fnB F_Mr_rule) 48 = .ok (.aaload, 1) := by decide +kernel
theorem d_Mr_rule_49 : decode (fnB F_Mr_rule) 49 = .ok (.getfield 230, 3) := by decide +kernel
theorem d_Mr_rule_52 : decode (fnB F_Mr_rule) 52 = .ok (.ifCond .eq 7, 3) := by decide +kernel
theorem d_Mr_rule_55 : decode (fnB F_Mr_rule) 55 = .ok (.iconst 1, 1) := by decide +kernel
theorem d_Mr_rule_56 : decode (fnB F_Mr_rule) 56 = .ok (.goto 4, 3) := by decide +kernel
theorem d_Mr_rule_59 : decode (fnB F_Mr_rule) 59 = .ok (.iconst 0, 1) := by decide +kernel
theorem d_Mr_rule_60 : decode (fnB F_Mr_rule) 60 = .ok (.ireturn, 1) := by decide +kernel
theorem d_Mr_rule_61 : decode (fnB F_Mr_rule) 61 = .ok (.aload_n 0, 1) := by decide +kernel
theorem d_Mr_rule_62 : decode (fnB F_Mr_rule) 62 = .ok (.getfield 33, 3) := by decide +kernel
theorem d_Mr_rule_65 : decode (fnB F_Mr_rule) 65 = .ok (.getfield 226, 3) := by decide +kernel
theorem d_Mr_rule_68 : decode (fnB F_Mr_rule) 68 = .ok (.iload_n 1, 1) := by decide +kernel
theorem d_Mr_rule_69 : decode (fnB F_Mr_rule) 69 = .ok (.aaload, 1) := by decide +kernel
theorem d_Mr_rule_70 : decode (fnB F_Mr_rule) 70 = .ok (.getfield 235, 3) := by decide +kernel
theorem d_Mr_rule_73 : decode (fnB F_Mr_rule) 73 = .ok (.getfield 140, 3) := by decide +kernel
theorem d_Mr_rule_76 : decode (fnB F_Mr_rule) 76 = .ok (.ireturn, 1) := by decide +kernel
theorem d_Mr_rule_77 : decode (fnB F_Mr_rule) 77 = .ok (.aload_n 0, 1) := by decide +kernel
theorem d_Mr_rule_78 : decode (fnB F_Mr_rule) 78 = .ok (.getfield 33, 3) := by decide +kernel
theorem d_Mr_rule_81 : decode (fnB F_Mr_rule) 81 = .ok (.getfield 226, 3) := by decide +kernel
theorem d_Mr_rule_84 : decode (fnB F_Mr_rule) 84 = .ok (.iload_n 1, 1) := by decide +kernel
theorem d_Mr_rule_85 : decode (fnB F_Mr_rule) 85 = .ok (.aaload, 1) := by decide +kernel
theorem d_Mr_rule_86 : decode (fnB F_Mr_rule) 86 = .ok (.getfield 238, 3) := by decide +kernel
theorem d_Mr_rule_89 : decode (fnB F_Mr_rule) 89 = .ok (.getfield 140, 3) := by decide +kernel
theorem d_Mr_rule_92 : decode (fnB F_Mr_rule) 92 = .ok (.ireturn, 1) := by decide +kernel
theorem d_Mr_rule_93 : decode (fnB F_Mr_rule) 93 = .ok (.bipush (-2), 2) := by decide +kernel
theorem d_Mr_rule_95 : decode (fnB F_Mr_rule) 95 = .ok (.ireturn, 1) := by decide +kernel
theorem B_Mr_rule_0 : (∀ (l1 l2 : Value) (x : Nat) (st : List Value) (M : Mm) (Q : Option Value → Mm → Prop), wp F_Mr_rule 0 [.ref x, l1, l2] st M Q = wp F_Mr_rule 1 [.ref x, l1, l2] (.ref x :: st) M Q) ∧
  (∀ (l0 l1 l2 : Value) (a : Nat) (st : List Value) (M : Mm) (Q : Option Value → Mm → Prop), wp F_Mr_rule 1 [l0, l1, l2] (.ref a :: st) M Q = (sh M a = some (.inl 11) ∧ wp F_Mr_rule 4 [l0, l1, l2] (va_rf (gR M a 6) :: st) M Q)) ∧
  (∀ (l0 l2 : Value) (x : Int32) (st : List Value) (M : Mm) (Q : Option Value → Mm → Prop), wp F_Mr_rule 4 [l0, .int x, l2] st M Q = wp F_Mr_rule 5 [l0, .int x, l2] (.int x :: st) M Q) ∧
  (∀ (l0 l1 l2 : Value) (b : Nat) (p0 : Int32) (M : Mm) (Q : Option Value → Mm → Prop), wp F_Mr_rule 5 [l0, l1, l2] [.int p0, .ref b] M Q = (sh M b = some (.inl 9) ∧ wp F_Rules_has 0 [.ref b, .int p0] [] M (fun r M1 => wp F_Mr_rule 8 [l0, l1, l2] (r.toList ++ []) M1 Q))) ∧
  (∀ (l0 l1 l2 : Value) (x : Int32) (st : List Value) (M : Mm) (Q : Option Value → Mm → Prop), wp F_Mr_rule 8 [l0, l1, l2] (.int x :: st) M Q = if x = 0 then wp F_Mr_rule 11 [l0, l1, l2] st M Q else wp F_Mr_rule 14 [l0, l1, l2] st M Q) ∧
  (∀ (l0 l1 l2 : Value) (st : List Value) (M : Mm) (Q : Option Value → Mm → Prop), wp F_Mr_rule 11 [l0, l1, l2] st M Q = wp F_Mr_rule 13 [l0, l1, l2] (.int (-2) :: st) M Q) ∧
  (∀ (l0 l1 l2 : Value) (v : Int32) (M : Mm) (Q : Option Value → Mm → Prop), wp F_Mr_rule 13 [l0, l1, l2] [.int v] M Q = Q (some (.int v)) M) := ⟨fun _ _ _ _ _ _ => wp_in d_Mr_rule_0 rfl rfl, fun _ _ _ _ _ _ _ => wp_getA d_Mr_rule_1 fl_11_33 rfl, fun _ _ _ _ _ _ => wp_in d_Mr_rule_4 rfl rfl, fun _ _ _ _ _ _ _ => wp_callV d_Mr_rule_5 ml_11_223 rfl rfl rfl, fun _ _ _ _ _ _ _ => wp_if_ne d_Mr_rule_8 rfl, fun _ _ _ _ _ _ => wp_bipush d_Mr_rule_11 (by decide), fun _ _ _ _ _ _ => wp_retI d_Mr_rule_13 rfl⟩
theorem B_Mr_rule_14 : (∀ (l0 l1 : Value) (x : Int32) (st : List Value) (M : Mm) (Q : Option Value → Mm → Prop), wp F_Mr_rule 14 [l0, l1, .int x] st M Q = wp F_Mr_rule 15 [l0, l1, .int x] (.int x :: st) M Q) ∧
  (∀ (l0 l1 l2 : Value) (st : List Value) (M : Mm) (Q : Option Value → Mm → Prop), wp F_Mr_rule 15 [l0, l1, l2] (.int 0 :: st) M Q = wp F_Mr_rule 40 [l0, l1, l2] st M Q) ∧
  (∀ (l0 l1 l2 : Value) (st : List Value) (M : Mm) (Q : Option Value → Mm → Prop), wp F_Mr_rule 15 [l0, l1, l2] (.int 1 :: st) M Q = wp F_Mr_rule 61 [l0, l1, l2] st M Q) ∧
  (∀ (l0 l1 l2 : Value) (st : List Value) (M : Mm) (Q : Option Value → Mm → Prop), wp F_Mr_rule 15 [l0, l1, l2] (.int 2 :: st) M Q = wp F_Mr_rule 77 [l0, l1, l2] st M Q) := ⟨fun _ _ _ _ _ _ => wp_in d_Mr_rule_14 rfl rfl, fun _ _ _ _ _ _ => wp_swI d_Mr_rule_15 (by decide) rfl rfl, fun _ _ _ _ _ _ => wp_swI d_Mr_rule_15 (by decide) rfl rfl, fun _ _ _ _ _ _ => wp_swI d_Mr_rule_15 (by decide) rfl rfl⟩
theorem B_Mr_rule_40 : (∀ (l1 l2 : Value) (x : Nat) (st : List Value) (M : Mm) (Q : Option Value → Mm → Prop), wp F_Mr_rule 40 [.ref x, l1, l2] st M Q = wp F_Mr_rule 41 [.ref x, l1, l2] (.ref x :: st) M Q) ∧
  (∀ (l0 l1 l2 : Value) (a : Nat) (st : List Value) (M : Mm) (Q : Option Value → Mm → Prop), wp F_Mr_rule 41 [l0, l1, l2] (.ref a :: st) M Q = (sh M a = some (.inl 11) ∧ wp F_Mr_rule 44 [l0, l1, l2] (va_rf (gR M a 6) :: st) M Q)) ∧
  (∀ (l0 l1 l2 : Value) (a : Nat) (st : List Value) (M : Mm) (Q : Option Value → Mm → Prop), wp F_Mr_rule 44 [l0, l1, l2] (.ref a :: st) M Q = (sh M a = some (.inl 9) ∧ wp F_Mr_rule 47 [l0, l1, l2] (va_rf (gR M a 0) :: st) M Q)) ∧
  (∀ (l0 l2 : Value) (x : Int32) (st : List Value) (M : Mm) (Q : Option Value → Mm → Prop), wp F_Mr_rule 47 [l0, .int x, l2] st M Q = wp F_Mr_rule 48 [l0, .int x, l2] (.int x :: st) M Q) ∧
  (∀ (l0 l1 l2 : Value) (a : Nat) (j : Int32) (st : List Value) (M : Mm) (Q : Option Value → Mm → Prop), wp F_Mr_rule 48 [l0, l1, l2] (.int j :: .ref a :: st) M Q = (ixR M a j ∧ wp F_Mr_rule 49 [l0, l1, l2] (va_rf (gR M a (cl j)) :: st) M Q)) ∧
  (∀ (l0 l1 l2 : Value) (a : Nat) (st : List Value) (M : Mm) (Q : Option Value → Mm → Prop), wp F_Mr_rule 49 [l0, l1, l2] (.ref a :: st) M Q = (sh M a = some (.inl 8) ∧ wp F_Mr_rule 52 [l0, l1, l2] (.int (gI M a 2) :: st) M Q)) ∧
  (∀ (l0 l1 l2 : Value) (x : Int32) (st : List Value) (M : Mm) (Q : Option Value → Mm → Prop), wp F_Mr_rule 52 [l0, l1, l2] (.int x :: st) M Q = if x = 0 then wp F_Mr_rule 59 [l0, l1, l2] st M Q else wp F_Mr_rule 55 [l0, l1, l2] st M Q) ∧
  (∀ (l0 l1 l2 : Value) (st : List Value) (M : Mm) (Q : Option Value → Mm → Prop), wp F_Mr_rule 55 [l0, l1, l2] st M Q = wp F_Mr_rule 56 [l0, l1, l2] (.int 1 :: st) M Q) ∧
  (∀ (l0 l1 l2 : Value) (st : List Value) (M : Mm) (Q : Option Value → Mm → Prop), wp F_Mr_rule 56 [l0, l1, l2] st M Q = wp F_Mr_rule 60 [l0, l1, l2] st M Q) := ⟨fun _ _ _ _ _ _ => wp_in d_Mr_rule_40 rfl rfl, fun _ _ _ _ _ _ _ => wp_getA d_Mr_rule_41 fl_11_33 rfl, fun _ _ _ _ _ _ _ => wp_getA d_Mr_rule_44 fl_11_226 rfl, fun _ _ _ _ _ _ => wp_in d_Mr_rule_47 rfl rfl, fun _ _ _ _ _ _ _ _ => wp_aald d_Mr_rule_48, fun _ _ _ _ _ _ _ => wp_getI d_Mr_rule_49 fl_11_230 rfl, fun _ _ _ _ _ _ _ => wp_if_eq d_Mr_rule_52 rfl, fun _ _ _ _ _ _ => wp_iconst d_Mr_rule_55 (by decide), fun _ _ _ _ _ _ => wp_goto d_Mr_rule_56 rfl⟩
theorem B_Mr_rule_59 : (∀ (l0 l1 l2 : Value) (st : List Value) (M : Mm) (Q : Option Value → Mm → Prop), wp F_Mr_rule 59 [l0, l1, l2] st M Q = wp F_Mr_rule 60 [l0, l1, l2] (.int 0 :: st) M Q) := fun _ _ _ _ _ _ => wp_iconst d_Mr_rule_59 (by decide)
theorem B_Mr_rule_60 : (∀ (l0 l1 l2 : Value) (v : Int32) (M : Mm) (Q : Option Value → Mm → Prop), wp F_Mr_rule 60 [l0, l1, l2] [.int v] M Q = Q (some (.int v)) M) := fun _ _ _ _ _ _ => wp_retI d_Mr_rule_60 rfl
theorem B_Mr_rule_61 : (∀ (l1 l2 : Value) (x : Nat) (st : List Value) (M : Mm) (Q : Option Value → Mm → Prop), wp F_Mr_rule 61 [.ref x, l1, l2] st M Q = wp F_Mr_rule 62 [.ref x, l1, l2] (.ref x :: st) M Q) ∧
  (∀ (l0 l1 l2 : Value) (a : Nat) (st : List Value) (M : Mm) (Q : Option Value → Mm → Prop), wp F_Mr_rule 62 [l0, l1, l2] (.ref a :: st) M Q = (sh M a = some (.inl 11) ∧ wp F_Mr_rule 65 [l0, l1, l2] (va_rf (gR M a 6) :: st) M Q)) ∧
  (∀ (l0 l1 l2 : Value) (a : Nat) (st : List Value) (M : Mm) (Q : Option Value → Mm → Prop), wp F_Mr_rule 65 [l0, l1, l2] (.ref a :: st) M Q = (sh M a = some (.inl 9) ∧ wp F_Mr_rule 68 [l0, l1, l2] (va_rf (gR M a 0) :: st) M Q)) ∧
  (∀ (l0 l2 : Value) (x : Int32) (st : List Value) (M : Mm) (Q : Option Value → Mm → Prop), wp F_Mr_rule 68 [l0, .int x, l2] st M Q = wp F_Mr_rule 69 [l0, .int x, l2] (.int x :: st) M Q) ∧
  (∀ (l0 l1 l2 : Value) (a : Nat) (j : Int32) (st : List Value) (M : Mm) (Q : Option Value → Mm → Prop), wp F_Mr_rule 69 [l0, l1, l2] (.int j :: .ref a :: st) M Q = (ixR M a j ∧ wp F_Mr_rule 70 [l0, l1, l2] (va_rf (gR M a (cl j)) :: st) M Q)) ∧
  (∀ (l0 l1 l2 : Value) (a : Nat) (st : List Value) (M : Mm) (Q : Option Value → Mm → Prop), wp F_Mr_rule 70 [l0, l1, l2] (.ref a :: st) M Q = (sh M a = some (.inl 8) ∧ wp F_Mr_rule 73 [l0, l1, l2] (va_rf (gR M a 0) :: st) M Q)) ∧
  (∀ (l0 l1 l2 : Value) (a : Nat) (st : List Value) (M : Mm) (Q : Option Value → Mm → Prop), wp F_Mr_rule 73 [l0, l1, l2] (.ref a :: st) M Q = (sh M a = some (.inl 10) ∧ wp F_Mr_rule 76 [l0, l1, l2] (.int (gI M a 1) :: st) M Q)) ∧
  (∀ (l0 l1 l2 : Value) (v : Int32) (M : Mm) (Q : Option Value → Mm → Prop), wp F_Mr_rule 76 [l0, l1, l2] [.int v] M Q = Q (some (.int v)) M) := ⟨fun _ _ _ _ _ _ => wp_in d_Mr_rule_61 rfl rfl, fun _ _ _ _ _ _ _ => wp_getA d_Mr_rule_62 fl_11_33 rfl, fun _ _ _ _ _ _ _ => wp_getA d_Mr_rule_65 fl_11_226 rfl, fun _ _ _ _ _ _ => wp_in d_Mr_rule_68 rfl rfl, fun _ _ _ _ _ _ _ _ => wp_aald d_Mr_rule_69, fun _ _ _ _ _ _ _ => wp_getA d_Mr_rule_70 fl_11_235 rfl, fun _ _ _ _ _ _ _ => wp_getI d_Mr_rule_73 fl_11_140 rfl, fun _ _ _ _ _ _ => wp_retI d_Mr_rule_76 rfl⟩
theorem B_Mr_rule_77 : (∀ (l1 l2 : Value) (x : Nat) (st : List Value) (M : Mm) (Q : Option Value → Mm → Prop), wp F_Mr_rule 77 [.ref x, l1, l2] st M Q = wp F_Mr_rule 78 [.ref x, l1, l2] (.ref x :: st) M Q) ∧
  (∀ (l0 l1 l2 : Value) (a : Nat) (st : List Value) (M : Mm) (Q : Option Value → Mm → Prop), wp F_Mr_rule 78 [l0, l1, l2] (.ref a :: st) M Q = (sh M a = some (.inl 11) ∧ wp F_Mr_rule 81 [l0, l1, l2] (va_rf (gR M a 6) :: st) M Q)) ∧
  (∀ (l0 l1 l2 : Value) (a : Nat) (st : List Value) (M : Mm) (Q : Option Value → Mm → Prop), wp F_Mr_rule 81 [l0, l1, l2] (.ref a :: st) M Q = (sh M a = some (.inl 9) ∧ wp F_Mr_rule 84 [l0, l1, l2] (va_rf (gR M a 0) :: st) M Q)) ∧
  (∀ (l0 l2 : Value) (x : Int32) (st : List Value) (M : Mm) (Q : Option Value → Mm → Prop), wp F_Mr_rule 84 [l0, .int x, l2] st M Q = wp F_Mr_rule 85 [l0, .int x, l2] (.int x :: st) M Q) ∧
  (∀ (l0 l1 l2 : Value) (a : Nat) (j : Int32) (st : List Value) (M : Mm) (Q : Option Value → Mm → Prop), wp F_Mr_rule 85 [l0, l1, l2] (.int j :: .ref a :: st) M Q = (ixR M a j ∧ wp F_Mr_rule 86 [l0, l1, l2] (va_rf (gR M a (cl j)) :: st) M Q)) ∧
  (∀ (l0 l1 l2 : Value) (a : Nat) (st : List Value) (M : Mm) (Q : Option Value → Mm → Prop), wp F_Mr_rule 86 [l0, l1, l2] (.ref a :: st) M Q = (sh M a = some (.inl 8) ∧ wp F_Mr_rule 89 [l0, l1, l2] (va_rf (gR M a 1) :: st) M Q)) ∧
  (∀ (l0 l1 l2 : Value) (a : Nat) (st : List Value) (M : Mm) (Q : Option Value → Mm → Prop), wp F_Mr_rule 89 [l0, l1, l2] (.ref a :: st) M Q = (sh M a = some (.inl 10) ∧ wp F_Mr_rule 92 [l0, l1, l2] (.int (gI M a 1) :: st) M Q)) ∧
  (∀ (l0 l1 l2 : Value) (v : Int32) (M : Mm) (Q : Option Value → Mm → Prop), wp F_Mr_rule 92 [l0, l1, l2] [.int v] M Q = Q (some (.int v)) M) := ⟨fun _ _ _ _ _ _ => wp_in d_Mr_rule_77 rfl rfl, fun _ _ _ _ _ _ _ => wp_getA d_Mr_rule_78 fl_11_33 rfl, fun _ _ _ _ _ _ _ => wp_getA d_Mr_rule_81 fl_11_226 rfl, fun _ _ _ _ _ _ => wp_in d_Mr_rule_84 rfl rfl, fun _ _ _ _ _ _ _ _ => wp_aald d_Mr_rule_85, fun _ _ _ _ _ _ _ => wp_getA d_Mr_rule_86 fl_11_238 rfl, fun _ _ _ _ _ _ _ => wp_getI d_Mr_rule_89 fl_11_140 rfl, fun _ _ _ _ _ _ => wp_retI d_Mr_rule_92 rfl⟩
theorem B_Mr_rule_93 : (∀ (l0 l1 l2 : Value) (st : List Value) (M : Mm) (Q : Option Value → Mm → Prop), wp F_Mr_rule 93 [l0, l1, l2] st M Q = wp F_Mr_rule 95 [l0, l1, l2] (.int (-2) :: st) M Q) ∧
  (∀ (l0 l1 l2 : Value) (v : Int32) (M : Mm) (Q : Option Value → Mm → Prop), wp F_Mr_rule 95 [l0, l1, l2] [.int v] M Q = Q (some (.int v)) M) := ⟨fun _ _ _ _ _ _ => wp_bipush d_Mr_rule_93 (by decide), fun _ _ _ _ _ _ => wp_retI d_Mr_rule_95 rfl⟩
theorem sw_Mr_rule_15 (l0 l1 l2 : Value) (st : List Value) (M : Mm) (Q : Option Value → Mm → Prop) (x : Int32) (h : x.toInt < 0 ∨ 2 < x.toInt) : wp F_Mr_rule 15 [l0, l1, l2] (.int x :: st) M Q = wp F_Mr_rule 93 [l0, l1, l2] st M Q := wp_swO d_Mr_rule_15 rfl h
theorem d_Mr_ruleLetter_0 : decode (fnB F_Mr_ruleLetter) 0 = .ok (.aload_n 0, 1) := by decide +kernel
theorem d_Mr_ruleLetter_1 : decode (fnB F_Mr_ruleLetter) 1 = .ok (.getfield 33, 3) := by decide +kernel
theorem d_Mr_ruleLetter_4 : decode (fnB F_Mr_ruleLetter) 4 = .ok (.iload_n 1, 1) := by decide +kernel
theorem d_Mr_ruleLetter_5 : decode (fnB F_Mr_ruleLetter) 5 = .ok (.invokevirtual 223, 3) := by decide +kernel
theorem d_Mr_ruleLetter_8 : decode (fnB F_Mr_ruleLetter) 8 = .ok (.ifCond .eq 10, 3) := by decide +kernel
theorem d_Mr_ruleLetter_11 : decode (fnB F_Mr_ruleLetter) 11 = .ok (.iload_n 2, 1) := by decide +kernel
theorem d_Mr_ruleLetter_12 : decode (fnB F_Mr_ruleLetter) 12 = .ok (.invokestatic 241, 3) := by decide +kernel
theorem d_Mr_ruleLetter_15 : decode (fnB F_Mr_ruleLetter) 15 = .ok (.ifCond .ne 6, 3) := by decide +kernel
theorem d_Mr_ruleLetter_18 : decode (fnB F_Mr_ruleLetter) 18 = .ok (.bipush (-2), 2) := by decide +kernel
theorem d_Mr_ruleLetter_20 : decode (fnB F_Mr_ruleLetter) 20 = .ok (.ireturn, 1) := by decide +kernel
theorem d_Mr_ruleLetter_21 : decode (fnB F_Mr_ruleLetter) 21 = .ok (.aload_n 0, 1) := by decide +kernel
theorem d_Mr_ruleLetter_22 : decode (fnB F_Mr_ruleLetter) 22 = .ok (.getfield 33, 3) := by decide +kernel
theorem d_Mr_ruleLetter_25 : decode (fnB F_Mr_ruleLetter) 25 = .ok (.getfield 226, 3) := by decide +kernel
theorem d_Mr_ruleLetter_28 : decode (fnB F_Mr_ruleLetter) 28 = .ok (.iload_n 1, 1) := by decide +kernel
theorem d_Mr_ruleLetter_29 : decode (fnB F_Mr_ruleLetter) 29 = .ok (.aaload, 1) := by decide +kernel
theorem d_Mr_ruleLetter_30 : decode (fnB F_Mr_ruleLetter) 30 = .ok (.astore 4, 2) := by decide +kernel
theorem d_Mr_ruleLetter_32 : decode (fnB F_Mr_ruleLetter) 32 = .ok (.iload_n 2, 1) := by decide +kernel
theorem d_Mr_ruleLetter_33 : decode (fnB F_Mr_ruleLetter) 33 = .ok (.ifCond .ne 15, 3) := by decide +kernel
theorem d_Mr_ruleLetter_36 : decode (fnB F_Mr_ruleLetter) 36 = .ok (.aload 4, 2) := by decide +kernel
theorem d_Mr_ruleLetter_38 : decode (fnB F_Mr_ruleLetter) 38 = .ok (.getfield 235, 3) := by decide +kernel
theorem d_Mr_ruleLetter_41 : decode (fnB F_Mr_ruleLetter) 41 = .ok (.iload_n 3, 1) := by decide +kernel
theorem d_Mr_ruleLetter_42 : decode (fnB F_Mr_ruleLetter) 42 = .ok (.invokevirtual 244, 3) := by decide +kernel
theorem d_Mr_ruleLetter_45 : decode (fnB F_Mr_ruleLetter) 45 = .ok (.goto 12, 3) := by decide +kernel
theorem d_Mr_ruleLetter_48 : decode (fnB F_Mr_ruleLetter) 48 = .ok (.aload 4, 2) := by decide +kernel
theorem d_Mr_ruleLetter_50 : decode (fnB F_Mr_ruleLetter) 50 = .ok (.getfield 238, 3) := by decide +kernel
theorem d_Mr_ruleLetter_53 : decode (fnB F_Mr_ruleLetter) 53 = .ok (.iload_n 3, 1) := by decide +kernel
theorem d_Mr_ruleLetter_54 : decode (fnB F_Mr_ruleLetter) 54 = .ok (.invokevirtual 244, 3) := by decide +kernel
theorem d_Mr_ruleLetter_57 : decode (fnB F_Mr_ruleLetter) 57 = .ok (.ireturn, 1) := by decide +kernel
theorem B_Mr_ruleLetter_0 : (∀ (l1 l2 l3 l4 : Value) (x : Nat) (st : List Value) (M : Mm) (Q : Option Value → Mm → Prop), wp F_Mr_ruleLetter 0 [.ref x, l1, l2, l3, l4] st M Q = wp F_Mr_ruleLetter 1 [.ref x, l1, l2, l3, l4] (.ref x :: st) M Q) ∧
  (∀ (l0 l1 l2 l3 l4 : Value) (a : Nat) (st : List Value) (M : Mm) (Q : Option Value → Mm → Prop), wp F_Mr_ruleLetter 1 [l0, l1, l2, l3, l4] (.ref a :: st) M Q = (sh M a = some (.inl 11) ∧ wp F_Mr_ruleLetter 4 [l0, l1, l2, l3, l4] (va_rf (gR M a 6) :: st) M Q)) ∧
  (∀ (l0 l2 l3 l4 : Value) (x : Int32) (st : List Value) (M : Mm) (Q : Option Value → Mm → Prop), wp F_Mr_ruleLetter 4 [l0, .int x, l2, l3, l4] st M Q = wp F_Mr_ruleLetter 5 [l0, .int x, l2, l3, l4] (.int x :: st) M Q) ∧
  (∀ (l0 l1 l2 l3 l4 : Value) (b : Nat) (p0 : Int32) (M : Mm) (Q : Option Value → Mm → Prop), wp F_Mr_ruleLetter 5 [l0, l1, l2, l3, l4] [.int p0, .ref b] M Q = (sh M b = some (.inl 9) ∧ wp F_Rules_has 0 [.ref b, .int p0] [] M (fun r M1 => wp F_Mr_ruleLetter 8 [l0, l1, l2, l3, l4] (r.toList ++ []) M1 Q))) ∧
  (∀ (l0 l1 l2 l3 l4 : Value) (x : Int32) (st : List Value) (M : Mm) (Q : Option Value → Mm → Prop), wp F_Mr_ruleLetter 8 [l0, l1, l2, l3, l4] (.int x :: st) M Q = if x = 0 then wp F_Mr_ruleLetter 18 [l0, l1, l2, l3, l4] st M Q else wp F_Mr_ruleLetter 11 [l0, l1, l2, l3, l4] st M Q) ∧
  (∀ (l0 l1 l3 l4 : Value) (x : Int32) (st : List Value) (M : Mm) (Q : Option Value → Mm → Prop), wp F_Mr_ruleLetter 11 [l0, l1, .int x, l3, l4] st M Q = wp F_Mr_ruleLetter 12 [l0, l1, .int x, l3, l4] (.int x :: st) M Q) ∧
  (∀ (l0 l1 l2 l3 l4 : Value) (p0 : Int32) (M : Mm) (Q : Option Value → Mm → Prop), wp F_Mr_ruleLetter 12 [l0, l1, l2, l3, l4] [.int p0] M Q = wp F_Mr_isSide 0 [.int p0] [] M (fun r M1 => wp F_Mr_ruleLetter 15 [l0, l1, l2, l3, l4] (r.toList ++ []) M1 Q)) ∧
  (∀ (l0 l1 l2 l3 l4 : Value) (x : Int32) (st : List Value) (M : Mm) (Q : Option Value → Mm → Prop), wp F_Mr_ruleLetter 15 [l0, l1, l2, l3, l4] (.int x :: st) M Q = if x = 0 then wp F_Mr_ruleLetter 18 [l0, l1, l2, l3, l4] st M Q else wp F_Mr_ruleLetter 21 [l0, l1, l2, l3, l4] st M Q) := ⟨fun _ _ _ _ _ _ _ _ => wp_in d_Mr_ruleLetter_0 rfl rfl, fun _ _ _ _ _ _ _ _ _ => wp_getA d_Mr_ruleLetter_1 fl_11_33 rfl, fun _ _ _ _ _ _ _ _ => wp_in d_Mr_ruleLetter_4 rfl rfl, fun _ _ _ _ _ _ _ _ _ => wp_callV d_Mr_ruleLetter_5 ml_11_223 rfl rfl rfl, fun _ _ _ _ _ _ _ _ _ => wp_if_eq d_Mr_ruleLetter_8 rfl, fun _ _ _ _ _ _ _ _ => wp_in d_Mr_ruleLetter_11 rfl rfl, fun _ _ _ _ _ _ _ _ => wp_callS d_Mr_ruleLetter_12 ml_11_241 (Nat.le_of_ble_eq_true rfl) rfl rfl rfl, fun _ _ _ _ _ _ _ _ _ => wp_if_ne d_Mr_ruleLetter_15 rfl⟩
theorem B_Mr_ruleLetter_18 : (∀ (l0 l1 l2 l3 l4 : Value) (st : List Value) (M : Mm) (Q : Option Value → Mm → Prop), wp F_Mr_ruleLetter 18 [l0, l1, l2, l3, l4] st M Q = wp F_Mr_ruleLetter 20 [l0, l1, l2, l3, l4] (.int (-2) :: st) M Q) ∧
  (∀ (l0 l1 l2 l3 l4 : Value) (v : Int32) (M : Mm) (Q : Option Value → Mm → Prop), wp F_Mr_ruleLetter 20 [l0, l1, l2, l3, l4] [.int v] M Q = Q (some (.int v)) M) := ⟨fun _ _ _ _ _ _ _ _ => wp_bipush d_Mr_ruleLetter_18 (by decide), fun _ _ _ _ _ _ _ _ => wp_retI d_Mr_ruleLetter_20 rfl⟩
theorem B_Mr_ruleLetter_21 : (∀ (l1 l2 l3 l4 : Value) (x : Nat) (st : List Value) (M : Mm) (Q : Option Value → Mm → Prop), wp F_Mr_ruleLetter 21 [.ref x, l1, l2, l3, l4] st M Q = wp F_Mr_ruleLetter 22 [.ref x, l1, l2, l3, l4] (.ref x :: st) M Q) ∧
  (∀ (l0 l1 l2 l3 l4 : Value) (a : Nat) (st : List Value) (M : Mm) (Q : Option Value → Mm → Prop), wp F_Mr_ruleLetter 22 [l0, l1, l2, l3, l4] (.ref a :: st) M Q = (sh M a = some (.inl 11) ∧ wp F_Mr_ruleLetter 25 [l0, l1, l2, l3, l4] (va_rf (gR M a 6) :: st) M Q)) ∧
  (∀ (l0 l1 l2 l3 l4 : Value) (a : Nat) (st : List Value) (M : Mm) (Q : Option Value → Mm → Prop), wp F_Mr_ruleLetter 25 [l0, l1, l2, l3, l4] (.ref a :: st) M Q = (sh M a = some (.inl 9) ∧ wp F_Mr_ruleLetter 28 [l0, l1, l2, l3, l4] (va_rf (gR M a 0) :: st) M Q)) ∧
  (∀ (l0 l2 l3 l4 : Value) (x : Int32) (st : List Value) (M : Mm) (Q : Option Value → Mm → Prop), wp F_Mr_ruleLetter 28 [l0, .int x, l2, l3, l4] st M Q = wp F_Mr_ruleLetter 29 [l0, .int x, l2, l3, l4] (.int x :: st) M Q) ∧
  (∀ (l0 l1 l2 l3 l4 : Value) (a : Nat) (j : Int32) (st : List Value) (M : Mm) (Q : Option Value → Mm → Prop), wp F_Mr_ruleLetter 29 [l0, l1, l2, l3, l4] (.int j :: .ref a :: st) M Q = (ixR M a j ∧ wp F_Mr_ruleLetter 30 [l0, l1, l2, l3, l4] (va_rf (gR M a (cl j)) :: st) M Q)) ∧
  (∀ (l0 l1 l2 l3 l4 : Value) (x : Nat) (st : List Value) (M : Mm) (Q : Option Value → Mm → Prop), wp F_Mr_ruleLetter 30 [l0, l1, l2, l3, l4] (.ref x :: st) M Q = wp F_Mr_ruleLetter 32 [l0, l1, l2, clr l3, .ref x] st M Q) ∧
  (∀ (l0 l1 l2 l3 l4 : Value) (st : List Value) (M : Mm) (Q : Option Value → Mm → Prop), wp F_Mr_ruleLetter 30 [l0, l1, l2, l3, l4] (.null :: st) M Q = wp F_Mr_ruleLetter 32 [l0, l1, l2, clr l3, .null] st M Q) ∧
  (∀ (l0 l1 l3 l4 : Value) (x : Int32) (st : List Value) (M : Mm) (Q : Option Value → Mm → Prop), wp F_Mr_ruleLetter 32 [l0, l1, .int x, l3, l4] st M Q = wp F_Mr_ruleLetter 33 [l0, l1, .int x, l3, l4] (.int x :: st) M Q) ∧
  (∀ (l0 l1 l2 l3 l4 : Value) (x : Int32) (st : List Value) (M : Mm) (Q : Option Value → Mm → Prop), wp F_Mr_ruleLetter 33 [l0, l1, l2, l3, l4] (.int x :: st) M Q = if x = 0 then wp F_Mr_ruleLetter 36 [l0, l1, l2, l3, l4] st M Q else wp F_Mr_ruleLetter 48 [l0, l1, l2, l3, l4] st M Q) ∧
  (∀ (l0 l1 l2 l3 : Value) (x : Nat) (st : List Value) (M : Mm) (Q : Option Value → Mm → Prop), wp F_Mr_ruleLetter 36 [l0, l1, l2, l3, .ref x] st M Q = wp F_Mr_ruleLetter 38 [l0, l1, l2, l3, .ref x] (.ref x :: st) M Q) ∧
  (∀ (l0 l1 l2 l3 : Value) (st : List Value) (M : Mm) (Q : Option Value → Mm → Prop), wp F_Mr_ruleLetter 36 [l0, l1, l2, l3, .null] st M Q = wp F_Mr_ruleLetter 38 [l0, l1, l2, l3, .null] (.null :: st) M Q) ∧
  (∀ (l0 l1 l2 l3 l4 : Value) (a : Nat) (st : List Value) (M : Mm) (Q : Option Value → Mm → Prop), wp F_Mr_ruleLetter 38 [l0, l1, l2, l3, l4] (.ref a :: st) M Q = (sh M a = some (.inl 8) ∧ wp F_Mr_ruleLetter 41 [l0, l1, l2, l3, l4] (va_rf (gR M a 0) :: st) M Q)) ∧
  (∀ (l0 l1 l2 l4 : Value) (x : Int32) (st : List Value) (M : Mm) (Q : Option Value → Mm → Prop), wp F_Mr_ruleLetter 41 [l0, l1, l2, .int x, l4] st M Q = wp F_Mr_ruleLetter 42 [l0, l1, l2, .int x, l4] (.int x :: st) M Q) ∧
  (∀ (l0 l1 l2 l3 l4 : Value) (b : Nat) (p0 : Int32) (M : Mm) (Q : Option Value → Mm → Prop), wp F_Mr_ruleLetter 42 [l0, l1, l2, l3, l4] [.int p0, .ref b] M Q = (sh M b = some (.inl 10) ∧ wp F_Word_at 0 [.ref b, .int p0] [] M (fun r M1 => wp F_Mr_ruleLetter 45 [l0, l1, l2, l3, l4] (r.toList ++ []) M1 Q))) ∧
  (∀ (l0 l1 l2 l3 l4 : Value) (st : List Value) (M : Mm) (Q : Option Value → Mm → Prop), wp F_Mr_ruleLetter 45 [l0, l1, l2, l3, l4] st M Q = wp F_Mr_ruleLetter 57 [l0, l1, l2, l3, l4] st M Q) := ⟨fun _ _ _ _ _ _ _ _ => wp_in d_Mr_ruleLetter_21 rfl rfl, fun _ _ _ _ _ _ _ _ _ => wp_getA d_Mr_ruleLetter_22 fl_11_33 rfl, fun _ _ _ _ _ _ _ _ _ => wp_getA d_Mr_ruleLetter_25 fl_11_226 rfl, fun _ _ _ _ _ _ _ _ => wp_in d_Mr_ruleLetter_28 rfl rfl, fun _ _ _ _ _ _ _ _ _ _ => wp_aald d_Mr_ruleLetter_29, fun _ _ _ _ _ _ _ _ _ => wp_in d_Mr_ruleLetter_30 rfl rfl, fun _ _ _ _ _ _ _ _ => wp_in d_Mr_ruleLetter_30 rfl rfl, fun _ _ _ _ _ _ _ _ => wp_in d_Mr_ruleLetter_32 rfl rfl, fun _ _ _ _ _ _ _ _ _ => wp_if_ne d_Mr_ruleLetter_33 rfl, fun _ _ _ _ _ _ _ _ => wp_in d_Mr_ruleLetter_36 rfl rfl, fun _ _ _ _ _ _ _ => wp_in d_Mr_ruleLetter_36 rfl rfl, fun _ _ _ _ _ _ _ _ _ => wp_getA d_Mr_ruleLetter_38 fl_11_235 rfl, fun _ _ _ _ _ _ _ _ => wp_in d_Mr_ruleLetter_41 rfl rfl, fun _ _ _ _ _ _ _ _ _ => wp_callV d_Mr_ruleLetter_42 ml_11_244 rfl rfl rfl, fun _ _ _ _ _ _ _ _ => wp_goto d_Mr_ruleLetter_45 rfl⟩
theorem B_Mr_ruleLetter_48 : (∀ (l0 l1 l2 l3 : Value) (x : Nat) (st : List Value) (M : Mm) (Q : Option Value → Mm → Prop), wp F_Mr_ruleLetter 48 [l0, l1, l2, l3, .ref x] st M Q = wp F_Mr_ruleLetter 50 [l0, l1, l2, l3, .ref x] (.ref x :: st) M Q) ∧
  (∀ (l0 l1 l2 l3 : Value) (st : List Value) (M : Mm) (Q : Option Value → Mm → Prop), wp F_Mr_ruleLetter 48 [l0, l1, l2, l3, .null] st M Q = wp F_Mr_ruleLetter 50 [l0, l1, l2, l3, .null] (.null :: st) M Q) ∧
  (∀ (l0 l1 l2 l3 l4 : Value) (a : Nat) (st : List Value) (M : Mm) (Q : Option Value → Mm → Prop), wp F_Mr_ruleLetter 50 [l0, l1, l2, l3, l4] (.ref a :: st) M Q = (sh M a = some (.inl 8) ∧ wp F_Mr_ruleLetter 53 [l0, l1, l2, l3, l4] (va_rf (gR M a 1) :: st) M Q)) ∧
  (∀ (l0 l1 l2 l4 : Value) (x : Int32) (st : List Value) (M : Mm) (Q : Option Value → Mm → Prop), wp F_Mr_ruleLetter 53 [l0, l1, l2, .int x, l4] st M Q = wp F_Mr_ruleLetter 54 [l0, l1, l2, .int x, l4] (.int x :: st) M Q) ∧
  (∀ (l0 l1 l2 l3 l4 : Value) (b : Nat) (p0 : Int32) (M : Mm) (Q : Option Value → Mm → Prop), wp F_Mr_ruleLetter 54 [l0, l1, l2, l3, l4] [.int p0, .ref b] M Q = (sh M b = some (.inl 10) ∧ wp F_Word_at 0 [.ref b, .int p0] [] M (fun r M1 => wp F_Mr_ruleLetter 57 [l0, l1, l2, l3, l4] (r.toList ++ []) M1 Q))) := ⟨fun _ _ _ _ _ _ _ _ => wp_in d_Mr_ruleLetter_48 rfl rfl, fun _ _ _ _ _ _ _ => wp_in d_Mr_ruleLetter_48 rfl rfl, fun _ _ _ _ _ _ _ _ _ => wp_getA d_Mr_ruleLetter_50 fl_11_238 rfl, fun _ _ _ _ _ _ _ _ => wp_in d_Mr_ruleLetter_53 rfl rfl, fun _ _ _ _ _ _ _ _ _ => wp_callV d_Mr_ruleLetter_54 ml_11_244 rfl rfl rfl⟩
theorem B_Mr_ruleLetter_57 : (∀ (l0 l1 l2 l3 l4 : Value) (v : Int32) (M : Mm) (Q : Option Value → Mm → Prop), wp F_Mr_ruleLetter 57 [l0, l1, l2, l3, l4] [.int v] M Q = Q (some (.int v)) M) := fun _ _ _ _ _ _ _ _ => wp_retI d_Mr_ruleLetter_57 rfl
theorem d_Mr_waiting_0 : decode (fnB F_Mr_waiting) 0 = .ok (.aload_n 0, 1) := by decide +kernel
theorem d_Mr_waiting_1 : decode (fnB F_Mr_waiting) 1 = .ok (.getfield 40, 3) := by decide +kernel
theorem d_Mr_waiting_4 : decode (fnB F_Mr_waiting) 4 = .ok (.iload_n 1, 1) := by decide +kernel
theorem d_Mr_waiting_5 : decode (fnB F_Mr_waiting) 5 = .ok (.invokevirtual 248, 3) := by decide +kernel
theorem d_Mr_waiting_8 : decode (fnB F_Mr_waiting) 8 = .ok (.astore 4, 2) := by decide +kernel
theorem d_Mr_waiting_10 : decode (fnB F_Mr_waiting) 10 = .ok (.aload 4, 2) := by decide +kernel
theorem d_Mr_waiting_12 : decode (fnB F_Mr_waiting) 12 = .ok (.ifnull 10, 3) := by decide +kernel
theorem d_Mr_waiting_15 : decode (fnB F_Mr_waiting) 15 = .ok (.iload_n 2, 1) := by decide +kernel
theorem d_Mr_waiting_16 : decode (fnB F_Mr_waiting) 16 = .ok (.invokestatic 241, 3) := by decide +kernel
theorem d_Mr_waiting_19 : decode (fnB F_Mr_waiting) 19 = .ok (.ifCond .ne 6, 3) := by decide +kernel
theorem d_Mr_waiting_22 : decode (fnB F_Mr_waiting) 22 = .ok (.bipush (-2), 2) := by decide +kernel
theorem d_Mr_waiting_24 : decode (fnB F_Mr_waiting) 24 = .ok (.ireturn, 1) := by decide +kernel
theorem d_Mr_waiting_25 : decode (fnB F_Mr_waiting) 25 = .ok (.iload_n 2, 1) := by decide +kernel
theorem d_Mr_waiting_26 : decode (fnB F_Mr_waiting) 26 = .ok (.ifCond .ne 15, 3) := by decide +kernel
theorem d_Mr_waiting_29 : decode (fnB F_Mr_waiting) 29 = .ok (.aload 4, 2) := by decide +kernel
theorem d_Mr_waiting_31 : decode (fnB F_Mr_waiting) 31 = .ok (.getfield 175, 3) := by decide +kernel
theorem d_Mr_waiting_34 : decode (fnB F_Mr_waiting) 34 = .ok (.iload_n 3, 1) := by decide +kernel
theorem d_Mr_waiting_35 : decode (fnB F_Mr_waiting) 35 = .ok (.invokevirtual 244, 3) := by decide +kernel
theorem d_Mr_waiting_38 : decode (fnB F_Mr_waiting) 38 = .ok (.goto 12, 3) := by decide +kernel
theorem d_Mr_waiting_41 : decode (fnB F_Mr_waiting) 41 = .ok (.aload 4, 2) := by decide +kernel
theorem d_Mr_waiting_43 : decode (fnB F_Mr_waiting) 43 = .ok (.getfield 182, 3) := by decide +kernel
theorem d_Mr_waiting_46 : decode (fnB F_Mr_waiting) 46 = .ok (.iload_n 3, 1) := by decide +kernel
theorem d_Mr_waiting_47 : decode (fnB F_Mr_waiting) 47 = .ok (.invokevirtual 244, 3) := by decide +kernel
theorem d_Mr_waiting_50 : decode (fnB F_Mr_waiting) 50 = .ok (.ireturn, 1) := by decide +kernel
theorem B_Mr_waiting_0 : (∀ (l1 l2 l3 l4 : Value) (x : Nat) (st : List Value) (M : Mm) (Q : Option Value → Mm → Prop), wp F_Mr_waiting 0 [.ref x, l1, l2, l3, l4] st M Q = wp F_Mr_waiting 1 [.ref x, l1, l2, l3, l4] (.ref x :: st) M Q) ∧
  (∀ (l0 l1 l2 l3 l4 : Value) (a : Nat) (st : List Value) (M : Mm) (Q : Option Value → Mm → Prop), wp F_Mr_waiting 1 [l0, l1, l2, l3, l4] (.ref a :: st) M Q = (sh M a = some (.inl 11) ∧ wp F_Mr_waiting 4 [l0, l1, l2, l3, l4] (va_rf (gR M a 7) :: st) M Q)) ∧
  (∀ (l0 l2 l3 l4 : Value) (x : Int32) (st : List Value) (M : Mm) (Q : Option Value → Mm → Prop), wp F_Mr_waiting 4 [l0, .int x, l2, l3, l4] st M Q = wp F_Mr_waiting 5 [l0, .int x, l2, l3, l4] (.int x :: st) M Q) ∧
  (∀ (l0 l1 l2 l3 l4 : Value) (b : Nat) (p0 : Int32) (M : Mm) (Q : Option Value → Mm → Prop), wp F_Mr_waiting 5 [l0, l1, l2, l3, l4] [.int p0, .ref b] M Q = (sh M b = some (.inl 7) ∧ wp F_Row_at 0 [.ref b, .int p0] [] M (fun r M1 => wp F_Mr_waiting 8 [l0, l1, l2, l3, l4] (r.toList ++ []) M1 Q))) ∧
  (∀ (l0 l1 l2 l3 l4 : Value) (x : Nat) (st : List Value) (M : Mm) (Q : Option Value → Mm → Prop), wp F_Mr_waiting 8 [l0, l1, l2, l3, l4] (.ref x :: st) M Q = wp F_Mr_waiting 10 [l0, l1, l2, clr l3, .ref x] st M Q) ∧
  (∀ (l0 l1 l2 l3 l4 : Value) (st : List Value) (M : Mm) (Q : Option Value → Mm → Prop), wp F_Mr_waiting 8 [l0, l1, l2, l3, l4] (.null :: st) M Q = wp F_Mr_waiting 10 [l0, l1, l2, clr l3, .null] st M Q) ∧
  (∀ (l0 l1 l2 l3 : Value) (x : Nat) (st : List Value) (M : Mm) (Q : Option Value → Mm → Prop), wp F_Mr_waiting 10 [l0, l1, l2, l3, .ref x] st M Q = wp F_Mr_waiting 12 [l0, l1, l2, l3, .ref x] (.ref x :: st) M Q) ∧
  (∀ (l0 l1 l2 l3 : Value) (st : List Value) (M : Mm) (Q : Option Value → Mm → Prop), wp F_Mr_waiting 10 [l0, l1, l2, l3, .null] st M Q = wp F_Mr_waiting 12 [l0, l1, l2, l3, .null] (.null :: st) M Q) ∧
  (∀ (l0 l1 l2 l3 l4 : Value) (x : Nat) (st : List Value) (M : Mm) (Q : Option Value → Mm → Prop), wp F_Mr_waiting 12 [l0, l1, l2, l3, l4] (.ref x :: st) M Q = wp F_Mr_waiting 15 [l0, l1, l2, l3, l4] st M Q) ∧
  (∀ (l0 l1 l2 l3 l4 : Value) (st : List Value) (M : Mm) (Q : Option Value → Mm → Prop), wp F_Mr_waiting 12 [l0, l1, l2, l3, l4] (.null :: st) M Q = wp F_Mr_waiting 22 [l0, l1, l2, l3, l4] st M Q) ∧
  (∀ (l0 l1 l3 l4 : Value) (x : Int32) (st : List Value) (M : Mm) (Q : Option Value → Mm → Prop), wp F_Mr_waiting 15 [l0, l1, .int x, l3, l4] st M Q = wp F_Mr_waiting 16 [l0, l1, .int x, l3, l4] (.int x :: st) M Q) ∧
  (∀ (l0 l1 l2 l3 l4 : Value) (p0 : Int32) (M : Mm) (Q : Option Value → Mm → Prop), wp F_Mr_waiting 16 [l0, l1, l2, l3, l4] [.int p0] M Q = wp F_Mr_isSide 0 [.int p0] [] M (fun r M1 => wp F_Mr_waiting 19 [l0, l1, l2, l3, l4] (r.toList ++ []) M1 Q)) ∧
  (∀ (l0 l1 l2 l3 l4 : Value) (x : Int32) (st : List Value) (M : Mm) (Q : Option Value → Mm → Prop), wp F_Mr_waiting 19 [l0, l1, l2, l3, l4] (.int x :: st) M Q = if x = 0 then wp F_Mr_waiting 22 [l0, l1, l2, l3, l4] st M Q else wp F_Mr_waiting 25 [l0, l1, l2, l3, l4] st M Q) := ⟨fun _ _ _ _ _ _ _ _ => wp_in d_Mr_waiting_0 rfl rfl, fun _ _ _ _ _ _ _ _ _ => wp_getA d_Mr_waiting_1 fl_11_40 rfl, fun _ _ _ _ _ _ _ _ => wp_in d_Mr_waiting_4 rfl rfl, fun _ _ _ _ _ _ _ _ _ => wp_callV d_Mr_waiting_5 ml_11_248 rfl rfl rfl, fun _ _ _ _ _ _ _ _ _ => wp_in d_Mr_waiting_8 rfl rfl, fun _ _ _ _ _ _ _ _ => wp_in d_Mr_waiting_8 rfl rfl, fun _ _ _ _ _ _ _ _ => wp_in d_Mr_waiting_10 rfl rfl, fun _ _ _ _ _ _ _ => wp_in d_Mr_waiting_10 rfl rfl, fun _ _ _ _ _ _ _ _ _ => wp_in d_Mr_waiting_12 rfl rfl, fun _ _ _ _ _ _ _ _ => wp_in d_Mr_waiting_12 rfl rfl, fun _ _ _ _ _ _ _ _ => wp_in d_Mr_waiting_15 rfl rfl, fun _ _ _ _ _ _ _ _ => wp_callS d_Mr_waiting_16 ml_11_241 (Nat.le_of_ble_eq_true rfl) rfl rfl rfl, fun _ _ _ _ _ _ _ _ _ => wp_if_ne d_Mr_waiting_19 rfl⟩
theorem B_Mr_waiting_22 : (∀ (l0 l1 l2 l3 l4 : Value) (st : List Value) (M : Mm) (Q : Option Value → Mm → Prop), wp F_Mr_waiting 22 [l0, l1, l2, l3, l4] st M Q = wp F_Mr_waiting 24 [l0, l1, l2, l3, l4] (.int (-2) :: st) M Q) ∧
  (∀ (l0 l1 l2 l3 l4 : Value) (v : Int32) (M : Mm) (Q : Option Value → Mm → Prop), wp F_Mr_waiting 24 [l0, l1, l2, l3, l4] [.int v] M Q = Q (some (.int v)) M) := ⟨fun _ _ _ _ _ _ _ _ => wp_bipush d_Mr_waiting_22 (by decide), fun _ _ _ _ _ _ _ _ => wp_retI d_Mr_waiting_24 rfl⟩
theorem B_Mr_waiting_25 : (∀ (l0 l1 l3 l4 : Value) (x : Int32) (st : List Value) (M : Mm) (Q : Option Value → Mm → Prop), wp F_Mr_waiting 25 [l0, l1, .int x, l3, l4] st M Q = wp F_Mr_waiting 26 [l0, l1, .int x, l3, l4] (.int x :: st) M Q) ∧
  (∀ (l0 l1 l2 l3 l4 : Value) (x : Int32) (st : List Value) (M : Mm) (Q : Option Value → Mm → Prop), wp F_Mr_waiting 26 [l0, l1, l2, l3, l4] (.int x :: st) M Q = if x = 0 then wp F_Mr_waiting 29 [l0, l1, l2, l3, l4] st M Q else wp F_Mr_waiting 41 [l0, l1, l2, l3, l4] st M Q) ∧
  (∀ (l0 l1 l2 l3 : Value) (x : Nat) (st : List Value) (M : Mm) (Q : Option Value → Mm → Prop), wp F_Mr_waiting 29 [l0, l1, l2, l3, .ref x] st M Q = wp F_Mr_waiting 31 [l0, l1, l2, l3, .ref x] (.ref x :: st) M Q) ∧
  (∀ (l0 l1 l2 l3 : Value) (st : List Value) (M : Mm) (Q : Option Value → Mm → Prop), wp F_Mr_waiting 29 [l0, l1, l2, l3, .null] st M Q = wp F_Mr_waiting 31 [l0, l1, l2, l3, .null] (.null :: st) M Q) ∧
  (∀ (l0 l1 l2 l3 l4 : Value) (a : Nat) (st : List Value) (M : Mm) (Q : Option Value → Mm → Prop), wp F_Mr_waiting 31 [l0, l1, l2, l3, l4] (.ref a :: st) M Q = (sh M a = some (.inl 4) ∧ wp F_Mr_waiting 34 [l0, l1, l2, l3, l4] (va_rf (gR M a 0) :: st) M Q)) ∧
  (∀ (l0 l1 l2 l4 : Value) (x : Int32) (st : List Value) (M : Mm) (Q : Option Value → Mm → Prop), wp F_Mr_waiting 34 [l0, l1, l2, .int x, l4] st M Q = wp F_Mr_waiting 35 [l0, l1, l2, .int x, l4] (.int x :: st) M Q) ∧
  (∀ (l0 l1 l2 l3 l4 : Value) (b : Nat) (p0 : Int32) (M : Mm) (Q : Option Value → Mm → Prop), wp F_Mr_waiting 35 [l0, l1, l2, l3, l4] [.int p0, .ref b] M Q = (sh M b = some (.inl 10) ∧ wp F_Word_at 0 [.ref b, .int p0] [] M (fun r M1 => wp F_Mr_waiting 38 [l0, l1, l2, l3, l4] (r.toList ++ []) M1 Q))) ∧
  (∀ (l0 l1 l2 l3 l4 : Value) (st : List Value) (M : Mm) (Q : Option Value → Mm → Prop), wp F_Mr_waiting 38 [l0, l1, l2, l3, l4] st M Q = wp F_Mr_waiting 50 [l0, l1, l2, l3, l4] st M Q) := ⟨fun _ _ _ _ _ _ _ _ => wp_in d_Mr_waiting_25 rfl rfl, fun _ _ _ _ _ _ _ _ _ => wp_if_ne d_Mr_waiting_26 rfl, fun _ _ _ _ _ _ _ _ => wp_in d_Mr_waiting_29 rfl rfl, fun _ _ _ _ _ _ _ => wp_in d_Mr_waiting_29 rfl rfl, fun _ _ _ _ _ _ _ _ _ => wp_getA d_Mr_waiting_31 fl_11_175 rfl, fun _ _ _ _ _ _ _ _ => wp_in d_Mr_waiting_34 rfl rfl, fun _ _ _ _ _ _ _ _ _ => wp_callV d_Mr_waiting_35 ml_11_244 rfl rfl rfl, fun _ _ _ _ _ _ _ _ => wp_goto d_Mr_waiting_38 rfl⟩
theorem B_Mr_waiting_41 : (∀ (l0 l1 l2 l3 : Value) (x : Nat) (st : List Value) (M : Mm) (Q : Option Value → Mm → Prop), wp F_Mr_waiting 41 [l0, l1, l2, l3, .ref x] st M Q = wp F_Mr_waiting 43 [l0, l1, l2, l3, .ref x] (.ref x :: st) M Q) ∧
  (∀ (l0 l1 l2 l3 : Value) (st : List Value) (M : Mm) (Q : Option Value → Mm → Prop), wp F_Mr_waiting 41 [l0, l1, l2, l3, .null] st M Q = wp F_Mr_waiting 43 [l0, l1, l2, l3, .null] (.null :: st) M Q) ∧
  (∀ (l0 l1 l2 l3 l4 : Value) (a : Nat) (st : List Value) (M : Mm) (Q : Option Value → Mm → Prop), wp F_Mr_waiting 43 [l0, l1, l2, l3, l4] (.ref a :: st) M Q = (sh M a = some (.inl 4) ∧ wp F_Mr_waiting 46 [l0, l1, l2, l3, l4] (va_rf (gR M a 1) :: st) M Q)) ∧
  (∀ (l0 l1 l2 l4 : Value) (x : Int32) (st : List Value) (M : Mm) (Q : Option Value → Mm → Prop), wp F_Mr_waiting 46 [l0, l1, l2, .int x, l4] st M Q = wp F_Mr_waiting 47 [l0, l1, l2, .int x, l4] (.int x :: st) M Q) ∧
  (∀ (l0 l1 l2 l3 l4 : Value) (b : Nat) (p0 : Int32) (M : Mm) (Q : Option Value → Mm → Prop), wp F_Mr_waiting 47 [l0, l1, l2, l3, l4] [.int p0, .ref b] M Q = (sh M b = some (.inl 10) ∧ wp F_Word_at 0 [.ref b, .int p0] [] M (fun r M1 => wp F_Mr_waiting 50 [l0, l1, l2, l3, l4] (r.toList ++ []) M1 Q))) := ⟨fun _ _ _ _ _ _ _ _ => wp_in d_Mr_waiting_41 rfl rfl, fun _ _ _ _ _ _ _ => wp_in d_Mr_waiting_41 rfl rfl, fun _ _ _ _ _ _ _ _ _ => wp_getA d_Mr_waiting_43 fl_11_182 rfl, fun _ _ _ _ _ _ _ _ => wp_in d_Mr_waiting_46 rfl rfl, fun _ _ _ _ _ _ _ _ _ => wp_callV d_Mr_waiting_47 ml_11_244 rfl rfl rfl⟩
theorem B_Mr_waiting_50 : (∀ (l0 l1 l2 l3 l4 : Value) (v : Int32) (M : Mm) (Q : Option Value → Mm → Prop), wp F_Mr_waiting 50 [l0, l1, l2, l3, l4] [.int v] M Q = Q (some (.int v)) M) := fun _ _ _ _ _ _ _ _ => wp_retI d_Mr_waiting_50 rfl
theorem d_Mr_open_0 : decode (fnB F_Mr_open) 0 = .ok (.aload_n 0, 1) := by decide +kernel
theorem d_Mr_open_1 : decode (fnB F_Mr_open) 1 = .ok (.getfield 74, 3) := by decide +kernel
theorem d_Mr_open_4 : decode (fnB F_Mr_open) 4 = .ok (.invokevirtual 251, 3) := by decide +kernel
theorem d_Mr_open_7 : decode (fnB F_Mr_open) 7 = .ok (.ireturn, 1) := by decide +kernel
theorem B_Mr_open_0 : (∀ (x : Nat) (st : List Value) (M : Mm) (Q : Option Value → Mm → Prop), wp F_Mr_open 0 [.ref x] st M Q = wp F_Mr_open 1 [.ref x] (.ref x :: st) M Q) ∧
  (∀ (l0 : Value) (a : Nat) (st : List Value) (M : Mm) (Q : Option Value → Mm → Prop), wp F_Mr_open 1 [l0] (.ref a :: st) M Q = (sh M a = some (.inl 11) ∧ wp F_Mr_open 4 [l0] (va_rf (gR M a 11) :: st) M Q)) ∧
  (∀ (l0 : Value) (b : Nat) (M : Mm) (Q : Option Value → Mm → Prop), wp F_Mr_open 4 [l0] [.ref b] M Q = (sh M b = some (.inl 2) ∧ wp F_Finder_find 0 [.ref b] [] M (fun r M1 => wp F_Mr_open 7 [l0] (r.toList ++ []) M1 Q))) ∧
  (∀ (l0 : Value) (v : Int32) (M : Mm) (Q : Option Value → Mm → Prop), wp F_Mr_open 7 [l0] [.int v] M Q = Q (some (.int v)) M) := ⟨fun _ _ _ _ => wp_in d_Mr_open_0 rfl rfl, fun _ _ _ _ _ => wp_getA d_Mr_open_1 fl_11_74 rfl, fun _ _ _ _ => wp_callV d_Mr_open_4 ml_11_251 rfl rfl rfl, fun _ _ _ _ => wp_retI d_Mr_open_7 rfl⟩
theorem d_Mr_overlap_0 : decode (fnB F_Mr_overlap) 0 = .ok (.iload_n 1, 1) := by decide +kernel
theorem d_Mr_overlap_1 : decode (fnB F_Mr_overlap) 1 = .ok (.ifCond .lt 8, 3) := by decide +kernel
theorem d_Mr_overlap_4 : decode (fnB F_Mr_overlap) 4 = .ok (.iload_n 1, 1) := by decide +kernel
theorem d_Mr_overlap_5 : decode (fnB F_Mr_overlap) 5 = .ok (.iconst 2, 1) := by decide +kernel
theorem d_Mr_overlap_6 : decode (fnB F_Mr_overlap) 6 = .ok (.if_icmp .le 6, 3) := by decide +kernel
theorem d_Mr_overlap_9 : decode (fnB F_Mr_overlap) 9 = .ok (.bipush (-2), 2) := by decide +kernel
theorem d_Mr_overlap_11 : decode (fnB F_Mr_overlap) 11 = .ok (.ireturn, 1) := by decide +kernel
theorem d_Mr_overlap_12 : decode (fnB F_Mr_overlap) 12 = .ok (.aload_n 0, 1) := by decide +kernel
theorem d_Mr_overlap_13 : decode (fnB F_Mr_overlap) 13 = .ok (.getfield 74, 3) := by decide +kernel
theorem d_Mr_overlap_16 : decode (fnB F_Mr_overlap) 16 = .ok (.getfield 254, 3) := by decide +kernel
theorem d_Mr_overlap_19 : decode (fnB F_Mr_overlap) 19 = .ok (.ifCond .ne 5, 3) := by decide +kernel
theorem d_Mr_overlap_22 : decode (fnB F_Mr_overlap) 22 = .ok (.iconst (-1), 1) := by decide +kernel
theorem d_Mr_overlap_23 : decode (fnB F_Mr_overlap) 23 = .ok (.ireturn, 1) := by decide +kernel
theorem d_Mr_overlap_24 : decode (fnB F_Mr_overlap) 24 = .ok (.iload_n 1, 1) := by decide +kernel
theorem d_Mr_overlap_25 : decode (fnB F_Mr_overlap) 25 = .ok (.ifCond .ne 11, 3) := by decide +kernel
theorem d_Mr_overlap_28 : decode (fnB F_Mr_overlap) 28 = .ok (.aload_n 0, 1) := by decide +kernel
theorem d_Mr_overlap_29 : decode (fnB F_Mr_overlap) 29 = .ok (.getfield 74, 3) := by decide +kernel
theorem d_Mr_overlap_32 : decode (fnB F_Mr_overlap) 32 = .ok (.getfield 257, 3) := by decide +kernel
theorem d_Mr_overlap_35 : decode (fnB F_Mr_overlap) 35 = .ok (.ireturn, 1) := by decide +kernel
theorem d_Mr_overlap_36 : decode (fnB F_Mr_overlap) 36 = .ok (.iload_n 1, 1) := by decide +kernel
theorem d_Mr_overlap_37 : decode (fnB F_Mr_overlap) 37 = .ok (.iconst 1, 1) := by decide +kernel
theorem d_Mr_overlap_38 : decode (fnB F_Mr_overlap) 38 = .ok (.if_icmp .ne 13, 3) := by decide +kernel
theorem d_Mr_overlap_41 : decode (fnB F_Mr_overlap) 41 = .ok (.aload_n 0, 1) := by decide +kernel
theorem d_Mr_overlap_42 : decode (fnB F_Mr_overlap) 42 = .ok (.getfield 74, 3) := by decide +kernel
theorem d_Mr_overlap_45 : decode (fnB F_Mr_overlap) 45 = .ok (.getfield 260, 3) := by decide +kernel
theorem d_Mr_overlap_48 : decode (fnB F_Mr_overlap) 48 = .ok (.goto 10, 3) := by decide +kernel
theorem d_Mr_overlap_51 : decode (fnB F_Mr_overlap) 51 = .ok (.aload_n 0, 1) := by decide +kernel
theorem d_Mr_overlap_52 : decode (fnB F_Mr_overlap) 52 = .ok (.getfield 74, 3) := by decide +kernel
theorem d_Mr_overlap_55 : decode (fnB F_Mr_overlap) 55 = .ok (.getfield 263, 3) := by decide +kernel
theorem d_Mr_overlap_58 : decode (fnB F_Mr_overlap) 58 = .ok (.ireturn, 1) := by decide +kernel
theorem B_Mr_overlap_0 : (∀ (l0 : Value) (x : Int32) (st : List Value) (M : Mm) (Q : Option Value → Mm → Prop), wp F_Mr_overlap 0 [l0, .int x] st M Q = wp F_Mr_overlap 1 [l0, .int x] (.int x :: st) M Q) ∧
  (∀ (l0 l1 : Value) (x : Int32) (st : List Value) (M : Mm) (Q : Option Value → Mm → Prop), wp F_Mr_overlap 1 [l0, l1] (.int x :: st) M Q = if x < 0 then wp F_Mr_overlap 9 [l0, l1] st M Q else wp F_Mr_overlap 4 [l0, l1] st M Q) ∧
  (∀ (l0 : Value) (x : Int32) (st : List Value) (M : Mm) (Q : Option Value → Mm → Prop), wp F_Mr_overlap 4 [l0, .int x] st M Q = wp F_Mr_overlap 5 [l0, .int x] (.int x :: st) M Q) ∧
  (∀ (l0 l1 : Value) (st : List Value) (M : Mm) (Q : Option Value → Mm → Prop), wp F_Mr_overlap 5 [l0, l1] st M Q = wp F_Mr_overlap 6 [l0, l1] (.int 2 :: st) M Q) ∧
  (∀ (l0 l1 : Value) (x y : Int32) (st : List Value) (M : Mm) (Q : Option Value → Mm → Prop), wp F_Mr_overlap 6 [l0, l1] (.int y :: .int x :: st) M Q = if x ≤ y then wp F_Mr_overlap 12 [l0, l1] st M Q else wp F_Mr_overlap 9 [l0, l1] st M Q) := ⟨fun _ _ _ _ _ => wp_in d_Mr_overlap_0 rfl rfl, fun _ _ _ _ _ _ => wp_if_lt d_Mr_overlap_1 rfl, fun _ _ _ _ _ => wp_in d_Mr_overlap_4 rfl rfl, fun _ _ _ _ _ => wp_iconst d_Mr_overlap_5 (by decide), fun _ _ _ _ _ _ _ => wp_icmp_le d_Mr_overlap_6 rfl⟩
theorem B_Mr_overlap_9 : (∀ (l0 l1 : Value) (st : List Value) (M : Mm) (Q : Option Value → Mm → Prop), wp F_Mr_overlap 9 [l0, l1] st M Q = wp F_Mr_overlap 11 [l0, l1] (.int (-2) :: st) M Q) ∧
  (∀ (l0 l1 : Value) (v : Int32) (M : Mm) (Q : Option Value → Mm → Prop), wp F_Mr_overlap 11 [l0, l1] [.int v] M Q = Q (some (.int v)) M) := ⟨fun _ _ _ _ _ => wp_bipush d_Mr_overlap_9 (by decide), fun _ _ _ _ _ => wp_retI d_Mr_overlap_11 rfl⟩
theorem B_Mr_overlap_12 : (∀ (l1 : Value) (x : Nat) (st : List Value) (M : Mm) (Q : Option Value → Mm → Prop), wp F_Mr_overlap 12 [.ref x, l1] st M Q = wp F_Mr_overlap 13 [.ref x, l1] (.ref x :: st) M Q) ∧
  (∀ (l0 l1 : Value) (a : Nat) (st : List Value) (M : Mm) (Q : Option Value → Mm → Prop), wp F_Mr_overlap 13 [l0, l1] (.ref a :: st) M Q = (sh M a = some (.inl 11) ∧ wp F_Mr_overlap 16 [l0, l1] (va_rf (gR M a 11) :: st) M Q)) ∧
  (∀ (l0 l1 : Value) (a : Nat) (st : List Value) (M : Mm) (Q : Option Value → Mm → Prop), wp F_Mr_overlap 16 [l0, l1] (.ref a :: st) M Q = (sh M a = some (.inl 2) ∧ wp F_Mr_overlap 19 [l0, l1] (.int (gI M a 6) :: st) M Q)) ∧
  (∀ (l0 l1 : Value) (x : Int32) (st : List Value) (M : Mm) (Q : Option Value → Mm → Prop), wp F_Mr_overlap 19 [l0, l1] (.int x :: st) M Q = if x = 0 then wp F_Mr_overlap 22 [l0, l1] st M Q else wp F_Mr_overlap 24 [l0, l1] st M Q) ∧
  (∀ (l0 l1 : Value) (st : List Value) (M : Mm) (Q : Option Value → Mm → Prop), wp F_Mr_overlap 22 [l0, l1] st M Q = wp F_Mr_overlap 23 [l0, l1] (.int (-1) :: st) M Q) ∧
  (∀ (l0 l1 : Value) (v : Int32) (M : Mm) (Q : Option Value → Mm → Prop), wp F_Mr_overlap 23 [l0, l1] [.int v] M Q = Q (some (.int v)) M) := ⟨fun _ _ _ _ _ => wp_in d_Mr_overlap_12 rfl rfl, fun _ _ _ _ _ _ => wp_getA d_Mr_overlap_13 fl_11_74 rfl, fun _ _ _ _ _ _ => wp_getI d_Mr_overlap_16 fl_11_254 rfl, fun _ _ _ _ _ _ => wp_if_ne d_Mr_overlap_19 rfl, fun _ _ _ _ _ => wp_iconst d_Mr_overlap_22 (by decide), fun _ _ _ _ _ => wp_retI d_Mr_overlap_23 rfl⟩
theorem B_Mr_overlap_24 : (∀ (l0 : Value) (x : Int32) (st : List Value) (M : Mm) (Q : Option Value → Mm → Prop), wp F_Mr_overlap 24 [l0, .int x] st M Q = wp F_Mr_overlap 25 [l0, .int x] (.int x :: st) M Q) ∧
  (∀ (l0 l1 : Value) (x : Int32) (st : List Value) (M : Mm) (Q : Option Value → Mm → Prop), wp F_Mr_overlap 25 [l0, l1] (.int x :: st) M Q = if x = 0 then wp F_Mr_overlap 28 [l0, l1] st M Q else wp F_Mr_overlap 36 [l0, l1] st M Q) ∧
  (∀ (l1 : Value) (x : Nat) (st : List Value) (M : Mm) (Q : Option Value → Mm → Prop), wp F_Mr_overlap 28 [.ref x, l1] st M Q = wp F_Mr_overlap 29 [.ref x, l1] (.ref x :: st) M Q) ∧
  (∀ (l0 l1 : Value) (a : Nat) (st : List Value) (M : Mm) (Q : Option Value → Mm → Prop), wp F_Mr_overlap 29 [l0, l1] (.ref a :: st) M Q = (sh M a = some (.inl 11) ∧ wp F_Mr_overlap 32 [l0, l1] (va_rf (gR M a 11) :: st) M Q)) ∧
  (∀ (l0 l1 : Value) (a : Nat) (st : List Value) (M : Mm) (Q : Option Value → Mm → Prop), wp F_Mr_overlap 32 [l0, l1] (.ref a :: st) M Q = (sh M a = some (.inl 2) ∧ wp F_Mr_overlap 35 [l0, l1] (.int (gI M a 7) :: st) M Q)) ∧
  (∀ (l0 l1 : Value) (v : Int32) (M : Mm) (Q : Option Value → Mm → Prop), wp F_Mr_overlap 35 [l0, l1] [.int v] M Q = Q (some (.int v)) M) := ⟨fun _ _ _ _ _ => wp_in d_Mr_overlap_24 rfl rfl, fun _ _ _ _ _ _ => wp_if_ne d_Mr_overlap_25 rfl, fun _ _ _ _ _ => wp_in d_Mr_overlap_28 rfl rfl, fun _ _ _ _ _ _ => wp_getA d_Mr_overlap_29 fl_11_74 rfl, fun _ _ _ _ _ _ => wp_getI d_Mr_overlap_32 fl_11_257 rfl, fun _ _ _ _ _ => wp_retI d_Mr_overlap_35 rfl⟩
theorem B_Mr_overlap_36 : (∀ (l0 : Value) (x : Int32) (st : List Value) (M : Mm) (Q : Option Value → Mm → Prop), wp F_Mr_overlap 36 [l0, .int x] st M Q = wp F_Mr_overlap 37 [l0, .int x] (.int x :: st) M Q) ∧
  (∀ (l0 l1 : Value) (st : List Value) (M : Mm) (Q : Option Value → Mm → Prop), wp F_Mr_overlap 37 [l0, l1] st M Q = wp F_Mr_overlap 38 [l0, l1] (.int 1 :: st) M Q) ∧
  (∀ (l0 l1 : Value) (x y : Int32) (st : List Value) (M : Mm) (Q : Option Value → Mm → Prop), wp F_Mr_overlap 38 [l0, l1] (.int y :: .int x :: st) M Q = if x = y then wp F_Mr_overlap 41 [l0, l1] st M Q else wp F_Mr_overlap 51 [l0, l1] st M Q) ∧
  (∀ (l1 : Value) (x : Nat) (st : List Value) (M : Mm) (Q : Option Value → Mm → Prop), wp F_Mr_overlap 41 [.ref x, l1] st M Q = wp F_Mr_overlap 42 [.ref x, l1] (.ref x :: st) M Q) ∧
  (∀ (l0 l1 : Value) (a : Nat) (st : List Value) (M : Mm) (Q : Option Value → Mm → Prop), wp F_Mr_overlap 42 [l0, l1] (.ref a :: st) M Q = (sh M a = some (.inl 11) ∧ wp F_Mr_overlap 45 [l0, l1] (va_rf (gR M a 11) :: st) M Q)) ∧
  (∀ (l0 l1 : Value) (a : Nat) (st : List Value) (M : Mm) (Q : Option Value → Mm → Prop), wp F_Mr_overlap 45 [l0, l1] (.ref a :: st) M Q = (sh M a = some (.inl 2) ∧ wp F_Mr_overlap 48 [l0, l1] (.int (gI M a 8) :: st) M Q)) ∧
  (∀ (l0 l1 : Value) (st : List Value) (M : Mm) (Q : Option Value → Mm → Prop), wp F_Mr_overlap 48 [l0, l1] st M Q = wp F_Mr_overlap 58 [l0, l1] st M Q) := ⟨fun _ _ _ _ _ => wp_in d_Mr_overlap_36 rfl rfl, fun _ _ _ _ _ => wp_iconst d_Mr_overlap_37 (by decide), fun _ _ _ _ _ _ _ => wp_icmp_ne d_Mr_overlap_38 rfl, fun _ _ _ _ _ => wp_in d_Mr_overlap_41 rfl rfl, fun _ _ _ _ _ _ => wp_getA d_Mr_overlap_42 fl_11_74 rfl, fun _ _ _ _ _ _ => wp_getI d_Mr_overlap_45 fl_11_260 rfl, fun _ _ _ _ _ => wp_goto d_Mr_overlap_48 rfl⟩
theorem B_Mr_overlap_51 : (∀ (l1 : Value) (x : Nat) (st : List Value) (M : Mm) (Q : Option Value → Mm → Prop), wp F_Mr_overlap 51 [.ref x, l1] st M Q = wp F_Mr_overlap 52 [.ref x, l1] (.ref x :: st) M Q) ∧
  (∀ (l0 l1 : Value) (a : Nat) (st : List Value) (M : Mm) (Q : Option Value → Mm → Prop), wp F_Mr_overlap 52 [l0, l1] (.ref a :: st) M Q = (sh M a = some (.inl 11) ∧ wp F_Mr_overlap 55 [l0, l1] (va_rf (gR M a 11) :: st) M Q)) ∧
  (∀ (l0 l1 : Value) (a : Nat) (st : List Value) (M : Mm) (Q : Option Value → Mm → Prop), wp F_Mr_overlap 55 [l0, l1] (.ref a :: st) M Q = (sh M a = some (.inl 2) ∧ wp F_Mr_overlap 58 [l0, l1] (.int (gI M a 9) :: st) M Q)) := ⟨fun _ _ _ _ _ => wp_in d_Mr_overlap_51 rfl rfl, fun _ _ _ _ _ _ => wp_getA d_Mr_overlap_52 fl_11_74 rfl, fun _ _ _ _ _ _ => wp_getI d_Mr_overlap_55 fl_11_263 rfl⟩
theorem B_Mr_overlap_58 : (∀ (l0 l1 : Value) (v : Int32) (M : Mm) (Q : Option Value → Mm → Prop), wp F_Mr_overlap 58 [l0, l1] [.int v] M Q = Q (some (.int v)) M) := fun _ _ _ _ _ => wp_retI d_Mr_overlap_58 rfl
theorem d_Mr_length_0 : decode (fnB F_Mr_length) 0 = .ok (.iload_n 1, 1) := by decide +kernel
theorem d_Mr_length_1 : decode (fnB F_Mr_length) 1 = .ok (.invokestatic 125, 3) := by decide +kernel
theorem d_Mr_length_4 : decode (fnB F_Mr_length) 4 = .ok (.ifCond .eq 15, 3) := by decide +kernel
theorem d_Mr_length_7 : decode (fnB F_Mr_length) 7 = .ok (.aload_n 0, 1) := by decide +kernel
theorem d_Mr_length_8 : decode (fnB F_Mr_length) 8 = .ok (.getfield 26, 3) := by decide +kernel
theorem d_Mr_length_11 : decode (fnB F_Mr_length) 11 = .ok (.iload_n 1, 1) := by decide +kernel
theorem d_Mr_length_12 : decode (fnB F_Mr_length) 12 = .ok (.aaload, 1) := by decide +kernel
theorem d_Mr_length_13 : decode (fnB F_Mr_length) 13 = .ok (.getfield 140, 3) := by decide +kernel
theorem d_Mr_length_16 : decode (fnB F_Mr_length) 16 = .ok (.goto 5, 3) := by decide +kernel
theorem d_Mr_length_19 : decode (fnB F_Mr_length) 19 = .ok (.bipush (-2), 2) := by decide +kernel
theorem d_Mr_length_21 : decode (fnB F_Mr_length) 21 = .ok (.ireturn, 1) := by decide +kernel
theorem B_Mr_length_0 : (∀ (l0 : Value) (x : Int32) (st : List Value) (M : Mm) (Q : Option Value → Mm → Prop), wp F_Mr_length 0 [l0, .int x] st M Q = wp F_Mr_length 1 [l0, .int x] (.int x :: st) M Q) ∧
  (∀ (l0 l1 : Value) (p0 : Int32) (M : Mm) (Q : Option Value → Mm → Prop), wp F_Mr_length 1 [l0, l1] [.int p0] M Q = wp F_Mr_isSlot 0 [.int p0] [] M (fun r M1 => wp F_Mr_length 4 [l0, l1] (r.toList ++ []) M1 Q)) ∧
  (∀ (l0 l1 : Value) (x : Int32) (st : List Value) (M : Mm) (Q : Option Value → Mm → Prop), wp F_Mr_length 4 [l0, l1] (.int x :: st) M Q = if x = 0 then wp F_Mr_length 19 [l0, l1] st M Q else wp F_Mr_length 7 [l0, l1] st M Q) ∧
  (∀ (l1 : Value) (x : Nat) (st : List Value) (M : Mm) (Q : Option Value → Mm → Prop), wp F_Mr_length 7 [.ref x, l1] st M Q = wp F_Mr_length 8 [.ref x, l1] (.ref x :: st) M Q) ∧
  (∀ (l0 l1 : Value) (a : Nat) (st : List Value) (M : Mm) (Q : Option Value → Mm → Prop), wp F_Mr_length 8 [l0, l1] (.ref a :: st) M Q = (sh M a = some (.inl 11) ∧ wp F_Mr_length 11 [l0, l1] (va_rf (gR M a 5) :: st) M Q)) ∧
  (∀ (l0 : Value) (x : Int32) (st : List Value) (M : Mm) (Q : Option Value → Mm → Prop), wp F_Mr_length 11 [l0, .int x] st M Q = wp F_Mr_length 12 [l0, .int x] (.int x :: st) M Q) ∧
  (∀ (l0 l1 : Value) (a : Nat) (j : Int32) (st : List Value) (M : Mm) (Q : Option Value → Mm → Prop), wp F_Mr_length 12 [l0, l1] (.int j :: .ref a :: st) M Q = (ixR M a j ∧ wp F_Mr_length 13 [l0, l1] (va_rf (gR M a (cl j)) :: st) M Q)) ∧
  (∀ (l0 l1 : Value) (a : Nat) (st : List Value) (M : Mm) (Q : Option Value → Mm → Prop), wp F_Mr_length 13 [l0, l1] (.ref a :: st) M Q = (sh M a = some (.inl 10) ∧ wp F_Mr_length 16 [l0, l1] (.int (gI M a 1) :: st) M Q)) ∧
  (∀ (l0 l1 : Value) (st : List Value) (M : Mm) (Q : Option Value → Mm → Prop), wp F_Mr_length 16 [l0, l1] st M Q = wp F_Mr_length 21 [l0, l1] st M Q) := ⟨fun _ _ _ _ _ => wp_in d_Mr_length_0 rfl rfl, fun _ _ _ _ _ => wp_callS d_Mr_length_1 ml_11_125 (Nat.le_of_ble_eq_true rfl) rfl rfl rfl, fun _ _ _ _ _ _ => wp_if_eq d_Mr_length_4 rfl, fun _ _ _ _ _ => wp_in d_Mr_length_7 rfl rfl, fun _ _ _ _ _ _ => wp_getA d_Mr_length_8 fl_11_26 rfl, fun _ _ _ _ _ => wp_in d_Mr_length_11 rfl rfl, fun _ _ _ _ _ _ _ => wp_aald d_Mr_length_12, fun _ _ _ _ _ _ => wp_getI d_Mr_length_13 fl_11_140 rfl, fun _ _ _ _ _ => wp_goto d_Mr_length_16 rfl⟩
theorem B_Mr_length_19 : (∀ (l0 l1 : Value) (st : List Value) (M : Mm) (Q : Option Value → Mm → Prop), wp F_Mr_length 19 [l0, l1] st M Q = wp F_Mr_length 21 [l0, l1] (.int (-2) :: st) M Q) := fun _ _ _ _ _ => wp_bipush d_Mr_length_19 (by decide)
theorem B_Mr_length_21 : (∀ (l0 l1 : Value) (v : Int32) (M : Mm) (Q : Option Value → Mm → Prop), wp F_Mr_length 21 [l0, l1] [.int v] M Q = Q (some (.int v)) M) := fun _ _ _ _ _ => wp_retI d_Mr_length_21 rfl
theorem d_Mr_letter_0 : decode (fnB F_Mr_letter) 0 = .ok (.iload_n 1, 1) := by decide +kernel
theorem d_Mr_letter_1 : decode (fnB F_Mr_letter) 1 = .ok (.invokestatic 125, 3) := by decide +kernel
theorem d_Mr_letter_4 : decode (fnB F_Mr_letter) 4 = .ok (.ifCond .eq 16, 3) := by decide +kernel
theorem d_Mr_letter_7 : decode (fnB F_Mr_letter) 7 = .ok (.aload_n 0, 1) := by decide +kernel
theorem d_Mr_letter_8 : decode (fnB F_Mr_letter) 8 = .ok (.getfield 26, 3) := by decide +kernel
theorem d_Mr_letter_11 : decode (fnB F_Mr_letter) 11 = .ok (.iload_n 1, 1) := by decide +kernel
theorem d_Mr_letter_12 : decode (fnB F_Mr_letter) 12 = .ok (.aaload, 1) := by decide +kernel
theorem d_Mr_letter_13 : decode (fnB F_Mr_letter) 13 = .ok (.iload_n 2, 1) := by decide +kernel
theorem d_Mr_letter_14 : decode (fnB F_Mr_letter) 14 = .ok (.invokevirtual 244, 3) := by decide +kernel
theorem d_Mr_letter_17 : decode (fnB F_Mr_letter) 17 = .ok (.goto 5, 3) := by decide +kernel
theorem d_Mr_letter_20 : decode (fnB F_Mr_letter) 20 = .ok (.bipush (-2), 2) := by decide +kernel
theorem d_Mr_letter_22 : decode (fnB F_Mr_letter) 22 = .ok (.ireturn, 1) := by decide +kernel
theorem B_Mr_letter_0 : (∀ (l0 l2 : Value) (x : Int32) (st : List Value) (M : Mm) (Q : Option Value → Mm → Prop), wp F_Mr_letter 0 [l0, .int x, l2] st M Q = wp F_Mr_letter 1 [l0, .int x, l2] (.int x :: st) M Q) ∧
  (∀ (l0 l1 l2 : Value) (p0 : Int32) (M : Mm) (Q : Option Value → Mm → Prop), wp F_Mr_letter 1 [l0, l1, l2] [.int p0] M Q = wp F_Mr_isSlot 0 [.int p0] [] M (fun r M1 => wp F_Mr_letter 4 [l0, l1, l2] (r.toList ++ []) M1 Q)) ∧
  (∀ (l0 l1 l2 : Value) (x : Int32) (st : List Value) (M : Mm) (Q : Option Value → Mm → Prop), wp F_Mr_letter 4 [l0, l1, l2] (.int x :: st) M Q = if x = 0 then wp F_Mr_letter 20 [l0, l1, l2] st M Q else wp F_Mr_letter 7 [l0, l1, l2] st M Q) ∧
  (∀ (l1 l2 : Value) (x : Nat) (st : List Value) (M : Mm) (Q : Option Value → Mm → Prop), wp F_Mr_letter 7 [.ref x, l1, l2] st M Q = wp F_Mr_letter 8 [.ref x, l1, l2] (.ref x :: st) M Q) ∧
  (∀ (l0 l1 l2 : Value) (a : Nat) (st : List Value) (M : Mm) (Q : Option Value → Mm → Prop), wp F_Mr_letter 8 [l0, l1, l2] (.ref a :: st) M Q = (sh M a = some (.inl 11) ∧ wp F_Mr_letter 11 [l0, l1, l2] (va_rf (gR M a 5) :: st) M Q)) ∧
  (∀ (l0 l2 : Value) (x : Int32) (st : List Value) (M : Mm) (Q : Option Value → Mm → Prop), wp F_Mr_letter 11 [l0, .int x, l2] st M Q = wp F_Mr_letter 12 [l0, .int x, l2] (.int x :: st) M Q) ∧
  (∀ (l0 l1 l2 : Value) (a : Nat) (j : Int32) (st : List Value) (M : Mm) (Q : Option Value → Mm → Prop), wp F_Mr_letter 12 [l0, l1, l2] (.int j :: .ref a :: st) M Q = (ixR M a j ∧ wp F_Mr_letter 13 [l0, l1, l2] (va_rf (gR M a (cl j)) :: st) M Q)) ∧
  (∀ (l0 l1 : Value) (x : Int32) (st : List Value) (M : Mm) (Q : Option Value → Mm → Prop), wp F_Mr_letter 13 [l0, l1, .int x] st M Q = wp F_Mr_letter 14 [l0, l1, .int x] (.int x :: st) M Q) ∧
  (∀ (l0 l1 l2 : Value) (b : Nat) (p0 : Int32) (M : Mm) (Q : Option Value → Mm → Prop), wp F_Mr_letter 14 [l0, l1, l2] [.int p0, .ref b] M Q = (sh M b = some (.inl 10) ∧ wp F_Word_at 0 [.ref b, .int p0] [] M (fun r M1 => wp F_Mr_letter 17 [l0, l1, l2] (r.toList ++ []) M1 Q))) ∧
  (∀ (l0 l1 l2 : Value) (st : List Value) (M : Mm) (Q : Option Value → Mm → Prop), wp F_Mr_letter 17 [l0, l1, l2] st M Q = wp F_Mr_letter 22 [l0, l1, l2] st M Q) := ⟨fun _ _ _ _ _ _ => wp_in d_Mr_letter_0 rfl rfl, fun _ _ _ _ _ _ => wp_callS d_Mr_letter_1 ml_11_125 (Nat.le_of_ble_eq_true rfl) rfl rfl rfl, fun _ _ _ _ _ _ _ => wp_if_eq d_Mr_letter_4 rfl, fun _ _ _ _ _ _ => wp_in d_Mr_letter_7 rfl rfl, fun _ _ _ _ _ _ _ => wp_getA d_Mr_letter_8 fl_11_26 rfl, fun _ _ _ _ _ _ => wp_in d_Mr_letter_11 rfl rfl, fun _ _ _ _ _ _ _ _ => wp_aald d_Mr_letter_12, fun _ _ _ _ _ _ => wp_in d_Mr_letter_13 rfl rfl, fun _ _ _ _ _ _ _ => wp_callV d_Mr_letter_14 ml_11_244 rfl rfl rfl, fun _ _ _ _ _ _ => wp_goto d_Mr_letter_17 rfl⟩
theorem B_Mr_letter_20 : (∀ (l0 l1 l2 : Value) (st : List Value) (M : Mm) (Q : Option Value → Mm → Prop), wp F_Mr_letter 20 [l0, l1, l2] st M Q = wp F_Mr_letter 22 [l0, l1, l2] (.int (-2) :: st) M Q) := fun _ _ _ _ _ _ => wp_bipush d_Mr_letter_20 (by decide)
theorem B_Mr_letter_22 : (∀ (l0 l1 l2 : Value) (v : Int32) (M : Mm) (Q : Option Value → Mm → Prop), wp F_Mr_letter 22 [l0, l1, l2] [.int v] M Q = Q (some (.int v)) M) := fun _ _ _ _ _ _ => wp_retI d_Mr_letter_22 rfl
theorem d_Mr_join_0 : decode (fnB F_Mr_join) 0 = .ok (.iload_n 1, 1) := by decide +kernel
theorem d_Mr_join_1 : decode (fnB F_Mr_join) 1 = .ok (.invokestatic 125, 3) := by decide +kernel
theorem d_Mr_join_4 : decode (fnB F_Mr_join) 4 = .ok (.ifCond .eq 17, 3) := by decide +kernel
theorem d_Mr_join_7 : decode (fnB F_Mr_join) 7 = .ok (.iload_n 2, 1) := by decide +kernel
theorem d_Mr_join_8 : decode (fnB F_Mr_join) 8 = .ok (.invokestatic 125, 3) := by decide +kernel
theorem d_Mr_join_11 : decode (fnB F_Mr_join) 11 = .ok (.ifCond .eq 10, 3) := by decide +kernel
theorem d_Mr_join_14 : decode (fnB F_Mr_join) 14 = .ok (.iload_n 3, 1) := by decide +kernel
theorem d_Mr_join_15 : decode (fnB F_Mr_join) 15 = .ok (.invokestatic 125, 3) := by decide +kernel
theorem d_Mr_join_18 : decode (fnB F_Mr_join) 18 = .ok (.ifCond .ne 6, 3) := by decide +kernel
theorem d_Mr_join_21 : decode (fnB F_Mr_join) 21 = .ok (.bipush (-2), 2) := by decide +kernel
theorem d_Mr_join_23 : decode (fnB F_Mr_join) 23 = .ok (.ireturn, 1) := by decide +kernel
theorem d_Mr_join_24 : decode (fnB F_Mr_join) 24 = .ok (.aload_n 0, 1) := by decide +kernel
theorem d_Mr_join_25 : decode (fnB F_Mr_join) 25 = .ok (.getfield 26, 3) := by decide +kernel
theorem d_Mr_join_28 : decode (fnB F_Mr_join) 28 = .ok (.iload_n 2, 1) := by decide +kernel
theorem d_Mr_join_29 : decode (fnB F_Mr_join) 29 = .ok (.aaload, 1) := by decide +kernel
theorem d_Mr_join_30 : decode (fnB F_Mr_join) 30 = .ok (.getfield 140, 3) := by decide +kernel
theorem d_Mr_join_33 : decode (fnB F_Mr_join) 33 = .ok (.aload_n 0, 1) := by decide +kernel
theorem d_Mr_join_34 : decode (fnB F_Mr_join) 34 = .ok (.getfield 26, 3) := by decide +kernel
theorem d_Mr_join_37 : decode (fnB F_Mr_join) 37 = .ok (.iload_n 3, 1) := by decide +kernel
theorem d_Mr_join_38 : decode (fnB F_Mr_join) 38 = .ok (.aaload, 1) := by decide +kernel
theorem d_Mr_join_39 : decode (fnB F_Mr_join) 39 = .ok (.getfield 140, 3) := by decide +kernel
theorem d_Mr_join_42 : decode (fnB F_Mr_join) 42 = .ok (.iadd, 1) := by decide +kernel
theorem d_Mr_join_43 : decode (fnB F_Mr_join) 43 = .ok (.bipush 80, 2) := by decide +kernel
theorem d_Mr_join_45 : decode (fnB F_Mr_join) 45 = .ok (.if_icmp .le 6, 3) := by decide +kernel
theorem d_Mr_join_48 : decode (fnB F_Mr_join) 48 = .ok (.bipush (-4), 2) := by decide +kernel
theorem d_Mr_join_50 : decode (fnB F_Mr_join) 50 = .ok (.ireturn, 1) := by decide +kernel
theorem d_Mr_join_51 : decode (fnB F_Mr_join) 51 = .ok (.aload_n 0, 1) := by decide +kernel
theorem d_Mr_join_52 : decode (fnB F_Mr_join) 52 = .ok (.getfield 101, 3) := by decide +kernel
theorem d_Mr_join_55 : decode (fnB F_Mr_join) 55 = .ok (.aload_n 0, 1) := by decide +kernel
theorem d_Mr_join_56 : decode (fnB F_Mr_join) 56 = .ok (.getfield 26, 3) := by decide +kernel
theorem d_Mr_join_59 : decode (fnB F_Mr_join) 59 = .ok (.iload_n 2, 1) := by decide +kernel
theorem d_Mr_join_60 : decode (fnB F_Mr_join) 60 = .ok (.aaload, 1) := by decide +kernel
theorem d_Mr_join_61 : decode (fnB F_Mr_join) 61 = .ok (.invokevirtual 136, 3) := by decide +kernel
theorem d_Mr_join_64 : decode (fnB F_Mr_join) 64 = .ok (.aload_n 0, 1) := by decide +kernel
theorem d_Mr_join_65 : decode (fnB F_Mr_join) 65 = .ok (.getfield 101, 3) := by decide +kernel
theorem d_Mr_join_68 : decode (fnB F_Mr_join) 68 = .ok (.aload_n 0, 1) := by decide +kernel
theorem d_Mr_join_69 : decode (fnB F_Mr_join) 69 = .ok (.getfield 26, 3) := by decide +kernel
theorem d_Mr_join_72 : decode (fnB F_Mr_join) 72 = .ok (.iload_n 3, 1) := by decide +kernel
theorem d_Mr_join_73 : decode (fnB F_Mr_join) 73 = .ok (.aaload, 1) := by decide +kernel
theorem d_Mr_join_74 : decode (fnB F_Mr_join) 74 = .ok (.iconst 0, 1) := by decide +kernel
theorem d_Mr_join_75 : decode (fnB F_Mr_join) 75 = .ok (.aload_n 0, 1) := by decide +kernel
theorem d_Mr_join_76 : decode (fnB F_Mr_join) 76 = .ok (.getfield 26, 3) := by decide +kernel
theorem d_Mr_join_79 : decode (fnB F_Mr_join) 79 = .ok (.iload_n 3, 1) := by decide +kernel
theorem d_Mr_join_80 : decode (fnB F_Mr_join) 80 = .ok (.aaload, 1) := by decide +kernel
theorem d_Mr_join_81 : decode (fnB F_Mr_join) 81 = .ok (.getfield 140, 3) := by decide +kernel
theorem d_Mr_join_84 : decode (fnB F_Mr_join) 84 = .ok (.invokevirtual 266, 3) := by decide +kernel
theorem d_Mr_join_87 : decode (fnB F_Mr_join) 87 = .ok (.aload_n 0, 1) := by decide +kernel
theorem d_Mr_join_88 : decode (fnB F_Mr_join) 88 = .ok (.getfield 26, 3) := by decide +kernel
theorem d_Mr_join_91 : decode (fnB F_Mr_join) 91 = .ok (.iload_n 1, 1) := by decide +kernel
theorem d_Mr_join_92 : decode (fnB F_Mr_join) 92 = .ok (.aaload, 1) := by decide +kernel
theorem d_Mr_join_93 : decode (fnB F_Mr_join) 93 = .ok (.aload_n 0, 1) := by decide +kernel
theorem d_Mr_join_94 : decode (fnB F_Mr_join) 94 = .ok (.getfield 101, 3) := by decide +kernel
theorem d_Mr_join_97 : decode (fnB F_Mr_join) 97 = .ok (.invokevirtual 136, 3) := by decide +kernel
theorem d_Mr_join_100 : decode (fnB F_Mr_join) 100 = .ok (.aload_n 0, 1) := by decide +kernel
theorem d_Mr_join_101 : decode (fnB F_Mr_join) 101 = .ok (.getfield 101, 3) := by decide +kernel
theorem d_Mr_join_104 : decode (fnB F_Mr_join) 104 = .ok (.getfield 140, 3) := by decide +kernel
theorem d_Mr_join_107 : decode (fnB F_Mr_join) 107 = .ok (.ireturn, 1) := by decide +kernel
theorem B_Mr_join_0 : (∀ (l0 l2 l3 : Value) (x : Int32) (st : List Value) (M : Mm) (Q : Option Value → Mm → Prop), wp F_Mr_join 0 [l0, .int x, l2, l3] st M Q = wp F_Mr_join 1 [l0, .int x, l2, l3] (.int x :: st) M Q) ∧
  (∀ (l0 l1 l2 l3 : Value) (p0 : Int32) (M : Mm) (Q : Option Value → Mm → Prop), wp F_Mr_join 1 [l0, l1, l2, l3] [.int p0] M Q = wp F_Mr_isSlot 0 [.int p0] [] M (fun r M1 => wp F_Mr_join 4 [l0, l1, l2, l3] (r.toList ++ []) M1 Q)) ∧
  (∀ (l0 l1 l2 l3 : Value) (x : Int32) (st : List Value) (M : Mm) (Q : Option Value → Mm → Prop), wp F_Mr_join 4 [l0, l1, l2, l3] (.int x :: st) M Q = if x = 0 then wp F_Mr_join 21 [l0, l1, l2, l3] st M Q else wp F_Mr_join 7 [l0, l1, l2, l3] st M Q) ∧
  (∀ (l0 l1 l3 : Value) (x : Int32) (st : List Value) (M : Mm) (Q : Option Value → Mm → Prop), wp F_Mr_join 7 [l0, l1, .int x, l3] st M Q = wp F_Mr_join 8 [l0, l1, .int x, l3] (.int x :: st) M Q) ∧
  (∀ (l0 l1 l2 l3 : Value) (p0 : Int32) (M : Mm) (Q : Option Value → Mm → Prop), wp F_Mr_join 8 [l0, l1, l2, l3] [.int p0] M Q = wp F_Mr_isSlot 0 [.int p0] [] M (fun r M1 => wp F_Mr_join 11 [l0, l1, l2, l3] (r.toList ++ []) M1 Q)) ∧
  (∀ (l0 l1 l2 l3 : Value) (x : Int32) (st : List Value) (M : Mm) (Q : Option Value → Mm → Prop), wp F_Mr_join 11 [l0, l1, l2, l3] (.int x :: st) M Q = if x = 0 then wp F_Mr_join 21 [l0, l1, l2, l3] st M Q else wp F_Mr_join 14 [l0, l1, l2, l3] st M Q) ∧
  (∀ (l0 l1 l2 : Value) (x : Int32) (st : List Value) (M : Mm) (Q : Option Value → Mm → Prop), wp F_Mr_join 14 [l0, l1, l2, .int x] st M Q = wp F_Mr_join 15 [l0, l1, l2, .int x] (.int x :: st) M Q) ∧
  (∀ (l0 l1 l2 l3 : Value) (p0 : Int32) (M : Mm) (Q : Option Value → Mm → Prop), wp F_Mr_join 15 [l0, l1, l2, l3] [.int p0] M Q = wp F_Mr_isSlot 0 [.int p0] [] M (fun r M1 => wp F_Mr_join 18 [l0, l1, l2, l3] (r.toList ++ []) M1 Q)) ∧
  (∀ (l0 l1 l2 l3 : Value) (x : Int32) (st : List Value) (M : Mm) (Q : Option Value → Mm → Prop), wp F_Mr_join 18 [l0, l1, l2, l3] (.int x :: st) M Q = if x = 0 then wp F_Mr_join 21 [l0, l1, l2, l3] st M Q else wp F_Mr_join 24 [l0, l1, l2, l3] st M Q) := ⟨fun _ _ _ _ _ _ _ => wp_in d_Mr_join_0 rfl rfl, fun _ _ _ _ _ _ _ => wp_callS d_Mr_join_1 ml_11_125 (Nat.le_of_ble_eq_true rfl) rfl rfl rfl, fun _ _ _ _ _ _ _ _ => wp_if_eq d_Mr_join_4 rfl, fun _ _ _ _ _ _ _ => wp_in d_Mr_join_7 rfl rfl, fun _ _ _ _ _ _ _ => wp_callS d_Mr_join_8 ml_11_125 (Nat.le_of_ble_eq_true rfl) rfl rfl rfl, fun _ _ _ _ _ _ _ _ => wp_if_eq d_Mr_join_11 rfl, fun _ _ _ _ _ _ _ => wp_in d_Mr_join_14 rfl rfl, fun _ _ _ _ _ _ _ => wp_callS d_Mr_join_15 ml_11_125 (Nat.le_of_ble_eq_true rfl) rfl rfl rfl, fun _ _ _ _ _ _ _ _ => wp_if_ne d_Mr_join_18 rfl⟩
theorem B_Mr_join_21 : (∀ (l0 l1 l2 l3 : Value) (st : List Value) (M : Mm) (Q : Option Value → Mm → Prop), wp F_Mr_join 21 [l0, l1, l2, l3] st M Q = wp F_Mr_join 23 [l0, l1, l2, l3] (.int (-2) :: st) M Q) ∧
  (∀ (l0 l1 l2 l3 : Value) (v : Int32) (M : Mm) (Q : Option Value → Mm → Prop), wp F_Mr_join 23 [l0, l1, l2, l3] [.int v] M Q = Q (some (.int v)) M) := ⟨fun _ _ _ _ _ _ _ => wp_bipush d_Mr_join_21 (by decide), fun _ _ _ _ _ _ _ => wp_retI d_Mr_join_23 rfl⟩
theorem B_Mr_join_24 : (∀ (l1 l2 l3 : Value) (x : Nat) (st : List Value) (M : Mm) (Q : Option Value → Mm → Prop), wp F_Mr_join 24 [.ref x, l1, l2, l3] st M Q = wp F_Mr_join 25 [.ref x, l1, l2, l3] (.ref x :: st) M Q) ∧
  (∀ (l0 l1 l2 l3 : Value) (a : Nat) (st : List Value) (M : Mm) (Q : Option Value → Mm → Prop), wp F_Mr_join 25 [l0, l1, l2, l3] (.ref a :: st) M Q = (sh M a = some (.inl 11) ∧ wp F_Mr_join 28 [l0, l1, l2, l3] (va_rf (gR M a 5) :: st) M Q)) ∧
  (∀ (l0 l1 l3 : Value) (x : Int32) (st : List Value) (M : Mm) (Q : Option Value → Mm → Prop), wp F_Mr_join 28 [l0, l1, .int x, l3] st M Q = wp F_Mr_join 29 [l0, l1, .int x, l3] (.int x :: st) M Q) ∧
  (∀ (l0 l1 l2 l3 : Value) (a : Nat) (j : Int32) (st : List Value) (M : Mm) (Q : Option Value → Mm → Prop), wp F_Mr_join 29 [l0, l1, l2, l3] (.int j :: .ref a :: st) M Q = (ixR M a j ∧ wp F_Mr_join 30 [l0, l1, l2, l3] (va_rf (gR M a (cl j)) :: st) M Q)) ∧
  (∀ (l0 l1 l2 l3 : Value) (a : Nat) (st : List Value) (M : Mm) (Q : Option Value → Mm → Prop), wp F_Mr_join 30 [l0, l1, l2, l3] (.ref a :: st) M Q = (sh M a = some (.inl 10) ∧ wp F_Mr_join 33 [l0, l1, l2, l3] (.int (gI M a 1) :: st) M Q)) ∧
  (∀ (l1 l2 l3 : Value) (x : Nat) (st : List Value) (M : Mm) (Q : Option Value → Mm → Prop), wp F_Mr_join 33 [.ref x, l1, l2, l3] st M Q = wp F_Mr_join 34 [.ref x, l1, l2, l3] (.ref x :: st) M Q) ∧
  (∀ (l0 l1 l2 l3 : Value) (a : Nat) (st : List Value) (M : Mm) (Q : Option Value → Mm → Prop), wp F_Mr_join 34 [l0, l1, l2, l3] (.ref a :: st) M Q = (sh M a = some (.inl 11) ∧ wp F_Mr_join 37 [l0, l1, l2, l3] (va_rf (gR M a 5) :: st) M Q)) ∧
  (∀ (l0 l1 l2 : Value) (x : Int32) (st : List Value) (M : Mm) (Q : Option Value → Mm → Prop), wp F_Mr_join 37 [l0, l1, l2, .int x] st M Q = wp F_Mr_join 38 [l0, l1, l2, .int x] (.int x :: st) M Q) ∧
  (∀ (l0 l1 l2 l3 : Value) (a : Nat) (j : Int32) (st : List Value) (M : Mm) (Q : Option Value → Mm → Prop), wp F_Mr_join 38 [l0, l1, l2, l3] (.int j :: .ref a :: st) M Q = (ixR M a j ∧ wp F_Mr_join 39 [l0, l1, l2, l3] (va_rf (gR M a (cl j)) :: st) M Q)) ∧
  (∀ (l0 l1 l2 l3 : Value) (a : Nat) (st : List Value) (M : Mm) (Q : Option Value → Mm → Prop), wp F_Mr_join 39 [l0, l1, l2, l3] (.ref a :: st) M Q = (sh M a = some (.inl 10) ∧ wp F_Mr_join 42 [l0, l1, l2, l3] (.int (gI M a 1) :: st) M Q)) ∧
  (∀ (l0 l1 l2 l3 : Value) (x y : Int32) (st : List Value) (M : Mm) (Q : Option Value → Mm → Prop), wp F_Mr_join 42 [l0, l1, l2, l3] (.int y :: .int x :: st) M Q = wp F_Mr_join 43 [l0, l1, l2, l3] (.int (x + y) :: st) M Q) ∧
  (∀ (l0 l1 l2 l3 : Value) (st : List Value) (M : Mm) (Q : Option Value → Mm → Prop), wp F_Mr_join 43 [l0, l1, l2, l3] st M Q = wp F_Mr_join 45 [l0, l1, l2, l3] (.int 80 :: st) M Q) ∧
  (∀ (l0 l1 l2 l3 : Value) (x y : Int32) (st : List Value) (M : Mm) (Q : Option Value → Mm → Prop), wp F_Mr_join 45 [l0, l1, l2, l3] (.int y :: .int x :: st) M Q = if x ≤ y then wp F_Mr_join 51 [l0, l1, l2, l3] st M Q else wp F_Mr_join 48 [l0, l1, l2, l3] st M Q) ∧
  (∀ (l0 l1 l2 l3 : Value) (st : List Value) (M : Mm) (Q : Option Value → Mm → Prop), wp F_Mr_join 48 [l0, l1, l2, l3] st M Q = wp F_Mr_join 50 [l0, l1, l2, l3] (.int (-4) :: st) M Q) ∧
  (∀ (l0 l1 l2 l3 : Value) (v : Int32) (M : Mm) (Q : Option Value → Mm → Prop), wp F_Mr_join 50 [l0, l1, l2, l3] [.int v] M Q = Q (some (.int v)) M) := ⟨fun _ _ _ _ _ _ _ => wp_in d_Mr_join_24 rfl rfl, fun _ _ _ _ _ _ _ _ => wp_getA d_Mr_join_25 fl_11_26 rfl, fun _ _ _ _ _ _ _ => wp_in d_Mr_join_28 rfl rfl, fun _ _ _ _ _ _ _ _ _ => wp_aald d_Mr_join_29, fun _ _ _ _ _ _ _ _ => wp_getI d_Mr_join_30 fl_11_140 rfl, fun _ _ _ _ _ _ _ => wp_in d_Mr_join_33 rfl rfl, fun _ _ _ _ _ _ _ _ => wp_getA d_Mr_join_34 fl_11_26 rfl, fun _ _ _ _ _ _ _ => wp_in d_Mr_join_37 rfl rfl, fun _ _ _ _ _ _ _ _ _ => wp_aald d_Mr_join_38, fun _ _ _ _ _ _ _ _ => wp_getI d_Mr_join_39 fl_11_140 rfl, fun _ _ _ _ _ _ _ _ _ => wp_in d_Mr_join_42 rfl rfl, fun _ _ _ _ _ _ _ => wp_bipush d_Mr_join_43 (by decide), fun _ _ _ _ _ _ _ _ _ => wp_icmp_le d_Mr_join_45 rfl, fun _ _ _ _ _ _ _ => wp_bipush d_Mr_join_48 (by decide), fun _ _ _ _ _ _ _ => wp_retI d_Mr_join_50 rfl⟩
theorem B_Mr_join_51 : (∀ (l1 l2 l3 : Value) (x : Nat) (st : List Value) (M : Mm) (Q : Option Value → Mm → Prop), wp F_Mr_join 51 [.ref x, l1, l2, l3] st M Q = wp F_Mr_join 52 [.ref x, l1, l2, l3] (.ref x :: st) M Q) ∧
  (∀ (l0 l1 l2 l3 : Value) (a : Nat) (st : List Value) (M : Mm) (Q : Option Value → Mm → Prop), wp F_Mr_join 52 [l0, l1, l2, l3] (.ref a :: st) M Q = (sh M a = some (.inl 11) ∧ wp F_Mr_join 55 [l0, l1, l2, l3] (va_rf (gR M a 18) :: st) M Q)) ∧
  (∀ (l1 l2 l3 : Value) (x : Nat) (st : List Value) (M : Mm) (Q : Option Value → Mm → Prop), wp F_Mr_join 55 [.ref x, l1, l2, l3] st M Q = wp F_Mr_join 56 [.ref x, l1, l2, l3] (.ref x :: st) M Q) ∧
  (∀ (l0 l1 l2 l3 : Value) (a : Nat) (st : List Value) (M : Mm) (Q : Option Value → Mm → Prop), wp F_Mr_join 56 [l0, l1, l2, l3] (.ref a :: st) M Q = (sh M a = some (.inl 11) ∧ wp F_Mr_join 59 [l0, l1, l2, l3] (va_rf (gR M a 5) :: st) M Q)) ∧
  (∀ (l0 l1 l3 : Value) (x : Int32) (st : List Value) (M : Mm) (Q : Option Value → Mm → Prop), wp F_Mr_join 59 [l0, l1, .int x, l3] st M Q = wp F_Mr_join 60 [l0, l1, .int x, l3] (.int x :: st) M Q) ∧
  (∀ (l0 l1 l2 l3 : Value) (a : Nat) (j : Int32) (st : List Value) (M : Mm) (Q : Option Value → Mm → Prop), wp F_Mr_join 60 [l0, l1, l2, l3] (.int j :: .ref a :: st) M Q = (ixR M a j ∧ wp F_Mr_join 61 [l0, l1, l2, l3] (va_rf (gR M a (cl j)) :: st) M Q)) ∧
  (∀ (l0 l1 l2 l3 : Value) (b : Nat) (p0 : Nat) (M : Mm) (Q : Option Value → Mm → Prop), wp F_Mr_join 61 [l0, l1, l2, l3] [.ref p0, .ref b] M Q = (sh M b = some (.inl 10) ∧ wp F_Word_become 0 [.ref b, .ref p0, jk, jk] [] M (fun r M1 => wp F_Mr_join 64 [l0, l1, l2, l3] (r.toList ++ []) M1 Q))) ∧
  (∀ (l1 l2 l3 : Value) (x : Nat) (st : List Value) (M : Mm) (Q : Option Value → Mm → Prop), wp F_Mr_join 64 [.ref x, l1, l2, l3] st M Q = wp F_Mr_join 65 [.ref x, l1, l2, l3] (.ref x :: st) M Q) ∧
  (∀ (l0 l1 l2 l3 : Value) (a : Nat) (st : List Value) (M : Mm) (Q : Option Value → Mm → Prop), wp F_Mr_join 65 [l0, l1, l2, l3] (.ref a :: st) M Q = (sh M a = some (.inl 11) ∧ wp F_Mr_join 68 [l0, l1, l2, l3] (va_rf (gR M a 18) :: st) M Q)) ∧
  (∀ (l1 l2 l3 : Value) (x : Nat) (st : List Value) (M : Mm) (Q : Option Value → Mm → Prop), wp F_Mr_join 68 [.ref x, l1, l2, l3] st M Q = wp F_Mr_join 69 [.ref x, l1, l2, l3] (.ref x :: st) M Q) ∧
  (∀ (l0 l1 l2 l3 : Value) (a : Nat) (st : List Value) (M : Mm) (Q : Option Value → Mm → Prop), wp F_Mr_join 69 [l0, l1, l2, l3] (.ref a :: st) M Q = (sh M a = some (.inl 11) ∧ wp F_Mr_join 72 [l0, l1, l2, l3] (va_rf (gR M a 5) :: st) M Q)) ∧
  (∀ (l0 l1 l2 : Value) (x : Int32) (st : List Value) (M : Mm) (Q : Option Value → Mm → Prop), wp F_Mr_join 72 [l0, l1, l2, .int x] st M Q = wp F_Mr_join 73 [l0, l1, l2, .int x] (.int x :: st) M Q) ∧
  (∀ (l0 l1 l2 l3 : Value) (a : Nat) (j : Int32) (st : List Value) (M : Mm) (Q : Option Value → Mm → Prop), wp F_Mr_join 73 [l0, l1, l2, l3] (.int j :: .ref a :: st) M Q = (ixR M a j ∧ wp F_Mr_join 74 [l0, l1, l2, l3] (va_rf (gR M a (cl j)) :: st) M Q)) ∧
  (∀ (l0 l1 l2 l3 : Value) (st : List Value) (M : Mm) (Q : Option Value → Mm → Prop), wp F_Mr_join 74 [l0, l1, l2, l3] st M Q = wp F_Mr_join 75 [l0, l1, l2, l3] (.int 0 :: st) M Q) ∧
  (∀ (l1 l2 l3 : Value) (x : Nat) (st : List Value) (M : Mm) (Q : Option Value → Mm → Prop), wp F_Mr_join 75 [.ref x, l1, l2, l3] st M Q = wp F_Mr_join 76 [.ref x, l1, l2, l3] (.ref x :: st) M Q) ∧
  (∀ (l0 l1 l2 l3 : Value) (a : Nat) (st : List Value) (M : Mm) (Q : Option Value → Mm → Prop), wp F_Mr_join 76 [l0, l1, l2, l3] (.ref a :: st) M Q = (sh M a = some (.inl 11) ∧ wp F_Mr_join 79 [l0, l1, l2, l3] (va_rf (gR M a 5) :: st) M Q)) ∧
  (∀ (l0 l1 l2 : Value) (x : Int32) (st : List Value) (M : Mm) (Q : Option Value → Mm → Prop), wp F_Mr_join 79 [l0, l1, l2, .int x] st M Q = wp F_Mr_join 80 [l0, l1, l2, .int x] (.int x :: st) M Q) ∧
  (∀ (l0 l1 l2 l3 : Value) (a : Nat) (j : Int32) (st : List Value) (M : Mm) (Q : Option Value → Mm → Prop), wp F_Mr_join 80 [l0, l1, l2, l3] (.int j :: .ref a :: st) M Q = (ixR M a j ∧ wp F_Mr_join 81 [l0, l1, l2, l3] (va_rf (gR M a (cl j)) :: st) M Q)) ∧
  (∀ (l0 l1 l2 l3 : Value) (a : Nat) (st : List Value) (M : Mm) (Q : Option Value → Mm → Prop), wp F_Mr_join 81 [l0, l1, l2, l3] (.ref a :: st) M Q = (sh M a = some (.inl 10) ∧ wp F_Mr_join 84 [l0, l1, l2, l3] (.int (gI M a 1) :: st) M Q)) ∧
  (∀ (l0 l1 l2 l3 : Value) (b : Nat) (p0 : Nat) (p1 : Int32) (p2 : Int32) (M : Mm) (Q : Option Value → Mm → Prop), wp F_Mr_join 84 [l0, l1, l2, l3] [.int p2, .int p1, .ref p0, .ref b] M Q = (sh M b = some (.inl 10) ∧ wp F_Word_append 0 [.ref b, .ref p0, .int p1, .int p2, jk] [] M (fun r M1 => wp F_Mr_join 87 [l0, l1, l2, l3] (r.toList ++ []) M1 Q))) ∧
  (∀ (l1 l2 l3 : Value) (x : Nat) (st : List Value) (M : Mm) (Q : Option Value → Mm → Prop), wp F_Mr_join 87 [.ref x, l1, l2, l3] st M Q = wp F_Mr_join 88 [.ref x, l1, l2, l3] (.ref x :: st) M Q) ∧
  (∀ (l0 l1 l2 l3 : Value) (a : Nat) (st : List Value) (M : Mm) (Q : Option Value → Mm → Prop), wp F_Mr_join 88 [l0, l1, l2, l3] (.ref a :: st) M Q = (sh M a = some (.inl 11) ∧ wp F_Mr_join 91 [l0, l1, l2, l3] (va_rf (gR M a 5) :: st) M Q)) ∧
  (∀ (l0 l2 l3 : Value) (x : Int32) (st : List Value) (M : Mm) (Q : Option Value → Mm → Prop), wp F_Mr_join 91 [l0, .int x, l2, l3] st M Q = wp F_Mr_join 92 [l0, .int x, l2, l3] (.int x :: st) M Q) ∧
  (∀ (l0 l1 l2 l3 : Value) (a : Nat) (j : Int32) (st : List Value) (M : Mm) (Q : Option Value → Mm → Prop), wp F_Mr_join 92 [l0, l1, l2, l3] (.int j :: .ref a :: st) M Q = (ixR M a j ∧ wp F_Mr_join 93 [l0, l1, l2, l3] (va_rf (gR M a (cl j)) :: st) M Q)) ∧
  (∀ (l1 l2 l3 : Value) (x : Nat) (st : List Value) (M : Mm) (Q : Option Value → Mm → Prop), wp F_Mr_join 93 [.ref x, l1, l2, l3] st M Q = wp F_Mr_join 94 [.ref x, l1, l2, l3] (.ref x :: st) M Q) ∧
  (∀ (l0 l1 l2 l3 : Value) (a : Nat) (st : List Value) (M : Mm) (Q : Option Value → Mm → Prop), wp F_Mr_join 94 [l0, l1, l2, l3] (.ref a :: st) M Q = (sh M a = some (.inl 11) ∧ wp F_Mr_join 97 [l0, l1, l2, l3] (va_rf (gR M a 18) :: st) M Q)) ∧
  (∀ (l0 l1 l2 l3 : Value) (b : Nat) (p0 : Nat) (M : Mm) (Q : Option Value → Mm → Prop), wp F_Mr_join 97 [l0, l1, l2, l3] [.ref p0, .ref b] M Q = (sh M b = some (.inl 10) ∧ wp F_Word_become 0 [.ref b, .ref p0, jk, jk] [] M (fun r M1 => wp F_Mr_join 100 [l0, l1, l2, l3] (r.toList ++ []) M1 Q))) ∧
  (∀ (l1 l2 l3 : Value) (x : Nat) (st : List Value) (M : Mm) (Q : Option Value → Mm → Prop), wp F_Mr_join 100 [.ref x, l1, l2, l3] st M Q = wp F_Mr_join 101 [.ref x, l1, l2, l3] (.ref x :: st) M Q) ∧
  (∀ (l0 l1 l2 l3 : Value) (a : Nat) (st : List Value) (M : Mm) (Q : Option Value → Mm → Prop), wp F_Mr_join 101 [l0, l1, l2, l3] (.ref a :: st) M Q = (sh M a = some (.inl 11) ∧ wp F_Mr_join 104 [l0, l1, l2, l3] (va_rf (gR M a 18) :: st) M Q)) ∧
  (∀ (l0 l1 l2 l3 : Value) (a : Nat) (st : List Value) (M : Mm) (Q : Option Value → Mm → Prop), wp F_Mr_join 104 [l0, l1, l2, l3] (.ref a :: st) M Q = (sh M a = some (.inl 10) ∧ wp F_Mr_join 107 [l0, l1, l2, l3] (.int (gI M a 1) :: st) M Q)) ∧
  (∀ (l0 l1 l2 l3 : Value) (v : Int32) (M : Mm) (Q : Option Value → Mm → Prop), wp F_Mr_join 107 [l0, l1, l2, l3] [.int v] M Q = Q (some (.int v)) M) := ⟨fun _ _ _ _ _ _ _ => wp_in d_Mr_join_51 rfl rfl, fun _ _ _ _ _ _ _ _ => wp_getA d_Mr_join_52 fl_11_101 rfl, fun _ _ _ _ _ _ _ => wp_in d_Mr_join_55 rfl rfl, fun _ _ _ _ _ _ _ _ => wp_getA d_Mr_join_56 fl_11_26 rfl, fun _ _ _ _ _ _ _ => wp_in d_Mr_join_59 rfl rfl, fun _ _ _ _ _ _ _ _ _ => wp_aald d_Mr_join_60, fun _ _ _ _ _ _ _ _ => wp_callV d_Mr_join_61 ml_11_136 rfl rfl rfl, fun _ _ _ _ _ _ _ => wp_in d_Mr_join_64 rfl rfl, fun _ _ _ _ _ _ _ _ => wp_getA d_Mr_join_65 fl_11_101 rfl, fun _ _ _ _ _ _ _ => wp_in d_Mr_join_68 rfl rfl, fun _ _ _ _ _ _ _ _ => wp_getA d_Mr_join_69 fl_11_26 rfl, fun _ _ _ _ _ _ _ => wp_in d_Mr_join_72 rfl rfl, fun _ _ _ _ _ _ _ _ _ => wp_aald d_Mr_join_73, fun _ _ _ _ _ _ _ => wp_iconst d_Mr_join_74 (by decide), fun _ _ _ _ _ _ _ => wp_in d_Mr_join_75 rfl rfl, fun _ _ _ _ _ _ _ _ => wp_getA d_Mr_join_76 fl_11_26 rfl, fun _ _ _ _ _ _ _ => wp_in d_Mr_join_79 rfl rfl, fun _ _ _ _ _ _ _ _ _ => wp_aald d_Mr_join_80, fun _ _ _ _ _ _ _ _ => wp_getI d_Mr_join_81 fl_11_140 rfl, fun _ _ _ _ _ _ _ _ _ _ => wp_callV d_Mr_join_84 ml_11_266 rfl rfl rfl, fun _ _ _ _ _ _ _ => wp_in d_Mr_join_87 rfl rfl, fun _ _ _ _ _ _ _ _ => wp_getA d_Mr_join_88 fl_11_26 rfl, fun _ _ _ _ _ _ _ => wp_in d_Mr_join_91 rfl rfl, fun _ _ _ _ _ _ _ _ _ => wp_aald d_Mr_join_92, fun _ _ _ _ _ _ _ => wp_in d_Mr_join_93 rfl rfl, fun _ _ _ _ _ _ _ _ => wp_getA d_Mr_join_94 fl_11_101 rfl, fun _ _ _ _ _ _ _ _ => wp_callV d_Mr_join_97 ml_11_136 rfl rfl rfl, fun _ _ _ _ _ _ _ => wp_in d_Mr_join_100 rfl rfl, fun _ _ _ _ _ _ _ _ => wp_getA d_Mr_join_101 fl_11_101 rfl, fun _ _ _ _ _ _ _ _ => wp_getI d_Mr_join_104 fl_11_140 rfl, fun _ _ _ _ _ _ _ => wp_retI d_Mr_join_107 rfl⟩
theorem d_Mr_reduce_0 : decode (fnB F_Mr_reduce) 0 = .ok (.iload_n 1, 1) := by decide +kernel
theorem d_Mr_reduce_1 : decode (fnB F_Mr_reduce) 1 = .ok (.invokestatic 125, 3) := by decide +kernel
theorem d_Mr_reduce_4 : decode (fnB F_Mr_reduce) 4 = .ok (.ifCond .ne 6, 3) := by decide +kernel
theorem d_Mr_reduce_7 : decode (fnB F_Mr_reduce) 7 = .ok (.bipush (-2), 2) := by decide +kernel
theorem d_Mr_reduce_9 : decode (fnB F_Mr_reduce) 9 = .ok (.ireturn, 1) := by decide +kernel
theorem d_Mr_reduce_10 : decode (fnB F_Mr_reduce) 10 = .ok (.aload_n 0, 1) := by decide +kernel
theorem d_Mr_reduce_11 : decode (fnB F_Mr_reduce) 11 = .ok (.getfield 56, 3) := by decide +kernel
theorem d_Mr_reduce_14 : decode (fnB F_Mr_reduce) 14 = .ok (.aload_n 0, 1) := by decide +kernel
theorem d_Mr_reduce_15 : decode (fnB F_Mr_reduce) 15 = .ok (.getfield 26, 3) := by decide +kernel
theorem d_Mr_reduce_18 : decode (fnB F_Mr_reduce) 18 = .ok (.iload_n 1, 1) := by decide +kernel
theorem d_Mr_reduce_19 : decode (fnB F_Mr_reduce) 19 = .ok (.aaload, 1) := by decide +kernel
theorem d_Mr_reduce_20 : decode (fnB F_Mr_reduce) 20 = .ok (.aload_n 0, 1) := by decide +kernel
theorem d_Mr_reduce_21 : decode (fnB F_Mr_reduce) 21 = .ok (.getfield 26, 3) := by decide +kernel
theorem d_Mr_reduce_24 : decode (fnB F_Mr_reduce) 24 = .ok (.iload_n 1, 1) := by decide +kernel
theorem d_Mr_reduce_25 : decode (fnB F_Mr_reduce) 25 = .ok (.aaload, 1) := by decide +kernel
theorem d_Mr_reduce_26 : decode (fnB F_Mr_reduce) 26 = .ok (.invokevirtual 270, 3) := by decide +kernel
theorem d_Mr_reduce_29 : decode (fnB F_Mr_reduce) 29 = .ok (.ifCond .ne 6, 3) := by decide +kernel
theorem d_Mr_reduce_32 : decode (fnB F_Mr_reduce) 32 = .ok (.bipush (-4), 2) := by decide +kernel
theorem d_Mr_reduce_34 : decode (fnB F_Mr_reduce) 34 = .ok (.ireturn, 1) := by decide +kernel
theorem d_Mr_reduce_35 : decode (fnB F_Mr_reduce) 35 = .ok (.aload_n 0, 1) := by decide +kernel
theorem d_Mr_reduce_36 : decode (fnB F_Mr_reduce) 36 = .ok (.aload_n 0, 1) := by decide +kernel
theorem d_Mr_reduce_37 : decode (fnB F_Mr_reduce) 37 = .ok (.getfield 56, 3) := by decide +kernel
theorem d_Mr_reduce_40 : decode (fnB F_Mr_reduce) 40 = .ok (.getfield 274, 3) := by decide +kernel
theorem d_Mr_reduce_43 : decode (fnB F_Mr_reduce) 43 = .ok (.sipush 300, 3) := by decide +kernel
theorem d_Mr_reduce_46 : decode (fnB F_Mr_reduce) 46 = .ok (.invokestatic 275, 3) := by decide +kernel
theorem d_Mr_reduce_49 : decode (fnB F_Mr_reduce) 49 = .ok (.putfield 187, 3) := by decide +kernel
theorem d_Mr_reduce_52 : decode (fnB F_Mr_reduce) 52 = .ok (.aload_n 0, 1) := by decide +kernel
theorem d_Mr_reduce_53 : decode (fnB F_Mr_reduce) 53 = .ok (.getfield 56, 3) := by decide +kernel
theorem d_Mr_reduce_56 : decode (fnB F_Mr_reduce) 56 = .ok (.getfield 281, 3) := by decide +kernel
theorem d_Mr_reduce_59 : decode (fnB F_Mr_reduce) 59 = .ok (.iconst 0, 1) := by decide +kernel
theorem d_Mr_reduce_60 : decode (fnB F_Mr_reduce) 60 = .ok (.aload_n 0, 1) := by decide +kernel
theorem d_Mr_reduce_61 : decode (fnB F_Mr_reduce) 61 = .ok (.getfield 85, 3) := by decide +kernel
theorem d_Mr_reduce_64 : decode (fnB F_Mr_reduce) 64 = .ok (.iconst 0, 1) := by decide +kernel
theorem d_Mr_reduce_65 : decode (fnB F_Mr_reduce) 65 = .ok (.aload_n 0, 1) := by decide +kernel
theorem d_Mr_reduce_66 : decode (fnB F_Mr_reduce) 66 = .ok (.getfield 187, 3) := by decide +kernel
theorem d_Mr_reduce_69 : decode (fnB F_Mr_reduce) 69 = .ok (.invokestatic 155, 3) := by decide +kernel
theorem d_Mr_reduce_72 : decode (fnB F_Mr_reduce) 72 = .ok (.aload_n 0, 1) := by decide +kernel
theorem d_Mr_reduce_73 : decode (fnB F_Mr_reduce) 73 = .ok (.getfield 56, 3) := by decide +kernel
theorem d_Mr_reduce_76 : decode (fnB F_Mr_reduce) 76 = .ok (.getfield 284, 3) := by decide +kernel
theorem d_Mr_reduce_79 : decode (fnB F_Mr_reduce) 79 = .ok (.iconst 0, 1) := by decide +kernel
theorem d_Mr_reduce_80 : decode (fnB F_Mr_reduce) 80 = .ok (.aload_n 0, 1) := by decide +kernel
theorem d_Mr_reduce_81 : decode (fnB F_Mr_reduce) 81 = .ok (.getfield 88, 3) := by decide +kernel
theorem d_Mr_reduce_84 : decode (fnB F_Mr_reduce) 84 = .ok (.iconst 0, 1) := by decide +kernel
theorem d_Mr_reduce_85 : decode (fnB F_Mr_reduce) 85 = .ok (.aload_n 0, 1) := by decide +kernel
theorem d_Mr_reduce_86 : decode (fnB F_Mr_reduce) 86 = .ok (.getfield 187, 3) := by decide +kernel
theorem d_Mr_reduce_89 : decode (fnB F_Mr_reduce) 89 = .ok (.invokestatic 155, 3) := by decide +kernel
theorem d_Mr_reduce_92 : decode (fnB F_Mr_reduce) 92 = .ok (.aload_n 0, 1) := by decide +kernel
theorem d_Mr_reduce_93 : decode (fnB F_Mr_reduce) 93 = .ok (.getfield 56, 3) := by decide +kernel
theorem d_Mr_reduce_96 : decode (fnB F_Mr_reduce) 96 = .ok (.getfield 274, 3) := by decide +kernel
theorem d_Mr_reduce_99 : decode (fnB F_Mr_reduce) 99 = .ok (.ireturn, 1) := by decide +kernel
theorem B_Mr_reduce_0 : (∀ (l0 : Value) (x : Int32) (st : List Value) (M : Mm) (Q : Option Value → Mm → Prop), wp F_Mr_reduce 0 [l0, .int x] st M Q = wp F_Mr_reduce 1 [l0, .int x] (.int x :: st) M Q) ∧
  (∀ (l0 l1 : Value) (p0 : Int32) (M : Mm) (Q : Option Value → Mm → Prop), wp F_Mr_reduce 1 [l0, l1] [.int p0] M Q = wp F_Mr_isSlot 0 [.int p0] [] M (fun r M1 => wp F_Mr_reduce 4 [l0, l1] (r.toList ++ []) M1 Q)) ∧
  (∀ (l0 l1 : Value) (x : Int32) (st : List Value) (M : Mm) (Q : Option Value → Mm → Prop), wp F_Mr_reduce 4 [l0, l1] (.int x :: st) M Q = if x = 0 then wp F_Mr_reduce 7 [l0, l1] st M Q else wp F_Mr_reduce 10 [l0, l1] st M Q) ∧
  (∀ (l0 l1 : Value) (st : List Value) (M : Mm) (Q : Option Value → Mm → Prop), wp F_Mr_reduce 7 [l0, l1] st M Q = wp F_Mr_reduce 9 [l0, l1] (.int (-2) :: st) M Q) ∧
  (∀ (l0 l1 : Value) (v : Int32) (M : Mm) (Q : Option Value → Mm → Prop), wp F_Mr_reduce 9 [l0, l1] [.int v] M Q = Q (some (.int v)) M) := ⟨fun _ _ _ _ _ => wp_in d_Mr_reduce_0 rfl rfl, fun _ _ _ _ _ => wp_callS d_Mr_reduce_1 ml_11_125 (Nat.le_of_ble_eq_true rfl) rfl rfl rfl, fun _ _ _ _ _ _ => wp_if_ne d_Mr_reduce_4 rfl, fun _ _ _ _ _ => wp_bipush d_Mr_reduce_7 (by decide), fun _ _ _ _ _ => wp_retI d_Mr_reduce_9 rfl⟩
theorem B_Mr_reduce_10 : (∀ (l1 : Value) (x : Nat) (st : List Value) (M : Mm) (Q : Option Value → Mm → Prop), wp F_Mr_reduce 10 [.ref x, l1] st M Q = wp F_Mr_reduce 11 [.ref x, l1] (.ref x :: st) M Q) ∧
  (∀ (l0 l1 : Value) (a : Nat) (st : List Value) (M : Mm) (Q : Option Value → Mm → Prop), wp F_Mr_reduce 11 [l0, l1] (.ref a :: st) M Q = (sh M a = some (.inl 11) ∧ wp F_Mr_reduce 14 [l0, l1] (va_rf (gR M a 9) :: st) M Q)) ∧
  (∀ (l1 : Value) (x : Nat) (st : List Value) (M : Mm) (Q : Option Value → Mm → Prop), wp F_Mr_reduce 14 [.ref x, l1] st M Q = wp F_Mr_reduce 15 [.ref x, l1] (.ref x :: st) M Q) ∧
  (∀ (l0 l1 : Value) (a : Nat) (st : List Value) (M : Mm) (Q : Option Value → Mm → Prop), wp F_Mr_reduce 15 [l0, l1] (.ref a :: st) M Q = (sh M a = some (.inl 11) ∧ wp F_Mr_reduce 18 [l0, l1] (va_rf (gR M a 5) :: st) M Q)) ∧
  (∀ (l0 : Value) (x : Int32) (st : List Value) (M : Mm) (Q : Option Value → Mm → Prop), wp F_Mr_reduce 18 [l0, .int x] st M Q = wp F_Mr_reduce 19 [l0, .int x] (.int x :: st) M Q) ∧
  (∀ (l0 l1 : Value) (a : Nat) (j : Int32) (st : List Value) (M : Mm) (Q : Option Value → Mm → Prop), wp F_Mr_reduce 19 [l0, l1] (.int j :: .ref a :: st) M Q = (ixR M a j ∧ wp F_Mr_reduce 20 [l0, l1] (va_rf (gR M a (cl j)) :: st) M Q)) ∧
  (∀ (l1 : Value) (x : Nat) (st : List Value) (M : Mm) (Q : Option Value → Mm → Prop), wp F_Mr_reduce 20 [.ref x, l1] st M Q = wp F_Mr_reduce 21 [.ref x, l1] (.ref x :: st) M Q) ∧
  (∀ (l0 l1 : Value) (a : Nat) (st : List Value) (M : Mm) (Q : Option Value → Mm → Prop), wp F_Mr_reduce 21 [l0, l1] (.ref a :: st) M Q = (sh M a = some (.inl 11) ∧ wp F_Mr_reduce 24 [l0, l1] (va_rf (gR M a 5) :: st) M Q)) ∧
  (∀ (l0 : Value) (x : Int32) (st : List Value) (M : Mm) (Q : Option Value → Mm → Prop), wp F_Mr_reduce 24 [l0, .int x] st M Q = wp F_Mr_reduce 25 [l0, .int x] (.int x :: st) M Q) ∧
  (∀ (l0 l1 : Value) (a : Nat) (j : Int32) (st : List Value) (M : Mm) (Q : Option Value → Mm → Prop), wp F_Mr_reduce 25 [l0, l1] (.int j :: .ref a :: st) M Q = (ixR M a j ∧ wp F_Mr_reduce 26 [l0, l1] (va_rf (gR M a (cl j)) :: st) M Q)) ∧
  (∀ (l0 l1 : Value) (b : Nat) (p0 : Nat) (p1 : Nat) (M : Mm) (Q : Option Value → Mm → Prop), wp F_Mr_reduce 26 [l0, l1] [.ref p1, .ref p0, .ref b] M Q = (sh M b = some (.inl 6) ∧ wp F_Reducer_toForm 0 [.ref b, .ref p0, .ref p1, jk, jk, jk, jk, jk, jk] [] M (fun r M1 => wp F_Mr_reduce 29 [l0, l1] (r.toList ++ []) M1 Q))) ∧
  (∀ (l0 l1 : Value) (x : Int32) (st : List Value) (M : Mm) (Q : Option Value → Mm → Prop), wp F_Mr_reduce 29 [l0, l1] (.int x :: st) M Q = if x = 0 then wp F_Mr_reduce 32 [l0, l1] st M Q else wp F_Mr_reduce 35 [l0, l1] st M Q) ∧
  (∀ (l0 l1 : Value) (st : List Value) (M : Mm) (Q : Option Value → Mm → Prop), wp F_Mr_reduce 32 [l0, l1] st M Q = wp F_Mr_reduce 34 [l0, l1] (.int (-4) :: st) M Q) ∧
  (∀ (l0 l1 : Value) (v : Int32) (M : Mm) (Q : Option Value → Mm → Prop), wp F_Mr_reduce 34 [l0, l1] [.int v] M Q = Q (some (.int v)) M) := ⟨fun _ _ _ _ _ => wp_in d_Mr_reduce_10 rfl rfl, fun _ _ _ _ _ _ => wp_getA d_Mr_reduce_11 fl_11_56 rfl, fun _ _ _ _ _ => wp_in d_Mr_reduce_14 rfl rfl, fun _ _ _ _ _ _ => wp_getA d_Mr_reduce_15 fl_11_26 rfl, fun _ _ _ _ _ => wp_in d_Mr_reduce_18 rfl rfl, fun _ _ _ _ _ _ _ => wp_aald d_Mr_reduce_19, fun _ _ _ _ _ => wp_in d_Mr_reduce_20 rfl rfl, fun _ _ _ _ _ _ => wp_getA d_Mr_reduce_21 fl_11_26 rfl, fun _ _ _ _ _ => wp_in d_Mr_reduce_24 rfl rfl, fun _ _ _ _ _ _ _ => wp_aald d_Mr_reduce_25, fun _ _ _ _ _ _ _ => wp_callV d_Mr_reduce_26 ml_11_270 rfl rfl rfl, fun _ _ _ _ _ _ => wp_if_ne d_Mr_reduce_29 rfl, fun _ _ _ _ _ => wp_bipush d_Mr_reduce_32 (by decide), fun _ _ _ _ _ => wp_retI d_Mr_reduce_34 rfl⟩
theorem B_Mr_reduce_35 : (∀ (l1 : Value) (x : Nat) (st : List Value) (M : Mm) (Q : Option Value → Mm → Prop), wp F_Mr_reduce 35 [.ref x, l1] st M Q = wp F_Mr_reduce 36 [.ref x, l1] (.ref x :: st) M Q) ∧
  (∀ (l1 : Value) (x : Nat) (st : List Value) (M : Mm) (Q : Option Value → Mm → Prop), wp F_Mr_reduce 36 [.ref x, l1] st M Q = wp F_Mr_reduce 37 [.ref x, l1] (.ref x :: st) M Q) ∧
  (∀ (l0 l1 : Value) (a : Nat) (st : List Value) (M : Mm) (Q : Option Value → Mm → Prop), wp F_Mr_reduce 37 [l0, l1] (.ref a :: st) M Q = (sh M a = some (.inl 11) ∧ wp F_Mr_reduce 40 [l0, l1] (va_rf (gR M a 9) :: st) M Q)) ∧
  (∀ (l0 l1 : Value) (a : Nat) (st : List Value) (M : Mm) (Q : Option Value → Mm → Prop), wp F_Mr_reduce 40 [l0, l1] (.ref a :: st) M Q = (sh M a = some (.inl 6) ∧ wp F_Mr_reduce 43 [l0, l1] (.int (gI M a 7) :: st) M Q)) ∧
  (∀ (l0 l1 : Value) (st : List Value) (M : Mm) (Q : Option Value → Mm → Prop), wp F_Mr_reduce 43 [l0, l1] st M Q = wp F_Mr_reduce 46 [l0, l1] (.int 300 :: st) M Q) ∧
  (∀ (l0 l1 : Value) (x y : Int32) (r0 : Value) (M : Mm) (Q : Option Value → Mm → Prop), wp F_Mr_reduce 46 [l0, l1] [.int y, .int x, r0] M Q = wp F_Mr_reduce 49 [l0, l1] [.int (if y < x then y else x), r0] M Q) ∧
  (∀ (l0 l1 : Value) (a : Nat) (x : Int32) (st : List Value) (M : Mm) (Q : Option Value → Mm → Prop), wp F_Mr_reduce 49 [l0, l1] (.int x :: .ref a :: st) M Q = (sh M a = some (.inl 11) ∧ wp F_Mr_reduce 52 [l0, l1] st (sI M a 15 x) Q)) ∧
  (∀ (l1 : Value) (x : Nat) (st : List Value) (M : Mm) (Q : Option Value → Mm → Prop), wp F_Mr_reduce 52 [.ref x, l1] st M Q = wp F_Mr_reduce 53 [.ref x, l1] (.ref x :: st) M Q) ∧
  (∀ (l0 l1 : Value) (a : Nat) (st : List Value) (M : Mm) (Q : Option Value → Mm → Prop), wp F_Mr_reduce 53 [l0, l1] (.ref a :: st) M Q = (sh M a = some (.inl 11) ∧ wp F_Mr_reduce 56 [l0, l1] (va_rf (gR M a 9) :: st) M Q)) ∧
  (∀ (l0 l1 : Value) (a : Nat) (st : List Value) (M : Mm) (Q : Option Value → Mm → Prop), wp F_Mr_reduce 56 [l0, l1] (.ref a :: st) M Q = (sh M a = some (.inl 6) ∧ wp F_Mr_reduce 59 [l0, l1] (va_rf (gR M a 5) :: st) M Q)) ∧
  (∀ (l0 l1 : Value) (st : List Value) (M : Mm) (Q : Option Value → Mm → Prop), wp F_Mr_reduce 59 [l0, l1] st M Q = wp F_Mr_reduce 60 [l0, l1] (.int 0 :: st) M Q) ∧
  (∀ (l1 : Value) (x : Nat) (st : List Value) (M : Mm) (Q : Option Value → Mm → Prop), wp F_Mr_reduce 60 [.ref x, l1] st M Q = wp F_Mr_reduce 61 [.ref x, l1] (.ref x :: st) M Q) ∧
  (∀ (l0 l1 : Value) (a : Nat) (st : List Value) (M : Mm) (Q : Option Value → Mm → Prop), wp F_Mr_reduce 61 [l0, l1] (.ref a :: st) M Q = (sh M a = some (.inl 11) ∧ wp F_Mr_reduce 64 [l0, l1] (va_rf (gR M a 13) :: st) M Q)) ∧
  (∀ (l0 l1 : Value) (st : List Value) (M : Mm) (Q : Option Value → Mm → Prop), wp F_Mr_reduce 64 [l0, l1] st M Q = wp F_Mr_reduce 65 [l0, l1] (.int 0 :: st) M Q) ∧
  (∀ (l1 : Value) (x : Nat) (st : List Value) (M : Mm) (Q : Option Value → Mm → Prop), wp F_Mr_reduce 65 [.ref x, l1] st M Q = wp F_Mr_reduce 66 [.ref x, l1] (.ref x :: st) M Q) ∧
  (∀ (l0 l1 : Value) (a : Nat) (st : List Value) (M : Mm) (Q : Option Value → Mm → Prop), wp F_Mr_reduce 66 [l0, l1] (.ref a :: st) M Q = (sh M a = some (.inl 11) ∧ wp F_Mr_reduce 69 [l0, l1] (.int (gI M a 15) :: st) M Q)) ∧
  (∀ (l0 l1 : Value) (a b : Nat) (sp dp n : Int32) (M : Mm) (Q : Option Value → Mm → Prop), wp F_Mr_reduce 69 [l0, l1] [.int n, .int dp, .ref b, .int sp, .ref a] M Q = (cpOk M a b sp dp n ∧ wp F_Mr_reduce 72 [l0, l1] [] (cpI M a b (cl sp) (cl dp) (cl n)) Q)) ∧
  (∀ (l1 : Value) (x : Nat) (st : List Value) (M : Mm) (Q : Option Value → Mm → Prop), wp F_Mr_reduce 72 [.ref x, l1] st M Q = wp F_Mr_reduce 73 [.ref x, l1] (.ref x :: st) M Q) ∧
  (∀ (l0 l1 : Value) (a : Nat) (st : List Value) (M : Mm) (Q : Option Value → Mm → Prop), wp F_Mr_reduce 73 [l0, l1] (.ref a :: st) M Q = (sh M a = some (.inl 11) ∧ wp F_Mr_reduce 76 [l0, l1] (va_rf (gR M a 9) :: st) M Q)) ∧
  (∀ (l0 l1 : Value) (a : Nat) (st : List Value) (M : Mm) (Q : Option Value → Mm → Prop), wp F_Mr_reduce 76 [l0, l1] (.ref a :: st) M Q = (sh M a = some (.inl 6) ∧ wp F_Mr_reduce 79 [l0, l1] (va_rf (gR M a 6) :: st) M Q)) ∧
  (∀ (l0 l1 : Value) (st : List Value) (M : Mm) (Q : Option Value → Mm → Prop), wp F_Mr_reduce 79 [l0, l1] st M Q = wp F_Mr_reduce 80 [l0, l1] (.int 0 :: st) M Q) ∧
  (∀ (l1 : Value) (x : Nat) (st : List Value) (M : Mm) (Q : Option Value → Mm → Prop), wp F_Mr_reduce 80 [.ref x, l1] st M Q = wp F_Mr_reduce 81 [.ref x, l1] (.ref x :: st) M Q) ∧
  (∀ (l0 l1 : Value) (a : Nat) (st : List Value) (M : Mm) (Q : Option Value → Mm → Prop), wp F_Mr_reduce 81 [l0, l1] (.ref a :: st) M Q = (sh M a = some (.inl 11) ∧ wp F_Mr_reduce 84 [l0, l1] (va_rf (gR M a 14) :: st) M Q)) ∧
  (∀ (l0 l1 : Value) (st : List Value) (M : Mm) (Q : Option Value → Mm → Prop), wp F_Mr_reduce 84 [l0, l1] st M Q = wp F_Mr_reduce 85 [l0, l1] (.int 0 :: st) M Q) ∧
  (∀ (l1 : Value) (x : Nat) (st : List Value) (M : Mm) (Q : Option Value → Mm → Prop), wp F_Mr_reduce 85 [.ref x, l1] st M Q = wp F_Mr_reduce 86 [.ref x, l1] (.ref x :: st) M Q) ∧
  (∀ (l0 l1 : Value) (a : Nat) (st : List Value) (M : Mm) (Q : Option Value → Mm → Prop), wp F_Mr_reduce 86 [l0, l1] (.ref a :: st) M Q = (sh M a = some (.inl 11) ∧ wp F_Mr_reduce 89 [l0, l1] (.int (gI M a 15) :: st) M Q)) ∧
  (∀ (l0 l1 : Value) (a b : Nat) (sp dp n : Int32) (M : Mm) (Q : Option Value → Mm → Prop), wp F_Mr_reduce 89 [l0, l1] [.int n, .int dp, .ref b, .int sp, .ref a] M Q = (cpOk M a b sp dp n ∧ wp F_Mr_reduce 92 [l0, l1] [] (cpI M a b (cl sp) (cl dp) (cl n)) Q)) ∧
  (∀ (l1 : Value) (x : Nat) (st : List Value) (M : Mm) (Q : Option Value → Mm → Prop), wp F_Mr_reduce 92 [.ref x, l1] st M Q = wp F_Mr_reduce 93 [.ref x, l1] (.ref x :: st) M Q) ∧
  (∀ (l0 l1 : Value) (a : Nat) (st : List Value) (M : Mm) (Q : Option Value → Mm → Prop), wp F_Mr_reduce 93 [l0, l1] (.ref a :: st) M Q = (sh M a = some (.inl 11) ∧ wp F_Mr_reduce 96 [l0, l1] (va_rf (gR M a 9) :: st) M Q)) ∧
  (∀ (l0 l1 : Value) (a : Nat) (st : List Value) (M : Mm) (Q : Option Value → Mm → Prop), wp F_Mr_reduce 96 [l0, l1] (.ref a :: st) M Q = (sh M a = some (.inl 6) ∧ wp F_Mr_reduce 99 [l0, l1] (.int (gI M a 7) :: st) M Q)) ∧
  (∀ (l0 l1 : Value) (v : Int32) (M : Mm) (Q : Option Value → Mm → Prop), wp F_Mr_reduce 99 [l0, l1] [.int v] M Q = Q (some (.int v)) M) := ⟨fun _ _ _ _ _ => wp_in d_Mr_reduce_35 rfl rfl, fun _ _ _ _ _ => wp_in d_Mr_reduce_36 rfl rfl, fun _ _ _ _ _ _ => wp_getA d_Mr_reduce_37 fl_11_56 rfl, fun _ _ _ _ _ _ => wp_getI d_Mr_reduce_40 fl_11_274 rfl, fun _ _ _ _ _ => wp_sipush d_Mr_reduce_43 (by decide), fun _ _ _ _ _ _ _ => wp_min d_Mr_reduce_46 ml_11_275 (Nat.le_of_ble_eq_true rfl), fun _ _ _ _ _ _ _ => wp_putI d_Mr_reduce_49 fl_11_187 rfl rfl, fun _ _ _ _ _ => wp_in d_Mr_reduce_52 rfl rfl, fun _ _ _ _ _ _ => wp_getA d_Mr_reduce_53 fl_11_56 rfl, fun _ _ _ _ _ _ => wp_getA d_Mr_reduce_56 fl_11_281 rfl, fun _ _ _ _ _ => wp_iconst d_Mr_reduce_59 (by decide), fun _ _ _ _ _ => wp_in d_Mr_reduce_60 rfl rfl, fun _ _ _ _ _ _ => wp_getA d_Mr_reduce_61 fl_11_85 rfl, fun _ _ _ _ _ => wp_iconst d_Mr_reduce_64 (by decide), fun _ _ _ _ _ => wp_in d_Mr_reduce_65 rfl rfl, fun _ _ _ _ _ _ => wp_getI d_Mr_reduce_66 fl_11_187 rfl, fun _ _ _ _ _ _ _ _ _ => wp_copy d_Mr_reduce_69 ml_11_155 (Nat.le_of_ble_eq_true rfl), fun _ _ _ _ _ => wp_in d_Mr_reduce_72 rfl rfl, fun _ _ _ _ _ _ => wp_getA d_Mr_reduce_73 fl_11_56 rfl, fun _ _ _ _ _ _ => wp_getA d_Mr_reduce_76 fl_11_284 rfl, fun _ _ _ _ _ => wp_iconst d_Mr_reduce_79 (by decide), fun _ _ _ _ _ => wp_in d_Mr_reduce_80 rfl rfl, fun _ _ _ _ _ _ => wp_getA d_Mr_reduce_81 fl_11_88 rfl, fun _ _ _ _ _ => wp_iconst d_Mr_reduce_84 (by decide), fun _ _ _ _ _ => wp_in d_Mr_reduce_85 rfl rfl, fun _ _ _ _ _ _ => wp_getI d_Mr_reduce_86 fl_11_187 rfl, fun _ _ _ _ _ _ _ _ _ => wp_copy d_Mr_reduce_89 ml_11_155 (Nat.le_of_ble_eq_true rfl), fun _ _ _ _ _ => wp_in d_Mr_reduce_92 rfl rfl, fun _ _ _ _ _ _ => wp_getA d_Mr_reduce_93 fl_11_56 rfl, fun _ _ _ _ _ _ => wp_getI d_Mr_reduce_96 fl_11_274 rfl, fun _ _ _ _ _ => wp_retI d_Mr_reduce_99 rfl⟩
theorem d_Mr_step_0 : decode (fnB F_Mr_step) 0 = .ok (.iload_n 2, 1) := by decide +kernel
theorem d_Mr_step_1 : decode (fnB F_Mr_step) 1 = .ok (.ifCond .lt 8, 3) := by decide +kernel
theorem d_Mr_step_4 : decode (fnB F_Mr_step) 4 = .ok (.iload_n 2, 1) := by decide +kernel
theorem d_Mr_step_5 : decode (fnB F_Mr_step) 5 = .ok (.iconst 1, 1) := by decide +kernel
theorem d_Mr_step_6 : decode (fnB F_Mr_step) 6 = .ok (.if_icmp .le 6, 3) := by decide +kernel
theorem d_Mr_step_9 : decode (fnB F_Mr_step) 9 = .ok (.bipush (-2), 2) := by decide +kernel
theorem d_Mr_step_11 : decode (fnB F_Mr_step) 11 = .ok (.ireturn, 1) := by decide +kernel
theorem d_Mr_step_12 : decode (fnB F_Mr_step) 12 = .ok (.iload_n 1, 1) := by decide +kernel
theorem d_Mr_step_13 : decode (fnB F_Mr_step) 13 = .ok (.ifCond .lt 11, 3) := by decide +kernel
theorem d_Mr_step_16 : decode (fnB F_Mr_step) 16 = .ok (.iload_n 1, 1) := by decide +kernel
theorem d_Mr_step_17 : decode (fnB F_Mr_step) 17 = .ok (.aload_n 0, 1) := by decide +kernel
theorem d_Mr_step_18 : decode (fnB F_Mr_step) 18 = .ok (.getfield 187, 3) := by decide +kernel
theorem d_Mr_step_21 : decode (fnB F_Mr_step) 21 = .ok (.if_icmp .lt 5, 3) := by decide +kernel
theorem d_Mr_step_24 : decode (fnB F_Mr_step) 24 = .ok (.iconst (-1), 1) := by decide +kernel
theorem d_Mr_step_25 : decode (fnB F_Mr_step) 25 = .ok (.ireturn, 1) := by decide +kernel
theorem d_Mr_step_26 : decode (fnB F_Mr_step) 26 = .ok (.iload_n 2, 1) := by decide +kernel
theorem d_Mr_step_27 : decode (fnB F_Mr_step) 27 = .ok (.ifCond .ne 12, 3) := by decide +kernel
theorem d_Mr_step_30 : decode (fnB F_Mr_step) 30 = .ok (.aload_n 0, 1) := by decide +kernel
theorem d_Mr_step_31 : decode (fnB F_Mr_step) 31 = .ok (.getfield 85, 3) := by decide +kernel
theorem d_Mr_step_34 : decode (fnB F_Mr_step) 34 = .ok (.iload_n 1, 1) := by decide +kernel
theorem d_Mr_step_35 : decode (fnB F_Mr_step) 35 = .ok (.iaload, 1) := by decide +kernel
theorem d_Mr_step_36 : decode (fnB F_Mr_step) 36 = .ok (.goto 9, 3) := by decide +kernel
theorem d_Mr_step_39 : decode (fnB F_Mr_step) 39 = .ok (.aload_n 0, 1) := by decide +kernel
theorem d_Mr_step_40 : decode (fnB F_Mr_step) 40 = .ok (.getfield 88, 3) := by decide +kernel
theorem d_Mr_step_43 : decode (fnB F_Mr_step) 43 = .ok (.iload_n 1, 1) := by decide +kernel
theorem d_Mr_step_44 : decode (fnB F_Mr_step) 44 = .ok (.iaload, 1) := by decide +kernel
theorem d_Mr_step_45 : decode (fnB F_Mr_step) 45 = .ok (.ireturn, 1) := by decide +kernel
theorem B_Mr_step_0 : (∀ (l0 l1 : Value) (x : Int32) (st : List Value) (M : Mm) (Q : Option Value → Mm → Prop), wp F_Mr_step 0 [l0, l1, .int x] st M Q = wp F_Mr_step 1 [l0, l1, .int x] (.int x :: st) M Q) ∧
  (∀ (l0 l1 l2 : Value) (x : Int32) (st : List Value) (M : Mm) (Q : Option Value → Mm → Prop), wp F_Mr_step 1 [l0, l1, l2] (.int x :: st) M Q = if x < 0 then wp F_Mr_step 9 [l0, l1, l2] st M Q else wp F_Mr_step 4 [l0, l1, l2] st M Q) ∧
  (∀ (l0 l1 : Value) (x : Int32) (st : List Value) (M : Mm) (Q : Option Value → Mm → Prop), wp F_Mr_step 4 [l0, l1, .int x] st M Q = wp F_Mr_step 5 [l0, l1, .int x] (.int x :: st) M Q) ∧
  (∀ (l0 l1 l2 : Value) (st : List Value) (M : Mm) (Q : Option Value → Mm → Prop), wp F_Mr_step 5 [l0, l1, l2] st M Q = wp F_Mr_step 6 [l0, l1, l2] (.int 1 :: st) M Q) ∧
  (∀ (l0 l1 l2 : Value) (x y : Int32) (st : List Value) (M : Mm) (Q : Option Value → Mm → Prop), wp F_Mr_step 6 [l0, l1, l2] (.int y :: .int x :: st) M Q = if x ≤ y then wp F_Mr_step 12 [l0, l1, l2] st M Q else wp F_Mr_step 9 [l0, l1, l2] st M Q) := ⟨fun _ _ _ _ _ _ => wp_in d_Mr_step_0 rfl rfl, fun _ _ _ _ _ _ _ => wp_if_lt d_Mr_step_1 rfl, fun _ _ _ _ _ _ => wp_in d_Mr_step_4 rfl rfl, fun _ _ _ _ _ _ => wp_iconst d_Mr_step_5 (by decide), fun _ _ _ _ _ _ _ _ => wp_icmp_le d_Mr_step_6 rfl⟩
theorem B_Mr_step_9 : (∀ (l0 l1 l2 : Value) (st : List Value) (M : Mm) (Q : Option Value → Mm → Prop), wp F_Mr_step 9 [l0, l1, l2] st M Q = wp F_Mr_step 11 [l0, l1, l2] (.int (-2) :: st) M Q) ∧
  (∀ (l0 l1 l2 : Value) (v : Int32) (M : Mm) (Q : Option Value → Mm → Prop), wp F_Mr_step 11 [l0, l1, l2] [.int v] M Q = Q (some (.int v)) M) := ⟨fun _ _ _ _ _ _ => wp_bipush d_Mr_step_9 (by decide), fun _ _ _ _ _ _ => wp_retI d_Mr_step_11 rfl⟩
theorem B_Mr_step_12 : (∀ (l0 l2 : Value) (x : Int32) (st : List Value) (M : Mm) (Q : Option Value → Mm → Prop), wp F_Mr_step 12 [l0, .int x, l2] st M Q = wp F_Mr_step 13 [l0, .int x, l2] (.int x :: st) M Q) ∧
  (∀ (l0 l1 l2 : Value) (x : Int32) (st : List Value) (M : Mm) (Q : Option Value → Mm → Prop), wp F_Mr_step 13 [l0, l1, l2] (.int x :: st) M Q = if x < 0 then wp F_Mr_step 24 [l0, l1, l2] st M Q else wp F_Mr_step 16 [l0, l1, l2] st M Q) ∧
  (∀ (l0 l2 : Value) (x : Int32) (st : List Value) (M : Mm) (Q : Option Value → Mm → Prop), wp F_Mr_step 16 [l0, .int x, l2] st M Q = wp F_Mr_step 17 [l0, .int x, l2] (.int x :: st) M Q) ∧
  (∀ (l1 l2 : Value) (x : Nat) (st : List Value) (M : Mm) (Q : Option Value → Mm → Prop), wp F_Mr_step 17 [.ref x, l1, l2] st M Q = wp F_Mr_step 18 [.ref x, l1, l2] (.ref x :: st) M Q) ∧
  (∀ (l0 l1 l2 : Value) (a : Nat) (st : List Value) (M : Mm) (Q : Option Value → Mm → Prop), wp F_Mr_step 18 [l0, l1, l2] (.ref a :: st) M Q = (sh M a = some (.inl 11) ∧ wp F_Mr_step 21 [l0, l1, l2] (.int (gI M a 15) :: st) M Q)) ∧
  (∀ (l0 l1 l2 : Value) (x y : Int32) (st : List Value) (M : Mm) (Q : Option Value → Mm → Prop), wp F_Mr_step 21 [l0, l1, l2] (.int y :: .int x :: st) M Q = if x < y then wp F_Mr_step 26 [l0, l1, l2] st M Q else wp F_Mr_step 24 [l0, l1, l2] st M Q) := ⟨fun _ _ _ _ _ _ => wp_in d_Mr_step_12 rfl rfl, fun _ _ _ _ _ _ _ => wp_if_lt d_Mr_step_13 rfl, fun _ _ _ _ _ _ => wp_in d_Mr_step_16 rfl rfl, fun _ _ _ _ _ _ => wp_in d_Mr_step_17 rfl rfl, fun _ _ _ _ _ _ _ => wp_getI d_Mr_step_18 fl_11_187 rfl, fun _ _ _ _ _ _ _ _ => wp_icmp_lt d_Mr_step_21 rfl⟩
theorem B_Mr_step_24 : (∀ (l0 l1 l2 : Value) (st : List Value) (M : Mm) (Q : Option Value → Mm → Prop), wp F_Mr_step 24 [l0, l1, l2] st M Q = wp F_Mr_step 25 [l0, l1, l2] (.int (-1) :: st) M Q) ∧
  (∀ (l0 l1 l2 : Value) (v : Int32) (M : Mm) (Q : Option Value → Mm → Prop), wp F_Mr_step 25 [l0, l1, l2] [.int v] M Q = Q (some (.int v)) M) := ⟨fun _ _ _ _ _ _ => wp_iconst d_Mr_step_24 (by decide), fun _ _ _ _ _ _ => wp_retI d_Mr_step_25 rfl⟩
theorem B_Mr_step_26 : (∀ (l0 l1 : Value) (x : Int32) (st : List Value) (M : Mm) (Q : Option Value → Mm → Prop), wp F_Mr_step 26 [l0, l1, .int x] st M Q = wp F_Mr_step 27 [l0, l1, .int x] (.int x :: st) M Q) ∧
  (∀ (l0 l1 l2 : Value) (x : Int32) (st : List Value) (M : Mm) (Q : Option Value → Mm → Prop), wp F_Mr_step 27 [l0, l1, l2] (.int x :: st) M Q = if x = 0 then wp F_Mr_step 30 [l0, l1, l2] st M Q else wp F_Mr_step 39 [l0, l1, l2] st M Q) ∧
  (∀ (l1 l2 : Value) (x : Nat) (st : List Value) (M : Mm) (Q : Option Value → Mm → Prop), wp F_Mr_step 30 [.ref x, l1, l2] st M Q = wp F_Mr_step 31 [.ref x, l1, l2] (.ref x :: st) M Q) ∧
  (∀ (l0 l1 l2 : Value) (a : Nat) (st : List Value) (M : Mm) (Q : Option Value → Mm → Prop), wp F_Mr_step 31 [l0, l1, l2] (.ref a :: st) M Q = (sh M a = some (.inl 11) ∧ wp F_Mr_step 34 [l0, l1, l2] (va_rf (gR M a 13) :: st) M Q)) ∧
  (∀ (l0 l2 : Value) (x : Int32) (st : List Value) (M : Mm) (Q : Option Value → Mm → Prop), wp F_Mr_step 34 [l0, .int x, l2] st M Q = wp F_Mr_step 35 [l0, .int x, l2] (.int x :: st) M Q) ∧
  (∀ (l0 l1 l2 : Value) (a : Nat) (j : Int32) (st : List Value) (M : Mm) (Q : Option Value → Mm → Prop), wp F_Mr_step 35 [l0, l1, l2] (.int j :: .ref a :: st) M Q = (ixI M a j ∧ wp F_Mr_step 36 [l0, l1, l2] (.int (gI M a (cl j)) :: st) M Q)) ∧
  (∀ (l0 l1 l2 : Value) (st : List Value) (M : Mm) (Q : Option Value → Mm → Prop), wp F_Mr_step 36 [l0, l1, l2] st M Q = wp F_Mr_step 45 [l0, l1, l2] st M Q) := ⟨fun _ _ _ _ _ _ => wp_in d_Mr_step_26 rfl rfl, fun _ _ _ _ _ _ _ => wp_if_ne d_Mr_step_27 rfl, fun _ _ _ _ _ _ => wp_in d_Mr_step_30 rfl rfl, fun _ _ _ _ _ _ _ => wp_getA d_Mr_step_31 fl_11_85 rfl, fun _ _ _ _ _ _ => wp_in d_Mr_step_34 rfl rfl, fun _ _ _ _ _ _ _ _ => wp_iald d_Mr_step_35, fun _ _ _ _ _ _ => wp_goto d_Mr_step_36 rfl⟩
theorem B_Mr_step_39 : (∀ (l1 l2 : Value) (x : Nat) (st : List Value) (M : Mm) (Q : Option Value → Mm → Prop), wp F_Mr_step 39 [.ref x, l1, l2] st M Q = wp F_Mr_step 40 [.ref x, l1, l2] (.ref x :: st) M Q) ∧
  (∀ (l0 l1 l2 : Value) (a : Nat) (st : List Value) (M : Mm) (Q : Option Value → Mm → Prop), wp F_Mr_step 40 [l0, l1, l2] (.ref a :: st) M Q = (sh M a = some (.inl 11) ∧ wp F_Mr_step 43 [l0, l1, l2] (va_rf (gR M a 14) :: st) M Q)) ∧
  (∀ (l0 l2 : Value) (x : Int32) (st : List Value) (M : Mm) (Q : Option Value → Mm → Prop), wp F_Mr_step 43 [l0, .int x, l2] st M Q = wp F_Mr_step 44 [l0, .int x, l2] (.int x :: st) M Q) ∧
  (∀ (l0 l1 l2 : Value) (a : Nat) (j : Int32) (st : List Value) (M : Mm) (Q : Option Value → Mm → Prop), wp F_Mr_step 44 [l0, l1, l2] (.int j :: .ref a :: st) M Q = (ixI M a j ∧ wp F_Mr_step 45 [l0, l1, l2] (.int (gI M a (cl j)) :: st) M Q)) := ⟨fun _ _ _ _ _ _ => wp_in d_Mr_step_39 rfl rfl, fun _ _ _ _ _ _ _ => wp_getA d_Mr_step_40 fl_11_88 rfl, fun _ _ _ _ _ _ => wp_in d_Mr_step_43 rfl rfl, fun _ _ _ _ _ _ _ _ => wp_iald d_Mr_step_44⟩
theorem B_Mr_step_45 : (∀ (l0 l1 l2 : Value) (v : Int32) (M : Mm) (Q : Option Value → Mm → Prop), wp F_Mr_step 45 [l0, l1, l2] [.int v] M Q = Q (some (.int v)) M) := fun _ _ _ _ _ _ => wp_retI d_Mr_step_45 rfl
theorem d_Mr_same_0 : decode (fnB F_Mr_same) 0 = .ok (.iload_n 1, 1) := by decide +kernel
theorem d_Mr_same_1 : decode (fnB F_Mr_same) 1 = .ok (.invokestatic 125, 3) := by decide +kernel
theorem d_Mr_same_4 : decode (fnB F_Mr_same) 4 = .ok (.ifCond .eq 10, 3) := by decide +kernel
theorem d_Mr_same_7 : decode (fnB F_Mr_same) 7 = .ok (.iload_n 2, 1) := by decide +kernel
theorem d_Mr_same_8 : decode (fnB F_Mr_same) 8 = .ok (.invokestatic 125, 3) := by decide +kernel
theorem d_Mr_same_11 : decode (fnB F_Mr_same) 11 = .ok (.ifCond .ne 6, 3) := by decide +kernel
theorem d_Mr_same_14 : decode (fnB F_Mr_same) 14 = .ok (.bipush (-2), 2) := by decide +kernel
theorem d_Mr_same_16 : decode (fnB F_Mr_same) 16 = .ok (.ireturn, 1) := by decide +kernel
theorem d_Mr_same_17 : decode (fnB F_Mr_same) 17 = .ok (.aload_n 0, 1) := by decide +kernel
theorem d_Mr_same_18 : decode (fnB F_Mr_same) 18 = .ok (.getfield 56, 3) := by decide +kernel
theorem d_Mr_same_21 : decode (fnB F_Mr_same) 21 = .ok (.aload_n 0, 1) := by decide +kernel
theorem d_Mr_same_22 : decode (fnB F_Mr_same) 22 = .ok (.getfield 26, 3) := by decide +kernel
theorem d_Mr_same_25 : decode (fnB F_Mr_same) 25 = .ok (.iload_n 1, 1) := by decide +kernel
theorem d_Mr_same_26 : decode (fnB F_Mr_same) 26 = .ok (.aaload, 1) := by decide +kernel
theorem d_Mr_same_27 : decode (fnB F_Mr_same) 27 = .ok (.aload_n 0, 1) := by decide +kernel
theorem d_Mr_same_28 : decode (fnB F_Mr_same) 28 = .ok (.getfield 94, 3) := by decide +kernel
theorem d_Mr_same_31 : decode (fnB F_Mr_same) 31 = .ok (.invokevirtual 270, 3) := by decide +kernel
theorem d_Mr_same_34 : decode (fnB F_Mr_same) 34 = .ok (.ifCond .eq 23, 3) := by decide +kernel
theorem d_Mr_same_37 : decode (fnB F_Mr_same) 37 = .ok (.aload_n 0, 1) := by decide +kernel
theorem d_Mr_same_38 : decode (fnB F_Mr_same) 38 = .ok (.getfield 56, 3) := by decide +kernel
theorem d_Mr_same_41 : decode (fnB F_Mr_same) 41 = .ok (.aload_n 0, 1) := by decide +kernel
theorem d_Mr_same_42 : decode (fnB F_Mr_same) 42 = .ok (.getfield 26, 3) := by decide +kernel
theorem d_Mr_same_45 : decode (fnB F_Mr_same) 45 = .ok (.iload_n 2, 1) := by decide +kernel
theorem d_Mr_same_46 : decode (fnB F_Mr_same) 46 = .ok (.aaload, 1) := by decide +kernel
theorem d_Mr_same_47 : decode (fnB F_Mr_same) 47 = .ok (.aload_n 0, 1) := by decide +kernel
theorem d_Mr_same_48 : decode (fnB F_Mr_same) 48 = .ok (.getfield 98, 3) := by decide +kernel
theorem d_Mr_same_51 : decode (fnB F_Mr_same) 51 = .ok (.invokevirtual 270, 3) := by decide +kernel
theorem d_Mr_same_54 : decode (fnB F_Mr_same) 54 = .ok (.ifCond .ne 6, 3) := by decide +kernel
theorem d_Mr_same_57 : decode (fnB F_Mr_same) 57 = .ok (.bipush (-4), 2) := by decide +kernel
theorem d_Mr_same_59 : decode (fnB F_Mr_same) 59 = .ok (.ireturn, 1) := by decide +kernel
theorem d_Mr_same_60 : decode (fnB F_Mr_same) 60 = .ok (.aload_n 0, 1) := by decide +kernel
theorem d_Mr_same_61 : decode (fnB F_Mr_same) 61 = .ok (.getfield 94, 3) := by decide +kernel
theorem d_Mr_same_64 : decode (fnB F_Mr_same) 64 = .ok (.aload_n 0, 1) := by decide +kernel
theorem d_Mr_same_65 : decode (fnB F_Mr_same) 65 = .ok (.getfield 98, 3) := by decide +kernel
theorem d_Mr_same_68 : decode (fnB F_Mr_same) 68 = .ok (.invokevirtual 287, 3) := by decide +kernel
theorem d_Mr_same_71 : decode (fnB F_Mr_same) 71 = .ok (.ifCond .ne 5, 3) := by decide +kernel
theorem d_Mr_same_74 : decode (fnB F_Mr_same) 74 = .ok (.iconst 1, 1) := by decide +kernel
theorem d_Mr_same_75 : decode (fnB F_Mr_same) 75 = .ok (.ireturn, 1) := by decide +kernel
theorem d_Mr_same_76 : decode (fnB F_Mr_same) 76 = .ok (.aload_n 0, 1) := by decide +kernel
theorem d_Mr_same_77 : decode (fnB F_Mr_same) 77 = .ok (.getfield 65, 3) := by decide +kernel
theorem d_Mr_same_80 : decode (fnB F_Mr_same) 80 = .ok (.invokevirtual 204, 3) := by decide +kernel
theorem d_Mr_same_83 : decode (fnB F_Mr_same) 83 = .ok (.ifCond .eq 7, 3) := by decide +kernel
theorem d_Mr_same_86 : decode (fnB F_Mr_same) 86 = .ok (.iconst 0, 1) := by decide +kernel
theorem d_Mr_same_87 : decode (fnB F_Mr_same) 87 = .ok (.goto 4, 3) := by decide +kernel
theorem d_Mr_same_90 : decode (fnB F_Mr_same) 90 = .ok (.iconst (-1), 1) := by decide +kernel
theorem d_Mr_same_91 : decode (fnB F_Mr_same) 91 = .ok (.ireturn, 1) := by decide +kernel
theorem B_Mr_same_0 : (∀ (l0 l2 : Value) (x : Int32) (st : List Value) (M : Mm) (Q : Option Value → Mm → Prop), wp F_Mr_same 0 [l0, .int x, l2] st M Q = wp F_Mr_same 1 [l0, .int x, l2] (.int x :: st) M Q) ∧
  (∀ (l0 l1 l2 : Value) (p0 : Int32) (M : Mm) (Q : Option Value → Mm → Prop), wp F_Mr_same 1 [l0, l1, l2] [.int p0] M Q = wp F_Mr_isSlot 0 [.int p0] [] M (fun r M1 => wp F_Mr_same 4 [l0, l1, l2] (r.toList ++ []) M1 Q)) ∧
  (∀ (l0 l1 l2 : Value) (x : Int32) (st : List Value) (M : Mm) (Q : Option Value → Mm → Prop), wp F_Mr_same 4 [l0, l1, l2] (.int x :: st) M Q = if x = 0 then wp F_Mr_same 14 [l0, l1, l2] st M Q else wp F_Mr_same 7 [l0, l1, l2] st M Q) ∧
  (∀ (l0 l1 : Value) (x : Int32) (st : List Value) (M : Mm) (Q : Option Value → Mm → Prop), wp F_Mr_same 7 [l0, l1, .int x] st M Q = wp F_Mr_same 8 [l0, l1, .int x] (.int x :: st) M Q) ∧
  (∀ (l0 l1 l2 : Value) (p0 : Int32) (M : Mm) (Q : Option Value → Mm → Prop), wp F_Mr_same 8 [l0, l1, l2] [.int p0] M Q = wp F_Mr_isSlot 0 [.int p0] [] M (fun r M1 => wp F_Mr_same 11 [l0, l1, l2] (r.toList ++ []) M1 Q)) ∧
  (∀ (l0 l1 l2 : Value) (x : Int32) (st : List Value) (M : Mm) (Q : Option Value → Mm → Prop), wp F_Mr_same 11 [l0, l1, l2] (.int x :: st) M Q = if x = 0 then wp F_Mr_same 14 [l0, l1, l2] st M Q else wp F_Mr_same 17 [l0, l1, l2] st M Q) := ⟨fun _ _ _ _ _ _ => wp_in d_Mr_same_0 rfl rfl, fun _ _ _ _ _ _ => wp_callS d_Mr_same_1 ml_11_125 (Nat.le_of_ble_eq_true rfl) rfl rfl rfl, fun _ _ _ _ _ _ _ => wp_if_eq d_Mr_same_4 rfl, fun _ _ _ _ _ _ => wp_in d_Mr_same_7 rfl rfl, fun _ _ _ _ _ _ => wp_callS d_Mr_same_8 ml_11_125 (Nat.le_of_ble_eq_true rfl) rfl rfl rfl, fun _ _ _ _ _ _ _ => wp_if_ne d_Mr_same_11 rfl⟩
theorem B_Mr_same_14 : (∀ (l0 l1 l2 : Value) (st : List Value) (M : Mm) (Q : Option Value → Mm → Prop), wp F_Mr_same 14 [l0, l1, l2] st M Q = wp F_Mr_same 16 [l0, l1, l2] (.int (-2) :: st) M Q) ∧
  (∀ (l0 l1 l2 : Value) (v : Int32) (M : Mm) (Q : Option Value → Mm → Prop), wp F_Mr_same 16 [l0, l1, l2] [.int v] M Q = Q (some (.int v)) M) := ⟨fun _ _ _ _ _ _ => wp_bipush d_Mr_same_14 (by decide), fun _ _ _ _ _ _ => wp_retI d_Mr_same_16 rfl⟩
theorem B_Mr_same_17 : (∀ (l1 l2 : Value) (x : Nat) (st : List Value) (M : Mm) (Q : Option Value → Mm → Prop), wp F_Mr_same 17 [.ref x, l1, l2] st M Q = wp F_Mr_same 18 [.ref x, l1, l2] (.ref x :: st) M Q) ∧
  (∀ (l0 l1 l2 : Value) (a : Nat) (st : List Value) (M : Mm) (Q : Option Value → Mm → Prop), wp F_Mr_same 18 [l0, l1, l2] (.ref a :: st) M Q = (sh M a = some (.inl 11) ∧ wp F_Mr_same 21 [l0, l1, l2] (va_rf (gR M a 9) :: st) M Q)) ∧
  (∀ (l1 l2 : Value) (x : Nat) (st : List Value) (M : Mm) (Q : Option Value → Mm → Prop), wp F_Mr_same 21 [.ref x, l1, l2] st M Q = wp F_Mr_same 22 [.ref x, l1, l2] (.ref x :: st) M Q) ∧
  (∀ (l0 l1 l2 : Value) (a : Nat) (st : List Value) (M : Mm) (Q : Option Value → Mm → Prop), wp F_Mr_same 22 [l0, l1, l2] (.ref a :: st) M Q = (sh M a = some (.inl 11) ∧ wp F_Mr_same 25 [l0, l1, l2] (va_rf (gR M a 5) :: st) M Q)) ∧
  (∀ (l0 l2 : Value) (x : Int32) (st : List Value) (M : Mm) (Q : Option Value → Mm → Prop), wp F_Mr_same 25 [l0, .int x, l2] st M Q = wp F_Mr_same 26 [l0, .int x, l2] (.int x :: st) M Q) ∧
  (∀ (l0 l1 l2 : Value) (a : Nat) (j : Int32) (st : List Value) (M : Mm) (Q : Option Value → Mm → Prop), wp F_Mr_same 26 [l0, l1, l2] (.int j :: .ref a :: st) M Q = (ixR M a j ∧ wp F_Mr_same 27 [l0, l1, l2] (va_rf (gR M a (cl j)) :: st) M Q)) ∧
  (∀ (l1 l2 : Value) (x : Nat) (st : List Value) (M : Mm) (Q : Option Value → Mm → Prop), wp F_Mr_same 27 [.ref x, l1, l2] st M Q = wp F_Mr_same 28 [.ref x, l1, l2] (.ref x :: st) M Q) ∧
  (∀ (l0 l1 l2 : Value) (a : Nat) (st : List Value) (M : Mm) (Q : Option Value → Mm → Prop), wp F_Mr_same 28 [l0, l1, l2] (.ref a :: st) M Q = (sh M a = some (.inl 11) ∧ wp F_Mr_same 31 [l0, l1, l2] (va_rf (gR M a 16) :: st) M Q)) ∧
  (∀ (l0 l1 l2 : Value) (b : Nat) (p0 : Nat) (p1 : Nat) (M : Mm) (Q : Option Value → Mm → Prop), wp F_Mr_same 31 [l0, l1, l2] [.ref p1, .ref p0, .ref b] M Q = (sh M b = some (.inl 6) ∧ wp F_Reducer_toForm 0 [.ref b, .ref p0, .ref p1, jk, jk, jk, jk, jk, jk] [] M (fun r M1 => wp F_Mr_same 34 [l0, l1, l2] (r.toList ++ []) M1 Q))) ∧
  (∀ (l0 l1 l2 : Value) (x : Int32) (st : List Value) (M : Mm) (Q : Option Value → Mm → Prop), wp F_Mr_same 34 [l0, l1, l2] (.int x :: st) M Q = if x = 0 then wp F_Mr_same 57 [l0, l1, l2] st M Q else wp F_Mr_same 37 [l0, l1, l2] st M Q) ∧
  (∀ (l1 l2 : Value) (x : Nat) (st : List Value) (M : Mm) (Q : Option Value → Mm → Prop), wp F_Mr_same 37 [.ref x, l1, l2] st M Q = wp F_Mr_same 38 [.ref x, l1, l2] (.ref x :: st) M Q) ∧
  (∀ (l0 l1 l2 : Value) (a : Nat) (st : List Value) (M : Mm) (Q : Option Value → Mm → Prop), wp F_Mr_same 38 [l0, l1, l2] (.ref a :: st) M Q = (sh M a = some (.inl 11) ∧ wp F_Mr_same 41 [l0, l1, l2] (va_rf (gR M a 9) :: st) M Q)) ∧
  (∀ (l1 l2 : Value) (x : Nat) (st : List Value) (M : Mm) (Q : Option Value → Mm → Prop), wp F_Mr_same 41 [.ref x, l1, l2] st M Q = wp F_Mr_same 42 [.ref x, l1, l2] (.ref x :: st) M Q) ∧
  (∀ (l0 l1 l2 : Value) (a : Nat) (st : List Value) (M : Mm) (Q : Option Value → Mm → Prop), wp F_Mr_same 42 [l0, l1, l2] (.ref a :: st) M Q = (sh M a = some (.inl 11) ∧ wp F_Mr_same 45 [l0, l1, l2] (va_rf (gR M a 5) :: st) M Q)) ∧
  (∀ (l0 l1 : Value) (x : Int32) (st : List Value) (M : Mm) (Q : Option Value → Mm → Prop), wp F_Mr_same 45 [l0, l1, .int x] st M Q = wp F_Mr_same 46 [l0, l1, .int x] (.int x :: st) M Q) ∧
  (∀ (l0 l1 l2 : Value) (a : Nat) (j : Int32) (st : List Value) (M : Mm) (Q : Option Value → Mm → Prop), wp F_Mr_same 46 [l0, l1, l2] (.int j :: .ref a :: st) M Q = (ixR M a j ∧ wp F_Mr_same 47 [l0, l1, l2] (va_rf (gR M a (cl j)) :: st) M Q)) ∧
  (∀ (l1 l2 : Value) (x : Nat) (st : List Value) (M : Mm) (Q : Option Value → Mm → Prop), wp F_Mr_same 47 [.ref x, l1, l2] st M Q = wp F_Mr_same 48 [.ref x, l1, l2] (.ref x :: st) M Q) ∧
  (∀ (l0 l1 l2 : Value) (a : Nat) (st : List Value) (M : Mm) (Q : Option Value → Mm → Prop), wp F_Mr_same 48 [l0, l1, l2] (.ref a :: st) M Q = (sh M a = some (.inl 11) ∧ wp F_Mr_same 51 [l0, l1, l2] (va_rf (gR M a 17) :: st) M Q)) ∧
  (∀ (l0 l1 l2 : Value) (b : Nat) (p0 : Nat) (p1 : Nat) (M : Mm) (Q : Option Value → Mm → Prop), wp F_Mr_same 51 [l0, l1, l2] [.ref p1, .ref p0, .ref b] M Q = (sh M b = some (.inl 6) ∧ wp F_Reducer_toForm 0 [.ref b, .ref p0, .ref p1, jk, jk, jk, jk, jk, jk] [] M (fun r M1 => wp F_Mr_same 54 [l0, l1, l2] (r.toList ++ []) M1 Q))) ∧
  (∀ (l0 l1 l2 : Value) (x : Int32) (st : List Value) (M : Mm) (Q : Option Value → Mm → Prop), wp F_Mr_same 54 [l0, l1, l2] (.int x :: st) M Q = if x = 0 then wp F_Mr_same 57 [l0, l1, l2] st M Q else wp F_Mr_same 60 [l0, l1, l2] st M Q) := ⟨fun _ _ _ _ _ _ => wp_in d_Mr_same_17 rfl rfl, fun _ _ _ _ _ _ _ => wp_getA d_Mr_same_18 fl_11_56 rfl, fun _ _ _ _ _ _ => wp_in d_Mr_same_21 rfl rfl, fun _ _ _ _ _ _ _ => wp_getA d_Mr_same_22 fl_11_26 rfl, fun _ _ _ _ _ _ => wp_in d_Mr_same_25 rfl rfl, fun _ _ _ _ _ _ _ _ => wp_aald d_Mr_same_26, fun _ _ _ _ _ _ => wp_in d_Mr_same_27 rfl rfl, fun _ _ _ _ _ _ _ => wp_getA d_Mr_same_28 fl_11_94 rfl, fun _ _ _ _ _ _ _ _ => wp_callV d_Mr_same_31 ml_11_270 rfl rfl rfl, fun _ _ _ _ _ _ _ => wp_if_eq d_Mr_same_34 rfl, fun _ _ _ _ _ _ => wp_in d_Mr_same_37 rfl rfl, fun _ _ _ _ _ _ _ => wp_getA d_Mr_same_38 fl_11_56 rfl, fun _ _ _ _ _ _ => wp_in d_Mr_same_41 rfl rfl, fun _ _ _ _ _ _ _ => wp_getA d_Mr_same_42 fl_11_26 rfl, fun _ _ _ _ _ _ => wp_in d_Mr_same_45 rfl rfl, fun _ _ _ _ _ _ _ _ => wp_aald d_Mr_same_46, fun _ _ _ _ _ _ => wp_in d_Mr_same_47 rfl rfl, fun _ _ _ _ _ _ _ => wp_getA d_Mr_same_48 fl_11_98 rfl, fun _ _ _ _ _ _ _ _ => wp_callV d_Mr_same_51 ml_11_270 rfl rfl rfl, fun _ _ _ _ _ _ _ => wp_if_ne d_Mr_same_54 rfl⟩
theorem B_Mr_same_57 : (∀ (l0 l1 l2 : Value) (st : List Value) (M : Mm) (Q : Option Value → Mm → Prop), wp F_Mr_same 57 [l0, l1, l2] st M Q = wp F_Mr_same 59 [l0, l1, l2] (.int (-4) :: st) M Q) ∧
  (∀ (l0 l1 l2 : Value) (v : Int32) (M : Mm) (Q : Option Value → Mm → Prop), wp F_Mr_same 59 [l0, l1, l2] [.int v] M Q = Q (some (.int v)) M) := ⟨fun _ _ _ _ _ _ => wp_bipush d_Mr_same_57 (by decide), fun _ _ _ _ _ _ => wp_retI d_Mr_same_59 rfl⟩
theorem B_Mr_same_60 : (∀ (l1 l2 : Value) (x : Nat) (st : List Value) (M : Mm) (Q : Option Value → Mm → Prop), wp F_Mr_same 60 [.ref x, l1, l2] st M Q = wp F_Mr_same 61 [.ref x, l1, l2] (.ref x :: st) M Q) ∧
  (∀ (l0 l1 l2 : Value) (a : Nat) (st : List Value) (M : Mm) (Q : Option Value → Mm → Prop), wp F_Mr_same 61 [l0, l1, l2] (.ref a :: st) M Q = (sh M a = some (.inl 11) ∧ wp F_Mr_same 64 [l0, l1, l2] (va_rf (gR M a 16) :: st) M Q)) ∧
  (∀ (l1 l2 : Value) (x : Nat) (st : List Value) (M : Mm) (Q : Option Value → Mm → Prop), wp F_Mr_same 64 [.ref x, l1, l2] st M Q = wp F_Mr_same 65 [.ref x, l1, l2] (.ref x :: st) M Q) ∧
  (∀ (l0 l1 l2 : Value) (a : Nat) (st : List Value) (M : Mm) (Q : Option Value → Mm → Prop), wp F_Mr_same 65 [l0, l1, l2] (.ref a :: st) M Q = (sh M a = some (.inl 11) ∧ wp F_Mr_same 68 [l0, l1, l2] (va_rf (gR M a 17) :: st) M Q)) ∧
  (∀ (l0 l1 l2 : Value) (b : Nat) (p0 : Nat) (M : Mm) (Q : Option Value → Mm → Prop), wp F_Mr_same 68 [l0, l1, l2] [.ref p0, .ref b] M Q = (sh M b = some (.inl 10) ∧ wp F_Word_against 0 [.ref b, .ref p0, jk] [] M (fun r M1 => wp F_Mr_same 71 [l0, l1, l2] (r.toList ++ []) M1 Q))) ∧
  (∀ (l0 l1 l2 : Value) (x : Int32) (st : List Value) (M : Mm) (Q : Option Value → Mm → Prop), wp F_Mr_same 71 [l0, l1, l2] (.int x :: st) M Q = if x = 0 then wp F_Mr_same 74 [l0, l1, l2] st M Q else wp F_Mr_same 76 [l0, l1, l2] st M Q) ∧
  (∀ (l0 l1 l2 : Value) (st : List Value) (M : Mm) (Q : Option Value → Mm → Prop), wp F_Mr_same 74 [l0, l1, l2] st M Q = wp F_Mr_same 75 [l0, l1, l2] (.int 1 :: st) M Q) ∧
  (∀ (l0 l1 l2 : Value) (v : Int32) (M : Mm) (Q : Option Value → Mm → Prop), wp F_Mr_same 75 [l0, l1, l2] [.int v] M Q = Q (some (.int v)) M) := ⟨fun _ _ _ _ _ _ => wp_in d_Mr_same_60 rfl rfl, fun _ _ _ _ _ _ _ => wp_getA d_Mr_same_61 fl_11_94 rfl, fun _ _ _ _ _ _ => wp_in d_Mr_same_64 rfl rfl, fun _ _ _ _ _ _ _ => wp_getA d_Mr_same_65 fl_11_98 rfl, fun _ _ _ _ _ _ _ => wp_callV d_Mr_same_68 ml_11_287 rfl rfl rfl, fun _ _ _ _ _ _ _ => wp_if_ne d_Mr_same_71 rfl, fun _ _ _ _ _ _ => wp_iconst d_Mr_same_74 (by decide), fun _ _ _ _ _ _ => wp_retI d_Mr_same_75 rfl⟩
theorem B_Mr_same_76 : (∀ (l1 l2 : Value) (x : Nat) (st : List Value) (M : Mm) (Q : Option Value → Mm → Prop), wp F_Mr_same 76 [.ref x, l1, l2] st M Q = wp F_Mr_same 77 [.ref x, l1, l2] (.ref x :: st) M Q) ∧
  (∀ (l0 l1 l2 : Value) (a : Nat) (st : List Value) (M : Mm) (Q : Option Value → Mm → Prop), wp F_Mr_same 77 [l0, l1, l2] (.ref a :: st) M Q = (sh M a = some (.inl 11) ∧ wp F_Mr_same 80 [l0, l1, l2] (va_rf (gR M a 10) :: st) M Q)) ∧
  (∀ (l0 l1 l2 : Value) (b : Nat) (M : Mm) (Q : Option Value → Mm → Prop), wp F_Mr_same 80 [l0, l1, l2] [.ref b] M Q = (sh M b = some (.inl 0) ∧ wp F_Completion_isDone 0 [.ref b] [] M (fun r M1 => wp F_Mr_same 83 [l0, l1, l2] (r.toList ++ []) M1 Q))) ∧
  (∀ (l0 l1 l2 : Value) (x : Int32) (st : List Value) (M : Mm) (Q : Option Value → Mm → Prop), wp F_Mr_same 83 [l0, l1, l2] (.int x :: st) M Q = if x = 0 then wp F_Mr_same 90 [l0, l1, l2] st M Q else wp F_Mr_same 86 [l0, l1, l2] st M Q) ∧
  (∀ (l0 l1 l2 : Value) (st : List Value) (M : Mm) (Q : Option Value → Mm → Prop), wp F_Mr_same 86 [l0, l1, l2] st M Q = wp F_Mr_same 87 [l0, l1, l2] (.int 0 :: st) M Q) ∧
  (∀ (l0 l1 l2 : Value) (st : List Value) (M : Mm) (Q : Option Value → Mm → Prop), wp F_Mr_same 87 [l0, l1, l2] st M Q = wp F_Mr_same 91 [l0, l1, l2] st M Q) := ⟨fun _ _ _ _ _ _ => wp_in d_Mr_same_76 rfl rfl, fun _ _ _ _ _ _ _ => wp_getA d_Mr_same_77 fl_11_65 rfl, fun _ _ _ _ _ _ => wp_callV d_Mr_same_80 ml_11_204 rfl rfl rfl, fun _ _ _ _ _ _ _ => wp_if_eq d_Mr_same_83 rfl, fun _ _ _ _ _ _ => wp_iconst d_Mr_same_86 (by decide), fun _ _ _ _ _ _ => wp_goto d_Mr_same_87 rfl⟩
theorem B_Mr_same_90 : (∀ (l0 l1 l2 : Value) (st : List Value) (M : Mm) (Q : Option Value → Mm → Prop), wp F_Mr_same 90 [l0, l1, l2] st M Q = wp F_Mr_same 91 [l0, l1, l2] (.int (-1) :: st) M Q) := fun _ _ _ _ _ _ => wp_iconst d_Mr_same_90 (by decide)
theorem B_Mr_same_91 : (∀ (l0 l1 l2 : Value) (v : Int32) (M : Mm) (Q : Option Value → Mm → Prop), wp F_Mr_same 91 [l0, l1, l2] [.int v] M Q = Q (some (.int v)) M) := fun _ _ _ _ _ _ => wp_retI d_Mr_same_91 rfl
theorem d_Mr_compare_0 : decode (fnB F_Mr_compare) 0 = .ok (.iload_n 1, 1) := by decide +kernel
theorem d_Mr_compare_1 : decode (fnB F_Mr_compare) 1 = .ok (.invokestatic 125, 3) := by decide +kernel
theorem d_Mr_compare_4 : decode (fnB F_Mr_compare) 4 = .ok (.ifCond .eq 10, 3) := by decide +kernel
theorem d_Mr_compare_7 : decode (fnB F_Mr_compare) 7 = .ok (.iload_n 2, 1) := by decide +kernel
theorem d_Mr_compare_8 : decode (fnB F_Mr_compare) 8 = .ok (.invokestatic 125, 3) := by decide +kernel
theorem d_Mr_compare_11 : decode (fnB F_Mr_compare) 11 = .ok (.ifCond .ne 6, 3) := by decide +kernel
theorem d_Mr_compare_14 : decode (fnB F_Mr_compare) 14 = .ok (.bipush (-2), 2) := by decide +kernel
theorem d_Mr_compare_16 : decode (fnB F_Mr_compare) 16 = .ok (.ireturn, 1) := by decide +kernel
theorem d_Mr_compare_17 : decode (fnB F_Mr_compare) 17 = .ok (.aload_n 0, 1) := by decide +kernel
theorem d_Mr_compare_18 : decode (fnB F_Mr_compare) 18 = .ok (.getfield 26, 3) := by decide +kernel
theorem d_Mr_compare_21 : decode (fnB F_Mr_compare) 21 = .ok (.iload_n 1, 1) := by decide +kernel
theorem d_Mr_compare_22 : decode (fnB F_Mr_compare) 22 = .ok (.aaload, 1) := by decide +kernel
theorem d_Mr_compare_23 : decode (fnB F_Mr_compare) 23 = .ok (.aload_n 0, 1) := by decide +kernel
theorem d_Mr_compare_24 : decode (fnB F_Mr_compare) 24 = .ok (.getfield 26, 3) := by decide +kernel
theorem d_Mr_compare_27 : decode (fnB F_Mr_compare) 27 = .ok (.iload_n 2, 1) := by decide +kernel
theorem d_Mr_compare_28 : decode (fnB F_Mr_compare) 28 = .ok (.aaload, 1) := by decide +kernel
theorem d_Mr_compare_29 : decode (fnB F_Mr_compare) 29 = .ok (.invokevirtual 287, 3) := by decide +kernel
theorem d_Mr_compare_32 : decode (fnB F_Mr_compare) 32 = .ok (.ireturn, 1) := by decide +kernel
theorem B_Mr_compare_0 : (∀ (l0 l2 : Value) (x : Int32) (st : List Value) (M : Mm) (Q : Option Value → Mm → Prop), wp F_Mr_compare 0 [l0, .int x, l2] st M Q = wp F_Mr_compare 1 [l0, .int x, l2] (.int x :: st) M Q) ∧
  (∀ (l0 l1 l2 : Value) (p0 : Int32) (M : Mm) (Q : Option Value → Mm → Prop), wp F_Mr_compare 1 [l0, l1, l2] [.int p0] M Q = wp F_Mr_isSlot 0 [.int p0] [] M (fun r M1 => wp F_Mr_compare 4 [l0, l1, l2] (r.toList ++ []) M1 Q)) ∧
  (∀ (l0 l1 l2 : Value) (x : Int32) (st : List Value) (M : Mm) (Q : Option Value → Mm → Prop), wp F_Mr_compare 4 [l0, l1, l2] (.int x :: st) M Q = if x = 0 then wp F_Mr_compare 14 [l0, l1, l2] st M Q else wp F_Mr_compare 7 [l0, l1, l2] st M Q) ∧
  (∀ (l0 l1 : Value) (x : Int32) (st : List Value) (M : Mm) (Q : Option Value → Mm → Prop), wp F_Mr_compare 7 [l0, l1, .int x] st M Q = wp F_Mr_compare 8 [l0, l1, .int x] (.int x :: st) M Q) ∧
  (∀ (l0 l1 l2 : Value) (p0 : Int32) (M : Mm) (Q : Option Value → Mm → Prop), wp F_Mr_compare 8 [l0, l1, l2] [.int p0] M Q = wp F_Mr_isSlot 0 [.int p0] [] M (fun r M1 => wp F_Mr_compare 11 [l0, l1, l2] (r.toList ++ []) M1 Q)) ∧
  (∀ (l0 l1 l2 : Value) (x : Int32) (st : List Value) (M : Mm) (Q : Option Value → Mm → Prop), wp F_Mr_compare 11 [l0, l1, l2] (.int x :: st) M Q = if x = 0 then wp F_Mr_compare 14 [l0, l1, l2] st M Q else wp F_Mr_compare 17 [l0, l1, l2] st M Q) := ⟨fun _ _ _ _ _ _ => wp_in d_Mr_compare_0 rfl rfl, fun _ _ _ _ _ _ => wp_callS d_Mr_compare_1 ml_11_125 (Nat.le_of_ble_eq_true rfl) rfl rfl rfl, fun _ _ _ _ _ _ _ => wp_if_eq d_Mr_compare_4 rfl, fun _ _ _ _ _ _ => wp_in d_Mr_compare_7 rfl rfl, fun _ _ _ _ _ _ => wp_callS d_Mr_compare_8 ml_11_125 (Nat.le_of_ble_eq_true rfl) rfl rfl rfl, fun _ _ _ _ _ _ _ => wp_if_ne d_Mr_compare_11 rfl⟩
theorem B_Mr_compare_14 : (∀ (l0 l1 l2 : Value) (st : List Value) (M : Mm) (Q : Option Value → Mm → Prop), wp F_Mr_compare 14 [l0, l1, l2] st M Q = wp F_Mr_compare 16 [l0, l1, l2] (.int (-2) :: st) M Q) ∧
  (∀ (l0 l1 l2 : Value) (v : Int32) (M : Mm) (Q : Option Value → Mm → Prop), wp F_Mr_compare 16 [l0, l1, l2] [.int v] M Q = Q (some (.int v)) M) := ⟨fun _ _ _ _ _ _ => wp_bipush d_Mr_compare_14 (by decide), fun _ _ _ _ _ _ => wp_retI d_Mr_compare_16 rfl⟩
theorem B_Mr_compare_17 : (∀ (l1 l2 : Value) (x : Nat) (st : List Value) (M : Mm) (Q : Option Value → Mm → Prop), wp F_Mr_compare 17 [.ref x, l1, l2] st M Q = wp F_Mr_compare 18 [.ref x, l1, l2] (.ref x :: st) M Q) ∧
  (∀ (l0 l1 l2 : Value) (a : Nat) (st : List Value) (M : Mm) (Q : Option Value → Mm → Prop), wp F_Mr_compare 18 [l0, l1, l2] (.ref a :: st) M Q = (sh M a = some (.inl 11) ∧ wp F_Mr_compare 21 [l0, l1, l2] (va_rf (gR M a 5) :: st) M Q)) ∧
  (∀ (l0 l2 : Value) (x : Int32) (st : List Value) (M : Mm) (Q : Option Value → Mm → Prop), wp F_Mr_compare 21 [l0, .int x, l2] st M Q = wp F_Mr_compare 22 [l0, .int x, l2] (.int x :: st) M Q) ∧
  (∀ (l0 l1 l2 : Value) (a : Nat) (j : Int32) (st : List Value) (M : Mm) (Q : Option Value → Mm → Prop), wp F_Mr_compare 22 [l0, l1, l2] (.int j :: .ref a :: st) M Q = (ixR M a j ∧ wp F_Mr_compare 23 [l0, l1, l2] (va_rf (gR M a (cl j)) :: st) M Q)) ∧
  (∀ (l1 l2 : Value) (x : Nat) (st : List Value) (M : Mm) (Q : Option Value → Mm → Prop), wp F_Mr_compare 23 [.ref x, l1, l2] st M Q = wp F_Mr_compare 24 [.ref x, l1, l2] (.ref x :: st) M Q) ∧
  (∀ (l0 l1 l2 : Value) (a : Nat) (st : List Value) (M : Mm) (Q : Option Value → Mm → Prop), wp F_Mr_compare 24 [l0, l1, l2] (.ref a :: st) M Q = (sh M a = some (.inl 11) ∧ wp F_Mr_compare 27 [l0, l1, l2] (va_rf (gR M a 5) :: st) M Q)) ∧
  (∀ (l0 l1 : Value) (x : Int32) (st : List Value) (M : Mm) (Q : Option Value → Mm → Prop), wp F_Mr_compare 27 [l0, l1, .int x] st M Q = wp F_Mr_compare 28 [l0, l1, .int x] (.int x :: st) M Q) ∧
  (∀ (l0 l1 l2 : Value) (a : Nat) (j : Int32) (st : List Value) (M : Mm) (Q : Option Value → Mm → Prop), wp F_Mr_compare 28 [l0, l1, l2] (.int j :: .ref a :: st) M Q = (ixR M a j ∧ wp F_Mr_compare 29 [l0, l1, l2] (va_rf (gR M a (cl j)) :: st) M Q)) ∧
  (∀ (l0 l1 l2 : Value) (b : Nat) (p0 : Nat) (M : Mm) (Q : Option Value → Mm → Prop), wp F_Mr_compare 29 [l0, l1, l2] [.ref p0, .ref b] M Q = (sh M b = some (.inl 10) ∧ wp F_Word_against 0 [.ref b, .ref p0, jk] [] M (fun r M1 => wp F_Mr_compare 32 [l0, l1, l2] (r.toList ++ []) M1 Q))) ∧
  (∀ (l0 l1 l2 : Value) (v : Int32) (M : Mm) (Q : Option Value → Mm → Prop), wp F_Mr_compare 32 [l0, l1, l2] [.int v] M Q = Q (some (.int v)) M) := ⟨fun _ _ _ _ _ _ => wp_in d_Mr_compare_17 rfl rfl, fun _ _ _ _ _ _ _ => wp_getA d_Mr_compare_18 fl_11_26 rfl, fun _ _ _ _ _ _ => wp_in d_Mr_compare_21 rfl rfl, fun _ _ _ _ _ _ _ _ => wp_aald d_Mr_compare_22, fun _ _ _ _ _ _ => wp_in d_Mr_compare_23 rfl rfl, fun _ _ _ _ _ _ _ => wp_getA d_Mr_compare_24 fl_11_26 rfl, fun _ _ _ _ _ _ => wp_in d_Mr_compare_27 rfl rfl, fun _ _ _ _ _ _ _ _ => wp_aald d_Mr_compare_28, fun _ _ _ _ _ _ _ => wp_callV d_Mr_compare_29 ml_11_287 rfl rfl rfl, fun _ _ _ _ _ _ => wp_retI d_Mr_compare_32 rfl⟩
theorem d_Mr_many_0 : decode (fnB F_Mr_many) 0 = .ok (.iload_n 1, 1) := by decide +kernel
theorem d_Mr_many_1 : decode (fnB F_Mr_many) 1 = .ok (.ifCond .lt 9, 3) := by decide +kernel
theorem d_Mr_many_4 : decode (fnB F_Mr_many) 4 = .ok (.iload_n 1, 1) := by decide +kernel
theorem d_Mr_many_5 : decode (fnB F_Mr_many) 5 = .ok (.bipush 80, 2) := by decide +kernel
theorem d_Mr_many_7 : decode (fnB F_Mr_many) 7 = .ok (.if_icmp .le 7, 3) := by decide +kernel
theorem d_Mr_many_10 : decode (fnB F_Mr_many) 10 = .ok (.ldc2_w 291, 3) := by decide +kernel
theorem d_Mr_many_13 : decode (fnB F_Mr_many) 13 = .ok (.lreturn, 1) := by decide +kernel
theorem d_Mr_many_14 : decode (fnB F_Mr_many) 14 = .ok (.aload_n 0, 1) := by decide +kernel
theorem d_Mr_many_15 : decode (fnB F_Mr_many) 15 = .ok (.getfield 65, 3) := by decide +kernel
theorem d_Mr_many_18 : decode (fnB F_Mr_many) 18 = .ok (.invokevirtual 204, 3) := by decide +kernel
theorem d_Mr_many_21 : decode (fnB F_Mr_many) 21 = .ok (.ifCond .ne 7, 3) := by decide +kernel
theorem d_Mr_many_24 : decode (fnB F_Mr_many) 24 = .ok (.ldc2_w 293, 3) := by decide +kernel
theorem d_Mr_many_27 : decode (fnB F_Mr_many) 27 = .ok (.lreturn, 1) := by decide +kernel
theorem d_Mr_many_28 : decode (fnB F_Mr_many) 28 = .ok (.aload_n 0, 1) := by decide +kernel
theorem d_Mr_many_29 : decode (fnB F_Mr_many) 29 = .ok (.getfield 81, 3) := by decide +kernel
theorem d_Mr_many_32 : decode (fnB F_Mr_many) 32 = .ok (.iload_n 1, 1) := by decide +kernel
theorem d_Mr_many_33 : decode (fnB F_Mr_many) 33 = .ok (.invokevirtual 295, 3) := by decide +kernel
theorem d_Mr_many_36 : decode (fnB F_Mr_many) 36 = .ok (.lstore_n 2, 1) := by decide +kernel
theorem d_Mr_many_37 : decode (fnB F_Mr_many) 37 = .ok (.lload_n 2, 1) := by decide +kernel
theorem d_Mr_many_38 : decode (fnB F_Mr_many) 38 = .ok (.ldc2_w 299, 3) := by decide +kernel
theorem d_Mr_many_41 : decode (fnB F_Mr_many) 41 = .ok (.lcmp, 1) := by decide +kernel
theorem d_Mr_many_42 : decode (fnB F_Mr_many) 42 = .ok (.ifCond .le 9, 3) := by decide +kernel
theorem d_Mr_many_45 : decode (fnB F_Mr_many) 45 = .ok (.ldc2_w 301, 3) := by decide +kernel
theorem d_Mr_many_48 : decode (fnB F_Mr_many) 48 = .ok (.goto 4, 3) := by decide +kernel
theorem d_Mr_many_51 : decode (fnB F_Mr_many) 51 = .ok (.lload_n 2, 1) := by decide +kernel
theorem d_Mr_many_52 : decode (fnB F_Mr_many) 52 = .ok (.lreturn, 1) := by decide +kernel
theorem B_Mr_many_0 : (∀ (l0 l2 l3 : Value) (x : Int32) (st : List Value) (M : Mm) (Q : Option Value → Mm → Prop), wp F_Mr_many 0 [l0, .int x, l2, l3] st M Q = wp F_Mr_many 1 [l0, .int x, l2, l3] (.int x :: st) M Q) ∧
  (∀ (l0 l1 l2 l3 : Value) (x : Int32) (st : List Value) (M : Mm) (Q : Option Value → Mm → Prop), wp F_Mr_many 1 [l0, l1, l2, l3] (.int x :: st) M Q = if x < 0 then wp F_Mr_many 10 [l0, l1, l2, l3] st M Q else wp F_Mr_many 4 [l0, l1, l2, l3] st M Q) ∧
  (∀ (l0 l2 l3 : Value) (x : Int32) (st : List Value) (M : Mm) (Q : Option Value → Mm → Prop), wp F_Mr_many 4 [l0, .int x, l2, l3] st M Q = wp F_Mr_many 5 [l0, .int x, l2, l3] (.int x :: st) M Q) ∧
  (∀ (l0 l1 l2 l3 : Value) (st : List Value) (M : Mm) (Q : Option Value → Mm → Prop), wp F_Mr_many 5 [l0, l1, l2, l3] st M Q = wp F_Mr_many 7 [l0, l1, l2, l3] (.int 80 :: st) M Q) ∧
  (∀ (l0 l1 l2 l3 : Value) (x y : Int32) (st : List Value) (M : Mm) (Q : Option Value → Mm → Prop), wp F_Mr_many 7 [l0, l1, l2, l3] (.int y :: .int x :: st) M Q = if x ≤ y then wp F_Mr_many 14 [l0, l1, l2, l3] st M Q else wp F_Mr_many 10 [l0, l1, l2, l3] st M Q) := ⟨fun _ _ _ _ _ _ _ => wp_in d_Mr_many_0 rfl rfl, fun _ _ _ _ _ _ _ _ => wp_if_lt d_Mr_many_1 rfl, fun _ _ _ _ _ _ _ => wp_in d_Mr_many_4 rfl rfl, fun _ _ _ _ _ _ _ => wp_bipush d_Mr_many_5 (by decide), fun _ _ _ _ _ _ _ _ _ => wp_icmp_le d_Mr_many_7 rfl⟩
theorem B_Mr_many_10 : (∀ (l0 l1 l2 l3 : Value) (st : List Value) (M : Mm) (Q : Option Value → Mm → Prop), wp F_Mr_many 10 [l0, l1, l2, l3] st M Q = wp F_Mr_many 13 [l0, l1, l2, l3] (.long (-2) :: st) M Q) ∧
  (∀ (l0 l1 l2 l3 : Value) (v : Int64) (M : Mm) (Q : Option Value → Mm → Prop), wp F_Mr_many 13 [l0, l1, l2, l3] [.long v] M Q = Q (some (.long v)) M) := ⟨fun _ _ _ _ _ _ _ => wp_ldc2 d_Mr_many_10 ll_11_291, fun _ _ _ _ _ _ _ => wp_retJ d_Mr_many_13 rfl⟩
theorem B_Mr_many_14 : (∀ (l1 l2 l3 : Value) (x : Nat) (st : List Value) (M : Mm) (Q : Option Value → Mm → Prop), wp F_Mr_many 14 [.ref x, l1, l2, l3] st M Q = wp F_Mr_many 15 [.ref x, l1, l2, l3] (.ref x :: st) M Q) ∧
  (∀ (l0 l1 l2 l3 : Value) (a : Nat) (st : List Value) (M : Mm) (Q : Option Value → Mm → Prop), wp F_Mr_many 15 [l0, l1, l2, l3] (.ref a :: st) M Q = (sh M a = some (.inl 11) ∧ wp F_Mr_many 18 [l0, l1, l2, l3] (va_rf (gR M a 10) :: st) M Q)) ∧
  (∀ (l0 l1 l2 l3 : Value) (b : Nat) (M : Mm) (Q : Option Value → Mm → Prop), wp F_Mr_many 18 [l0, l1, l2, l3] [.ref b] M Q = (sh M b = some (.inl 0) ∧ wp F_Completion_isDone 0 [.ref b] [] M (fun r M1 => wp F_Mr_many 21 [l0, l1, l2, l3] (r.toList ++ []) M1 Q))) ∧
  (∀ (l0 l1 l2 l3 : Value) (x : Int32) (st : List Value) (M : Mm) (Q : Option Value → Mm → Prop), wp F_Mr_many 21 [l0, l1, l2, l3] (.int x :: st) M Q = if x = 0 then wp F_Mr_many 24 [l0, l1, l2, l3] st M Q else wp F_Mr_many 28 [l0, l1, l2, l3] st M Q) ∧
  (∀ (l0 l1 l2 l3 : Value) (st : List Value) (M : Mm) (Q : Option Value → Mm → Prop), wp F_Mr_many 24 [l0, l1, l2, l3] st M Q = wp F_Mr_many 27 [l0, l1, l2, l3] (.long (-3) :: st) M Q) ∧
  (∀ (l0 l1 l2 l3 : Value) (v : Int64) (M : Mm) (Q : Option Value → Mm → Prop), wp F_Mr_many 27 [l0, l1, l2, l3] [.long v] M Q = Q (some (.long v)) M) := ⟨fun _ _ _ _ _ _ _ => wp_in d_Mr_many_14 rfl rfl, fun _ _ _ _ _ _ _ _ => wp_getA d_Mr_many_15 fl_11_65 rfl, fun _ _ _ _ _ _ _ => wp_callV d_Mr_many_18 ml_11_204 rfl rfl rfl, fun _ _ _ _ _ _ _ _ => wp_if_ne d_Mr_many_21 rfl, fun _ _ _ _ _ _ _ => wp_ldc2 d_Mr_many_24 ll_11_293, fun _ _ _ _ _ _ _ => wp_retJ d_Mr_many_27 rfl⟩
theorem B_Mr_many_28 : (∀ (l1 l2 l3 : Value) (x : Nat) (st : List Value) (M : Mm) (Q : Option Value → Mm → Prop), wp F_Mr_many 28 [.ref x, l1, l2, l3] st M Q = wp F_Mr_many 29 [.ref x, l1, l2, l3] (.ref x :: st) M Q) ∧
  (∀ (l0 l1 l2 l3 : Value) (a : Nat) (st : List Value) (M : Mm) (Q : Option Value → Mm → Prop), wp F_Mr_many 29 [l0, l1, l2, l3] (.ref a :: st) M Q = (sh M a = some (.inl 11) ∧ wp F_Mr_many 32 [l0, l1, l2, l3] (va_rf (gR M a 12) :: st) M Q)) ∧
  (∀ (l0 l2 l3 : Value) (x : Int32) (st : List Value) (M : Mm) (Q : Option Value → Mm → Prop), wp F_Mr_many 32 [l0, .int x, l2, l3] st M Q = wp F_Mr_many 33 [l0, .int x, l2, l3] (.int x :: st) M Q) ∧
  (∀ (l0 l1 l2 l3 : Value) (b : Nat) (p0 : Int32) (M : Mm) (Q : Option Value → Mm → Prop), wp F_Mr_many 33 [l0, l1, l2, l3] [.int p0, .ref b] M Q = (sh M b = some (.inl 1) ∧ wp F_Elements_ofLength 0 [.ref b, .int p0] [] M (fun r M1 => wp F_Mr_many 36 [l0, l1, l2, l3] (r.toList ++ []) M1 Q))) ∧
  (∀ (l0 l1 l2 l3 : Value) (x : Int64) (st : List Value) (M : Mm) (Q : Option Value → Mm → Prop), wp F_Mr_many 36 [l0, l1, l2, l3] (.long x :: st) M Q = wp F_Mr_many 37 [l0, clr l1, .long x, jk] st M Q) ∧
  (∀ (l0 l1 l3 : Value) (x : Int64) (st : List Value) (M : Mm) (Q : Option Value → Mm → Prop), wp F_Mr_many 37 [l0, l1, .long x, l3] st M Q = wp F_Mr_many 38 [l0, l1, .long x, l3] (.long x :: st) M Q) ∧
  (∀ (l0 l1 l2 l3 : Value) (st : List Value) (M : Mm) (Q : Option Value → Mm → Prop), wp F_Mr_many 38 [l0, l1, l2, l3] st M Q = wp F_Mr_many 41 [l0, l1, l2, l3] (.long 1000000000000000 :: st) M Q) ∧
  (∀ (l0 l1 l2 l3 : Value) (x y : Int64) (st : List Value) (M : Mm) (Q : Option Value → Mm → Prop), wp F_Mr_many 41 [l0, l1, l2, l3] (.long y :: .long x :: st) M Q = wp F_Mr_many 42 [l0, l1, l2, l3] (.int (lg_cmp x y) :: st) M Q) ∧
  (∀ (l0 l1 l2 l3 : Value) (x : Int32) (st : List Value) (M : Mm) (Q : Option Value → Mm → Prop), wp F_Mr_many 42 [l0, l1, l2, l3] (.int x :: st) M Q = if x ≤ 0 then wp F_Mr_many 51 [l0, l1, l2, l3] st M Q else wp F_Mr_many 45 [l0, l1, l2, l3] st M Q) ∧
  (∀ (l0 l1 l2 l3 : Value) (st : List Value) (M : Mm) (Q : Option Value → Mm → Prop), wp F_Mr_many 45 [l0, l1, l2, l3] st M Q = wp F_Mr_many 48 [l0, l1, l2, l3] (.long (-4) :: st) M Q) ∧
  (∀ (l0 l1 l2 l3 : Value) (st : List Value) (M : Mm) (Q : Option Value → Mm → Prop), wp F_Mr_many 48 [l0, l1, l2, l3] st M Q = wp F_Mr_many 52 [l0, l1, l2, l3] st M Q) := ⟨fun _ _ _ _ _ _ _ => wp_in d_Mr_many_28 rfl rfl, fun _ _ _ _ _ _ _ _ => wp_getA d_Mr_many_29 fl_11_81 rfl, fun _ _ _ _ _ _ _ => wp_in d_Mr_many_32 rfl rfl, fun _ _ _ _ _ _ _ _ => wp_callV d_Mr_many_33 ml_11_295 rfl rfl rfl, fun _ _ _ _ _ _ _ _ => wp_in d_Mr_many_36 rfl rfl, fun _ _ _ _ _ _ _ => wp_in d_Mr_many_37 rfl rfl, fun _ _ _ _ _ _ _ => wp_ldc2 d_Mr_many_38 ll_11_299, fun _ _ _ _ _ _ _ _ _ => wp_in d_Mr_many_41 rfl rfl, fun _ _ _ _ _ _ _ _ => wp_if_le d_Mr_many_42 rfl, fun _ _ _ _ _ _ _ => wp_ldc2 d_Mr_many_45 ll_11_301, fun _ _ _ _ _ _ _ => wp_goto d_Mr_many_48 rfl⟩
theorem B_Mr_many_51 : (∀ (l0 l1 l3 : Value) (x : Int64) (st : List Value) (M : Mm) (Q : Option Value → Mm → Prop), wp F_Mr_many 51 [l0, l1, .long x, l3] st M Q = wp F_Mr_many 52 [l0, l1, .long x, l3] (.long x :: st) M Q) := fun _ _ _ _ _ _ _ => wp_in d_Mr_many_51 rfl rfl
theorem B_Mr_many_52 : (∀ (l0 l1 l2 l3 : Value) (v : Int64) (M : Mm) (Q : Option Value → Mm → Prop), wp F_Mr_many 52 [l0, l1, l2, l3] [.long v] M Q = Q (some (.long v)) M) := fun _ _ _ _ _ _ _ => wp_retJ d_Mr_many_52 rfl
theorem d_Mr_size_0 : decode (fnB F_Mr_size) 0 = .ok (.aload_n 0, 1) := by decide +kernel
theorem d_Mr_size_1 : decode (fnB F_Mr_size) 1 = .ok (.getfield 65, 3) := by decide +kernel
theorem d_Mr_size_4 : decode (fnB F_Mr_size) 4 = .ok (.invokevirtual 204, 3) := by decide +kernel
theorem d_Mr_size_7 : decode (fnB F_Mr_size) 7 = .ok (.ifCond .eq 13, 3) := by decide +kernel
theorem d_Mr_size_10 : decode (fnB F_Mr_size) 10 = .ok (.aload_n 0, 1) := by decide +kernel
theorem d_Mr_size_11 : decode (fnB F_Mr_size) 11 = .ok (.getfield 81, 3) := by decide +kernel
theorem d_Mr_size_14 : decode (fnB F_Mr_size) 14 = .ok (.invokevirtual 303, 3) := by decide +kernel
theorem d_Mr_size_17 : decode (fnB F_Mr_size) 17 = .ok (.goto 6, 3) := by decide +kernel
theorem d_Mr_size_20 : decode (fnB F_Mr_size) 20 = .ok (.ldc2_w 293, 3) := by decide +kernel
theorem d_Mr_size_23 : decode (fnB F_Mr_size) 23 = .ok (.lreturn, 1) := by decide +kernel
theorem B_Mr_size_0 : (∀ (x : Nat) (st : List Value) (M : Mm) (Q : Option Value → Mm → Prop), wp F_Mr_size 0 [.ref x] st M Q = wp F_Mr_size 1 [.ref x] (.ref x :: st) M Q) ∧
  (∀ (l0 : Value) (a : Nat) (st : List Value) (M : Mm) (Q : Option Value → Mm → Prop), wp F_Mr_size 1 [l0] (.ref a :: st) M Q = (sh M a = some (.inl 11) ∧ wp F_Mr_size 4 [l0] (va_rf (gR M a 10) :: st) M Q)) ∧
  (∀ (l0 : Value) (b : Nat) (M : Mm) (Q : Option Value → Mm → Prop), wp F_Mr_size 4 [l0] [.ref b] M Q = (sh M b = some (.inl 0) ∧ wp F_Completion_isDone 0 [.ref b] [] M (fun r M1 => wp F_Mr_size 7 [l0] (r.toList ++ []) M1 Q))) ∧
  (∀ (l0 : Value) (x : Int32) (st : List Value) (M : Mm) (Q : Option Value → Mm → Prop), wp F_Mr_size 7 [l0] (.int x :: st) M Q = if x = 0 then wp F_Mr_size 20 [l0] st M Q else wp F_Mr_size 10 [l0] st M Q) ∧
  (∀ (x : Nat) (st : List Value) (M : Mm) (Q : Option Value → Mm → Prop), wp F_Mr_size 10 [.ref x] st M Q = wp F_Mr_size 11 [.ref x] (.ref x :: st) M Q) ∧
  (∀ (l0 : Value) (a : Nat) (st : List Value) (M : Mm) (Q : Option Value → Mm → Prop), wp F_Mr_size 11 [l0] (.ref a :: st) M Q = (sh M a = some (.inl 11) ∧ wp F_Mr_size 14 [l0] (va_rf (gR M a 12) :: st) M Q)) ∧
  (∀ (l0 : Value) (b : Nat) (M : Mm) (Q : Option Value → Mm → Prop), wp F_Mr_size 14 [l0] [.ref b] M Q = (sh M b = some (.inl 1) ∧ wp F_Elements_total 0 [.ref b] [] M (fun r M1 => wp F_Mr_size 17 [l0] (r.toList ++ []) M1 Q))) ∧
  (∀ (l0 : Value) (st : List Value) (M : Mm) (Q : Option Value → Mm → Prop), wp F_Mr_size 17 [l0] st M Q = wp F_Mr_size 23 [l0] st M Q) := ⟨fun _ _ _ _ => wp_in d_Mr_size_0 rfl rfl, fun _ _ _ _ _ => wp_getA d_Mr_size_1 fl_11_65 rfl, fun _ _ _ _ => wp_callV d_Mr_size_4 ml_11_204 rfl rfl rfl, fun _ _ _ _ _ => wp_if_eq d_Mr_size_7 rfl, fun _ _ _ _ => wp_in d_Mr_size_10 rfl rfl, fun _ _ _ _ _ => wp_getA d_Mr_size_11 fl_11_81 rfl, fun _ _ _ _ => wp_callV d_Mr_size_14 ml_11_303 rfl rfl rfl, fun _ _ _ _ => wp_goto d_Mr_size_17 rfl⟩
theorem B_Mr_size_20 : (∀ (l0 : Value) (st : List Value) (M : Mm) (Q : Option Value → Mm → Prop), wp F_Mr_size 20 [l0] st M Q = wp F_Mr_size 23 [l0] (.long (-3) :: st) M Q) := fun _ _ _ _ => wp_ldc2 d_Mr_size_20 ll_11_293
theorem B_Mr_size_23 : (∀ (l0 : Value) (v : Int64) (M : Mm) (Q : Option Value → Mm → Prop), wp F_Mr_size 23 [l0] [.long v] M Q = Q (some (.long v)) M) := fun _ _ _ _ => wp_retJ d_Mr_size_23 rfl
