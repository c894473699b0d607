theorem d_Md_in_0 : decode (fnB F_Md_in) 0 = .ok (.lload_n 0, 1) := by decide +kernel
theorem d_Md_in_1 : decode (fnB F_Md_in) 1 = .ok (.lload_n 2, 1) := by decide +kernel
theorem d_Md_in_2 : decode (fnB F_Md_in) 2 = .ok (.lcmp, 1) := by decide +kernel
theorem d_Md_in_3 : decode (fnB F_Md_in) 3 = .ok (.ifCond .lt 14, 3) := by decide +kernel
theorem d_Md_in_6 : decode (fnB F_Md_in) 6 = .ok (.lload_n 0, 1) := by decide +kernel
theorem d_Md_in_7 : decode (fnB F_Md_in) 7 = .ok (.lload 4, 2) := by decide +kernel
theorem d_Md_in_9 : decode (fnB F_Md_in) 9 = .ok (.lcmp, 1) := by decide +kernel
theorem d_Md_in_10 : decode (fnB F_Md_in) 10 = .ok (.ifCond .gt 7, 3) := by decide +kernel
theorem d_Md_in_13 : decode (fnB F_Md_in) 13 = .ok (.iconst 1, 1) := by decide +kernel
theorem d_Md_in_14 : decode (fnB F_Md_in) 14 = .ok (.goto 4, 3) := by decide +kernel
theorem d_Md_in_17 : decode (fnB F_Md_in) 17 = .ok (.iconst 0, 1) := by decide +kernel
theorem d_Md_in_18 : decode (fnB F_Md_in) 18 = .ok (.ireturn, 1) := by decide +kernel
theorem B_Md_in_0 : (∀ (l1 l2 l3 l4 l5 : Value) (x : Int64) (st : List Value) (M : Mm) (Q : Option Value → Mm → Prop), wp F_Md_in 0 [.long x, l1, l2, l3, l4, l5] st M Q = wp F_Md_in 1 [.long x, l1, l2, l3, l4, l5] (.long x :: st) M Q) ∧
  (∀ (l0 l1 l3 l4 l5 : Value) (x : Int64) (st : List Value) (M : Mm) (Q : Option Value → Mm → Prop), wp F_Md_in 1 [l0, l1, .long x, l3, l4, l5] st M Q = wp F_Md_in 2 [l0, l1, .long x, l3, l4, l5] (.long x :: st) M Q) ∧
  (∀ (l0 l1 l2 l3 l4 l5 : Value) (x y : Int64) (st : List Value) (M : Mm) (Q : Option Value → Mm → Prop), wp F_Md_in 2 [l0, l1, l2, l3, l4, l5] (.long y :: .long x :: st) M Q = wp F_Md_in 3 [l0, l1, l2, l3, l4, l5] (.int (lg_cmp x y) :: st) M Q) ∧
  (∀ (l0 l1 l2 l3 l4 l5 : Value) (x : Int32) (st : List Value) (M : Mm) (Q : Option Value → Mm → Prop), wp F_Md_in 3 [l0, l1, l2, l3, l4, l5] (.int x :: st) M Q = if x < 0 then wp F_Md_in 17 [l0, l1, l2, l3, l4, l5] st M Q else wp F_Md_in 6 [l0, l1, l2, l3, l4, l5] st M Q) ∧
  (∀ (l1 l2 l3 l4 l5 : Value) (x : Int64) (st : List Value) (M : Mm) (Q : Option Value → Mm → Prop), wp F_Md_in 6 [.long x, l1, l2, l3, l4, l5] st M Q = wp F_Md_in 7 [.long x, l1, l2, l3, l4, l5] (.long x :: st) M Q) ∧
  (∀ (l0 l1 l2 l3 l5 : Value) (x : Int64) (st : List Value) (M : Mm) (Q : Option Value → Mm → Prop), wp F_Md_in 7 [l0, l1, l2, l3, .long x, l5] st M Q = wp F_Md_in 9 [l0, l1, l2, l3, .long x, l5] (.long x :: st) M Q) ∧
  (∀ (l0 l1 l2 l3 l4 l5 : Value) (x y : Int64) (st : List Value) (M : Mm) (Q : Option Value → Mm → Prop), wp F_Md_in 9 [l0, l1, l2, l3, l4, l5] (.long y :: .long x :: st) M Q = wp F_Md_in 10 [l0, l1, l2, l3, l4, l5] (.int (lg_cmp x y) :: st) M Q) ∧
  (∀ (l0 l1 l2 l3 l4 l5 : Value) (x : Int32) (st : List Value) (M : Mm) (Q : Option Value → Mm → Prop), wp F_Md_in 10 [l0, l1, l2, l3, l4, l5] (.int x :: st) M Q = if 0 < x then wp F_Md_in 17 [l0, l1, l2, l3, l4, l5] st M Q else wp F_Md_in 13 [l0, l1, l2, l3, l4, l5] st M Q) ∧
  (∀ (l0 l1 l2 l3 l4 l5 : Value) (st : List Value) (M : Mm) (Q : Option Value → Mm → Prop), wp F_Md_in 13 [l0, l1, l2, l3, l4, l5] st M Q = wp F_Md_in 14 [l0, l1, l2, l3, l4, l5] (.int 1 :: st) M Q) ∧
  (∀ (l0 l1 l2 l3 l4 l5 : Value) (st : List Value) (M : Mm) (Q : Option Value → Mm → Prop), wp F_Md_in 14 [l0, l1, l2, l3, l4, l5] st M Q = wp F_Md_in 18 [l0, l1, l2, l3, l4, l5] st M Q) := ⟨fun _ _ _ _ _ _ _ _ _ => wp_in d_Md_in_0 rfl rfl, fun _ _ _ _ _ _ _ _ _ => wp_in d_Md_in_1 rfl rfl, fun _ _ _ _ _ _ _ _ _ _ _ => wp_in d_Md_in_2 rfl rfl, fun _ _ _ _ _ _ _ _ _ _ => wp_if_lt d_Md_in_3 rfl, fun _ _ _ _ _ _ _ _ _ => wp_in d_Md_in_6 rfl rfl, fun _ _ _ _ _ _ _ _ _ => wp_in d_Md_in_7 rfl rfl, fun _ _ _ _ _ _ _ _ _ _ _ => wp_in d_Md_in_9 rfl rfl, fun _ _ _ _ _ _ _ _ _ _ => wp_if_gt d_Md_in_10 rfl, fun _ _ _ _ _ _ _ _ _ => wp_iconst d_Md_in_13 (by decide), fun _ _ _ _ _ _ _ _ _ => wp_goto d_Md_in_14 rfl⟩
theorem B_Md_in_17 : (∀ (l0 l1 l2 l3 l4 l5 : Value) (st : List Value) (M : Mm) (Q : Option Value → Mm → Prop), wp F_Md_in 17 [l0, l1, l2, l3, l4, l5] st M Q = wp F_Md_in 18 [l0, l1, l2, l3, l4, l5] (.int 0 :: st) M Q) := fun _ _ _ _ _ _ _ _ _ => wp_iconst d_Md_in_17 (by decide)
theorem B_Md_in_18 : (∀ (l0 l1 l2 l3 l4 l5 : Value) (v : Int32) (M : Mm) (Q : Option Value → Mm → Prop), wp F_Md_in 18 [l0, l1, l2, l3, l4, l5] [.int v] M Q = ((v = 0 ∨ v = 1) ∧ Q (some (.int v)) M)) := fun _ _ _ _ _ _ _ _ _ => wp_retZ d_Md_in_18 rfl
theorem d_Md_feed_0 : decode (fnB F_Md_feed) 0 = .ok (.aload_n 0, 1) := by decide +kernel
theorem d_Md_feed_1 : decode (fnB F_Md_feed) 1 = .ok (.iconst 0, 1) := by decide +kernel
theorem d_Md_feed_2 : decode (fnB F_Md_feed) 2 = .ok (.putfield 1, 3) := by decide +kernel
theorem d_Md_feed_5 : decode (fnB F_Md_feed) 5 = .ok (.iload_n 3, 1) := by decide +kernel
theorem d_Md_feed_6 : decode (fnB F_Md_feed) 6 = .ok (.i2l, 1) := by decide +kernel
theorem d_Md_feed_7 : decode (fnB F_Md_feed) 7 = .ok (.lconst 1, 1) := by decide +kernel
theorem d_Md_feed_8 : decode (fnB F_Md_feed) 8 = .ok (.ldc2_w 7, 3) := by decide +kernel
theorem d_Md_feed_11 : decode (fnB F_Md_feed) 11 = .ok (.invokestatic 9, 3) := by decide +kernel
theorem d_Md_feed_14 : decode (fnB F_Md_feed) 14 = .ok (.ifCond .ne 6, 3) := by decide +kernel
theorem d_Md_feed_17 : decode (fnB F_Md_feed) 17 = .ok (.bipush (-2), 2) := by decide +kernel
theorem d_Md_feed_19 : decode (fnB F_Md_feed) 19 = .ok (.ireturn, 1) := by decide +kernel
theorem d_Md_feed_20 : decode (fnB F_Md_feed) 20 = .ok (.aload_n 0, 1) := by decide +kernel
theorem d_Md_feed_21 : decode (fnB F_Md_feed) 21 = .ok (.getfield 13, 3) := by decide +kernel
theorem d_Md_feed_24 : decode (fnB F_Md_feed) 24 = .ok (.iload_n 3, 1) := by decide +kernel
theorem d_Md_feed_25 : decode (fnB F_Md_feed) 25 = .ok (.iadd, 1) := by decide +kernel
theorem d_Md_feed_26 : decode (fnB F_Md_feed) 26 = .ok (.sipush 600, 3) := by decide +kernel
theorem d_Md_feed_29 : decode (fnB F_Md_feed) 29 = .ok (.if_icmp .le 6, 3) := by decide +kernel
theorem d_Md_feed_32 : decode (fnB F_Md_feed) 32 = .ok (.bipush (-4), 2) := by decide +kernel
theorem d_Md_feed_34 : decode (fnB F_Md_feed) 34 = .ok (.ireturn, 1) := by decide +kernel
theorem d_Md_feed_35 : decode (fnB F_Md_feed) 35 = .ok (.iload_n 3, 1) := by decide +kernel
theorem d_Md_feed_36 : decode (fnB F_Md_feed) 36 = .ok (.iconst 1, 1) := by decide +kernel
theorem d_Md_feed_37 : decode (fnB F_Md_feed) 37 = .ok (.isub, 1) := by decide +kernel
theorem d_Md_feed_38 : decode (fnB F_Md_feed) 38 = .ok (.istore 4, 2) := by decide +kernel
theorem d_Md_feed_40 : decode (fnB F_Md_feed) 40 = .ok (.iload 4, 2) := by decide +kernel
theorem d_Md_feed_42 : decode (fnB F_Md_feed) 42 = .ok (.ifCond .lt 40, 3) := by decide +kernel
theorem d_Md_feed_45 : decode (fnB F_Md_feed) 45 = .ok (.aload_n 0, 1) := by decide +kernel
theorem d_Md_feed_46 : decode (fnB F_Md_feed) 46 = .ok (.getfield 16, 3) := by decide +kernel
theorem d_Md_feed_49 : decode (fnB F_Md_feed) 49 = .ok (.aload_n 0, 1) := by decide +kernel
theorem d_Md_feed_50 : decode (fnB F_Md_feed) 50 = .ok (.getfield 13, 3) := by decide +kernel
theorem d_Md_feed_53 : decode (fnB F_Md_feed) 53 = .ok (.lload_n 1, 1) := by decide +kernel
theorem d_Md_feed_54 : decode (fnB F_Md_feed) 54 = .ok (.bipush 8, 2) := by decide +kernel
theorem d_Md_feed_56 : decode (fnB F_Md_feed) 56 = .ok (.iload 4, 2) := by decide +kernel
theorem d_Md_feed_58 : decode (fnB F_Md_feed) 58 = .ok (.imul, 1) := by decide +kernel
theorem d_Md_feed_59 : decode (fnB F_Md_feed) 59 = .ok (.lshr, 1) := by decide +kernel
theorem d_Md_feed_60 : decode (fnB F_Md_feed) 60 = .ok (.ldc2_w 20, 3) := by decide +kernel
theorem d_Md_feed_63 : decode (fnB F_Md_feed) 63 = .ok (.land, 1) := by decide +kernel
theorem d_Md_feed_64 : decode (fnB F_Md_feed) 64 = .ok (.l2i, 1) := by decide +kernel
theorem d_Md_feed_65 : decode (fnB F_Md_feed) 65 = .ok (.iastore, 1) := by decide +kernel
theorem d_Md_feed_66 : decode (fnB F_Md_feed) 66 = .ok (.aload_n 0, 1) := by decide +kernel
theorem d_Md_feed_67 : decode (fnB F_Md_feed) 67 = .ok (.dup, 1) := by decide +kernel
theorem d_Md_feed_68 : decode (fnB F_Md_feed) 68 = .ok (.getfield 13, 3) := by decide +kernel
theorem d_Md_feed_71 : decode (fnB F_Md_feed) 71 = .ok (.iconst 1, 1) := by decide +kernel
theorem d_Md_feed_72 : decode (fnB F_Md_feed) 72 = .ok (.iadd, 1) := by decide +kernel
theorem d_Md_feed_73 : decode (fnB F_Md_feed) 73 = .ok (.putfield 13, 3) := by decide +kernel
theorem d_Md_feed_76 : decode (fnB F_Md_feed) 76 = .ok (.iinc 4 (-1), 3) := by decide +kernel
theorem d_Md_feed_79 : decode (fnB F_Md_feed) 79 = .ok (.goto (-39), 3) := by decide +kernel
theorem d_Md_feed_82 : decode (fnB F_Md_feed) 82 = .ok (.aload_n 0, 1) := by decide +kernel
theorem d_Md_feed_83 : decode (fnB F_Md_feed) 83 = .ok (.getfield 13, 3) := by decide +kernel
theorem d_Md_feed_86 : decode (fnB F_Md_feed) 86 = .ok (.ireturn, 1) := by decide +kernel
theorem B_Md_feed_0 : (∀ (l1 l2 l3 l4 : Value) (x : Nat) (st : List Value) (M : Mm) (Q : Option Value → Mm → Prop), wp F_Md_feed 0 [.ref x, l1, l2, l3, l4] st M Q = wp F_Md_feed 1 [.ref x, l1, l2, l3, l4] (.ref x :: st) M Q) ∧
  (∀ (l0 l1 l2 l3 l4 : Value) (st : List Value) (M : Mm) (Q : Option Value → Mm → Prop), wp F_Md_feed 1 [l0, l1, l2, l3, l4] st M Q = wp F_Md_feed 2 [l0, l1, l2, l3, l4] (.int 0 :: st) M Q) ∧
  (∀ (l0 l1 l2 l3 l4 : Value) (a : Nat) (x : Int32) (st : List Value) (M : Mm) (Q : Option Value → Mm → Prop), wp F_Md_feed 2 [l0, l1, l2, l3, l4] (.int x :: .ref a :: st) M Q = (sh M a = some (.inl 12) ∧ wp F_Md_feed 5 [l0, l1, l2, l3, l4] st (sI M a 0 x) Q)) ∧
  (∀ (l0 l1 l2 l4 : Value) (x : Int32) (st : List Value) (M : Mm) (Q : Option Value → Mm → Prop), wp F_Md_feed 5 [l0, l1, l2, .int x, l4] st M Q = wp F_Md_feed 6 [l0, l1, l2, .int x, l4] (.int x :: st) M Q) ∧
  (∀ (l0 l1 l2 l3 l4 : Value) (x : Int32) (st : List Value) (M : Mm) (Q : Option Value → Mm → Prop), wp F_Md_feed 6 [l0, l1, l2, l3, l4] (.int x :: st) M Q = wp F_Md_feed 7 [l0, l1, l2, l3, l4] (.long x.toInt64 :: st) M Q) ∧
  (∀ (l0 l1 l2 l3 l4 : Value) (st : List Value) (M : Mm) (Q : Option Value → Mm → Prop), wp F_Md_feed 7 [l0, l1, l2, l3, l4] st M Q = wp F_Md_feed 8 [l0, l1, l2, l3, l4] (.long 1 :: st) M Q) ∧
  (∀ (l0 l1 l2 l3 l4 : Value) (st : List Value) (M : Mm) (Q : Option Value → Mm → Prop), wp F_Md_feed 8 [l0, l1, l2, l3, l4] st M Q = wp F_Md_feed 11 [l0, l1, l2, l3, l4] (.long 8 :: st) M Q) ∧
  (∀ (l0 l1 l2 l3 l4 : Value) (p0 : Int64) (p1 : Int64) (p2 : Int64) (M : Mm) (Q : Option Value → Mm → Prop), wp F_Md_feed 11 [l0, l1, l2, l3, l4] [.long p2, .long p1, .long p0] M Q = wp F_Md_in 0 [.long p0, jk, .long p1, jk, .long p2, jk] [] M (fun r M1 => wp F_Md_feed 14 [l0, l1, l2, l3, l4] (r.toList ++ []) M1 Q)) ∧
  (∀ (l0 l1 l2 l3 l4 : Value) (x : Int32) (st : List Value) (M : Mm) (Q : Option Value → Mm → Prop), wp F_Md_feed 14 [l0, l1, l2, l3, l4] (.int x :: st) M Q = if x = 0 then wp F_Md_feed 17 [l0, l1, l2, l3, l4] st M Q else wp F_Md_feed 20 [l0, l1, l2, l3, l4] st M Q) ∧
  (∀ (l0 l1 l2 l3 l4 : Value) (st : List Value) (M : Mm) (Q : Option Value → Mm → Prop), wp F_Md_feed 17 [l0, l1, l2, l3, l4] st M Q = wp F_Md_feed 19 [l0, l1, l2, l3, l4] (.int (-2) :: st) M Q) ∧
  (∀ (l0 l1 l2 l3 l4 : Value) (v : Int32) (M : Mm) (Q : Option Value → Mm → Prop), wp F_Md_feed 19 [l0, l1, l2, l3, l4] [.int v] M Q = Q (some (.int v)) M) := ⟨fun _ _ _ _ _ _ _ _ => wp_in d_Md_feed_0 rfl rfl, fun _ _ _ _ _ _ _ _ => wp_iconst d_Md_feed_1 (by decide), fun _ _ _ _ _ _ _ _ _ _ => wp_putI d_Md_feed_2 fl_12_1 rfl rfl, fun _ _ _ _ _ _ _ _ => wp_in d_Md_feed_5 rfl rfl, fun _ _ _ _ _ _ _ _ _ => wp_in d_Md_feed_6 rfl rfl, fun _ _ _ _ _ _ _ _ => wp_lconst d_Md_feed_7 (by decide), fun _ _ _ _ _ _ _ _ => wp_ldc2 d_Md_feed_8 ll_12_7, fun _ _ _ _ _ _ _ _ _ _ => wp_callS d_Md_feed_11 ml_12_9 (Nat.le_of_ble_eq_true rfl) rfl rfl rfl, fun _ _ _ _ _ _ _ _ _ => wp_if_ne d_Md_feed_14 rfl, fun _ _ _ _ _ _ _ _ => wp_bipush d_Md_feed_17 (by decide), fun _ _ _ _ _ _ _ _ => wp_retI d_Md_feed_19 rfl⟩
theorem B_Md_feed_20 : (∀ (l1 l2 l3 l4 : Value) (x : Nat) (st : List Value) (M : Mm) (Q : Option Value → Mm → Prop), wp F_Md_feed 20 [.ref x, l1, l2, l3, l4] st M Q = wp F_Md_feed 21 [.ref x, l1, l2, l3, l4] (.ref x :: st) M Q) ∧
  (∀ (l0 l1 l2 l3 l4 : Value) (a : Nat) (st : List Value) (M : Mm) (Q : Option Value → Mm → Prop), wp F_Md_feed 21 [l0, l1, l2, l3, l4] (.ref a :: st) M Q = (sh M a = some (.inl 12) ∧ wp F_Md_feed 24 [l0, l1, l2, l3, l4] (.int (gI M a 2) :: st) M Q)) ∧
  (∀ (l0 l1 l2 l4 : Value) (x : Int32) (st : List Value) (M : Mm) (Q : Option Value → Mm → Prop), wp F_Md_feed 24 [l0, l1, l2, .int x, l4] st M Q = wp F_Md_feed 25 [l0, l1, l2, .int x, l4] (.int x :: st) M Q) ∧
  (∀ (l0 l1 l2 l3 l4 : Value) (x y : Int32) (st : List Value) (M : Mm) (Q : Option Value → Mm → Prop), wp F_Md_feed 25 [l0, l1, l2, l3, l4] (.int y :: .int x :: st) M Q = wp F_Md_feed 26 [l0, l1, l2, l3, l4] (.int (x + y) :: st) M Q) ∧
  (∀ (l0 l1 l2 l3 l4 : Value) (st : List Value) (M : Mm) (Q : Option Value → Mm → Prop), wp F_Md_feed 26 [l0, l1, l2, l3, l4] st M Q = wp F_Md_feed 29 [l0, l1, l2, l3, l4] (.int 600 :: st) M Q) ∧
  (∀ (l0 l1 l2 l3 l4 : Value) (x y : Int32) (st : List Value) (M : Mm) (Q : Option Value → Mm → Prop), wp F_Md_feed 29 [l0, l1, l2, l3, l4] (.int y :: .int x :: st) M Q = if x ≤ y then wp F_Md_feed 35 [l0, l1, l2, l3, l4] st M Q else wp F_Md_feed 32 [l0, l1, l2, l3, l4] st M Q) ∧
  (∀ (l0 l1 l2 l3 l4 : Value) (st : List Value) (M : Mm) (Q : Option Value → Mm → Prop), wp F_Md_feed 32 [l0, l1, l2, l3, l4] st M Q = wp F_Md_feed 34 [l0, l1, l2, l3, l4] (.int (-4) :: st) M Q) ∧
  (∀ (l0 l1 l2 l3 l4 : Value) (v : Int32) (M : Mm) (Q : Option Value → Mm → Prop), wp F_Md_feed 34 [l0, l1, l2, l3, l4] [.int v] M Q = Q (some (.int v)) M) := ⟨fun _ _ _ _ _ _ _ _ => wp_in d_Md_feed_20 rfl rfl, fun _ _ _ _ _ _ _ _ _ => wp_getI d_Md_feed_21 fl_12_13 rfl, fun _ _ _ _ _ _ _ _ => wp_in d_Md_feed_24 rfl rfl, fun _ _ _ _ _ _ _ _ _ _ => wp_in d_Md_feed_25 rfl rfl, fun _ _ _ _ _ _ _ _ => wp_sipush d_Md_feed_26 (by decide), fun _ _ _ _ _ _ _ _ _ _ => wp_icmp_le d_Md_feed_29 rfl, fun _ _ _ _ _ _ _ _ => wp_bipush d_Md_feed_32 (by decide), fun _ _ _ _ _ _ _ _ => wp_retI d_Md_feed_34 rfl⟩
theorem B_Md_feed_35 : (∀ (l0 l1 l2 l4 : Value) (x : Int32) (st : List Value) (M : Mm) (Q : Option Value → Mm → Prop), wp F_Md_feed 35 [l0, l1, l2, .int x, l4] st M Q = wp F_Md_feed 36 [l0, l1, l2, .int x, l4] (.int x :: st) M Q) ∧
  (∀ (l0 l1 l2 l3 l4 : Value) (st : List Value) (M : Mm) (Q : Option Value → Mm → Prop), wp F_Md_feed 36 [l0, l1, l2, l3, l4] st M Q = wp F_Md_feed 37 [l0, l1, l2, l3, l4] (.int 1 :: st) M Q) ∧
  (∀ (l0 l1 l2 l3 l4 : Value) (x y : Int32) (st : List Value) (M : Mm) (Q : Option Value → Mm → Prop), wp F_Md_feed 37 [l0, l1, l2, l3, l4] (.int y :: .int x :: st) M Q = wp F_Md_feed 38 [l0, l1, l2, l3, l4] (.int (x - y) :: st) M Q) ∧
  (∀ (l0 l1 l2 l3 l4 : Value) (x : Int32) (st : List Value) (M : Mm) (Q : Option Value → Mm → Prop), wp F_Md_feed 38 [l0, l1, l2, l3, l4] (.int x :: st) M Q = wp F_Md_feed 40 [l0, l1, l2, clr l3, .int x] st M Q) := ⟨fun _ _ _ _ _ _ _ _ => wp_in d_Md_feed_35 rfl rfl, fun _ _ _ _ _ _ _ _ => wp_iconst d_Md_feed_36 (by decide), fun _ _ _ _ _ _ _ _ _ _ => wp_in d_Md_feed_37 rfl rfl, fun _ _ _ _ _ _ _ _ _ => wp_in d_Md_feed_38 rfl rfl⟩
theorem B_Md_feed_40 : (∀ (l0 l1 l2 l3 : Value) (x : Int32) (st : List Value) (M : Mm) (Q : Option Value → Mm → Prop), wp F_Md_feed 40 [l0, l1, l2, l3, .int x] st M Q = wp F_Md_feed 42 [l0, l1, l2, l3, .int x] (.int x :: st) M Q) ∧
  (∀ (l0 l1 l2 l3 l4 : Value) (x : Int32) (st : List Value) (M : Mm) (Q : Option Value → Mm → Prop), wp F_Md_feed 42 [l0, l1, l2, l3, l4] (.int x :: st) M Q = if x < 0 then wp F_Md_feed 82 [l0, l1, l2, l3, l4] st M Q else wp F_Md_feed 45 [l0, l1, l2, l3, l4] st M Q) ∧
  (∀ (l1 l2 l3 l4 : Value) (x : Nat) (st : List Value) (M : Mm) (Q : Option Value → Mm → Prop), wp F_Md_feed 45 [.ref x, l1, l2, l3, l4] st M Q = wp F_Md_feed 46 [.ref x, l1, l2, l3, l4] (.ref x :: st) M Q) ∧
  (∀ (l0 l1 l2 l3 l4 : Value) (a : Nat) (st : List Value) (M : Mm) (Q : Option Value → Mm → Prop), wp F_Md_feed 46 [l0, l1, l2, l3, l4] (.ref a :: st) M Q = (sh M a = some (.inl 12) ∧ wp F_Md_feed 49 [l0, l1, l2, l3, l4] (va_rf (gR M a 1) :: st) M Q)) ∧
  (∀ (l1 l2 l3 l4 : Value) (x : Nat) (st : List Value) (M : Mm) (Q : Option Value → Mm → Prop), wp F_Md_feed 49 [.ref x, l1, l2, l3, l4] st M Q = wp F_Md_feed 50 [.ref x, l1, l2, l3, l4] (.ref x :: st) M Q) ∧
  (∀ (l0 l1 l2 l3 l4 : Value) (a : Nat) (st : List Value) (M : Mm) (Q : Option Value → Mm → Prop), wp F_Md_feed 50 [l0, l1, l2, l3, l4] (.ref a :: st) M Q = (sh M a = some (.inl 12) ∧ wp F_Md_feed 53 [l0, l1, l2, l3, l4] (.int (gI M a 2) :: st) M Q)) ∧
  (∀ (l0 l2 l3 l4 : Value) (x : Int64) (st : List Value) (M : Mm) (Q : Option Value → Mm → Prop), wp F_Md_feed 53 [l0, .long x, l2, l3, l4] st M Q = wp F_Md_feed 54 [l0, .long x, l2, l3, l4] (.long x :: st) M Q) ∧
  (∀ (l0 l1 l2 l3 l4 : Value) (st : List Value) (M : Mm) (Q : Option Value → Mm → Prop), wp F_Md_feed 54 [l0, l1, l2, l3, l4] st M Q = wp F_Md_feed 56 [l0, l1, l2, l3, l4] (.int 8 :: st) M Q) ∧
  (∀ (l0 l1 l2 l3 : Value) (x : Int32) (st : List Value) (M : Mm) (Q : Option Value → Mm → Prop), wp F_Md_feed 56 [l0, l1, l2, l3, .int x] st M Q = wp F_Md_feed 58 [l0, l1, l2, l3, .int x] (.int x :: st) M Q) ∧
  (∀ (l0 l1 l2 l3 l4 : Value) (x y : Int32) (st : List Value) (M : Mm) (Q : Option Value → Mm → Prop), wp F_Md_feed 58 [l0, l1, l2, l3, l4] (.int y :: .int x :: st) M Q = wp F_Md_feed 59 [l0, l1, l2, l3, l4] (.int (x * y) :: st) M Q) ∧
  (∀ (l0 l1 l2 l3 l4 : Value) (x : Int64) (y : Int32) (st : List Value) (M : Mm) (Q : Option Value → Mm → Prop), wp F_Md_feed 59 [l0, l1, l2, l3, l4] (.int y :: .long x :: st) M Q = wp F_Md_feed 60 [l0, l1, l2, l3, l4] (.long (x >>> (y.toInt64 &&& 63)) :: st) M Q) ∧
  (∀ (l0 l1 l2 l3 l4 : Value) (st : List Value) (M : Mm) (Q : Option Value → Mm → Prop), wp F_Md_feed 60 [l0, l1, l2, l3, l4] st M Q = wp F_Md_feed 63 [l0, l1, l2, l3, l4] (.long 255 :: st) M Q) ∧
  (∀ (l0 l1 l2 l3 l4 : Value) (x y : Int64) (st : List Value) (M : Mm) (Q : Option Value → Mm → Prop), wp F_Md_feed 63 [l0, l1, l2, l3, l4] (.long y :: .long x :: st) M Q = wp F_Md_feed 64 [l0, l1, l2, l3, l4] (.long (x &&& y) :: st) M Q) ∧
  (∀ (l0 l1 l2 l3 l4 : Value) (x : Int64) (st : List Value) (M : Mm) (Q : Option Value → Mm → Prop), wp F_Md_feed 64 [l0, l1, l2, l3, l4] (.long x :: st) M Q = wp F_Md_feed 65 [l0, l1, l2, l3, l4] (.int x.toInt32 :: st) M Q) ∧
  (∀ (l0 l1 l2 l3 l4 : Value) (a : Nat) (j x : Int32) (st : List Value) (M : Mm) (Q : Option Value → Mm → Prop), wp F_Md_feed 65 [l0, l1, l2, l3, l4] (.int x :: .int j :: .ref a :: st) M Q = (ixW M a j ∧ wp F_Md_feed 66 [l0, l1, l2, l3, l4] st (sI M a (cl j) x) Q)) ∧
  (∀ (l1 l2 l3 l4 : Value) (x : Nat) (st : List Value) (M : Mm) (Q : Option Value → Mm → Prop), wp F_Md_feed 66 [.ref x, l1, l2, l3, l4] st M Q = wp F_Md_feed 67 [.ref x, l1, l2, l3, l4] (.ref x :: st) M Q) ∧
  (∀ (l0 l1 l2 l3 l4 : Value) (x : Nat) (st : List Value) (M : Mm) (Q : Option Value → Mm → Prop), wp F_Md_feed 67 [l0, l1, l2, l3, l4] (.ref x :: st) M Q = wp F_Md_feed 68 [l0, l1, l2, l3, l4] (.ref x :: .ref x :: st) M Q) ∧
  (∀ (l0 l1 l2 l3 l4 : Value) (a : Nat) (st : List Value) (M : Mm) (Q : Option Value → Mm → Prop), wp F_Md_feed 68 [l0, l1, l2, l3, l4] (.ref a :: st) M Q = (sh M a = some (.inl 12) ∧ wp F_Md_feed 71 [l0, l1, l2, l3, l4] (.int (gI M a 2) :: st) M Q)) ∧
  (∀ (l0 l1 l2 l3 l4 : Value) (st : List Value) (M : Mm) (Q : Option Value → Mm → Prop), wp F_Md_feed 71 [l0, l1, l2, l3, l4] st M Q = wp F_Md_feed 72 [l0, l1, l2, l3, l4] (.int 1 :: st) M Q) ∧
  (∀ (l0 l1 l2 l3 l4 : Value) (x y : Int32) (st : List Value) (M : Mm) (Q : Option Value → Mm → Prop), wp F_Md_feed 72 [l0, l1, l2, l3, l4] (.int y :: .int x :: st) M Q = wp F_Md_feed 73 [l0, l1, l2, l3, l4] (.int (x + y) :: st) M Q) ∧
  (∀ (l0 l1 l2 l3 l4 : Value) (a : Nat) (x : Int32) (st : List Value) (M : Mm) (Q : Option Value → Mm → Prop), wp F_Md_feed 73 [l0, l1, l2, l3, l4] (.int x :: .ref a :: st) M Q = (sh M a = some (.inl 12) ∧ wp F_Md_feed 76 [l0, l1, l2, l3, l4] st (sI M a 2 x) Q)) ∧
  (∀ (l0 l1 l2 l3 : Value) (x : Int32) (st : List Value) (M : Mm) (Q : Option Value → Mm → Prop), wp F_Md_feed 76 [l0, l1, l2, l3, .int x] st M Q = wp F_Md_feed 79 [l0, l1, l2, clr l3, .int (x + (-1))] st M Q) := ⟨fun _ _ _ _ _ _ _ _ => wp_in d_Md_feed_40 rfl rfl, fun _ _ _ _ _ _ _ _ _ => wp_if_lt d_Md_feed_42 rfl, fun _ _ _ _ _ _ _ _ => wp_in d_Md_feed_45 rfl rfl, fun _ _ _ _ _ _ _ _ _ => wp_getA d_Md_feed_46 fl_12_16 rfl, fun _ _ _ _ _ _ _ _ => wp_in d_Md_feed_49 rfl rfl, fun _ _ _ _ _ _ _ _ _ => wp_getI d_Md_feed_50 fl_12_13 rfl, fun _ _ _ _ _ _ _ _ => wp_in d_Md_feed_53 rfl rfl, fun _ _ _ _ _ _ _ _ => wp_bipush d_Md_feed_54 (by decide), fun _ _ _ _ _ _ _ _ => wp_in d_Md_feed_56 rfl rfl, fun _ _ _ _ _ _ _ _ _ _ => wp_in d_Md_feed_58 rfl rfl, fun _ _ _ _ _ _ _ _ _ _ => wp_in d_Md_feed_59 rfl rfl, fun _ _ _ _ _ _ _ _ => wp_ldc2 d_Md_feed_60 ll_12_20, fun _ _ _ _ _ _ _ _ _ _ => wp_in d_Md_feed_63 rfl rfl, fun _ _ _ _ _ _ _ _ _ => wp_in d_Md_feed_64 rfl rfl, fun _ _ _ _ _ _ _ _ _ _ _ => wp_iast d_Md_feed_65, fun _ _ _ _ _ _ _ _ => wp_in d_Md_feed_66 rfl rfl, fun _ _ _ _ _ _ _ _ _ => wp_in d_Md_feed_67 rfl rfl, fun _ _ _ _ _ _ _ _ _ => wp_getI d_Md_feed_68 fl_12_13 rfl, fun _ _ _ _ _ _ _ _ => wp_iconst d_Md_feed_71 (by decide), fun _ _ _ _ _ _ _ _ _ _ => wp_in d_Md_feed_72 rfl rfl, fun _ _ _ _ _ _ _ _ _ _ => wp_putI d_Md_feed_73 fl_12_13 rfl rfl, fun _ _ _ _ _ _ _ _ => wp_iinc d_Md_feed_76 (by decide) rfl rfl⟩
theorem B_Md_feed_82 : (∀ (l1 l2 l3 l4 : Value) (x : Nat) (st : List Value) (M : Mm) (Q : Option Value → Mm → Prop), wp F_Md_feed 82 [.ref x, l1, l2, l3, l4] st M Q = wp F_Md_feed 83 [.ref x, l1, l2, l3, l4] (.ref x :: st) M Q) ∧
  (∀ (l0 l1 l2 l3 l4 : Value) (a : Nat) (st : List Value) (M : Mm) (Q : Option Value → Mm → Prop), wp F_Md_feed 83 [l0, l1, l2, l3, l4] (.ref a :: st) M Q = (sh M a = some (.inl 12) ∧ wp F_Md_feed 86 [l0, l1, l2, l3, l4] (.int (gI M a 2) :: st) M Q)) ∧
  (∀ (l0 l1 l2 l3 l4 : Value) (v : Int32) (M : Mm) (Q : Option Value → Mm → Prop), wp F_Md_feed 86 [l0, l1, l2, l3, l4] [.int v] M Q = Q (some (.int v)) M) := ⟨fun _ _ _ _ _ _ _ _ => wp_in d_Md_feed_82 rfl rfl, fun _ _ _ _ _ _ _ _ _ => wp_getI d_Md_feed_83 fl_12_13 rfl, fun _ _ _ _ _ _ _ _ => wp_retI d_Md_feed_86 rfl⟩
theorem G_Md_feed_79 (l0 l1 l2 l3 l4 : Value) (st : List Value) (M : Mm) (Q : Option Value → Mm → Prop) : wp F_Md_feed 79 [l0, l1, l2, l3, l4] st M Q = wp F_Md_feed 40 [l0, l1, l2, l3, l4] st M Q := wp_goto d_Md_feed_79 rfl
theorem d_Md_begin_0 : decode (fnB F_Md_begin) 0 = .ok (.aload_n 0, 1) := by decide +kernel
theorem d_Md_begin_1 : decode (fnB F_Md_begin) 1 = .ok (.aload_n 0, 1) := by decide +kernel
theorem d_Md_begin_2 : decode (fnB F_Md_begin) 2 = .ok (.getfield 13, 3) := by decide +kernel
theorem d_Md_begin_5 : decode (fnB F_Md_begin) 5 = .ok (.putfield 22, 3) := by decide +kernel
theorem d_Md_begin_8 : decode (fnB F_Md_begin) 8 = .ok (.aload_n 0, 1) := by decide +kernel
theorem d_Md_begin_9 : decode (fnB F_Md_begin) 9 = .ok (.iconst 0, 1) := by decide +kernel
theorem d_Md_begin_10 : decode (fnB F_Md_begin) 10 = .ok (.putfield 13, 3) := by decide +kernel
theorem d_Md_begin_13 : decode (fnB F_Md_begin) 13 = .ok (.aload_n 0, 1) := by decide +kernel
theorem d_Md_begin_14 : decode (fnB F_Md_begin) 14 = .ok (.iconst 0, 1) := by decide +kernel
theorem d_Md_begin_15 : decode (fnB F_Md_begin) 15 = .ok (.putfield 25, 3) := by decide +kernel
theorem d_Md_begin_18 : decode (fnB F_Md_begin) 18 = .ok (.aload_n 0, 1) := by decide +kernel
theorem d_Md_begin_19 : decode (fnB F_Md_begin) 19 = .ok (.iconst 0, 1) := by decide +kernel
theorem d_Md_begin_20 : decode (fnB F_Md_begin) 20 = .ok (.putfield 28, 3) := by decide +kernel
theorem d_Md_begin_23 : decode (fnB F_Md_begin) 23 = .ok (.aload_n 0, 1) := by decide +kernel
theorem d_Md_begin_24 : decode (fnB F_Md_begin) 24 = .ok (.iconst 0, 1) := by decide +kernel
theorem d_Md_begin_25 : decode (fnB F_Md_begin) 25 = .ok (.putfield 31, 3) := by decide +kernel
theorem d_Md_begin_28 : decode (fnB F_Md_begin) 28 = .ok (.return_, 1) := by decide +kernel
theorem B_Md_begin_0 : (∀ (x : Nat) (st : List Value) (M : Mm) (Q : Option Value → Mm → Prop), wp F_Md_begin 0 [.ref x] st M Q = wp F_Md_begin 1 [.ref x] (.ref x :: st) M Q) ∧
  (∀ (x : Nat) (st : List Value) (M : Mm) (Q : Option Value → Mm → Prop), wp F_Md_begin 1 [.ref x] st M Q = wp F_Md_begin 2 [.ref x] (.ref x :: st) M Q) ∧
  (∀ (l0 : Value) (a : Nat) (st : List Value) (M : Mm) (Q : Option Value → Mm → Prop), wp F_Md_begin 2 [l0] (.ref a :: st) M Q = (sh M a = some (.inl 12) ∧ wp F_Md_begin 5 [l0] (.int (gI M a 2) :: st) M Q)) ∧
  (∀ (l0 : Value) (a : Nat) (x : Int32) (st : List Value) (M : Mm) (Q : Option Value → Mm → Prop), wp F_Md_begin 5 [l0] (.int x :: .ref a :: st) M Q = (sh M a = some (.inl 12) ∧ wp F_Md_begin 8 [l0] st (sI M a 4 x) Q)) ∧
  (∀ (x : Nat) (st : List Value) (M : Mm) (Q : Option Value → Mm → Prop), wp F_Md_begin 8 [.ref x] st M Q = wp F_Md_begin 9 [.ref x] (.ref x :: st) M Q) ∧
  (∀ (l0 : Value) (st : List Value) (M : Mm) (Q : Option Value → Mm → Prop), wp F_Md_begin 9 [l0] st M Q = wp F_Md_begin 10 [l0] (.int 0 :: st) M Q) ∧
  (∀ (l0 : Value) (a : Nat) (x : Int32) (st : List Value) (M : Mm) (Q : Option Value → Mm → Prop), wp F_Md_begin 10 [l0] (.int x :: .ref a :: st) M Q = (sh M a = some (.inl 12) ∧ wp F_Md_begin 13 [l0] st (sI M a 2 x) Q)) ∧
  (∀ (x : Nat) (st : List Value) (M : Mm) (Q : Option Value → Mm → Prop), wp F_Md_begin 13 [.ref x] st M Q = wp F_Md_begin 14 [.ref x] (.ref x :: st) M Q) ∧
  (∀ (l0 : Value) (st : List Value) (M : Mm) (Q : Option Value → Mm → Prop), wp F_Md_begin 14 [l0] st M Q = wp F_Md_begin 15 [l0] (.int 0 :: st) M Q) ∧
  (∀ (l0 : Value) (a : Nat) (x : Int32) (st : List Value) (M : Mm) (Q : Option Value → Mm → Prop), wp F_Md_begin 15 [l0] (.int x :: .ref a :: st) M Q = (sh M a = some (.inl 12) ∧ wp F_Md_begin 18 [l0] st (sI M a 3 x) Q)) ∧
  (∀ (x : Nat) (st : List Value) (M : Mm) (Q : Option Value → Mm → Prop), wp F_Md_begin 18 [.ref x] st M Q = wp F_Md_begin 19 [.ref x] (.ref x :: st) M Q) ∧
  (∀ (l0 : Value) (st : List Value) (M : Mm) (Q : Option Value → Mm → Prop), wp F_Md_begin 19 [l0] st M Q = wp F_Md_begin 20 [l0] (.int 0 :: st) M Q) ∧
  (∀ (l0 : Value) (a : Nat) (x : Int32) (st : List Value) (M : Mm) (Q : Option Value → Mm → Prop), wp F_Md_begin 20 [l0] (.int x :: .ref a :: st) M Q = (sh M a = some (.inl 12) ∧ wp F_Md_begin 23 [l0] st (sI M a 5 x) Q)) ∧
  (∀ (x : Nat) (st : List Value) (M : Mm) (Q : Option Value → Mm → Prop), wp F_Md_begin 23 [.ref x] st M Q = wp F_Md_begin 24 [.ref x] (.ref x :: st) M Q) ∧
  (∀ (l0 : Value) (st : List Value) (M : Mm) (Q : Option Value → Mm → Prop), wp F_Md_begin 24 [l0] st M Q = wp F_Md_begin 25 [l0] (.int 0 :: st) M Q) ∧
  (∀ (l0 : Value) (a : Nat) (x : Int32) (st : List Value) (M : Mm) (Q : Option Value → Mm → Prop), wp F_Md_begin 25 [l0] (.int x :: .ref a :: st) M Q = (sh M a = some (.inl 12) ∧ wp F_Md_begin 28 [l0] st (sI M a 6 x) Q)) ∧
  (∀ (l0 : Value) (M : Mm) (Q : Option Value → Mm → Prop), wp F_Md_begin 28 [l0] [] M Q = Q none M) := ⟨fun _ _ _ _ => wp_in d_Md_begin_0 rfl rfl, fun _ _ _ _ => wp_in d_Md_begin_1 rfl rfl, fun _ _ _ _ _ => wp_getI d_Md_begin_2 fl_12_13 rfl, fun _ _ _ _ _ _ => wp_putI d_Md_begin_5 fl_12_22 rfl rfl, fun _ _ _ _ => wp_in d_Md_begin_8 rfl rfl, fun _ _ _ _ => wp_iconst d_Md_begin_9 (by decide), fun _ _ _ _ _ _ => wp_putI d_Md_begin_10 fl_12_13 rfl rfl, fun _ _ _ _ => wp_in d_Md_begin_13 rfl rfl, fun _ _ _ _ => wp_iconst d_Md_begin_14 (by decide), fun _ _ _ _ _ _ => wp_putI d_Md_begin_15 fl_12_25 rfl rfl, fun _ _ _ _ => wp_in d_Md_begin_18 rfl rfl, fun _ _ _ _ => wp_iconst d_Md_begin_19 (by decide), fun _ _ _ _ _ _ => wp_putI d_Md_begin_20 fl_12_28 rfl rfl, fun _ _ _ _ => wp_in d_Md_begin_23 rfl rfl, fun _ _ _ _ => wp_iconst d_Md_begin_24 (by decide), fun _ _ _ _ _ _ => wp_putI d_Md_begin_25 fl_12_31 rfl rfl, fun _ _ _ => wp_retV d_Md_begin_28 rfl⟩
theorem d_Md_here_0 : decode (fnB F_Md_here) 0 = .ok (.aload_n 0, 1) := by decide +kernel
theorem d_Md_here_1 : decode (fnB F_Md_here) 1 = .ok (.getfield 25, 3) := by decide +kernel
theorem d_Md_here_4 : decode (fnB F_Md_here) 4 = .ok (.aload_n 0, 1) := by decide +kernel
theorem d_Md_here_5 : decode (fnB F_Md_here) 5 = .ok (.getfield 22, 3) := by decide +kernel
theorem d_Md_here_8 : decode (fnB F_Md_here) 8 = .ok (.if_icmp .ge 44, 3) := by decide +kernel
theorem d_Md_here_11 : decode (fnB F_Md_here) 11 = .ok (.aload_n 0, 1) := by decide +kernel
theorem d_Md_here_12 : decode (fnB F_Md_here) 12 = .ok (.getfield 16, 3) := by decide +kernel
theorem d_Md_here_15 : decode (fnB F_Md_here) 15 = .ok (.aload_n 0, 1) := by decide +kernel
theorem d_Md_here_16 : decode (fnB F_Md_here) 16 = .ok (.getfield 25, 3) := by decide +kernel
theorem d_Md_here_19 : decode (fnB F_Md_here) 19 = .ok (.iaload, 1) := by decide +kernel
theorem d_Md_here_20 : decode (fnB F_Md_here) 20 = .ok (.bipush 32, 2) := by decide +kernel
theorem d_Md_here_22 : decode (fnB F_Md_here) 22 = .ok (.if_icmp .eq 17, 3) := by decide +kernel
theorem d_Md_here_25 : decode (fnB F_Md_here) 25 = .ok (.aload_n 0, 1) := by decide +kernel
theorem d_Md_here_26 : decode (fnB F_Md_here) 26 = .ok (.getfield 16, 3) := by decide +kernel
theorem d_Md_here_29 : decode (fnB F_Md_here) 29 = .ok (.aload_n 0, 1) := by decide +kernel
theorem d_Md_here_30 : decode (fnB F_Md_here) 30 = .ok (.getfield 25, 3) := by decide +kernel
theorem d_Md_here_33 : decode (fnB F_Md_here) 33 = .ok (.iaload, 1) := by decide +kernel
theorem d_Md_here_34 : decode (fnB F_Md_here) 34 = .ok (.bipush 10, 2) := by decide +kernel
theorem d_Md_here_36 : decode (fnB F_Md_here) 36 = .ok (.if_icmp .ne 16, 3) := by decide +kernel
theorem d_Md_here_39 : decode (fnB F_Md_here) 39 = .ok (.aload_n 0, 1) := by decide +kernel
theorem d_Md_here_40 : decode (fnB F_Md_here) 40 = .ok (.dup, 1) := by decide +kernel
theorem d_Md_here_41 : decode (fnB F_Md_here) 41 = .ok (.getfield 25, 3) := by decide +kernel
theorem d_Md_here_44 : decode (fnB F_Md_here) 44 = .ok (.iconst 1, 1) := by decide +kernel
theorem d_Md_here_45 : decode (fnB F_Md_here) 45 = .ok (.iadd, 1) := by decide +kernel
theorem d_Md_here_46 : decode (fnB F_Md_here) 46 = .ok (.putfield 25, 3) := by decide +kernel
theorem d_Md_here_49 : decode (fnB F_Md_here) 49 = .ok (.goto (-49), 3) := by decide +kernel
theorem d_Md_here_52 : decode (fnB F_Md_here) 52 = .ok (.aload_n 0, 1) := by decide +kernel
theorem d_Md_here_53 : decode (fnB F_Md_here) 53 = .ok (.getfield 25, 3) := by decide +kernel
theorem d_Md_here_56 : decode (fnB F_Md_here) 56 = .ok (.aload_n 0, 1) := by decide +kernel
theorem d_Md_here_57 : decode (fnB F_Md_here) 57 = .ok (.getfield 22, 3) := by decide +kernel
theorem d_Md_here_60 : decode (fnB F_Md_here) 60 = .ok (.if_icmp .ge 15, 3) := by decide +kernel
theorem d_Md_here_63 : decode (fnB F_Md_here) 63 = .ok (.aload_n 0, 1) := by decide +kernel
theorem d_Md_here_64 : decode (fnB F_Md_here) 64 = .ok (.getfield 16, 3) := by decide +kernel
theorem d_Md_here_67 : decode (fnB F_Md_here) 67 = .ok (.aload_n 0, 1) := by decide +kernel
theorem d_Md_here_68 : decode (fnB F_Md_here) 68 = .ok (.getfield 25, 3) := by decide +kernel
theorem d_Md_here_71 : decode (fnB F_Md_here) 71 = .ok (.iaload, 1) := by decide +kernel
theorem d_Md_here_72 : decode (fnB F_Md_here) 72 = .ok (.goto 4, 3) := by decide +kernel
theorem d_Md_here_75 : decode (fnB F_Md_here) 75 = .ok (.iconst (-1), 1) := by decide +kernel
theorem d_Md_here_76 : decode (fnB F_Md_here) 76 = .ok (.ireturn, 1) := by decide +kernel
theorem B_Md_here_0 : (∀ (x : Nat) (st : List Value) (M : Mm) (Q : Option Value → Mm → Prop), wp F_Md_here 0 [.ref x] st M Q = wp F_Md_here 1 [.ref x] (.ref x :: st) M Q) ∧
  (∀ (l0 : Value) (a : Nat) (st : List Value) (M : Mm) (Q : Option Value → Mm → Prop), wp F_Md_here 1 [l0] (.ref a :: st) M Q = (sh M a = some (.inl 12) ∧ wp F_Md_here 4 [l0] (.int (gI M a 3) :: st) M Q)) ∧
  (∀ (x : Nat) (st : List Value) (M : Mm) (Q : Option Value → Mm → Prop), wp F_Md_here 4 [.ref x] st M Q = wp F_Md_here 5 [.ref x] (.ref x :: st) M Q) ∧
  (∀ (l0 : Value) (a : Nat) (st : List Value) (M : Mm) (Q : Option Value → Mm → Prop), wp F_Md_here 5 [l0] (.ref a :: st) M Q = (sh M a = some (.inl 12) ∧ wp F_Md_here 8 [l0] (.int (gI M a 4) :: st) M Q)) ∧
  (∀ (l0 : Value) (x y : Int32) (st : List Value) (M : Mm) (Q : Option Value → Mm → Prop), wp F_Md_here 8 [l0] (.int y :: .int x :: st) M Q = if y ≤ x then wp F_Md_here 52 [l0] st M Q else wp F_Md_here 11 [l0] st M Q) ∧
  (∀ (x : Nat) (st : List Value) (M : Mm) (Q : Option Value → Mm → Prop), wp F_Md_here 11 [.ref x] st M Q = wp F_Md_here 12 [.ref x] (.ref x :: st) M Q) ∧
  (∀ (l0 : Value) (a : Nat) (st : List Value) (M : Mm) (Q : Option Value → Mm → Prop), wp F_Md_here 12 [l0] (.ref a :: st) M Q = (sh M a = some (.inl 12) ∧ wp F_Md_here 15 [l0] (va_rf (gR M a 1) :: st) M Q)) ∧
  (∀ (x : Nat) (st : List Value) (M : Mm) (Q : Option Value → Mm → Prop), wp F_Md_here 15 [.ref x] st M Q = wp F_Md_here 16 [.ref x] (.ref x :: st) M Q) ∧
  (∀ (l0 : Value) (a : Nat) (st : List Value) (M : Mm) (Q : Option Value → Mm → Prop), wp F_Md_here 16 [l0] (.ref a :: st) M Q = (sh M a = some (.inl 12) ∧ wp F_Md_here 19 [l0] (.int (gI M a 3) :: st) M Q)) ∧
  (∀ (l0 : Value) (a : Nat) (j : Int32) (st : List Value) (M : Mm) (Q : Option Value → Mm → Prop), wp F_Md_here 19 [l0] (.int j :: .ref a :: st) M Q = (ixI M a j ∧ wp F_Md_here 20 [l0] (.int (gI M a (cl j)) :: st) M Q)) ∧
  (∀ (l0 : Value) (st : List Value) (M : Mm) (Q : Option Value → Mm → Prop), wp F_Md_here 20 [l0] st M Q = wp F_Md_here 22 [l0] (.int 32 :: st) M Q) ∧
  (∀ (l0 : Value) (x y : Int32) (st : List Value) (M : Mm) (Q : Option Value → Mm → Prop), wp F_Md_here 22 [l0] (.int y :: .int x :: st) M Q = if x = y then wp F_Md_here 39 [l0] st M Q else wp F_Md_here 25 [l0] st M Q) ∧
  (∀ (x : Nat) (st : List Value) (M : Mm) (Q : Option Value → Mm → Prop), wp F_Md_here 25 [.ref x] st M Q = wp F_Md_here 26 [.ref x] (.ref x :: st) M Q) ∧
  (∀ (l0 : Value) (a : Nat) (st : List Value) (M : Mm) (Q : Option Value → Mm → Prop), wp F_Md_here 26 [l0] (.ref a :: st) M Q = (sh M a = some (.inl 12) ∧ wp F_Md_here 29 [l0] (va_rf (gR M a 1) :: st) M Q)) ∧
  (∀ (x : Nat) (st : List Value) (M : Mm) (Q : Option Value → Mm → Prop), wp F_Md_here 29 [.ref x] st M Q = wp F_Md_here 30 [.ref x] (.ref x :: st) M Q) ∧
  (∀ (l0 : Value) (a : Nat) (st : List Value) (M : Mm) (Q : Option Value → Mm → Prop), wp F_Md_here 30 [l0] (.ref a :: st) M Q = (sh M a = some (.inl 12) ∧ wp F_Md_here 33 [l0] (.int (gI M a 3) :: st) M Q)) ∧
  (∀ (l0 : Value) (a : Nat) (j : Int32) (st : List Value) (M : Mm) (Q : Option Value → Mm → Prop), wp F_Md_here 33 [l0] (.int j :: .ref a :: st) M Q = (ixI M a j ∧ wp F_Md_here 34 [l0] (.int (gI M a (cl j)) :: st) M Q)) ∧
  (∀ (l0 : Value) (st : List Value) (M : Mm) (Q : Option Value → Mm → Prop), wp F_Md_here 34 [l0] st M Q = wp F_Md_here 36 [l0] (.int 10 :: st) M Q) ∧
  (∀ (l0 : Value) (x y : Int32) (st : List Value) (M : Mm) (Q : Option Value → Mm → Prop), wp F_Md_here 36 [l0] (.int y :: .int x :: st) M Q = if x = y then wp F_Md_here 39 [l0] st M Q else wp F_Md_here 52 [l0] st M Q) := ⟨fun _ _ _ _ => wp_in d_Md_here_0 rfl rfl, fun _ _ _ _ _ => wp_getI d_Md_here_1 fl_12_25 rfl, fun _ _ _ _ => wp_in d_Md_here_4 rfl rfl, fun _ _ _ _ _ => wp_getI d_Md_here_5 fl_12_22 rfl, fun _ _ _ _ _ _ => wp_icmp_ge d_Md_here_8 rfl, fun _ _ _ _ => wp_in d_Md_here_11 rfl rfl, fun _ _ _ _ _ => wp_getA d_Md_here_12 fl_12_16 rfl, fun _ _ _ _ => wp_in d_Md_here_15 rfl rfl, fun _ _ _ _ _ => wp_getI d_Md_here_16 fl_12_25 rfl, fun _ _ _ _ _ _ => wp_iald d_Md_here_19, fun _ _ _ _ => wp_bipush d_Md_here_20 (by decide), fun _ _ _ _ _ _ => wp_icmp_eq d_Md_here_22 rfl, fun _ _ _ _ => wp_in d_Md_here_25 rfl rfl, fun _ _ _ _ _ => wp_getA d_Md_here_26 fl_12_16 rfl, fun _ _ _ _ => wp_in d_Md_here_29 rfl rfl, fun _ _ _ _ _ => wp_getI d_Md_here_30 fl_12_25 rfl, fun _ _ _ _ _ _ => wp_iald d_Md_here_33, fun _ _ _ _ => wp_bipush d_Md_here_34 (by decide), fun _ _ _ _ _ _ => wp_icmp_ne d_Md_here_36 rfl⟩
theorem B_Md_here_39 : (∀ (x : Nat) (st : List Value) (M : Mm) (Q : Option Value → Mm → Prop), wp F_Md_here 39 [.ref x] st M Q = wp F_Md_here 40 [.ref x] (.ref x :: st) M Q) ∧
  (∀ (l0 : Value) (x : Nat) (st : List Value) (M : Mm) (Q : Option Value → Mm → Prop), wp F_Md_here 40 [l0] (.ref x :: st) M Q = wp F_Md_here 41 [l0] (.ref x :: .ref x :: st) M Q) ∧
  (∀ (l0 : Value) (a : Nat) (st : List Value) (M : Mm) (Q : Option Value → Mm → Prop), wp F_Md_here 41 [l0] (.ref a :: st) M Q = (sh M a = some (.inl 12) ∧ wp F_Md_here 44 [l0] (.int (gI M a 3) :: st) M Q)) ∧
  (∀ (l0 : Value) (st : List Value) (M : Mm) (Q : Option Value → Mm → Prop), wp F_Md_here 44 [l0] st M Q = wp F_Md_here 45 [l0] (.int 1 :: st) M Q) ∧
  (∀ (l0 : Value) (x y : Int32) (st : List Value) (M : Mm) (Q : Option Value → Mm → Prop), wp F_Md_here 45 [l0] (.int y :: .int x :: st) M Q = wp F_Md_here 46 [l0] (.int (x + y) :: st) M Q) ∧
  (∀ (l0 : Value) (a : Nat) (x : Int32) (st : List Value) (M : Mm) (Q : Option Value → Mm → Prop), wp F_Md_here 46 [l0] (.int x :: .ref a :: st) M Q = (sh M a = some (.inl 12) ∧ wp F_Md_here 49 [l0] st (sI M a 3 x) Q)) := ⟨fun _ _ _ _ => wp_in d_Md_here_39 rfl rfl, fun _ _ _ _ _ => wp_in d_Md_here_40 rfl rfl, fun _ _ _ _ _ => wp_getI d_Md_here_41 fl_12_25 rfl, fun _ _ _ _ => wp_iconst d_Md_here_44 (by decide), fun _ _ _ _ _ _ => wp_in d_Md_here_45 rfl rfl, fun _ _ _ _ _ _ => wp_putI d_Md_here_46 fl_12_25 rfl rfl⟩
theorem B_Md_here_52 : (∀ (x : Nat) (st : List Value) (M : Mm) (Q : Option Value → Mm → Prop), wp F_Md_here 52 [.ref x] st M Q = wp F_Md_here 53 [.ref x] (.ref x :: st) M Q) ∧
  (∀ (l0 : Value) (a : Nat) (st : List Value) (M : Mm) (Q : Option Value → Mm → Prop), wp F_Md_here 53 [l0] (.ref a :: st) M Q = (sh M a = some (.inl 12) ∧ wp F_Md_here 56 [l0] (.int (gI M a 3) :: st) M Q)) ∧
  (∀ (x : Nat) (st : List Value) (M : Mm) (Q : Option Value → Mm → Prop), wp F_Md_here 56 [.ref x] st M Q = wp F_Md_here 57 [.ref x] (.ref x :: st) M Q) ∧
  (∀ (l0 : Value) (a : Nat) (st : List Value) (M : Mm) (Q : Option Value → Mm → Prop), wp F_Md_here 57 [l0] (.ref a :: st) M Q = (sh M a = some (.inl 12) ∧ wp F_Md_here 60 [l0] (.int (gI M a 4) :: st) M Q)) ∧
  (∀ (l0 : Value) (x y : Int32) (st : List Value) (M : Mm) (Q : Option Value → Mm → Prop), wp F_Md_here 60 [l0] (.int y :: .int x :: st) M Q = if y ≤ x then wp F_Md_here 75 [l0] st M Q else wp F_Md_here 63 [l0] st M Q) ∧
  (∀ (x : Nat) (st : List Value) (M : Mm) (Q : Option Value → Mm → Prop), wp F_Md_here 63 [.ref x] st M Q = wp F_Md_here 64 [.ref x] (.ref x :: st) M Q) ∧
  (∀ (l0 : Value) (a : Nat) (st : List Value) (M : Mm) (Q : Option Value → Mm → Prop), wp F_Md_here 64 [l0] (.ref a :: st) M Q = (sh M a = some (.inl 12) ∧ wp F_Md_here 67 [l0] (va_rf (gR M a 1) :: st) M Q)) ∧
  (∀ (x : Nat) (st : List Value) (M : Mm) (Q : Option Value → Mm → Prop), wp F_Md_here 67 [.ref x] st M Q = wp F_Md_here 68 [.ref x] (.ref x :: st) M Q) ∧
  (∀ (l0 : Value) (a : Nat) (st : List Value) (M : Mm) (Q : Option Value → Mm → Prop), wp F_Md_here 68 [l0] (.ref a :: st) M Q = (sh M a = some (.inl 12) ∧ wp F_Md_here 71 [l0] (.int (gI M a 3) :: st) M Q)) ∧
  (∀ (l0 : Value) (a : Nat) (j : Int32) (st : List Value) (M : Mm) (Q : Option Value → Mm → Prop), wp F_Md_here 71 [l0] (.int j :: .ref a :: st) M Q = (ixI M a j ∧ wp F_Md_here 72 [l0] (.int (gI M a (cl j)) :: st) M Q)) ∧
  (∀ (l0 : Value) (st : List Value) (M : Mm) (Q : Option Value → Mm → Prop), wp F_Md_here 72 [l0] st M Q = wp F_Md_here 76 [l0] st M Q) := ⟨fun _ _ _ _ => wp_in d_Md_here_52 rfl rfl, fun _ _ _ _ _ => wp_getI d_Md_here_53 fl_12_25 rfl, fun _ _ _ _ => wp_in d_Md_here_56 rfl rfl, fun _ _ _ _ _ => wp_getI d_Md_here_57 fl_12_22 rfl, fun _ _ _ _ _ _ => wp_icmp_ge d_Md_here_60 rfl, fun _ _ _ _ => wp_in d_Md_here_63 rfl rfl, fun _ _ _ _ _ => wp_getA d_Md_here_64 fl_12_16 rfl, fun _ _ _ _ => wp_in d_Md_here_67 rfl rfl, fun _ _ _ _ _ => wp_getI d_Md_here_68 fl_12_25 rfl, fun _ _ _ _ _ _ => wp_iald d_Md_here_71, fun _ _ _ _ => wp_goto d_Md_here_72 rfl⟩
theorem B_Md_here_75 : (∀ (l0 : Value) (st : List Value) (M : Mm) (Q : Option Value → Mm → Prop), wp F_Md_here 75 [l0] st M Q = wp F_Md_here 76 [l0] (.int (-1) :: st) M Q) := fun _ _ _ _ => wp_iconst d_Md_here_75 (by decide)
theorem B_Md_here_76 : (∀ (l0 : Value) (v : Int32) (M : Mm) (Q : Option Value → Mm → Prop), wp F_Md_here 76 [l0] [.int v] M Q = Q (some (.int v)) M) := fun _ _ _ _ => wp_retI d_Md_here_76 rfl
theorem G_Md_here_49 (l0 : Value) (st : List Value) (M : Mm) (Q : Option Value → Mm → Prop) : wp F_Md_here 49 [l0] st M Q = wp F_Md_here 0 [l0] st M Q := wp_goto d_Md_here_49 rfl
theorem d_Md_bad_0 : decode (fnB F_Md_bad) 0 = .ok (.aload_n 0, 1) := by decide +kernel
theorem d_Md_bad_1 : decode (fnB F_Md_bad) 1 = .ok (.getfield 28, 3) := by decide +kernel
theorem d_Md_bad_4 : decode (fnB F_Md_bad) 4 = .ok (.ifCond .ne 16, 3) := by decide +kernel
theorem d_Md_bad_7 : decode (fnB F_Md_bad) 7 = .ok (.aload_n 0, 1) := by decide +kernel
theorem d_Md_bad_8 : decode (fnB F_Md_bad) 8 = .ok (.iload_n 1, 1) := by decide +kernel
theorem d_Md_bad_9 : decode (fnB F_Md_bad) 9 = .ok (.putfield 28, 3) := by decide +kernel
theorem d_Md_bad_12 : decode (fnB F_Md_bad) 12 = .ok (.aload_n 0, 1) := by decide +kernel
theorem d_Md_bad_13 : decode (fnB F_Md_bad) 13 = .ok (.aload_n 0, 1) := by decide +kernel
theorem d_Md_bad_14 : decode (fnB F_Md_bad) 14 = .ok (.getfield 25, 3) := by decide +kernel
theorem d_Md_bad_17 : decode (fnB F_Md_bad) 17 = .ok (.putfield 31, 3) := by decide +kernel
theorem d_Md_bad_20 : decode (fnB F_Md_bad) 20 = .ok (.return_, 1) := by decide +kernel
theorem B_Md_bad_0 : (∀ (l1 : Value) (x : Nat) (st : List Value) (M : Mm) (Q : Option Value → Mm → Prop), wp F_Md_bad 0 [.ref x, l1] st M Q = wp F_Md_bad 1 [.ref x, l1] (.ref x :: st) M Q) ∧
  (∀ (l0 l1 : Value) (a : Nat) (st : List Value) (M : Mm) (Q : Option Value → Mm → Prop), wp F_Md_bad 1 [l0, l1] (.ref a :: st) M Q = (sh M a = some (.inl 12) ∧ wp F_Md_bad 4 [l0, l1] (.int (gI M a 5) :: st) M Q)) ∧
  (∀ (l0 l1 : Value) (x : Int32) (st : List Value) (M : Mm) (Q : Option Value → Mm → Prop), wp F_Md_bad 4 [l0, l1] (.int x :: st) M Q = if x = 0 then wp F_Md_bad 7 [l0, l1] st M Q else wp F_Md_bad 20 [l0, l1] st M Q) ∧
  (∀ (l1 : Value) (x : Nat) (st : List Value) (M : Mm) (Q : Option Value → Mm → Prop), wp F_Md_bad 7 [.ref x, l1] st M Q = wp F_Md_bad 8 [.ref x, l1] (.ref x :: st) M Q) ∧
  (∀ (l0 : Value) (x : Int32) (st : List Value) (M : Mm) (Q : Option Value → Mm → Prop), wp F_Md_bad 8 [l0, .int x] st M Q = wp F_Md_bad 9 [l0, .int x] (.int x :: st) M Q) ∧
  (∀ (l0 l1 : Value) (a : Nat) (x : Int32) (st : List Value) (M : Mm) (Q : Option Value → Mm → Prop), wp F_Md_bad 9 [l0, l1] (.int x :: .ref a :: st) M Q = (sh M a = some (.inl 12) ∧ wp F_Md_bad 12 [l0, l1] st (sI M a 5 x) Q)) ∧
  (∀ (l1 : Value) (x : Nat) (st : List Value) (M : Mm) (Q : Option Value → Mm → Prop), wp F_Md_bad 12 [.ref x, l1] st M Q = wp F_Md_bad 13 [.ref x, l1] (.ref x :: st) M Q) ∧
  (∀ (l1 : Value) (x : Nat) (st : List Value) (M : Mm) (Q : Option Value → Mm → Prop), wp F_Md_bad 13 [.ref x, l1] st M Q = wp F_Md_bad 14 [.ref x, l1] (.ref x :: st) M Q) ∧
  (∀ (l0 l1 : Value) (a : Nat) (st : List Value) (M : Mm) (Q : Option Value → Mm → Prop), wp F_Md_bad 14 [l0, l1] (.ref a :: st) M Q = (sh M a = some (.inl 12) ∧ wp F_Md_bad 17 [l0, l1] (.int (gI M a 3) :: st) M Q)) ∧
  (∀ (l0 l1 : Value) (a : Nat) (x : Int32) (st : List Value) (M : Mm) (Q : Option Value → Mm → Prop), wp F_Md_bad 17 [l0, l1] (.int x :: .ref a :: st) M Q = (sh M a = some (.inl 12) ∧ wp F_Md_bad 20 [l0, l1] st (sI M a 6 x) Q)) := ⟨fun _ _ _ _ _ => wp_in d_Md_bad_0 rfl rfl, fun _ _ _ _ _ _ => wp_getI d_Md_bad_1 fl_12_28 rfl, fun _ _ _ _ _ _ => wp_if_ne d_Md_bad_4 rfl, fun _ _ _ _ _ => wp_in d_Md_bad_7 rfl rfl, fun _ _ _ _ _ => wp_in d_Md_bad_8 rfl rfl, fun _ _ _ _ _ _ _ => wp_putI d_Md_bad_9 fl_12_28 rfl rfl, fun _ _ _ _ _ => wp_in d_Md_bad_12 rfl rfl, fun _ _ _ _ _ => wp_in d_Md_bad_13 rfl rfl, fun _ _ _ _ _ _ => wp_getI d_Md_bad_14 fl_12_25 rfl, fun _ _ _ _ _ _ _ => wp_putI d_Md_bad_17 fl_12_31 rfl rfl⟩
theorem B_Md_bad_20 : (∀ (l0 l1 : Value) (M : Mm) (Q : Option Value → Mm → Prop), wp F_Md_bad 20 [l0, l1] [] M Q = Q none M) := fun _ _ _ _ => wp_retV d_Md_bad_20 rfl
theorem d_Md_isLetter_0 : decode (fnB F_Md_isLetter) 0 = .ok (.iload_n 0, 1) := by decide +kernel
theorem d_Md_isLetter_1 : decode (fnB F_Md_isLetter) 1 = .ok (.bipush 97, 2) := by decide +kernel
theorem d_Md_isLetter_3 : decode (fnB F_Md_isLetter) 3 = .ok (.if_icmp .lt 13, 3) := by decide +kernel
theorem d_Md_isLetter_6 : decode (fnB F_Md_isLetter) 6 = .ok (.iload_n 0, 1) := by decide +kernel
theorem d_Md_isLetter_7 : decode (fnB F_Md_isLetter) 7 = .ok (.bipush 122, 2) := by decide +kernel
theorem d_Md_isLetter_9 : decode (fnB F_Md_isLetter) 9 = .ok (.if_icmp .gt 7, 3) := by decide +kernel
theorem d_Md_isLetter_12 : decode (fnB F_Md_isLetter) 12 = .ok (.iconst 1, 1) := by decide +kernel
theorem d_Md_isLetter_13 : decode (fnB F_Md_isLetter) 13 = .ok (.goto 4, 3) := by decide +kernel
theorem d_Md_isLetter_16 : decode (fnB F_Md_isLetter) 16 = .ok (.iconst 0, 1) := by decide +kernel
theorem d_Md_isLetter_17 : decode (fnB F_Md_isLetter) 17 = .ok (.ireturn, 1) := by decide +kernel
theorem B_Md_isLetter_0 : (∀ (x : Int32) (st : List Value) (M : Mm) (Q : Option Value → Mm → Prop), wp F_Md_isLetter 0 [.int x] st M Q = wp F_Md_isLetter 1 [.int x] (.int x :: st) M Q) ∧
  (∀ (l0 : Value) (st : List Value) (M : Mm) (Q : Option Value → Mm → Prop), wp F_Md_isLetter 1 [l0] st M Q = wp F_Md_isLetter 3 [l0] (.int 97 :: st) M Q) ∧
  (∀ (l0 : Value) (x y : Int32) (st : List Value) (M : Mm) (Q : Option Value → Mm → Prop), wp F_Md_isLetter 3 [l0] (.int y :: .int x :: st) M Q = if x < y then wp F_Md_isLetter 16 [l0] st M Q else wp F_Md_isLetter 6 [l0] st M Q) ∧
  (∀ (x : Int32) (st : List Value) (M : Mm) (Q : Option Value → Mm → Prop), wp F_Md_isLetter 6 [.int x] st M Q = wp F_Md_isLetter 7 [.int x] (.int x :: st) M Q) ∧
  (∀ (l0 : Value) (st : List Value) (M : Mm) (Q : Option Value → Mm → Prop), wp F_Md_isLetter 7 [l0] st M Q = wp F_Md_isLetter 9 [l0] (.int 122 :: st) M Q) ∧
  (∀ (l0 : Value) (x y : Int32) (st : List Value) (M : Mm) (Q : Option Value → Mm → Prop), wp F_Md_isLetter 9 [l0] (.int y :: .int x :: st) M Q = if y < x then wp F_Md_isLetter 16 [l0] st M Q else wp F_Md_isLetter 12 [l0] st M Q) ∧
  (∀ (l0 : Value) (st : List Value) (M : Mm) (Q : Option Value → Mm → Prop), wp F_Md_isLetter 12 [l0] st M Q = wp F_Md_isLetter 13 [l0] (.int 1 :: st) M Q) ∧
  (∀ (l0 : Value) (st : List Value) (M : Mm) (Q : Option Value → Mm → Prop), wp F_Md_isLetter 13 [l0] st M Q = wp F_Md_isLetter 17 [l0] st M Q) := ⟨fun _ _ _ _ => wp_in d_Md_isLetter_0 rfl rfl, fun _ _ _ _ => wp_bipush d_Md_isLetter_1 (by decide), fun _ _ _ _ _ _ => wp_icmp_lt d_Md_isLetter_3 rfl, fun _ _ _ _ => wp_in d_Md_isLetter_6 rfl rfl, fun _ _ _ _ => wp_bipush d_Md_isLetter_7 (by decide), fun _ _ _ _ _ _ => wp_icmp_gt d_Md_isLetter_9 rfl, fun _ _ _ _ => wp_iconst d_Md_isLetter_12 (by decide), fun _ _ _ _ => wp_goto d_Md_isLetter_13 rfl⟩
theorem B_Md_isLetter_16 : (∀ (l0 : Value) (st : List Value) (M : Mm) (Q : Option Value → Mm → Prop), wp F_Md_isLetter 16 [l0] st M Q = wp F_Md_isLetter 17 [l0] (.int 0 :: st) M Q) := fun _ _ _ _ => wp_iconst d_Md_isLetter_16 (by decide)
theorem B_Md_isLetter_17 : (∀ (l0 : Value) (v : Int32) (M : Mm) (Q : Option Value → Mm → Prop), wp F_Md_isLetter 17 [l0] [.int v] M Q = ((v = 0 ∨ v = 1) ∧ Q (some (.int v)) M)) := fun _ _ _ _ => wp_retZ d_Md_isLetter_17 rfl
theorem d_Md_readLetters_0 : decode (fnB F_Md_readLetters) 0 = .ok (.aload_n 0, 1) := by decide +kernel
theorem d_Md_readLetters_1 : decode (fnB F_Md_readLetters) 1 = .ok (.iconst 0, 1) := by decide +kernel
theorem d_Md_readLetters_2 : decode (fnB F_Md_readLetters) 2 = .ok (.putfield 34, 3) := by decide +kernel
theorem d_Md_readLetters_5 : decode (fnB F_Md_readLetters) 5 = .ok (.iconst 0, 1) := by decide +kernel
theorem d_Md_readLetters_6 : decode (fnB F_Md_readLetters) 6 = .ok (.istore_n 1, 1) := by decide +kernel
theorem d_Md_readLetters_7 : decode (fnB F_Md_readLetters) 7 = .ok (.iload_n 1, 1) := by decide +kernel
theorem d_Md_readLetters_8 : decode (fnB F_Md_readLetters) 8 = .ok (.bipush 26, 2) := by decide +kernel
theorem d_Md_readLetters_10 : decode (fnB F_Md_readLetters) 10 = .ok (.if_icmp .ge 16, 3) := by decide +kernel
theorem d_Md_readLetters_13 : decode (fnB F_Md_readLetters) 13 = .ok (.aload_n 0, 1) := by decide +kernel
theorem d_Md_readLetters_14 : decode (fnB F_Md_readLetters) 14 = .ok (.getfield 37, 3) := by decide +kernel
theorem d_Md_readLetters_17 : decode (fnB F_Md_readLetters) 17 = .ok (.iload_n 1, 1) := by decide +kernel
theorem d_Md_readLetters_18 : decode (fnB F_Md_readLetters) 18 = .ok (.iconst (-1), 1) := by decide +kernel
theorem d_Md_readLetters_19 : decode (fnB F_Md_readLetters) 19 = .ok (.iastore, 1) := by decide +kernel
theorem d_Md_readLetters_20 : decode (fnB F_Md_readLetters) 20 = .ok (.iinc 1 1, 3) := by decide +kernel
theorem d_Md_readLetters_23 : decode (fnB F_Md_readLetters) 23 = .ok (.goto (-16), 3) := by decide +kernel
theorem d_Md_readLetters_26 : decode (fnB F_Md_readLetters) 26 = .ok (.aload_n 0, 1) := by decide +kernel
theorem d_Md_readLetters_27 : decode (fnB F_Md_readLetters) 27 = .ok (.getfield 28, 3) := by decide +kernel
theorem d_Md_readLetters_30 : decode (fnB F_Md_readLetters) 30 = .ok (.ifCond .ne 89, 3) := by decide +kernel
theorem d_Md_readLetters_33 : decode (fnB F_Md_readLetters) 33 = .ok (.aload_n 0, 1) := by decide +kernel
theorem d_Md_readLetters_34 : decode (fnB F_Md_readLetters) 34 = .ok (.invokevirtual 40, 3) := by decide +kernel
theorem d_Md_readLetters_37 : decode (fnB F_Md_readLetters) 37 = .ok (.invokestatic 44, 3) := by decide +kernel
theorem d_Md_readLetters_40 : decode (fnB F_Md_readLetters) 40 = .ok (.ifCond .eq 79, 3) := by decide +kernel
theorem d_Md_readLetters_43 : decode (fnB F_Md_readLetters) 43 = .ok (.aload_n 0, 1) := by decide +kernel
theorem d_Md_readLetters_44 : decode (fnB F_Md_readLetters) 44 = .ok (.invokevirtual 40, 3) := by decide +kernel
theorem d_Md_readLetters_47 : decode (fnB F_Md_readLetters) 47 = .ok (.bipush 97, 2) := by decide +kernel
theorem d_Md_readLetters_49 : decode (fnB F_Md_readLetters) 49 = .ok (.isub, 1) := by decide +kernel
theorem d_Md_readLetters_50 : decode (fnB F_Md_readLetters) 50 = .ok (.istore_n 1, 1) := by decide +kernel
theorem d_Md_readLetters_51 : decode (fnB F_Md_readLetters) 51 = .ok (.aload_n 0, 1) := by decide +kernel
theorem d_Md_readLetters_52 : decode (fnB F_Md_readLetters) 52 = .ok (.getfield 37, 3) := by decide +kernel
theorem d_Md_readLetters_55 : decode (fnB F_Md_readLetters) 55 = .ok (.iload_n 1, 1) := by decide +kernel
theorem d_Md_readLetters_56 : decode (fnB F_Md_readLetters) 56 = .ok (.iaload, 1) := by decide +kernel
theorem d_Md_readLetters_57 : decode (fnB F_Md_readLetters) 57 = .ok (.iconst (-1), 1) := by decide +kernel
theorem d_Md_readLetters_58 : decode (fnB F_Md_readLetters) 58 = .ok (.if_icmp .eq 11, 3) := by decide +kernel
theorem d_Md_readLetters_61 : decode (fnB F_Md_readLetters) 61 = .ok (.aload_n 0, 1) := by decide +kernel
theorem d_Md_readLetters_62 : decode (fnB F_Md_readLetters) 62 = .ok (.iconst 2, 1) := by decide +kernel
theorem d_Md_readLetters_63 : decode (fnB F_Md_readLetters) 63 = .ok (.invokevirtual 48, 3) := by decide +kernel
theorem d_Md_readLetters_66 : decode (fnB F_Md_readLetters) 66 = .ok (.goto 50, 3) := by decide +kernel
theorem d_Md_readLetters_69 : decode (fnB F_Md_readLetters) 69 = .ok (.aload_n 0, 1) := by decide +kernel
theorem d_Md_readLetters_70 : decode (fnB F_Md_readLetters) 70 = .ok (.getfield 34, 3) := by decide +kernel
theorem d_Md_readLetters_73 : decode (fnB F_Md_readLetters) 73 = .ok (.bipush 8, 2) := by decide +kernel
theorem d_Md_readLetters_75 : decode (fnB F_Md_readLetters) 75 = .ok (.if_icmp .ne 11, 3) := by decide +kernel
theorem d_Md_readLetters_78 : decode (fnB F_Md_readLetters) 78 = .ok (.aload_n 0, 1) := by decide +kernel
theorem d_Md_readLetters_79 : decode (fnB F_Md_readLetters) 79 = .ok (.iconst 3, 1) := by decide +kernel
theorem d_Md_readLetters_80 : decode (fnB F_Md_readLetters) 80 = .ok (.invokevirtual 48, 3) := by decide +kernel
theorem d_Md_readLetters_83 : decode (fnB F_Md_readLetters) 83 = .ok (.goto 33, 3) := by decide +kernel
theorem d_Md_readLetters_86 : decode (fnB F_Md_readLetters) 86 = .ok (.aload_n 0, 1) := by decide +kernel
theorem d_Md_readLetters_87 : decode (fnB F_Md_readLetters) 87 = .ok (.getfield 37, 3) := by decide +kernel
theorem d_Md_readLetters_90 : decode (fnB F_Md_readLetters) 90 = .ok (.iload_n 1, 1) := by decide +kernel
theorem d_Md_readLetters_91 : decode (fnB F_Md_readLetters) 91 = .ok (.aload_n 0, 1) := by decide +kernel
theorem d_Md_readLetters_92 : decode (fnB F_Md_readLetters) 92 = .ok (.getfield 34, 3) := by decide +kernel
theorem d_Md_readLetters_95 : decode (fnB F_Md_readLetters) 95 = .ok (.iastore, 1) := by decide +kernel
theorem d_Md_readLetters_96 : decode (fnB F_Md_readLetters) 96 = .ok (.aload_n 0, 1) := by decide +kernel
theorem d_Md_readLetters_97 : decode (fnB F_Md_readLetters) 97 = .ok (.dup, 1) := by decide +kernel
theorem d_Md_readLetters_98 : decode (fnB F_Md_readLetters) 98 = .ok (.getfield 34, 3) := by decide +kernel
theorem d_Md_readLetters_101 : decode (fnB F_Md_readLetters) 101 = .ok (.iconst 1, 1) := by decide +kernel
theorem d_Md_readLetters_102 : decode (fnB F_Md_readLetters) 102 = .ok (.iadd, 1) := by decide +kernel
theorem d_Md_readLetters_103 : decode (fnB F_Md_readLetters) 103 = .ok (.putfield 34, 3) := by decide +kernel
theorem d_Md_readLetters_106 : decode (fnB F_Md_readLetters) 106 = .ok (.aload_n 0, 1) := by decide +kernel
theorem d_Md_readLetters_107 : decode (fnB F_Md_readLetters) 107 = .ok (.dup, 1) := by decide +kernel
theorem d_Md_readLetters_108 : decode (fnB F_Md_readLetters) 108 = .ok (.getfield 25, 3) := by decide +kernel
theorem d_Md_readLetters_111 : decode (fnB F_Md_readLetters) 111 = .ok (.iconst 1, 1) := by decide +kernel
theorem d_Md_readLetters_112 : decode (fnB F_Md_readLetters) 112 = .ok (.iadd, 1) := by decide +kernel
theorem d_Md_readLetters_113 : decode (fnB F_Md_readLetters) 113 = .ok (.putfield 25, 3) := by decide +kernel
theorem d_Md_readLetters_116 : decode (fnB F_Md_readLetters) 116 = .ok (.goto (-90), 3) := by decide +kernel
theorem d_Md_readLetters_119 : decode (fnB F_Md_readLetters) 119 = .ok (.aload_n 0, 1) := by decide +kernel
theorem d_Md_readLetters_120 : decode (fnB F_Md_readLetters) 120 = .ok (.getfield 28, 3) := by decide +kernel
theorem d_Md_readLetters_123 : decode (fnB F_Md_readLetters) 123 = .ok (.ifCond .ne 24, 3) := by decide +kernel
theorem d_Md_readLetters_126 : decode (fnB F_Md_readLetters) 126 = .ok (.aload_n 0, 1) := by decide +kernel
theorem d_Md_readLetters_127 : decode (fnB F_Md_readLetters) 127 = .ok (.invokevirtual 40, 3) := by decide +kernel
theorem d_Md_readLetters_130 : decode (fnB F_Md_readLetters) 130 = .ok (.bipush 59, 2) := by decide +kernel
theorem d_Md_readLetters_132 : decode (fnB F_Md_readLetters) 132 = .ok (.if_icmp .ne 10, 3) := by decide +kernel
theorem d_Md_readLetters_135 : decode (fnB F_Md_readLetters) 135 = .ok (.aload_n 0, 1) := by decide +kernel
theorem d_Md_readLetters_136 : decode (fnB F_Md_readLetters) 136 = .ok (.getfield 34, 3) := by decide +kernel
theorem d_Md_readLetters_139 : decode (fnB F_Md_readLetters) 139 = .ok (.ifCond .ne 8, 3) := by decide +kernel
theorem d_Md_readLetters_142 : decode (fnB F_Md_readLetters) 142 = .ok (.aload_n 0, 1) := by decide +kernel
theorem d_Md_readLetters_143 : decode (fnB F_Md_readLetters) 143 = .ok (.iconst 1, 1) := by decide +kernel
theorem d_Md_readLetters_144 : decode (fnB F_Md_readLetters) 144 = .ok (.invokevirtual 48, 3) := by decide +kernel
theorem d_Md_readLetters_147 : decode (fnB F_Md_readLetters) 147 = .ok (.aload_n 0, 1) := by decide +kernel
theorem d_Md_readLetters_148 : decode (fnB F_Md_readLetters) 148 = .ok (.dup, 1) := by decide +kernel
theorem d_Md_readLetters_149 : decode (fnB F_Md_readLetters) 149 = .ok (.getfield 25, 3) := by decide +kernel
theorem d_Md_readLetters_152 : decode (fnB F_Md_readLetters) 152 = .ok (.iconst 1, 1) := by decide +kernel
theorem d_Md_readLetters_153 : decode (fnB F_Md_readLetters) 153 = .ok (.iadd, 1) := by decide +kernel
theorem d_Md_readLetters_154 : decode (fnB F_Md_readLetters) 154 = .ok (.putfield 25, 3) := by decide +kernel
theorem d_Md_readLetters_157 : decode (fnB F_Md_readLetters) 157 = .ok (.return_, 1) := by decide +kernel
theorem B_Md_readLetters_0 : (∀ (l1 : Value) (x : Nat) (st : List Value) (M : Mm) (Q : Option Value → Mm → Prop), wp F_Md_readLetters 0 [.ref x, l1] st M Q = wp F_Md_readLetters 1 [.ref x, l1] (.ref x :: st) M Q) ∧
  (∀ (l0 l1 : Value) (st : List Value) (M : Mm) (Q : Option Value → Mm → Prop), wp F_Md_readLetters 1 [l0, l1] st M Q = wp F_Md_readLetters 2 [l0, l1] (.int 0 :: st) M Q) ∧
  (∀ (l0 l1 : Value) (a : Nat) (x : Int32) (st : List Value) (M : Mm) (Q : Option Value → Mm → Prop), wp F_Md_readLetters 2 [l0, l1] (.int x :: .ref a :: st) M Q = (sh M a = some (.inl 12) ∧ wp F_Md_readLetters 5 [l0, l1] st (sI M a 10 x) Q)) ∧
  (∀ (l0 l1 : Value) (st : List Value) (M : Mm) (Q : Option Value → Mm → Prop), wp F_Md_readLetters 5 [l0, l1] st M Q = wp F_Md_readLetters 6 [l0, l1] (.int 0 :: st) M Q) ∧
  (∀ (l0 l1 : Value) (x : Int32) (st : List Value) (M : Mm) (Q : Option Value → Mm → Prop), wp F_Md_readLetters 6 [l0, l1] (.int x :: st) M Q = wp F_Md_readLetters 7 [clr l0, .int x] st M Q) := ⟨fun _ _ _ _ _ => wp_in d_Md_readLetters_0 rfl rfl, fun _ _ _ _ _ => wp_iconst d_Md_readLetters_1 (by decide), fun _ _ _ _ _ _ _ => wp_putI d_Md_readLetters_2 fl_12_34 rfl rfl, fun _ _ _ _ _ => wp_iconst d_Md_readLetters_5 (by decide), fun _ _ _ _ _ _ => wp_in d_Md_readLetters_6 rfl rfl⟩
theorem B_Md_readLetters_7 : (∀ (l0 : Value) (x : Int32) (st : List Value) (M : Mm) (Q : Option Value → Mm → Prop), wp F_Md_readLetters 7 [l0, .int x] st M Q = wp F_Md_readLetters 8 [l0, .int x] (.int x :: st) M Q) ∧
  (∀ (l0 l1 : Value) (st : List Value) (M : Mm) (Q : Option Value → Mm → Prop), wp F_Md_readLetters 8 [l0, l1] st M Q = wp F_Md_readLetters 10 [l0, l1] (.int 26 :: st) M Q) ∧
  (∀ (l0 l1 : Value) (x y : Int32) (st : List Value) (M : Mm) (Q : Option Value → Mm → Prop), wp F_Md_readLetters 10 [l0, l1] (.int y :: .int x :: st) M Q = if y ≤ x then wp F_Md_readLetters 26 [l0, l1] st M Q else wp F_Md_readLetters 13 [l0, l1] st M Q) ∧
  (∀ (l1 : Value) (x : Nat) (st : List Value) (M : Mm) (Q : Option Value → Mm → Prop), wp F_Md_readLetters 13 [.ref x, l1] st M Q = wp F_Md_readLetters 14 [.ref x, l1] (.ref x :: st) M Q) ∧
  (∀ (l0 l1 : Value) (a : Nat) (st : List Value) (M : Mm) (Q : Option Value → Mm → Prop), wp F_Md_readLetters 14 [l0, l1] (.ref a :: st) M Q = (sh M a = some (.inl 12) ∧ wp F_Md_readLetters 17 [l0, l1] (va_rf (gR M a 8) :: st) M Q)) ∧
  (∀ (l0 : Value) (x : Int32) (st : List Value) (M : Mm) (Q : Option Value → Mm → Prop), wp F_Md_readLetters 17 [l0, .int x] st M Q = wp F_Md_readLetters 18 [l0, .int x] (.int x :: st) M Q) ∧
  (∀ (l0 l1 : Value) (st : List Value) (M : Mm) (Q : Option Value → Mm → Prop), wp F_Md_readLetters 18 [l0, l1] st M Q = wp F_Md_readLetters 19 [l0, l1] (.int (-1) :: st) M Q) ∧
  (∀ (l0 l1 : Value) (a : Nat) (j x : Int32) (st : List Value) (M : Mm) (Q : Option Value → Mm → Prop), wp F_Md_readLetters 19 [l0, l1] (.int x :: .int j :: .ref a :: st) M Q = (ixW M a j ∧ wp F_Md_readLetters 20 [l0, l1] st (sI M a (cl j) x) Q)) ∧
  (∀ (l0 : Value) (x : Int32) (st : List Value) (M : Mm) (Q : Option Value → Mm → Prop), wp F_Md_readLetters 20 [l0, .int x] st M Q = wp F_Md_readLetters 23 [clr l0, .int (x + 1)] st M Q) := ⟨fun _ _ _ _ _ => wp_in d_Md_readLetters_7 rfl rfl, fun _ _ _ _ _ => wp_bipush d_Md_readLetters_8 (by decide), fun _ _ _ _ _ _ _ => wp_icmp_ge d_Md_readLetters_10 rfl, fun _ _ _ _ _ => wp_in d_Md_readLetters_13 rfl rfl, fun _ _ _ _ _ _ => wp_getA d_Md_readLetters_14 fl_12_37 rfl, fun _ _ _ _ _ => wp_in d_Md_readLetters_17 rfl rfl, fun _ _ _ _ _ => wp_iconst d_Md_readLetters_18 (by decide), fun _ _ _ _ _ _ _ _ => wp_iast d_Md_readLetters_19, fun _ _ _ _ _ => wp_iinc d_Md_readLetters_20 (by decide) rfl rfl⟩
theorem B_Md_readLetters_26 : (∀ (l1 : Value) (x : Nat) (st : List Value) (M : Mm) (Q : Option Value → Mm → Prop), wp F_Md_readLetters 26 [.ref x, l1] st M Q = wp F_Md_readLetters 27 [.ref x, l1] (.ref x :: st) M Q) ∧
  (∀ (l0 l1 : Value) (a : Nat) (st : List Value) (M : Mm) (Q : Option Value → Mm → Prop), wp F_Md_readLetters 27 [l0, l1] (.ref a :: st) M Q = (sh M a = some (.inl 12) ∧ wp F_Md_readLetters 30 [l0, l1] (.int (gI M a 5) :: st) M Q)) ∧
  (∀ (l0 l1 : Value) (x : Int32) (st : List Value) (M : Mm) (Q : Option Value → Mm → Prop), wp F_Md_readLetters 30 [l0, l1] (.int x :: st) M Q = if x = 0 then wp F_Md_readLetters 33 [l0, l1] st M Q else wp F_Md_readLetters 119 [l0, l1] st M Q) ∧
  (∀ (l1 : Value) (x : Nat) (st : List Value) (M : Mm) (Q : Option Value → Mm → Prop), wp F_Md_readLetters 33 [.ref x, l1] st M Q = wp F_Md_readLetters 34 [.ref x, l1] (.ref x :: st) M Q) ∧
  (∀ (l0 l1 : Value) (b : Nat) (M : Mm) (Q : Option Value → Mm → Prop), wp F_Md_readLetters 34 [l0, l1] [.ref b] M Q = (sh M b = some (.inl 12) ∧ wp F_Md_here 0 [.ref b] [] M (fun r M1 => wp F_Md_readLetters 37 [l0, l1] (r.toList ++ []) M1 Q))) ∧
  (∀ (l0 l1 : Value) (p0 : Int32) (M : Mm) (Q : Option Value → Mm → Prop), wp F_Md_readLetters 37 [l0, l1] [.int p0] M Q = wp F_Md_isLetter 0 [.int p0] [] M (fun r M1 => wp F_Md_readLetters 40 [l0, l1] (r.toList ++ []) M1 Q)) ∧
  (∀ (l0 l1 : Value) (x : Int32) (st : List Value) (M : Mm) (Q : Option Value → Mm → Prop), wp F_Md_readLetters 40 [l0, l1] (.int x :: st) M Q = if x = 0 then wp F_Md_readLetters 119 [l0, l1] st M Q else wp F_Md_readLetters 43 [l0, l1] st M Q) ∧
  (∀ (l1 : Value) (x : Nat) (st : List Value) (M : Mm) (Q : Option Value → Mm → Prop), wp F_Md_readLetters 43 [.ref x, l1] st M Q = wp F_Md_readLetters 44 [.ref x, l1] (.ref x :: st) M Q) ∧
  (∀ (l0 l1 : Value) (b : Nat) (M : Mm) (Q : Option Value → Mm → Prop), wp F_Md_readLetters 44 [l0, l1] [.ref b] M Q = (sh M b = some (.inl 12) ∧ wp F_Md_here 0 [.ref b] [] M (fun r M1 => wp F_Md_readLetters 47 [l0, l1] (r.toList ++ []) M1 Q))) ∧
  (∀ (l0 l1 : Value) (st : List Value) (M : Mm) (Q : Option Value → Mm → Prop), wp F_Md_readLetters 47 [l0, l1] st M Q = wp F_Md_readLetters 49 [l0, l1] (.int 97 :: st) M Q) ∧
  (∀ (l0 l1 : Value) (x y : Int32) (st : List Value) (M : Mm) (Q : Option Value → Mm → Prop), wp F_Md_readLetters 49 [l0, l1] (.int y :: .int x :: st) M Q = wp F_Md_readLetters 50 [l0, l1] (.int (x - y) :: st) M Q) ∧
  (∀ (l0 l1 : Value) (x : Int32) (st : List Value) (M : Mm) (Q : Option Value → Mm → Prop), wp F_Md_readLetters 50 [l0, l1] (.int x :: st) M Q = wp F_Md_readLetters 51 [clr l0, .int x] st M Q) ∧
  (∀ (l1 : Value) (x : Nat) (st : List Value) (M : Mm) (Q : Option Value → Mm → Prop), wp F_Md_readLetters 51 [.ref x, l1] st M Q = wp F_Md_readLetters 52 [.ref x, l1] (.ref x :: st) M Q) ∧
  (∀ (l0 l1 : Value) (a : Nat) (st : List Value) (M : Mm) (Q : Option Value → Mm → Prop), wp F_Md_readLetters 52 [l0, l1] (.ref a :: st) M Q = (sh M a = some (.inl 12) ∧ wp F_Md_readLetters 55 [l0, l1] (va_rf (gR M a 8) :: st) M Q)) ∧
  (∀ (l0 : Value) (x : Int32) (st : List Value) (M : Mm) (Q : Option Value → Mm → Prop), wp F_Md_readLetters 55 [l0, .int x] st M Q = wp F_Md_readLetters 56 [l0, .int x] (.int x :: st) M Q) ∧
  (∀ (l0 l1 : Value) (a : Nat) (j : Int32) (st : List Value) (M : Mm) (Q : Option Value → Mm → Prop), wp F_Md_readLetters 56 [l0, l1] (.int j :: .ref a :: st) M Q = (ixI M a j ∧ wp F_Md_readLetters 57 [l0, l1] (.int (gI M a (cl j)) :: st) M Q)) ∧
  (∀ (l0 l1 : Value) (st : List Value) (M : Mm) (Q : Option Value → Mm → Prop), wp F_Md_readLetters 57 [l0, l1] st M Q = wp F_Md_readLetters 58 [l0, l1] (.int (-1) :: st) M Q) ∧
  (∀ (l0 l1 : Value) (x y : Int32) (st : List Value) (M : Mm) (Q : Option Value → Mm → Prop), wp F_Md_readLetters 58 [l0, l1] (.int y :: .int x :: st) M Q = if x = y then wp F_Md_readLetters 69 [l0, l1] st M Q else wp F_Md_readLetters 61 [l0, l1] st M Q) ∧
  (∀ (l1 : Value) (x : Nat) (st : List Value) (M : Mm) (Q : Option Value → Mm → Prop), wp F_Md_readLetters 61 [.ref x, l1] st M Q = wp F_Md_readLetters 62 [.ref x, l1] (.ref x :: st) M Q) ∧
  (∀ (l0 l1 : Value) (st : List Value) (M : Mm) (Q : Option Value → Mm → Prop), wp F_Md_readLetters 62 [l0, l1] st M Q = wp F_Md_readLetters 63 [l0, l1] (.int 2 :: st) M Q) ∧
  (∀ (l0 l1 : Value) (b : Nat) (p0 : Int32) (M : Mm) (Q : Option Value → Mm → Prop), wp F_Md_readLetters 63 [l0, l1] [.int p0, .ref b] M Q = (sh M b = some (.inl 12) ∧ wp F_Md_bad 0 [.ref b, .int p0] [] M (fun r M1 => wp F_Md_readLetters 66 [l0, l1] (r.toList ++ []) M1 Q))) ∧
  (∀ (l0 l1 : Value) (st : List Value) (M : Mm) (Q : Option Value → Mm → Prop), wp F_Md_readLetters 66 [l0, l1] st M Q = wp F_Md_readLetters 116 [l0, l1] st M Q) := ⟨fun _ _ _ _ _ => wp_in d_Md_readLetters_26 rfl rfl, fun _ _ _ _ _ _ => wp_getI d_Md_readLetters_27 fl_12_28 rfl, fun _ _ _ _ _ _ => wp_if_ne d_Md_readLetters_30 rfl, fun _ _ _ _ _ => wp_in d_Md_readLetters_33 rfl rfl, fun _ _ _ _ _ => wp_callV d_Md_readLetters_34 ml_12_40 rfl rfl rfl, fun _ _ _ _ _ => wp_callS d_Md_readLetters_37 ml_12_44 (Nat.le_of_ble_eq_true rfl) rfl rfl rfl, fun _ _ _ _ _ _ => wp_if_eq d_Md_readLetters_40 rfl, fun _ _ _ _ _ => wp_in d_Md_readLetters_43 rfl rfl, fun _ _ _ _ _ => wp_callV d_Md_readLetters_44 ml_12_40 rfl rfl rfl, fun _ _ _ _ _ => wp_bipush d_Md_readLetters_47 (by decide), fun _ _ _ _ _ _ _ => wp_in d_Md_readLetters_49 rfl rfl, fun _ _ _ _ _ _ => wp_in d_Md_readLetters_50 rfl rfl, fun _ _ _ _ _ => wp_in d_Md_readLetters_51 rfl rfl, fun _ _ _ _ _ _ => wp_getA d_Md_readLetters_52 fl_12_37 rfl, fun _ _ _ _ _ => wp_in d_Md_readLetters_55 rfl rfl, fun _ _ _ _ _ _ _ => wp_iald d_Md_readLetters_56, fun _ _ _ _ _ => wp_iconst d_Md_readLetters_57 (by decide), fun _ _ _ _ _ _ _ => wp_icmp_eq d_Md_readLetters_58 rfl, fun _ _ _ _ _ => wp_in d_Md_readLetters_61 rfl rfl, fun _ _ _ _ _ => wp_iconst d_Md_readLetters_62 (by decide), fun _ _ _ _ _ _ => wp_callV d_Md_readLetters_63 ml_12_48 rfl rfl rfl, fun _ _ _ _ _ => wp_goto d_Md_readLetters_66 rfl⟩
theorem B_Md_readLetters_69 : (∀ (l1 : Value) (x : Nat) (st : List Value) (M : Mm) (Q : Option Value → Mm → Prop), wp F_Md_readLetters 69 [.ref x, l1] st M Q = wp F_Md_readLetters 70 [.ref x, l1] (.ref x :: st) M Q) ∧
  (∀ (l0 l1 : Value) (a : Nat) (st : List Value) (M : Mm) (Q : Option Value → Mm → Prop), wp F_Md_readLetters 70 [l0, l1] (.ref a :: st) M Q = (sh M a = some (.inl 12) ∧ wp F_Md_readLetters 73 [l0, l1] (.int (gI M a 10) :: st) M Q)) ∧
  (∀ (l0 l1 : Value) (st : List Value) (M : Mm) (Q : Option Value → Mm → Prop), wp F_Md_readLetters 73 [l0, l1] st M Q = wp F_Md_readLetters 75 [l0, l1] (.int 8 :: st) M Q) ∧
  (∀ (l0 l1 : Value) (x y : Int32) (st : List Value) (M : Mm) (Q : Option Value → Mm → Prop), wp F_Md_readLetters 75 [l0, l1] (.int y :: .int x :: st) M Q = if x = y then wp F_Md_readLetters 78 [l0, l1] st M Q else wp F_Md_readLetters 86 [l0, l1] st M Q) ∧
  (∀ (l1 : Value) (x : Nat) (st : List Value) (M : Mm) (Q : Option Value → Mm → Prop), wp F_Md_readLetters 78 [.ref x, l1] st M Q = wp F_Md_readLetters 79 [.ref x, l1] (.ref x :: st) M Q) ∧
  (∀ (l0 l1 : Value) (st : List Value) (M : Mm) (Q : Option Value → Mm → Prop), wp F_Md_readLetters 79 [l0, l1] st M Q = wp F_Md_readLetters 80 [l0, l1] (.int 3 :: st) M Q) ∧
  (∀ (l0 l1 : Value) (b : Nat) (p0 : Int32) (M : Mm) (Q : Option Value → Mm → Prop), wp F_Md_readLetters 80 [l0, l1] [.int p0, .ref b] M Q = (sh M b = some (.inl 12) ∧ wp F_Md_bad 0 [.ref b, .int p0] [] M (fun r M1 => wp F_Md_readLetters 83 [l0, l1] (r.toList ++ []) M1 Q))) ∧
  (∀ (l0 l1 : Value) (st : List Value) (M : Mm) (Q : Option Value → Mm → Prop), wp F_Md_readLetters 83 [l0, l1] st M Q = wp F_Md_readLetters 116 [l0, l1] st M Q) := ⟨fun _ _ _ _ _ => wp_in d_Md_readLetters_69 rfl rfl, fun _ _ _ _ _ _ => wp_getI d_Md_readLetters_70 fl_12_34 rfl, fun _ _ _ _ _ => wp_bipush d_Md_readLetters_73 (by decide), fun _ _ _ _ _ _ _ => wp_icmp_ne d_Md_readLetters_75 rfl, fun _ _ _ _ _ => wp_in d_Md_readLetters_78 rfl rfl, fun _ _ _ _ _ => wp_iconst d_Md_readLetters_79 (by decide), fun _ _ _ _ _ _ => wp_callV d_Md_readLetters_80 ml_12_48 rfl rfl rfl, fun _ _ _ _ _ => wp_goto d_Md_readLetters_83 rfl⟩
theorem B_Md_readLetters_86 : (∀ (l1 : Value) (x : Nat) (st : List Value) (M : Mm) (Q : Option Value → Mm → Prop), wp F_Md_readLetters 86 [.ref x, l1] st M Q = wp F_Md_readLetters 87 [.ref x, l1] (.ref x :: st) M Q) ∧
  (∀ (l0 l1 : Value) (a : Nat) (st : List Value) (M : Mm) (Q : Option Value → Mm → Prop), wp F_Md_readLetters 87 [l0, l1] (.ref a :: st) M Q = (sh M a = some (.inl 12) ∧ wp F_Md_readLetters 90 [l0, l1] (va_rf (gR M a 8) :: st) M Q)) ∧
  (∀ (l0 : Value) (x : Int32) (st : List Value) (M : Mm) (Q : Option Value → Mm → Prop), wp F_Md_readLetters 90 [l0, .int x] st M Q = wp F_Md_readLetters 91 [l0, .int x] (.int x :: st) M Q) ∧
  (∀ (l1 : Value) (x : Nat) (st : List Value) (M : Mm) (Q : Option Value → Mm → Prop), wp F_Md_readLetters 91 [.ref x, l1] st M Q = wp F_Md_readLetters 92 [.ref x, l1] (.ref x :: st) M Q) ∧
  (∀ (l0 l1 : Value) (a : Nat) (st : List Value) (M : Mm) (Q : Option Value → Mm → Prop), wp F_Md_readLetters 92 [l0, l1] (.ref a :: st) M Q = (sh M a = some (.inl 12) ∧ wp F_Md_readLetters 95 [l0, l1] (.int (gI M a 10) :: st) M Q)) ∧
  (∀ (l0 l1 : Value) (a : Nat) (j x : Int32) (st : List Value) (M : Mm) (Q : Option Value → Mm → Prop), wp F_Md_readLetters 95 [l0, l1] (.int x :: .int j :: .ref a :: st) M Q = (ixW M a j ∧ wp F_Md_readLetters 96 [l0, l1] st (sI M a (cl j) x) Q)) ∧
  (∀ (l1 : Value) (x : Nat) (st : List Value) (M : Mm) (Q : Option Value → Mm → Prop), wp F_Md_readLetters 96 [.ref x, l1] st M Q = wp F_Md_readLetters 97 [.ref x, l1] (.ref x :: st) M Q) ∧
  (∀ (l0 l1 : Value) (x : Nat) (st : List Value) (M : Mm) (Q : Option Value → Mm → Prop), wp F_Md_readLetters 97 [l0, l1] (.ref x :: st) M Q = wp F_Md_readLetters 98 [l0, l1] (.ref x :: .ref x :: st) M Q) ∧
  (∀ (l0 l1 : Value) (a : Nat) (st : List Value) (M : Mm) (Q : Option Value → Mm → Prop), wp F_Md_readLetters 98 [l0, l1] (.ref a :: st) M Q = (sh M a = some (.inl 12) ∧ wp F_Md_readLetters 101 [l0, l1] (.int (gI M a 10) :: st) M Q)) ∧
  (∀ (l0 l1 : Value) (st : List Value) (M : Mm) (Q : Option Value → Mm → Prop), wp F_Md_readLetters 101 [l0, l1] st M Q = wp F_Md_readLetters 102 [l0, l1] (.int 1 :: st) M Q) ∧
  (∀ (l0 l1 : Value) (x y : Int32) (st : List Value) (M : Mm) (Q : Option Value → Mm → Prop), wp F_Md_readLetters 102 [l0, l1] (.int y :: .int x :: st) M Q = wp F_Md_readLetters 103 [l0, l1] (.int (x + y) :: st) M Q) ∧
  (∀ (l0 l1 : Value) (a : Nat) (x : Int32) (st : List Value) (M : Mm) (Q : Option Value → Mm → Prop), wp F_Md_readLetters 103 [l0, l1] (.int x :: .ref a :: st) M Q = (sh M a = some (.inl 12) ∧ wp F_Md_readLetters 106 [l0, l1] st (sI M a 10 x) Q)) ∧
  (∀ (l1 : Value) (x : Nat) (st : List Value) (M : Mm) (Q : Option Value → Mm → Prop), wp F_Md_readLetters 106 [.ref x, l1] st M Q = wp F_Md_readLetters 107 [.ref x, l1] (.ref x :: st) M Q) ∧
  (∀ (l0 l1 : Value) (x : Nat) (st : List Value) (M : Mm) (Q : Option Value → Mm → Prop), wp F_Md_readLetters 107 [l0, l1] (.ref x :: st) M Q = wp F_Md_readLetters 108 [l0, l1] (.ref x :: .ref x :: st) M Q) ∧
  (∀ (l0 l1 : Value) (a : Nat) (st : List Value) (M : Mm) (Q : Option Value → Mm → Prop), wp F_Md_readLetters 108 [l0, l1] (.ref a :: st) M Q = (sh M a = some (.inl 12) ∧ wp F_Md_readLetters 111 [l0, l1] (.int (gI M a 3) :: st) M Q)) ∧
  (∀ (l0 l1 : Value) (st : List Value) (M : Mm) (Q : Option Value → Mm → Prop), wp F_Md_readLetters 111 [l0, l1] st M Q = wp F_Md_readLetters 112 [l0, l1] (.int 1 :: st) M Q) ∧
  (∀ (l0 l1 : Value) (x y : Int32) (st : List Value) (M : Mm) (Q : Option Value → Mm → Prop), wp F_Md_readLetters 112 [l0, l1] (.int y :: .int x :: st) M Q = wp F_Md_readLetters 113 [l0, l1] (.int (x + y) :: st) M Q) ∧
  (∀ (l0 l1 : Value) (a : Nat) (x : Int32) (st : List Value) (M : Mm) (Q : Option Value → Mm → Prop), wp F_Md_readLetters 113 [l0, l1] (.int x :: .ref a :: st) M Q = (sh M a = some (.inl 12) ∧ wp F_Md_readLetters 116 [l0, l1] st (sI M a 3 x) Q)) := ⟨fun _ _ _ _ _ => wp_in d_Md_readLetters_86 rfl rfl, fun _ _ _ _ _ _ => wp_getA d_Md_readLetters_87 fl_12_37 rfl, fun _ _ _ _ _ => wp_in d_Md_readLetters_90 rfl rfl, fun _ _ _ _ _ => wp_in d_Md_readLetters_91 rfl rfl, fun _ _ _ _ _ _ => wp_getI d_Md_readLetters_92 fl_12_34 rfl, fun _ _ _ _ _ _ _ _ => wp_iast d_Md_readLetters_95, fun _ _ _ _ _ => wp_in d_Md_readLetters_96 rfl rfl, fun _ _ _ _ _ _ => wp_in d_Md_readLetters_97 rfl rfl, fun _ _ _ _ _ _ => wp_getI d_Md_readLetters_98 fl_12_34 rfl, fun _ _ _ _ _ => wp_iconst d_Md_readLetters_101 (by decide), fun _ _ _ _ _ _ _ => wp_in d_Md_readLetters_102 rfl rfl, fun _ _ _ _ _ _ _ => wp_putI d_Md_readLetters_103 fl_12_34 rfl rfl, fun _ _ _ _ _ => wp_in d_Md_readLetters_106 rfl rfl, fun _ _ _ _ _ _ => wp_in d_Md_readLetters_107 rfl rfl, fun _ _ _ _ _ _ => wp_getI d_Md_readLetters_108 fl_12_25 rfl, fun _ _ _ _ _ => wp_iconst d_Md_readLetters_111 (by decide), fun _ _ _ _ _ _ _ => wp_in d_Md_readLetters_112 rfl rfl, fun _ _ _ _ _ _ _ => wp_putI d_Md_readLetters_113 fl_12_25 rfl rfl⟩
theorem B_Md_readLetters_119 : (∀ (l1 : Value) (x : Nat) (st : List Value) (M : Mm) (Q : Option Value → Mm → Prop), wp F_Md_readLetters 119 [.ref x, l1] st M Q = wp F_Md_readLetters 120 [.ref x, l1] (.ref x :: st) M Q) ∧
  (∀ (l0 l1 : Value) (a : Nat) (st : List Value) (M : Mm) (Q : Option Value → Mm → Prop), wp F_Md_readLetters 120 [l0, l1] (.ref a :: st) M Q = (sh M a = some (.inl 12) ∧ wp F_Md_readLetters 123 [l0, l1] (.int (gI M a 5) :: st) M Q)) ∧
  (∀ (l0 l1 : Value) (x : Int32) (st : List Value) (M : Mm) (Q : Option Value → Mm → Prop), wp F_Md_readLetters 123 [l0, l1] (.int x :: st) M Q = if x = 0 then wp F_Md_readLetters 126 [l0, l1] st M Q else wp F_Md_readLetters 147 [l0, l1] st M Q) ∧
  (∀ (l1 : Value) (x : Nat) (st : List Value) (M : Mm) (Q : Option Value → Mm → Prop), wp F_Md_readLetters 126 [.ref x, l1] st M Q = wp F_Md_readLetters 127 [.ref x, l1] (.ref x :: st) M Q) ∧
  (∀ (l0 l1 : Value) (b : Nat) (M : Mm) (Q : Option Value → Mm → Prop), wp F_Md_readLetters 127 [l0, l1] [.ref b] M Q = (sh M b = some (.inl 12) ∧ wp F_Md_here 0 [.ref b] [] M (fun r M1 => wp F_Md_readLetters 130 [l0, l1] (r.toList ++ []) M1 Q))) ∧
  (∀ (l0 l1 : Value) (st : List Value) (M : Mm) (Q : Option Value → Mm → Prop), wp F_Md_readLetters 130 [l0, l1] st M Q = wp F_Md_readLetters 132 [l0, l1] (.int 59 :: st) M Q) ∧
  (∀ (l0 l1 : Value) (x y : Int32) (st : List Value) (M : Mm) (Q : Option Value → Mm → Prop), wp F_Md_readLetters 132 [l0, l1] (.int y :: .int x :: st) M Q = if x = y then wp F_Md_readLetters 135 [l0, l1] st M Q else wp F_Md_readLetters 142 [l0, l1] st M Q) ∧
  (∀ (l1 : Value) (x : Nat) (st : List Value) (M : Mm) (Q : Option Value → Mm → Prop), wp F_Md_readLetters 135 [.ref x, l1] st M Q = wp F_Md_readLetters 136 [.ref x, l1] (.ref x :: st) M Q) ∧
  (∀ (l0 l1 : Value) (a : Nat) (st : List Value) (M : Mm) (Q : Option Value → Mm → Prop), wp F_Md_readLetters 136 [l0, l1] (.ref a :: st) M Q = (sh M a = some (.inl 12) ∧ wp F_Md_readLetters 139 [l0, l1] (.int (gI M a 10) :: st) M Q)) ∧
  (∀ (l0 l1 : Value) (x : Int32) (st : List Value) (M : Mm) (Q : Option Value → Mm → Prop), wp F_Md_readLetters 139 [l0, l1] (.int x :: st) M Q = if x = 0 then wp F_Md_readLetters 142 [l0, l1] st M Q else wp F_Md_readLetters 147 [l0, l1] st M Q) := ⟨fun _ _ _ _ _ => wp_in d_Md_readLetters_119 rfl rfl, fun _ _ _ _ _ _ => wp_getI d_Md_readLetters_120 fl_12_28 rfl, fun _ _ _ _ _ _ => wp_if_ne d_Md_readLetters_123 rfl, fun _ _ _ _ _ => wp_in d_Md_readLetters_126 rfl rfl, fun _ _ _ _ _ => wp_callV d_Md_readLetters_127 ml_12_40 rfl rfl rfl, fun _ _ _ _ _ => wp_bipush d_Md_readLetters_130 (by decide), fun _ _ _ _ _ _ _ => wp_icmp_ne d_Md_readLetters_132 rfl, fun _ _ _ _ _ => wp_in d_Md_readLetters_135 rfl rfl, fun _ _ _ _ _ _ => wp_getI d_Md_readLetters_136 fl_12_34 rfl, fun _ _ _ _ _ _ => wp_if_ne d_Md_readLetters_139 rfl⟩
theorem B_Md_readLetters_142 : (∀ (l1 : Value) (x : Nat) (st : List Value) (M : Mm) (Q : Option Value → Mm → Prop), wp F_Md_readLetters 142 [.ref x, l1] st M Q = wp F_Md_readLetters 143 [.ref x, l1] (.ref x :: st) M Q) ∧
  (∀ (l0 l1 : Value) (st : List Value) (M : Mm) (Q : Option Value → Mm → Prop), wp F_Md_readLetters 143 [l0, l1] st M Q = wp F_Md_readLetters 144 [l0, l1] (.int 1 :: st) M Q) ∧
  (∀ (l0 l1 : Value) (b : Nat) (p0 : Int32) (M : Mm) (Q : Option Value → Mm → Prop), wp F_Md_readLetters 144 [l0, l1] [.int p0, .ref b] M Q = (sh M b = some (.inl 12) ∧ wp F_Md_bad 0 [.ref b, .int p0] [] M (fun r M1 => wp F_Md_readLetters 147 [l0, l1] (r.toList ++ []) M1 Q))) := ⟨fun _ _ _ _ _ => wp_in d_Md_readLetters_142 rfl rfl, fun _ _ _ _ _ => wp_iconst d_Md_readLetters_143 (by decide), fun _ _ _ _ _ _ => wp_callV d_Md_readLetters_144 ml_12_48 rfl rfl rfl⟩
theorem B_Md_readLetters_147 : (∀ (l1 : Value) (x : Nat) (st : List Value) (M : Mm) (Q : Option Value → Mm → Prop), wp F_Md_readLetters 147 [.ref x, l1] st M Q = wp F_Md_readLetters 148 [.ref x, l1] (.ref x :: st) M Q) ∧
  (∀ (l0 l1 : Value) (x : Nat) (st : List Value) (M : Mm) (Q : Option Value → Mm → Prop), wp F_Md_readLetters 148 [l0, l1] (.ref x :: st) M Q = wp F_Md_readLetters 149 [l0, l1] (.ref x :: .ref x :: st) M Q) ∧
  (∀ (l0 l1 : Value) (a : Nat) (st : List Value) (M : Mm) (Q : Option Value → Mm → Prop), wp F_Md_readLetters 149 [l0, l1] (.ref a :: st) M Q = (sh M a = some (.inl 12) ∧ wp F_Md_readLetters 152 [l0, l1] (.int (gI M a 3) :: st) M Q)) ∧
  (∀ (l0 l1 : Value) (st : List Value) (M : Mm) (Q : Option Value → Mm → Prop), wp F_Md_readLetters 152 [l0, l1] st M Q = wp F_Md_readLetters 153 [l0, l1] (.int 1 :: st) M Q) ∧
  (∀ (l0 l1 : Value) (x y : Int32) (st : List Value) (M : Mm) (Q : Option Value → Mm → Prop), wp F_Md_readLetters 153 [l0, l1] (.int y :: .int x :: st) M Q = wp F_Md_readLetters 154 [l0, l1] (.int (x + y) :: st) M Q) ∧
  (∀ (l0 l1 : Value) (a : Nat) (x : Int32) (st : List Value) (M : Mm) (Q : Option Value → Mm → Prop), wp F_Md_readLetters 154 [l0, l1] (.int x :: .ref a :: st) M Q = (sh M a = some (.inl 12) ∧ wp F_Md_readLetters 157 [l0, l1] st (sI M a 3 x) Q)) ∧
  (∀ (l0 l1 : Value) (M : Mm) (Q : Option Value → Mm → Prop), wp F_Md_readLetters 157 [l0, l1] [] M Q = Q none M) := ⟨fun _ _ _ _ _ => wp_in d_Md_readLetters_147 rfl rfl, fun _ _ _ _ _ _ => wp_in d_Md_readLetters_148 rfl rfl, fun _ _ _ _ _ _ => wp_getI d_Md_readLetters_149 fl_12_25 rfl, fun _ _ _ _ _ => wp_iconst d_Md_readLetters_152 (by decide), fun _ _ _ _ _ _ _ => wp_in d_Md_readLetters_153 rfl rfl, fun _ _ _ _ _ _ _ => wp_putI d_Md_readLetters_154 fl_12_25 rfl rfl, fun _ _ _ _ => wp_retV d_Md_readLetters_157 rfl⟩
theorem G_Md_readLetters_23 (l0 l1 : Value) (st : List Value) (M : Mm) (Q : Option Value → Mm → Prop) : wp F_Md_readLetters 23 [l0, l1] st M Q = wp F_Md_readLetters 7 [l0, l1] st M Q := wp_goto d_Md_readLetters_23 rfl
theorem G_Md_readLetters_116 (l0 l1 : Value) (st : List Value) (M : Mm) (Q : Option Value → Mm → Prop) : wp F_Md_readLetters 116 [l0, l1] st M Q = wp F_Md_readLetters 26 [l0, l1] st M Q := wp_goto d_Md_readLetters_116 rfl
theorem d_Md_readWord_0 : decode (fnB F_Md_readWord) 0 = .ok (.iconst 0, 1) := by decide +kernel
theorem d_Md_readWord_1 : decode (fnB F_Md_readWord) 1 = .ok (.istore 5, 2) := by decide +kernel
theorem d_Md_readWord_3 : decode (fnB F_Md_readWord) 3 = .ok (.aload_n 0, 1) := by decide +kernel
theorem d_Md_readWord_4 : decode (fnB F_Md_readWord) 4 = .ok (.getfield 28, 3) := by decide +kernel
theorem d_Md_readWord_7 : decode (fnB F_Md_readWord) 7 = .ok (.ifCond .ne 77, 3) := by decide +kernel
theorem d_Md_readWord_10 : decode (fnB F_Md_readWord) 10 = .ok (.aload_n 0, 1) := by decide +kernel
theorem d_Md_readWord_11 : decode (fnB F_Md_readWord) 11 = .ok (.invokevirtual 40, 3) := by decide +kernel
theorem d_Md_readWord_14 : decode (fnB F_Md_readWord) 14 = .ok (.invokestatic 44, 3) := by decide +kernel
theorem d_Md_readWord_17 : decode (fnB F_Md_readWord) 17 = .ok (.ifCond .eq 67, 3) := by decide +kernel
theorem d_Md_readWord_20 : decode (fnB F_Md_readWord) 20 = .ok (.aload_n 1, 1) := by decide +kernel
theorem d_Md_readWord_21 : decode (fnB F_Md_readWord) 21 = .ok (.aload_n 0, 1) := by decide +kernel
theorem d_Md_readWord_22 : decode (fnB F_Md_readWord) 22 = .ok (.invokevirtual 40, 3) := by decide +kernel
theorem d_Md_readWord_25 : decode (fnB F_Md_readWord) 25 = .ok (.bipush 97, 2) := by decide +kernel
theorem d_Md_readWord_27 : decode (fnB F_Md_readWord) 27 = .ok (.isub, 1) := by decide +kernel
theorem d_Md_readWord_28 : decode (fnB F_Md_readWord) 28 = .ok (.iaload, 1) := by decide +kernel
theorem d_Md_readWord_29 : decode (fnB F_Md_readWord) 29 = .ok (.istore 6, 2) := by decide +kernel
theorem d_Md_readWord_31 : decode (fnB F_Md_readWord) 31 = .ok (.iload 6, 2) := by decide +kernel
theorem d_Md_readWord_33 : decode (fnB F_Md_readWord) 33 = .ok (.iconst (-1), 1) := by decide +kernel
theorem d_Md_readWord_34 : decode (fnB F_Md_readWord) 34 = .ok (.if_icmp .ne 11, 3) := by decide +kernel
theorem d_Md_readWord_37 : decode (fnB F_Md_readWord) 37 = .ok (.aload_n 0, 1) := by decide +kernel
theorem d_Md_readWord_38 : decode (fnB F_Md_readWord) 38 = .ok (.iconst 2, 1) := by decide +kernel
theorem d_Md_readWord_39 : decode (fnB F_Md_readWord) 39 = .ok (.invokevirtual 48, 3) := by decide +kernel
theorem d_Md_readWord_42 : decode (fnB F_Md_readWord) 42 = .ok (.goto 39, 3) := by decide +kernel
theorem d_Md_readWord_45 : decode (fnB F_Md_readWord) 45 = .ok (.iload 5, 2) := by decide +kernel
theorem d_Md_readWord_47 : decode (fnB F_Md_readWord) 47 = .ok (.iload_n 2, 1) := by decide +kernel
theorem d_Md_readWord_48 : decode (fnB F_Md_readWord) 48 = .ok (.if_icmp .ne 11, 3) := by decide +kernel
theorem d_Md_readWord_51 : decode (fnB F_Md_readWord) 51 = .ok (.aload_n 0, 1) := by decide +kernel
theorem d_Md_readWord_52 : decode (fnB F_Md_readWord) 52 = .ok (.iconst 3, 1) := by decide +kernel
theorem d_Md_readWord_53 : decode (fnB F_Md_readWord) 53 = .ok (.invokevirtual 48, 3) := by decide +kernel
theorem d_Md_readWord_56 : decode (fnB F_Md_readWord) 56 = .ok (.goto 25, 3) := by decide +kernel
theorem d_Md_readWord_59 : decode (fnB F_Md_readWord) 59 = .ok (.aload_n 3, 1) := by decide +kernel
theorem d_Md_readWord_60 : decode (fnB F_Md_readWord) 60 = .ok (.iload 4, 2) := by decide +kernel
theorem d_Md_readWord_62 : decode (fnB F_Md_readWord) 62 = .ok (.iload 5, 2) := by decide +kernel
theorem d_Md_readWord_64 : decode (fnB F_Md_readWord) 64 = .ok (.iadd, 1) := by decide +kernel
theorem d_Md_readWord_65 : decode (fnB F_Md_readWord) 65 = .ok (.iload 6, 2) := by decide +kernel
theorem d_Md_readWord_67 : decode (fnB F_Md_readWord) 67 = .ok (.iastore, 1) := by decide +kernel
theorem d_Md_readWord_68 : decode (fnB F_Md_readWord) 68 = .ok (.iinc 5 1, 3) := by decide +kernel
theorem d_Md_readWord_71 : decode (fnB F_Md_readWord) 71 = .ok (.aload_n 0, 1) := by decide +kernel
theorem d_Md_readWord_72 : decode (fnB F_Md_readWord) 72 = .ok (.dup, 1) := by decide +kernel
theorem d_Md_readWord_73 : decode (fnB F_Md_readWord) 73 = .ok (.getfield 25, 3) := by decide +kernel
theorem d_Md_readWord_76 : decode (fnB F_Md_readWord) 76 = .ok (.iconst 1, 1) := by decide +kernel
theorem d_Md_readWord_77 : decode (fnB F_Md_readWord) 77 = .ok (.iadd, 1) := by decide +kernel
theorem d_Md_readWord_78 : decode (fnB F_Md_readWord) 78 = .ok (.putfield 25, 3) := by decide +kernel
theorem d_Md_readWord_81 : decode (fnB F_Md_readWord) 81 = .ok (.goto (-78), 3) := by decide +kernel
theorem d_Md_readWord_84 : decode (fnB F_Md_readWord) 84 = .ok (.iload 5, 2) := by decide +kernel
theorem d_Md_readWord_86 : decode (fnB F_Md_readWord) 86 = .ok (.ireturn, 1) := by decide +kernel
theorem B_Md_readWord_0 : (∀ (l0 l1 l2 l3 l4 l5 l6 : Value) (st : List Value) (M : Mm) (Q : Option Value → Mm → Prop), wp F_Md_readWord 0 [l0, l1, l2, l3, l4, l5, l6] st M Q = wp F_Md_readWord 1 [l0, l1, l2, l3, l4, l5, l6] (.int 0 :: st) M Q) ∧
  (∀ (l0 l1 l2 l3 l4 l5 l6 : Value) (x : Int32) (st : List Value) (M : Mm) (Q : Option Value → Mm → Prop), wp F_Md_readWord 1 [l0, l1, l2, l3, l4, l5, l6] (.int x :: st) M Q = wp F_Md_readWord 3 [l0, l1, l2, l3, clr l4, .int x, l6] st M Q) := ⟨fun _ _ _ _ _ _ _ _ _ _ => wp_iconst d_Md_readWord_0 (by decide), fun _ _ _ _ _ _ _ _ _ _ _ => wp_in d_Md_readWord_1 rfl rfl⟩
theorem B_Md_readWord_3 : (∀ (l1 l2 l3 l4 l5 l6 : Value) (x : Nat) (st : List Value) (M : Mm) (Q : Option Value → Mm → Prop), wp F_Md_readWord 3 [.ref x, l1, l2, l3, l4, l5, l6] st M Q = wp F_Md_readWord 4 [.ref x, l1, l2, l3, l4, l5, l6] (.ref x :: st) M Q) ∧
  (∀ (l0 l1 l2 l3 l4 l5 l6 : Value) (a : Nat) (st : List Value) (M : Mm) (Q : Option Value → Mm → Prop), wp F_Md_readWord 4 [l0, l1, l2, l3, l4, l5, l6] (.ref a :: st) M Q = (sh M a = some (.inl 12) ∧ wp F_Md_readWord 7 [l0, l1, l2, l3, l4, l5, l6] (.int (gI M a 5) :: st) M Q)) ∧
  (∀ (l0 l1 l2 l3 l4 l5 l6 : Value) (x : Int32) (st : List Value) (M : Mm) (Q : Option Value → Mm → Prop), wp F_Md_readWord 7 [l0, l1, l2, l3, l4, l5, l6] (.int x :: st) M Q = if x = 0 then wp F_Md_readWord 10 [l0, l1, l2, l3, l4, l5, l6] st M Q else wp F_Md_readWord 84 [l0, l1, l2, l3, l4, l5, l6] st M Q) ∧
  (∀ (l1 l2 l3 l4 l5 l6 : Value) (x : Nat) (st : List Value) (M : Mm) (Q : Option Value → Mm → Prop), wp F_Md_readWord 10 [.ref x, l1, l2, l3, l4, l5, l6] st M Q = wp F_Md_readWord 11 [.ref x, l1, l2, l3, l4, l5, l6] (.ref x :: st) M Q) ∧
  (∀ (l0 l1 l2 l3 l4 l5 l6 : Value) (b : Nat) (M : Mm) (Q : Option Value → Mm → Prop), wp F_Md_readWord 11 [l0, l1, l2, l3, l4, l5, l6] [.ref b] M Q = (sh M b = some (.inl 12) ∧ wp F_Md_here 0 [.ref b] [] M (fun r M1 => wp F_Md_readWord 14 [l0, l1, l2, l3, l4, l5, l6] (r.toList ++ []) M1 Q))) ∧
  (∀ (l0 l1 l2 l3 l4 l5 l6 : Value) (p0 : Int32) (M : Mm) (Q : Option Value → Mm → Prop), wp F_Md_readWord 14 [l0, l1, l2, l3, l4, l5, l6] [.int p0] M Q = wp F_Md_isLetter 0 [.int p0] [] M (fun r M1 => wp F_Md_readWord 17 [l0, l1, l2, l3, l4, l5, l6] (r.toList ++ []) M1 Q)) ∧
  (∀ (l0 l1 l2 l3 l4 l5 l6 : Value) (x : Int32) (st : List Value) (M : Mm) (Q : Option Value → Mm → Prop), wp F_Md_readWord 17 [l0, l1, l2, l3, l4, l5, l6] (.int x :: st) M Q = if x = 0 then wp F_Md_readWord 84 [l0, l1, l2, l3, l4, l5, l6] st M Q else wp F_Md_readWord 20 [l0, l1, l2, l3, l4, l5, l6] st M Q) ∧
  (∀ (l0 l2 l3 l4 l5 l6 : Value) (x : Nat) (st : List Value) (M : Mm) (Q : Option Value → Mm → Prop), wp F_Md_readWord 20 [l0, .ref x, l2, l3, l4, l5, l6] st M Q = wp F_Md_readWord 21 [l0, .ref x, l2, l3, l4, l5, l6] (.ref x :: st) M Q) ∧
  (∀ (l0 l2 l3 l4 l5 l6 : Value) (st : List Value) (M : Mm) (Q : Option Value → Mm → Prop), wp F_Md_readWord 20 [l0, .null, l2, l3, l4, l5, l6] st M Q = wp F_Md_readWord 21 [l0, .null, l2, l3, l4, l5, l6] (.null :: st) M Q) ∧
  (∀ (l1 l2 l3 l4 l5 l6 : Value) (x : Nat) (st : List Value) (M : Mm) (Q : Option Value → Mm → Prop), wp F_Md_readWord 21 [.ref x, l1, l2, l3, l4, l5, l6] st M Q = wp F_Md_readWord 22 [.ref x, l1, l2, l3, l4, l5, l6] (.ref x :: st) M Q) ∧
  (∀ (l0 l1 l2 l3 l4 l5 l6 : Value) (b : Nat) (r0 : Value) (M : Mm) (Q : Option Value → Mm → Prop), wp F_Md_readWord 22 [l0, l1, l2, l3, l4, l5, l6] [.ref b, r0] M Q = (sh M b = some (.inl 12) ∧ wp F_Md_here 0 [.ref b] [] M (fun r M1 => wp F_Md_readWord 25 [l0, l1, l2, l3, l4, l5, l6] (r.toList ++ [r0]) M1 Q))) ∧
  (∀ (l0 l1 l2 l3 l4 l5 l6 : Value) (st : List Value) (M : Mm) (Q : Option Value → Mm → Prop), wp F_Md_readWord 25 [l0, l1, l2, l3, l4, l5, l6] st M Q = wp F_Md_readWord 27 [l0, l1, l2, l3, l4, l5, l6] (.int 97 :: st) M Q) ∧
  (∀ (l0 l1 l2 l3 l4 l5 l6 : Value) (x y : Int32) (st : List Value) (M : Mm) (Q : Option Value → Mm → Prop), wp F_Md_readWord 27 [l0, l1, l2, l3, l4, l5, l6] (.int y :: .int x :: st) M Q = wp F_Md_readWord 28 [l0, l1, l2, l3, l4, l5, l6] (.int (x - y) :: st) M Q) ∧
  (∀ (l0 l1 l2 l3 l4 l5 l6 : Value) (a : Nat) (j : Int32) (st : List Value) (M : Mm) (Q : Option Value → Mm → Prop), wp F_Md_readWord 28 [l0, l1, l2, l3, l4, l5, l6] (.int j :: .ref a :: st) M Q = (ixI M a j ∧ wp F_Md_readWord 29 [l0, l1, l2, l3, l4, l5, l6] (.int (gI M a (cl j)) :: st) M Q)) ∧
  (∀ (l0 l1 l2 l3 l4 l5 l6 : Value) (x : Int32) (st : List Value) (M : Mm) (Q : Option Value → Mm → Prop), wp F_Md_readWord 29 [l0, l1, l2, l3, l4, l5, l6] (.int x :: st) M Q = wp F_Md_readWord 31 [l0, l1, l2, l3, l4, clr l5, .int x] st M Q) ∧
  (∀ (l0 l1 l2 l3 l4 l5 : Value) (x : Int32) (st : List Value) (M : Mm) (Q : Option Value → Mm → Prop), wp F_Md_readWord 31 [l0, l1, l2, l3, l4, l5, .int x] st M Q = wp F_Md_readWord 33 [l0, l1, l2, l3, l4, l5, .int x] (.int x :: st) M Q) ∧
  (∀ (l0 l1 l2 l3 l4 l5 l6 : Value) (st : List Value) (M : Mm) (Q : Option Value → Mm → Prop), wp F_Md_readWord 33 [l0, l1, l2, l3, l4, l5, l6] st M Q = wp F_Md_readWord 34 [l0, l1, l2, l3, l4, l5, l6] (.int (-1) :: st) M Q) ∧
  (∀ (l0 l1 l2 l3 l4 l5 l6 : Value) (x y : Int32) (st : List Value) (M : Mm) (Q : Option Value → Mm → Prop), wp F_Md_readWord 34 [l0, l1, l2, l3, l4, l5, l6] (.int y :: .int x :: st) M Q = if x = y then wp F_Md_readWord 37 [l0, l1, l2, l3, l4, l5, l6] st M Q else wp F_Md_readWord 45 [l0, l1, l2, l3, l4, l5, l6] st M Q) ∧
  (∀ (l1 l2 l3 l4 l5 l6 : Value) (x : Nat) (st : List Value) (M : Mm) (Q : Option Value → Mm → Prop), wp F_Md_readWord 37 [.ref x, l1, l2, l3, l4, l5, l6] st M Q = wp F_Md_readWord 38 [.ref x, l1, l2, l3, l4, l5, l6] (.ref x :: st) M Q) ∧
  (∀ (l0 l1 l2 l3 l4 l5 l6 : Value) (st : List Value) (M : Mm) (Q : Option Value → Mm → Prop), wp F_Md_readWord 38 [l0, l1, l2, l3, l4, l5, l6] st M Q = wp F_Md_readWord 39 [l0, l1, l2, l3, l4, l5, l6] (.int 2 :: st) M Q) ∧
  (∀ (l0 l1 l2 l3 l4 l5 l6 : Value) (b : Nat) (p0 : Int32) (M : Mm) (Q : Option Value → Mm → Prop), wp F_Md_readWord 39 [l0, l1, l2, l3, l4, l5, l6] [.int p0, .ref b] M Q = (sh M b = some (.inl 12) ∧ wp F_Md_bad 0 [.ref b, .int p0] [] M (fun r M1 => wp F_Md_readWord 42 [l0, l1, l2, l3, l4, l5, l6] (r.toList ++ []) M1 Q))) ∧
  (∀ (l0 l1 l2 l3 l4 l5 l6 : Value) (st : List Value) (M : Mm) (Q : Option Value → Mm → Prop), wp F_Md_readWord 42 [l0, l1, l2, l3, l4, l5, l6] st M Q = wp F_Md_readWord 81 [l0, l1, l2, l3, l4, l5, l6] st M Q) := ⟨fun _ _ _ _ _ _ _ _ _ _ => wp_in d_Md_readWord_3 rfl rfl, fun _ _ _ _ _ _ _ _ _ _ _ => wp_getI d_Md_readWord_4 fl_12_28 rfl, fun _ _ _ _ _ _ _ _ _ _ _ => wp_if_ne d_Md_readWord_7 rfl, fun _ _ _ _ _ _ _ _ _ _ => wp_in d_Md_readWord_10 rfl rfl, fun _ _ _ _ _ _ _ _ _ _ => wp_callV d_Md_readWord_11 ml_12_40 rfl rfl rfl, fun _ _ _ _ _ _ _ _ _ _ => wp_callS d_Md_readWord_14 ml_12_44 (Nat.le_of_ble_eq_true rfl) rfl rfl rfl, fun _ _ _ _ _ _ _ _ _ _ _ => wp_if_eq d_Md_readWord_17 rfl, fun _ _ _ _ _ _ _ _ _ _ => wp_in d_Md_readWord_20 rfl rfl, fun _ _ _ _ _ _ _ _ _ => wp_in d_Md_readWord_20 rfl rfl, fun _ _ _ _ _ _ _ _ _ _ => wp_in d_Md_readWord_21 rfl rfl, fun _ _ _ _ _ _ _ _ _ _ _ => wp_callV d_Md_readWord_22 ml_12_40 rfl rfl rfl, fun _ _ _ _ _ _ _ _ _ _ => wp_bipush d_Md_readWord_25 (by decide), fun _ _ _ _ _ _ _ _ _ _ _ _ => wp_in d_Md_readWord_27 rfl rfl, fun _ _ _ _ _ _ _ _ _ _ _ _ => wp_iald d_Md_readWord_28, fun _ _ _ _ _ _ _ _ _ _ _ => wp_in d_Md_readWord_29 rfl rfl, fun _ _ _ _ _ _ _ _ _ _ => wp_in d_Md_readWord_31 rfl rfl, fun _ _ _ _ _ _ _ _ _ _ => wp_iconst d_Md_readWord_33 (by decide), fun _ _ _ _ _ _ _ _ _ _ _ _ => wp_icmp_ne d_Md_readWord_34 rfl, fun _ _ _ _ _ _ _ _ _ _ => wp_in d_Md_readWord_37 rfl rfl, fun _ _ _ _ _ _ _ _ _ _ => wp_iconst d_Md_readWord_38 (by decide), fun _ _ _ _ _ _ _ _ _ _ _ => wp_callV d_Md_readWord_39 ml_12_48 rfl rfl rfl, fun _ _ _ _ _ _ _ _ _ _ => wp_goto d_Md_readWord_42 rfl⟩
theorem B_Md_readWord_45 : (∀ (l0 l1 l2 l3 l4 l6 : Value) (x : Int32) (st : List Value) (M : Mm) (Q : Option Value → Mm → Prop), wp F_Md_readWord 45 [l0, l1, l2, l3, l4, .int x, l6] st M Q = wp F_Md_readWord 47 [l0, l1, l2, l3, l4, .int x, l6] (.int x :: st) M Q) ∧
  (∀ (l0 l1 l3 l4 l5 l6 : Value) (x : Int32) (st : List Value) (M : Mm) (Q : Option Value → Mm → Prop), wp F_Md_readWord 47 [l0, l1, .int x, l3, l4, l5, l6] st M Q = wp F_Md_readWord 48 [l0, l1, .int x, l3, l4, l5, l6] (.int x :: st) M Q) ∧
  (∀ (l0 l1 l2 l3 l4 l5 l6 : Value) (x y : Int32) (st : List Value) (M : Mm) (Q : Option Value → Mm → Prop), wp F_Md_readWord 48 [l0, l1, l2, l3, l4, l5, l6] (.int y :: .int x :: st) M Q = if x = y then wp F_Md_readWord 51 [l0, l1, l2, l3, l4, l5, l6] st M Q else wp F_Md_readWord 59 [l0, l1, l2, l3, l4, l5, l6] st M Q) ∧
  (∀ (l1 l2 l3 l4 l5 l6 : Value) (x : Nat) (st : List Value) (M : Mm) (Q : Option Value → Mm → Prop), wp F_Md_readWord 51 [.ref x, l1, l2, l3, l4, l5, l6] st M Q = wp F_Md_readWord 52 [.ref x, l1, l2, l3, l4, l5, l6] (.ref x :: st) M Q) ∧
  (∀ (l0 l1 l2 l3 l4 l5 l6 : Value) (st : List Value) (M : Mm) (Q : Option Value → Mm → Prop), wp F_Md_readWord 52 [l0, l1, l2, l3, l4, l5, l6] st M Q = wp F_Md_readWord 53 [l0, l1, l2, l3, l4, l5, l6] (.int 3 :: st) M Q) ∧
  (∀ (l0 l1 l2 l3 l4 l5 l6 : Value) (b : Nat) (p0 : Int32) (M : Mm) (Q : Option Value → Mm → Prop), wp F_Md_readWord 53 [l0, l1, l2, l3, l4, l5, l6] [.int p0, .ref b] M Q = (sh M b = some (.inl 12) ∧ wp F_Md_bad 0 [.ref b, .int p0] [] M (fun r M1 => wp F_Md_readWord 56 [l0, l1, l2, l3, l4, l5, l6] (r.toList ++ []) M1 Q))) ∧
  (∀ (l0 l1 l2 l3 l4 l5 l6 : Value) (st : List Value) (M : Mm) (Q : Option Value → Mm → Prop), wp F_Md_readWord 56 [l0, l1, l2, l3, l4, l5, l6] st M Q = wp F_Md_readWord 81 [l0, l1, l2, l3, l4, l5, l6] st M Q) := ⟨fun _ _ _ _ _ _ _ _ _ _ => wp_in d_Md_readWord_45 rfl rfl, fun _ _ _ _ _ _ _ _ _ _ => wp_in d_Md_readWord_47 rfl rfl, fun _ _ _ _ _ _ _ _ _ _ _ _ => wp_icmp_ne d_Md_readWord_48 rfl, fun _ _ _ _ _ _ _ _ _ _ => wp_in d_Md_readWord_51 rfl rfl, fun _ _ _ _ _ _ _ _ _ _ => wp_iconst d_Md_readWord_52 (by decide), fun _ _ _ _ _ _ _ _ _ _ _ => wp_callV d_Md_readWord_53 ml_12_48 rfl rfl rfl, fun _ _ _ _ _ _ _ _ _ _ => wp_goto d_Md_readWord_56 rfl⟩
theorem B_Md_readWord_59 : (∀ (l0 l1 l2 l4 l5 l6 : Value) (x : Nat) (st : List Value) (M : Mm) (Q : Option Value → Mm → Prop), wp F_Md_readWord 59 [l0, l1, l2, .ref x, l4, l5, l6] st M Q = wp F_Md_readWord 60 [l0, l1, l2, .ref x, l4, l5, l6] (.ref x :: st) M Q) ∧
  (∀ (l0 l1 l2 l4 l5 l6 : Value) (st : List Value) (M : Mm) (Q : Option Value → Mm → Prop), wp F_Md_readWord 59 [l0, l1, l2, .null, l4, l5, l6] st M Q = wp F_Md_readWord 60 [l0, l1, l2, .null, l4, l5, l6] (.null :: st) M Q) ∧
  (∀ (l0 l1 l2 l3 l5 l6 : Value) (x : Int32) (st : List Value) (M : Mm) (Q : Option Value → Mm → Prop), wp F_Md_readWord 60 [l0, l1, l2, l3, .int x, l5, l6] st M Q = wp F_Md_readWord 62 [l0, l1, l2, l3, .int x, l5, l6] (.int x :: st) M Q) ∧
  (∀ (l0 l1 l2 l3 l4 l6 : Value) (x : Int32) (st : List Value) (M : Mm) (Q : Option Value → Mm → Prop), wp F_Md_readWord 62 [l0, l1, l2, l3, l4, .int x, l6] st M Q = wp F_Md_readWord 64 [l0, l1, l2, l3, l4, .int x, l6] (.int x :: st) M Q) ∧
  (∀ (l0 l1 l2 l3 l4 l5 l6 : Value) (x y : Int32) (st : List Value) (M : Mm) (Q : Option Value → Mm → Prop), wp F_Md_readWord 64 [l0, l1, l2, l3, l4, l5, l6] (.int y :: .int x :: st) M Q = wp F_Md_readWord 65 [l0, l1, l2, l3, l4, l5, l6] (.int (x + y) :: st) M Q) ∧
  (∀ (l0 l1 l2 l3 l4 l5 : Value) (x : Int32) (st : List Value) (M : Mm) (Q : Option Value → Mm → Prop), wp F_Md_readWord 65 [l0, l1, l2, l3, l4, l5, .int x] st M Q = wp F_Md_readWord 67 [l0, l1, l2, l3, l4, l5, .int x] (.int x :: st) M Q) ∧
  (∀ (l0 l1 l2 l3 l4 l5 l6 : Value) (a : Nat) (j x : Int32) (st : List Value) (M : Mm) (Q : Option Value → Mm → Prop), wp F_Md_readWord 67 [l0, l1, l2, l3, l4, l5, l6] (.int x :: .int j :: .ref a :: st) M Q = (ixW M a j ∧ wp F_Md_readWord 68 [l0, l1, l2, l3, l4, l5, l6] st (sI M a (cl j) x) Q)) ∧
  (∀ (l0 l1 l2 l3 l4 l6 : Value) (x : Int32) (st : List Value) (M : Mm) (Q : Option Value → Mm → Prop), wp F_Md_readWord 68 [l0, l1, l2, l3, l4, .int x, l6] st M Q = wp F_Md_readWord 71 [l0, l1, l2, l3, clr l4, .int (x + 1), l6] st M Q) ∧
  (∀ (l1 l2 l3 l4 l5 l6 : Value) (x : Nat) (st : List Value) (M : Mm) (Q : Option Value → Mm → Prop), wp F_Md_readWord 71 [.ref x, l1, l2, l3, l4, l5, l6] st M Q = wp F_Md_readWord 72 [.ref x, l1, l2, l3, l4, l5, l6] (.ref x :: st) M Q) ∧
  (∀ (l0 l1 l2 l3 l4 l5 l6 : Value) (x : Nat) (st : List Value) (M : Mm) (Q : Option Value → Mm → Prop), wp F_Md_readWord 72 [l0, l1, l2, l3, l4, l5, l6] (.ref x :: st) M Q = wp F_Md_readWord 73 [l0, l1, l2, l3, l4, l5, l6] (.ref x :: .ref x :: st) M Q) ∧
  (∀ (l0 l1 l2 l3 l4 l5 l6 : Value) (a : Nat) (st : List Value) (M : Mm) (Q : Option Value → Mm → Prop), wp F_Md_readWord 73 [l0, l1, l2, l3, l4, l5, l6] (.ref a :: st) M Q = (sh M a = some (.inl 12) ∧ wp F_Md_readWord 76 [l0, l1, l2, l3, l4, l5, l6] (.int (gI M a 3) :: st) M Q)) ∧
  (∀ (l0 l1 l2 l3 l4 l5 l6 : Value) (st : List Value) (M : Mm) (Q : Option Value → Mm → Prop), wp F_Md_readWord 76 [l0, l1, l2, l3, l4, l5, l6] st M Q = wp F_Md_readWord 77 [l0, l1, l2, l3, l4, l5, l6] (.int 1 :: st) M Q) ∧
  (∀ (l0 l1 l2 l3 l4 l5 l6 : Value) (x y : Int32) (st : List Value) (M : Mm) (Q : Option Value → Mm → Prop), wp F_Md_readWord 77 [l0, l1, l2, l3, l4, l5, l6] (.int y :: .int x :: st) M Q = wp F_Md_readWord 78 [l0, l1, l2, l3, l4, l5, l6] (.int (x + y) :: st) M Q) ∧
  (∀ (l0 l1 l2 l3 l4 l5 l6 : Value) (a : Nat) (x : Int32) (st : List Value) (M : Mm) (Q : Option Value → Mm → Prop), wp F_Md_readWord 78 [l0, l1, l2, l3, l4, l5, l6] (.int x :: .ref a :: st) M Q = (sh M a = some (.inl 12) ∧ wp F_Md_readWord 81 [l0, l1, l2, l3, l4, l5, l6] st (sI M a 3 x) Q)) := ⟨fun _ _ _ _ _ _ _ _ _ _ => wp_in d_Md_readWord_59 rfl rfl, fun _ _ _ _ _ _ _ _ _ => wp_in d_Md_readWord_59 rfl rfl, fun _ _ _ _ _ _ _ _ _ _ => wp_in d_Md_readWord_60 rfl rfl, fun _ _ _ _ _ _ _ _ _ _ => wp_in d_Md_readWord_62 rfl rfl, fun _ _ _ _ _ _ _ _ _ _ _ _ => wp_in d_Md_readWord_64 rfl rfl, fun _ _ _ _ _ _ _ _ _ _ => wp_in d_Md_readWord_65 rfl rfl, fun _ _ _ _ _ _ _ _ _ _ _ _ _ => wp_iast d_Md_readWord_67, fun _ _ _ _ _ _ _ _ _ _ => wp_iinc d_Md_readWord_68 (by decide) rfl rfl, fun _ _ _ _ _ _ _ _ _ _ => wp_in d_Md_readWord_71 rfl rfl, fun _ _ _ _ _ _ _ _ _ _ _ => wp_in d_Md_readWord_72 rfl rfl, fun _ _ _ _ _ _ _ _ _ _ _ => wp_getI d_Md_readWord_73 fl_12_25 rfl, fun _ _ _ _ _ _ _ _ _ _ => wp_iconst d_Md_readWord_76 (by decide), fun _ _ _ _ _ _ _ _ _ _ _ _ => wp_in d_Md_readWord_77 rfl rfl, fun _ _ _ _ _ _ _ _ _ _ _ _ => wp_putI d_Md_readWord_78 fl_12_25 rfl rfl⟩
theorem B_Md_readWord_84 : (∀ (l0 l1 l2 l3 l4 l6 : Value) (x : Int32) (st : List Value) (M : Mm) (Q : Option Value → Mm → Prop), wp F_Md_readWord 84 [l0, l1, l2, l3, l4, .int x, l6] st M Q = wp F_Md_readWord 86 [l0, l1, l2, l3, l4, .int x, l6] (.int x :: st) M Q) ∧
  (∀ (l0 l1 l2 l3 l4 l5 l6 : Value) (v : Int32) (M : Mm) (Q : Option Value → Mm → Prop), wp F_Md_readWord 86 [l0, l1, l2, l3, l4, l5, l6] [.int v] M Q = Q (some (.int v)) M) := ⟨fun _ _ _ _ _ _ _ _ _ _ => wp_in d_Md_readWord_84 rfl rfl, fun _ _ _ _ _ _ _ _ _ _ => wp_retI d_Md_readWord_86 rfl⟩
theorem G_Md_readWord_81 (l0 l1 l2 l3 l4 l5 l6 : Value) (st : List Value) (M : Mm) (Q : Option Value → Mm → Prop) : wp F_Md_readWord 81 [l0, l1, l2, l3, l4, l5, l6] st M Q = wp F_Md_readWord 3 [l0, l1, l2, l3, l4, l5, l6] st M Q := wp_goto d_Md_readWord_81 rfl
theorem d_Md_readEquations_0 : decode (fnB F_Md_readEquations) 0 = .ok (.aload_n 0, 1) := by decide +kernel
theorem d_Md_readEquations_1 : decode (fnB F_Md_readEquations) 1 = .ok (.iconst 0, 1) := by decide +kernel
theorem d_Md_readEquations_2 : decode (fnB F_Md_readEquations) 2 = .ok (.putfield 52, 3) := by decide +kernel
theorem d_Md_readEquations_5 : decode (fnB F_Md_readEquations) 5 = .ok (.aload_n 0, 1) := by decide +kernel
theorem d_Md_readEquations_6 : decode (fnB F_Md_readEquations) 6 = .ok (.getfield 28, 3) := by decide +kernel
theorem d_Md_readEquations_9 : decode (fnB F_Md_readEquations) 9 = .ok (.ifCond .ne 194, 3) := by decide +kernel
theorem d_Md_readEquations_12 : decode (fnB F_Md_readEquations) 12 = .ok (.aload_n 0, 1) := by decide +kernel
theorem d_Md_readEquations_13 : decode (fnB F_Md_readEquations) 13 = .ok (.invokevirtual 40, 3) := by decide +kernel
theorem d_Md_readEquations_16 : decode (fnB F_Md_readEquations) 16 = .ok (.iconst (-1), 1) := by decide +kernel
theorem d_Md_readEquations_17 : decode (fnB F_Md_readEquations) 17 = .ok (.if_icmp .eq 186, 3) := by decide +kernel
theorem d_Md_readEquations_20 : decode (fnB F_Md_readEquations) 20 = .ok (.aload_n 0, 1) := by decide +kernel
theorem d_Md_readEquations_21 : decode (fnB F_Md_readEquations) 21 = .ok (.getfield 52, 3) := by decide +kernel
theorem d_Md_readEquations_24 : decode (fnB F_Md_readEquations) 24 = .ok (.bipush 40, 2) := by decide +kernel
theorem d_Md_readEquations_26 : decode (fnB F_Md_readEquations) 26 = .ok (.if_icmp .ne 7, 3) := by decide +kernel
theorem d_Md_readEquations_29 : decode (fnB F_Md_readEquations) 29 = .ok (.iconst 0, 1) := by decide +kernel
theorem d_Md_readEquations_30 : decode (fnB F_Md_readEquations) 30 = .ok (.goto 7, 3) := by decide +kernel
theorem d_Md_readEquations_33 : decode (fnB F_Md_readEquations) 33 = .ok (.aload_n 0, 1) := by decide +kernel
theorem d_Md_readEquations_34 : decode (fnB F_Md_readEquations) 34 = .ok (.getfield 52, 3) := by decide +kernel
theorem d_Md_readEquations_37 : decode (fnB F_Md_readEquations) 37 = .ok (.istore_n 1, 1) := by decide +kernel
theorem d_Md_readEquations_38 : decode (fnB F_Md_readEquations) 38 = .ok (.aload_n 0, 1) := by decide +kernel
theorem d_Md_readEquations_39 : decode (fnB F_Md_readEquations) 39 = .ok (.aload_n 0, 1) := by decide +kernel
theorem d_Md_readEquations_40 : decode (fnB F_Md_readEquations) 40 = .ok (.getfield 37, 3) := by decide +kernel
theorem d_Md_readEquations_43 : decode (fnB F_Md_readEquations) 43 = .ok (.bipush 24, 2) := by decide +kernel
theorem d_Md_readEquations_45 : decode (fnB F_Md_readEquations) 45 = .ok (.aload_n 0, 1) := by decide +kernel
theorem d_Md_readEquations_46 : decode (fnB F_Md_readEquations) 46 = .ok (.getfield 55, 3) := by decide +kernel
theorem d_Md_readEquations_49 : decode (fnB F_Md_readEquations) 49 = .ok (.bipush 48, 2) := by decide +kernel
theorem d_Md_readEquations_51 : decode (fnB F_Md_readEquations) 51 = .ok (.iload_n 1, 1) := by decide +kernel
theorem d_Md_readEquations_52 : decode (fnB F_Md_readEquations) 52 = .ok (.imul, 1) := by decide +kernel
theorem d_Md_readEquations_53 : decode (fnB F_Md_readEquations) 53 = .ok (.invokevirtual 58, 3) := by decide +kernel
theorem d_Md_readEquations_56 : decode (fnB F_Md_readEquations) 56 = .ok (.istore_n 2, 1) := by decide +kernel
theorem d_Md_readEquations_57 : decode (fnB F_Md_readEquations) 57 = .ok (.aload_n 0, 1) := by decide +kernel
theorem d_Md_readEquations_58 : decode (fnB F_Md_readEquations) 58 = .ok (.getfield 28, 3) := by decide +kernel
theorem d_Md_readEquations_61 : decode (fnB F_Md_readEquations) 61 = .ok (.ifCond .ne 20, 3) := by decide +kernel
theorem d_Md_readEquations_64 : decode (fnB F_Md_readEquations) 64 = .ok (.aload_n 0, 1) := by decide +kernel
theorem d_Md_readEquations_65 : decode (fnB F_Md_readEquations) 65 = .ok (.invokevirtual 40, 3) := by decide +kernel
theorem d_Md_readEquations_68 : decode (fnB F_Md_readEquations) 68 = .ok (.bipush 61, 2) := by decide +kernel
theorem d_Md_readEquations_70 : decode (fnB F_Md_readEquations) 70 = .ok (.if_icmp .eq 11, 3) := by decide +kernel
theorem d_Md_readEquations_73 : decode (fnB F_Md_readEquations) 73 = .ok (.aload_n 0, 1) := by decide +kernel
theorem d_Md_readEquations_74 : decode (fnB F_Md_readEquations) 74 = .ok (.iconst 1, 1) := by decide +kernel
theorem d_Md_readEquations_75 : decode (fnB F_Md_readEquations) 75 = .ok (.invokevirtual 48, 3) := by decide +kernel
theorem d_Md_readEquations_78 : decode (fnB F_Md_readEquations) 78 = .ok (.goto 24, 3) := by decide +kernel
theorem d_Md_readEquations_81 : decode (fnB F_Md_readEquations) 81 = .ok (.aload_n 0, 1) := by decide +kernel
theorem d_Md_readEquations_82 : decode (fnB F_Md_readEquations) 82 = .ok (.getfield 28, 3) := by decide +kernel
theorem d_Md_readEquations_85 : decode (fnB F_Md_readEquations) 85 = .ok (.ifCond .ne 17, 3) := by decide +kernel
theorem d_Md_readEquations_88 : decode (fnB F_Md_readEquations) 88 = .ok (.aload_n 0, 1) := by decide +kernel
theorem d_Md_readEquations_89 : decode (fnB F_Md_readEquations) 89 = .ok (.getfield 52, 3) := by decide +kernel
theorem d_Md_readEquations_92 : decode (fnB F_Md_readEquations) 92 = .ok (.bipush 40, 2) := by decide +kernel
theorem d_Md_readEquations_94 : decode (fnB F_Md_readEquations) 94 = .ok (.if_icmp .ne 8, 3) := by decide +kernel
theorem d_Md_readEquations_97 : decode (fnB F_Md_readEquations) 97 = .ok (.aload_n 0, 1) := by decide +kernel
theorem d_Md_readEquations_98 : decode (fnB F_Md_readEquations) 98 = .ok (.iconst 3, 1) := by decide +kernel
theorem d_Md_readEquations_99 : decode (fnB F_Md_readEquations) 99 = .ok (.invokevirtual 48, 3) := by decide +kernel
theorem d_Md_readEquations_102 : decode (fnB F_Md_readEquations) 102 = .ok (.aload_n 0, 1) := by decide +kernel
theorem d_Md_readEquations_103 : decode (fnB F_Md_readEquations) 103 = .ok (.dup, 1) := by decide +kernel
theorem d_Md_readEquations_104 : decode (fnB F_Md_readEquations) 104 = .ok (.getfield 25, 3) := by decide +kernel
theorem d_Md_readEquations_107 : decode (fnB F_Md_readEquations) 107 = .ok (.iconst 1, 1) := by decide +kernel
theorem d_Md_readEquations_108 : decode (fnB F_Md_readEquations) 108 = .ok (.iadd, 1) := by decide +kernel
theorem d_Md_readEquations_109 : decode (fnB F_Md_readEquations) 109 = .ok (.putfield 25, 3) := by decide +kernel
theorem d_Md_readEquations_112 : decode (fnB F_Md_readEquations) 112 = .ok (.aload_n 0, 1) := by decide +kernel
theorem d_Md_readEquations_113 : decode (fnB F_Md_readEquations) 113 = .ok (.getfield 28, 3) := by decide +kernel
theorem d_Md_readEquations_116 : decode (fnB F_Md_readEquations) 116 = .ok (.ifCond .ne 84, 3) := by decide +kernel
theorem d_Md_readEquations_119 : decode (fnB F_Md_readEquations) 119 = .ok (.aload_n 0, 1) := by decide +kernel
theorem d_Md_readEquations_120 : decode (fnB F_Md_readEquations) 120 = .ok (.getfield 62, 3) := by decide +kernel
theorem d_Md_readEquations_123 : decode (fnB F_Md_readEquations) 123 = .ok (.iconst 2, 1) := by decide +kernel
theorem d_Md_readEquations_124 : decode (fnB F_Md_readEquations) 124 = .ok (.iload_n 1, 1) := by decide +kernel
theorem d_Md_readEquations_125 : decode (fnB F_Md_readEquations) 125 = .ok (.imul, 1) := by decide +kernel
theorem d_Md_readEquations_126 : decode (fnB F_Md_readEquations) 126 = .ok (.iload_n 2, 1) := by decide +kernel
theorem d_Md_readEquations_127 : decode (fnB F_Md_readEquations) 127 = .ok (.iastore, 1) := by decide +kernel
theorem d_Md_readEquations_128 : decode (fnB F_Md_readEquations) 128 = .ok (.aload_n 0, 1) := by decide +kernel
theorem d_Md_readEquations_129 : decode (fnB F_Md_readEquations) 129 = .ok (.getfield 62, 3) := by decide +kernel
theorem d_Md_readEquations_132 : decode (fnB F_Md_readEquations) 132 = .ok (.iconst 2, 1) := by decide +kernel
theorem d_Md_readEquations_133 : decode (fnB F_Md_readEquations) 133 = .ok (.iload_n 1, 1) := by decide +kernel
theorem d_Md_readEquations_134 : decode (fnB F_Md_readEquations) 134 = .ok (.imul, 1) := by decide +kernel
theorem d_Md_readEquations_135 : decode (fnB F_Md_readEquations) 135 = .ok (.iconst 1, 1) := by decide +kernel
theorem d_Md_readEquations_136 : decode (fnB F_Md_readEquations) 136 = .ok (.iadd, 1) := by decide +kernel
theorem d_Md_readEquations_137 : decode (fnB F_Md_readEquations) 137 = .ok (.aload_n 0, 1) := by decide +kernel
theorem d_Md_readEquations_138 : decode (fnB F_Md_readEquations) 138 = .ok (.aload_n 0, 1) := by decide +kernel
theorem d_Md_readEquations_139 : decode (fnB F_Md_readEquations) 139 = .ok (.getfield 37, 3) := by decide +kernel
theorem d_Md_readEquations_142 : decode (fnB F_Md_readEquations) 142 = .ok (.bipush 24, 2) := by decide +kernel
theorem d_Md_readEquations_144 : decode (fnB F_Md_readEquations) 144 = .ok (.aload_n 0, 1) := by decide +kernel
theorem d_Md_readEquations_145 : decode (fnB F_Md_readEquations) 145 = .ok (.getfield 55, 3) := by decide +kernel
theorem d_Md_readEquations_148 : decode (fnB F_Md_readEquations) 148 = .ok (.bipush 48, 2) := by decide +kernel
theorem d_Md_readEquations_150 : decode (fnB F_Md_readEquations) 150 = .ok (.iload_n 1, 1) := by decide +kernel
theorem d_Md_readEquations_151 : decode (fnB F_Md_readEquations) 151 = .ok (.imul, 1) := by decide +kernel
theorem d_Md_readEquations_152 : decode (fnB F_Md_readEquations) 152 = .ok (.bipush 24, 2) := by decide +kernel
theorem d_Md_readEquations_154 : decode (fnB F_Md_readEquations) 154 = .ok (.iadd, 1) := by decide +kernel
theorem d_Md_readEquations_155 : decode (fnB F_Md_readEquations) 155 = .ok (.invokevirtual 58, 3) := by decide +kernel
theorem d_Md_readEquations_158 : decode (fnB F_Md_readEquations) 158 = .ok (.iastore, 1) := by decide +kernel
theorem d_Md_readEquations_159 : decode (fnB F_Md_readEquations) 159 = .ok (.aload_n 0, 1) := by decide +kernel
theorem d_Md_readEquations_160 : decode (fnB F_Md_readEquations) 160 = .ok (.dup, 1) := by decide +kernel
theorem d_Md_readEquations_161 : decode (fnB F_Md_readEquations) 161 = .ok (.getfield 52, 3) := by decide +kernel
theorem d_Md_readEquations_164 : decode (fnB F_Md_readEquations) 164 = .ok (.iconst 1, 1) := by decide +kernel
theorem d_Md_readEquations_165 : decode (fnB F_Md_readEquations) 165 = .ok (.iadd, 1) := by decide +kernel
theorem d_Md_readEquations_166 : decode (fnB F_Md_readEquations) 166 = .ok (.putfield 52, 3) := by decide +kernel
theorem d_Md_readEquations_169 : decode (fnB F_Md_readEquations) 169 = .ok (.aload_n 0, 1) := by decide +kernel
theorem d_Md_readEquations_170 : decode (fnB F_Md_readEquations) 170 = .ok (.getfield 28, 3) := by decide +kernel
theorem d_Md_readEquations_173 : decode (fnB F_Md_readEquations) 173 = .ok (.ifCond .ne 17, 3) := by decide +kernel
theorem d_Md_readEquations_176 : decode (fnB F_Md_readEquations) 176 = .ok (.aload_n 0, 1) := by decide +kernel
theorem d_Md_readEquations_177 : decode (fnB F_Md_readEquations) 177 = .ok (.invokevirtual 40, 3) := by decide +kernel
theorem d_Md_readEquations_180 : decode (fnB F_Md_readEquations) 180 = .ok (.bipush 59, 2) := by decide +kernel
theorem d_Md_readEquations_182 : decode (fnB F_Md_readEquations) 182 = .ok (.if_icmp .eq 8, 3) := by decide +kernel
theorem d_Md_readEquations_185 : decode (fnB F_Md_readEquations) 185 = .ok (.aload_n 0, 1) := by decide +kernel
theorem d_Md_readEquations_186 : decode (fnB F_Md_readEquations) 186 = .ok (.iconst 1, 1) := by decide +kernel
theorem d_Md_readEquations_187 : decode (fnB F_Md_readEquations) 187 = .ok (.invokevirtual 48, 3) := by decide +kernel
theorem d_Md_readEquations_190 : decode (fnB F_Md_readEquations) 190 = .ok (.aload_n 0, 1) := by decide +kernel
theorem d_Md_readEquations_191 : decode (fnB F_Md_readEquations) 191 = .ok (.dup, 1) := by decide +kernel
theorem d_Md_readEquations_192 : decode (fnB F_Md_readEquations) 192 = .ok (.getfield 25, 3) := by decide +kernel
theorem d_Md_readEquations_195 : decode (fnB F_Md_readEquations) 195 = .ok (.iconst 1, 1) := by decide +kernel
theorem d_Md_readEquations_196 : decode (fnB F_Md_readEquations) 196 = .ok (.iadd, 1) := by decide +kernel
theorem d_Md_readEquations_197 : decode (fnB F_Md_readEquations) 197 = .ok (.putfield 25, 3) := by decide +kernel
theorem d_Md_readEquations_200 : decode (fnB F_Md_readEquations) 200 = .ok (.goto (-195), 3) := by decide +kernel
theorem d_Md_readEquations_203 : decode (fnB F_Md_readEquations) 203 = .ok (.return_, 1) := by decide +kernel
theorem B_Md_readEquations_0 : (∀ (l1 l2 : Value) (x : Nat) (st : List Value) (M : Mm) (Q : Option Value → Mm → Prop), wp F_Md_readEquations 0 [.ref x, l1, l2] st M Q = wp F_Md_readEquations 1 [.ref x, l1, l2] (.ref x :: st) M Q) ∧
  (∀ (l0 l1 l2 : Value) (st : List Value) (M : Mm) (Q : Option Value → Mm → Prop), wp F_Md_readEquations 1 [l0, l1, l2] st M Q = wp F_Md_readEquations 2 [l0, l1, l2] (.int 0 :: st) M Q) ∧
  (∀ (l0 l1 l2 : Value) (a : Nat) (x : Int32) (st : List Value) (M : Mm) (Q : Option Value → Mm → Prop), wp F_Md_readEquations 2 [l0, l1, l2] (.int x :: .ref a :: st) M Q = (sh M a = some (.inl 12) ∧ wp F_Md_readEquations 5 [l0, l1, l2] st (sI M a 14 x) Q)) := ⟨fun _ _ _ _ _ _ => wp_in d_Md_readEquations_0 rfl rfl, fun _ _ _ _ _ _ => wp_iconst d_Md_readEquations_1 (by decide), fun _ _ _ _ _ _ _ _ => wp_putI d_Md_readEquations_2 fl_12_52 rfl rfl⟩
theorem B_Md_readEquations_5 : (∀ (l1 l2 : Value) (x : Nat) (st : List Value) (M : Mm) (Q : Option Value → Mm → Prop), wp F_Md_readEquations 5 [.ref x, l1, l2] st M Q = wp F_Md_readEquations 6 [.ref x, l1, l2] (.ref x :: st) M Q) ∧
  (∀ (l0 l1 l2 : Value) (a : Nat) (st : List Value) (M : Mm) (Q : Option Value → Mm → Prop), wp F_Md_readEquations 6 [l0, l1, l2] (.ref a :: st) M Q = (sh M a = some (.inl 12) ∧ wp F_Md_readEquations 9 [l0, l1, l2] (.int (gI M a 5) :: st) M Q)) ∧
  (∀ (l0 l1 l2 : Value) (x : Int32) (st : List Value) (M : Mm) (Q : Option Value → Mm → Prop), wp F_Md_readEquations 9 [l0, l1, l2] (.int x :: st) M Q = if x = 0 then wp F_Md_readEquations 12 [l0, l1, l2] st M Q else wp F_Md_readEquations 203 [l0, l1, l2] st M Q) ∧
  (∀ (l1 l2 : Value) (x : Nat) (st : List Value) (M : Mm) (Q : Option Value → Mm → Prop), wp F_Md_readEquations 12 [.ref x, l1, l2] st M Q = wp F_Md_readEquations 13 [.ref x, l1, l2] (.ref x :: st) M Q) ∧
  (∀ (l0 l1 l2 : Value) (b : Nat) (M : Mm) (Q : Option Value → Mm → Prop), wp F_Md_readEquations 13 [l0, l1, l2] [.ref b] M Q = (sh M b = some (.inl 12) ∧ wp F_Md_here 0 [.ref b] [] M (fun r M1 => wp F_Md_readEquations 16 [l0, l1, l2] (r.toList ++ []) M1 Q))) ∧
  (∀ (l0 l1 l2 : Value) (st : List Value) (M : Mm) (Q : Option Value → Mm → Prop), wp F_Md_readEquations 16 [l0, l1, l2] st M Q = wp F_Md_readEquations 17 [l0, l1, l2] (.int (-1) :: st) M Q) ∧
  (∀ (l0 l1 l2 : Value) (x y : Int32) (st : List Value) (M : Mm) (Q : Option Value → Mm → Prop), wp F_Md_readEquations 17 [l0, l1, l2] (.int y :: .int x :: st) M Q = if x = y then wp F_Md_readEquations 203 [l0, l1, l2] st M Q else wp F_Md_readEquations 20 [l0, l1, l2] st M Q) ∧
  (∀ (l1 l2 : Value) (x : Nat) (st : List Value) (M : Mm) (Q : Option Value → Mm → Prop), wp F_Md_readEquations 20 [.ref x, l1, l2] st M Q = wp F_Md_readEquations 21 [.ref x, l1, l2] (.ref x :: st) M Q) ∧
  (∀ (l0 l1 l2 : Value) (a : Nat) (st : List Value) (M : Mm) (Q : Option Value → Mm → Prop), wp F_Md_readEquations 21 [l0, l1, l2] (.ref a :: st) M Q = (sh M a = some (.inl 12) ∧ wp F_Md_readEquations 24 [l0, l1, l2] (.int (gI M a 14) :: st) M Q)) ∧
  (∀ (l0 l1 l2 : Value) (st : List Value) (M : Mm) (Q : Option Value → Mm → Prop), wp F_Md_readEquations 24 [l0, l1, l2] st M Q = wp F_Md_readEquations 26 [l0, l1, l2] (.int 40 :: st) M Q) ∧
  (∀ (l0 l1 l2 : Value) (x y : Int32) (st : List Value) (M : Mm) (Q : Option Value → Mm → Prop), wp F_Md_readEquations 26 [l0, l1, l2] (.int y :: .int x :: st) M Q = if x = y then wp F_Md_readEquations 29 [l0, l1, l2] st M Q else wp F_Md_readEquations 33 [l0, l1, l2] st M Q) ∧
  (∀ (l0 l1 l2 : Value) (st : List Value) (M : Mm) (Q : Option Value → Mm → Prop), wp F_Md_readEquations 29 [l0, l1, l2] st M Q = wp F_Md_readEquations 30 [l0, l1, l2] (.int 0 :: st) M Q) ∧
  (∀ (l0 l1 l2 : Value) (st : List Value) (M : Mm) (Q : Option Value → Mm → Prop), wp F_Md_readEquations 30 [l0, l1, l2] st M Q = wp F_Md_readEquations 37 [l0, l1, l2] st M Q) := ⟨fun _ _ _ _ _ _ => wp_in d_Md_readEquations_5 rfl rfl, fun _ _ _ _ _ _ _ => wp_getI d_Md_readEquations_6 fl_12_28 rfl, fun _ _ _ _ _ _ _ => wp_if_ne d_Md_readEquations_9 rfl, fun _ _ _ _ _ _ => wp_in d_Md_readEquations_12 rfl rfl, fun _ _ _ _ _ _ => wp_callV d_Md_readEquations_13 ml_12_40 rfl rfl rfl, fun _ _ _ _ _ _ => wp_iconst d_Md_readEquations_16 (by decide), fun _ _ _ _ _ _ _ _ => wp_icmp_eq d_Md_readEquations_17 rfl, fun _ _ _ _ _ _ => wp_in d_Md_readEquations_20 rfl rfl, fun _ _ _ _ _ _ _ => wp_getI d_Md_readEquations_21 fl_12_52 rfl, fun _ _ _ _ _ _ => wp_bipush d_Md_readEquations_24 (by decide), fun _ _ _ _ _ _ _ _ => wp_icmp_ne d_Md_readEquations_26 rfl, fun _ _ _ _ _ _ => wp_iconst d_Md_readEquations_29 (by decide), fun _ _ _ _ _ _ => wp_goto d_Md_readEquations_30 rfl⟩
theorem B_Md_readEquations_33 : (∀ (l1 l2 : Value) (x : Nat) (st : List Value) (M : Mm) (Q : Option Value → Mm → Prop), wp F_Md_readEquations 33 [.ref x, l1, l2] st M Q = wp F_Md_readEquations 34 [.ref x, l1, l2] (.ref x :: st) M Q) ∧
  (∀ (l0 l1 l2 : Value) (a : Nat) (st : List Value) (M : Mm) (Q : Option Value → Mm → Prop), wp F_Md_readEquations 34 [l0, l1, l2] (.ref a :: st) M Q = (sh M a = some (.inl 12) ∧ wp F_Md_readEquations 37 [l0, l1, l2] (.int (gI M a 14) :: st) M Q)) := ⟨fun _ _ _ _ _ _ => wp_in d_Md_readEquations_33 rfl rfl, fun _ _ _ _ _ _ _ => wp_getI d_Md_readEquations_34 fl_12_52 rfl⟩
theorem B_Md_readEquations_37 : (∀ (l0 l1 l2 : Value) (x : Int32) (st : List Value) (M : Mm) (Q : Option Value → Mm → Prop), wp F_Md_readEquations 37 [l0, l1, l2] (.int x :: st) M Q = wp F_Md_readEquations 38 [clr l0, .int x, l2] st M Q) ∧
  (∀ (l1 l2 : Value) (x : Nat) (st : List Value) (M : Mm) (Q : Option Value → Mm → Prop), wp F_Md_readEquations 38 [.ref x, l1, l2] st M Q = wp F_Md_readEquations 39 [.ref x, l1, l2] (.ref x :: st) M Q) ∧
  (∀ (l1 l2 : Value) (x : Nat) (st : List Value) (M : Mm) (Q : Option Value → Mm → Prop), wp F_Md_readEquations 39 [.ref x, l1, l2] st M Q = wp F_Md_readEquations 40 [.ref x, l1, l2] (.ref x :: st) M Q) ∧
  (∀ (l0 l1 l2 : Value) (a : Nat) (st : List Value) (M : Mm) (Q : Option Value → Mm → Prop), wp F_Md_readEquations 40 [l0, l1, l2] (.ref a :: st) M Q = (sh M a = some (.inl 12) ∧ wp F_Md_readEquations 43 [l0, l1, l2] (va_rf (gR M a 8) :: st) M Q)) ∧
  (∀ (l0 l1 l2 : Value) (st : List Value) (M : Mm) (Q : Option Value → Mm → Prop), wp F_Md_readEquations 43 [l0, l1, l2] st M Q = wp F_Md_readEquations 45 [l0, l1, l2] (.int 24 :: st) M Q) ∧
  (∀ (l1 l2 : Value) (x : Nat) (st : List Value) (M : Mm) (Q : Option Value → Mm → Prop), wp F_Md_readEquations 45 [.ref x, l1, l2] st M Q = wp F_Md_readEquations 46 [.ref x, l1, l2] (.ref x :: st) M Q) ∧
  (∀ (l0 l1 l2 : Value) (a : Nat) (st : List Value) (M : Mm) (Q : Option Value → Mm → Prop), wp F_Md_readEquations 46 [l0, l1, l2] (.ref a :: st) M Q = (sh M a = some (.inl 12) ∧ wp F_Md_readEquations 49 [l0, l1, l2] (va_rf (gR M a 12) :: st) M Q)) ∧
  (∀ (l0 l1 l2 : Value) (st : List Value) (M : Mm) (Q : Option Value → Mm → Prop), wp F_Md_readEquations 49 [l0, l1, l2] st M Q = wp F_Md_readEquations 51 [l0, l1, l2] (.int 48 :: st) M Q) ∧
  (∀ (l0 l2 : Value) (x : Int32) (st : List Value) (M : Mm) (Q : Option Value → Mm → Prop), wp F_Md_readEquations 51 [l0, .int x, l2] st M Q = wp F_Md_readEquations 52 [l0, .int x, l2] (.int x :: st) M Q) ∧
  (∀ (l0 l1 l2 : Value) (x y : Int32) (st : List Value) (M : Mm) (Q : Option Value → Mm → Prop), wp F_Md_readEquations 52 [l0, l1, l2] (.int y :: .int x :: st) M Q = wp F_Md_readEquations 53 [l0, l1, l2] (.int (x * y) :: st) M Q) ∧
  (∀ (l0 l1 l2 : Value) (b : Nat) (p0 : Nat) (p1 : Int32) (p2 : Nat) (p3 : Int32) (M : Mm) (Q : Option Value → Mm → Prop), wp F_Md_readEquations 53 [l0, l1, l2] [.int p3, .ref p2, .int p1, .ref p0, .ref b] M Q = (sh M b = some (.inl 12) ∧ wp F_Md_readWord 0 [.ref b, .ref p0, .int p1, .ref p2, .int p3, jk, jk] [] M (fun r M1 => wp F_Md_readEquations 56 [l0, l1, l2] (r.toList ++ []) M1 Q))) ∧
  (∀ (l0 l1 l2 : Value) (x : Int32) (st : List Value) (M : Mm) (Q : Option Value → Mm → Prop), wp F_Md_readEquations 56 [l0, l1, l2] (.int x :: st) M Q = wp F_Md_readEquations 57 [l0, clr l1, .int x] st M Q) ∧
  (∀ (l1 l2 : Value) (x : Nat) (st : List Value) (M : Mm) (Q : Option Value → Mm → Prop), wp F_Md_readEquations 57 [.ref x, l1, l2] st M Q = wp F_Md_readEquations 58 [.ref x, l1, l2] (.ref x :: st) M Q) ∧
  (∀ (l0 l1 l2 : Value) (a : Nat) (st : List Value) (M : Mm) (Q : Option Value → Mm → Prop), wp F_Md_readEquations 58 [l0, l1, l2] (.ref a :: st) M Q = (sh M a = some (.inl 12) ∧ wp F_Md_readEquations 61 [l0, l1, l2] (.int (gI M a 5) :: st) M Q)) ∧
  (∀ (l0 l1 l2 : Value) (x : Int32) (st : List Value) (M : Mm) (Q : Option Value → Mm → Prop), wp F_Md_readEquations 61 [l0, l1, l2] (.int x :: st) M Q = if x = 0 then wp F_Md_readEquations 64 [l0, l1, l2] st M Q else wp F_Md_readEquations 81 [l0, l1, l2] st M Q) ∧
  (∀ (l1 l2 : Value) (x : Nat) (st : List Value) (M : Mm) (Q : Option Value → Mm → Prop), wp F_Md_readEquations 64 [.ref x, l1, l2] st M Q = wp F_Md_readEquations 65 [.ref x, l1, l2] (.ref x :: st) M Q) ∧
  (∀ (l0 l1 l2 : Value) (b : Nat) (M : Mm) (Q : Option Value → Mm → Prop), wp F_Md_readEquations 65 [l0, l1, l2] [.ref b] M Q = (sh M b = some (.inl 12) ∧ wp F_Md_here 0 [.ref b] [] M (fun r M1 => wp F_Md_readEquations 68 [l0, l1, l2] (r.toList ++ []) M1 Q))) ∧
  (∀ (l0 l1 l2 : Value) (st : List Value) (M : Mm) (Q : Option Value → Mm → Prop), wp F_Md_readEquations 68 [l0, l1, l2] st M Q = wp F_Md_readEquations 70 [l0, l1, l2] (.int 61 :: st) M Q) ∧
  (∀ (l0 l1 l2 : Value) (x y : Int32) (st : List Value) (M : Mm) (Q : Option Value → Mm → Prop), wp F_Md_readEquations 70 [l0, l1, l2] (.int y :: .int x :: st) M Q = if x = y then wp F_Md_readEquations 81 [l0, l1, l2] st M Q else wp F_Md_readEquations 73 [l0, l1, l2] st M Q) ∧
  (∀ (l1 l2 : Value) (x : Nat) (st : List Value) (M : Mm) (Q : Option Value → Mm → Prop), wp F_Md_readEquations 73 [.ref x, l1, l2] st M Q = wp F_Md_readEquations 74 [.ref x, l1, l2] (.ref x :: st) M Q) ∧
  (∀ (l0 l1 l2 : Value) (st : List Value) (M : Mm) (Q : Option Value → Mm → Prop), wp F_Md_readEquations 74 [l0, l1, l2] st M Q = wp F_Md_readEquations 75 [l0, l1, l2] (.int 1 :: st) M Q) ∧
  (∀ (l0 l1 l2 : Value) (b : Nat) (p0 : Int32) (M : Mm) (Q : Option Value → Mm → Prop), wp F_Md_readEquations 75 [l0, l1, l2] [.int p0, .ref b] M Q = (sh M b = some (.inl 12) ∧ wp F_Md_bad 0 [.ref b, .int p0] [] M (fun r M1 => wp F_Md_readEquations 78 [l0, l1, l2] (r.toList ++ []) M1 Q))) ∧
  (∀ (l0 l1 l2 : Value) (st : List Value) (M : Mm) (Q : Option Value → Mm → Prop), wp F_Md_readEquations 78 [l0, l1, l2] st M Q = wp F_Md_readEquations 102 [l0, l1, l2] st M Q) := ⟨fun _ _ _ _ _ _ _ => wp_in d_Md_readEquations_37 rfl rfl, fun _ _ _ _ _ _ => wp_in d_Md_readEquations_38 rfl rfl, fun _ _ _ _ _ _ => wp_in d_Md_readEquations_39 rfl rfl, fun _ _ _ _ _ _ _ => wp_getA d_Md_readEquations_40 fl_12_37 rfl, fun _ _ _ _ _ _ => wp_bipush d_Md_readEquations_43 (by decide), fun _ _ _ _ _ _ => wp_in d_Md_readEquations_45 rfl rfl, fun _ _ _ _ _ _ _ => wp_getA d_Md_readEquations_46 fl_12_55 rfl, fun _ _ _ _ _ _ => wp_bipush d_Md_readEquations_49 (by decide), fun _ _ _ _ _ _ => wp_in d_Md_readEquations_51 rfl rfl, fun _ _ _ _ _ _ _ _ => wp_in d_Md_readEquations_52 rfl rfl, fun _ _ _ _ _ _ _ _ _ _ => wp_callV d_Md_readEquations_53 ml_12_58 rfl rfl rfl, fun _ _ _ _ _ _ _ => wp_in d_Md_readEquations_56 rfl rfl, fun _ _ _ _ _ _ => wp_in d_Md_readEquations_57 rfl rfl, fun _ _ _ _ _ _ _ => wp_getI d_Md_readEquations_58 fl_12_28 rfl, fun _ _ _ _ _ _ _ => wp_if_ne d_Md_readEquations_61 rfl, fun _ _ _ _ _ _ => wp_in d_Md_readEquations_64 rfl rfl, fun _ _ _ _ _ _ => wp_callV d_Md_readEquations_65 ml_12_40 rfl rfl rfl, fun _ _ _ _ _ _ => wp_bipush d_Md_readEquations_68 (by decide), fun _ _ _ _ _ _ _ _ => wp_icmp_eq d_Md_readEquations_70 rfl, fun _ _ _ _ _ _ => wp_in d_Md_readEquations_73 rfl rfl, fun _ _ _ _ _ _ => wp_iconst d_Md_readEquations_74 (by decide), fun _ _ _ _ _ _ _ => wp_callV d_Md_readEquations_75 ml_12_48 rfl rfl rfl, fun _ _ _ _ _ _ => wp_goto d_Md_readEquations_78 rfl⟩
theorem B_Md_readEquations_81 : (∀ (l1 l2 : Value) (x : Nat) (st : List Value) (M : Mm) (Q : Option Value → Mm → Prop), wp F_Md_readEquations 81 [.ref x, l1, l2] st M Q = wp F_Md_readEquations 82 [.ref x, l1, l2] (.ref x :: st) M Q) ∧
  (∀ (l0 l1 l2 : Value) (a : Nat) (st : List Value) (M : Mm) (Q : Option Value → Mm → Prop), wp F_Md_readEquations 82 [l0, l1, l2] (.ref a :: st) M Q = (sh M a = some (.inl 12) ∧ wp F_Md_readEquations 85 [l0, l1, l2] (.int (gI M a 5) :: st) M Q)) ∧
  (∀ (l0 l1 l2 : Value) (x : Int32) (st : List Value) (M : Mm) (Q : Option Value → Mm → Prop), wp F_Md_readEquations 85 [l0, l1, l2] (.int x :: st) M Q = if x = 0 then wp F_Md_readEquations 88 [l0, l1, l2] st M Q else wp F_Md_readEquations 102 [l0, l1, l2] st M Q) ∧
  (∀ (l1 l2 : Value) (x : Nat) (st : List Value) (M : Mm) (Q : Option Value → Mm → Prop), wp F_Md_readEquations 88 [.ref x, l1, l2] st M Q = wp F_Md_readEquations 89 [.ref x, l1, l2] (.ref x :: st) M Q) ∧
  (∀ (l0 l1 l2 : Value) (a : Nat) (st : List Value) (M : Mm) (Q : Option Value → Mm → Prop), wp F_Md_readEquations 89 [l0, l1, l2] (.ref a :: st) M Q = (sh M a = some (.inl 12) ∧ wp F_Md_readEquations 92 [l0, l1, l2] (.int (gI M a 14) :: st) M Q)) ∧
  (∀ (l0 l1 l2 : Value) (st : List Value) (M : Mm) (Q : Option Value → Mm → Prop), wp F_Md_readEquations 92 [l0, l1, l2] st M Q = wp F_Md_readEquations 94 [l0, l1, l2] (.int 40 :: st) M Q) ∧
  (∀ (l0 l1 l2 : Value) (x y : Int32) (st : List Value) (M : Mm) (Q : Option Value → Mm → Prop), wp F_Md_readEquations 94 [l0, l1, l2] (.int y :: .int x :: st) M Q = if x = y then wp F_Md_readEquations 97 [l0, l1, l2] st M Q else wp F_Md_readEquations 102 [l0, l1, l2] st M Q) ∧
  (∀ (l1 l2 : Value) (x : Nat) (st : List Value) (M : Mm) (Q : Option Value → Mm → Prop), wp F_Md_readEquations 97 [.ref x, l1, l2] st M Q = wp F_Md_readEquations 98 [.ref x, l1, l2] (.ref x :: st) M Q) ∧
  (∀ (l0 l1 l2 : Value) (st : List Value) (M : Mm) (Q : Option Value → Mm → Prop), wp F_Md_readEquations 98 [l0, l1, l2] st M Q = wp F_Md_readEquations 99 [l0, l1, l2] (.int 3 :: st) M Q) ∧
  (∀ (l0 l1 l2 : Value) (b : Nat) (p0 : Int32) (M : Mm) (Q : Option Value → Mm → Prop), wp F_Md_readEquations 99 [l0, l1, l2] [.int p0, .ref b] M Q = (sh M b = some (.inl 12) ∧ wp F_Md_bad 0 [.ref b, .int p0] [] M (fun r M1 => wp F_Md_readEquations 102 [l0, l1, l2] (r.toList ++ []) M1 Q))) := ⟨fun _ _ _ _ _ _ => wp_in d_Md_readEquations_81 rfl rfl, fun _ _ _ _ _ _ _ => wp_getI d_Md_readEquations_82 fl_12_28 rfl, fun _ _ _ _ _ _ _ => wp_if_ne d_Md_readEquations_85 rfl, fun _ _ _ _ _ _ => wp_in d_Md_readEquations_88 rfl rfl, fun _ _ _ _ _ _ _ => wp_getI d_Md_readEquations_89 fl_12_52 rfl, fun _ _ _ _ _ _ => wp_bipush d_Md_readEquations_92 (by decide), fun _ _ _ _ _ _ _ _ => wp_icmp_ne d_Md_readEquations_94 rfl, fun _ _ _ _ _ _ => wp_in d_Md_readEquations_97 rfl rfl, fun _ _ _ _ _ _ => wp_iconst d_Md_readEquations_98 (by decide), fun _ _ _ _ _ _ _ => wp_callV d_Md_readEquations_99 ml_12_48 rfl rfl rfl⟩
theorem B_Md_readEquations_102 : (∀ (l1 l2 : Value) (x : Nat) (st : List Value) (M : Mm) (Q : Option Value → Mm → Prop), wp F_Md_readEquations 102 [.ref x, l1, l2] st M Q = wp F_Md_readEquations 103 [.ref x, l1, l2] (.ref x :: st) M Q) ∧
  (∀ (l0 l1 l2 : Value) (x : Nat) (st : List Value) (M : Mm) (Q : Option Value → Mm → Prop), wp F_Md_readEquations 103 [l0, l1, l2] (.ref x :: st) M Q = wp F_Md_readEquations 104 [l0, l1, l2] (.ref x :: .ref x :: st) M Q) ∧
  (∀ (l0 l1 l2 : Value) (a : Nat) (st : List Value) (M : Mm) (Q : Option Value → Mm → Prop), wp F_Md_readEquations 104 [l0, l1, l2] (.ref a :: st) M Q = (sh M a = some (.inl 12) ∧ wp F_Md_readEquations 107 [l0, l1, l2] (.int (gI M a 3) :: st) M Q)) ∧
  (∀ (l0 l1 l2 : Value) (st : List Value) (M : Mm) (Q : Option Value → Mm → Prop), wp F_Md_readEquations 107 [l0, l1, l2] st M Q = wp F_Md_readEquations 108 [l0, l1, l2] (.int 1 :: st) M Q) ∧
  (∀ (l0 l1 l2 : Value) (x y : Int32) (st : List Value) (M : Mm) (Q : Option Value → Mm → Prop), wp F_Md_readEquations 108 [l0, l1, l2] (.int y :: .int x :: st) M Q = wp F_Md_readEquations 109 [l0, l1, l2] (.int (x + y) :: st) M Q) ∧
  (∀ (l0 l1 l2 : Value) (a : Nat) (x : Int32) (st : List Value) (M : Mm) (Q : Option Value → Mm → Prop), wp F_Md_readEquations 109 [l0, l1, l2] (.int x :: .ref a :: st) M Q = (sh M a = some (.inl 12) ∧ wp F_Md_readEquations 112 [l0, l1, l2] st (sI M a 3 x) Q)) ∧
  (∀ (l1 l2 : Value) (x : Nat) (st : List Value) (M : Mm) (Q : Option Value → Mm → Prop), wp F_Md_readEquations 112 [.ref x, l1, l2] st M Q = wp F_Md_readEquations 113 [.ref x, l1, l2] (.ref x :: st) M Q) ∧
  (∀ (l0 l1 l2 : Value) (a : Nat) (st : List Value) (M : Mm) (Q : Option Value → Mm → Prop), wp F_Md_readEquations 113 [l0, l1, l2] (.ref a :: st) M Q = (sh M a = some (.inl 12) ∧ wp F_Md_readEquations 116 [l0, l1, l2] (.int (gI M a 5) :: st) M Q)) ∧
  (∀ (l0 l1 l2 : Value) (x : Int32) (st : List Value) (M : Mm) (Q : Option Value → Mm → Prop), wp F_Md_readEquations 116 [l0, l1, l2] (.int x :: st) M Q = if x = 0 then wp F_Md_readEquations 119 [l0, l1, l2] st M Q else wp F_Md_readEquations 200 [l0, l1, l2] st M Q) ∧
  (∀ (l1 l2 : Value) (x : Nat) (st : List Value) (M : Mm) (Q : Option Value → Mm → Prop), wp F_Md_readEquations 119 [.ref x, l1, l2] st M Q = wp F_Md_readEquations 120 [.ref x, l1, l2] (.ref x :: st) M Q) ∧
  (∀ (l0 l1 l2 : Value) (a : Nat) (st : List Value) (M : Mm) (Q : Option Value → Mm → Prop), wp F_Md_readEquations 120 [l0, l1, l2] (.ref a :: st) M Q = (sh M a = some (.inl 12) ∧ wp F_Md_readEquations 123 [l0, l1, l2] (va_rf (gR M a 13) :: st) M Q)) ∧
  (∀ (l0 l1 l2 : Value) (st : List Value) (M : Mm) (Q : Option Value → Mm → Prop), wp F_Md_readEquations 123 [l0, l1, l2] st M Q = wp F_Md_readEquations 124 [l0, l1, l2] (.int 2 :: st) M Q) ∧
  (∀ (l0 l2 : Value) (x : Int32) (st : List Value) (M : Mm) (Q : Option Value → Mm → Prop), wp F_Md_readEquations 124 [l0, .int x, l2] st M Q = wp F_Md_readEquations 125 [l0, .int x, l2] (.int x :: st) M Q) ∧
  (∀ (l0 l1 l2 : Value) (x y : Int32) (st : List Value) (M : Mm) (Q : Option Value → Mm → Prop), wp F_Md_readEquations 125 [l0, l1, l2] (.int y :: .int x :: st) M Q = wp F_Md_readEquations 126 [l0, l1, l2] (.int (x * y) :: st) M Q) ∧
  (∀ (l0 l1 : Value) (x : Int32) (st : List Value) (M : Mm) (Q : Option Value → Mm → Prop), wp F_Md_readEquations 126 [l0, l1, .int x] st M Q = wp F_Md_readEquations 127 [l0, l1, .int x] (.int x :: st) M Q) ∧
  (∀ (l0 l1 l2 : Value) (a : Nat) (j x : Int32) (st : List Value) (M : Mm) (Q : Option Value → Mm → Prop), wp F_Md_readEquations 127 [l0, l1, l2] (.int x :: .int j :: .ref a :: st) M Q = (ixW M a j ∧ wp F_Md_readEquations 128 [l0, l1, l2] st (sI M a (cl j) x) Q)) ∧
  (∀ (l1 l2 : Value) (x : Nat) (st : List Value) (M : Mm) (Q : Option Value → Mm → Prop), wp F_Md_readEquations 128 [.ref x, l1, l2] st M Q = wp F_Md_readEquations 129 [.ref x, l1, l2] (.ref x :: st) M Q) ∧
  (∀ (l0 l1 l2 : Value) (a : Nat) (st : List Value) (M : Mm) (Q : Option Value → Mm → Prop), wp F_Md_readEquations 129 [l0, l1, l2] (.ref a :: st) M Q = (sh M a = some (.inl 12) ∧ wp F_Md_readEquations 132 [l0, l1, l2] (va_rf (gR M a 13) :: st) M Q)) ∧
  (∀ (l0 l1 l2 : Value) (st : List Value) (M : Mm) (Q : Option Value → Mm → Prop), wp F_Md_readEquations 132 [l0, l1, l2] st M Q = wp F_Md_readEquations 133 [l0, l1, l2] (.int 2 :: st) M Q) ∧
  (∀ (l0 l2 : Value) (x : Int32) (st : List Value) (M : Mm) (Q : Option Value → Mm → Prop), wp F_Md_readEquations 133 [l0, .int x, l2] st M Q = wp F_Md_readEquations 134 [l0, .int x, l2] (.int x :: st) M Q) ∧
  (∀ (l0 l1 l2 : Value) (x y : Int32) (st : List Value) (M : Mm) (Q : Option Value → Mm → Prop), wp F_Md_readEquations 134 [l0, l1, l2] (.int y :: .int x :: st) M Q = wp F_Md_readEquations 135 [l0, l1, l2] (.int (x * y) :: st) M Q) ∧
  (∀ (l0 l1 l2 : Value) (st : List Value) (M : Mm) (Q : Option Value → Mm → Prop), wp F_Md_readEquations 135 [l0, l1, l2] st M Q = wp F_Md_readEquations 136 [l0, l1, l2] (.int 1 :: st) M Q) ∧
  (∀ (l0 l1 l2 : Value) (x y : Int32) (st : List Value) (M : Mm) (Q : Option Value → Mm → Prop), wp F_Md_readEquations 136 [l0, l1, l2] (.int y :: .int x :: st) M Q = wp F_Md_readEquations 137 [l0, l1, l2] (.int (x + y) :: st) M Q) ∧
  (∀ (l1 l2 : Value) (x : Nat) (st : List Value) (M : Mm) (Q : Option Value → Mm → Prop), wp F_Md_readEquations 137 [.ref x, l1, l2] st M Q = wp F_Md_readEquations 138 [.ref x, l1, l2] (.ref x :: st) M Q) ∧
  (∀ (l1 l2 : Value) (x : Nat) (st : List Value) (M : Mm) (Q : Option Value → Mm → Prop), wp F_Md_readEquations 138 [.ref x, l1, l2] st M Q = wp F_Md_readEquations 139 [.ref x, l1, l2] (.ref x :: st) M Q) ∧
  (∀ (l0 l1 l2 : Value) (a : Nat) (st : List Value) (M : Mm) (Q : Option Value → Mm → Prop), wp F_Md_readEquations 139 [l0, l1, l2] (.ref a :: st) M Q = (sh M a = some (.inl 12) ∧ wp F_Md_readEquations 142 [l0, l1, l2] (va_rf (gR M a 8) :: st) M Q)) ∧
  (∀ (l0 l1 l2 : Value) (st : List Value) (M : Mm) (Q : Option Value → Mm → Prop), wp F_Md_readEquations 142 [l0, l1, l2] st M Q = wp F_Md_readEquations 144 [l0, l1, l2] (.int 24 :: st) M Q) ∧
  (∀ (l1 l2 : Value) (x : Nat) (st : List Value) (M : Mm) (Q : Option Value → Mm → Prop), wp F_Md_readEquations 144 [.ref x, l1, l2] st M Q = wp F_Md_readEquations 145 [.ref x, l1, l2] (.ref x :: st) M Q) ∧
  (∀ (l0 l1 l2 : Value) (a : Nat) (st : List Value) (M : Mm) (Q : Option Value → Mm → Prop), wp F_Md_readEquations 145 [l0, l1, l2] (.ref a :: st) M Q = (sh M a = some (.inl 12) ∧ wp F_Md_readEquations 148 [l0, l1, l2] (va_rf (gR M a 12) :: st) M Q)) ∧
  (∀ (l0 l1 l2 : Value) (st : List Value) (M : Mm) (Q : Option Value → Mm → Prop), wp F_Md_readEquations 148 [l0, l1, l2] st M Q = wp F_Md_readEquations 150 [l0, l1, l2] (.int 48 :: st) M Q) ∧
  (∀ (l0 l2 : Value) (x : Int32) (st : List Value) (M : Mm) (Q : Option Value → Mm → Prop), wp F_Md_readEquations 150 [l0, .int x, l2] st M Q = wp F_Md_readEquations 151 [l0, .int x, l2] (.int x :: st) M Q) ∧
  (∀ (l0 l1 l2 : Value) (x y : Int32) (st : List Value) (M : Mm) (Q : Option Value → Mm → Prop), wp F_Md_readEquations 151 [l0, l1, l2] (.int y :: .int x :: st) M Q = wp F_Md_readEquations 152 [l0, l1, l2] (.int (x * y) :: st) M Q) ∧
  (∀ (l0 l1 l2 : Value) (st : List Value) (M : Mm) (Q : Option Value → Mm → Prop), wp F_Md_readEquations 152 [l0, l1, l2] st M Q = wp F_Md_readEquations 154 [l0, l1, l2] (.int 24 :: st) M Q) ∧
  (∀ (l0 l1 l2 : Value) (x y : Int32) (st : List Value) (M : Mm) (Q : Option Value → Mm → Prop), wp F_Md_readEquations 154 [l0, l1, l2] (.int y :: .int x :: st) M Q = wp F_Md_readEquations 155 [l0, l1, l2] (.int (x + y) :: st) M Q) ∧
  (∀ (l0 l1 l2 : Value) (b : Nat) (p0 : Nat) (p1 : Int32) (p2 : Nat) (p3 : Int32) (r0 r1 : Value) (M : Mm) (Q : Option Value → Mm → Prop), wp F_Md_readEquations 155 [l0, l1, l2] [.int p3, .ref p2, .int p1, .ref p0, .ref b, r0, r1] M Q = (sh M b = some (.inl 12) ∧ wp F_Md_readWord 0 [.ref b, .ref p0, .int p1, .ref p2, .int p3, jk, jk] [] M (fun r M1 => wp F_Md_readEquations 158 [l0, l1, l2] (r.toList ++ [r0, r1]) M1 Q))) ∧
  (∀ (l0 l1 l2 : Value) (a : Nat) (j x : Int32) (st : List Value) (M : Mm) (Q : Option Value → Mm → Prop), wp F_Md_readEquations 158 [l0, l1, l2] (.int x :: .int j :: .ref a :: st) M Q = (ixW M a j ∧ wp F_Md_readEquations 159 [l0, l1, l2] st (sI M a (cl j) x) Q)) ∧
  (∀ (l1 l2 : Value) (x : Nat) (st : List Value) (M : Mm) (Q : Option Value → Mm → Prop), wp F_Md_readEquations 159 [.ref x, l1, l2] st M Q = wp F_Md_readEquations 160 [.ref x, l1, l2] (.ref x :: st) M Q) ∧
  (∀ (l0 l1 l2 : Value) (x : Nat) (st : List Value) (M : Mm) (Q : Option Value → Mm → Prop), wp F_Md_readEquations 160 [l0, l1, l2] (.ref x :: st) M Q = wp F_Md_readEquations 161 [l0, l1, l2] (.ref x :: .ref x :: st) M Q) ∧
  (∀ (l0 l1 l2 : Value) (a : Nat) (st : List Value) (M : Mm) (Q : Option Value → Mm → Prop), wp F_Md_readEquations 161 [l0, l1, l2] (.ref a :: st) M Q = (sh M a = some (.inl 12) ∧ wp F_Md_readEquations 164 [l0, l1, l2] (.int (gI M a 14) :: st) M Q)) ∧
  (∀ (l0 l1 l2 : Value) (st : List Value) (M : Mm) (Q : Option Value → Mm → Prop), wp F_Md_readEquations 164 [l0, l1, l2] st M Q = wp F_Md_readEquations 165 [l0, l1, l2] (.int 1 :: st) M Q) := ⟨fun _ _ _ _ _ _ => wp_in d_Md_readEquations_102 rfl rfl, fun _ _ _ _ _ _ _ => wp_in d_Md_readEquations_103 rfl rfl, fun _ _ _ _ _ _ _ => wp_getI d_Md_readEquations_104 fl_12_25 rfl, fun _ _ _ _ _ _ => wp_iconst d_Md_readEquations_107 (by decide), fun _ _ _ _ _ _ _ _ => wp_in d_Md_readEquations_108 rfl rfl, fun _ _ _ _ _ _ _ _ => wp_putI d_Md_readEquations_109 fl_12_25 rfl rfl, fun _ _ _ _ _ _ => wp_in d_Md_readEquations_112 rfl rfl, fun _ _ _ _ _ _ _ => wp_getI d_Md_readEquations_113 fl_12_28 rfl, fun _ _ _ _ _ _ _ => wp_if_ne d_Md_readEquations_116 rfl, fun _ _ _ _ _ _ => wp_in d_Md_readEquations_119 rfl rfl, fun _ _ _ _ _ _ _ => wp_getA d_Md_readEquations_120 fl_12_62 rfl, fun _ _ _ _ _ _ => wp_iconst d_Md_readEquations_123 (by decide), fun _ _ _ _ _ _ => wp_in d_Md_readEquations_124 rfl rfl, fun _ _ _ _ _ _ _ _ => wp_in d_Md_readEquations_125 rfl rfl, fun _ _ _ _ _ _ => wp_in d_Md_readEquations_126 rfl rfl, fun _ _ _ _ _ _ _ _ _ => wp_iast d_Md_readEquations_127, fun _ _ _ _ _ _ => wp_in d_Md_readEquations_128 rfl rfl, fun _ _ _ _ _ _ _ => wp_getA d_Md_readEquations_129 fl_12_62 rfl, fun _ _ _ _ _ _ => wp_iconst d_Md_readEquations_132 (by decide), fun _ _ _ _ _ _ => wp_in d_Md_readEquations_133 rfl rfl, fun _ _ _ _ _ _ _ _ => wp_in d_Md_readEquations_134 rfl rfl, fun _ _ _ _ _ _ => wp_iconst d_Md_readEquations_135 (by decide), fun _ _ _ _ _ _ _ _ => wp_in d_Md_readEquations_136 rfl rfl, fun _ _ _ _ _ _ => wp_in d_Md_readEquations_137 rfl rfl, fun _ _ _ _ _ _ => wp_in d_Md_readEquations_138 rfl rfl, fun _ _ _ _ _ _ _ => wp_getA d_Md_readEquations_139 fl_12_37 rfl, fun _ _ _ _ _ _ => wp_bipush d_Md_readEquations_142 (by decide), fun _ _ _ _ _ _ => wp_in d_Md_readEquations_144 rfl rfl, fun _ _ _ _ _ _ _ => wp_getA d_Md_readEquations_145 fl_12_55 rfl, fun _ _ _ _ _ _ => wp_bipush d_Md_readEquations_148 (by decide), fun _ _ _ _ _ _ => wp_in d_Md_readEquations_150 rfl rfl, fun _ _ _ _ _ _ _ _ => wp_in d_Md_readEquations_151 rfl rfl, fun _ _ _ _ _ _ => wp_bipush d_Md_readEquations_152 (by decide), fun _ _ _ _ _ _ _ _ => wp_in d_Md_readEquations_154 rfl rfl, fun _ _ _ _ _ _ _ _ _ _ _ _ => wp_callV d_Md_readEquations_155 ml_12_58 rfl rfl rfl, fun _ _ _ _ _ _ _ _ _ => wp_iast d_Md_readEquations_158, fun _ _ _ _ _ _ => wp_in d_Md_readEquations_159 rfl rfl, fun _ _ _ _ _ _ _ => wp_in d_Md_readEquations_160 rfl rfl, fun _ _ _ _ _ _ _ => wp_getI d_Md_readEquations_161 fl_12_52 rfl, fun _ _ _ _ _ _ => wp_iconst d_Md_readEquations_164 (by decide)⟩
theorem B_Md_readEquations_102_1 : (∀ (l0 l1 l2 : Value) (x y : Int32) (st : List Value) (M : Mm) (Q : Option Value → Mm → Prop), wp F_Md_readEquations 165 [l0, l1, l2] (.int y :: .int x :: st) M Q = wp F_Md_readEquations 166 [l0, l1, l2] (.int (x + y) :: st) M Q) ∧
  (∀ (l0 l1 l2 : Value) (a : Nat) (x : Int32) (st : List Value) (M : Mm) (Q : Option Value → Mm → Prop), wp F_Md_readEquations 166 [l0, l1, l2] (.int x :: .ref a :: st) M Q = (sh M a = some (.inl 12) ∧ wp F_Md_readEquations 169 [l0, l1, l2] st (sI M a 14 x) Q)) ∧
  (∀ (l1 l2 : Value) (x : Nat) (st : List Value) (M : Mm) (Q : Option Value → Mm → Prop), wp F_Md_readEquations 169 [.ref x, l1, l2] st M Q = wp F_Md_readEquations 170 [.ref x, l1, l2] (.ref x :: st) M Q) ∧
  (∀ (l0 l1 l2 : Value) (a : Nat) (st : List Value) (M : Mm) (Q : Option Value → Mm → Prop), wp F_Md_readEquations 170 [l0, l1, l2] (.ref a :: st) M Q = (sh M a = some (.inl 12) ∧ wp F_Md_readEquations 173 [l0, l1, l2] (.int (gI M a 5) :: st) M Q)) ∧
  (∀ (l0 l1 l2 : Value) (x : Int32) (st : List Value) (M : Mm) (Q : Option Value → Mm → Prop), wp F_Md_readEquations 173 [l0, l1, l2] (.int x :: st) M Q = if x = 0 then wp F_Md_readEquations 176 [l0, l1, l2] st M Q else wp F_Md_readEquations 190 [l0, l1, l2] st M Q) ∧
  (∀ (l1 l2 : Value) (x : Nat) (st : List Value) (M : Mm) (Q : Option Value → Mm → Prop), wp F_Md_readEquations 176 [.ref x, l1, l2] st M Q = wp F_Md_readEquations 177 [.ref x, l1, l2] (.ref x :: st) M Q) ∧
  (∀ (l0 l1 l2 : Value) (b : Nat) (M : Mm) (Q : Option Value → Mm → Prop), wp F_Md_readEquations 177 [l0, l1, l2] [.ref b] M Q = (sh M b = some (.inl 12) ∧ wp F_Md_here 0 [.ref b] [] M (fun r M1 => wp F_Md_readEquations 180 [l0, l1, l2] (r.toList ++ []) M1 Q))) ∧
  (∀ (l0 l1 l2 : Value) (st : List Value) (M : Mm) (Q : Option Value → Mm → Prop), wp F_Md_readEquations 180 [l0, l1, l2] st M Q = wp F_Md_readEquations 182 [l0, l1, l2] (.int 59 :: st) M Q) ∧
  (∀ (l0 l1 l2 : Value) (x y : Int32) (st : List Value) (M : Mm) (Q : Option Value → Mm → Prop), wp F_Md_readEquations 182 [l0, l1, l2] (.int y :: .int x :: st) M Q = if x = y then wp F_Md_readEquations 190 [l0, l1, l2] st M Q else wp F_Md_readEquations 185 [l0, l1, l2] st M Q) ∧
  (∀ (l1 l2 : Value) (x : Nat) (st : List Value) (M : Mm) (Q : Option Value → Mm → Prop), wp F_Md_readEquations 185 [.ref x, l1, l2] st M Q = wp F_Md_readEquations 186 [.ref x, l1, l2] (.ref x :: st) M Q) ∧
  (∀ (l0 l1 l2 : Value) (st : List Value) (M : Mm) (Q : Option Value → Mm → Prop), wp F_Md_readEquations 186 [l0, l1, l2] st M Q = wp F_Md_readEquations 187 [l0, l1, l2] (.int 1 :: st) M Q) ∧
  (∀ (l0 l1 l2 : Value) (b : Nat) (p0 : Int32) (M : Mm) (Q : Option Value → Mm → Prop), wp F_Md_readEquations 187 [l0, l1, l2] [.int p0, .ref b] M Q = (sh M b = some (.inl 12) ∧ wp F_Md_bad 0 [.ref b, .int p0] [] M (fun r M1 => wp F_Md_readEquations 190 [l0, l1, l2] (r.toList ++ []) M1 Q))) := ⟨fun _ _ _ _ _ _ _ _ => wp_in d_Md_readEquations_165 rfl rfl, fun _ _ _ _ _ _ _ _ => wp_putI d_Md_readEquations_166 fl_12_52 rfl rfl, fun _ _ _ _ _ _ => wp_in d_Md_readEquations_169 rfl rfl, fun _ _ _ _ _ _ _ => wp_getI d_Md_readEquations_170 fl_12_28 rfl, fun _ _ _ _ _ _ _ => wp_if_ne d_Md_readEquations_173 rfl, fun _ _ _ _ _ _ => wp_in d_Md_readEquations_176 rfl rfl, fun _ _ _ _ _ _ => wp_callV d_Md_readEquations_177 ml_12_40 rfl rfl rfl, fun _ _ _ _ _ _ => wp_bipush d_Md_readEquations_180 (by decide), fun _ _ _ _ _ _ _ _ => wp_icmp_eq d_Md_readEquations_182 rfl, fun _ _ _ _ _ _ => wp_in d_Md_readEquations_185 rfl rfl, fun _ _ _ _ _ _ => wp_iconst d_Md_readEquations_186 (by decide), fun _ _ _ _ _ _ _ => wp_callV d_Md_readEquations_187 ml_12_48 rfl rfl rfl⟩
theorem B_Md_readEquations_190 : (∀ (l1 l2 : Value) (x : Nat) (st : List Value) (M : Mm) (Q : Option Value → Mm → Prop), wp F_Md_readEquations 190 [.ref x, l1, l2] st M Q = wp F_Md_readEquations 191 [.ref x, l1, l2] (.ref x :: st) M Q) ∧
  (∀ (l0 l1 l2 : Value) (x : Nat) (st : List Value) (M : Mm) (Q : Option Value → Mm → Prop), wp F_Md_readEquations 191 [l0, l1, l2] (.ref x :: st) M Q = wp F_Md_readEquations 192 [l0, l1, l2] (.ref x :: .ref x :: st) M Q) ∧
  (∀ (l0 l1 l2 : Value) (a : Nat) (st : List Value) (M : Mm) (Q : Option Value → Mm → Prop), wp F_Md_readEquations 192 [l0, l1, l2] (.ref a :: st) M Q = (sh M a = some (.inl 12) ∧ wp F_Md_readEquations 195 [l0, l1, l2] (.int (gI M a 3) :: st) M Q)) ∧
  (∀ (l0 l1 l2 : Value) (st : List Value) (M : Mm) (Q : Option Value → Mm → Prop), wp F_Md_readEquations 195 [l0, l1, l2] st M Q = wp F_Md_readEquations 196 [l0, l1, l2] (.int 1 :: st) M Q) ∧
  (∀ (l0 l1 l2 : Value) (x y : Int32) (st : List Value) (M : Mm) (Q : Option Value → Mm → Prop), wp F_Md_readEquations 196 [l0, l1, l2] (.int y :: .int x :: st) M Q = wp F_Md_readEquations 197 [l0, l1, l2] (.int (x + y) :: st) M Q) ∧
  (∀ (l0 l1 l2 : Value) (a : Nat) (x : Int32) (st : List Value) (M : Mm) (Q : Option Value → Mm → Prop), wp F_Md_readEquations 197 [l0, l1, l2] (.int x :: .ref a :: st) M Q = (sh M a = some (.inl 12) ∧ wp F_Md_readEquations 200 [l0, l1, l2] st (sI M a 3 x) Q)) := ⟨fun _ _ _ _ _ _ => wp_in d_Md_readEquations_190 rfl rfl, fun _ _ _ _ _ _ _ => wp_in d_Md_readEquations_191 rfl rfl, fun _ _ _ _ _ _ _ => wp_getI d_Md_readEquations_192 fl_12_25 rfl, fun _ _ _ _ _ _ => wp_iconst d_Md_readEquations_195 (by decide), fun _ _ _ _ _ _ _ _ => wp_in d_Md_readEquations_196 rfl rfl, fun _ _ _ _ _ _ _ _ => wp_putI d_Md_readEquations_197 fl_12_25 rfl rfl⟩
theorem B_Md_readEquations_203 : (∀ (l0 l1 l2 : Value) (M : Mm) (Q : Option Value → Mm → Prop), wp F_Md_readEquations 203 [l0, l1, l2] [] M Q = Q none M) := fun _ _ _ _ _ => wp_retV d_Md_readEquations_203 rfl
theorem G_Md_readEquations_200 (l0 l1 l2 : Value) (st : List Value) (M : Mm) (Q : Option Value → Mm → Prop) : wp F_Md_readEquations 200 [l0, l1, l2] st M Q = wp F_Md_readEquations 5 [l0, l1, l2] st M Q := wp_goto d_Md_readEquations_200 rfl
theorem d_Md_faulty_0 : decode (fnB F_Md_faulty) 0 = .ok (.aload_n 0, 1) := by decide +kernel
theorem d_Md_faulty_1 : decode (fnB F_Md_faulty) 1 = .ok (.aload_n 0, 1) := by decide +kernel
theorem d_Md_faulty_2 : decode (fnB F_Md_faulty) 2 = .ok (.getfield 28, 3) := by decide +kernel
theorem d_Md_faulty_5 : decode (fnB F_Md_faulty) 5 = .ok (.putfield 65, 3) := by decide +kernel
theorem d_Md_faulty_8 : decode (fnB F_Md_faulty) 8 = .ok (.sipush (-1000), 3) := by decide +kernel
theorem d_Md_faulty_11 : decode (fnB F_Md_faulty) 11 = .ok (.aload_n 0, 1) := by decide +kernel
theorem d_Md_faulty_12 : decode (fnB F_Md_faulty) 12 = .ok (.getfield 31, 3) := by decide +kernel
theorem d_Md_faulty_15 : decode (fnB F_Md_faulty) 15 = .ok (.isub, 1) := by decide +kernel
theorem d_Md_faulty_16 : decode (fnB F_Md_faulty) 16 = .ok (.ireturn, 1) := by decide +kernel
theorem B_Md_faulty_0 : (∀ (x : Nat) (st : List Value) (M : Mm) (Q : Option Value → Mm → Prop), wp F_Md_faulty 0 [.ref x] st M Q = wp F_Md_faulty 1 [.ref x] (.ref x :: st) M Q) ∧
  (∀ (x : Nat) (st : List Value) (M : Mm) (Q : Option Value → Mm → Prop), wp F_Md_faulty 1 [.ref x] st M Q = wp F_Md_faulty 2 [.ref x] (.ref x :: st) M Q) ∧
  (∀ (l0 : Value) (a : Nat) (st : List Value) (M : Mm) (Q : Option Value → Mm → Prop), wp F_Md_faulty 2 [l0] (.ref a :: st) M Q = (sh M a = some (.inl 12) ∧ wp F_Md_faulty 5 [l0] (.int (gI M a 5) :: st) M Q)) ∧
  (∀ (l0 : Value) (a : Nat) (x : Int32) (st : List Value) (M : Mm) (Q : Option Value → Mm → Prop), wp F_Md_faulty 5 [l0] (.int x :: .ref a :: st) M Q = (sh M a = some (.inl 12) ∧ wp F_Md_faulty 8 [l0] st (sI M a 7 x) Q)) ∧
  (∀ (l0 : Value) (st : List Value) (M : Mm) (Q : Option Value → Mm → Prop), wp F_Md_faulty 8 [l0] st M Q = wp F_Md_faulty 11 [l0] (.int (-1000) :: st) M Q) ∧
  (∀ (x : Nat) (st : List Value) (M : Mm) (Q : Option Value → Mm → Prop), wp F_Md_faulty 11 [.ref x] st M Q = wp F_Md_faulty 12 [.ref x] (.ref x :: st) M Q) ∧
  (∀ (l0 : Value) (a : Nat) (st : List Value) (M : Mm) (Q : Option Value → Mm → Prop), wp F_Md_faulty 12 [l0] (.ref a :: st) M Q = (sh M a = some (.inl 12) ∧ wp F_Md_faulty 15 [l0] (.int (gI M a 6) :: st) M Q)) ∧
  (∀ (l0 : Value) (x y : Int32) (st : List Value) (M : Mm) (Q : Option Value → Mm → Prop), wp F_Md_faulty 15 [l0] (.int y :: .int x :: st) M Q = wp F_Md_faulty 16 [l0] (.int (x - y) :: st) M Q) ∧
  (∀ (l0 : Value) (v : Int32) (M : Mm) (Q : Option Value → Mm → Prop), wp F_Md_faulty 16 [l0] [.int v] M Q = Q (some (.int v)) M) := ⟨fun _ _ _ _ => wp_in d_Md_faulty_0 rfl rfl, fun _ _ _ _ => wp_in d_Md_faulty_1 rfl rfl, fun _ _ _ _ _ => wp_getI d_Md_faulty_2 fl_12_28 rfl, fun _ _ _ _ _ _ => wp_putI d_Md_faulty_5 fl_12_65 rfl rfl, fun _ _ _ _ => wp_sipush d_Md_faulty_8 (by decide), fun _ _ _ _ => wp_in d_Md_faulty_11 rfl rfl, fun _ _ _ _ _ => wp_getI d_Md_faulty_12 fl_12_31 rfl, fun _ _ _ _ _ _ => wp_in d_Md_faulty_15 rfl rfl, fun _ _ _ _ => wp_retI d_Md_faulty_16 rfl⟩
theorem d_Md_read_0 : decode (fnB F_Md_read) 0 = .ok (.aload_n 0, 1) := by decide +kernel
theorem d_Md_read_1 : decode (fnB F_Md_read) 1 = .ok (.iconst 0, 1) := by decide +kernel
theorem d_Md_read_2 : decode (fnB F_Md_read) 2 = .ok (.putfield 1, 3) := by decide +kernel
theorem d_Md_read_5 : decode (fnB F_Md_read) 5 = .ok (.aload_n 0, 1) := by decide +kernel
theorem d_Md_read_6 : decode (fnB F_Md_read) 6 = .ok (.invokevirtual 68, 3) := by decide +kernel
theorem d_Md_read_9 : decode (fnB F_Md_read) 9 = .ok (.aload_n 0, 1) := by decide +kernel
theorem d_Md_read_10 : decode (fnB F_Md_read) 10 = .ok (.invokevirtual 72, 3) := by decide +kernel
theorem d_Md_read_13 : decode (fnB F_Md_read) 13 = .ok (.aload_n 0, 1) := by decide +kernel
theorem d_Md_read_14 : decode (fnB F_Md_read) 14 = .ok (.invokevirtual 75, 3) := by decide +kernel
theorem d_Md_read_17 : decode (fnB F_Md_read) 17 = .ok (.aload_n 0, 1) := by decide +kernel
theorem d_Md_read_18 : decode (fnB F_Md_read) 18 = .ok (.getfield 28, 3) := by decide +kernel
theorem d_Md_read_21 : decode (fnB F_Md_read) 21 = .ok (.ifCond .le 8, 3) := by decide +kernel
theorem d_Md_read_24 : decode (fnB F_Md_read) 24 = .ok (.aload_n 0, 1) := by decide +kernel
theorem d_Md_read_25 : decode (fnB F_Md_read) 25 = .ok (.invokevirtual 78, 3) := by decide +kernel
theorem d_Md_read_28 : decode (fnB F_Md_read) 28 = .ok (.ireturn, 1) := by decide +kernel
theorem d_Md_read_29 : decode (fnB F_Md_read) 29 = .ok (.aload_n 0, 1) := by decide +kernel
theorem d_Md_read_30 : decode (fnB F_Md_read) 30 = .ok (.aload_n 0, 1) := by decide +kernel
theorem d_Md_read_31 : decode (fnB F_Md_read) 31 = .ok (.getfield 34, 3) := by decide +kernel
theorem d_Md_read_34 : decode (fnB F_Md_read) 34 = .ok (.putfield 81, 3) := by decide +kernel
theorem d_Md_read_37 : decode (fnB F_Md_read) 37 = .ok (.iconst 0, 1) := by decide +kernel
theorem d_Md_read_38 : decode (fnB F_Md_read) 38 = .ok (.istore_n 1, 1) := by decide +kernel
theorem d_Md_read_39 : decode (fnB F_Md_read) 39 = .ok (.iload_n 1, 1) := by decide +kernel
theorem d_Md_read_40 : decode (fnB F_Md_read) 40 = .ok (.bipush 26, 2) := by decide +kernel
theorem d_Md_read_42 : decode (fnB F_Md_read) 42 = .ok (.if_icmp .ge 21, 3) := by decide +kernel
theorem d_Md_read_45 : decode (fnB F_Md_read) 45 = .ok (.aload_n 0, 1) := by decide +kernel
theorem d_Md_read_46 : decode (fnB F_Md_read) 46 = .ok (.getfield 84, 3) := by decide +kernel
theorem d_Md_read_49 : decode (fnB F_Md_read) 49 = .ok (.iload_n 1, 1) := by decide +kernel
theorem d_Md_read_50 : decode (fnB F_Md_read) 50 = .ok (.aload_n 0, 1) := by decide +kernel
theorem d_Md_read_51 : decode (fnB F_Md_read) 51 = .ok (.getfield 37, 3) := by decide +kernel
theorem d_Md_read_54 : decode (fnB F_Md_read) 54 = .ok (.iload_n 1, 1) := by decide +kernel
theorem d_Md_read_55 : decode (fnB F_Md_read) 55 = .ok (.iaload, 1) := by decide +kernel
theorem d_Md_read_56 : decode (fnB F_Md_read) 56 = .ok (.iastore, 1) := by decide +kernel
theorem d_Md_read_57 : decode (fnB F_Md_read) 57 = .ok (.iinc 1 1, 3) := by decide +kernel
theorem d_Md_read_60 : decode (fnB F_Md_read) 60 = .ok (.goto (-21), 3) := by decide +kernel
theorem d_Md_read_63 : decode (fnB F_Md_read) 63 = .ok (.aload_n 0, 1) := by decide +kernel
theorem d_Md_read_64 : decode (fnB F_Md_read) 64 = .ok (.iconst 0, 1) := by decide +kernel
theorem d_Md_read_65 : decode (fnB F_Md_read) 65 = .ok (.putfield 87, 3) := by decide +kernel
theorem d_Md_read_68 : decode (fnB F_Md_read) 68 = .ok (.aload_n 0, 1) := by decide +kernel
theorem d_Md_read_69 : decode (fnB F_Md_read) 69 = .ok (.iconst 0, 1) := by decide +kernel
theorem d_Md_read_70 : decode (fnB F_Md_read) 70 = .ok (.putfield 90, 3) := by decide +kernel
theorem d_Md_read_73 : decode (fnB F_Md_read) 73 = .ok (.aload_n 0, 1) := by decide +kernel
theorem d_Md_read_74 : decode (fnB F_Md_read) 74 = .ok (.iconst 0, 1) := by decide +kernel
theorem d_Md_read_75 : decode (fnB F_Md_read) 75 = .ok (.putfield 93, 3) := by decide +kernel
theorem d_Md_read_78 : decode (fnB F_Md_read) 78 = .ok (.aload_n 0, 1) := by decide +kernel
theorem d_Md_read_79 : decode (fnB F_Md_read) 79 = .ok (.iconst 0, 1) := by decide +kernel
theorem d_Md_read_80 : decode (fnB F_Md_read) 80 = .ok (.putfield 96, 3) := by decide +kernel
theorem d_Md_read_83 : decode (fnB F_Md_read) 83 = .ok (.aload_n 0, 1) := by decide +kernel
theorem d_Md_read_84 : decode (fnB F_Md_read) 84 = .ok (.iconst 0, 1) := by decide +kernel
theorem d_Md_read_85 : decode (fnB F_Md_read) 85 = .ok (.putfield 99, 3) := by decide +kernel
theorem d_Md_read_88 : decode (fnB F_Md_read) 88 = .ok (.aload_n 0, 1) := by decide +kernel
theorem d_Md_read_89 : decode (fnB F_Md_read) 89 = .ok (.iconst 0, 1) := by decide +kernel
theorem d_Md_read_90 : decode (fnB F_Md_read) 90 = .ok (.putfield 102, 3) := by decide +kernel
theorem d_Md_read_93 : decode (fnB F_Md_read) 93 = .ok (.aload_n 0, 1) := by decide +kernel
theorem d_Md_read_94 : decode (fnB F_Md_read) 94 = .ok (.iconst 0, 1) := by decide +kernel
theorem d_Md_read_95 : decode (fnB F_Md_read) 95 = .ok (.putfield 106, 3) := by decide +kernel
theorem d_Md_read_98 : decode (fnB F_Md_read) 98 = .ok (.aload_n 0, 1) := by decide +kernel
theorem d_Md_read_99 : decode (fnB F_Md_read) 99 = .ok (.iconst 0, 1) := by decide +kernel
theorem d_Md_read_100 : decode (fnB F_Md_read) 100 = .ok (.putfield 109, 3) := by decide +kernel
theorem d_Md_read_103 : decode (fnB F_Md_read) 103 = .ok (.aload_n 0, 1) := by decide +kernel
theorem d_Md_read_104 : decode (fnB F_Md_read) 104 = .ok (.iconst (-1), 1) := by decide +kernel
theorem d_Md_read_105 : decode (fnB F_Md_read) 105 = .ok (.putfield 112, 3) := by decide +kernel
theorem d_Md_read_108 : decode (fnB F_Md_read) 108 = .ok (.iconst 0, 1) := by decide +kernel
theorem d_Md_read_109 : decode (fnB F_Md_read) 109 = .ok (.istore_n 1, 1) := by decide +kernel
theorem d_Md_read_110 : decode (fnB F_Md_read) 110 = .ok (.iload_n 1, 1) := by decide +kernel
theorem d_Md_read_111 : decode (fnB F_Md_read) 111 = .ok (.bipush 8, 2) := by decide +kernel
theorem d_Md_read_113 : decode (fnB F_Md_read) 113 = .ok (.if_icmp .ge 16, 3) := by decide +kernel
theorem d_Md_read_116 : decode (fnB F_Md_read) 116 = .ok (.aload_n 0, 1) := by decide +kernel
theorem d_Md_read_117 : decode (fnB F_Md_read) 117 = .ok (.getfield 115, 3) := by decide +kernel
theorem d_Md_read_120 : decode (fnB F_Md_read) 120 = .ok (.iload_n 1, 1) := by decide +kernel
theorem d_Md_read_121 : decode (fnB F_Md_read) 121 = .ok (.iconst 0, 1) := by decide +kernel
theorem d_Md_read_122 : decode (fnB F_Md_read) 122 = .ok (.iastore, 1) := by decide +kernel
theorem d_Md_read_123 : decode (fnB F_Md_read) 123 = .ok (.iinc 1 1, 3) := by decide +kernel
theorem d_Md_read_126 : decode (fnB F_Md_read) 126 = .ok (.goto (-16), 3) := by decide +kernel
theorem d_Md_read_129 : decode (fnB F_Md_read) 129 = .ok (.iconst 0, 1) := by decide +kernel
theorem d_Md_read_130 : decode (fnB F_Md_read) 130 = .ok (.istore_n 1, 1) := by decide +kernel
theorem d_Md_read_131 : decode (fnB F_Md_read) 131 = .ok (.iload_n 1, 1) := by decide +kernel
theorem d_Md_read_132 : decode (fnB F_Md_read) 132 = .ok (.aload_n 0, 1) := by decide +kernel
theorem d_Md_read_133 : decode (fnB F_Md_read) 133 = .ok (.getfield 52, 3) := by decide +kernel
theorem d_Md_read_136 : decode (fnB F_Md_read) 136 = .ok (.if_icmp .ge 94, 3) := by decide +kernel
theorem d_Md_read_139 : decode (fnB F_Md_read) 139 = .ok (.iconst 0, 1) := by decide +kernel
theorem d_Md_read_140 : decode (fnB F_Md_read) 140 = .ok (.istore_n 2, 1) := by decide +kernel
theorem d_Md_read_141 : decode (fnB F_Md_read) 141 = .ok (.iload_n 2, 1) := by decide +kernel
theorem d_Md_read_142 : decode (fnB F_Md_read) 142 = .ok (.iconst 2, 1) := by decide +kernel
theorem d_Md_read_143 : decode (fnB F_Md_read) 143 = .ok (.if_icmp .ge 81, 3) := by decide +kernel
theorem d_Md_read_146 : decode (fnB F_Md_read) 146 = .ok (.aload_n 0, 1) := by decide +kernel
theorem d_Md_read_147 : decode (fnB F_Md_read) 147 = .ok (.getfield 118, 3) := by decide +kernel
theorem d_Md_read_150 : decode (fnB F_Md_read) 150 = .ok (.iconst 2, 1) := by decide +kernel
theorem d_Md_read_151 : decode (fnB F_Md_read) 151 = .ok (.iload_n 1, 1) := by decide +kernel
theorem d_Md_read_152 : decode (fnB F_Md_read) 152 = .ok (.imul, 1) := by decide +kernel
theorem d_Md_read_153 : decode (fnB F_Md_read) 153 = .ok (.iload_n 2, 1) := by decide +kernel
theorem d_Md_read_154 : decode (fnB F_Md_read) 154 = .ok (.iadd, 1) := by decide +kernel
theorem d_Md_read_155 : decode (fnB F_Md_read) 155 = .ok (.aload_n 0, 1) := by decide +kernel
theorem d_Md_read_156 : decode (fnB F_Md_read) 156 = .ok (.getfield 62, 3) := by decide +kernel
theorem d_Md_read_159 : decode (fnB F_Md_read) 159 = .ok (.iconst 2, 1) := by decide +kernel
theorem d_Md_read_160 : decode (fnB F_Md_read) 160 = .ok (.iload_n 1, 1) := by decide +kernel
theorem d_Md_read_161 : decode (fnB F_Md_read) 161 = .ok (.imul, 1) := by decide +kernel
theorem d_Md_read_162 : decode (fnB F_Md_read) 162 = .ok (.iload_n 2, 1) := by decide +kernel
theorem d_Md_read_163 : decode (fnB F_Md_read) 163 = .ok (.iadd, 1) := by decide +kernel
theorem d_Md_read_164 : decode (fnB F_Md_read) 164 = .ok (.iaload, 1) := by decide +kernel
theorem d_Md_read_165 : decode (fnB F_Md_read) 165 = .ok (.iastore, 1) := by decide +kernel
theorem d_Md_read_166 : decode (fnB F_Md_read) 166 = .ok (.iconst 0, 1) := by decide +kernel
theorem d_Md_read_167 : decode (fnB F_Md_read) 167 = .ok (.istore_n 3, 1) := by decide +kernel
theorem d_Md_read_168 : decode (fnB F_Md_read) 168 = .ok (.iload_n 3, 1) := by decide +kernel
theorem d_Md_read_169 : decode (fnB F_Md_read) 169 = .ok (.aload_n 0, 1) := by decide +kernel
theorem d_Md_read_170 : decode (fnB F_Md_read) 170 = .ok (.getfield 62, 3) := by decide +kernel
theorem d_Md_read_173 : decode (fnB F_Md_read) 173 = .ok (.iconst 2, 1) := by decide +kernel
theorem d_Md_read_174 : decode (fnB F_Md_read) 174 = .ok (.iload_n 1, 1) := by decide +kernel
theorem d_Md_read_175 : decode (fnB F_Md_read) 175 = .ok (.imul, 1) := by decide +kernel
theorem d_Md_read_176 : decode (fnB F_Md_read) 176 = .ok (.iload_n 2, 1) := by decide +kernel
theorem d_Md_read_177 : decode (fnB F_Md_read) 177 = .ok (.iadd, 1) := by decide +kernel
theorem d_Md_read_178 : decode (fnB F_Md_read) 178 = .ok (.iaload, 1) := by decide +kernel
theorem d_Md_read_179 : decode (fnB F_Md_read) 179 = .ok (.if_icmp .ge 39, 3) := by decide +kernel
theorem d_Md_read_182 : decode (fnB F_Md_read) 182 = .ok (.aload_n 0, 1) := by decide +kernel
theorem d_Md_read_183 : decode (fnB F_Md_read) 183 = .ok (.getfield 121, 3) := by decide +kernel
theorem d_Md_read_186 : decode (fnB F_Md_read) 186 = .ok (.bipush 120, 2) := by decide +kernel
theorem d_Md_read_188 : decode (fnB F_Md_read) 188 = .ok (.iconst 2, 1) := by decide +kernel
theorem d_Md_read_189 : decode (fnB F_Md_read) 189 = .ok (.iload_n 1, 1) := by decide +kernel
theorem d_Md_read_190 : decode (fnB F_Md_read) 190 = .ok (.imul, 1) := by decide +kernel
theorem d_Md_read_191 : decode (fnB F_Md_read) 191 = .ok (.iload_n 2, 1) := by decide +kernel
theorem d_Md_read_192 : decode (fnB F_Md_read) 192 = .ok (.iadd, 1) := by decide +kernel
theorem d_Md_read_193 : decode (fnB F_Md_read) 193 = .ok (.imul, 1) := by decide +kernel
theorem d_Md_read_194 : decode (fnB F_Md_read) 194 = .ok (.iload_n 3, 1) := by decide +kernel
theorem d_Md_read_195 : decode (fnB F_Md_read) 195 = .ok (.iadd, 1) := by decide +kernel
theorem d_Md_read_196 : decode (fnB F_Md_read) 196 = .ok (.aload_n 0, 1) := by decide +kernel
theorem d_Md_read_197 : decode (fnB F_Md_read) 197 = .ok (.getfield 55, 3) := by decide +kernel
theorem d_Md_read_200 : decode (fnB F_Md_read) 200 = .ok (.bipush 24, 2) := by decide +kernel
theorem d_Md_read_202 : decode (fnB F_Md_read) 202 = .ok (.iconst 2, 1) := by decide +kernel
theorem d_Md_read_203 : decode (fnB F_Md_read) 203 = .ok (.iload_n 1, 1) := by decide +kernel
theorem d_Md_read_204 : decode (fnB F_Md_read) 204 = .ok (.imul, 1) := by decide +kernel
theorem d_Md_read_205 : decode (fnB F_Md_read) 205 = .ok (.iload_n 2, 1) := by decide +kernel
theorem d_Md_read_206 : decode (fnB F_Md_read) 206 = .ok (.iadd, 1) := by decide +kernel
theorem d_Md_read_207 : decode (fnB F_Md_read) 207 = .ok (.imul, 1) := by decide +kernel
theorem d_Md_read_208 : decode (fnB F_Md_read) 208 = .ok (.iload_n 3, 1) := by decide +kernel
theorem d_Md_read_209 : decode (fnB F_Md_read) 209 = .ok (.iadd, 1) := by decide +kernel
theorem d_Md_read_210 : decode (fnB F_Md_read) 210 = .ok (.iaload, 1) := by decide +kernel
theorem d_Md_read_211 : decode (fnB F_Md_read) 211 = .ok (.iastore, 1) := by decide +kernel
theorem d_Md_read_212 : decode (fnB F_Md_read) 212 = .ok (.iinc 3 1, 3) := by decide +kernel
theorem d_Md_read_215 : decode (fnB F_Md_read) 215 = .ok (.goto (-47), 3) := by decide +kernel
theorem d_Md_read_218 : decode (fnB F_Md_read) 218 = .ok (.iinc 2 1, 3) := by decide +kernel
theorem d_Md_read_221 : decode (fnB F_Md_read) 221 = .ok (.goto (-80), 3) := by decide +kernel
theorem d_Md_read_224 : decode (fnB F_Md_read) 224 = .ok (.iinc 1 1, 3) := by decide +kernel
theorem d_Md_read_227 : decode (fnB F_Md_read) 227 = .ok (.goto (-96), 3) := by decide +kernel
theorem d_Md_read_230 : decode (fnB F_Md_read) 230 = .ok (.aload_n 0, 1) := by decide +kernel
theorem d_Md_read_231 : decode (fnB F_Md_read) 231 = .ok (.aload_n 0, 1) := by decide +kernel
theorem d_Md_read_232 : decode (fnB F_Md_read) 232 = .ok (.getfield 52, 3) := by decide +kernel
theorem d_Md_read_235 : decode (fnB F_Md_read) 235 = .ok (.putfield 93, 3) := by decide +kernel
theorem d_Md_read_238 : decode (fnB F_Md_read) 238 = .ok (.aload_n 0, 1) := by decide +kernel
theorem d_Md_read_239 : decode (fnB F_Md_read) 239 = .ok (.getfield 52, 3) := by decide +kernel
theorem d_Md_read_242 : decode (fnB F_Md_read) 242 = .ok (.ireturn, 1) := by decide +kernel
theorem B_Md_read_0 : (∀ (l1 l2 l3 : Value) (x : Nat) (st : List Value) (M : Mm) (Q : Option Value → Mm → Prop), wp F_Md_read 0 [.ref x, l1, l2, l3] st M Q = wp F_Md_read 1 [.ref x, l1, l2, l3] (.ref x :: st) M Q) ∧
  (∀ (l0 l1 l2 l3 : Value) (st : List Value) (M : Mm) (Q : Option Value → Mm → Prop), wp F_Md_read 1 [l0, l1, l2, l3] st M Q = wp F_Md_read 2 [l0, l1, l2, l3] (.int 0 :: st) M Q) ∧
  (∀ (l0 l1 l2 l3 : Value) (a : Nat) (x : Int32) (st : List Value) (M : Mm) (Q : Option Value → Mm → Prop), wp F_Md_read 2 [l0, l1, l2, l3] (.int x :: .ref a :: st) M Q = (sh M a = some (.inl 12) ∧ wp F_Md_read 5 [l0, l1, l2, l3] st (sI M a 0 x) Q)) ∧
  (∀ (l1 l2 l3 : Value) (x : Nat) (st : List Value) (M : Mm) (Q : Option Value → Mm → Prop), wp F_Md_read 5 [.ref x, l1, l2, l3] st M Q = wp F_Md_read 6 [.ref x, l1, l2, l3] (.ref x :: st) M Q) ∧
  (∀ (l0 l1 l2 l3 : Value) (b : Nat) (M : Mm) (Q : Option Value → Mm → Prop), wp F_Md_read 6 [l0, l1, l2, l3] [.ref b] M Q = (sh M b = some (.inl 12) ∧ wp F_Md_begin 0 [.ref b] [] M (fun r M1 => wp F_Md_read 9 [l0, l1, l2, l3] (r.toList ++ []) M1 Q))) ∧
  (∀ (l1 l2 l3 : Value) (x : Nat) (st : List Value) (M : Mm) (Q : Option Value → Mm → Prop), wp F_Md_read 9 [.ref x, l1, l2, l3] st M Q = wp F_Md_read 10 [.ref x, l1, l2, l3] (.ref x :: st) M Q) ∧
  (∀ (l0 l1 l2 l3 : Value) (b : Nat) (M : Mm) (Q : Option Value → Mm → Prop), wp F_Md_read 10 [l0, l1, l2, l3] [.ref b] M Q = (sh M b = some (.inl 12) ∧ wp F_Md_readLetters 0 [.ref b, jk] [] M (fun r M1 => wp F_Md_read 13 [l0, l1, l2, l3] (r.toList ++ []) M1 Q))) ∧
  (∀ (l1 l2 l3 : Value) (x : Nat) (st : List Value) (M : Mm) (Q : Option Value → Mm → Prop), wp F_Md_read 13 [.ref x, l1, l2, l3] st M Q = wp F_Md_read 14 [.ref x, l1, l2, l3] (.ref x :: st) M Q) ∧
  (∀ (l0 l1 l2 l3 : Value) (b : Nat) (M : Mm) (Q : Option Value → Mm → Prop), wp F_Md_read 14 [l0, l1, l2, l3] [.ref b] M Q = (sh M b = some (.inl 12) ∧ wp F_Md_readEquations 0 [.ref b, jk, jk] [] M (fun r M1 => wp F_Md_read 17 [l0, l1, l2, l3] (r.toList ++ []) M1 Q))) ∧
  (∀ (l1 l2 l3 : Value) (x : Nat) (st : List Value) (M : Mm) (Q : Option Value → Mm → Prop), wp F_Md_read 17 [.ref x, l1, l2, l3] st M Q = wp F_Md_read 18 [.ref x, l1, l2, l3] (.ref x :: st) M Q) ∧
  (∀ (l0 l1 l2 l3 : Value) (a : Nat) (st : List Value) (M : Mm) (Q : Option Value → Mm → Prop), wp F_Md_read 18 [l0, l1, l2, l3] (.ref a :: st) M Q = (sh M a = some (.inl 12) ∧ wp F_Md_read 21 [l0, l1, l2, l3] (.int (gI M a 5) :: st) M Q)) ∧
  (∀ (l0 l1 l2 l3 : Value) (x : Int32) (st : List Value) (M : Mm) (Q : Option Value → Mm → Prop), wp F_Md_read 21 [l0, l1, l2, l3] (.int x :: st) M Q = if x ≤ 0 then wp F_Md_read 29 [l0, l1, l2, l3] st M Q else wp F_Md_read 24 [l0, l1, l2, l3] st M Q) ∧
  (∀ (l1 l2 l3 : Value) (x : Nat) (st : List Value) (M : Mm) (Q : Option Value → Mm → Prop), wp F_Md_read 24 [.ref x, l1, l2, l3] st M Q = wp F_Md_read 25 [.ref x, l1, l2, l3] (.ref x :: st) M Q) ∧
  (∀ (l0 l1 l2 l3 : Value) (b : Nat) (M : Mm) (Q : Option Value → Mm → Prop), wp F_Md_read 25 [l0, l1, l2, l3] [.ref b] M Q = (sh M b = some (.inl 12) ∧ wp F_Md_faulty 0 [.ref b] [] M (fun r M1 => wp F_Md_read 28 [l0, l1, l2, l3] (r.toList ++ []) M1 Q))) ∧
  (∀ (l0 l1 l2 l3 : Value) (v : Int32) (M : Mm) (Q : Option Value → Mm → Prop), wp F_Md_read 28 [l0, l1, l2, l3] [.int v] M Q = Q (some (.int v)) M) := ⟨fun _ _ _ _ _ _ _ => wp_in d_Md_read_0 rfl rfl, fun _ _ _ _ _ _ _ => wp_iconst d_Md_read_1 (by decide), fun _ _ _ _ _ _ _ _ _ => wp_putI d_Md_read_2 fl_12_1 rfl rfl, fun _ _ _ _ _ _ _ => wp_in d_Md_read_5 rfl rfl, fun _ _ _ _ _ _ _ => wp_callV d_Md_read_6 ml_12_68 rfl rfl rfl, fun _ _ _ _ _ _ _ => wp_in d_Md_read_9 rfl rfl, fun _ _ _ _ _ _ _ => wp_callV d_Md_read_10 ml_12_72 rfl rfl rfl, fun _ _ _ _ _ _ _ => wp_in d_Md_read_13 rfl rfl, fun _ _ _ _ _ _ _ => wp_callV d_Md_read_14 ml_12_75 rfl rfl rfl, fun _ _ _ _ _ _ _ => wp_in d_Md_read_17 rfl rfl, fun _ _ _ _ _ _ _ _ => wp_getI d_Md_read_18 fl_12_28 rfl, fun _ _ _ _ _ _ _ _ => wp_if_le d_Md_read_21 rfl, fun _ _ _ _ _ _ _ => wp_in d_Md_read_24 rfl rfl, fun _ _ _ _ _ _ _ => wp_callV d_Md_read_25 ml_12_78 rfl rfl rfl, fun _ _ _ _ _ _ _ => wp_retI d_Md_read_28 rfl⟩
theorem B_Md_read_29 : (∀ (l1 l2 l3 : Value) (x : Nat) (st : List Value) (M : Mm) (Q : Option Value → Mm → Prop), wp F_Md_read 29 [.ref x, l1, l2, l3] st M Q = wp F_Md_read 30 [.ref x, l1, l2, l3] (.ref x :: st) M Q) ∧
  (∀ (l1 l2 l3 : Value) (x : Nat) (st : List Value) (M : Mm) (Q : Option Value → Mm → Prop), wp F_Md_read 30 [.ref x, l1, l2, l3] st M Q = wp F_Md_read 31 [.ref x, l1, l2, l3] (.ref x :: st) M Q) ∧
  (∀ (l0 l1 l2 l3 : Value) (a : Nat) (st : List Value) (M : Mm) (Q : Option Value → Mm → Prop), wp F_Md_read 31 [l0, l1, l2, l3] (.ref a :: st) M Q = (sh M a = some (.inl 12) ∧ wp F_Md_read 34 [l0, l1, l2, l3] (.int (gI M a 10) :: st) M Q)) ∧
  (∀ (l0 l1 l2 l3 : Value) (a : Nat) (x : Int32) (st : List Value) (M : Mm) (Q : Option Value → Mm → Prop), wp F_Md_read 34 [l0, l1, l2, l3] (.int x :: .ref a :: st) M Q = (sh M a = some (.inl 12) ∧ wp F_Md_read 37 [l0, l1, l2, l3] st (sI M a 11 x) Q)) ∧
  (∀ (l0 l1 l2 l3 : Value) (st : List Value) (M : Mm) (Q : Option Value → Mm → Prop), wp F_Md_read 37 [l0, l1, l2, l3] st M Q = wp F_Md_read 38 [l0, l1, l2, l3] (.int 0 :: st) M Q) ∧
  (∀ (l0 l1 l2 l3 : Value) (x : Int32) (st : List Value) (M : Mm) (Q : Option Value → Mm → Prop), wp F_Md_read 38 [l0, l1, l2, l3] (.int x :: st) M Q = wp F_Md_read 39 [clr l0, .int x, l2, l3] st M Q) := ⟨fun _ _ _ _ _ _ _ => wp_in d_Md_read_29 rfl rfl, fun _ _ _ _ _ _ _ => wp_in d_Md_read_30 rfl rfl, fun _ _ _ _ _ _ _ _ => wp_getI d_Md_read_31 fl_12_34 rfl, fun _ _ _ _ _ _ _ _ _ => wp_putI d_Md_read_34 fl_12_81 rfl rfl, fun _ _ _ _ _ _ _ => wp_iconst d_Md_read_37 (by decide), fun _ _ _ _ _ _ _ _ => wp_in d_Md_read_38 rfl rfl⟩
theorem B_Md_read_39 : (∀ (l0 l2 l3 : Value) (x : Int32) (st : List Value) (M : Mm) (Q : Option Value → Mm → Prop), wp F_Md_read 39 [l0, .int x, l2, l3] st M Q = wp F_Md_read 40 [l0, .int x, l2, l3] (.int x :: st) M Q) ∧
  (∀ (l0 l1 l2 l3 : Value) (st : List Value) (M : Mm) (Q : Option Value → Mm → Prop), wp F_Md_read 40 [l0, l1, l2, l3] st M Q = wp F_Md_read 42 [l0, l1, l2, l3] (.int 26 :: st) M Q) ∧
  (∀ (l0 l1 l2 l3 : Value) (x y : Int32) (st : List Value) (M : Mm) (Q : Option Value → Mm → Prop), wp F_Md_read 42 [l0, l1, l2, l3] (.int y :: .int x :: st) M Q = if y ≤ x then wp F_Md_read 63 [l0, l1, l2, l3] st M Q else wp F_Md_read 45 [l0, l1, l2, l3] st M Q) ∧
  (∀ (l1 l2 l3 : Value) (x : Nat) (st : List Value) (M : Mm) (Q : Option Value → Mm → Prop), wp F_Md_read 45 [.ref x, l1, l2, l3] st M Q = wp F_Md_read 46 [.ref x, l1, l2, l3] (.ref x :: st) M Q) ∧
  (∀ (l0 l1 l2 l3 : Value) (a : Nat) (st : List Value) (M : Mm) (Q : Option Value → Mm → Prop), wp F_Md_read 46 [l0, l1, l2, l3] (.ref a :: st) M Q = (sh M a = some (.inl 12) ∧ wp F_Md_read 49 [l0, l1, l2, l3] (va_rf (gR M a 9) :: st) M Q)) ∧
  (∀ (l0 l2 l3 : Value) (x : Int32) (st : List Value) (M : Mm) (Q : Option Value → Mm → Prop), wp F_Md_read 49 [l0, .int x, l2, l3] st M Q = wp F_Md_read 50 [l0, .int x, l2, l3] (.int x :: st) M Q) ∧
  (∀ (l1 l2 l3 : Value) (x : Nat) (st : List Value) (M : Mm) (Q : Option Value → Mm → Prop), wp F_Md_read 50 [.ref x, l1, l2, l3] st M Q = wp F_Md_read 51 [.ref x, l1, l2, l3] (.ref x :: st) M Q) ∧
  (∀ (l0 l1 l2 l3 : Value) (a : Nat) (st : List Value) (M : Mm) (Q : Option Value → Mm → Prop), wp F_Md_read 51 [l0, l1, l2, l3] (.ref a :: st) M Q = (sh M a = some (.inl 12) ∧ wp F_Md_read 54 [l0, l1, l2, l3] (va_rf (gR M a 8) :: st) M Q)) ∧
  (∀ (l0 l2 l3 : Value) (x : Int32) (st : List Value) (M : Mm) (Q : Option Value → Mm → Prop), wp F_Md_read 54 [l0, .int x, l2, l3] st M Q = wp F_Md_read 55 [l0, .int x, l2, l3] (.int x :: st) M Q) ∧
  (∀ (l0 l1 l2 l3 : Value) (a : Nat) (j : Int32) (st : List Value) (M : Mm) (Q : Option Value → Mm → Prop), wp F_Md_read 55 [l0, l1, l2, l3] (.int j :: .ref a :: st) M Q = (ixI M a j ∧ wp F_Md_read 56 [l0, l1, l2, l3] (.int (gI M a (cl j)) :: st) M Q)) ∧
  (∀ (l0 l1 l2 l3 : Value) (a : Nat) (j x : Int32) (st : List Value) (M : Mm) (Q : Option Value → Mm → Prop), wp F_Md_read 56 [l0, l1, l2, l3] (.int x :: .int j :: .ref a :: st) M Q = (ixW M a j ∧ wp F_Md_read 57 [l0, l1, l2, l3] st (sI M a (cl j) x) Q)) ∧
  (∀ (l0 l2 l3 : Value) (x : Int32) (st : List Value) (M : Mm) (Q : Option Value → Mm → Prop), wp F_Md_read 57 [l0, .int x, l2, l3] st M Q = wp F_Md_read 60 [clr l0, .int (x + 1), l2, l3] st M Q) := ⟨fun _ _ _ _ _ _ _ => wp_in d_Md_read_39 rfl rfl, fun _ _ _ _ _ _ _ => wp_bipush d_Md_read_40 (by decide), fun _ _ _ _ _ _ _ _ _ => wp_icmp_ge d_Md_read_42 rfl, fun _ _ _ _ _ _ _ => wp_in d_Md_read_45 rfl rfl, fun _ _ _ _ _ _ _ _ => wp_getA d_Md_read_46 fl_12_84 rfl, fun _ _ _ _ _ _ _ => wp_in d_Md_read_49 rfl rfl, fun _ _ _ _ _ _ _ => wp_in d_Md_read_50 rfl rfl, fun _ _ _ _ _ _ _ _ => wp_getA d_Md_read_51 fl_12_37 rfl, fun _ _ _ _ _ _ _ => wp_in d_Md_read_54 rfl rfl, fun _ _ _ _ _ _ _ _ _ => wp_iald d_Md_read_55, fun _ _ _ _ _ _ _ _ _ _ => wp_iast d_Md_read_56, fun _ _ _ _ _ _ _ => wp_iinc d_Md_read_57 (by decide) rfl rfl⟩
theorem B_Md_read_63 : (∀ (l1 l2 l3 : Value) (x : Nat) (st : List Value) (M : Mm) (Q : Option Value → Mm → Prop), wp F_Md_read 63 [.ref x, l1, l2, l3] st M Q = wp F_Md_read 64 [.ref x, l1, l2, l3] (.ref x :: st) M Q) ∧
  (∀ (l0 l1 l2 l3 : Value) (st : List Value) (M : Mm) (Q : Option Value → Mm → Prop), wp F_Md_read 64 [l0, l1, l2, l3] st M Q = wp F_Md_read 65 [l0, l1, l2, l3] (.int 0 :: st) M Q) ∧
  (∀ (l0 l1 l2 l3 : Value) (a : Nat) (x : Int32) (st : List Value) (M : Mm) (Q : Option Value → Mm → Prop), wp F_Md_read 65 [l0, l1, l2, l3] (.int x :: .ref a :: st) M Q = (sh M a = some (.inl 12) ∧ wp F_Md_read 68 [l0, l1, l2, l3] st (sI M a 21 x) Q)) ∧
  (∀ (l1 l2 l3 : Value) (x : Nat) (st : List Value) (M : Mm) (Q : Option Value → Mm → Prop), wp F_Md_read 68 [.ref x, l1, l2, l3] st M Q = wp F_Md_read 69 [.ref x, l1, l2, l3] (.ref x :: st) M Q) ∧
  (∀ (l0 l1 l2 l3 : Value) (st : List Value) (M : Mm) (Q : Option Value → Mm → Prop), wp F_Md_read 69 [l0, l1, l2, l3] st M Q = wp F_Md_read 70 [l0, l1, l2, l3] (.int 0 :: st) M Q) ∧
  (∀ (l0 l1 l2 l3 : Value) (a : Nat) (x : Int32) (st : List Value) (M : Mm) (Q : Option Value → Mm → Prop), wp F_Md_read 70 [l0, l1, l2, l3] (.int x :: .ref a :: st) M Q = (sh M a = some (.inl 12) ∧ wp F_Md_read 73 [l0, l1, l2, l3] st (sI M a 24 x) Q)) ∧
  (∀ (l1 l2 l3 : Value) (x : Nat) (st : List Value) (M : Mm) (Q : Option Value → Mm → Prop), wp F_Md_read 73 [.ref x, l1, l2, l3] st M Q = wp F_Md_read 74 [.ref x, l1, l2, l3] (.ref x :: st) M Q) ∧
  (∀ (l0 l1 l2 l3 : Value) (st : List Value) (M : Mm) (Q : Option Value → Mm → Prop), wp F_Md_read 74 [l0, l1, l2, l3] st M Q = wp F_Md_read 75 [l0, l1, l2, l3] (.int 0 :: st) M Q) ∧
  (∀ (l0 l1 l2 l3 : Value) (a : Nat) (x : Int32) (st : List Value) (M : Mm) (Q : Option Value → Mm → Prop), wp F_Md_read 75 [l0, l1, l2, l3] (.int x :: .ref a :: st) M Q = (sh M a = some (.inl 12) ∧ wp F_Md_read 78 [l0, l1, l2, l3] st (sI M a 25 x) Q)) ∧
  (∀ (l1 l2 l3 : Value) (x : Nat) (st : List Value) (M : Mm) (Q : Option Value → Mm → Prop), wp F_Md_read 78 [.ref x, l1, l2, l3] st M Q = wp F_Md_read 79 [.ref x, l1, l2, l3] (.ref x :: st) M Q) ∧
  (∀ (l0 l1 l2 l3 : Value) (st : List Value) (M : Mm) (Q : Option Value → Mm → Prop), wp F_Md_read 79 [l0, l1, l2, l3] st M Q = wp F_Md_read 80 [l0, l1, l2, l3] (.int 0 :: st) M Q) ∧
  (∀ (l0 l1 l2 l3 : Value) (a : Nat) (x : Int32) (st : List Value) (M : Mm) (Q : Option Value → Mm → Prop), wp F_Md_read 80 [l0, l1, l2, l3] (.int x :: .ref a :: st) M Q = (sh M a = some (.inl 12) ∧ wp F_Md_read 83 [l0, l1, l2, l3] st (sI M a 26 x) Q)) ∧
  (∀ (l1 l2 l3 : Value) (x : Nat) (st : List Value) (M : Mm) (Q : Option Value → Mm → Prop), wp F_Md_read 83 [.ref x, l1, l2, l3] st M Q = wp F_Md_read 84 [.ref x, l1, l2, l3] (.ref x :: st) M Q) ∧
  (∀ (l0 l1 l2 l3 : Value) (st : List Value) (M : Mm) (Q : Option Value → Mm → Prop), wp F_Md_read 84 [l0, l1, l2, l3] st M Q = wp F_Md_read 85 [l0, l1, l2, l3] (.int 0 :: st) M Q) ∧
  (∀ (l0 l1 l2 l3 : Value) (a : Nat) (x : Int32) (st : List Value) (M : Mm) (Q : Option Value → Mm → Prop), wp F_Md_read 85 [l0, l1, l2, l3] (.int x :: .ref a :: st) M Q = (sh M a = some (.inl 12) ∧ wp F_Md_read 88 [l0, l1, l2, l3] st (sI M a 27 x) Q)) ∧
  (∀ (l1 l2 l3 : Value) (x : Nat) (st : List Value) (M : Mm) (Q : Option Value → Mm → Prop), wp F_Md_read 88 [.ref x, l1, l2, l3] st M Q = wp F_Md_read 89 [.ref x, l1, l2, l3] (.ref x :: st) M Q) ∧
  (∀ (l0 l1 l2 l3 : Value) (st : List Value) (M : Mm) (Q : Option Value → Mm → Prop), wp F_Md_read 89 [l0, l1, l2, l3] st M Q = wp F_Md_read 90 [l0, l1, l2, l3] (.int 0 :: st) M Q) ∧
  (∀ (l0 l1 l2 l3 : Value) (a : Nat) (x : Int32) (st : List Value) (M : Mm) (Q : Option Value → Mm → Prop), wp F_Md_read 90 [l0, l1, l2, l3] (.int x :: .ref a :: st) M Q = ((x = 0 ∨ x = 1) ∧ sh M a = some (.inl 12) ∧ wp F_Md_read 93 [l0, l1, l2, l3] st (sI M a 28 x) Q)) ∧
  (∀ (l1 l2 l3 : Value) (x : Nat) (st : List Value) (M : Mm) (Q : Option Value → Mm → Prop), wp F_Md_read 93 [.ref x, l1, l2, l3] st M Q = wp F_Md_read 94 [.ref x, l1, l2, l3] (.ref x :: st) M Q) ∧
  (∀ (l0 l1 l2 l3 : Value) (st : List Value) (M : Mm) (Q : Option Value → Mm → Prop), wp F_Md_read 94 [l0, l1, l2, l3] st M Q = wp F_Md_read 95 [l0, l1, l2, l3] (.int 0 :: st) M Q) ∧
  (∀ (l0 l1 l2 l3 : Value) (a : Nat) (x : Int32) (st : List Value) (M : Mm) (Q : Option Value → Mm → Prop), wp F_Md_read 95 [l0, l1, l2, l3] (.int x :: .ref a :: st) M Q = ((x = 0 ∨ x = 1) ∧ sh M a = some (.inl 12) ∧ wp F_Md_read 98 [l0, l1, l2, l3] st (sI M a 52 x) Q)) ∧
  (∀ (l1 l2 l3 : Value) (x : Nat) (st : List Value) (M : Mm) (Q : Option Value → Mm → Prop), wp F_Md_read 98 [.ref x, l1, l2, l3] st M Q = wp F_Md_read 99 [.ref x, l1, l2, l3] (.ref x :: st) M Q) ∧
  (∀ (l0 l1 l2 l3 : Value) (st : List Value) (M : Mm) (Q : Option Value → Mm → Prop), wp F_Md_read 99 [l0, l1, l2, l3] st M Q = wp F_Md_read 100 [l0, l1, l2, l3] (.int 0 :: st) M Q) ∧
  (∀ (l0 l1 l2 l3 : Value) (a : Nat) (x : Int32) (st : List Value) (M : Mm) (Q : Option Value → Mm → Prop), wp F_Md_read 100 [l0, l1, l2, l3] (.int x :: .ref a :: st) M Q = (sh M a = some (.inl 12) ∧ wp F_Md_read 103 [l0, l1, l2, l3] st (sI M a 36 x) Q)) ∧
  (∀ (l1 l2 l3 : Value) (x : Nat) (st : List Value) (M : Mm) (Q : Option Value → Mm → Prop), wp F_Md_read 103 [.ref x, l1, l2, l3] st M Q = wp F_Md_read 104 [.ref x, l1, l2, l3] (.ref x :: st) M Q) ∧
  (∀ (l0 l1 l2 l3 : Value) (st : List Value) (M : Mm) (Q : Option Value → Mm → Prop), wp F_Md_read 104 [l0, l1, l2, l3] st M Q = wp F_Md_read 105 [l0, l1, l2, l3] (.int (-1) :: st) M Q) ∧
  (∀ (l0 l1 l2 l3 : Value) (a : Nat) (x : Int32) (st : List Value) (M : Mm) (Q : Option Value → Mm → Prop), wp F_Md_read 105 [l0, l1, l2, l3] (.int x :: .ref a :: st) M Q = (sh M a = some (.inl 12) ∧ wp F_Md_read 108 [l0, l1, l2, l3] st (sI M a 39 x) Q)) ∧
  (∀ (l0 l1 l2 l3 : Value) (st : List Value) (M : Mm) (Q : Option Value → Mm → Prop), wp F_Md_read 108 [l0, l1, l2, l3] st M Q = wp F_Md_read 109 [l0, l1, l2, l3] (.int 0 :: st) M Q) ∧
  (∀ (l0 l1 l2 l3 : Value) (x : Int32) (st : List Value) (M : Mm) (Q : Option Value → Mm → Prop), wp F_Md_read 109 [l0, l1, l2, l3] (.int x :: st) M Q = wp F_Md_read 110 [clr l0, .int x, l2, l3] st M Q) := ⟨fun _ _ _ _ _ _ _ => wp_in d_Md_read_63 rfl rfl, fun _ _ _ _ _ _ _ => wp_iconst d_Md_read_64 (by decide), fun _ _ _ _ _ _ _ _ _ => wp_putI d_Md_read_65 fl_12_87 rfl rfl, fun _ _ _ _ _ _ _ => wp_in d_Md_read_68 rfl rfl, fun _ _ _ _ _ _ _ => wp_iconst d_Md_read_69 (by decide), fun _ _ _ _ _ _ _ _ _ => wp_putI d_Md_read_70 fl_12_90 rfl rfl, fun _ _ _ _ _ _ _ => wp_in d_Md_read_73 rfl rfl, fun _ _ _ _ _ _ _ => wp_iconst d_Md_read_74 (by decide), fun _ _ _ _ _ _ _ _ _ => wp_putI d_Md_read_75 fl_12_93 rfl rfl, fun _ _ _ _ _ _ _ => wp_in d_Md_read_78 rfl rfl, fun _ _ _ _ _ _ _ => wp_iconst d_Md_read_79 (by decide), fun _ _ _ _ _ _ _ _ _ => wp_putI d_Md_read_80 fl_12_96 rfl rfl, fun _ _ _ _ _ _ _ => wp_in d_Md_read_83 rfl rfl, fun _ _ _ _ _ _ _ => wp_iconst d_Md_read_84 (by decide), fun _ _ _ _ _ _ _ _ _ => wp_putI d_Md_read_85 fl_12_99 rfl rfl, fun _ _ _ _ _ _ _ => wp_in d_Md_read_88 rfl rfl, fun _ _ _ _ _ _ _ => wp_iconst d_Md_read_89 (by decide), fun _ _ _ _ _ _ _ _ _ => wp_putZ d_Md_read_90 fl_12_102 rfl rfl, fun _ _ _ _ _ _ _ => wp_in d_Md_read_93 rfl rfl, fun _ _ _ _ _ _ _ => wp_iconst d_Md_read_94 (by decide), fun _ _ _ _ _ _ _ _ _ => wp_putZ d_Md_read_95 fl_12_106 rfl rfl, fun _ _ _ _ _ _ _ => wp_in d_Md_read_98 rfl rfl, fun _ _ _ _ _ _ _ => wp_iconst d_Md_read_99 (by decide), fun _ _ _ _ _ _ _ _ _ => wp_putI d_Md_read_100 fl_12_109 rfl rfl, fun _ _ _ _ _ _ _ => wp_in d_Md_read_103 rfl rfl, fun _ _ _ _ _ _ _ => wp_iconst d_Md_read_104 (by decide), fun _ _ _ _ _ _ _ _ _ => wp_putI d_Md_read_105 fl_12_112 rfl rfl, fun _ _ _ _ _ _ _ => wp_iconst d_Md_read_108 (by decide), fun _ _ _ _ _ _ _ _ => wp_in d_Md_read_109 rfl rfl⟩
theorem B_Md_read_110 : (∀ (l0 l2 l3 : Value) (x : Int32) (st : List Value) (M : Mm) (Q : Option Value → Mm → Prop), wp F_Md_read 110 [l0, .int x, l2, l3] st M Q = wp F_Md_read 111 [l0, .int x, l2, l3] (.int x :: st) M Q) ∧
  (∀ (l0 l1 l2 l3 : Value) (st : List Value) (M : Mm) (Q : Option Value → Mm → Prop), wp F_Md_read 111 [l0, l1, l2, l3] st M Q = wp F_Md_read 113 [l0, l1, l2, l3] (.int 8 :: st) M Q) ∧
  (∀ (l0 l1 l2 l3 : Value) (x y : Int32) (st : List Value) (M : Mm) (Q : Option Value → Mm → Prop), wp F_Md_read 113 [l0, l1, l2, l3] (.int y :: .int x :: st) M Q = if y ≤ x then wp F_Md_read 129 [l0, l1, l2, l3] st M Q else wp F_Md_read 116 [l0, l1, l2, l3] st M Q) ∧
  (∀ (l1 l2 l3 : Value) (x : Nat) (st : List Value) (M : Mm) (Q : Option Value → Mm → Prop), wp F_Md_read 116 [.ref x, l1, l2, l3] st M Q = wp F_Md_read 117 [.ref x, l1, l2, l3] (.ref x :: st) M Q) ∧
  (∀ (l0 l1 l2 l3 : Value) (a : Nat) (st : List Value) (M : Mm) (Q : Option Value → Mm → Prop), wp F_Md_read 117 [l0, l1, l2, l3] (.ref a :: st) M Q = (sh M a = some (.inl 12) ∧ wp F_Md_read 120 [l0, l1, l2, l3] (va_rf (gR M a 43) :: st) M Q)) ∧
  (∀ (l0 l2 l3 : Value) (x : Int32) (st : List Value) (M : Mm) (Q : Option Value → Mm → Prop), wp F_Md_read 120 [l0, .int x, l2, l3] st M Q = wp F_Md_read 121 [l0, .int x, l2, l3] (.int x :: st) M Q) ∧
  (∀ (l0 l1 l2 l3 : Value) (st : List Value) (M : Mm) (Q : Option Value → Mm → Prop), wp F_Md_read 121 [l0, l1, l2, l3] st M Q = wp F_Md_read 122 [l0, l1, l2, l3] (.int 0 :: st) M Q) ∧
  (∀ (l0 l1 l2 l3 : Value) (a : Nat) (j x : Int32) (st : List Value) (M : Mm) (Q : Option Value → Mm → Prop), wp F_Md_read 122 [l0, l1, l2, l3] (.int x :: .int j :: .ref a :: st) M Q = (ixW M a j ∧ wp F_Md_read 123 [l0, l1, l2, l3] st (sI M a (cl j) x) Q)) ∧
  (∀ (l0 l2 l3 : Value) (x : Int32) (st : List Value) (M : Mm) (Q : Option Value → Mm → Prop), wp F_Md_read 123 [l0, .int x, l2, l3] st M Q = wp F_Md_read 126 [clr l0, .int (x + 1), l2, l3] st M Q) := ⟨fun _ _ _ _ _ _ _ => wp_in d_Md_read_110 rfl rfl, fun _ _ _ _ _ _ _ => wp_bipush d_Md_read_111 (by decide), fun _ _ _ _ _ _ _ _ _ => wp_icmp_ge d_Md_read_113 rfl, fun _ _ _ _ _ _ _ => wp_in d_Md_read_116 rfl rfl, fun _ _ _ _ _ _ _ _ => wp_getA d_Md_read_117 fl_12_115 rfl, fun _ _ _ _ _ _ _ => wp_in d_Md_read_120 rfl rfl, fun _ _ _ _ _ _ _ => wp_iconst d_Md_read_121 (by decide), fun _ _ _ _ _ _ _ _ _ _ => wp_iast d_Md_read_122, fun _ _ _ _ _ _ _ => wp_iinc d_Md_read_123 (by decide) rfl rfl⟩
theorem B_Md_read_129 : (∀ (l0 l1 l2 l3 : Value) (st : List Value) (M : Mm) (Q : Option Value → Mm → Prop), wp F_Md_read 129 [l0, l1, l2, l3] st M Q = wp F_Md_read 130 [l0, l1, l2, l3] (.int 0 :: st) M Q) ∧
  (∀ (l0 l1 l2 l3 : Value) (x : Int32) (st : List Value) (M : Mm) (Q : Option Value → Mm → Prop), wp F_Md_read 130 [l0, l1, l2, l3] (.int x :: st) M Q = wp F_Md_read 131 [clr l0, .int x, l2, l3] st M Q) := ⟨fun _ _ _ _ _ _ _ => wp_iconst d_Md_read_129 (by decide), fun _ _ _ _ _ _ _ _ => wp_in d_Md_read_130 rfl rfl⟩
theorem B_Md_read_131 : (∀ (l0 l2 l3 : Value) (x : Int32) (st : List Value) (M : Mm) (Q : Option Value → Mm → Prop), wp F_Md_read 131 [l0, .int x, l2, l3] st M Q = wp F_Md_read 132 [l0, .int x, l2, l3] (.int x :: st) M Q) ∧
  (∀ (l1 l2 l3 : Value) (x : Nat) (st : List Value) (M : Mm) (Q : Option Value → Mm → Prop), wp F_Md_read 132 [.ref x, l1, l2, l3] st M Q = wp F_Md_read 133 [.ref x, l1, l2, l3] (.ref x :: st) M Q) ∧
  (∀ (l0 l1 l2 l3 : Value) (a : Nat) (st : List Value) (M : Mm) (Q : Option Value → Mm → Prop), wp F_Md_read 133 [l0, l1, l2, l3] (.ref a :: st) M Q = (sh M a = some (.inl 12) ∧ wp F_Md_read 136 [l0, l1, l2, l3] (.int (gI M a 14) :: st) M Q)) ∧
  (∀ (l0 l1 l2 l3 : Value) (x y : Int32) (st : List Value) (M : Mm) (Q : Option Value → Mm → Prop), wp F_Md_read 136 [l0, l1, l2, l3] (.int y :: .int x :: st) M Q = if y ≤ x then wp F_Md_read 230 [l0, l1, l2, l3] st M Q else wp F_Md_read 139 [l0, l1, l2, l3] st M Q) ∧
  (∀ (l0 l1 l2 l3 : Value) (st : List Value) (M : Mm) (Q : Option Value → Mm → Prop), wp F_Md_read 139 [l0, l1, l2, l3] st M Q = wp F_Md_read 140 [l0, l1, l2, l3] (.int 0 :: st) M Q) ∧
  (∀ (l0 l1 l2 l3 : Value) (x : Int32) (st : List Value) (M : Mm) (Q : Option Value → Mm → Prop), wp F_Md_read 140 [l0, l1, l2, l3] (.int x :: st) M Q = wp F_Md_read 141 [l0, clr l1, .int x, l3] st M Q) := ⟨fun _ _ _ _ _ _ _ => wp_in d_Md_read_131 rfl rfl, fun _ _ _ _ _ _ _ => wp_in d_Md_read_132 rfl rfl, fun _ _ _ _ _ _ _ _ => wp_getI d_Md_read_133 fl_12_52 rfl, fun _ _ _ _ _ _ _ _ _ => wp_icmp_ge d_Md_read_136 rfl, fun _ _ _ _ _ _ _ => wp_iconst d_Md_read_139 (by decide), fun _ _ _ _ _ _ _ _ => wp_in d_Md_read_140 rfl rfl⟩
theorem B_Md_read_141 : (∀ (l0 l1 l3 : Value) (x : Int32) (st : List Value) (M : Mm) (Q : Option Value → Mm → Prop), wp F_Md_read 141 [l0, l1, .int x, l3] st M Q = wp F_Md_read 142 [l0, l1, .int x, l3] (.int x :: st) M Q) ∧
  (∀ (l0 l1 l2 l3 : Value) (st : List Value) (M : Mm) (Q : Option Value → Mm → Prop), wp F_Md_read 142 [l0, l1, l2, l3] st M Q = wp F_Md_read 143 [l0, l1, l2, l3] (.int 2 :: st) M Q) ∧
  (∀ (l0 l1 l2 l3 : Value) (x y : Int32) (st : List Value) (M : Mm) (Q : Option Value → Mm → Prop), wp F_Md_read 143 [l0, l1, l2, l3] (.int y :: .int x :: st) M Q = if y ≤ x then wp F_Md_read 224 [l0, l1, l2, l3] st M Q else wp F_Md_read 146 [l0, l1, l2, l3] st M Q) ∧
  (∀ (l1 l2 l3 : Value) (x : Nat) (st : List Value) (M : Mm) (Q : Option Value → Mm → Prop), wp F_Md_read 146 [.ref x, l1, l2, l3] st M Q = wp F_Md_read 147 [.ref x, l1, l2, l3] (.ref x :: st) M Q) ∧
  (∀ (l0 l1 l2 l3 : Value) (a : Nat) (st : List Value) (M : Mm) (Q : Option Value → Mm → Prop), wp F_Md_read 147 [l0, l1, l2, l3] (.ref a :: st) M Q = (sh M a = some (.inl 12) ∧ wp F_Md_read 150 [l0, l1, l2, l3] (va_rf (gR M a 23) :: st) M Q)) ∧
  (∀ (l0 l1 l2 l3 : Value) (st : List Value) (M : Mm) (Q : Option Value → Mm → Prop), wp F_Md_read 150 [l0, l1, l2, l3] st M Q = wp F_Md_read 151 [l0, l1, l2, l3] (.int 2 :: st) M Q) ∧
  (∀ (l0 l2 l3 : Value) (x : Int32) (st : List Value) (M : Mm) (Q : Option Value → Mm → Prop), wp F_Md_read 151 [l0, .int x, l2, l3] st M Q = wp F_Md_read 152 [l0, .int x, l2, l3] (.int x :: st) M Q) ∧
  (∀ (l0 l1 l2 l3 : Value) (x y : Int32) (st : List Value) (M : Mm) (Q : Option Value → Mm → Prop), wp F_Md_read 152 [l0, l1, l2, l3] (.int y :: .int x :: st) M Q = wp F_Md_read 153 [l0, l1, l2, l3] (.int (x * y) :: st) M Q) ∧
  (∀ (l0 l1 l3 : Value) (x : Int32) (st : List Value) (M : Mm) (Q : Option Value → Mm → Prop), wp F_Md_read 153 [l0, l1, .int x, l3] st M Q = wp F_Md_read 154 [l0, l1, .int x, l3] (.int x :: st) M Q) ∧
  (∀ (l0 l1 l2 l3 : Value) (x y : Int32) (st : List Value) (M : Mm) (Q : Option Value → Mm → Prop), wp F_Md_read 154 [l0, l1, l2, l3] (.int y :: .int x :: st) M Q = wp F_Md_read 155 [l0, l1, l2, l3] (.int (x + y) :: st) M Q) ∧
  (∀ (l1 l2 l3 : Value) (x : Nat) (st : List Value) (M : Mm) (Q : Option Value → Mm → Prop), wp F_Md_read 155 [.ref x, l1, l2, l3] st M Q = wp F_Md_read 156 [.ref x, l1, l2, l3] (.ref x :: st) M Q) ∧
  (∀ (l0 l1 l2 l3 : Value) (a : Nat) (st : List Value) (M : Mm) (Q : Option Value → Mm → Prop), wp F_Md_read 156 [l0, l1, l2, l3] (.ref a :: st) M Q = (sh M a = some (.inl 12) ∧ wp F_Md_read 159 [l0, l1, l2, l3] (va_rf (gR M a 13) :: st) M Q)) ∧
  (∀ (l0 l1 l2 l3 : Value) (st : List Value) (M : Mm) (Q : Option Value → Mm → Prop), wp F_Md_read 159 [l0, l1, l2, l3] st M Q = wp F_Md_read 160 [l0, l1, l2, l3] (.int 2 :: st) M Q) ∧
  (∀ (l0 l2 l3 : Value) (x : Int32) (st : List Value) (M : Mm) (Q : Option Value → Mm → Prop), wp F_Md_read 160 [l0, .int x, l2, l3] st M Q = wp F_Md_read 161 [l0, .int x, l2, l3] (.int x :: st) M Q) ∧
  (∀ (l0 l1 l2 l3 : Value) (x y : Int32) (st : List Value) (M : Mm) (Q : Option Value → Mm → Prop), wp F_Md_read 161 [l0, l1, l2, l3] (.int y :: .int x :: st) M Q = wp F_Md_read 162 [l0, l1, l2, l3] (.int (x * y) :: st) M Q) ∧
  (∀ (l0 l1 l3 : Value) (x : Int32) (st : List Value) (M : Mm) (Q : Option Value → Mm → Prop), wp F_Md_read 162 [l0, l1, .int x, l3] st M Q = wp F_Md_read 163 [l0, l1, .int x, l3] (.int x :: st) M Q) ∧
  (∀ (l0 l1 l2 l3 : Value) (x y : Int32) (st : List Value) (M : Mm) (Q : Option Value → Mm → Prop), wp F_Md_read 163 [l0, l1, l2, l3] (.int y :: .int x :: st) M Q = wp F_Md_read 164 [l0, l1, l2, l3] (.int (x + y) :: st) M Q) ∧
  (∀ (l0 l1 l2 l3 : Value) (a : Nat) (j : Int32) (st : List Value) (M : Mm) (Q : Option Value → Mm → Prop), wp F_Md_read 164 [l0, l1, l2, l3] (.int j :: .ref a :: st) M Q = (ixI M a j ∧ wp F_Md_read 165 [l0, l1, l2, l3] (.int (gI M a (cl j)) :: st) M Q)) ∧
  (∀ (l0 l1 l2 l3 : Value) (a : Nat) (j x : Int32) (st : List Value) (M : Mm) (Q : Option Value → Mm → Prop), wp F_Md_read 165 [l0, l1, l2, l3] (.int x :: .int j :: .ref a :: st) M Q = (ixW M a j ∧ wp F_Md_read 166 [l0, l1, l2, l3] st (sI M a (cl j) x) Q)) ∧
  (∀ (l0 l1 l2 l3 : Value) (st : List Value) (M : Mm) (Q : Option Value → Mm → Prop), wp F_Md_read 166 [l0, l1, l2, l3] st M Q = wp F_Md_read 167 [l0, l1, l2, l3] (.int 0 :: st) M Q) ∧
  (∀ (l0 l1 l2 l3 : Value) (x : Int32) (st : List Value) (M : Mm) (Q : Option Value → Mm → Prop), wp F_Md_read 167 [l0, l1, l2, l3] (.int x :: st) M Q = wp F_Md_read 168 [l0, l1, clr l2, .int x] st M Q) := ⟨fun _ _ _ _ _ _ _ => wp_in d_Md_read_141 rfl rfl, fun _ _ _ _ _ _ _ => wp_iconst d_Md_read_142 (by decide), fun _ _ _ _ _ _ _ _ _ => wp_icmp_ge d_Md_read_143 rfl, fun _ _ _ _ _ _ _ => wp_in d_Md_read_146 rfl rfl, fun _ _ _ _ _ _ _ _ => wp_getA d_Md_read_147 fl_12_118 rfl, fun _ _ _ _ _ _ _ => wp_iconst d_Md_read_150 (by decide), fun _ _ _ _ _ _ _ => wp_in d_Md_read_151 rfl rfl, fun _ _ _ _ _ _ _ _ _ => wp_in d_Md_read_152 rfl rfl, fun _ _ _ _ _ _ _ => wp_in d_Md_read_153 rfl rfl, fun _ _ _ _ _ _ _ _ _ => wp_in d_Md_read_154 rfl rfl, fun _ _ _ _ _ _ _ => wp_in d_Md_read_155 rfl rfl, fun _ _ _ _ _ _ _ _ => wp_getA d_Md_read_156 fl_12_62 rfl, fun _ _ _ _ _ _ _ => wp_iconst d_Md_read_159 (by decide), fun _ _ _ _ _ _ _ => wp_in d_Md_read_160 rfl rfl, fun _ _ _ _ _ _ _ _ _ => wp_in d_Md_read_161 rfl rfl, fun _ _ _ _ _ _ _ => wp_in d_Md_read_162 rfl rfl, fun _ _ _ _ _ _ _ _ _ => wp_in d_Md_read_163 rfl rfl, fun _ _ _ _ _ _ _ _ _ => wp_iald d_Md_read_164, fun _ _ _ _ _ _ _ _ _ _ => wp_iast d_Md_read_165, fun _ _ _ _ _ _ _ => wp_iconst d_Md_read_166 (by decide), fun _ _ _ _ _ _ _ _ => wp_in d_Md_read_167 rfl rfl⟩
theorem B_Md_read_168 : (∀ (l0 l1 l2 : Value) (x : Int32) (st : List Value) (M : Mm) (Q : Option Value → Mm → Prop), wp F_Md_read 168 [l0, l1, l2, .int x] st M Q = wp F_Md_read 169 [l0, l1, l2, .int x] (.int x :: st) M Q) ∧
  (∀ (l1 l2 l3 : Value) (x : Nat) (st : List Value) (M : Mm) (Q : Option Value → Mm → Prop), wp F_Md_read 169 [.ref x, l1, l2, l3] st M Q = wp F_Md_read 170 [.ref x, l1, l2, l3] (.ref x :: st) M Q) ∧
  (∀ (l0 l1 l2 l3 : Value) (a : Nat) (st : List Value) (M : Mm) (Q : Option Value → Mm → Prop), wp F_Md_read 170 [l0, l1, l2, l3] (.ref a :: st) M Q = (sh M a = some (.inl 12) ∧ wp F_Md_read 173 [l0, l1, l2, l3] (va_rf (gR M a 13) :: st) M Q)) ∧
  (∀ (l0 l1 l2 l3 : Value) (st : List Value) (M : Mm) (Q : Option Value → Mm → Prop), wp F_Md_read 173 [l0, l1, l2, l3] st M Q = wp F_Md_read 174 [l0, l1, l2, l3] (.int 2 :: st) M Q) ∧
  (∀ (l0 l2 l3 : Value) (x : Int32) (st : List Value) (M : Mm) (Q : Option Value → Mm → Prop), wp F_Md_read 174 [l0, .int x, l2, l3] st M Q = wp F_Md_read 175 [l0, .int x, l2, l3] (.int x :: st) M Q) ∧
  (∀ (l0 l1 l2 l3 : Value) (x y : Int32) (st : List Value) (M : Mm) (Q : Option Value → Mm → Prop), wp F_Md_read 175 [l0, l1, l2, l3] (.int y :: .int x :: st) M Q = wp F_Md_read 176 [l0, l1, l2, l3] (.int (x * y) :: st) M Q) ∧
  (∀ (l0 l1 l3 : Value) (x : Int32) (st : List Value) (M : Mm) (Q : Option Value → Mm → Prop), wp F_Md_read 176 [l0, l1, .int x, l3] st M Q = wp F_Md_read 177 [l0, l1, .int x, l3] (.int x :: st) M Q) ∧
  (∀ (l0 l1 l2 l3 : Value) (x y : Int32) (st : List Value) (M : Mm) (Q : Option Value → Mm → Prop), wp F_Md_read 177 [l0, l1, l2, l3] (.int y :: .int x :: st) M Q = wp F_Md_read 178 [l0, l1, l2, l3] (.int (x + y) :: st) M Q) ∧
  (∀ (l0 l1 l2 l3 : Value) (a : Nat) (j : Int32) (st : List Value) (M : Mm) (Q : Option Value → Mm → Prop), wp F_Md_read 178 [l0, l1, l2, l3] (.int j :: .ref a :: st) M Q = (ixI M a j ∧ wp F_Md_read 179 [l0, l1, l2, l3] (.int (gI M a (cl j)) :: st) M Q)) ∧
  (∀ (l0 l1 l2 l3 : Value) (x y : Int32) (st : List Value) (M : Mm) (Q : Option Value → Mm → Prop), wp F_Md_read 179 [l0, l1, l2, l3] (.int y :: .int x :: st) M Q = if y ≤ x then wp F_Md_read 218 [l0, l1, l2, l3] st M Q else wp F_Md_read 182 [l0, l1, l2, l3] st M Q) ∧
  (∀ (l1 l2 l3 : Value) (x : Nat) (st : List Value) (M : Mm) (Q : Option Value → Mm → Prop), wp F_Md_read 182 [.ref x, l1, l2, l3] st M Q = wp F_Md_read 183 [.ref x, l1, l2, l3] (.ref x :: st) M Q) ∧
  (∀ (l0 l1 l2 l3 : Value) (a : Nat) (st : List Value) (M : Mm) (Q : Option Value → Mm → Prop), wp F_Md_read 183 [l0, l1, l2, l3] (.ref a :: st) M Q = (sh M a = some (.inl 12) ∧ wp F_Md_read 186 [l0, l1, l2, l3] (va_rf (gR M a 22) :: st) M Q)) ∧
  (∀ (l0 l1 l2 l3 : Value) (st : List Value) (M : Mm) (Q : Option Value → Mm → Prop), wp F_Md_read 186 [l0, l1, l2, l3] st M Q = wp F_Md_read 188 [l0, l1, l2, l3] (.int 120 :: st) M Q) ∧
  (∀ (l0 l1 l2 l3 : Value) (st : List Value) (M : Mm) (Q : Option Value → Mm → Prop), wp F_Md_read 188 [l0, l1, l2, l3] st M Q = wp F_Md_read 189 [l0, l1, l2, l3] (.int 2 :: st) M Q) ∧
  (∀ (l0 l2 l3 : Value) (x : Int32) (st : List Value) (M : Mm) (Q : Option Value → Mm → Prop), wp F_Md_read 189 [l0, .int x, l2, l3] st M Q = wp F_Md_read 190 [l0, .int x, l2, l3] (.int x :: st) M Q) ∧
  (∀ (l0 l1 l2 l3 : Value) (x y : Int32) (st : List Value) (M : Mm) (Q : Option Value → Mm → Prop), wp F_Md_read 190 [l0, l1, l2, l3] (.int y :: .int x :: st) M Q = wp F_Md_read 191 [l0, l1, l2, l3] (.int (x * y) :: st) M Q) ∧
  (∀ (l0 l1 l3 : Value) (x : Int32) (st : List Value) (M : Mm) (Q : Option Value → Mm → Prop), wp F_Md_read 191 [l0, l1, .int x, l3] st M Q = wp F_Md_read 192 [l0, l1, .int x, l3] (.int x :: st) M Q) ∧
  (∀ (l0 l1 l2 l3 : Value) (x y : Int32) (st : List Value) (M : Mm) (Q : Option Value → Mm → Prop), wp F_Md_read 192 [l0, l1, l2, l3] (.int y :: .int x :: st) M Q = wp F_Md_read 193 [l0, l1, l2, l3] (.int (x + y) :: st) M Q) ∧
  (∀ (l0 l1 l2 l3 : Value) (x y : Int32) (st : List Value) (M : Mm) (Q : Option Value → Mm → Prop), wp F_Md_read 193 [l0, l1, l2, l3] (.int y :: .int x :: st) M Q = wp F_Md_read 194 [l0, l1, l2, l3] (.int (x * y) :: st) M Q) ∧
  (∀ (l0 l1 l2 : Value) (x : Int32) (st : List Value) (M : Mm) (Q : Option Value → Mm → Prop), wp F_Md_read 194 [l0, l1, l2, .int x] st M Q = wp F_Md_read 195 [l0, l1, l2, .int x] (.int x :: st) M Q) ∧
  (∀ (l0 l1 l2 l3 : Value) (x y : Int32) (st : List Value) (M : Mm) (Q : Option Value → Mm → Prop), wp F_Md_read 195 [l0, l1, l2, l3] (.int y :: .int x :: st) M Q = wp F_Md_read 196 [l0, l1, l2, l3] (.int (x + y) :: st) M Q) ∧
  (∀ (l1 l2 l3 : Value) (x : Nat) (st : List Value) (M : Mm) (Q : Option Value → Mm → Prop), wp F_Md_read 196 [.ref x, l1, l2, l3] st M Q = wp F_Md_read 197 [.ref x, l1, l2, l3] (.ref x :: st) M Q) ∧
  (∀ (l0 l1 l2 l3 : Value) (a : Nat) (st : List Value) (M : Mm) (Q : Option Value → Mm → Prop), wp F_Md_read 197 [l0, l1, l2, l3] (.ref a :: st) M Q = (sh M a = some (.inl 12) ∧ wp F_Md_read 200 [l0, l1, l2, l3] (va_rf (gR M a 12) :: st) M Q)) ∧
  (∀ (l0 l1 l2 l3 : Value) (st : List Value) (M : Mm) (Q : Option Value → Mm → Prop), wp F_Md_read 200 [l0, l1, l2, l3] st M Q = wp F_Md_read 202 [l0, l1, l2, l3] (.int 24 :: st) M Q) ∧
  (∀ (l0 l1 l2 l3 : Value) (st : List Value) (M : Mm) (Q : Option Value → Mm → Prop), wp F_Md_read 202 [l0, l1, l2, l3] st M Q = wp F_Md_read 203 [l0, l1, l2, l3] (.int 2 :: st) M Q) ∧
  (∀ (l0 l2 l3 : Value) (x : Int32) (st : List Value) (M : Mm) (Q : Option Value → Mm → Prop), wp F_Md_read 203 [l0, .int x, l2, l3] st M Q = wp F_Md_read 204 [l0, .int x, l2, l3] (.int x :: st) M Q) ∧
  (∀ (l0 l1 l2 l3 : Value) (x y : Int32) (st : List Value) (M : Mm) (Q : Option Value → Mm → Prop), wp F_Md_read 204 [l0, l1, l2, l3] (.int y :: .int x :: st) M Q = wp F_Md_read 205 [l0, l1, l2, l3] (.int (x * y) :: st) M Q) ∧
  (∀ (l0 l1 l3 : Value) (x : Int32) (st : List Value) (M : Mm) (Q : Option Value → Mm → Prop), wp F_Md_read 205 [l0, l1, .int x, l3] st M Q = wp F_Md_read 206 [l0, l1, .int x, l3] (.int x :: st) M Q) ∧
  (∀ (l0 l1 l2 l3 : Value) (x y : Int32) (st : List Value) (M : Mm) (Q : Option Value → Mm → Prop), wp F_Md_read 206 [l0, l1, l2, l3] (.int y :: .int x :: st) M Q = wp F_Md_read 207 [l0, l1, l2, l3] (.int (x + y) :: st) M Q) ∧
  (∀ (l0 l1 l2 l3 : Value) (x y : Int32) (st : List Value) (M : Mm) (Q : Option Value → Mm → Prop), wp F_Md_read 207 [l0, l1, l2, l3] (.int y :: .int x :: st) M Q = wp F_Md_read 208 [l0, l1, l2, l3] (.int (x * y) :: st) M Q) ∧
  (∀ (l0 l1 l2 : Value) (x : Int32) (st : List Value) (M : Mm) (Q : Option Value → Mm → Prop), wp F_Md_read 208 [l0, l1, l2, .int x] st M Q = wp F_Md_read 209 [l0, l1, l2, .int x] (.int x :: st) M Q) ∧
  (∀ (l0 l1 l2 l3 : Value) (x y : Int32) (st : List Value) (M : Mm) (Q : Option Value → Mm → Prop), wp F_Md_read 209 [l0, l1, l2, l3] (.int y :: .int x :: st) M Q = wp F_Md_read 210 [l0, l1, l2, l3] (.int (x + y) :: st) M Q) ∧
  (∀ (l0 l1 l2 l3 : Value) (a : Nat) (j : Int32) (st : List Value) (M : Mm) (Q : Option Value → Mm → Prop), wp F_Md_read 210 [l0, l1, l2, l3] (.int j :: .ref a :: st) M Q = (ixI M a j ∧ wp F_Md_read 211 [l0, l1, l2, l3] (.int (gI M a (cl j)) :: st) M Q)) ∧
  (∀ (l0 l1 l2 l3 : Value) (a : Nat) (j x : Int32) (st : List Value) (M : Mm) (Q : Option Value → Mm → Prop), wp F_Md_read 211 [l0, l1, l2, l3] (.int x :: .int j :: .ref a :: st) M Q = (ixW M a j ∧ wp F_Md_read 212 [l0, l1, l2, l3] st (sI M a (cl j) x) Q)) ∧
  (∀ (l0 l1 l2 : Value) (x : Int32) (st : List Value) (M : Mm) (Q : Option Value → Mm → Prop), wp F_Md_read 212 [l0, l1, l2, .int x] st M Q = wp F_Md_read 215 [l0, l1, clr l2, .int (x + 1)] st M Q) := ⟨fun _ _ _ _ _ _ _ => wp_in d_Md_read_168 rfl rfl, fun _ _ _ _ _ _ _ => wp_in d_Md_read_169 rfl rfl, fun _ _ _ _ _ _ _ _ => wp_getA d_Md_read_170 fl_12_62 rfl, fun _ _ _ _ _ _ _ => wp_iconst d_Md_read_173 (by decide), fun _ _ _ _ _ _ _ => wp_in d_Md_read_174 rfl rfl, fun _ _ _ _ _ _ _ _ _ => wp_in d_Md_read_175 rfl rfl, fun _ _ _ _ _ _ _ => wp_in d_Md_read_176 rfl rfl, fun _ _ _ _ _ _ _ _ _ => wp_in d_Md_read_177 rfl rfl, fun _ _ _ _ _ _ _ _ _ => wp_iald d_Md_read_178, fun _ _ _ _ _ _ _ _ _ => wp_icmp_ge d_Md_read_179 rfl, fun _ _ _ _ _ _ _ => wp_in d_Md_read_182 rfl rfl, fun _ _ _ _ _ _ _ _ => wp_getA d_Md_read_183 fl_12_121 rfl, fun _ _ _ _ _ _ _ => wp_bipush d_Md_read_186 (by decide), fun _ _ _ _ _ _ _ => wp_iconst d_Md_read_188 (by decide), fun _ _ _ _ _ _ _ => wp_in d_Md_read_189 rfl rfl, fun _ _ _ _ _ _ _ _ _ => wp_in d_Md_read_190 rfl rfl, fun _ _ _ _ _ _ _ => wp_in d_Md_read_191 rfl rfl, fun _ _ _ _ _ _ _ _ _ => wp_in d_Md_read_192 rfl rfl, fun _ _ _ _ _ _ _ _ _ => wp_in d_Md_read_193 rfl rfl, fun _ _ _ _ _ _ _ => wp_in d_Md_read_194 rfl rfl, fun _ _ _ _ _ _ _ _ _ => wp_in d_Md_read_195 rfl rfl, fun _ _ _ _ _ _ _ => wp_in d_Md_read_196 rfl rfl, fun _ _ _ _ _ _ _ _ => wp_getA d_Md_read_197 fl_12_55 rfl, fun _ _ _ _ _ _ _ => wp_bipush d_Md_read_200 (by decide), fun _ _ _ _ _ _ _ => wp_iconst d_Md_read_202 (by decide), fun _ _ _ _ _ _ _ => wp_in d_Md_read_203 rfl rfl, fun _ _ _ _ _ _ _ _ _ => wp_in d_Md_read_204 rfl rfl, fun _ _ _ _ _ _ _ => wp_in d_Md_read_205 rfl rfl, fun _ _ _ _ _ _ _ _ _ => wp_in d_Md_read_206 rfl rfl, fun _ _ _ _ _ _ _ _ _ => wp_in d_Md_read_207 rfl rfl, fun _ _ _ _ _ _ _ => wp_in d_Md_read_208 rfl rfl, fun _ _ _ _ _ _ _ _ _ => wp_in d_Md_read_209 rfl rfl, fun _ _ _ _ _ _ _ _ _ => wp_iald d_Md_read_210, fun _ _ _ _ _ _ _ _ _ _ => wp_iast d_Md_read_211, fun _ _ _ _ _ _ _ => wp_iinc d_Md_read_212 (by decide) rfl rfl⟩
theorem B_Md_read_218 : (∀ (l0 l1 l3 : Value) (x : Int32) (st : List Value) (M : Mm) (Q : Option Value → Mm → Prop), wp F_Md_read 218 [l0, l1, .int x, l3] st M Q = wp F_Md_read 221 [l0, clr l1, .int (x + 1), l3] st M Q) := fun _ _ _ _ _ _ _ => wp_iinc d_Md_read_218 (by decide) rfl rfl
theorem B_Md_read_224 : (∀ (l0 l2 l3 : Value) (x : Int32) (st : List Value) (M : Mm) (Q : Option Value → Mm → Prop), wp F_Md_read 224 [l0, .int x, l2, l3] st M Q = wp F_Md_read 227 [clr l0, .int (x + 1), l2, l3] st M Q) := fun _ _ _ _ _ _ _ => wp_iinc d_Md_read_224 (by decide) rfl rfl
theorem B_Md_read_230 : (∀ (l1 l2 l3 : Value) (x : Nat) (st : List Value) (M : Mm) (Q : Option Value → Mm → Prop), wp F_Md_read 230 [.ref x, l1, l2, l3] st M Q = wp F_Md_read 231 [.ref x, l1, l2, l3] (.ref x :: st) M Q) ∧
  (∀ (l1 l2 l3 : Value) (x : Nat) (st : List Value) (M : Mm) (Q : Option Value → Mm → Prop), wp F_Md_read 231 [.ref x, l1, l2, l3] st M Q = wp F_Md_read 232 [.ref x, l1, l2, l3] (.ref x :: st) M Q) ∧
  (∀ (l0 l1 l2 l3 : Value) (a : Nat) (st : List Value) (M : Mm) (Q : Option Value → Mm → Prop), wp F_Md_read 232 [l0, l1, l2, l3] (.ref a :: st) M Q = (sh M a = some (.inl 12) ∧ wp F_Md_read 235 [l0, l1, l2, l3] (.int (gI M a 14) :: st) M Q)) ∧
  (∀ (l0 l1 l2 l3 : Value) (a : Nat) (x : Int32) (st : List Value) (M : Mm) (Q : Option Value → Mm → Prop), wp F_Md_read 235 [l0, l1, l2, l3] (.int x :: .ref a :: st) M Q = (sh M a = some (.inl 12) ∧ wp F_Md_read 238 [l0, l1, l2, l3] st (sI M a 25 x) Q)) ∧
  (∀ (l1 l2 l3 : Value) (x : Nat) (st : List Value) (M : Mm) (Q : Option Value → Mm → Prop), wp F_Md_read 238 [.ref x, l1, l2, l3] st M Q = wp F_Md_read 239 [.ref x, l1, l2, l3] (.ref x :: st) M Q) ∧
  (∀ (l0 l1 l2 l3 : Value) (a : Nat) (st : List Value) (M : Mm) (Q : Option Value → Mm → Prop), wp F_Md_read 239 [l0, l1, l2, l3] (.ref a :: st) M Q = (sh M a = some (.inl 12) ∧ wp F_Md_read 242 [l0, l1, l2, l3] (.int (gI M a 14) :: st) M Q)) ∧
  (∀ (l0 l1 l2 l3 : Value) (v : Int32) (M : Mm) (Q : Option Value → Mm → Prop), wp F_Md_read 242 [l0, l1, l2, l3] [.int v] M Q = Q (some (.int v)) M) := ⟨fun _ _ _ _ _ _ _ => wp_in d_Md_read_230 rfl rfl, fun _ _ _ _ _ _ _ => wp_in d_Md_read_231 rfl rfl, fun _ _ _ _ _ _ _ _ => wp_getI d_Md_read_232 fl_12_52 rfl, fun _ _ _ _ _ _ _ _ _ => wp_putI d_Md_read_235 fl_12_93 rfl rfl, fun _ _ _ _ _ _ _ => wp_in d_Md_read_238 rfl rfl, fun _ _ _ _ _ _ _ _ => wp_getI d_Md_read_239 fl_12_52 rfl, fun _ _ _ _ _ _ _ => wp_retI d_Md_read_242 rfl⟩
theorem G_Md_read_60 (l0 l1 l2 l3 : Value) (st : List Value) (M : Mm) (Q : Option Value → Mm → Prop) : wp F_Md_read 60 [l0, l1, l2, l3] st M Q = wp F_Md_read 39 [l0, l1, l2, l3] st M Q := wp_goto d_Md_read_60 rfl
theorem G_Md_read_126 (l0 l1 l2 l3 : Value) (st : List Value) (M : Mm) (Q : Option Value → Mm → Prop) : wp F_Md_read 126 [l0, l1, l2, l3] st M Q = wp F_Md_read 110 [l0, l1, l2, l3] st M Q := wp_goto d_Md_read_126 rfl
theorem G_Md_read_215 (l0 l1 l2 l3 : Value) (st : List Value) (M : Mm) (Q : Option Value → Mm → Prop) : wp F_Md_read 215 [l0, l1, l2, l3] st M Q = wp F_Md_read 168 [l0, l1, l2, l3] st M Q := wp_goto d_Md_read_215 rfl
theorem G_Md_read_221 (l0 l1 l2 l3 : Value) (st : List Value) (M : Mm) (Q : Option Value → Mm → Prop) : wp F_Md_read 221 [l0, l1, l2, l3] st M Q = wp F_Md_read 141 [l0, l1, l2, l3] st M Q := wp_goto d_Md_read_221 rfl
theorem G_Md_read_227 (l0 l1 l2 l3 : Value) (st : List Value) (M : Mm) (Q : Option Value → Mm → Prop) : wp F_Md_read 227 [l0, l1, l2, l3] st M Q = wp F_Md_read 131 [l0, l1, l2, l3] st M Q := wp_goto d_Md_read_227 rfl
theorem d_Md_fault_0 : decode (fnB F_Md_fault) 0 = .ok (.aload_n 0, 1) := by decide +kernel
theorem d_Md_fault_1 : decode (fnB F_Md_fault) 1 = .ok (.iconst 0, 1) := by decide +kernel
theorem d_Md_fault_2 : decode (fnB F_Md_fault) 2 = .ok (.putfield 1, 3) := by decide +kernel
theorem d_Md_fault_5 : decode (fnB F_Md_fault) 5 = .ok (.aload_n 0, 1) := by decide +kernel
theorem d_Md_fault_6 : decode (fnB F_Md_fault) 6 = .ok (.getfield 65, 3) := by decide +kernel
theorem d_Md_fault_9 : decode (fnB F_Md_fault) 9 = .ok (.ireturn, 1) := by decide +kernel
theorem B_Md_fault_0 : (∀ (x : Nat) (st : List Value) (M : Mm) (Q : Option Value → Mm → Prop), wp F_Md_fault 0 [.ref x] st M Q = wp F_Md_fault 1 [.ref x] (.ref x :: st) M Q) ∧
  (∀ (l0 : Value) (st : List Value) (M : Mm) (Q : Option Value → Mm → Prop), wp F_Md_fault 1 [l0] st M Q = wp F_Md_fault 2 [l0] (.int 0 :: st) M Q) ∧
  (∀ (l0 : Value) (a : Nat) (x : Int32) (st : List Value) (M : Mm) (Q : Option Value → Mm → Prop), wp F_Md_fault 2 [l0] (.int x :: .ref a :: st) M Q = (sh M a = some (.inl 12) ∧ wp F_Md_fault 5 [l0] st (sI M a 0 x) Q)) ∧
  (∀ (x : Nat) (st : List Value) (M : Mm) (Q : Option Value → Mm → Prop), wp F_Md_fault 5 [.ref x] st M Q = wp F_Md_fault 6 [.ref x] (.ref x :: st) M Q) ∧
  (∀ (l0 : Value) (a : Nat) (st : List Value) (M : Mm) (Q : Option Value → Mm → Prop), wp F_Md_fault 6 [l0] (.ref a :: st) M Q = (sh M a = some (.inl 12) ∧ wp F_Md_fault 9 [l0] (.int (gI M a 7) :: st) M Q)) ∧
  (∀ (l0 : Value) (v : Int32) (M : Mm) (Q : Option Value → Mm → Prop), wp F_Md_fault 9 [l0] [.int v] M Q = Q (some (.int v)) M) := ⟨fun _ _ _ _ => wp_in d_Md_fault_0 rfl rfl, fun _ _ _ _ => wp_iconst d_Md_fault_1 (by decide), fun _ _ _ _ _ _ => wp_putI d_Md_fault_2 fl_12_1 rfl rfl, fun _ _ _ _ => wp_in d_Md_fault_5 rfl rfl, fun _ _ _ _ _ => wp_getI d_Md_fault_6 fl_12_65 rfl, fun _ _ _ _ => wp_retI d_Md_fault_9 rfl⟩
theorem d_Md_isSlot_0 : decode (fnB F_Md_isSlot) 0 = .ok (.iload_n 0, 1) := by decide +kernel
theorem d_Md_isSlot_1 : decode (fnB F_Md_isSlot) 1 = .ok (.i2l, 1) := by decide +kernel
theorem d_Md_isSlot_2 : decode (fnB F_Md_isSlot) 2 = .ok (.lconst 0, 1) := by decide +kernel
theorem d_Md_isSlot_3 : decode (fnB F_Md_isSlot) 3 = .ok (.ldc2_w 124, 3) := by decide +kernel
theorem d_Md_isSlot_6 : decode (fnB F_Md_isSlot) 6 = .ok (.invokestatic 9, 3) := by decide +kernel
theorem d_Md_isSlot_9 : decode (fnB F_Md_isSlot) 9 = .ok (.ireturn, 1) := by decide +kernel
theorem B_Md_isSlot_0 : (∀ (x : Int32) (st : List Value) (M : Mm) (Q : Option Value → Mm → Prop), wp F_Md_isSlot 0 [.int x] st M Q = wp F_Md_isSlot 1 [.int x] (.int x :: st) M Q) ∧
  (∀ (l0 : Value) (x : Int32) (st : List Value) (M : Mm) (Q : Option Value → Mm → Prop), wp F_Md_isSlot 1 [l0] (.int x :: st) M Q = wp F_Md_isSlot 2 [l0] (.long x.toInt64 :: st) M Q) ∧
  (∀ (l0 : Value) (st : List Value) (M : Mm) (Q : Option Value → Mm → Prop), wp F_Md_isSlot 2 [l0] st M Q = wp F_Md_isSlot 3 [l0] (.long 0 :: st) M Q) ∧
  (∀ (l0 : Value) (st : List Value) (M : Mm) (Q : Option Value → Mm → Prop), wp F_Md_isSlot 3 [l0] st M Q = wp F_Md_isSlot 6 [l0] (.long 7 :: st) M Q) ∧
  (∀ (l0 : Value) (p0 : Int64) (p1 : Int64) (p2 : Int64) (M : Mm) (Q : Option Value → Mm → Prop), wp F_Md_isSlot 6 [l0] [.long p2, .long p1, .long p0] M Q = wp F_Md_in 0 [.long p0, jk, .long p1, jk, .long p2, jk] [] M (fun r M1 => wp F_Md_isSlot 9 [l0] (r.toList ++ []) M1 Q)) ∧
  (∀ (l0 : Value) (v : Int32) (M : Mm) (Q : Option Value → Mm → Prop), wp F_Md_isSlot 9 [l0] [.int v] M Q = ((v = 0 ∨ v = 1) ∧ Q (some (.int v)) M)) := ⟨fun _ _ _ _ => wp_in d_Md_isSlot_0 rfl rfl, fun _ _ _ _ _ => wp_in d_Md_isSlot_1 rfl rfl, fun _ _ _ _ => wp_lconst d_Md_isSlot_2 (by decide), fun _ _ _ _ => wp_ldc2 d_Md_isSlot_3 ll_12_124, fun _ _ _ _ _ _ => wp_callS d_Md_isSlot_6 ml_12_9 (Nat.le_of_ble_eq_true rfl) rfl rfl rfl, fun _ _ _ _ => wp_retZ d_Md_isSlot_9 rfl⟩
theorem d_Md_word_0 : decode (fnB F_Md_word) 0 = .ok (.aload_n 0, 1) := by decide +kernel
theorem d_Md_word_1 : decode (fnB F_Md_word) 1 = .ok (.iconst 0, 1) := by decide +kernel
theorem d_Md_word_2 : decode (fnB F_Md_word) 2 = .ok (.putfield 1, 3) := by decide +kernel
theorem d_Md_word_5 : decode (fnB F_Md_word) 5 = .ok (.iload_n 1, 1) := by decide +kernel
theorem d_Md_word_6 : decode (fnB F_Md_word) 6 = .ok (.invokestatic 126, 3) := by decide +kernel
theorem d_Md_word_9 : decode (fnB F_Md_word) 9 = .ok (.ifCond .ne 6, 3) := by decide +kernel
theorem d_Md_word_12 : decode (fnB F_Md_word) 12 = .ok (.bipush (-2), 2) := by decide +kernel
theorem d_Md_word_14 : decode (fnB F_Md_word) 14 = .ok (.ireturn, 1) := by decide +kernel
theorem d_Md_word_15 : decode (fnB F_Md_word) 15 = .ok (.aload_n 0, 1) := by decide +kernel
theorem d_Md_word_16 : decode (fnB F_Md_word) 16 = .ok (.invokevirtual 68, 3) := by decide +kernel
theorem d_Md_word_19 : decode (fnB F_Md_word) 19 = .ok (.aload_n 0, 1) := by decide +kernel
theorem d_Md_word_20 : decode (fnB F_Md_word) 20 = .ok (.aload_n 0, 1) := by decide +kernel
theorem d_Md_word_21 : decode (fnB F_Md_word) 21 = .ok (.getfield 84, 3) := by decide +kernel
theorem d_Md_word_24 : decode (fnB F_Md_word) 24 = .ok (.bipush 80, 2) := by decide +kernel
theorem d_Md_word_26 : decode (fnB F_Md_word) 26 = .ok (.aload_n 0, 1) := by decide +kernel
theorem d_Md_word_27 : decode (fnB F_Md_word) 27 = .ok (.getfield 129, 3) := by decide +kernel
theorem d_Md_word_30 : decode (fnB F_Md_word) 30 = .ok (.iconst 0, 1) := by decide +kernel
theorem d_Md_word_31 : decode (fnB F_Md_word) 31 = .ok (.invokevirtual 58, 3) := by decide +kernel
theorem d_Md_word_34 : decode (fnB F_Md_word) 34 = .ok (.istore_n 2, 1) := by decide +kernel
theorem d_Md_word_35 : decode (fnB F_Md_word) 35 = .ok (.aload_n 0, 1) := by decide +kernel
theorem d_Md_word_36 : decode (fnB F_Md_word) 36 = .ok (.getfield 28, 3) := by decide +kernel
theorem d_Md_word_39 : decode (fnB F_Md_word) 39 = .ok (.ifCond .ne 16, 3) := by decide +kernel
theorem d_Md_word_42 : decode (fnB F_Md_word) 42 = .ok (.aload_n 0, 1) := by decide +kernel
theorem d_Md_word_43 : decode (fnB F_Md_word) 43 = .ok (.invokevirtual 40, 3) := by decide +kernel
theorem d_Md_word_46 : decode (fnB F_Md_word) 46 = .ok (.iconst (-1), 1) := by decide +kernel
theorem d_Md_word_47 : decode (fnB F_Md_word) 47 = .ok (.if_icmp .eq 8, 3) := by decide +kernel
theorem d_Md_word_50 : decode (fnB F_Md_word) 50 = .ok (.aload_n 0, 1) := by decide +kernel
theorem d_Md_word_51 : decode (fnB F_Md_word) 51 = .ok (.iconst 1, 1) := by decide +kernel
theorem d_Md_word_52 : decode (fnB F_Md_word) 52 = .ok (.invokevirtual 48, 3) := by decide +kernel
theorem d_Md_word_55 : decode (fnB F_Md_word) 55 = .ok (.aload_n 0, 1) := by decide +kernel
theorem d_Md_word_56 : decode (fnB F_Md_word) 56 = .ok (.getfield 28, 3) := by decide +kernel
theorem d_Md_word_59 : decode (fnB F_Md_word) 59 = .ok (.ifCond .le 8, 3) := by decide +kernel
theorem d_Md_word_62 : decode (fnB F_Md_word) 62 = .ok (.aload_n 0, 1) := by decide +kernel
theorem d_Md_word_63 : decode (fnB F_Md_word) 63 = .ok (.invokevirtual 78, 3) := by decide +kernel
theorem d_Md_word_66 : decode (fnB F_Md_word) 66 = .ok (.ireturn, 1) := by decide +kernel
theorem d_Md_word_67 : decode (fnB F_Md_word) 67 = .ok (.iconst 0, 1) := by decide +kernel
theorem d_Md_word_68 : decode (fnB F_Md_word) 68 = .ok (.istore_n 3, 1) := by decide +kernel
theorem d_Md_word_69 : decode (fnB F_Md_word) 69 = .ok (.iload_n 3, 1) := by decide +kernel
theorem d_Md_word_70 : decode (fnB F_Md_word) 70 = .ok (.iload_n 2, 1) := by decide +kernel
theorem d_Md_word_71 : decode (fnB F_Md_word) 71 = .ok (.if_icmp .ge 26, 3) := by decide +kernel
theorem d_Md_word_74 : decode (fnB F_Md_word) 74 = .ok (.aload_n 0, 1) := by decide +kernel
theorem d_Md_word_75 : decode (fnB F_Md_word) 75 = .ok (.getfield 132, 3) := by decide +kernel
theorem d_Md_word_78 : decode (fnB F_Md_word) 78 = .ok (.bipush 80, 2) := by decide +kernel
theorem d_Md_word_80 : decode (fnB F_Md_word) 80 = .ok (.iload_n 1, 1) := by decide +kernel
theorem d_Md_word_81 : decode (fnB F_Md_word) 81 = .ok (.imul, 1) := by decide +kernel
theorem d_Md_word_82 : decode (fnB F_Md_word) 82 = .ok (.iload_n 3, 1) := by decide +kernel
theorem d_Md_word_83 : decode (fnB F_Md_word) 83 = .ok (.iadd, 1) := by decide +kernel
theorem d_Md_word_84 : decode (fnB F_Md_word) 84 = .ok (.aload_n 0, 1) := by decide +kernel
theorem d_Md_word_85 : decode (fnB F_Md_word) 85 = .ok (.getfield 129, 3) := by decide +kernel
theorem d_Md_word_88 : decode (fnB F_Md_word) 88 = .ok (.iload_n 3, 1) := by decide +kernel
theorem d_Md_word_89 : decode (fnB F_Md_word) 89 = .ok (.iaload, 1) := by decide +kernel
theorem d_Md_word_90 : decode (fnB F_Md_word) 90 = .ok (.iastore, 1) := by decide +kernel
theorem d_Md_word_91 : decode (fnB F_Md_word) 91 = .ok (.iinc 3 1, 3) := by decide +kernel
theorem d_Md_word_94 : decode (fnB F_Md_word) 94 = .ok (.goto (-25), 3) := by decide +kernel
theorem d_Md_word_97 : decode (fnB F_Md_word) 97 = .ok (.aload_n 0, 1) := by decide +kernel
theorem d_Md_word_98 : decode (fnB F_Md_word) 98 = .ok (.getfield 115, 3) := by decide +kernel
theorem d_Md_word_101 : decode (fnB F_Md_word) 101 = .ok (.iload_n 1, 1) := by decide +kernel
theorem d_Md_word_102 : decode (fnB F_Md_word) 102 = .ok (.iload_n 2, 1) := by decide +kernel
theorem d_Md_word_103 : decode (fnB F_Md_word) 103 = .ok (.iastore, 1) := by decide +kernel
theorem d_Md_word_104 : decode (fnB F_Md_word) 104 = .ok (.iload_n 2, 1) := by decide +kernel
theorem d_Md_word_105 : decode (fnB F_Md_word) 105 = .ok (.ireturn, 1) := by decide +kernel
theorem B_Md_word_0 : (∀ (l1 l2 l3 : Value) (x : Nat) (st : List Value) (M : Mm) (Q : Option Value → Mm → Prop), wp F_Md_word 0 [.ref x, l1, l2, l3] st M Q = wp F_Md_word 1 [.ref x, l1, l2, l3] (.ref x :: st) M Q) ∧
  (∀ (l0 l1 l2 l3 : Value) (st : List Value) (M : Mm) (Q : Option Value → Mm → Prop), wp F_Md_word 1 [l0, l1, l2, l3] st M Q = wp F_Md_word 2 [l0, l1, l2, l3] (.int 0 :: st) M Q) ∧
  (∀ (l0 l1 l2 l3 : Value) (a : Nat) (x : Int32) (st : List Value) (M : Mm) (Q : Option Value → Mm → Prop), wp F_Md_word 2 [l0, l1, l2, l3] (.int x :: .ref a :: st) M Q = (sh M a = some (.inl 12) ∧ wp F_Md_word 5 [l0, l1, l2, l3] st (sI M a 0 x) Q)) ∧
  (∀ (l0 l2 l3 : Value) (x : Int32) (st : List Value) (M : Mm) (Q : Option Value → Mm → Prop), wp F_Md_word 5 [l0, .int x, l2, l3] st M Q = wp F_Md_word 6 [l0, .int x, l2, l3] (.int x :: st) M Q) ∧
  (∀ (l0 l1 l2 l3 : Value) (p0 : Int32) (M : Mm) (Q : Option Value → Mm → Prop), wp F_Md_word 6 [l0, l1, l2, l3] [.int p0] M Q = wp F_Md_isSlot 0 [.int p0] [] M (fun r M1 => wp F_Md_word 9 [l0, l1, l2, l3] (r.toList ++ []) M1 Q)) ∧
  (∀ (l0 l1 l2 l3 : Value) (x : Int32) (st : List Value) (M : Mm) (Q : Option Value → Mm → Prop), wp F_Md_word 9 [l0, l1, l2, l3] (.int x :: st) M Q = if x = 0 then wp F_Md_word 12 [l0, l1, l2, l3] st M Q else wp F_Md_word 15 [l0, l1, l2, l3] st M Q) ∧
  (∀ (l0 l1 l2 l3 : Value) (st : List Value) (M : Mm) (Q : Option Value → Mm → Prop), wp F_Md_word 12 [l0, l1, l2, l3] st M Q = wp F_Md_word 14 [l0, l1, l2, l3] (.int (-2) :: st) M Q) ∧
  (∀ (l0 l1 l2 l3 : Value) (v : Int32) (M : Mm) (Q : Option Value → Mm → Prop), wp F_Md_word 14 [l0, l1, l2, l3] [.int v] M Q = Q (some (.int v)) M) := ⟨fun _ _ _ _ _ _ _ => wp_in d_Md_word_0 rfl rfl, fun _ _ _ _ _ _ _ => wp_iconst d_Md_word_1 (by decide), fun _ _ _ _ _ _ _ _ _ => wp_putI d_Md_word_2 fl_12_1 rfl rfl, fun _ _ _ _ _ _ _ => wp_in d_Md_word_5 rfl rfl, fun _ _ _ _ _ _ _ => wp_callS d_Md_word_6 ml_12_126 (Nat.le_of_ble_eq_true rfl) rfl rfl rfl, fun _ _ _ _ _ _ _ _ => wp_if_ne d_Md_word_9 rfl, fun _ _ _ _ _ _ _ => wp_bipush d_Md_word_12 (by decide), fun _ _ _ _ _ _ _ => wp_retI d_Md_word_14 rfl⟩
theorem B_Md_word_15 : (∀ (l1 l2 l3 : Value) (x : Nat) (st : List Value) (M : Mm) (Q : Option Value → Mm → Prop), wp F_Md_word 15 [.ref x, l1, l2, l3] st M Q = wp F_Md_word 16 [.ref x, l1, l2, l3] (.ref x :: st) M Q) ∧
  (∀ (l0 l1 l2 l3 : Value) (b : Nat) (M : Mm) (Q : Option Value → Mm → Prop), wp F_Md_word 16 [l0, l1, l2, l3] [.ref b] M Q = (sh M b = some (.inl 12) ∧ wp F_Md_begin 0 [.ref b] [] M (fun r M1 => wp F_Md_word 19 [l0, l1, l2, l3] (r.toList ++ []) M1 Q))) ∧
  (∀ (l1 l2 l3 : Value) (x : Nat) (st : List Value) (M : Mm) (Q : Option Value → Mm → Prop), wp F_Md_word 19 [.ref x, l1, l2, l3] st M Q = wp F_Md_word 20 [.ref x, l1, l2, l3] (.ref x :: st) M Q) ∧
  (∀ (l1 l2 l3 : Value) (x : Nat) (st : List Value) (M : Mm) (Q : Option Value → Mm → Prop), wp F_Md_word 20 [.ref x, l1, l2, l3] st M Q = wp F_Md_word 21 [.ref x, l1, l2, l3] (.ref x :: st) M Q) ∧
  (∀ (l0 l1 l2 l3 : Value) (a : Nat) (st : List Value) (M : Mm) (Q : Option Value → Mm → Prop), wp F_Md_word 21 [l0, l1, l2, l3] (.ref a :: st) M Q = (sh M a = some (.inl 12) ∧ wp F_Md_word 24 [l0, l1, l2, l3] (va_rf (gR M a 9) :: st) M Q)) ∧
  (∀ (l0 l1 l2 l3 : Value) (st : List Value) (M : Mm) (Q : Option Value → Mm → Prop), wp F_Md_word 24 [l0, l1, l2, l3] st M Q = wp F_Md_word 26 [l0, l1, l2, l3] (.int 80 :: st) M Q) ∧
  (∀ (l1 l2 l3 : Value) (x : Nat) (st : List Value) (M : Mm) (Q : Option Value → Mm → Prop), wp F_Md_word 26 [.ref x, l1, l2, l3] st M Q = wp F_Md_word 27 [.ref x, l1, l2, l3] (.ref x :: st) M Q) ∧
  (∀ (l0 l1 l2 l3 : Value) (a : Nat) (st : List Value) (M : Mm) (Q : Option Value → Mm → Prop), wp F_Md_word 27 [l0, l1, l2, l3] (.ref a :: st) M Q = (sh M a = some (.inl 12) ∧ wp F_Md_word 30 [l0, l1, l2, l3] (va_rf (gR M a 15) :: st) M Q)) ∧
  (∀ (l0 l1 l2 l3 : Value) (st : List Value) (M : Mm) (Q : Option Value → Mm → Prop), wp F_Md_word 30 [l0, l1, l2, l3] st M Q = wp F_Md_word 31 [l0, l1, l2, l3] (.int 0 :: st) M Q) ∧
  (∀ (l0 l1 l2 l3 : Value) (b : Nat) (p0 : Nat) (p1 : Int32) (p2 : Nat) (p3 : Int32) (M : Mm) (Q : Option Value → Mm → Prop), wp F_Md_word 31 [l0, l1, l2, l3] [.int p3, .ref p2, .int p1, .ref p0, .ref b] M Q = (sh M b = some (.inl 12) ∧ wp F_Md_readWord 0 [.ref b, .ref p0, .int p1, .ref p2, .int p3, jk, jk] [] M (fun r M1 => wp F_Md_word 34 [l0, l1, l2, l3] (r.toList ++ []) M1 Q))) ∧
  (∀ (l0 l1 l2 l3 : Value) (x : Int32) (st : List Value) (M : Mm) (Q : Option Value → Mm → Prop), wp F_Md_word 34 [l0, l1, l2, l3] (.int x :: st) M Q = wp F_Md_word 35 [l0, clr l1, .int x, l3] st M Q) ∧
  (∀ (l1 l2 l3 : Value) (x : Nat) (st : List Value) (M : Mm) (Q : Option Value → Mm → Prop), wp F_Md_word 35 [.ref x, l1, l2, l3] st M Q = wp F_Md_word 36 [.ref x, l1, l2, l3] (.ref x :: st) M Q) ∧
  (∀ (l0 l1 l2 l3 : Value) (a : Nat) (st : List Value) (M : Mm) (Q : Option Value → Mm → Prop), wp F_Md_word 36 [l0, l1, l2, l3] (.ref a :: st) M Q = (sh M a = some (.inl 12) ∧ wp F_Md_word 39 [l0, l1, l2, l3] (.int (gI M a 5) :: st) M Q)) ∧
  (∀ (l0 l1 l2 l3 : Value) (x : Int32) (st : List Value) (M : Mm) (Q : Option Value → Mm → Prop), wp F_Md_word 39 [l0, l1, l2, l3] (.int x :: st) M Q = if x = 0 then wp F_Md_word 42 [l0, l1, l2, l3] st M Q else wp F_Md_word 55 [l0, l1, l2, l3] st M Q) ∧
  (∀ (l1 l2 l3 : Value) (x : Nat) (st : List Value) (M : Mm) (Q : Option Value → Mm → Prop), wp F_Md_word 42 [.ref x, l1, l2, l3] st M Q = wp F_Md_word 43 [.ref x, l1, l2, l3] (.ref x :: st) M Q) ∧
  (∀ (l0 l1 l2 l3 : Value) (b : Nat) (M : Mm) (Q : Option Value → Mm → Prop), wp F_Md_word 43 [l0, l1, l2, l3] [.ref b] M Q = (sh M b = some (.inl 12) ∧ wp F_Md_here 0 [.ref b] [] M (fun r M1 => wp F_Md_word 46 [l0, l1, l2, l3] (r.toList ++ []) M1 Q))) ∧
  (∀ (l0 l1 l2 l3 : Value) (st : List Value) (M : Mm) (Q : Option Value → Mm → Prop), wp F_Md_word 46 [l0, l1, l2, l3] st M Q = wp F_Md_word 47 [l0, l1, l2, l3] (.int (-1) :: st) M Q) ∧
  (∀ (l0 l1 l2 l3 : Value) (x y : Int32) (st : List Value) (M : Mm) (Q : Option Value → Mm → Prop), wp F_Md_word 47 [l0, l1, l2, l3] (.int y :: .int x :: st) M Q = if x = y then wp F_Md_word 55 [l0, l1, l2, l3] st M Q else wp F_Md_word 50 [l0, l1, l2, l3] st M Q) ∧
  (∀ (l1 l2 l3 : Value) (x : Nat) (st : List Value) (M : Mm) (Q : Option Value → Mm → Prop), wp F_Md_word 50 [.ref x, l1, l2, l3] st M Q = wp F_Md_word 51 [.ref x, l1, l2, l3] (.ref x :: st) M Q) ∧
  (∀ (l0 l1 l2 l3 : Value) (st : List Value) (M : Mm) (Q : Option Value → Mm → Prop), wp F_Md_word 51 [l0, l1, l2, l3] st M Q = wp F_Md_word 52 [l0, l1, l2, l3] (.int 1 :: st) M Q) ∧
  (∀ (l0 l1 l2 l3 : Value) (b : Nat) (p0 : Int32) (M : Mm) (Q : Option Value → Mm → Prop), wp F_Md_word 52 [l0, l1, l2, l3] [.int p0, .ref b] M Q = (sh M b = some (.inl 12) ∧ wp F_Md_bad 0 [.ref b, .int p0] [] M (fun r M1 => wp F_Md_word 55 [l0, l1, l2, l3] (r.toList ++ []) M1 Q))) := ⟨fun _ _ _ _ _ _ _ => wp_in d_Md_word_15 rfl rfl, fun _ _ _ _ _ _ _ => wp_callV d_Md_word_16 ml_12_68 rfl rfl rfl, fun _ _ _ _ _ _ _ => wp_in d_Md_word_19 rfl rfl, fun _ _ _ _ _ _ _ => wp_in d_Md_word_20 rfl rfl, fun _ _ _ _ _ _ _ _ => wp_getA d_Md_word_21 fl_12_84 rfl, fun _ _ _ _ _ _ _ => wp_bipush d_Md_word_24 (by decide), fun _ _ _ _ _ _ _ => wp_in d_Md_word_26 rfl rfl, fun _ _ _ _ _ _ _ _ => wp_getA d_Md_word_27 fl_12_129 rfl, fun _ _ _ _ _ _ _ => wp_iconst d_Md_word_30 (by decide), fun _ _ _ _ _ _ _ _ _ _ _ => wp_callV d_Md_word_31 ml_12_58 rfl rfl rfl, fun _ _ _ _ _ _ _ _ => wp_in d_Md_word_34 rfl rfl, fun _ _ _ _ _ _ _ => wp_in d_Md_word_35 rfl rfl, fun _ _ _ _ _ _ _ _ => wp_getI d_Md_word_36 fl_12_28 rfl, fun _ _ _ _ _ _ _ _ => wp_if_ne d_Md_word_39 rfl, fun _ _ _ _ _ _ _ => wp_in d_Md_word_42 rfl rfl, fun _ _ _ _ _ _ _ => wp_callV d_Md_word_43 ml_12_40 rfl rfl rfl, fun _ _ _ _ _ _ _ => wp_iconst d_Md_word_46 (by decide), fun _ _ _ _ _ _ _ _ _ => wp_icmp_eq d_Md_word_47 rfl, fun _ _ _ _ _ _ _ => wp_in d_Md_word_50 rfl rfl, fun _ _ _ _ _ _ _ => wp_iconst d_Md_word_51 (by decide), fun _ _ _ _ _ _ _ _ => wp_callV d_Md_word_52 ml_12_48 rfl rfl rfl⟩
theorem B_Md_word_55 : (∀ (l1 l2 l3 : Value) (x : Nat) (st : List Value) (M : Mm) (Q : Option Value → Mm → Prop), wp F_Md_word 55 [.ref x, l1, l2, l3] st M Q = wp F_Md_word 56 [.ref x, l1, l2, l3] (.ref x :: st) M Q) ∧
  (∀ (l0 l1 l2 l3 : Value) (a : Nat) (st : List Value) (M : Mm) (Q : Option Value → Mm → Prop), wp F_Md_word 56 [l0, l1, l2, l3] (.ref a :: st) M Q = (sh M a = some (.inl 12) ∧ wp F_Md_word 59 [l0, l1, l2, l3] (.int (gI M a 5) :: st) M Q)) ∧
  (∀ (l0 l1 l2 l3 : Value) (x : Int32) (st : List Value) (M : Mm) (Q : Option Value → Mm → Prop), wp F_Md_word 59 [l0, l1, l2, l3] (.int x :: st) M Q = if x ≤ 0 then wp F_Md_word 67 [l0, l1, l2, l3] st M Q else wp F_Md_word 62 [l0, l1, l2, l3] st M Q) ∧
  (∀ (l1 l2 l3 : Value) (x : Nat) (st : List Value) (M : Mm) (Q : Option Value → Mm → Prop), wp F_Md_word 62 [.ref x, l1, l2, l3] st M Q = wp F_Md_word 63 [.ref x, l1, l2, l3] (.ref x :: st) M Q) ∧
  (∀ (l0 l1 l2 l3 : Value) (b : Nat) (M : Mm) (Q : Option Value → Mm → Prop), wp F_Md_word 63 [l0, l1, l2, l3] [.ref b] M Q = (sh M b = some (.inl 12) ∧ wp F_Md_faulty 0 [.ref b] [] M (fun r M1 => wp F_Md_word 66 [l0, l1, l2, l3] (r.toList ++ []) M1 Q))) ∧
  (∀ (l0 l1 l2 l3 : Value) (v : Int32) (M : Mm) (Q : Option Value → Mm → Prop), wp F_Md_word 66 [l0, l1, l2, l3] [.int v] M Q = Q (some (.int v)) M) := ⟨fun _ _ _ _ _ _ _ => wp_in d_Md_word_55 rfl rfl, fun _ _ _ _ _ _ _ _ => wp_getI d_Md_word_56 fl_12_28 rfl, fun _ _ _ _ _ _ _ _ => wp_if_le d_Md_word_59 rfl, fun _ _ _ _ _ _ _ => wp_in d_Md_word_62 rfl rfl, fun _ _ _ _ _ _ _ => wp_callV d_Md_word_63 ml_12_78 rfl rfl rfl, fun _ _ _ _ _ _ _ => wp_retI d_Md_word_66 rfl⟩
theorem B_Md_word_67 : (∀ (l0 l1 l2 l3 : Value) (st : List Value) (M : Mm) (Q : Option Value → Mm → Prop), wp F_Md_word 67 [l0, l1, l2, l3] st M Q = wp F_Md_word 68 [l0, l1, l2, l3] (.int 0 :: st) M Q) ∧
  (∀ (l0 l1 l2 l3 : Value) (x : Int32) (st : List Value) (M : Mm) (Q : Option Value → Mm → Prop), wp F_Md_word 68 [l0, l1, l2, l3] (.int x :: st) M Q = wp F_Md_word 69 [l0, l1, clr l2, .int x] st M Q) := ⟨fun _ _ _ _ _ _ _ => wp_iconst d_Md_word_67 (by decide), fun _ _ _ _ _ _ _ _ => wp_in d_Md_word_68 rfl rfl⟩
theorem B_Md_word_69 : (∀ (l0 l1 l2 : Value) (x : Int32) (st : List Value) (M : Mm) (Q : Option Value → Mm → Prop), wp F_Md_word 69 [l0, l1, l2, .int x] st M Q = wp F_Md_word 70 [l0, l1, l2, .int x] (.int x :: st) M Q) ∧
  (∀ (l0 l1 l3 : Value) (x : Int32) (st : List Value) (M : Mm) (Q : Option Value → Mm → Prop), wp F_Md_word 70 [l0, l1, .int x, l3] st M Q = wp F_Md_word 71 [l0, l1, .int x, l3] (.int x :: st) M Q) ∧
  (∀ (l0 l1 l2 l3 : Value) (x y : Int32) (st : List Value) (M : Mm) (Q : Option Value → Mm → Prop), wp F_Md_word 71 [l0, l1, l2, l3] (.int y :: .int x :: st) M Q = if y ≤ x then wp F_Md_word 97 [l0, l1, l2, l3] st M Q else wp F_Md_word 74 [l0, l1, l2, l3] st M Q) ∧
  (∀ (l1 l2 l3 : Value) (x : Nat) (st : List Value) (M : Mm) (Q : Option Value → Mm → Prop), wp F_Md_word 74 [.ref x, l1, l2, l3] st M Q = wp F_Md_word 75 [.ref x, l1, l2, l3] (.ref x :: st) M Q) ∧
  (∀ (l0 l1 l2 l3 : Value) (a : Nat) (st : List Value) (M : Mm) (Q : Option Value → Mm → Prop), wp F_Md_word 75 [l0, l1, l2, l3] (.ref a :: st) M Q = (sh M a = some (.inl 12) ∧ wp F_Md_word 78 [l0, l1, l2, l3] (va_rf (gR M a 42) :: st) M Q)) ∧
  (∀ (l0 l1 l2 l3 : Value) (st : List Value) (M : Mm) (Q : Option Value → Mm → Prop), wp F_Md_word 78 [l0, l1, l2, l3] st M Q = wp F_Md_word 80 [l0, l1, l2, l3] (.int 80 :: st) M Q) ∧
  (∀ (l0 l2 l3 : Value) (x : Int32) (st : List Value) (M : Mm) (Q : Option Value → Mm → Prop), wp F_Md_word 80 [l0, .int x, l2, l3] st M Q = wp F_Md_word 81 [l0, .int x, l2, l3] (.int x :: st) M Q) ∧
  (∀ (l0 l1 l2 l3 : Value) (x y : Int32) (st : List Value) (M : Mm) (Q : Option Value → Mm → Prop), wp F_Md_word 81 [l0, l1, l2, l3] (.int y :: .int x :: st) M Q = wp F_Md_word 82 [l0, l1, l2, l3] (.int (x * y) :: st) M Q) ∧
  (∀ (l0 l1 l2 : Value) (x : Int32) (st : List Value) (M : Mm) (Q : Option Value → Mm → Prop), wp F_Md_word 82 [l0, l1, l2, .int x] st M Q = wp F_Md_word 83 [l0, l1, l2, .int x] (.int x :: st) M Q) ∧
  (∀ (l0 l1 l2 l3 : Value) (x y : Int32) (st : List Value) (M : Mm) (Q : Option Value → Mm → Prop), wp F_Md_word 83 [l0, l1, l2, l3] (.int y :: .int x :: st) M Q = wp F_Md_word 84 [l0, l1, l2, l3] (.int (x + y) :: st) M Q) ∧
  (∀ (l1 l2 l3 : Value) (x : Nat) (st : List Value) (M : Mm) (Q : Option Value → Mm → Prop), wp F_Md_word 84 [.ref x, l1, l2, l3] st M Q = wp F_Md_word 85 [.ref x, l1, l2, l3] (.ref x :: st) M Q) ∧
  (∀ (l0 l1 l2 l3 : Value) (a : Nat) (st : List Value) (M : Mm) (Q : Option Value → Mm → Prop), wp F_Md_word 85 [l0, l1, l2, l3] (.ref a :: st) M Q = (sh M a = some (.inl 12) ∧ wp F_Md_word 88 [l0, l1, l2, l3] (va_rf (gR M a 15) :: st) M Q)) ∧
  (∀ (l0 l1 l2 : Value) (x : Int32) (st : List Value) (M : Mm) (Q : Option Value → Mm → Prop), wp F_Md_word 88 [l0, l1, l2, .int x] st M Q = wp F_Md_word 89 [l0, l1, l2, .int x] (.int x :: st) M Q) ∧
  (∀ (l0 l1 l2 l3 : Value) (a : Nat) (j : Int32) (st : List Value) (M : Mm) (Q : Option Value → Mm → Prop), wp F_Md_word 89 [l0, l1, l2, l3] (.int j :: .ref a :: st) M Q = (ixI M a j ∧ wp F_Md_word 90 [l0, l1, l2, l3] (.int (gI M a (cl j)) :: st) M Q)) ∧
  (∀ (l0 l1 l2 l3 : Value) (a : Nat) (j x : Int32) (st : List Value) (M : Mm) (Q : Option Value → Mm → Prop), wp F_Md_word 90 [l0, l1, l2, l3] (.int x :: .int j :: .ref a :: st) M Q = (ixW M a j ∧ wp F_Md_word 91 [l0, l1, l2, l3] st (sI M a (cl j) x) Q)) ∧
  (∀ (l0 l1 l2 : Value) (x : Int32) (st : List Value) (M : Mm) (Q : Option Value → Mm → Prop), wp F_Md_word 91 [l0, l1, l2, .int x] st M Q = wp F_Md_word 94 [l0, l1, clr l2, .int (x + 1)] st M Q) := ⟨fun _ _ _ _ _ _ _ => wp_in d_Md_word_69 rfl rfl, fun _ _ _ _ _ _ _ => wp_in d_Md_word_70 rfl rfl, fun _ _ _ _ _ _ _ _ _ => wp_icmp_ge d_Md_word_71 rfl, fun _ _ _ _ _ _ _ => wp_in d_Md_word_74 rfl rfl, fun _ _ _ _ _ _ _ _ => wp_getA d_Md_word_75 fl_12_132 rfl, fun _ _ _ _ _ _ _ => wp_bipush d_Md_word_78 (by decide), fun _ _ _ _ _ _ _ => wp_in d_Md_word_80 rfl rfl, fun _ _ _ _ _ _ _ _ _ => wp_in d_Md_word_81 rfl rfl, fun _ _ _ _ _ _ _ => wp_in d_Md_word_82 rfl rfl, fun _ _ _ _ _ _ _ _ _ => wp_in d_Md_word_83 rfl rfl, fun _ _ _ _ _ _ _ => wp_in d_Md_word_84 rfl rfl, fun _ _ _ _ _ _ _ _ => wp_getA d_Md_word_85 fl_12_129 rfl, fun _ _ _ _ _ _ _ => wp_in d_Md_word_88 rfl rfl, fun _ _ _ _ _ _ _ _ _ => wp_iald d_Md_word_89, fun _ _ _ _ _ _ _ _ _ _ => wp_iast d_Md_word_90, fun _ _ _ _ _ _ _ => wp_iinc d_Md_word_91 (by decide) rfl rfl⟩
theorem B_Md_word_97 : (∀ (l1 l2 l3 : Value) (x : Nat) (st : List Value) (M : Mm) (Q : Option Value → Mm → Prop), wp F_Md_word 97 [.ref x, l1, l2, l3] st M Q = wp F_Md_word 98 [.ref x, l1, l2, l3] (.ref x :: st) M Q) ∧
  (∀ (l0 l1 l2 l3 : Value) (a : Nat) (st : List Value) (M : Mm) (Q : Option Value → Mm → Prop), wp F_Md_word 98 [l0, l1, l2, l3] (.ref a :: st) M Q = (sh M a = some (.inl 12) ∧ wp F_Md_word 101 [l0, l1, l2, l3] (va_rf (gR M a 43) :: st) M Q)) ∧
  (∀ (l0 l2 l3 : Value) (x : Int32) (st : List Value) (M : Mm) (Q : Option Value → Mm → Prop), wp F_Md_word 101 [l0, .int x, l2, l3] st M Q = wp F_Md_word 102 [l0, .int x, l2, l3] (.int x :: st) M Q) ∧
  (∀ (l0 l1 l3 : Value) (x : Int32) (st : List Value) (M : Mm) (Q : Option Value → Mm → Prop), wp F_Md_word 102 [l0, l1, .int x, l3] st M Q = wp F_Md_word 103 [l0, l1, .int x, l3] (.int x :: st) M Q) ∧
  (∀ (l0 l1 l2 l3 : Value) (a : Nat) (j x : Int32) (st : List Value) (M : Mm) (Q : Option Value → Mm → Prop), wp F_Md_word 103 [l0, l1, l2, l3] (.int x :: .int j :: .ref a :: st) M Q = (ixW M a j ∧ wp F_Md_word 104 [l0, l1, l2, l3] st (sI M a (cl j) x) Q)) ∧
  (∀ (l0 l1 l3 : Value) (x : Int32) (st : List Value) (M : Mm) (Q : Option Value → Mm → Prop), wp F_Md_word 104 [l0, l1, .int x, l3] st M Q = wp F_Md_word 105 [l0, l1, .int x, l3] (.int x :: st) M Q) ∧
  (∀ (l0 l1 l2 l3 : Value) (v : Int32) (M : Mm) (Q : Option Value → Mm → Prop), wp F_Md_word 105 [l0, l1, l2, l3] [.int v] M Q = Q (some (.int v)) M) := ⟨fun _ _ _ _ _ _ _ => wp_in d_Md_word_97 rfl rfl, fun _ _ _ _ _ _ _ _ => wp_getA d_Md_word_98 fl_12_115 rfl, fun _ _ _ _ _ _ _ => wp_in d_Md_word_101 rfl rfl, fun _ _ _ _ _ _ _ => wp_in d_Md_word_102 rfl rfl, fun _ _ _ _ _ _ _ _ _ _ => wp_iast d_Md_word_103, fun _ _ _ _ _ _ _ => wp_in d_Md_word_104 rfl rfl, fun _ _ _ _ _ _ _ => wp_retI d_Md_word_105 rfl⟩
theorem G_Md_word_94 (l0 l1 l2 l3 : Value) (st : List Value) (M : Mm) (Q : Option Value → Mm → Prop) : wp F_Md_word 94 [l0, l1, l2, l3] st M Q = wp F_Md_word 69 [l0, l1, l2, l3] st M Q := wp_goto d_Md_word_94 rfl
theorem d_Md_init_0 : decode (fnB F_Md_init) 0 = .ok (.aload_n 0, 1) := by decide +kernel
theorem d_Md_init_1 : decode (fnB F_Md_init) 1 = .ok (.invokespecial 135, 3) := by decide +kernel
theorem d_Md_init_4 : decode (fnB F_Md_init) 4 = .ok (.aload_n 0, 1) := by decide +kernel
theorem d_Md_init_5 : decode (fnB F_Md_init) 5 = .ok (.sipush 600, 3) := by decide +kernel
theorem d_Md_init_8 : decode (fnB F_Md_init) 8 = .ok (.newarray .int, 2) := by decide +kernel
theorem d_Md_init_10 : decode (fnB F_Md_init) 10 = .ok (.putfield 16, 3) := by decide +kernel
theorem d_Md_init_13 : decode (fnB F_Md_init) 13 = .ok (.aload_n 0, 1) := by decide +kernel
theorem d_Md_init_14 : decode (fnB F_Md_init) 14 = .ok (.bipush 26, 2) := by decide +kernel
theorem d_Md_init_16 : decode (fnB F_Md_init) 16 = .ok (.newarray .int, 2) := by decide +kernel
theorem d_Md_init_18 : decode (fnB F_Md_init) 18 = .ok (.putfield 37, 3) := by decide +kernel
theorem d_Md_init_21 : decode (fnB F_Md_init) 21 = .ok (.aload_n 0, 1) := by decide +kernel
theorem d_Md_init_22 : decode (fnB F_Md_init) 22 = .ok (.bipush 26, 2) := by decide +kernel
theorem d_Md_init_24 : decode (fnB F_Md_init) 24 = .ok (.newarray .int, 2) := by decide +kernel
theorem d_Md_init_26 : decode (fnB F_Md_init) 26 = .ok (.putfield 84, 3) := by decide +kernel
theorem d_Md_init_29 : decode (fnB F_Md_init) 29 = .ok (.aload_n 0, 1) := by decide +kernel
theorem d_Md_init_30 : decode (fnB F_Md_init) 30 = .ok (.sipush 1920, 3) := by decide +kernel
theorem d_Md_init_33 : decode (fnB F_Md_init) 33 = .ok (.newarray .int, 2) := by decide +kernel
theorem d_Md_init_35 : decode (fnB F_Md_init) 35 = .ok (.putfield 55, 3) := by decide +kernel
theorem d_Md_init_38 : decode (fnB F_Md_init) 38 = .ok (.aload_n 0, 1) := by decide +kernel
theorem d_Md_init_39 : decode (fnB F_Md_init) 39 = .ok (.bipush 80, 2) := by decide +kernel
theorem d_Md_init_41 : decode (fnB F_Md_init) 41 = .ok (.newarray .int, 2) := by decide +kernel
theorem d_Md_init_43 : decode (fnB F_Md_init) 43 = .ok (.putfield 62, 3) := by decide +kernel
theorem d_Md_init_46 : decode (fnB F_Md_init) 46 = .ok (.aload_n 0, 1) := by decide +kernel
theorem d_Md_init_47 : decode (fnB F_Md_init) 47 = .ok (.bipush 80, 2) := by decide +kernel
theorem d_Md_init_49 : decode (fnB F_Md_init) 49 = .ok (.newarray .int, 2) := by decide +kernel
theorem d_Md_init_51 : decode (fnB F_Md_init) 51 = .ok (.putfield 129, 3) := by decide +kernel
theorem d_Md_init_54 : decode (fnB F_Md_init) 54 = .ok (.aload_n 0, 1) := by decide +kernel
theorem d_Md_init_55 : decode (fnB F_Md_init) 55 = .ok (.sipush 12000, 3) := by decide +kernel
theorem d_Md_init_58 : decode (fnB F_Md_init) 58 = .ok (.newarray .int, 2) := by decide +kernel
theorem d_Md_init_60 : decode (fnB F_Md_init) 60 = .ok (.putfield 140, 3) := by decide +kernel
theorem d_Md_init_63 : decode (fnB F_Md_init) 63 = .ok (.aload_n 0, 1) := by decide +kernel
theorem d_Md_init_64 : decode (fnB F_Md_init) 64 = .ok (.sipush 200, 3) := by decide +kernel
theorem d_Md_init_67 : decode (fnB F_Md_init) 67 = .ok (.newarray .int, 2) := by decide +kernel
theorem d_Md_init_69 : decode (fnB F_Md_init) 69 = .ok (.putfield 143, 3) := by decide +kernel
theorem d_Md_init_72 : decode (fnB F_Md_init) 72 = .ok (.aload_n 0, 1) := by decide +kernel
theorem d_Md_init_73 : decode (fnB F_Md_init) 73 = .ok (.sipush 12000, 3) := by decide +kernel
theorem d_Md_init_76 : decode (fnB F_Md_init) 76 = .ok (.newarray .int, 2) := by decide +kernel
theorem d_Md_init_78 : decode (fnB F_Md_init) 78 = .ok (.putfield 146, 3) := by decide +kernel
theorem d_Md_init_81 : decode (fnB F_Md_init) 81 = .ok (.aload_n 0, 1) := by decide +kernel
theorem d_Md_init_82 : decode (fnB F_Md_init) 82 = .ok (.sipush 200, 3) := by decide +kernel
theorem d_Md_init_85 : decode (fnB F_Md_init) 85 = .ok (.newarray .int, 2) := by decide +kernel
theorem d_Md_init_87 : decode (fnB F_Md_init) 87 = .ok (.putfield 149, 3) := by decide +kernel
theorem d_Md_init_90 : decode (fnB F_Md_init) 90 = .ok (.aload_n 0, 1) := by decide +kernel
theorem d_Md_init_91 : decode (fnB F_Md_init) 91 = .ok (.sipush 200, 3) := by decide +kernel
theorem d_Md_init_94 : decode (fnB F_Md_init) 94 = .ok (.newarray .boolean, 2) := by decide +kernel
theorem d_Md_init_96 : decode (fnB F_Md_init) 96 = .ok (.putfield 152, 3) := by decide +kernel
theorem d_Md_init_99 : decode (fnB F_Md_init) 99 = .ok (.aload_n 0, 1) := by decide +kernel
theorem d_Md_init_100 : decode (fnB F_Md_init) 100 = .ok (.ldc 156, 2) := by decide +kernel
theorem d_Md_init_102 : decode (fnB F_Md_init) 102 = .ok (.newarray .int, 2) := by decide +kernel
theorem d_Md_init_104 : decode (fnB F_Md_init) 104 = .ok (.putfield 121, 3) := by decide +kernel
theorem d_Md_init_107 : decode (fnB F_Md_init) 107 = .ok (.aload_n 0, 1) := by decide +kernel
theorem d_Md_init_108 : decode (fnB F_Md_init) 108 = .ok (.sipush 2000, 3) := by decide +kernel
theorem d_Md_init_111 : decode (fnB F_Md_init) 111 = .ok (.newarray .int, 2) := by decide +kernel
theorem d_Md_init_113 : decode (fnB F_Md_init) 113 = .ok (.putfield 118, 3) := by decide +kernel
theorem d_Md_init_116 : decode (fnB F_Md_init) 116 = .ok (.aload_n 0, 1) := by decide +kernel
theorem d_Md_init_117 : decode (fnB F_Md_init) 117 = .ok (.sipush 130, 3) := by decide +kernel
theorem d_Md_init_120 : decode (fnB F_Md_init) 120 = .ok (.newarray .int, 2) := by decide +kernel
theorem d_Md_init_122 : decode (fnB F_Md_init) 122 = .ok (.putfield 157, 3) := by decide +kernel
theorem d_Md_init_125 : decode (fnB F_Md_init) 125 = .ok (.aload_n 0, 1) := by decide +kernel
theorem d_Md_init_126 : decode (fnB F_Md_init) 126 = .ok (.sipush 130, 3) := by decide +kernel
theorem d_Md_init_129 : decode (fnB F_Md_init) 129 = .ok (.newarray .int, 2) := by decide +kernel
theorem d_Md_init_131 : decode (fnB F_Md_init) 131 = .ok (.putfield 160, 3) := by decide +kernel
theorem d_Md_init_134 : decode (fnB F_Md_init) 134 = .ok (.aload_n 0, 1) := by decide +kernel
theorem d_Md_init_135 : decode (fnB F_Md_init) 135 = .ok (.sipush 300, 3) := by decide +kernel
theorem d_Md_init_138 : decode (fnB F_Md_init) 138 = .ok (.newarray .int, 2) := by decide +kernel
theorem d_Md_init_140 : decode (fnB F_Md_init) 140 = .ok (.putfield 163, 3) := by decide +kernel
theorem d_Md_init_143 : decode (fnB F_Md_init) 143 = .ok (.aload_n 0, 1) := by decide +kernel
theorem d_Md_init_144 : decode (fnB F_Md_init) 144 = .ok (.sipush 300, 3) := by decide +kernel
theorem d_Md_init_147 : decode (fnB F_Md_init) 147 = .ok (.newarray .int, 2) := by decide +kernel
theorem d_Md_init_149 : decode (fnB F_Md_init) 149 = .ok (.putfield 166, 3) := by decide +kernel
theorem d_Md_init_152 : decode (fnB F_Md_init) 152 = .ok (.aload_n 0, 1) := by decide +kernel
theorem d_Md_init_153 : decode (fnB F_Md_init) 153 = .ok (.sipush 300, 3) := by decide +kernel
theorem d_Md_init_156 : decode (fnB F_Md_init) 156 = .ok (.newarray .int, 2) := by decide +kernel
theorem d_Md_init_158 : decode (fnB F_Md_init) 158 = .ok (.putfield 169, 3) := by decide +kernel
theorem d_Md_init_161 : decode (fnB F_Md_init) 161 = .ok (.aload_n 0, 1) := by decide +kernel
theorem d_Md_init_162 : decode (fnB F_Md_init) 162 = .ok (.sipush 300, 3) := by decide +kernel
theorem d_Md_init_165 : decode (fnB F_Md_init) 165 = .ok (.newarray .int, 2) := by decide +kernel
theorem d_Md_init_167 : decode (fnB F_Md_init) 167 = .ok (.putfield 172, 3) := by decide +kernel
theorem d_Md_init_170 : decode (fnB F_Md_init) 170 = .ok (.aload_n 0, 1) := by decide +kernel
theorem d_Md_init_171 : decode (fnB F_Md_init) 171 = .ok (.iconst (-1), 1) := by decide +kernel
theorem d_Md_init_172 : decode (fnB F_Md_init) 172 = .ok (.putfield 112, 3) := by decide +kernel
theorem d_Md_init_175 : decode (fnB F_Md_init) 175 = .ok (.aload_n 0, 1) := by decide +kernel
theorem d_Md_init_176 : decode (fnB F_Md_init) 176 = .ok (.sipush 640, 3) := by decide +kernel
theorem d_Md_init_179 : decode (fnB F_Md_init) 179 = .ok (.newarray .int, 2) := by decide +kernel
theorem d_Md_init_181 : decode (fnB F_Md_init) 181 = .ok (.putfield 132, 3) := by decide +kernel
theorem d_Md_init_184 : decode (fnB F_Md_init) 184 = .ok (.aload_n 0, 1) := by decide +kernel
theorem d_Md_init_185 : decode (fnB F_Md_init) 185 = .ok (.bipush 8, 2) := by decide +kernel
theorem d_Md_init_187 : decode (fnB F_Md_init) 187 = .ok (.newarray .int, 2) := by decide +kernel
theorem d_Md_init_189 : decode (fnB F_Md_init) 189 = .ok (.putfield 115, 3) := by decide +kernel
theorem d_Md_init_192 : decode (fnB F_Md_init) 192 = .ok (.aload_n 0, 1) := by decide +kernel
theorem d_Md_init_193 : decode (fnB F_Md_init) 193 = .ok (.ldc 175, 2) := by decide +kernel
theorem d_Md_init_195 : decode (fnB F_Md_init) 195 = .ok (.newarray .int, 2) := by decide +kernel
theorem d_Md_init_197 : decode (fnB F_Md_init) 197 = .ok (.putfield 176, 3) := by decide +kernel
theorem d_Md_init_200 : decode (fnB F_Md_init) 200 = .ok (.aload_n 0, 1) := by decide +kernel
theorem d_Md_init_201 : decode (fnB F_Md_init) 201 = .ok (.sipush 12001, 3) := by decide +kernel
theorem d_Md_init_204 : decode (fnB F_Md_init) 204 = .ok (.newarray .int, 2) := by decide +kernel
theorem d_Md_init_206 : decode (fnB F_Md_init) 206 = .ok (.putfield 179, 3) := by decide +kernel
theorem d_Md_init_209 : decode (fnB F_Md_init) 209 = .ok (.aload_n 0, 1) := by decide +kernel
theorem d_Md_init_210 : decode (fnB F_Md_init) 210 = .ok (.sipush 12001, 3) := by decide +kernel
theorem d_Md_init_213 : decode (fnB F_Md_init) 213 = .ok (.newarray .int, 2) := by decide +kernel
theorem d_Md_init_215 : decode (fnB F_Md_init) 215 = .ok (.putfield 182, 3) := by decide +kernel
theorem d_Md_init_218 : decode (fnB F_Md_init) 218 = .ok (.aload_n 0, 1) := by decide +kernel
theorem d_Md_init_219 : decode (fnB F_Md_init) 219 = .ok (.sipush 12001, 3) := by decide +kernel
theorem d_Md_init_222 : decode (fnB F_Md_init) 222 = .ok (.newarray .boolean, 2) := by decide +kernel
theorem d_Md_init_224 : decode (fnB F_Md_init) 224 = .ok (.putfield 185, 3) := by decide +kernel
theorem d_Md_init_227 : decode (fnB F_Md_init) 227 = .ok (.aload_n 0, 1) := by decide +kernel
theorem d_Md_init_228 : decode (fnB F_Md_init) 228 = .ok (.sipush 12001, 3) := by decide +kernel
theorem d_Md_init_231 : decode (fnB F_Md_init) 231 = .ok (.newarray .int, 2) := by decide +kernel
theorem d_Md_init_233 : decode (fnB F_Md_init) 233 = .ok (.putfield 188, 3) := by decide +kernel
theorem d_Md_init_236 : decode (fnB F_Md_init) 236 = .ok (.aload_n 0, 1) := by decide +kernel
theorem d_Md_init_237 : decode (fnB F_Md_init) 237 = .ok (.ldc 191, 2) := by decide +kernel
theorem d_Md_init_239 : decode (fnB F_Md_init) 239 = .ok (.newarray .long, 2) := by decide +kernel
theorem d_Md_init_241 : decode (fnB F_Md_init) 241 = .ok (.putfield 192, 3) := by decide +kernel
theorem d_Md_init_244 : decode (fnB F_Md_init) 244 = .ok (.aload_n 0, 1) := by decide +kernel
theorem d_Md_init_245 : decode (fnB F_Md_init) 245 = .ok (.sipush 12001, 3) := by decide +kernel
theorem d_Md_init_248 : decode (fnB F_Md_init) 248 = .ok (.newarray .long, 2) := by decide +kernel
theorem d_Md_init_250 : decode (fnB F_Md_init) 250 = .ok (.putfield 196, 3) := by decide +kernel
theorem d_Md_init_253 : decode (fnB F_Md_init) 253 = .ok (.aload_n 0, 1) := by decide +kernel
theorem d_Md_init_254 : decode (fnB F_Md_init) 254 = .ok (.sipush 201, 3) := by decide +kernel
theorem d_Md_init_257 : decode (fnB F_Md_init) 257 = .ok (.newarray .int, 2) := by decide +kernel
theorem d_Md_init_259 : decode (fnB F_Md_init) 259 = .ok (.putfield 199, 3) := by decide +kernel
theorem d_Md_init_262 : decode (fnB F_Md_init) 262 = .ok (.iconst 0, 1) := by decide +kernel
theorem d_Md_init_263 : decode (fnB F_Md_init) 263 = .ok (.istore_n 1, 1) := by decide +kernel
theorem d_Md_init_264 : decode (fnB F_Md_init) 264 = .ok (.iload_n 1, 1) := by decide +kernel
theorem d_Md_init_265 : decode (fnB F_Md_init) 265 = .ok (.bipush 26, 2) := by decide +kernel
theorem d_Md_init_267 : decode (fnB F_Md_init) 267 = .ok (.if_icmp .ge 16, 3) := by decide +kernel
theorem d_Md_init_270 : decode (fnB F_Md_init) 270 = .ok (.aload_n 0, 1) := by decide +kernel
theorem d_Md_init_271 : decode (fnB F_Md_init) 271 = .ok (.getfield 84, 3) := by decide +kernel
theorem d_Md_init_274 : decode (fnB F_Md_init) 274 = .ok (.iload_n 1, 1) := by decide +kernel
theorem d_Md_init_275 : decode (fnB F_Md_init) 275 = .ok (.iconst (-1), 1) := by decide +kernel
theorem d_Md_init_276 : decode (fnB F_Md_init) 276 = .ok (.iastore, 1) := by decide +kernel
theorem d_Md_init_277 : decode (fnB F_Md_init) 277 = .ok (.iinc 1 1, 3) := by decide +kernel
theorem d_Md_init_280 : decode (fnB F_Md_init) 280 = .ok (.goto (-16), 3) := by decide +kernel
theorem d_Md_init_283 : decode (fnB F_Md_init) 283 = .ok (.return_, 1) := by decide +kernel
theorem B_Md_init_0 : (∀ (l1 : Value) (x : Nat) (st : List Value) (M : Mm) (Q : Option Value → Mm → Prop), wp F_Md_init 0 [.ref x, l1] st M Q = wp F_Md_init 1 [.ref x, l1] (.ref x :: st) M Q) ∧
  (∀ (l0 l1 : Value) (a : Nat) (M : Mm) (Q : Option Value → Mm → Prop), wp F_Md_init 1 [l0, l1] [.ref a] M Q = wp F_Md_init 4 [l0, l1] [] M Q) ∧
  (∀ (l1 : Value) (x : Nat) (st : List Value) (M : Mm) (Q : Option Value → Mm → Prop), wp F_Md_init 4 [.ref x, l1] st M Q = wp F_Md_init 5 [.ref x, l1] (.ref x :: st) M Q) ∧
  (∀ (l0 l1 : Value) (st : List Value) (M : Mm) (Q : Option Value → Mm → Prop), wp F_Md_init 5 [l0, l1] st M Q = wp F_Md_init 8 [l0, l1] (.int 600 :: st) M Q) ∧
  (∀ (l0 l1 : Value) (n : Int32) (st : List Value) (M : Mm) (Q : Option Value → Mm → Prop), wp F_Md_init 8 [l0, l1] (.int n :: st) M Q = ((¬ n < 0 ∧ cl n ≤ 16777216) ∧ wp F_Md_init 10 [l0, l1] (.ref (nxt M) :: st) (nw M (.inr (0, cl n)) (cl n)) Q)) ∧
  (∀ (l0 l1 : Value) (a x : Nat) (st : List Value) (M : Mm) (Q : Option Value → Mm → Prop), wp F_Md_init 10 [l0, l1] (.ref x :: .ref a :: st) M Q = (sh M a = some (.inl 12) ∧ wp F_Md_init 13 [l0, l1] st (sR M a 1 (some x)) Q)) ∧
  (∀ (l1 : Value) (x : Nat) (st : List Value) (M : Mm) (Q : Option Value → Mm → Prop), wp F_Md_init 13 [.ref x, l1] st M Q = wp F_Md_init 14 [.ref x, l1] (.ref x :: st) M Q) ∧
  (∀ (l0 l1 : Value) (st : List Value) (M : Mm) (Q : Option Value → Mm → Prop), wp F_Md_init 14 [l0, l1] st M Q = wp F_Md_init 16 [l0, l1] (.int 26 :: st) M Q) ∧
  (∀ (l0 l1 : Value) (n : Int32) (st : List Value) (M : Mm) (Q : Option Value → Mm → Prop), wp F_Md_init 16 [l0, l1] (.int n :: st) M Q = ((¬ n < 0 ∧ cl n ≤ 16777216) ∧ wp F_Md_init 18 [l0, l1] (.ref (nxt M) :: st) (nw M (.inr (0, cl n)) (cl n)) Q)) ∧
  (∀ (l0 l1 : Value) (a x : Nat) (st : List Value) (M : Mm) (Q : Option Value → Mm → Prop), wp F_Md_init 18 [l0, l1] (.ref x :: .ref a :: st) M Q = (sh M a = some (.inl 12) ∧ wp F_Md_init 21 [l0, l1] st (sR M a 8 (some x)) Q)) ∧
  (∀ (l1 : Value) (x : Nat) (st : List Value) (M : Mm) (Q : Option Value → Mm → Prop), wp F_Md_init 21 [.ref x, l1] st M Q = wp F_Md_init 22 [.ref x, l1] (.ref x :: st) M Q) ∧
  (∀ (l0 l1 : Value) (st : List Value) (M : Mm) (Q : Option Value → Mm → Prop), wp F_Md_init 22 [l0, l1] st M Q = wp F_Md_init 24 [l0, l1] (.int 26 :: st) M Q) ∧
  (∀ (l0 l1 : Value) (n : Int32) (st : List Value) (M : Mm) (Q : Option Value → Mm → Prop), wp F_Md_init 24 [l0, l1] (.int n :: st) M Q = ((¬ n < 0 ∧ cl n ≤ 16777216) ∧ wp F_Md_init 26 [l0, l1] (.ref (nxt M) :: st) (nw M (.inr (0, cl n)) (cl n)) Q)) ∧
  (∀ (l0 l1 : Value) (a x : Nat) (st : List Value) (M : Mm) (Q : Option Value → Mm → Prop), wp F_Md_init 26 [l0, l1] (.ref x :: .ref a :: st) M Q = (sh M a = some (.inl 12) ∧ wp F_Md_init 29 [l0, l1] st (sR M a 9 (some x)) Q)) ∧
  (∀ (l1 : Value) (x : Nat) (st : List Value) (M : Mm) (Q : Option Value → Mm → Prop), wp F_Md_init 29 [.ref x, l1] st M Q = wp F_Md_init 30 [.ref x, l1] (.ref x :: st) M Q) ∧
  (∀ (l0 l1 : Value) (st : List Value) (M : Mm) (Q : Option Value → Mm → Prop), wp F_Md_init 30 [l0, l1] st M Q = wp F_Md_init 33 [l0, l1] (.int 1920 :: st) M Q) ∧
  (∀ (l0 l1 : Value) (n : Int32) (st : List Value) (M : Mm) (Q : Option Value → Mm → Prop), wp F_Md_init 33 [l0, l1] (.int n :: st) M Q = ((¬ n < 0 ∧ cl n ≤ 16777216) ∧ wp F_Md_init 35 [l0, l1] (.ref (nxt M) :: st) (nw M (.inr (0, cl n)) (cl n)) Q)) ∧
  (∀ (l0 l1 : Value) (a x : Nat) (st : List Value) (M : Mm) (Q : Option Value → Mm → Prop), wp F_Md_init 35 [l0, l1] (.ref x :: .ref a :: st) M Q = (sh M a = some (.inl 12) ∧ wp F_Md_init 38 [l0, l1] st (sR M a 12 (some x)) Q)) ∧
  (∀ (l1 : Value) (x : Nat) (st : List Value) (M : Mm) (Q : Option Value → Mm → Prop), wp F_Md_init 38 [.ref x, l1] st M Q = wp F_Md_init 39 [.ref x, l1] (.ref x :: st) M Q) ∧
  (∀ (l0 l1 : Value) (st : List Value) (M : Mm) (Q : Option Value → Mm → Prop), wp F_Md_init 39 [l0, l1] st M Q = wp F_Md_init 41 [l0, l1] (.int 80 :: st) M Q) ∧
  (∀ (l0 l1 : Value) (n : Int32) (st : List Value) (M : Mm) (Q : Option Value → Mm → Prop), wp F_Md_init 41 [l0, l1] (.int n :: st) M Q = ((¬ n < 0 ∧ cl n ≤ 16777216) ∧ wp F_Md_init 43 [l0, l1] (.ref (nxt M) :: st) (nw M (.inr (0, cl n)) (cl n)) Q)) ∧
  (∀ (l0 l1 : Value) (a x : Nat) (st : List Value) (M : Mm) (Q : Option Value → Mm → Prop), wp F_Md_init 43 [l0, l1] (.ref x :: .ref a :: st) M Q = (sh M a = some (.inl 12) ∧ wp F_Md_init 46 [l0, l1] st (sR M a 13 (some x)) Q)) ∧
  (∀ (l1 : Value) (x : Nat) (st : List Value) (M : Mm) (Q : Option Value → Mm → Prop), wp F_Md_init 46 [.ref x, l1] st M Q = wp F_Md_init 47 [.ref x, l1] (.ref x :: st) M Q) ∧
  (∀ (l0 l1 : Value) (st : List Value) (M : Mm) (Q : Option Value → Mm → Prop), wp F_Md_init 47 [l0, l1] st M Q = wp F_Md_init 49 [l0, l1] (.int 80 :: st) M Q) ∧
  (∀ (l0 l1 : Value) (n : Int32) (st : List Value) (M : Mm) (Q : Option Value → Mm → Prop), wp F_Md_init 49 [l0, l1] (.int n :: st) M Q = ((¬ n < 0 ∧ cl n ≤ 16777216) ∧ wp F_Md_init 51 [l0, l1] (.ref (nxt M) :: st) (nw M (.inr (0, cl n)) (cl n)) Q)) ∧
  (∀ (l0 l1 : Value) (a x : Nat) (st : List Value) (M : Mm) (Q : Option Value → Mm → Prop), wp F_Md_init 51 [l0, l1] (.ref x :: .ref a :: st) M Q = (sh M a = some (.inl 12) ∧ wp F_Md_init 54 [l0, l1] st (sR M a 15 (some x)) Q)) ∧
  (∀ (l1 : Value) (x : Nat) (st : List Value) (M : Mm) (Q : Option Value → Mm → Prop), wp F_Md_init 54 [.ref x, l1] st M Q = wp F_Md_init 55 [.ref x, l1] (.ref x :: st) M Q) ∧
  (∀ (l0 l1 : Value) (st : List Value) (M : Mm) (Q : Option Value → Mm → Prop), wp F_Md_init 55 [l0, l1] st M Q = wp F_Md_init 58 [l0, l1] (.int 12000 :: st) M Q) ∧
  (∀ (l0 l1 : Value) (n : Int32) (st : List Value) (M : Mm) (Q : Option Value → Mm → Prop), wp F_Md_init 58 [l0, l1] (.int n :: st) M Q = ((¬ n < 0 ∧ cl n ≤ 16777216) ∧ wp F_Md_init 60 [l0, l1] (.ref (nxt M) :: st) (nw M (.inr (0, cl n)) (cl n)) Q)) ∧
  (∀ (l0 l1 : Value) (a x : Nat) (st : List Value) (M : Mm) (Q : Option Value → Mm → Prop), wp F_Md_init 60 [l0, l1] (.ref x :: .ref a :: st) M Q = (sh M a = some (.inl 12) ∧ wp F_Md_init 63 [l0, l1] st (sR M a 16 (some x)) Q)) ∧
  (∀ (l1 : Value) (x : Nat) (st : List Value) (M : Mm) (Q : Option Value → Mm → Prop), wp F_Md_init 63 [.ref x, l1] st M Q = wp F_Md_init 64 [.ref x, l1] (.ref x :: st) M Q) ∧
  (∀ (l0 l1 : Value) (st : List Value) (M : Mm) (Q : Option Value → Mm → Prop), wp F_Md_init 64 [l0, l1] st M Q = wp F_Md_init 67 [l0, l1] (.int 200 :: st) M Q) ∧
  (∀ (l0 l1 : Value) (n : Int32) (st : List Value) (M : Mm) (Q : Option Value → Mm → Prop), wp F_Md_init 67 [l0, l1] (.int n :: st) M Q = ((¬ n < 0 ∧ cl n ≤ 16777216) ∧ wp F_Md_init 69 [l0, l1] (.ref (nxt M) :: st) (nw M (.inr (0, cl n)) (cl n)) Q)) ∧
  (∀ (l0 l1 : Value) (a x : Nat) (st : List Value) (M : Mm) (Q : Option Value → Mm → Prop), wp F_Md_init 69 [l0, l1] (.ref x :: .ref a :: st) M Q = (sh M a = some (.inl 12) ∧ wp F_Md_init 72 [l0, l1] st (sR M a 17 (some x)) Q)) ∧
  (∀ (l1 : Value) (x : Nat) (st : List Value) (M : Mm) (Q : Option Value → Mm → Prop), wp F_Md_init 72 [.ref x, l1] st M Q = wp F_Md_init 73 [.ref x, l1] (.ref x :: st) M Q) ∧
  (∀ (l0 l1 : Value) (st : List Value) (M : Mm) (Q : Option Value → Mm → Prop), wp F_Md_init 73 [l0, l1] st M Q = wp F_Md_init 76 [l0, l1] (.int 12000 :: st) M Q) ∧
  (∀ (l0 l1 : Value) (n : Int32) (st : List Value) (M : Mm) (Q : Option Value → Mm → Prop), wp F_Md_init 76 [l0, l1] (.int n :: st) M Q = ((¬ n < 0 ∧ cl n ≤ 16777216) ∧ wp F_Md_init 78 [l0, l1] (.ref (nxt M) :: st) (nw M (.inr (0, cl n)) (cl n)) Q)) ∧
  (∀ (l0 l1 : Value) (a x : Nat) (st : List Value) (M : Mm) (Q : Option Value → Mm → Prop), wp F_Md_init 78 [l0, l1] (.ref x :: .ref a :: st) M Q = (sh M a = some (.inl 12) ∧ wp F_Md_init 81 [l0, l1] st (sR M a 18 (some x)) Q)) ∧
  (∀ (l1 : Value) (x : Nat) (st : List Value) (M : Mm) (Q : Option Value → Mm → Prop), wp F_Md_init 81 [.ref x, l1] st M Q = wp F_Md_init 82 [.ref x, l1] (.ref x :: st) M Q) ∧
  (∀ (l0 l1 : Value) (st : List Value) (M : Mm) (Q : Option Value → Mm → Prop), wp F_Md_init 82 [l0, l1] st M Q = wp F_Md_init 85 [l0, l1] (.int 200 :: st) M Q) := ⟨fun _ _ _ _ _ => wp_in d_Md_init_0 rfl rfl, fun _ _ _ _ _ => wp_obj d_Md_init_1 ml_12_135 (Nat.le_of_ble_eq_true rfl), fun _ _ _ _ _ => wp_in d_Md_init_4 rfl rfl, fun _ _ _ _ _ => wp_sipush d_Md_init_5 (by decide), fun _ _ _ _ _ _ => wp_new_int d_Md_init_8, fun _ _ _ _ _ _ _ => wp_putRA d_Md_init_10 fl_12_16 rfl rfl, fun _ _ _ _ _ => wp_in d_Md_init_13 rfl rfl, fun _ _ _ _ _ => wp_bipush d_Md_init_14 (by decide), fun _ _ _ _ _ _ => wp_new_int d_Md_init_16, fun _ _ _ _ _ _ _ => wp_putRA d_Md_init_18 fl_12_37 rfl rfl, fun _ _ _ _ _ => wp_in d_Md_init_21 rfl rfl, fun _ _ _ _ _ => wp_bipush d_Md_init_22 (by decide), fun _ _ _ _ _ _ => wp_new_int d_Md_init_24, fun _ _ _ _ _ _ _ => wp_putRA d_Md_init_26 fl_12_84 rfl rfl, fun _ _ _ _ _ => wp_in d_Md_init_29 rfl rfl, fun _ _ _ _ _ => wp_sipush d_Md_init_30 (by decide), fun _ _ _ _ _ _ => wp_new_int d_Md_init_33, fun _ _ _ _ _ _ _ => wp_putRA d_Md_init_35 fl_12_55 rfl rfl, fun _ _ _ _ _ => wp_in d_Md_init_38 rfl rfl, fun _ _ _ _ _ => wp_bipush d_Md_init_39 (by decide), fun _ _ _ _ _ _ => wp_new_int d_Md_init_41, fun _ _ _ _ _ _ _ => wp_putRA d_Md_init_43 fl_12_62 rfl rfl, fun _ _ _ _ _ => wp_in d_Md_init_46 rfl rfl, fun _ _ _ _ _ => wp_bipush d_Md_init_47 (by decide), fun _ _ _ _ _ _ => wp_new_int d_Md_init_49, fun _ _ _ _ _ _ _ => wp_putRA d_Md_init_51 fl_12_129 rfl rfl, fun _ _ _ _ _ => wp_in d_Md_init_54 rfl rfl, fun _ _ _ _ _ => wp_sipush d_Md_init_55 (by decide), fun _ _ _ _ _ _ => wp_new_int d_Md_init_58, fun _ _ _ _ _ _ _ => wp_putRA d_Md_init_60 fl_12_140 rfl rfl, fun _ _ _ _ _ => wp_in d_Md_init_63 rfl rfl, fun _ _ _ _ _ => wp_sipush d_Md_init_64 (by decide), fun _ _ _ _ _ _ => wp_new_int d_Md_init_67, fun _ _ _ _ _ _ _ => wp_putRA d_Md_init_69 fl_12_143 rfl rfl, fun _ _ _ _ _ => wp_in d_Md_init_72 rfl rfl, fun _ _ _ _ _ => wp_sipush d_Md_init_73 (by decide), fun _ _ _ _ _ _ => wp_new_int d_Md_init_76, fun _ _ _ _ _ _ _ => wp_putRA d_Md_init_78 fl_12_146 rfl rfl, fun _ _ _ _ _ => wp_in d_Md_init_81 rfl rfl, fun _ _ _ _ _ => wp_sipush d_Md_init_82 (by decide)⟩
theorem B_Md_init_0_1 : (∀ (l0 l1 : Value) (n : Int32) (st : List Value) (M : Mm) (Q : Option Value → Mm → Prop), wp F_Md_init 85 [l0, l1] (.int n :: st) M Q = ((¬ n < 0 ∧ cl n ≤ 16777216) ∧ wp F_Md_init 87 [l0, l1] (.ref (nxt M) :: st) (nw M (.inr (0, cl n)) (cl n)) Q)) ∧
  (∀ (l0 l1 : Value) (a x : Nat) (st : List Value) (M : Mm) (Q : Option Value → Mm → Prop), wp F_Md_init 87 [l0, l1] (.ref x :: .ref a :: st) M Q = (sh M a = some (.inl 12) ∧ wp F_Md_init 90 [l0, l1] st (sR M a 19 (some x)) Q)) ∧
  (∀ (l1 : Value) (x : Nat) (st : List Value) (M : Mm) (Q : Option Value → Mm → Prop), wp F_Md_init 90 [.ref x, l1] st M Q = wp F_Md_init 91 [.ref x, l1] (.ref x :: st) M Q) ∧
  (∀ (l0 l1 : Value) (st : List Value) (M : Mm) (Q : Option Value → Mm → Prop), wp F_Md_init 91 [l0, l1] st M Q = wp F_Md_init 94 [l0, l1] (.int 200 :: st) M Q) ∧
  (∀ (l0 l1 : Value) (n : Int32) (st : List Value) (M : Mm) (Q : Option Value → Mm → Prop), wp F_Md_init 94 [l0, l1] (.int n :: st) M Q = ((¬ n < 0 ∧ cl n ≤ 16777216) ∧ wp F_Md_init 96 [l0, l1] (.ref (nxt M) :: st) (nw M (.inr (3, cl n)) (cl n)) Q)) ∧
  (∀ (l0 l1 : Value) (a x : Nat) (st : List Value) (M : Mm) (Q : Option Value → Mm → Prop), wp F_Md_init 96 [l0, l1] (.ref x :: .ref a :: st) M Q = (sh M a = some (.inl 12) ∧ wp F_Md_init 99 [l0, l1] st (sR M a 20 (some x)) Q)) ∧
  (∀ (l1 : Value) (x : Nat) (st : List Value) (M : Mm) (Q : Option Value → Mm → Prop), wp F_Md_init 99 [.ref x, l1] st M Q = wp F_Md_init 100 [.ref x, l1] (.ref x :: st) M Q) ∧
  (∀ (l0 l1 : Value) (st : List Value) (M : Mm) (Q : Option Value → Mm → Prop), wp F_Md_init 100 [l0, l1] st M Q = wp F_Md_init 102 [l0, l1] (.int 240000 :: st) M Q) ∧
  (∀ (l0 l1 : Value) (n : Int32) (st : List Value) (M : Mm) (Q : Option Value → Mm → Prop), wp F_Md_init 102 [l0, l1] (.int n :: st) M Q = ((¬ n < 0 ∧ cl n ≤ 16777216) ∧ wp F_Md_init 104 [l0, l1] (.ref (nxt M) :: st) (nw M (.inr (0, cl n)) (cl n)) Q)) ∧
  (∀ (l0 l1 : Value) (a x : Nat) (st : List Value) (M : Mm) (Q : Option Value → Mm → Prop), wp F_Md_init 104 [l0, l1] (.ref x :: .ref a :: st) M Q = (sh M a = some (.inl 12) ∧ wp F_Md_init 107 [l0, l1] st (sR M a 22 (some x)) Q)) ∧
  (∀ (l1 : Value) (x : Nat) (st : List Value) (M : Mm) (Q : Option Value → Mm → Prop), wp F_Md_init 107 [.ref x, l1] st M Q = wp F_Md_init 108 [.ref x, l1] (.ref x :: st) M Q) ∧
  (∀ (l0 l1 : Value) (st : List Value) (M : Mm) (Q : Option Value → Mm → Prop), wp F_Md_init 108 [l0, l1] st M Q = wp F_Md_init 111 [l0, l1] (.int 2000 :: st) M Q) ∧
  (∀ (l0 l1 : Value) (n : Int32) (st : List Value) (M : Mm) (Q : Option Value → Mm → Prop), wp F_Md_init 111 [l0, l1] (.int n :: st) M Q = ((¬ n < 0 ∧ cl n ≤ 16777216) ∧ wp F_Md_init 113 [l0, l1] (.ref (nxt M) :: st) (nw M (.inr (0, cl n)) (cl n)) Q)) ∧
  (∀ (l0 l1 : Value) (a x : Nat) (st : List Value) (M : Mm) (Q : Option Value → Mm → Prop), wp F_Md_init 113 [l0, l1] (.ref x :: .ref a :: st) M Q = (sh M a = some (.inl 12) ∧ wp F_Md_init 116 [l0, l1] st (sR M a 23 (some x)) Q)) ∧
  (∀ (l1 : Value) (x : Nat) (st : List Value) (M : Mm) (Q : Option Value → Mm → Prop), wp F_Md_init 116 [.ref x, l1] st M Q = wp F_Md_init 117 [.ref x, l1] (.ref x :: st) M Q) ∧
  (∀ (l0 l1 : Value) (st : List Value) (M : Mm) (Q : Option Value → Mm → Prop), wp F_Md_init 117 [l0, l1] st M Q = wp F_Md_init 120 [l0, l1] (.int 130 :: st) M Q) ∧
  (∀ (l0 l1 : Value) (n : Int32) (st : List Value) (M : Mm) (Q : Option Value → Mm → Prop), wp F_Md_init 120 [l0, l1] (.int n :: st) M Q = ((¬ n < 0 ∧ cl n ≤ 16777216) ∧ wp F_Md_init 122 [l0, l1] (.ref (nxt M) :: st) (nw M (.inr (0, cl n)) (cl n)) Q)) ∧
  (∀ (l0 l1 : Value) (a x : Nat) (st : List Value) (M : Mm) (Q : Option Value → Mm → Prop), wp F_Md_init 122 [l0, l1] (.ref x :: .ref a :: st) M Q = (sh M a = some (.inl 12) ∧ wp F_Md_init 125 [l0, l1] st (sR M a 29 (some x)) Q)) ∧
  (∀ (l1 : Value) (x : Nat) (st : List Value) (M : Mm) (Q : Option Value → Mm → Prop), wp F_Md_init 125 [.ref x, l1] st M Q = wp F_Md_init 126 [.ref x, l1] (.ref x :: st) M Q) ∧
  (∀ (l0 l1 : Value) (st : List Value) (M : Mm) (Q : Option Value → Mm → Prop), wp F_Md_init 126 [l0, l1] st M Q = wp F_Md_init 129 [l0, l1] (.int 130 :: st) M Q) ∧
  (∀ (l0 l1 : Value) (n : Int32) (st : List Value) (M : Mm) (Q : Option Value → Mm → Prop), wp F_Md_init 129 [l0, l1] (.int n :: st) M Q = ((¬ n < 0 ∧ cl n ≤ 16777216) ∧ wp F_Md_init 131 [l0, l1] (.ref (nxt M) :: st) (nw M (.inr (0, cl n)) (cl n)) Q)) ∧
  (∀ (l0 l1 : Value) (a x : Nat) (st : List Value) (M : Mm) (Q : Option Value → Mm → Prop), wp F_Md_init 131 [l0, l1] (.ref x :: .ref a :: st) M Q = (sh M a = some (.inl 12) ∧ wp F_Md_init 134 [l0, l1] st (sR M a 30 (some x)) Q)) ∧
  (∀ (l1 : Value) (x : Nat) (st : List Value) (M : Mm) (Q : Option Value → Mm → Prop), wp F_Md_init 134 [.ref x, l1] st M Q = wp F_Md_init 135 [.ref x, l1] (.ref x :: st) M Q) ∧
  (∀ (l0 l1 : Value) (st : List Value) (M : Mm) (Q : Option Value → Mm → Prop), wp F_Md_init 135 [l0, l1] st M Q = wp F_Md_init 138 [l0, l1] (.int 300 :: st) M Q) ∧
  (∀ (l0 l1 : Value) (n : Int32) (st : List Value) (M : Mm) (Q : Option Value → Mm → Prop), wp F_Md_init 138 [l0, l1] (.int n :: st) M Q = ((¬ n < 0 ∧ cl n ≤ 16777216) ∧ wp F_Md_init 140 [l0, l1] (.ref (nxt M) :: st) (nw M (.inr (0, cl n)) (cl n)) Q)) ∧
  (∀ (l0 l1 : Value) (a x : Nat) (st : List Value) (M : Mm) (Q : Option Value → Mm → Prop), wp F_Md_init 140 [l0, l1] (.ref x :: .ref a :: st) M Q = (sh M a = some (.inl 12) ∧ wp F_Md_init 143 [l0, l1] st (sR M a 32 (some x)) Q)) ∧
  (∀ (l1 : Value) (x : Nat) (st : List Value) (M : Mm) (Q : Option Value → Mm → Prop), wp F_Md_init 143 [.ref x, l1] st M Q = wp F_Md_init 144 [.ref x, l1] (.ref x :: st) M Q) ∧
  (∀ (l0 l1 : Value) (st : List Value) (M : Mm) (Q : Option Value → Mm → Prop), wp F_Md_init 144 [l0, l1] st M Q = wp F_Md_init 147 [l0, l1] (.int 300 :: st) M Q) ∧
  (∀ (l0 l1 : Value) (n : Int32) (st : List Value) (M : Mm) (Q : Option Value → Mm → Prop), wp F_Md_init 147 [l0, l1] (.int n :: st) M Q = ((¬ n < 0 ∧ cl n ≤ 16777216) ∧ wp F_Md_init 149 [l0, l1] (.ref (nxt M) :: st) (nw M (.inr (0, cl n)) (cl n)) Q)) ∧
  (∀ (l0 l1 : Value) (a x : Nat) (st : List Value) (M : Mm) (Q : Option Value → Mm → Prop), wp F_Md_init 149 [l0, l1] (.ref x :: .ref a :: st) M Q = (sh M a = some (.inl 12) ∧ wp F_Md_init 152 [l0, l1] st (sR M a 33 (some x)) Q)) ∧
  (∀ (l1 : Value) (x : Nat) (st : List Value) (M : Mm) (Q : Option Value → Mm → Prop), wp F_Md_init 152 [.ref x, l1] st M Q = wp F_Md_init 153 [.ref x, l1] (.ref x :: st) M Q) ∧
  (∀ (l0 l1 : Value) (st : List Value) (M : Mm) (Q : Option Value → Mm → Prop), wp F_Md_init 153 [l0, l1] st M Q = wp F_Md_init 156 [l0, l1] (.int 300 :: st) M Q) ∧
  (∀ (l0 l1 : Value) (n : Int32) (st : List Value) (M : Mm) (Q : Option Value → Mm → Prop), wp F_Md_init 156 [l0, l1] (.int n :: st) M Q = ((¬ n < 0 ∧ cl n ≤ 16777216) ∧ wp F_Md_init 158 [l0, l1] (.ref (nxt M) :: st) (nw M (.inr (0, cl n)) (cl n)) Q)) ∧
  (∀ (l0 l1 : Value) (a x : Nat) (st : List Value) (M : Mm) (Q : Option Value → Mm → Prop), wp F_Md_init 158 [l0, l1] (.ref x :: .ref a :: st) M Q = (sh M a = some (.inl 12) ∧ wp F_Md_init 161 [l0, l1] st (sR M a 34 (some x)) Q)) ∧
  (∀ (l1 : Value) (x : Nat) (st : List Value) (M : Mm) (Q : Option Value → Mm → Prop), wp F_Md_init 161 [.ref x, l1] st M Q = wp F_Md_init 162 [.ref x, l1] (.ref x :: st) M Q) ∧
  (∀ (l0 l1 : Value) (st : List Value) (M : Mm) (Q : Option Value → Mm → Prop), wp F_Md_init 162 [l0, l1] st M Q = wp F_Md_init 165 [l0, l1] (.int 300 :: st) M Q) ∧
  (∀ (l0 l1 : Value) (n : Int32) (st : List Value) (M : Mm) (Q : Option Value → Mm → Prop), wp F_Md_init 165 [l0, l1] (.int n :: st) M Q = ((¬ n < 0 ∧ cl n ≤ 16777216) ∧ wp F_Md_init 167 [l0, l1] (.ref (nxt M) :: st) (nw M (.inr (0, cl n)) (cl n)) Q)) ∧
  (∀ (l0 l1 : Value) (a x : Nat) (st : List Value) (M : Mm) (Q : Option Value → Mm → Prop), wp F_Md_init 167 [l0, l1] (.ref x :: .ref a :: st) M Q = (sh M a = some (.inl 12) ∧ wp F_Md_init 170 [l0, l1] st (sR M a 35 (some x)) Q)) ∧
  (∀ (l1 : Value) (x : Nat) (st : List Value) (M : Mm) (Q : Option Value → Mm → Prop), wp F_Md_init 170 [.ref x, l1] st M Q = wp F_Md_init 171 [.ref x, l1] (.ref x :: st) M Q) ∧
  (∀ (l0 l1 : Value) (st : List Value) (M : Mm) (Q : Option Value → Mm → Prop), wp F_Md_init 171 [l0, l1] st M Q = wp F_Md_init 172 [l0, l1] (.int (-1) :: st) M Q) := ⟨fun _ _ _ _ _ _ => wp_new_int d_Md_init_85, fun _ _ _ _ _ _ _ => wp_putRA d_Md_init_87 fl_12_149 rfl rfl, fun _ _ _ _ _ => wp_in d_Md_init_90 rfl rfl, fun _ _ _ _ _ => wp_sipush d_Md_init_91 (by decide), fun _ _ _ _ _ _ => wp_new_boolean d_Md_init_94, fun _ _ _ _ _ _ _ => wp_putRA d_Md_init_96 fl_12_152 rfl rfl, fun _ _ _ _ _ => wp_in d_Md_init_99 rfl rfl, fun _ _ _ _ _ => wp_ldc d_Md_init_100 il_12_156, fun _ _ _ _ _ _ => wp_new_int d_Md_init_102, fun _ _ _ _ _ _ _ => wp_putRA d_Md_init_104 fl_12_121 rfl rfl, fun _ _ _ _ _ => wp_in d_Md_init_107 rfl rfl, fun _ _ _ _ _ => wp_sipush d_Md_init_108 (by decide), fun _ _ _ _ _ _ => wp_new_int d_Md_init_111, fun _ _ _ _ _ _ _ => wp_putRA d_Md_init_113 fl_12_118 rfl rfl, fun _ _ _ _ _ => wp_in d_Md_init_116 rfl rfl, fun _ _ _ _ _ => wp_sipush d_Md_init_117 (by decide), fun _ _ _ _ _ _ => wp_new_int d_Md_init_120, fun _ _ _ _ _ _ _ => wp_putRA d_Md_init_122 fl_12_157 rfl rfl, fun _ _ _ _ _ => wp_in d_Md_init_125 rfl rfl, fun _ _ _ _ _ => wp_sipush d_Md_init_126 (by decide), fun _ _ _ _ _ _ => wp_new_int d_Md_init_129, fun _ _ _ _ _ _ _ => wp_putRA d_Md_init_131 fl_12_160 rfl rfl, fun _ _ _ _ _ => wp_in d_Md_init_134 rfl rfl, fun _ _ _ _ _ => wp_sipush d_Md_init_135 (by decide), fun _ _ _ _ _ _ => wp_new_int d_Md_init_138, fun _ _ _ _ _ _ _ => wp_putRA d_Md_init_140 fl_12_163 rfl rfl, fun _ _ _ _ _ => wp_in d_Md_init_143 rfl rfl, fun _ _ _ _ _ => wp_sipush d_Md_init_144 (by decide), fun _ _ _ _ _ _ => wp_new_int d_Md_init_147, fun _ _ _ _ _ _ _ => wp_putRA d_Md_init_149 fl_12_166 rfl rfl, fun _ _ _ _ _ => wp_in d_Md_init_152 rfl rfl, fun _ _ _ _ _ => wp_sipush d_Md_init_153 (by decide), fun _ _ _ _ _ _ => wp_new_int d_Md_init_156, fun _ _ _ _ _ _ _ => wp_putRA d_Md_init_158 fl_12_169 rfl rfl, fun _ _ _ _ _ => wp_in d_Md_init_161 rfl rfl, fun _ _ _ _ _ => wp_sipush d_Md_init_162 (by decide), fun _ _ _ _ _ _ => wp_new_int d_Md_init_165, fun _ _ _ _ _ _ _ => wp_putRA d_Md_init_167 fl_12_172 rfl rfl, fun _ _ _ _ _ => wp_in d_Md_init_170 rfl rfl, fun _ _ _ _ _ => wp_iconst d_Md_init_171 (by decide)⟩
theorem B_Md_init_0_2 : (∀ (l0 l1 : Value) (a : Nat) (x : Int32) (st : List Value) (M : Mm) (Q : Option Value → Mm → Prop), wp F_Md_init 172 [l0, l1] (.int x :: .ref a :: st) M Q = (sh M a = some (.inl 12) ∧ wp F_Md_init 175 [l0, l1] st (sI M a 39 x) Q)) ∧
  (∀ (l1 : Value) (x : Nat) (st : List Value) (M : Mm) (Q : Option Value → Mm → Prop), wp F_Md_init 175 [.ref x, l1] st M Q = wp F_Md_init 176 [.ref x, l1] (.ref x :: st) M Q) ∧
  (∀ (l0 l1 : Value) (st : List Value) (M : Mm) (Q : Option Value → Mm → Prop), wp F_Md_init 176 [l0, l1] st M Q = wp F_Md_init 179 [l0, l1] (.int 640 :: st) M Q) ∧
  (∀ (l0 l1 : Value) (n : Int32) (st : List Value) (M : Mm) (Q : Option Value → Mm → Prop), wp F_Md_init 179 [l0, l1] (.int n :: st) M Q = ((¬ n < 0 ∧ cl n ≤ 16777216) ∧ wp F_Md_init 181 [l0, l1] (.ref (nxt M) :: st) (nw M (.inr (0, cl n)) (cl n)) Q)) ∧
  (∀ (l0 l1 : Value) (a x : Nat) (st : List Value) (M : Mm) (Q : Option Value → Mm → Prop), wp F_Md_init 181 [l0, l1] (.ref x :: .ref a :: st) M Q = (sh M a = some (.inl 12) ∧ wp F_Md_init 184 [l0, l1] st (sR M a 42 (some x)) Q)) ∧
  (∀ (l1 : Value) (x : Nat) (st : List Value) (M : Mm) (Q : Option Value → Mm → Prop), wp F_Md_init 184 [.ref x, l1] st M Q = wp F_Md_init 185 [.ref x, l1] (.ref x :: st) M Q) ∧
  (∀ (l0 l1 : Value) (st : List Value) (M : Mm) (Q : Option Value → Mm → Prop), wp F_Md_init 185 [l0, l1] st M Q = wp F_Md_init 187 [l0, l1] (.int 8 :: st) M Q) ∧
  (∀ (l0 l1 : Value) (n : Int32) (st : List Value) (M : Mm) (Q : Option Value → Mm → Prop), wp F_Md_init 187 [l0, l1] (.int n :: st) M Q = ((¬ n < 0 ∧ cl n ≤ 16777216) ∧ wp F_Md_init 189 [l0, l1] (.ref (nxt M) :: st) (nw M (.inr (0, cl n)) (cl n)) Q)) ∧
  (∀ (l0 l1 : Value) (a x : Nat) (st : List Value) (M : Mm) (Q : Option Value → Mm → Prop), wp F_Md_init 189 [l0, l1] (.ref x :: .ref a :: st) M Q = (sh M a = some (.inl 12) ∧ wp F_Md_init 192 [l0, l1] st (sR M a 43 (some x)) Q)) ∧
  (∀ (l1 : Value) (x : Nat) (st : List Value) (M : Mm) (Q : Option Value → Mm → Prop), wp F_Md_init 192 [.ref x, l1] st M Q = wp F_Md_init 193 [.ref x, l1] (.ref x :: st) M Q) ∧
  (∀ (l0 l1 : Value) (st : List Value) (M : Mm) (Q : Option Value → Mm → Prop), wp F_Md_init 193 [l0, l1] st M Q = wp F_Md_init 195 [l0, l1] (.int 96008 :: st) M Q) ∧
  (∀ (l0 l1 : Value) (n : Int32) (st : List Value) (M : Mm) (Q : Option Value → Mm → Prop), wp F_Md_init 195 [l0, l1] (.int n :: st) M Q = ((¬ n < 0 ∧ cl n ≤ 16777216) ∧ wp F_Md_init 197 [l0, l1] (.ref (nxt M) :: st) (nw M (.inr (0, cl n)) (cl n)) Q)) ∧
  (∀ (l0 l1 : Value) (a x : Nat) (st : List Value) (M : Mm) (Q : Option Value → Mm → Prop), wp F_Md_init 197 [l0, l1] (.ref x :: .ref a :: st) M Q = (sh M a = some (.inl 12) ∧ wp F_Md_init 200 [l0, l1] st (sR M a 44 (some x)) Q)) ∧
  (∀ (l1 : Value) (x : Nat) (st : List Value) (M : Mm) (Q : Option Value → Mm → Prop), wp F_Md_init 200 [.ref x, l1] st M Q = wp F_Md_init 201 [.ref x, l1] (.ref x :: st) M Q) ∧
  (∀ (l0 l1 : Value) (st : List Value) (M : Mm) (Q : Option Value → Mm → Prop), wp F_Md_init 201 [l0, l1] st M Q = wp F_Md_init 204 [l0, l1] (.int 12001 :: st) M Q) ∧
  (∀ (l0 l1 : Value) (n : Int32) (st : List Value) (M : Mm) (Q : Option Value → Mm → Prop), wp F_Md_init 204 [l0, l1] (.int n :: st) M Q = ((¬ n < 0 ∧ cl n ≤ 16777216) ∧ wp F_Md_init 206 [l0, l1] (.ref (nxt M) :: st) (nw M (.inr (0, cl n)) (cl n)) Q)) ∧
  (∀ (l0 l1 : Value) (a x : Nat) (st : List Value) (M : Mm) (Q : Option Value → Mm → Prop), wp F_Md_init 206 [l0, l1] (.ref x :: .ref a :: st) M Q = (sh M a = some (.inl 12) ∧ wp F_Md_init 209 [l0, l1] st (sR M a 45 (some x)) Q)) ∧
  (∀ (l1 : Value) (x : Nat) (st : List Value) (M : Mm) (Q : Option Value → Mm → Prop), wp F_Md_init 209 [.ref x, l1] st M Q = wp F_Md_init 210 [.ref x, l1] (.ref x :: st) M Q) ∧
  (∀ (l0 l1 : Value) (st : List Value) (M : Mm) (Q : Option Value → Mm → Prop), wp F_Md_init 210 [l0, l1] st M Q = wp F_Md_init 213 [l0, l1] (.int 12001 :: st) M Q) ∧
  (∀ (l0 l1 : Value) (n : Int32) (st : List Value) (M : Mm) (Q : Option Value → Mm → Prop), wp F_Md_init 213 [l0, l1] (.int n :: st) M Q = ((¬ n < 0 ∧ cl n ≤ 16777216) ∧ wp F_Md_init 215 [l0, l1] (.ref (nxt M) :: st) (nw M (.inr (0, cl n)) (cl n)) Q)) ∧
  (∀ (l0 l1 : Value) (a x : Nat) (st : List Value) (M : Mm) (Q : Option Value → Mm → Prop), wp F_Md_init 215 [l0, l1] (.ref x :: .ref a :: st) M Q = (sh M a = some (.inl 12) ∧ wp F_Md_init 218 [l0, l1] st (sR M a 46 (some x)) Q)) ∧
  (∀ (l1 : Value) (x : Nat) (st : List Value) (M : Mm) (Q : Option Value → Mm → Prop), wp F_Md_init 218 [.ref x, l1] st M Q = wp F_Md_init 219 [.ref x, l1] (.ref x :: st) M Q) ∧
  (∀ (l0 l1 : Value) (st : List Value) (M : Mm) (Q : Option Value → Mm → Prop), wp F_Md_init 219 [l0, l1] st M Q = wp F_Md_init 222 [l0, l1] (.int 12001 :: st) M Q) ∧
  (∀ (l0 l1 : Value) (n : Int32) (st : List Value) (M : Mm) (Q : Option Value → Mm → Prop), wp F_Md_init 222 [l0, l1] (.int n :: st) M Q = ((¬ n < 0 ∧ cl n ≤ 16777216) ∧ wp F_Md_init 224 [l0, l1] (.ref (nxt M) :: st) (nw M (.inr (3, cl n)) (cl n)) Q)) ∧
  (∀ (l0 l1 : Value) (a x : Nat) (st : List Value) (M : Mm) (Q : Option Value → Mm → Prop), wp F_Md_init 224 [l0, l1] (.ref x :: .ref a :: st) M Q = (sh M a = some (.inl 12) ∧ wp F_Md_init 227 [l0, l1] st (sR M a 47 (some x)) Q)) ∧
  (∀ (l1 : Value) (x : Nat) (st : List Value) (M : Mm) (Q : Option Value → Mm → Prop), wp F_Md_init 227 [.ref x, l1] st M Q = wp F_Md_init 228 [.ref x, l1] (.ref x :: st) M Q) ∧
  (∀ (l0 l1 : Value) (st : List Value) (M : Mm) (Q : Option Value → Mm → Prop), wp F_Md_init 228 [l0, l1] st M Q = wp F_Md_init 231 [l0, l1] (.int 12001 :: st) M Q) ∧
  (∀ (l0 l1 : Value) (n : Int32) (st : List Value) (M : Mm) (Q : Option Value → Mm → Prop), wp F_Md_init 231 [l0, l1] (.int n :: st) M Q = ((¬ n < 0 ∧ cl n ≤ 16777216) ∧ wp F_Md_init 233 [l0, l1] (.ref (nxt M) :: st) (nw M (.inr (0, cl n)) (cl n)) Q)) ∧
  (∀ (l0 l1 : Value) (a x : Nat) (st : List Value) (M : Mm) (Q : Option Value → Mm → Prop), wp F_Md_init 233 [l0, l1] (.ref x :: .ref a :: st) M Q = (sh M a = some (.inl 12) ∧ wp F_Md_init 236 [l0, l1] st (sR M a 48 (some x)) Q)) ∧
  (∀ (l1 : Value) (x : Nat) (st : List Value) (M : Mm) (Q : Option Value → Mm → Prop), wp F_Md_init 236 [.ref x, l1] st M Q = wp F_Md_init 237 [.ref x, l1] (.ref x :: st) M Q) ∧
  (∀ (l0 l1 : Value) (st : List Value) (M : Mm) (Q : Option Value → Mm → Prop), wp F_Md_init 237 [l0, l1] st M Q = wp F_Md_init 239 [l0, l1] (.int 972081 :: st) M Q) ∧
  (∀ (l0 l1 : Value) (n : Int32) (st : List Value) (M : Mm) (Q : Option Value → Mm → Prop), wp F_Md_init 239 [l0, l1] (.int n :: st) M Q = ((¬ n < 0 ∧ cl n ≤ 16777216) ∧ wp F_Md_init 241 [l0, l1] (.ref (nxt M) :: st) (nw M (.inr (1, cl n)) (cl n)) Q)) ∧
  (∀ (l0 l1 : Value) (a x : Nat) (st : List Value) (M : Mm) (Q : Option Value → Mm → Prop), wp F_Md_init 241 [l0, l1] (.ref x :: .ref a :: st) M Q = (sh M a = some (.inl 12) ∧ wp F_Md_init 244 [l0, l1] st (sR M a 49 (some x)) Q)) ∧
  (∀ (l1 : Value) (x : Nat) (st : List Value) (M : Mm) (Q : Option Value → Mm → Prop), wp F_Md_init 244 [.ref x, l1] st M Q = wp F_Md_init 245 [.ref x, l1] (.ref x :: st) M Q) ∧
  (∀ (l0 l1 : Value) (st : List Value) (M : Mm) (Q : Option Value → Mm → Prop), wp F_Md_init 245 [l0, l1] st M Q = wp F_Md_init 248 [l0, l1] (.int 12001 :: st) M Q) ∧
  (∀ (l0 l1 : Value) (n : Int32) (st : List Value) (M : Mm) (Q : Option Value → Mm → Prop), wp F_Md_init 248 [l0, l1] (.int n :: st) M Q = ((¬ n < 0 ∧ cl n ≤ 16777216) ∧ wp F_Md_init 250 [l0, l1] (.ref (nxt M) :: st) (nw M (.inr (1, cl n)) (cl n)) Q)) ∧
  (∀ (l0 l1 : Value) (a x : Nat) (st : List Value) (M : Mm) (Q : Option Value → Mm → Prop), wp F_Md_init 250 [l0, l1] (.ref x :: .ref a :: st) M Q = (sh M a = some (.inl 12) ∧ wp F_Md_init 253 [l0, l1] st (sR M a 50 (some x)) Q)) ∧
  (∀ (l1 : Value) (x : Nat) (st : List Value) (M : Mm) (Q : Option Value → Mm → Prop), wp F_Md_init 253 [.ref x, l1] st M Q = wp F_Md_init 254 [.ref x, l1] (.ref x :: st) M Q) ∧
  (∀ (l0 l1 : Value) (st : List Value) (M : Mm) (Q : Option Value → Mm → Prop), wp F_Md_init 254 [l0, l1] st M Q = wp F_Md_init 257 [l0, l1] (.int 201 :: st) M Q) ∧
  (∀ (l0 l1 : Value) (n : Int32) (st : List Value) (M : Mm) (Q : Option Value → Mm → Prop), wp F_Md_init 257 [l0, l1] (.int n :: st) M Q = ((¬ n < 0 ∧ cl n ≤ 16777216) ∧ wp F_Md_init 259 [l0, l1] (.ref (nxt M) :: st) (nw M (.inr (0, cl n)) (cl n)) Q)) := ⟨fun _ _ _ _ _ _ _ => wp_putI d_Md_init_172 fl_12_112 rfl rfl, fun _ _ _ _ _ => wp_in d_Md_init_175 rfl rfl, fun _ _ _ _ _ => wp_sipush d_Md_init_176 (by decide), fun _ _ _ _ _ _ => wp_new_int d_Md_init_179, fun _ _ _ _ _ _ _ => wp_putRA d_Md_init_181 fl_12_132 rfl rfl, fun _ _ _ _ _ => wp_in d_Md_init_184 rfl rfl, fun _ _ _ _ _ => wp_bipush d_Md_init_185 (by decide), fun _ _ _ _ _ _ => wp_new_int d_Md_init_187, fun _ _ _ _ _ _ _ => wp_putRA d_Md_init_189 fl_12_115 rfl rfl, fun _ _ _ _ _ => wp_in d_Md_init_192 rfl rfl, fun _ _ _ _ _ => wp_ldc d_Md_init_193 il_12_175, fun _ _ _ _ _ _ => wp_new_int d_Md_init_195, fun _ _ _ _ _ _ _ => wp_putRA d_Md_init_197 fl_12_176 rfl rfl, fun _ _ _ _ _ => wp_in d_Md_init_200 rfl rfl, fun _ _ _ _ _ => wp_sipush d_Md_init_201 (by decide), fun _ _ _ _ _ _ => wp_new_int d_Md_init_204, fun _ _ _ _ _ _ _ => wp_putRA d_Md_init_206 fl_12_179 rfl rfl, fun _ _ _ _ _ => wp_in d_Md_init_209 rfl rfl, fun _ _ _ _ _ => wp_sipush d_Md_init_210 (by decide), fun _ _ _ _ _ _ => wp_new_int d_Md_init_213, fun _ _ _ _ _ _ _ => wp_putRA d_Md_init_215 fl_12_182 rfl rfl, fun _ _ _ _ _ => wp_in d_Md_init_218 rfl rfl, fun _ _ _ _ _ => wp_sipush d_Md_init_219 (by decide), fun _ _ _ _ _ _ => wp_new_boolean d_Md_init_222, fun _ _ _ _ _ _ _ => wp_putRA d_Md_init_224 fl_12_185 rfl rfl, fun _ _ _ _ _ => wp_in d_Md_init_227 rfl rfl, fun _ _ _ _ _ => wp_sipush d_Md_init_228 (by decide), fun _ _ _ _ _ _ => wp_new_int d_Md_init_231, fun _ _ _ _ _ _ _ => wp_putRA d_Md_init_233 fl_12_188 rfl rfl, fun _ _ _ _ _ => wp_in d_Md_init_236 rfl rfl, fun _ _ _ _ _ => wp_ldc d_Md_init_237 il_12_191, fun _ _ _ _ _ _ => wp_new_long d_Md_init_239, fun _ _ _ _ _ _ _ => wp_putRA d_Md_init_241 fl_12_192 rfl rfl, fun _ _ _ _ _ => wp_in d_Md_init_244 rfl rfl, fun _ _ _ _ _ => wp_sipush d_Md_init_245 (by decide), fun _ _ _ _ _ _ => wp_new_long d_Md_init_248, fun _ _ _ _ _ _ _ => wp_putRA d_Md_init_250 fl_12_196 rfl rfl, fun _ _ _ _ _ => wp_in d_Md_init_253 rfl rfl, fun _ _ _ _ _ => wp_sipush d_Md_init_254 (by decide), fun _ _ _ _ _ _ => wp_new_int d_Md_init_257⟩
theorem B_Md_init_0_3 : (∀ (l0 l1 : Value) (a x : Nat) (st : List Value) (M : Mm) (Q : Option Value → Mm → Prop), wp F_Md_init 259 [l0, l1] (.ref x :: .ref a :: st) M Q = (sh M a = some (.inl 12) ∧ wp F_Md_init 262 [l0, l1] st (sR M a 55 (some x)) Q)) ∧
  (∀ (l0 l1 : Value) (st : List Value) (M : Mm) (Q : Option Value → Mm → Prop), wp F_Md_init 262 [l0, l1] st M Q = wp F_Md_init 263 [l0, l1] (.int 0 :: st) M Q) ∧
  (∀ (l0 l1 : Value) (x : Int32) (st : List Value) (M : Mm) (Q : Option Value → Mm → Prop), wp F_Md_init 263 [l0, l1] (.int x :: st) M Q = wp F_Md_init 264 [clr l0, .int x] st M Q) := ⟨fun _ _ _ _ _ _ _ => wp_putRA d_Md_init_259 fl_12_199 rfl rfl, fun _ _ _ _ _ => wp_iconst d_Md_init_262 (by decide), fun _ _ _ _ _ _ => wp_in d_Md_init_263 rfl rfl⟩
theorem B_Md_init_264 : (∀ (l0 : Value) (x : Int32) (st : List Value) (M : Mm) (Q : Option Value → Mm → Prop), wp F_Md_init 264 [l0, .int x] st M Q = wp F_Md_init 265 [l0, .int x] (.int x :: st) M Q) ∧
  (∀ (l0 l1 : Value) (st : List Value) (M : Mm) (Q : Option Value → Mm → Prop), wp F_Md_init 265 [l0, l1] st M Q = wp F_Md_init 267 [l0, l1] (.int 26 :: st) M Q) ∧
  (∀ (l0 l1 : Value) (x y : Int32) (st : List Value) (M : Mm) (Q : Option Value → Mm → Prop), wp F_Md_init 267 [l0, l1] (.int y :: .int x :: st) M Q = if y ≤ x then wp F_Md_init 283 [l0, l1] st M Q else wp F_Md_init 270 [l0, l1] st M Q) ∧
  (∀ (l1 : Value) (x : Nat) (st : List Value) (M : Mm) (Q : Option Value → Mm → Prop), wp F_Md_init 270 [.ref x, l1] st M Q = wp F_Md_init 271 [.ref x, l1] (.ref x :: st) M Q) ∧
  (∀ (l0 l1 : Value) (a : Nat) (st : List Value) (M : Mm) (Q : Option Value → Mm → Prop), wp F_Md_init 271 [l0, l1] (.ref a :: st) M Q = (sh M a = some (.inl 12) ∧ wp F_Md_init 274 [l0, l1] (va_rf (gR M a 9) :: st) M Q)) ∧
  (∀ (l0 : Value) (x : Int32) (st : List Value) (M : Mm) (Q : Option Value → Mm → Prop), wp F_Md_init 274 [l0, .int x] st M Q = wp F_Md_init 275 [l0, .int x] (.int x :: st) M Q) ∧
  (∀ (l0 l1 : Value) (st : List Value) (M : Mm) (Q : Option Value → Mm → Prop), wp F_Md_init 275 [l0, l1] st M Q = wp F_Md_init 276 [l0, l1] (.int (-1) :: st) M Q) ∧
  (∀ (l0 l1 : Value) (a : Nat) (j x : Int32) (st : List Value) (M : Mm) (Q : Option Value → Mm → Prop), wp F_Md_init 276 [l0, l1] (.int x :: .int j :: .ref a :: st) M Q = (ixW M a j ∧ wp F_Md_init 277 [l0, l1] st (sI M a (cl j) x) Q)) ∧
  (∀ (l0 : Value) (x : Int32) (st : List Value) (M : Mm) (Q : Option Value → Mm → Prop), wp F_Md_init 277 [l0, .int x] st M Q = wp F_Md_init 280 [clr l0, .int (x + 1)] st M Q) := ⟨fun _ _ _ _ _ => wp_in d_Md_init_264 rfl rfl, fun _ _ _ _ _ => wp_bipush d_Md_init_265 (by decide), fun _ _ _ _ _ _ _ => wp_icmp_ge d_Md_init_267 rfl, fun _ _ _ _ _ => wp_in d_Md_init_270 rfl rfl, fun _ _ _ _ _ _ => wp_getA d_Md_init_271 fl_12_84 rfl, fun _ _ _ _ _ => wp_in d_Md_init_274 rfl rfl, fun _ _ _ _ _ => wp_iconst d_Md_init_275 (by decide), fun _ _ _ _ _ _ _ _ => wp_iast d_Md_init_276, fun _ _ _ _ _ => wp_iinc d_Md_init_277 (by decide) rfl rfl⟩
theorem B_Md_init_283 : (∀ (l0 l1 : Value) (M : Mm) (Q : Option Value → Mm → Prop), wp F_Md_init 283 [l0, l1] [] M Q = Q none M) := fun _ _ _ _ => wp_retV d_Md_init_283 rfl
theorem G_Md_init_280 (l0 l1 : Value) (st : List Value) (M : Mm) (Q : Option Value → Mm → Prop) : wp F_Md_init 280 [l0, l1] st M Q = wp F_Md_init 264 [l0, l1] st M Q := wp_goto d_Md_init_280 rfl
theorem d_Md_isComplete_0 : decode (fnB F_Md_isComplete) 0 = .ok (.aload_n 0, 1) := by decide +kernel
theorem d_Md_isComplete_1 : decode (fnB F_Md_isComplete) 1 = .ok (.getfield 93, 3) := by decide +kernel
theorem d_Md_isComplete_4 : decode (fnB F_Md_isComplete) 4 = .ok (.ifCond .ne 14, 3) := by decide +kernel
theorem d_Md_isComplete_7 : decode (fnB F_Md_isComplete) 7 = .ok (.aload_n 0, 1) := by decide +kernel
theorem d_Md_isComplete_8 : decode (fnB F_Md_isComplete) 8 = .ok (.getfield 102, 3) := by decide +kernel
theorem d_Md_isComplete_11 : decode (fnB F_Md_isComplete) 11 = .ok (.ifCond .ne 7, 3) := by decide +kernel
theorem d_Md_isComplete_14 : decode (fnB F_Md_isComplete) 14 = .ok (.iconst 1, 1) := by decide +kernel
theorem d_Md_isComplete_15 : decode (fnB F_Md_isComplete) 15 = .ok (.goto 4, 3) := by decide +kernel
theorem d_Md_isComplete_18 : decode (fnB F_Md_isComplete) 18 = .ok (.iconst 0, 1) := by decide +kernel
theorem d_Md_isComplete_19 : decode (fnB F_Md_isComplete) 19 = .ok (.ireturn, 1) := by decide +kernel
theorem B_Md_isComplete_0 : (∀ (x : Nat) (st : List Value) (M : Mm) (Q : Option Value → Mm → Prop), wp F_Md_isComplete 0 [.ref x] st M Q = wp F_Md_isComplete 1 [.ref x] (.ref x :: st) M Q) ∧
  (∀ (l0 : Value) (a : Nat) (st : List Value) (M : Mm) (Q : Option Value → Mm → Prop), wp F_Md_isComplete 1 [l0] (.ref a :: st) M Q = (sh M a = some (.inl 12) ∧ wp F_Md_isComplete 4 [l0] (.int (gI M a 25) :: st) M Q)) ∧
  (∀ (l0 : Value) (x : Int32) (st : List Value) (M : Mm) (Q : Option Value → Mm → Prop), wp F_Md_isComplete 4 [l0] (.int x :: st) M Q = if x = 0 then wp F_Md_isComplete 7 [l0] st M Q else wp F_Md_isComplete 18 [l0] st M Q) ∧
  (∀ (x : Nat) (st : List Value) (M : Mm) (Q : Option Value → Mm → Prop), wp F_Md_isComplete 7 [.ref x] st M Q = wp F_Md_isComplete 8 [.ref x] (.ref x :: st) M Q) ∧
  (∀ (l0 : Value) (a : Nat) (st : List Value) (M : Mm) (Q : Option Value → Mm → Prop), wp F_Md_isComplete 8 [l0] (.ref a :: st) M Q = (sh M a = some (.inl 12) ∧ wp F_Md_isComplete 11 [l0] (.int (gI M a 28) :: st) M Q)) ∧
  (∀ (l0 : Value) (x : Int32) (st : List Value) (M : Mm) (Q : Option Value → Mm → Prop), wp F_Md_isComplete 11 [l0] (.int x :: st) M Q = if x = 0 then wp F_Md_isComplete 14 [l0] st M Q else wp F_Md_isComplete 18 [l0] st M Q) ∧
  (∀ (l0 : Value) (st : List Value) (M : Mm) (Q : Option Value → Mm → Prop), wp F_Md_isComplete 14 [l0] st M Q = wp F_Md_isComplete 15 [l0] (.int 1 :: st) M Q) ∧
  (∀ (l0 : Value) (st : List Value) (M : Mm) (Q : Option Value → Mm → Prop), wp F_Md_isComplete 15 [l0] st M Q = wp F_Md_isComplete 19 [l0] st M Q) := ⟨fun _ _ _ _ => wp_in d_Md_isComplete_0 rfl rfl, fun _ _ _ _ _ => wp_getI d_Md_isComplete_1 fl_12_93 rfl, fun _ _ _ _ _ => wp_if_ne d_Md_isComplete_4 rfl, fun _ _ _ _ => wp_in d_Md_isComplete_7 rfl rfl, fun _ _ _ _ _ => wp_getI d_Md_isComplete_8 fl_12_102 rfl, fun _ _ _ _ _ => wp_if_ne d_Md_isComplete_11 rfl, fun _ _ _ _ => wp_iconst d_Md_isComplete_14 (by decide), fun _ _ _ _ => wp_goto d_Md_isComplete_15 rfl⟩
theorem B_Md_isComplete_18 : (∀ (l0 : Value) (st : List Value) (M : Mm) (Q : Option Value → Mm → Prop), wp F_Md_isComplete 18 [l0] st M Q = wp F_Md_isComplete 19 [l0] (.int 0 :: st) M Q) := fun _ _ _ _ => wp_iconst d_Md_isComplete_18 (by decide)
theorem B_Md_isComplete_19 : (∀ (l0 : Value) (v : Int32) (M : Mm) (Q : Option Value → Mm → Prop), wp F_Md_isComplete 19 [l0] [.int v] M Q = ((v = 0 ∨ v = 1) ∧ Q (some (.int v)) M)) := fun _ _ _ _ => wp_retZ d_Md_isComplete_19 rfl
theorem d_Md_ends_0 : decode (fnB F_Md_ends) 0 = .ok (.aload_n 0, 1) := by decide +kernel
theorem d_Md_ends_1 : decode (fnB F_Md_ends) 1 = .ok (.getfield 152, 3) := by decide +kernel
theorem d_Md_ends_4 : decode (fnB F_Md_ends) 4 = .ok (.iload_n 1, 1) := by decide +kernel
theorem d_Md_ends_5 : decode (fnB F_Md_ends) 5 = .ok (.baload, 1) := by decide +kernel
theorem d_Md_ends_6 : decode (fnB F_Md_ends) 6 = .ok (.ifCond .eq 17, 3) := by decide +kernel
theorem d_Md_ends_9 : decode (fnB F_Md_ends) 9 = .ok (.aload_n 0, 1) := by decide +kernel
theorem d_Md_ends_10 : decode (fnB F_Md_ends) 10 = .ok (.getfield 143, 3) := by decide +kernel
theorem d_Md_ends_13 : decode (fnB F_Md_ends) 13 = .ok (.iload_n 1, 1) := by decide +kernel
theorem d_Md_ends_14 : decode (fnB F_Md_ends) 14 = .ok (.iaload, 1) := by decide +kernel
theorem d_Md_ends_15 : decode (fnB F_Md_ends) 15 = .ok (.iload_n 3, 1) := by decide +kernel
theorem d_Md_ends_16 : decode (fnB F_Md_ends) 16 = .ok (.if_icmp .gt 7, 3) := by decide +kernel
theorem d_Md_ends_19 : decode (fnB F_Md_ends) 19 = .ok (.iconst 1, 1) := by decide +kernel
theorem d_Md_ends_20 : decode (fnB F_Md_ends) 20 = .ok (.goto 4, 3) := by decide +kernel
theorem d_Md_ends_23 : decode (fnB F_Md_ends) 23 = .ok (.iconst 0, 1) := by decide +kernel
theorem d_Md_ends_24 : decode (fnB F_Md_ends) 24 = .ok (.istore 4, 2) := by decide +kernel
theorem d_Md_ends_26 : decode (fnB F_Md_ends) 26 = .ok (.iconst 0, 1) := by decide +kernel
theorem d_Md_ends_27 : decode (fnB F_Md_ends) 27 = .ok (.istore 5, 2) := by decide +kernel
theorem d_Md_ends_29 : decode (fnB F_Md_ends) 29 = .ok (.iload 5, 2) := by decide +kernel
theorem d_Md_ends_31 : decode (fnB F_Md_ends) 31 = .ok (.aload_n 0, 1) := by decide +kernel
theorem d_Md_ends_32 : decode (fnB F_Md_ends) 32 = .ok (.getfield 143, 3) := by decide +kernel
theorem d_Md_ends_35 : decode (fnB F_Md_ends) 35 = .ok (.iload_n 1, 1) := by decide +kernel
theorem d_Md_ends_36 : decode (fnB F_Md_ends) 36 = .ok (.iaload, 1) := by decide +kernel
theorem d_Md_ends_37 : decode (fnB F_Md_ends) 37 = .ok (.if_icmp .ge 49, 3) := by decide +kernel
theorem d_Md_ends_40 : decode (fnB F_Md_ends) 40 = .ok (.iload 4, 2) := by decide +kernel
theorem d_Md_ends_42 : decode (fnB F_Md_ends) 42 = .ok (.ifCond .eq 44, 3) := by decide +kernel
theorem d_Md_ends_45 : decode (fnB F_Md_ends) 45 = .ok (.aload_n 0, 1) := by decide +kernel
theorem d_Md_ends_46 : decode (fnB F_Md_ends) 46 = .ok (.getfield 140, 3) := by decide +kernel
theorem d_Md_ends_49 : decode (fnB F_Md_ends) 49 = .ok (.bipush 60, 2) := by decide +kernel
theorem d_Md_ends_51 : decode (fnB F_Md_ends) 51 = .ok (.iload_n 1, 1) := by decide +kernel
theorem d_Md_ends_52 : decode (fnB F_Md_ends) 52 = .ok (.imul, 1) := by decide +kernel
theorem d_Md_ends_53 : decode (fnB F_Md_ends) 53 = .ok (.iload 5, 2) := by decide +kernel
theorem d_Md_ends_55 : decode (fnB F_Md_ends) 55 = .ok (.iadd, 1) := by decide +kernel
theorem d_Md_ends_56 : decode (fnB F_Md_ends) 56 = .ok (.iaload, 1) := by decide +kernel
theorem d_Md_ends_57 : decode (fnB F_Md_ends) 57 = .ok (.aload_n 2, 1) := by decide +kernel
theorem d_Md_ends_58 : decode (fnB F_Md_ends) 58 = .ok (.iload_n 3, 1) := by decide +kernel
theorem d_Md_ends_59 : decode (fnB F_Md_ends) 59 = .ok (.aload_n 0, 1) := by decide +kernel
theorem d_Md_ends_60 : decode (fnB F_Md_ends) 60 = .ok (.getfield 143, 3) := by decide +kernel
theorem d_Md_ends_63 : decode (fnB F_Md_ends) 63 = .ok (.iload_n 1, 1) := by decide +kernel
theorem d_Md_ends_64 : decode (fnB F_Md_ends) 64 = .ok (.iaload, 1) := by decide +kernel
theorem d_Md_ends_65 : decode (fnB F_Md_ends) 65 = .ok (.isub, 1) := by decide +kernel
theorem d_Md_ends_66 : decode (fnB F_Md_ends) 66 = .ok (.iload 5, 2) := by decide +kernel
theorem d_Md_ends_68 : decode (fnB F_Md_ends) 68 = .ok (.iadd, 1) := by decide +kernel
theorem d_Md_ends_69 : decode (fnB F_Md_ends) 69 = .ok (.iaload, 1) := by decide +kernel
theorem d_Md_ends_70 : decode (fnB F_Md_ends) 70 = .ok (.if_icmp .ne 7, 3) := by decide +kernel
theorem d_Md_ends_73 : decode (fnB F_Md_ends) 73 = .ok (.iconst 1, 1) := by decide +kernel
theorem d_Md_ends_74 : decode (fnB F_Md_ends) 74 = .ok (.goto 4, 3) := by decide +kernel
theorem d_Md_ends_77 : decode (fnB F_Md_ends) 77 = .ok (.iconst 0, 1) := by decide +kernel
theorem d_Md_ends_78 : decode (fnB F_Md_ends) 78 = .ok (.istore 4, 2) := by decide +kernel
theorem d_Md_ends_80 : decode (fnB F_Md_ends) 80 = .ok (.iinc 5 1, 3) := by decide +kernel
theorem d_Md_ends_83 : decode (fnB F_Md_ends) 83 = .ok (.goto (-54), 3) := by decide +kernel
theorem d_Md_ends_86 : decode (fnB F_Md_ends) 86 = .ok (.iload 4, 2) := by decide +kernel
theorem d_Md_ends_88 : decode (fnB F_Md_ends) 88 = .ok (.ireturn, 1) := by decide +kernel
theorem B_Md_ends_0 : (∀ (l1 l2 l3 l4 l5 : Value) (x : Nat) (st : List Value) (M : Mm) (Q : Option Value → Mm → Prop), wp F_Md_ends 0 [.ref x, l1, l2, l3, l4, l5] st M Q = wp F_Md_ends 1 [.ref x, l1, l2, l3, l4, l5] (.ref x :: st) M Q) ∧
  (∀ (l0 l1 l2 l3 l4 l5 : Value) (a : Nat) (st : List Value) (M : Mm) (Q : Option Value → Mm → Prop), wp F_Md_ends 1 [l0, l1, l2, l3, l4, l5] (.ref a :: st) M Q = (sh M a = some (.inl 12) ∧ wp F_Md_ends 4 [l0, l1, l2, l3, l4, l5] (va_rf (gR M a 20) :: st) M Q)) ∧
  (∀ (l0 l2 l3 l4 l5 : Value) (x : Int32) (st : List Value) (M : Mm) (Q : Option Value → Mm → Prop), wp F_Md_ends 4 [l0, .int x, l2, l3, l4, l5] st M Q = wp F_Md_ends 5 [l0, .int x, l2, l3, l4, l5] (.int x :: st) M Q) ∧
  (∀ (l0 l1 l2 l3 l4 l5 : Value) (a : Nat) (j : Int32) (st : List Value) (M : Mm) (Q : Option Value → Mm → Prop), wp F_Md_ends 5 [l0, l1, l2, l3, l4, l5] (.int j :: .ref a :: st) M Q = (ixB M a j ∧ wp F_Md_ends 6 [l0, l1, l2, l3, l4, l5] (.int (gI M a (cl j)) :: st) M Q)) ∧
  (∀ (l0 l1 l2 l3 l4 l5 : Value) (x : Int32) (st : List Value) (M : Mm) (Q : Option Value → Mm → Prop), wp F_Md_ends 6 [l0, l1, l2, l3, l4, l5] (.int x :: st) M Q = if x = 0 then wp F_Md_ends 23 [l0, l1, l2, l3, l4, l5] st M Q else wp F_Md_ends 9 [l0, l1, l2, l3, l4, l5] st M Q) ∧
  (∀ (l1 l2 l3 l4 l5 : Value) (x : Nat) (st : List Value) (M : Mm) (Q : Option Value → Mm → Prop), wp F_Md_ends 9 [.ref x, l1, l2, l3, l4, l5] st M Q = wp F_Md_ends 10 [.ref x, l1, l2, l3, l4, l5] (.ref x :: st) M Q) ∧
  (∀ (l0 l1 l2 l3 l4 l5 : Value) (a : Nat) (st : List Value) (M : Mm) (Q : Option Value → Mm → Prop), wp F_Md_ends 10 [l0, l1, l2, l3, l4, l5] (.ref a :: st) M Q = (sh M a = some (.inl 12) ∧ wp F_Md_ends 13 [l0, l1, l2, l3, l4, l5] (va_rf (gR M a 17) :: st) M Q)) ∧
  (∀ (l0 l2 l3 l4 l5 : Value) (x : Int32) (st : List Value) (M : Mm) (Q : Option Value → Mm → Prop), wp F_Md_ends 13 [l0, .int x, l2, l3, l4, l5] st M Q = wp F_Md_ends 14 [l0, .int x, l2, l3, l4, l5] (.int x :: st) M Q) ∧
  (∀ (l0 l1 l2 l3 l4 l5 : Value) (a : Nat) (j : Int32) (st : List Value) (M : Mm) (Q : Option Value → Mm → Prop), wp F_Md_ends 14 [l0, l1, l2, l3, l4, l5] (.int j :: .ref a :: st) M Q = (ixI M a j ∧ wp F_Md_ends 15 [l0, l1, l2, l3, l4, l5] (.int (gI M a (cl j)) :: st) M Q)) ∧
  (∀ (l0 l1 l2 l4 l5 : Value) (x : Int32) (st : List Value) (M : Mm) (Q : Option Value → Mm → Prop), wp F_Md_ends 15 [l0, l1, l2, .int x, l4, l5] st M Q = wp F_Md_ends 16 [l0, l1, l2, .int x, l4, l5] (.int x :: st) M Q) ∧
  (∀ (l0 l1 l2 l3 l4 l5 : Value) (x y : Int32) (st : List Value) (M : Mm) (Q : Option Value → Mm → Prop), wp F_Md_ends 16 [l0, l1, l2, l3, l4, l5] (.int y :: .int x :: st) M Q = if y < x then wp F_Md_ends 23 [l0, l1, l2, l3, l4, l5] st M Q else wp F_Md_ends 19 [l0, l1, l2, l3, l4, l5] st M Q) ∧
  (∀ (l0 l1 l2 l3 l4 l5 : Value) (st : List Value) (M : Mm) (Q : Option Value → Mm → Prop), wp F_Md_ends 19 [l0, l1, l2, l3, l4, l5] st M Q = wp F_Md_ends 20 [l0, l1, l2, l3, l4, l5] (.int 1 :: st) M Q) ∧
  (∀ (l0 l1 l2 l3 l4 l5 : Value) (st : List Value) (M : Mm) (Q : Option Value → Mm → Prop), wp F_Md_ends 20 [l0, l1, l2, l3, l4, l5] st M Q = wp F_Md_ends 24 [l0, l1, l2, l3, l4, l5] st M Q) := ⟨fun _ _ _ _ _ _ _ _ _ => wp_in d_Md_ends_0 rfl rfl, fun _ _ _ _ _ _ _ _ _ _ => wp_getA d_Md_ends_1 fl_12_152 rfl, fun _ _ _ _ _ _ _ _ _ => wp_in d_Md_ends_4 rfl rfl, fun _ _ _ _ _ _ _ _ _ _ _ => wp_bald d_Md_ends_5, fun _ _ _ _ _ _ _ _ _ _ => wp_if_eq d_Md_ends_6 rfl, fun _ _ _ _ _ _ _ _ _ => wp_in d_Md_ends_9 rfl rfl, fun _ _ _ _ _ _ _ _ _ _ => wp_getA d_Md_ends_10 fl_12_143 rfl, fun _ _ _ _ _ _ _ _ _ => wp_in d_Md_ends_13 rfl rfl, fun _ _ _ _ _ _ _ _ _ _ _ => wp_iald d_Md_ends_14, fun _ _ _ _ _ _ _ _ _ => wp_in d_Md_ends_15 rfl rfl, fun _ _ _ _ _ _ _ _ _ _ _ => wp_icmp_gt d_Md_ends_16 rfl, fun _ _ _ _ _ _ _ _ _ => wp_iconst d_Md_ends_19 (by decide), fun _ _ _ _ _ _ _ _ _ => wp_goto d_Md_ends_20 rfl⟩
theorem B_Md_ends_23 : (∀ (l0 l1 l2 l3 l4 l5 : Value) (st : List Value) (M : Mm) (Q : Option Value → Mm → Prop), wp F_Md_ends 23 [l0, l1, l2, l3, l4, l5] st M Q = wp F_Md_ends 24 [l0, l1, l2, l3, l4, l5] (.int 0 :: st) M Q) := fun _ _ _ _ _ _ _ _ _ => wp_iconst d_Md_ends_23 (by decide)
theorem B_Md_ends_24 : (∀ (l0 l1 l2 l3 l4 l5 : Value) (x : Int32) (st : List Value) (M : Mm) (Q : Option Value → Mm → Prop), wp F_Md_ends 24 [l0, l1, l2, l3, l4, l5] (.int x :: st) M Q = wp F_Md_ends 26 [l0, l1, l2, clr l3, .int x, l5] st M Q) ∧
  (∀ (l0 l1 l2 l3 l4 l5 : Value) (st : List Value) (M : Mm) (Q : Option Value → Mm → Prop), wp F_Md_ends 26 [l0, l1, l2, l3, l4, l5] st M Q = wp F_Md_ends 27 [l0, l1, l2, l3, l4, l5] (.int 0 :: st) M Q) ∧
  (∀ (l0 l1 l2 l3 l4 l5 : Value) (x : Int32) (st : List Value) (M : Mm) (Q : Option Value → Mm → Prop), wp F_Md_ends 27 [l0, l1, l2, l3, l4, l5] (.int x :: st) M Q = wp F_Md_ends 29 [l0, l1, l2, l3, clr l4, .int x] st M Q) := ⟨fun _ _ _ _ _ _ _ _ _ _ => wp_in d_Md_ends_24 rfl rfl, fun _ _ _ _ _ _ _ _ _ => wp_iconst d_Md_ends_26 (by decide), fun _ _ _ _ _ _ _ _ _ _ => wp_in d_Md_ends_27 rfl rfl⟩
theorem B_Md_ends_29 : (∀ (l0 l1 l2 l3 l4 : Value) (x : Int32) (st : List Value) (M : Mm) (Q : Option Value → Mm → Prop), wp F_Md_ends 29 [l0, l1, l2, l3, l4, .int x] st M Q = wp F_Md_ends 31 [l0, l1, l2, l3, l4, .int x] (.int x :: st) M Q) ∧
  (∀ (l1 l2 l3 l4 l5 : Value) (x : Nat) (st : List Value) (M : Mm) (Q : Option Value → Mm → Prop), wp F_Md_ends 31 [.ref x, l1, l2, l3, l4, l5] st M Q = wp F_Md_ends 32 [.ref x, l1, l2, l3, l4, l5] (.ref x :: st) M Q) ∧
  (∀ (l0 l1 l2 l3 l4 l5 : Value) (a : Nat) (st : List Value) (M : Mm) (Q : Option Value → Mm → Prop), wp F_Md_ends 32 [l0, l1, l2, l3, l4, l5] (.ref a :: st) M Q = (sh M a = some (.inl 12) ∧ wp F_Md_ends 35 [l0, l1, l2, l3, l4, l5] (va_rf (gR M a 17) :: st) M Q)) ∧
  (∀ (l0 l2 l3 l4 l5 : Value) (x : Int32) (st : List Value) (M : Mm) (Q : Option Value → Mm → Prop), wp F_Md_ends 35 [l0, .int x, l2, l3, l4, l5] st M Q = wp F_Md_ends 36 [l0, .int x, l2, l3, l4, l5] (.int x :: st) M Q) ∧
  (∀ (l0 l1 l2 l3 l4 l5 : Value) (a : Nat) (j : Int32) (st : List Value) (M : Mm) (Q : Option Value → Mm → Prop), wp F_Md_ends 36 [l0, l1, l2, l3, l4, l5] (.int j :: .ref a :: st) M Q = (ixI M a j ∧ wp F_Md_ends 37 [l0, l1, l2, l3, l4, l5] (.int (gI M a (cl j)) :: st) M Q)) ∧
  (∀ (l0 l1 l2 l3 l4 l5 : Value) (x y : Int32) (st : List Value) (M : Mm) (Q : Option Value → Mm → Prop), wp F_Md_ends 37 [l0, l1, l2, l3, l4, l5] (.int y :: .int x :: st) M Q = if y ≤ x then wp F_Md_ends 86 [l0, l1, l2, l3, l4, l5] st M Q else wp F_Md_ends 40 [l0, l1, l2, l3, l4, l5] st M Q) ∧
  (∀ (l0 l1 l2 l3 l5 : Value) (x : Int32) (st : List Value) (M : Mm) (Q : Option Value → Mm → Prop), wp F_Md_ends 40 [l0, l1, l2, l3, .int x, l5] st M Q = wp F_Md_ends 42 [l0, l1, l2, l3, .int x, l5] (.int x :: st) M Q) ∧
  (∀ (l0 l1 l2 l3 l4 l5 : Value) (x : Int32) (st : List Value) (M : Mm) (Q : Option Value → Mm → Prop), wp F_Md_ends 42 [l0, l1, l2, l3, l4, l5] (.int x :: st) M Q = if x = 0 then wp F_Md_ends 86 [l0, l1, l2, l3, l4, l5] st M Q else wp F_Md_ends 45 [l0, l1, l2, l3, l4, l5] st M Q) ∧
  (∀ (l1 l2 l3 l4 l5 : Value) (x : Nat) (st : List Value) (M : Mm) (Q : Option Value → Mm → Prop), wp F_Md_ends 45 [.ref x, l1, l2, l3, l4, l5] st M Q = wp F_Md_ends 46 [.ref x, l1, l2, l3, l4, l5] (.ref x :: st) M Q) ∧
  (∀ (l0 l1 l2 l3 l4 l5 : Value) (a : Nat) (st : List Value) (M : Mm) (Q : Option Value → Mm → Prop), wp F_Md_ends 46 [l0, l1, l2, l3, l4, l5] (.ref a :: st) M Q = (sh M a = some (.inl 12) ∧ wp F_Md_ends 49 [l0, l1, l2, l3, l4, l5] (va_rf (gR M a 16) :: st) M Q)) ∧
  (∀ (l0 l1 l2 l3 l4 l5 : Value) (st : List Value) (M : Mm) (Q : Option Value → Mm → Prop), wp F_Md_ends 49 [l0, l1, l2, l3, l4, l5] st M Q = wp F_Md_ends 51 [l0, l1, l2, l3, l4, l5] (.int 60 :: st) M Q) ∧
  (∀ (l0 l2 l3 l4 l5 : Value) (x : Int32) (st : List Value) (M : Mm) (Q : Option Value → Mm → Prop), wp F_Md_ends 51 [l0, .int x, l2, l3, l4, l5] st M Q = wp F_Md_ends 52 [l0, .int x, l2, l3, l4, l5] (.int x :: st) M Q) ∧
  (∀ (l0 l1 l2 l3 l4 l5 : Value) (x y : Int32) (st : List Value) (M : Mm) (Q : Option Value → Mm → Prop), wp F_Md_ends 52 [l0, l1, l2, l3, l4, l5] (.int y :: .int x :: st) M Q = wp F_Md_ends 53 [l0, l1, l2, l3, l4, l5] (.int (x * y) :: st) M Q) ∧
  (∀ (l0 l1 l2 l3 l4 : Value) (x : Int32) (st : List Value) (M : Mm) (Q : Option Value → Mm → Prop), wp F_Md_ends 53 [l0, l1, l2, l3, l4, .int x] st M Q = wp F_Md_ends 55 [l0, l1, l2, l3, l4, .int x] (.int x :: st) M Q) ∧
  (∀ (l0 l1 l2 l3 l4 l5 : Value) (x y : Int32) (st : List Value) (M : Mm) (Q : Option Value → Mm → Prop), wp F_Md_ends 55 [l0, l1, l2, l3, l4, l5] (.int y :: .int x :: st) M Q = wp F_Md_ends 56 [l0, l1, l2, l3, l4, l5] (.int (x + y) :: st) M Q) ∧
  (∀ (l0 l1 l2 l3 l4 l5 : Value) (a : Nat) (j : Int32) (st : List Value) (M : Mm) (Q : Option Value → Mm → Prop), wp F_Md_ends 56 [l0, l1, l2, l3, l4, l5] (.int j :: .ref a :: st) M Q = (ixI M a j ∧ wp F_Md_ends 57 [l0, l1, l2, l3, l4, l5] (.int (gI M a (cl j)) :: st) M Q)) ∧
  (∀ (l0 l1 l3 l4 l5 : Value) (x : Nat) (st : List Value) (M : Mm) (Q : Option Value → Mm → Prop), wp F_Md_ends 57 [l0, l1, .ref x, l3, l4, l5] st M Q = wp F_Md_ends 58 [l0, l1, .ref x, l3, l4, l5] (.ref x :: st) M Q) ∧
  (∀ (l0 l1 l3 l4 l5 : Value) (st : List Value) (M : Mm) (Q : Option Value → Mm → Prop), wp F_Md_ends 57 [l0, l1, .null, l3, l4, l5] st M Q = wp F_Md_ends 58 [l0, l1, .null, l3, l4, l5] (.null :: st) M Q) ∧
  (∀ (l0 l1 l2 l4 l5 : Value) (x : Int32) (st : List Value) (M : Mm) (Q : Option Value → Mm → Prop), wp F_Md_ends 58 [l0, l1, l2, .int x, l4, l5] st M Q = wp F_Md_ends 59 [l0, l1, l2, .int x, l4, l5] (.int x :: st) M Q) ∧
  (∀ (l1 l2 l3 l4 l5 : Value) (x : Nat) (st : List Value) (M : Mm) (Q : Option Value → Mm → Prop), wp F_Md_ends 59 [.ref x, l1, l2, l3, l4, l5] st M Q = wp F_Md_ends 60 [.ref x, l1, l2, l3, l4, l5] (.ref x :: st) M Q) ∧
  (∀ (l0 l1 l2 l3 l4 l5 : Value) (a : Nat) (st : List Value) (M : Mm) (Q : Option Value → Mm → Prop), wp F_Md_ends 60 [l0, l1, l2, l3, l4, l5] (.ref a :: st) M Q = (sh M a = some (.inl 12) ∧ wp F_Md_ends 63 [l0, l1, l2, l3, l4, l5] (va_rf (gR M a 17) :: st) M Q)) ∧
  (∀ (l0 l2 l3 l4 l5 : Value) (x : Int32) (st : List Value) (M : Mm) (Q : Option Value → Mm → Prop), wp F_Md_ends 63 [l0, .int x, l2, l3, l4, l5] st M Q = wp F_Md_ends 64 [l0, .int x, l2, l3, l4, l5] (.int x :: st) M Q) ∧
  (∀ (l0 l1 l2 l3 l4 l5 : Value) (a : Nat) (j : Int32) (st : List Value) (M : Mm) (Q : Option Value → Mm → Prop), wp F_Md_ends 64 [l0, l1, l2, l3, l4, l5] (.int j :: .ref a :: st) M Q = (ixI M a j ∧ wp F_Md_ends 65 [l0, l1, l2, l3, l4, l5] (.int (gI M a (cl j)) :: st) M Q)) ∧
  (∀ (l0 l1 l2 l3 l4 l5 : Value) (x y : Int32) (st : List Value) (M : Mm) (Q : Option Value → Mm → Prop), wp F_Md_ends 65 [l0, l1, l2, l3, l4, l5] (.int y :: .int x :: st) M Q = wp F_Md_ends 66 [l0, l1, l2, l3, l4, l5] (.int (x - y) :: st) M Q) ∧
  (∀ (l0 l1 l2 l3 l4 : Value) (x : Int32) (st : List Value) (M : Mm) (Q : Option Value → Mm → Prop), wp F_Md_ends 66 [l0, l1, l2, l3, l4, .int x] st M Q = wp F_Md_ends 68 [l0, l1, l2, l3, l4, .int x] (.int x :: st) M Q) ∧
  (∀ (l0 l1 l2 l3 l4 l5 : Value) (x y : Int32) (st : List Value) (M : Mm) (Q : Option Value → Mm → Prop), wp F_Md_ends 68 [l0, l1, l2, l3, l4, l5] (.int y :: .int x :: st) M Q = wp F_Md_ends 69 [l0, l1, l2, l3, l4, l5] (.int (x + y) :: st) M Q) ∧
  (∀ (l0 l1 l2 l3 l4 l5 : Value) (a : Nat) (j : Int32) (st : List Value) (M : Mm) (Q : Option Value → Mm → Prop), wp F_Md_ends 69 [l0, l1, l2, l3, l4, l5] (.int j :: .ref a :: st) M Q = (ixI M a j ∧ wp F_Md_ends 70 [l0, l1, l2, l3, l4, l5] (.int (gI M a (cl j)) :: st) M Q)) ∧
  (∀ (l0 l1 l2 l3 l4 l5 : Value) (x y : Int32) (st : List Value) (M : Mm) (Q : Option Value → Mm → Prop), wp F_Md_ends 70 [l0, l1, l2, l3, l4, l5] (.int y :: .int x :: st) M Q = if x = y then wp F_Md_ends 73 [l0, l1, l2, l3, l4, l5] st M Q else wp F_Md_ends 77 [l0, l1, l2, l3, l4, l5] st M Q) ∧
  (∀ (l0 l1 l2 l3 l4 l5 : Value) (st : List Value) (M : Mm) (Q : Option Value → Mm → Prop), wp F_Md_ends 73 [l0, l1, l2, l3, l4, l5] st M Q = wp F_Md_ends 74 [l0, l1, l2, l3, l4, l5] (.int 1 :: st) M Q) ∧
  (∀ (l0 l1 l2 l3 l4 l5 : Value) (st : List Value) (M : Mm) (Q : Option Value → Mm → Prop), wp F_Md_ends 74 [l0, l1, l2, l3, l4, l5] st M Q = wp F_Md_ends 78 [l0, l1, l2, l3, l4, l5] st M Q) := ⟨fun _ _ _ _ _ _ _ _ _ => wp_in d_Md_ends_29 rfl rfl, fun _ _ _ _ _ _ _ _ _ => wp_in d_Md_ends_31 rfl rfl, fun _ _ _ _ _ _ _ _ _ _ => wp_getA d_Md_ends_32 fl_12_143 rfl, fun _ _ _ _ _ _ _ _ _ => wp_in d_Md_ends_35 rfl rfl, fun _ _ _ _ _ _ _ _ _ _ _ => wp_iald d_Md_ends_36, fun _ _ _ _ _ _ _ _ _ _ _ => wp_icmp_ge d_Md_ends_37 rfl, fun _ _ _ _ _ _ _ _ _ => wp_in d_Md_ends_40 rfl rfl, fun _ _ _ _ _ _ _ _ _ _ => wp_if_eq d_Md_ends_42 rfl, fun _ _ _ _ _ _ _ _ _ => wp_in d_Md_ends_45 rfl rfl, fun _ _ _ _ _ _ _ _ _ _ => wp_getA d_Md_ends_46 fl_12_140 rfl, fun _ _ _ _ _ _ _ _ _ => wp_bipush d_Md_ends_49 (by decide), fun _ _ _ _ _ _ _ _ _ => wp_in d_Md_ends_51 rfl rfl, fun _ _ _ _ _ _ _ _ _ _ _ => wp_in d_Md_ends_52 rfl rfl, fun _ _ _ _ _ _ _ _ _ => wp_in d_Md_ends_53 rfl rfl, fun _ _ _ _ _ _ _ _ _ _ _ => wp_in d_Md_ends_55 rfl rfl, fun _ _ _ _ _ _ _ _ _ _ _ => wp_iald d_Md_ends_56, fun _ _ _ _ _ _ _ _ _ => wp_in d_Md_ends_57 rfl rfl, fun _ _ _ _ _ _ _ _ => wp_in d_Md_ends_57 rfl rfl, fun _ _ _ _ _ _ _ _ _ => wp_in d_Md_ends_58 rfl rfl, fun _ _ _ _ _ _ _ _ _ => wp_in d_Md_ends_59 rfl rfl, fun _ _ _ _ _ _ _ _ _ _ => wp_getA d_Md_ends_60 fl_12_143 rfl, fun _ _ _ _ _ _ _ _ _ => wp_in d_Md_ends_63 rfl rfl, fun _ _ _ _ _ _ _ _ _ _ _ => wp_iald d_Md_ends_64, fun _ _ _ _ _ _ _ _ _ _ _ => wp_in d_Md_ends_65 rfl rfl, fun _ _ _ _ _ _ _ _ _ => wp_in d_Md_ends_66 rfl rfl, fun _ _ _ _ _ _ _ _ _ _ _ => wp_in d_Md_ends_68 rfl rfl, fun _ _ _ _ _ _ _ _ _ _ _ => wp_iald d_Md_ends_69, fun _ _ _ _ _ _ _ _ _ _ _ => wp_icmp_ne d_Md_ends_70 rfl, fun _ _ _ _ _ _ _ _ _ => wp_iconst d_Md_ends_73 (by decide), fun _ _ _ _ _ _ _ _ _ => wp_goto d_Md_ends_74 rfl⟩
theorem B_Md_ends_77 : (∀ (l0 l1 l2 l3 l4 l5 : Value) (st : List Value) (M : Mm) (Q : Option Value → Mm → Prop), wp F_Md_ends 77 [l0, l1, l2, l3, l4, l5] st M Q = wp F_Md_ends 78 [l0, l1, l2, l3, l4, l5] (.int 0 :: st) M Q) := fun _ _ _ _ _ _ _ _ _ => wp_iconst d_Md_ends_77 (by decide)
theorem B_Md_ends_78 : (∀ (l0 l1 l2 l3 l4 l5 : Value) (x : Int32) (st : List Value) (M : Mm) (Q : Option Value → Mm → Prop), wp F_Md_ends 78 [l0, l1, l2, l3, l4, l5] (.int x :: st) M Q = wp F_Md_ends 80 [l0, l1, l2, clr l3, .int x, l5] st M Q) ∧
  (∀ (l0 l1 l2 l3 l4 : Value) (x : Int32) (st : List Value) (M : Mm) (Q : Option Value → Mm → Prop), wp F_Md_ends 80 [l0, l1, l2, l3, l4, .int x] st M Q = wp F_Md_ends 83 [l0, l1, l2, l3, clr l4, .int (x + 1)] st M Q) := ⟨fun _ _ _ _ _ _ _ _ _ _ => wp_in d_Md_ends_78 rfl rfl, fun _ _ _ _ _ _ _ _ _ => wp_iinc d_Md_ends_80 (by decide) rfl rfl⟩
theorem B_Md_ends_86 : (∀ (l0 l1 l2 l3 l5 : Value) (x : Int32) (st : List Value) (M : Mm) (Q : Option Value → Mm → Prop), wp F_Md_ends 86 [l0, l1, l2, l3, .int x, l5] st M Q = wp F_Md_ends 88 [l0, l1, l2, l3, .int x, l5] (.int x :: st) M Q) ∧
  (∀ (l0 l1 l2 l3 l4 l5 : Value) (v : Int32) (M : Mm) (Q : Option Value → Mm → Prop), wp F_Md_ends 88 [l0, l1, l2, l3, l4, l5] [.int v] M Q = ((v = 0 ∨ v = 1) ∧ Q (some (.int v)) M)) := ⟨fun _ _ _ _ _ _ _ _ _ => wp_in d_Md_ends_86 rfl rfl, fun _ _ _ _ _ _ _ _ _ => wp_retZ d_Md_ends_88 rfl⟩
theorem G_Md_ends_83 (l0 l1 l2 l3 l4 l5 : Value) (st : List Value) (M : Mm) (Q : Option Value → Mm → Prop) : wp F_Md_ends 83 [l0, l1, l2, l3, l4, l5] st M Q = wp F_Md_ends 29 [l0, l1, l2, l3, l4, l5] st M Q := wp_goto d_Md_ends_83 rfl
theorem d_Md_endsAt_0 : decode (fnB F_Md_endsAt) 0 = .ok (.iconst 0, 1) := by decide +kernel
theorem d_Md_endsAt_1 : decode (fnB F_Md_endsAt) 1 = .ok (.istore_n 3, 1) := by decide +kernel
theorem d_Md_endsAt_2 : decode (fnB F_Md_endsAt) 2 = .ok (.iload_n 3, 1) := by decide +kernel
theorem d_Md_endsAt_3 : decode (fnB F_Md_endsAt) 3 = .ok (.aload_n 0, 1) := by decide +kernel
theorem d_Md_endsAt_4 : decode (fnB F_Md_endsAt) 4 = .ok (.getfield 87, 3) := by decide +kernel
theorem d_Md_endsAt_7 : decode (fnB F_Md_endsAt) 7 = .ok (.if_icmp .ge 21, 3) := by decide +kernel
theorem d_Md_endsAt_10 : decode (fnB F_Md_endsAt) 10 = .ok (.aload_n 0, 1) := by decide +kernel
theorem d_Md_endsAt_11 : decode (fnB F_Md_endsAt) 11 = .ok (.iload_n 3, 1) := by decide +kernel
theorem d_Md_endsAt_12 : decode (fnB F_Md_endsAt) 12 = .ok (.aload_n 1, 1) := by decide +kernel
theorem d_Md_endsAt_13 : decode (fnB F_Md_endsAt) 13 = .ok (.iload_n 2, 1) := by decide +kernel
theorem d_Md_endsAt_14 : decode (fnB F_Md_endsAt) 14 = .ok (.invokevirtual 202, 3) := by decide +kernel
theorem d_Md_endsAt_17 : decode (fnB F_Md_endsAt) 17 = .ok (.ifCond .eq 5, 3) := by decide +kernel
theorem d_Md_endsAt_20 : decode (fnB F_Md_endsAt) 20 = .ok (.iload_n 3, 1) := by decide +kernel
theorem d_Md_endsAt_21 : decode (fnB F_Md_endsAt) 21 = .ok (.ireturn, 1) := by decide +kernel
theorem d_Md_endsAt_22 : decode (fnB F_Md_endsAt) 22 = .ok (.iinc 3 1, 3) := by decide +kernel
theorem d_Md_endsAt_25 : decode (fnB F_Md_endsAt) 25 = .ok (.goto (-23), 3) := by decide +kernel
theorem d_Md_endsAt_28 : decode (fnB F_Md_endsAt) 28 = .ok (.iconst (-1), 1) := by decide +kernel
theorem d_Md_endsAt_29 : decode (fnB F_Md_endsAt) 29 = .ok (.ireturn, 1) := by decide +kernel
theorem B_Md_endsAt_0 : (∀ (l0 l1 l2 l3 : Value) (st : List Value) (M : Mm) (Q : Option Value → Mm → Prop), wp F_Md_endsAt 0 [l0, l1, l2, l3] st M Q = wp F_Md_endsAt 1 [l0, l1, l2, l3] (.int 0 :: st) M Q) ∧
  (∀ (l0 l1 l2 l3 : Value) (x : Int32) (st : List Value) (M : Mm) (Q : Option Value → Mm → Prop), wp F_Md_endsAt 1 [l0, l1, l2, l3] (.int x :: st) M Q = wp F_Md_endsAt 2 [l0, l1, clr l2, .int x] st M Q) := ⟨fun _ _ _ _ _ _ _ => wp_iconst d_Md_endsAt_0 (by decide), fun _ _ _ _ _ _ _ _ => wp_in d_Md_endsAt_1 rfl rfl⟩
theorem B_Md_endsAt_2 : (∀ (l0 l1 l2 : Value) (x : Int32) (st : List Value) (M : Mm) (Q : Option Value → Mm → Prop), wp F_Md_endsAt 2 [l0, l1, l2, .int x] st M Q = wp F_Md_endsAt 3 [l0, l1, l2, .int x] (.int x :: st) M Q) ∧
  (∀ (l1 l2 l3 : Value) (x : Nat) (st : List Value) (M : Mm) (Q : Option Value → Mm → Prop), wp F_Md_endsAt 3 [.ref x, l1, l2, l3] st M Q = wp F_Md_endsAt 4 [.ref x, l1, l2, l3] (.ref x :: st) M Q) ∧
  (∀ (l0 l1 l2 l3 : Value) (a : Nat) (st : List Value) (M : Mm) (Q : Option Value → Mm → Prop), wp F_Md_endsAt 4 [l0, l1, l2, l3] (.ref a :: st) M Q = (sh M a = some (.inl 12) ∧ wp F_Md_endsAt 7 [l0, l1, l2, l3] (.int (gI M a 21) :: st) M Q)) ∧
  (∀ (l0 l1 l2 l3 : Value) (x y : Int32) (st : List Value) (M : Mm) (Q : Option Value → Mm → Prop), wp F_Md_endsAt 7 [l0, l1, l2, l3] (.int y :: .int x :: st) M Q = if y ≤ x then wp F_Md_endsAt 28 [l0, l1, l2, l3] st M Q else wp F_Md_endsAt 10 [l0, l1, l2, l3] st M Q) ∧
  (∀ (l1 l2 l3 : Value) (x : Nat) (st : List Value) (M : Mm) (Q : Option Value → Mm → Prop), wp F_Md_endsAt 10 [.ref x, l1, l2, l3] st M Q = wp F_Md_endsAt 11 [.ref x, l1, l2, l3] (.ref x :: st) M Q) ∧
  (∀ (l0 l1 l2 : Value) (x : Int32) (st : List Value) (M : Mm) (Q : Option Value → Mm → Prop), wp F_Md_endsAt 11 [l0, l1, l2, .int x] st M Q = wp F_Md_endsAt 12 [l0, l1, l2, .int x] (.int x :: st) M Q) ∧
  (∀ (l0 l2 l3 : Value) (x : Nat) (st : List Value) (M : Mm) (Q : Option Value → Mm → Prop), wp F_Md_endsAt 12 [l0, .ref x, l2, l3] st M Q = wp F_Md_endsAt 13 [l0, .ref x, l2, l3] (.ref x :: st) M Q) ∧
  (∀ (l0 l2 l3 : Value) (st : List Value) (M : Mm) (Q : Option Value → Mm → Prop), wp F_Md_endsAt 12 [l0, .null, l2, l3] st M Q = wp F_Md_endsAt 13 [l0, .null, l2, l3] (.null :: st) M Q) ∧
  (∀ (l0 l1 l3 : Value) (x : Int32) (st : List Value) (M : Mm) (Q : Option Value → Mm → Prop), wp F_Md_endsAt 13 [l0, l1, .int x, l3] st M Q = wp F_Md_endsAt 14 [l0, l1, .int x, l3] (.int x :: st) M Q) ∧
  (∀ (l0 l1 l2 l3 : Value) (b : Nat) (p0 : Int32) (p1 : Nat) (p2 : Int32) (M : Mm) (Q : Option Value → Mm → Prop), wp F_Md_endsAt 14 [l0, l1, l2, l3] [.int p2, .ref p1, .int p0, .ref b] M Q = (sh M b = some (.inl 12) ∧ wp F_Md_ends 0 [.ref b, .int p0, .ref p1, .int p2, jk, jk] [] M (fun r M1 => wp F_Md_endsAt 17 [l0, l1, l2, l3] (r.toList ++ []) M1 Q))) ∧
  (∀ (l0 l1 l2 l3 : Value) (x : Int32) (st : List Value) (M : Mm) (Q : Option Value → Mm → Prop), wp F_Md_endsAt 17 [l0, l1, l2, l3] (.int x :: st) M Q = if x = 0 then wp F_Md_endsAt 22 [l0, l1, l2, l3] st M Q else wp F_Md_endsAt 20 [l0, l1, l2, l3] st M Q) ∧
  (∀ (l0 l1 l2 : Value) (x : Int32) (st : List Value) (M : Mm) (Q : Option Value → Mm → Prop), wp F_Md_endsAt 20 [l0, l1, l2, .int x] st M Q = wp F_Md_endsAt 21 [l0, l1, l2, .int x] (.int x :: st) M Q) ∧
  (∀ (l0 l1 l2 l3 : Value) (v : Int32) (M : Mm) (Q : Option Value → Mm → Prop), wp F_Md_endsAt 21 [l0, l1, l2, l3] [.int v] M Q = Q (some (.int v)) M) := ⟨fun _ _ _ _ _ _ _ => wp_in d_Md_endsAt_2 rfl rfl, fun _ _ _ _ _ _ _ => wp_in d_Md_endsAt_3 rfl rfl, fun _ _ _ _ _ _ _ _ => wp_getI d_Md_endsAt_4 fl_12_87 rfl, fun _ _ _ _ _ _ _ _ _ => wp_icmp_ge d_Md_endsAt_7 rfl, fun _ _ _ _ _ _ _ => wp_in d_Md_endsAt_10 rfl rfl, fun _ _ _ _ _ _ _ => wp_in d_Md_endsAt_11 rfl rfl, fun _ _ _ _ _ _ _ => wp_in d_Md_endsAt_12 rfl rfl, fun _ _ _ _ _ _ => wp_in d_Md_endsAt_12 rfl rfl, fun _ _ _ _ _ _ _ => wp_in d_Md_endsAt_13 rfl rfl, fun _ _ _ _ _ _ _ _ _ _ => wp_callV d_Md_endsAt_14 ml_12_202 rfl rfl rfl, fun _ _ _ _ _ _ _ _ => wp_if_eq d_Md_endsAt_17 rfl, fun _ _ _ _ _ _ _ => wp_in d_Md_endsAt_20 rfl rfl, fun _ _ _ _ _ _ _ => wp_retI d_Md_endsAt_21 rfl⟩
theorem B_Md_endsAt_22 : (∀ (l0 l1 l2 : Value) (x : Int32) (st : List Value) (M : Mm) (Q : Option Value → Mm → Prop), wp F_Md_endsAt 22 [l0, l1, l2, .int x] st M Q = wp F_Md_endsAt 25 [l0, l1, clr l2, .int (x + 1)] st M Q) := fun _ _ _ _ _ _ _ => wp_iinc d_Md_endsAt_22 (by decide) rfl rfl
theorem B_Md_endsAt_28 : (∀ (l0 l1 l2 l3 : Value) (st : List Value) (M : Mm) (Q : Option Value → Mm → Prop), wp F_Md_endsAt 28 [l0, l1, l2, l3] st M Q = wp F_Md_endsAt 29 [l0, l1, l2, l3] (.int (-1) :: st) M Q) ∧
  (∀ (l0 l1 l2 l3 : Value) (v : Int32) (M : Mm) (Q : Option Value → Mm → Prop), wp F_Md_endsAt 29 [l0, l1, l2, l3] [.int v] M Q = Q (some (.int v)) M) := ⟨fun _ _ _ _ _ _ _ => wp_iconst d_Md_endsAt_28 (by decide), fun _ _ _ _ _ _ _ => wp_retI d_Md_endsAt_29 rfl⟩
theorem G_Md_endsAt_25 (l0 l1 l2 l3 : Value) (st : List Value) (M : Mm) (Q : Option Value → Mm → Prop) : wp F_Md_endsAt 25 [l0, l1, l2, l3] st M Q = wp F_Md_endsAt 2 [l0, l1, l2, l3] st M Q := wp_goto d_Md_endsAt_25 rfl
