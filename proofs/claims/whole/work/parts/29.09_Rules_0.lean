theorem d_Rules_init_0 : decode (fnB F_Rules_init) 0 = .ok (.aload_n 0, 1) := by decide +kernel
theorem d_Rules_init_1 : decode (fnB F_Rules_init) 1 = .ok (.invokespecial 3, 3) := by decide +kernel
theorem d_Rules_init_4 : decode (fnB F_Rules_init) 4 = .ok (.aload_n 0, 1) := by decide +kernel
theorem d_Rules_init_5 : decode (fnB F_Rules_init) 5 = .ok (.sipush 200, 3) := by decide +kernel
theorem d_Rules_init_8 : decode (fnB F_Rules_init) 8 = .ok (.anewarray 9, 3) := by decide +kernel
theorem d_Rules_init_11 : decode (fnB F_Rules_init) 11 = .ok (.putfield 11, 3) := by decide +kernel
theorem d_Rules_init_14 : decode (fnB F_Rules_init) 14 = .ok (.aload_n 0, 1) := by decide +kernel
theorem d_Rules_init_15 : decode (fnB F_Rules_init) 15 = .ok (.iconst 1, 1) := by decide +kernel
theorem d_Rules_init_16 : decode (fnB F_Rules_init) 16 = .ok (.putfield 17, 3) := by decide +kernel
theorem d_Rules_init_19 : decode (fnB F_Rules_init) 19 = .ok (.iconst 0, 1) := by decide +kernel
theorem d_Rules_init_20 : decode (fnB F_Rules_init) 20 = .ok (.istore_n 1, 1) := by decide +kernel
theorem d_Rules_init_21 : decode (fnB F_Rules_init) 21 = .ok (.iload_n 1, 1) := by decide +kernel
theorem d_Rules_init_22 : decode (fnB F_Rules_init) 22 = .ok (.sipush 200, 3) := by decide +kernel
theorem d_Rules_init_25 : decode (fnB F_Rules_init) 25 = .ok (.if_icmp .ge 22, 3) := by decide +kernel
theorem d_Rules_init_28 : decode (fnB F_Rules_init) 28 = .ok (.aload_n 0, 1) := by decide +kernel
theorem d_Rules_init_29 : decode (fnB F_Rules_init) 29 = .ok (.getfield 11, 3) := by decide +kernel
theorem d_Rules_init_32 : decode (fnB F_Rules_init) 32 = .ok (.iload_n 1, 1) := by decide +kernel
theorem d_Rules_init_33 : decode (fnB F_Rules_init) 33 = .ok (.new 9, 3) := by decide +kernel
theorem d_Rules_init_36 : decode (fnB F_Rules_init) 36 = .ok (.dup, 1) := by decide +kernel
theorem d_Rules_init_37 : decode (fnB F_Rules_init) 37 = .ok (.invokespecial 21, 3) := by decide +kernel
theorem d_Rules_init_40 : decode (fnB F_Rules_init) 40 = .ok (.aastore, 1) := by decide +kernel
theorem d_Rules_init_41 : decode (fnB F_Rules_init) 41 = .ok (.iinc 1 1, 3) := by decide +kernel
theorem d_Rules_init_44 : decode (fnB F_Rules_init) 44 = .ok (.goto (-23), 3) := by decide +kernel
theorem d_Rules_init_47 : decode (fnB F_Rules_init) 47 = .ok (.return_, 1) := by decide +kernel
theorem B_Rules_init_0 : (∀ (l1 : Value) (x : Nat) (st : List Value) (M : Mm) (Q : Option Value → Mm → Prop), wp F_Rules_init 0 [.ref x, l1] st M Q = wp F_Rules_init 1 [.ref x, l1] (.ref x :: st) M Q) ∧
  (∀ (l0 l1 : Value) (a : Nat) (M : Mm) (Q : Option Value → Mm → Prop), wp F_Rules_init 1 [l0, l1] [.ref a] M Q = wp F_Rules_init 4 [l0, l1] [] M Q) ∧
  (∀ (l1 : Value) (x : Nat) (st : List Value) (M : Mm) (Q : Option Value → Mm → Prop), wp F_Rules_init 4 [.ref x, l1] st M Q = wp F_Rules_init 5 [.ref x, l1] (.ref x :: st) M Q) ∧
  (∀ (l0 l1 : Value) (st : List Value) (M : Mm) (Q : Option Value → Mm → Prop), wp F_Rules_init 5 [l0, l1] st M Q = wp F_Rules_init 8 [l0, l1] (.int 200 :: st) M Q) ∧
  (∀ (l0 l1 : Value) (n : Int32) (st : List Value) (M : Mm) (Q : Option Value → Mm → Prop), wp F_Rules_init 8 [l0, l1] (.int n :: st) M Q = ((¬ n < 0 ∧ cl n ≤ 16777216) ∧ wp F_Rules_init 11 [l0, l1] (.ref (nxt M) :: st) (nw M (.inr (11, cl n)) (cl n)) Q)) ∧
  (∀ (l0 l1 : Value) (a x : Nat) (st : List Value) (M : Mm) (Q : Option Value → Mm → Prop), wp F_Rules_init 11 [l0, l1] (.ref x :: .ref a :: st) M Q = (sh M a = some (.inl 9) ∧ wp F_Rules_init 14 [l0, l1] st (sR M a 0 (some x)) Q)) ∧
  (∀ (l1 : Value) (x : Nat) (st : List Value) (M : Mm) (Q : Option Value → Mm → Prop), wp F_Rules_init 14 [.ref x, l1] st M Q = wp F_Rules_init 15 [.ref x, l1] (.ref x :: st) M Q) ∧
  (∀ (l0 l1 : Value) (st : List Value) (M : Mm) (Q : Option Value → Mm → Prop), wp F_Rules_init 15 [l0, l1] st M Q = wp F_Rules_init 16 [l0, l1] (.int 1 :: st) M Q) ∧
  (∀ (l0 l1 : Value) (a : Nat) (x : Int32) (st : List Value) (M : Mm) (Q : Option Value → Mm → Prop), wp F_Rules_init 16 [l0, l1] (.int x :: .ref a :: st) M Q = ((x = 0 ∨ x = 1) ∧ sh M a = some (.inl 9) ∧ wp F_Rules_init 19 [l0, l1] st (sI M a 3 x) Q)) ∧
  (∀ (l0 l1 : Value) (st : List Value) (M : Mm) (Q : Option Value → Mm → Prop), wp F_Rules_init 19 [l0, l1] st M Q = wp F_Rules_init 20 [l0, l1] (.int 0 :: st) M Q) ∧
  (∀ (l0 l1 : Value) (x : Int32) (st : List Value) (M : Mm) (Q : Option Value → Mm → Prop), wp F_Rules_init 20 [l0, l1] (.int x :: st) M Q = wp F_Rules_init 21 [clr l0, .int x] st M Q) := ⟨fun _ _ _ _ _ => wp_in d_Rules_init_0 rfl rfl, fun _ _ _ _ _ => wp_obj d_Rules_init_1 ml_9_3 (Nat.le_of_ble_eq_true rfl), fun _ _ _ _ _ => wp_in d_Rules_init_4 rfl rfl, fun _ _ _ _ _ => wp_sipush d_Rules_init_5 (by decide), fun _ _ _ _ _ _ => wp_anew d_Rules_init_8 al_9_9, fun _ _ _ _ _ _ _ => wp_putRA d_Rules_init_11 fl_9_11 rfl rfl, fun _ _ _ _ _ => wp_in d_Rules_init_14 rfl rfl, fun _ _ _ _ _ => wp_iconst d_Rules_init_15 (by decide), fun _ _ _ _ _ _ _ => wp_putZ d_Rules_init_16 fl_9_17 rfl rfl, fun _ _ _ _ _ => wp_iconst d_Rules_init_19 (by decide), fun _ _ _ _ _ _ => wp_in d_Rules_init_20 rfl rfl⟩
theorem B_Rules_init_21 : (∀ (l0 : Value) (x : Int32) (st : List Value) (M : Mm) (Q : Option Value → Mm → Prop), wp F_Rules_init 21 [l0, .int x] st M Q = wp F_Rules_init 22 [l0, .int x] (.int x :: st) M Q) ∧
  (∀ (l0 l1 : Value) (st : List Value) (M : Mm) (Q : Option Value → Mm → Prop), wp F_Rules_init 22 [l0, l1] st M Q = wp F_Rules_init 25 [l0, l1] (.int 200 :: st) M Q) ∧
  (∀ (l0 l1 : Value) (x y : Int32) (st : List Value) (M : Mm) (Q : Option Value → Mm → Prop), wp F_Rules_init 25 [l0, l1] (.int y :: .int x :: st) M Q = if y ≤ x then wp F_Rules_init 47 [l0, l1] st M Q else wp F_Rules_init 28 [l0, l1] st M Q) ∧
  (∀ (l1 : Value) (x : Nat) (st : List Value) (M : Mm) (Q : Option Value → Mm → Prop), wp F_Rules_init 28 [.ref x, l1] st M Q = wp F_Rules_init 29 [.ref x, l1] (.ref x :: st) M Q) ∧
  (∀ (l0 l1 : Value) (a : Nat) (st : List Value) (M : Mm) (Q : Option Value → Mm → Prop), wp F_Rules_init 29 [l0, l1] (.ref a :: st) M Q = (sh M a = some (.inl 9) ∧ wp F_Rules_init 32 [l0, l1] (va_rf (gR M a 0) :: st) M Q)) ∧
  (∀ (l0 : Value) (x : Int32) (st : List Value) (M : Mm) (Q : Option Value → Mm → Prop), wp F_Rules_init 32 [l0, .int x] st M Q = wp F_Rules_init 33 [l0, .int x] (.int x :: st) M Q) ∧
  (∀ (l0 l1 : Value) (st : List Value) (M : Mm) (Q : Option Value → Mm → Prop), wp F_Rules_init 33 [l0, l1] st M Q = wp F_Rules_init 36 [l0, l1] (.ref (nxt M) :: st) (nw M (.inl 8) 3) Q) ∧
  (∀ (l0 l1 : Value) (x : Nat) (st : List Value) (M : Mm) (Q : Option Value → Mm → Prop), wp F_Rules_init 36 [l0, l1] (.ref x :: st) M Q = wp F_Rules_init 37 [l0, l1] (.ref x :: .ref x :: st) M Q) ∧
  (∀ (l0 l1 : Value) (b : Nat) (r0 r1 r2 : Value) (M : Mm) (Q : Option Value → Mm → Prop), wp F_Rules_init 37 [l0, l1] [.ref b, r0, r1, r2] M Q = wp F_Rule_init 0 [.ref b] [] M (fun r M1 => wp F_Rules_init 40 [l0, l1] (r.toList ++ [r0, r1, r2]) M1 Q)) ∧
  (∀ (l0 l1 : Value) (a v : Nat) (j : Int32) (st : List Value) (M : Mm) (Q : Option Value → Mm → Prop), wp F_Rules_init 40 [l0, l1] (.ref v :: .int j :: .ref a :: st) M Q = ((∃ kd n c, sh M a = some (.inr (kd, n)) ∧ sh M v = some (.inl c) ∧ lk aO 0 kd = some c ∧ inb j n = true) ∧ wp F_Rules_init 41 [l0, l1] st (sR M a (cl j) (some v)) Q)) ∧
  (∀ (l0 : Value) (x : Int32) (st : List Value) (M : Mm) (Q : Option Value → Mm → Prop), wp F_Rules_init 41 [l0, .int x] st M Q = wp F_Rules_init 44 [clr l0, .int (x + 1)] st M Q) := ⟨fun _ _ _ _ _ => wp_in d_Rules_init_21 rfl rfl, fun _ _ _ _ _ => wp_sipush d_Rules_init_22 (by decide), fun _ _ _ _ _ _ _ => wp_icmp_ge d_Rules_init_25 rfl, fun _ _ _ _ _ => wp_in d_Rules_init_28 rfl rfl, fun _ _ _ _ _ _ => wp_getA d_Rules_init_29 fl_9_11 rfl, fun _ _ _ _ _ => wp_in d_Rules_init_32 rfl rfl, fun _ _ _ _ _ => wp_new d_Rules_init_33 nl_9_9, fun _ _ _ _ _ _ => wp_in d_Rules_init_36 rfl rfl, fun _ _ _ _ _ _ _ _ => wp_callI d_Rules_init_37 (Or.inr ml_9_21) rfl rfl rfl, fun _ _ _ _ _ _ _ _ => wp_aast d_Rules_init_40, fun _ _ _ _ _ => wp_iinc d_Rules_init_41 (by decide) rfl rfl⟩
theorem B_Rules_init_47 : (∀ (l0 l1 : Value) (M : Mm) (Q : Option Value → Mm → Prop), wp F_Rules_init 47 [l0, l1] [] M Q = Q none M) := fun _ _ _ _ => wp_retV d_Rules_init_47 rfl
theorem G_Rules_init_44 (l0 l1 : Value) (st : List Value) (M : Mm) (Q : Option Value → Mm → Prop) : wp F_Rules_init 44 [l0, l1] st M Q = wp F_Rules_init 21 [l0, l1] st M Q := wp_goto d_Rules_init_44 rfl
theorem d_Rules_begin_0 : decode (fnB F_Rules_begin) 0 = .ok (.aload_n 0, 1) := by decide +kernel
theorem d_Rules_begin_1 : decode (fnB F_Rules_begin) 1 = .ok (.iconst 0, 1) := by decide +kernel
theorem d_Rules_begin_2 : decode (fnB F_Rules_begin) 2 = .ok (.putfield 22, 3) := by decide +kernel
theorem d_Rules_begin_5 : decode (fnB F_Rules_begin) 5 = .ok (.aload_n 0, 1) := by decide +kernel
theorem d_Rules_begin_6 : decode (fnB F_Rules_begin) 6 = .ok (.iload_n 1, 1) := by decide +kernel
theorem d_Rules_begin_7 : decode (fnB F_Rules_begin) 7 = .ok (.putfield 26, 3) := by decide +kernel
theorem d_Rules_begin_10 : decode (fnB F_Rules_begin) 10 = .ok (.aload_n 0, 1) := by decide +kernel
theorem d_Rules_begin_11 : decode (fnB F_Rules_begin) 11 = .ok (.iconst 1, 1) := by decide +kernel
theorem d_Rules_begin_12 : decode (fnB F_Rules_begin) 12 = .ok (.putfield 17, 3) := by decide +kernel
theorem d_Rules_begin_15 : decode (fnB F_Rules_begin) 15 = .ok (.return_, 1) := by decide +kernel
theorem B_Rules_begin_0 : (∀ (l1 : Value) (x : Nat) (st : List Value) (M : Mm) (Q : Option Value → Mm → Prop), wp F_Rules_begin 0 [.ref x, l1] st M Q = wp F_Rules_begin 1 [.ref x, l1] (.ref x :: st) M Q) ∧
  (∀ (l0 l1 : Value) (st : List Value) (M : Mm) (Q : Option Value → Mm → Prop), wp F_Rules_begin 1 [l0, l1] st M Q = wp F_Rules_begin 2 [l0, l1] (.int 0 :: st) M Q) ∧
  (∀ (l0 l1 : Value) (a : Nat) (x : Int32) (st : List Value) (M : Mm) (Q : Option Value → Mm → Prop), wp F_Rules_begin 2 [l0, l1] (.int x :: .ref a :: st) M Q = (sh M a = some (.inl 9) ∧ wp F_Rules_begin 5 [l0, l1] st (sI M a 1 x) Q)) ∧
  (∀ (l1 : Value) (x : Nat) (st : List Value) (M : Mm) (Q : Option Value → Mm → Prop), wp F_Rules_begin 5 [.ref x, l1] st M Q = wp F_Rules_begin 6 [.ref x, l1] (.ref x :: st) M Q) ∧
  (∀ (l0 : Value) (x : Int32) (st : List Value) (M : Mm) (Q : Option Value → Mm → Prop), wp F_Rules_begin 6 [l0, .int x] st M Q = wp F_Rules_begin 7 [l0, .int x] (.int x :: st) M Q) ∧
  (∀ (l0 l1 : Value) (a : Nat) (x : Int32) (st : List Value) (M : Mm) (Q : Option Value → Mm → Prop), wp F_Rules_begin 7 [l0, l1] (.int x :: .ref a :: st) M Q = (sh M a = some (.inl 9) ∧ wp F_Rules_begin 10 [l0, l1] st (sI M a 2 x) Q)) ∧
  (∀ (l1 : Value) (x : Nat) (st : List Value) (M : Mm) (Q : Option Value → Mm → Prop), wp F_Rules_begin 10 [.ref x, l1] st M Q = wp F_Rules_begin 11 [.ref x, l1] (.ref x :: st) M Q) ∧
  (∀ (l0 l1 : Value) (st : List Value) (M : Mm) (Q : Option Value → Mm → Prop), wp F_Rules_begin 11 [l0, l1] st M Q = wp F_Rules_begin 12 [l0, l1] (.int 1 :: st) M Q) ∧
  (∀ (l0 l1 : Value) (a : Nat) (x : Int32) (st : List Value) (M : Mm) (Q : Option Value → Mm → Prop), wp F_Rules_begin 12 [l0, l1] (.int x :: .ref a :: st) M Q = ((x = 0 ∨ x = 1) ∧ sh M a = some (.inl 9) ∧ wp F_Rules_begin 15 [l0, l1] st (sI M a 3 x) Q)) ∧
  (∀ (l0 l1 : Value) (M : Mm) (Q : Option Value → Mm → Prop), wp F_Rules_begin 15 [l0, l1] [] M Q = Q none M) := ⟨fun _ _ _ _ _ => wp_in d_Rules_begin_0 rfl rfl, fun _ _ _ _ _ => wp_iconst d_Rules_begin_1 (by decide), fun _ _ _ _ _ _ _ => wp_putI d_Rules_begin_2 fl_9_22 rfl rfl, fun _ _ _ _ _ => wp_in d_Rules_begin_5 rfl rfl, fun _ _ _ _ _ => wp_in d_Rules_begin_6 rfl rfl, fun _ _ _ _ _ _ _ => wp_putI d_Rules_begin_7 fl_9_26 rfl rfl, fun _ _ _ _ _ => wp_in d_Rules_begin_10 rfl rfl, fun _ _ _ _ _ => wp_iconst d_Rules_begin_11 (by decide), fun _ _ _ _ _ _ _ => wp_putZ d_Rules_begin_12 fl_9_17 rfl rfl, fun _ _ _ _ => wp_retV d_Rules_begin_15 rfl⟩
theorem d_Rules_has_0 : decode (fnB F_Rules_has) 0 = .ok (.iload_n 1, 1) := by decide +kernel
theorem d_Rules_has_1 : decode (fnB F_Rules_has) 1 = .ok (.ifCond .lt 15, 3) := by decide +kernel
theorem d_Rules_has_4 : decode (fnB F_Rules_has) 4 = .ok (.iload_n 1, 1) := by decide +kernel
theorem d_Rules_has_5 : decode (fnB F_Rules_has) 5 = .ok (.aload_n 0, 1) := by decide +kernel
theorem d_Rules_has_6 : decode (fnB F_Rules_has) 6 = .ok (.getfield 22, 3) := by decide +kernel
theorem d_Rules_has_9 : decode (fnB F_Rules_has) 9 = .ok (.if_icmp .ge 7, 3) := by decide +kernel
theorem d_Rules_has_12 : decode (fnB F_Rules_has) 12 = .ok (.iconst 1, 1) := by decide +kernel
theorem d_Rules_has_13 : decode (fnB F_Rules_has) 13 = .ok (.goto 4, 3) := by decide +kernel
theorem d_Rules_has_16 : decode (fnB F_Rules_has) 16 = .ok (.iconst 0, 1) := by decide +kernel
theorem d_Rules_has_17 : decode (fnB F_Rules_has) 17 = .ok (.ireturn, 1) := by decide +kernel
theorem B_Rules_has_0 : (∀ (l0 : Value) (x : Int32) (st : List Value) (M : Mm) (Q : Option Value → Mm → Prop), wp F_Rules_has 0 [l0, .int x] st M Q = wp F_Rules_has 1 [l0, .int x] (.int x :: st) M Q) ∧
  (∀ (l0 l1 : Value) (x : Int32) (st : List Value) (M : Mm) (Q : Option Value → Mm → Prop), wp F_Rules_has 1 [l0, l1] (.int x :: st) M Q = if x < 0 then wp F_Rules_has 16 [l0, l1] st M Q else wp F_Rules_has 4 [l0, l1] st M Q) ∧
  (∀ (l0 : Value) (x : Int32) (st : List Value) (M : Mm) (Q : Option Value → Mm → Prop), wp F_Rules_has 4 [l0, .int x] st M Q = wp F_Rules_has 5 [l0, .int x] (.int x :: st) M Q) ∧
  (∀ (l1 : Value) (x : Nat) (st : List Value) (M : Mm) (Q : Option Value → Mm → Prop), wp F_Rules_has 5 [.ref x, l1] st M Q = wp F_Rules_has 6 [.ref x, l1] (.ref x :: st) M Q) ∧
  (∀ (l0 l1 : Value) (a : Nat) (st : List Value) (M : Mm) (Q : Option Value → Mm → Prop), wp F_Rules_has 6 [l0, l1] (.ref a :: st) M Q = (sh M a = some (.inl 9) ∧ wp F_Rules_has 9 [l0, l1] (.int (gI M a 1) :: st) M Q)) ∧
  (∀ (l0 l1 : Value) (x y : Int32) (st : List Value) (M : Mm) (Q : Option Value → Mm → Prop), wp F_Rules_has 9 [l0, l1] (.int y :: .int x :: st) M Q = if y ≤ x then wp F_Rules_has 16 [l0, l1] st M Q else wp F_Rules_has 12 [l0, l1] st M Q) ∧
  (∀ (l0 l1 : Value) (st : List Value) (M : Mm) (Q : Option Value → Mm → Prop), wp F_Rules_has 12 [l0, l1] st M Q = wp F_Rules_has 13 [l0, l1] (.int 1 :: st) M Q) ∧
  (∀ (l0 l1 : Value) (st : List Value) (M : Mm) (Q : Option Value → Mm → Prop), wp F_Rules_has 13 [l0, l1] st M Q = wp F_Rules_has 17 [l0, l1] st M Q) := ⟨fun _ _ _ _ _ => wp_in d_Rules_has_0 rfl rfl, fun _ _ _ _ _ _ => wp_if_lt d_Rules_has_1 rfl, fun _ _ _ _ _ => wp_in d_Rules_has_4 rfl rfl, fun _ _ _ _ _ => wp_in d_Rules_has_5 rfl rfl, fun _ _ _ _ _ _ => wp_getI d_Rules_has_6 fl_9_22 rfl, fun _ _ _ _ _ _ _ => wp_icmp_ge d_Rules_has_9 rfl, fun _ _ _ _ _ => wp_iconst d_Rules_has_12 (by decide), fun _ _ _ _ _ => wp_goto d_Rules_has_13 rfl⟩
theorem B_Rules_has_16 : (∀ (l0 l1 : Value) (st : List Value) (M : Mm) (Q : Option Value → Mm → Prop), wp F_Rules_has 16 [l0, l1] st M Q = wp F_Rules_has 17 [l0, l1] (.int 0 :: st) M Q) := fun _ _ _ _ _ => wp_iconst d_Rules_has_16 (by decide)
theorem B_Rules_has_17 : (∀ (l0 l1 : Value) (v : Int32) (M : Mm) (Q : Option Value → Mm → Prop), wp F_Rules_has 17 [l0, l1] [.int v] M Q = ((v = 0 ∨ v = 1) ∧ Q (some (.int v)) M)) := fun _ _ _ _ _ => wp_retZ d_Rules_has_17 rfl
theorem d_Rules_isLive_0 : decode (fnB F_Rules_isLive) 0 = .ok (.aload_n 0, 1) := by decide +kernel
theorem d_Rules_isLive_1 : decode (fnB F_Rules_isLive) 1 = .ok (.iload_n 1, 1) := by decide +kernel
theorem d_Rules_isLive_2 : decode (fnB F_Rules_isLive) 2 = .ok (.invokevirtual 29, 3) := by decide +kernel
theorem d_Rules_isLive_5 : decode (fnB F_Rules_isLive) 5 = .ok (.ifCond .eq 19, 3) := by decide +kernel
theorem d_Rules_isLive_8 : decode (fnB F_Rules_isLive) 8 = .ok (.aload_n 0, 1) := by decide +kernel
theorem d_Rules_isLive_9 : decode (fnB F_Rules_isLive) 9 = .ok (.getfield 11, 3) := by decide +kernel
theorem d_Rules_isLive_12 : decode (fnB F_Rules_isLive) 12 = .ok (.iload_n 1, 1) := by decide +kernel
theorem d_Rules_isLive_13 : decode (fnB F_Rules_isLive) 13 = .ok (.aaload, 1) := by decide +kernel
theorem d_Rules_isLive_14 : decode (fnB F_Rules_isLive) 14 = .ok (.getfield 33, 3) := by decide +kernel
theorem d_Rules_isLive_17 : decode (fnB F_Rules_isLive) 17 = .ok (.ifCond .eq 7, 3) := by decide +kernel
theorem d_Rules_isLive_20 : decode (fnB F_Rules_isLive) 20 = .ok (.iconst 1, 1) := by decide +kernel
theorem d_Rules_isLive_21 : decode (fnB F_Rules_isLive) 21 = .ok (.goto 4, 3) := by decide +kernel
theorem d_Rules_isLive_24 : decode (fnB F_Rules_isLive) 24 = .ok (.iconst 0, 1) := by decide +kernel
theorem d_Rules_isLive_25 : decode (fnB F_Rules_isLive) 25 = .ok (.ireturn, 1) := by decide +kernel
theorem B_Rules_isLive_0 : (∀ (l1 : Value) (x : Nat) (st : List Value) (M : Mm) (Q : Option Value → Mm → Prop), wp F_Rules_isLive 0 [.ref x, l1] st M Q = wp F_Rules_isLive 1 [.ref x, l1] (.ref x :: st) M Q) ∧
  (∀ (l0 : Value) (x : Int32) (st : List Value) (M : Mm) (Q : Option Value → Mm → Prop), wp F_Rules_isLive 1 [l0, .int x] st M Q = wp F_Rules_isLive 2 [l0, .int x] (.int x :: st) M Q) ∧
  (∀ (l0 l1 : Value) (b : Nat) (p0 : Int32) (M : Mm) (Q : Option Value → Mm → Prop), wp F_Rules_isLive 2 [l0, l1] [.int p0, .ref b] M Q = (sh M b = some (.inl 9) ∧ wp F_Rules_has 0 [.ref b, .int p0] [] M (fun r M1 => wp F_Rules_isLive 5 [l0, l1] (r.toList ++ []) M1 Q))) ∧
  (∀ (l0 l1 : Value) (x : Int32) (st : List Value) (M : Mm) (Q : Option Value → Mm → Prop), wp F_Rules_isLive 5 [l0, l1] (.int x :: st) M Q = if x = 0 then wp F_Rules_isLive 24 [l0, l1] st M Q else wp F_Rules_isLive 8 [l0, l1] st M Q) ∧
  (∀ (l1 : Value) (x : Nat) (st : List Value) (M : Mm) (Q : Option Value → Mm → Prop), wp F_Rules_isLive 8 [.ref x, l1] st M Q = wp F_Rules_isLive 9 [.ref x, l1] (.ref x :: st) M Q) ∧
  (∀ (l0 l1 : Value) (a : Nat) (st : List Value) (M : Mm) (Q : Option Value → Mm → Prop), wp F_Rules_isLive 9 [l0, l1] (.ref a :: st) M Q = (sh M a = some (.inl 9) ∧ wp F_Rules_isLive 12 [l0, l1] (va_rf (gR M a 0) :: st) M Q)) ∧
  (∀ (l0 : Value) (x : Int32) (st : List Value) (M : Mm) (Q : Option Value → Mm → Prop), wp F_Rules_isLive 12 [l0, .int x] st M Q = wp F_Rules_isLive 13 [l0, .int x] (.int x :: st) M Q) ∧
  (∀ (l0 l1 : Value) (a : Nat) (j : Int32) (st : List Value) (M : Mm) (Q : Option Value → Mm → Prop), wp F_Rules_isLive 13 [l0, l1] (.int j :: .ref a :: st) M Q = (ixR M a j ∧ wp F_Rules_isLive 14 [l0, l1] (va_rf (gR M a (cl j)) :: st) M Q)) ∧
  (∀ (l0 l1 : Value) (a : Nat) (st : List Value) (M : Mm) (Q : Option Value → Mm → Prop), wp F_Rules_isLive 14 [l0, l1] (.ref a :: st) M Q = (sh M a = some (.inl 8) ∧ wp F_Rules_isLive 17 [l0, l1] (.int (gI M a 2) :: st) M Q)) ∧
  (∀ (l0 l1 : Value) (x : Int32) (st : List Value) (M : Mm) (Q : Option Value → Mm → Prop), wp F_Rules_isLive 17 [l0, l1] (.int x :: st) M Q = if x = 0 then wp F_Rules_isLive 24 [l0, l1] st M Q else wp F_Rules_isLive 20 [l0, l1] st M Q) ∧
  (∀ (l0 l1 : Value) (st : List Value) (M : Mm) (Q : Option Value → Mm → Prop), wp F_Rules_isLive 20 [l0, l1] st M Q = wp F_Rules_isLive 21 [l0, l1] (.int 1 :: st) M Q) ∧
  (∀ (l0 l1 : Value) (st : List Value) (M : Mm) (Q : Option Value → Mm → Prop), wp F_Rules_isLive 21 [l0, l1] st M Q = wp F_Rules_isLive 25 [l0, l1] st M Q) := ⟨fun _ _ _ _ _ => wp_in d_Rules_isLive_0 rfl rfl, fun _ _ _ _ _ => wp_in d_Rules_isLive_1 rfl rfl, fun _ _ _ _ _ _ => wp_callV d_Rules_isLive_2 ml_9_29 rfl rfl rfl, fun _ _ _ _ _ _ => wp_if_eq d_Rules_isLive_5 rfl, fun _ _ _ _ _ => wp_in d_Rules_isLive_8 rfl rfl, fun _ _ _ _ _ _ => wp_getA d_Rules_isLive_9 fl_9_11 rfl, fun _ _ _ _ _ => wp_in d_Rules_isLive_12 rfl rfl, fun _ _ _ _ _ _ _ => wp_aald d_Rules_isLive_13, fun _ _ _ _ _ _ => wp_getI d_Rules_isLive_14 fl_9_33 rfl, fun _ _ _ _ _ _ => wp_if_eq d_Rules_isLive_17 rfl, fun _ _ _ _ _ => wp_iconst d_Rules_isLive_20 (by decide), fun _ _ _ _ _ => wp_goto d_Rules_isLive_21 rfl⟩
theorem B_Rules_isLive_24 : (∀ (l0 l1 : Value) (st : List Value) (M : Mm) (Q : Option Value → Mm → Prop), wp F_Rules_isLive 24 [l0, l1] st M Q = wp F_Rules_isLive 25 [l0, l1] (.int 0 :: st) M Q) := fun _ _ _ _ _ => wp_iconst d_Rules_isLive_24 (by decide)
theorem B_Rules_isLive_25 : (∀ (l0 l1 : Value) (v : Int32) (M : Mm) (Q : Option Value → Mm → Prop), wp F_Rules_isLive 25 [l0, l1] [.int v] M Q = ((v = 0 ∨ v = 1) ∧ Q (some (.int v)) M)) := fun _ _ _ _ _ => wp_retZ d_Rules_isLive_25 rfl
theorem d_Rules_liveOnes_0 : decode (fnB F_Rules_liveOnes) 0 = .ok (.iconst 0, 1) := by decide +kernel
theorem d_Rules_liveOnes_1 : decode (fnB F_Rules_liveOnes) 1 = .ok (.istore_n 1, 1) := by decide +kernel
theorem d_Rules_liveOnes_2 : decode (fnB F_Rules_liveOnes) 2 = .ok (.iconst 0, 1) := by decide +kernel
theorem d_Rules_liveOnes_3 : decode (fnB F_Rules_liveOnes) 3 = .ok (.istore_n 2, 1) := by decide +kernel
theorem d_Rules_liveOnes_4 : decode (fnB F_Rules_liveOnes) 4 = .ok (.iload_n 2, 1) := by decide +kernel
theorem d_Rules_liveOnes_5 : decode (fnB F_Rules_liveOnes) 5 = .ok (.aload_n 0, 1) := by decide +kernel
theorem d_Rules_liveOnes_6 : decode (fnB F_Rules_liveOnes) 6 = .ok (.getfield 22, 3) := by decide +kernel
theorem d_Rules_liveOnes_9 : decode (fnB F_Rules_liveOnes) 9 = .ok (.if_icmp .ge 29, 3) := by decide +kernel
theorem d_Rules_liveOnes_12 : decode (fnB F_Rules_liveOnes) 12 = .ok (.iload_n 1, 1) := by decide +kernel
theorem d_Rules_liveOnes_13 : decode (fnB F_Rules_liveOnes) 13 = .ok (.aload_n 0, 1) := by decide +kernel
theorem d_Rules_liveOnes_14 : decode (fnB F_Rules_liveOnes) 14 = .ok (.getfield 11, 3) := by decide +kernel
theorem d_Rules_liveOnes_17 : decode (fnB F_Rules_liveOnes) 17 = .ok (.iload_n 2, 1) := by decide +kernel
theorem d_Rules_liveOnes_18 : decode (fnB F_Rules_liveOnes) 18 = .ok (.aaload, 1) := by decide +kernel
theorem d_Rules_liveOnes_19 : decode (fnB F_Rules_liveOnes) 19 = .ok (.getfield 33, 3) := by decide +kernel
theorem d_Rules_liveOnes_22 : decode (fnB F_Rules_liveOnes) 22 = .ok (.ifCond .eq 7, 3) := by decide +kernel
theorem d_Rules_liveOnes_25 : decode (fnB F_Rules_liveOnes) 25 = .ok (.iconst 1, 1) := by decide +kernel
theorem d_Rules_liveOnes_26 : decode (fnB F_Rules_liveOnes) 26 = .ok (.goto 4, 3) := by decide +kernel
theorem d_Rules_liveOnes_29 : decode (fnB F_Rules_liveOnes) 29 = .ok (.iconst 0, 1) := by decide +kernel
theorem d_Rules_liveOnes_30 : decode (fnB F_Rules_liveOnes) 30 = .ok (.iadd, 1) := by decide +kernel
theorem d_Rules_liveOnes_31 : decode (fnB F_Rules_liveOnes) 31 = .ok (.istore_n 1, 1) := by decide +kernel
theorem d_Rules_liveOnes_32 : decode (fnB F_Rules_liveOnes) 32 = .ok (.iinc 2 1, 3) := by decide +kernel
theorem d_Rules_liveOnes_35 : decode (fnB F_Rules_liveOnes) 35 = .ok (.goto (-31), 3) := by decide +kernel
theorem d_Rules_liveOnes_38 : decode (fnB F_Rules_liveOnes) 38 = .ok (.iload_n 1, 1) := by decide +kernel
theorem d_Rules_liveOnes_39 : decode (fnB F_Rules_liveOnes) 39 = .ok (.ireturn, 1) := by decide +kernel
theorem B_Rules_liveOnes_0 : (∀ (l0 l1 l2 : Value) (st : List Value) (M : Mm) (Q : Option Value → Mm → Prop), wp F_Rules_liveOnes 0 [l0, l1, l2] st M Q = wp F_Rules_liveOnes 1 [l0, l1, l2] (.int 0 :: st) M Q) ∧
  (∀ (l0 l1 l2 : Value) (x : Int32) (st : List Value) (M : Mm) (Q : Option Value → Mm → Prop), wp F_Rules_liveOnes 1 [l0, l1, l2] (.int x :: st) M Q = wp F_Rules_liveOnes 2 [clr l0, .int x, l2] st M Q) ∧
  (∀ (l0 l1 l2 : Value) (st : List Value) (M : Mm) (Q : Option Value → Mm → Prop), wp F_Rules_liveOnes 2 [l0, l1, l2] st M Q = wp F_Rules_liveOnes 3 [l0, l1, l2] (.int 0 :: st) M Q) ∧
  (∀ (l0 l1 l2 : Value) (x : Int32) (st : List Value) (M : Mm) (Q : Option Value → Mm → Prop), wp F_Rules_liveOnes 3 [l0, l1, l2] (.int x :: st) M Q = wp F_Rules_liveOnes 4 [l0, clr l1, .int x] st M Q) := ⟨fun _ _ _ _ _ _ => wp_iconst d_Rules_liveOnes_0 (by decide), fun _ _ _ _ _ _ _ => wp_in d_Rules_liveOnes_1 rfl rfl, fun _ _ _ _ _ _ => wp_iconst d_Rules_liveOnes_2 (by decide), fun _ _ _ _ _ _ _ => wp_in d_Rules_liveOnes_3 rfl rfl⟩
theorem B_Rules_liveOnes_4 : (∀ (l0 l1 : Value) (x : Int32) (st : List Value) (M : Mm) (Q : Option Value → Mm → Prop), wp F_Rules_liveOnes 4 [l0, l1, .int x] st M Q = wp F_Rules_liveOnes 5 [l0, l1, .int x] (.int x :: st) M Q) ∧
  (∀ (l1 l2 : Value) (x : Nat) (st : List Value) (M : Mm) (Q : Option Value → Mm → Prop), wp F_Rules_liveOnes 5 [.ref x, l1, l2] st M Q = wp F_Rules_liveOnes 6 [.ref x, l1, l2] (.ref x :: st) M Q) ∧
  (∀ (l0 l1 l2 : Value) (a : Nat) (st : List Value) (M : Mm) (Q : Option Value → Mm → Prop), wp F_Rules_liveOnes 6 [l0, l1, l2] (.ref a :: st) M Q = (sh M a = some (.inl 9) ∧ wp F_Rules_liveOnes 9 [l0, l1, l2] (.int (gI M a 1) :: st) M Q)) ∧
  (∀ (l0 l1 l2 : Value) (x y : Int32) (st : List Value) (M : Mm) (Q : Option Value → Mm → Prop), wp F_Rules_liveOnes 9 [l0, l1, l2] (.int y :: .int x :: st) M Q = if y ≤ x then wp F_Rules_liveOnes 38 [l0, l1, l2] st M Q else wp F_Rules_liveOnes 12 [l0, l1, l2] st M Q) ∧
  (∀ (l0 l2 : Value) (x : Int32) (st : List Value) (M : Mm) (Q : Option Value → Mm → Prop), wp F_Rules_liveOnes 12 [l0, .int x, l2] st M Q = wp F_Rules_liveOnes 13 [l0, .int x, l2] (.int x :: st) M Q) ∧
  (∀ (l1 l2 : Value) (x : Nat) (st : List Value) (M : Mm) (Q : Option Value → Mm → Prop), wp F_Rules_liveOnes 13 [.ref x, l1, l2] st M Q = wp F_Rules_liveOnes 14 [.ref x, l1, l2] (.ref x :: st) M Q) ∧
  (∀ (l0 l1 l2 : Value) (a : Nat) (st : List Value) (M : Mm) (Q : Option Value → Mm → Prop), wp F_Rules_liveOnes 14 [l0, l1, l2] (.ref a :: st) M Q = (sh M a = some (.inl 9) ∧ wp F_Rules_liveOnes 17 [l0, l1, l2] (va_rf (gR M a 0) :: st) M Q)) ∧
  (∀ (l0 l1 : Value) (x : Int32) (st : List Value) (M : Mm) (Q : Option Value → Mm → Prop), wp F_Rules_liveOnes 17 [l0, l1, .int x] st M Q = wp F_Rules_liveOnes 18 [l0, l1, .int x] (.int x :: st) M Q) ∧
  (∀ (l0 l1 l2 : Value) (a : Nat) (j : Int32) (st : List Value) (M : Mm) (Q : Option Value → Mm → Prop), wp F_Rules_liveOnes 18 [l0, l1, l2] (.int j :: .ref a :: st) M Q = (ixR M a j ∧ wp F_Rules_liveOnes 19 [l0, l1, l2] (va_rf (gR M a (cl j)) :: st) M Q)) ∧
  (∀ (l0 l1 l2 : Value) (a : Nat) (st : List Value) (M : Mm) (Q : Option Value → Mm → Prop), wp F_Rules_liveOnes 19 [l0, l1, l2] (.ref a :: st) M Q = (sh M a = some (.inl 8) ∧ wp F_Rules_liveOnes 22 [l0, l1, l2] (.int (gI M a 2) :: st) M Q)) ∧
  (∀ (l0 l1 l2 : Value) (x : Int32) (st : List Value) (M : Mm) (Q : Option Value → Mm → Prop), wp F_Rules_liveOnes 22 [l0, l1, l2] (.int x :: st) M Q = if x = 0 then wp F_Rules_liveOnes 29 [l0, l1, l2] st M Q else wp F_Rules_liveOnes 25 [l0, l1, l2] st M Q) ∧
  (∀ (l0 l1 l2 : Value) (st : List Value) (M : Mm) (Q : Option Value → Mm → Prop), wp F_Rules_liveOnes 25 [l0, l1, l2] st M Q = wp F_Rules_liveOnes 26 [l0, l1, l2] (.int 1 :: st) M Q) ∧
  (∀ (l0 l1 l2 : Value) (st : List Value) (M : Mm) (Q : Option Value → Mm → Prop), wp F_Rules_liveOnes 26 [l0, l1, l2] st M Q = wp F_Rules_liveOnes 30 [l0, l1, l2] st M Q) := ⟨fun _ _ _ _ _ _ => wp_in d_Rules_liveOnes_4 rfl rfl, fun _ _ _ _ _ _ => wp_in d_Rules_liveOnes_5 rfl rfl, fun _ _ _ _ _ _ _ => wp_getI d_Rules_liveOnes_6 fl_9_22 rfl, fun _ _ _ _ _ _ _ _ => wp_icmp_ge d_Rules_liveOnes_9 rfl, fun _ _ _ _ _ _ => wp_in d_Rules_liveOnes_12 rfl rfl, fun _ _ _ _ _ _ => wp_in d_Rules_liveOnes_13 rfl rfl, fun _ _ _ _ _ _ _ => wp_getA d_Rules_liveOnes_14 fl_9_11 rfl, fun _ _ _ _ _ _ => wp_in d_Rules_liveOnes_17 rfl rfl, fun _ _ _ _ _ _ _ _ => wp_aald d_Rules_liveOnes_18, fun _ _ _ _ _ _ _ => wp_getI d_Rules_liveOnes_19 fl_9_33 rfl, fun _ _ _ _ _ _ _ => wp_if_eq d_Rules_liveOnes_22 rfl, fun _ _ _ _ _ _ => wp_iconst d_Rules_liveOnes_25 (by decide), fun _ _ _ _ _ _ => wp_goto d_Rules_liveOnes_26 rfl⟩
theorem B_Rules_liveOnes_29 : (∀ (l0 l1 l2 : Value) (st : List Value) (M : Mm) (Q : Option Value → Mm → Prop), wp F_Rules_liveOnes 29 [l0, l1, l2] st M Q = wp F_Rules_liveOnes 30 [l0, l1, l2] (.int 0 :: st) M Q) := fun _ _ _ _ _ _ => wp_iconst d_Rules_liveOnes_29 (by decide)
theorem B_Rules_liveOnes_30 : (∀ (l0 l1 l2 : Value) (x y : Int32) (st : List Value) (M : Mm) (Q : Option Value → Mm → Prop), wp F_Rules_liveOnes 30 [l0, l1, l2] (.int y :: .int x :: st) M Q = wp F_Rules_liveOnes 31 [l0, l1, l2] (.int (x + y) :: st) M Q) ∧
  (∀ (l0 l1 l2 : Value) (x : Int32) (st : List Value) (M : Mm) (Q : Option Value → Mm → Prop), wp F_Rules_liveOnes 31 [l0, l1, l2] (.int x :: st) M Q = wp F_Rules_liveOnes 32 [clr l0, .int x, l2] st M Q) ∧
  (∀ (l0 l1 : Value) (x : Int32) (st : List Value) (M : Mm) (Q : Option Value → Mm → Prop), wp F_Rules_liveOnes 32 [l0, l1, .int x] st M Q = wp F_Rules_liveOnes 35 [l0, clr l1, .int (x + 1)] st M Q) := ⟨fun _ _ _ _ _ _ _ _ => wp_in d_Rules_liveOnes_30 rfl rfl, fun _ _ _ _ _ _ _ => wp_in d_Rules_liveOnes_31 rfl rfl, fun _ _ _ _ _ _ => wp_iinc d_Rules_liveOnes_32 (by decide) rfl rfl⟩
theorem B_Rules_liveOnes_38 : (∀ (l0 l2 : Value) (x : Int32) (st : List Value) (M : Mm) (Q : Option Value → Mm → Prop), wp F_Rules_liveOnes 38 [l0, .int x, l2] st M Q = wp F_Rules_liveOnes 39 [l0, .int x, l2] (.int x :: st) M Q) ∧
  (∀ (l0 l1 l2 : Value) (v : Int32) (M : Mm) (Q : Option Value → Mm → Prop), wp F_Rules_liveOnes 39 [l0, l1, l2] [.int v] M Q = Q (some (.int v)) M) := ⟨fun _ _ _ _ _ _ => wp_in d_Rules_liveOnes_38 rfl rfl, fun _ _ _ _ _ _ => wp_retI d_Rules_liveOnes_39 rfl⟩
theorem G_Rules_liveOnes_35 (l0 l1 l2 : Value) (st : List Value) (M : Mm) (Q : Option Value → Mm → Prop) : wp F_Rules_liveOnes 35 [l0, l1, l2] st M Q = wp F_Rules_liveOnes 4 [l0, l1, l2] st M Q := wp_goto d_Rules_liveOnes_35 rfl
theorem d_Rules_lettersOfLefts_0 : decode (fnB F_Rules_lettersOfLefts) 0 = .ok (.iconst 0, 1) := by decide +kernel
theorem d_Rules_lettersOfLefts_1 : decode (fnB F_Rules_lettersOfLefts) 1 = .ok (.istore_n 1, 1) := by decide +kernel
theorem d_Rules_lettersOfLefts_2 : decode (fnB F_Rules_lettersOfLefts) 2 = .ok (.iconst 0, 1) := by decide +kernel
theorem d_Rules_lettersOfLefts_3 : decode (fnB F_Rules_lettersOfLefts) 3 = .ok (.istore_n 2, 1) := by decide +kernel
theorem d_Rules_lettersOfLefts_4 : decode (fnB F_Rules_lettersOfLefts) 4 = .ok (.iload_n 2, 1) := by decide +kernel
theorem d_Rules_lettersOfLefts_5 : decode (fnB F_Rules_lettersOfLefts) 5 = .ok (.aload_n 0, 1) := by decide +kernel
theorem d_Rules_lettersOfLefts_6 : decode (fnB F_Rules_lettersOfLefts) 6 = .ok (.getfield 22, 3) := by decide +kernel
theorem d_Rules_lettersOfLefts_9 : decode (fnB F_Rules_lettersOfLefts) 9 = .ok (.if_icmp .ge 40, 3) := by decide +kernel
theorem d_Rules_lettersOfLefts_12 : decode (fnB F_Rules_lettersOfLefts) 12 = .ok (.iload_n 1, 1) := by decide +kernel
theorem d_Rules_lettersOfLefts_13 : decode (fnB F_Rules_lettersOfLefts) 13 = .ok (.aload_n 0, 1) := by decide +kernel
theorem d_Rules_lettersOfLefts_14 : decode (fnB F_Rules_lettersOfLefts) 14 = .ok (.getfield 11, 3) := by decide +kernel
theorem d_Rules_lettersOfLefts_17 : decode (fnB F_Rules_lettersOfLefts) 17 = .ok (.iload_n 2, 1) := by decide +kernel
theorem d_Rules_lettersOfLefts_18 : decode (fnB F_Rules_lettersOfLefts) 18 = .ok (.aaload, 1) := by decide +kernel
theorem d_Rules_lettersOfLefts_19 : decode (fnB F_Rules_lettersOfLefts) 19 = .ok (.getfield 33, 3) := by decide +kernel
theorem d_Rules_lettersOfLefts_22 : decode (fnB F_Rules_lettersOfLefts) 22 = .ok (.ifCond .eq 18, 3) := by decide +kernel
theorem d_Rules_lettersOfLefts_25 : decode (fnB F_Rules_lettersOfLefts) 25 = .ok (.aload_n 0, 1) := by decide +kernel
theorem d_Rules_lettersOfLefts_26 : decode (fnB F_Rules_lettersOfLefts) 26 = .ok (.getfield 11, 3) := by decide +kernel
theorem d_Rules_lettersOfLefts_29 : decode (fnB F_Rules_lettersOfLefts) 29 = .ok (.iload_n 2, 1) := by decide +kernel
theorem d_Rules_lettersOfLefts_30 : decode (fnB F_Rules_lettersOfLefts) 30 = .ok (.aaload, 1) := by decide +kernel
theorem d_Rules_lettersOfLefts_31 : decode (fnB F_Rules_lettersOfLefts) 31 = .ok (.getfield 36, 3) := by decide +kernel
theorem d_Rules_lettersOfLefts_34 : decode (fnB F_Rules_lettersOfLefts) 34 = .ok (.getfield 40, 3) := by decide +kernel
theorem d_Rules_lettersOfLefts_37 : decode (fnB F_Rules_lettersOfLefts) 37 = .ok (.goto 4, 3) := by decide +kernel
theorem d_Rules_lettersOfLefts_40 : decode (fnB F_Rules_lettersOfLefts) 40 = .ok (.iconst 0, 1) := by decide +kernel
theorem d_Rules_lettersOfLefts_41 : decode (fnB F_Rules_lettersOfLefts) 41 = .ok (.iadd, 1) := by decide +kernel
theorem d_Rules_lettersOfLefts_42 : decode (fnB F_Rules_lettersOfLefts) 42 = .ok (.istore_n 1, 1) := by decide +kernel
theorem d_Rules_lettersOfLefts_43 : decode (fnB F_Rules_lettersOfLefts) 43 = .ok (.iinc 2 1, 3) := by decide +kernel
theorem d_Rules_lettersOfLefts_46 : decode (fnB F_Rules_lettersOfLefts) 46 = .ok (.goto (-42), 3) := by decide +kernel
theorem d_Rules_lettersOfLefts_49 : decode (fnB F_Rules_lettersOfLefts) 49 = .ok (.iload_n 1, 1) := by decide +kernel
theorem d_Rules_lettersOfLefts_50 : decode (fnB F_Rules_lettersOfLefts) 50 = .ok (.ireturn, 1) := by decide +kernel
theorem B_Rules_lettersOfLefts_0 : (∀ (l0 l1 l2 : Value) (st : List Value) (M : Mm) (Q : Option Value → Mm → Prop), wp F_Rules_lettersOfLefts 0 [l0, l1, l2] st M Q = wp F_Rules_lettersOfLefts 1 [l0, l1, l2] (.int 0 :: st) M Q) ∧
  (∀ (l0 l1 l2 : Value) (x : Int32) (st : List Value) (M : Mm) (Q : Option Value → Mm → Prop), wp F_Rules_lettersOfLefts 1 [l0, l1, l2] (.int x :: st) M Q = wp F_Rules_lettersOfLefts 2 [clr l0, .int x, l2] st M Q) ∧
  (∀ (l0 l1 l2 : Value) (st : List Value) (M : Mm) (Q : Option Value → Mm → Prop), wp F_Rules_lettersOfLefts 2 [l0, l1, l2] st M Q = wp F_Rules_lettersOfLefts 3 [l0, l1, l2] (.int 0 :: st) M Q) ∧
  (∀ (l0 l1 l2 : Value) (x : Int32) (st : List Value) (M : Mm) (Q : Option Value → Mm → Prop), wp F_Rules_lettersOfLefts 3 [l0, l1, l2] (.int x :: st) M Q = wp F_Rules_lettersOfLefts 4 [l0, clr l1, .int x] st M Q) := ⟨fun _ _ _ _ _ _ => wp_iconst d_Rules_lettersOfLefts_0 (by decide), fun _ _ _ _ _ _ _ => wp_in d_Rules_lettersOfLefts_1 rfl rfl, fun _ _ _ _ _ _ => wp_iconst d_Rules_lettersOfLefts_2 (by decide), fun _ _ _ _ _ _ _ => wp_in d_Rules_lettersOfLefts_3 rfl rfl⟩
theorem B_Rules_lettersOfLefts_4 : (∀ (l0 l1 : Value) (x : Int32) (st : List Value) (M : Mm) (Q : Option Value → Mm → Prop), wp F_Rules_lettersOfLefts 4 [l0, l1, .int x] st M Q = wp F_Rules_lettersOfLefts 5 [l0, l1, .int x] (.int x :: st) M Q) ∧
  (∀ (l1 l2 : Value) (x : Nat) (st : List Value) (M : Mm) (Q : Option Value → Mm → Prop), wp F_Rules_lettersOfLefts 5 [.ref x, l1, l2] st M Q = wp F_Rules_lettersOfLefts 6 [.ref x, l1, l2] (.ref x :: st) M Q) ∧
  (∀ (l0 l1 l2 : Value) (a : Nat) (st : List Value) (M : Mm) (Q : Option Value → Mm → Prop), wp F_Rules_lettersOfLefts 6 [l0, l1, l2] (.ref a :: st) M Q = (sh M a = some (.inl 9) ∧ wp F_Rules_lettersOfLefts 9 [l0, l1, l2] (.int (gI M a 1) :: st) M Q)) ∧
  (∀ (l0 l1 l2 : Value) (x y : Int32) (st : List Value) (M : Mm) (Q : Option Value → Mm → Prop), wp F_Rules_lettersOfLefts 9 [l0, l1, l2] (.int y :: .int x :: st) M Q = if y ≤ x then wp F_Rules_lettersOfLefts 49 [l0, l1, l2] st M Q else wp F_Rules_lettersOfLefts 12 [l0, l1, l2] st M Q) ∧
  (∀ (l0 l2 : Value) (x : Int32) (st : List Value) (M : Mm) (Q : Option Value → Mm → Prop), wp F_Rules_lettersOfLefts 12 [l0, .int x, l2] st M Q = wp F_Rules_lettersOfLefts 13 [l0, .int x, l2] (.int x :: st) M Q) ∧
  (∀ (l1 l2 : Value) (x : Nat) (st : List Value) (M : Mm) (Q : Option Value → Mm → Prop), wp F_Rules_lettersOfLefts 13 [.ref x, l1, l2] st M Q = wp F_Rules_lettersOfLefts 14 [.ref x, l1, l2] (.ref x :: st) M Q) ∧
  (∀ (l0 l1 l2 : Value) (a : Nat) (st : List Value) (M : Mm) (Q : Option Value → Mm → Prop), wp F_Rules_lettersOfLefts 14 [l0, l1, l2] (.ref a :: st) M Q = (sh M a = some (.inl 9) ∧ wp F_Rules_lettersOfLefts 17 [l0, l1, l2] (va_rf (gR M a 0) :: st) M Q)) ∧
  (∀ (l0 l1 : Value) (x : Int32) (st : List Value) (M : Mm) (Q : Option Value → Mm → Prop), wp F_Rules_lettersOfLefts 17 [l0, l1, .int x] st M Q = wp F_Rules_lettersOfLefts 18 [l0, l1, .int x] (.int x :: st) M Q) ∧
  (∀ (l0 l1 l2 : Value) (a : Nat) (j : Int32) (st : List Value) (M : Mm) (Q : Option Value → Mm → Prop), wp F_Rules_lettersOfLefts 18 [l0, l1, l2] (.int j :: .ref a :: st) M Q = (ixR M a j ∧ wp F_Rules_lettersOfLefts 19 [l0, l1, l2] (va_rf (gR M a (cl j)) :: st) M Q)) ∧
  (∀ (l0 l1 l2 : Value) (a : Nat) (st : List Value) (M : Mm) (Q : Option Value → Mm → Prop), wp F_Rules_lettersOfLefts 19 [l0, l1, l2] (.ref a :: st) M Q = (sh M a = some (.inl 8) ∧ wp F_Rules_lettersOfLefts 22 [l0, l1, l2] (.int (gI M a 2) :: st) M Q)) ∧
  (∀ (l0 l1 l2 : Value) (x : Int32) (st : List Value) (M : Mm) (Q : Option Value → Mm → Prop), wp F_Rules_lettersOfLefts 22 [l0, l1, l2] (.int x :: st) M Q = if x = 0 then wp F_Rules_lettersOfLefts 40 [l0, l1, l2] st M Q else wp F_Rules_lettersOfLefts 25 [l0, l1, l2] st M Q) ∧
  (∀ (l1 l2 : Value) (x : Nat) (st : List Value) (M : Mm) (Q : Option Value → Mm → Prop), wp F_Rules_lettersOfLefts 25 [.ref x, l1, l2] st M Q = wp F_Rules_lettersOfLefts 26 [.ref x, l1, l2] (.ref x :: st) M Q) ∧
  (∀ (l0 l1 l2 : Value) (a : Nat) (st : List Value) (M : Mm) (Q : Option Value → Mm → Prop), wp F_Rules_lettersOfLefts 26 [l0, l1, l2] (.ref a :: st) M Q = (sh M a = some (.inl 9) ∧ wp F_Rules_lettersOfLefts 29 [l0, l1, l2] (va_rf (gR M a 0) :: st) M Q)) ∧
  (∀ (l0 l1 : Value) (x : Int32) (st : List Value) (M : Mm) (Q : Option Value → Mm → Prop), wp F_Rules_lettersOfLefts 29 [l0, l1, .int x] st M Q = wp F_Rules_lettersOfLefts 30 [l0, l1, .int x] (.int x :: st) M Q) ∧
  (∀ (l0 l1 l2 : Value) (a : Nat) (j : Int32) (st : List Value) (M : Mm) (Q : Option Value → Mm → Prop), wp F_Rules_lettersOfLefts 30 [l0, l1, l2] (.int j :: .ref a :: st) M Q = (ixR M a j ∧ wp F_Rules_lettersOfLefts 31 [l0, l1, l2] (va_rf (gR M a (cl j)) :: st) M Q)) ∧
  (∀ (l0 l1 l2 : Value) (a : Nat) (st : List Value) (M : Mm) (Q : Option Value → Mm → Prop), wp F_Rules_lettersOfLefts 31 [l0, l1, l2] (.ref a :: st) M Q = (sh M a = some (.inl 8) ∧ wp F_Rules_lettersOfLefts 34 [l0, l1, l2] (va_rf (gR M a 0) :: st) M Q)) ∧
  (∀ (l0 l1 l2 : Value) (a : Nat) (st : List Value) (M : Mm) (Q : Option Value → Mm → Prop), wp F_Rules_lettersOfLefts 34 [l0, l1, l2] (.ref a :: st) M Q = (sh M a = some (.inl 10) ∧ wp F_Rules_lettersOfLefts 37 [l0, l1, l2] (.int (gI M a 1) :: st) M Q)) ∧
  (∀ (l0 l1 l2 : Value) (st : List Value) (M : Mm) (Q : Option Value → Mm → Prop), wp F_Rules_lettersOfLefts 37 [l0, l1, l2] st M Q = wp F_Rules_lettersOfLefts 41 [l0, l1, l2] st M Q) := ⟨fun _ _ _ _ _ _ => wp_in d_Rules_lettersOfLefts_4 rfl rfl, fun _ _ _ _ _ _ => wp_in d_Rules_lettersOfLefts_5 rfl rfl, fun _ _ _ _ _ _ _ => wp_getI d_Rules_lettersOfLefts_6 fl_9_22 rfl, fun _ _ _ _ _ _ _ _ => wp_icmp_ge d_Rules_lettersOfLefts_9 rfl, fun _ _ _ _ _ _ => wp_in d_Rules_lettersOfLefts_12 rfl rfl, fun _ _ _ _ _ _ => wp_in d_Rules_lettersOfLefts_13 rfl rfl, fun _ _ _ _ _ _ _ => wp_getA d_Rules_lettersOfLefts_14 fl_9_11 rfl, fun _ _ _ _ _ _ => wp_in d_Rules_lettersOfLefts_17 rfl rfl, fun _ _ _ _ _ _ _ _ => wp_aald d_Rules_lettersOfLefts_18, fun _ _ _ _ _ _ _ => wp_getI d_Rules_lettersOfLefts_19 fl_9_33 rfl, fun _ _ _ _ _ _ _ => wp_if_eq d_Rules_lettersOfLefts_22 rfl, fun _ _ _ _ _ _ => wp_in d_Rules_lettersOfLefts_25 rfl rfl, fun _ _ _ _ _ _ _ => wp_getA d_Rules_lettersOfLefts_26 fl_9_11 rfl, fun _ _ _ _ _ _ => wp_in d_Rules_lettersOfLefts_29 rfl rfl, fun _ _ _ _ _ _ _ _ => wp_aald d_Rules_lettersOfLefts_30, fun _ _ _ _ _ _ _ => wp_getA d_Rules_lettersOfLefts_31 fl_9_36 rfl, fun _ _ _ _ _ _ _ => wp_getI d_Rules_lettersOfLefts_34 fl_9_40 rfl, fun _ _ _ _ _ _ => wp_goto d_Rules_lettersOfLefts_37 rfl⟩
theorem B_Rules_lettersOfLefts_40 : (∀ (l0 l1 l2 : Value) (st : List Value) (M : Mm) (Q : Option Value → Mm → Prop), wp F_Rules_lettersOfLefts 40 [l0, l1, l2] st M Q = wp F_Rules_lettersOfLefts 41 [l0, l1, l2] (.int 0 :: st) M Q) := fun _ _ _ _ _ _ => wp_iconst d_Rules_lettersOfLefts_40 (by decide)
theorem B_Rules_lettersOfLefts_41 : (∀ (l0 l1 l2 : Value) (x y : Int32) (st : List Value) (M : Mm) (Q : Option Value → Mm → Prop), wp F_Rules_lettersOfLefts 41 [l0, l1, l2] (.int y :: .int x :: st) M Q = wp F_Rules_lettersOfLefts 42 [l0, l1, l2] (.int (x + y) :: st) M Q) ∧
  (∀ (l0 l1 l2 : Value) (x : Int32) (st : List Value) (M : Mm) (Q : Option Value → Mm → Prop), wp F_Rules_lettersOfLefts 42 [l0, l1, l2] (.int x :: st) M Q = wp F_Rules_lettersOfLefts 43 [clr l0, .int x, l2] st M Q) ∧
  (∀ (l0 l1 : Value) (x : Int32) (st : List Value) (M : Mm) (Q : Option Value → Mm → Prop), wp F_Rules_lettersOfLefts 43 [l0, l1, .int x] st M Q = wp F_Rules_lettersOfLefts 46 [l0, clr l1, .int (x + 1)] st M Q) := ⟨fun _ _ _ _ _ _ _ _ => wp_in d_Rules_lettersOfLefts_41 rfl rfl, fun _ _ _ _ _ _ _ => wp_in d_Rules_lettersOfLefts_42 rfl rfl, fun _ _ _ _ _ _ => wp_iinc d_Rules_lettersOfLefts_43 (by decide) rfl rfl⟩
theorem B_Rules_lettersOfLefts_49 : (∀ (l0 l2 : Value) (x : Int32) (st : List Value) (M : Mm) (Q : Option Value → Mm → Prop), wp F_Rules_lettersOfLefts 49 [l0, .int x, l2] st M Q = wp F_Rules_lettersOfLefts 50 [l0, .int x, l2] (.int x :: st) M Q) ∧
  (∀ (l0 l1 l2 : Value) (v : Int32) (M : Mm) (Q : Option Value → Mm → Prop), wp F_Rules_lettersOfLefts 50 [l0, l1, l2] [.int v] M Q = Q (some (.int v)) M) := ⟨fun _ _ _ _ _ _ => wp_in d_Rules_lettersOfLefts_49 rfl rfl, fun _ _ _ _ _ _ => wp_retI d_Rules_lettersOfLefts_50 rfl⟩
theorem G_Rules_lettersOfLefts_46 (l0 l1 l2 : Value) (st : List Value) (M : Mm) (Q : Option Value → Mm → Prop) : wp F_Rules_lettersOfLefts 46 [l0, l1, l2] st M Q = wp F_Rules_lettersOfLefts 4 [l0, l1, l2] st M Q := wp_goto d_Rules_lettersOfLefts_46 rfl
theorem d_Rules_make_0 : decode (fnB F_Rules_make) 0 = .ok (.aload_n 0, 1) := by decide +kernel
theorem d_Rules_make_1 : decode (fnB F_Rules_make) 1 = .ok (.getfield 22, 3) := by decide +kernel
theorem d_Rules_make_4 : decode (fnB F_Rules_make) 4 = .ok (.sipush 200, 3) := by decide +kernel
theorem d_Rules_make_7 : decode (fnB F_Rules_make) 7 = .ok (.if_icmp .ge 12, 3) := by decide +kernel
theorem d_Rules_make_10 : decode (fnB F_Rules_make) 10 = .ok (.aload_n 1, 1) := by decide +kernel
theorem d_Rules_make_11 : decode (fnB F_Rules_make) 11 = .ok (.getfield 40, 3) := by decide +kernel
theorem d_Rules_make_14 : decode (fnB F_Rules_make) 14 = .ok (.bipush 60, 2) := by decide +kernel
theorem d_Rules_make_16 : decode (fnB F_Rules_make) 16 = .ok (.if_icmp .le 5, 3) := by decide +kernel
theorem d_Rules_make_19 : decode (fnB F_Rules_make) 19 = .ok (.iconst (-1), 1) := by decide +kernel
theorem d_Rules_make_20 : decode (fnB F_Rules_make) 20 = .ok (.ireturn, 1) := by decide +kernel
theorem d_Rules_make_21 : decode (fnB F_Rules_make) 21 = .ok (.aload_n 0, 1) := by decide +kernel
theorem d_Rules_make_22 : decode (fnB F_Rules_make) 22 = .ok (.getfield 11, 3) := by decide +kernel
theorem d_Rules_make_25 : decode (fnB F_Rules_make) 25 = .ok (.aload_n 0, 1) := by decide +kernel
theorem d_Rules_make_26 : decode (fnB F_Rules_make) 26 = .ok (.getfield 22, 3) := by decide +kernel
theorem d_Rules_make_29 : decode (fnB F_Rules_make) 29 = .ok (.aaload, 1) := by decide +kernel
theorem d_Rules_make_30 : decode (fnB F_Rules_make) 30 = .ok (.getfield 36, 3) := by decide +kernel
theorem d_Rules_make_33 : decode (fnB F_Rules_make) 33 = .ok (.aload_n 1, 1) := by decide +kernel
theorem d_Rules_make_34 : decode (fnB F_Rules_make) 34 = .ok (.invokevirtual 45, 3) := by decide +kernel
theorem d_Rules_make_37 : decode (fnB F_Rules_make) 37 = .ok (.aload_n 0, 1) := by decide +kernel
theorem d_Rules_make_38 : decode (fnB F_Rules_make) 38 = .ok (.getfield 11, 3) := by decide +kernel
theorem d_Rules_make_41 : decode (fnB F_Rules_make) 41 = .ok (.aload_n 0, 1) := by decide +kernel
theorem d_Rules_make_42 : decode (fnB F_Rules_make) 42 = .ok (.getfield 22, 3) := by decide +kernel
theorem d_Rules_make_45 : decode (fnB F_Rules_make) 45 = .ok (.aaload, 1) := by decide +kernel
theorem d_Rules_make_46 : decode (fnB F_Rules_make) 46 = .ok (.getfield 49, 3) := by decide +kernel
theorem d_Rules_make_49 : decode (fnB F_Rules_make) 49 = .ok (.aload_n 2, 1) := by decide +kernel
theorem d_Rules_make_50 : decode (fnB F_Rules_make) 50 = .ok (.invokevirtual 45, 3) := by decide +kernel
theorem d_Rules_make_53 : decode (fnB F_Rules_make) 53 = .ok (.aload_n 0, 1) := by decide +kernel
theorem d_Rules_make_54 : decode (fnB F_Rules_make) 54 = .ok (.getfield 11, 3) := by decide +kernel
theorem d_Rules_make_57 : decode (fnB F_Rules_make) 57 = .ok (.aload_n 0, 1) := by decide +kernel
theorem d_Rules_make_58 : decode (fnB F_Rules_make) 58 = .ok (.getfield 22, 3) := by decide +kernel
theorem d_Rules_make_61 : decode (fnB F_Rules_make) 61 = .ok (.aaload, 1) := by decide +kernel
theorem d_Rules_make_62 : decode (fnB F_Rules_make) 62 = .ok (.iconst 1, 1) := by decide +kernel
theorem d_Rules_make_63 : decode (fnB F_Rules_make) 63 = .ok (.putfield 33, 3) := by decide +kernel
theorem d_Rules_make_66 : decode (fnB F_Rules_make) 66 = .ok (.aload_n 0, 1) := by decide +kernel
theorem d_Rules_make_67 : decode (fnB F_Rules_make) 67 = .ok (.iconst 1, 1) := by decide +kernel
theorem d_Rules_make_68 : decode (fnB F_Rules_make) 68 = .ok (.putfield 17, 3) := by decide +kernel
theorem d_Rules_make_71 : decode (fnB F_Rules_make) 71 = .ok (.aload_n 0, 1) := by decide +kernel
theorem d_Rules_make_72 : decode (fnB F_Rules_make) 72 = .ok (.dup, 1) := by decide +kernel
theorem d_Rules_make_73 : decode (fnB F_Rules_make) 73 = .ok (.getfield 22, 3) := by decide +kernel
theorem d_Rules_make_76 : decode (fnB F_Rules_make) 76 = .ok (.iconst 1, 1) := by decide +kernel
theorem d_Rules_make_77 : decode (fnB F_Rules_make) 77 = .ok (.iadd, 1) := by decide +kernel
theorem d_Rules_make_78 : decode (fnB F_Rules_make) 78 = .ok (.putfield 22, 3) := by decide +kernel
theorem d_Rules_make_81 : decode (fnB F_Rules_make) 81 = .ok (.aload_n 0, 1) := by decide +kernel
theorem d_Rules_make_82 : decode (fnB F_Rules_make) 82 = .ok (.getfield 22, 3) := by decide +kernel
theorem d_Rules_make_85 : decode (fnB F_Rules_make) 85 = .ok (.iconst 1, 1) := by decide +kernel
theorem d_Rules_make_86 : decode (fnB F_Rules_make) 86 = .ok (.isub, 1) := by decide +kernel
theorem d_Rules_make_87 : decode (fnB F_Rules_make) 87 = .ok (.ireturn, 1) := by decide +kernel
theorem B_Rules_make_0 : (∀ (l1 l2 : Value) (x : Nat) (st : List Value) (M : Mm) (Q : Option Value → Mm → Prop), wp F_Rules_make 0 [.ref x, l1, l2] st M Q = wp F_Rules_make 1 [.ref x, l1, l2] (.ref x :: st) M Q) ∧
  (∀ (l0 l1 l2 : Value) (a : Nat) (st : List Value) (M : Mm) (Q : Option Value → Mm → Prop), wp F_Rules_make 1 [l0, l1, l2] (.ref a :: st) M Q = (sh M a = some (.inl 9) ∧ wp F_Rules_make 4 [l0, l1, l2] (.int (gI M a 1) :: st) M Q)) ∧
  (∀ (l0 l1 l2 : Value) (st : List Value) (M : Mm) (Q : Option Value → Mm → Prop), wp F_Rules_make 4 [l0, l1, l2] st M Q = wp F_Rules_make 7 [l0, l1, l2] (.int 200 :: st) M Q) ∧
  (∀ (l0 l1 l2 : Value) (x y : Int32) (st : List Value) (M : Mm) (Q : Option Value → Mm → Prop), wp F_Rules_make 7 [l0, l1, l2] (.int y :: .int x :: st) M Q = if y ≤ x then wp F_Rules_make 19 [l0, l1, l2] st M Q else wp F_Rules_make 10 [l0, l1, l2] st M Q) ∧
  (∀ (l0 l2 : Value) (x : Nat) (st : List Value) (M : Mm) (Q : Option Value → Mm → Prop), wp F_Rules_make 10 [l0, .ref x, l2] st M Q = wp F_Rules_make 11 [l0, .ref x, l2] (.ref x :: st) M Q) ∧
  (∀ (l0 l2 : Value) (st : List Value) (M : Mm) (Q : Option Value → Mm → Prop), wp F_Rules_make 10 [l0, .null, l2] st M Q = wp F_Rules_make 11 [l0, .null, l2] (.null :: st) M Q) ∧
  (∀ (l0 l1 l2 : Value) (a : Nat) (st : List Value) (M : Mm) (Q : Option Value → Mm → Prop), wp F_Rules_make 11 [l0, l1, l2] (.ref a :: st) M Q = (sh M a = some (.inl 10) ∧ wp F_Rules_make 14 [l0, l1, l2] (.int (gI M a 1) :: st) M Q)) ∧
  (∀ (l0 l1 l2 : Value) (st : List Value) (M : Mm) (Q : Option Value → Mm → Prop), wp F_Rules_make 14 [l0, l1, l2] st M Q = wp F_Rules_make 16 [l0, l1, l2] (.int 60 :: st) M Q) ∧
  (∀ (l0 l1 l2 : Value) (x y : Int32) (st : List Value) (M : Mm) (Q : Option Value → Mm → Prop), wp F_Rules_make 16 [l0, l1, l2] (.int y :: .int x :: st) M Q = if x ≤ y then wp F_Rules_make 21 [l0, l1, l2] st M Q else wp F_Rules_make 19 [l0, l1, l2] st M Q) := ⟨fun _ _ _ _ _ _ => wp_in d_Rules_make_0 rfl rfl, fun _ _ _ _ _ _ _ => wp_getI d_Rules_make_1 fl_9_22 rfl, fun _ _ _ _ _ _ => wp_sipush d_Rules_make_4 (by decide), fun _ _ _ _ _ _ _ _ => wp_icmp_ge d_Rules_make_7 rfl, fun _ _ _ _ _ _ => wp_in d_Rules_make_10 rfl rfl, fun _ _ _ _ _ => wp_in d_Rules_make_10 rfl rfl, fun _ _ _ _ _ _ _ => wp_getI d_Rules_make_11 fl_9_40 rfl, fun _ _ _ _ _ _ => wp_bipush d_Rules_make_14 (by decide), fun _ _ _ _ _ _ _ _ => wp_icmp_le d_Rules_make_16 rfl⟩
theorem B_Rules_make_19 : (∀ (l0 l1 l2 : Value) (st : List Value) (M : Mm) (Q : Option Value → Mm → Prop), wp F_Rules_make 19 [l0, l1, l2] st M Q = wp F_Rules_make 20 [l0, l1, l2] (.int (-1) :: st) M Q) ∧
  (∀ (l0 l1 l2 : Value) (v : Int32) (M : Mm) (Q : Option Value → Mm → Prop), wp F_Rules_make 20 [l0, l1, l2] [.int v] M Q = Q (some (.int v)) M) := ⟨fun _ _ _ _ _ _ => wp_iconst d_Rules_make_19 (by decide), fun _ _ _ _ _ _ => wp_retI d_Rules_make_20 rfl⟩
theorem B_Rules_make_21 : (∀ (l1 l2 : Value) (x : Nat) (st : List Value) (M : Mm) (Q : Option Value → Mm → Prop), wp F_Rules_make 21 [.ref x, l1, l2] st M Q = wp F_Rules_make 22 [.ref x, l1, l2] (.ref x :: st) M Q) ∧
  (∀ (l0 l1 l2 : Value) (a : Nat) (st : List Value) (M : Mm) (Q : Option Value → Mm → Prop), wp F_Rules_make 22 [l0, l1, l2] (.ref a :: st) M Q = (sh M a = some (.inl 9) ∧ wp F_Rules_make 25 [l0, l1, l2] (va_rf (gR M a 0) :: st) M Q)) ∧
  (∀ (l1 l2 : Value) (x : Nat) (st : List Value) (M : Mm) (Q : Option Value → Mm → Prop), wp F_Rules_make 25 [.ref x, l1, l2] st M Q = wp F_Rules_make 26 [.ref x, l1, l2] (.ref x :: st) M Q) ∧
  (∀ (l0 l1 l2 : Value) (a : Nat) (st : List Value) (M : Mm) (Q : Option Value → Mm → Prop), wp F_Rules_make 26 [l0, l1, l2] (.ref a :: st) M Q = (sh M a = some (.inl 9) ∧ wp F_Rules_make 29 [l0, l1, l2] (.int (gI M a 1) :: st) M Q)) ∧
  (∀ (l0 l1 l2 : Value) (a : Nat) (j : Int32) (st : List Value) (M : Mm) (Q : Option Value → Mm → Prop), wp F_Rules_make 29 [l0, l1, l2] (.int j :: .ref a :: st) M Q = (ixR M a j ∧ wp F_Rules_make 30 [l0, l1, l2] (va_rf (gR M a (cl j)) :: st) M Q)) ∧
  (∀ (l0 l1 l2 : Value) (a : Nat) (st : List Value) (M : Mm) (Q : Option Value → Mm → Prop), wp F_Rules_make 30 [l0, l1, l2] (.ref a :: st) M Q = (sh M a = some (.inl 8) ∧ wp F_Rules_make 33 [l0, l1, l2] (va_rf (gR M a 0) :: st) M Q)) ∧
  (∀ (l0 l2 : Value) (x : Nat) (st : List Value) (M : Mm) (Q : Option Value → Mm → Prop), wp F_Rules_make 33 [l0, .ref x, l2] st M Q = wp F_Rules_make 34 [l0, .ref x, l2] (.ref x :: st) M Q) ∧
  (∀ (l0 l2 : Value) (st : List Value) (M : Mm) (Q : Option Value → Mm → Prop), wp F_Rules_make 33 [l0, .null, l2] st M Q = wp F_Rules_make 34 [l0, .null, l2] (.null :: st) M Q) ∧
  (∀ (l0 l1 l2 : Value) (b : Nat) (p0 : Nat) (M : Mm) (Q : Option Value → Mm → Prop), wp F_Rules_make 34 [l0, l1, l2] [.ref p0, .ref b] M Q = (sh M b = some (.inl 10) ∧ wp F_Word_become 0 [.ref b, .ref p0, jk, jk] [] M (fun r M1 => wp F_Rules_make 37 [l0, l1, l2] (r.toList ++ []) M1 Q))) ∧
  (∀ (l1 l2 : Value) (x : Nat) (st : List Value) (M : Mm) (Q : Option Value → Mm → Prop), wp F_Rules_make 37 [.ref x, l1, l2] st M Q = wp F_Rules_make 38 [.ref x, l1, l2] (.ref x :: st) M Q) ∧
  (∀ (l0 l1 l2 : Value) (a : Nat) (st : List Value) (M : Mm) (Q : Option Value → Mm → Prop), wp F_Rules_make 38 [l0, l1, l2] (.ref a :: st) M Q = (sh M a = some (.inl 9) ∧ wp F_Rules_make 41 [l0, l1, l2] (va_rf (gR M a 0) :: st) M Q)) ∧
  (∀ (l1 l2 : Value) (x : Nat) (st : List Value) (M : Mm) (Q : Option Value → Mm → Prop), wp F_Rules_make 41 [.ref x, l1, l2] st M Q = wp F_Rules_make 42 [.ref x, l1, l2] (.ref x :: st) M Q) ∧
  (∀ (l0 l1 l2 : Value) (a : Nat) (st : List Value) (M : Mm) (Q : Option Value → Mm → Prop), wp F_Rules_make 42 [l0, l1, l2] (.ref a :: st) M Q = (sh M a = some (.inl 9) ∧ wp F_Rules_make 45 [l0, l1, l2] (.int (gI M a 1) :: st) M Q)) ∧
  (∀ (l0 l1 l2 : Value) (a : Nat) (j : Int32) (st : List Value) (M : Mm) (Q : Option Value → Mm → Prop), wp F_Rules_make 45 [l0, l1, l2] (.int j :: .ref a :: st) M Q = (ixR M a j ∧ wp F_Rules_make 46 [l0, l1, l2] (va_rf (gR M a (cl j)) :: st) M Q)) ∧
  (∀ (l0 l1 l2 : Value) (a : Nat) (st : List Value) (M : Mm) (Q : Option Value → Mm → Prop), wp F_Rules_make 46 [l0, l1, l2] (.ref a :: st) M Q = (sh M a = some (.inl 8) ∧ wp F_Rules_make 49 [l0, l1, l2] (va_rf (gR M a 1) :: st) M Q)) ∧
  (∀ (l0 l1 : Value) (x : Nat) (st : List Value) (M : Mm) (Q : Option Value → Mm → Prop), wp F_Rules_make 49 [l0, l1, .ref x] st M Q = wp F_Rules_make 50 [l0, l1, .ref x] (.ref x :: st) M Q) ∧
  (∀ (l0 l1 : Value) (st : List Value) (M : Mm) (Q : Option Value → Mm → Prop), wp F_Rules_make 49 [l0, l1, .null] st M Q = wp F_Rules_make 50 [l0, l1, .null] (.null :: st) M Q) ∧
  (∀ (l0 l1 l2 : Value) (b : Nat) (p0 : Nat) (M : Mm) (Q : Option Value → Mm → Prop), wp F_Rules_make 50 [l0, l1, l2] [.ref p0, .ref b] M Q = (sh M b = some (.inl 10) ∧ wp F_Word_become 0 [.ref b, .ref p0, jk, jk] [] M (fun r M1 => wp F_Rules_make 53 [l0, l1, l2] (r.toList ++ []) M1 Q))) ∧
  (∀ (l1 l2 : Value) (x : Nat) (st : List Value) (M : Mm) (Q : Option Value → Mm → Prop), wp F_Rules_make 53 [.ref x, l1, l2] st M Q = wp F_Rules_make 54 [.ref x, l1, l2] (.ref x :: st) M Q) ∧
  (∀ (l0 l1 l2 : Value) (a : Nat) (st : List Value) (M : Mm) (Q : Option Value → Mm → Prop), wp F_Rules_make 54 [l0, l1, l2] (.ref a :: st) M Q = (sh M a = some (.inl 9) ∧ wp F_Rules_make 57 [l0, l1, l2] (va_rf (gR M a 0) :: st) M Q)) ∧
  (∀ (l1 l2 : Value) (x : Nat) (st : List Value) (M : Mm) (Q : Option Value → Mm → Prop), wp F_Rules_make 57 [.ref x, l1, l2] st M Q = wp F_Rules_make 58 [.ref x, l1, l2] (.ref x :: st) M Q) ∧
  (∀ (l0 l1 l2 : Value) (a : Nat) (st : List Value) (M : Mm) (Q : Option Value → Mm → Prop), wp F_Rules_make 58 [l0, l1, l2] (.ref a :: st) M Q = (sh M a = some (.inl 9) ∧ wp F_Rules_make 61 [l0, l1, l2] (.int (gI M a 1) :: st) M Q)) ∧
  (∀ (l0 l1 l2 : Value) (a : Nat) (j : Int32) (st : List Value) (M : Mm) (Q : Option Value → Mm → Prop), wp F_Rules_make 61 [l0, l1, l2] (.int j :: .ref a :: st) M Q = (ixR M a j ∧ wp F_Rules_make 62 [l0, l1, l2] (va_rf (gR M a (cl j)) :: st) M Q)) ∧
  (∀ (l0 l1 l2 : Value) (st : List Value) (M : Mm) (Q : Option Value → Mm → Prop), wp F_Rules_make 62 [l0, l1, l2] st M Q = wp F_Rules_make 63 [l0, l1, l2] (.int 1 :: st) M Q) ∧
  (∀ (l0 l1 l2 : Value) (a : Nat) (x : Int32) (st : List Value) (M : Mm) (Q : Option Value → Mm → Prop), wp F_Rules_make 63 [l0, l1, l2] (.int x :: .ref a :: st) M Q = ((x = 0 ∨ x = 1) ∧ sh M a = some (.inl 8) ∧ wp F_Rules_make 66 [l0, l1, l2] st (sI M a 2 x) Q)) ∧
  (∀ (l1 l2 : Value) (x : Nat) (st : List Value) (M : Mm) (Q : Option Value → Mm → Prop), wp F_Rules_make 66 [.ref x, l1, l2] st M Q = wp F_Rules_make 67 [.ref x, l1, l2] (.ref x :: st) M Q) ∧
  (∀ (l0 l1 l2 : Value) (st : List Value) (M : Mm) (Q : Option Value → Mm → Prop), wp F_Rules_make 67 [l0, l1, l2] st M Q = wp F_Rules_make 68 [l0, l1, l2] (.int 1 :: st) M Q) ∧
  (∀ (l0 l1 l2 : Value) (a : Nat) (x : Int32) (st : List Value) (M : Mm) (Q : Option Value → Mm → Prop), wp F_Rules_make 68 [l0, l1, l2] (.int x :: .ref a :: st) M Q = ((x = 0 ∨ x = 1) ∧ sh M a = some (.inl 9) ∧ wp F_Rules_make 71 [l0, l1, l2] st (sI M a 3 x) Q)) ∧
  (∀ (l1 l2 : Value) (x : Nat) (st : List Value) (M : Mm) (Q : Option Value → Mm → Prop), wp F_Rules_make 71 [.ref x, l1, l2] st M Q = wp F_Rules_make 72 [.ref x, l1, l2] (.ref x :: st) M Q) ∧
  (∀ (l0 l1 l2 : Value) (x : Nat) (st : List Value) (M : Mm) (Q : Option Value → Mm → Prop), wp F_Rules_make 72 [l0, l1, l2] (.ref x :: st) M Q = wp F_Rules_make 73 [l0, l1, l2] (.ref x :: .ref x :: st) M Q) ∧
  (∀ (l0 l1 l2 : Value) (a : Nat) (st : List Value) (M : Mm) (Q : Option Value → Mm → Prop), wp F_Rules_make 73 [l0, l1, l2] (.ref a :: st) M Q = (sh M a = some (.inl 9) ∧ wp F_Rules_make 76 [l0, l1, l2] (.int (gI M a 1) :: st) M Q)) ∧
  (∀ (l0 l1 l2 : Value) (st : List Value) (M : Mm) (Q : Option Value → Mm → Prop), wp F_Rules_make 76 [l0, l1, l2] st M Q = wp F_Rules_make 77 [l0, l1, l2] (.int 1 :: st) M Q) ∧
  (∀ (l0 l1 l2 : Value) (x y : Int32) (st : List Value) (M : Mm) (Q : Option Value → Mm → Prop), wp F_Rules_make 77 [l0, l1, l2] (.int y :: .int x :: st) M Q = wp F_Rules_make 78 [l0, l1, l2] (.int (x + y) :: st) M Q) ∧
  (∀ (l0 l1 l2 : Value) (a : Nat) (x : Int32) (st : List Value) (M : Mm) (Q : Option Value → Mm → Prop), wp F_Rules_make 78 [l0, l1, l2] (.int x :: .ref a :: st) M Q = (sh M a = some (.inl 9) ∧ wp F_Rules_make 81 [l0, l1, l2] st (sI M a 1 x) Q)) ∧
  (∀ (l1 l2 : Value) (x : Nat) (st : List Value) (M : Mm) (Q : Option Value → Mm → Prop), wp F_Rules_make 81 [.ref x, l1, l2] st M Q = wp F_Rules_make 82 [.ref x, l1, l2] (.ref x :: st) M Q) ∧
  (∀ (l0 l1 l2 : Value) (a : Nat) (st : List Value) (M : Mm) (Q : Option Value → Mm → Prop), wp F_Rules_make 82 [l0, l1, l2] (.ref a :: st) M Q = (sh M a = some (.inl 9) ∧ wp F_Rules_make 85 [l0, l1, l2] (.int (gI M a 1) :: st) M Q)) ∧
  (∀ (l0 l1 l2 : Value) (st : List Value) (M : Mm) (Q : Option Value → Mm → Prop), wp F_Rules_make 85 [l0, l1, l2] st M Q = wp F_Rules_make 86 [l0, l1, l2] (.int 1 :: st) M Q) ∧
  (∀ (l0 l1 l2 : Value) (x y : Int32) (st : List Value) (M : Mm) (Q : Option Value → Mm → Prop), wp F_Rules_make 86 [l0, l1, l2] (.int y :: .int x :: st) M Q = wp F_Rules_make 87 [l0, l1, l2] (.int (x - y) :: st) M Q) ∧
  (∀ (l0 l1 l2 : Value) (v : Int32) (M : Mm) (Q : Option Value → Mm → Prop), wp F_Rules_make 87 [l0, l1, l2] [.int v] M Q = Q (some (.int v)) M) := ⟨fun _ _ _ _ _ _ => wp_in d_Rules_make_21 rfl rfl, fun _ _ _ _ _ _ _ => wp_getA d_Rules_make_22 fl_9_11 rfl, fun _ _ _ _ _ _ => wp_in d_Rules_make_25 rfl rfl, fun _ _ _ _ _ _ _ => wp_getI d_Rules_make_26 fl_9_22 rfl, fun _ _ _ _ _ _ _ _ => wp_aald d_Rules_make_29, fun _ _ _ _ _ _ _ => wp_getA d_Rules_make_30 fl_9_36 rfl, fun _ _ _ _ _ _ => wp_in d_Rules_make_33 rfl rfl, fun _ _ _ _ _ => wp_in d_Rules_make_33 rfl rfl, fun _ _ _ _ _ _ _ => wp_callV d_Rules_make_34 ml_9_45 rfl rfl rfl, fun _ _ _ _ _ _ => wp_in d_Rules_make_37 rfl rfl, fun _ _ _ _ _ _ _ => wp_getA d_Rules_make_38 fl_9_11 rfl, fun _ _ _ _ _ _ => wp_in d_Rules_make_41 rfl rfl, fun _ _ _ _ _ _ _ => wp_getI d_Rules_make_42 fl_9_22 rfl, fun _ _ _ _ _ _ _ _ => wp_aald d_Rules_make_45, fun _ _ _ _ _ _ _ => wp_getA d_Rules_make_46 fl_9_49 rfl, fun _ _ _ _ _ _ => wp_in d_Rules_make_49 rfl rfl, fun _ _ _ _ _ => wp_in d_Rules_make_49 rfl rfl, fun _ _ _ _ _ _ _ => wp_callV d_Rules_make_50 ml_9_45 rfl rfl rfl, fun _ _ _ _ _ _ => wp_in d_Rules_make_53 rfl rfl, fun _ _ _ _ _ _ _ => wp_getA d_Rules_make_54 fl_9_11 rfl, fun _ _ _ _ _ _ => wp_in d_Rules_make_57 rfl rfl, fun _ _ _ _ _ _ _ => wp_getI d_Rules_make_58 fl_9_22 rfl, fun _ _ _ _ _ _ _ _ => wp_aald d_Rules_make_61, fun _ _ _ _ _ _ => wp_iconst d_Rules_make_62 (by decide), fun _ _ _ _ _ _ _ _ => wp_putZ d_Rules_make_63 fl_9_33 rfl rfl, fun _ _ _ _ _ _ => wp_in d_Rules_make_66 rfl rfl, fun _ _ _ _ _ _ => wp_iconst d_Rules_make_67 (by decide), fun _ _ _ _ _ _ _ _ => wp_putZ d_Rules_make_68 fl_9_17 rfl rfl, fun _ _ _ _ _ _ => wp_in d_Rules_make_71 rfl rfl, fun _ _ _ _ _ _ _ => wp_in d_Rules_make_72 rfl rfl, fun _ _ _ _ _ _ _ => wp_getI d_Rules_make_73 fl_9_22 rfl, fun _ _ _ _ _ _ => wp_iconst d_Rules_make_76 (by decide), fun _ _ _ _ _ _ _ _ => wp_in d_Rules_make_77 rfl rfl, fun _ _ _ _ _ _ _ _ => wp_putI d_Rules_make_78 fl_9_22 rfl rfl, fun _ _ _ _ _ _ => wp_in d_Rules_make_81 rfl rfl, fun _ _ _ _ _ _ _ => wp_getI d_Rules_make_82 fl_9_22 rfl, fun _ _ _ _ _ _ => wp_iconst d_Rules_make_85 (by decide), fun _ _ _ _ _ _ _ _ => wp_in d_Rules_make_86 rfl rfl, fun _ _ _ _ _ _ => wp_retI d_Rules_make_87 rfl⟩
theorem d_Rules_drop_0 : decode (fnB F_Rules_drop) 0 = .ok (.aload_n 0, 1) := by decide +kernel
theorem d_Rules_drop_1 : decode (fnB F_Rules_drop) 1 = .ok (.iload_n 1, 1) := by decide +kernel
theorem d_Rules_drop_2 : decode (fnB F_Rules_drop) 2 = .ok (.invokevirtual 29, 3) := by decide +kernel
theorem d_Rules_drop_5 : decode (fnB F_Rules_drop) 5 = .ok (.ifCond .eq 18, 3) := by decide +kernel
theorem d_Rules_drop_8 : decode (fnB F_Rules_drop) 8 = .ok (.aload_n 0, 1) := by decide +kernel
theorem d_Rules_drop_9 : decode (fnB F_Rules_drop) 9 = .ok (.getfield 11, 3) := by decide +kernel
theorem d_Rules_drop_12 : decode (fnB F_Rules_drop) 12 = .ok (.iload_n 1, 1) := by decide +kernel
theorem d_Rules_drop_13 : decode (fnB F_Rules_drop) 13 = .ok (.aaload, 1) := by decide +kernel
theorem d_Rules_drop_14 : decode (fnB F_Rules_drop) 14 = .ok (.iconst 0, 1) := by decide +kernel
theorem d_Rules_drop_15 : decode (fnB F_Rules_drop) 15 = .ok (.putfield 33, 3) := by decide +kernel
theorem d_Rules_drop_18 : decode (fnB F_Rules_drop) 18 = .ok (.aload_n 0, 1) := by decide +kernel
theorem d_Rules_drop_19 : decode (fnB F_Rules_drop) 19 = .ok (.iconst 1, 1) := by decide +kernel
theorem d_Rules_drop_20 : decode (fnB F_Rules_drop) 20 = .ok (.putfield 17, 3) := by decide +kernel
theorem d_Rules_drop_23 : decode (fnB F_Rules_drop) 23 = .ok (.return_, 1) := by decide +kernel
theorem B_Rules_drop_0 : (∀ (l1 : Value) (x : Nat) (st : List Value) (M : Mm) (Q : Option Value → Mm → Prop), wp F_Rules_drop 0 [.ref x, l1] st M Q = wp F_Rules_drop 1 [.ref x, l1] (.ref x :: st) M Q) ∧
  (∀ (l0 : Value) (x : Int32) (st : List Value) (M : Mm) (Q : Option Value → Mm → Prop), wp F_Rules_drop 1 [l0, .int x] st M Q = wp F_Rules_drop 2 [l0, .int x] (.int x :: st) M Q) ∧
  (∀ (l0 l1 : Value) (b : Nat) (p0 : Int32) (M : Mm) (Q : Option Value → Mm → Prop), wp F_Rules_drop 2 [l0, l1] [.int p0, .ref b] M Q = (sh M b = some (.inl 9) ∧ wp F_Rules_has 0 [.ref b, .int p0] [] M (fun r M1 => wp F_Rules_drop 5 [l0, l1] (r.toList ++ []) M1 Q))) ∧
  (∀ (l0 l1 : Value) (x : Int32) (st : List Value) (M : Mm) (Q : Option Value → Mm → Prop), wp F_Rules_drop 5 [l0, l1] (.int x :: st) M Q = if x = 0 then wp F_Rules_drop 23 [l0, l1] st M Q else wp F_Rules_drop 8 [l0, l1] st M Q) ∧
  (∀ (l1 : Value) (x : Nat) (st : List Value) (M : Mm) (Q : Option Value → Mm → Prop), wp F_Rules_drop 8 [.ref x, l1] st M Q = wp F_Rules_drop 9 [.ref x, l1] (.ref x :: st) M Q) ∧
  (∀ (l0 l1 : Value) (a : Nat) (st : List Value) (M : Mm) (Q : Option Value → Mm → Prop), wp F_Rules_drop 9 [l0, l1] (.ref a :: st) M Q = (sh M a = some (.inl 9) ∧ wp F_Rules_drop 12 [l0, l1] (va_rf (gR M a 0) :: st) M Q)) ∧
  (∀ (l0 : Value) (x : Int32) (st : List Value) (M : Mm) (Q : Option Value → Mm → Prop), wp F_Rules_drop 12 [l0, .int x] st M Q = wp F_Rules_drop 13 [l0, .int x] (.int x :: st) M Q) ∧
  (∀ (l0 l1 : Value) (a : Nat) (j : Int32) (st : List Value) (M : Mm) (Q : Option Value → Mm → Prop), wp F_Rules_drop 13 [l0, l1] (.int j :: .ref a :: st) M Q = (ixR M a j ∧ wp F_Rules_drop 14 [l0, l1] (va_rf (gR M a (cl j)) :: st) M Q)) ∧
  (∀ (l0 l1 : Value) (st : List Value) (M : Mm) (Q : Option Value → Mm → Prop), wp F_Rules_drop 14 [l0, l1] st M Q = wp F_Rules_drop 15 [l0, l1] (.int 0 :: st) M Q) ∧
  (∀ (l0 l1 : Value) (a : Nat) (x : Int32) (st : List Value) (M : Mm) (Q : Option Value → Mm → Prop), wp F_Rules_drop 15 [l0, l1] (.int x :: .ref a :: st) M Q = ((x = 0 ∨ x = 1) ∧ sh M a = some (.inl 8) ∧ wp F_Rules_drop 18 [l0, l1] st (sI M a 2 x) Q)) ∧
  (∀ (l1 : Value) (x : Nat) (st : List Value) (M : Mm) (Q : Option Value → Mm → Prop), wp F_Rules_drop 18 [.ref x, l1] st M Q = wp F_Rules_drop 19 [.ref x, l1] (.ref x :: st) M Q) ∧
  (∀ (l0 l1 : Value) (st : List Value) (M : Mm) (Q : Option Value → Mm → Prop), wp F_Rules_drop 19 [l0, l1] st M Q = wp F_Rules_drop 20 [l0, l1] (.int 1 :: st) M Q) ∧
  (∀ (l0 l1 : Value) (a : Nat) (x : Int32) (st : List Value) (M : Mm) (Q : Option Value → Mm → Prop), wp F_Rules_drop 20 [l0, l1] (.int x :: .ref a :: st) M Q = ((x = 0 ∨ x = 1) ∧ sh M a = some (.inl 9) ∧ wp F_Rules_drop 23 [l0, l1] st (sI M a 3 x) Q)) := ⟨fun _ _ _ _ _ => wp_in d_Rules_drop_0 rfl rfl, fun _ _ _ _ _ => wp_in d_Rules_drop_1 rfl rfl, fun _ _ _ _ _ _ => wp_callV d_Rules_drop_2 ml_9_29 rfl rfl rfl, fun _ _ _ _ _ _ => wp_if_eq d_Rules_drop_5 rfl, fun _ _ _ _ _ => wp_in d_Rules_drop_8 rfl rfl, fun _ _ _ _ _ _ => wp_getA d_Rules_drop_9 fl_9_11 rfl, fun _ _ _ _ _ => wp_in d_Rules_drop_12 rfl rfl, fun _ _ _ _ _ _ _ => wp_aald d_Rules_drop_13, fun _ _ _ _ _ => wp_iconst d_Rules_drop_14 (by decide), fun _ _ _ _ _ _ _ => wp_putZ d_Rules_drop_15 fl_9_33 rfl rfl, fun _ _ _ _ _ => wp_in d_Rules_drop_18 rfl rfl, fun _ _ _ _ _ => wp_iconst d_Rules_drop_19 (by decide), fun _ _ _ _ _ _ _ => wp_putZ d_Rules_drop_20 fl_9_17 rfl rfl⟩
theorem B_Rules_drop_23 : (∀ (l0 l1 : Value) (M : Mm) (Q : Option Value → Mm → Prop), wp F_Rules_drop 23 [l0, l1] [] M Q = Q none M) := fun _ _ _ _ => wp_retV d_Rules_drop_23 rfl
