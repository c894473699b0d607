theorem d_Word_init_0 : decode (fnB F_Word_init) 0 = .ok (.aload_n 0, 1) := by decide +kernel
theorem d_Word_init_1 : decode (fnB F_Word_init) 1 = .ok (.invokespecial 3, 3) := by decide +kernel
theorem d_Word_init_4 : decode (fnB F_Word_init) 4 = .ok (.aload_n 0, 1) := by decide +kernel
theorem d_Word_init_5 : decode (fnB F_Word_init) 5 = .ok (.iload_n 1, 1) := by decide +kernel
theorem d_Word_init_6 : decode (fnB F_Word_init) 6 = .ok (.iconst 0, 1) := by decide +kernel
theorem d_Word_init_7 : decode (fnB F_Word_init) 7 = .ok (.invokestatic 9, 3) := by decide +kernel
theorem d_Word_init_10 : decode (fnB F_Word_init) 10 = .ok (.newarray .byte, 2) := by decide +kernel
theorem d_Word_init_12 : decode (fnB F_Word_init) 12 = .ok (.putfield 15, 3) := by decide +kernel
theorem d_Word_init_15 : decode (fnB F_Word_init) 15 = .ok (.return_, 1) := by decide +kernel
theorem B_Word_init_0 : (∀ (l1 : Value) (x : Nat) (st : List Value) (M : Mm) (Q : Option Value → Mm → Prop), wp F_Word_init 0 [.ref x, l1] st M Q = wp F_Word_init 1 [.ref x, l1] (.ref x :: st) M Q) ∧
  (∀ (l0 l1 : Value) (a : Nat) (M : Mm) (Q : Option Value → Mm → Prop), wp F_Word_init 1 [l0, l1] [.ref a] M Q = wp F_Word_init 4 [l0, l1] [] M Q) ∧
  (∀ (l1 : Value) (x : Nat) (st : List Value) (M : Mm) (Q : Option Value → Mm → Prop), wp F_Word_init 4 [.ref x, l1] st M Q = wp F_Word_init 5 [.ref x, l1] (.ref x :: st) M Q) ∧
  (∀ (l0 : Value) (x : Int32) (st : List Value) (M : Mm) (Q : Option Value → Mm → Prop), wp F_Word_init 5 [l0, .int x] st M Q = wp F_Word_init 6 [l0, .int x] (.int x :: st) M Q) ∧
  (∀ (l0 l1 : Value) (st : List Value) (M : Mm) (Q : Option Value → Mm → Prop), wp F_Word_init 6 [l0, l1] st M Q = wp F_Word_init 7 [l0, l1] (.int 0 :: st) M Q) ∧
  (∀ (l0 l1 : Value) (x y : Int32) (r0 : Value) (M : Mm) (Q : Option Value → Mm → Prop), wp F_Word_init 7 [l0, l1] [.int y, .int x, r0] M Q = wp F_Word_init 10 [l0, l1] [.int (if x < y then y else x), r0] M Q) ∧
  (∀ (l0 l1 : Value) (n : Int32) (st : List Value) (M : Mm) (Q : Option Value → Mm → Prop), wp F_Word_init 10 [l0, l1] (.int n :: st) M Q = ((¬ n < 0 ∧ cl n ≤ 16777216) ∧ wp F_Word_init 12 [l0, l1] (.ref (nxt M) :: st) (nw M (.inr (2, cl n)) (cl n)) Q)) ∧
  (∀ (l0 l1 : Value) (a x : Nat) (st : List Value) (M : Mm) (Q : Option Value → Mm → Prop), wp F_Word_init 12 [l0, l1] (.ref x :: .ref a :: st) M Q = (sh M a = some (.inl 10) ∧ wp F_Word_init 15 [l0, l1] st (sR M a 0 (some x)) Q)) ∧
  (∀ (l0 l1 : Value) (M : Mm) (Q : Option Value → Mm → Prop), wp F_Word_init 15 [l0, l1] [] M Q = Q none M) := ⟨fun _ _ _ _ _ => wp_in d_Word_init_0 rfl rfl, fun _ _ _ _ _ => wp_obj d_Word_init_1 ml_10_3 (Nat.le_of_ble_eq_true rfl), fun _ _ _ _ _ => wp_in d_Word_init_4 rfl rfl, fun _ _ _ _ _ => wp_in d_Word_init_5 rfl rfl, fun _ _ _ _ _ => wp_iconst d_Word_init_6 (by decide), fun _ _ _ _ _ _ _ => wp_max d_Word_init_7 ml_10_9 (Nat.le_of_ble_eq_true rfl), fun _ _ _ _ _ _ => wp_new_byte d_Word_init_10, fun _ _ _ _ _ _ _ => wp_putRA d_Word_init_12 fl_10_15 rfl rfl, fun _ _ _ _ => wp_retV d_Word_init_15 rfl⟩
theorem d_Word_clear_0 : decode (fnB F_Word_clear) 0 = .ok (.aload_n 0, 1) := by decide +kernel
theorem d_Word_clear_1 : decode (fnB F_Word_clear) 1 = .ok (.iconst 0, 1) := by decide +kernel
theorem d_Word_clear_2 : decode (fnB F_Word_clear) 2 = .ok (.putfield 21, 3) := by decide +kernel
theorem d_Word_clear_5 : decode (fnB F_Word_clear) 5 = .ok (.return_, 1) := by decide +kernel
theorem B_Word_clear_0 : (∀ (x : Nat) (st : List Value) (M : Mm) (Q : Option Value → Mm → Prop), wp F_Word_clear 0 [.ref x] st M Q = wp F_Word_clear 1 [.ref x] (.ref x :: st) M Q) ∧
  (∀ (l0 : Value) (st : List Value) (M : Mm) (Q : Option Value → Mm → Prop), wp F_Word_clear 1 [l0] st M Q = wp F_Word_clear 2 [l0] (.int 0 :: st) M Q) ∧
  (∀ (l0 : Value) (a : Nat) (x : Int32) (st : List Value) (M : Mm) (Q : Option Value → Mm → Prop), wp F_Word_clear 2 [l0] (.int x :: .ref a :: st) M Q = (sh M a = some (.inl 10) ∧ wp F_Word_clear 5 [l0] st (sI M a 1 x) Q)) ∧
  (∀ (l0 : Value) (M : Mm) (Q : Option Value → Mm → Prop), wp F_Word_clear 5 [l0] [] M Q = Q none M) := ⟨fun _ _ _ _ => wp_in d_Word_clear_0 rfl rfl, fun _ _ _ _ => wp_iconst d_Word_clear_1 (by decide), fun _ _ _ _ _ _ => wp_putI d_Word_clear_2 fl_10_21 rfl rfl, fun _ _ _ => wp_retV d_Word_clear_5 rfl⟩
theorem d_Word_add_0 : decode (fnB F_Word_add) 0 = .ok (.aload_n 0, 1) := by decide +kernel
theorem d_Word_add_1 : decode (fnB F_Word_add) 1 = .ok (.getfield 21, 3) := by decide +kernel
theorem d_Word_add_4 : decode (fnB F_Word_add) 4 = .ok (.aload_n 0, 1) := by decide +kernel
theorem d_Word_add_5 : decode (fnB F_Word_add) 5 = .ok (.getfield 15, 3) := by decide +kernel
theorem d_Word_add_8 : decode (fnB F_Word_add) 8 = .ok (.arraylength, 1) := by decide +kernel
theorem d_Word_add_9 : decode (fnB F_Word_add) 9 = .ok (.if_icmp .ge 24, 3) := by decide +kernel
theorem d_Word_add_12 : decode (fnB F_Word_add) 12 = .ok (.aload_n 0, 1) := by decide +kernel
theorem d_Word_add_13 : decode (fnB F_Word_add) 13 = .ok (.getfield 15, 3) := by decide +kernel
theorem d_Word_add_16 : decode (fnB F_Word_add) 16 = .ok (.aload_n 0, 1) := by decide +kernel
theorem d_Word_add_17 : decode (fnB F_Word_add) 17 = .ok (.getfield 21, 3) := by decide +kernel
theorem d_Word_add_20 : decode (fnB F_Word_add) 20 = .ok (.iload_n 1, 1) := by decide +kernel
theorem d_Word_add_21 : decode (fnB F_Word_add) 21 = .ok (.i2b, 1) := by decide +kernel
theorem d_Word_add_22 : decode (fnB F_Word_add) 22 = .ok (.bastore, 1) := by decide +kernel
theorem d_Word_add_23 : decode (fnB F_Word_add) 23 = .ok (.aload_n 0, 1) := by decide +kernel
theorem d_Word_add_24 : decode (fnB F_Word_add) 24 = .ok (.dup, 1) := by decide +kernel
theorem d_Word_add_25 : decode (fnB F_Word_add) 25 = .ok (.getfield 21, 3) := by decide +kernel
theorem d_Word_add_28 : decode (fnB F_Word_add) 28 = .ok (.iconst 1, 1) := by decide +kernel
theorem d_Word_add_29 : decode (fnB F_Word_add) 29 = .ok (.iadd, 1) := by decide +kernel
theorem d_Word_add_30 : decode (fnB F_Word_add) 30 = .ok (.putfield 21, 3) := by decide +kernel
theorem d_Word_add_33 : decode (fnB F_Word_add) 33 = .ok (.return_, 1) := by decide +kernel
theorem B_Word_add_0 : (∀ (l1 : Value) (x : Nat) (st : List Value) (M : Mm) (Q : Option Value → Mm → Prop), wp F_Word_add 0 [.ref x, l1] st M Q = wp F_Word_add 1 [.ref x, l1] (.ref x :: st) M Q) ∧
  (∀ (l0 l1 : Value) (a : Nat) (st : List Value) (M : Mm) (Q : Option Value → Mm → Prop), wp F_Word_add 1 [l0, l1] (.ref a :: st) M Q = (sh M a = some (.inl 10) ∧ wp F_Word_add 4 [l0, l1] (.int (gI M a 1) :: st) M Q)) ∧
  (∀ (l1 : Value) (x : Nat) (st : List Value) (M : Mm) (Q : Option Value → Mm → Prop), wp F_Word_add 4 [.ref x, l1] st M Q = wp F_Word_add 5 [.ref x, l1] (.ref x :: st) M Q) ∧
  (∀ (l0 l1 : Value) (a : Nat) (st : List Value) (M : Mm) (Q : Option Value → Mm → Prop), wp F_Word_add 5 [l0, l1] (.ref a :: st) M Q = (sh M a = some (.inl 10) ∧ wp F_Word_add 8 [l0, l1] (va_rf (gR M a 0) :: st) M Q)) ∧
  (∀ (l0 l1 : Value) (a : Nat) (st : List Value) (M : Mm) (Q : Option Value → Mm → Prop), wp F_Word_add 8 [l0, l1] (.ref a :: st) M Q = (match sh M a with | some (.inr (_, n)) => wp F_Word_add 9 [l0, l1] (.int (Int32.ofNat n) :: st) M Q | _ => False)) ∧
  (∀ (l0 l1 : Value) (x y : Int32) (st : List Value) (M : Mm) (Q : Option Value → Mm → Prop), wp F_Word_add 9 [l0, l1] (.int y :: .int x :: st) M Q = if y ≤ x then wp F_Word_add 33 [l0, l1] st M Q else wp F_Word_add 12 [l0, l1] st M Q) ∧
  (∀ (l1 : Value) (x : Nat) (st : List Value) (M : Mm) (Q : Option Value → Mm → Prop), wp F_Word_add 12 [.ref x, l1] st M Q = wp F_Word_add 13 [.ref x, l1] (.ref x :: st) M Q) ∧
  (∀ (l0 l1 : Value) (a : Nat) (st : List Value) (M : Mm) (Q : Option Value → Mm → Prop), wp F_Word_add 13 [l0, l1] (.ref a :: st) M Q = (sh M a = some (.inl 10) ∧ wp F_Word_add 16 [l0, l1] (va_rf (gR M a 0) :: st) M Q)) ∧
  (∀ (l1 : Value) (x : Nat) (st : List Value) (M : Mm) (Q : Option Value → Mm → Prop), wp F_Word_add 16 [.ref x, l1] st M Q = wp F_Word_add 17 [.ref x, l1] (.ref x :: st) M Q) ∧
  (∀ (l0 l1 : Value) (a : Nat) (st : List Value) (M : Mm) (Q : Option Value → Mm → Prop), wp F_Word_add 17 [l0, l1] (.ref a :: st) M Q = (sh M a = some (.inl 10) ∧ wp F_Word_add 20 [l0, l1] (.int (gI M a 1) :: st) M Q)) ∧
  (∀ (l0 : Value) (x : Int32) (st : List Value) (M : Mm) (Q : Option Value → Mm → Prop), wp F_Word_add 20 [l0, .int x] st M Q = wp F_Word_add 21 [l0, .int x] (.int x :: st) M Q) ∧
  (∀ (l0 l1 : Value) (x : Int32) (st : List Value) (M : Mm) (Q : Option Value → Mm → Prop), wp F_Word_add 21 [l0, l1] (.int x :: st) M Q = wp F_Word_add 22 [l0, l1] (.int x.toInt8.toInt32 :: st) M Q) ∧
  (∀ (l0 l1 : Value) (a : Nat) (j x : Int32) (st : List Value) (M : Mm) (Q : Option Value → Mm → Prop), wp F_Word_add 22 [l0, l1] (.int x :: .int j :: .ref a :: st) M Q = bsW M a j x (fun M1 => wp F_Word_add 23 [l0, l1] st M1 Q)) ∧
  (∀ (l1 : Value) (x : Nat) (st : List Value) (M : Mm) (Q : Option Value → Mm → Prop), wp F_Word_add 23 [.ref x, l1] st M Q = wp F_Word_add 24 [.ref x, l1] (.ref x :: st) M Q) ∧
  (∀ (l0 l1 : Value) (x : Nat) (st : List Value) (M : Mm) (Q : Option Value → Mm → Prop), wp F_Word_add 24 [l0, l1] (.ref x :: st) M Q = wp F_Word_add 25 [l0, l1] (.ref x :: .ref x :: st) M Q) ∧
  (∀ (l0 l1 : Value) (a : Nat) (st : List Value) (M : Mm) (Q : Option Value → Mm → Prop), wp F_Word_add 25 [l0, l1] (.ref a :: st) M Q = (sh M a = some (.inl 10) ∧ wp F_Word_add 28 [l0, l1] (.int (gI M a 1) :: st) M Q)) ∧
  (∀ (l0 l1 : Value) (st : List Value) (M : Mm) (Q : Option Value → Mm → Prop), wp F_Word_add 28 [l0, l1] st M Q = wp F_Word_add 29 [l0, l1] (.int 1 :: st) M Q) ∧
  (∀ (l0 l1 : Value) (x y : Int32) (st : List Value) (M : Mm) (Q : Option Value → Mm → Prop), wp F_Word_add 29 [l0, l1] (.int y :: .int x :: st) M Q = wp F_Word_add 30 [l0, l1] (.int (x + y) :: st) M Q) ∧
  (∀ (l0 l1 : Value) (a : Nat) (x : Int32) (st : List Value) (M : Mm) (Q : Option Value → Mm → Prop), wp F_Word_add 30 [l0, l1] (.int x :: .ref a :: st) M Q = (sh M a = some (.inl 10) ∧ wp F_Word_add 33 [l0, l1] st (sI M a 1 x) Q)) := ⟨fun _ _ _ _ _ => wp_in d_Word_add_0 rfl rfl, fun _ _ _ _ _ _ => wp_getI d_Word_add_1 fl_10_21 rfl, fun _ _ _ _ _ => wp_in d_Word_add_4 rfl rfl, fun _ _ _ _ _ _ => wp_getA d_Word_add_5 fl_10_15 rfl, fun _ _ _ _ _ _ => wp_alen d_Word_add_8, fun _ _ _ _ _ _ _ => wp_icmp_ge d_Word_add_9 rfl, fun _ _ _ _ _ => wp_in d_Word_add_12 rfl rfl, fun _ _ _ _ _ _ => wp_getA d_Word_add_13 fl_10_15 rfl, fun _ _ _ _ _ => wp_in d_Word_add_16 rfl rfl, fun _ _ _ _ _ _ => wp_getI d_Word_add_17 fl_10_21 rfl, fun _ _ _ _ _ => wp_in d_Word_add_20 rfl rfl, fun _ _ _ _ _ _ => wp_in d_Word_add_21 rfl rfl, fun _ _ _ _ _ _ _ _ => wp_bast d_Word_add_22, fun _ _ _ _ _ => wp_in d_Word_add_23 rfl rfl, fun _ _ _ _ _ _ => wp_in d_Word_add_24 rfl rfl, fun _ _ _ _ _ _ => wp_getI d_Word_add_25 fl_10_21 rfl, fun _ _ _ _ _ => wp_iconst d_Word_add_28 (by decide), fun _ _ _ _ _ _ _ => wp_in d_Word_add_29 rfl rfl, fun _ _ _ _ _ _ _ => wp_putI d_Word_add_30 fl_10_21 rfl rfl⟩
theorem B_Word_add_33 : (∀ (l0 l1 : Value) (M : Mm) (Q : Option Value → Mm → Prop), wp F_Word_add 33 [l0, l1] [] M Q = Q none M) := fun _ _ _ _ => wp_retV d_Word_add_33 rfl
theorem d_Word_become_0 : decode (fnB F_Word_become) 0 = .ok (.iconst 0, 1) := by decide +kernel
theorem d_Word_become_1 : decode (fnB F_Word_become) 1 = .ok (.istore_n 2, 1) := by decide +kernel
theorem d_Word_become_2 : decode (fnB F_Word_become) 2 = .ok (.iconst 0, 1) := by decide +kernel
theorem d_Word_become_3 : decode (fnB F_Word_become) 3 = .ok (.istore_n 3, 1) := by decide +kernel
theorem d_Word_become_4 : decode (fnB F_Word_become) 4 = .ok (.iload_n 3, 1) := by decide +kernel
theorem d_Word_become_5 : decode (fnB F_Word_become) 5 = .ok (.aload_n 1, 1) := by decide +kernel
theorem d_Word_become_6 : decode (fnB F_Word_become) 6 = .ok (.getfield 21, 3) := by decide +kernel
theorem d_Word_become_9 : decode (fnB F_Word_become) 9 = .ok (.if_icmp .ge 33, 3) := by decide +kernel
theorem d_Word_become_12 : decode (fnB F_Word_become) 12 = .ok (.iload_n 3, 1) := by decide +kernel
theorem d_Word_become_13 : decode (fnB F_Word_become) 13 = .ok (.aload_n 0, 1) := by decide +kernel
theorem d_Word_become_14 : decode (fnB F_Word_become) 14 = .ok (.getfield 15, 3) := by decide +kernel
theorem d_Word_become_17 : decode (fnB F_Word_become) 17 = .ok (.arraylength, 1) := by decide +kernel
theorem d_Word_become_18 : decode (fnB F_Word_become) 18 = .ok (.if_icmp .ge 24, 3) := by decide +kernel
theorem d_Word_become_21 : decode (fnB F_Word_become) 21 = .ok (.aload_n 0, 1) := by decide +kernel
theorem d_Word_become_22 : decode (fnB F_Word_become) 22 = .ok (.getfield 15, 3) := by decide +kernel
theorem d_Word_become_25 : decode (fnB F_Word_become) 25 = .ok (.iload_n 3, 1) := by decide +kernel
theorem d_Word_become_26 : decode (fnB F_Word_become) 26 = .ok (.aload_n 1, 1) := by decide +kernel
theorem d_Word_become_27 : decode (fnB F_Word_become) 27 = .ok (.getfield 15, 3) := by decide +kernel
theorem d_Word_become_30 : decode (fnB F_Word_become) 30 = .ok (.iload_n 3, 1) := by decide +kernel
theorem d_Word_become_31 : decode (fnB F_Word_become) 31 = .ok (.baload, 1) := by decide +kernel
theorem d_Word_become_32 : decode (fnB F_Word_become) 32 = .ok (.bastore, 1) := by decide +kernel
theorem d_Word_become_33 : decode (fnB F_Word_become) 33 = .ok (.iinc 2 1, 3) := by decide +kernel
theorem d_Word_become_36 : decode (fnB F_Word_become) 36 = .ok (.iinc 3 1, 3) := by decide +kernel
theorem d_Word_become_39 : decode (fnB F_Word_become) 39 = .ok (.goto (-35), 3) := by decide +kernel
theorem d_Word_become_42 : decode (fnB F_Word_become) 42 = .ok (.aload_n 0, 1) := by decide +kernel
theorem d_Word_become_43 : decode (fnB F_Word_become) 43 = .ok (.iload_n 2, 1) := by decide +kernel
theorem d_Word_become_44 : decode (fnB F_Word_become) 44 = .ok (.putfield 21, 3) := by decide +kernel
theorem d_Word_become_47 : decode (fnB F_Word_become) 47 = .ok (.return_, 1) := by decide +kernel
theorem B_Word_become_0 : (∀ (l0 l1 l2 l3 : Value) (st : List Value) (M : Mm) (Q : Option Value → Mm → Prop), wp F_Word_become 0 [l0, l1, l2, l3] st M Q = wp F_Word_become 1 [l0, l1, l2, l3] (.int 0 :: st) M Q) ∧
  (∀ (l0 l1 l2 l3 : Value) (x : Int32) (st : List Value) (M : Mm) (Q : Option Value → Mm → Prop), wp F_Word_become 1 [l0, l1, l2, l3] (.int x :: st) M Q = wp F_Word_become 2 [l0, clr l1, .int x, l3] st M Q) ∧
  (∀ (l0 l1 l2 l3 : Value) (st : List Value) (M : Mm) (Q : Option Value → Mm → Prop), wp F_Word_become 2 [l0, l1, l2, l3] st M Q = wp F_Word_become 3 [l0, l1, l2, l3] (.int 0 :: st) M Q) ∧
  (∀ (l0 l1 l2 l3 : Value) (x : Int32) (st : List Value) (M : Mm) (Q : Option Value → Mm → Prop), wp F_Word_become 3 [l0, l1, l2, l3] (.int x :: st) M Q = wp F_Word_become 4 [l0, l1, clr l2, .int x] st M Q) := ⟨fun _ _ _ _ _ _ _ => wp_iconst d_Word_become_0 (by decide), fun _ _ _ _ _ _ _ _ => wp_in d_Word_become_1 rfl rfl, fun _ _ _ _ _ _ _ => wp_iconst d_Word_become_2 (by decide), fun _ _ _ _ _ _ _ _ => wp_in d_Word_become_3 rfl rfl⟩
theorem B_Word_become_4 : (∀ (l0 l1 l2 : Value) (x : Int32) (st : List Value) (M : Mm) (Q : Option Value → Mm → Prop), wp F_Word_become 4 [l0, l1, l2, .int x] st M Q = wp F_Word_become 5 [l0, l1, l2, .int x] (.int x :: st) M Q) ∧
  (∀ (l0 l2 l3 : Value) (x : Nat) (st : List Value) (M : Mm) (Q : Option Value → Mm → Prop), wp F_Word_become 5 [l0, .ref x, l2, l3] st M Q = wp F_Word_become 6 [l0, .ref x, l2, l3] (.ref x :: st) M Q) ∧
  (∀ (l0 l2 l3 : Value) (st : List Value) (M : Mm) (Q : Option Value → Mm → Prop), wp F_Word_become 5 [l0, .null, l2, l3] st M Q = wp F_Word_become 6 [l0, .null, l2, l3] (.null :: st) M Q) ∧
  (∀ (l0 l1 l2 l3 : Value) (a : Nat) (st : List Value) (M : Mm) (Q : Option Value → Mm → Prop), wp F_Word_become 6 [l0, l1, l2, l3] (.ref a :: st) M Q = (sh M a = some (.inl 10) ∧ wp F_Word_become 9 [l0, l1, l2, l3] (.int (gI M a 1) :: st) M Q)) ∧
  (∀ (l0 l1 l2 l3 : Value) (x y : Int32) (st : List Value) (M : Mm) (Q : Option Value → Mm → Prop), wp F_Word_become 9 [l0, l1, l2, l3] (.int y :: .int x :: st) M Q = if y ≤ x then wp F_Word_become 42 [l0, l1, l2, l3] st M Q else wp F_Word_become 12 [l0, l1, l2, l3] st M Q) ∧
  (∀ (l0 l1 l2 : Value) (x : Int32) (st : List Value) (M : Mm) (Q : Option Value → Mm → Prop), wp F_Word_become 12 [l0, l1, l2, .int x] st M Q = wp F_Word_become 13 [l0, l1, l2, .int x] (.int x :: st) M Q) ∧
  (∀ (l1 l2 l3 : Value) (x : Nat) (st : List Value) (M : Mm) (Q : Option Value → Mm → Prop), wp F_Word_become 13 [.ref x, l1, l2, l3] st M Q = wp F_Word_become 14 [.ref x, l1, l2, l3] (.ref x :: st) M Q) ∧
  (∀ (l0 l1 l2 l3 : Value) (a : Nat) (st : List Value) (M : Mm) (Q : Option Value → Mm → Prop), wp F_Word_become 14 [l0, l1, l2, l3] (.ref a :: st) M Q = (sh M a = some (.inl 10) ∧ wp F_Word_become 17 [l0, l1, l2, l3] (va_rf (gR M a 0) :: st) M Q)) ∧
  (∀ (l0 l1 l2 l3 : Value) (a : Nat) (st : List Value) (M : Mm) (Q : Option Value → Mm → Prop), wp F_Word_become 17 [l0, l1, l2, l3] (.ref a :: st) M Q = (match sh M a with | some (.inr (_, n)) => wp F_Word_become 18 [l0, l1, l2, l3] (.int (Int32.ofNat n) :: st) M Q | _ => False)) ∧
  (∀ (l0 l1 l2 l3 : Value) (x y : Int32) (st : List Value) (M : Mm) (Q : Option Value → Mm → Prop), wp F_Word_become 18 [l0, l1, l2, l3] (.int y :: .int x :: st) M Q = if y ≤ x then wp F_Word_become 42 [l0, l1, l2, l3] st M Q else wp F_Word_become 21 [l0, l1, l2, l3] st M Q) ∧
  (∀ (l1 l2 l3 : Value) (x : Nat) (st : List Value) (M : Mm) (Q : Option Value → Mm → Prop), wp F_Word_become 21 [.ref x, l1, l2, l3] st M Q = wp F_Word_become 22 [.ref x, l1, l2, l3] (.ref x :: st) M Q) ∧
  (∀ (l0 l1 l2 l3 : Value) (a : Nat) (st : List Value) (M : Mm) (Q : Option Value → Mm → Prop), wp F_Word_become 22 [l0, l1, l2, l3] (.ref a :: st) M Q = (sh M a = some (.inl 10) ∧ wp F_Word_become 25 [l0, l1, l2, l3] (va_rf (gR M a 0) :: st) M Q)) ∧
  (∀ (l0 l1 l2 : Value) (x : Int32) (st : List Value) (M : Mm) (Q : Option Value → Mm → Prop), wp F_Word_become 25 [l0, l1, l2, .int x] st M Q = wp F_Word_become 26 [l0, l1, l2, .int x] (.int x :: st) M Q) ∧
  (∀ (l0 l2 l3 : Value) (x : Nat) (st : List Value) (M : Mm) (Q : Option Value → Mm → Prop), wp F_Word_become 26 [l0, .ref x, l2, l3] st M Q = wp F_Word_become 27 [l0, .ref x, l2, l3] (.ref x :: st) M Q) ∧
  (∀ (l0 l2 l3 : Value) (st : List Value) (M : Mm) (Q : Option Value → Mm → Prop), wp F_Word_become 26 [l0, .null, l2, l3] st M Q = wp F_Word_become 27 [l0, .null, l2, l3] (.null :: st) M Q) ∧
  (∀ (l0 l1 l2 l3 : Value) (a : Nat) (st : List Value) (M : Mm) (Q : Option Value → Mm → Prop), wp F_Word_become 27 [l0, l1, l2, l3] (.ref a :: st) M Q = (sh M a = some (.inl 10) ∧ wp F_Word_become 30 [l0, l1, l2, l3] (va_rf (gR M a 0) :: st) M Q)) ∧
  (∀ (l0 l1 l2 : Value) (x : Int32) (st : List Value) (M : Mm) (Q : Option Value → Mm → Prop), wp F_Word_become 30 [l0, l1, l2, .int x] st M Q = wp F_Word_become 31 [l0, l1, l2, .int x] (.int x :: st) M Q) ∧
  (∀ (l0 l1 l2 l3 : Value) (a : Nat) (j : Int32) (st : List Value) (M : Mm) (Q : Option Value → Mm → Prop), wp F_Word_become 31 [l0, l1, l2, l3] (.int j :: .ref a :: st) M Q = (ixB M a j ∧ wp F_Word_become 32 [l0, l1, l2, l3] (.int (gI M a (cl j)) :: st) M Q)) ∧
  (∀ (l0 l1 l2 l3 : Value) (a : Nat) (j x : Int32) (st : List Value) (M : Mm) (Q : Option Value → Mm → Prop), wp F_Word_become 32 [l0, l1, l2, l3] (.int x :: .int j :: .ref a :: st) M Q = bsW M a j x (fun M1 => wp F_Word_become 33 [l0, l1, l2, l3] st M1 Q)) ∧
  (∀ (l0 l1 l3 : Value) (x : Int32) (st : List Value) (M : Mm) (Q : Option Value → Mm → Prop), wp F_Word_become 33 [l0, l1, .int x, l3] st M Q = wp F_Word_become 36 [l0, clr l1, .int (x + 1), l3] st M Q) ∧
  (∀ (l0 l1 l2 : Value) (x : Int32) (st : List Value) (M : Mm) (Q : Option Value → Mm → Prop), wp F_Word_become 36 [l0, l1, l2, .int x] st M Q = wp F_Word_become 39 [l0, l1, clr l2, .int (x + 1)] st M Q) := ⟨fun _ _ _ _ _ _ _ => wp_in d_Word_become_4 rfl rfl, fun _ _ _ _ _ _ _ => wp_in d_Word_become_5 rfl rfl, fun _ _ _ _ _ _ => wp_in d_Word_become_5 rfl rfl, fun _ _ _ _ _ _ _ _ => wp_getI d_Word_become_6 fl_10_21 rfl, fun _ _ _ _ _ _ _ _ _ => wp_icmp_ge d_Word_become_9 rfl, fun _ _ _ _ _ _ _ => wp_in d_Word_become_12 rfl rfl, fun _ _ _ _ _ _ _ => wp_in d_Word_become_13 rfl rfl, fun _ _ _ _ _ _ _ _ => wp_getA d_Word_become_14 fl_10_15 rfl, fun _ _ _ _ _ _ _ _ => wp_alen d_Word_become_17, fun _ _ _ _ _ _ _ _ _ => wp_icmp_ge d_Word_become_18 rfl, fun _ _ _ _ _ _ _ => wp_in d_Word_become_21 rfl rfl, fun _ _ _ _ _ _ _ _ => wp_getA d_Word_become_22 fl_10_15 rfl, fun _ _ _ _ _ _ _ => wp_in d_Word_become_25 rfl rfl, fun _ _ _ _ _ _ _ => wp_in d_Word_become_26 rfl rfl, fun _ _ _ _ _ _ => wp_in d_Word_become_26 rfl rfl, fun _ _ _ _ _ _ _ _ => wp_getA d_Word_become_27 fl_10_15 rfl, fun _ _ _ _ _ _ _ => wp_in d_Word_become_30 rfl rfl, fun _ _ _ _ _ _ _ _ _ => wp_bald d_Word_become_31, fun _ _ _ _ _ _ _ _ _ _ => wp_bast d_Word_become_32, fun _ _ _ _ _ _ _ => wp_iinc d_Word_become_33 (by decide) rfl rfl, fun _ _ _ _ _ _ _ => wp_iinc d_Word_become_36 (by decide) rfl rfl⟩
theorem B_Word_become_42 : (∀ (l1 l2 l3 : Value) (x : Nat) (st : List Value) (M : Mm) (Q : Option Value → Mm → Prop), wp F_Word_become 42 [.ref x, l1, l2, l3] st M Q = wp F_Word_become 43 [.ref x, l1, l2, l3] (.ref x :: st) M Q) ∧
  (∀ (l0 l1 l3 : Value) (x : Int32) (st : List Value) (M : Mm) (Q : Option Value → Mm → Prop), wp F_Word_become 43 [l0, l1, .int x, l3] st M Q = wp F_Word_become 44 [l0, l1, .int x, l3] (.int x :: st) M Q) ∧
  (∀ (l0 l1 l2 l3 : Value) (a : Nat) (x : Int32) (st : List Value) (M : Mm) (Q : Option Value → Mm → Prop), wp F_Word_become 44 [l0, l1, l2, l3] (.int x :: .ref a :: st) M Q = (sh M a = some (.inl 10) ∧ wp F_Word_become 47 [l0, l1, l2, l3] st (sI M a 1 x) Q)) ∧
  (∀ (l0 l1 l2 l3 : Value) (M : Mm) (Q : Option Value → Mm → Prop), wp F_Word_become 47 [l0, l1, l2, l3] [] M Q = Q none M) := ⟨fun _ _ _ _ _ _ _ => wp_in d_Word_become_42 rfl rfl, fun _ _ _ _ _ _ _ => wp_in d_Word_become_43 rfl rfl, fun _ _ _ _ _ _ _ _ _ => wp_putI d_Word_become_44 fl_10_21 rfl rfl, fun _ _ _ _ _ _ => wp_retV d_Word_become_47 rfl⟩
theorem G_Word_become_39 (l0 l1 l2 l3 : Value) (st : List Value) (M : Mm) (Q : Option Value → Mm → Prop) : wp F_Word_become 39 [l0, l1, l2, l3] st M Q = wp F_Word_become 4 [l0, l1, l2, l3] st M Q := wp_goto d_Word_become_39 rfl
theorem d_Word_append_0 : decode (fnB F_Word_append) 0 = .ok (.iload_n 2, 1) := by decide +kernel
theorem d_Word_append_1 : decode (fnB F_Word_append) 1 = .ok (.istore 4, 2) := by decide +kernel
theorem d_Word_append_3 : decode (fnB F_Word_append) 3 = .ok (.iload 4, 2) := by decide +kernel
theorem d_Word_append_5 : decode (fnB F_Word_append) 5 = .ok (.ifCond .lt 62, 3) := by decide +kernel
theorem d_Word_append_8 : decode (fnB F_Word_append) 8 = .ok (.iload 4, 2) := by decide +kernel
theorem d_Word_append_10 : decode (fnB F_Word_append) 10 = .ok (.iload_n 3, 1) := by decide +kernel
theorem d_Word_append_11 : decode (fnB F_Word_append) 11 = .ok (.if_icmp .ge 56, 3) := by decide +kernel
theorem d_Word_append_14 : decode (fnB F_Word_append) 14 = .ok (.iload 4, 2) := by decide +kernel
theorem d_Word_append_16 : decode (fnB F_Word_append) 16 = .ok (.aload_n 1, 1) := by decide +kernel
theorem d_Word_append_17 : decode (fnB F_Word_append) 17 = .ok (.getfield 21, 3) := by decide +kernel
theorem d_Word_append_20 : decode (fnB F_Word_append) 20 = .ok (.if_icmp .ge 47, 3) := by decide +kernel
theorem d_Word_append_23 : decode (fnB F_Word_append) 23 = .ok (.aload_n 0, 1) := by decide +kernel
theorem d_Word_append_24 : decode (fnB F_Word_append) 24 = .ok (.getfield 21, 3) := by decide +kernel
theorem d_Word_append_27 : decode (fnB F_Word_append) 27 = .ok (.aload_n 0, 1) := by decide +kernel
theorem d_Word_append_28 : decode (fnB F_Word_append) 28 = .ok (.getfield 15, 3) := by decide +kernel
theorem d_Word_append_31 : decode (fnB F_Word_append) 31 = .ok (.arraylength, 1) := by decide +kernel
theorem d_Word_append_32 : decode (fnB F_Word_append) 32 = .ok (.if_icmp .ge 35, 3) := by decide +kernel
theorem d_Word_append_35 : decode (fnB F_Word_append) 35 = .ok (.aload_n 0, 1) := by decide +kernel
theorem d_Word_append_36 : decode (fnB F_Word_append) 36 = .ok (.getfield 15, 3) := by decide +kernel
theorem d_Word_append_39 : decode (fnB F_Word_append) 39 = .ok (.aload_n 0, 1) := by decide +kernel
theorem d_Word_append_40 : decode (fnB F_Word_append) 40 = .ok (.getfield 21, 3) := by decide +kernel
theorem d_Word_append_43 : decode (fnB F_Word_append) 43 = .ok (.aload_n 1, 1) := by decide +kernel
theorem d_Word_append_44 : decode (fnB F_Word_append) 44 = .ok (.getfield 15, 3) := by decide +kernel
theorem d_Word_append_47 : decode (fnB F_Word_append) 47 = .ok (.iload 4, 2) := by decide +kernel
theorem d_Word_append_49 : decode (fnB F_Word_append) 49 = .ok (.baload, 1) := by decide +kernel
theorem d_Word_append_50 : decode (fnB F_Word_append) 50 = .ok (.bastore, 1) := by decide +kernel
theorem d_Word_append_51 : decode (fnB F_Word_append) 51 = .ok (.aload_n 0, 1) := by decide +kernel
theorem d_Word_append_52 : decode (fnB F_Word_append) 52 = .ok (.dup, 1) := by decide +kernel
theorem d_Word_append_53 : decode (fnB F_Word_append) 53 = .ok (.getfield 21, 3) := by decide +kernel
theorem d_Word_append_56 : decode (fnB F_Word_append) 56 = .ok (.iconst 1, 1) := by decide +kernel
theorem d_Word_append_57 : decode (fnB F_Word_append) 57 = .ok (.iadd, 1) := by decide +kernel
theorem d_Word_append_58 : decode (fnB F_Word_append) 58 = .ok (.putfield 21, 3) := by decide +kernel
theorem d_Word_append_61 : decode (fnB F_Word_append) 61 = .ok (.iinc 4 1, 3) := by decide +kernel
theorem d_Word_append_64 : decode (fnB F_Word_append) 64 = .ok (.goto (-61), 3) := by decide +kernel
theorem d_Word_append_67 : decode (fnB F_Word_append) 67 = .ok (.return_, 1) := by decide +kernel
theorem B_Word_append_0 : (∀ (l0 l1 l3 l4 : Value) (x : Int32) (st : List Value) (M : Mm) (Q : Option Value → Mm → Prop), wp F_Word_append 0 [l0, l1, .int x, l3, l4] st M Q = wp F_Word_append 1 [l0, l1, .int x, l3, l4] (.int x :: st) M Q) ∧
  (∀ (l0 l1 l2 l3 l4 : Value) (x : Int32) (st : List Value) (M : Mm) (Q : Option Value → Mm → Prop), wp F_Word_append 1 [l0, l1, l2, l3, l4] (.int x :: st) M Q = wp F_Word_append 3 [l0, l1, l2, clr l3, .int x] st M Q) := ⟨fun _ _ _ _ _ _ _ _ => wp_in d_Word_append_0 rfl rfl, fun _ _ _ _ _ _ _ _ _ => wp_in d_Word_append_1 rfl rfl⟩
theorem B_Word_append_3 : (∀ (l0 l1 l2 l3 : Value) (x : Int32) (st : List Value) (M : Mm) (Q : Option Value → Mm → Prop), wp F_Word_append 3 [l0, l1, l2, l3, .int x] st M Q = wp F_Word_append 5 [l0, l1, l2, l3, .int x] (.int x :: st) M Q) ∧
  (∀ (l0 l1 l2 l3 l4 : Value) (x : Int32) (st : List Value) (M : Mm) (Q : Option Value → Mm → Prop), wp F_Word_append 5 [l0, l1, l2, l3, l4] (.int x :: st) M Q = if x < 0 then wp F_Word_append 67 [l0, l1, l2, l3, l4] st M Q else wp F_Word_append 8 [l0, l1, l2, l3, l4] st M Q) ∧
  (∀ (l0 l1 l2 l3 : Value) (x : Int32) (st : List Value) (M : Mm) (Q : Option Value → Mm → Prop), wp F_Word_append 8 [l0, l1, l2, l3, .int x] st M Q = wp F_Word_append 10 [l0, l1, l2, l3, .int x] (.int x :: st) M Q) ∧
  (∀ (l0 l1 l2 l4 : Value) (x : Int32) (st : List Value) (M : Mm) (Q : Option Value → Mm → Prop), wp F_Word_append 10 [l0, l1, l2, .int x, l4] st M Q = wp F_Word_append 11 [l0, l1, l2, .int x, l4] (.int x :: st) M Q) ∧
  (∀ (l0 l1 l2 l3 l4 : Value) (x y : Int32) (st : List Value) (M : Mm) (Q : Option Value → Mm → Prop), wp F_Word_append 11 [l0, l1, l2, l3, l4] (.int y :: .int x :: st) M Q = if y ≤ x then wp F_Word_append 67 [l0, l1, l2, l3, l4] st M Q else wp F_Word_append 14 [l0, l1, l2, l3, l4] st M Q) ∧
  (∀ (l0 l1 l2 l3 : Value) (x : Int32) (st : List Value) (M : Mm) (Q : Option Value → Mm → Prop), wp F_Word_append 14 [l0, l1, l2, l3, .int x] st M Q = wp F_Word_append 16 [l0, l1, l2, l3, .int x] (.int x :: st) M Q) ∧
  (∀ (l0 l2 l3 l4 : Value) (x : Nat) (st : List Value) (M : Mm) (Q : Option Value → Mm → Prop), wp F_Word_append 16 [l0, .ref x, l2, l3, l4] st M Q = wp F_Word_append 17 [l0, .ref x, l2, l3, l4] (.ref x :: st) M Q) ∧
  (∀ (l0 l2 l3 l4 : Value) (st : List Value) (M : Mm) (Q : Option Value → Mm → Prop), wp F_Word_append 16 [l0, .null, l2, l3, l4] st M Q = wp F_Word_append 17 [l0, .null, l2, l3, l4] (.null :: st) M Q) ∧
  (∀ (l0 l1 l2 l3 l4 : Value) (a : Nat) (st : List Value) (M : Mm) (Q : Option Value → Mm → Prop), wp F_Word_append 17 [l0, l1, l2, l3, l4] (.ref a :: st) M Q = (sh M a = some (.inl 10) ∧ wp F_Word_append 20 [l0, l1, l2, l3, l4] (.int (gI M a 1) :: st) M Q)) ∧
  (∀ (l0 l1 l2 l3 l4 : Value) (x y : Int32) (st : List Value) (M : Mm) (Q : Option Value → Mm → Prop), wp F_Word_append 20 [l0, l1, l2, l3, l4] (.int y :: .int x :: st) M Q = if y ≤ x then wp F_Word_append 67 [l0, l1, l2, l3, l4] st M Q else wp F_Word_append 23 [l0, l1, l2, l3, l4] st M Q) ∧
  (∀ (l1 l2 l3 l4 : Value) (x : Nat) (st : List Value) (M : Mm) (Q : Option Value → Mm → Prop), wp F_Word_append 23 [.ref x, l1, l2, l3, l4] st M Q = wp F_Word_append 24 [.ref x, l1, l2, l3, l4] (.ref x :: st) M Q) ∧
  (∀ (l0 l1 l2 l3 l4 : Value) (a : Nat) (st : List Value) (M : Mm) (Q : Option Value → Mm → Prop), wp F_Word_append 24 [l0, l1, l2, l3, l4] (.ref a :: st) M Q = (sh M a = some (.inl 10) ∧ wp F_Word_append 27 [l0, l1, l2, l3, l4] (.int (gI M a 1) :: st) M Q)) ∧
  (∀ (l1 l2 l3 l4 : Value) (x : Nat) (st : List Value) (M : Mm) (Q : Option Value → Mm → Prop), wp F_Word_append 27 [.ref x, l1, l2, l3, l4] st M Q = wp F_Word_append 28 [.ref x, l1, l2, l3, l4] (.ref x :: st) M Q) ∧
  (∀ (l0 l1 l2 l3 l4 : Value) (a : Nat) (st : List Value) (M : Mm) (Q : Option Value → Mm → Prop), wp F_Word_append 28 [l0, l1, l2, l3, l4] (.ref a :: st) M Q = (sh M a = some (.inl 10) ∧ wp F_Word_append 31 [l0, l1, l2, l3, l4] (va_rf (gR M a 0) :: st) M Q)) ∧
  (∀ (l0 l1 l2 l3 l4 : Value) (a : Nat) (st : List Value) (M : Mm) (Q : Option Value → Mm → Prop), wp F_Word_append 31 [l0, l1, l2, l3, l4] (.ref a :: st) M Q = (match sh M a with | some (.inr (_, n)) => wp F_Word_append 32 [l0, l1, l2, l3, l4] (.int (Int32.ofNat n) :: st) M Q | _ => False)) ∧
  (∀ (l0 l1 l2 l3 l4 : Value) (x y : Int32) (st : List Value) (M : Mm) (Q : Option Value → Mm → Prop), wp F_Word_append 32 [l0, l1, l2, l3, l4] (.int y :: .int x :: st) M Q = if y ≤ x then wp F_Word_append 67 [l0, l1, l2, l3, l4] st M Q else wp F_Word_append 35 [l0, l1, l2, l3, l4] st M Q) ∧
  (∀ (l1 l2 l3 l4 : Value) (x : Nat) (st : List Value) (M : Mm) (Q : Option Value → Mm → Prop), wp F_Word_append 35 [.ref x, l1, l2, l3, l4] st M Q = wp F_Word_append 36 [.ref x, l1, l2, l3, l4] (.ref x :: st) M Q) ∧
  (∀ (l0 l1 l2 l3 l4 : Value) (a : Nat) (st : List Value) (M : Mm) (Q : Option Value → Mm → Prop), wp F_Word_append 36 [l0, l1, l2, l3, l4] (.ref a :: st) M Q = (sh M a = some (.inl 10) ∧ wp F_Word_append 39 [l0, l1, l2, l3, l4] (va_rf (gR M a 0) :: st) M Q)) ∧
  (∀ (l1 l2 l3 l4 : Value) (x : Nat) (st : List Value) (M : Mm) (Q : Option Value → Mm → Prop), wp F_Word_append 39 [.ref x, l1, l2, l3, l4] st M Q = wp F_Word_append 40 [.ref x, l1, l2, l3, l4] (.ref x :: st) M Q) ∧
  (∀ (l0 l1 l2 l3 l4 : Value) (a : Nat) (st : List Value) (M : Mm) (Q : Option Value → Mm → Prop), wp F_Word_append 40 [l0, l1, l2, l3, l4] (.ref a :: st) M Q = (sh M a = some (.inl 10) ∧ wp F_Word_append 43 [l0, l1, l2, l3, l4] (.int (gI M a 1) :: st) M Q)) ∧
  (∀ (l0 l2 l3 l4 : Value) (x : Nat) (st : List Value) (M : Mm) (Q : Option Value → Mm → Prop), wp F_Word_append 43 [l0, .ref x, l2, l3, l4] st M Q = wp F_Word_append 44 [l0, .ref x, l2, l3, l4] (.ref x :: st) M Q) ∧
  (∀ (l0 l2 l3 l4 : Value) (st : List Value) (M : Mm) (Q : Option Value → Mm → Prop), wp F_Word_append 43 [l0, .null, l2, l3, l4] st M Q = wp F_Word_append 44 [l0, .null, l2, l3, l4] (.null :: st) M Q) ∧
  (∀ (l0 l1 l2 l3 l4 : Value) (a : Nat) (st : List Value) (M : Mm) (Q : Option Value → Mm → Prop), wp F_Word_append 44 [l0, l1, l2, l3, l4] (.ref a :: st) M Q = (sh M a = some (.inl 10) ∧ wp F_Word_append 47 [l0, l1, l2, l3, l4] (va_rf (gR M a 0) :: st) M Q)) ∧
  (∀ (l0 l1 l2 l3 : Value) (x : Int32) (st : List Value) (M : Mm) (Q : Option Value → Mm → Prop), wp F_Word_append 47 [l0, l1, l2, l3, .int x] st M Q = wp F_Word_append 49 [l0, l1, l2, l3, .int x] (.int x :: st) M Q) ∧
  (∀ (l0 l1 l2 l3 l4 : Value) (a : Nat) (j : Int32) (st : List Value) (M : Mm) (Q : Option Value → Mm → Prop), wp F_Word_append 49 [l0, l1, l2, l3, l4] (.int j :: .ref a :: st) M Q = (ixB M a j ∧ wp F_Word_append 50 [l0, l1, l2, l3, l4] (.int (gI M a (cl j)) :: st) M Q)) ∧
  (∀ (l0 l1 l2 l3 l4 : Value) (a : Nat) (j x : Int32) (st : List Value) (M : Mm) (Q : Option Value → Mm → Prop), wp F_Word_append 50 [l0, l1, l2, l3, l4] (.int x :: .int j :: .ref a :: st) M Q = bsW M a j x (fun M1 => wp F_Word_append 51 [l0, l1, l2, l3, l4] st M1 Q)) ∧
  (∀ (l1 l2 l3 l4 : Value) (x : Nat) (st : List Value) (M : Mm) (Q : Option Value → Mm → Prop), wp F_Word_append 51 [.ref x, l1, l2, l3, l4] st M Q = wp F_Word_append 52 [.ref x, l1, l2, l3, l4] (.ref x :: st) M Q) ∧
  (∀ (l0 l1 l2 l3 l4 : Value) (x : Nat) (st : List Value) (M : Mm) (Q : Option Value → Mm → Prop), wp F_Word_append 52 [l0, l1, l2, l3, l4] (.ref x :: st) M Q = wp F_Word_append 53 [l0, l1, l2, l3, l4] (.ref x :: .ref x :: st) M Q) ∧
  (∀ (l0 l1 l2 l3 l4 : Value) (a : Nat) (st : List Value) (M : Mm) (Q : Option Value → Mm → Prop), wp F_Word_append 53 [l0, l1, l2, l3, l4] (.ref a :: st) M Q = (sh M a = some (.inl 10) ∧ wp F_Word_append 56 [l0, l1, l2, l3, l4] (.int (gI M a 1) :: st) M Q)) ∧
  (∀ (l0 l1 l2 l3 l4 : Value) (st : List Value) (M : Mm) (Q : Option Value → Mm → Prop), wp F_Word_append 56 [l0, l1, l2, l3, l4] st M Q = wp F_Word_append 57 [l0, l1, l2, l3, l4] (.int 1 :: st) M Q) ∧
  (∀ (l0 l1 l2 l3 l4 : Value) (x y : Int32) (st : List Value) (M : Mm) (Q : Option Value → Mm → Prop), wp F_Word_append 57 [l0, l1, l2, l3, l4] (.int y :: .int x :: st) M Q = wp F_Word_append 58 [l0, l1, l2, l3, l4] (.int (x + y) :: st) M Q) ∧
  (∀ (l0 l1 l2 l3 l4 : Value) (a : Nat) (x : Int32) (st : List Value) (M : Mm) (Q : Option Value → Mm → Prop), wp F_Word_append 58 [l0, l1, l2, l3, l4] (.int x :: .ref a :: st) M Q = (sh M a = some (.inl 10) ∧ wp F_Word_append 61 [l0, l1, l2, l3, l4] st (sI M a 1 x) Q)) ∧
  (∀ (l0 l1 l2 l3 : Value) (x : Int32) (st : List Value) (M : Mm) (Q : Option Value → Mm → Prop), wp F_Word_append 61 [l0, l1, l2, l3, .int x] st M Q = wp F_Word_append 64 [l0, l1, l2, clr l3, .int (x + 1)] st M Q) := ⟨fun _ _ _ _ _ _ _ _ => wp_in d_Word_append_3 rfl rfl, fun _ _ _ _ _ _ _ _ _ => wp_if_lt d_Word_append_5 rfl, fun _ _ _ _ _ _ _ _ => wp_in d_Word_append_8 rfl rfl, fun _ _ _ _ _ _ _ _ => wp_in d_Word_append_10 rfl rfl, fun _ _ _ _ _ _ _ _ _ _ => wp_icmp_ge d_Word_append_11 rfl, fun _ _ _ _ _ _ _ _ => wp_in d_Word_append_14 rfl rfl, fun _ _ _ _ _ _ _ _ => wp_in d_Word_append_16 rfl rfl, fun _ _ _ _ _ _ _ => wp_in d_Word_append_16 rfl rfl, fun _ _ _ _ _ _ _ _ _ => wp_getI d_Word_append_17 fl_10_21 rfl, fun _ _ _ _ _ _ _ _ _ _ => wp_icmp_ge d_Word_append_20 rfl, fun _ _ _ _ _ _ _ _ => wp_in d_Word_append_23 rfl rfl, fun _ _ _ _ _ _ _ _ _ => wp_getI d_Word_append_24 fl_10_21 rfl, fun _ _ _ _ _ _ _ _ => wp_in d_Word_append_27 rfl rfl, fun _ _ _ _ _ _ _ _ _ => wp_getA d_Word_append_28 fl_10_15 rfl, fun _ _ _ _ _ _ _ _ _ => wp_alen d_Word_append_31, fun _ _ _ _ _ _ _ _ _ _ => wp_icmp_ge d_Word_append_32 rfl, fun _ _ _ _ _ _ _ _ => wp_in d_Word_append_35 rfl rfl, fun _ _ _ _ _ _ _ _ _ => wp_getA d_Word_append_36 fl_10_15 rfl, fun _ _ _ _ _ _ _ _ => wp_in d_Word_append_39 rfl rfl, fun _ _ _ _ _ _ _ _ _ => wp_getI d_Word_append_40 fl_10_21 rfl, fun _ _ _ _ _ _ _ _ => wp_in d_Word_append_43 rfl rfl, fun _ _ _ _ _ _ _ => wp_in d_Word_append_43 rfl rfl, fun _ _ _ _ _ _ _ _ _ => wp_getA d_Word_append_44 fl_10_15 rfl, fun _ _ _ _ _ _ _ _ => wp_in d_Word_append_47 rfl rfl, fun _ _ _ _ _ _ _ _ _ _ => wp_bald d_Word_append_49, fun _ _ _ _ _ _ _ _ _ _ _ => wp_bast d_Word_append_50, fun _ _ _ _ _ _ _ _ => wp_in d_Word_append_51 rfl rfl, fun _ _ _ _ _ _ _ _ _ => wp_in d_Word_append_52 rfl rfl, fun _ _ _ _ _ _ _ _ _ => wp_getI d_Word_append_53 fl_10_21 rfl, fun _ _ _ _ _ _ _ _ => wp_iconst d_Word_append_56 (by decide), fun _ _ _ _ _ _ _ _ _ _ => wp_in d_Word_append_57 rfl rfl, fun _ _ _ _ _ _ _ _ _ _ => wp_putI d_Word_append_58 fl_10_21 rfl rfl, fun _ _ _ _ _ _ _ _ => wp_iinc d_Word_append_61 (by decide) rfl rfl⟩
theorem B_Word_append_67 : (∀ (l0 l1 l2 l3 l4 : Value) (M : Mm) (Q : Option Value → Mm → Prop), wp F_Word_append 67 [l0, l1, l2, l3, l4] [] M Q = Q none M) := fun _ _ _ _ _ _ _ => wp_retV d_Word_append_67 rfl
theorem G_Word_append_64 (l0 l1 l2 l3 l4 : Value) (st : List Value) (M : Mm) (Q : Option Value → Mm → Prop) : wp F_Word_append 64 [l0, l1, l2, l3, l4] st M Q = wp F_Word_append 3 [l0, l1, l2, l3, l4] st M Q := wp_goto d_Word_append_64 rfl
theorem d_Word_at_0 : decode (fnB F_Word_at) 0 = .ok (.iload_n 1, 1) := by decide +kernel
theorem d_Word_at_1 : decode (fnB F_Word_at) 1 = .ok (.ifCond .lt 20, 3) := by decide +kernel
theorem d_Word_at_4 : decode (fnB F_Word_at) 4 = .ok (.iload_n 1, 1) := by decide +kernel
theorem d_Word_at_5 : decode (fnB F_Word_at) 5 = .ok (.aload_n 0, 1) := by decide +kernel
theorem d_Word_at_6 : decode (fnB F_Word_at) 6 = .ok (.getfield 21, 3) := by decide +kernel
theorem d_Word_at_9 : decode (fnB F_Word_at) 9 = .ok (.if_icmp .ge 12, 3) := by decide +kernel
theorem d_Word_at_12 : decode (fnB F_Word_at) 12 = .ok (.aload_n 0, 1) := by decide +kernel
theorem d_Word_at_13 : decode (fnB F_Word_at) 13 = .ok (.getfield 15, 3) := by decide +kernel
theorem d_Word_at_16 : decode (fnB F_Word_at) 16 = .ok (.iload_n 1, 1) := by decide +kernel
theorem d_Word_at_17 : decode (fnB F_Word_at) 17 = .ok (.baload, 1) := by decide +kernel
theorem d_Word_at_18 : decode (fnB F_Word_at) 18 = .ok (.goto 4, 3) := by decide +kernel
theorem d_Word_at_21 : decode (fnB F_Word_at) 21 = .ok (.iconst (-1), 1) := by decide +kernel
theorem d_Word_at_22 : decode (fnB F_Word_at) 22 = .ok (.ireturn, 1) := by decide +kernel
theorem B_Word_at_0 : (∀ (l0 : Value) (x : Int32) (st : List Value) (M : Mm) (Q : Option Value → Mm → Prop), wp F_Word_at 0 [l0, .int x] st M Q = wp F_Word_at 1 [l0, .int x] (.int x :: st) M Q) ∧
  (∀ (l0 l1 : Value) (x : Int32) (st : List Value) (M : Mm) (Q : Option Value → Mm → Prop), wp F_Word_at 1 [l0, l1] (.int x :: st) M Q = if x < 0 then wp F_Word_at 21 [l0, l1] st M Q else wp F_Word_at 4 [l0, l1] st M Q) ∧
  (∀ (l0 : Value) (x : Int32) (st : List Value) (M : Mm) (Q : Option Value → Mm → Prop), wp F_Word_at 4 [l0, .int x] st M Q = wp F_Word_at 5 [l0, .int x] (.int x :: st) M Q) ∧
  (∀ (l1 : Value) (x : Nat) (st : List Value) (M : Mm) (Q : Option Value → Mm → Prop), wp F_Word_at 5 [.ref x, l1] st M Q = wp F_Word_at 6 [.ref x, l1] (.ref x :: st) M Q) ∧
  (∀ (l0 l1 : Value) (a : Nat) (st : List Value) (M : Mm) (Q : Option Value → Mm → Prop), wp F_Word_at 6 [l0, l1] (.ref a :: st) M Q = (sh M a = some (.inl 10) ∧ wp F_Word_at 9 [l0, l1] (.int (gI M a 1) :: st) M Q)) ∧
  (∀ (l0 l1 : Value) (x y : Int32) (st : List Value) (M : Mm) (Q : Option Value → Mm → Prop), wp F_Word_at 9 [l0, l1] (.int y :: .int x :: st) M Q = if y ≤ x then wp F_Word_at 21 [l0, l1] st M Q else wp F_Word_at 12 [l0, l1] st M Q) ∧
  (∀ (l1 : Value) (x : Nat) (st : List Value) (M : Mm) (Q : Option Value → Mm → Prop), wp F_Word_at 12 [.ref x, l1] st M Q = wp F_Word_at 13 [.ref x, l1] (.ref x :: st) M Q) ∧
  (∀ (l0 l1 : Value) (a : Nat) (st : List Value) (M : Mm) (Q : Option Value → Mm → Prop), wp F_Word_at 13 [l0, l1] (.ref a :: st) M Q = (sh M a = some (.inl 10) ∧ wp F_Word_at 16 [l0, l1] (va_rf (gR M a 0) :: st) M Q)) ∧
  (∀ (l0 : Value) (x : Int32) (st : List Value) (M : Mm) (Q : Option Value → Mm → Prop), wp F_Word_at 16 [l0, .int x] st M Q = wp F_Word_at 17 [l0, .int x] (.int x :: st) M Q) ∧
  (∀ (l0 l1 : Value) (a : Nat) (j : Int32) (st : List Value) (M : Mm) (Q : Option Value → Mm → Prop), wp F_Word_at 17 [l0, l1] (.int j :: .ref a :: st) M Q = (ixB M a j ∧ wp F_Word_at 18 [l0, l1] (.int (gI M a (cl j)) :: st) M Q)) ∧
  (∀ (l0 l1 : Value) (st : List Value) (M : Mm) (Q : Option Value → Mm → Prop), wp F_Word_at 18 [l0, l1] st M Q = wp F_Word_at 22 [l0, l1] st M Q) := ⟨fun _ _ _ _ _ => wp_in d_Word_at_0 rfl rfl, fun _ _ _ _ _ _ => wp_if_lt d_Word_at_1 rfl, fun _ _ _ _ _ => wp_in d_Word_at_4 rfl rfl, fun _ _ _ _ _ => wp_in d_Word_at_5 rfl rfl, fun _ _ _ _ _ _ => wp_getI d_Word_at_6 fl_10_21 rfl, fun _ _ _ _ _ _ _ => wp_icmp_ge d_Word_at_9 rfl, fun _ _ _ _ _ => wp_in d_Word_at_12 rfl rfl, fun _ _ _ _ _ _ => wp_getA d_Word_at_13 fl_10_15 rfl, fun _ _ _ _ _ => wp_in d_Word_at_16 rfl rfl, fun _ _ _ _ _ _ _ => wp_bald d_Word_at_17, fun _ _ _ _ _ => wp_goto d_Word_at_18 rfl⟩
theorem B_Word_at_21 : (∀ (l0 l1 : Value) (st : List Value) (M : Mm) (Q : Option Value → Mm → Prop), wp F_Word_at 21 [l0, l1] st M Q = wp F_Word_at 22 [l0, l1] (.int (-1) :: st) M Q) := fun _ _ _ _ _ => wp_iconst d_Word_at_21 (by decide)
theorem B_Word_at_22 : (∀ (l0 l1 : Value) (v : Int32) (M : Mm) (Q : Option Value → Mm → Prop), wp F_Word_at 22 [l0, l1] [.int v] M Q = Q (some (.int v)) M) := fun _ _ _ _ _ => wp_retI d_Word_at_22 rfl
theorem d_Word_against_0 : decode (fnB F_Word_against) 0 = .ok (.aload_n 0, 1) := by decide +kernel
theorem d_Word_against_1 : decode (fnB F_Word_against) 1 = .ok (.getfield 21, 3) := by decide +kernel
theorem d_Word_against_4 : decode (fnB F_Word_against) 4 = .ok (.aload_n 1, 1) := by decide +kernel
theorem d_Word_against_5 : decode (fnB F_Word_against) 5 = .ok (.getfield 21, 3) := by decide +kernel
theorem d_Word_against_8 : decode (fnB F_Word_against) 8 = .ok (.if_icmp .eq 20, 3) := by decide +kernel
theorem d_Word_against_11 : decode (fnB F_Word_against) 11 = .ok (.aload_n 0, 1) := by decide +kernel
theorem d_Word_against_12 : decode (fnB F_Word_against) 12 = .ok (.getfield 21, 3) := by decide +kernel
theorem d_Word_against_15 : decode (fnB F_Word_against) 15 = .ok (.aload_n 1, 1) := by decide +kernel
theorem d_Word_against_16 : decode (fnB F_Word_against) 16 = .ok (.getfield 21, 3) := by decide +kernel
theorem d_Word_against_19 : decode (fnB F_Word_against) 19 = .ok (.if_icmp .le 7, 3) := by decide +kernel
theorem d_Word_against_22 : decode (fnB F_Word_against) 22 = .ok (.iconst 1, 1) := by decide +kernel
theorem d_Word_against_23 : decode (fnB F_Word_against) 23 = .ok (.goto 4, 3) := by decide +kernel
theorem d_Word_against_26 : decode (fnB F_Word_against) 26 = .ok (.iconst (-1), 1) := by decide +kernel
theorem d_Word_against_27 : decode (fnB F_Word_against) 27 = .ok (.ireturn, 1) := by decide +kernel
theorem d_Word_against_28 : decode (fnB F_Word_against) 28 = .ok (.iconst 0, 1) := by decide +kernel
theorem d_Word_against_29 : decode (fnB F_Word_against) 29 = .ok (.istore_n 2, 1) := by decide +kernel
theorem d_Word_against_30 : decode (fnB F_Word_against) 30 = .ok (.iload_n 2, 1) := by decide +kernel
theorem d_Word_against_31 : decode (fnB F_Word_against) 31 = .ok (.aload_n 0, 1) := by decide +kernel
theorem d_Word_against_32 : decode (fnB F_Word_against) 32 = .ok (.getfield 21, 3) := by decide +kernel
theorem d_Word_against_35 : decode (fnB F_Word_against) 35 = .ok (.if_icmp .ge 53, 3) := by decide +kernel
theorem d_Word_against_38 : decode (fnB F_Word_against) 38 = .ok (.iload_n 2, 1) := by decide +kernel
theorem d_Word_against_39 : decode (fnB F_Word_against) 39 = .ok (.aload_n 1, 1) := by decide +kernel
theorem d_Word_against_40 : decode (fnB F_Word_against) 40 = .ok (.getfield 21, 3) := by decide +kernel
theorem d_Word_against_43 : decode (fnB F_Word_against) 43 = .ok (.if_icmp .ge 45, 3) := by decide +kernel
theorem d_Word_against_46 : decode (fnB F_Word_against) 46 = .ok (.aload_n 0, 1) := by decide +kernel
theorem d_Word_against_47 : decode (fnB F_Word_against) 47 = .ok (.getfield 15, 3) := by decide +kernel
theorem d_Word_against_50 : decode (fnB F_Word_against) 50 = .ok (.iload_n 2, 1) := by decide +kernel
theorem d_Word_against_51 : decode (fnB F_Word_against) 51 = .ok (.baload, 1) := by decide +kernel
theorem d_Word_against_52 : decode (fnB F_Word_against) 52 = .ok (.aload_n 1, 1) := by decide +kernel
theorem d_Word_against_53 : decode (fnB F_Word_against) 53 = .ok (.getfield 15, 3) := by decide +kernel
theorem d_Word_against_56 : decode (fnB F_Word_against) 56 = .ok (.iload_n 2, 1) := by decide +kernel
theorem d_Word_against_57 : decode (fnB F_Word_against) 57 = .ok (.baload, 1) := by decide +kernel
theorem d_Word_against_58 : decode (fnB F_Word_against) 58 = .ok (.if_icmp .eq 24, 3) := by decide +kernel
theorem d_Word_against_61 : decode (fnB F_Word_against) 61 = .ok (.aload_n 0, 1) := by decide +kernel
theorem d_Word_against_62 : decode (fnB F_Word_against) 62 = .ok (.getfield 15, 3) := by decide +kernel
theorem d_Word_against_65 : decode (fnB F_Word_against) 65 = .ok (.iload_n 2, 1) := by decide +kernel
theorem d_Word_against_66 : decode (fnB F_Word_against) 66 = .ok (.baload, 1) := by decide +kernel
theorem d_Word_against_67 : decode (fnB F_Word_against) 67 = .ok (.aload_n 1, 1) := by decide +kernel
theorem d_Word_against_68 : decode (fnB F_Word_against) 68 = .ok (.getfield 15, 3) := by decide +kernel
theorem d_Word_against_71 : decode (fnB F_Word_against) 71 = .ok (.iload_n 2, 1) := by decide +kernel
theorem d_Word_against_72 : decode (fnB F_Word_against) 72 = .ok (.baload, 1) := by decide +kernel
theorem d_Word_against_73 : decode (fnB F_Word_against) 73 = .ok (.if_icmp .le 7, 3) := by decide +kernel
theorem d_Word_against_76 : decode (fnB F_Word_against) 76 = .ok (.iconst 1, 1) := by decide +kernel
theorem d_Word_against_77 : decode (fnB F_Word_against) 77 = .ok (.goto 4, 3) := by decide +kernel
theorem d_Word_against_80 : decode (fnB F_Word_against) 80 = .ok (.iconst (-1), 1) := by decide +kernel
theorem d_Word_against_81 : decode (fnB F_Word_against) 81 = .ok (.ireturn, 1) := by decide +kernel
theorem d_Word_against_82 : decode (fnB F_Word_against) 82 = .ok (.iinc 2 1, 3) := by decide +kernel
theorem d_Word_against_85 : decode (fnB F_Word_against) 85 = .ok (.goto (-55), 3) := by decide +kernel
theorem d_Word_against_88 : decode (fnB F_Word_against) 88 = .ok (.iconst 0, 1) := by decide +kernel
theorem d_Word_against_89 : decode (fnB F_Word_against) 89 = .ok (.ireturn, 1) := by decide +kernel
theorem B_Word_against_0 : (∀ (l1 l2 : Value) (x : Nat) (st : List Value) (M : Mm) (Q : Option Value → Mm → Prop), wp F_Word_against 0 [.ref x, l1, l2] st M Q = wp F_Word_against 1 [.ref x, l1, l2] (.ref x :: st) M Q) ∧
  (∀ (l0 l1 l2 : Value) (a : Nat) (st : List Value) (M : Mm) (Q : Option Value → Mm → Prop), wp F_Word_against 1 [l0, l1, l2] (.ref a :: st) M Q = (sh M a = some (.inl 10) ∧ wp F_Word_against 4 [l0, l1, l2] (.int (gI M a 1) :: st) M Q)) ∧
  (∀ (l0 l2 : Value) (x : Nat) (st : List Value) (M : Mm) (Q : Option Value → Mm → Prop), wp F_Word_against 4 [l0, .ref x, l2] st M Q = wp F_Word_against 5 [l0, .ref x, l2] (.ref x :: st) M Q) ∧
  (∀ (l0 l2 : Value) (st : List Value) (M : Mm) (Q : Option Value → Mm → Prop), wp F_Word_against 4 [l0, .null, l2] st M Q = wp F_Word_against 5 [l0, .null, l2] (.null :: st) M Q) ∧
  (∀ (l0 l1 l2 : Value) (a : Nat) (st : List Value) (M : Mm) (Q : Option Value → Mm → Prop), wp F_Word_against 5 [l0, l1, l2] (.ref a :: st) M Q = (sh M a = some (.inl 10) ∧ wp F_Word_against 8 [l0, l1, l2] (.int (gI M a 1) :: st) M Q)) ∧
  (∀ (l0 l1 l2 : Value) (x y : Int32) (st : List Value) (M : Mm) (Q : Option Value → Mm → Prop), wp F_Word_against 8 [l0, l1, l2] (.int y :: .int x :: st) M Q = if x = y then wp F_Word_against 28 [l0, l1, l2] st M Q else wp F_Word_against 11 [l0, l1, l2] st M Q) ∧
  (∀ (l1 l2 : Value) (x : Nat) (st : List Value) (M : Mm) (Q : Option Value → Mm → Prop), wp F_Word_against 11 [.ref x, l1, l2] st M Q = wp F_Word_against 12 [.ref x, l1, l2] (.ref x :: st) M Q) ∧
  (∀ (l0 l1 l2 : Value) (a : Nat) (st : List Value) (M : Mm) (Q : Option Value → Mm → Prop), wp F_Word_against 12 [l0, l1, l2] (.ref a :: st) M Q = (sh M a = some (.inl 10) ∧ wp F_Word_against 15 [l0, l1, l2] (.int (gI M a 1) :: st) M Q)) ∧
  (∀ (l0 l2 : Value) (x : Nat) (st : List Value) (M : Mm) (Q : Option Value → Mm → Prop), wp F_Word_against 15 [l0, .ref x, l2] st M Q = wp F_Word_against 16 [l0, .ref x, l2] (.ref x :: st) M Q) ∧
  (∀ (l0 l2 : Value) (st : List Value) (M : Mm) (Q : Option Value → Mm → Prop), wp F_Word_against 15 [l0, .null, l2] st M Q = wp F_Word_against 16 [l0, .null, l2] (.null :: st) M Q) ∧
  (∀ (l0 l1 l2 : Value) (a : Nat) (st : List Value) (M : Mm) (Q : Option Value → Mm → Prop), wp F_Word_against 16 [l0, l1, l2] (.ref a :: st) M Q = (sh M a = some (.inl 10) ∧ wp F_Word_against 19 [l0, l1, l2] (.int (gI M a 1) :: st) M Q)) ∧
  (∀ (l0 l1 l2 : Value) (x y : Int32) (st : List Value) (M : Mm) (Q : Option Value → Mm → Prop), wp F_Word_against 19 [l0, l1, l2] (.int y :: .int x :: st) M Q = if x ≤ y then wp F_Word_against 26 [l0, l1, l2] st M Q else wp F_Word_against 22 [l0, l1, l2] st M Q) ∧
  (∀ (l0 l1 l2 : Value) (st : List Value) (M : Mm) (Q : Option Value → Mm → Prop), wp F_Word_against 22 [l0, l1, l2] st M Q = wp F_Word_against 23 [l0, l1, l2] (.int 1 :: st) M Q) ∧
  (∀ (l0 l1 l2 : Value) (st : List Value) (M : Mm) (Q : Option Value → Mm → Prop), wp F_Word_against 23 [l0, l1, l2] st M Q = wp F_Word_against 27 [l0, l1, l2] st M Q) := ⟨fun _ _ _ _ _ _ => wp_in d_Word_against_0 rfl rfl, fun _ _ _ _ _ _ _ => wp_getI d_Word_against_1 fl_10_21 rfl, fun _ _ _ _ _ _ => wp_in d_Word_against_4 rfl rfl, fun _ _ _ _ _ => wp_in d_Word_against_4 rfl rfl, fun _ _ _ _ _ _ _ => wp_getI d_Word_against_5 fl_10_21 rfl, fun _ _ _ _ _ _ _ _ => wp_icmp_eq d_Word_against_8 rfl, fun _ _ _ _ _ _ => wp_in d_Word_against_11 rfl rfl, fun _ _ _ _ _ _ _ => wp_getI d_Word_against_12 fl_10_21 rfl, fun _ _ _ _ _ _ => wp_in d_Word_against_15 rfl rfl, fun _ _ _ _ _ => wp_in d_Word_against_15 rfl rfl, fun _ _ _ _ _ _ _ => wp_getI d_Word_against_16 fl_10_21 rfl, fun _ _ _ _ _ _ _ _ => wp_icmp_le d_Word_against_19 rfl, fun _ _ _ _ _ _ => wp_iconst d_Word_against_22 (by decide), fun _ _ _ _ _ _ => wp_goto d_Word_against_23 rfl⟩
theorem B_Word_against_26 : (∀ (l0 l1 l2 : Value) (st : List Value) (M : Mm) (Q : Option Value → Mm → Prop), wp F_Word_against 26 [l0, l1, l2] st M Q = wp F_Word_against 27 [l0, l1, l2] (.int (-1) :: st) M Q) := fun _ _ _ _ _ _ => wp_iconst d_Word_against_26 (by decide)
theorem B_Word_against_27 : (∀ (l0 l1 l2 : Value) (v : Int32) (M : Mm) (Q : Option Value → Mm → Prop), wp F_Word_against 27 [l0, l1, l2] [.int v] M Q = Q (some (.int v)) M) := fun _ _ _ _ _ _ => wp_retI d_Word_against_27 rfl
theorem B_Word_against_28 : (∀ (l0 l1 l2 : Value) (st : List Value) (M : Mm) (Q : Option Value → Mm → Prop), wp F_Word_against 28 [l0, l1, l2] st M Q = wp F_Word_against 29 [l0, l1, l2] (.int 0 :: st) M Q) ∧
  (∀ (l0 l1 l2 : Value) (x : Int32) (st : List Value) (M : Mm) (Q : Option Value → Mm → Prop), wp F_Word_against 29 [l0, l1, l2] (.int x :: st) M Q = wp F_Word_against 30 [l0, clr l1, .int x] st M Q) := ⟨fun _ _ _ _ _ _ => wp_iconst d_Word_against_28 (by decide), fun _ _ _ _ _ _ _ => wp_in d_Word_against_29 rfl rfl⟩
theorem B_Word_against_30 : (∀ (l0 l1 : Value) (x : Int32) (st : List Value) (M : Mm) (Q : Option Value → Mm → Prop), wp F_Word_against 30 [l0, l1, .int x] st M Q = wp F_Word_against 31 [l0, l1, .int x] (.int x :: st) M Q) ∧
  (∀ (l1 l2 : Value) (x : Nat) (st : List Value) (M : Mm) (Q : Option Value → Mm → Prop), wp F_Word_against 31 [.ref x, l1, l2] st M Q = wp F_Word_against 32 [.ref x, l1, l2] (.ref x :: st) M Q) ∧
  (∀ (l0 l1 l2 : Value) (a : Nat) (st : List Value) (M : Mm) (Q : Option Value → Mm → Prop), wp F_Word_against 32 [l0, l1, l2] (.ref a :: st) M Q = (sh M a = some (.inl 10) ∧ wp F_Word_against 35 [l0, l1, l2] (.int (gI M a 1) :: st) M Q)) ∧
  (∀ (l0 l1 l2 : Value) (x y : Int32) (st : List Value) (M : Mm) (Q : Option Value → Mm → Prop), wp F_Word_against 35 [l0, l1, l2] (.int y :: .int x :: st) M Q = if y ≤ x then wp F_Word_against 88 [l0, l1, l2] st M Q else wp F_Word_against 38 [l0, l1, l2] st M Q) ∧
  (∀ (l0 l1 : Value) (x : Int32) (st : List Value) (M : Mm) (Q : Option Value → Mm → Prop), wp F_Word_against 38 [l0, l1, .int x] st M Q = wp F_Word_against 39 [l0, l1, .int x] (.int x :: st) M Q) ∧
  (∀ (l0 l2 : Value) (x : Nat) (st : List Value) (M : Mm) (Q : Option Value → Mm → Prop), wp F_Word_against 39 [l0, .ref x, l2] st M Q = wp F_Word_against 40 [l0, .ref x, l2] (.ref x :: st) M Q) ∧
  (∀ (l0 l2 : Value) (st : List Value) (M : Mm) (Q : Option Value → Mm → Prop), wp F_Word_against 39 [l0, .null, l2] st M Q = wp F_Word_against 40 [l0, .null, l2] (.null :: st) M Q) ∧
  (∀ (l0 l1 l2 : Value) (a : Nat) (st : List Value) (M : Mm) (Q : Option Value → Mm → Prop), wp F_Word_against 40 [l0, l1, l2] (.ref a :: st) M Q = (sh M a = some (.inl 10) ∧ wp F_Word_against 43 [l0, l1, l2] (.int (gI M a 1) :: st) M Q)) ∧
  (∀ (l0 l1 l2 : Value) (x y : Int32) (st : List Value) (M : Mm) (Q : Option Value → Mm → Prop), wp F_Word_against 43 [l0, l1, l2] (.int y :: .int x :: st) M Q = if y ≤ x then wp F_Word_against 88 [l0, l1, l2] st M Q else wp F_Word_against 46 [l0, l1, l2] st M Q) ∧
  (∀ (l1 l2 : Value) (x : Nat) (st : List Value) (M : Mm) (Q : Option Value → Mm → Prop), wp F_Word_against 46 [.ref x, l1, l2] st M Q = wp F_Word_against 47 [.ref x, l1, l2] (.ref x :: st) M Q) ∧
  (∀ (l0 l1 l2 : Value) (a : Nat) (st : List Value) (M : Mm) (Q : Option Value → Mm → Prop), wp F_Word_against 47 [l0, l1, l2] (.ref a :: st) M Q = (sh M a = some (.inl 10) ∧ wp F_Word_against 50 [l0, l1, l2] (va_rf (gR M a 0) :: st) M Q)) ∧
  (∀ (l0 l1 : Value) (x : Int32) (st : List Value) (M : Mm) (Q : Option Value → Mm → Prop), wp F_Word_against 50 [l0, l1, .int x] st M Q = wp F_Word_against 51 [l0, l1, .int x] (.int x :: st) M Q) ∧
  (∀ (l0 l1 l2 : Value) (a : Nat) (j : Int32) (st : List Value) (M : Mm) (Q : Option Value → Mm → Prop), wp F_Word_against 51 [l0, l1, l2] (.int j :: .ref a :: st) M Q = (ixB M a j ∧ wp F_Word_against 52 [l0, l1, l2] (.int (gI M a (cl j)) :: st) M Q)) ∧
  (∀ (l0 l2 : Value) (x : Nat) (st : List Value) (M : Mm) (Q : Option Value → Mm → Prop), wp F_Word_against 52 [l0, .ref x, l2] st M Q = wp F_Word_against 53 [l0, .ref x, l2] (.ref x :: st) M Q) ∧
  (∀ (l0 l2 : Value) (st : List Value) (M : Mm) (Q : Option Value → Mm → Prop), wp F_Word_against 52 [l0, .null, l2] st M Q = wp F_Word_against 53 [l0, .null, l2] (.null :: st) M Q) ∧
  (∀ (l0 l1 l2 : Value) (a : Nat) (st : List Value) (M : Mm) (Q : Option Value → Mm → Prop), wp F_Word_against 53 [l0, l1, l2] (.ref a :: st) M Q = (sh M a = some (.inl 10) ∧ wp F_Word_against 56 [l0, l1, l2] (va_rf (gR M a 0) :: st) M Q)) ∧
  (∀ (l0 l1 : Value) (x : Int32) (st : List Value) (M : Mm) (Q : Option Value → Mm → Prop), wp F_Word_against 56 [l0, l1, .int x] st M Q = wp F_Word_against 57 [l0, l1, .int x] (.int x :: st) M Q) ∧
  (∀ (l0 l1 l2 : Value) (a : Nat) (j : Int32) (st : List Value) (M : Mm) (Q : Option Value → Mm → Prop), wp F_Word_against 57 [l0, l1, l2] (.int j :: .ref a :: st) M Q = (ixB M a j ∧ wp F_Word_against 58 [l0, l1, l2] (.int (gI M a (cl j)) :: st) M Q)) ∧
  (∀ (l0 l1 l2 : Value) (x y : Int32) (st : List Value) (M : Mm) (Q : Option Value → Mm → Prop), wp F_Word_against 58 [l0, l1, l2] (.int y :: .int x :: st) M Q = if x = y then wp F_Word_against 82 [l0, l1, l2] st M Q else wp F_Word_against 61 [l0, l1, l2] st M Q) ∧
  (∀ (l1 l2 : Value) (x : Nat) (st : List Value) (M : Mm) (Q : Option Value → Mm → Prop), wp F_Word_against 61 [.ref x, l1, l2] st M Q = wp F_Word_against 62 [.ref x, l1, l2] (.ref x :: st) M Q) ∧
  (∀ (l0 l1 l2 : Value) (a : Nat) (st : List Value) (M : Mm) (Q : Option Value → Mm → Prop), wp F_Word_against 62 [l0, l1, l2] (.ref a :: st) M Q = (sh M a = some (.inl 10) ∧ wp F_Word_against 65 [l0, l1, l2] (va_rf (gR M a 0) :: st) M Q)) ∧
  (∀ (l0 l1 : Value) (x : Int32) (st : List Value) (M : Mm) (Q : Option Value → Mm → Prop), wp F_Word_against 65 [l0, l1, .int x] st M Q = wp F_Word_against 66 [l0, l1, .int x] (.int x :: st) M Q) ∧
  (∀ (l0 l1 l2 : Value) (a : Nat) (j : Int32) (st : List Value) (M : Mm) (Q : Option Value → Mm → Prop), wp F_Word_against 66 [l0, l1, l2] (.int j :: .ref a :: st) M Q = (ixB M a j ∧ wp F_Word_against 67 [l0, l1, l2] (.int (gI M a (cl j)) :: st) M Q)) ∧
  (∀ (l0 l2 : Value) (x : Nat) (st : List Value) (M : Mm) (Q : Option Value → Mm → Prop), wp F_Word_against 67 [l0, .ref x, l2] st M Q = wp F_Word_against 68 [l0, .ref x, l2] (.ref x :: st) M Q) ∧
  (∀ (l0 l2 : Value) (st : List Value) (M : Mm) (Q : Option Value → Mm → Prop), wp F_Word_against 67 [l0, .null, l2] st M Q = wp F_Word_against 68 [l0, .null, l2] (.null :: st) M Q) ∧
  (∀ (l0 l1 l2 : Value) (a : Nat) (st : List Value) (M : Mm) (Q : Option Value → Mm → Prop), wp F_Word_against 68 [l0, l1, l2] (.ref a :: st) M Q = (sh M a = some (.inl 10) ∧ wp F_Word_against 71 [l0, l1, l2] (va_rf (gR M a 0) :: st) M Q)) ∧
  (∀ (l0 l1 : Value) (x : Int32) (st : List Value) (M : Mm) (Q : Option Value → Mm → Prop), wp F_Word_against 71 [l0, l1, .int x] st M Q = wp F_Word_against 72 [l0, l1, .int x] (.int x :: st) M Q) ∧
  (∀ (l0 l1 l2 : Value) (a : Nat) (j : Int32) (st : List Value) (M : Mm) (Q : Option Value → Mm → Prop), wp F_Word_against 72 [l0, l1, l2] (.int j :: .ref a :: st) M Q = (ixB M a j ∧ wp F_Word_against 73 [l0, l1, l2] (.int (gI M a (cl j)) :: st) M Q)) ∧
  (∀ (l0 l1 l2 : Value) (x y : Int32) (st : List Value) (M : Mm) (Q : Option Value → Mm → Prop), wp F_Word_against 73 [l0, l1, l2] (.int y :: .int x :: st) M Q = if x ≤ y then wp F_Word_against 80 [l0, l1, l2] st M Q else wp F_Word_against 76 [l0, l1, l2] st M Q) ∧
  (∀ (l0 l1 l2 : Value) (st : List Value) (M : Mm) (Q : Option Value → Mm → Prop), wp F_Word_against 76 [l0, l1, l2] st M Q = wp F_Word_against 77 [l0, l1, l2] (.int 1 :: st) M Q) ∧
  (∀ (l0 l1 l2 : Value) (st : List Value) (M : Mm) (Q : Option Value → Mm → Prop), wp F_Word_against 77 [l0, l1, l2] st M Q = wp F_Word_against 81 [l0, l1, l2] st M Q) := ⟨fun _ _ _ _ _ _ => wp_in d_Word_against_30 rfl rfl, fun _ _ _ _ _ _ => wp_in d_Word_against_31 rfl rfl, fun _ _ _ _ _ _ _ => wp_getI d_Word_against_32 fl_10_21 rfl, fun _ _ _ _ _ _ _ _ => wp_icmp_ge d_Word_against_35 rfl, fun _ _ _ _ _ _ => wp_in d_Word_against_38 rfl rfl, fun _ _ _ _ _ _ => wp_in d_Word_against_39 rfl rfl, fun _ _ _ _ _ => wp_in d_Word_against_39 rfl rfl, fun _ _ _ _ _ _ _ => wp_getI d_Word_against_40 fl_10_21 rfl, fun _ _ _ _ _ _ _ _ => wp_icmp_ge d_Word_against_43 rfl, fun _ _ _ _ _ _ => wp_in d_Word_against_46 rfl rfl, fun _ _ _ _ _ _ _ => wp_getA d_Word_against_47 fl_10_15 rfl, fun _ _ _ _ _ _ => wp_in d_Word_against_50 rfl rfl, fun _ _ _ _ _ _ _ _ => wp_bald d_Word_against_51, fun _ _ _ _ _ _ => wp_in d_Word_against_52 rfl rfl, fun _ _ _ _ _ => wp_in d_Word_against_52 rfl rfl, fun _ _ _ _ _ _ _ => wp_getA d_Word_against_53 fl_10_15 rfl, fun _ _ _ _ _ _ => wp_in d_Word_against_56 rfl rfl, fun _ _ _ _ _ _ _ _ => wp_bald d_Word_against_57, fun _ _ _ _ _ _ _ _ => wp_icmp_eq d_Word_against_58 rfl, fun _ _ _ _ _ _ => wp_in d_Word_against_61 rfl rfl, fun _ _ _ _ _ _ _ => wp_getA d_Word_against_62 fl_10_15 rfl, fun _ _ _ _ _ _ => wp_in d_Word_against_65 rfl rfl, fun _ _ _ _ _ _ _ _ => wp_bald d_Word_against_66, fun _ _ _ _ _ _ => wp_in d_Word_against_67 rfl rfl, fun _ _ _ _ _ => wp_in d_Word_against_67 rfl rfl, fun _ _ _ _ _ _ _ => wp_getA d_Word_against_68 fl_10_15 rfl, fun _ _ _ _ _ _ => wp_in d_Word_against_71 rfl rfl, fun _ _ _ _ _ _ _ _ => wp_bald d_Word_against_72, fun _ _ _ _ _ _ _ _ => wp_icmp_le d_Word_against_73 rfl, fun _ _ _ _ _ _ => wp_iconst d_Word_against_76 (by decide), fun _ _ _ _ _ _ => wp_goto d_Word_against_77 rfl⟩
theorem B_Word_against_80 : (∀ (l0 l1 l2 : Value) (st : List Value) (M : Mm) (Q : Option Value → Mm → Prop), wp F_Word_against 80 [l0, l1, l2] st M Q = wp F_Word_against 81 [l0, l1, l2] (.int (-1) :: st) M Q) := fun _ _ _ _ _ _ => wp_iconst d_Word_against_80 (by decide)
theorem B_Word_against_81 : (∀ (l0 l1 l2 : Value) (v : Int32) (M : Mm) (Q : Option Value → Mm → Prop), wp F_Word_against 81 [l0, l1, l2] [.int v] M Q = Q (some (.int v)) M) := fun _ _ _ _ _ _ => wp_retI d_Word_against_81 rfl
theorem B_Word_against_82 : (∀ (l0 l1 : Value) (x : Int32) (st : List Value) (M : Mm) (Q : Option Value → Mm → Prop), wp F_Word_against 82 [l0, l1, .int x] st M Q = wp F_Word_against 85 [l0, clr l1, .int (x + 1)] st M Q) := fun _ _ _ _ _ _ => wp_iinc d_Word_against_82 (by decide) rfl rfl
theorem B_Word_against_88 : (∀ (l0 l1 l2 : Value) (st : List Value) (M : Mm) (Q : Option Value → Mm → Prop), wp F_Word_against 88 [l0, l1, l2] st M Q = wp F_Word_against 89 [l0, l1, l2] (.int 0 :: st) M Q) ∧
  (∀ (l0 l1 l2 : Value) (v : Int32) (M : Mm) (Q : Option Value → Mm → Prop), wp F_Word_against 89 [l0, l1, l2] [.int v] M Q = Q (some (.int v)) M) := ⟨fun _ _ _ _ _ _ => wp_iconst d_Word_against_88 (by decide), fun _ _ _ _ _ _ => wp_retI d_Word_against_89 rfl⟩
theorem G_Word_against_85 (l0 l1 l2 : Value) (st : List Value) (M : Mm) (Q : Option Value → Mm → Prop) : wp F_Word_against 85 [l0, l1, l2] st M Q = wp F_Word_against 30 [l0, l1, l2] st M Q := wp_goto d_Word_against_85 rfl
theorem d_Word_holds_0 : decode (fnB F_Word_holds) 0 = .ok (.iconst 0, 1) := by decide +kernel
theorem d_Word_holds_1 : decode (fnB F_Word_holds) 1 = .ok (.istore_n 2, 1) := by decide +kernel
theorem d_Word_holds_2 : decode (fnB F_Word_holds) 2 = .ok (.iload_n 2, 1) := by decide +kernel
theorem d_Word_holds_3 : decode (fnB F_Word_holds) 3 = .ok (.aload_n 1, 1) := by decide +kernel
theorem d_Word_holds_4 : decode (fnB F_Word_holds) 4 = .ok (.getfield 21, 3) := by decide +kernel
theorem d_Word_holds_7 : decode (fnB F_Word_holds) 7 = .ok (.iadd, 1) := by decide +kernel
theorem d_Word_holds_8 : decode (fnB F_Word_holds) 8 = .ok (.aload_n 0, 1) := by decide +kernel
theorem d_Word_holds_9 : decode (fnB F_Word_holds) 9 = .ok (.getfield 21, 3) := by decide +kernel
theorem d_Word_holds_12 : decode (fnB F_Word_holds) 12 = .ok (.if_icmp .gt 24, 3) := by decide +kernel
theorem d_Word_holds_15 : decode (fnB F_Word_holds) 15 = .ok (.aload_n 0, 1) := by decide +kernel
theorem d_Word_holds_16 : decode (fnB F_Word_holds) 16 = .ok (.iload_n 2, 1) := by decide +kernel
theorem d_Word_holds_17 : decode (fnB F_Word_holds) 17 = .ok (.aload_n 1, 1) := by decide +kernel
theorem d_Word_holds_18 : decode (fnB F_Word_holds) 18 = .ok (.aload_n 1, 1) := by decide +kernel
theorem d_Word_holds_19 : decode (fnB F_Word_holds) 19 = .ok (.getfield 21, 3) := by decide +kernel
theorem d_Word_holds_22 : decode (fnB F_Word_holds) 22 = .ok (.invokevirtual 25, 3) := by decide +kernel
theorem d_Word_holds_25 : decode (fnB F_Word_holds) 25 = .ok (.ifCond .eq 5, 3) := by decide +kernel
theorem d_Word_holds_28 : decode (fnB F_Word_holds) 28 = .ok (.iconst 1, 1) := by decide +kernel
theorem d_Word_holds_29 : decode (fnB F_Word_holds) 29 = .ok (.ireturn, 1) := by decide +kernel
theorem d_Word_holds_30 : decode (fnB F_Word_holds) 30 = .ok (.iinc 2 1, 3) := by decide +kernel
theorem d_Word_holds_33 : decode (fnB F_Word_holds) 33 = .ok (.goto (-31), 3) := by decide +kernel
theorem d_Word_holds_36 : decode (fnB F_Word_holds) 36 = .ok (.iconst 0, 1) := by decide +kernel
theorem d_Word_holds_37 : decode (fnB F_Word_holds) 37 = .ok (.ireturn, 1) := by decide +kernel
theorem B_Word_holds_0 : (∀ (l0 l1 l2 : Value) (st : List Value) (M : Mm) (Q : Option Value → Mm → Prop), wp F_Word_holds 0 [l0, l1, l2] st M Q = wp F_Word_holds 1 [l0, l1, l2] (.int 0 :: st) M Q) ∧
  (∀ (l0 l1 l2 : Value) (x : Int32) (st : List Value) (M : Mm) (Q : Option Value → Mm → Prop), wp F_Word_holds 1 [l0, l1, l2] (.int x :: st) M Q = wp F_Word_holds 2 [l0, clr l1, .int x] st M Q) := ⟨fun _ _ _ _ _ _ => wp_iconst d_Word_holds_0 (by decide), fun _ _ _ _ _ _ _ => wp_in d_Word_holds_1 rfl rfl⟩
theorem B_Word_holds_2 : (∀ (l0 l1 : Value) (x : Int32) (st : List Value) (M : Mm) (Q : Option Value → Mm → Prop), wp F_Word_holds 2 [l0, l1, .int x] st M Q = wp F_Word_holds 3 [l0, l1, .int x] (.int x :: st) M Q) ∧
  (∀ (l0 l2 : Value) (x : Nat) (st : List Value) (M : Mm) (Q : Option Value → Mm → Prop), wp F_Word_holds 3 [l0, .ref x, l2] st M Q = wp F_Word_holds 4 [l0, .ref x, l2] (.ref x :: st) M Q) ∧
  (∀ (l0 l2 : Value) (st : List Value) (M : Mm) (Q : Option Value → Mm → Prop), wp F_Word_holds 3 [l0, .null, l2] st M Q = wp F_Word_holds 4 [l0, .null, l2] (.null :: st) M Q) ∧
  (∀ (l0 l1 l2 : Value) (a : Nat) (st : List Value) (M : Mm) (Q : Option Value → Mm → Prop), wp F_Word_holds 4 [l0, l1, l2] (.ref a :: st) M Q = (sh M a = some (.inl 10) ∧ wp F_Word_holds 7 [l0, l1, l2] (.int (gI M a 1) :: st) M Q)) ∧
  (∀ (l0 l1 l2 : Value) (x y : Int32) (st : List Value) (M : Mm) (Q : Option Value → Mm → Prop), wp F_Word_holds 7 [l0, l1, l2] (.int y :: .int x :: st) M Q = wp F_Word_holds 8 [l0, l1, l2] (.int (x + y) :: st) M Q) ∧
  (∀ (l1 l2 : Value) (x : Nat) (st : List Value) (M : Mm) (Q : Option Value → Mm → Prop), wp F_Word_holds 8 [.ref x, l1, l2] st M Q = wp F_Word_holds 9 [.ref x, l1, l2] (.ref x :: st) M Q) ∧
  (∀ (l0 l1 l2 : Value) (a : Nat) (st : List Value) (M : Mm) (Q : Option Value → Mm → Prop), wp F_Word_holds 9 [l0, l1, l2] (.ref a :: st) M Q = (sh M a = some (.inl 10) ∧ wp F_Word_holds 12 [l0, l1, l2] (.int (gI M a 1) :: st) M Q)) ∧
  (∀ (l0 l1 l2 : Value) (x y : Int32) (st : List Value) (M : Mm) (Q : Option Value → Mm → Prop), wp F_Word_holds 12 [l0, l1, l2] (.int y :: .int x :: st) M Q = if y < x then wp F_Word_holds 36 [l0, l1, l2] st M Q else wp F_Word_holds 15 [l0, l1, l2] st M Q) ∧
  (∀ (l1 l2 : Value) (x : Nat) (st : List Value) (M : Mm) (Q : Option Value → Mm → Prop), wp F_Word_holds 15 [.ref x, l1, l2] st M Q = wp F_Word_holds 16 [.ref x, l1, l2] (.ref x :: st) M Q) ∧
  (∀ (l0 l1 : Value) (x : Int32) (st : List Value) (M : Mm) (Q : Option Value → Mm → Prop), wp F_Word_holds 16 [l0, l1, .int x] st M Q = wp F_Word_holds 17 [l0, l1, .int x] (.int x :: st) M Q) ∧
  (∀ (l0 l2 : Value) (x : Nat) (st : List Value) (M : Mm) (Q : Option Value → Mm → Prop), wp F_Word_holds 17 [l0, .ref x, l2] st M Q = wp F_Word_holds 18 [l0, .ref x, l2] (.ref x :: st) M Q) ∧
  (∀ (l0 l2 : Value) (st : List Value) (M : Mm) (Q : Option Value → Mm → Prop), wp F_Word_holds 17 [l0, .null, l2] st M Q = wp F_Word_holds 18 [l0, .null, l2] (.null :: st) M Q) ∧
  (∀ (l0 l2 : Value) (x : Nat) (st : List Value) (M : Mm) (Q : Option Value → Mm → Prop), wp F_Word_holds 18 [l0, .ref x, l2] st M Q = wp F_Word_holds 19 [l0, .ref x, l2] (.ref x :: st) M Q) ∧
  (∀ (l0 l2 : Value) (st : List Value) (M : Mm) (Q : Option Value → Mm → Prop), wp F_Word_holds 18 [l0, .null, l2] st M Q = wp F_Word_holds 19 [l0, .null, l2] (.null :: st) M Q) ∧
  (∀ (l0 l1 l2 : Value) (a : Nat) (st : List Value) (M : Mm) (Q : Option Value → Mm → Prop), wp F_Word_holds 19 [l0, l1, l2] (.ref a :: st) M Q = (sh M a = some (.inl 10) ∧ wp F_Word_holds 22 [l0, l1, l2] (.int (gI M a 1) :: st) M Q)) ∧
  (∀ (l0 l1 l2 : Value) (b : Nat) (p0 : Int32) (p1 : Nat) (p2 : Int32) (M : Mm) (Q : Option Value → Mm → Prop), wp F_Word_holds 22 [l0, l1, l2] [.int p2, .ref p1, .int p0, .ref b] M Q = (sh M b = some (.inl 10) ∧ wp F_Word_matches 0 [.ref b, .int p0, .ref p1, .int p2, jk] [] M (fun r M1 => wp F_Word_holds 25 [l0, l1, l2] (r.toList ++ []) M1 Q))) ∧
  (∀ (l0 l1 l2 : Value) (x : Int32) (st : List Value) (M : Mm) (Q : Option Value → Mm → Prop), wp F_Word_holds 25 [l0, l1, l2] (.int x :: st) M Q = if x = 0 then wp F_Word_holds 30 [l0, l1, l2] st M Q else wp F_Word_holds 28 [l0, l1, l2] st M Q) ∧
  (∀ (l0 l1 l2 : Value) (st : List Value) (M : Mm) (Q : Option Value → Mm → Prop), wp F_Word_holds 28 [l0, l1, l2] st M Q = wp F_Word_holds 29 [l0, l1, l2] (.int 1 :: st) M Q) ∧
  (∀ (l0 l1 l2 : Value) (v : Int32) (M : Mm) (Q : Option Value → Mm → Prop), wp F_Word_holds 29 [l0, l1, l2] [.int v] M Q = ((v = 0 ∨ v = 1) ∧ Q (some (.int v)) M)) := ⟨fun _ _ _ _ _ _ => wp_in d_Word_holds_2 rfl rfl, fun _ _ _ _ _ _ => wp_in d_Word_holds_3 rfl rfl, fun _ _ _ _ _ => wp_in d_Word_holds_3 rfl rfl, fun _ _ _ _ _ _ _ => wp_getI d_Word_holds_4 fl_10_21 rfl, fun _ _ _ _ _ _ _ _ => wp_in d_Word_holds_7 rfl rfl, fun _ _ _ _ _ _ => wp_in d_Word_holds_8 rfl rfl, fun _ _ _ _ _ _ _ => wp_getI d_Word_holds_9 fl_10_21 rfl, fun _ _ _ _ _ _ _ _ => wp_icmp_gt d_Word_holds_12 rfl, fun _ _ _ _ _ _ => wp_in d_Word_holds_15 rfl rfl, fun _ _ _ _ _ _ => wp_in d_Word_holds_16 rfl rfl, fun _ _ _ _ _ _ => wp_in d_Word_holds_17 rfl rfl, fun _ _ _ _ _ => wp_in d_Word_holds_17 rfl rfl, fun _ _ _ _ _ _ => wp_in d_Word_holds_18 rfl rfl, fun _ _ _ _ _ => wp_in d_Word_holds_18 rfl rfl, fun _ _ _ _ _ _ _ => wp_getI d_Word_holds_19 fl_10_21 rfl, fun _ _ _ _ _ _ _ _ _ => wp_callV d_Word_holds_22 ml_10_25 rfl rfl rfl, fun _ _ _ _ _ _ _ => wp_if_eq d_Word_holds_25 rfl, fun _ _ _ _ _ _ => wp_iconst d_Word_holds_28 (by decide), fun _ _ _ _ _ _ => wp_retZ d_Word_holds_29 rfl⟩
theorem B_Word_holds_30 : (∀ (l0 l1 : Value) (x : Int32) (st : List Value) (M : Mm) (Q : Option Value → Mm → Prop), wp F_Word_holds 30 [l0, l1, .int x] st M Q = wp F_Word_holds 33 [l0, clr l1, .int (x + 1)] st M Q) := fun _ _ _ _ _ _ => wp_iinc d_Word_holds_30 (by decide) rfl rfl
theorem B_Word_holds_36 : (∀ (l0 l1 l2 : Value) (st : List Value) (M : Mm) (Q : Option Value → Mm → Prop), wp F_Word_holds 36 [l0, l1, l2] st M Q = wp F_Word_holds 37 [l0, l1, l2] (.int 0 :: st) M Q) ∧
  (∀ (l0 l1 l2 : Value) (v : Int32) (M : Mm) (Q : Option Value → Mm → Prop), wp F_Word_holds 37 [l0, l1, l2] [.int v] M Q = ((v = 0 ∨ v = 1) ∧ Q (some (.int v)) M)) := ⟨fun _ _ _ _ _ _ => wp_iconst d_Word_holds_36 (by decide), fun _ _ _ _ _ _ => wp_retZ d_Word_holds_37 rfl⟩
theorem G_Word_holds_33 (l0 l1 l2 : Value) (st : List Value) (M : Mm) (Q : Option Value → Mm → Prop) : wp F_Word_holds 33 [l0, l1, l2] st M Q = wp F_Word_holds 2 [l0, l1, l2] st M Q := wp_goto d_Word_holds_33 rfl
theorem d_Word_matches_0 : decode (fnB F_Word_matches) 0 = .ok (.iload_n 1, 1) := by decide +kernel
theorem d_Word_matches_1 : decode (fnB F_Word_matches) 1 = .ok (.ifCond .lt 21, 3) := by decide +kernel
theorem d_Word_matches_4 : decode (fnB F_Word_matches) 4 = .ok (.iload_n 1, 1) := by decide +kernel
theorem d_Word_matches_5 : decode (fnB F_Word_matches) 5 = .ok (.iload_n 3, 1) := by decide +kernel
theorem d_Word_matches_6 : decode (fnB F_Word_matches) 6 = .ok (.iadd, 1) := by decide +kernel
theorem d_Word_matches_7 : decode (fnB F_Word_matches) 7 = .ok (.aload_n 0, 1) := by decide +kernel
theorem d_Word_matches_8 : decode (fnB F_Word_matches) 8 = .ok (.getfield 21, 3) := by decide +kernel
theorem d_Word_matches_11 : decode (fnB F_Word_matches) 11 = .ok (.if_icmp .gt 11, 3) := by decide +kernel
theorem d_Word_matches_14 : decode (fnB F_Word_matches) 14 = .ok (.iload_n 3, 1) := by decide +kernel
theorem d_Word_matches_15 : decode (fnB F_Word_matches) 15 = .ok (.aload_n 2, 1) := by decide +kernel
theorem d_Word_matches_16 : decode (fnB F_Word_matches) 16 = .ok (.getfield 21, 3) := by decide +kernel
theorem d_Word_matches_19 : decode (fnB F_Word_matches) 19 = .ok (.if_icmp .le 5, 3) := by decide +kernel
theorem d_Word_matches_22 : decode (fnB F_Word_matches) 22 = .ok (.iconst 0, 1) := by decide +kernel
theorem d_Word_matches_23 : decode (fnB F_Word_matches) 23 = .ok (.ireturn, 1) := by decide +kernel
theorem d_Word_matches_24 : decode (fnB F_Word_matches) 24 = .ok (.iconst 0, 1) := by decide +kernel
theorem d_Word_matches_25 : decode (fnB F_Word_matches) 25 = .ok (.istore 4, 2) := by decide +kernel
theorem d_Word_matches_27 : decode (fnB F_Word_matches) 27 = .ok (.iload 4, 2) := by decide +kernel
theorem d_Word_matches_29 : decode (fnB F_Word_matches) 29 = .ok (.iload_n 3, 1) := by decide +kernel
theorem d_Word_matches_30 : decode (fnB F_Word_matches) 30 = .ok (.if_icmp .ge 30, 3) := by decide +kernel
theorem d_Word_matches_33 : decode (fnB F_Word_matches) 33 = .ok (.aload_n 0, 1) := by decide +kernel
theorem d_Word_matches_34 : decode (fnB F_Word_matches) 34 = .ok (.getfield 15, 3) := by decide +kernel
theorem d_Word_matches_37 : decode (fnB F_Word_matches) 37 = .ok (.iload_n 1, 1) := by decide +kernel
theorem d_Word_matches_38 : decode (fnB F_Word_matches) 38 = .ok (.iload 4, 2) := by decide +kernel
theorem d_Word_matches_40 : decode (fnB F_Word_matches) 40 = .ok (.iadd, 1) := by decide +kernel
theorem d_Word_matches_41 : decode (fnB F_Word_matches) 41 = .ok (.baload, 1) := by decide +kernel
theorem d_Word_matches_42 : decode (fnB F_Word_matches) 42 = .ok (.aload_n 2, 1) := by decide +kernel
theorem d_Word_matches_43 : decode (fnB F_Word_matches) 43 = .ok (.getfield 15, 3) := by decide +kernel
theorem d_Word_matches_46 : decode (fnB F_Word_matches) 46 = .ok (.iload 4, 2) := by decide +kernel
theorem d_Word_matches_48 : decode (fnB F_Word_matches) 48 = .ok (.baload, 1) := by decide +kernel
theorem d_Word_matches_49 : decode (fnB F_Word_matches) 49 = .ok (.if_icmp .eq 5, 3) := by decide +kernel
theorem d_Word_matches_52 : decode (fnB F_Word_matches) 52 = .ok (.iconst 0, 1) := by decide +kernel
theorem d_Word_matches_53 : decode (fnB F_Word_matches) 53 = .ok (.ireturn, 1) := by decide +kernel
theorem d_Word_matches_54 : decode (fnB F_Word_matches) 54 = .ok (.iinc 4 1, 3) := by decide +kernel
theorem d_Word_matches_57 : decode (fnB F_Word_matches) 57 = .ok (.goto (-30), 3) := by decide +kernel
theorem d_Word_matches_60 : decode (fnB F_Word_matches) 60 = .ok (.iconst 1, 1) := by decide +kernel
theorem d_Word_matches_61 : decode (fnB F_Word_matches) 61 = .ok (.ireturn, 1) := by decide +kernel
theorem B_Word_matches_0 : (∀ (l0 l2 l3 l4 : Value) (x : Int32) (st : List Value) (M : Mm) (Q : Option Value → Mm → Prop), wp F_Word_matches 0 [l0, .int x, l2, l3, l4] st M Q = wp F_Word_matches 1 [l0, .int x, l2, l3, l4] (.int x :: st) M Q) ∧
  (∀ (l0 l1 l2 l3 l4 : Value) (x : Int32) (st : List Value) (M : Mm) (Q : Option Value → Mm → Prop), wp F_Word_matches 1 [l0, l1, l2, l3, l4] (.int x :: st) M Q = if x < 0 then wp F_Word_matches 22 [l0, l1, l2, l3, l4] st M Q else wp F_Word_matches 4 [l0, l1, l2, l3, l4] st M Q) ∧
  (∀ (l0 l2 l3 l4 : Value) (x : Int32) (st : List Value) (M : Mm) (Q : Option Value → Mm → Prop), wp F_Word_matches 4 [l0, .int x, l2, l3, l4] st M Q = wp F_Word_matches 5 [l0, .int x, l2, l3, l4] (.int x :: st) M Q) ∧
  (∀ (l0 l1 l2 l4 : Value) (x : Int32) (st : List Value) (M : Mm) (Q : Option Value → Mm → Prop), wp F_Word_matches 5 [l0, l1, l2, .int x, l4] st M Q = wp F_Word_matches 6 [l0, l1, l2, .int x, l4] (.int x :: st) M Q) ∧
  (∀ (l0 l1 l2 l3 l4 : Value) (x y : Int32) (st : List Value) (M : Mm) (Q : Option Value → Mm → Prop), wp F_Word_matches 6 [l0, l1, l2, l3, l4] (.int y :: .int x :: st) M Q = wp F_Word_matches 7 [l0, l1, l2, l3, l4] (.int (x + y) :: st) M Q) ∧
  (∀ (l1 l2 l3 l4 : Value) (x : Nat) (st : List Value) (M : Mm) (Q : Option Value → Mm → Prop), wp F_Word_matches 7 [.ref x, l1, l2, l3, l4] st M Q = wp F_Word_matches 8 [.ref x, l1, l2, l3, l4] (.ref x :: st) M Q) ∧
  (∀ (l0 l1 l2 l3 l4 : Value) (a : Nat) (st : List Value) (M : Mm) (Q : Option Value → Mm → Prop), wp F_Word_matches 8 [l0, l1, l2, l3, l4] (.ref a :: st) M Q = (sh M a = some (.inl 10) ∧ wp F_Word_matches 11 [l0, l1, l2, l3, l4] (.int (gI M a 1) :: st) M Q)) ∧
  (∀ (l0 l1 l2 l3 l4 : Value) (x y : Int32) (st : List Value) (M : Mm) (Q : Option Value → Mm → Prop), wp F_Word_matches 11 [l0, l1, l2, l3, l4] (.int y :: .int x :: st) M Q = if y < x then wp F_Word_matches 22 [l0, l1, l2, l3, l4] st M Q else wp F_Word_matches 14 [l0, l1, l2, l3, l4] st M Q) ∧
  (∀ (l0 l1 l2 l4 : Value) (x : Int32) (st : List Value) (M : Mm) (Q : Option Value → Mm → Prop), wp F_Word_matches 14 [l0, l1, l2, .int x, l4] st M Q = wp F_Word_matches 15 [l0, l1, l2, .int x, l4] (.int x :: st) M Q) ∧
  (∀ (l0 l1 l3 l4 : Value) (x : Nat) (st : List Value) (M : Mm) (Q : Option Value → Mm → Prop), wp F_Word_matches 15 [l0, l1, .ref x, l3, l4] st M Q = wp F_Word_matches 16 [l0, l1, .ref x, l3, l4] (.ref x :: st) M Q) ∧
  (∀ (l0 l1 l3 l4 : Value) (st : List Value) (M : Mm) (Q : Option Value → Mm → Prop), wp F_Word_matches 15 [l0, l1, .null, l3, l4] st M Q = wp F_Word_matches 16 [l0, l1, .null, l3, l4] (.null :: st) M Q) ∧
  (∀ (l0 l1 l2 l3 l4 : Value) (a : Nat) (st : List Value) (M : Mm) (Q : Option Value → Mm → Prop), wp F_Word_matches 16 [l0, l1, l2, l3, l4] (.ref a :: st) M Q = (sh M a = some (.inl 10) ∧ wp F_Word_matches 19 [l0, l1, l2, l3, l4] (.int (gI M a 1) :: st) M Q)) ∧
  (∀ (l0 l1 l2 l3 l4 : Value) (x y : Int32) (st : List Value) (M : Mm) (Q : Option Value → Mm → Prop), wp F_Word_matches 19 [l0, l1, l2, l3, l4] (.int y :: .int x :: st) M Q = if x ≤ y then wp F_Word_matches 24 [l0, l1, l2, l3, l4] st M Q else wp F_Word_matches 22 [l0, l1, l2, l3, l4] st M Q) := ⟨fun _ _ _ _ _ _ _ _ => wp_in d_Word_matches_0 rfl rfl, fun _ _ _ _ _ _ _ _ _ => wp_if_lt d_Word_matches_1 rfl, fun _ _ _ _ _ _ _ _ => wp_in d_Word_matches_4 rfl rfl, fun _ _ _ _ _ _ _ _ => wp_in d_Word_matches_5 rfl rfl, fun _ _ _ _ _ _ _ _ _ _ => wp_in d_Word_matches_6 rfl rfl, fun _ _ _ _ _ _ _ _ => wp_in d_Word_matches_7 rfl rfl, fun _ _ _ _ _ _ _ _ _ => wp_getI d_Word_matches_8 fl_10_21 rfl, fun _ _ _ _ _ _ _ _ _ _ => wp_icmp_gt d_Word_matches_11 rfl, fun _ _ _ _ _ _ _ _ => wp_in d_Word_matches_14 rfl rfl, fun _ _ _ _ _ _ _ _ => wp_in d_Word_matches_15 rfl rfl, fun _ _ _ _ _ _ _ => wp_in d_Word_matches_15 rfl rfl, fun _ _ _ _ _ _ _ _ _ => wp_getI d_Word_matches_16 fl_10_21 rfl, fun _ _ _ _ _ _ _ _ _ _ => wp_icmp_le d_Word_matches_19 rfl⟩
theorem B_Word_matches_22 : (∀ (l0 l1 l2 l3 l4 : Value) (st : List Value) (M : Mm) (Q : Option Value → Mm → Prop), wp F_Word_matches 22 [l0, l1, l2, l3, l4] st M Q = wp F_Word_matches 23 [l0, l1, l2, l3, l4] (.int 0 :: st) M Q) ∧
  (∀ (l0 l1 l2 l3 l4 : Value) (v : Int32) (M : Mm) (Q : Option Value → Mm → Prop), wp F_Word_matches 23 [l0, l1, l2, l3, l4] [.int v] M Q = ((v = 0 ∨ v = 1) ∧ Q (some (.int v)) M)) := ⟨fun _ _ _ _ _ _ _ _ => wp_iconst d_Word_matches_22 (by decide), fun _ _ _ _ _ _ _ _ => wp_retZ d_Word_matches_23 rfl⟩
theorem B_Word_matches_24 : (∀ (l0 l1 l2 l3 l4 : Value) (st : List Value) (M : Mm) (Q : Option Value → Mm → Prop), wp F_Word_matches 24 [l0, l1, l2, l3, l4] st M Q = wp F_Word_matches 25 [l0, l1, l2, l3, l4] (.int 0 :: st) M Q) ∧
  (∀ (l0 l1 l2 l3 l4 : Value) (x : Int32) (st : List Value) (M : Mm) (Q : Option Value → Mm → Prop), wp F_Word_matches 25 [l0, l1, l2, l3, l4] (.int x :: st) M Q = wp F_Word_matches 27 [l0, l1, l2, clr l3, .int x] st M Q) := ⟨fun _ _ _ _ _ _ _ _ => wp_iconst d_Word_matches_24 (by decide), fun _ _ _ _ _ _ _ _ _ => wp_in d_Word_matches_25 rfl rfl⟩
theorem B_Word_matches_27 : (∀ (l0 l1 l2 l3 : Value) (x : Int32) (st : List Value) (M : Mm) (Q : Option Value → Mm → Prop), wp F_Word_matches 27 [l0, l1, l2, l3, .int x] st M Q = wp F_Word_matches 29 [l0, l1, l2, l3, .int x] (.int x :: st) M Q) ∧
  (∀ (l0 l1 l2 l4 : Value) (x : Int32) (st : List Value) (M : Mm) (Q : Option Value → Mm → Prop), wp F_Word_matches 29 [l0, l1, l2, .int x, l4] st M Q = wp F_Word_matches 30 [l0, l1, l2, .int x, l4] (.int x :: st) M Q) ∧
  (∀ (l0 l1 l2 l3 l4 : Value) (x y : Int32) (st : List Value) (M : Mm) (Q : Option Value → Mm → Prop), wp F_Word_matches 30 [l0, l1, l2, l3, l4] (.int y :: .int x :: st) M Q = if y ≤ x then wp F_Word_matches 60 [l0, l1, l2, l3, l4] st M Q else wp F_Word_matches 33 [l0, l1, l2, l3, l4] st M Q) ∧
  (∀ (l1 l2 l3 l4 : Value) (x : Nat) (st : List Value) (M : Mm) (Q : Option Value → Mm → Prop), wp F_Word_matches 33 [.ref x, l1, l2, l3, l4] st M Q = wp F_Word_matches 34 [.ref x, l1, l2, l3, l4] (.ref x :: st) M Q) ∧
  (∀ (l0 l1 l2 l3 l4 : Value) (a : Nat) (st : List Value) (M : Mm) (Q : Option Value → Mm → Prop), wp F_Word_matches 34 [l0, l1, l2, l3, l4] (.ref a :: st) M Q = (sh M a = some (.inl 10) ∧ wp F_Word_matches 37 [l0, l1, l2, l3, l4] (va_rf (gR M a 0) :: st) M Q)) ∧
  (∀ (l0 l2 l3 l4 : Value) (x : Int32) (st : List Value) (M : Mm) (Q : Option Value → Mm → Prop), wp F_Word_matches 37 [l0, .int x, l2, l3, l4] st M Q = wp F_Word_matches 38 [l0, .int x, l2, l3, l4] (.int x :: st) M Q) ∧
  (∀ (l0 l1 l2 l3 : Value) (x : Int32) (st : List Value) (M : Mm) (Q : Option Value → Mm → Prop), wp F_Word_matches 38 [l0, l1, l2, l3, .int x] st M Q = wp F_Word_matches 40 [l0, l1, l2, l3, .int x] (.int x :: st) M Q) ∧
  (∀ (l0 l1 l2 l3 l4 : Value) (x y : Int32) (st : List Value) (M : Mm) (Q : Option Value → Mm → Prop), wp F_Word_matches 40 [l0, l1, l2, l3, l4] (.int y :: .int x :: st) M Q = wp F_Word_matches 41 [l0, l1, l2, l3, l4] (.int (x + y) :: st) M Q) ∧
  (∀ (l0 l1 l2 l3 l4 : Value) (a : Nat) (j : Int32) (st : List Value) (M : Mm) (Q : Option Value → Mm → Prop), wp F_Word_matches 41 [l0, l1, l2, l3, l4] (.int j :: .ref a :: st) M Q = (ixB M a j ∧ wp F_Word_matches 42 [l0, l1, l2, l3, l4] (.int (gI M a (cl j)) :: st) M Q)) ∧
  (∀ (l0 l1 l3 l4 : Value) (x : Nat) (st : List Value) (M : Mm) (Q : Option Value → Mm → Prop), wp F_Word_matches 42 [l0, l1, .ref x, l3, l4] st M Q = wp F_Word_matches 43 [l0, l1, .ref x, l3, l4] (.ref x :: st) M Q) ∧
  (∀ (l0 l1 l3 l4 : Value) (st : List Value) (M : Mm) (Q : Option Value → Mm → Prop), wp F_Word_matches 42 [l0, l1, .null, l3, l4] st M Q = wp F_Word_matches 43 [l0, l1, .null, l3, l4] (.null :: st) M Q) ∧
  (∀ (l0 l1 l2 l3 l4 : Value) (a : Nat) (st : List Value) (M : Mm) (Q : Option Value → Mm → Prop), wp F_Word_matches 43 [l0, l1, l2, l3, l4] (.ref a :: st) M Q = (sh M a = some (.inl 10) ∧ wp F_Word_matches 46 [l0, l1, l2, l3, l4] (va_rf (gR M a 0) :: st) M Q)) ∧
  (∀ (l0 l1 l2 l3 : Value) (x : Int32) (st : List Value) (M : Mm) (Q : Option Value → Mm → Prop), wp F_Word_matches 46 [l0, l1, l2, l3, .int x] st M Q = wp F_Word_matches 48 [l0, l1, l2, l3, .int x] (.int x :: st) M Q) ∧
  (∀ (l0 l1 l2 l3 l4 : Value) (a : Nat) (j : Int32) (st : List Value) (M : Mm) (Q : Option Value → Mm → Prop), wp F_Word_matches 48 [l0, l1, l2, l3, l4] (.int j :: .ref a :: st) M Q = (ixB M a j ∧ wp F_Word_matches 49 [l0, l1, l2, l3, l4] (.int (gI M a (cl j)) :: st) M Q)) ∧
  (∀ (l0 l1 l2 l3 l4 : Value) (x y : Int32) (st : List Value) (M : Mm) (Q : Option Value → Mm → Prop), wp F_Word_matches 49 [l0, l1, l2, l3, l4] (.int y :: .int x :: st) M Q = if x = y then wp F_Word_matches 54 [l0, l1, l2, l3, l4] st M Q else wp F_Word_matches 52 [l0, l1, l2, l3, l4] st M Q) ∧
  (∀ (l0 l1 l2 l3 l4 : Value) (st : List Value) (M : Mm) (Q : Option Value → Mm → Prop), wp F_Word_matches 52 [l0, l1, l2, l3, l4] st M Q = wp F_Word_matches 53 [l0, l1, l2, l3, l4] (.int 0 :: st) M Q) ∧
  (∀ (l0 l1 l2 l3 l4 : Value) (v : Int32) (M : Mm) (Q : Option Value → Mm → Prop), wp F_Word_matches 53 [l0, l1, l2, l3, l4] [.int v] M Q = ((v = 0 ∨ v = 1) ∧ Q (some (.int v)) M)) := ⟨fun _ _ _ _ _ _ _ _ => wp_in d_Word_matches_27 rfl rfl, fun _ _ _ _ _ _ _ _ => wp_in d_Word_matches_29 rfl rfl, fun _ _ _ _ _ _ _ _ _ _ => wp_icmp_ge d_Word_matches_30 rfl, fun _ _ _ _ _ _ _ _ => wp_in d_Word_matches_33 rfl rfl, fun _ _ _ _ _ _ _ _ _ => wp_getA d_Word_matches_34 fl_10_15 rfl, fun _ _ _ _ _ _ _ _ => wp_in d_Word_matches_37 rfl rfl, fun _ _ _ _ _ _ _ _ => wp_in d_Word_matches_38 rfl rfl, fun _ _ _ _ _ _ _ _ _ _ => wp_in d_Word_matches_40 rfl rfl, fun _ _ _ _ _ _ _ _ _ _ => wp_bald d_Word_matches_41, fun _ _ _ _ _ _ _ _ => wp_in d_Word_matches_42 rfl rfl, fun _ _ _ _ _ _ _ => wp_in d_Word_matches_42 rfl rfl, fun _ _ _ _ _ _ _ _ _ => wp_getA d_Word_matches_43 fl_10_15 rfl, fun _ _ _ _ _ _ _ _ => wp_in d_Word_matches_46 rfl rfl, fun _ _ _ _ _ _ _ _ _ _ => wp_bald d_Word_matches_48, fun _ _ _ _ _ _ _ _ _ _ => wp_icmp_eq d_Word_matches_49 rfl, fun _ _ _ _ _ _ _ _ => wp_iconst d_Word_matches_52 (by decide), fun _ _ _ _ _ _ _ _ => wp_retZ d_Word_matches_53 rfl⟩
theorem B_Word_matches_54 : (∀ (l0 l1 l2 l3 : Value) (x : Int32) (st : List Value) (M : Mm) (Q : Option Value → Mm → Prop), wp F_Word_matches 54 [l0, l1, l2, l3, .int x] st M Q = wp F_Word_matches 57 [l0, l1, l2, clr l3, .int (x + 1)] st M Q) := fun _ _ _ _ _ _ _ _ => wp_iinc d_Word_matches_54 (by decide) rfl rfl
theorem B_Word_matches_60 : (∀ (l0 l1 l2 l3 l4 : Value) (st : List Value) (M : Mm) (Q : Option Value → Mm → Prop), wp F_Word_matches 60 [l0, l1, l2, l3, l4] st M Q = wp F_Word_matches 61 [l0, l1, l2, l3, l4] (.int 1 :: st) M Q) ∧
  (∀ (l0 l1 l2 l3 l4 : Value) (v : Int32) (M : Mm) (Q : Option Value → Mm → Prop), wp F_Word_matches 61 [l0, l1, l2, l3, l4] [.int v] M Q = ((v = 0 ∨ v = 1) ∧ Q (some (.int v)) M)) := ⟨fun _ _ _ _ _ _ _ _ => wp_iconst d_Word_matches_60 (by decide), fun _ _ _ _ _ _ _ _ => wp_retZ d_Word_matches_61 rfl⟩
theorem G_Word_matches_57 (l0 l1 l2 l3 l4 : Value) (st : List Value) (M : Mm) (Q : Option Value → Mm → Prop) : wp F_Word_matches 57 [l0, l1, l2, l3, l4] st M Q = wp F_Word_matches 27 [l0, l1, l2, l3, l4] st M Q := wp_goto d_Word_matches_57 rfl
