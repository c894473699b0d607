theorem d_Row_init_0 : decode (fnB F_Row_init) 0 = .ok (.aload_n 0, 1) := by decide +kernel
theorem d_Row_init_1 : decode (fnB F_Row_init) 1 = .ok (.invokespecial 3, 3) := by decide +kernel
theorem d_Row_init_4 : decode (fnB F_Row_init) 4 = .ok (.aload_n 0, 1) := by decide +kernel
theorem d_Row_init_5 : decode (fnB F_Row_init) 5 = .ok (.sipush 1000, 3) := by decide +kernel
theorem d_Row_init_8 : decode (fnB F_Row_init) 8 = .ok (.anewarray 9, 3) := by decide +kernel
theorem d_Row_init_11 : decode (fnB F_Row_init) 11 = .ok (.putfield 11, 3) := by decide +kernel
theorem d_Row_init_14 : decode (fnB F_Row_init) 14 = .ok (.return_, 1) := by decide +kernel
theorem B_Row_init_0 : (∀ (x : Nat) (st : List Value) (M : Mm) (Q : Option Value → Mm → Prop), wp F_Row_init 0 [.ref x] st M Q = wp F_Row_init 1 [.ref x] (.ref x :: st) M Q) ∧
  (∀ (l0 : Value) (a : Nat) (M : Mm) (Q : Option Value → Mm → Prop), wp F_Row_init 1 [l0] [.ref a] M Q = wp F_Row_init 4 [l0] [] M Q) ∧
  (∀ (x : Nat) (st : List Value) (M : Mm) (Q : Option Value → Mm → Prop), wp F_Row_init 4 [.ref x] st M Q = wp F_Row_init 5 [.ref x] (.ref x :: st) M Q) ∧
  (∀ (l0 : Value) (st : List Value) (M : Mm) (Q : Option Value → Mm → Prop), wp F_Row_init 5 [l0] st M Q = wp F_Row_init 8 [l0] (.int 1000 :: st) M Q) ∧
  (∀ (l0 : Value) (n : Int32) (st : List Value) (M : Mm) (Q : Option Value → Mm → Prop), wp F_Row_init 8 [l0] (.int n :: st) M Q = ((¬ n < 0 ∧ cl n ≤ 16777216) ∧ wp F_Row_init 11 [l0] (.ref (nxt M) :: st) (nw M (.inr (12, cl n)) (cl n)) Q)) ∧
  (∀ (l0 : Value) (a x : Nat) (st : List Value) (M : Mm) (Q : Option Value → Mm → Prop), wp F_Row_init 11 [l0] (.ref x :: .ref a :: st) M Q = (sh M a = some (.inl 7) ∧ wp F_Row_init 14 [l0] st (sR M a 0 (some x)) Q)) ∧
  (∀ (l0 : Value) (M : Mm) (Q : Option Value → Mm → Prop), wp F_Row_init 14 [l0] [] M Q = Q none M) := ⟨fun _ _ _ _ => wp_in d_Row_init_0 rfl rfl, fun _ _ _ _ => wp_obj d_Row_init_1 ml_7_3 (Nat.le_of_ble_eq_true rfl), fun _ _ _ _ => wp_in d_Row_init_4 rfl rfl, fun _ _ _ _ => wp_sipush d_Row_init_5 (by decide), fun _ _ _ _ _ => wp_anew d_Row_init_8 al_7_9, fun _ _ _ _ _ _ => wp_putRA d_Row_init_11 fl_7_11 rfl rfl, fun _ _ _ => wp_retV d_Row_init_14 rfl⟩
theorem d_Row_clear_0 : decode (fnB F_Row_clear) 0 = .ok (.aload_n 0, 1) := by decide +kernel
theorem d_Row_clear_1 : decode (fnB F_Row_clear) 1 = .ok (.iconst 0, 1) := by decide +kernel
theorem d_Row_clear_2 : decode (fnB F_Row_clear) 2 = .ok (.putfield 17, 3) := by decide +kernel
theorem d_Row_clear_5 : decode (fnB F_Row_clear) 5 = .ok (.aload_n 0, 1) := by decide +kernel
theorem d_Row_clear_6 : decode (fnB F_Row_clear) 6 = .ok (.iconst 0, 1) := by decide +kernel
theorem d_Row_clear_7 : decode (fnB F_Row_clear) 7 = .ok (.putfield 21, 3) := by decide +kernel
theorem d_Row_clear_10 : decode (fnB F_Row_clear) 10 = .ok (.return_, 1) := by decide +kernel
theorem B_Row_clear_0 : (∀ (x : Nat) (st : List Value) (M : Mm) (Q : Option Value → Mm → Prop), wp F_Row_clear 0 [.ref x] st M Q = wp F_Row_clear 1 [.ref x] (.ref x :: st) M Q) ∧
  (∀ (l0 : Value) (st : List Value) (M : Mm) (Q : Option Value → Mm → Prop), wp F_Row_clear 1 [l0] st M Q = wp F_Row_clear 2 [l0] (.int 0 :: st) M Q) ∧
  (∀ (l0 : Value) (a : Nat) (x : Int32) (st : List Value) (M : Mm) (Q : Option Value → Mm → Prop), wp F_Row_clear 2 [l0] (.int x :: .ref a :: st) M Q = (sh M a = some (.inl 7) ∧ wp F_Row_clear 5 [l0] st (sI M a 1 x) Q)) ∧
  (∀ (x : Nat) (st : List Value) (M : Mm) (Q : Option Value → Mm → Prop), wp F_Row_clear 5 [.ref x] st M Q = wp F_Row_clear 6 [.ref x] (.ref x :: st) M Q) ∧
  (∀ (l0 : Value) (st : List Value) (M : Mm) (Q : Option Value → Mm → Prop), wp F_Row_clear 6 [l0] st M Q = wp F_Row_clear 7 [l0] (.int 0 :: st) M Q) ∧
  (∀ (l0 : Value) (a : Nat) (x : Int32) (st : List Value) (M : Mm) (Q : Option Value → Mm → Prop), wp F_Row_clear 7 [l0] (.int x :: .ref a :: st) M Q = (sh M a = some (.inl 7) ∧ wp F_Row_clear 10 [l0] st (sI M a 2 x) Q)) ∧
  (∀ (l0 : Value) (M : Mm) (Q : Option Value → Mm → Prop), wp F_Row_clear 10 [l0] [] M Q = Q none M) := ⟨fun _ _ _ _ => wp_in d_Row_clear_0 rfl rfl, fun _ _ _ _ => wp_iconst d_Row_clear_1 (by decide), fun _ _ _ _ _ _ => wp_putI d_Row_clear_2 fl_7_17 rfl rfl, fun _ _ _ _ => wp_in d_Row_clear_5 rfl rfl, fun _ _ _ _ => wp_iconst d_Row_clear_6 (by decide), fun _ _ _ _ _ _ => wp_putI d_Row_clear_7 fl_7_21 rfl rfl, fun _ _ _ => wp_retV d_Row_clear_10 rfl⟩
theorem d_Row_behind_0 : decode (fnB F_Row_behind) 0 = .ok (.aload_n 0, 1) := by decide +kernel
theorem d_Row_behind_1 : decode (fnB F_Row_behind) 1 = .ok (.getfield 21, 3) := by decide +kernel
theorem d_Row_behind_4 : decode (fnB F_Row_behind) 4 = .ok (.sipush 1000, 3) := by decide +kernel
theorem d_Row_behind_7 : decode (fnB F_Row_behind) 7 = .ok (.if_icmp .lt 5, 3) := by decide +kernel
theorem d_Row_behind_10 : decode (fnB F_Row_behind) 10 = .ok (.aconst_null, 1) := by decide +kernel
theorem d_Row_behind_11 : decode (fnB F_Row_behind) 11 = .ok (.areturn, 1) := by decide +kernel
theorem d_Row_behind_12 : decode (fnB F_Row_behind) 12 = .ok (.aload_n 0, 1) := by decide +kernel
theorem d_Row_behind_13 : decode (fnB F_Row_behind) 13 = .ok (.getfield 17, 3) := by decide +kernel
theorem d_Row_behind_16 : decode (fnB F_Row_behind) 16 = .ok (.aload_n 0, 1) := by decide +kernel
theorem d_Row_behind_17 : decode (fnB F_Row_behind) 17 = .ok (.getfield 21, 3) := by decide +kernel
theorem d_Row_behind_20 : decode (fnB F_Row_behind) 20 = .ok (.iadd, 1) := by decide +kernel
theorem d_Row_behind_21 : decode (fnB F_Row_behind) 21 = .ok (.sipush 1000, 3) := by decide +kernel
theorem d_Row_behind_24 : decode (fnB F_Row_behind) 24 = .ok (.irem, 1) := by decide +kernel
theorem d_Row_behind_25 : decode (fnB F_Row_behind) 25 = .ok (.istore_n 1, 1) := by decide +kernel
theorem d_Row_behind_26 : decode (fnB F_Row_behind) 26 = .ok (.aload_n 0, 1) := by decide +kernel
theorem d_Row_behind_27 : decode (fnB F_Row_behind) 27 = .ok (.getfield 11, 3) := by decide +kernel
theorem d_Row_behind_30 : decode (fnB F_Row_behind) 30 = .ok (.iload_n 1, 1) := by decide +kernel
theorem d_Row_behind_31 : decode (fnB F_Row_behind) 31 = .ok (.aaload, 1) := by decide +kernel
theorem d_Row_behind_32 : decode (fnB F_Row_behind) 32 = .ok (.ifnonnull 16, 3) := by decide +kernel
theorem d_Row_behind_35 : decode (fnB F_Row_behind) 35 = .ok (.aload_n 0, 1) := by decide +kernel
theorem d_Row_behind_36 : decode (fnB F_Row_behind) 36 = .ok (.getfield 11, 3) := by decide +kernel
theorem d_Row_behind_39 : decode (fnB F_Row_behind) 39 = .ok (.iload_n 1, 1) := by decide +kernel
theorem d_Row_behind_40 : decode (fnB F_Row_behind) 40 = .ok (.new 9, 3) := by decide +kernel
theorem d_Row_behind_43 : decode (fnB F_Row_behind) 43 = .ok (.dup, 1) := by decide +kernel
theorem d_Row_behind_44 : decode (fnB F_Row_behind) 44 = .ok (.invokespecial 24, 3) := by decide +kernel
theorem d_Row_behind_47 : decode (fnB F_Row_behind) 47 = .ok (.aastore, 1) := by decide +kernel
theorem d_Row_behind_48 : decode (fnB F_Row_behind) 48 = .ok (.aload_n 0, 1) := by decide +kernel
theorem d_Row_behind_49 : decode (fnB F_Row_behind) 49 = .ok (.dup, 1) := by decide +kernel
theorem d_Row_behind_50 : decode (fnB F_Row_behind) 50 = .ok (.getfield 21, 3) := by decide +kernel
theorem d_Row_behind_53 : decode (fnB F_Row_behind) 53 = .ok (.iconst 1, 1) := by decide +kernel
theorem d_Row_behind_54 : decode (fnB F_Row_behind) 54 = .ok (.iadd, 1) := by decide +kernel
theorem d_Row_behind_55 : decode (fnB F_Row_behind) 55 = .ok (.putfield 21, 3) := by decide +kernel
theorem d_Row_behind_58 : decode (fnB F_Row_behind) 58 = .ok (.aload_n 0, 1) := by decide +kernel
theorem d_Row_behind_59 : decode (fnB F_Row_behind) 59 = .ok (.getfield 11, 3) := by decide +kernel
theorem d_Row_behind_62 : decode (fnB F_Row_behind) 62 = .ok (.iload_n 1, 1) := by decide +kernel
theorem d_Row_behind_63 : decode (fnB F_Row_behind) 63 = .ok (.aaload, 1) := by decide +kernel
theorem d_Row_behind_64 : decode (fnB F_Row_behind) 64 = .ok (.areturn, 1) := by decide +kernel
theorem B_Row_behind_0 : (∀ (l1 : Value) (x : Nat) (st : List Value) (M : Mm) (Q : Option Value → Mm → Prop), wp F_Row_behind 0 [.ref x, l1] st M Q = wp F_Row_behind 1 [.ref x, l1] (.ref x :: st) M Q) ∧
  (∀ (l0 l1 : Value) (a : Nat) (st : List Value) (M : Mm) (Q : Option Value → Mm → Prop), wp F_Row_behind 1 [l0, l1] (.ref a :: st) M Q = (sh M a = some (.inl 7) ∧ wp F_Row_behind 4 [l0, l1] (.int (gI M a 2) :: st) M Q)) ∧
  (∀ (l0 l1 : Value) (st : List Value) (M : Mm) (Q : Option Value → Mm → Prop), wp F_Row_behind 4 [l0, l1] st M Q = wp F_Row_behind 7 [l0, l1] (.int 1000 :: st) M Q) ∧
  (∀ (l0 l1 : Value) (x y : Int32) (st : List Value) (M : Mm) (Q : Option Value → Mm → Prop), wp F_Row_behind 7 [l0, l1] (.int y :: .int x :: st) M Q = if x < y then wp F_Row_behind 12 [l0, l1] st M Q else wp F_Row_behind 10 [l0, l1] st M Q) ∧
  (∀ (l0 l1 : Value) (st : List Value) (M : Mm) (Q : Option Value → Mm → Prop), wp F_Row_behind 10 [l0, l1] st M Q = wp F_Row_behind 11 [l0, l1] (.null :: st) M Q) ∧
  (∀ (l0 l1 : Value) (a : Nat) (M : Mm) (Q : Option Value → Mm → Prop), wp F_Row_behind 11 [l0, l1] [.ref a] M Q = Q (some (.ref a)) M) ∧
  (∀ (l0 l1 : Value) (M : Mm) (Q : Option Value → Mm → Prop), wp F_Row_behind 11 [l0, l1] [.null] M Q = Q (some .null) M) := ⟨fun _ _ _ _ _ => wp_in d_Row_behind_0 rfl rfl, fun _ _ _ _ _ _ => wp_getI d_Row_behind_1 fl_7_21 rfl, fun _ _ _ _ _ => wp_sipush d_Row_behind_4 (by decide), fun _ _ _ _ _ _ _ => wp_icmp_lt d_Row_behind_7 rfl, fun _ _ _ _ _ => wp_in d_Row_behind_10 rfl rfl, fun _ _ _ _ _ => wp_retR d_Row_behind_11 rfl, fun _ _ _ _ => wp_retN d_Row_behind_11 rfl⟩
theorem B_Row_behind_12 : (∀ (l1 : Value) (x : Nat) (st : List Value) (M : Mm) (Q : Option Value → Mm → Prop), wp F_Row_behind 12 [.ref x, l1] st M Q = wp F_Row_behind 13 [.ref x, l1] (.ref x :: st) M Q) ∧
  (∀ (l0 l1 : Value) (a : Nat) (st : List Value) (M : Mm) (Q : Option Value → Mm → Prop), wp F_Row_behind 13 [l0, l1] (.ref a :: st) M Q = (sh M a = some (.inl 7) ∧ wp F_Row_behind 16 [l0, l1] (.int (gI M a 1) :: st) M Q)) ∧
  (∀ (l1 : Value) (x : Nat) (st : List Value) (M : Mm) (Q : Option Value → Mm → Prop), wp F_Row_behind 16 [.ref x, l1] st M Q = wp F_Row_behind 17 [.ref x, l1] (.ref x :: st) M Q) ∧
  (∀ (l0 l1 : Value) (a : Nat) (st : List Value) (M : Mm) (Q : Option Value → Mm → Prop), wp F_Row_behind 17 [l0, l1] (.ref a :: st) M Q = (sh M a = some (.inl 7) ∧ wp F_Row_behind 20 [l0, l1] (.int (gI M a 2) :: st) M Q)) ∧
  (∀ (l0 l1 : Value) (x y : Int32) (st : List Value) (M : Mm) (Q : Option Value → Mm → Prop), wp F_Row_behind 20 [l0, l1] (.int y :: .int x :: st) M Q = wp F_Row_behind 21 [l0, l1] (.int (x + y) :: st) M Q) ∧
  (∀ (l0 l1 : Value) (st : List Value) (M : Mm) (Q : Option Value → Mm → Prop), wp F_Row_behind 21 [l0, l1] st M Q = wp F_Row_behind 24 [l0, l1] (.int 1000 :: st) M Q) ∧
  (∀ (l0 l1 : Value) (x y : Int32) (st : List Value) (M : Mm) (Q : Option Value → Mm → Prop), wp F_Row_behind 24 [l0, l1] (.int y :: .int x :: st) M Q = (¬ y = 0 ∧ wp F_Row_behind 25 [l0, l1] (.int (x - x / y * y) :: st) M Q)) ∧
  (∀ (l0 l1 : Value) (x : Int32) (st : List Value) (M : Mm) (Q : Option Value → Mm → Prop), wp F_Row_behind 25 [l0, l1] (.int x :: st) M Q = wp F_Row_behind 26 [clr l0, .int x] st M Q) ∧
  (∀ (l1 : Value) (x : Nat) (st : List Value) (M : Mm) (Q : Option Value → Mm → Prop), wp F_Row_behind 26 [.ref x, l1] st M Q = wp F_Row_behind 27 [.ref x, l1] (.ref x :: st) M Q) ∧
  (∀ (l0 l1 : Value) (a : Nat) (st : List Value) (M : Mm) (Q : Option Value → Mm → Prop), wp F_Row_behind 27 [l0, l1] (.ref a :: st) M Q = (sh M a = some (.inl 7) ∧ wp F_Row_behind 30 [l0, l1] (va_rf (gR M a 0) :: st) M Q)) ∧
  (∀ (l0 : Value) (x : Int32) (st : List Value) (M : Mm) (Q : Option Value → Mm → Prop), wp F_Row_behind 30 [l0, .int x] st M Q = wp F_Row_behind 31 [l0, .int x] (.int x :: st) M Q) ∧
  (∀ (l0 l1 : Value) (a : Nat) (j : Int32) (st : List Value) (M : Mm) (Q : Option Value → Mm → Prop), wp F_Row_behind 31 [l0, l1] (.int j :: .ref a :: st) M Q = (ixR M a j ∧ wp F_Row_behind 32 [l0, l1] (va_rf (gR M a (cl j)) :: st) M Q)) ∧
  (∀ (l0 l1 : Value) (x : Nat) (st : List Value) (M : Mm) (Q : Option Value → Mm → Prop), wp F_Row_behind 32 [l0, l1] (.ref x :: st) M Q = wp F_Row_behind 48 [l0, l1] st M Q) ∧
  (∀ (l0 l1 : Value) (st : List Value) (M : Mm) (Q : Option Value → Mm → Prop), wp F_Row_behind 32 [l0, l1] (.null :: st) M Q = wp F_Row_behind 35 [l0, l1] st M Q) ∧
  (∀ (l1 : Value) (x : Nat) (st : List Value) (M : Mm) (Q : Option Value → Mm → Prop), wp F_Row_behind 35 [.ref x, l1] st M Q = wp F_Row_behind 36 [.ref x, l1] (.ref x :: st) M Q) ∧
  (∀ (l0 l1 : Value) (a : Nat) (st : List Value) (M : Mm) (Q : Option Value → Mm → Prop), wp F_Row_behind 36 [l0, l1] (.ref a :: st) M Q = (sh M a = some (.inl 7) ∧ wp F_Row_behind 39 [l0, l1] (va_rf (gR M a 0) :: st) M Q)) ∧
  (∀ (l0 : Value) (x : Int32) (st : List Value) (M : Mm) (Q : Option Value → Mm → Prop), wp F_Row_behind 39 [l0, .int x] st M Q = wp F_Row_behind 40 [l0, .int x] (.int x :: st) M Q) ∧
  (∀ (l0 l1 : Value) (st : List Value) (M : Mm) (Q : Option Value → Mm → Prop), wp F_Row_behind 40 [l0, l1] st M Q = wp F_Row_behind 43 [l0, l1] (.ref (nxt M) :: st) (nw M (.inl 4) 2) Q) ∧
  (∀ (l0 l1 : Value) (x : Nat) (st : List Value) (M : Mm) (Q : Option Value → Mm → Prop), wp F_Row_behind 43 [l0, l1] (.ref x :: st) M Q = wp F_Row_behind 44 [l0, l1] (.ref x :: .ref x :: st) M Q) ∧
  (∀ (l0 l1 : Value) (b : Nat) (r0 r1 r2 : Value) (M : Mm) (Q : Option Value → Mm → Prop), wp F_Row_behind 44 [l0, l1] [.ref b, r0, r1, r2] M Q = wp F_Pair_init 0 [.ref b] [] M (fun r M1 => wp F_Row_behind 47 [l0, l1] (r.toList ++ [r0, r1, r2]) M1 Q)) ∧
  (∀ (l0 l1 : Value) (a v : Nat) (j : Int32) (st : List Value) (M : Mm) (Q : Option Value → Mm → Prop), wp F_Row_behind 47 [l0, l1] (.ref v :: .int j :: .ref a :: st) M Q = ((∃ kd n c, sh M a = some (.inr (kd, n)) ∧ sh M v = some (.inl c) ∧ lk aO 0 kd = some c ∧ inb j n = true) ∧ wp F_Row_behind 48 [l0, l1] st (sR M a (cl j) (some v)) Q)) := ⟨fun _ _ _ _ _ => wp_in d_Row_behind_12 rfl rfl, fun _ _ _ _ _ _ => wp_getI d_Row_behind_13 fl_7_17 rfl, fun _ _ _ _ _ => wp_in d_Row_behind_16 rfl rfl, fun _ _ _ _ _ _ => wp_getI d_Row_behind_17 fl_7_21 rfl, fun _ _ _ _ _ _ _ => wp_in d_Row_behind_20 rfl rfl, fun _ _ _ _ _ => wp_sipush d_Row_behind_21 (by decide), fun _ _ _ _ _ _ _ => wp_irem d_Row_behind_24, fun _ _ _ _ _ _ => wp_in d_Row_behind_25 rfl rfl, fun _ _ _ _ _ => wp_in d_Row_behind_26 rfl rfl, fun _ _ _ _ _ _ => wp_getA d_Row_behind_27 fl_7_11 rfl, fun _ _ _ _ _ => wp_in d_Row_behind_30 rfl rfl, fun _ _ _ _ _ _ _ => wp_aald d_Row_behind_31, fun _ _ _ _ _ _ => wp_in d_Row_behind_32 rfl rfl, fun _ _ _ _ _ => wp_in d_Row_behind_32 rfl rfl, fun _ _ _ _ _ => wp_in d_Row_behind_35 rfl rfl, fun _ _ _ _ _ _ => wp_getA d_Row_behind_36 fl_7_11 rfl, fun _ _ _ _ _ => wp_in d_Row_behind_39 rfl rfl, fun _ _ _ _ _ => wp_new d_Row_behind_40 nl_7_9, fun _ _ _ _ _ _ => wp_in d_Row_behind_43 rfl rfl, fun _ _ _ _ _ _ _ _ => wp_callI d_Row_behind_44 (Or.inr ml_7_24) rfl rfl rfl, fun _ _ _ _ _ _ _ _ => wp_aast d_Row_behind_47⟩
theorem B_Row_behind_48 : (∀ (l1 : Value) (x : Nat) (st : List Value) (M : Mm) (Q : Option Value → Mm → Prop), wp F_Row_behind 48 [.ref x, l1] st M Q = wp F_Row_behind 49 [.ref x, l1] (.ref x :: st) M Q) ∧
  (∀ (l0 l1 : Value) (x : Nat) (st : List Value) (M : Mm) (Q : Option Value → Mm → Prop), wp F_Row_behind 49 [l0, l1] (.ref x :: st) M Q = wp F_Row_behind 50 [l0, l1] (.ref x :: .ref x :: st) M Q) ∧
  (∀ (l0 l1 : Value) (a : Nat) (st : List Value) (M : Mm) (Q : Option Value → Mm → Prop), wp F_Row_behind 50 [l0, l1] (.ref a :: st) M Q = (sh M a = some (.inl 7) ∧ wp F_Row_behind 53 [l0, l1] (.int (gI M a 2) :: st) M Q)) ∧
  (∀ (l0 l1 : Value) (st : List Value) (M : Mm) (Q : Option Value → Mm → Prop), wp F_Row_behind 53 [l0, l1] st M Q = wp F_Row_behind 54 [l0, l1] (.int 1 :: st) M Q) ∧
  (∀ (l0 l1 : Value) (x y : Int32) (st : List Value) (M : Mm) (Q : Option Value → Mm → Prop), wp F_Row_behind 54 [l0, l1] (.int y :: .int x :: st) M Q = wp F_Row_behind 55 [l0, l1] (.int (x + y) :: st) M Q) ∧
  (∀ (l0 l1 : Value) (a : Nat) (x : Int32) (st : List Value) (M : Mm) (Q : Option Value → Mm → Prop), wp F_Row_behind 55 [l0, l1] (.int x :: .ref a :: st) M Q = (sh M a = some (.inl 7) ∧ wp F_Row_behind 58 [l0, l1] st (sI M a 2 x) Q)) ∧
  (∀ (l1 : Value) (x : Nat) (st : List Value) (M : Mm) (Q : Option Value → Mm → Prop), wp F_Row_behind 58 [.ref x, l1] st M Q = wp F_Row_behind 59 [.ref x, l1] (.ref x :: st) M Q) ∧
  (∀ (l0 l1 : Value) (a : Nat) (st : List Value) (M : Mm) (Q : Option Value → Mm → Prop), wp F_Row_behind 59 [l0, l1] (.ref a :: st) M Q = (sh M a = some (.inl 7) ∧ wp F_Row_behind 62 [l0, l1] (va_rf (gR M a 0) :: st) M Q)) ∧
  (∀ (l0 : Value) (x : Int32) (st : List Value) (M : Mm) (Q : Option Value → Mm → Prop), wp F_Row_behind 62 [l0, .int x] st M Q = wp F_Row_behind 63 [l0, .int x] (.int x :: st) M Q) ∧
  (∀ (l0 l1 : Value) (a : Nat) (j : Int32) (st : List Value) (M : Mm) (Q : Option Value → Mm → Prop), wp F_Row_behind 63 [l0, l1] (.int j :: .ref a :: st) M Q = (ixR M a j ∧ wp F_Row_behind 64 [l0, l1] (va_rf (gR M a (cl j)) :: st) M Q)) ∧
  (∀ (l0 l1 : Value) (a : Nat) (M : Mm) (Q : Option Value → Mm → Prop), wp F_Row_behind 64 [l0, l1] [.ref a] M Q = Q (some (.ref a)) M) ∧
  (∀ (l0 l1 : Value) (M : Mm) (Q : Option Value → Mm → Prop), wp F_Row_behind 64 [l0, l1] [.null] M Q = Q (some .null) M) := ⟨fun _ _ _ _ _ => wp_in d_Row_behind_48 rfl rfl, fun _ _ _ _ _ _ => wp_in d_Row_behind_49 rfl rfl, fun _ _ _ _ _ _ => wp_getI d_Row_behind_50 fl_7_21 rfl, fun _ _ _ _ _ => wp_iconst d_Row_behind_53 (by decide), fun _ _ _ _ _ _ _ => wp_in d_Row_behind_54 rfl rfl, fun _ _ _ _ _ _ _ => wp_putI d_Row_behind_55 fl_7_21 rfl rfl, fun _ _ _ _ _ => wp_in d_Row_behind_58 rfl rfl, fun _ _ _ _ _ _ => wp_getA d_Row_behind_59 fl_7_11 rfl, fun _ _ _ _ _ => wp_in d_Row_behind_62 rfl rfl, fun _ _ _ _ _ _ _ => wp_aald d_Row_behind_63, fun _ _ _ _ _ => wp_retR d_Row_behind_64 rfl, fun _ _ _ _ => wp_retN d_Row_behind_64 rfl⟩
theorem d_Row_at_0 : decode (fnB F_Row_at) 0 = .ok (.iload_n 1, 1) := by decide +kernel
theorem d_Row_at_1 : decode (fnB F_Row_at) 1 = .ok (.ifCond .lt 29, 3) := by decide +kernel
theorem d_Row_at_4 : decode (fnB F_Row_at) 4 = .ok (.iload_n 1, 1) := by decide +kernel
theorem d_Row_at_5 : decode (fnB F_Row_at) 5 = .ok (.aload_n 0, 1) := by decide +kernel
theorem d_Row_at_6 : decode (fnB F_Row_at) 6 = .ok (.getfield 21, 3) := by decide +kernel
theorem d_Row_at_9 : decode (fnB F_Row_at) 9 = .ok (.if_icmp .ge 21, 3) := by decide +kernel
theorem d_Row_at_12 : decode (fnB F_Row_at) 12 = .ok (.aload_n 0, 1) := by decide +kernel
theorem d_Row_at_13 : decode (fnB F_Row_at) 13 = .ok (.getfield 11, 3) := by decide +kernel
theorem d_Row_at_16 : decode (fnB F_Row_at) 16 = .ok (.aload_n 0, 1) := by decide +kernel
theorem d_Row_at_17 : decode (fnB F_Row_at) 17 = .ok (.getfield 17, 3) := by decide +kernel
theorem d_Row_at_20 : decode (fnB F_Row_at) 20 = .ok (.iload_n 1, 1) := by decide +kernel
theorem d_Row_at_21 : decode (fnB F_Row_at) 21 = .ok (.iadd, 1) := by decide +kernel
theorem d_Row_at_22 : decode (fnB F_Row_at) 22 = .ok (.sipush 1000, 3) := by decide +kernel
theorem d_Row_at_25 : decode (fnB F_Row_at) 25 = .ok (.irem, 1) := by decide +kernel
theorem d_Row_at_26 : decode (fnB F_Row_at) 26 = .ok (.aaload, 1) := by decide +kernel
theorem d_Row_at_27 : decode (fnB F_Row_at) 27 = .ok (.goto 4, 3) := by decide +kernel
theorem d_Row_at_30 : decode (fnB F_Row_at) 30 = .ok (.aconst_null, 1) := by decide +kernel
theorem d_Row_at_31 : decode (fnB F_Row_at) 31 = .ok (.areturn, 1) := by decide +kernel
theorem B_Row_at_0 : (∀ (l0 : Value) (x : Int32) (st : List Value) (M : Mm) (Q : Option Value → Mm → Prop), wp F_Row_at 0 [l0, .int x] st M Q = wp F_Row_at 1 [l0, .int x] (.int x :: st) M Q) ∧
  (∀ (l0 l1 : Value) (x : Int32) (st : List Value) (M : Mm) (Q : Option Value → Mm → Prop), wp F_Row_at 1 [l0, l1] (.int x :: st) M Q = if x < 0 then wp F_Row_at 30 [l0, l1] st M Q else wp F_Row_at 4 [l0, l1] st M Q) ∧
  (∀ (l0 : Value) (x : Int32) (st : List Value) (M : Mm) (Q : Option Value → Mm → Prop), wp F_Row_at 4 [l0, .int x] st M Q = wp F_Row_at 5 [l0, .int x] (.int x :: st) M Q) ∧
  (∀ (l1 : Value) (x : Nat) (st : List Value) (M : Mm) (Q : Option Value → Mm → Prop), wp F_Row_at 5 [.ref x, l1] st M Q = wp F_Row_at 6 [.ref x, l1] (.ref x :: st) M Q) ∧
  (∀ (l0 l1 : Value) (a : Nat) (st : List Value) (M : Mm) (Q : Option Value → Mm → Prop), wp F_Row_at 6 [l0, l1] (.ref a :: st) M Q = (sh M a = some (.inl 7) ∧ wp F_Row_at 9 [l0, l1] (.int (gI M a 2) :: st) M Q)) ∧
  (∀ (l0 l1 : Value) (x y : Int32) (st : List Value) (M : Mm) (Q : Option Value → Mm → Prop), wp F_Row_at 9 [l0, l1] (.int y :: .int x :: st) M Q = if y ≤ x then wp F_Row_at 30 [l0, l1] st M Q else wp F_Row_at 12 [l0, l1] st M Q) ∧
  (∀ (l1 : Value) (x : Nat) (st : List Value) (M : Mm) (Q : Option Value → Mm → Prop), wp F_Row_at 12 [.ref x, l1] st M Q = wp F_Row_at 13 [.ref x, l1] (.ref x :: st) M Q) ∧
  (∀ (l0 l1 : Value) (a : Nat) (st : List Value) (M : Mm) (Q : Option Value → Mm → Prop), wp F_Row_at 13 [l0, l1] (.ref a :: st) M Q = (sh M a = some (.inl 7) ∧ wp F_Row_at 16 [l0, l1] (va_rf (gR M a 0) :: st) M Q)) ∧
  (∀ (l1 : Value) (x : Nat) (st : List Value) (M : Mm) (Q : Option Value → Mm → Prop), wp F_Row_at 16 [.ref x, l1] st M Q = wp F_Row_at 17 [.ref x, l1] (.ref x :: st) M Q) ∧
  (∀ (l0 l1 : Value) (a : Nat) (st : List Value) (M : Mm) (Q : Option Value → Mm → Prop), wp F_Row_at 17 [l0, l1] (.ref a :: st) M Q = (sh M a = some (.inl 7) ∧ wp F_Row_at 20 [l0, l1] (.int (gI M a 1) :: st) M Q)) ∧
  (∀ (l0 : Value) (x : Int32) (st : List Value) (M : Mm) (Q : Option Value → Mm → Prop), wp F_Row_at 20 [l0, .int x] st M Q = wp F_Row_at 21 [l0, .int x] (.int x :: st) M Q) ∧
  (∀ (l0 l1 : Value) (x y : Int32) (st : List Value) (M : Mm) (Q : Option Value → Mm → Prop), wp F_Row_at 21 [l0, l1] (.int y :: .int x :: st) M Q = wp F_Row_at 22 [l0, l1] (.int (x + y) :: st) M Q) ∧
  (∀ (l0 l1 : Value) (st : List Value) (M : Mm) (Q : Option Value → Mm → Prop), wp F_Row_at 22 [l0, l1] st M Q = wp F_Row_at 25 [l0, l1] (.int 1000 :: st) M Q) ∧
  (∀ (l0 l1 : Value) (x y : Int32) (st : List Value) (M : Mm) (Q : Option Value → Mm → Prop), wp F_Row_at 25 [l0, l1] (.int y :: .int x :: st) M Q = (¬ y = 0 ∧ wp F_Row_at 26 [l0, l1] (.int (x - x / y * y) :: st) M Q)) ∧
  (∀ (l0 l1 : Value) (a : Nat) (j : Int32) (st : List Value) (M : Mm) (Q : Option Value → Mm → Prop), wp F_Row_at 26 [l0, l1] (.int j :: .ref a :: st) M Q = (ixR M a j ∧ wp F_Row_at 27 [l0, l1] (va_rf (gR M a (cl j)) :: st) M Q)) ∧
  (∀ (l0 l1 : Value) (st : List Value) (M : Mm) (Q : Option Value → Mm → Prop), wp F_Row_at 27 [l0, l1] st M Q = wp F_Row_at 31 [l0, l1] st M Q) := ⟨fun _ _ _ _ _ => wp_in d_Row_at_0 rfl rfl, fun _ _ _ _ _ _ => wp_if_lt d_Row_at_1 rfl, fun _ _ _ _ _ => wp_in d_Row_at_4 rfl rfl, fun _ _ _ _ _ => wp_in d_Row_at_5 rfl rfl, fun _ _ _ _ _ _ => wp_getI d_Row_at_6 fl_7_21 rfl, fun _ _ _ _ _ _ _ => wp_icmp_ge d_Row_at_9 rfl, fun _ _ _ _ _ => wp_in d_Row_at_12 rfl rfl, fun _ _ _ _ _ _ => wp_getA d_Row_at_13 fl_7_11 rfl, fun _ _ _ _ _ => wp_in d_Row_at_16 rfl rfl, fun _ _ _ _ _ _ => wp_getI d_Row_at_17 fl_7_17 rfl, fun _ _ _ _ _ => wp_in d_Row_at_20 rfl rfl, fun _ _ _ _ _ _ _ => wp_in d_Row_at_21 rfl rfl, fun _ _ _ _ _ => wp_sipush d_Row_at_22 (by decide), fun _ _ _ _ _ _ _ => wp_irem d_Row_at_25, fun _ _ _ _ _ _ _ => wp_aald d_Row_at_26, fun _ _ _ _ _ => wp_goto d_Row_at_27 rfl⟩
theorem B_Row_at_30 : (∀ (l0 l1 : Value) (st : List Value) (M : Mm) (Q : Option Value → Mm → Prop), wp F_Row_at 30 [l0, l1] st M Q = wp F_Row_at 31 [l0, l1] (.null :: st) M Q) := fun _ _ _ _ _ => wp_in d_Row_at_30 rfl rfl
theorem B_Row_at_31 : (∀ (l0 l1 : Value) (a : Nat) (M : Mm) (Q : Option Value → Mm → Prop), wp F_Row_at 31 [l0, l1] [.ref a] M Q = Q (some (.ref a)) M) ∧
  (∀ (l0 l1 : Value) (M : Mm) (Q : Option Value → Mm → Prop), wp F_Row_at 31 [l0, l1] [.null] M Q = Q (some .null) M) := ⟨fun _ _ _ _ _ => wp_retR d_Row_at_31 rfl, fun _ _ _ _ => wp_retN d_Row_at_31 rfl⟩
theorem d_Row_takeFirst_0 : decode (fnB F_Row_takeFirst) 0 = .ok (.aload_n 0, 1) := by decide +kernel
theorem d_Row_takeFirst_1 : decode (fnB F_Row_takeFirst) 1 = .ok (.iconst 0, 1) := by decide +kernel
theorem d_Row_takeFirst_2 : decode (fnB F_Row_takeFirst) 2 = .ok (.invokevirtual 25, 3) := by decide +kernel
theorem d_Row_takeFirst_5 : decode (fnB F_Row_takeFirst) 5 = .ok (.astore_n 1, 1) := by decide +kernel
theorem d_Row_takeFirst_6 : decode (fnB F_Row_takeFirst) 6 = .ok (.aload_n 1, 1) := by decide +kernel
theorem d_Row_takeFirst_7 : decode (fnB F_Row_takeFirst) 7 = .ok (.ifnull 27, 3) := by decide +kernel
theorem d_Row_takeFirst_10 : decode (fnB F_Row_takeFirst) 10 = .ok (.aload_n 0, 1) := by decide +kernel
theorem d_Row_takeFirst_11 : decode (fnB F_Row_takeFirst) 11 = .ok (.aload_n 0, 1) := by decide +kernel
theorem d_Row_takeFirst_12 : decode (fnB F_Row_takeFirst) 12 = .ok (.getfield 17, 3) := by decide +kernel
theorem d_Row_takeFirst_15 : decode (fnB F_Row_takeFirst) 15 = .ok (.iconst 1, 1) := by decide +kernel
theorem d_Row_takeFirst_16 : decode (fnB F_Row_takeFirst) 16 = .ok (.iadd, 1) := by decide +kernel
theorem d_Row_takeFirst_17 : decode (fnB F_Row_takeFirst) 17 = .ok (.sipush 1000, 3) := by decide +kernel
theorem d_Row_takeFirst_20 : decode (fnB F_Row_takeFirst) 20 = .ok (.irem, 1) := by decide +kernel
theorem d_Row_takeFirst_21 : decode (fnB F_Row_takeFirst) 21 = .ok (.putfield 17, 3) := by decide +kernel
theorem d_Row_takeFirst_24 : decode (fnB F_Row_takeFirst) 24 = .ok (.aload_n 0, 1) := by decide +kernel
theorem d_Row_takeFirst_25 : decode (fnB F_Row_takeFirst) 25 = .ok (.dup, 1) := by decide +kernel
theorem d_Row_takeFirst_26 : decode (fnB F_Row_takeFirst) 26 = .ok (.getfield 21, 3) := by decide +kernel
theorem d_Row_takeFirst_29 : decode (fnB F_Row_takeFirst) 29 = .ok (.iconst 1, 1) := by decide +kernel
theorem d_Row_takeFirst_30 : decode (fnB F_Row_takeFirst) 30 = .ok (.isub, 1) := by decide +kernel
theorem d_Row_takeFirst_31 : decode (fnB F_Row_takeFirst) 31 = .ok (.putfield 21, 3) := by decide +kernel
theorem d_Row_takeFirst_34 : decode (fnB F_Row_takeFirst) 34 = .ok (.aload_n 1, 1) := by decide +kernel
theorem d_Row_takeFirst_35 : decode (fnB F_Row_takeFirst) 35 = .ok (.areturn, 1) := by decide +kernel
theorem B_Row_takeFirst_0 : (∀ (l1 : Value) (x : Nat) (st : List Value) (M : Mm) (Q : Option Value → Mm → Prop), wp F_Row_takeFirst 0 [.ref x, l1] st M Q = wp F_Row_takeFirst 1 [.ref x, l1] (.ref x :: st) M Q) ∧
  (∀ (l0 l1 : Value) (st : List Value) (M : Mm) (Q : Option Value → Mm → Prop), wp F_Row_takeFirst 1 [l0, l1] st M Q = wp F_Row_takeFirst 2 [l0, l1] (.int 0 :: st) M Q) ∧
  (∀ (l0 l1 : Value) (b : Nat) (p0 : Int32) (M : Mm) (Q : Option Value → Mm → Prop), wp F_Row_takeFirst 2 [l0, l1] [.int p0, .ref b] M Q = (sh M b = some (.inl 7) ∧ wp F_Row_at 0 [.ref b, .int p0] [] M (fun r M1 => wp F_Row_takeFirst 5 [l0, l1] (r.toList ++ []) M1 Q))) ∧
  (∀ (l0 l1 : Value) (x : Nat) (st : List Value) (M : Mm) (Q : Option Value → Mm → Prop), wp F_Row_takeFirst 5 [l0, l1] (.ref x :: st) M Q = wp F_Row_takeFirst 6 [clr l0, .ref x] st M Q) ∧
  (∀ (l0 l1 : Value) (st : List Value) (M : Mm) (Q : Option Value → Mm → Prop), wp F_Row_takeFirst 5 [l0, l1] (.null :: st) M Q = wp F_Row_takeFirst 6 [clr l0, .null] st M Q) ∧
  (∀ (l0 : Value) (x : Nat) (st : List Value) (M : Mm) (Q : Option Value → Mm → Prop), wp F_Row_takeFirst 6 [l0, .ref x] st M Q = wp F_Row_takeFirst 7 [l0, .ref x] (.ref x :: st) M Q) ∧
  (∀ (l0 : Value) (st : List Value) (M : Mm) (Q : Option Value → Mm → Prop), wp F_Row_takeFirst 6 [l0, .null] st M Q = wp F_Row_takeFirst 7 [l0, .null] (.null :: st) M Q) ∧
  (∀ (l0 l1 : Value) (x : Nat) (st : List Value) (M : Mm) (Q : Option Value → Mm → Prop), wp F_Row_takeFirst 7 [l0, l1] (.ref x :: st) M Q = wp F_Row_takeFirst 10 [l0, l1] st M Q) ∧
  (∀ (l0 l1 : Value) (st : List Value) (M : Mm) (Q : Option Value → Mm → Prop), wp F_Row_takeFirst 7 [l0, l1] (.null :: st) M Q = wp F_Row_takeFirst 34 [l0, l1] st M Q) ∧
  (∀ (l1 : Value) (x : Nat) (st : List Value) (M : Mm) (Q : Option Value → Mm → Prop), wp F_Row_takeFirst 10 [.ref x, l1] st M Q = wp F_Row_takeFirst 11 [.ref x, l1] (.ref x :: st) M Q) ∧
  (∀ (l1 : Value) (x : Nat) (st : List Value) (M : Mm) (Q : Option Value → Mm → Prop), wp F_Row_takeFirst 11 [.ref x, l1] st M Q = wp F_Row_takeFirst 12 [.ref x, l1] (.ref x :: st) M Q) ∧
  (∀ (l0 l1 : Value) (a : Nat) (st : List Value) (M : Mm) (Q : Option Value → Mm → Prop), wp F_Row_takeFirst 12 [l0, l1] (.ref a :: st) M Q = (sh M a = some (.inl 7) ∧ wp F_Row_takeFirst 15 [l0, l1] (.int (gI M a 1) :: st) M Q)) ∧
  (∀ (l0 l1 : Value) (st : List Value) (M : Mm) (Q : Option Value → Mm → Prop), wp F_Row_takeFirst 15 [l0, l1] st M Q = wp F_Row_takeFirst 16 [l0, l1] (.int 1 :: st) M Q) ∧
  (∀ (l0 l1 : Value) (x y : Int32) (st : List Value) (M : Mm) (Q : Option Value → Mm → Prop), wp F_Row_takeFirst 16 [l0, l1] (.int y :: .int x :: st) M Q = wp F_Row_takeFirst 17 [l0, l1] (.int (x + y) :: st) M Q) ∧
  (∀ (l0 l1 : Value) (st : List Value) (M : Mm) (Q : Option Value → Mm → Prop), wp F_Row_takeFirst 17 [l0, l1] st M Q = wp F_Row_takeFirst 20 [l0, l1] (.int 1000 :: st) M Q) ∧
  (∀ (l0 l1 : Value) (x y : Int32) (st : List Value) (M : Mm) (Q : Option Value → Mm → Prop), wp F_Row_takeFirst 20 [l0, l1] (.int y :: .int x :: st) M Q = (¬ y = 0 ∧ wp F_Row_takeFirst 21 [l0, l1] (.int (x - x / y * y) :: st) M Q)) ∧
  (∀ (l0 l1 : Value) (a : Nat) (x : Int32) (st : List Value) (M : Mm) (Q : Option Value → Mm → Prop), wp F_Row_takeFirst 21 [l0, l1] (.int x :: .ref a :: st) M Q = (sh M a = some (.inl 7) ∧ wp F_Row_takeFirst 24 [l0, l1] st (sI M a 1 x) Q)) ∧
  (∀ (l1 : Value) (x : Nat) (st : List Value) (M : Mm) (Q : Option Value → Mm → Prop), wp F_Row_takeFirst 24 [.ref x, l1] st M Q = wp F_Row_takeFirst 25 [.ref x, l1] (.ref x :: st) M Q) ∧
  (∀ (l0 l1 : Value) (x : Nat) (st : List Value) (M : Mm) (Q : Option Value → Mm → Prop), wp F_Row_takeFirst 25 [l0, l1] (.ref x :: st) M Q = wp F_Row_takeFirst 26 [l0, l1] (.ref x :: .ref x :: st) M Q) ∧
  (∀ (l0 l1 : Value) (a : Nat) (st : List Value) (M : Mm) (Q : Option Value → Mm → Prop), wp F_Row_takeFirst 26 [l0, l1] (.ref a :: st) M Q = (sh M a = some (.inl 7) ∧ wp F_Row_takeFirst 29 [l0, l1] (.int (gI M a 2) :: st) M Q)) ∧
  (∀ (l0 l1 : Value) (st : List Value) (M : Mm) (Q : Option Value → Mm → Prop), wp F_Row_takeFirst 29 [l0, l1] st M Q = wp F_Row_takeFirst 30 [l0, l1] (.int 1 :: st) M Q) ∧
  (∀ (l0 l1 : Value) (x y : Int32) (st : List Value) (M : Mm) (Q : Option Value → Mm → Prop), wp F_Row_takeFirst 30 [l0, l1] (.int y :: .int x :: st) M Q = wp F_Row_takeFirst 31 [l0, l1] (.int (x - y) :: st) M Q) ∧
  (∀ (l0 l1 : Value) (a : Nat) (x : Int32) (st : List Value) (M : Mm) (Q : Option Value → Mm → Prop), wp F_Row_takeFirst 31 [l0, l1] (.int x :: .ref a :: st) M Q = (sh M a = some (.inl 7) ∧ wp F_Row_takeFirst 34 [l0, l1] st (sI M a 2 x) Q)) := ⟨fun _ _ _ _ _ => wp_in d_Row_takeFirst_0 rfl rfl, fun _ _ _ _ _ => wp_iconst d_Row_takeFirst_1 (by decide), fun _ _ _ _ _ _ => wp_callV d_Row_takeFirst_2 ml_7_25 rfl rfl rfl, fun _ _ _ _ _ _ => wp_in d_Row_takeFirst_5 rfl rfl, fun _ _ _ _ _ => wp_in d_Row_takeFirst_5 rfl rfl, fun _ _ _ _ _ => wp_in d_Row_takeFirst_6 rfl rfl, fun _ _ _ _ => wp_in d_Row_takeFirst_6 rfl rfl, fun _ _ _ _ _ _ => wp_in d_Row_takeFirst_7 rfl rfl, fun _ _ _ _ _ => wp_in d_Row_takeFirst_7 rfl rfl, fun _ _ _ _ _ => wp_in d_Row_takeFirst_10 rfl rfl, fun _ _ _ _ _ => wp_in d_Row_takeFirst_11 rfl rfl, fun _ _ _ _ _ _ => wp_getI d_Row_takeFirst_12 fl_7_17 rfl, fun _ _ _ _ _ => wp_iconst d_Row_takeFirst_15 (by decide), fun _ _ _ _ _ _ _ => wp_in d_Row_takeFirst_16 rfl rfl, fun _ _ _ _ _ => wp_sipush d_Row_takeFirst_17 (by decide), fun _ _ _ _ _ _ _ => wp_irem d_Row_takeFirst_20, fun _ _ _ _ _ _ _ => wp_putI d_Row_takeFirst_21 fl_7_17 rfl rfl, fun _ _ _ _ _ => wp_in d_Row_takeFirst_24 rfl rfl, fun _ _ _ _ _ _ => wp_in d_Row_takeFirst_25 rfl rfl, fun _ _ _ _ _ _ => wp_getI d_Row_takeFirst_26 fl_7_21 rfl, fun _ _ _ _ _ => wp_iconst d_Row_takeFirst_29 (by decide), fun _ _ _ _ _ _ _ => wp_in d_Row_takeFirst_30 rfl rfl, fun _ _ _ _ _ _ _ => wp_putI d_Row_takeFirst_31 fl_7_21 rfl rfl⟩
theorem B_Row_takeFirst_34 : (∀ (l0 : Value) (x : Nat) (st : List Value) (M : Mm) (Q : Option Value → Mm → Prop), wp F_Row_takeFirst 34 [l0, .ref x] st M Q = wp F_Row_takeFirst 35 [l0, .ref x] (.ref x :: st) M Q) ∧
  (∀ (l0 : Value) (st : List Value) (M : Mm) (Q : Option Value → Mm → Prop), wp F_Row_takeFirst 34 [l0, .null] st M Q = wp F_Row_takeFirst 35 [l0, .null] (.null :: st) M Q) ∧
  (∀ (l0 l1 : Value) (a : Nat) (M : Mm) (Q : Option Value → Mm → Prop), wp F_Row_takeFirst 35 [l0, l1] [.ref a] M Q = Q (some (.ref a)) M) ∧
  (∀ (l0 l1 : Value) (M : Mm) (Q : Option Value → Mm → Prop), wp F_Row_takeFirst 35 [l0, l1] [.null] M Q = Q (some .null) M) := ⟨fun _ _ _ _ _ => wp_in d_Row_takeFirst_34 rfl rfl, fun _ _ _ _ => wp_in d_Row_takeFirst_34 rfl rfl, fun _ _ _ _ _ => wp_retR d_Row_takeFirst_35 rfl, fun _ _ _ _ => wp_retN d_Row_takeFirst_35 rfl⟩
