theorem d_Md_element_0 : decode (fnB F_Md_element) 0 = .ok (.aload_n 0, 1) := by decide +kernel
theorem d_Md_element_1 : decode (fnB F_Md_element) 1 = .ok (.iconst 0, 1) := by decide +kernel
theorem d_Md_element_2 : decode (fnB F_Md_element) 2 = .ok (.putfield 1, 3) := by decide +kernel
theorem d_Md_element_5 : decode (fnB F_Md_element) 5 = .ok (.iload_n 1, 1) := by decide +kernel
theorem d_Md_element_6 : decode (fnB F_Md_element) 6 = .ok (.ifCond .lt 10, 3) := by decide +kernel
theorem d_Md_element_9 : decode (fnB F_Md_element) 9 = .ok (.iload_n 2, 1) := by decide +kernel
theorem d_Md_element_10 : decode (fnB F_Md_element) 10 = .ok (.invokestatic 126, 3) := by decide +kernel
theorem d_Md_element_13 : decode (fnB F_Md_element) 13 = .ok (.ifCond .ne 6, 3) := by decide +kernel
theorem d_Md_element_16 : decode (fnB F_Md_element) 16 = .ok (.bipush (-2), 2) := by decide +kernel
theorem d_Md_element_18 : decode (fnB F_Md_element) 18 = .ok (.ireturn, 1) := by decide +kernel
theorem d_Md_element_19 : decode (fnB F_Md_element) 19 = .ok (.aload_n 0, 1) := by decide +kernel
theorem d_Md_element_20 : decode (fnB F_Md_element) 20 = .ok (.invokevirtual 261, 3) := by decide +kernel
theorem d_Md_element_23 : decode (fnB F_Md_element) 23 = .ok (.ifCond .ne 6, 3) := by decide +kernel
theorem d_Md_element_26 : decode (fnB F_Md_element) 26 = .ok (.bipush (-3), 2) := by decide +kernel
theorem d_Md_element_28 : decode (fnB F_Md_element) 28 = .ok (.ireturn, 1) := by decide +kernel
theorem d_Md_element_29 : decode (fnB F_Md_element) 29 = .ok (.aload_n 0, 1) := by decide +kernel
theorem d_Md_element_30 : decode (fnB F_Md_element) 30 = .ok (.iload_n 1, 1) := by decide +kernel
theorem d_Md_element_31 : decode (fnB F_Md_element) 31 = .ok (.invokevirtual 328, 3) := by decide +kernel
theorem d_Md_element_34 : decode (fnB F_Md_element) 34 = .ok (.ifCond .ne 6, 3) := by decide +kernel
theorem d_Md_element_37 : decode (fnB F_Md_element) 37 = .ok (.bipush (-2), 2) := by decide +kernel
theorem d_Md_element_39 : decode (fnB F_Md_element) 39 = .ok (.ireturn, 1) := by decide +kernel
theorem d_Md_element_40 : decode (fnB F_Md_element) 40 = .ok (.aload_n 0, 1) := by decide +kernel
theorem d_Md_element_41 : decode (fnB F_Md_element) 41 = .ok (.iload_n 1, 1) := by decide +kernel
theorem d_Md_element_42 : decode (fnB F_Md_element) 42 = .ok (.aload_n 0, 1) := by decide +kernel
theorem d_Md_element_43 : decode (fnB F_Md_element) 43 = .ok (.getfield 157, 3) := by decide +kernel
theorem d_Md_element_46 : decode (fnB F_Md_element) 46 = .ok (.iconst 0, 1) := by decide +kernel
theorem d_Md_element_47 : decode (fnB F_Md_element) 47 = .ok (.invokevirtual 331, 3) := by decide +kernel
theorem d_Md_element_50 : decode (fnB F_Md_element) 50 = .ok (.istore_n 3, 1) := by decide +kernel
theorem d_Md_element_51 : decode (fnB F_Md_element) 51 = .ok (.iload_n 3, 1) := by decide +kernel
theorem d_Md_element_52 : decode (fnB F_Md_element) 52 = .ok (.iconst (-1), 1) := by decide +kernel
theorem d_Md_element_53 : decode (fnB F_Md_element) 53 = .ok (.if_icmp .ne 6, 3) := by decide +kernel
theorem d_Md_element_56 : decode (fnB F_Md_element) 56 = .ok (.bipush (-4), 2) := by decide +kernel
theorem d_Md_element_58 : decode (fnB F_Md_element) 58 = .ok (.ireturn, 1) := by decide +kernel
theorem d_Md_element_59 : decode (fnB F_Md_element) 59 = .ok (.aload_n 0, 1) := by decide +kernel
theorem d_Md_element_60 : decode (fnB F_Md_element) 60 = .ok (.iload_n 2, 1) := by decide +kernel
theorem d_Md_element_61 : decode (fnB F_Md_element) 61 = .ok (.iload_n 3, 1) := by decide +kernel
theorem d_Md_element_62 : decode (fnB F_Md_element) 62 = .ok (.invokevirtual 280, 3) := by decide +kernel
theorem d_Md_element_65 : decode (fnB F_Md_element) 65 = .ok (.iload_n 3, 1) := by decide +kernel
theorem d_Md_element_66 : decode (fnB F_Md_element) 66 = .ok (.ireturn, 1) := by decide +kernel
theorem B_Md_element_0 : (∀ (l1 l2 l3 : Value) (x : Nat) (st : List Value) (M : Mm) (Q : Option Value → Mm → Prop), wp F_Md_element 0 [.ref x, l1, l2, l3] st M Q = wp F_Md_element 1 [.ref x, l1, l2, l3] (.ref x :: st) M Q) ∧
  (∀ (l0 l1 l2 l3 : Value) (st : List Value) (M : Mm) (Q : Option Value → Mm → Prop), wp F_Md_element 1 [l0, l1, l2, l3] st M Q = wp F_Md_element 2 [l0, l1, l2, l3] (.int 0 :: st) M Q) ∧
  (∀ (l0 l1 l2 l3 : Value) (a : Nat) (x : Int32) (st : List Value) (M : Mm) (Q : Option Value → Mm → Prop), wp F_Md_element 2 [l0, l1, l2, l3] (.int x :: .ref a :: st) M Q = (sh M a = some (.inl 12) ∧ wp F_Md_element 5 [l0, l1, l2, l3] st (sI M a 0 x) Q)) ∧
  (∀ (l0 l2 l3 : Value) (x : Int32) (st : List Value) (M : Mm) (Q : Option Value → Mm → Prop), wp F_Md_element 5 [l0, .int x, l2, l3] st M Q = wp F_Md_element 6 [l0, .int x, l2, l3] (.int x :: st) M Q) ∧
  (∀ (l0 l1 l2 l3 : Value) (x : Int32) (st : List Value) (M : Mm) (Q : Option Value → Mm → Prop), wp F_Md_element 6 [l0, l1, l2, l3] (.int x :: st) M Q = if x < 0 then wp F_Md_element 16 [l0, l1, l2, l3] st M Q else wp F_Md_element 9 [l0, l1, l2, l3] st M Q) ∧
  (∀ (l0 l1 l3 : Value) (x : Int32) (st : List Value) (M : Mm) (Q : Option Value → Mm → Prop), wp F_Md_element 9 [l0, l1, .int x, l3] st M Q = wp F_Md_element 10 [l0, l1, .int x, l3] (.int x :: st) M Q) ∧
  (∀ (l0 l1 l2 l3 : Value) (p0 : Int32) (M : Mm) (Q : Option Value → Mm → Prop), wp F_Md_element 10 [l0, l1, l2, l3] [.int p0] M Q = wp F_Md_isSlot 0 [.int p0] [] M (fun r M1 => wp F_Md_element 13 [l0, l1, l2, l3] (r.toList ++ []) M1 Q)) ∧
  (∀ (l0 l1 l2 l3 : Value) (x : Int32) (st : List Value) (M : Mm) (Q : Option Value → Mm → Prop), wp F_Md_element 13 [l0, l1, l2, l3] (.int x :: st) M Q = if x = 0 then wp F_Md_element 16 [l0, l1, l2, l3] st M Q else wp F_Md_element 19 [l0, l1, l2, l3] st M Q) := ⟨fun _ _ _ _ _ _ _ => wp_in d_Md_element_0 rfl rfl, fun _ _ _ _ _ _ _ => wp_iconst d_Md_element_1 (by decide), fun _ _ _ _ _ _ _ _ _ => wp_putI d_Md_element_2 fl_12_1 rfl rfl, fun _ _ _ _ _ _ _ => wp_in d_Md_element_5 rfl rfl, fun _ _ _ _ _ _ _ _ => wp_if_lt d_Md_element_6 rfl, fun _ _ _ _ _ _ _ => wp_in d_Md_element_9 rfl rfl, fun _ _ _ _ _ _ _ => wp_callS d_Md_element_10 ml_12_126 (Nat.le_of_ble_eq_true rfl) rfl rfl rfl, fun _ _ _ _ _ _ _ _ => wp_if_ne d_Md_element_13 rfl⟩
theorem B_Md_element_16 : (∀ (l0 l1 l2 l3 : Value) (st : List Value) (M : Mm) (Q : Option Value → Mm → Prop), wp F_Md_element 16 [l0, l1, l2, l3] st M Q = wp F_Md_element 18 [l0, l1, l2, l3] (.int (-2) :: st) M Q) ∧
  (∀ (l0 l1 l2 l3 : Value) (v : Int32) (M : Mm) (Q : Option Value → Mm → Prop), wp F_Md_element 18 [l0, l1, l2, l3] [.int v] M Q = Q (some (.int v)) M) := ⟨fun _ _ _ _ _ _ _ => wp_bipush d_Md_element_16 (by decide), fun _ _ _ _ _ _ _ => wp_retI d_Md_element_18 rfl⟩
theorem B_Md_element_19 : (∀ (l1 l2 l3 : Value) (x : Nat) (st : List Value) (M : Mm) (Q : Option Value → Mm → Prop), wp F_Md_element 19 [.ref x, l1, l2, l3] st M Q = wp F_Md_element 20 [.ref x, l1, l2, l3] (.ref x :: st) M Q) ∧
  (∀ (l0 l1 l2 l3 : Value) (b : Nat) (M : Mm) (Q : Option Value → Mm → Prop), wp F_Md_element 20 [l0, l1, l2, l3] [.ref b] M Q = (sh M b = some (.inl 12) ∧ wp F_Md_isComplete 0 [.ref b] [] M (fun r M1 => wp F_Md_element 23 [l0, l1, l2, l3] (r.toList ++ []) M1 Q))) ∧
  (∀ (l0 l1 l2 l3 : Value) (x : Int32) (st : List Value) (M : Mm) (Q : Option Value → Mm → Prop), wp F_Md_element 23 [l0, l1, l2, l3] (.int x :: st) M Q = if x = 0 then wp F_Md_element 26 [l0, l1, l2, l3] st M Q else wp F_Md_element 29 [l0, l1, l2, l3] st M Q) ∧
  (∀ (l0 l1 l2 l3 : Value) (st : List Value) (M : Mm) (Q : Option Value → Mm → Prop), wp F_Md_element 26 [l0, l1, l2, l3] st M Q = wp F_Md_element 28 [l0, l1, l2, l3] (.int (-3) :: st) M Q) ∧
  (∀ (l0 l1 l2 l3 : Value) (v : Int32) (M : Mm) (Q : Option Value → Mm → Prop), wp F_Md_element 28 [l0, l1, l2, l3] [.int v] M Q = Q (some (.int v)) M) := ⟨fun _ _ _ _ _ _ _ => wp_in d_Md_element_19 rfl rfl, fun _ _ _ _ _ _ _ => wp_callV d_Md_element_20 ml_12_261 rfl rfl rfl, fun _ _ _ _ _ _ _ _ => wp_if_ne d_Md_element_23 rfl, fun _ _ _ _ _ _ _ => wp_bipush d_Md_element_26 (by decide), fun _ _ _ _ _ _ _ => wp_retI d_Md_element_28 rfl⟩
theorem B_Md_element_29 : (∀ (l1 l2 l3 : Value) (x : Nat) (st : List Value) (M : Mm) (Q : Option Value → Mm → Prop), wp F_Md_element 29 [.ref x, l1, l2, l3] st M Q = wp F_Md_element 30 [.ref x, l1, l2, l3] (.ref x :: st) M Q) ∧
  (∀ (l0 l2 l3 : Value) (x : Int32) (st : List Value) (M : Mm) (Q : Option Value → Mm → Prop), wp F_Md_element 30 [l0, .int x, l2, l3] st M Q = wp F_Md_element 31 [l0, .int x, l2, l3] (.int x :: st) M Q) ∧
  (∀ (l0 l1 l2 l3 : Value) (b : Nat) (p0 : Int32) (M : Mm) (Q : Option Value → Mm → Prop), wp F_Md_element 31 [l0, l1, l2, l3] [.int p0, .ref b] M Q = (sh M b = some (.inl 12) ∧ wp F_Md_isElement 0 [.ref b, .int p0] [] M (fun r M1 => wp F_Md_element 34 [l0, l1, l2, l3] (r.toList ++ []) M1 Q))) ∧
  (∀ (l0 l1 l2 l3 : Value) (x : Int32) (st : List Value) (M : Mm) (Q : Option Value → Mm → Prop), wp F_Md_element 34 [l0, l1, l2, l3] (.int x :: st) M Q = if x = 0 then wp F_Md_element 37 [l0, l1, l2, l3] st M Q else wp F_Md_element 40 [l0, l1, l2, l3] st M Q) ∧
  (∀ (l0 l1 l2 l3 : Value) (st : List Value) (M : Mm) (Q : Option Value → Mm → Prop), wp F_Md_element 37 [l0, l1, l2, l3] st M Q = wp F_Md_element 39 [l0, l1, l2, l3] (.int (-2) :: st) M Q) ∧
  (∀ (l0 l1 l2 l3 : Value) (v : Int32) (M : Mm) (Q : Option Value → Mm → Prop), wp F_Md_element 39 [l0, l1, l2, l3] [.int v] M Q = Q (some (.int v)) M) := ⟨fun _ _ _ _ _ _ _ => wp_in d_Md_element_29 rfl rfl, fun _ _ _ _ _ _ _ => wp_in d_Md_element_30 rfl rfl, fun _ _ _ _ _ _ _ _ => wp_callV d_Md_element_31 ml_12_328 rfl rfl rfl, fun _ _ _ _ _ _ _ _ => wp_if_ne d_Md_element_34 rfl, fun _ _ _ _ _ _ _ => wp_bipush d_Md_element_37 (by decide), fun _ _ _ _ _ _ _ => wp_retI d_Md_element_39 rfl⟩
theorem B_Md_element_40 : (∀ (l1 l2 l3 : Value) (x : Nat) (st : List Value) (M : Mm) (Q : Option Value → Mm → Prop), wp F_Md_element 40 [.ref x, l1, l2, l3] st M Q = wp F_Md_element 41 [.ref x, l1, l2, l3] (.ref x :: st) M Q) ∧
  (∀ (l0 l2 l3 : Value) (x : Int32) (st : List Value) (M : Mm) (Q : Option Value → Mm → Prop), wp F_Md_element 41 [l0, .int x, l2, l3] st M Q = wp F_Md_element 42 [l0, .int x, l2, l3] (.int x :: st) M Q) ∧
  (∀ (l1 l2 l3 : Value) (x : Nat) (st : List Value) (M : Mm) (Q : Option Value → Mm → Prop), wp F_Md_element 42 [.ref x, l1, l2, l3] st M Q = wp F_Md_element 43 [.ref x, l1, l2, l3] (.ref x :: st) M Q) ∧
  (∀ (l0 l1 l2 l3 : Value) (a : Nat) (st : List Value) (M : Mm) (Q : Option Value → Mm → Prop), wp F_Md_element 43 [l0, l1, l2, l3] (.ref a :: st) M Q = (sh M a = some (.inl 12) ∧ wp F_Md_element 46 [l0, l1, l2, l3] (va_rf (gR M a 29) :: st) M Q)) ∧
  (∀ (l0 l1 l2 l3 : Value) (st : List Value) (M : Mm) (Q : Option Value → Mm → Prop), wp F_Md_element 46 [l0, l1, l2, l3] st M Q = wp F_Md_element 47 [l0, l1, l2, l3] (.int 0 :: st) M Q) ∧
  (∀ (l0 l1 l2 l3 : Value) (b : Nat) (p0 : Int32) (p1 : Nat) (p2 : Int32) (M : Mm) (Q : Option Value → Mm → Prop), wp F_Md_element 47 [l0, l1, l2, l3] [.int p2, .ref p1, .int p0, .ref b] M Q = (sh M b = some (.inl 12) ∧ wp F_Md_layElement 0 [.ref b, .int p0, .ref p1, .int p2, jk, jk, jk, jk, jk, jk] [] M (fun r M1 => wp F_Md_element 50 [l0, l1, l2, l3] (r.toList ++ []) M1 Q))) ∧
  (∀ (l0 l1 l2 l3 : Value) (x : Int32) (st : List Value) (M : Mm) (Q : Option Value → Mm → Prop), wp F_Md_element 50 [l0, l1, l2, l3] (.int x :: st) M Q = wp F_Md_element 51 [l0, l1, clr l2, .int x] st M Q) ∧
  (∀ (l0 l1 l2 : Value) (x : Int32) (st : List Value) (M : Mm) (Q : Option Value → Mm → Prop), wp F_Md_element 51 [l0, l1, l2, .int x] st M Q = wp F_Md_element 52 [l0, l1, l2, .int x] (.int x :: st) M Q) ∧
  (∀ (l0 l1 l2 l3 : Value) (st : List Value) (M : Mm) (Q : Option Value → Mm → Prop), wp F_Md_element 52 [l0, l1, l2, l3] st M Q = wp F_Md_element 53 [l0, l1, l2, l3] (.int (-1) :: st) M Q) ∧
  (∀ (l0 l1 l2 l3 : Value) (x y : Int32) (st : List Value) (M : Mm) (Q : Option Value → Mm → Prop), wp F_Md_element 53 [l0, l1, l2, l3] (.int y :: .int x :: st) M Q = if x = y then wp F_Md_element 56 [l0, l1, l2, l3] st M Q else wp F_Md_element 59 [l0, l1, l2, l3] st M Q) ∧
  (∀ (l0 l1 l2 l3 : Value) (st : List Value) (M : Mm) (Q : Option Value → Mm → Prop), wp F_Md_element 56 [l0, l1, l2, l3] st M Q = wp F_Md_element 58 [l0, l1, l2, l3] (.int (-4) :: st) M Q) ∧
  (∀ (l0 l1 l2 l3 : Value) (v : Int32) (M : Mm) (Q : Option Value → Mm → Prop), wp F_Md_element 58 [l0, l1, l2, l3] [.int v] M Q = Q (some (.int v)) M) := ⟨fun _ _ _ _ _ _ _ => wp_in d_Md_element_40 rfl rfl, fun _ _ _ _ _ _ _ => wp_in d_Md_element_41 rfl rfl, fun _ _ _ _ _ _ _ => wp_in d_Md_element_42 rfl rfl, fun _ _ _ _ _ _ _ _ => wp_getA d_Md_element_43 fl_12_157 rfl, fun _ _ _ _ _ _ _ => wp_iconst d_Md_element_46 (by decide), fun _ _ _ _ _ _ _ _ _ _ => wp_callV d_Md_element_47 ml_12_331 rfl rfl rfl, fun _ _ _ _ _ _ _ _ => wp_in d_Md_element_50 rfl rfl, fun _ _ _ _ _ _ _ => wp_in d_Md_element_51 rfl rfl, fun _ _ _ _ _ _ _ => wp_iconst d_Md_element_52 (by decide), fun _ _ _ _ _ _ _ _ _ => wp_icmp_ne d_Md_element_53 rfl, fun _ _ _ _ _ _ _ => wp_bipush d_Md_element_56 (by decide), fun _ _ _ _ _ _ _ => wp_retI d_Md_element_58 rfl⟩
theorem B_Md_element_59 : (∀ (l1 l2 l3 : Value) (x : Nat) (st : List Value) (M : Mm) (Q : Option Value → Mm → Prop), wp F_Md_element 59 [.ref x, l1, l2, l3] st M Q = wp F_Md_element 60 [.ref x, l1, l2, l3] (.ref x :: st) M Q) ∧
  (∀ (l0 l1 l3 : Value) (x : Int32) (st : List Value) (M : Mm) (Q : Option Value → Mm → Prop), wp F_Md_element 60 [l0, l1, .int x, l3] st M Q = wp F_Md_element 61 [l0, l1, .int x, l3] (.int x :: st) M Q) ∧
  (∀ (l0 l1 l2 : Value) (x : Int32) (st : List Value) (M : Mm) (Q : Option Value → Mm → Prop), wp F_Md_element 61 [l0, l1, l2, .int x] st M Q = wp F_Md_element 62 [l0, l1, l2, .int x] (.int x :: st) M Q) ∧
  (∀ (l0 l1 l2 l3 : Value) (b : Nat) (p0 : Int32) (p1 : Int32) (M : Mm) (Q : Option Value → Mm → Prop), wp F_Md_element 62 [l0, l1, l2, l3] [.int p1, .int p0, .ref b] M Q = (sh M b = some (.inl 12) ∧ wp F_Md_toSlot 0 [.ref b, .int p0, .int p1, jk] [] M (fun r M1 => wp F_Md_element 65 [l0, l1, l2, l3] (r.toList ++ []) M1 Q))) ∧
  (∀ (l0 l1 l2 : Value) (x : Int32) (st : List Value) (M : Mm) (Q : Option Value → Mm → Prop), wp F_Md_element 65 [l0, l1, l2, .int x] st M Q = wp F_Md_element 66 [l0, l1, l2, .int x] (.int x :: st) M Q) ∧
  (∀ (l0 l1 l2 l3 : Value) (v : Int32) (M : Mm) (Q : Option Value → Mm → Prop), wp F_Md_element 66 [l0, l1, l2, l3] [.int v] M Q = Q (some (.int v)) M) := ⟨fun _ _ _ _ _ _ _ => wp_in d_Md_element_59 rfl rfl, fun _ _ _ _ _ _ _ => wp_in d_Md_element_60 rfl rfl, fun _ _ _ _ _ _ _ => wp_in d_Md_element_61 rfl rfl, fun _ _ _ _ _ _ _ _ _ => wp_callV d_Md_element_62 ml_12_280 rfl rfl rfl, fun _ _ _ _ _ _ _ => wp_in d_Md_element_65 rfl rfl, fun _ _ _ _ _ _ _ => wp_retI d_Md_element_66 rfl⟩
theorem d_Md_numberOf_0 : decode (fnB F_Md_numberOf) 0 = .ok (.aload_n 0, 1) := by decide +kernel
theorem d_Md_numberOf_1 : decode (fnB F_Md_numberOf) 1 = .ok (.invokevirtual 321, 3) := by decide +kernel
theorem d_Md_numberOf_4 : decode (fnB F_Md_numberOf) 4 = .ok (.aload_n 0, 1) := by decide +kernel
theorem d_Md_numberOf_5 : decode (fnB F_Md_numberOf) 5 = .ok (.aload_n 0, 1) := by decide +kernel
theorem d_Md_numberOf_6 : decode (fnB F_Md_numberOf) 6 = .ok (.getfield 157, 3) := by decide +kernel
theorem d_Md_numberOf_9 : decode (fnB F_Md_numberOf) 9 = .ok (.iload_n 1, 1) := by decide +kernel
theorem d_Md_numberOf_10 : decode (fnB F_Md_numberOf) 10 = .ok (.invokevirtual 213, 3) := by decide +kernel
theorem d_Md_numberOf_13 : decode (fnB F_Md_numberOf) 13 = .ok (.istore_n 2, 1) := by decide +kernel
theorem d_Md_numberOf_14 : decode (fnB F_Md_numberOf) 14 = .ok (.iload_n 2, 1) := by decide +kernel
theorem d_Md_numberOf_15 : decode (fnB F_Md_numberOf) 15 = .ok (.iconst (-1), 1) := by decide +kernel
theorem d_Md_numberOf_16 : decode (fnB F_Md_numberOf) 16 = .ok (.if_icmp .ne 6, 3) := by decide +kernel
theorem d_Md_numberOf_19 : decode (fnB F_Md_numberOf) 19 = .ok (.bipush (-4), 2) := by decide +kernel
theorem d_Md_numberOf_21 : decode (fnB F_Md_numberOf) 21 = .ok (.ireturn, 1) := by decide +kernel
theorem d_Md_numberOf_22 : decode (fnB F_Md_numberOf) 22 = .ok (.lconst 0, 1) := by decide +kernel
theorem d_Md_numberOf_23 : decode (fnB F_Md_numberOf) 23 = .ok (.lstore_n 3, 1) := by decide +kernel
theorem d_Md_numberOf_24 : decode (fnB F_Md_numberOf) 24 = .ok (.iconst 0, 1) := by decide +kernel
theorem d_Md_numberOf_25 : decode (fnB F_Md_numberOf) 25 = .ok (.istore 5, 2) := by decide +kernel
theorem d_Md_numberOf_27 : decode (fnB F_Md_numberOf) 27 = .ok (.iload 5, 2) := by decide +kernel
theorem d_Md_numberOf_29 : decode (fnB F_Md_numberOf) 29 = .ok (.iload_n 2, 1) := by decide +kernel
theorem d_Md_numberOf_30 : decode (fnB F_Md_numberOf) 30 = .ok (.if_icmp .ge 25, 3) := by decide +kernel
theorem d_Md_numberOf_33 : decode (fnB F_Md_numberOf) 33 = .ok (.lload_n 3, 1) := by decide +kernel
theorem d_Md_numberOf_34 : decode (fnB F_Md_numberOf) 34 = .ok (.aload_n 0, 1) := by decide +kernel
theorem d_Md_numberOf_35 : decode (fnB F_Md_numberOf) 35 = .ok (.getfield 192, 3) := by decide +kernel
theorem d_Md_numberOf_38 : decode (fnB F_Md_numberOf) 38 = .ok (.sipush 12001, 3) := by decide +kernel
theorem d_Md_numberOf_41 : decode (fnB F_Md_numberOf) 41 = .ok (.iload 5, 2) := by decide +kernel
theorem d_Md_numberOf_43 : decode (fnB F_Md_numberOf) 43 = .ok (.imul, 1) := by decide +kernel
theorem d_Md_numberOf_44 : decode (fnB F_Md_numberOf) 44 = .ok (.laload, 1) := by decide +kernel
theorem d_Md_numberOf_45 : decode (fnB F_Md_numberOf) 45 = .ok (.invokestatic 293, 3) := by decide +kernel
theorem d_Md_numberOf_48 : decode (fnB F_Md_numberOf) 48 = .ok (.lstore_n 3, 1) := by decide +kernel
theorem d_Md_numberOf_49 : decode (fnB F_Md_numberOf) 49 = .ok (.iinc 5 1, 3) := by decide +kernel
theorem d_Md_numberOf_52 : decode (fnB F_Md_numberOf) 52 = .ok (.goto (-25), 3) := by decide +kernel
theorem d_Md_numberOf_55 : decode (fnB F_Md_numberOf) 55 = .ok (.iconst 0, 1) := by decide +kernel
theorem d_Md_numberOf_56 : decode (fnB F_Md_numberOf) 56 = .ok (.istore 5, 2) := by decide +kernel
theorem d_Md_numberOf_58 : decode (fnB F_Md_numberOf) 58 = .ok (.iconst 0, 1) := by decide +kernel
theorem d_Md_numberOf_59 : decode (fnB F_Md_numberOf) 59 = .ok (.istore 6, 2) := by decide +kernel
theorem d_Md_numberOf_61 : decode (fnB F_Md_numberOf) 61 = .ok (.iload 6, 2) := by decide +kernel
theorem d_Md_numberOf_63 : decode (fnB F_Md_numberOf) 63 = .ok (.iload_n 2, 1) := by decide +kernel
theorem d_Md_numberOf_64 : decode (fnB F_Md_numberOf) 64 = .ok (.if_icmp .ge 84, 3) := by decide +kernel
theorem d_Md_numberOf_67 : decode (fnB F_Md_numberOf) 67 = .ok (.iconst 0, 1) := by decide +kernel
theorem d_Md_numberOf_68 : decode (fnB F_Md_numberOf) 68 = .ok (.istore 7, 2) := by decide +kernel
theorem d_Md_numberOf_70 : decode (fnB F_Md_numberOf) 70 = .ok (.iload 7, 2) := by decide +kernel
theorem d_Md_numberOf_72 : decode (fnB F_Md_numberOf) 72 = .ok (.aload_n 0, 1) := by decide +kernel
theorem d_Md_numberOf_73 : decode (fnB F_Md_numberOf) 73 = .ok (.getfield 157, 3) := by decide +kernel
theorem d_Md_numberOf_76 : decode (fnB F_Md_numberOf) 76 = .ok (.iload 6, 2) := by decide +kernel
theorem d_Md_numberOf_78 : decode (fnB F_Md_numberOf) 78 = .ok (.iaload, 1) := by decide +kernel
theorem d_Md_numberOf_79 : decode (fnB F_Md_numberOf) 79 = .ok (.if_icmp .ge 43, 3) := by decide +kernel
theorem d_Md_numberOf_82 : decode (fnB F_Md_numberOf) 82 = .ok (.lload_n 3, 1) := by decide +kernel
theorem d_Md_numberOf_83 : decode (fnB F_Md_numberOf) 83 = .ok (.aload_n 0, 1) := by decide +kernel
theorem d_Md_numberOf_84 : decode (fnB F_Md_numberOf) 84 = .ok (.getfield 192, 3) := by decide +kernel
theorem d_Md_numberOf_87 : decode (fnB F_Md_numberOf) 87 = .ok (.sipush 12001, 3) := by decide +kernel
theorem d_Md_numberOf_90 : decode (fnB F_Md_numberOf) 90 = .ok (.iload_n 2, 1) := by decide +kernel
theorem d_Md_numberOf_91 : decode (fnB F_Md_numberOf) 91 = .ok (.iload 6, 2) := by decide +kernel
theorem d_Md_numberOf_93 : decode (fnB F_Md_numberOf) 93 = .ok (.isub, 1) := by decide +kernel
theorem d_Md_numberOf_94 : decode (fnB F_Md_numberOf) 94 = .ok (.iconst 1, 1) := by decide +kernel
theorem d_Md_numberOf_95 : decode (fnB F_Md_numberOf) 95 = .ok (.isub, 1) := by decide +kernel
theorem d_Md_numberOf_96 : decode (fnB F_Md_numberOf) 96 = .ok (.imul, 1) := by decide +kernel
theorem d_Md_numberOf_97 : decode (fnB F_Md_numberOf) 97 = .ok (.aload_n 0, 1) := by decide +kernel
theorem d_Md_numberOf_98 : decode (fnB F_Md_numberOf) 98 = .ok (.getfield 176, 3) := by decide +kernel
theorem d_Md_numberOf_101 : decode (fnB F_Md_numberOf) 101 = .ok (.bipush 8, 2) := by decide +kernel
theorem d_Md_numberOf_103 : decode (fnB F_Md_numberOf) 103 = .ok (.iload 5, 2) := by decide +kernel
theorem d_Md_numberOf_105 : decode (fnB F_Md_numberOf) 105 = .ok (.imul, 1) := by decide +kernel
theorem d_Md_numberOf_106 : decode (fnB F_Md_numberOf) 106 = .ok (.iload 7, 2) := by decide +kernel
theorem d_Md_numberOf_108 : decode (fnB F_Md_numberOf) 108 = .ok (.iadd, 1) := by decide +kernel
theorem d_Md_numberOf_109 : decode (fnB F_Md_numberOf) 109 = .ok (.iaload, 1) := by decide +kernel
theorem d_Md_numberOf_110 : decode (fnB F_Md_numberOf) 110 = .ok (.iadd, 1) := by decide +kernel
theorem d_Md_numberOf_111 : decode (fnB F_Md_numberOf) 111 = .ok (.laload, 1) := by decide +kernel
theorem d_Md_numberOf_112 : decode (fnB F_Md_numberOf) 112 = .ok (.invokestatic 293, 3) := by decide +kernel
theorem d_Md_numberOf_115 : decode (fnB F_Md_numberOf) 115 = .ok (.lstore_n 3, 1) := by decide +kernel
theorem d_Md_numberOf_116 : decode (fnB F_Md_numberOf) 116 = .ok (.iinc 7 1, 3) := by decide +kernel
theorem d_Md_numberOf_119 : decode (fnB F_Md_numberOf) 119 = .ok (.goto (-49), 3) := by decide +kernel
theorem d_Md_numberOf_122 : decode (fnB F_Md_numberOf) 122 = .ok (.aload_n 0, 1) := by decide +kernel
theorem d_Md_numberOf_123 : decode (fnB F_Md_numberOf) 123 = .ok (.getfield 176, 3) := by decide +kernel
theorem d_Md_numberOf_126 : decode (fnB F_Md_numberOf) 126 = .ok (.bipush 8, 2) := by decide +kernel
theorem d_Md_numberOf_128 : decode (fnB F_Md_numberOf) 128 = .ok (.iload 5, 2) := by decide +kernel
theorem d_Md_numberOf_130 : decode (fnB F_Md_numberOf) 130 = .ok (.imul, 1) := by decide +kernel
theorem d_Md_numberOf_131 : decode (fnB F_Md_numberOf) 131 = .ok (.aload_n 0, 1) := by decide +kernel
theorem d_Md_numberOf_132 : decode (fnB F_Md_numberOf) 132 = .ok (.getfield 157, 3) := by decide +kernel
theorem d_Md_numberOf_135 : decode (fnB F_Md_numberOf) 135 = .ok (.iload 6, 2) := by decide +kernel
theorem d_Md_numberOf_137 : decode (fnB F_Md_numberOf) 137 = .ok (.iaload, 1) := by decide +kernel
theorem d_Md_numberOf_138 : decode (fnB F_Md_numberOf) 138 = .ok (.iadd, 1) := by decide +kernel
theorem d_Md_numberOf_139 : decode (fnB F_Md_numberOf) 139 = .ok (.iaload, 1) := by decide +kernel
theorem d_Md_numberOf_140 : decode (fnB F_Md_numberOf) 140 = .ok (.istore 5, 2) := by decide +kernel
theorem d_Md_numberOf_142 : decode (fnB F_Md_numberOf) 142 = .ok (.iinc 6 1, 3) := by decide +kernel
theorem d_Md_numberOf_145 : decode (fnB F_Md_numberOf) 145 = .ok (.goto (-84), 3) := by decide +kernel
theorem d_Md_numberOf_148 : decode (fnB F_Md_numberOf) 148 = .ok (.lload_n 3, 1) := by decide +kernel
theorem d_Md_numberOf_149 : decode (fnB F_Md_numberOf) 149 = .ok (.ldc2_w 335, 3) := by decide +kernel
theorem d_Md_numberOf_152 : decode (fnB F_Md_numberOf) 152 = .ok (.lcmp, 1) := by decide +kernel
theorem d_Md_numberOf_153 : decode (fnB F_Md_numberOf) 153 = .ok (.ifCond .le 8, 3) := by decide +kernel
theorem d_Md_numberOf_156 : decode (fnB F_Md_numberOf) 156 = .ok (.bipush (-4), 2) := by decide +kernel
theorem d_Md_numberOf_158 : decode (fnB F_Md_numberOf) 158 = .ok (.goto 5, 3) := by decide +kernel
theorem d_Md_numberOf_161 : decode (fnB F_Md_numberOf) 161 = .ok (.lload_n 3, 1) := by decide +kernel
theorem d_Md_numberOf_162 : decode (fnB F_Md_numberOf) 162 = .ok (.l2i, 1) := by decide +kernel
theorem d_Md_numberOf_163 : decode (fnB F_Md_numberOf) 163 = .ok (.ireturn, 1) := by decide +kernel
theorem B_Md_numberOf_0 : (∀ (l1 l2 l3 l4 l5 l6 l7 : Value) (x : Nat) (st : List Value) (M : Mm) (Q : Option Value → Mm → Prop), wp F_Md_numberOf 0 [.ref x, l1, l2, l3, l4, l5, l6, l7] st M Q = wp F_Md_numberOf 1 [.ref x, l1, l2, l3, l4, l5, l6, l7] (.ref x :: st) M Q) ∧
  (∀ (l0 l1 l2 l3 l4 l5 l6 l7 : Value) (b : Nat) (M : Mm) (Q : Option Value → Mm → Prop), wp F_Md_numberOf 1 [l0, l1, l2, l3, l4, l5, l6, l7] [.ref b] M Q = (sh M b = some (.inl 12) ∧ wp F_Md_counted 0 [.ref b] [] M (fun r M1 => wp F_Md_numberOf 4 [l0, l1, l2, l3, l4, l5, l6, l7] (r.toList ++ []) M1 Q))) ∧
  (∀ (l1 l2 l3 l4 l5 l6 l7 : Value) (x : Nat) (st : List Value) (M : Mm) (Q : Option Value → Mm → Prop), wp F_Md_numberOf 4 [.ref x, l1, l2, l3, l4, l5, l6, l7] st M Q = wp F_Md_numberOf 5 [.ref x, l1, l2, l3, l4, l5, l6, l7] (.ref x :: st) M Q) ∧
  (∀ (l1 l2 l3 l4 l5 l6 l7 : Value) (x : Nat) (st : List Value) (M : Mm) (Q : Option Value → Mm → Prop), wp F_Md_numberOf 5 [.ref x, l1, l2, l3, l4, l5, l6, l7] st M Q = wp F_Md_numberOf 6 [.ref x, l1, l2, l3, l4, l5, l6, l7] (.ref x :: st) M Q) ∧
  (∀ (l0 l1 l2 l3 l4 l5 l6 l7 : Value) (a : Nat) (st : List Value) (M : Mm) (Q : Option Value → Mm → Prop), wp F_Md_numberOf 6 [l0, l1, l2, l3, l4, l5, l6, l7] (.ref a :: st) M Q = (sh M a = some (.inl 12) ∧ wp F_Md_numberOf 9 [l0, l1, l2, l3, l4, l5, l6, l7] (va_rf (gR M a 29) :: st) M Q)) ∧
  (∀ (l0 l2 l3 l4 l5 l6 l7 : Value) (x : Int32) (st : List Value) (M : Mm) (Q : Option Value → Mm → Prop), wp F_Md_numberOf 9 [l0, .int x, l2, l3, l4, l5, l6, l7] st M Q = wp F_Md_numberOf 10 [l0, .int x, l2, l3, l4, l5, l6, l7] (.int x :: st) M Q) ∧
  (∀ (l0 l1 l2 l3 l4 l5 l6 l7 : Value) (b : Nat) (p0 : Nat) (p1 : Int32) (M : Mm) (Q : Option Value → Mm → Prop), wp F_Md_numberOf 10 [l0, l1, l2, l3, l4, l5, l6, l7] [.int p1, .ref p0, .ref b] M Q = (sh M b = some (.inl 12) ∧ wp F_Md_shrink 0 [.ref b, .ref p0, .int p1, jk, jk, jk, jk, jk, jk] [] M (fun r M1 => wp F_Md_numberOf 13 [l0, l1, l2, l3, l4, l5, l6, l7] (r.toList ++ []) M1 Q))) ∧
  (∀ (l0 l1 l2 l3 l4 l5 l6 l7 : Value) (x : Int32) (st : List Value) (M : Mm) (Q : Option Value → Mm → Prop), wp F_Md_numberOf 13 [l0, l1, l2, l3, l4, l5, l6, l7] (.int x :: st) M Q = wp F_Md_numberOf 14 [l0, clr l1, .int x, l3, l4, l5, l6, l7] st M Q) ∧
  (∀ (l0 l1 l3 l4 l5 l6 l7 : Value) (x : Int32) (st : List Value) (M : Mm) (Q : Option Value → Mm → Prop), wp F_Md_numberOf 14 [l0, l1, .int x, l3, l4, l5, l6, l7] st M Q = wp F_Md_numberOf 15 [l0, l1, .int x, l3, l4, l5, l6, l7] (.int x :: st) M Q) ∧
  (∀ (l0 l1 l2 l3 l4 l5 l6 l7 : Value) (st : List Value) (M : Mm) (Q : Option Value → Mm → Prop), wp F_Md_numberOf 15 [l0, l1, l2, l3, l4, l5, l6, l7] st M Q = wp F_Md_numberOf 16 [l0, l1, l2, l3, l4, l5, l6, l7] (.int (-1) :: st) M Q) ∧
  (∀ (l0 l1 l2 l3 l4 l5 l6 l7 : Value) (x y : Int32) (st : List Value) (M : Mm) (Q : Option Value → Mm → Prop), wp F_Md_numberOf 16 [l0, l1, l2, l3, l4, l5, l6, l7] (.int y :: .int x :: st) M Q = if x = y then wp F_Md_numberOf 19 [l0, l1, l2, l3, l4, l5, l6, l7] st M Q else wp F_Md_numberOf 22 [l0, l1, l2, l3, l4, l5, l6, l7] st M Q) ∧
  (∀ (l0 l1 l2 l3 l4 l5 l6 l7 : Value) (st : List Value) (M : Mm) (Q : Option Value → Mm → Prop), wp F_Md_numberOf 19 [l0, l1, l2, l3, l4, l5, l6, l7] st M Q = wp F_Md_numberOf 21 [l0, l1, l2, l3, l4, l5, l6, l7] (.int (-4) :: st) M Q) ∧
  (∀ (l0 l1 l2 l3 l4 l5 l6 l7 : Value) (v : Int32) (M : Mm) (Q : Option Value → Mm → Prop), wp F_Md_numberOf 21 [l0, l1, l2, l3, l4, l5, l6, l7] [.int v] M Q = Q (some (.int v)) M) := ⟨fun _ _ _ _ _ _ _ _ _ _ _ => wp_in d_Md_numberOf_0 rfl rfl, fun _ _ _ _ _ _ _ _ _ _ _ => wp_callV d_Md_numberOf_1 ml_12_321 rfl rfl rfl, fun _ _ _ _ _ _ _ _ _ _ _ => wp_in d_Md_numberOf_4 rfl rfl, fun _ _ _ _ _ _ _ _ _ _ _ => wp_in d_Md_numberOf_5 rfl rfl, fun _ _ _ _ _ _ _ _ _ _ _ _ => wp_getA d_Md_numberOf_6 fl_12_157 rfl, fun _ _ _ _ _ _ _ _ _ _ _ => wp_in d_Md_numberOf_9 rfl rfl, fun _ _ _ _ _ _ _ _ _ _ _ _ _ => wp_callV d_Md_numberOf_10 ml_12_213 rfl rfl rfl, fun _ _ _ _ _ _ _ _ _ _ _ _ => wp_in d_Md_numberOf_13 rfl rfl, fun _ _ _ _ _ _ _ _ _ _ _ => wp_in d_Md_numberOf_14 rfl rfl, fun _ _ _ _ _ _ _ _ _ _ _ => wp_iconst d_Md_numberOf_15 (by decide), fun _ _ _ _ _ _ _ _ _ _ _ _ _ => wp_icmp_ne d_Md_numberOf_16 rfl, fun _ _ _ _ _ _ _ _ _ _ _ => wp_bipush d_Md_numberOf_19 (by decide), fun _ _ _ _ _ _ _ _ _ _ _ => wp_retI d_Md_numberOf_21 rfl⟩
theorem B_Md_numberOf_22 : (∀ (l0 l1 l2 l3 l4 l5 l6 l7 : Value) (st : List Value) (M : Mm) (Q : Option Value → Mm → Prop), wp F_Md_numberOf 22 [l0, l1, l2, l3, l4, l5, l6, l7] st M Q = wp F_Md_numberOf 23 [l0, l1, l2, l3, l4, l5, l6, l7] (.long 0 :: st) M Q) ∧
  (∀ (l0 l1 l2 l3 l4 l5 l6 l7 : Value) (x : Int64) (st : List Value) (M : Mm) (Q : Option Value → Mm → Prop), wp F_Md_numberOf 23 [l0, l1, l2, l3, l4, l5, l6, l7] (.long x :: st) M Q = wp F_Md_numberOf 24 [l0, l1, clr l2, .long x, jk, l5, l6, l7] st M Q) ∧
  (∀ (l0 l1 l2 l3 l4 l5 l6 l7 : Value) (st : List Value) (M : Mm) (Q : Option Value → Mm → Prop), wp F_Md_numberOf 24 [l0, l1, l2, l3, l4, l5, l6, l7] st M Q = wp F_Md_numberOf 25 [l0, l1, l2, l3, l4, l5, l6, l7] (.int 0 :: st) M Q) ∧
  (∀ (l0 l1 l2 l3 l4 l5 l6 l7 : Value) (x : Int32) (st : List Value) (M : Mm) (Q : Option Value → Mm → Prop), wp F_Md_numberOf 25 [l0, l1, l2, l3, l4, l5, l6, l7] (.int x :: st) M Q = wp F_Md_numberOf 27 [l0, l1, l2, l3, clr l4, .int x, l6, l7] st M Q) := ⟨fun _ _ _ _ _ _ _ _ _ _ _ => wp_lconst d_Md_numberOf_22 (by decide), fun _ _ _ _ _ _ _ _ _ _ _ _ => wp_in d_Md_numberOf_23 rfl rfl, fun _ _ _ _ _ _ _ _ _ _ _ => wp_iconst d_Md_numberOf_24 (by decide), fun _ _ _ _ _ _ _ _ _ _ _ _ => wp_in d_Md_numberOf_25 rfl rfl⟩
theorem B_Md_numberOf_27 : (∀ (l0 l1 l2 l3 l4 l6 l7 : Value) (x : Int32) (st : List Value) (M : Mm) (Q : Option Value → Mm → Prop), wp F_Md_numberOf 27 [l0, l1, l2, l3, l4, .int x, l6, l7] st M Q = wp F_Md_numberOf 29 [l0, l1, l2, l3, l4, .int x, l6, l7] (.int x :: st) M Q) ∧
  (∀ (l0 l1 l3 l4 l5 l6 l7 : Value) (x : Int32) (st : List Value) (M : Mm) (Q : Option Value → Mm → Prop), wp F_Md_numberOf 29 [l0, l1, .int x, l3, l4, l5, l6, l7] st M Q = wp F_Md_numberOf 30 [l0, l1, .int x, l3, l4, l5, l6, l7] (.int x :: st) M Q) ∧
  (∀ (l0 l1 l2 l3 l4 l5 l6 l7 : Value) (x y : Int32) (st : List Value) (M : Mm) (Q : Option Value → Mm → Prop), wp F_Md_numberOf 30 [l0, l1, l2, l3, l4, l5, l6, l7] (.int y :: .int x :: st) M Q = if y ≤ x then wp F_Md_numberOf 55 [l0, l1, l2, l3, l4, l5, l6, l7] st M Q else wp F_Md_numberOf 33 [l0, l1, l2, l3, l4, l5, l6, l7] st M Q) ∧
  (∀ (l0 l1 l2 l4 l5 l6 l7 : Value) (x : Int64) (st : List Value) (M : Mm) (Q : Option Value → Mm → Prop), wp F_Md_numberOf 33 [l0, l1, l2, .long x, l4, l5, l6, l7] st M Q = wp F_Md_numberOf 34 [l0, l1, l2, .long x, l4, l5, l6, l7] (.long x :: st) M Q) ∧
  (∀ (l1 l2 l3 l4 l5 l6 l7 : Value) (x : Nat) (st : List Value) (M : Mm) (Q : Option Value → Mm → Prop), wp F_Md_numberOf 34 [.ref x, l1, l2, l3, l4, l5, l6, l7] st M Q = wp F_Md_numberOf 35 [.ref x, l1, l2, l3, l4, l5, l6, l7] (.ref x :: st) M Q) ∧
  (∀ (l0 l1 l2 l3 l4 l5 l6 l7 : Value) (a : Nat) (st : List Value) (M : Mm) (Q : Option Value → Mm → Prop), wp F_Md_numberOf 35 [l0, l1, l2, l3, l4, l5, l6, l7] (.ref a :: st) M Q = (sh M a = some (.inl 12) ∧ wp F_Md_numberOf 38 [l0, l1, l2, l3, l4, l5, l6, l7] (va_rf (gR M a 49) :: st) M Q)) ∧
  (∀ (l0 l1 l2 l3 l4 l5 l6 l7 : Value) (st : List Value) (M : Mm) (Q : Option Value → Mm → Prop), wp F_Md_numberOf 38 [l0, l1, l2, l3, l4, l5, l6, l7] st M Q = wp F_Md_numberOf 41 [l0, l1, l2, l3, l4, l5, l6, l7] (.int 12001 :: st) M Q) ∧
  (∀ (l0 l1 l2 l3 l4 l6 l7 : Value) (x : Int32) (st : List Value) (M : Mm) (Q : Option Value → Mm → Prop), wp F_Md_numberOf 41 [l0, l1, l2, l3, l4, .int x, l6, l7] st M Q = wp F_Md_numberOf 43 [l0, l1, l2, l3, l4, .int x, l6, l7] (.int x :: st) M Q) ∧
  (∀ (l0 l1 l2 l3 l4 l5 l6 l7 : Value) (x y : Int32) (st : List Value) (M : Mm) (Q : Option Value → Mm → Prop), wp F_Md_numberOf 43 [l0, l1, l2, l3, l4, l5, l6, l7] (.int y :: .int x :: st) M Q = wp F_Md_numberOf 44 [l0, l1, l2, l3, l4, l5, l6, l7] (.int (x * y) :: st) M Q) ∧
  (∀ (l0 l1 l2 l3 l4 l5 l6 l7 : Value) (a : Nat) (j : Int32) (st : List Value) (M : Mm) (Q : Option Value → Mm → Prop), wp F_Md_numberOf 44 [l0, l1, l2, l3, l4, l5, l6, l7] (.int j :: .ref a :: st) M Q = (ixJ M a j ∧ wp F_Md_numberOf 45 [l0, l1, l2, l3, l4, l5, l6, l7] (.long (gJ M a (cl j)) :: st) M Q)) ∧
  (∀ (l0 l1 l2 l3 l4 l5 l6 l7 : Value) (p0 : Int64) (p1 : Int64) (M : Mm) (Q : Option Value → Mm → Prop), wp F_Md_numberOf 45 [l0, l1, l2, l3, l4, l5, l6, l7] [.long p1, .long p0] M Q = wp F_Md_sum 0 [.long p0, jk, .long p1, jk] [] M (fun r M1 => wp F_Md_numberOf 48 [l0, l1, l2, l3, l4, l5, l6, l7] (r.toList ++ []) M1 Q)) ∧
  (∀ (l0 l1 l2 l3 l4 l5 l6 l7 : Value) (x : Int64) (st : List Value) (M : Mm) (Q : Option Value → Mm → Prop), wp F_Md_numberOf 48 [l0, l1, l2, l3, l4, l5, l6, l7] (.long x :: st) M Q = wp F_Md_numberOf 49 [l0, l1, clr l2, .long x, jk, l5, l6, l7] st M Q) ∧
  (∀ (l0 l1 l2 l3 l4 l6 l7 : Value) (x : Int32) (st : List Value) (M : Mm) (Q : Option Value → Mm → Prop), wp F_Md_numberOf 49 [l0, l1, l2, l3, l4, .int x, l6, l7] st M Q = wp F_Md_numberOf 52 [l0, l1, l2, l3, clr l4, .int (x + 1), l6, l7] st M Q) := ⟨fun _ _ _ _ _ _ _ _ _ _ _ => wp_in d_Md_numberOf_27 rfl rfl, fun _ _ _ _ _ _ _ _ _ _ _ => wp_in d_Md_numberOf_29 rfl rfl, fun _ _ _ _ _ _ _ _ _ _ _ _ _ => wp_icmp_ge d_Md_numberOf_30 rfl, fun _ _ _ _ _ _ _ _ _ _ _ => wp_in d_Md_numberOf_33 rfl rfl, fun _ _ _ _ _ _ _ _ _ _ _ => wp_in d_Md_numberOf_34 rfl rfl, fun _ _ _ _ _ _ _ _ _ _ _ _ => wp_getA d_Md_numberOf_35 fl_12_192 rfl, fun _ _ _ _ _ _ _ _ _ _ _ => wp_sipush d_Md_numberOf_38 (by decide), fun _ _ _ _ _ _ _ _ _ _ _ => wp_in d_Md_numberOf_41 rfl rfl, fun _ _ _ _ _ _ _ _ _ _ _ _ _ => wp_in d_Md_numberOf_43 rfl rfl, fun _ _ _ _ _ _ _ _ _ _ _ _ _ => wp_lald d_Md_numberOf_44, fun _ _ _ _ _ _ _ _ _ _ _ _ => wp_callS d_Md_numberOf_45 ml_12_293 (Nat.le_of_ble_eq_true rfl) rfl rfl rfl, fun _ _ _ _ _ _ _ _ _ _ _ _ => wp_in d_Md_numberOf_48 rfl rfl, fun _ _ _ _ _ _ _ _ _ _ _ => wp_iinc d_Md_numberOf_49 (by decide) rfl rfl⟩
theorem B_Md_numberOf_55 : (∀ (l0 l1 l2 l3 l4 l5 l6 l7 : Value) (st : List Value) (M : Mm) (Q : Option Value → Mm → Prop), wp F_Md_numberOf 55 [l0, l1, l2, l3, l4, l5, l6, l7] st M Q = wp F_Md_numberOf 56 [l0, l1, l2, l3, l4, l5, l6, l7] (.int 0 :: st) M Q) ∧
  (∀ (l0 l1 l2 l3 l4 l5 l6 l7 : Value) (x : Int32) (st : List Value) (M : Mm) (Q : Option Value → Mm → Prop), wp F_Md_numberOf 56 [l0, l1, l2, l3, l4, l5, l6, l7] (.int x :: st) M Q = wp F_Md_numberOf 58 [l0, l1, l2, l3, clr l4, .int x, l6, l7] st M Q) ∧
  (∀ (l0 l1 l2 l3 l4 l5 l6 l7 : Value) (st : List Value) (M : Mm) (Q : Option Value → Mm → Prop), wp F_Md_numberOf 58 [l0, l1, l2, l3, l4, l5, l6, l7] st M Q = wp F_Md_numberOf 59 [l0, l1, l2, l3, l4, l5, l6, l7] (.int 0 :: st) M Q) ∧
  (∀ (l0 l1 l2 l3 l4 l5 l6 l7 : Value) (x : Int32) (st : List Value) (M : Mm) (Q : Option Value → Mm → Prop), wp F_Md_numberOf 59 [l0, l1, l2, l3, l4, l5, l6, l7] (.int x :: st) M Q = wp F_Md_numberOf 61 [l0, l1, l2, l3, l4, clr l5, .int x, l7] st M Q) := ⟨fun _ _ _ _ _ _ _ _ _ _ _ => wp_iconst d_Md_numberOf_55 (by decide), fun _ _ _ _ _ _ _ _ _ _ _ _ => wp_in d_Md_numberOf_56 rfl rfl, fun _ _ _ _ _ _ _ _ _ _ _ => wp_iconst d_Md_numberOf_58 (by decide), fun _ _ _ _ _ _ _ _ _ _ _ _ => wp_in d_Md_numberOf_59 rfl rfl⟩
theorem B_Md_numberOf_61 : (∀ (l0 l1 l2 l3 l4 l5 l7 : Value) (x : Int32) (st : List Value) (M : Mm) (Q : Option Value → Mm → Prop), wp F_Md_numberOf 61 [l0, l1, l2, l3, l4, l5, .int x, l7] st M Q = wp F_Md_numberOf 63 [l0, l1, l2, l3, l4, l5, .int x, l7] (.int x :: st) M Q) ∧
  (∀ (l0 l1 l3 l4 l5 l6 l7 : Value) (x : Int32) (st : List Value) (M : Mm) (Q : Option Value → Mm → Prop), wp F_Md_numberOf 63 [l0, l1, .int x, l3, l4, l5, l6, l7] st M Q = wp F_Md_numberOf 64 [l0, l1, .int x, l3, l4, l5, l6, l7] (.int x :: st) M Q) ∧
  (∀ (l0 l1 l2 l3 l4 l5 l6 l7 : Value) (x y : Int32) (st : List Value) (M : Mm) (Q : Option Value → Mm → Prop), wp F_Md_numberOf 64 [l0, l1, l2, l3, l4, l5, l6, l7] (.int y :: .int x :: st) M Q = if y ≤ x then wp F_Md_numberOf 148 [l0, l1, l2, l3, l4, l5, l6, l7] st M Q else wp F_Md_numberOf 67 [l0, l1, l2, l3, l4, l5, l6, l7] st M Q) ∧
  (∀ (l0 l1 l2 l3 l4 l5 l6 l7 : Value) (st : List Value) (M : Mm) (Q : Option Value → Mm → Prop), wp F_Md_numberOf 67 [l0, l1, l2, l3, l4, l5, l6, l7] st M Q = wp F_Md_numberOf 68 [l0, l1, l2, l3, l4, l5, l6, l7] (.int 0 :: st) M Q) ∧
  (∀ (l0 l1 l2 l3 l4 l5 l6 l7 : Value) (x : Int32) (st : List Value) (M : Mm) (Q : Option Value → Mm → Prop), wp F_Md_numberOf 68 [l0, l1, l2, l3, l4, l5, l6, l7] (.int x :: st) M Q = wp F_Md_numberOf 70 [l0, l1, l2, l3, l4, l5, clr l6, .int x] st M Q) := ⟨fun _ _ _ _ _ _ _ _ _ _ _ => wp_in d_Md_numberOf_61 rfl rfl, fun _ _ _ _ _ _ _ _ _ _ _ => wp_in d_Md_numberOf_63 rfl rfl, fun _ _ _ _ _ _ _ _ _ _ _ _ _ => wp_icmp_ge d_Md_numberOf_64 rfl, fun _ _ _ _ _ _ _ _ _ _ _ => wp_iconst d_Md_numberOf_67 (by decide), fun _ _ _ _ _ _ _ _ _ _ _ _ => wp_in d_Md_numberOf_68 rfl rfl⟩
theorem B_Md_numberOf_70 : (∀ (l0 l1 l2 l3 l4 l5 l6 : Value) (x : Int32) (st : List Value) (M : Mm) (Q : Option Value → Mm → Prop), wp F_Md_numberOf 70 [l0, l1, l2, l3, l4, l5, l6, .int x] st M Q = wp F_Md_numberOf 72 [l0, l1, l2, l3, l4, l5, l6, .int x] (.int x :: st) M Q) ∧
  (∀ (l1 l2 l3 l4 l5 l6 l7 : Value) (x : Nat) (st : List Value) (M : Mm) (Q : Option Value → Mm → Prop), wp F_Md_numberOf 72 [.ref x, l1, l2, l3, l4, l5, l6, l7] st M Q = wp F_Md_numberOf 73 [.ref x, l1, l2, l3, l4, l5, l6, l7] (.ref x :: st) M Q) ∧
  (∀ (l0 l1 l2 l3 l4 l5 l6 l7 : Value) (a : Nat) (st : List Value) (M : Mm) (Q : Option Value → Mm → Prop), wp F_Md_numberOf 73 [l0, l1, l2, l3, l4, l5, l6, l7] (.ref a :: st) M Q = (sh M a = some (.inl 12) ∧ wp F_Md_numberOf 76 [l0, l1, l2, l3, l4, l5, l6, l7] (va_rf (gR M a 29) :: st) M Q)) ∧
  (∀ (l0 l1 l2 l3 l4 l5 l7 : Value) (x : Int32) (st : List Value) (M : Mm) (Q : Option Value → Mm → Prop), wp F_Md_numberOf 76 [l0, l1, l2, l3, l4, l5, .int x, l7] st M Q = wp F_Md_numberOf 78 [l0, l1, l2, l3, l4, l5, .int x, l7] (.int x :: st) M Q) ∧
  (∀ (l0 l1 l2 l3 l4 l5 l6 l7 : Value) (a : Nat) (j : Int32) (st : List Value) (M : Mm) (Q : Option Value → Mm → Prop), wp F_Md_numberOf 78 [l0, l1, l2, l3, l4, l5, l6, l7] (.int j :: .ref a :: st) M Q = (ixI M a j ∧ wp F_Md_numberOf 79 [l0, l1, l2, l3, l4, l5, l6, l7] (.int (gI M a (cl j)) :: st) M Q)) ∧
  (∀ (l0 l1 l2 l3 l4 l5 l6 l7 : Value) (x y : Int32) (st : List Value) (M : Mm) (Q : Option Value → Mm → Prop), wp F_Md_numberOf 79 [l0, l1, l2, l3, l4, l5, l6, l7] (.int y :: .int x :: st) M Q = if y ≤ x then wp F_Md_numberOf 122 [l0, l1, l2, l3, l4, l5, l6, l7] st M Q else wp F_Md_numberOf 82 [l0, l1, l2, l3, l4, l5, l6, l7] st M Q) ∧
  (∀ (l0 l1 l2 l4 l5 l6 l7 : Value) (x : Int64) (st : List Value) (M : Mm) (Q : Option Value → Mm → Prop), wp F_Md_numberOf 82 [l0, l1, l2, .long x, l4, l5, l6, l7] st M Q = wp F_Md_numberOf 83 [l0, l1, l2, .long x, l4, l5, l6, l7] (.long x :: st) M Q) ∧
  (∀ (l1 l2 l3 l4 l5 l6 l7 : Value) (x : Nat) (st : List Value) (M : Mm) (Q : Option Value → Mm → Prop), wp F_Md_numberOf 83 [.ref x, l1, l2, l3, l4, l5, l6, l7] st M Q = wp F_Md_numberOf 84 [.ref x, l1, l2, l3, l4, l5, l6, l7] (.ref x :: st) M Q) ∧
  (∀ (l0 l1 l2 l3 l4 l5 l6 l7 : Value) (a : Nat) (st : List Value) (M : Mm) (Q : Option Value → Mm → Prop), wp F_Md_numberOf 84 [l0, l1, l2, l3, l4, l5, l6, l7] (.ref a :: st) M Q = (sh M a = some (.inl 12) ∧ wp F_Md_numberOf 87 [l0, l1, l2, l3, l4, l5, l6, l7] (va_rf (gR M a 49) :: st) M Q)) ∧
  (∀ (l0 l1 l2 l3 l4 l5 l6 l7 : Value) (st : List Value) (M : Mm) (Q : Option Value → Mm → Prop), wp F_Md_numberOf 87 [l0, l1, l2, l3, l4, l5, l6, l7] st M Q = wp F_Md_numberOf 90 [l0, l1, l2, l3, l4, l5, l6, l7] (.int 12001 :: st) M Q) ∧
  (∀ (l0 l1 l3 l4 l5 l6 l7 : Value) (x : Int32) (st : List Value) (M : Mm) (Q : Option Value → Mm → Prop), wp F_Md_numberOf 90 [l0, l1, .int x, l3, l4, l5, l6, l7] st M Q = wp F_Md_numberOf 91 [l0, l1, .int x, l3, l4, l5, l6, l7] (.int x :: st) M Q) ∧
  (∀ (l0 l1 l2 l3 l4 l5 l7 : Value) (x : Int32) (st : List Value) (M : Mm) (Q : Option Value → Mm → Prop), wp F_Md_numberOf 91 [l0, l1, l2, l3, l4, l5, .int x, l7] st M Q = wp F_Md_numberOf 93 [l0, l1, l2, l3, l4, l5, .int x, l7] (.int x :: st) M Q) ∧
  (∀ (l0 l1 l2 l3 l4 l5 l6 l7 : Value) (x y : Int32) (st : List Value) (M : Mm) (Q : Option Value → Mm → Prop), wp F_Md_numberOf 93 [l0, l1, l2, l3, l4, l5, l6, l7] (.int y :: .int x :: st) M Q = wp F_Md_numberOf 94 [l0, l1, l2, l3, l4, l5, l6, l7] (.int (x - y) :: st) M Q) ∧
  (∀ (l0 l1 l2 l3 l4 l5 l6 l7 : Value) (st : List Value) (M : Mm) (Q : Option Value → Mm → Prop), wp F_Md_numberOf 94 [l0, l1, l2, l3, l4, l5, l6, l7] st M Q = wp F_Md_numberOf 95 [l0, l1, l2, l3, l4, l5, l6, l7] (.int 1 :: st) M Q) ∧
  (∀ (l0 l1 l2 l3 l4 l5 l6 l7 : Value) (x y : Int32) (st : List Value) (M : Mm) (Q : Option Value → Mm → Prop), wp F_Md_numberOf 95 [l0, l1, l2, l3, l4, l5, l6, l7] (.int y :: .int x :: st) M Q = wp F_Md_numberOf 96 [l0, l1, l2, l3, l4, l5, l6, l7] (.int (x - y) :: st) M Q) ∧
  (∀ (l0 l1 l2 l3 l4 l5 l6 l7 : Value) (x y : Int32) (st : List Value) (M : Mm) (Q : Option Value → Mm → Prop), wp F_Md_numberOf 96 [l0, l1, l2, l3, l4, l5, l6, l7] (.int y :: .int x :: st) M Q = wp F_Md_numberOf 97 [l0, l1, l2, l3, l4, l5, l6, l7] (.int (x * y) :: st) M Q) ∧
  (∀ (l1 l2 l3 l4 l5 l6 l7 : Value) (x : Nat) (st : List Value) (M : Mm) (Q : Option Value → Mm → Prop), wp F_Md_numberOf 97 [.ref x, l1, l2, l3, l4, l5, l6, l7] st M Q = wp F_Md_numberOf 98 [.ref x, l1, l2, l3, l4, l5, l6, l7] (.ref x :: st) M Q) ∧
  (∀ (l0 l1 l2 l3 l4 l5 l6 l7 : Value) (a : Nat) (st : List Value) (M : Mm) (Q : Option Value → Mm → Prop), wp F_Md_numberOf 98 [l0, l1, l2, l3, l4, l5, l6, l7] (.ref a :: st) M Q = (sh M a = some (.inl 12) ∧ wp F_Md_numberOf 101 [l0, l1, l2, l3, l4, l5, l6, l7] (va_rf (gR M a 44) :: st) M Q)) ∧
  (∀ (l0 l1 l2 l3 l4 l5 l6 l7 : Value) (st : List Value) (M : Mm) (Q : Option Value → Mm → Prop), wp F_Md_numberOf 101 [l0, l1, l2, l3, l4, l5, l6, l7] st M Q = wp F_Md_numberOf 103 [l0, l1, l2, l3, l4, l5, l6, l7] (.int 8 :: st) M Q) ∧
  (∀ (l0 l1 l2 l3 l4 l6 l7 : Value) (x : Int32) (st : List Value) (M : Mm) (Q : Option Value → Mm → Prop), wp F_Md_numberOf 103 [l0, l1, l2, l3, l4, .int x, l6, l7] st M Q = wp F_Md_numberOf 105 [l0, l1, l2, l3, l4, .int x, l6, l7] (.int x :: st) M Q) ∧
  (∀ (l0 l1 l2 l3 l4 l5 l6 l7 : Value) (x y : Int32) (st : List Value) (M : Mm) (Q : Option Value → Mm → Prop), wp F_Md_numberOf 105 [l0, l1, l2, l3, l4, l5, l6, l7] (.int y :: .int x :: st) M Q = wp F_Md_numberOf 106 [l0, l1, l2, l3, l4, l5, l6, l7] (.int (x * y) :: st) M Q) ∧
  (∀ (l0 l1 l2 l3 l4 l5 l6 : Value) (x : Int32) (st : List Value) (M : Mm) (Q : Option Value → Mm → Prop), wp F_Md_numberOf 106 [l0, l1, l2, l3, l4, l5, l6, .int x] st M Q = wp F_Md_numberOf 108 [l0, l1, l2, l3, l4, l5, l6, .int x] (.int x :: st) M Q) ∧
  (∀ (l0 l1 l2 l3 l4 l5 l6 l7 : Value) (x y : Int32) (st : List Value) (M : Mm) (Q : Option Value → Mm → Prop), wp F_Md_numberOf 108 [l0, l1, l2, l3, l4, l5, l6, l7] (.int y :: .int x :: st) M Q = wp F_Md_numberOf 109 [l0, l1, l2, l3, l4, l5, l6, l7] (.int (x + y) :: st) M Q) ∧
  (∀ (l0 l1 l2 l3 l4 l5 l6 l7 : Value) (a : Nat) (j : Int32) (st : List Value) (M : Mm) (Q : Option Value → Mm → Prop), wp F_Md_numberOf 109 [l0, l1, l2, l3, l4, l5, l6, l7] (.int j :: .ref a :: st) M Q = (ixI M a j ∧ wp F_Md_numberOf 110 [l0, l1, l2, l3, l4, l5, l6, l7] (.int (gI M a (cl j)) :: st) M Q)) ∧
  (∀ (l0 l1 l2 l3 l4 l5 l6 l7 : Value) (x y : Int32) (st : List Value) (M : Mm) (Q : Option Value → Mm → Prop), wp F_Md_numberOf 110 [l0, l1, l2, l3, l4, l5, l6, l7] (.int y :: .int x :: st) M Q = wp F_Md_numberOf 111 [l0, l1, l2, l3, l4, l5, l6, l7] (.int (x + y) :: st) M Q) ∧
  (∀ (l0 l1 l2 l3 l4 l5 l6 l7 : Value) (a : Nat) (j : Int32) (st : List Value) (M : Mm) (Q : Option Value → Mm → Prop), wp F_Md_numberOf 111 [l0, l1, l2, l3, l4, l5, l6, l7] (.int j :: .ref a :: st) M Q = (ixJ M a j ∧ wp F_Md_numberOf 112 [l0, l1, l2, l3, l4, l5, l6, l7] (.long (gJ M a (cl j)) :: st) M Q)) ∧
  (∀ (l0 l1 l2 l3 l4 l5 l6 l7 : Value) (p0 : Int64) (p1 : Int64) (M : Mm) (Q : Option Value → Mm → Prop), wp F_Md_numberOf 112 [l0, l1, l2, l3, l4, l5, l6, l7] [.long p1, .long p0] M Q = wp F_Md_sum 0 [.long p0, jk, .long p1, jk] [] M (fun r M1 => wp F_Md_numberOf 115 [l0, l1, l2, l3, l4, l5, l6, l7] (r.toList ++ []) M1 Q)) ∧
  (∀ (l0 l1 l2 l3 l4 l5 l6 l7 : Value) (x : Int64) (st : List Value) (M : Mm) (Q : Option Value → Mm → Prop), wp F_Md_numberOf 115 [l0, l1, l2, l3, l4, l5, l6, l7] (.long x :: st) M Q = wp F_Md_numberOf 116 [l0, l1, clr l2, .long x, jk, l5, l6, l7] st M Q) ∧
  (∀ (l0 l1 l2 l3 l4 l5 l6 : Value) (x : Int32) (st : List Value) (M : Mm) (Q : Option Value → Mm → Prop), wp F_Md_numberOf 116 [l0, l1, l2, l3, l4, l5, l6, .int x] st M Q = wp F_Md_numberOf 119 [l0, l1, l2, l3, l4, l5, clr l6, .int (x + 1)] st M Q) := ⟨fun _ _ _ _ _ _ _ _ _ _ _ => wp_in d_Md_numberOf_70 rfl rfl, fun _ _ _ _ _ _ _ _ _ _ _ => wp_in d_Md_numberOf_72 rfl rfl, fun _ _ _ _ _ _ _ _ _ _ _ _ => wp_getA d_Md_numberOf_73 fl_12_157 rfl, fun _ _ _ _ _ _ _ _ _ _ _ => wp_in d_Md_numberOf_76 rfl rfl, fun _ _ _ _ _ _ _ _ _ _ _ _ _ => wp_iald d_Md_numberOf_78, fun _ _ _ _ _ _ _ _ _ _ _ _ _ => wp_icmp_ge d_Md_numberOf_79 rfl, fun _ _ _ _ _ _ _ _ _ _ _ => wp_in d_Md_numberOf_82 rfl rfl, fun _ _ _ _ _ _ _ _ _ _ _ => wp_in d_Md_numberOf_83 rfl rfl, fun _ _ _ _ _ _ _ _ _ _ _ _ => wp_getA d_Md_numberOf_84 fl_12_192 rfl, fun _ _ _ _ _ _ _ _ _ _ _ => wp_sipush d_Md_numberOf_87 (by decide), fun _ _ _ _ _ _ _ _ _ _ _ => wp_in d_Md_numberOf_90 rfl rfl, fun _ _ _ _ _ _ _ _ _ _ _ => wp_in d_Md_numberOf_91 rfl rfl, fun _ _ _ _ _ _ _ _ _ _ _ _ _ => wp_in d_Md_numberOf_93 rfl rfl, fun _ _ _ _ _ _ _ _ _ _ _ => wp_iconst d_Md_numberOf_94 (by decide), fun _ _ _ _ _ _ _ _ _ _ _ _ _ => wp_in d_Md_numberOf_95 rfl rfl, fun _ _ _ _ _ _ _ _ _ _ _ _ _ => wp_in d_Md_numberOf_96 rfl rfl, fun _ _ _ _ _ _ _ _ _ _ _ => wp_in d_Md_numberOf_97 rfl rfl, fun _ _ _ _ _ _ _ _ _ _ _ _ => wp_getA d_Md_numberOf_98 fl_12_176 rfl, fun _ _ _ _ _ _ _ _ _ _ _ => wp_bipush d_Md_numberOf_101 (by decide), fun _ _ _ _ _ _ _ _ _ _ _ => wp_in d_Md_numberOf_103 rfl rfl, fun _ _ _ _ _ _ _ _ _ _ _ _ _ => wp_in d_Md_numberOf_105 rfl rfl, fun _ _ _ _ _ _ _ _ _ _ _ => wp_in d_Md_numberOf_106 rfl rfl, fun _ _ _ _ _ _ _ _ _ _ _ _ _ => wp_in d_Md_numberOf_108 rfl rfl, fun _ _ _ _ _ _ _ _ _ _ _ _ _ => wp_iald d_Md_numberOf_109, fun _ _ _ _ _ _ _ _ _ _ _ _ _ => wp_in d_Md_numberOf_110 rfl rfl, fun _ _ _ _ _ _ _ _ _ _ _ _ _ => wp_lald d_Md_numberOf_111, fun _ _ _ _ _ _ _ _ _ _ _ _ => wp_callS d_Md_numberOf_112 ml_12_293 (Nat.le_of_ble_eq_true rfl) rfl rfl rfl, fun _ _ _ _ _ _ _ _ _ _ _ _ => wp_in d_Md_numberOf_115 rfl rfl, fun _ _ _ _ _ _ _ _ _ _ _ => wp_iinc d_Md_numberOf_116 (by decide) rfl rfl⟩
theorem B_Md_numberOf_122 : (∀ (l1 l2 l3 l4 l5 l6 l7 : Value) (x : Nat) (st : List Value) (M : Mm) (Q : Option Value → Mm → Prop), wp F_Md_numberOf 122 [.ref x, l1, l2, l3, l4, l5, l6, l7] st M Q = wp F_Md_numberOf 123 [.ref x, l1, l2, l3, l4, l5, l6, l7] (.ref x :: st) M Q) ∧
  (∀ (l0 l1 l2 l3 l4 l5 l6 l7 : Value) (a : Nat) (st : List Value) (M : Mm) (Q : Option Value → Mm → Prop), wp F_Md_numberOf 123 [l0, l1, l2, l3, l4, l5, l6, l7] (.ref a :: st) M Q = (sh M a = some (.inl 12) ∧ wp F_Md_numberOf 126 [l0, l1, l2, l3, l4, l5, l6, l7] (va_rf (gR M a 44) :: st) M Q)) ∧
  (∀ (l0 l1 l2 l3 l4 l5 l6 l7 : Value) (st : List Value) (M : Mm) (Q : Option Value → Mm → Prop), wp F_Md_numberOf 126 [l0, l1, l2, l3, l4, l5, l6, l7] st M Q = wp F_Md_numberOf 128 [l0, l1, l2, l3, l4, l5, l6, l7] (.int 8 :: st) M Q) ∧
  (∀ (l0 l1 l2 l3 l4 l6 l7 : Value) (x : Int32) (st : List Value) (M : Mm) (Q : Option Value → Mm → Prop), wp F_Md_numberOf 128 [l0, l1, l2, l3, l4, .int x, l6, l7] st M Q = wp F_Md_numberOf 130 [l0, l1, l2, l3, l4, .int x, l6, l7] (.int x :: st) M Q) ∧
  (∀ (l0 l1 l2 l3 l4 l5 l6 l7 : Value) (x y : Int32) (st : List Value) (M : Mm) (Q : Option Value → Mm → Prop), wp F_Md_numberOf 130 [l0, l1, l2, l3, l4, l5, l6, l7] (.int y :: .int x :: st) M Q = wp F_Md_numberOf 131 [l0, l1, l2, l3, l4, l5, l6, l7] (.int (x * y) :: st) M Q) ∧
  (∀ (l1 l2 l3 l4 l5 l6 l7 : Value) (x : Nat) (st : List Value) (M : Mm) (Q : Option Value → Mm → Prop), wp F_Md_numberOf 131 [.ref x, l1, l2, l3, l4, l5, l6, l7] st M Q = wp F_Md_numberOf 132 [.ref x, l1, l2, l3, l4, l5, l6, l7] (.ref x :: st) M Q) ∧
  (∀ (l0 l1 l2 l3 l4 l5 l6 l7 : Value) (a : Nat) (st : List Value) (M : Mm) (Q : Option Value → Mm → Prop), wp F_Md_numberOf 132 [l0, l1, l2, l3, l4, l5, l6, l7] (.ref a :: st) M Q = (sh M a = some (.inl 12) ∧ wp F_Md_numberOf 135 [l0, l1, l2, l3, l4, l5, l6, l7] (va_rf (gR M a 29) :: st) M Q)) ∧
  (∀ (l0 l1 l2 l3 l4 l5 l7 : Value) (x : Int32) (st : List Value) (M : Mm) (Q : Option Value → Mm → Prop), wp F_Md_numberOf 135 [l0, l1, l2, l3, l4, l5, .int x, l7] st M Q = wp F_Md_numberOf 137 [l0, l1, l2, l3, l4, l5, .int x, l7] (.int x :: st) M Q) ∧
  (∀ (l0 l1 l2 l3 l4 l5 l6 l7 : Value) (a : Nat) (j : Int32) (st : List Value) (M : Mm) (Q : Option Value → Mm → Prop), wp F_Md_numberOf 137 [l0, l1, l2, l3, l4, l5, l6, l7] (.int j :: .ref a :: st) M Q = (ixI M a j ∧ wp F_Md_numberOf 138 [l0, l1, l2, l3, l4, l5, l6, l7] (.int (gI M a (cl j)) :: st) M Q)) ∧
  (∀ (l0 l1 l2 l3 l4 l5 l6 l7 : Value) (x y : Int32) (st : List Value) (M : Mm) (Q : Option Value → Mm → Prop), wp F_Md_numberOf 138 [l0, l1, l2, l3, l4, l5, l6, l7] (.int y :: .int x :: st) M Q = wp F_Md_numberOf 139 [l0, l1, l2, l3, l4, l5, l6, l7] (.int (x + y) :: st) M Q) ∧
  (∀ (l0 l1 l2 l3 l4 l5 l6 l7 : Value) (a : Nat) (j : Int32) (st : List Value) (M : Mm) (Q : Option Value → Mm → Prop), wp F_Md_numberOf 139 [l0, l1, l2, l3, l4, l5, l6, l7] (.int j :: .ref a :: st) M Q = (ixI M a j ∧ wp F_Md_numberOf 140 [l0, l1, l2, l3, l4, l5, l6, l7] (.int (gI M a (cl j)) :: st) M Q)) ∧
  (∀ (l0 l1 l2 l3 l4 l5 l6 l7 : Value) (x : Int32) (st : List Value) (M : Mm) (Q : Option Value → Mm → Prop), wp F_Md_numberOf 140 [l0, l1, l2, l3, l4, l5, l6, l7] (.int x :: st) M Q = wp F_Md_numberOf 142 [l0, l1, l2, l3, clr l4, .int x, l6, l7] st M Q) ∧
  (∀ (l0 l1 l2 l3 l4 l5 l7 : Value) (x : Int32) (st : List Value) (M : Mm) (Q : Option Value → Mm → Prop), wp F_Md_numberOf 142 [l0, l1, l2, l3, l4, l5, .int x, l7] st M Q = wp F_Md_numberOf 145 [l0, l1, l2, l3, l4, clr l5, .int (x + 1), l7] st M Q) := ⟨fun _ _ _ _ _ _ _ _ _ _ _ => wp_in d_Md_numberOf_122 rfl rfl, fun _ _ _ _ _ _ _ _ _ _ _ _ => wp_getA d_Md_numberOf_123 fl_12_176 rfl, fun _ _ _ _ _ _ _ _ _ _ _ => wp_bipush d_Md_numberOf_126 (by decide), fun _ _ _ _ _ _ _ _ _ _ _ => wp_in d_Md_numberOf_128 rfl rfl, fun _ _ _ _ _ _ _ _ _ _ _ _ _ => wp_in d_Md_numberOf_130 rfl rfl, fun _ _ _ _ _ _ _ _ _ _ _ => wp_in d_Md_numberOf_131 rfl rfl, fun _ _ _ _ _ _ _ _ _ _ _ _ => wp_getA d_Md_numberOf_132 fl_12_157 rfl, fun _ _ _ _ _ _ _ _ _ _ _ => wp_in d_Md_numberOf_135 rfl rfl, fun _ _ _ _ _ _ _ _ _ _ _ _ _ => wp_iald d_Md_numberOf_137, fun _ _ _ _ _ _ _ _ _ _ _ _ _ => wp_in d_Md_numberOf_138 rfl rfl, fun _ _ _ _ _ _ _ _ _ _ _ _ _ => wp_iald d_Md_numberOf_139, fun _ _ _ _ _ _ _ _ _ _ _ _ => wp_in d_Md_numberOf_140 rfl rfl, fun _ _ _ _ _ _ _ _ _ _ _ => wp_iinc d_Md_numberOf_142 (by decide) rfl rfl⟩
theorem B_Md_numberOf_148 : (∀ (l0 l1 l2 l4 l5 l6 l7 : Value) (x : Int64) (st : List Value) (M : Mm) (Q : Option Value → Mm → Prop), wp F_Md_numberOf 148 [l0, l1, l2, .long x, l4, l5, l6, l7] st M Q = wp F_Md_numberOf 149 [l0, l1, l2, .long x, l4, l5, l6, l7] (.long x :: st) M Q) ∧
  (∀ (l0 l1 l2 l3 l4 l5 l6 l7 : Value) (st : List Value) (M : Mm) (Q : Option Value → Mm → Prop), wp F_Md_numberOf 149 [l0, l1, l2, l3, l4, l5, l6, l7] st M Q = wp F_Md_numberOf 152 [l0, l1, l2, l3, l4, l5, l6, l7] (.long 2147483647 :: st) M Q) ∧
  (∀ (l0 l1 l2 l3 l4 l5 l6 l7 : Value) (x y : Int64) (st : List Value) (M : Mm) (Q : Option Value → Mm → Prop), wp F_Md_numberOf 152 [l0, l1, l2, l3, l4, l5, l6, l7] (.long y :: .long x :: st) M Q = wp F_Md_numberOf 153 [l0, l1, l2, l3, l4, l5, l6, l7] (.int (lg_cmp x y) :: st) M Q) ∧
  (∀ (l0 l1 l2 l3 l4 l5 l6 l7 : Value) (x : Int32) (st : List Value) (M : Mm) (Q : Option Value → Mm → Prop), wp F_Md_numberOf 153 [l0, l1, l2, l3, l4, l5, l6, l7] (.int x :: st) M Q = if x ≤ 0 then wp F_Md_numberOf 161 [l0, l1, l2, l3, l4, l5, l6, l7] st M Q else wp F_Md_numberOf 156 [l0, l1, l2, l3, l4, l5, l6, l7] st M Q) ∧
  (∀ (l0 l1 l2 l3 l4 l5 l6 l7 : Value) (st : List Value) (M : Mm) (Q : Option Value → Mm → Prop), wp F_Md_numberOf 156 [l0, l1, l2, l3, l4, l5, l6, l7] st M Q = wp F_Md_numberOf 158 [l0, l1, l2, l3, l4, l5, l6, l7] (.int (-4) :: st) M Q) ∧
  (∀ (l0 l1 l2 l3 l4 l5 l6 l7 : Value) (st : List Value) (M : Mm) (Q : Option Value → Mm → Prop), wp F_Md_numberOf 158 [l0, l1, l2, l3, l4, l5, l6, l7] st M Q = wp F_Md_numberOf 163 [l0, l1, l2, l3, l4, l5, l6, l7] st M Q) := ⟨fun _ _ _ _ _ _ _ _ _ _ _ => wp_in d_Md_numberOf_148 rfl rfl, fun _ _ _ _ _ _ _ _ _ _ _ => wp_ldc2 d_Md_numberOf_149 ll_12_335, fun _ _ _ _ _ _ _ _ _ _ _ _ _ => wp_in d_Md_numberOf_152 rfl rfl, fun _ _ _ _ _ _ _ _ _ _ _ _ => wp_if_le d_Md_numberOf_153 rfl, fun _ _ _ _ _ _ _ _ _ _ _ => wp_bipush d_Md_numberOf_156 (by decide), fun _ _ _ _ _ _ _ _ _ _ _ => wp_goto d_Md_numberOf_158 rfl⟩
theorem B_Md_numberOf_161 : (∀ (l0 l1 l2 l4 l5 l6 l7 : Value) (x : Int64) (st : List Value) (M : Mm) (Q : Option Value → Mm → Prop), wp F_Md_numberOf 161 [l0, l1, l2, .long x, l4, l5, l6, l7] st M Q = wp F_Md_numberOf 162 [l0, l1, l2, .long x, l4, l5, l6, l7] (.long x :: st) M Q) ∧
  (∀ (l0 l1 l2 l3 l4 l5 l6 l7 : Value) (x : Int64) (st : List Value) (M : Mm) (Q : Option Value → Mm → Prop), wp F_Md_numberOf 162 [l0, l1, l2, l3, l4, l5, l6, l7] (.long x :: st) M Q = wp F_Md_numberOf 163 [l0, l1, l2, l3, l4, l5, l6, l7] (.int x.toInt32 :: st) M Q) := ⟨fun _ _ _ _ _ _ _ _ _ _ _ => wp_in d_Md_numberOf_161 rfl rfl, fun _ _ _ _ _ _ _ _ _ _ _ _ => wp_in d_Md_numberOf_162 rfl rfl⟩
theorem B_Md_numberOf_163 : (∀ (l0 l1 l2 l3 l4 l5 l6 l7 : Value) (v : Int32) (M : Mm) (Q : Option Value → Mm → Prop), wp F_Md_numberOf 163 [l0, l1, l2, l3, l4, l5, l6, l7] [.int v] M Q = Q (some (.int v)) M) := fun _ _ _ _ _ _ _ _ _ _ _ => wp_retI d_Md_numberOf_163 rfl
theorem G_Md_numberOf_52 (l0 l1 l2 l3 l4 l5 l6 l7 : Value) (st : List Value) (M : Mm) (Q : Option Value → Mm → Prop) : wp F_Md_numberOf 52 [l0, l1, l2, l3, l4, l5, l6, l7] st M Q = wp F_Md_numberOf 27 [l0, l1, l2, l3, l4, l5, l6, l7] st M Q := wp_goto d_Md_numberOf_52 rfl
theorem G_Md_numberOf_119 (l0 l1 l2 l3 l4 l5 l6 l7 : Value) (st : List Value) (M : Mm) (Q : Option Value → Mm → Prop) : wp F_Md_numberOf 119 [l0, l1, l2, l3, l4, l5, l6, l7] st M Q = wp F_Md_numberOf 70 [l0, l1, l2, l3, l4, l5, l6, l7] st M Q := wp_goto d_Md_numberOf_119 rfl
theorem G_Md_numberOf_145 (l0 l1 l2 l3 l4 l5 l6 l7 : Value) (st : List Value) (M : Mm) (Q : Option Value → Mm → Prop) : wp F_Md_numberOf 145 [l0, l1, l2, l3, l4, l5, l6, l7] st M Q = wp F_Md_numberOf 61 [l0, l1, l2, l3, l4, l5, l6, l7] st M Q := wp_goto d_Md_numberOf_145 rfl
theorem d_Md_number_0 : decode (fnB F_Md_number) 0 = .ok (.aload_n 0, 1) := by decide +kernel
theorem d_Md_number_1 : decode (fnB F_Md_number) 1 = .ok (.iconst 0, 1) := by decide +kernel
theorem d_Md_number_2 : decode (fnB F_Md_number) 2 = .ok (.putfield 1, 3) := by decide +kernel
theorem d_Md_number_5 : decode (fnB F_Md_number) 5 = .ok (.iload_n 1, 1) := by decide +kernel
theorem d_Md_number_6 : decode (fnB F_Md_number) 6 = .ok (.invokestatic 126, 3) := by decide +kernel
theorem d_Md_number_9 : decode (fnB F_Md_number) 9 = .ok (.ifCond .ne 6, 3) := by decide +kernel
theorem d_Md_number_12 : decode (fnB F_Md_number) 12 = .ok (.bipush (-2), 2) := by decide +kernel
theorem d_Md_number_14 : decode (fnB F_Md_number) 14 = .ok (.ireturn, 1) := by decide +kernel
theorem d_Md_number_15 : decode (fnB F_Md_number) 15 = .ok (.aload_n 0, 1) := by decide +kernel
theorem d_Md_number_16 : decode (fnB F_Md_number) 16 = .ok (.invokevirtual 261, 3) := by decide +kernel
theorem d_Md_number_19 : decode (fnB F_Md_number) 19 = .ok (.ifCond .ne 8, 3) := by decide +kernel
theorem d_Md_number_22 : decode (fnB F_Md_number) 22 = .ok (.bipush (-3), 2) := by decide +kernel
theorem d_Md_number_24 : decode (fnB F_Md_number) 24 = .ok (.goto 13, 3) := by decide +kernel
theorem d_Md_number_27 : decode (fnB F_Md_number) 27 = .ok (.aload_n 0, 1) := by decide +kernel
theorem d_Md_number_28 : decode (fnB F_Md_number) 28 = .ok (.aload_n 0, 1) := by decide +kernel
theorem d_Md_number_29 : decode (fnB F_Md_number) 29 = .ok (.iload_n 1, 1) := by decide +kernel
theorem d_Md_number_30 : decode (fnB F_Md_number) 30 = .ok (.iconst 0, 1) := by decide +kernel
theorem d_Md_number_31 : decode (fnB F_Md_number) 31 = .ok (.invokevirtual 276, 3) := by decide +kernel
theorem d_Md_number_34 : decode (fnB F_Md_number) 34 = .ok (.invokevirtual 337, 3) := by decide +kernel
theorem d_Md_number_37 : decode (fnB F_Md_number) 37 = .ok (.ireturn, 1) := by decide +kernel
theorem B_Md_number_0 : (∀ (l1 : Value) (x : Nat) (st : List Value) (M : Mm) (Q : Option Value → Mm → Prop), wp F_Md_number 0 [.ref x, l1] st M Q = wp F_Md_number 1 [.ref x, l1] (.ref x :: st) M Q) ∧
  (∀ (l0 l1 : Value) (st : List Value) (M : Mm) (Q : Option Value → Mm → Prop), wp F_Md_number 1 [l0, l1] st M Q = wp F_Md_number 2 [l0, l1] (.int 0 :: st) M Q) ∧
  (∀ (l0 l1 : Value) (a : Nat) (x : Int32) (st : List Value) (M : Mm) (Q : Option Value → Mm → Prop), wp F_Md_number 2 [l0, l1] (.int x :: .ref a :: st) M Q = (sh M a = some (.inl 12) ∧ wp F_Md_number 5 [l0, l1] st (sI M a 0 x) Q)) ∧
  (∀ (l0 : Value) (x : Int32) (st : List Value) (M : Mm) (Q : Option Value → Mm → Prop), wp F_Md_number 5 [l0, .int x] st M Q = wp F_Md_number 6 [l0, .int x] (.int x :: st) M Q) ∧
  (∀ (l0 l1 : Value) (p0 : Int32) (M : Mm) (Q : Option Value → Mm → Prop), wp F_Md_number 6 [l0, l1] [.int p0] M Q = wp F_Md_isSlot 0 [.int p0] [] M (fun r M1 => wp F_Md_number 9 [l0, l1] (r.toList ++ []) M1 Q)) ∧
  (∀ (l0 l1 : Value) (x : Int32) (st : List Value) (M : Mm) (Q : Option Value → Mm → Prop), wp F_Md_number 9 [l0, l1] (.int x :: st) M Q = if x = 0 then wp F_Md_number 12 [l0, l1] st M Q else wp F_Md_number 15 [l0, l1] st M Q) ∧
  (∀ (l0 l1 : Value) (st : List Value) (M : Mm) (Q : Option Value → Mm → Prop), wp F_Md_number 12 [l0, l1] st M Q = wp F_Md_number 14 [l0, l1] (.int (-2) :: st) M Q) ∧
  (∀ (l0 l1 : Value) (v : Int32) (M : Mm) (Q : Option Value → Mm → Prop), wp F_Md_number 14 [l0, l1] [.int v] M Q = Q (some (.int v)) M) := ⟨fun _ _ _ _ _ => wp_in d_Md_number_0 rfl rfl, fun _ _ _ _ _ => wp_iconst d_Md_number_1 (by decide), fun _ _ _ _ _ _ _ => wp_putI d_Md_number_2 fl_12_1 rfl rfl, fun _ _ _ _ _ => wp_in d_Md_number_5 rfl rfl, fun _ _ _ _ _ => wp_callS d_Md_number_6 ml_12_126 (Nat.le_of_ble_eq_true rfl) rfl rfl rfl, fun _ _ _ _ _ _ => wp_if_ne d_Md_number_9 rfl, fun _ _ _ _ _ => wp_bipush d_Md_number_12 (by decide), fun _ _ _ _ _ => wp_retI d_Md_number_14 rfl⟩
theorem B_Md_number_15 : (∀ (l1 : Value) (x : Nat) (st : List Value) (M : Mm) (Q : Option Value → Mm → Prop), wp F_Md_number 15 [.ref x, l1] st M Q = wp F_Md_number 16 [.ref x, l1] (.ref x :: st) M Q) ∧
  (∀ (l0 l1 : Value) (b : Nat) (M : Mm) (Q : Option Value → Mm → Prop), wp F_Md_number 16 [l0, l1] [.ref b] M Q = (sh M b = some (.inl 12) ∧ wp F_Md_isComplete 0 [.ref b] [] M (fun r M1 => wp F_Md_number 19 [l0, l1] (r.toList ++ []) M1 Q))) ∧
  (∀ (l0 l1 : Value) (x : Int32) (st : List Value) (M : Mm) (Q : Option Value → Mm → Prop), wp F_Md_number 19 [l0, l1] (.int x :: st) M Q = if x = 0 then wp F_Md_number 22 [l0, l1] st M Q else wp F_Md_number 27 [l0, l1] st M Q) ∧
  (∀ (l0 l1 : Value) (st : List Value) (M : Mm) (Q : Option Value → Mm → Prop), wp F_Md_number 22 [l0, l1] st M Q = wp F_Md_number 24 [l0, l1] (.int (-3) :: st) M Q) ∧
  (∀ (l0 l1 : Value) (st : List Value) (M : Mm) (Q : Option Value → Mm → Prop), wp F_Md_number 24 [l0, l1] st M Q = wp F_Md_number 37 [l0, l1] st M Q) := ⟨fun _ _ _ _ _ => wp_in d_Md_number_15 rfl rfl, fun _ _ _ _ _ => wp_callV d_Md_number_16 ml_12_261 rfl rfl rfl, fun _ _ _ _ _ _ => wp_if_ne d_Md_number_19 rfl, fun _ _ _ _ _ => wp_bipush d_Md_number_22 (by decide), fun _ _ _ _ _ => wp_goto d_Md_number_24 rfl⟩
theorem B_Md_number_27 : (∀ (l1 : Value) (x : Nat) (st : List Value) (M : Mm) (Q : Option Value → Mm → Prop), wp F_Md_number 27 [.ref x, l1] st M Q = wp F_Md_number 28 [.ref x, l1] (.ref x :: st) M Q) ∧
  (∀ (l1 : Value) (x : Nat) (st : List Value) (M : Mm) (Q : Option Value → Mm → Prop), wp F_Md_number 28 [.ref x, l1] st M Q = wp F_Md_number 29 [.ref x, l1] (.ref x :: st) M Q) ∧
  (∀ (l0 : Value) (x : Int32) (st : List Value) (M : Mm) (Q : Option Value → Mm → Prop), wp F_Md_number 29 [l0, .int x] st M Q = wp F_Md_number 30 [l0, .int x] (.int x :: st) M Q) ∧
  (∀ (l0 l1 : Value) (st : List Value) (M : Mm) (Q : Option Value → Mm → Prop), wp F_Md_number 30 [l0, l1] st M Q = wp F_Md_number 31 [l0, l1] (.int 0 :: st) M Q) ∧
  (∀ (l0 l1 : Value) (b : Nat) (p0 : Int32) (p1 : Int32) (r0 : Value) (M : Mm) (Q : Option Value → Mm → Prop), wp F_Md_number 31 [l0, l1] [.int p1, .int p0, .ref b, r0] M Q = (sh M b = some (.inl 12) ∧ wp F_Md_takeOne 0 [.ref b, .int p0, .int p1, jk] [] M (fun r M1 => wp F_Md_number 34 [l0, l1] (r.toList ++ [r0]) M1 Q))) ∧
  (∀ (l0 l1 : Value) (b : Nat) (p0 : Int32) (M : Mm) (Q : Option Value → Mm → Prop), wp F_Md_number 34 [l0, l1] [.int p0, .ref b] M Q = (sh M b = some (.inl 12) ∧ wp F_Md_numberOf 0 [.ref b, .int p0, jk, jk, jk, jk, jk, jk] [] M (fun r M1 => wp F_Md_number 37 [l0, l1] (r.toList ++ []) M1 Q))) := ⟨fun _ _ _ _ _ => wp_in d_Md_number_27 rfl rfl, fun _ _ _ _ _ => wp_in d_Md_number_28 rfl rfl, fun _ _ _ _ _ => wp_in d_Md_number_29 rfl rfl, fun _ _ _ _ _ => wp_iconst d_Md_number_30 (by decide), fun _ _ _ _ _ _ _ _ => wp_callV d_Md_number_31 ml_12_276 rfl rfl rfl, fun _ _ _ _ _ _ => wp_callV d_Md_number_34 ml_12_337 rfl rfl rfl⟩
theorem B_Md_number_37 : (∀ (l0 l1 : Value) (v : Int32) (M : Mm) (Q : Option Value → Mm → Prop), wp F_Md_number 37 [l0, l1] [.int v] M Q = Q (some (.int v)) M) := fun _ _ _ _ _ => wp_retI d_Md_number_37 rfl
theorem d_Md_productOf_0 : decode (fnB F_Md_productOf) 0 = .ok (.aload_n 0, 1) := by decide +kernel
theorem d_Md_productOf_1 : decode (fnB F_Md_productOf) 1 = .ok (.iload_n 1, 1) := by decide +kernel
theorem d_Md_productOf_2 : decode (fnB F_Md_productOf) 2 = .ok (.aload_n 0, 1) := by decide +kernel
theorem d_Md_productOf_3 : decode (fnB F_Md_productOf) 3 = .ok (.getfield 157, 3) := by decide +kernel
theorem d_Md_productOf_6 : decode (fnB F_Md_productOf) 6 = .ok (.iconst 0, 1) := by decide +kernel
theorem d_Md_productOf_7 : decode (fnB F_Md_productOf) 7 = .ok (.invokevirtual 331, 3) := by decide +kernel
theorem d_Md_productOf_10 : decode (fnB F_Md_productOf) 10 = .ok (.istore_n 3, 1) := by decide +kernel
theorem d_Md_productOf_11 : decode (fnB F_Md_productOf) 11 = .ok (.iload_n 3, 1) := by decide +kernel
theorem d_Md_productOf_12 : decode (fnB F_Md_productOf) 12 = .ok (.iconst (-1), 1) := by decide +kernel
theorem d_Md_productOf_13 : decode (fnB F_Md_productOf) 13 = .ok (.if_icmp .ne 6, 3) := by decide +kernel
theorem d_Md_productOf_16 : decode (fnB F_Md_productOf) 16 = .ok (.bipush (-4), 2) := by decide +kernel
theorem d_Md_productOf_18 : decode (fnB F_Md_productOf) 18 = .ok (.ireturn, 1) := by decide +kernel
theorem d_Md_productOf_19 : decode (fnB F_Md_productOf) 19 = .ok (.aload_n 0, 1) := by decide +kernel
theorem d_Md_productOf_20 : decode (fnB F_Md_productOf) 20 = .ok (.iload_n 2, 1) := by decide +kernel
theorem d_Md_productOf_21 : decode (fnB F_Md_productOf) 21 = .ok (.aload_n 0, 1) := by decide +kernel
theorem d_Md_productOf_22 : decode (fnB F_Md_productOf) 22 = .ok (.getfield 160, 3) := by decide +kernel
theorem d_Md_productOf_25 : decode (fnB F_Md_productOf) 25 = .ok (.iconst 0, 1) := by decide +kernel
theorem d_Md_productOf_26 : decode (fnB F_Md_productOf) 26 = .ok (.invokevirtual 331, 3) := by decide +kernel
theorem d_Md_productOf_29 : decode (fnB F_Md_productOf) 29 = .ok (.istore 4, 2) := by decide +kernel
theorem d_Md_productOf_31 : decode (fnB F_Md_productOf) 31 = .ok (.iload 4, 2) := by decide +kernel
theorem d_Md_productOf_33 : decode (fnB F_Md_productOf) 33 = .ok (.iconst (-1), 1) := by decide +kernel
theorem d_Md_productOf_34 : decode (fnB F_Md_productOf) 34 = .ok (.if_icmp .eq 12, 3) := by decide +kernel
theorem d_Md_productOf_37 : decode (fnB F_Md_productOf) 37 = .ok (.iload_n 3, 1) := by decide +kernel
theorem d_Md_productOf_38 : decode (fnB F_Md_productOf) 38 = .ok (.iload 4, 2) := by decide +kernel
theorem d_Md_productOf_40 : decode (fnB F_Md_productOf) 40 = .ok (.iadd, 1) := by decide +kernel
theorem d_Md_productOf_41 : decode (fnB F_Md_productOf) 41 = .ok (.bipush 80, 2) := by decide +kernel
theorem d_Md_productOf_43 : decode (fnB F_Md_productOf) 43 = .ok (.if_icmp .le 6, 3) := by decide +kernel
theorem d_Md_productOf_46 : decode (fnB F_Md_productOf) 46 = .ok (.bipush (-4), 2) := by decide +kernel
theorem d_Md_productOf_48 : decode (fnB F_Md_productOf) 48 = .ok (.ireturn, 1) := by decide +kernel
theorem d_Md_productOf_49 : decode (fnB F_Md_productOf) 49 = .ok (.iconst 0, 1) := by decide +kernel
theorem d_Md_productOf_50 : decode (fnB F_Md_productOf) 50 = .ok (.istore 5, 2) := by decide +kernel
theorem d_Md_productOf_52 : decode (fnB F_Md_productOf) 52 = .ok (.iload 5, 2) := by decide +kernel
theorem d_Md_productOf_54 : decode (fnB F_Md_productOf) 54 = .ok (.iload 4, 2) := by decide +kernel
theorem d_Md_productOf_56 : decode (fnB F_Md_productOf) 56 = .ok (.if_icmp .ge 25, 3) := by decide +kernel
theorem d_Md_productOf_59 : decode (fnB F_Md_productOf) 59 = .ok (.aload_n 0, 1) := by decide +kernel
theorem d_Md_productOf_60 : decode (fnB F_Md_productOf) 60 = .ok (.getfield 157, 3) := by decide +kernel
theorem d_Md_productOf_63 : decode (fnB F_Md_productOf) 63 = .ok (.iload_n 3, 1) := by decide +kernel
theorem d_Md_productOf_64 : decode (fnB F_Md_productOf) 64 = .ok (.iload 5, 2) := by decide +kernel
theorem d_Md_productOf_66 : decode (fnB F_Md_productOf) 66 = .ok (.iadd, 1) := by decide +kernel
theorem d_Md_productOf_67 : decode (fnB F_Md_productOf) 67 = .ok (.aload_n 0, 1) := by decide +kernel
theorem d_Md_productOf_68 : decode (fnB F_Md_productOf) 68 = .ok (.getfield 160, 3) := by decide +kernel
theorem d_Md_productOf_71 : decode (fnB F_Md_productOf) 71 = .ok (.iload 5, 2) := by decide +kernel
theorem d_Md_productOf_73 : decode (fnB F_Md_productOf) 73 = .ok (.iaload, 1) := by decide +kernel
theorem d_Md_productOf_74 : decode (fnB F_Md_productOf) 74 = .ok (.iastore, 1) := by decide +kernel
theorem d_Md_productOf_75 : decode (fnB F_Md_productOf) 75 = .ok (.iinc 5 1, 3) := by decide +kernel
theorem d_Md_productOf_78 : decode (fnB F_Md_productOf) 78 = .ok (.goto (-26), 3) := by decide +kernel
theorem d_Md_productOf_81 : decode (fnB F_Md_productOf) 81 = .ok (.aload_n 0, 1) := by decide +kernel
theorem d_Md_productOf_82 : decode (fnB F_Md_productOf) 82 = .ok (.iload_n 3, 1) := by decide +kernel
theorem d_Md_productOf_83 : decode (fnB F_Md_productOf) 83 = .ok (.iload 4, 2) := by decide +kernel
theorem d_Md_productOf_85 : decode (fnB F_Md_productOf) 85 = .ok (.iadd, 1) := by decide +kernel
theorem d_Md_productOf_86 : decode (fnB F_Md_productOf) 86 = .ok (.invokevirtual 337, 3) := by decide +kernel
theorem d_Md_productOf_89 : decode (fnB F_Md_productOf) 89 = .ok (.ireturn, 1) := by decide +kernel
theorem B_Md_productOf_0 : (∀ (l1 l2 l3 l4 l5 : Value) (x : Nat) (st : List Value) (M : Mm) (Q : Option Value → Mm → Prop), wp F_Md_productOf 0 [.ref x, l1, l2, l3, l4, l5] st M Q = wp F_Md_productOf 1 [.ref x, l1, l2, l3, l4, l5] (.ref x :: st) M Q) ∧
  (∀ (l0 l2 l3 l4 l5 : Value) (x : Int32) (st : List Value) (M : Mm) (Q : Option Value → Mm → Prop), wp F_Md_productOf 1 [l0, .int x, l2, l3, l4, l5] st M Q = wp F_Md_productOf 2 [l0, .int x, l2, l3, l4, l5] (.int x :: st) M Q) ∧
  (∀ (l1 l2 l3 l4 l5 : Value) (x : Nat) (st : List Value) (M : Mm) (Q : Option Value → Mm → Prop), wp F_Md_productOf 2 [.ref x, l1, l2, l3, l4, l5] st M Q = wp F_Md_productOf 3 [.ref x, l1, l2, l3, l4, l5] (.ref x :: st) M Q) ∧
  (∀ (l0 l1 l2 l3 l4 l5 : Value) (a : Nat) (st : List Value) (M : Mm) (Q : Option Value → Mm → Prop), wp F_Md_productOf 3 [l0, l1, l2, l3, l4, l5] (.ref a :: st) M Q = (sh M a = some (.inl 12) ∧ wp F_Md_productOf 6 [l0, l1, l2, l3, l4, l5] (va_rf (gR M a 29) :: st) M Q)) ∧
  (∀ (l0 l1 l2 l3 l4 l5 : Value) (st : List Value) (M : Mm) (Q : Option Value → Mm → Prop), wp F_Md_productOf 6 [l0, l1, l2, l3, l4, l5] st M Q = wp F_Md_productOf 7 [l0, l1, l2, l3, l4, l5] (.int 0 :: st) M Q) ∧
  (∀ (l0 l1 l2 l3 l4 l5 : Value) (b : Nat) (p0 : Int32) (p1 : Nat) (p2 : Int32) (M : Mm) (Q : Option Value → Mm → Prop), wp F_Md_productOf 7 [l0, l1, l2, l3, l4, l5] [.int p2, .ref p1, .int p0, .ref b] M Q = (sh M b = some (.inl 12) ∧ wp F_Md_layElement 0 [.ref b, .int p0, .ref p1, .int p2, jk, jk, jk, jk, jk, jk] [] M (fun r M1 => wp F_Md_productOf 10 [l0, l1, l2, l3, l4, l5] (r.toList ++ []) M1 Q))) ∧
  (∀ (l0 l1 l2 l3 l4 l5 : Value) (x : Int32) (st : List Value) (M : Mm) (Q : Option Value → Mm → Prop), wp F_Md_productOf 10 [l0, l1, l2, l3, l4, l5] (.int x :: st) M Q = wp F_Md_productOf 11 [l0, l1, clr l2, .int x, l4, l5] st M Q) ∧
  (∀ (l0 l1 l2 l4 l5 : Value) (x : Int32) (st : List Value) (M : Mm) (Q : Option Value → Mm → Prop), wp F_Md_productOf 11 [l0, l1, l2, .int x, l4, l5] st M Q = wp F_Md_productOf 12 [l0, l1, l2, .int x, l4, l5] (.int x :: st) M Q) ∧
  (∀ (l0 l1 l2 l3 l4 l5 : Value) (st : List Value) (M : Mm) (Q : Option Value → Mm → Prop), wp F_Md_productOf 12 [l0, l1, l2, l3, l4, l5] st M Q = wp F_Md_productOf 13 [l0, l1, l2, l3, l4, l5] (.int (-1) :: st) M Q) ∧
  (∀ (l0 l1 l2 l3 l4 l5 : Value) (x y : Int32) (st : List Value) (M : Mm) (Q : Option Value → Mm → Prop), wp F_Md_productOf 13 [l0, l1, l2, l3, l4, l5] (.int y :: .int x :: st) M Q = if x = y then wp F_Md_productOf 16 [l0, l1, l2, l3, l4, l5] st M Q else wp F_Md_productOf 19 [l0, l1, l2, l3, l4, l5] st M Q) ∧
  (∀ (l0 l1 l2 l3 l4 l5 : Value) (st : List Value) (M : Mm) (Q : Option Value → Mm → Prop), wp F_Md_productOf 16 [l0, l1, l2, l3, l4, l5] st M Q = wp F_Md_productOf 18 [l0, l1, l2, l3, l4, l5] (.int (-4) :: st) M Q) ∧
  (∀ (l0 l1 l2 l3 l4 l5 : Value) (v : Int32) (M : Mm) (Q : Option Value → Mm → Prop), wp F_Md_productOf 18 [l0, l1, l2, l3, l4, l5] [.int v] M Q = Q (some (.int v)) M) := ⟨fun _ _ _ _ _ _ _ _ _ => wp_in d_Md_productOf_0 rfl rfl, fun _ _ _ _ _ _ _ _ _ => wp_in d_Md_productOf_1 rfl rfl, fun _ _ _ _ _ _ _ _ _ => wp_in d_Md_productOf_2 rfl rfl, fun _ _ _ _ _ _ _ _ _ _ => wp_getA d_Md_productOf_3 fl_12_157 rfl, fun _ _ _ _ _ _ _ _ _ => wp_iconst d_Md_productOf_6 (by decide), fun _ _ _ _ _ _ _ _ _ _ _ _ => wp_callV d_Md_productOf_7 ml_12_331 rfl rfl rfl, fun _ _ _ _ _ _ _ _ _ _ => wp_in d_Md_productOf_10 rfl rfl, fun _ _ _ _ _ _ _ _ _ => wp_in d_Md_productOf_11 rfl rfl, fun _ _ _ _ _ _ _ _ _ => wp_iconst d_Md_productOf_12 (by decide), fun _ _ _ _ _ _ _ _ _ _ _ => wp_icmp_ne d_Md_productOf_13 rfl, fun _ _ _ _ _ _ _ _ _ => wp_bipush d_Md_productOf_16 (by decide), fun _ _ _ _ _ _ _ _ _ => wp_retI d_Md_productOf_18 rfl⟩
theorem B_Md_productOf_19 : (∀ (l1 l2 l3 l4 l5 : Value) (x : Nat) (st : List Value) (M : Mm) (Q : Option Value → Mm → Prop), wp F_Md_productOf 19 [.ref x, l1, l2, l3, l4, l5] st M Q = wp F_Md_productOf 20 [.ref x, l1, l2, l3, l4, l5] (.ref x :: st) M Q) ∧
  (∀ (l0 l1 l3 l4 l5 : Value) (x : Int32) (st : List Value) (M : Mm) (Q : Option Value → Mm → Prop), wp F_Md_productOf 20 [l0, l1, .int x, l3, l4, l5] st M Q = wp F_Md_productOf 21 [l0, l1, .int x, l3, l4, l5] (.int x :: st) M Q) ∧
  (∀ (l1 l2 l3 l4 l5 : Value) (x : Nat) (st : List Value) (M : Mm) (Q : Option Value → Mm → Prop), wp F_Md_productOf 21 [.ref x, l1, l2, l3, l4, l5] st M Q = wp F_Md_productOf 22 [.ref x, l1, l2, l3, l4, l5] (.ref x :: st) M Q) ∧
  (∀ (l0 l1 l2 l3 l4 l5 : Value) (a : Nat) (st : List Value) (M : Mm) (Q : Option Value → Mm → Prop), wp F_Md_productOf 22 [l0, l1, l2, l3, l4, l5] (.ref a :: st) M Q = (sh M a = some (.inl 12) ∧ wp F_Md_productOf 25 [l0, l1, l2, l3, l4, l5] (va_rf (gR M a 30) :: st) M Q)) ∧
  (∀ (l0 l1 l2 l3 l4 l5 : Value) (st : List Value) (M : Mm) (Q : Option Value → Mm → Prop), wp F_Md_productOf 25 [l0, l1, l2, l3, l4, l5] st M Q = wp F_Md_productOf 26 [l0, l1, l2, l3, l4, l5] (.int 0 :: st) M Q) ∧
  (∀ (l0 l1 l2 l3 l4 l5 : Value) (b : Nat) (p0 : Int32) (p1 : Nat) (p2 : Int32) (M : Mm) (Q : Option Value → Mm → Prop), wp F_Md_productOf 26 [l0, l1, l2, l3, l4, l5] [.int p2, .ref p1, .int p0, .ref b] M Q = (sh M b = some (.inl 12) ∧ wp F_Md_layElement 0 [.ref b, .int p0, .ref p1, .int p2, jk, jk, jk, jk, jk, jk] [] M (fun r M1 => wp F_Md_productOf 29 [l0, l1, l2, l3, l4, l5] (r.toList ++ []) M1 Q))) ∧
  (∀ (l0 l1 l2 l3 l4 l5 : Value) (x : Int32) (st : List Value) (M : Mm) (Q : Option Value → Mm → Prop), wp F_Md_productOf 29 [l0, l1, l2, l3, l4, l5] (.int x :: st) M Q = wp F_Md_productOf 31 [l0, l1, l2, clr l3, .int x, l5] st M Q) ∧
  (∀ (l0 l1 l2 l3 l5 : Value) (x : Int32) (st : List Value) (M : Mm) (Q : Option Value → Mm → Prop), wp F_Md_productOf 31 [l0, l1, l2, l3, .int x, l5] st M Q = wp F_Md_productOf 33 [l0, l1, l2, l3, .int x, l5] (.int x :: st) M Q) ∧
  (∀ (l0 l1 l2 l3 l4 l5 : Value) (st : List Value) (M : Mm) (Q : Option Value → Mm → Prop), wp F_Md_productOf 33 [l0, l1, l2, l3, l4, l5] st M Q = wp F_Md_productOf 34 [l0, l1, l2, l3, l4, l5] (.int (-1) :: st) M Q) ∧
  (∀ (l0 l1 l2 l3 l4 l5 : Value) (x y : Int32) (st : List Value) (M : Mm) (Q : Option Value → Mm → Prop), wp F_Md_productOf 34 [l0, l1, l2, l3, l4, l5] (.int y :: .int x :: st) M Q = if x = y then wp F_Md_productOf 46 [l0, l1, l2, l3, l4, l5] st M Q else wp F_Md_productOf 37 [l0, l1, l2, l3, l4, l5] st M Q) ∧
  (∀ (l0 l1 l2 l4 l5 : Value) (x : Int32) (st : List Value) (M : Mm) (Q : Option Value → Mm → Prop), wp F_Md_productOf 37 [l0, l1, l2, .int x, l4, l5] st M Q = wp F_Md_productOf 38 [l0, l1, l2, .int x, l4, l5] (.int x :: st) M Q) ∧
  (∀ (l0 l1 l2 l3 l5 : Value) (x : Int32) (st : List Value) (M : Mm) (Q : Option Value → Mm → Prop), wp F_Md_productOf 38 [l0, l1, l2, l3, .int x, l5] st M Q = wp F_Md_productOf 40 [l0, l1, l2, l3, .int x, l5] (.int x :: st) M Q) ∧
  (∀ (l0 l1 l2 l3 l4 l5 : Value) (x y : Int32) (st : List Value) (M : Mm) (Q : Option Value → Mm → Prop), wp F_Md_productOf 40 [l0, l1, l2, l3, l4, l5] (.int y :: .int x :: st) M Q = wp F_Md_productOf 41 [l0, l1, l2, l3, l4, l5] (.int (x + y) :: st) M Q) ∧
  (∀ (l0 l1 l2 l3 l4 l5 : Value) (st : List Value) (M : Mm) (Q : Option Value → Mm → Prop), wp F_Md_productOf 41 [l0, l1, l2, l3, l4, l5] st M Q = wp F_Md_productOf 43 [l0, l1, l2, l3, l4, l5] (.int 80 :: st) M Q) ∧
  (∀ (l0 l1 l2 l3 l4 l5 : Value) (x y : Int32) (st : List Value) (M : Mm) (Q : Option Value → Mm → Prop), wp F_Md_productOf 43 [l0, l1, l2, l3, l4, l5] (.int y :: .int x :: st) M Q = if x ≤ y then wp F_Md_productOf 49 [l0, l1, l2, l3, l4, l5] st M Q else wp F_Md_productOf 46 [l0, l1, l2, l3, l4, l5] st M Q) := ⟨fun _ _ _ _ _ _ _ _ _ => wp_in d_Md_productOf_19 rfl rfl, fun _ _ _ _ _ _ _ _ _ => wp_in d_Md_productOf_20 rfl rfl, fun _ _ _ _ _ _ _ _ _ => wp_in d_Md_productOf_21 rfl rfl, fun _ _ _ _ _ _ _ _ _ _ => wp_getA d_Md_productOf_22 fl_12_160 rfl, fun _ _ _ _ _ _ _ _ _ => wp_iconst d_Md_productOf_25 (by decide), fun _ _ _ _ _ _ _ _ _ _ _ _ => wp_callV d_Md_productOf_26 ml_12_331 rfl rfl rfl, fun _ _ _ _ _ _ _ _ _ _ => wp_in d_Md_productOf_29 rfl rfl, fun _ _ _ _ _ _ _ _ _ => wp_in d_Md_productOf_31 rfl rfl, fun _ _ _ _ _ _ _ _ _ => wp_iconst d_Md_productOf_33 (by decide), fun _ _ _ _ _ _ _ _ _ _ _ => wp_icmp_eq d_Md_productOf_34 rfl, fun _ _ _ _ _ _ _ _ _ => wp_in d_Md_productOf_37 rfl rfl, fun _ _ _ _ _ _ _ _ _ => wp_in d_Md_productOf_38 rfl rfl, fun _ _ _ _ _ _ _ _ _ _ _ => wp_in d_Md_productOf_40 rfl rfl, fun _ _ _ _ _ _ _ _ _ => wp_bipush d_Md_productOf_41 (by decide), fun _ _ _ _ _ _ _ _ _ _ _ => wp_icmp_le d_Md_productOf_43 rfl⟩
theorem B_Md_productOf_46 : (∀ (l0 l1 l2 l3 l4 l5 : Value) (st : List Value) (M : Mm) (Q : Option Value → Mm → Prop), wp F_Md_productOf 46 [l0, l1, l2, l3, l4, l5] st M Q = wp F_Md_productOf 48 [l0, l1, l2, l3, l4, l5] (.int (-4) :: st) M Q) ∧
  (∀ (l0 l1 l2 l3 l4 l5 : Value) (v : Int32) (M : Mm) (Q : Option Value → Mm → Prop), wp F_Md_productOf 48 [l0, l1, l2, l3, l4, l5] [.int v] M Q = Q (some (.int v)) M) := ⟨fun _ _ _ _ _ _ _ _ _ => wp_bipush d_Md_productOf_46 (by decide), fun _ _ _ _ _ _ _ _ _ => wp_retI d_Md_productOf_48 rfl⟩
theorem B_Md_productOf_49 : (∀ (l0 l1 l2 l3 l4 l5 : Value) (st : List Value) (M : Mm) (Q : Option Value → Mm → Prop), wp F_Md_productOf 49 [l0, l1, l2, l3, l4, l5] st M Q = wp F_Md_productOf 50 [l0, l1, l2, l3, l4, l5] (.int 0 :: st) M Q) ∧
  (∀ (l0 l1 l2 l3 l4 l5 : Value) (x : Int32) (st : List Value) (M : Mm) (Q : Option Value → Mm → Prop), wp F_Md_productOf 50 [l0, l1, l2, l3, l4, l5] (.int x :: st) M Q = wp F_Md_productOf 52 [l0, l1, l2, l3, clr l4, .int x] st M Q) := ⟨fun _ _ _ _ _ _ _ _ _ => wp_iconst d_Md_productOf_49 (by decide), fun _ _ _ _ _ _ _ _ _ _ => wp_in d_Md_productOf_50 rfl rfl⟩
theorem B_Md_productOf_52 : (∀ (l0 l1 l2 l3 l4 : Value) (x : Int32) (st : List Value) (M : Mm) (Q : Option Value → Mm → Prop), wp F_Md_productOf 52 [l0, l1, l2, l3, l4, .int x] st M Q = wp F_Md_productOf 54 [l0, l1, l2, l3, l4, .int x] (.int x :: st) M Q) ∧
  (∀ (l0 l1 l2 l3 l5 : Value) (x : Int32) (st : List Value) (M : Mm) (Q : Option Value → Mm → Prop), wp F_Md_productOf 54 [l0, l1, l2, l3, .int x, l5] st M Q = wp F_Md_productOf 56 [l0, l1, l2, l3, .int x, l5] (.int x :: st) M Q) ∧
  (∀ (l0 l1 l2 l3 l4 l5 : Value) (x y : Int32) (st : List Value) (M : Mm) (Q : Option Value → Mm → Prop), wp F_Md_productOf 56 [l0, l1, l2, l3, l4, l5] (.int y :: .int x :: st) M Q = if y ≤ x then wp F_Md_productOf 81 [l0, l1, l2, l3, l4, l5] st M Q else wp F_Md_productOf 59 [l0, l1, l2, l3, l4, l5] st M Q) ∧
  (∀ (l1 l2 l3 l4 l5 : Value) (x : Nat) (st : List Value) (M : Mm) (Q : Option Value → Mm → Prop), wp F_Md_productOf 59 [.ref x, l1, l2, l3, l4, l5] st M Q = wp F_Md_productOf 60 [.ref x, l1, l2, l3, l4, l5] (.ref x :: st) M Q) ∧
  (∀ (l0 l1 l2 l3 l4 l5 : Value) (a : Nat) (st : List Value) (M : Mm) (Q : Option Value → Mm → Prop), wp F_Md_productOf 60 [l0, l1, l2, l3, l4, l5] (.ref a :: st) M Q = (sh M a = some (.inl 12) ∧ wp F_Md_productOf 63 [l0, l1, l2, l3, l4, l5] (va_rf (gR M a 29) :: st) M Q)) ∧
  (∀ (l0 l1 l2 l4 l5 : Value) (x : Int32) (st : List Value) (M : Mm) (Q : Option Value → Mm → Prop), wp F_Md_productOf 63 [l0, l1, l2, .int x, l4, l5] st M Q = wp F_Md_productOf 64 [l0, l1, l2, .int x, l4, l5] (.int x :: st) M Q) ∧
  (∀ (l0 l1 l2 l3 l4 : Value) (x : Int32) (st : List Value) (M : Mm) (Q : Option Value → Mm → Prop), wp F_Md_productOf 64 [l0, l1, l2, l3, l4, .int x] st M Q = wp F_Md_productOf 66 [l0, l1, l2, l3, l4, .int x] (.int x :: st) M Q) ∧
  (∀ (l0 l1 l2 l3 l4 l5 : Value) (x y : Int32) (st : List Value) (M : Mm) (Q : Option Value → Mm → Prop), wp F_Md_productOf 66 [l0, l1, l2, l3, l4, l5] (.int y :: .int x :: st) M Q = wp F_Md_productOf 67 [l0, l1, l2, l3, l4, l5] (.int (x + y) :: st) M Q) ∧
  (∀ (l1 l2 l3 l4 l5 : Value) (x : Nat) (st : List Value) (M : Mm) (Q : Option Value → Mm → Prop), wp F_Md_productOf 67 [.ref x, l1, l2, l3, l4, l5] st M Q = wp F_Md_productOf 68 [.ref x, l1, l2, l3, l4, l5] (.ref x :: st) M Q) ∧
  (∀ (l0 l1 l2 l3 l4 l5 : Value) (a : Nat) (st : List Value) (M : Mm) (Q : Option Value → Mm → Prop), wp F_Md_productOf 68 [l0, l1, l2, l3, l4, l5] (.ref a :: st) M Q = (sh M a = some (.inl 12) ∧ wp F_Md_productOf 71 [l0, l1, l2, l3, l4, l5] (va_rf (gR M a 30) :: st) M Q)) ∧
  (∀ (l0 l1 l2 l3 l4 : Value) (x : Int32) (st : List Value) (M : Mm) (Q : Option Value → Mm → Prop), wp F_Md_productOf 71 [l0, l1, l2, l3, l4, .int x] st M Q = wp F_Md_productOf 73 [l0, l1, l2, l3, l4, .int x] (.int x :: st) M Q) ∧
  (∀ (l0 l1 l2 l3 l4 l5 : Value) (a : Nat) (j : Int32) (st : List Value) (M : Mm) (Q : Option Value → Mm → Prop), wp F_Md_productOf 73 [l0, l1, l2, l3, l4, l5] (.int j :: .ref a :: st) M Q = (ixI M a j ∧ wp F_Md_productOf 74 [l0, l1, l2, l3, l4, l5] (.int (gI M a (cl j)) :: st) M Q)) ∧
  (∀ (l0 l1 l2 l3 l4 l5 : Value) (a : Nat) (j x : Int32) (st : List Value) (M : Mm) (Q : Option Value → Mm → Prop), wp F_Md_productOf 74 [l0, l1, l2, l3, l4, l5] (.int x :: .int j :: .ref a :: st) M Q = (ixW M a j ∧ wp F_Md_productOf 75 [l0, l1, l2, l3, l4, l5] st (sI M a (cl j) x) Q)) ∧
  (∀ (l0 l1 l2 l3 l4 : Value) (x : Int32) (st : List Value) (M : Mm) (Q : Option Value → Mm → Prop), wp F_Md_productOf 75 [l0, l1, l2, l3, l4, .int x] st M Q = wp F_Md_productOf 78 [l0, l1, l2, l3, clr l4, .int (x + 1)] st M Q) := ⟨fun _ _ _ _ _ _ _ _ _ => wp_in d_Md_productOf_52 rfl rfl, fun _ _ _ _ _ _ _ _ _ => wp_in d_Md_productOf_54 rfl rfl, fun _ _ _ _ _ _ _ _ _ _ _ => wp_icmp_ge d_Md_productOf_56 rfl, fun _ _ _ _ _ _ _ _ _ => wp_in d_Md_productOf_59 rfl rfl, fun _ _ _ _ _ _ _ _ _ _ => wp_getA d_Md_productOf_60 fl_12_157 rfl, fun _ _ _ _ _ _ _ _ _ => wp_in d_Md_productOf_63 rfl rfl, fun _ _ _ _ _ _ _ _ _ => wp_in d_Md_productOf_64 rfl rfl, fun _ _ _ _ _ _ _ _ _ _ _ => wp_in d_Md_productOf_66 rfl rfl, fun _ _ _ _ _ _ _ _ _ => wp_in d_Md_productOf_67 rfl rfl, fun _ _ _ _ _ _ _ _ _ _ => wp_getA d_Md_productOf_68 fl_12_160 rfl, fun _ _ _ _ _ _ _ _ _ => wp_in d_Md_productOf_71 rfl rfl, fun _ _ _ _ _ _ _ _ _ _ _ => wp_iald d_Md_productOf_73, fun _ _ _ _ _ _ _ _ _ _ _ _ => wp_iast d_Md_productOf_74, fun _ _ _ _ _ _ _ _ _ => wp_iinc d_Md_productOf_75 (by decide) rfl rfl⟩
theorem B_Md_productOf_81 : (∀ (l1 l2 l3 l4 l5 : Value) (x : Nat) (st : List Value) (M : Mm) (Q : Option Value → Mm → Prop), wp F_Md_productOf 81 [.ref x, l1, l2, l3, l4, l5] st M Q = wp F_Md_productOf 82 [.ref x, l1, l2, l3, l4, l5] (.ref x :: st) M Q) ∧
  (∀ (l0 l1 l2 l4 l5 : Value) (x : Int32) (st : List Value) (M : Mm) (Q : Option Value → Mm → Prop), wp F_Md_productOf 82 [l0, l1, l2, .int x, l4, l5] st M Q = wp F_Md_productOf 83 [l0, l1, l2, .int x, l4, l5] (.int x :: st) M Q) ∧
  (∀ (l0 l1 l2 l3 l5 : Value) (x : Int32) (st : List Value) (M : Mm) (Q : Option Value → Mm → Prop), wp F_Md_productOf 83 [l0, l1, l2, l3, .int x, l5] st M Q = wp F_Md_productOf 85 [l0, l1, l2, l3, .int x, l5] (.int x :: st) M Q) ∧
  (∀ (l0 l1 l2 l3 l4 l5 : Value) (x y : Int32) (st : List Value) (M : Mm) (Q : Option Value → Mm → Prop), wp F_Md_productOf 85 [l0, l1, l2, l3, l4, l5] (.int y :: .int x :: st) M Q = wp F_Md_productOf 86 [l0, l1, l2, l3, l4, l5] (.int (x + y) :: st) M Q) ∧
  (∀ (l0 l1 l2 l3 l4 l5 : Value) (b : Nat) (p0 : Int32) (M : Mm) (Q : Option Value → Mm → Prop), wp F_Md_productOf 86 [l0, l1, l2, l3, l4, l5] [.int p0, .ref b] M Q = (sh M b = some (.inl 12) ∧ wp F_Md_numberOf 0 [.ref b, .int p0, jk, jk, jk, jk, jk, jk] [] M (fun r M1 => wp F_Md_productOf 89 [l0, l1, l2, l3, l4, l5] (r.toList ++ []) M1 Q))) ∧
  (∀ (l0 l1 l2 l3 l4 l5 : Value) (v : Int32) (M : Mm) (Q : Option Value → Mm → Prop), wp F_Md_productOf 89 [l0, l1, l2, l3, l4, l5] [.int v] M Q = Q (some (.int v)) M) := ⟨fun _ _ _ _ _ _ _ _ _ => wp_in d_Md_productOf_81 rfl rfl, fun _ _ _ _ _ _ _ _ _ => wp_in d_Md_productOf_82 rfl rfl, fun _ _ _ _ _ _ _ _ _ => wp_in d_Md_productOf_83 rfl rfl, fun _ _ _ _ _ _ _ _ _ _ _ => wp_in d_Md_productOf_85 rfl rfl, fun _ _ _ _ _ _ _ _ _ _ => wp_callV d_Md_productOf_86 ml_12_337 rfl rfl rfl, fun _ _ _ _ _ _ _ _ _ => wp_retI d_Md_productOf_89 rfl⟩
theorem G_Md_productOf_78 (l0 l1 l2 l3 l4 l5 : Value) (st : List Value) (M : Mm) (Q : Option Value → Mm → Prop) : wp F_Md_productOf 78 [l0, l1, l2, l3, l4, l5] st M Q = wp F_Md_productOf 52 [l0, l1, l2, l3, l4, l5] st M Q := wp_goto d_Md_productOf_78 rfl
theorem d_Md_product_0 : decode (fnB F_Md_product) 0 = .ok (.aload_n 0, 1) := by decide +kernel
theorem d_Md_product_1 : decode (fnB F_Md_product) 1 = .ok (.iconst 0, 1) := by decide +kernel
theorem d_Md_product_2 : decode (fnB F_Md_product) 2 = .ok (.putfield 1, 3) := by decide +kernel
theorem d_Md_product_5 : decode (fnB F_Md_product) 5 = .ok (.aload_n 0, 1) := by decide +kernel
theorem d_Md_product_6 : decode (fnB F_Md_product) 6 = .ok (.invokevirtual 261, 3) := by decide +kernel
theorem d_Md_product_9 : decode (fnB F_Md_product) 9 = .ok (.ifCond .ne 6, 3) := by decide +kernel
theorem d_Md_product_12 : decode (fnB F_Md_product) 12 = .ok (.bipush (-3), 2) := by decide +kernel
theorem d_Md_product_14 : decode (fnB F_Md_product) 14 = .ok (.ireturn, 1) := by decide +kernel
theorem d_Md_product_15 : decode (fnB F_Md_product) 15 = .ok (.aload_n 0, 1) := by decide +kernel
theorem d_Md_product_16 : decode (fnB F_Md_product) 16 = .ok (.iload_n 1, 1) := by decide +kernel
theorem d_Md_product_17 : decode (fnB F_Md_product) 17 = .ok (.invokevirtual 328, 3) := by decide +kernel
theorem d_Md_product_20 : decode (fnB F_Md_product) 20 = .ok (.ifCond .eq 11, 3) := by decide +kernel
theorem d_Md_product_23 : decode (fnB F_Md_product) 23 = .ok (.aload_n 0, 1) := by decide +kernel
theorem d_Md_product_24 : decode (fnB F_Md_product) 24 = .ok (.iload_n 2, 1) := by decide +kernel
theorem d_Md_product_25 : decode (fnB F_Md_product) 25 = .ok (.invokevirtual 328, 3) := by decide +kernel
theorem d_Md_product_28 : decode (fnB F_Md_product) 28 = .ok (.ifCond .ne 8, 3) := by decide +kernel
theorem d_Md_product_31 : decode (fnB F_Md_product) 31 = .ok (.bipush (-2), 2) := by decide +kernel
theorem d_Md_product_33 : decode (fnB F_Md_product) 33 = .ok (.goto 9, 3) := by decide +kernel
theorem d_Md_product_36 : decode (fnB F_Md_product) 36 = .ok (.aload_n 0, 1) := by decide +kernel
theorem d_Md_product_37 : decode (fnB F_Md_product) 37 = .ok (.iload_n 1, 1) := by decide +kernel
theorem d_Md_product_38 : decode (fnB F_Md_product) 38 = .ok (.iload_n 2, 1) := by decide +kernel
theorem d_Md_product_39 : decode (fnB F_Md_product) 39 = .ok (.invokevirtual 341, 3) := by decide +kernel
theorem d_Md_product_42 : decode (fnB F_Md_product) 42 = .ok (.ireturn, 1) := by decide +kernel
theorem B_Md_product_0 : (∀ (l1 l2 : Value) (x : Nat) (st : List Value) (M : Mm) (Q : Option Value → Mm → Prop), wp F_Md_product 0 [.ref x, l1, l2] st M Q = wp F_Md_product 1 [.ref x, l1, l2] (.ref x :: st) M Q) ∧
  (∀ (l0 l1 l2 : Value) (st : List Value) (M : Mm) (Q : Option Value → Mm → Prop), wp F_Md_product 1 [l0, l1, l2] st M Q = wp F_Md_product 2 [l0, l1, l2] (.int 0 :: st) M Q) ∧
  (∀ (l0 l1 l2 : Value) (a : Nat) (x : Int32) (st : List Value) (M : Mm) (Q : Option Value → Mm → Prop), wp F_Md_product 2 [l0, l1, l2] (.int x :: .ref a :: st) M Q = (sh M a = some (.inl 12) ∧ wp F_Md_product 5 [l0, l1, l2] st (sI M a 0 x) Q)) ∧
  (∀ (l1 l2 : Value) (x : Nat) (st : List Value) (M : Mm) (Q : Option Value → Mm → Prop), wp F_Md_product 5 [.ref x, l1, l2] st M Q = wp F_Md_product 6 [.ref x, l1, l2] (.ref x :: st) M Q) ∧
  (∀ (l0 l1 l2 : Value) (b : Nat) (M : Mm) (Q : Option Value → Mm → Prop), wp F_Md_product 6 [l0, l1, l2] [.ref b] M Q = (sh M b = some (.inl 12) ∧ wp F_Md_isComplete 0 [.ref b] [] M (fun r M1 => wp F_Md_product 9 [l0, l1, l2] (r.toList ++ []) M1 Q))) ∧
  (∀ (l0 l1 l2 : Value) (x : Int32) (st : List Value) (M : Mm) (Q : Option Value → Mm → Prop), wp F_Md_product 9 [l0, l1, l2] (.int x :: st) M Q = if x = 0 then wp F_Md_product 12 [l0, l1, l2] st M Q else wp F_Md_product 15 [l0, l1, l2] st M Q) ∧
  (∀ (l0 l1 l2 : Value) (st : List Value) (M : Mm) (Q : Option Value → Mm → Prop), wp F_Md_product 12 [l0, l1, l2] st M Q = wp F_Md_product 14 [l0, l1, l2] (.int (-3) :: st) M Q) ∧
  (∀ (l0 l1 l2 : Value) (v : Int32) (M : Mm) (Q : Option Value → Mm → Prop), wp F_Md_product 14 [l0, l1, l2] [.int v] M Q = Q (some (.int v)) M) := ⟨fun _ _ _ _ _ _ => wp_in d_Md_product_0 rfl rfl, fun _ _ _ _ _ _ => wp_iconst d_Md_product_1 (by decide), fun _ _ _ _ _ _ _ _ => wp_putI d_Md_product_2 fl_12_1 rfl rfl, fun _ _ _ _ _ _ => wp_in d_Md_product_5 rfl rfl, fun _ _ _ _ _ _ => wp_callV d_Md_product_6 ml_12_261 rfl rfl rfl, fun _ _ _ _ _ _ _ => wp_if_ne d_Md_product_9 rfl, fun _ _ _ _ _ _ => wp_bipush d_Md_product_12 (by decide), fun _ _ _ _ _ _ => wp_retI d_Md_product_14 rfl⟩
theorem B_Md_product_15 : (∀ (l1 l2 : Value) (x : Nat) (st : List Value) (M : Mm) (Q : Option Value → Mm → Prop), wp F_Md_product 15 [.ref x, l1, l2] st M Q = wp F_Md_product 16 [.ref x, l1, l2] (.ref x :: st) M Q) ∧
  (∀ (l0 l2 : Value) (x : Int32) (st : List Value) (M : Mm) (Q : Option Value → Mm → Prop), wp F_Md_product 16 [l0, .int x, l2] st M Q = wp F_Md_product 17 [l0, .int x, l2] (.int x :: st) M Q) ∧
  (∀ (l0 l1 l2 : Value) (b : Nat) (p0 : Int32) (M : Mm) (Q : Option Value → Mm → Prop), wp F_Md_product 17 [l0, l1, l2] [.int p0, .ref b] M Q = (sh M b = some (.inl 12) ∧ wp F_Md_isElement 0 [.ref b, .int p0] [] M (fun r M1 => wp F_Md_product 20 [l0, l1, l2] (r.toList ++ []) M1 Q))) ∧
  (∀ (l0 l1 l2 : Value) (x : Int32) (st : List Value) (M : Mm) (Q : Option Value → Mm → Prop), wp F_Md_product 20 [l0, l1, l2] (.int x :: st) M Q = if x = 0 then wp F_Md_product 31 [l0, l1, l2] st M Q else wp F_Md_product 23 [l0, l1, l2] st M Q) ∧
  (∀ (l1 l2 : Value) (x : Nat) (st : List Value) (M : Mm) (Q : Option Value → Mm → Prop), wp F_Md_product 23 [.ref x, l1, l2] st M Q = wp F_Md_product 24 [.ref x, l1, l2] (.ref x :: st) M Q) ∧
  (∀ (l0 l1 : Value) (x : Int32) (st : List Value) (M : Mm) (Q : Option Value → Mm → Prop), wp F_Md_product 24 [l0, l1, .int x] st M Q = wp F_Md_product 25 [l0, l1, .int x] (.int x :: st) M Q) ∧
  (∀ (l0 l1 l2 : Value) (b : Nat) (p0 : Int32) (M : Mm) (Q : Option Value → Mm → Prop), wp F_Md_product 25 [l0, l1, l2] [.int p0, .ref b] M Q = (sh M b = some (.inl 12) ∧ wp F_Md_isElement 0 [.ref b, .int p0] [] M (fun r M1 => wp F_Md_product 28 [l0, l1, l2] (r.toList ++ []) M1 Q))) ∧
  (∀ (l0 l1 l2 : Value) (x : Int32) (st : List Value) (M : Mm) (Q : Option Value → Mm → Prop), wp F_Md_product 28 [l0, l1, l2] (.int x :: st) M Q = if x = 0 then wp F_Md_product 31 [l0, l1, l2] st M Q else wp F_Md_product 36 [l0, l1, l2] st M Q) := ⟨fun _ _ _ _ _ _ => wp_in d_Md_product_15 rfl rfl, fun _ _ _ _ _ _ => wp_in d_Md_product_16 rfl rfl, fun _ _ _ _ _ _ _ => wp_callV d_Md_product_17 ml_12_328 rfl rfl rfl, fun _ _ _ _ _ _ _ => wp_if_eq d_Md_product_20 rfl, fun _ _ _ _ _ _ => wp_in d_Md_product_23 rfl rfl, fun _ _ _ _ _ _ => wp_in d_Md_product_24 rfl rfl, fun _ _ _ _ _ _ _ => wp_callV d_Md_product_25 ml_12_328 rfl rfl rfl, fun _ _ _ _ _ _ _ => wp_if_ne d_Md_product_28 rfl⟩
theorem B_Md_product_31 : (∀ (l0 l1 l2 : Value) (st : List Value) (M : Mm) (Q : Option Value → Mm → Prop), wp F_Md_product 31 [l0, l1, l2] st M Q = wp F_Md_product 33 [l0, l1, l2] (.int (-2) :: st) M Q) ∧
  (∀ (l0 l1 l2 : Value) (st : List Value) (M : Mm) (Q : Option Value → Mm → Prop), wp F_Md_product 33 [l0, l1, l2] st M Q = wp F_Md_product 42 [l0, l1, l2] st M Q) := ⟨fun _ _ _ _ _ _ => wp_bipush d_Md_product_31 (by decide), fun _ _ _ _ _ _ => wp_goto d_Md_product_33 rfl⟩
theorem B_Md_product_36 : (∀ (l1 l2 : Value) (x : Nat) (st : List Value) (M : Mm) (Q : Option Value → Mm → Prop), wp F_Md_product 36 [.ref x, l1, l2] st M Q = wp F_Md_product 37 [.ref x, l1, l2] (.ref x :: st) M Q) ∧
  (∀ (l0 l2 : Value) (x : Int32) (st : List Value) (M : Mm) (Q : Option Value → Mm → Prop), wp F_Md_product 37 [l0, .int x, l2] st M Q = wp F_Md_product 38 [l0, .int x, l2] (.int x :: st) M Q) ∧
  (∀ (l0 l1 : Value) (x : Int32) (st : List Value) (M : Mm) (Q : Option Value → Mm → Prop), wp F_Md_product 38 [l0, l1, .int x] st M Q = wp F_Md_product 39 [l0, l1, .int x] (.int x :: st) M Q) ∧
  (∀ (l0 l1 l2 : Value) (b : Nat) (p0 : Int32) (p1 : Int32) (M : Mm) (Q : Option Value → Mm → Prop), wp F_Md_product 39 [l0, l1, l2] [.int p1, .int p0, .ref b] M Q = (sh M b = some (.inl 12) ∧ wp F_Md_productOf 0 [.ref b, .int p0, .int p1, jk, jk, jk] [] M (fun r M1 => wp F_Md_product 42 [l0, l1, l2] (r.toList ++ []) M1 Q))) := ⟨fun _ _ _ _ _ _ => wp_in d_Md_product_36 rfl rfl, fun _ _ _ _ _ _ => wp_in d_Md_product_37 rfl rfl, fun _ _ _ _ _ _ => wp_in d_Md_product_38 rfl rfl, fun _ _ _ _ _ _ _ _ => wp_callV d_Md_product_39 ml_12_341 rfl rfl rfl⟩
theorem B_Md_product_42 : (∀ (l0 l1 l2 : Value) (v : Int32) (M : Mm) (Q : Option Value → Mm → Prop), wp F_Md_product 42 [l0, l1, l2] [.int v] M Q = Q (some (.int v)) M) := fun _ _ _ _ _ _ => wp_retI d_Md_product_42 rfl
theorem d_Md_power_0 : decode (fnB F_Md_power) 0 = .ok (.aload_n 0, 1) := by decide +kernel
theorem d_Md_power_1 : decode (fnB F_Md_power) 1 = .ok (.iconst 0, 1) := by decide +kernel
theorem d_Md_power_2 : decode (fnB F_Md_power) 2 = .ok (.putfield 1, 3) := by decide +kernel
theorem d_Md_power_5 : decode (fnB F_Md_power) 5 = .ok (.aload_n 0, 1) := by decide +kernel
theorem d_Md_power_6 : decode (fnB F_Md_power) 6 = .ok (.invokevirtual 261, 3) := by decide +kernel
theorem d_Md_power_9 : decode (fnB F_Md_power) 9 = .ok (.ifCond .ne 6, 3) := by decide +kernel
theorem d_Md_power_12 : decode (fnB F_Md_power) 12 = .ok (.bipush (-3), 2) := by decide +kernel
theorem d_Md_power_14 : decode (fnB F_Md_power) 14 = .ok (.ireturn, 1) := by decide +kernel
theorem d_Md_power_15 : decode (fnB F_Md_power) 15 = .ok (.aload_n 0, 1) := by decide +kernel
theorem d_Md_power_16 : decode (fnB F_Md_power) 16 = .ok (.iload_n 1, 1) := by decide +kernel
theorem d_Md_power_17 : decode (fnB F_Md_power) 17 = .ok (.invokevirtual 328, 3) := by decide +kernel
theorem d_Md_power_20 : decode (fnB F_Md_power) 20 = .ok (.ifCond .eq 13, 3) := by decide +kernel
theorem d_Md_power_23 : decode (fnB F_Md_power) 23 = .ok (.iload_n 2, 1) := by decide +kernel
theorem d_Md_power_24 : decode (fnB F_Md_power) 24 = .ok (.i2l, 1) := by decide +kernel
theorem d_Md_power_25 : decode (fnB F_Md_power) 25 = .ok (.lconst 0, 1) := by decide +kernel
theorem d_Md_power_26 : decode (fnB F_Md_power) 26 = .ok (.lconst 1, 1) := by decide +kernel
theorem d_Md_power_27 : decode (fnB F_Md_power) 27 = .ok (.invokestatic 9, 3) := by decide +kernel
theorem d_Md_power_30 : decode (fnB F_Md_power) 30 = .ok (.ifCond .ne 6, 3) := by decide +kernel
theorem d_Md_power_33 : decode (fnB F_Md_power) 33 = .ok (.bipush (-2), 2) := by decide +kernel
theorem d_Md_power_35 : decode (fnB F_Md_power) 35 = .ok (.ireturn, 1) := by decide +kernel
theorem d_Md_power_36 : decode (fnB F_Md_power) 36 = .ok (.aload_n 0, 1) := by decide +kernel
theorem d_Md_power_37 : decode (fnB F_Md_power) 37 = .ok (.getfield 199, 3) := by decide +kernel
theorem d_Md_power_40 : decode (fnB F_Md_power) 40 = .ok (.iconst 0, 1) := by decide +kernel
theorem d_Md_power_41 : decode (fnB F_Md_power) 41 = .ok (.iconst 0, 1) := by decide +kernel
theorem d_Md_power_42 : decode (fnB F_Md_power) 42 = .ok (.iastore, 1) := by decide +kernel
theorem d_Md_power_43 : decode (fnB F_Md_power) 43 = .ok (.iconst 1, 1) := by decide +kernel
theorem d_Md_power_44 : decode (fnB F_Md_power) 44 = .ok (.istore_n 3, 1) := by decide +kernel
theorem d_Md_power_45 : decode (fnB F_Md_power) 45 = .ok (.iload_n 3, 1) := by decide +kernel
theorem d_Md_power_46 : decode (fnB F_Md_power) 46 = .ok (.sipush 200, 3) := by decide +kernel
theorem d_Md_power_49 : decode (fnB F_Md_power) 49 = .ok (.if_icmp .gt 87, 3) := by decide +kernel
theorem d_Md_power_52 : decode (fnB F_Md_power) 52 = .ok (.aload_n 0, 1) := by decide +kernel
theorem d_Md_power_53 : decode (fnB F_Md_power) 53 = .ok (.getfield 199, 3) := by decide +kernel
theorem d_Md_power_56 : decode (fnB F_Md_power) 56 = .ok (.iload_n 3, 1) := by decide +kernel
theorem d_Md_power_57 : decode (fnB F_Md_power) 57 = .ok (.aload_n 0, 1) := by decide +kernel
theorem d_Md_power_58 : decode (fnB F_Md_power) 58 = .ok (.aload_n 0, 1) := by decide +kernel
theorem d_Md_power_59 : decode (fnB F_Md_power) 59 = .ok (.getfield 199, 3) := by decide +kernel
theorem d_Md_power_62 : decode (fnB F_Md_power) 62 = .ok (.iload_n 3, 1) := by decide +kernel
theorem d_Md_power_63 : decode (fnB F_Md_power) 63 = .ok (.iconst 1, 1) := by decide +kernel
theorem d_Md_power_64 : decode (fnB F_Md_power) 64 = .ok (.isub, 1) := by decide +kernel
theorem d_Md_power_65 : decode (fnB F_Md_power) 65 = .ok (.iaload, 1) := by decide +kernel
theorem d_Md_power_66 : decode (fnB F_Md_power) 66 = .ok (.iload_n 1, 1) := by decide +kernel
theorem d_Md_power_67 : decode (fnB F_Md_power) 67 = .ok (.invokevirtual 341, 3) := by decide +kernel
theorem d_Md_power_70 : decode (fnB F_Md_power) 70 = .ok (.iastore, 1) := by decide +kernel
theorem d_Md_power_71 : decode (fnB F_Md_power) 71 = .ok (.aload_n 0, 1) := by decide +kernel
theorem d_Md_power_72 : decode (fnB F_Md_power) 72 = .ok (.getfield 199, 3) := by decide +kernel
theorem d_Md_power_75 : decode (fnB F_Md_power) 75 = .ok (.iload_n 3, 1) := by decide +kernel
theorem d_Md_power_76 : decode (fnB F_Md_power) 76 = .ok (.iaload, 1) := by decide +kernel
theorem d_Md_power_77 : decode (fnB F_Md_power) 77 = .ok (.bipush (-4), 2) := by decide +kernel
theorem d_Md_power_79 : decode (fnB F_Md_power) 79 = .ok (.if_icmp .ne 6, 3) := by decide +kernel
theorem d_Md_power_82 : decode (fnB F_Md_power) 82 = .ok (.bipush (-4), 2) := by decide +kernel
theorem d_Md_power_84 : decode (fnB F_Md_power) 84 = .ok (.ireturn, 1) := by decide +kernel
theorem d_Md_power_85 : decode (fnB F_Md_power) 85 = .ok (.iconst 0, 1) := by decide +kernel
theorem d_Md_power_86 : decode (fnB F_Md_power) 86 = .ok (.istore 4, 2) := by decide +kernel
theorem d_Md_power_88 : decode (fnB F_Md_power) 88 = .ok (.iload 4, 2) := by decide +kernel
theorem d_Md_power_90 : decode (fnB F_Md_power) 90 = .ok (.iload_n 3, 1) := by decide +kernel
theorem d_Md_power_91 : decode (fnB F_Md_power) 91 = .ok (.if_icmp .ge 39, 3) := by decide +kernel
theorem d_Md_power_94 : decode (fnB F_Md_power) 94 = .ok (.aload_n 0, 1) := by decide +kernel
theorem d_Md_power_95 : decode (fnB F_Md_power) 95 = .ok (.getfield 199, 3) := by decide +kernel
theorem d_Md_power_98 : decode (fnB F_Md_power) 98 = .ok (.iload 4, 2) := by decide +kernel
theorem d_Md_power_100 : decode (fnB F_Md_power) 100 = .ok (.iaload, 1) := by decide +kernel
theorem d_Md_power_101 : decode (fnB F_Md_power) 101 = .ok (.aload_n 0, 1) := by decide +kernel
theorem d_Md_power_102 : decode (fnB F_Md_power) 102 = .ok (.getfield 199, 3) := by decide +kernel
theorem d_Md_power_105 : decode (fnB F_Md_power) 105 = .ok (.iload_n 3, 1) := by decide +kernel
theorem d_Md_power_106 : decode (fnB F_Md_power) 106 = .ok (.iaload, 1) := by decide +kernel
theorem d_Md_power_107 : decode (fnB F_Md_power) 107 = .ok (.if_icmp .ne 17, 3) := by decide +kernel
theorem d_Md_power_110 : decode (fnB F_Md_power) 110 = .ok (.iload_n 2, 1) := by decide +kernel
theorem d_Md_power_111 : decode (fnB F_Md_power) 111 = .ok (.ifCond .ne 8, 3) := by decide +kernel
theorem d_Md_power_114 : decode (fnB F_Md_power) 114 = .ok (.iload 4, 2) := by decide +kernel
theorem d_Md_power_116 : decode (fnB F_Md_power) 116 = .ok (.goto 7, 3) := by decide +kernel
theorem d_Md_power_119 : decode (fnB F_Md_power) 119 = .ok (.iload_n 3, 1) := by decide +kernel
theorem d_Md_power_120 : decode (fnB F_Md_power) 120 = .ok (.iload 4, 2) := by decide +kernel
theorem d_Md_power_122 : decode (fnB F_Md_power) 122 = .ok (.isub, 1) := by decide +kernel
theorem d_Md_power_123 : decode (fnB F_Md_power) 123 = .ok (.ireturn, 1) := by decide +kernel
theorem d_Md_power_124 : decode (fnB F_Md_power) 124 = .ok (.iinc 4 1, 3) := by decide +kernel
theorem d_Md_power_127 : decode (fnB F_Md_power) 127 = .ok (.goto (-39), 3) := by decide +kernel
theorem d_Md_power_130 : decode (fnB F_Md_power) 130 = .ok (.iinc 3 1, 3) := by decide +kernel
theorem d_Md_power_133 : decode (fnB F_Md_power) 133 = .ok (.goto (-88), 3) := by decide +kernel
theorem d_Md_power_136 : decode (fnB F_Md_power) 136 = .ok (.iconst (-1), 1) := by decide +kernel
theorem d_Md_power_137 : decode (fnB F_Md_power) 137 = .ok (.ireturn, 1) := by decide +kernel
theorem B_Md_power_0 : (∀ (l1 l2 l3 l4 : Value) (x : Nat) (st : List Value) (M : Mm) (Q : Option Value → Mm → Prop), wp F_Md_power 0 [.ref x, l1, l2, l3, l4] st M Q = wp F_Md_power 1 [.ref x, l1, l2, l3, l4] (.ref x :: st) M Q) ∧
  (∀ (l0 l1 l2 l3 l4 : Value) (st : List Value) (M : Mm) (Q : Option Value → Mm → Prop), wp F_Md_power 1 [l0, l1, l2, l3, l4] st M Q = wp F_Md_power 2 [l0, l1, l2, l3, l4] (.int 0 :: st) M Q) ∧
  (∀ (l0 l1 l2 l3 l4 : Value) (a : Nat) (x : Int32) (st : List Value) (M : Mm) (Q : Option Value → Mm → Prop), wp F_Md_power 2 [l0, l1, l2, l3, l4] (.int x :: .ref a :: st) M Q = (sh M a = some (.inl 12) ∧ wp F_Md_power 5 [l0, l1, l2, l3, l4] st (sI M a 0 x) Q)) ∧
  (∀ (l1 l2 l3 l4 : Value) (x : Nat) (st : List Value) (M : Mm) (Q : Option Value → Mm → Prop), wp F_Md_power 5 [.ref x, l1, l2, l3, l4] st M Q = wp F_Md_power 6 [.ref x, l1, l2, l3, l4] (.ref x :: st) M Q) ∧
  (∀ (l0 l1 l2 l3 l4 : Value) (b : Nat) (M : Mm) (Q : Option Value → Mm → Prop), wp F_Md_power 6 [l0, l1, l2, l3, l4] [.ref b] M Q = (sh M b = some (.inl 12) ∧ wp F_Md_isComplete 0 [.ref b] [] M (fun r M1 => wp F_Md_power 9 [l0, l1, l2, l3, l4] (r.toList ++ []) M1 Q))) ∧
  (∀ (l0 l1 l2 l3 l4 : Value) (x : Int32) (st : List Value) (M : Mm) (Q : Option Value → Mm → Prop), wp F_Md_power 9 [l0, l1, l2, l3, l4] (.int x :: st) M Q = if x = 0 then wp F_Md_power 12 [l0, l1, l2, l3, l4] st M Q else wp F_Md_power 15 [l0, l1, l2, l3, l4] st M Q) ∧
  (∀ (l0 l1 l2 l3 l4 : Value) (st : List Value) (M : Mm) (Q : Option Value → Mm → Prop), wp F_Md_power 12 [l0, l1, l2, l3, l4] st M Q = wp F_Md_power 14 [l0, l1, l2, l3, l4] (.int (-3) :: st) M Q) ∧
  (∀ (l0 l1 l2 l3 l4 : Value) (v : Int32) (M : Mm) (Q : Option Value → Mm → Prop), wp F_Md_power 14 [l0, l1, l2, l3, l4] [.int v] M Q = Q (some (.int v)) M) := ⟨fun _ _ _ _ _ _ _ _ => wp_in d_Md_power_0 rfl rfl, fun _ _ _ _ _ _ _ _ => wp_iconst d_Md_power_1 (by decide), fun _ _ _ _ _ _ _ _ _ _ => wp_putI d_Md_power_2 fl_12_1 rfl rfl, fun _ _ _ _ _ _ _ _ => wp_in d_Md_power_5 rfl rfl, fun _ _ _ _ _ _ _ _ => wp_callV d_Md_power_6 ml_12_261 rfl rfl rfl, fun _ _ _ _ _ _ _ _ _ => wp_if_ne d_Md_power_9 rfl, fun _ _ _ _ _ _ _ _ => wp_bipush d_Md_power_12 (by decide), fun _ _ _ _ _ _ _ _ => wp_retI d_Md_power_14 rfl⟩
theorem B_Md_power_15 : (∀ (l1 l2 l3 l4 : Value) (x : Nat) (st : List Value) (M : Mm) (Q : Option Value → Mm → Prop), wp F_Md_power 15 [.ref x, l1, l2, l3, l4] st M Q = wp F_Md_power 16 [.ref x, l1, l2, l3, l4] (.ref x :: st) M Q) ∧
  (∀ (l0 l2 l3 l4 : Value) (x : Int32) (st : List Value) (M : Mm) (Q : Option Value → Mm → Prop), wp F_Md_power 16 [l0, .int x, l2, l3, l4] st M Q = wp F_Md_power 17 [l0, .int x, l2, l3, l4] (.int x :: st) M Q) ∧
  (∀ (l0 l1 l2 l3 l4 : Value) (b : Nat) (p0 : Int32) (M : Mm) (Q : Option Value → Mm → Prop), wp F_Md_power 17 [l0, l1, l2, l3, l4] [.int p0, .ref b] M Q = (sh M b = some (.inl 12) ∧ wp F_Md_isElement 0 [.ref b, .int p0] [] M (fun r M1 => wp F_Md_power 20 [l0, l1, l2, l3, l4] (r.toList ++ []) M1 Q))) ∧
  (∀ (l0 l1 l2 l3 l4 : Value) (x : Int32) (st : List Value) (M : Mm) (Q : Option Value → Mm → Prop), wp F_Md_power 20 [l0, l1, l2, l3, l4] (.int x :: st) M Q = if x = 0 then wp F_Md_power 33 [l0, l1, l2, l3, l4] st M Q else wp F_Md_power 23 [l0, l1, l2, l3, l4] st M Q) ∧
  (∀ (l0 l1 l3 l4 : Value) (x : Int32) (st : List Value) (M : Mm) (Q : Option Value → Mm → Prop), wp F_Md_power 23 [l0, l1, .int x, l3, l4] st M Q = wp F_Md_power 24 [l0, l1, .int x, l3, l4] (.int x :: st) M Q) ∧
  (∀ (l0 l1 l2 l3 l4 : Value) (x : Int32) (st : List Value) (M : Mm) (Q : Option Value → Mm → Prop), wp F_Md_power 24 [l0, l1, l2, l3, l4] (.int x :: st) M Q = wp F_Md_power 25 [l0, l1, l2, l3, l4] (.long x.toInt64 :: st) M Q) ∧
  (∀ (l0 l1 l2 l3 l4 : Value) (st : List Value) (M : Mm) (Q : Option Value → Mm → Prop), wp F_Md_power 25 [l0, l1, l2, l3, l4] st M Q = wp F_Md_power 26 [l0, l1, l2, l3, l4] (.long 0 :: st) M Q) ∧
  (∀ (l0 l1 l2 l3 l4 : Value) (st : List Value) (M : Mm) (Q : Option Value → Mm → Prop), wp F_Md_power 26 [l0, l1, l2, l3, l4] st M Q = wp F_Md_power 27 [l0, l1, l2, l3, l4] (.long 1 :: st) M Q) ∧
  (∀ (l0 l1 l2 l3 l4 : Value) (p0 : Int64) (p1 : Int64) (p2 : Int64) (M : Mm) (Q : Option Value → Mm → Prop), wp F_Md_power 27 [l0, l1, l2, l3, l4] [.long p2, .long p1, .long p0] M Q = wp F_Md_in 0 [.long p0, jk, .long p1, jk, .long p2, jk] [] M (fun r M1 => wp F_Md_power 30 [l0, l1, l2, l3, l4] (r.toList ++ []) M1 Q)) ∧
  (∀ (l0 l1 l2 l3 l4 : Value) (x : Int32) (st : List Value) (M : Mm) (Q : Option Value → Mm → Prop), wp F_Md_power 30 [l0, l1, l2, l3, l4] (.int x :: st) M Q = if x = 0 then wp F_Md_power 33 [l0, l1, l2, l3, l4] st M Q else wp F_Md_power 36 [l0, l1, l2, l3, l4] st M Q) := ⟨fun _ _ _ _ _ _ _ _ => wp_in d_Md_power_15 rfl rfl, fun _ _ _ _ _ _ _ _ => wp_in d_Md_power_16 rfl rfl, fun _ _ _ _ _ _ _ _ _ => wp_callV d_Md_power_17 ml_12_328 rfl rfl rfl, fun _ _ _ _ _ _ _ _ _ => wp_if_eq d_Md_power_20 rfl, fun _ _ _ _ _ _ _ _ => wp_in d_Md_power_23 rfl rfl, fun _ _ _ _ _ _ _ _ _ => wp_in d_Md_power_24 rfl rfl, fun _ _ _ _ _ _ _ _ => wp_lconst d_Md_power_25 (by decide), fun _ _ _ _ _ _ _ _ => wp_lconst d_Md_power_26 (by decide), fun _ _ _ _ _ _ _ _ _ _ => wp_callS d_Md_power_27 ml_12_9 (Nat.le_of_ble_eq_true rfl) rfl rfl rfl, fun _ _ _ _ _ _ _ _ _ => wp_if_ne d_Md_power_30 rfl⟩
theorem B_Md_power_33 : (∀ (l0 l1 l2 l3 l4 : Value) (st : List Value) (M : Mm) (Q : Option Value → Mm → Prop), wp F_Md_power 33 [l0, l1, l2, l3, l4] st M Q = wp F_Md_power 35 [l0, l1, l2, l3, l4] (.int (-2) :: st) M Q) ∧
  (∀ (l0 l1 l2 l3 l4 : Value) (v : Int32) (M : Mm) (Q : Option Value → Mm → Prop), wp F_Md_power 35 [l0, l1, l2, l3, l4] [.int v] M Q = Q (some (.int v)) M) := ⟨fun _ _ _ _ _ _ _ _ => wp_bipush d_Md_power_33 (by decide), fun _ _ _ _ _ _ _ _ => wp_retI d_Md_power_35 rfl⟩
theorem B_Md_power_36 : (∀ (l1 l2 l3 l4 : Value) (x : Nat) (st : List Value) (M : Mm) (Q : Option Value → Mm → Prop), wp F_Md_power 36 [.ref x, l1, l2, l3, l4] st M Q = wp F_Md_power 37 [.ref x, l1, l2, l3, l4] (.ref x :: st) M Q) ∧
  (∀ (l0 l1 l2 l3 l4 : Value) (a : Nat) (st : List Value) (M : Mm) (Q : Option Value → Mm → Prop), wp F_Md_power 37 [l0, l1, l2, l3, l4] (.ref a :: st) M Q = (sh M a = some (.inl 12) ∧ wp F_Md_power 40 [l0, l1, l2, l3, l4] (va_rf (gR M a 55) :: st) M Q)) ∧
  (∀ (l0 l1 l2 l3 l4 : Value) (st : List Value) (M : Mm) (Q : Option Value → Mm → Prop), wp F_Md_power 40 [l0, l1, l2, l3, l4] st M Q = wp F_Md_power 41 [l0, l1, l2, l3, l4] (.int 0 :: st) M Q) ∧
  (∀ (l0 l1 l2 l3 l4 : Value) (st : List Value) (M : Mm) (Q : Option Value → Mm → Prop), wp F_Md_power 41 [l0, l1, l2, l3, l4] st M Q = wp F_Md_power 42 [l0, l1, l2, l3, l4] (.int 0 :: st) M Q) ∧
  (∀ (l0 l1 l2 l3 l4 : Value) (a : Nat) (j x : Int32) (st : List Value) (M : Mm) (Q : Option Value → Mm → Prop), wp F_Md_power 42 [l0, l1, l2, l3, l4] (.int x :: .int j :: .ref a :: st) M Q = (ixW M a j ∧ wp F_Md_power 43 [l0, l1, l2, l3, l4] st (sI M a (cl j) x) Q)) ∧
  (∀ (l0 l1 l2 l3 l4 : Value) (st : List Value) (M : Mm) (Q : Option Value → Mm → Prop), wp F_Md_power 43 [l0, l1, l2, l3, l4] st M Q = wp F_Md_power 44 [l0, l1, l2, l3, l4] (.int 1 :: st) M Q) ∧
  (∀ (l0 l1 l2 l3 l4 : Value) (x : Int32) (st : List Value) (M : Mm) (Q : Option Value → Mm → Prop), wp F_Md_power 44 [l0, l1, l2, l3, l4] (.int x :: st) M Q = wp F_Md_power 45 [l0, l1, clr l2, .int x, l4] st M Q) := ⟨fun _ _ _ _ _ _ _ _ => wp_in d_Md_power_36 rfl rfl, fun _ _ _ _ _ _ _ _ _ => wp_getA d_Md_power_37 fl_12_199 rfl, fun _ _ _ _ _ _ _ _ => wp_iconst d_Md_power_40 (by decide), fun _ _ _ _ _ _ _ _ => wp_iconst d_Md_power_41 (by decide), fun _ _ _ _ _ _ _ _ _ _ _ => wp_iast d_Md_power_42, fun _ _ _ _ _ _ _ _ => wp_iconst d_Md_power_43 (by decide), fun _ _ _ _ _ _ _ _ _ => wp_in d_Md_power_44 rfl rfl⟩
theorem B_Md_power_45 : (∀ (l0 l1 l2 l4 : Value) (x : Int32) (st : List Value) (M : Mm) (Q : Option Value → Mm → Prop), wp F_Md_power 45 [l0, l1, l2, .int x, l4] st M Q = wp F_Md_power 46 [l0, l1, l2, .int x, l4] (.int x :: st) M Q) ∧
  (∀ (l0 l1 l2 l3 l4 : Value) (st : List Value) (M : Mm) (Q : Option Value → Mm → Prop), wp F_Md_power 46 [l0, l1, l2, l3, l4] st M Q = wp F_Md_power 49 [l0, l1, l2, l3, l4] (.int 200 :: st) M Q) ∧
  (∀ (l0 l1 l2 l3 l4 : Value) (x y : Int32) (st : List Value) (M : Mm) (Q : Option Value → Mm → Prop), wp F_Md_power 49 [l0, l1, l2, l3, l4] (.int y :: .int x :: st) M Q = if y < x then wp F_Md_power 136 [l0, l1, l2, l3, l4] st M Q else wp F_Md_power 52 [l0, l1, l2, l3, l4] st M Q) ∧
  (∀ (l1 l2 l3 l4 : Value) (x : Nat) (st : List Value) (M : Mm) (Q : Option Value → Mm → Prop), wp F_Md_power 52 [.ref x, l1, l2, l3, l4] st M Q = wp F_Md_power 53 [.ref x, l1, l2, l3, l4] (.ref x :: st) M Q) ∧
  (∀ (l0 l1 l2 l3 l4 : Value) (a : Nat) (st : List Value) (M : Mm) (Q : Option Value → Mm → Prop), wp F_Md_power 53 [l0, l1, l2, l3, l4] (.ref a :: st) M Q = (sh M a = some (.inl 12) ∧ wp F_Md_power 56 [l0, l1, l2, l3, l4] (va_rf (gR M a 55) :: st) M Q)) ∧
  (∀ (l0 l1 l2 l4 : Value) (x : Int32) (st : List Value) (M : Mm) (Q : Option Value → Mm → Prop), wp F_Md_power 56 [l0, l1, l2, .int x, l4] st M Q = wp F_Md_power 57 [l0, l1, l2, .int x, l4] (.int x :: st) M Q) ∧
  (∀ (l1 l2 l3 l4 : Value) (x : Nat) (st : List Value) (M : Mm) (Q : Option Value → Mm → Prop), wp F_Md_power 57 [.ref x, l1, l2, l3, l4] st M Q = wp F_Md_power 58 [.ref x, l1, l2, l3, l4] (.ref x :: st) M Q) ∧
  (∀ (l1 l2 l3 l4 : Value) (x : Nat) (st : List Value) (M : Mm) (Q : Option Value → Mm → Prop), wp F_Md_power 58 [.ref x, l1, l2, l3, l4] st M Q = wp F_Md_power 59 [.ref x, l1, l2, l3, l4] (.ref x :: st) M Q) ∧
  (∀ (l0 l1 l2 l3 l4 : Value) (a : Nat) (st : List Value) (M : Mm) (Q : Option Value → Mm → Prop), wp F_Md_power 59 [l0, l1, l2, l3, l4] (.ref a :: st) M Q = (sh M a = some (.inl 12) ∧ wp F_Md_power 62 [l0, l1, l2, l3, l4] (va_rf (gR M a 55) :: st) M Q)) ∧
  (∀ (l0 l1 l2 l4 : Value) (x : Int32) (st : List Value) (M : Mm) (Q : Option Value → Mm → Prop), wp F_Md_power 62 [l0, l1, l2, .int x, l4] st M Q = wp F_Md_power 63 [l0, l1, l2, .int x, l4] (.int x :: st) M Q) ∧
  (∀ (l0 l1 l2 l3 l4 : Value) (st : List Value) (M : Mm) (Q : Option Value → Mm → Prop), wp F_Md_power 63 [l0, l1, l2, l3, l4] st M Q = wp F_Md_power 64 [l0, l1, l2, l3, l4] (.int 1 :: st) M Q) ∧
  (∀ (l0 l1 l2 l3 l4 : Value) (x y : Int32) (st : List Value) (M : Mm) (Q : Option Value → Mm → Prop), wp F_Md_power 64 [l0, l1, l2, l3, l4] (.int y :: .int x :: st) M Q = wp F_Md_power 65 [l0, l1, l2, l3, l4] (.int (x - y) :: st) M Q) ∧
  (∀ (l0 l1 l2 l3 l4 : Value) (a : Nat) (j : Int32) (st : List Value) (M : Mm) (Q : Option Value → Mm → Prop), wp F_Md_power 65 [l0, l1, l2, l3, l4] (.int j :: .ref a :: st) M Q = (ixI M a j ∧ wp F_Md_power 66 [l0, l1, l2, l3, l4] (.int (gI M a (cl j)) :: st) M Q)) ∧
  (∀ (l0 l2 l3 l4 : Value) (x : Int32) (st : List Value) (M : Mm) (Q : Option Value → Mm → Prop), wp F_Md_power 66 [l0, .int x, l2, l3, l4] st M Q = wp F_Md_power 67 [l0, .int x, l2, l3, l4] (.int x :: st) M Q) ∧
  (∀ (l0 l1 l2 l3 l4 : Value) (b : Nat) (p0 : Int32) (p1 : Int32) (r0 r1 : Value) (M : Mm) (Q : Option Value → Mm → Prop), wp F_Md_power 67 [l0, l1, l2, l3, l4] [.int p1, .int p0, .ref b, r0, r1] M Q = (sh M b = some (.inl 12) ∧ wp F_Md_productOf 0 [.ref b, .int p0, .int p1, jk, jk, jk] [] M (fun r M1 => wp F_Md_power 70 [l0, l1, l2, l3, l4] (r.toList ++ [r0, r1]) M1 Q))) ∧
  (∀ (l0 l1 l2 l3 l4 : Value) (a : Nat) (j x : Int32) (st : List Value) (M : Mm) (Q : Option Value → Mm → Prop), wp F_Md_power 70 [l0, l1, l2, l3, l4] (.int x :: .int j :: .ref a :: st) M Q = (ixW M a j ∧ wp F_Md_power 71 [l0, l1, l2, l3, l4] st (sI M a (cl j) x) Q)) ∧
  (∀ (l1 l2 l3 l4 : Value) (x : Nat) (st : List Value) (M : Mm) (Q : Option Value → Mm → Prop), wp F_Md_power 71 [.ref x, l1, l2, l3, l4] st M Q = wp F_Md_power 72 [.ref x, l1, l2, l3, l4] (.ref x :: st) M Q) ∧
  (∀ (l0 l1 l2 l3 l4 : Value) (a : Nat) (st : List Value) (M : Mm) (Q : Option Value → Mm → Prop), wp F_Md_power 72 [l0, l1, l2, l3, l4] (.ref a :: st) M Q = (sh M a = some (.inl 12) ∧ wp F_Md_power 75 [l0, l1, l2, l3, l4] (va_rf (gR M a 55) :: st) M Q)) ∧
  (∀ (l0 l1 l2 l4 : Value) (x : Int32) (st : List Value) (M : Mm) (Q : Option Value → Mm → Prop), wp F_Md_power 75 [l0, l1, l2, .int x, l4] st M Q = wp F_Md_power 76 [l0, l1, l2, .int x, l4] (.int x :: st) M Q) ∧
  (∀ (l0 l1 l2 l3 l4 : Value) (a : Nat) (j : Int32) (st : List Value) (M : Mm) (Q : Option Value → Mm → Prop), wp F_Md_power 76 [l0, l1, l2, l3, l4] (.int j :: .ref a :: st) M Q = (ixI M a j ∧ wp F_Md_power 77 [l0, l1, l2, l3, l4] (.int (gI M a (cl j)) :: st) M Q)) ∧
  (∀ (l0 l1 l2 l3 l4 : Value) (st : List Value) (M : Mm) (Q : Option Value → Mm → Prop), wp F_Md_power 77 [l0, l1, l2, l3, l4] st M Q = wp F_Md_power 79 [l0, l1, l2, l3, l4] (.int (-4) :: st) M Q) ∧
  (∀ (l0 l1 l2 l3 l4 : Value) (x y : Int32) (st : List Value) (M : Mm) (Q : Option Value → Mm → Prop), wp F_Md_power 79 [l0, l1, l2, l3, l4] (.int y :: .int x :: st) M Q = if x = y then wp F_Md_power 82 [l0, l1, l2, l3, l4] st M Q else wp F_Md_power 85 [l0, l1, l2, l3, l4] st M Q) ∧
  (∀ (l0 l1 l2 l3 l4 : Value) (st : List Value) (M : Mm) (Q : Option Value → Mm → Prop), wp F_Md_power 82 [l0, l1, l2, l3, l4] st M Q = wp F_Md_power 84 [l0, l1, l2, l3, l4] (.int (-4) :: st) M Q) ∧
  (∀ (l0 l1 l2 l3 l4 : Value) (v : Int32) (M : Mm) (Q : Option Value → Mm → Prop), wp F_Md_power 84 [l0, l1, l2, l3, l4] [.int v] M Q = Q (some (.int v)) M) := ⟨fun _ _ _ _ _ _ _ _ => wp_in d_Md_power_45 rfl rfl, fun _ _ _ _ _ _ _ _ => wp_sipush d_Md_power_46 (by decide), fun _ _ _ _ _ _ _ _ _ _ => wp_icmp_gt d_Md_power_49 rfl, fun _ _ _ _ _ _ _ _ => wp_in d_Md_power_52 rfl rfl, fun _ _ _ _ _ _ _ _ _ => wp_getA d_Md_power_53 fl_12_199 rfl, fun _ _ _ _ _ _ _ _ => wp_in d_Md_power_56 rfl rfl, fun _ _ _ _ _ _ _ _ => wp_in d_Md_power_57 rfl rfl, fun _ _ _ _ _ _ _ _ => wp_in d_Md_power_58 rfl rfl, fun _ _ _ _ _ _ _ _ _ => wp_getA d_Md_power_59 fl_12_199 rfl, fun _ _ _ _ _ _ _ _ => wp_in d_Md_power_62 rfl rfl, fun _ _ _ _ _ _ _ _ => wp_iconst d_Md_power_63 (by decide), fun _ _ _ _ _ _ _ _ _ _ => wp_in d_Md_power_64 rfl rfl, fun _ _ _ _ _ _ _ _ _ _ => wp_iald d_Md_power_65, fun _ _ _ _ _ _ _ _ => wp_in d_Md_power_66 rfl rfl, fun _ _ _ _ _ _ _ _ _ _ _ _ => wp_callV d_Md_power_67 ml_12_341 rfl rfl rfl, fun _ _ _ _ _ _ _ _ _ _ _ => wp_iast d_Md_power_70, fun _ _ _ _ _ _ _ _ => wp_in d_Md_power_71 rfl rfl, fun _ _ _ _ _ _ _ _ _ => wp_getA d_Md_power_72 fl_12_199 rfl, fun _ _ _ _ _ _ _ _ => wp_in d_Md_power_75 rfl rfl, fun _ _ _ _ _ _ _ _ _ _ => wp_iald d_Md_power_76, fun _ _ _ _ _ _ _ _ => wp_bipush d_Md_power_77 (by decide), fun _ _ _ _ _ _ _ _ _ _ => wp_icmp_ne d_Md_power_79 rfl, fun _ _ _ _ _ _ _ _ => wp_bipush d_Md_power_82 (by decide), fun _ _ _ _ _ _ _ _ => wp_retI d_Md_power_84 rfl⟩
theorem B_Md_power_85 : (∀ (l0 l1 l2 l3 l4 : Value) (st : List Value) (M : Mm) (Q : Option Value → Mm → Prop), wp F_Md_power 85 [l0, l1, l2, l3, l4] st M Q = wp F_Md_power 86 [l0, l1, l2, l3, l4] (.int 0 :: st) M Q) ∧
  (∀ (l0 l1 l2 l3 l4 : Value) (x : Int32) (st : List Value) (M : Mm) (Q : Option Value → Mm → Prop), wp F_Md_power 86 [l0, l1, l2, l3, l4] (.int x :: st) M Q = wp F_Md_power 88 [l0, l1, l2, clr l3, .int x] st M Q) := ⟨fun _ _ _ _ _ _ _ _ => wp_iconst d_Md_power_85 (by decide), fun _ _ _ _ _ _ _ _ _ => wp_in d_Md_power_86 rfl rfl⟩
theorem B_Md_power_88 : (∀ (l0 l1 l2 l3 : Value) (x : Int32) (st : List Value) (M : Mm) (Q : Option Value → Mm → Prop), wp F_Md_power 88 [l0, l1, l2, l3, .int x] st M Q = wp F_Md_power 90 [l0, l1, l2, l3, .int x] (.int x :: st) M Q) ∧
  (∀ (l0 l1 l2 l4 : Value) (x : Int32) (st : List Value) (M : Mm) (Q : Option Value → Mm → Prop), wp F_Md_power 90 [l0, l1, l2, .int x, l4] st M Q = wp F_Md_power 91 [l0, l1, l2, .int x, l4] (.int x :: st) M Q) ∧
  (∀ (l0 l1 l2 l3 l4 : Value) (x y : Int32) (st : List Value) (M : Mm) (Q : Option Value → Mm → Prop), wp F_Md_power 91 [l0, l1, l2, l3, l4] (.int y :: .int x :: st) M Q = if y ≤ x then wp F_Md_power 130 [l0, l1, l2, l3, l4] st M Q else wp F_Md_power 94 [l0, l1, l2, l3, l4] st M Q) ∧
  (∀ (l1 l2 l3 l4 : Value) (x : Nat) (st : List Value) (M : Mm) (Q : Option Value → Mm → Prop), wp F_Md_power 94 [.ref x, l1, l2, l3, l4] st M Q = wp F_Md_power 95 [.ref x, l1, l2, l3, l4] (.ref x :: st) M Q) ∧
  (∀ (l0 l1 l2 l3 l4 : Value) (a : Nat) (st : List Value) (M : Mm) (Q : Option Value → Mm → Prop), wp F_Md_power 95 [l0, l1, l2, l3, l4] (.ref a :: st) M Q = (sh M a = some (.inl 12) ∧ wp F_Md_power 98 [l0, l1, l2, l3, l4] (va_rf (gR M a 55) :: st) M Q)) ∧
  (∀ (l0 l1 l2 l3 : Value) (x : Int32) (st : List Value) (M : Mm) (Q : Option Value → Mm → Prop), wp F_Md_power 98 [l0, l1, l2, l3, .int x] st M Q = wp F_Md_power 100 [l0, l1, l2, l3, .int x] (.int x :: st) M Q) ∧
  (∀ (l0 l1 l2 l3 l4 : Value) (a : Nat) (j : Int32) (st : List Value) (M : Mm) (Q : Option Value → Mm → Prop), wp F_Md_power 100 [l0, l1, l2, l3, l4] (.int j :: .ref a :: st) M Q = (ixI M a j ∧ wp F_Md_power 101 [l0, l1, l2, l3, l4] (.int (gI M a (cl j)) :: st) M Q)) ∧
  (∀ (l1 l2 l3 l4 : Value) (x : Nat) (st : List Value) (M : Mm) (Q : Option Value → Mm → Prop), wp F_Md_power 101 [.ref x, l1, l2, l3, l4] st M Q = wp F_Md_power 102 [.ref x, l1, l2, l3, l4] (.ref x :: st) M Q) ∧
  (∀ (l0 l1 l2 l3 l4 : Value) (a : Nat) (st : List Value) (M : Mm) (Q : Option Value → Mm → Prop), wp F_Md_power 102 [l0, l1, l2, l3, l4] (.ref a :: st) M Q = (sh M a = some (.inl 12) ∧ wp F_Md_power 105 [l0, l1, l2, l3, l4] (va_rf (gR M a 55) :: st) M Q)) ∧
  (∀ (l0 l1 l2 l4 : Value) (x : Int32) (st : List Value) (M : Mm) (Q : Option Value → Mm → Prop), wp F_Md_power 105 [l0, l1, l2, .int x, l4] st M Q = wp F_Md_power 106 [l0, l1, l2, .int x, l4] (.int x :: st) M Q) ∧
  (∀ (l0 l1 l2 l3 l4 : Value) (a : Nat) (j : Int32) (st : List Value) (M : Mm) (Q : Option Value → Mm → Prop), wp F_Md_power 106 [l0, l1, l2, l3, l4] (.int j :: .ref a :: st) M Q = (ixI M a j ∧ wp F_Md_power 107 [l0, l1, l2, l3, l4] (.int (gI M a (cl j)) :: st) M Q)) ∧
  (∀ (l0 l1 l2 l3 l4 : Value) (x y : Int32) (st : List Value) (M : Mm) (Q : Option Value → Mm → Prop), wp F_Md_power 107 [l0, l1, l2, l3, l4] (.int y :: .int x :: st) M Q = if x = y then wp F_Md_power 110 [l0, l1, l2, l3, l4] st M Q else wp F_Md_power 124 [l0, l1, l2, l3, l4] st M Q) ∧
  (∀ (l0 l1 l3 l4 : Value) (x : Int32) (st : List Value) (M : Mm) (Q : Option Value → Mm → Prop), wp F_Md_power 110 [l0, l1, .int x, l3, l4] st M Q = wp F_Md_power 111 [l0, l1, .int x, l3, l4] (.int x :: st) M Q) ∧
  (∀ (l0 l1 l2 l3 l4 : Value) (x : Int32) (st : List Value) (M : Mm) (Q : Option Value → Mm → Prop), wp F_Md_power 111 [l0, l1, l2, l3, l4] (.int x :: st) M Q = if x = 0 then wp F_Md_power 114 [l0, l1, l2, l3, l4] st M Q else wp F_Md_power 119 [l0, l1, l2, l3, l4] st M Q) ∧
  (∀ (l0 l1 l2 l3 : Value) (x : Int32) (st : List Value) (M : Mm) (Q : Option Value → Mm → Prop), wp F_Md_power 114 [l0, l1, l2, l3, .int x] st M Q = wp F_Md_power 116 [l0, l1, l2, l3, .int x] (.int x :: st) M Q) ∧
  (∀ (l0 l1 l2 l3 l4 : Value) (st : List Value) (M : Mm) (Q : Option Value → Mm → Prop), wp F_Md_power 116 [l0, l1, l2, l3, l4] st M Q = wp F_Md_power 123 [l0, l1, l2, l3, l4] st M Q) := ⟨fun _ _ _ _ _ _ _ _ => wp_in d_Md_power_88 rfl rfl, fun _ _ _ _ _ _ _ _ => wp_in d_Md_power_90 rfl rfl, fun _ _ _ _ _ _ _ _ _ _ => wp_icmp_ge d_Md_power_91 rfl, fun _ _ _ _ _ _ _ _ => wp_in d_Md_power_94 rfl rfl, fun _ _ _ _ _ _ _ _ _ => wp_getA d_Md_power_95 fl_12_199 rfl, fun _ _ _ _ _ _ _ _ => wp_in d_Md_power_98 rfl rfl, fun _ _ _ _ _ _ _ _ _ _ => wp_iald d_Md_power_100, fun _ _ _ _ _ _ _ _ => wp_in d_Md_power_101 rfl rfl, fun _ _ _ _ _ _ _ _ _ => wp_getA d_Md_power_102 fl_12_199 rfl, fun _ _ _ _ _ _ _ _ => wp_in d_Md_power_105 rfl rfl, fun _ _ _ _ _ _ _ _ _ _ => wp_iald d_Md_power_106, fun _ _ _ _ _ _ _ _ _ _ => wp_icmp_ne d_Md_power_107 rfl, fun _ _ _ _ _ _ _ _ => wp_in d_Md_power_110 rfl rfl, fun _ _ _ _ _ _ _ _ _ => wp_if_ne d_Md_power_111 rfl, fun _ _ _ _ _ _ _ _ => wp_in d_Md_power_114 rfl rfl, fun _ _ _ _ _ _ _ _ => wp_goto d_Md_power_116 rfl⟩
theorem B_Md_power_119 : (∀ (l0 l1 l2 l4 : Value) (x : Int32) (st : List Value) (M : Mm) (Q : Option Value → Mm → Prop), wp F_Md_power 119 [l0, l1, l2, .int x, l4] st M Q = wp F_Md_power 120 [l0, l1, l2, .int x, l4] (.int x :: st) M Q) ∧
  (∀ (l0 l1 l2 l3 : Value) (x : Int32) (st : List Value) (M : Mm) (Q : Option Value → Mm → Prop), wp F_Md_power 120 [l0, l1, l2, l3, .int x] st M Q = wp F_Md_power 122 [l0, l1, l2, l3, .int x] (.int x :: st) M Q) ∧
  (∀ (l0 l1 l2 l3 l4 : Value) (x y : Int32) (st : List Value) (M : Mm) (Q : Option Value → Mm → Prop), wp F_Md_power 122 [l0, l1, l2, l3, l4] (.int y :: .int x :: st) M Q = wp F_Md_power 123 [l0, l1, l2, l3, l4] (.int (x - y) :: st) M Q) := ⟨fun _ _ _ _ _ _ _ _ => wp_in d_Md_power_119 rfl rfl, fun _ _ _ _ _ _ _ _ => wp_in d_Md_power_120 rfl rfl, fun _ _ _ _ _ _ _ _ _ _ => wp_in d_Md_power_122 rfl rfl⟩
theorem B_Md_power_123 : (∀ (l0 l1 l2 l3 l4 : Value) (v : Int32) (M : Mm) (Q : Option Value → Mm → Prop), wp F_Md_power 123 [l0, l1, l2, l3, l4] [.int v] M Q = Q (some (.int v)) M) := fun _ _ _ _ _ _ _ _ => wp_retI d_Md_power_123 rfl
theorem B_Md_power_124 : (∀ (l0 l1 l2 l3 : Value) (x : Int32) (st : List Value) (M : Mm) (Q : Option Value → Mm → Prop), wp F_Md_power 124 [l0, l1, l2, l3, .int x] st M Q = wp F_Md_power 127 [l0, l1, l2, clr l3, .int (x + 1)] st M Q) := fun _ _ _ _ _ _ _ _ => wp_iinc d_Md_power_124 (by decide) rfl rfl
theorem B_Md_power_130 : (∀ (l0 l1 l2 l4 : Value) (x : Int32) (st : List Value) (M : Mm) (Q : Option Value → Mm → Prop), wp F_Md_power 130 [l0, l1, l2, .int x, l4] st M Q = wp F_Md_power 133 [l0, l1, clr l2, .int (x + 1), l4] st M Q) := fun _ _ _ _ _ _ _ _ => wp_iinc d_Md_power_130 (by decide) rfl rfl
theorem B_Md_power_136 : (∀ (l0 l1 l2 l3 l4 : Value) (st : List Value) (M : Mm) (Q : Option Value → Mm → Prop), wp F_Md_power 136 [l0, l1, l2, l3, l4] st M Q = wp F_Md_power 137 [l0, l1, l2, l3, l4] (.int (-1) :: st) M Q) ∧
  (∀ (l0 l1 l2 l3 l4 : Value) (v : Int32) (M : Mm) (Q : Option Value → Mm → Prop), wp F_Md_power 137 [l0, l1, l2, l3, l4] [.int v] M Q = Q (some (.int v)) M) := ⟨fun _ _ _ _ _ _ _ _ => wp_iconst d_Md_power_136 (by decide), fun _ _ _ _ _ _ _ _ => wp_retI d_Md_power_137 rfl⟩
theorem G_Md_power_127 (l0 l1 l2 l3 l4 : Value) (st : List Value) (M : Mm) (Q : Option Value → Mm → Prop) : wp F_Md_power 127 [l0, l1, l2, l3, l4] st M Q = wp F_Md_power 88 [l0, l1, l2, l3, l4] st M Q := wp_goto d_Md_power_127 rfl
theorem G_Md_power_133 (l0 l1 l2 l3 l4 : Value) (st : List Value) (M : Mm) (Q : Option Value → Mm → Prop) : wp F_Md_power 133 [l0, l1, l2, l3, l4] st M Q = wp F_Md_power 45 [l0, l1, l2, l3, l4] st M Q := wp_goto d_Md_power_133 rfl
theorem d_Md_inverse_0 : decode (fnB F_Md_inverse) 0 = .ok (.aload_n 0, 1) := by decide +kernel
theorem d_Md_inverse_1 : decode (fnB F_Md_inverse) 1 = .ok (.iconst 0, 1) := by decide +kernel
theorem d_Md_inverse_2 : decode (fnB F_Md_inverse) 2 = .ok (.putfield 1, 3) := by decide +kernel
theorem d_Md_inverse_5 : decode (fnB F_Md_inverse) 5 = .ok (.aload_n 0, 1) := by decide +kernel
theorem d_Md_inverse_6 : decode (fnB F_Md_inverse) 6 = .ok (.invokevirtual 261, 3) := by decide +kernel
theorem d_Md_inverse_9 : decode (fnB F_Md_inverse) 9 = .ok (.ifCond .ne 6, 3) := by decide +kernel
theorem d_Md_inverse_12 : decode (fnB F_Md_inverse) 12 = .ok (.bipush (-3), 2) := by decide +kernel
theorem d_Md_inverse_14 : decode (fnB F_Md_inverse) 14 = .ok (.ireturn, 1) := by decide +kernel
theorem d_Md_inverse_15 : decode (fnB F_Md_inverse) 15 = .ok (.aload_n 0, 1) := by decide +kernel
theorem d_Md_inverse_16 : decode (fnB F_Md_inverse) 16 = .ok (.iload_n 1, 1) := by decide +kernel
theorem d_Md_inverse_17 : decode (fnB F_Md_inverse) 17 = .ok (.invokevirtual 328, 3) := by decide +kernel
theorem d_Md_inverse_20 : decode (fnB F_Md_inverse) 20 = .ok (.ifCond .ne 6, 3) := by decide +kernel
theorem d_Md_inverse_23 : decode (fnB F_Md_inverse) 23 = .ok (.bipush (-2), 2) := by decide +kernel
theorem d_Md_inverse_25 : decode (fnB F_Md_inverse) 25 = .ok (.ireturn, 1) := by decide +kernel
theorem d_Md_inverse_26 : decode (fnB F_Md_inverse) 26 = .ok (.iconst 0, 1) := by decide +kernel
theorem d_Md_inverse_27 : decode (fnB F_Md_inverse) 27 = .ok (.istore_n 2, 1) := by decide +kernel
theorem d_Md_inverse_28 : decode (fnB F_Md_inverse) 28 = .ok (.iload_n 2, 1) := by decide +kernel
theorem d_Md_inverse_29 : decode (fnB F_Md_inverse) 29 = .ok (.sipush 400, 3) := by decide +kernel
theorem d_Md_inverse_32 : decode (fnB F_Md_inverse) 32 = .ok (.if_icmp .ge 56, 3) := by decide +kernel
theorem d_Md_inverse_35 : decode (fnB F_Md_inverse) 35 = .ok (.aload_n 0, 1) := by decide +kernel
theorem d_Md_inverse_36 : decode (fnB F_Md_inverse) 36 = .ok (.iload_n 2, 1) := by decide +kernel
theorem d_Md_inverse_37 : decode (fnB F_Md_inverse) 37 = .ok (.invokevirtual 328, 3) := by decide +kernel
theorem d_Md_inverse_40 : decode (fnB F_Md_inverse) 40 = .ok (.ifCond .eq 48, 3) := by decide +kernel
theorem d_Md_inverse_43 : decode (fnB F_Md_inverse) 43 = .ok (.aload_n 0, 1) := by decide +kernel
theorem d_Md_inverse_44 : decode (fnB F_Md_inverse) 44 = .ok (.iload_n 1, 1) := by decide +kernel
theorem d_Md_inverse_45 : decode (fnB F_Md_inverse) 45 = .ok (.iload_n 2, 1) := by decide +kernel
theorem d_Md_inverse_46 : decode (fnB F_Md_inverse) 46 = .ok (.invokevirtual 341, 3) := by decide +kernel
theorem d_Md_inverse_49 : decode (fnB F_Md_inverse) 49 = .ok (.istore_n 3, 1) := by decide +kernel
theorem d_Md_inverse_50 : decode (fnB F_Md_inverse) 50 = .ok (.iload_n 3, 1) := by decide +kernel
theorem d_Md_inverse_51 : decode (fnB F_Md_inverse) 51 = .ok (.ifCond .ne 10, 3) := by decide +kernel
theorem d_Md_inverse_54 : decode (fnB F_Md_inverse) 54 = .ok (.aload_n 0, 1) := by decide +kernel
theorem d_Md_inverse_55 : decode (fnB F_Md_inverse) 55 = .ok (.iload_n 2, 1) := by decide +kernel
theorem d_Md_inverse_56 : decode (fnB F_Md_inverse) 56 = .ok (.iload_n 1, 1) := by decide +kernel
theorem d_Md_inverse_57 : decode (fnB F_Md_inverse) 57 = .ok (.invokevirtual 341, 3) := by decide +kernel
theorem d_Md_inverse_60 : decode (fnB F_Md_inverse) 60 = .ok (.istore_n 3, 1) := by decide +kernel
theorem d_Md_inverse_61 : decode (fnB F_Md_inverse) 61 = .ok (.iload_n 3, 1) := by decide +kernel
theorem d_Md_inverse_62 : decode (fnB F_Md_inverse) 62 = .ok (.bipush (-4), 2) := by decide +kernel
theorem d_Md_inverse_64 : decode (fnB F_Md_inverse) 64 = .ok (.if_icmp .eq 7, 3) := by decide +kernel
theorem d_Md_inverse_67 : decode (fnB F_Md_inverse) 67 = .ok (.iload_n 3, 1) := by decide +kernel
theorem d_Md_inverse_68 : decode (fnB F_Md_inverse) 68 = .ok (.ifCond .ne 14, 3) := by decide +kernel
theorem d_Md_inverse_71 : decode (fnB F_Md_inverse) 71 = .ok (.iload_n 3, 1) := by decide +kernel
theorem d_Md_inverse_72 : decode (fnB F_Md_inverse) 72 = .ok (.ifCond .ne 7, 3) := by decide +kernel
theorem d_Md_inverse_75 : decode (fnB F_Md_inverse) 75 = .ok (.iload_n 2, 1) := by decide +kernel
theorem d_Md_inverse_76 : decode (fnB F_Md_inverse) 76 = .ok (.goto 5, 3) := by decide +kernel
theorem d_Md_inverse_79 : decode (fnB F_Md_inverse) 79 = .ok (.bipush (-4), 2) := by decide +kernel
theorem d_Md_inverse_81 : decode (fnB F_Md_inverse) 81 = .ok (.ireturn, 1) := by decide +kernel
theorem d_Md_inverse_82 : decode (fnB F_Md_inverse) 82 = .ok (.iinc 2 1, 3) := by decide +kernel
theorem d_Md_inverse_85 : decode (fnB F_Md_inverse) 85 = .ok (.goto (-57), 3) := by decide +kernel
theorem d_Md_inverse_88 : decode (fnB F_Md_inverse) 88 = .ok (.iconst (-1), 1) := by decide +kernel
theorem d_Md_inverse_89 : decode (fnB F_Md_inverse) 89 = .ok (.ireturn, 1) := by decide +kernel
theorem B_Md_inverse_0 : (∀ (l1 l2 l3 : Value) (x : Nat) (st : List Value) (M : Mm) (Q : Option Value → Mm → Prop), wp F_Md_inverse 0 [.ref x, l1, l2, l3] st M Q = wp F_Md_inverse 1 [.ref x, l1, l2, l3] (.ref x :: st) M Q) ∧
  (∀ (l0 l1 l2 l3 : Value) (st : List Value) (M : Mm) (Q : Option Value → Mm → Prop), wp F_Md_inverse 1 [l0, l1, l2, l3] st M Q = wp F_Md_inverse 2 [l0, l1, l2, l3] (.int 0 :: st) M Q) ∧
  (∀ (l0 l1 l2 l3 : Value) (a : Nat) (x : Int32) (st : List Value) (M : Mm) (Q : Option Value → Mm → Prop), wp F_Md_inverse 2 [l0, l1, l2, l3] (.int x :: .ref a :: st) M Q = (sh M a = some (.inl 12) ∧ wp F_Md_inverse 5 [l0, l1, l2, l3] st (sI M a 0 x) Q)) ∧
  (∀ (l1 l2 l3 : Value) (x : Nat) (st : List Value) (M : Mm) (Q : Option Value → Mm → Prop), wp F_Md_inverse 5 [.ref x, l1, l2, l3] st M Q = wp F_Md_inverse 6 [.ref x, l1, l2, l3] (.ref x :: st) M Q) ∧
  (∀ (l0 l1 l2 l3 : Value) (b : Nat) (M : Mm) (Q : Option Value → Mm → Prop), wp F_Md_inverse 6 [l0, l1, l2, l3] [.ref b] M Q = (sh M b = some (.inl 12) ∧ wp F_Md_isComplete 0 [.ref b] [] M (fun r M1 => wp F_Md_inverse 9 [l0, l1, l2, l3] (r.toList ++ []) M1 Q))) ∧
  (∀ (l0 l1 l2 l3 : Value) (x : Int32) (st : List Value) (M : Mm) (Q : Option Value → Mm → Prop), wp F_Md_inverse 9 [l0, l1, l2, l3] (.int x :: st) M Q = if x = 0 then wp F_Md_inverse 12 [l0, l1, l2, l3] st M Q else wp F_Md_inverse 15 [l0, l1, l2, l3] st M Q) ∧
  (∀ (l0 l1 l2 l3 : Value) (st : List Value) (M : Mm) (Q : Option Value → Mm → Prop), wp F_Md_inverse 12 [l0, l1, l2, l3] st M Q = wp F_Md_inverse 14 [l0, l1, l2, l3] (.int (-3) :: st) M Q) ∧
  (∀ (l0 l1 l2 l3 : Value) (v : Int32) (M : Mm) (Q : Option Value → Mm → Prop), wp F_Md_inverse 14 [l0, l1, l2, l3] [.int v] M Q = Q (some (.int v)) M) := ⟨fun _ _ _ _ _ _ _ => wp_in d_Md_inverse_0 rfl rfl, fun _ _ _ _ _ _ _ => wp_iconst d_Md_inverse_1 (by decide), fun _ _ _ _ _ _ _ _ _ => wp_putI d_Md_inverse_2 fl_12_1 rfl rfl, fun _ _ _ _ _ _ _ => wp_in d_Md_inverse_5 rfl rfl, fun _ _ _ _ _ _ _ => wp_callV d_Md_inverse_6 ml_12_261 rfl rfl rfl, fun _ _ _ _ _ _ _ _ => wp_if_ne d_Md_inverse_9 rfl, fun _ _ _ _ _ _ _ => wp_bipush d_Md_inverse_12 (by decide), fun _ _ _ _ _ _ _ => wp_retI d_Md_inverse_14 rfl⟩
theorem B_Md_inverse_15 : (∀ (l1 l2 l3 : Value) (x : Nat) (st : List Value) (M : Mm) (Q : Option Value → Mm → Prop), wp F_Md_inverse 15 [.ref x, l1, l2, l3] st M Q = wp F_Md_inverse 16 [.ref x, l1, l2, l3] (.ref x :: st) M Q) ∧
  (∀ (l0 l2 l3 : Value) (x : Int32) (st : List Value) (M : Mm) (Q : Option Value → Mm → Prop), wp F_Md_inverse 16 [l0, .int x, l2, l3] st M Q = wp F_Md_inverse 17 [l0, .int x, l2, l3] (.int x :: st) M Q) ∧
  (∀ (l0 l1 l2 l3 : Value) (b : Nat) (p0 : Int32) (M : Mm) (Q : Option Value → Mm → Prop), wp F_Md_inverse 17 [l0, l1, l2, l3] [.int p0, .ref b] M Q = (sh M b = some (.inl 12) ∧ wp F_Md_isElement 0 [.ref b, .int p0] [] M (fun r M1 => wp F_Md_inverse 20 [l0, l1, l2, l3] (r.toList ++ []) M1 Q))) ∧
  (∀ (l0 l1 l2 l3 : Value) (x : Int32) (st : List Value) (M : Mm) (Q : Option Value → Mm → Prop), wp F_Md_inverse 20 [l0, l1, l2, l3] (.int x :: st) M Q = if x = 0 then wp F_Md_inverse 23 [l0, l1, l2, l3] st M Q else wp F_Md_inverse 26 [l0, l1, l2, l3] st M Q) ∧
  (∀ (l0 l1 l2 l3 : Value) (st : List Value) (M : Mm) (Q : Option Value → Mm → Prop), wp F_Md_inverse 23 [l0, l1, l2, l3] st M Q = wp F_Md_inverse 25 [l0, l1, l2, l3] (.int (-2) :: st) M Q) ∧
  (∀ (l0 l1 l2 l3 : Value) (v : Int32) (M : Mm) (Q : Option Value → Mm → Prop), wp F_Md_inverse 25 [l0, l1, l2, l3] [.int v] M Q = Q (some (.int v)) M) := ⟨fun _ _ _ _ _ _ _ => wp_in d_Md_inverse_15 rfl rfl, fun _ _ _ _ _ _ _ => wp_in d_Md_inverse_16 rfl rfl, fun _ _ _ _ _ _ _ _ => wp_callV d_Md_inverse_17 ml_12_328 rfl rfl rfl, fun _ _ _ _ _ _ _ _ => wp_if_ne d_Md_inverse_20 rfl, fun _ _ _ _ _ _ _ => wp_bipush d_Md_inverse_23 (by decide), fun _ _ _ _ _ _ _ => wp_retI d_Md_inverse_25 rfl⟩
theorem B_Md_inverse_26 : (∀ (l0 l1 l2 l3 : Value) (st : List Value) (M : Mm) (Q : Option Value → Mm → Prop), wp F_Md_inverse 26 [l0, l1, l2, l3] st M Q = wp F_Md_inverse 27 [l0, l1, l2, l3] (.int 0 :: st) M Q) ∧
  (∀ (l0 l1 l2 l3 : Value) (x : Int32) (st : List Value) (M : Mm) (Q : Option Value → Mm → Prop), wp F_Md_inverse 27 [l0, l1, l2, l3] (.int x :: st) M Q = wp F_Md_inverse 28 [l0, clr l1, .int x, l3] st M Q) := ⟨fun _ _ _ _ _ _ _ => wp_iconst d_Md_inverse_26 (by decide), fun _ _ _ _ _ _ _ _ => wp_in d_Md_inverse_27 rfl rfl⟩
theorem B_Md_inverse_28 : (∀ (l0 l1 l3 : Value) (x : Int32) (st : List Value) (M : Mm) (Q : Option Value → Mm → Prop), wp F_Md_inverse 28 [l0, l1, .int x, l3] st M Q = wp F_Md_inverse 29 [l0, l1, .int x, l3] (.int x :: st) M Q) ∧
  (∀ (l0 l1 l2 l3 : Value) (st : List Value) (M : Mm) (Q : Option Value → Mm → Prop), wp F_Md_inverse 29 [l0, l1, l2, l3] st M Q = wp F_Md_inverse 32 [l0, l1, l2, l3] (.int 400 :: st) M Q) ∧
  (∀ (l0 l1 l2 l3 : Value) (x y : Int32) (st : List Value) (M : Mm) (Q : Option Value → Mm → Prop), wp F_Md_inverse 32 [l0, l1, l2, l3] (.int y :: .int x :: st) M Q = if y ≤ x then wp F_Md_inverse 88 [l0, l1, l2, l3] st M Q else wp F_Md_inverse 35 [l0, l1, l2, l3] st M Q) ∧
  (∀ (l1 l2 l3 : Value) (x : Nat) (st : List Value) (M : Mm) (Q : Option Value → Mm → Prop), wp F_Md_inverse 35 [.ref x, l1, l2, l3] st M Q = wp F_Md_inverse 36 [.ref x, l1, l2, l3] (.ref x :: st) M Q) ∧
  (∀ (l0 l1 l3 : Value) (x : Int32) (st : List Value) (M : Mm) (Q : Option Value → Mm → Prop), wp F_Md_inverse 36 [l0, l1, .int x, l3] st M Q = wp F_Md_inverse 37 [l0, l1, .int x, l3] (.int x :: st) M Q) ∧
  (∀ (l0 l1 l2 l3 : Value) (b : Nat) (p0 : Int32) (M : Mm) (Q : Option Value → Mm → Prop), wp F_Md_inverse 37 [l0, l1, l2, l3] [.int p0, .ref b] M Q = (sh M b = some (.inl 12) ∧ wp F_Md_isElement 0 [.ref b, .int p0] [] M (fun r M1 => wp F_Md_inverse 40 [l0, l1, l2, l3] (r.toList ++ []) M1 Q))) ∧
  (∀ (l0 l1 l2 l3 : Value) (x : Int32) (st : List Value) (M : Mm) (Q : Option Value → Mm → Prop), wp F_Md_inverse 40 [l0, l1, l2, l3] (.int x :: st) M Q = if x = 0 then wp F_Md_inverse 88 [l0, l1, l2, l3] st M Q else wp F_Md_inverse 43 [l0, l1, l2, l3] st M Q) ∧
  (∀ (l1 l2 l3 : Value) (x : Nat) (st : List Value) (M : Mm) (Q : Option Value → Mm → Prop), wp F_Md_inverse 43 [.ref x, l1, l2, l3] st M Q = wp F_Md_inverse 44 [.ref x, l1, l2, l3] (.ref x :: st) M Q) ∧
  (∀ (l0 l2 l3 : Value) (x : Int32) (st : List Value) (M : Mm) (Q : Option Value → Mm → Prop), wp F_Md_inverse 44 [l0, .int x, l2, l3] st M Q = wp F_Md_inverse 45 [l0, .int x, l2, l3] (.int x :: st) M Q) ∧
  (∀ (l0 l1 l3 : Value) (x : Int32) (st : List Value) (M : Mm) (Q : Option Value → Mm → Prop), wp F_Md_inverse 45 [l0, l1, .int x, l3] st M Q = wp F_Md_inverse 46 [l0, l1, .int x, l3] (.int x :: st) M Q) ∧
  (∀ (l0 l1 l2 l3 : Value) (b : Nat) (p0 : Int32) (p1 : Int32) (M : Mm) (Q : Option Value → Mm → Prop), wp F_Md_inverse 46 [l0, l1, l2, l3] [.int p1, .int p0, .ref b] M Q = (sh M b = some (.inl 12) ∧ wp F_Md_productOf 0 [.ref b, .int p0, .int p1, jk, jk, jk] [] M (fun r M1 => wp F_Md_inverse 49 [l0, l1, l2, l3] (r.toList ++ []) M1 Q))) ∧
  (∀ (l0 l1 l2 l3 : Value) (x : Int32) (st : List Value) (M : Mm) (Q : Option Value → Mm → Prop), wp F_Md_inverse 49 [l0, l1, l2, l3] (.int x :: st) M Q = wp F_Md_inverse 50 [l0, l1, clr l2, .int x] st M Q) ∧
  (∀ (l0 l1 l2 : Value) (x : Int32) (st : List Value) (M : Mm) (Q : Option Value → Mm → Prop), wp F_Md_inverse 50 [l0, l1, l2, .int x] st M Q = wp F_Md_inverse 51 [l0, l1, l2, .int x] (.int x :: st) M Q) ∧
  (∀ (l0 l1 l2 l3 : Value) (x : Int32) (st : List Value) (M : Mm) (Q : Option Value → Mm → Prop), wp F_Md_inverse 51 [l0, l1, l2, l3] (.int x :: st) M Q = if x = 0 then wp F_Md_inverse 54 [l0, l1, l2, l3] st M Q else wp F_Md_inverse 61 [l0, l1, l2, l3] st M Q) ∧
  (∀ (l1 l2 l3 : Value) (x : Nat) (st : List Value) (M : Mm) (Q : Option Value → Mm → Prop), wp F_Md_inverse 54 [.ref x, l1, l2, l3] st M Q = wp F_Md_inverse 55 [.ref x, l1, l2, l3] (.ref x :: st) M Q) ∧
  (∀ (l0 l1 l3 : Value) (x : Int32) (st : List Value) (M : Mm) (Q : Option Value → Mm → Prop), wp F_Md_inverse 55 [l0, l1, .int x, l3] st M Q = wp F_Md_inverse 56 [l0, l1, .int x, l3] (.int x :: st) M Q) ∧
  (∀ (l0 l2 l3 : Value) (x : Int32) (st : List Value) (M : Mm) (Q : Option Value → Mm → Prop), wp F_Md_inverse 56 [l0, .int x, l2, l3] st M Q = wp F_Md_inverse 57 [l0, .int x, l2, l3] (.int x :: st) M Q) ∧
  (∀ (l0 l1 l2 l3 : Value) (b : Nat) (p0 : Int32) (p1 : Int32) (M : Mm) (Q : Option Value → Mm → Prop), wp F_Md_inverse 57 [l0, l1, l2, l3] [.int p1, .int p0, .ref b] M Q = (sh M b = some (.inl 12) ∧ wp F_Md_productOf 0 [.ref b, .int p0, .int p1, jk, jk, jk] [] M (fun r M1 => wp F_Md_inverse 60 [l0, l1, l2, l3] (r.toList ++ []) M1 Q))) ∧
  (∀ (l0 l1 l2 l3 : Value) (x : Int32) (st : List Value) (M : Mm) (Q : Option Value → Mm → Prop), wp F_Md_inverse 60 [l0, l1, l2, l3] (.int x :: st) M Q = wp F_Md_inverse 61 [l0, l1, clr l2, .int x] st M Q) := ⟨fun _ _ _ _ _ _ _ => wp_in d_Md_inverse_28 rfl rfl, fun _ _ _ _ _ _ _ => wp_sipush d_Md_inverse_29 (by decide), fun _ _ _ _ _ _ _ _ _ => wp_icmp_ge d_Md_inverse_32 rfl, fun _ _ _ _ _ _ _ => wp_in d_Md_inverse_35 rfl rfl, fun _ _ _ _ _ _ _ => wp_in d_Md_inverse_36 rfl rfl, fun _ _ _ _ _ _ _ _ => wp_callV d_Md_inverse_37 ml_12_328 rfl rfl rfl, fun _ _ _ _ _ _ _ _ => wp_if_eq d_Md_inverse_40 rfl, fun _ _ _ _ _ _ _ => wp_in d_Md_inverse_43 rfl rfl, fun _ _ _ _ _ _ _ => wp_in d_Md_inverse_44 rfl rfl, fun _ _ _ _ _ _ _ => wp_in d_Md_inverse_45 rfl rfl, fun _ _ _ _ _ _ _ _ _ => wp_callV d_Md_inverse_46 ml_12_341 rfl rfl rfl, fun _ _ _ _ _ _ _ _ => wp_in d_Md_inverse_49 rfl rfl, fun _ _ _ _ _ _ _ => wp_in d_Md_inverse_50 rfl rfl, fun _ _ _ _ _ _ _ _ => wp_if_ne d_Md_inverse_51 rfl, fun _ _ _ _ _ _ _ => wp_in d_Md_inverse_54 rfl rfl, fun _ _ _ _ _ _ _ => wp_in d_Md_inverse_55 rfl rfl, fun _ _ _ _ _ _ _ => wp_in d_Md_inverse_56 rfl rfl, fun _ _ _ _ _ _ _ _ _ => wp_callV d_Md_inverse_57 ml_12_341 rfl rfl rfl, fun _ _ _ _ _ _ _ _ => wp_in d_Md_inverse_60 rfl rfl⟩
theorem B_Md_inverse_61 : (∀ (l0 l1 l2 : Value) (x : Int32) (st : List Value) (M : Mm) (Q : Option Value → Mm → Prop), wp F_Md_inverse 61 [l0, l1, l2, .int x] st M Q = wp F_Md_inverse 62 [l0, l1, l2, .int x] (.int x :: st) M Q) ∧
  (∀ (l0 l1 l2 l3 : Value) (st : List Value) (M : Mm) (Q : Option Value → Mm → Prop), wp F_Md_inverse 62 [l0, l1, l2, l3] st M Q = wp F_Md_inverse 64 [l0, l1, l2, l3] (.int (-4) :: st) M Q) ∧
  (∀ (l0 l1 l2 l3 : Value) (x y : Int32) (st : List Value) (M : Mm) (Q : Option Value → Mm → Prop), wp F_Md_inverse 64 [l0, l1, l2, l3] (.int y :: .int x :: st) M Q = if x = y then wp F_Md_inverse 71 [l0, l1, l2, l3] st M Q else wp F_Md_inverse 67 [l0, l1, l2, l3] st M Q) ∧
  (∀ (l0 l1 l2 : Value) (x : Int32) (st : List Value) (M : Mm) (Q : Option Value → Mm → Prop), wp F_Md_inverse 67 [l0, l1, l2, .int x] st M Q = wp F_Md_inverse 68 [l0, l1, l2, .int x] (.int x :: st) M Q) ∧
  (∀ (l0 l1 l2 l3 : Value) (x : Int32) (st : List Value) (M : Mm) (Q : Option Value → Mm → Prop), wp F_Md_inverse 68 [l0, l1, l2, l3] (.int x :: st) M Q = if x = 0 then wp F_Md_inverse 71 [l0, l1, l2, l3] st M Q else wp F_Md_inverse 82 [l0, l1, l2, l3] st M Q) := ⟨fun _ _ _ _ _ _ _ => wp_in d_Md_inverse_61 rfl rfl, fun _ _ _ _ _ _ _ => wp_bipush d_Md_inverse_62 (by decide), fun _ _ _ _ _ _ _ _ _ => wp_icmp_eq d_Md_inverse_64 rfl, fun _ _ _ _ _ _ _ => wp_in d_Md_inverse_67 rfl rfl, fun _ _ _ _ _ _ _ _ => wp_if_ne d_Md_inverse_68 rfl⟩
theorem B_Md_inverse_71 : (∀ (l0 l1 l2 : Value) (x : Int32) (st : List Value) (M : Mm) (Q : Option Value → Mm → Prop), wp F_Md_inverse 71 [l0, l1, l2, .int x] st M Q = wp F_Md_inverse 72 [l0, l1, l2, .int x] (.int x :: st) M Q) ∧
  (∀ (l0 l1 l2 l3 : Value) (x : Int32) (st : List Value) (M : Mm) (Q : Option Value → Mm → Prop), wp F_Md_inverse 72 [l0, l1, l2, l3] (.int x :: st) M Q = if x = 0 then wp F_Md_inverse 75 [l0, l1, l2, l3] st M Q else wp F_Md_inverse 79 [l0, l1, l2, l3] st M Q) ∧
  (∀ (l0 l1 l3 : Value) (x : Int32) (st : List Value) (M : Mm) (Q : Option Value → Mm → Prop), wp F_Md_inverse 75 [l0, l1, .int x, l3] st M Q = wp F_Md_inverse 76 [l0, l1, .int x, l3] (.int x :: st) M Q) ∧
  (∀ (l0 l1 l2 l3 : Value) (st : List Value) (M : Mm) (Q : Option Value → Mm → Prop), wp F_Md_inverse 76 [l0, l1, l2, l3] st M Q = wp F_Md_inverse 81 [l0, l1, l2, l3] st M Q) := ⟨fun _ _ _ _ _ _ _ => wp_in d_Md_inverse_71 rfl rfl, fun _ _ _ _ _ _ _ _ => wp_if_ne d_Md_inverse_72 rfl, fun _ _ _ _ _ _ _ => wp_in d_Md_inverse_75 rfl rfl, fun _ _ _ _ _ _ _ => wp_goto d_Md_inverse_76 rfl⟩
theorem B_Md_inverse_79 : (∀ (l0 l1 l2 l3 : Value) (st : List Value) (M : Mm) (Q : Option Value → Mm → Prop), wp F_Md_inverse 79 [l0, l1, l2, l3] st M Q = wp F_Md_inverse 81 [l0, l1, l2, l3] (.int (-4) :: st) M Q) := fun _ _ _ _ _ _ _ => wp_bipush d_Md_inverse_79 (by decide)
theorem B_Md_inverse_81 : (∀ (l0 l1 l2 l3 : Value) (v : Int32) (M : Mm) (Q : Option Value → Mm → Prop), wp F_Md_inverse 81 [l0, l1, l2, l3] [.int v] M Q = Q (some (.int v)) M) := fun _ _ _ _ _ _ _ => wp_retI d_Md_inverse_81 rfl
theorem B_Md_inverse_82 : (∀ (l0 l1 l3 : Value) (x : Int32) (st : List Value) (M : Mm) (Q : Option Value → Mm → Prop), wp F_Md_inverse 82 [l0, l1, .int x, l3] st M Q = wp F_Md_inverse 85 [l0, clr l1, .int (x + 1), l3] st M Q) := fun _ _ _ _ _ _ _ => wp_iinc d_Md_inverse_82 (by decide) rfl rfl
theorem B_Md_inverse_88 : (∀ (l0 l1 l2 l3 : Value) (st : List Value) (M : Mm) (Q : Option Value → Mm → Prop), wp F_Md_inverse 88 [l0, l1, l2, l3] st M Q = wp F_Md_inverse 89 [l0, l1, l2, l3] (.int (-1) :: st) M Q) ∧
  (∀ (l0 l1 l2 l3 : Value) (v : Int32) (M : Mm) (Q : Option Value → Mm → Prop), wp F_Md_inverse 89 [l0, l1, l2, l3] [.int v] M Q = Q (some (.int v)) M) := ⟨fun _ _ _ _ _ _ _ => wp_iconst d_Md_inverse_88 (by decide), fun _ _ _ _ _ _ _ => wp_retI d_Md_inverse_89 rfl⟩
theorem G_Md_inverse_85 (l0 l1 l2 l3 : Value) (st : List Value) (M : Mm) (Q : Option Value → Mm → Prop) : wp F_Md_inverse 85 [l0, l1, l2, l3] st M Q = wp F_Md_inverse 28 [l0, l1, l2, l3] st M Q := wp_goto d_Md_inverse_85 rfl
theorem d_Md_commutes_0 : decode (fnB F_Md_commutes) 0 = .ok (.aload_n 0, 1) := by decide +kernel
theorem d_Md_commutes_1 : decode (fnB F_Md_commutes) 1 = .ok (.iconst 0, 1) := by decide +kernel
theorem d_Md_commutes_2 : decode (fnB F_Md_commutes) 2 = .ok (.putfield 1, 3) := by decide +kernel
theorem d_Md_commutes_5 : decode (fnB F_Md_commutes) 5 = .ok (.aload_n 0, 1) := by decide +kernel
theorem d_Md_commutes_6 : decode (fnB F_Md_commutes) 6 = .ok (.invokevirtual 261, 3) := by decide +kernel
theorem d_Md_commutes_9 : decode (fnB F_Md_commutes) 9 = .ok (.ifCond .ne 6, 3) := by decide +kernel
theorem d_Md_commutes_12 : decode (fnB F_Md_commutes) 12 = .ok (.bipush (-3), 2) := by decide +kernel
theorem d_Md_commutes_14 : decode (fnB F_Md_commutes) 14 = .ok (.ireturn, 1) := by decide +kernel
theorem d_Md_commutes_15 : decode (fnB F_Md_commutes) 15 = .ok (.iconst 0, 1) := by decide +kernel
theorem d_Md_commutes_16 : decode (fnB F_Md_commutes) 16 = .ok (.istore_n 1, 1) := by decide +kernel
theorem d_Md_commutes_17 : decode (fnB F_Md_commutes) 17 = .ok (.iload_n 1, 1) := by decide +kernel
theorem d_Md_commutes_18 : decode (fnB F_Md_commutes) 18 = .ok (.aload_n 0, 1) := by decide +kernel
theorem d_Md_commutes_19 : decode (fnB F_Md_commutes) 19 = .ok (.getfield 81, 3) := by decide +kernel
theorem d_Md_commutes_22 : decode (fnB F_Md_commutes) 22 = .ok (.if_icmp .ge 97, 3) := by decide +kernel
theorem d_Md_commutes_25 : decode (fnB F_Md_commutes) 25 = .ok (.iload_n 1, 1) := by decide +kernel
theorem d_Md_commutes_26 : decode (fnB F_Md_commutes) 26 = .ok (.iconst 1, 1) := by decide +kernel
theorem d_Md_commutes_27 : decode (fnB F_Md_commutes) 27 = .ok (.iadd, 1) := by decide +kernel
theorem d_Md_commutes_28 : decode (fnB F_Md_commutes) 28 = .ok (.istore_n 2, 1) := by decide +kernel
theorem d_Md_commutes_29 : decode (fnB F_Md_commutes) 29 = .ok (.iload_n 2, 1) := by decide +kernel
theorem d_Md_commutes_30 : decode (fnB F_Md_commutes) 30 = .ok (.aload_n 0, 1) := by decide +kernel
theorem d_Md_commutes_31 : decode (fnB F_Md_commutes) 31 = .ok (.getfield 81, 3) := by decide +kernel
theorem d_Md_commutes_34 : decode (fnB F_Md_commutes) 34 = .ok (.if_icmp .ge 79, 3) := by decide +kernel
theorem d_Md_commutes_37 : decode (fnB F_Md_commutes) 37 = .ok (.aload_n 0, 1) := by decide +kernel
theorem d_Md_commutes_38 : decode (fnB F_Md_commutes) 38 = .ok (.getfield 157, 3) := by decide +kernel
theorem d_Md_commutes_41 : decode (fnB F_Md_commutes) 41 = .ok (.iconst 0, 1) := by decide +kernel
theorem d_Md_commutes_42 : decode (fnB F_Md_commutes) 42 = .ok (.iload_n 1, 1) := by decide +kernel
theorem d_Md_commutes_43 : decode (fnB F_Md_commutes) 43 = .ok (.iastore, 1) := by decide +kernel
theorem d_Md_commutes_44 : decode (fnB F_Md_commutes) 44 = .ok (.aload_n 0, 1) := by decide +kernel
theorem d_Md_commutes_45 : decode (fnB F_Md_commutes) 45 = .ok (.getfield 157, 3) := by decide +kernel
theorem d_Md_commutes_48 : decode (fnB F_Md_commutes) 48 = .ok (.iconst 1, 1) := by decide +kernel
theorem d_Md_commutes_49 : decode (fnB F_Md_commutes) 49 = .ok (.iload_n 2, 1) := by decide +kernel
theorem d_Md_commutes_50 : decode (fnB F_Md_commutes) 50 = .ok (.iastore, 1) := by decide +kernel
theorem d_Md_commutes_51 : decode (fnB F_Md_commutes) 51 = .ok (.aload_n 0, 1) := by decide +kernel
theorem d_Md_commutes_52 : decode (fnB F_Md_commutes) 52 = .ok (.aload_n 0, 1) := by decide +kernel
theorem d_Md_commutes_53 : decode (fnB F_Md_commutes) 53 = .ok (.getfield 157, 3) := by decide +kernel
theorem d_Md_commutes_56 : decode (fnB F_Md_commutes) 56 = .ok (.iconst 2, 1) := by decide +kernel
theorem d_Md_commutes_57 : decode (fnB F_Md_commutes) 57 = .ok (.invokevirtual 213, 3) := by decide +kernel
theorem d_Md_commutes_60 : decode (fnB F_Md_commutes) 60 = .ok (.istore_n 3, 1) := by decide +kernel
theorem d_Md_commutes_61 : decode (fnB F_Md_commutes) 61 = .ok (.aload_n 0, 1) := by decide +kernel
theorem d_Md_commutes_62 : decode (fnB F_Md_commutes) 62 = .ok (.getfield 160, 3) := by decide +kernel
theorem d_Md_commutes_65 : decode (fnB F_Md_commutes) 65 = .ok (.iconst 0, 1) := by decide +kernel
theorem d_Md_commutes_66 : decode (fnB F_Md_commutes) 66 = .ok (.iload_n 2, 1) := by decide +kernel
theorem d_Md_commutes_67 : decode (fnB F_Md_commutes) 67 = .ok (.iastore, 1) := by decide +kernel
theorem d_Md_commutes_68 : decode (fnB F_Md_commutes) 68 = .ok (.aload_n 0, 1) := by decide +kernel
theorem d_Md_commutes_69 : decode (fnB F_Md_commutes) 69 = .ok (.getfield 160, 3) := by decide +kernel
theorem d_Md_commutes_72 : decode (fnB F_Md_commutes) 72 = .ok (.iconst 1, 1) := by decide +kernel
theorem d_Md_commutes_73 : decode (fnB F_Md_commutes) 73 = .ok (.iload_n 1, 1) := by decide +kernel
theorem d_Md_commutes_74 : decode (fnB F_Md_commutes) 74 = .ok (.iastore, 1) := by decide +kernel
theorem d_Md_commutes_75 : decode (fnB F_Md_commutes) 75 = .ok (.aload_n 0, 1) := by decide +kernel
theorem d_Md_commutes_76 : decode (fnB F_Md_commutes) 76 = .ok (.aload_n 0, 1) := by decide +kernel
theorem d_Md_commutes_77 : decode (fnB F_Md_commutes) 77 = .ok (.getfield 160, 3) := by decide +kernel
theorem d_Md_commutes_80 : decode (fnB F_Md_commutes) 80 = .ok (.iconst 2, 1) := by decide +kernel
theorem d_Md_commutes_81 : decode (fnB F_Md_commutes) 81 = .ok (.invokevirtual 213, 3) := by decide +kernel
theorem d_Md_commutes_84 : decode (fnB F_Md_commutes) 84 = .ok (.istore 4, 2) := by decide +kernel
theorem d_Md_commutes_86 : decode (fnB F_Md_commutes) 86 = .ok (.aload_n 0, 1) := by decide +kernel
theorem d_Md_commutes_87 : decode (fnB F_Md_commutes) 87 = .ok (.getfield 157, 3) := by decide +kernel
theorem d_Md_commutes_90 : decode (fnB F_Md_commutes) 90 = .ok (.iconst 0, 1) := by decide +kernel
theorem d_Md_commutes_91 : decode (fnB F_Md_commutes) 91 = .ok (.iload_n 3, 1) := by decide +kernel
theorem d_Md_commutes_92 : decode (fnB F_Md_commutes) 92 = .ok (.aload_n 0, 1) := by decide +kernel
theorem d_Md_commutes_93 : decode (fnB F_Md_commutes) 93 = .ok (.getfield 160, 3) := by decide +kernel
theorem d_Md_commutes_96 : decode (fnB F_Md_commutes) 96 = .ok (.iconst 0, 1) := by decide +kernel
theorem d_Md_commutes_97 : decode (fnB F_Md_commutes) 97 = .ok (.iload 4, 2) := by decide +kernel
theorem d_Md_commutes_99 : decode (fnB F_Md_commutes) 99 = .ok (.invokestatic 237, 3) := by decide +kernel
theorem d_Md_commutes_102 : decode (fnB F_Md_commutes) 102 = .ok (.ifCond .eq 5, 3) := by decide +kernel
theorem d_Md_commutes_105 : decode (fnB F_Md_commutes) 105 = .ok (.iconst 0, 1) := by decide +kernel
theorem d_Md_commutes_106 : decode (fnB F_Md_commutes) 106 = .ok (.ireturn, 1) := by decide +kernel
theorem d_Md_commutes_107 : decode (fnB F_Md_commutes) 107 = .ok (.iinc 2 1, 3) := by decide +kernel
theorem d_Md_commutes_110 : decode (fnB F_Md_commutes) 110 = .ok (.goto (-81), 3) := by decide +kernel
theorem d_Md_commutes_113 : decode (fnB F_Md_commutes) 113 = .ok (.iinc 1 1, 3) := by decide +kernel
theorem d_Md_commutes_116 : decode (fnB F_Md_commutes) 116 = .ok (.goto (-99), 3) := by decide +kernel
theorem d_Md_commutes_119 : decode (fnB F_Md_commutes) 119 = .ok (.iconst 1, 1) := by decide +kernel
theorem d_Md_commutes_120 : decode (fnB F_Md_commutes) 120 = .ok (.ireturn, 1) := by decide +kernel
theorem B_Md_commutes_0 : (∀ (l1 l2 l3 l4 : Value) (x : Nat) (st : List Value) (M : Mm) (Q : Option Value → Mm → Prop), wp F_Md_commutes 0 [.ref x, l1, l2, l3, l4] st M Q = wp F_Md_commutes 1 [.ref x, l1, l2, l3, l4] (.ref x :: st) M Q) ∧
  (∀ (l0 l1 l2 l3 l4 : Value) (st : List Value) (M : Mm) (Q : Option Value → Mm → Prop), wp F_Md_commutes 1 [l0, l1, l2, l3, l4] st M Q = wp F_Md_commutes 2 [l0, l1, l2, l3, l4] (.int 0 :: st) M Q) ∧
  (∀ (l0 l1 l2 l3 l4 : Value) (a : Nat) (x : Int32) (st : List Value) (M : Mm) (Q : Option Value → Mm → Prop), wp F_Md_commutes 2 [l0, l1, l2, l3, l4] (.int x :: .ref a :: st) M Q = (sh M a = some (.inl 12) ∧ wp F_Md_commutes 5 [l0, l1, l2, l3, l4] st (sI M a 0 x) Q)) ∧
  (∀ (l1 l2 l3 l4 : Value) (x : Nat) (st : List Value) (M : Mm) (Q : Option Value → Mm → Prop), wp F_Md_commutes 5 [.ref x, l1, l2, l3, l4] st M Q = wp F_Md_commutes 6 [.ref x, l1, l2, l3, l4] (.ref x :: st) M Q) ∧
  (∀ (l0 l1 l2 l3 l4 : Value) (b : Nat) (M : Mm) (Q : Option Value → Mm → Prop), wp F_Md_commutes 6 [l0, l1, l2, l3, l4] [.ref b] M Q = (sh M b = some (.inl 12) ∧ wp F_Md_isComplete 0 [.ref b] [] M (fun r M1 => wp F_Md_commutes 9 [l0, l1, l2, l3, l4] (r.toList ++ []) M1 Q))) ∧
  (∀ (l0 l1 l2 l3 l4 : Value) (x : Int32) (st : List Value) (M : Mm) (Q : Option Value → Mm → Prop), wp F_Md_commutes 9 [l0, l1, l2, l3, l4] (.int x :: st) M Q = if x = 0 then wp F_Md_commutes 12 [l0, l1, l2, l3, l4] st M Q else wp F_Md_commutes 15 [l0, l1, l2, l3, l4] st M Q) ∧
  (∀ (l0 l1 l2 l3 l4 : Value) (st : List Value) (M : Mm) (Q : Option Value → Mm → Prop), wp F_Md_commutes 12 [l0, l1, l2, l3, l4] st M Q = wp F_Md_commutes 14 [l0, l1, l2, l3, l4] (.int (-3) :: st) M Q) ∧
  (∀ (l0 l1 l2 l3 l4 : Value) (v : Int32) (M : Mm) (Q : Option Value → Mm → Prop), wp F_Md_commutes 14 [l0, l1, l2, l3, l4] [.int v] M Q = Q (some (.int v)) M) := ⟨fun _ _ _ _ _ _ _ _ => wp_in d_Md_commutes_0 rfl rfl, fun _ _ _ _ _ _ _ _ => wp_iconst d_Md_commutes_1 (by decide), fun _ _ _ _ _ _ _ _ _ _ => wp_putI d_Md_commutes_2 fl_12_1 rfl rfl, fun _ _ _ _ _ _ _ _ => wp_in d_Md_commutes_5 rfl rfl, fun _ _ _ _ _ _ _ _ => wp_callV d_Md_commutes_6 ml_12_261 rfl rfl rfl, fun _ _ _ _ _ _ _ _ _ => wp_if_ne d_Md_commutes_9 rfl, fun _ _ _ _ _ _ _ _ => wp_bipush d_Md_commutes_12 (by decide), fun _ _ _ _ _ _ _ _ => wp_retI d_Md_commutes_14 rfl⟩
theorem B_Md_commutes_15 : (∀ (l0 l1 l2 l3 l4 : Value) (st : List Value) (M : Mm) (Q : Option Value → Mm → Prop), wp F_Md_commutes 15 [l0, l1, l2, l3, l4] st M Q = wp F_Md_commutes 16 [l0, l1, l2, l3, l4] (.int 0 :: st) M Q) ∧
  (∀ (l0 l1 l2 l3 l4 : Value) (x : Int32) (st : List Value) (M : Mm) (Q : Option Value → Mm → Prop), wp F_Md_commutes 16 [l0, l1, l2, l3, l4] (.int x :: st) M Q = wp F_Md_commutes 17 [clr l0, .int x, l2, l3, l4] st M Q) := ⟨fun _ _ _ _ _ _ _ _ => wp_iconst d_Md_commutes_15 (by decide), fun _ _ _ _ _ _ _ _ _ => wp_in d_Md_commutes_16 rfl rfl⟩
theorem B_Md_commutes_17 : (∀ (l0 l2 l3 l4 : Value) (x : Int32) (st : List Value) (M : Mm) (Q : Option Value → Mm → Prop), wp F_Md_commutes 17 [l0, .int x, l2, l3, l4] st M Q = wp F_Md_commutes 18 [l0, .int x, l2, l3, l4] (.int x :: st) M Q) ∧
  (∀ (l1 l2 l3 l4 : Value) (x : Nat) (st : List Value) (M : Mm) (Q : Option Value → Mm → Prop), wp F_Md_commutes 18 [.ref x, l1, l2, l3, l4] st M Q = wp F_Md_commutes 19 [.ref x, l1, l2, l3, l4] (.ref x :: st) M Q) ∧
  (∀ (l0 l1 l2 l3 l4 : Value) (a : Nat) (st : List Value) (M : Mm) (Q : Option Value → Mm → Prop), wp F_Md_commutes 19 [l0, l1, l2, l3, l4] (.ref a :: st) M Q = (sh M a = some (.inl 12) ∧ wp F_Md_commutes 22 [l0, l1, l2, l3, l4] (.int (gI M a 11) :: st) M Q)) ∧
  (∀ (l0 l1 l2 l3 l4 : Value) (x y : Int32) (st : List Value) (M : Mm) (Q : Option Value → Mm → Prop), wp F_Md_commutes 22 [l0, l1, l2, l3, l4] (.int y :: .int x :: st) M Q = if y ≤ x then wp F_Md_commutes 119 [l0, l1, l2, l3, l4] st M Q else wp F_Md_commutes 25 [l0, l1, l2, l3, l4] st M Q) ∧
  (∀ (l0 l2 l3 l4 : Value) (x : Int32) (st : List Value) (M : Mm) (Q : Option Value → Mm → Prop), wp F_Md_commutes 25 [l0, .int x, l2, l3, l4] st M Q = wp F_Md_commutes 26 [l0, .int x, l2, l3, l4] (.int x :: st) M Q) ∧
  (∀ (l0 l1 l2 l3 l4 : Value) (st : List Value) (M : Mm) (Q : Option Value → Mm → Prop), wp F_Md_commutes 26 [l0, l1, l2, l3, l4] st M Q = wp F_Md_commutes 27 [l0, l1, l2, l3, l4] (.int 1 :: st) M Q) ∧
  (∀ (l0 l1 l2 l3 l4 : Value) (x y : Int32) (st : List Value) (M : Mm) (Q : Option Value → Mm → Prop), wp F_Md_commutes 27 [l0, l1, l2, l3, l4] (.int y :: .int x :: st) M Q = wp F_Md_commutes 28 [l0, l1, l2, l3, l4] (.int (x + y) :: st) M Q) ∧
  (∀ (l0 l1 l2 l3 l4 : Value) (x : Int32) (st : List Value) (M : Mm) (Q : Option Value → Mm → Prop), wp F_Md_commutes 28 [l0, l1, l2, l3, l4] (.int x :: st) M Q = wp F_Md_commutes 29 [l0, clr l1, .int x, l3, l4] st M Q) := ⟨fun _ _ _ _ _ _ _ _ => wp_in d_Md_commutes_17 rfl rfl, fun _ _ _ _ _ _ _ _ => wp_in d_Md_commutes_18 rfl rfl, fun _ _ _ _ _ _ _ _ _ => wp_getI d_Md_commutes_19 fl_12_81 rfl, fun _ _ _ _ _ _ _ _ _ _ => wp_icmp_ge d_Md_commutes_22 rfl, fun _ _ _ _ _ _ _ _ => wp_in d_Md_commutes_25 rfl rfl, fun _ _ _ _ _ _ _ _ => wp_iconst d_Md_commutes_26 (by decide), fun _ _ _ _ _ _ _ _ _ _ => wp_in d_Md_commutes_27 rfl rfl, fun _ _ _ _ _ _ _ _ _ => wp_in d_Md_commutes_28 rfl rfl⟩
theorem B_Md_commutes_29 : (∀ (l0 l1 l3 l4 : Value) (x : Int32) (st : List Value) (M : Mm) (Q : Option Value → Mm → Prop), wp F_Md_commutes 29 [l0, l1, .int x, l3, l4] st M Q = wp F_Md_commutes 30 [l0, l1, .int x, l3, l4] (.int x :: st) M Q) ∧
  (∀ (l1 l2 l3 l4 : Value) (x : Nat) (st : List Value) (M : Mm) (Q : Option Value → Mm → Prop), wp F_Md_commutes 30 [.ref x, l1, l2, l3, l4] st M Q = wp F_Md_commutes 31 [.ref x, l1, l2, l3, l4] (.ref x :: st) M Q) ∧
  (∀ (l0 l1 l2 l3 l4 : Value) (a : Nat) (st : List Value) (M : Mm) (Q : Option Value → Mm → Prop), wp F_Md_commutes 31 [l0, l1, l2, l3, l4] (.ref a :: st) M Q = (sh M a = some (.inl 12) ∧ wp F_Md_commutes 34 [l0, l1, l2, l3, l4] (.int (gI M a 11) :: st) M Q)) ∧
  (∀ (l0 l1 l2 l3 l4 : Value) (x y : Int32) (st : List Value) (M : Mm) (Q : Option Value → Mm → Prop), wp F_Md_commutes 34 [l0, l1, l2, l3, l4] (.int y :: .int x :: st) M Q = if y ≤ x then wp F_Md_commutes 113 [l0, l1, l2, l3, l4] st M Q else wp F_Md_commutes 37 [l0, l1, l2, l3, l4] st M Q) ∧
  (∀ (l1 l2 l3 l4 : Value) (x : Nat) (st : List Value) (M : Mm) (Q : Option Value → Mm → Prop), wp F_Md_commutes 37 [.ref x, l1, l2, l3, l4] st M Q = wp F_Md_commutes 38 [.ref x, l1, l2, l3, l4] (.ref x :: st) M Q) ∧
  (∀ (l0 l1 l2 l3 l4 : Value) (a : Nat) (st : List Value) (M : Mm) (Q : Option Value → Mm → Prop), wp F_Md_commutes 38 [l0, l1, l2, l3, l4] (.ref a :: st) M Q = (sh M a = some (.inl 12) ∧ wp F_Md_commutes 41 [l0, l1, l2, l3, l4] (va_rf (gR M a 29) :: st) M Q)) ∧
  (∀ (l0 l1 l2 l3 l4 : Value) (st : List Value) (M : Mm) (Q : Option Value → Mm → Prop), wp F_Md_commutes 41 [l0, l1, l2, l3, l4] st M Q = wp F_Md_commutes 42 [l0, l1, l2, l3, l4] (.int 0 :: st) M Q) ∧
  (∀ (l0 l2 l3 l4 : Value) (x : Int32) (st : List Value) (M : Mm) (Q : Option Value → Mm → Prop), wp F_Md_commutes 42 [l0, .int x, l2, l3, l4] st M Q = wp F_Md_commutes 43 [l0, .int x, l2, l3, l4] (.int x :: st) M Q) ∧
  (∀ (l0 l1 l2 l3 l4 : Value) (a : Nat) (j x : Int32) (st : List Value) (M : Mm) (Q : Option Value → Mm → Prop), wp F_Md_commutes 43 [l0, l1, l2, l3, l4] (.int x :: .int j :: .ref a :: st) M Q = (ixW M a j ∧ wp F_Md_commutes 44 [l0, l1, l2, l3, l4] st (sI M a (cl j) x) Q)) ∧
  (∀ (l1 l2 l3 l4 : Value) (x : Nat) (st : List Value) (M : Mm) (Q : Option Value → Mm → Prop), wp F_Md_commutes 44 [.ref x, l1, l2, l3, l4] st M Q = wp F_Md_commutes 45 [.ref x, l1, l2, l3, l4] (.ref x :: st) M Q) ∧
  (∀ (l0 l1 l2 l3 l4 : Value) (a : Nat) (st : List Value) (M : Mm) (Q : Option Value → Mm → Prop), wp F_Md_commutes 45 [l0, l1, l2, l3, l4] (.ref a :: st) M Q = (sh M a = some (.inl 12) ∧ wp F_Md_commutes 48 [l0, l1, l2, l3, l4] (va_rf (gR M a 29) :: st) M Q)) ∧
  (∀ (l0 l1 l2 l3 l4 : Value) (st : List Value) (M : Mm) (Q : Option Value → Mm → Prop), wp F_Md_commutes 48 [l0, l1, l2, l3, l4] st M Q = wp F_Md_commutes 49 [l0, l1, l2, l3, l4] (.int 1 :: st) M Q) ∧
  (∀ (l0 l1 l3 l4 : Value) (x : Int32) (st : List Value) (M : Mm) (Q : Option Value → Mm → Prop), wp F_Md_commutes 49 [l0, l1, .int x, l3, l4] st M Q = wp F_Md_commutes 50 [l0, l1, .int x, l3, l4] (.int x :: st) M Q) ∧
  (∀ (l0 l1 l2 l3 l4 : Value) (a : Nat) (j x : Int32) (st : List Value) (M : Mm) (Q : Option Value → Mm → Prop), wp F_Md_commutes 50 [l0, l1, l2, l3, l4] (.int x :: .int j :: .ref a :: st) M Q = (ixW M a j ∧ wp F_Md_commutes 51 [l0, l1, l2, l3, l4] st (sI M a (cl j) x) Q)) ∧
  (∀ (l1 l2 l3 l4 : Value) (x : Nat) (st : List Value) (M : Mm) (Q : Option Value → Mm → Prop), wp F_Md_commutes 51 [.ref x, l1, l2, l3, l4] st M Q = wp F_Md_commutes 52 [.ref x, l1, l2, l3, l4] (.ref x :: st) M Q) ∧
  (∀ (l1 l2 l3 l4 : Value) (x : Nat) (st : List Value) (M : Mm) (Q : Option Value → Mm → Prop), wp F_Md_commutes 52 [.ref x, l1, l2, l3, l4] st M Q = wp F_Md_commutes 53 [.ref x, l1, l2, l3, l4] (.ref x :: st) M Q) ∧
  (∀ (l0 l1 l2 l3 l4 : Value) (a : Nat) (st : List Value) (M : Mm) (Q : Option Value → Mm → Prop), wp F_Md_commutes 53 [l0, l1, l2, l3, l4] (.ref a :: st) M Q = (sh M a = some (.inl 12) ∧ wp F_Md_commutes 56 [l0, l1, l2, l3, l4] (va_rf (gR M a 29) :: st) M Q)) ∧
  (∀ (l0 l1 l2 l3 l4 : Value) (st : List Value) (M : Mm) (Q : Option Value → Mm → Prop), wp F_Md_commutes 56 [l0, l1, l2, l3, l4] st M Q = wp F_Md_commutes 57 [l0, l1, l2, l3, l4] (.int 2 :: st) M Q) ∧
  (∀ (l0 l1 l2 l3 l4 : Value) (b : Nat) (p0 : Nat) (p1 : Int32) (M : Mm) (Q : Option Value → Mm → Prop), wp F_Md_commutes 57 [l0, l1, l2, l3, l4] [.int p1, .ref p0, .ref b] M Q = (sh M b = some (.inl 12) ∧ wp F_Md_shrink 0 [.ref b, .ref p0, .int p1, jk, jk, jk, jk, jk, jk] [] M (fun r M1 => wp F_Md_commutes 60 [l0, l1, l2, l3, l4] (r.toList ++ []) M1 Q))) ∧
  (∀ (l0 l1 l2 l3 l4 : Value) (x : Int32) (st : List Value) (M : Mm) (Q : Option Value → Mm → Prop), wp F_Md_commutes 60 [l0, l1, l2, l3, l4] (.int x :: st) M Q = wp F_Md_commutes 61 [l0, l1, clr l2, .int x, l4] st M Q) ∧
  (∀ (l1 l2 l3 l4 : Value) (x : Nat) (st : List Value) (M : Mm) (Q : Option Value → Mm → Prop), wp F_Md_commutes 61 [.ref x, l1, l2, l3, l4] st M Q = wp F_Md_commutes 62 [.ref x, l1, l2, l3, l4] (.ref x :: st) M Q) ∧
  (∀ (l0 l1 l2 l3 l4 : Value) (a : Nat) (st : List Value) (M : Mm) (Q : Option Value → Mm → Prop), wp F_Md_commutes 62 [l0, l1, l2, l3, l4] (.ref a :: st) M Q = (sh M a = some (.inl 12) ∧ wp F_Md_commutes 65 [l0, l1, l2, l3, l4] (va_rf (gR M a 30) :: st) M Q)) ∧
  (∀ (l0 l1 l2 l3 l4 : Value) (st : List Value) (M : Mm) (Q : Option Value → Mm → Prop), wp F_Md_commutes 65 [l0, l1, l2, l3, l4] st M Q = wp F_Md_commutes 66 [l0, l1, l2, l3, l4] (.int 0 :: st) M Q) ∧
  (∀ (l0 l1 l3 l4 : Value) (x : Int32) (st : List Value) (M : Mm) (Q : Option Value → Mm → Prop), wp F_Md_commutes 66 [l0, l1, .int x, l3, l4] st M Q = wp F_Md_commutes 67 [l0, l1, .int x, l3, l4] (.int x :: st) M Q) ∧
  (∀ (l0 l1 l2 l3 l4 : Value) (a : Nat) (j x : Int32) (st : List Value) (M : Mm) (Q : Option Value → Mm → Prop), wp F_Md_commutes 67 [l0, l1, l2, l3, l4] (.int x :: .int j :: .ref a :: st) M Q = (ixW M a j ∧ wp F_Md_commutes 68 [l0, l1, l2, l3, l4] st (sI M a (cl j) x) Q)) ∧
  (∀ (l1 l2 l3 l4 : Value) (x : Nat) (st : List Value) (M : Mm) (Q : Option Value → Mm → Prop), wp F_Md_commutes 68 [.ref x, l1, l2, l3, l4] st M Q = wp F_Md_commutes 69 [.ref x, l1, l2, l3, l4] (.ref x :: st) M Q) ∧
  (∀ (l0 l1 l2 l3 l4 : Value) (a : Nat) (st : List Value) (M : Mm) (Q : Option Value → Mm → Prop), wp F_Md_commutes 69 [l0, l1, l2, l3, l4] (.ref a :: st) M Q = (sh M a = some (.inl 12) ∧ wp F_Md_commutes 72 [l0, l1, l2, l3, l4] (va_rf (gR M a 30) :: st) M Q)) ∧
  (∀ (l0 l1 l2 l3 l4 : Value) (st : List Value) (M : Mm) (Q : Option Value → Mm → Prop), wp F_Md_commutes 72 [l0, l1, l2, l3, l4] st M Q = wp F_Md_commutes 73 [l0, l1, l2, l3, l4] (.int 1 :: st) M Q) ∧
  (∀ (l0 l2 l3 l4 : Value) (x : Int32) (st : List Value) (M : Mm) (Q : Option Value → Mm → Prop), wp F_Md_commutes 73 [l0, .int x, l2, l3, l4] st M Q = wp F_Md_commutes 74 [l0, .int x, l2, l3, l4] (.int x :: st) M Q) ∧
  (∀ (l0 l1 l2 l3 l4 : Value) (a : Nat) (j x : Int32) (st : List Value) (M : Mm) (Q : Option Value → Mm → Prop), wp F_Md_commutes 74 [l0, l1, l2, l3, l4] (.int x :: .int j :: .ref a :: st) M Q = (ixW M a j ∧ wp F_Md_commutes 75 [l0, l1, l2, l3, l4] st (sI M a (cl j) x) Q)) ∧
  (∀ (l1 l2 l3 l4 : Value) (x : Nat) (st : List Value) (M : Mm) (Q : Option Value → Mm → Prop), wp F_Md_commutes 75 [.ref x, l1, l2, l3, l4] st M Q = wp F_Md_commutes 76 [.ref x, l1, l2, l3, l4] (.ref x :: st) M Q) ∧
  (∀ (l1 l2 l3 l4 : Value) (x : Nat) (st : List Value) (M : Mm) (Q : Option Value → Mm → Prop), wp F_Md_commutes 76 [.ref x, l1, l2, l3, l4] st M Q = wp F_Md_commutes 77 [.ref x, l1, l2, l3, l4] (.ref x :: st) M Q) ∧
  (∀ (l0 l1 l2 l3 l4 : Value) (a : Nat) (st : List Value) (M : Mm) (Q : Option Value → Mm → Prop), wp F_Md_commutes 77 [l0, l1, l2, l3, l4] (.ref a :: st) M Q = (sh M a = some (.inl 12) ∧ wp F_Md_commutes 80 [l0, l1, l2, l3, l4] (va_rf (gR M a 30) :: st) M Q)) ∧
  (∀ (l0 l1 l2 l3 l4 : Value) (st : List Value) (M : Mm) (Q : Option Value → Mm → Prop), wp F_Md_commutes 80 [l0, l1, l2, l3, l4] st M Q = wp F_Md_commutes 81 [l0, l1, l2, l3, l4] (.int 2 :: st) M Q) ∧
  (∀ (l0 l1 l2 l3 l4 : Value) (b : Nat) (p0 : Nat) (p1 : Int32) (M : Mm) (Q : Option Value → Mm → Prop), wp F_Md_commutes 81 [l0, l1, l2, l3, l4] [.int p1, .ref p0, .ref b] M Q = (sh M b = some (.inl 12) ∧ wp F_Md_shrink 0 [.ref b, .ref p0, .int p1, jk, jk, jk, jk, jk, jk] [] M (fun r M1 => wp F_Md_commutes 84 [l0, l1, l2, l3, l4] (r.toList ++ []) M1 Q))) ∧
  (∀ (l0 l1 l2 l3 l4 : Value) (x : Int32) (st : List Value) (M : Mm) (Q : Option Value → Mm → Prop), wp F_Md_commutes 84 [l0, l1, l2, l3, l4] (.int x :: st) M Q = wp F_Md_commutes 86 [l0, l1, l2, clr l3, .int x] st M Q) ∧
  (∀ (l1 l2 l3 l4 : Value) (x : Nat) (st : List Value) (M : Mm) (Q : Option Value → Mm → Prop), wp F_Md_commutes 86 [.ref x, l1, l2, l3, l4] st M Q = wp F_Md_commutes 87 [.ref x, l1, l2, l3, l4] (.ref x :: st) M Q) ∧
  (∀ (l0 l1 l2 l3 l4 : Value) (a : Nat) (st : List Value) (M : Mm) (Q : Option Value → Mm → Prop), wp F_Md_commutes 87 [l0, l1, l2, l3, l4] (.ref a :: st) M Q = (sh M a = some (.inl 12) ∧ wp F_Md_commutes 90 [l0, l1, l2, l3, l4] (va_rf (gR M a 29) :: st) M Q)) ∧
  (∀ (l0 l1 l2 l3 l4 : Value) (st : List Value) (M : Mm) (Q : Option Value → Mm → Prop), wp F_Md_commutes 90 [l0, l1, l2, l3, l4] st M Q = wp F_Md_commutes 91 [l0, l1, l2, l3, l4] (.int 0 :: st) M Q) ∧
  (∀ (l0 l1 l2 l4 : Value) (x : Int32) (st : List Value) (M : Mm) (Q : Option Value → Mm → Prop), wp F_Md_commutes 91 [l0, l1, l2, .int x, l4] st M Q = wp F_Md_commutes 92 [l0, l1, l2, .int x, l4] (.int x :: st) M Q) := ⟨fun _ _ _ _ _ _ _ _ => wp_in d_Md_commutes_29 rfl rfl, fun _ _ _ _ _ _ _ _ => wp_in d_Md_commutes_30 rfl rfl, fun _ _ _ _ _ _ _ _ _ => wp_getI d_Md_commutes_31 fl_12_81 rfl, fun _ _ _ _ _ _ _ _ _ _ => wp_icmp_ge d_Md_commutes_34 rfl, fun _ _ _ _ _ _ _ _ => wp_in d_Md_commutes_37 rfl rfl, fun _ _ _ _ _ _ _ _ _ => wp_getA d_Md_commutes_38 fl_12_157 rfl, fun _ _ _ _ _ _ _ _ => wp_iconst d_Md_commutes_41 (by decide), fun _ _ _ _ _ _ _ _ => wp_in d_Md_commutes_42 rfl rfl, fun _ _ _ _ _ _ _ _ _ _ _ => wp_iast d_Md_commutes_43, fun _ _ _ _ _ _ _ _ => wp_in d_Md_commutes_44 rfl rfl, fun _ _ _ _ _ _ _ _ _ => wp_getA d_Md_commutes_45 fl_12_157 rfl, fun _ _ _ _ _ _ _ _ => wp_iconst d_Md_commutes_48 (by decide), fun _ _ _ _ _ _ _ _ => wp_in d_Md_commutes_49 rfl rfl, fun _ _ _ _ _ _ _ _ _ _ _ => wp_iast d_Md_commutes_50, fun _ _ _ _ _ _ _ _ => wp_in d_Md_commutes_51 rfl rfl, fun _ _ _ _ _ _ _ _ => wp_in d_Md_commutes_52 rfl rfl, fun _ _ _ _ _ _ _ _ _ => wp_getA d_Md_commutes_53 fl_12_157 rfl, fun _ _ _ _ _ _ _ _ => wp_iconst d_Md_commutes_56 (by decide), fun _ _ _ _ _ _ _ _ _ _ => wp_callV d_Md_commutes_57 ml_12_213 rfl rfl rfl, fun _ _ _ _ _ _ _ _ _ => wp_in d_Md_commutes_60 rfl rfl, fun _ _ _ _ _ _ _ _ => wp_in d_Md_commutes_61 rfl rfl, fun _ _ _ _ _ _ _ _ _ => wp_getA d_Md_commutes_62 fl_12_160 rfl, fun _ _ _ _ _ _ _ _ => wp_iconst d_Md_commutes_65 (by decide), fun _ _ _ _ _ _ _ _ => wp_in d_Md_commutes_66 rfl rfl, fun _ _ _ _ _ _ _ _ _ _ _ => wp_iast d_Md_commutes_67, fun _ _ _ _ _ _ _ _ => wp_in d_Md_commutes_68 rfl rfl, fun _ _ _ _ _ _ _ _ _ => wp_getA d_Md_commutes_69 fl_12_160 rfl, fun _ _ _ _ _ _ _ _ => wp_iconst d_Md_commutes_72 (by decide), fun _ _ _ _ _ _ _ _ => wp_in d_Md_commutes_73 rfl rfl, fun _ _ _ _ _ _ _ _ _ _ _ => wp_iast d_Md_commutes_74, fun _ _ _ _ _ _ _ _ => wp_in d_Md_commutes_75 rfl rfl, fun _ _ _ _ _ _ _ _ => wp_in d_Md_commutes_76 rfl rfl, fun _ _ _ _ _ _ _ _ _ => wp_getA d_Md_commutes_77 fl_12_160 rfl, fun _ _ _ _ _ _ _ _ => wp_iconst d_Md_commutes_80 (by decide), fun _ _ _ _ _ _ _ _ _ _ => wp_callV d_Md_commutes_81 ml_12_213 rfl rfl rfl, fun _ _ _ _ _ _ _ _ _ => wp_in d_Md_commutes_84 rfl rfl, fun _ _ _ _ _ _ _ _ => wp_in d_Md_commutes_86 rfl rfl, fun _ _ _ _ _ _ _ _ _ => wp_getA d_Md_commutes_87 fl_12_157 rfl, fun _ _ _ _ _ _ _ _ => wp_iconst d_Md_commutes_90 (by decide), fun _ _ _ _ _ _ _ _ => wp_in d_Md_commutes_91 rfl rfl⟩
theorem B_Md_commutes_29_1 : (∀ (l1 l2 l3 l4 : Value) (x : Nat) (st : List Value) (M : Mm) (Q : Option Value → Mm → Prop), wp F_Md_commutes 92 [.ref x, l1, l2, l3, l4] st M Q = wp F_Md_commutes 93 [.ref x, l1, l2, l3, l4] (.ref x :: st) M Q) ∧
  (∀ (l0 l1 l2 l3 l4 : Value) (a : Nat) (st : List Value) (M : Mm) (Q : Option Value → Mm → Prop), wp F_Md_commutes 93 [l0, l1, l2, l3, l4] (.ref a :: st) M Q = (sh M a = some (.inl 12) ∧ wp F_Md_commutes 96 [l0, l1, l2, l3, l4] (va_rf (gR M a 30) :: st) M Q)) ∧
  (∀ (l0 l1 l2 l3 l4 : Value) (st : List Value) (M : Mm) (Q : Option Value → Mm → Prop), wp F_Md_commutes 96 [l0, l1, l2, l3, l4] st M Q = wp F_Md_commutes 97 [l0, l1, l2, l3, l4] (.int 0 :: st) M Q) ∧
  (∀ (l0 l1 l2 l3 : Value) (x : Int32) (st : List Value) (M : Mm) (Q : Option Value → Mm → Prop), wp F_Md_commutes 97 [l0, l1, l2, l3, .int x] st M Q = wp F_Md_commutes 99 [l0, l1, l2, l3, .int x] (.int x :: st) M Q) ∧
  (∀ (l0 l1 l2 l3 l4 : Value) (p0 : Nat) (p1 : Int32) (p2 : Int32) (p3 : Nat) (p4 : Int32) (p5 : Int32) (M : Mm) (Q : Option Value → Mm → Prop), wp F_Md_commutes 99 [l0, l1, l2, l3, l4] [.int p5, .int p4, .ref p3, .int p2, .int p1, .ref p0] M Q = wp F_Md_greater 0 [.ref p0, .int p1, .int p2, .ref p3, .int p4, .int p5, jk] [] M (fun r M1 => wp F_Md_commutes 102 [l0, l1, l2, l3, l4] (r.toList ++ []) M1 Q)) ∧
  (∀ (l0 l1 l2 l3 l4 : Value) (x : Int32) (st : List Value) (M : Mm) (Q : Option Value → Mm → Prop), wp F_Md_commutes 102 [l0, l1, l2, l3, l4] (.int x :: st) M Q = if x = 0 then wp F_Md_commutes 107 [l0, l1, l2, l3, l4] st M Q else wp F_Md_commutes 105 [l0, l1, l2, l3, l4] st M Q) ∧
  (∀ (l0 l1 l2 l3 l4 : Value) (st : List Value) (M : Mm) (Q : Option Value → Mm → Prop), wp F_Md_commutes 105 [l0, l1, l2, l3, l4] st M Q = wp F_Md_commutes 106 [l0, l1, l2, l3, l4] (.int 0 :: st) M Q) ∧
  (∀ (l0 l1 l2 l3 l4 : Value) (v : Int32) (M : Mm) (Q : Option Value → Mm → Prop), wp F_Md_commutes 106 [l0, l1, l2, l3, l4] [.int v] M Q = Q (some (.int v)) M) := ⟨fun _ _ _ _ _ _ _ _ => wp_in d_Md_commutes_92 rfl rfl, fun _ _ _ _ _ _ _ _ _ => wp_getA d_Md_commutes_93 fl_12_160 rfl, fun _ _ _ _ _ _ _ _ => wp_iconst d_Md_commutes_96 (by decide), fun _ _ _ _ _ _ _ _ => wp_in d_Md_commutes_97 rfl rfl, fun _ _ _ _ _ _ _ _ _ _ _ _ _ => wp_callS d_Md_commutes_99 ml_12_237 (Nat.le_of_ble_eq_true rfl) rfl rfl rfl, fun _ _ _ _ _ _ _ _ _ => wp_if_eq d_Md_commutes_102 rfl, fun _ _ _ _ _ _ _ _ => wp_iconst d_Md_commutes_105 (by decide), fun _ _ _ _ _ _ _ _ => wp_retI d_Md_commutes_106 rfl⟩
theorem B_Md_commutes_107 : (∀ (l0 l1 l3 l4 : Value) (x : Int32) (st : List Value) (M : Mm) (Q : Option Value → Mm → Prop), wp F_Md_commutes 107 [l0, l1, .int x, l3, l4] st M Q = wp F_Md_commutes 110 [l0, clr l1, .int (x + 1), l3, l4] st M Q) := fun _ _ _ _ _ _ _ _ => wp_iinc d_Md_commutes_107 (by decide) rfl rfl
theorem B_Md_commutes_113 : (∀ (l0 l2 l3 l4 : Value) (x : Int32) (st : List Value) (M : Mm) (Q : Option Value → Mm → Prop), wp F_Md_commutes 113 [l0, .int x, l2, l3, l4] st M Q = wp F_Md_commutes 116 [clr l0, .int (x + 1), l2, l3, l4] st M Q) := fun _ _ _ _ _ _ _ _ => wp_iinc d_Md_commutes_113 (by decide) rfl rfl
theorem B_Md_commutes_119 : (∀ (l0 l1 l2 l3 l4 : Value) (st : List Value) (M : Mm) (Q : Option Value → Mm → Prop), wp F_Md_commutes 119 [l0, l1, l2, l3, l4] st M Q = wp F_Md_commutes 120 [l0, l1, l2, l3, l4] (.int 1 :: st) M Q) ∧
  (∀ (l0 l1 l2 l3 l4 : Value) (v : Int32) (M : Mm) (Q : Option Value → Mm → Prop), wp F_Md_commutes 120 [l0, l1, l2, l3, l4] [.int v] M Q = Q (some (.int v)) M) := ⟨fun _ _ _ _ _ _ _ _ => wp_iconst d_Md_commutes_119 (by decide), fun _ _ _ _ _ _ _ _ => wp_retI d_Md_commutes_120 rfl⟩
theorem G_Md_commutes_110 (l0 l1 l2 l3 l4 : Value) (st : List Value) (M : Mm) (Q : Option Value → Mm → Prop) : wp F_Md_commutes 110 [l0, l1, l2, l3, l4] st M Q = wp F_Md_commutes 29 [l0, l1, l2, l3, l4] st M Q := wp_goto d_Md_commutes_110 rfl
theorem G_Md_commutes_116 (l0 l1 l2 l3 l4 : Value) (st : List Value) (M : Mm) (Q : Option Value → Mm → Prop) : wp F_Md_commutes 116 [l0, l1, l2, l3, l4] st M Q = wp F_Md_commutes 17 [l0, l1, l2, l3, l4] st M Q := wp_goto d_Md_commutes_116 rfl
