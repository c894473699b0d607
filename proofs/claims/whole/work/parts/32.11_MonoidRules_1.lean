theorem d_Mr_element_0 : decode (fnB F_Mr_element) 0 = .ok (.iload_n 1, 1) := by decide +kernel
theorem d_Mr_element_1 : decode (fnB F_Mr_element) 1 = .ok (.ifCond .lt 10, 3) := by decide +kernel
theorem d_Mr_element_4 : decode (fnB F_Mr_element) 4 = .ok (.iload_n 2, 1) := by decide +kernel
theorem d_Mr_element_5 : decode (fnB F_Mr_element) 5 = .ok (.invokestatic 125, 3) := by decide +kernel
theorem d_Mr_element_8 : decode (fnB F_Mr_element) 8 = .ok (.ifCond .ne 6, 3) := by decide +kernel
theorem d_Mr_element_11 : decode (fnB F_Mr_element) 11 = .ok (.bipush (-2), 2) := by decide +kernel
theorem d_Mr_element_13 : decode (fnB F_Mr_element) 13 = .ok (.ireturn, 1) := by decide +kernel
theorem d_Mr_element_14 : decode (fnB F_Mr_element) 14 = .ok (.aload_n 0, 1) := by decide +kernel
theorem d_Mr_element_15 : decode (fnB F_Mr_element) 15 = .ok (.getfield 65, 3) := by decide +kernel
theorem d_Mr_element_18 : decode (fnB F_Mr_element) 18 = .ok (.invokevirtual 204, 3) := by decide +kernel
theorem d_Mr_element_21 : decode (fnB F_Mr_element) 21 = .ok (.ifCond .ne 6, 3) := by decide +kernel
theorem d_Mr_element_24 : decode (fnB F_Mr_element) 24 = .ok (.bipush (-3), 2) := by decide +kernel
theorem d_Mr_element_26 : decode (fnB F_Mr_element) 26 = .ok (.ireturn, 1) := by decide +kernel
theorem d_Mr_element_27 : decode (fnB F_Mr_element) 27 = .ok (.aload_n 0, 1) := by decide +kernel
theorem d_Mr_element_28 : decode (fnB F_Mr_element) 28 = .ok (.getfield 81, 3) := by decide +kernel
theorem d_Mr_element_31 : decode (fnB F_Mr_element) 31 = .ok (.iload_n 1, 1) := by decide +kernel
theorem d_Mr_element_32 : decode (fnB F_Mr_element) 32 = .ok (.aload_n 0, 1) := by decide +kernel
theorem d_Mr_element_33 : decode (fnB F_Mr_element) 33 = .ok (.getfield 94, 3) := by decide +kernel
theorem d_Mr_element_36 : decode (fnB F_Mr_element) 36 = .ok (.invokevirtual 307, 3) := by decide +kernel
theorem d_Mr_element_39 : decode (fnB F_Mr_element) 39 = .ok (.istore_n 3, 1) := by decide +kernel
theorem d_Mr_element_40 : decode (fnB F_Mr_element) 40 = .ok (.iload_n 3, 1) := by decide +kernel
theorem d_Mr_element_41 : decode (fnB F_Mr_element) 41 = .ok (.ifCond .lt 16, 3) := by decide +kernel
theorem d_Mr_element_44 : decode (fnB F_Mr_element) 44 = .ok (.aload_n 0, 1) := by decide +kernel
theorem d_Mr_element_45 : decode (fnB F_Mr_element) 45 = .ok (.getfield 26, 3) := by decide +kernel
theorem d_Mr_element_48 : decode (fnB F_Mr_element) 48 = .ok (.iload_n 2, 1) := by decide +kernel
theorem d_Mr_element_49 : decode (fnB F_Mr_element) 49 = .ok (.aaload, 1) := by decide +kernel
theorem d_Mr_element_50 : decode (fnB F_Mr_element) 50 = .ok (.aload_n 0, 1) := by decide +kernel
theorem d_Mr_element_51 : decode (fnB F_Mr_element) 51 = .ok (.getfield 94, 3) := by decide +kernel
theorem d_Mr_element_54 : decode (fnB F_Mr_element) 54 = .ok (.invokevirtual 136, 3) := by decide +kernel
theorem d_Mr_element_57 : decode (fnB F_Mr_element) 57 = .ok (.iload_n 3, 1) := by decide +kernel
theorem d_Mr_element_58 : decode (fnB F_Mr_element) 58 = .ok (.ireturn, 1) := by decide +kernel
theorem B_Mr_element_0 : (∀ (l0 l2 l3 : Value) (x : Int32) (st : List Value) (M : Mm) (Q : Option Value → Mm → Prop), wp F_Mr_element 0 [l0, .int x, l2, l3] st M Q = wp F_Mr_element 1 [l0, .int x, l2, l3] (.int x :: st) M Q) ∧
  (∀ (l0 l1 l2 l3 : Value) (x : Int32) (st : List Value) (M : Mm) (Q : Option Value → Mm → Prop), wp F_Mr_element 1 [l0, l1, l2, l3] (.int x :: st) M Q = if x < 0 then wp F_Mr_element 11 [l0, l1, l2, l3] st M Q else wp F_Mr_element 4 [l0, l1, l2, l3] st M Q) ∧
  (∀ (l0 l1 l3 : Value) (x : Int32) (st : List Value) (M : Mm) (Q : Option Value → Mm → Prop), wp F_Mr_element 4 [l0, l1, .int x, l3] st M Q = wp F_Mr_element 5 [l0, l1, .int x, l3] (.int x :: st) M Q) ∧
  (∀ (l0 l1 l2 l3 : Value) (p0 : Int32) (M : Mm) (Q : Option Value → Mm → Prop), wp F_Mr_element 5 [l0, l1, l2, l3] [.int p0] M Q = wp F_Mr_isSlot 0 [.int p0] [] M (fun r M1 => wp F_Mr_element 8 [l0, l1, l2, l3] (r.toList ++ []) M1 Q)) ∧
  (∀ (l0 l1 l2 l3 : Value) (x : Int32) (st : List Value) (M : Mm) (Q : Option Value → Mm → Prop), wp F_Mr_element 8 [l0, l1, l2, l3] (.int x :: st) M Q = if x = 0 then wp F_Mr_element 11 [l0, l1, l2, l3] st M Q else wp F_Mr_element 14 [l0, l1, l2, l3] st M Q) := ⟨fun _ _ _ _ _ _ _ => wp_in d_Mr_element_0 rfl rfl, fun _ _ _ _ _ _ _ _ => wp_if_lt d_Mr_element_1 rfl, fun _ _ _ _ _ _ _ => wp_in d_Mr_element_4 rfl rfl, fun _ _ _ _ _ _ _ => wp_callS d_Mr_element_5 ml_11_125 (Nat.le_of_ble_eq_true rfl) rfl rfl rfl, fun _ _ _ _ _ _ _ _ => wp_if_ne d_Mr_element_8 rfl⟩
theorem B_Mr_element_11 : (∀ (l0 l1 l2 l3 : Value) (st : List Value) (M : Mm) (Q : Option Value → Mm → Prop), wp F_Mr_element 11 [l0, l1, l2, l3] st M Q = wp F_Mr_element 13 [l0, l1, l2, l3] (.int (-2) :: st) M Q) ∧
  (∀ (l0 l1 l2 l3 : Value) (v : Int32) (M : Mm) (Q : Option Value → Mm → Prop), wp F_Mr_element 13 [l0, l1, l2, l3] [.int v] M Q = Q (some (.int v)) M) := ⟨fun _ _ _ _ _ _ _ => wp_bipush d_Mr_element_11 (by decide), fun _ _ _ _ _ _ _ => wp_retI d_Mr_element_13 rfl⟩
theorem B_Mr_element_14 : (∀ (l1 l2 l3 : Value) (x : Nat) (st : List Value) (M : Mm) (Q : Option Value → Mm → Prop), wp F_Mr_element 14 [.ref x, l1, l2, l3] st M Q = wp F_Mr_element 15 [.ref x, l1, l2, l3] (.ref x :: st) M Q) ∧
  (∀ (l0 l1 l2 l3 : Value) (a : Nat) (st : List Value) (M : Mm) (Q : Option Value → Mm → Prop), wp F_Mr_element 15 [l0, l1, l2, l3] (.ref a :: st) M Q = (sh M a = some (.inl 11) ∧ wp F_Mr_element 18 [l0, l1, l2, l3] (va_rf (gR M a 10) :: st) M Q)) ∧
  (∀ (l0 l1 l2 l3 : Value) (b : Nat) (M : Mm) (Q : Option Value → Mm → Prop), wp F_Mr_element 18 [l0, l1, l2, l3] [.ref b] M Q = (sh M b = some (.inl 0) ∧ wp F_Completion_isDone 0 [.ref b] [] M (fun r M1 => wp F_Mr_element 21 [l0, l1, l2, l3] (r.toList ++ []) M1 Q))) ∧
  (∀ (l0 l1 l2 l3 : Value) (x : Int32) (st : List Value) (M : Mm) (Q : Option Value → Mm → Prop), wp F_Mr_element 21 [l0, l1, l2, l3] (.int x :: st) M Q = if x = 0 then wp F_Mr_element 24 [l0, l1, l2, l3] st M Q else wp F_Mr_element 27 [l0, l1, l2, l3] st M Q) ∧
  (∀ (l0 l1 l2 l3 : Value) (st : List Value) (M : Mm) (Q : Option Value → Mm → Prop), wp F_Mr_element 24 [l0, l1, l2, l3] st M Q = wp F_Mr_element 26 [l0, l1, l2, l3] (.int (-3) :: st) M Q) ∧
  (∀ (l0 l1 l2 l3 : Value) (v : Int32) (M : Mm) (Q : Option Value → Mm → Prop), wp F_Mr_element 26 [l0, l1, l2, l3] [.int v] M Q = Q (some (.int v)) M) := ⟨fun _ _ _ _ _ _ _ => wp_in d_Mr_element_14 rfl rfl, fun _ _ _ _ _ _ _ _ => wp_getA d_Mr_element_15 fl_11_65 rfl, fun _ _ _ _ _ _ _ => wp_callV d_Mr_element_18 ml_11_204 rfl rfl rfl, fun _ _ _ _ _ _ _ _ => wp_if_ne d_Mr_element_21 rfl, fun _ _ _ _ _ _ _ => wp_bipush d_Mr_element_24 (by decide), fun _ _ _ _ _ _ _ => wp_retI d_Mr_element_26 rfl⟩
theorem B_Mr_element_27 : (∀ (l1 l2 l3 : Value) (x : Nat) (st : List Value) (M : Mm) (Q : Option Value → Mm → Prop), wp F_Mr_element 27 [.ref x, l1, l2, l3] st M Q = wp F_Mr_element 28 [.ref x, l1, l2, l3] (.ref x :: st) M Q) ∧
  (∀ (l0 l1 l2 l3 : Value) (a : Nat) (st : List Value) (M : Mm) (Q : Option Value → Mm → Prop), wp F_Mr_element 28 [l0, l1, l2, l3] (.ref a :: st) M Q = (sh M a = some (.inl 11) ∧ wp F_Mr_element 31 [l0, l1, l2, l3] (va_rf (gR M a 12) :: st) M Q)) ∧
  (∀ (l0 l2 l3 : Value) (x : Int32) (st : List Value) (M : Mm) (Q : Option Value → Mm → Prop), wp F_Mr_element 31 [l0, .int x, l2, l3] st M Q = wp F_Mr_element 32 [l0, .int x, l2, l3] (.int x :: st) M Q) ∧
  (∀ (l1 l2 l3 : Value) (x : Nat) (st : List Value) (M : Mm) (Q : Option Value → Mm → Prop), wp F_Mr_element 32 [.ref x, l1, l2, l3] st M Q = wp F_Mr_element 33 [.ref x, l1, l2, l3] (.ref x :: st) M Q) ∧
  (∀ (l0 l1 l2 l3 : Value) (a : Nat) (st : List Value) (M : Mm) (Q : Option Value → Mm → Prop), wp F_Mr_element 33 [l0, l1, l2, l3] (.ref a :: st) M Q = (sh M a = some (.inl 11) ∧ wp F_Mr_element 36 [l0, l1, l2, l3] (va_rf (gR M a 16) :: st) M Q)) ∧
  (∀ (l0 l1 l2 l3 : Value) (b : Nat) (p0 : Int32) (p1 : Nat) (M : Mm) (Q : Option Value → Mm → Prop), wp F_Mr_element 36 [l0, l1, l2, l3] [.ref p1, .int p0, .ref b] M Q = (sh M b = some (.inl 1) ∧ wp F_Elements_spell 0 [.ref b, .int p0, .ref p1, jk, jk, jk, jk, jk] [] M (fun r M1 => wp F_Mr_element 39 [l0, l1, l2, l3] (r.toList ++ []) M1 Q))) ∧
  (∀ (l0 l1 l2 l3 : Value) (x : Int32) (st : List Value) (M : Mm) (Q : Option Value → Mm → Prop), wp F_Mr_element 39 [l0, l1, l2, l3] (.int x :: st) M Q = wp F_Mr_element 40 [l0, l1, clr l2, .int x] st M Q) ∧
  (∀ (l0 l1 l2 : Value) (x : Int32) (st : List Value) (M : Mm) (Q : Option Value → Mm → Prop), wp F_Mr_element 40 [l0, l1, l2, .int x] st M Q = wp F_Mr_element 41 [l0, l1, l2, .int x] (.int x :: st) M Q) ∧
  (∀ (l0 l1 l2 l3 : Value) (x : Int32) (st : List Value) (M : Mm) (Q : Option Value → Mm → Prop), wp F_Mr_element 41 [l0, l1, l2, l3] (.int x :: st) M Q = if x < 0 then wp F_Mr_element 57 [l0, l1, l2, l3] st M Q else wp F_Mr_element 44 [l0, l1, l2, l3] st M Q) ∧
  (∀ (l1 l2 l3 : Value) (x : Nat) (st : List Value) (M : Mm) (Q : Option Value → Mm → Prop), wp F_Mr_element 44 [.ref x, l1, l2, l3] st M Q = wp F_Mr_element 45 [.ref x, l1, l2, l3] (.ref x :: st) M Q) ∧
  (∀ (l0 l1 l2 l3 : Value) (a : Nat) (st : List Value) (M : Mm) (Q : Option Value → Mm → Prop), wp F_Mr_element 45 [l0, l1, l2, l3] (.ref a :: st) M Q = (sh M a = some (.inl 11) ∧ wp F_Mr_element 48 [l0, l1, l2, l3] (va_rf (gR M a 5) :: st) M Q)) ∧
  (∀ (l0 l1 l3 : Value) (x : Int32) (st : List Value) (M : Mm) (Q : Option Value → Mm → Prop), wp F_Mr_element 48 [l0, l1, .int x, l3] st M Q = wp F_Mr_element 49 [l0, l1, .int x, l3] (.int x :: st) M Q) ∧
  (∀ (l0 l1 l2 l3 : Value) (a : Nat) (j : Int32) (st : List Value) (M : Mm) (Q : Option Value → Mm → Prop), wp F_Mr_element 49 [l0, l1, l2, l3] (.int j :: .ref a :: st) M Q = (ixR M a j ∧ wp F_Mr_element 50 [l0, l1, l2, l3] (va_rf (gR M a (cl j)) :: st) M Q)) ∧
  (∀ (l1 l2 l3 : Value) (x : Nat) (st : List Value) (M : Mm) (Q : Option Value → Mm → Prop), wp F_Mr_element 50 [.ref x, l1, l2, l3] st M Q = wp F_Mr_element 51 [.ref x, l1, l2, l3] (.ref x :: st) M Q) ∧
  (∀ (l0 l1 l2 l3 : Value) (a : Nat) (st : List Value) (M : Mm) (Q : Option Value → Mm → Prop), wp F_Mr_element 51 [l0, l1, l2, l3] (.ref a :: st) M Q = (sh M a = some (.inl 11) ∧ wp F_Mr_element 54 [l0, l1, l2, l3] (va_rf (gR M a 16) :: st) M Q)) ∧
  (∀ (l0 l1 l2 l3 : Value) (b : Nat) (p0 : Nat) (M : Mm) (Q : Option Value → Mm → Prop), wp F_Mr_element 54 [l0, l1, l2, l3] [.ref p0, .ref b] M Q = (sh M b = some (.inl 10) ∧ wp F_Word_become 0 [.ref b, .ref p0, jk, jk] [] M (fun r M1 => wp F_Mr_element 57 [l0, l1, l2, l3] (r.toList ++ []) M1 Q))) := ⟨fun _ _ _ _ _ _ _ => wp_in d_Mr_element_27 rfl rfl, fun _ _ _ _ _ _ _ _ => wp_getA d_Mr_element_28 fl_11_81 rfl, fun _ _ _ _ _ _ _ => wp_in d_Mr_element_31 rfl rfl, fun _ _ _ _ _ _ _ => wp_in d_Mr_element_32 rfl rfl, fun _ _ _ _ _ _ _ _ => wp_getA d_Mr_element_33 fl_11_94 rfl, fun _ _ _ _ _ _ _ _ _ => wp_callV d_Mr_element_36 ml_11_307 rfl rfl rfl, fun _ _ _ _ _ _ _ _ => wp_in d_Mr_element_39 rfl rfl, fun _ _ _ _ _ _ _ => wp_in d_Mr_element_40 rfl rfl, fun _ _ _ _ _ _ _ _ => wp_if_lt d_Mr_element_41 rfl, fun _ _ _ _ _ _ _ => wp_in d_Mr_element_44 rfl rfl, fun _ _ _ _ _ _ _ _ => wp_getA d_Mr_element_45 fl_11_26 rfl, fun _ _ _ _ _ _ _ => wp_in d_Mr_element_48 rfl rfl, fun _ _ _ _ _ _ _ _ _ => wp_aald d_Mr_element_49, fun _ _ _ _ _ _ _ => wp_in d_Mr_element_50 rfl rfl, fun _ _ _ _ _ _ _ _ => wp_getA d_Mr_element_51 fl_11_94 rfl, fun _ _ _ _ _ _ _ _ => wp_callV d_Mr_element_54 ml_11_136 rfl rfl rfl⟩
theorem B_Mr_element_57 : (∀ (l0 l1 l2 : Value) (x : Int32) (st : List Value) (M : Mm) (Q : Option Value → Mm → Prop), wp F_Mr_element 57 [l0, l1, l2, .int x] st M Q = wp F_Mr_element 58 [l0, l1, l2, .int x] (.int x :: st) M Q) ∧
  (∀ (l0 l1 l2 l3 : Value) (v : Int32) (M : Mm) (Q : Option Value → Mm → Prop), wp F_Mr_element 58 [l0, l1, l2, l3] [.int v] M Q = Q (some (.int v)) M) := ⟨fun _ _ _ _ _ _ _ => wp_in d_Mr_element_57 rfl rfl, fun _ _ _ _ _ _ _ => wp_retI d_Mr_element_58 rfl⟩
theorem d_Mr_number_0 : decode (fnB F_Mr_number) 0 = .ok (.iload_n 1, 1) := by decide +kernel
theorem d_Mr_number_1 : decode (fnB F_Mr_number) 1 = .ok (.invokestatic 125, 3) := by decide +kernel
theorem d_Mr_number_4 : decode (fnB F_Mr_number) 4 = .ok (.ifCond .ne 6, 3) := by decide +kernel
theorem d_Mr_number_7 : decode (fnB F_Mr_number) 7 = .ok (.bipush (-2), 2) := by decide +kernel
theorem d_Mr_number_9 : decode (fnB F_Mr_number) 9 = .ok (.ireturn, 1) := by decide +kernel
theorem d_Mr_number_10 : decode (fnB F_Mr_number) 10 = .ok (.aload_n 0, 1) := by decide +kernel
theorem d_Mr_number_11 : decode (fnB F_Mr_number) 11 = .ok (.getfield 65, 3) := by decide +kernel
theorem d_Mr_number_14 : decode (fnB F_Mr_number) 14 = .ok (.invokevirtual 204, 3) := by decide +kernel
theorem d_Mr_number_17 : decode (fnB F_Mr_number) 17 = .ok (.ifCond .ne 6, 3) := by decide +kernel
theorem d_Mr_number_20 : decode (fnB F_Mr_number) 20 = .ok (.bipush (-3), 2) := by decide +kernel
theorem d_Mr_number_22 : decode (fnB F_Mr_number) 22 = .ok (.ireturn, 1) := by decide +kernel
theorem d_Mr_number_23 : decode (fnB F_Mr_number) 23 = .ok (.aload_n 0, 1) := by decide +kernel
theorem d_Mr_number_24 : decode (fnB F_Mr_number) 24 = .ok (.aload_n 0, 1) := by decide +kernel
theorem d_Mr_number_25 : decode (fnB F_Mr_number) 25 = .ok (.getfield 26, 3) := by decide +kernel
theorem d_Mr_number_28 : decode (fnB F_Mr_number) 28 = .ok (.iload_n 1, 1) := by decide +kernel
theorem d_Mr_number_29 : decode (fnB F_Mr_number) 29 = .ok (.aaload, 1) := by decide +kernel
theorem d_Mr_number_30 : decode (fnB F_Mr_number) 30 = .ok (.invokevirtual 311, 3) := by decide +kernel
theorem d_Mr_number_33 : decode (fnB F_Mr_number) 33 = .ok (.ireturn, 1) := by decide +kernel
theorem B_Mr_number_0 : (∀ (l0 : Value) (x : Int32) (st : List Value) (M : Mm) (Q : Option Value → Mm → Prop), wp F_Mr_number 0 [l0, .int x] st M Q = wp F_Mr_number 1 [l0, .int x] (.int x :: st) M Q) ∧
  (∀ (l0 l1 : Value) (p0 : Int32) (M : Mm) (Q : Option Value → Mm → Prop), wp F_Mr_number 1 [l0, l1] [.int p0] M Q = wp F_Mr_isSlot 0 [.int p0] [] M (fun r M1 => wp F_Mr_number 4 [l0, l1] (r.toList ++ []) M1 Q)) ∧
  (∀ (l0 l1 : Value) (x : Int32) (st : List Value) (M : Mm) (Q : Option Value → Mm → Prop), wp F_Mr_number 4 [l0, l1] (.int x :: st) M Q = if x = 0 then wp F_Mr_number 7 [l0, l1] st M Q else wp F_Mr_number 10 [l0, l1] st M Q) ∧
  (∀ (l0 l1 : Value) (st : List Value) (M : Mm) (Q : Option Value → Mm → Prop), wp F_Mr_number 7 [l0, l1] st M Q = wp F_Mr_number 9 [l0, l1] (.int (-2) :: st) M Q) ∧
  (∀ (l0 l1 : Value) (v : Int32) (M : Mm) (Q : Option Value → Mm → Prop), wp F_Mr_number 9 [l0, l1] [.int v] M Q = Q (some (.int v)) M) := ⟨fun _ _ _ _ _ => wp_in d_Mr_number_0 rfl rfl, fun _ _ _ _ _ => wp_callS d_Mr_number_1 ml_11_125 (Nat.le_of_ble_eq_true rfl) rfl rfl rfl, fun _ _ _ _ _ _ => wp_if_ne d_Mr_number_4 rfl, fun _ _ _ _ _ => wp_bipush d_Mr_number_7 (by decide), fun _ _ _ _ _ => wp_retI d_Mr_number_9 rfl⟩
theorem B_Mr_number_10 : (∀ (l1 : Value) (x : Nat) (st : List Value) (M : Mm) (Q : Option Value → Mm → Prop), wp F_Mr_number 10 [.ref x, l1] st M Q = wp F_Mr_number 11 [.ref x, l1] (.ref x :: st) M Q) ∧
  (∀ (l0 l1 : Value) (a : Nat) (st : List Value) (M : Mm) (Q : Option Value → Mm → Prop), wp F_Mr_number 11 [l0, l1] (.ref a :: st) M Q = (sh M a = some (.inl 11) ∧ wp F_Mr_number 14 [l0, l1] (va_rf (gR M a 10) :: st) M Q)) ∧
  (∀ (l0 l1 : Value) (b : Nat) (M : Mm) (Q : Option Value → Mm → Prop), wp F_Mr_number 14 [l0, l1] [.ref b] M Q = (sh M b = some (.inl 0) ∧ wp F_Completion_isDone 0 [.ref b] [] M (fun r M1 => wp F_Mr_number 17 [l0, l1] (r.toList ++ []) M1 Q))) ∧
  (∀ (l0 l1 : Value) (x : Int32) (st : List Value) (M : Mm) (Q : Option Value → Mm → Prop), wp F_Mr_number 17 [l0, l1] (.int x :: st) M Q = if x = 0 then wp F_Mr_number 20 [l0, l1] st M Q else wp F_Mr_number 23 [l0, l1] st M Q) ∧
  (∀ (l0 l1 : Value) (st : List Value) (M : Mm) (Q : Option Value → Mm → Prop), wp F_Mr_number 20 [l0, l1] st M Q = wp F_Mr_number 22 [l0, l1] (.int (-3) :: st) M Q) ∧
  (∀ (l0 l1 : Value) (v : Int32) (M : Mm) (Q : Option Value → Mm → Prop), wp F_Mr_number 22 [l0, l1] [.int v] M Q = Q (some (.int v)) M) := ⟨fun _ _ _ _ _ => wp_in d_Mr_number_10 rfl rfl, fun _ _ _ _ _ _ => wp_getA d_Mr_number_11 fl_11_65 rfl, fun _ _ _ _ _ => wp_callV d_Mr_number_14 ml_11_204 rfl rfl rfl, fun _ _ _ _ _ _ => wp_if_ne d_Mr_number_17 rfl, fun _ _ _ _ _ => wp_bipush d_Mr_number_20 (by decide), fun _ _ _ _ _ => wp_retI d_Mr_number_22 rfl⟩
theorem B_Mr_number_23 : (∀ (l1 : Value) (x : Nat) (st : List Value) (M : Mm) (Q : Option Value → Mm → Prop), wp F_Mr_number 23 [.ref x, l1] st M Q = wp F_Mr_number 24 [.ref x, l1] (.ref x :: st) M Q) ∧
  (∀ (l1 : Value) (x : Nat) (st : List Value) (M : Mm) (Q : Option Value → Mm → Prop), wp F_Mr_number 24 [.ref x, l1] st M Q = wp F_Mr_number 25 [.ref x, l1] (.ref x :: st) M Q) ∧
  (∀ (l0 l1 : Value) (a : Nat) (st : List Value) (M : Mm) (Q : Option Value → Mm → Prop), wp F_Mr_number 25 [l0, l1] (.ref a :: st) M Q = (sh M a = some (.inl 11) ∧ wp F_Mr_number 28 [l0, l1] (va_rf (gR M a 5) :: st) M Q)) ∧
  (∀ (l0 : Value) (x : Int32) (st : List Value) (M : Mm) (Q : Option Value → Mm → Prop), wp F_Mr_number 28 [l0, .int x] st M Q = wp F_Mr_number 29 [l0, .int x] (.int x :: st) M Q) ∧
  (∀ (l0 l1 : Value) (a : Nat) (j : Int32) (st : List Value) (M : Mm) (Q : Option Value → Mm → Prop), wp F_Mr_number 29 [l0, l1] (.int j :: .ref a :: st) M Q = (ixR M a j ∧ wp F_Mr_number 30 [l0, l1] (va_rf (gR M a (cl j)) :: st) M Q)) ∧
  (∀ (l0 l1 : Value) (b : Nat) (p0 : Nat) (M : Mm) (Q : Option Value → Mm → Prop), wp F_Mr_number 30 [l0, l1] [.ref p0, .ref b] M Q = (sh M b = some (.inl 11) ∧ wp F_Mr_formNumber 0 [.ref b, .ref p0, jk, jk] [] M (fun r M1 => wp F_Mr_number 33 [l0, l1] (r.toList ++ []) M1 Q))) ∧
  (∀ (l0 l1 : Value) (v : Int32) (M : Mm) (Q : Option Value → Mm → Prop), wp F_Mr_number 33 [l0, l1] [.int v] M Q = Q (some (.int v)) M) := ⟨fun _ _ _ _ _ => wp_in d_Mr_number_23 rfl rfl, fun _ _ _ _ _ => wp_in d_Mr_number_24 rfl rfl, fun _ _ _ _ _ _ => wp_getA d_Mr_number_25 fl_11_26 rfl, fun _ _ _ _ _ => wp_in d_Mr_number_28 rfl rfl, fun _ _ _ _ _ _ _ => wp_aald d_Mr_number_29, fun _ _ _ _ _ _ => wp_callV d_Mr_number_30 ml_11_311 rfl rfl rfl, fun _ _ _ _ _ => wp_retI d_Mr_number_33 rfl⟩
theorem d_Mr_product_0 : decode (fnB F_Mr_product) 0 = .ok (.aload_n 0, 1) := by decide +kernel
theorem d_Mr_product_1 : decode (fnB F_Mr_product) 1 = .ok (.getfield 65, 3) := by decide +kernel
theorem d_Mr_product_4 : decode (fnB F_Mr_product) 4 = .ok (.invokevirtual 204, 3) := by decide +kernel
theorem d_Mr_product_7 : decode (fnB F_Mr_product) 7 = .ok (.ifCond .ne 6, 3) := by decide +kernel
theorem d_Mr_product_10 : decode (fnB F_Mr_product) 10 = .ok (.bipush (-3), 2) := by decide +kernel
theorem d_Mr_product_12 : decode (fnB F_Mr_product) 12 = .ok (.ireturn, 1) := by decide +kernel
theorem d_Mr_product_13 : decode (fnB F_Mr_product) 13 = .ok (.aload_n 0, 1) := by decide +kernel
theorem d_Mr_product_14 : decode (fnB F_Mr_product) 14 = .ok (.getfield 81, 3) := by decide +kernel
theorem d_Mr_product_17 : decode (fnB F_Mr_product) 17 = .ok (.iload_n 1, 1) := by decide +kernel
theorem d_Mr_product_18 : decode (fnB F_Mr_product) 18 = .ok (.aload_n 0, 1) := by decide +kernel
theorem d_Mr_product_19 : decode (fnB F_Mr_product) 19 = .ok (.getfield 94, 3) := by decide +kernel
theorem d_Mr_product_22 : decode (fnB F_Mr_product) 22 = .ok (.invokevirtual 307, 3) := by decide +kernel
theorem d_Mr_product_25 : decode (fnB F_Mr_product) 25 = .ok (.istore_n 3, 1) := by decide +kernel
theorem d_Mr_product_26 : decode (fnB F_Mr_product) 26 = .ok (.aload_n 0, 1) := by decide +kernel
theorem d_Mr_product_27 : decode (fnB F_Mr_product) 27 = .ok (.getfield 81, 3) := by decide +kernel
theorem d_Mr_product_30 : decode (fnB F_Mr_product) 30 = .ok (.iload_n 2, 1) := by decide +kernel
theorem d_Mr_product_31 : decode (fnB F_Mr_product) 31 = .ok (.aload_n 0, 1) := by decide +kernel
theorem d_Mr_product_32 : decode (fnB F_Mr_product) 32 = .ok (.getfield 98, 3) := by decide +kernel
theorem d_Mr_product_35 : decode (fnB F_Mr_product) 35 = .ok (.invokevirtual 307, 3) := by decide +kernel
theorem d_Mr_product_38 : decode (fnB F_Mr_product) 38 = .ok (.istore 4, 2) := by decide +kernel
theorem d_Mr_product_40 : decode (fnB F_Mr_product) 40 = .ok (.iload_n 3, 1) := by decide +kernel
theorem d_Mr_product_41 : decode (fnB F_Mr_product) 41 = .ok (.bipush (-2), 2) := by decide +kernel
theorem d_Mr_product_43 : decode (fnB F_Mr_product) 43 = .ok (.if_icmp .eq 10, 3) := by decide +kernel
theorem d_Mr_product_46 : decode (fnB F_Mr_product) 46 = .ok (.iload 4, 2) := by decide +kernel
theorem d_Mr_product_48 : decode (fnB F_Mr_product) 48 = .ok (.bipush (-2), 2) := by decide +kernel
theorem d_Mr_product_50 : decode (fnB F_Mr_product) 50 = .ok (.if_icmp .ne 6, 3) := by decide +kernel
theorem d_Mr_product_53 : decode (fnB F_Mr_product) 53 = .ok (.bipush (-2), 2) := by decide +kernel
theorem d_Mr_product_55 : decode (fnB F_Mr_product) 55 = .ok (.ireturn, 1) := by decide +kernel
theorem d_Mr_product_56 : decode (fnB F_Mr_product) 56 = .ok (.iload_n 3, 1) := by decide +kernel
theorem d_Mr_product_57 : decode (fnB F_Mr_product) 57 = .ok (.bipush (-4), 2) := by decide +kernel
theorem d_Mr_product_59 : decode (fnB F_Mr_product) 59 = .ok (.if_icmp .eq 10, 3) := by decide +kernel
theorem d_Mr_product_62 : decode (fnB F_Mr_product) 62 = .ok (.iload 4, 2) := by decide +kernel
theorem d_Mr_product_64 : decode (fnB F_Mr_product) 64 = .ok (.bipush (-4), 2) := by decide +kernel
theorem d_Mr_product_66 : decode (fnB F_Mr_product) 66 = .ok (.if_icmp .ne 6, 3) := by decide +kernel
theorem d_Mr_product_69 : decode (fnB F_Mr_product) 69 = .ok (.bipush (-4), 2) := by decide +kernel
theorem d_Mr_product_71 : decode (fnB F_Mr_product) 71 = .ok (.ireturn, 1) := by decide +kernel
theorem d_Mr_product_72 : decode (fnB F_Mr_product) 72 = .ok (.aload_n 0, 1) := by decide +kernel
theorem d_Mr_product_73 : decode (fnB F_Mr_product) 73 = .ok (.aload_n 0, 1) := by decide +kernel
theorem d_Mr_product_74 : decode (fnB F_Mr_product) 74 = .ok (.getfield 94, 3) := by decide +kernel
theorem d_Mr_product_77 : decode (fnB F_Mr_product) 77 = .ok (.aload_n 0, 1) := by decide +kernel
theorem d_Mr_product_78 : decode (fnB F_Mr_product) 78 = .ok (.getfield 98, 3) := by decide +kernel
theorem d_Mr_product_81 : decode (fnB F_Mr_product) 81 = .ok (.invokevirtual 314, 3) := by decide +kernel
theorem d_Mr_product_84 : decode (fnB F_Mr_product) 84 = .ok (.ireturn, 1) := by decide +kernel
theorem B_Mr_product_0 : (∀ (l1 l2 l3 l4 : Value) (x : Nat) (st : List Value) (M : Mm) (Q : Option Value → Mm → Prop), wp F_Mr_product 0 [.ref x, l1, l2, l3, l4] st M Q = wp F_Mr_product 1 [.ref x, l1, l2, l3, l4] (.ref x :: st) M Q) ∧
  (∀ (l0 l1 l2 l3 l4 : Value) (a : Nat) (st : List Value) (M : Mm) (Q : Option Value → Mm → Prop), wp F_Mr_product 1 [l0, l1, l2, l3, l4] (.ref a :: st) M Q = (sh M a = some (.inl 11) ∧ wp F_Mr_product 4 [l0, l1, l2, l3, l4] (va_rf (gR M a 10) :: st) M Q)) ∧
  (∀ (l0 l1 l2 l3 l4 : Value) (b : Nat) (M : Mm) (Q : Option Value → Mm → Prop), wp F_Mr_product 4 [l0, l1, l2, l3, l4] [.ref b] M Q = (sh M b = some (.inl 0) ∧ wp F_Completion_isDone 0 [.ref b] [] M (fun r M1 => wp F_Mr_product 7 [l0, l1, l2, l3, l4] (r.toList ++ []) M1 Q))) ∧
  (∀ (l0 l1 l2 l3 l4 : Value) (x : Int32) (st : List Value) (M : Mm) (Q : Option Value → Mm → Prop), wp F_Mr_product 7 [l0, l1, l2, l3, l4] (.int x :: st) M Q = if x = 0 then wp F_Mr_product 10 [l0, l1, l2, l3, l4] st M Q else wp F_Mr_product 13 [l0, l1, l2, l3, l4] st M Q) ∧
  (∀ (l0 l1 l2 l3 l4 : Value) (st : List Value) (M : Mm) (Q : Option Value → Mm → Prop), wp F_Mr_product 10 [l0, l1, l2, l3, l4] st M Q = wp F_Mr_product 12 [l0, l1, l2, l3, l4] (.int (-3) :: st) M Q) ∧
  (∀ (l0 l1 l2 l3 l4 : Value) (v : Int32) (M : Mm) (Q : Option Value → Mm → Prop), wp F_Mr_product 12 [l0, l1, l2, l3, l4] [.int v] M Q = Q (some (.int v)) M) := ⟨fun _ _ _ _ _ _ _ _ => wp_in d_Mr_product_0 rfl rfl, fun _ _ _ _ _ _ _ _ _ => wp_getA d_Mr_product_1 fl_11_65 rfl, fun _ _ _ _ _ _ _ _ => wp_callV d_Mr_product_4 ml_11_204 rfl rfl rfl, fun _ _ _ _ _ _ _ _ _ => wp_if_ne d_Mr_product_7 rfl, fun _ _ _ _ _ _ _ _ => wp_bipush d_Mr_product_10 (by decide), fun _ _ _ _ _ _ _ _ => wp_retI d_Mr_product_12 rfl⟩
theorem B_Mr_product_13 : (∀ (l1 l2 l3 l4 : Value) (x : Nat) (st : List Value) (M : Mm) (Q : Option Value → Mm → Prop), wp F_Mr_product 13 [.ref x, l1, l2, l3, l4] st M Q = wp F_Mr_product 14 [.ref x, l1, l2, l3, l4] (.ref x :: st) M Q) ∧
  (∀ (l0 l1 l2 l3 l4 : Value) (a : Nat) (st : List Value) (M : Mm) (Q : Option Value → Mm → Prop), wp F_Mr_product 14 [l0, l1, l2, l3, l4] (.ref a :: st) M Q = (sh M a = some (.inl 11) ∧ wp F_Mr_product 17 [l0, l1, l2, l3, l4] (va_rf (gR M a 12) :: st) M Q)) ∧
  (∀ (l0 l2 l3 l4 : Value) (x : Int32) (st : List Value) (M : Mm) (Q : Option Value → Mm → Prop), wp F_Mr_product 17 [l0, .int x, l2, l3, l4] st M Q = wp F_Mr_product 18 [l0, .int x, l2, l3, l4] (.int x :: st) M Q) ∧
  (∀ (l1 l2 l3 l4 : Value) (x : Nat) (st : List Value) (M : Mm) (Q : Option Value → Mm → Prop), wp F_Mr_product 18 [.ref x, l1, l2, l3, l4] st M Q = wp F_Mr_product 19 [.ref x, l1, l2, l3, l4] (.ref x :: st) M Q) ∧
  (∀ (l0 l1 l2 l3 l4 : Value) (a : Nat) (st : List Value) (M : Mm) (Q : Option Value → Mm → Prop), wp F_Mr_product 19 [l0, l1, l2, l3, l4] (.ref a :: st) M Q = (sh M a = some (.inl 11) ∧ wp F_Mr_product 22 [l0, l1, l2, l3, l4] (va_rf (gR M a 16) :: st) M Q)) ∧
  (∀ (l0 l1 l2 l3 l4 : Value) (b : Nat) (p0 : Int32) (p1 : Nat) (M : Mm) (Q : Option Value → Mm → Prop), wp F_Mr_product 22 [l0, l1, l2, l3, l4] [.ref p1, .int p0, .ref b] M Q = (sh M b = some (.inl 1) ∧ wp F_Elements_spell 0 [.ref b, .int p0, .ref p1, jk, jk, jk, jk, jk] [] M (fun r M1 => wp F_Mr_product 25 [l0, l1, l2, l3, l4] (r.toList ++ []) M1 Q))) ∧
  (∀ (l0 l1 l2 l3 l4 : Value) (x : Int32) (st : List Value) (M : Mm) (Q : Option Value → Mm → Prop), wp F_Mr_product 25 [l0, l1, l2, l3, l4] (.int x :: st) M Q = wp F_Mr_product 26 [l0, l1, clr l2, .int x, l4] st M Q) ∧
  (∀ (l1 l2 l3 l4 : Value) (x : Nat) (st : List Value) (M : Mm) (Q : Option Value → Mm → Prop), wp F_Mr_product 26 [.ref x, l1, l2, l3, l4] st M Q = wp F_Mr_product 27 [.ref x, l1, l2, l3, l4] (.ref x :: st) M Q) ∧
  (∀ (l0 l1 l2 l3 l4 : Value) (a : Nat) (st : List Value) (M : Mm) (Q : Option Value → Mm → Prop), wp F_Mr_product 27 [l0, l1, l2, l3, l4] (.ref a :: st) M Q = (sh M a = some (.inl 11) ∧ wp F_Mr_product 30 [l0, l1, l2, l3, l4] (va_rf (gR M a 12) :: st) M Q)) ∧
  (∀ (l0 l1 l3 l4 : Value) (x : Int32) (st : List Value) (M : Mm) (Q : Option Value → Mm → Prop), wp F_Mr_product 30 [l0, l1, .int x, l3, l4] st M Q = wp F_Mr_product 31 [l0, l1, .int x, l3, l4] (.int x :: st) M Q) ∧
  (∀ (l1 l2 l3 l4 : Value) (x : Nat) (st : List Value) (M : Mm) (Q : Option Value → Mm → Prop), wp F_Mr_product 31 [.ref x, l1, l2, l3, l4] st M Q = wp F_Mr_product 32 [.ref x, l1, l2, l3, l4] (.ref x :: st) M Q) ∧
  (∀ (l0 l1 l2 l3 l4 : Value) (a : Nat) (st : List Value) (M : Mm) (Q : Option Value → Mm → Prop), wp F_Mr_product 32 [l0, l1, l2, l3, l4] (.ref a :: st) M Q = (sh M a = some (.inl 11) ∧ wp F_Mr_product 35 [l0, l1, l2, l3, l4] (va_rf (gR M a 17) :: st) M Q)) ∧
  (∀ (l0 l1 l2 l3 l4 : Value) (b : Nat) (p0 : Int32) (p1 : Nat) (M : Mm) (Q : Option Value → Mm → Prop), wp F_Mr_product 35 [l0, l1, l2, l3, l4] [.ref p1, .int p0, .ref b] M Q = (sh M b = some (.inl 1) ∧ wp F_Elements_spell 0 [.ref b, .int p0, .ref p1, jk, jk, jk, jk, jk] [] M (fun r M1 => wp F_Mr_product 38 [l0, l1, l2, l3, l4] (r.toList ++ []) M1 Q))) ∧
  (∀ (l0 l1 l2 l3 l4 : Value) (x : Int32) (st : List Value) (M : Mm) (Q : Option Value → Mm → Prop), wp F_Mr_product 38 [l0, l1, l2, l3, l4] (.int x :: st) M Q = wp F_Mr_product 40 [l0, l1, l2, clr l3, .int x] st M Q) ∧
  (∀ (l0 l1 l2 l4 : Value) (x : Int32) (st : List Value) (M : Mm) (Q : Option Value → Mm → Prop), wp F_Mr_product 40 [l0, l1, l2, .int x, l4] st M Q = wp F_Mr_product 41 [l0, l1, l2, .int x, l4] (.int x :: st) M Q) ∧
  (∀ (l0 l1 l2 l3 l4 : Value) (st : List Value) (M : Mm) (Q : Option Value → Mm → Prop), wp F_Mr_product 41 [l0, l1, l2, l3, l4] st M Q = wp F_Mr_product 43 [l0, l1, l2, l3, l4] (.int (-2) :: st) M Q) ∧
  (∀ (l0 l1 l2 l3 l4 : Value) (x y : Int32) (st : List Value) (M : Mm) (Q : Option Value → Mm → Prop), wp F_Mr_product 43 [l0, l1, l2, l3, l4] (.int y :: .int x :: st) M Q = if x = y then wp F_Mr_product 53 [l0, l1, l2, l3, l4] st M Q else wp F_Mr_product 46 [l0, l1, l2, l3, l4] st M Q) ∧
  (∀ (l0 l1 l2 l3 : Value) (x : Int32) (st : List Value) (M : Mm) (Q : Option Value → Mm → Prop), wp F_Mr_product 46 [l0, l1, l2, l3, .int x] st M Q = wp F_Mr_product 48 [l0, l1, l2, l3, .int x] (.int x :: st) M Q) ∧
  (∀ (l0 l1 l2 l3 l4 : Value) (st : List Value) (M : Mm) (Q : Option Value → Mm → Prop), wp F_Mr_product 48 [l0, l1, l2, l3, l4] st M Q = wp F_Mr_product 50 [l0, l1, l2, l3, l4] (.int (-2) :: st) M Q) ∧
  (∀ (l0 l1 l2 l3 l4 : Value) (x y : Int32) (st : List Value) (M : Mm) (Q : Option Value → Mm → Prop), wp F_Mr_product 50 [l0, l1, l2, l3, l4] (.int y :: .int x :: st) M Q = if x = y then wp F_Mr_product 53 [l0, l1, l2, l3, l4] st M Q else wp F_Mr_product 56 [l0, l1, l2, l3, l4] st M Q) := ⟨fun _ _ _ _ _ _ _ _ => wp_in d_Mr_product_13 rfl rfl, fun _ _ _ _ _ _ _ _ _ => wp_getA d_Mr_product_14 fl_11_81 rfl, fun _ _ _ _ _ _ _ _ => wp_in d_Mr_product_17 rfl rfl, fun _ _ _ _ _ _ _ _ => wp_in d_Mr_product_18 rfl rfl, fun _ _ _ _ _ _ _ _ _ => wp_getA d_Mr_product_19 fl_11_94 rfl, fun _ _ _ _ _ _ _ _ _ _ => wp_callV d_Mr_product_22 ml_11_307 rfl rfl rfl, fun _ _ _ _ _ _ _ _ _ => wp_in d_Mr_product_25 rfl rfl, fun _ _ _ _ _ _ _ _ => wp_in d_Mr_product_26 rfl rfl, fun _ _ _ _ _ _ _ _ _ => wp_getA d_Mr_product_27 fl_11_81 rfl, fun _ _ _ _ _ _ _ _ => wp_in d_Mr_product_30 rfl rfl, fun _ _ _ _ _ _ _ _ => wp_in d_Mr_product_31 rfl rfl, fun _ _ _ _ _ _ _ _ _ => wp_getA d_Mr_product_32 fl_11_98 rfl, fun _ _ _ _ _ _ _ _ _ _ => wp_callV d_Mr_product_35 ml_11_307 rfl rfl rfl, fun _ _ _ _ _ _ _ _ _ => wp_in d_Mr_product_38 rfl rfl, fun _ _ _ _ _ _ _ _ => wp_in d_Mr_product_40 rfl rfl, fun _ _ _ _ _ _ _ _ => wp_bipush d_Mr_product_41 (by decide), fun _ _ _ _ _ _ _ _ _ _ => wp_icmp_eq d_Mr_product_43 rfl, fun _ _ _ _ _ _ _ _ => wp_in d_Mr_product_46 rfl rfl, fun _ _ _ _ _ _ _ _ => wp_bipush d_Mr_product_48 (by decide), fun _ _ _ _ _ _ _ _ _ _ => wp_icmp_ne d_Mr_product_50 rfl⟩
theorem B_Mr_product_53 : (∀ (l0 l1 l2 l3 l4 : Value) (st : List Value) (M : Mm) (Q : Option Value → Mm → Prop), wp F_Mr_product 53 [l0, l1, l2, l3, l4] st M Q = wp F_Mr_product 55 [l0, l1, l2, l3, l4] (.int (-2) :: st) M Q) ∧
  (∀ (l0 l1 l2 l3 l4 : Value) (v : Int32) (M : Mm) (Q : Option Value → Mm → Prop), wp F_Mr_product 55 [l0, l1, l2, l3, l4] [.int v] M Q = Q (some (.int v)) M) := ⟨fun _ _ _ _ _ _ _ _ => wp_bipush d_Mr_product_53 (by decide), fun _ _ _ _ _ _ _ _ => wp_retI d_Mr_product_55 rfl⟩
theorem B_Mr_product_56 : (∀ (l0 l1 l2 l4 : Value) (x : Int32) (st : List Value) (M : Mm) (Q : Option Value → Mm → Prop), wp F_Mr_product 56 [l0, l1, l2, .int x, l4] st M Q = wp F_Mr_product 57 [l0, l1, l2, .int x, l4] (.int x :: st) M Q) ∧
  (∀ (l0 l1 l2 l3 l4 : Value) (st : List Value) (M : Mm) (Q : Option Value → Mm → Prop), wp F_Mr_product 57 [l0, l1, l2, l3, l4] st M Q = wp F_Mr_product 59 [l0, l1, l2, l3, l4] (.int (-4) :: st) M Q) ∧
  (∀ (l0 l1 l2 l3 l4 : Value) (x y : Int32) (st : List Value) (M : Mm) (Q : Option Value → Mm → Prop), wp F_Mr_product 59 [l0, l1, l2, l3, l4] (.int y :: .int x :: st) M Q = if x = y then wp F_Mr_product 69 [l0, l1, l2, l3, l4] st M Q else wp F_Mr_product 62 [l0, l1, l2, l3, l4] st M Q) ∧
  (∀ (l0 l1 l2 l3 : Value) (x : Int32) (st : List Value) (M : Mm) (Q : Option Value → Mm → Prop), wp F_Mr_product 62 [l0, l1, l2, l3, .int x] st M Q = wp F_Mr_product 64 [l0, l1, l2, l3, .int x] (.int x :: st) M Q) ∧
  (∀ (l0 l1 l2 l3 l4 : Value) (st : List Value) (M : Mm) (Q : Option Value → Mm → Prop), wp F_Mr_product 64 [l0, l1, l2, l3, l4] st M Q = wp F_Mr_product 66 [l0, l1, l2, l3, l4] (.int (-4) :: st) M Q) ∧
  (∀ (l0 l1 l2 l3 l4 : Value) (x y : Int32) (st : List Value) (M : Mm) (Q : Option Value → Mm → Prop), wp F_Mr_product 66 [l0, l1, l2, l3, l4] (.int y :: .int x :: st) M Q = if x = y then wp F_Mr_product 69 [l0, l1, l2, l3, l4] st M Q else wp F_Mr_product 72 [l0, l1, l2, l3, l4] st M Q) := ⟨fun _ _ _ _ _ _ _ _ => wp_in d_Mr_product_56 rfl rfl, fun _ _ _ _ _ _ _ _ => wp_bipush d_Mr_product_57 (by decide), fun _ _ _ _ _ _ _ _ _ _ => wp_icmp_eq d_Mr_product_59 rfl, fun _ _ _ _ _ _ _ _ => wp_in d_Mr_product_62 rfl rfl, fun _ _ _ _ _ _ _ _ => wp_bipush d_Mr_product_64 (by decide), fun _ _ _ _ _ _ _ _ _ _ => wp_icmp_ne d_Mr_product_66 rfl⟩
theorem B_Mr_product_69 : (∀ (l0 l1 l2 l3 l4 : Value) (st : List Value) (M : Mm) (Q : Option Value → Mm → Prop), wp F_Mr_product 69 [l0, l1, l2, l3, l4] st M Q = wp F_Mr_product 71 [l0, l1, l2, l3, l4] (.int (-4) :: st) M Q) ∧
  (∀ (l0 l1 l2 l3 l4 : Value) (v : Int32) (M : Mm) (Q : Option Value → Mm → Prop), wp F_Mr_product 71 [l0, l1, l2, l3, l4] [.int v] M Q = Q (some (.int v)) M) := ⟨fun _ _ _ _ _ _ _ _ => wp_bipush d_Mr_product_69 (by decide), fun _ _ _ _ _ _ _ _ => wp_retI d_Mr_product_71 rfl⟩
theorem B_Mr_product_72 : (∀ (l1 l2 l3 l4 : Value) (x : Nat) (st : List Value) (M : Mm) (Q : Option Value → Mm → Prop), wp F_Mr_product 72 [.ref x, l1, l2, l3, l4] st M Q = wp F_Mr_product 73 [.ref x, l1, l2, l3, l4] (.ref x :: st) M Q) ∧
  (∀ (l1 l2 l3 l4 : Value) (x : Nat) (st : List Value) (M : Mm) (Q : Option Value → Mm → Prop), wp F_Mr_product 73 [.ref x, l1, l2, l3, l4] st M Q = wp F_Mr_product 74 [.ref x, l1, l2, l3, l4] (.ref x :: st) M Q) ∧
  (∀ (l0 l1 l2 l3 l4 : Value) (a : Nat) (st : List Value) (M : Mm) (Q : Option Value → Mm → Prop), wp F_Mr_product 74 [l0, l1, l2, l3, l4] (.ref a :: st) M Q = (sh M a = some (.inl 11) ∧ wp F_Mr_product 77 [l0, l1, l2, l3, l4] (va_rf (gR M a 16) :: st) M Q)) ∧
  (∀ (l1 l2 l3 l4 : Value) (x : Nat) (st : List Value) (M : Mm) (Q : Option Value → Mm → Prop), wp F_Mr_product 77 [.ref x, l1, l2, l3, l4] st M Q = wp F_Mr_product 78 [.ref x, l1, l2, l3, l4] (.ref x :: st) M Q) ∧
  (∀ (l0 l1 l2 l3 l4 : Value) (a : Nat) (st : List Value) (M : Mm) (Q : Option Value → Mm → Prop), wp F_Mr_product 78 [l0, l1, l2, l3, l4] (.ref a :: st) M Q = (sh M a = some (.inl 11) ∧ wp F_Mr_product 81 [l0, l1, l2, l3, l4] (va_rf (gR M a 17) :: st) M Q)) ∧
  (∀ (l0 l1 l2 l3 l4 : Value) (b : Nat) (p0 : Nat) (p1 : Nat) (M : Mm) (Q : Option Value → Mm → Prop), wp F_Mr_product 81 [l0, l1, l2, l3, l4] [.ref p1, .ref p0, .ref b] M Q = (sh M b = some (.inl 11) ∧ wp F_Mr_multiply 0 [.ref b, .ref p0, .ref p1] [] M (fun r M1 => wp F_Mr_product 84 [l0, l1, l2, l3, l4] (r.toList ++ []) M1 Q))) ∧
  (∀ (l0 l1 l2 l3 l4 : Value) (v : Int32) (M : Mm) (Q : Option Value → Mm → Prop), wp F_Mr_product 84 [l0, l1, l2, l3, l4] [.int v] M Q = Q (some (.int v)) M) := ⟨fun _ _ _ _ _ _ _ _ => wp_in d_Mr_product_72 rfl rfl, fun _ _ _ _ _ _ _ _ => wp_in d_Mr_product_73 rfl rfl, fun _ _ _ _ _ _ _ _ _ => wp_getA d_Mr_product_74 fl_11_94 rfl, fun _ _ _ _ _ _ _ _ => wp_in d_Mr_product_77 rfl rfl, fun _ _ _ _ _ _ _ _ _ => wp_getA d_Mr_product_78 fl_11_98 rfl, fun _ _ _ _ _ _ _ _ _ _ => wp_callV d_Mr_product_81 ml_11_314 rfl rfl rfl, fun _ _ _ _ _ _ _ _ => wp_retI d_Mr_product_84 rfl⟩
theorem d_Mr_power_0 : decode (fnB F_Mr_power) 0 = .ok (.aload_n 0, 1) := by decide +kernel
theorem d_Mr_power_1 : decode (fnB F_Mr_power) 1 = .ok (.getfield 65, 3) := by decide +kernel
theorem d_Mr_power_4 : decode (fnB F_Mr_power) 4 = .ok (.invokevirtual 204, 3) := by decide +kernel
theorem d_Mr_power_7 : decode (fnB F_Mr_power) 7 = .ok (.ifCond .ne 6, 3) := by decide +kernel
theorem d_Mr_power_10 : decode (fnB F_Mr_power) 10 = .ok (.bipush (-3), 2) := by decide +kernel
theorem d_Mr_power_12 : decode (fnB F_Mr_power) 12 = .ok (.ireturn, 1) := by decide +kernel
theorem d_Mr_power_13 : decode (fnB F_Mr_power) 13 = .ok (.aload_n 0, 1) := by decide +kernel
theorem d_Mr_power_14 : decode (fnB F_Mr_power) 14 = .ok (.getfield 81, 3) := by decide +kernel
theorem d_Mr_power_17 : decode (fnB F_Mr_power) 17 = .ok (.iload_n 1, 1) := by decide +kernel
theorem d_Mr_power_18 : decode (fnB F_Mr_power) 18 = .ok (.aload_n 0, 1) := by decide +kernel
theorem d_Mr_power_19 : decode (fnB F_Mr_power) 19 = .ok (.getfield 98, 3) := by decide +kernel
theorem d_Mr_power_22 : decode (fnB F_Mr_power) 22 = .ok (.invokevirtual 307, 3) := by decide +kernel
theorem d_Mr_power_25 : decode (fnB F_Mr_power) 25 = .ok (.istore_n 3, 1) := by decide +kernel
theorem d_Mr_power_26 : decode (fnB F_Mr_power) 26 = .ok (.iload_n 3, 1) := by decide +kernel
theorem d_Mr_power_27 : decode (fnB F_Mr_power) 27 = .ok (.bipush (-2), 2) := by decide +kernel
theorem d_Mr_power_29 : decode (fnB F_Mr_power) 29 = .ok (.if_icmp .eq 12, 3) := by decide +kernel
theorem d_Mr_power_32 : decode (fnB F_Mr_power) 32 = .ok (.iload_n 2, 1) := by decide +kernel
theorem d_Mr_power_33 : decode (fnB F_Mr_power) 33 = .ok (.ifCond .lt 8, 3) := by decide +kernel
theorem d_Mr_power_36 : decode (fnB F_Mr_power) 36 = .ok (.iload_n 2, 1) := by decide +kernel
theorem d_Mr_power_37 : decode (fnB F_Mr_power) 37 = .ok (.iconst 1, 1) := by decide +kernel
theorem d_Mr_power_38 : decode (fnB F_Mr_power) 38 = .ok (.if_icmp .le 6, 3) := by decide +kernel
theorem d_Mr_power_41 : decode (fnB F_Mr_power) 41 = .ok (.bipush (-2), 2) := by decide +kernel
theorem d_Mr_power_43 : decode (fnB F_Mr_power) 43 = .ok (.ireturn, 1) := by decide +kernel
theorem d_Mr_power_44 : decode (fnB F_Mr_power) 44 = .ok (.iload_n 3, 1) := by decide +kernel
theorem d_Mr_power_45 : decode (fnB F_Mr_power) 45 = .ok (.bipush (-4), 2) := by decide +kernel
theorem d_Mr_power_47 : decode (fnB F_Mr_power) 47 = .ok (.if_icmp .ne 6, 3) := by decide +kernel
theorem d_Mr_power_50 : decode (fnB F_Mr_power) 50 = .ok (.bipush (-4), 2) := by decide +kernel
theorem d_Mr_power_52 : decode (fnB F_Mr_power) 52 = .ok (.ireturn, 1) := by decide +kernel
theorem d_Mr_power_53 : decode (fnB F_Mr_power) 53 = .ok (.aload_n 0, 1) := by decide +kernel
theorem d_Mr_power_54 : decode (fnB F_Mr_power) 54 = .ok (.getfield 94, 3) := by decide +kernel
theorem d_Mr_power_57 : decode (fnB F_Mr_power) 57 = .ok (.invokevirtual 161, 3) := by decide +kernel
theorem d_Mr_power_60 : decode (fnB F_Mr_power) 60 = .ok (.aload_n 0, 1) := by decide +kernel
theorem d_Mr_power_61 : decode (fnB F_Mr_power) 61 = .ok (.getfield 104, 3) := by decide +kernel
theorem d_Mr_power_64 : decode (fnB F_Mr_power) 64 = .ok (.iconst 0, 1) := by decide +kernel
theorem d_Mr_power_65 : decode (fnB F_Mr_power) 65 = .ok (.iconst 0, 1) := by decide +kernel
theorem d_Mr_power_66 : decode (fnB F_Mr_power) 66 = .ok (.iastore, 1) := by decide +kernel
theorem d_Mr_power_67 : decode (fnB F_Mr_power) 67 = .ok (.iconst 1, 1) := by decide +kernel
theorem d_Mr_power_68 : decode (fnB F_Mr_power) 68 = .ok (.istore 4, 2) := by decide +kernel
theorem d_Mr_power_70 : decode (fnB F_Mr_power) 70 = .ok (.iload 4, 2) := by decide +kernel
theorem d_Mr_power_72 : decode (fnB F_Mr_power) 72 = .ok (.sipush 200, 3) := by decide +kernel
theorem d_Mr_power_75 : decode (fnB F_Mr_power) 75 = .ok (.if_icmp .gt 85, 3) := by decide +kernel
theorem d_Mr_power_78 : decode (fnB F_Mr_power) 78 = .ok (.aload_n 0, 1) := by decide +kernel
theorem d_Mr_power_79 : decode (fnB F_Mr_power) 79 = .ok (.getfield 104, 3) := by decide +kernel
theorem d_Mr_power_82 : decode (fnB F_Mr_power) 82 = .ok (.iload 4, 2) := by decide +kernel
theorem d_Mr_power_84 : decode (fnB F_Mr_power) 84 = .ok (.aload_n 0, 1) := by decide +kernel
theorem d_Mr_power_85 : decode (fnB F_Mr_power) 85 = .ok (.aload_n 0, 1) := by decide +kernel
theorem d_Mr_power_86 : decode (fnB F_Mr_power) 86 = .ok (.getfield 94, 3) := by decide +kernel
theorem d_Mr_power_89 : decode (fnB F_Mr_power) 89 = .ok (.aload_n 0, 1) := by decide +kernel
theorem d_Mr_power_90 : decode (fnB F_Mr_power) 90 = .ok (.getfield 98, 3) := by decide +kernel
theorem d_Mr_power_93 : decode (fnB F_Mr_power) 93 = .ok (.invokevirtual 314, 3) := by decide +kernel
theorem d_Mr_power_96 : decode (fnB F_Mr_power) 96 = .ok (.iastore, 1) := by decide +kernel
theorem d_Mr_power_97 : decode (fnB F_Mr_power) 97 = .ok (.aload_n 0, 1) := by decide +kernel
theorem d_Mr_power_98 : decode (fnB F_Mr_power) 98 = .ok (.getfield 104, 3) := by decide +kernel
theorem d_Mr_power_101 : decode (fnB F_Mr_power) 101 = .ok (.iload 4, 2) := by decide +kernel
theorem d_Mr_power_103 : decode (fnB F_Mr_power) 103 = .ok (.iaload, 1) := by decide +kernel
theorem d_Mr_power_104 : decode (fnB F_Mr_power) 104 = .ok (.ifCond .ge 11, 3) := by decide +kernel
theorem d_Mr_power_107 : decode (fnB F_Mr_power) 107 = .ok (.aload_n 0, 1) := by decide +kernel
theorem d_Mr_power_108 : decode (fnB F_Mr_power) 108 = .ok (.getfield 104, 3) := by decide +kernel
theorem d_Mr_power_111 : decode (fnB F_Mr_power) 111 = .ok (.iload 4, 2) := by decide +kernel
theorem d_Mr_power_113 : decode (fnB F_Mr_power) 113 = .ok (.iaload, 1) := by decide +kernel
theorem d_Mr_power_114 : decode (fnB F_Mr_power) 114 = .ok (.ireturn, 1) := by decide +kernel
theorem d_Mr_power_115 : decode (fnB F_Mr_power) 115 = .ok (.aload_n 0, 1) := by decide +kernel
theorem d_Mr_power_116 : decode (fnB F_Mr_power) 116 = .ok (.iload 4, 2) := by decide +kernel
theorem d_Mr_power_118 : decode (fnB F_Mr_power) 118 = .ok (.invokevirtual 318, 3) := by decide +kernel
theorem d_Mr_power_121 : decode (fnB F_Mr_power) 121 = .ok (.istore 5, 2) := by decide +kernel
theorem d_Mr_power_123 : decode (fnB F_Mr_power) 123 = .ok (.iload 5, 2) := by decide +kernel
theorem d_Mr_power_125 : decode (fnB F_Mr_power) 125 = .ok (.ifCond .lt 18, 3) := by decide +kernel
theorem d_Mr_power_128 : decode (fnB F_Mr_power) 128 = .ok (.iload_n 2, 1) := by decide +kernel
theorem d_Mr_power_129 : decode (fnB F_Mr_power) 129 = .ok (.ifCond .ne 8, 3) := by decide +kernel
theorem d_Mr_power_132 : decode (fnB F_Mr_power) 132 = .ok (.iload 5, 2) := by decide +kernel
theorem d_Mr_power_134 : decode (fnB F_Mr_power) 134 = .ok (.goto 8, 3) := by decide +kernel
theorem d_Mr_power_137 : decode (fnB F_Mr_power) 137 = .ok (.iload 4, 2) := by decide +kernel
theorem d_Mr_power_139 : decode (fnB F_Mr_power) 139 = .ok (.iload 5, 2) := by decide +kernel
theorem d_Mr_power_141 : decode (fnB F_Mr_power) 141 = .ok (.isub, 1) := by decide +kernel
theorem d_Mr_power_142 : decode (fnB F_Mr_power) 142 = .ok (.ireturn, 1) := by decide +kernel
theorem d_Mr_power_143 : decode (fnB F_Mr_power) 143 = .ok (.aload_n 0, 1) := by decide +kernel
theorem d_Mr_power_144 : decode (fnB F_Mr_power) 144 = .ok (.getfield 94, 3) := by decide +kernel
theorem d_Mr_power_147 : decode (fnB F_Mr_power) 147 = .ok (.aload_n 0, 1) := by decide +kernel
theorem d_Mr_power_148 : decode (fnB F_Mr_power) 148 = .ok (.getfield 101, 3) := by decide +kernel
theorem d_Mr_power_151 : decode (fnB F_Mr_power) 151 = .ok (.invokevirtual 136, 3) := by decide +kernel
theorem d_Mr_power_154 : decode (fnB F_Mr_power) 154 = .ok (.iinc 4 1, 3) := by decide +kernel
theorem d_Mr_power_157 : decode (fnB F_Mr_power) 157 = .ok (.goto (-87), 3) := by decide +kernel
theorem d_Mr_power_160 : decode (fnB F_Mr_power) 160 = .ok (.iconst (-1), 1) := by decide +kernel
theorem d_Mr_power_161 : decode (fnB F_Mr_power) 161 = .ok (.ireturn, 1) := by decide +kernel
theorem B_Mr_power_0 : (∀ (l1 l2 l3 l4 l5 : Value) (x : Nat) (st : List Value) (M : Mm) (Q : Option Value → Mm → Prop), wp F_Mr_power 0 [.ref x, l1, l2, l3, l4, l5] st M Q = wp F_Mr_power 1 [.ref x, l1, l2, l3, l4, l5] (.ref x :: st) M Q) ∧
  (∀ (l0 l1 l2 l3 l4 l5 : Value) (a : Nat) (st : List Value) (M : Mm) (Q : Option Value → Mm → Prop), wp F_Mr_power 1 [l0, l1, l2, l3, l4, l5] (.ref a :: st) M Q = (sh M a = some (.inl 11) ∧ wp F_Mr_power 4 [l0, l1, l2, l3, l4, l5] (va_rf (gR M a 10) :: st) M Q)) ∧
  (∀ (l0 l1 l2 l3 l4 l5 : Value) (b : Nat) (M : Mm) (Q : Option Value → Mm → Prop), wp F_Mr_power 4 [l0, l1, l2, l3, l4, l5] [.ref b] M Q = (sh M b = some (.inl 0) ∧ wp F_Completion_isDone 0 [.ref b] [] M (fun r M1 => wp F_Mr_power 7 [l0, l1, l2, l3, l4, l5] (r.toList ++ []) M1 Q))) ∧
  (∀ (l0 l1 l2 l3 l4 l5 : Value) (x : Int32) (st : List Value) (M : Mm) (Q : Option Value → Mm → Prop), wp F_Mr_power 7 [l0, l1, l2, l3, l4, l5] (.int x :: st) M Q = if x = 0 then wp F_Mr_power 10 [l0, l1, l2, l3, l4, l5] st M Q else wp F_Mr_power 13 [l0, l1, l2, l3, l4, l5] st M Q) ∧
  (∀ (l0 l1 l2 l3 l4 l5 : Value) (st : List Value) (M : Mm) (Q : Option Value → Mm → Prop), wp F_Mr_power 10 [l0, l1, l2, l3, l4, l5] st M Q = wp F_Mr_power 12 [l0, l1, l2, l3, l4, l5] (.int (-3) :: st) M Q) ∧
  (∀ (l0 l1 l2 l3 l4 l5 : Value) (v : Int32) (M : Mm) (Q : Option Value → Mm → Prop), wp F_Mr_power 12 [l0, l1, l2, l3, l4, l5] [.int v] M Q = Q (some (.int v)) M) := ⟨fun _ _ _ _ _ _ _ _ _ => wp_in d_Mr_power_0 rfl rfl, fun _ _ _ _ _ _ _ _ _ _ => wp_getA d_Mr_power_1 fl_11_65 rfl, fun _ _ _ _ _ _ _ _ _ => wp_callV d_Mr_power_4 ml_11_204 rfl rfl rfl, fun _ _ _ _ _ _ _ _ _ _ => wp_if_ne d_Mr_power_7 rfl, fun _ _ _ _ _ _ _ _ _ => wp_bipush d_Mr_power_10 (by decide), fun _ _ _ _ _ _ _ _ _ => wp_retI d_Mr_power_12 rfl⟩
theorem B_Mr_power_13 : (∀ (l1 l2 l3 l4 l5 : Value) (x : Nat) (st : List Value) (M : Mm) (Q : Option Value → Mm → Prop), wp F_Mr_power 13 [.ref x, l1, l2, l3, l4, l5] st M Q = wp F_Mr_power 14 [.ref x, l1, l2, l3, l4, l5] (.ref x :: st) M Q) ∧
  (∀ (l0 l1 l2 l3 l4 l5 : Value) (a : Nat) (st : List Value) (M : Mm) (Q : Option Value → Mm → Prop), wp F_Mr_power 14 [l0, l1, l2, l3, l4, l5] (.ref a :: st) M Q = (sh M a = some (.inl 11) ∧ wp F_Mr_power 17 [l0, l1, l2, l3, l4, l5] (va_rf (gR M a 12) :: st) M Q)) ∧
  (∀ (l0 l2 l3 l4 l5 : Value) (x : Int32) (st : List Value) (M : Mm) (Q : Option Value → Mm → Prop), wp F_Mr_power 17 [l0, .int x, l2, l3, l4, l5] st M Q = wp F_Mr_power 18 [l0, .int x, l2, l3, l4, l5] (.int x :: st) M Q) ∧
  (∀ (l1 l2 l3 l4 l5 : Value) (x : Nat) (st : List Value) (M : Mm) (Q : Option Value → Mm → Prop), wp F_Mr_power 18 [.ref x, l1, l2, l3, l4, l5] st M Q = wp F_Mr_power 19 [.ref x, l1, l2, l3, l4, l5] (.ref x :: st) M Q) ∧
  (∀ (l0 l1 l2 l3 l4 l5 : Value) (a : Nat) (st : List Value) (M : Mm) (Q : Option Value → Mm → Prop), wp F_Mr_power 19 [l0, l1, l2, l3, l4, l5] (.ref a :: st) M Q = (sh M a = some (.inl 11) ∧ wp F_Mr_power 22 [l0, l1, l2, l3, l4, l5] (va_rf (gR M a 17) :: st) M Q)) ∧
  (∀ (l0 l1 l2 l3 l4 l5 : Value) (b : Nat) (p0 : Int32) (p1 : Nat) (M : Mm) (Q : Option Value → Mm → Prop), wp F_Mr_power 22 [l0, l1, l2, l3, l4, l5] [.ref p1, .int p0, .ref b] M Q = (sh M b = some (.inl 1) ∧ wp F_Elements_spell 0 [.ref b, .int p0, .ref p1, jk, jk, jk, jk, jk] [] M (fun r M1 => wp F_Mr_power 25 [l0, l1, l2, l3, l4, l5] (r.toList ++ []) M1 Q))) ∧
  (∀ (l0 l1 l2 l3 l4 l5 : Value) (x : Int32) (st : List Value) (M : Mm) (Q : Option Value → Mm → Prop), wp F_Mr_power 25 [l0, l1, l2, l3, l4, l5] (.int x :: st) M Q = wp F_Mr_power 26 [l0, l1, clr l2, .int x, l4, l5] st M Q) ∧
  (∀ (l0 l1 l2 l4 l5 : Value) (x : Int32) (st : List Value) (M : Mm) (Q : Option Value → Mm → Prop), wp F_Mr_power 26 [l0, l1, l2, .int x, l4, l5] st M Q = wp F_Mr_power 27 [l0, l1, l2, .int x, l4, l5] (.int x :: st) M Q) ∧
  (∀ (l0 l1 l2 l3 l4 l5 : Value) (st : List Value) (M : Mm) (Q : Option Value → Mm → Prop), wp F_Mr_power 27 [l0, l1, l2, l3, l4, l5] st M Q = wp F_Mr_power 29 [l0, l1, l2, l3, l4, l5] (.int (-2) :: st) M Q) ∧
  (∀ (l0 l1 l2 l3 l4 l5 : Value) (x y : Int32) (st : List Value) (M : Mm) (Q : Option Value → Mm → Prop), wp F_Mr_power 29 [l0, l1, l2, l3, l4, l5] (.int y :: .int x :: st) M Q = if x = y then wp F_Mr_power 41 [l0, l1, l2, l3, l4, l5] st M Q else wp F_Mr_power 32 [l0, l1, l2, l3, l4, l5] st M Q) ∧
  (∀ (l0 l1 l3 l4 l5 : Value) (x : Int32) (st : List Value) (M : Mm) (Q : Option Value → Mm → Prop), wp F_Mr_power 32 [l0, l1, .int x, l3, l4, l5] st M Q = wp F_Mr_power 33 [l0, l1, .int x, l3, l4, l5] (.int x :: st) M Q) ∧
  (∀ (l0 l1 l2 l3 l4 l5 : Value) (x : Int32) (st : List Value) (M : Mm) (Q : Option Value → Mm → Prop), wp F_Mr_power 33 [l0, l1, l2, l3, l4, l5] (.int x :: st) M Q = if x < 0 then wp F_Mr_power 41 [l0, l1, l2, l3, l4, l5] st M Q else wp F_Mr_power 36 [l0, l1, l2, l3, l4, l5] st M Q) ∧
  (∀ (l0 l1 l3 l4 l5 : Value) (x : Int32) (st : List Value) (M : Mm) (Q : Option Value → Mm → Prop), wp F_Mr_power 36 [l0, l1, .int x, l3, l4, l5] st M Q = wp F_Mr_power 37 [l0, l1, .int x, l3, l4, l5] (.int x :: st) M Q) ∧
  (∀ (l0 l1 l2 l3 l4 l5 : Value) (st : List Value) (M : Mm) (Q : Option Value → Mm → Prop), wp F_Mr_power 37 [l0, l1, l2, l3, l4, l5] st M Q = wp F_Mr_power 38 [l0, l1, l2, l3, l4, l5] (.int 1 :: st) M Q) ∧
  (∀ (l0 l1 l2 l3 l4 l5 : Value) (x y : Int32) (st : List Value) (M : Mm) (Q : Option Value → Mm → Prop), wp F_Mr_power 38 [l0, l1, l2, l3, l4, l5] (.int y :: .int x :: st) M Q = if x ≤ y then wp F_Mr_power 44 [l0, l1, l2, l3, l4, l5] st M Q else wp F_Mr_power 41 [l0, l1, l2, l3, l4, l5] st M Q) := ⟨fun _ _ _ _ _ _ _ _ _ => wp_in d_Mr_power_13 rfl rfl, fun _ _ _ _ _ _ _ _ _ _ => wp_getA d_Mr_power_14 fl_11_81 rfl, fun _ _ _ _ _ _ _ _ _ => wp_in d_Mr_power_17 rfl rfl, fun _ _ _ _ _ _ _ _ _ => wp_in d_Mr_power_18 rfl rfl, fun _ _ _ _ _ _ _ _ _ _ => wp_getA d_Mr_power_19 fl_11_98 rfl, fun _ _ _ _ _ _ _ _ _ _ _ => wp_callV d_Mr_power_22 ml_11_307 rfl rfl rfl, fun _ _ _ _ _ _ _ _ _ _ => wp_in d_Mr_power_25 rfl rfl, fun _ _ _ _ _ _ _ _ _ => wp_in d_Mr_power_26 rfl rfl, fun _ _ _ _ _ _ _ _ _ => wp_bipush d_Mr_power_27 (by decide), fun _ _ _ _ _ _ _ _ _ _ _ => wp_icmp_eq d_Mr_power_29 rfl, fun _ _ _ _ _ _ _ _ _ => wp_in d_Mr_power_32 rfl rfl, fun _ _ _ _ _ _ _ _ _ _ => wp_if_lt d_Mr_power_33 rfl, fun _ _ _ _ _ _ _ _ _ => wp_in d_Mr_power_36 rfl rfl, fun _ _ _ _ _ _ _ _ _ => wp_iconst d_Mr_power_37 (by decide), fun _ _ _ _ _ _ _ _ _ _ _ => wp_icmp_le d_Mr_power_38 rfl⟩
theorem B_Mr_power_41 : (∀ (l0 l1 l2 l3 l4 l5 : Value) (st : List Value) (M : Mm) (Q : Option Value → Mm → Prop), wp F_Mr_power 41 [l0, l1, l2, l3, l4, l5] st M Q = wp F_Mr_power 43 [l0, l1, l2, l3, l4, l5] (.int (-2) :: st) M Q) ∧
  (∀ (l0 l1 l2 l3 l4 l5 : Value) (v : Int32) (M : Mm) (Q : Option Value → Mm → Prop), wp F_Mr_power 43 [l0, l1, l2, l3, l4, l5] [.int v] M Q = Q (some (.int v)) M) := ⟨fun _ _ _ _ _ _ _ _ _ => wp_bipush d_Mr_power_41 (by decide), fun _ _ _ _ _ _ _ _ _ => wp_retI d_Mr_power_43 rfl⟩
theorem B_Mr_power_44 : (∀ (l0 l1 l2 l4 l5 : Value) (x : Int32) (st : List Value) (M : Mm) (Q : Option Value → Mm → Prop), wp F_Mr_power 44 [l0, l1, l2, .int x, l4, l5] st M Q = wp F_Mr_power 45 [l0, l1, l2, .int x, l4, l5] (.int x :: st) M Q) ∧
  (∀ (l0 l1 l2 l3 l4 l5 : Value) (st : List Value) (M : Mm) (Q : Option Value → Mm → Prop), wp F_Mr_power 45 [l0, l1, l2, l3, l4, l5] st M Q = wp F_Mr_power 47 [l0, l1, l2, l3, l4, l5] (.int (-4) :: st) M Q) ∧
  (∀ (l0 l1 l2 l3 l4 l5 : Value) (x y : Int32) (st : List Value) (M : Mm) (Q : Option Value → Mm → Prop), wp F_Mr_power 47 [l0, l1, l2, l3, l4, l5] (.int y :: .int x :: st) M Q = if x = y then wp F_Mr_power 50 [l0, l1, l2, l3, l4, l5] st M Q else wp F_Mr_power 53 [l0, l1, l2, l3, l4, l5] st M Q) ∧
  (∀ (l0 l1 l2 l3 l4 l5 : Value) (st : List Value) (M : Mm) (Q : Option Value → Mm → Prop), wp F_Mr_power 50 [l0, l1, l2, l3, l4, l5] st M Q = wp F_Mr_power 52 [l0, l1, l2, l3, l4, l5] (.int (-4) :: st) M Q) ∧
  (∀ (l0 l1 l2 l3 l4 l5 : Value) (v : Int32) (M : Mm) (Q : Option Value → Mm → Prop), wp F_Mr_power 52 [l0, l1, l2, l3, l4, l5] [.int v] M Q = Q (some (.int v)) M) := ⟨fun _ _ _ _ _ _ _ _ _ => wp_in d_Mr_power_44 rfl rfl, fun _ _ _ _ _ _ _ _ _ => wp_bipush d_Mr_power_45 (by decide), fun _ _ _ _ _ _ _ _ _ _ _ => wp_icmp_ne d_Mr_power_47 rfl, fun _ _ _ _ _ _ _ _ _ => wp_bipush d_Mr_power_50 (by decide), fun _ _ _ _ _ _ _ _ _ => wp_retI d_Mr_power_52 rfl⟩
theorem B_Mr_power_53 : (∀ (l1 l2 l3 l4 l5 : Value) (x : Nat) (st : List Value) (M : Mm) (Q : Option Value → Mm → Prop), wp F_Mr_power 53 [.ref x, l1, l2, l3, l4, l5] st M Q = wp F_Mr_power 54 [.ref x, l1, l2, l3, l4, l5] (.ref x :: st) M Q) ∧
  (∀ (l0 l1 l2 l3 l4 l5 : Value) (a : Nat) (st : List Value) (M : Mm) (Q : Option Value → Mm → Prop), wp F_Mr_power 54 [l0, l1, l2, l3, l4, l5] (.ref a :: st) M Q = (sh M a = some (.inl 11) ∧ wp F_Mr_power 57 [l0, l1, l2, l3, l4, l5] (va_rf (gR M a 16) :: st) M Q)) ∧
  (∀ (l0 l1 l2 l3 l4 l5 : Value) (b : Nat) (M : Mm) (Q : Option Value → Mm → Prop), wp F_Mr_power 57 [l0, l1, l2, l3, l4, l5] [.ref b] M Q = (sh M b = some (.inl 10) ∧ wp F_Word_clear 0 [.ref b] [] M (fun r M1 => wp F_Mr_power 60 [l0, l1, l2, l3, l4, l5] (r.toList ++ []) M1 Q))) ∧
  (∀ (l1 l2 l3 l4 l5 : Value) (x : Nat) (st : List Value) (M : Mm) (Q : Option Value → Mm → Prop), wp F_Mr_power 60 [.ref x, l1, l2, l3, l4, l5] st M Q = wp F_Mr_power 61 [.ref x, l1, l2, l3, l4, l5] (.ref x :: st) M Q) ∧
  (∀ (l0 l1 l2 l3 l4 l5 : Value) (a : Nat) (st : List Value) (M : Mm) (Q : Option Value → Mm → Prop), wp F_Mr_power 61 [l0, l1, l2, l3, l4, l5] (.ref a :: st) M Q = (sh M a = some (.inl 11) ∧ wp F_Mr_power 64 [l0, l1, l2, l3, l4, l5] (va_rf (gR M a 19) :: st) M Q)) ∧
  (∀ (l0 l1 l2 l3 l4 l5 : Value) (st : List Value) (M : Mm) (Q : Option Value → Mm → Prop), wp F_Mr_power 64 [l0, l1, l2, l3, l4, l5] st M Q = wp F_Mr_power 65 [l0, l1, l2, l3, l4, l5] (.int 0 :: st) M Q) ∧
  (∀ (l0 l1 l2 l3 l4 l5 : Value) (st : List Value) (M : Mm) (Q : Option Value → Mm → Prop), wp F_Mr_power 65 [l0, l1, l2, l3, l4, l5] st M Q = wp F_Mr_power 66 [l0, l1, l2, l3, l4, l5] (.int 0 :: st) M Q) ∧
  (∀ (l0 l1 l2 l3 l4 l5 : Value) (a : Nat) (j x : Int32) (st : List Value) (M : Mm) (Q : Option Value → Mm → Prop), wp F_Mr_power 66 [l0, l1, l2, l3, l4, l5] (.int x :: .int j :: .ref a :: st) M Q = (ixW M a j ∧ wp F_Mr_power 67 [l0, l1, l2, l3, l4, l5] st (sI M a (cl j) x) Q)) ∧
  (∀ (l0 l1 l2 l3 l4 l5 : Value) (st : List Value) (M : Mm) (Q : Option Value → Mm → Prop), wp F_Mr_power 67 [l0, l1, l2, l3, l4, l5] st M Q = wp F_Mr_power 68 [l0, l1, l2, l3, l4, l5] (.int 1 :: st) M Q) ∧
  (∀ (l0 l1 l2 l3 l4 l5 : Value) (x : Int32) (st : List Value) (M : Mm) (Q : Option Value → Mm → Prop), wp F_Mr_power 68 [l0, l1, l2, l3, l4, l5] (.int x :: st) M Q = wp F_Mr_power 70 [l0, l1, l2, clr l3, .int x, l5] st M Q) := ⟨fun _ _ _ _ _ _ _ _ _ => wp_in d_Mr_power_53 rfl rfl, fun _ _ _ _ _ _ _ _ _ _ => wp_getA d_Mr_power_54 fl_11_94 rfl, fun _ _ _ _ _ _ _ _ _ => wp_callV d_Mr_power_57 ml_11_161 rfl rfl rfl, fun _ _ _ _ _ _ _ _ _ => wp_in d_Mr_power_60 rfl rfl, fun _ _ _ _ _ _ _ _ _ _ => wp_getA d_Mr_power_61 fl_11_104 rfl, fun _ _ _ _ _ _ _ _ _ => wp_iconst d_Mr_power_64 (by decide), fun _ _ _ _ _ _ _ _ _ => wp_iconst d_Mr_power_65 (by decide), fun _ _ _ _ _ _ _ _ _ _ _ _ => wp_iast d_Mr_power_66, fun _ _ _ _ _ _ _ _ _ => wp_iconst d_Mr_power_67 (by decide), fun _ _ _ _ _ _ _ _ _ _ => wp_in d_Mr_power_68 rfl rfl⟩
theorem B_Mr_power_70 : (∀ (l0 l1 l2 l3 l5 : Value) (x : Int32) (st : List Value) (M : Mm) (Q : Option Value → Mm → Prop), wp F_Mr_power 70 [l0, l1, l2, l3, .int x, l5] st M Q = wp F_Mr_power 72 [l0, l1, l2, l3, .int x, l5] (.int x :: st) M Q) ∧
  (∀ (l0 l1 l2 l3 l4 l5 : Value) (st : List Value) (M : Mm) (Q : Option Value → Mm → Prop), wp F_Mr_power 72 [l0, l1, l2, l3, l4, l5] st M Q = wp F_Mr_power 75 [l0, l1, l2, l3, l4, l5] (.int 200 :: st) M Q) ∧
  (∀ (l0 l1 l2 l3 l4 l5 : Value) (x y : Int32) (st : List Value) (M : Mm) (Q : Option Value → Mm → Prop), wp F_Mr_power 75 [l0, l1, l2, l3, l4, l5] (.int y :: .int x :: st) M Q = if y < x then wp F_Mr_power 160 [l0, l1, l2, l3, l4, l5] st M Q else wp F_Mr_power 78 [l0, l1, l2, l3, l4, l5] st M Q) ∧
  (∀ (l1 l2 l3 l4 l5 : Value) (x : Nat) (st : List Value) (M : Mm) (Q : Option Value → Mm → Prop), wp F_Mr_power 78 [.ref x, l1, l2, l3, l4, l5] st M Q = wp F_Mr_power 79 [.ref x, l1, l2, l3, l4, l5] (.ref x :: st) M Q) ∧
  (∀ (l0 l1 l2 l3 l4 l5 : Value) (a : Nat) (st : List Value) (M : Mm) (Q : Option Value → Mm → Prop), wp F_Mr_power 79 [l0, l1, l2, l3, l4, l5] (.ref a :: st) M Q = (sh M a = some (.inl 11) ∧ wp F_Mr_power 82 [l0, l1, l2, l3, l4, l5] (va_rf (gR M a 19) :: st) M Q)) ∧
  (∀ (l0 l1 l2 l3 l5 : Value) (x : Int32) (st : List Value) (M : Mm) (Q : Option Value → Mm → Prop), wp F_Mr_power 82 [l0, l1, l2, l3, .int x, l5] st M Q = wp F_Mr_power 84 [l0, l1, l2, l3, .int x, l5] (.int x :: st) M Q) ∧
  (∀ (l1 l2 l3 l4 l5 : Value) (x : Nat) (st : List Value) (M : Mm) (Q : Option Value → Mm → Prop), wp F_Mr_power 84 [.ref x, l1, l2, l3, l4, l5] st M Q = wp F_Mr_power 85 [.ref x, l1, l2, l3, l4, l5] (.ref x :: st) M Q) ∧
  (∀ (l1 l2 l3 l4 l5 : Value) (x : Nat) (st : List Value) (M : Mm) (Q : Option Value → Mm → Prop), wp F_Mr_power 85 [.ref x, l1, l2, l3, l4, l5] st M Q = wp F_Mr_power 86 [.ref x, l1, l2, l3, l4, l5] (.ref x :: st) M Q) ∧
  (∀ (l0 l1 l2 l3 l4 l5 : Value) (a : Nat) (st : List Value) (M : Mm) (Q : Option Value → Mm → Prop), wp F_Mr_power 86 [l0, l1, l2, l3, l4, l5] (.ref a :: st) M Q = (sh M a = some (.inl 11) ∧ wp F_Mr_power 89 [l0, l1, l2, l3, l4, l5] (va_rf (gR M a 16) :: st) M Q)) ∧
  (∀ (l1 l2 l3 l4 l5 : Value) (x : Nat) (st : List Value) (M : Mm) (Q : Option Value → Mm → Prop), wp F_Mr_power 89 [.ref x, l1, l2, l3, l4, l5] st M Q = wp F_Mr_power 90 [.ref x, l1, l2, l3, l4, l5] (.ref x :: st) M Q) ∧
  (∀ (l0 l1 l2 l3 l4 l5 : Value) (a : Nat) (st : List Value) (M : Mm) (Q : Option Value → Mm → Prop), wp F_Mr_power 90 [l0, l1, l2, l3, l4, l5] (.ref a :: st) M Q = (sh M a = some (.inl 11) ∧ wp F_Mr_power 93 [l0, l1, l2, l3, l4, l5] (va_rf (gR M a 17) :: st) M Q)) ∧
  (∀ (l0 l1 l2 l3 l4 l5 : Value) (b : Nat) (p0 : Nat) (p1 : Nat) (r0 r1 : Value) (M : Mm) (Q : Option Value → Mm → Prop), wp F_Mr_power 93 [l0, l1, l2, l3, l4, l5] [.ref p1, .ref p0, .ref b, r0, r1] M Q = (sh M b = some (.inl 11) ∧ wp F_Mr_multiply 0 [.ref b, .ref p0, .ref p1] [] M (fun r M1 => wp F_Mr_power 96 [l0, l1, l2, l3, l4, l5] (r.toList ++ [r0, r1]) M1 Q))) ∧
  (∀ (l0 l1 l2 l3 l4 l5 : Value) (a : Nat) (j x : Int32) (st : List Value) (M : Mm) (Q : Option Value → Mm → Prop), wp F_Mr_power 96 [l0, l1, l2, l3, l4, l5] (.int x :: .int j :: .ref a :: st) M Q = (ixW M a j ∧ wp F_Mr_power 97 [l0, l1, l2, l3, l4, l5] st (sI M a (cl j) x) Q)) ∧
  (∀ (l1 l2 l3 l4 l5 : Value) (x : Nat) (st : List Value) (M : Mm) (Q : Option Value → Mm → Prop), wp F_Mr_power 97 [.ref x, l1, l2, l3, l4, l5] st M Q = wp F_Mr_power 98 [.ref x, l1, l2, l3, l4, l5] (.ref x :: st) M Q) ∧
  (∀ (l0 l1 l2 l3 l4 l5 : Value) (a : Nat) (st : List Value) (M : Mm) (Q : Option Value → Mm → Prop), wp F_Mr_power 98 [l0, l1, l2, l3, l4, l5] (.ref a :: st) M Q = (sh M a = some (.inl 11) ∧ wp F_Mr_power 101 [l0, l1, l2, l3, l4, l5] (va_rf (gR M a 19) :: st) M Q)) ∧
  (∀ (l0 l1 l2 l3 l5 : Value) (x : Int32) (st : List Value) (M : Mm) (Q : Option Value → Mm → Prop), wp F_Mr_power 101 [l0, l1, l2, l3, .int x, l5] st M Q = wp F_Mr_power 103 [l0, l1, l2, l3, .int x, l5] (.int x :: st) M Q) ∧
  (∀ (l0 l1 l2 l3 l4 l5 : Value) (a : Nat) (j : Int32) (st : List Value) (M : Mm) (Q : Option Value → Mm → Prop), wp F_Mr_power 103 [l0, l1, l2, l3, l4, l5] (.int j :: .ref a :: st) M Q = (ixI M a j ∧ wp F_Mr_power 104 [l0, l1, l2, l3, l4, l5] (.int (gI M a (cl j)) :: st) M Q)) ∧
  (∀ (l0 l1 l2 l3 l4 l5 : Value) (x : Int32) (st : List Value) (M : Mm) (Q : Option Value → Mm → Prop), wp F_Mr_power 104 [l0, l1, l2, l3, l4, l5] (.int x :: st) M Q = if 0 ≤ x then wp F_Mr_power 115 [l0, l1, l2, l3, l4, l5] st M Q else wp F_Mr_power 107 [l0, l1, l2, l3, l4, l5] st M Q) ∧
  (∀ (l1 l2 l3 l4 l5 : Value) (x : Nat) (st : List Value) (M : Mm) (Q : Option Value → Mm → Prop), wp F_Mr_power 107 [.ref x, l1, l2, l3, l4, l5] st M Q = wp F_Mr_power 108 [.ref x, l1, l2, l3, l4, l5] (.ref x :: st) M Q) ∧
  (∀ (l0 l1 l2 l3 l4 l5 : Value) (a : Nat) (st : List Value) (M : Mm) (Q : Option Value → Mm → Prop), wp F_Mr_power 108 [l0, l1, l2, l3, l4, l5] (.ref a :: st) M Q = (sh M a = some (.inl 11) ∧ wp F_Mr_power 111 [l0, l1, l2, l3, l4, l5] (va_rf (gR M a 19) :: st) M Q)) ∧
  (∀ (l0 l1 l2 l3 l5 : Value) (x : Int32) (st : List Value) (M : Mm) (Q : Option Value → Mm → Prop), wp F_Mr_power 111 [l0, l1, l2, l3, .int x, l5] st M Q = wp F_Mr_power 113 [l0, l1, l2, l3, .int x, l5] (.int x :: st) M Q) ∧
  (∀ (l0 l1 l2 l3 l4 l5 : Value) (a : Nat) (j : Int32) (st : List Value) (M : Mm) (Q : Option Value → Mm → Prop), wp F_Mr_power 113 [l0, l1, l2, l3, l4, l5] (.int j :: .ref a :: st) M Q = (ixI M a j ∧ wp F_Mr_power 114 [l0, l1, l2, l3, l4, l5] (.int (gI M a (cl j)) :: st) M Q)) ∧
  (∀ (l0 l1 l2 l3 l4 l5 : Value) (v : Int32) (M : Mm) (Q : Option Value → Mm → Prop), wp F_Mr_power 114 [l0, l1, l2, l3, l4, l5] [.int v] M Q = Q (some (.int v)) M) := ⟨fun _ _ _ _ _ _ _ _ _ => wp_in d_Mr_power_70 rfl rfl, fun _ _ _ _ _ _ _ _ _ => wp_sipush d_Mr_power_72 (by decide), fun _ _ _ _ _ _ _ _ _ _ _ => wp_icmp_gt d_Mr_power_75 rfl, fun _ _ _ _ _ _ _ _ _ => wp_in d_Mr_power_78 rfl rfl, fun _ _ _ _ _ _ _ _ _ _ => wp_getA d_Mr_power_79 fl_11_104 rfl, fun _ _ _ _ _ _ _ _ _ => wp_in d_Mr_power_82 rfl rfl, fun _ _ _ _ _ _ _ _ _ => wp_in d_Mr_power_84 rfl rfl, fun _ _ _ _ _ _ _ _ _ => wp_in d_Mr_power_85 rfl rfl, fun _ _ _ _ _ _ _ _ _ _ => wp_getA d_Mr_power_86 fl_11_94 rfl, fun _ _ _ _ _ _ _ _ _ => wp_in d_Mr_power_89 rfl rfl, fun _ _ _ _ _ _ _ _ _ _ => wp_getA d_Mr_power_90 fl_11_98 rfl, fun _ _ _ _ _ _ _ _ _ _ _ _ _ => wp_callV d_Mr_power_93 ml_11_314 rfl rfl rfl, fun _ _ _ _ _ _ _ _ _ _ _ _ => wp_iast d_Mr_power_96, fun _ _ _ _ _ _ _ _ _ => wp_in d_Mr_power_97 rfl rfl, fun _ _ _ _ _ _ _ _ _ _ => wp_getA d_Mr_power_98 fl_11_104 rfl, fun _ _ _ _ _ _ _ _ _ => wp_in d_Mr_power_101 rfl rfl, fun _ _ _ _ _ _ _ _ _ _ _ => wp_iald d_Mr_power_103, fun _ _ _ _ _ _ _ _ _ _ => wp_if_ge d_Mr_power_104 rfl, fun _ _ _ _ _ _ _ _ _ => wp_in d_Mr_power_107 rfl rfl, fun _ _ _ _ _ _ _ _ _ _ => wp_getA d_Mr_power_108 fl_11_104 rfl, fun _ _ _ _ _ _ _ _ _ => wp_in d_Mr_power_111 rfl rfl, fun _ _ _ _ _ _ _ _ _ _ _ => wp_iald d_Mr_power_113, fun _ _ _ _ _ _ _ _ _ => wp_retI d_Mr_power_114 rfl⟩
theorem B_Mr_power_115 : (∀ (l1 l2 l3 l4 l5 : Value) (x : Nat) (st : List Value) (M : Mm) (Q : Option Value → Mm → Prop), wp F_Mr_power 115 [.ref x, l1, l2, l3, l4, l5] st M Q = wp F_Mr_power 116 [.ref x, l1, l2, l3, l4, l5] (.ref x :: st) M Q) ∧
  (∀ (l0 l1 l2 l3 l5 : Value) (x : Int32) (st : List Value) (M : Mm) (Q : Option Value → Mm → Prop), wp F_Mr_power 116 [l0, l1, l2, l3, .int x, l5] st M Q = wp F_Mr_power 118 [l0, l1, l2, l3, .int x, l5] (.int x :: st) M Q) ∧
  (∀ (l0 l1 l2 l3 l4 l5 : Value) (b : Nat) (p0 : Int32) (M : Mm) (Q : Option Value → Mm → Prop), wp F_Mr_power 118 [l0, l1, l2, l3, l4, l5] [.int p0, .ref b] M Q = (sh M b = some (.inl 11) ∧ wp F_Mr_earlierPower 0 [.ref b, .int p0, jk] [] M (fun r M1 => wp F_Mr_power 121 [l0, l1, l2, l3, l4, l5] (r.toList ++ []) M1 Q))) ∧
  (∀ (l0 l1 l2 l3 l4 l5 : Value) (x : Int32) (st : List Value) (M : Mm) (Q : Option Value → Mm → Prop), wp F_Mr_power 121 [l0, l1, l2, l3, l4, l5] (.int x :: st) M Q = wp F_Mr_power 123 [l0, l1, l2, l3, clr l4, .int x] st M Q) ∧
  (∀ (l0 l1 l2 l3 l4 : Value) (x : Int32) (st : List Value) (M : Mm) (Q : Option Value → Mm → Prop), wp F_Mr_power 123 [l0, l1, l2, l3, l4, .int x] st M Q = wp F_Mr_power 125 [l0, l1, l2, l3, l4, .int x] (.int x :: st) M Q) ∧
  (∀ (l0 l1 l2 l3 l4 l5 : Value) (x : Int32) (st : List Value) (M : Mm) (Q : Option Value → Mm → Prop), wp F_Mr_power 125 [l0, l1, l2, l3, l4, l5] (.int x :: st) M Q = if x < 0 then wp F_Mr_power 143 [l0, l1, l2, l3, l4, l5] st M Q else wp F_Mr_power 128 [l0, l1, l2, l3, l4, l5] st M Q) ∧
  (∀ (l0 l1 l3 l4 l5 : Value) (x : Int32) (st : List Value) (M : Mm) (Q : Option Value → Mm → Prop), wp F_Mr_power 128 [l0, l1, .int x, l3, l4, l5] st M Q = wp F_Mr_power 129 [l0, l1, .int x, l3, l4, l5] (.int x :: st) M Q) ∧
  (∀ (l0 l1 l2 l3 l4 l5 : Value) (x : Int32) (st : List Value) (M : Mm) (Q : Option Value → Mm → Prop), wp F_Mr_power 129 [l0, l1, l2, l3, l4, l5] (.int x :: st) M Q = if x = 0 then wp F_Mr_power 132 [l0, l1, l2, l3, l4, l5] st M Q else wp F_Mr_power 137 [l0, l1, l2, l3, l4, l5] st M Q) ∧
  (∀ (l0 l1 l2 l3 l4 : Value) (x : Int32) (st : List Value) (M : Mm) (Q : Option Value → Mm → Prop), wp F_Mr_power 132 [l0, l1, l2, l3, l4, .int x] st M Q = wp F_Mr_power 134 [l0, l1, l2, l3, l4, .int x] (.int x :: st) M Q) ∧
  (∀ (l0 l1 l2 l3 l4 l5 : Value) (st : List Value) (M : Mm) (Q : Option Value → Mm → Prop), wp F_Mr_power 134 [l0, l1, l2, l3, l4, l5] st M Q = wp F_Mr_power 142 [l0, l1, l2, l3, l4, l5] st M Q) := ⟨fun _ _ _ _ _ _ _ _ _ => wp_in d_Mr_power_115 rfl rfl, fun _ _ _ _ _ _ _ _ _ => wp_in d_Mr_power_116 rfl rfl, fun _ _ _ _ _ _ _ _ _ _ => wp_callV d_Mr_power_118 ml_11_318 rfl rfl rfl, fun _ _ _ _ _ _ _ _ _ _ => wp_in d_Mr_power_121 rfl rfl, fun _ _ _ _ _ _ _ _ _ => wp_in d_Mr_power_123 rfl rfl, fun _ _ _ _ _ _ _ _ _ _ => wp_if_lt d_Mr_power_125 rfl, fun _ _ _ _ _ _ _ _ _ => wp_in d_Mr_power_128 rfl rfl, fun _ _ _ _ _ _ _ _ _ _ => wp_if_ne d_Mr_power_129 rfl, fun _ _ _ _ _ _ _ _ _ => wp_in d_Mr_power_132 rfl rfl, fun _ _ _ _ _ _ _ _ _ => wp_goto d_Mr_power_134 rfl⟩
theorem B_Mr_power_137 : (∀ (l0 l1 l2 l3 l5 : Value) (x : Int32) (st : List Value) (M : Mm) (Q : Option Value → Mm → Prop), wp F_Mr_power 137 [l0, l1, l2, l3, .int x, l5] st M Q = wp F_Mr_power 139 [l0, l1, l2, l3, .int x, l5] (.int x :: st) M Q) ∧
  (∀ (l0 l1 l2 l3 l4 : Value) (x : Int32) (st : List Value) (M : Mm) (Q : Option Value → Mm → Prop), wp F_Mr_power 139 [l0, l1, l2, l3, l4, .int x] st M Q = wp F_Mr_power 141 [l0, l1, l2, l3, l4, .int x] (.int x :: st) M Q) ∧
  (∀ (l0 l1 l2 l3 l4 l5 : Value) (x y : Int32) (st : List Value) (M : Mm) (Q : Option Value → Mm → Prop), wp F_Mr_power 141 [l0, l1, l2, l3, l4, l5] (.int y :: .int x :: st) M Q = wp F_Mr_power 142 [l0, l1, l2, l3, l4, l5] (.int (x - y) :: st) M Q) := ⟨fun _ _ _ _ _ _ _ _ _ => wp_in d_Mr_power_137 rfl rfl, fun _ _ _ _ _ _ _ _ _ => wp_in d_Mr_power_139 rfl rfl, fun _ _ _ _ _ _ _ _ _ _ _ => wp_in d_Mr_power_141 rfl rfl⟩
theorem B_Mr_power_142 : (∀ (l0 l1 l2 l3 l4 l5 : Value) (v : Int32) (M : Mm) (Q : Option Value → Mm → Prop), wp F_Mr_power 142 [l0, l1, l2, l3, l4, l5] [.int v] M Q = Q (some (.int v)) M) := fun _ _ _ _ _ _ _ _ _ => wp_retI d_Mr_power_142 rfl
theorem B_Mr_power_143 : (∀ (l1 l2 l3 l4 l5 : Value) (x : Nat) (st : List Value) (M : Mm) (Q : Option Value → Mm → Prop), wp F_Mr_power 143 [.ref x, l1, l2, l3, l4, l5] st M Q = wp F_Mr_power 144 [.ref x, l1, l2, l3, l4, l5] (.ref x :: st) M Q) ∧
  (∀ (l0 l1 l2 l3 l4 l5 : Value) (a : Nat) (st : List Value) (M : Mm) (Q : Option Value → Mm → Prop), wp F_Mr_power 144 [l0, l1, l2, l3, l4, l5] (.ref a :: st) M Q = (sh M a = some (.inl 11) ∧ wp F_Mr_power 147 [l0, l1, l2, l3, l4, l5] (va_rf (gR M a 16) :: st) M Q)) ∧
  (∀ (l1 l2 l3 l4 l5 : Value) (x : Nat) (st : List Value) (M : Mm) (Q : Option Value → Mm → Prop), wp F_Mr_power 147 [.ref x, l1, l2, l3, l4, l5] st M Q = wp F_Mr_power 148 [.ref x, l1, l2, l3, l4, l5] (.ref x :: st) M Q) ∧
  (∀ (l0 l1 l2 l3 l4 l5 : Value) (a : Nat) (st : List Value) (M : Mm) (Q : Option Value → Mm → Prop), wp F_Mr_power 148 [l0, l1, l2, l3, l4, l5] (.ref a :: st) M Q = (sh M a = some (.inl 11) ∧ wp F_Mr_power 151 [l0, l1, l2, l3, l4, l5] (va_rf (gR M a 18) :: st) M Q)) ∧
  (∀ (l0 l1 l2 l3 l4 l5 : Value) (b : Nat) (p0 : Nat) (M : Mm) (Q : Option Value → Mm → Prop), wp F_Mr_power 151 [l0, l1, l2, l3, l4, l5] [.ref p0, .ref b] M Q = (sh M b = some (.inl 10) ∧ wp F_Word_become 0 [.ref b, .ref p0, jk, jk] [] M (fun r M1 => wp F_Mr_power 154 [l0, l1, l2, l3, l4, l5] (r.toList ++ []) M1 Q))) ∧
  (∀ (l0 l1 l2 l3 l5 : Value) (x : Int32) (st : List Value) (M : Mm) (Q : Option Value → Mm → Prop), wp F_Mr_power 154 [l0, l1, l2, l3, .int x, l5] st M Q = wp F_Mr_power 157 [l0, l1, l2, clr l3, .int (x + 1), l5] st M Q) := ⟨fun _ _ _ _ _ _ _ _ _ => wp_in d_Mr_power_143 rfl rfl, fun _ _ _ _ _ _ _ _ _ _ => wp_getA d_Mr_power_144 fl_11_94 rfl, fun _ _ _ _ _ _ _ _ _ => wp_in d_Mr_power_147 rfl rfl, fun _ _ _ _ _ _ _ _ _ _ => wp_getA d_Mr_power_148 fl_11_101 rfl, fun _ _ _ _ _ _ _ _ _ _ => wp_callV d_Mr_power_151 ml_11_136 rfl rfl rfl, fun _ _ _ _ _ _ _ _ _ => wp_iinc d_Mr_power_154 (by decide) rfl rfl⟩
theorem B_Mr_power_160 : (∀ (l0 l1 l2 l3 l4 l5 : Value) (st : List Value) (M : Mm) (Q : Option Value → Mm → Prop), wp F_Mr_power 160 [l0, l1, l2, l3, l4, l5] st M Q = wp F_Mr_power 161 [l0, l1, l2, l3, l4, l5] (.int (-1) :: st) M Q) ∧
  (∀ (l0 l1 l2 l3 l4 l5 : Value) (v : Int32) (M : Mm) (Q : Option Value → Mm → Prop), wp F_Mr_power 161 [l0, l1, l2, l3, l4, l5] [.int v] M Q = Q (some (.int v)) M) := ⟨fun _ _ _ _ _ _ _ _ _ => wp_iconst d_Mr_power_160 (by decide), fun _ _ _ _ _ _ _ _ _ => wp_retI d_Mr_power_161 rfl⟩
theorem G_Mr_power_157 (l0 l1 l2 l3 l4 l5 : Value) (st : List Value) (M : Mm) (Q : Option Value → Mm → Prop) : wp F_Mr_power 157 [l0, l1, l2, l3, l4, l5] st M Q = wp F_Mr_power 70 [l0, l1, l2, l3, l4, l5] st M Q := wp_goto d_Mr_power_157 rfl
theorem d_Mr_inverse_0 : decode (fnB F_Mr_inverse) 0 = .ok (.aload_n 0, 1) := by decide +kernel
theorem d_Mr_inverse_1 : decode (fnB F_Mr_inverse) 1 = .ok (.getfield 65, 3) := by decide +kernel
theorem d_Mr_inverse_4 : decode (fnB F_Mr_inverse) 4 = .ok (.invokevirtual 204, 3) := by decide +kernel
theorem d_Mr_inverse_7 : decode (fnB F_Mr_inverse) 7 = .ok (.ifCond .ne 6, 3) := by decide +kernel
theorem d_Mr_inverse_10 : decode (fnB F_Mr_inverse) 10 = .ok (.bipush (-3), 2) := by decide +kernel
theorem d_Mr_inverse_12 : decode (fnB F_Mr_inverse) 12 = .ok (.ireturn, 1) := by decide +kernel
theorem d_Mr_inverse_13 : decode (fnB F_Mr_inverse) 13 = .ok (.aload_n 0, 1) := by decide +kernel
theorem d_Mr_inverse_14 : decode (fnB F_Mr_inverse) 14 = .ok (.getfield 81, 3) := by decide +kernel
theorem d_Mr_inverse_17 : decode (fnB F_Mr_inverse) 17 = .ok (.iload_n 1, 1) := by decide +kernel
theorem d_Mr_inverse_18 : decode (fnB F_Mr_inverse) 18 = .ok (.aload_n 0, 1) := by decide +kernel
theorem d_Mr_inverse_19 : decode (fnB F_Mr_inverse) 19 = .ok (.getfield 94, 3) := by decide +kernel
theorem d_Mr_inverse_22 : decode (fnB F_Mr_inverse) 22 = .ok (.invokevirtual 307, 3) := by decide +kernel
theorem d_Mr_inverse_25 : decode (fnB F_Mr_inverse) 25 = .ok (.istore_n 2, 1) := by decide +kernel
theorem d_Mr_inverse_26 : decode (fnB F_Mr_inverse) 26 = .ok (.iload_n 2, 1) := by decide +kernel
theorem d_Mr_inverse_27 : decode (fnB F_Mr_inverse) 27 = .ok (.ifCond .ge 5, 3) := by decide +kernel
theorem d_Mr_inverse_30 : decode (fnB F_Mr_inverse) 30 = .ok (.iload_n 2, 1) := by decide +kernel
theorem d_Mr_inverse_31 : decode (fnB F_Mr_inverse) 31 = .ok (.ireturn, 1) := by decide +kernel
theorem d_Mr_inverse_32 : decode (fnB F_Mr_inverse) 32 = .ok (.iconst 0, 1) := by decide +kernel
theorem d_Mr_inverse_33 : decode (fnB F_Mr_inverse) 33 = .ok (.istore_n 3, 1) := by decide +kernel
theorem d_Mr_inverse_34 : decode (fnB F_Mr_inverse) 34 = .ok (.iload_n 3, 1) := by decide +kernel
theorem d_Mr_inverse_35 : decode (fnB F_Mr_inverse) 35 = .ok (.sipush 400, 3) := by decide +kernel
theorem d_Mr_inverse_38 : decode (fnB F_Mr_inverse) 38 = .ok (.if_icmp .ge 90, 3) := by decide +kernel
theorem d_Mr_inverse_41 : decode (fnB F_Mr_inverse) 41 = .ok (.aload_n 0, 1) := by decide +kernel
theorem d_Mr_inverse_42 : decode (fnB F_Mr_inverse) 42 = .ok (.getfield 81, 3) := by decide +kernel
theorem d_Mr_inverse_45 : decode (fnB F_Mr_inverse) 45 = .ok (.iload_n 3, 1) := by decide +kernel
theorem d_Mr_inverse_46 : decode (fnB F_Mr_inverse) 46 = .ok (.aload_n 0, 1) := by decide +kernel
theorem d_Mr_inverse_47 : decode (fnB F_Mr_inverse) 47 = .ok (.getfield 98, 3) := by decide +kernel
theorem d_Mr_inverse_50 : decode (fnB F_Mr_inverse) 50 = .ok (.invokevirtual 307, 3) := by decide +kernel
theorem d_Mr_inverse_53 : decode (fnB F_Mr_inverse) 53 = .ok (.istore 4, 2) := by decide +kernel
theorem d_Mr_inverse_55 : decode (fnB F_Mr_inverse) 55 = .ok (.iload 4, 2) := by decide +kernel
theorem d_Mr_inverse_57 : decode (fnB F_Mr_inverse) 57 = .ok (.ifCond .ge 17, 3) := by decide +kernel
theorem d_Mr_inverse_60 : decode (fnB F_Mr_inverse) 60 = .ok (.iload 4, 2) := by decide +kernel
theorem d_Mr_inverse_62 : decode (fnB F_Mr_inverse) 62 = .ok (.bipush (-2), 2) := by decide +kernel
theorem d_Mr_inverse_64 : decode (fnB F_Mr_inverse) 64 = .ok (.if_icmp .ne 7, 3) := by decide +kernel
theorem d_Mr_inverse_67 : decode (fnB F_Mr_inverse) 67 = .ok (.iconst (-1), 1) := by decide +kernel
theorem d_Mr_inverse_68 : decode (fnB F_Mr_inverse) 68 = .ok (.goto 5, 3) := by decide +kernel
theorem d_Mr_inverse_71 : decode (fnB F_Mr_inverse) 71 = .ok (.bipush (-4), 2) := by decide +kernel
theorem d_Mr_inverse_73 : decode (fnB F_Mr_inverse) 73 = .ok (.ireturn, 1) := by decide +kernel
theorem d_Mr_inverse_74 : decode (fnB F_Mr_inverse) 74 = .ok (.aload_n 0, 1) := by decide +kernel
theorem d_Mr_inverse_75 : decode (fnB F_Mr_inverse) 75 = .ok (.aload_n 0, 1) := by decide +kernel
theorem d_Mr_inverse_76 : decode (fnB F_Mr_inverse) 76 = .ok (.getfield 94, 3) := by decide +kernel
theorem d_Mr_inverse_79 : decode (fnB F_Mr_inverse) 79 = .ok (.aload_n 0, 1) := by decide +kernel
theorem d_Mr_inverse_80 : decode (fnB F_Mr_inverse) 80 = .ok (.getfield 98, 3) := by decide +kernel
theorem d_Mr_inverse_83 : decode (fnB F_Mr_inverse) 83 = .ok (.invokevirtual 314, 3) := by decide +kernel
theorem d_Mr_inverse_86 : decode (fnB F_Mr_inverse) 86 = .ok (.istore 5, 2) := by decide +kernel
theorem d_Mr_inverse_88 : decode (fnB F_Mr_inverse) 88 = .ok (.iload 5, 2) := by decide +kernel
theorem d_Mr_inverse_90 : decode (fnB F_Mr_inverse) 90 = .ok (.ifCond .ne 17, 3) := by decide +kernel
theorem d_Mr_inverse_93 : decode (fnB F_Mr_inverse) 93 = .ok (.aload_n 0, 1) := by decide +kernel
theorem d_Mr_inverse_94 : decode (fnB F_Mr_inverse) 94 = .ok (.aload_n 0, 1) := by decide +kernel
theorem d_Mr_inverse_95 : decode (fnB F_Mr_inverse) 95 = .ok (.getfield 98, 3) := by decide +kernel
theorem d_Mr_inverse_98 : decode (fnB F_Mr_inverse) 98 = .ok (.aload_n 0, 1) := by decide +kernel
theorem d_Mr_inverse_99 : decode (fnB F_Mr_inverse) 99 = .ok (.getfield 94, 3) := by decide +kernel
theorem d_Mr_inverse_102 : decode (fnB F_Mr_inverse) 102 = .ok (.invokevirtual 314, 3) := by decide +kernel
theorem d_Mr_inverse_105 : decode (fnB F_Mr_inverse) 105 = .ok (.istore 5, 2) := by decide +kernel
theorem d_Mr_inverse_107 : decode (fnB F_Mr_inverse) 107 = .ok (.iload 5, 2) := by decide +kernel
theorem d_Mr_inverse_109 : decode (fnB F_Mr_inverse) 109 = .ok (.ifCond .ge 6, 3) := by decide +kernel
theorem d_Mr_inverse_112 : decode (fnB F_Mr_inverse) 112 = .ok (.iload 5, 2) := by decide +kernel
theorem d_Mr_inverse_114 : decode (fnB F_Mr_inverse) 114 = .ok (.ireturn, 1) := by decide +kernel
theorem d_Mr_inverse_115 : decode (fnB F_Mr_inverse) 115 = .ok (.iload 5, 2) := by decide +kernel
theorem d_Mr_inverse_117 : decode (fnB F_Mr_inverse) 117 = .ok (.ifCond .ne 5, 3) := by decide +kernel
theorem d_Mr_inverse_120 : decode (fnB F_Mr_inverse) 120 = .ok (.iload_n 3, 1) := by decide +kernel
theorem d_Mr_inverse_121 : decode (fnB F_Mr_inverse) 121 = .ok (.ireturn, 1) := by decide +kernel
theorem d_Mr_inverse_122 : decode (fnB F_Mr_inverse) 122 = .ok (.iinc 3 1, 3) := by decide +kernel
theorem d_Mr_inverse_125 : decode (fnB F_Mr_inverse) 125 = .ok (.goto (-91), 3) := by decide +kernel
theorem d_Mr_inverse_128 : decode (fnB F_Mr_inverse) 128 = .ok (.iconst (-1), 1) := by decide +kernel
theorem d_Mr_inverse_129 : decode (fnB F_Mr_inverse) 129 = .ok (.ireturn, 1) := by decide +kernel
theorem B_Mr_inverse_0 : (∀ (l1 l2 l3 l4 l5 : Value) (x : Nat) (st : List Value) (M : Mm) (Q : Option Value → Mm → Prop), wp F_Mr_inverse 0 [.ref x, l1, l2, l3, l4, l5] st M Q = wp F_Mr_inverse 1 [.ref x, l1, l2, l3, l4, l5] (.ref x :: st) M Q) ∧
  (∀ (l0 l1 l2 l3 l4 l5 : Value) (a : Nat) (st : List Value) (M : Mm) (Q : Option Value → Mm → Prop), wp F_Mr_inverse 1 [l0, l1, l2, l3, l4, l5] (.ref a :: st) M Q = (sh M a = some (.inl 11) ∧ wp F_Mr_inverse 4 [l0, l1, l2, l3, l4, l5] (va_rf (gR M a 10) :: st) M Q)) ∧
  (∀ (l0 l1 l2 l3 l4 l5 : Value) (b : Nat) (M : Mm) (Q : Option Value → Mm → Prop), wp F_Mr_inverse 4 [l0, l1, l2, l3, l4, l5] [.ref b] M Q = (sh M b = some (.inl 0) ∧ wp F_Completion_isDone 0 [.ref b] [] M (fun r M1 => wp F_Mr_inverse 7 [l0, l1, l2, l3, l4, l5] (r.toList ++ []) M1 Q))) ∧
  (∀ (l0 l1 l2 l3 l4 l5 : Value) (x : Int32) (st : List Value) (M : Mm) (Q : Option Value → Mm → Prop), wp F_Mr_inverse 7 [l0, l1, l2, l3, l4, l5] (.int x :: st) M Q = if x = 0 then wp F_Mr_inverse 10 [l0, l1, l2, l3, l4, l5] st M Q else wp F_Mr_inverse 13 [l0, l1, l2, l3, l4, l5] st M Q) ∧
  (∀ (l0 l1 l2 l3 l4 l5 : Value) (st : List Value) (M : Mm) (Q : Option Value → Mm → Prop), wp F_Mr_inverse 10 [l0, l1, l2, l3, l4, l5] st M Q = wp F_Mr_inverse 12 [l0, l1, l2, l3, l4, l5] (.int (-3) :: st) M Q) ∧
  (∀ (l0 l1 l2 l3 l4 l5 : Value) (v : Int32) (M : Mm) (Q : Option Value → Mm → Prop), wp F_Mr_inverse 12 [l0, l1, l2, l3, l4, l5] [.int v] M Q = Q (some (.int v)) M) := ⟨fun _ _ _ _ _ _ _ _ _ => wp_in d_Mr_inverse_0 rfl rfl, fun _ _ _ _ _ _ _ _ _ _ => wp_getA d_Mr_inverse_1 fl_11_65 rfl, fun _ _ _ _ _ _ _ _ _ => wp_callV d_Mr_inverse_4 ml_11_204 rfl rfl rfl, fun _ _ _ _ _ _ _ _ _ _ => wp_if_ne d_Mr_inverse_7 rfl, fun _ _ _ _ _ _ _ _ _ => wp_bipush d_Mr_inverse_10 (by decide), fun _ _ _ _ _ _ _ _ _ => wp_retI d_Mr_inverse_12 rfl⟩
theorem B_Mr_inverse_13 : (∀ (l1 l2 l3 l4 l5 : Value) (x : Nat) (st : List Value) (M : Mm) (Q : Option Value → Mm → Prop), wp F_Mr_inverse 13 [.ref x, l1, l2, l3, l4, l5] st M Q = wp F_Mr_inverse 14 [.ref x, l1, l2, l3, l4, l5] (.ref x :: st) M Q) ∧
  (∀ (l0 l1 l2 l3 l4 l5 : Value) (a : Nat) (st : List Value) (M : Mm) (Q : Option Value → Mm → Prop), wp F_Mr_inverse 14 [l0, l1, l2, l3, l4, l5] (.ref a :: st) M Q = (sh M a = some (.inl 11) ∧ wp F_Mr_inverse 17 [l0, l1, l2, l3, l4, l5] (va_rf (gR M a 12) :: st) M Q)) ∧
  (∀ (l0 l2 l3 l4 l5 : Value) (x : Int32) (st : List Value) (M : Mm) (Q : Option Value → Mm → Prop), wp F_Mr_inverse 17 [l0, .int x, l2, l3, l4, l5] st M Q = wp F_Mr_inverse 18 [l0, .int x, l2, l3, l4, l5] (.int x :: st) M Q) ∧
  (∀ (l1 l2 l3 l4 l5 : Value) (x : Nat) (st : List Value) (M : Mm) (Q : Option Value → Mm → Prop), wp F_Mr_inverse 18 [.ref x, l1, l2, l3, l4, l5] st M Q = wp F_Mr_inverse 19 [.ref x, l1, l2, l3, l4, l5] (.ref x :: st) M Q) ∧
  (∀ (l0 l1 l2 l3 l4 l5 : Value) (a : Nat) (st : List Value) (M : Mm) (Q : Option Value → Mm → Prop), wp F_Mr_inverse 19 [l0, l1, l2, l3, l4, l5] (.ref a :: st) M Q = (sh M a = some (.inl 11) ∧ wp F_Mr_inverse 22 [l0, l1, l2, l3, l4, l5] (va_rf (gR M a 16) :: st) M Q)) ∧
  (∀ (l0 l1 l2 l3 l4 l5 : Value) (b : Nat) (p0 : Int32) (p1 : Nat) (M : Mm) (Q : Option Value → Mm → Prop), wp F_Mr_inverse 22 [l0, l1, l2, l3, l4, l5] [.ref p1, .int p0, .ref b] M Q = (sh M b = some (.inl 1) ∧ wp F_Elements_spell 0 [.ref b, .int p0, .ref p1, jk, jk, jk, jk, jk] [] M (fun r M1 => wp F_Mr_inverse 25 [l0, l1, l2, l3, l4, l5] (r.toList ++ []) M1 Q))) ∧
  (∀ (l0 l1 l2 l3 l4 l5 : Value) (x : Int32) (st : List Value) (M : Mm) (Q : Option Value → Mm → Prop), wp F_Mr_inverse 25 [l0, l1, l2, l3, l4, l5] (.int x :: st) M Q = wp F_Mr_inverse 26 [l0, clr l1, .int x, l3, l4, l5] st M Q) ∧
  (∀ (l0 l1 l3 l4 l5 : Value) (x : Int32) (st : List Value) (M : Mm) (Q : Option Value → Mm → Prop), wp F_Mr_inverse 26 [l0, l1, .int x, l3, l4, l5] st M Q = wp F_Mr_inverse 27 [l0, l1, .int x, l3, l4, l5] (.int x :: st) M Q) ∧
  (∀ (l0 l1 l2 l3 l4 l5 : Value) (x : Int32) (st : List Value) (M : Mm) (Q : Option Value → Mm → Prop), wp F_Mr_inverse 27 [l0, l1, l2, l3, l4, l5] (.int x :: st) M Q = if 0 ≤ x then wp F_Mr_inverse 32 [l0, l1, l2, l3, l4, l5] st M Q else wp F_Mr_inverse 30 [l0, l1, l2, l3, l4, l5] st M Q) ∧
  (∀ (l0 l1 l3 l4 l5 : Value) (x : Int32) (st : List Value) (M : Mm) (Q : Option Value → Mm → Prop), wp F_Mr_inverse 30 [l0, l1, .int x, l3, l4, l5] st M Q = wp F_Mr_inverse 31 [l0, l1, .int x, l3, l4, l5] (.int x :: st) M Q) ∧
  (∀ (l0 l1 l2 l3 l4 l5 : Value) (v : Int32) (M : Mm) (Q : Option Value → Mm → Prop), wp F_Mr_inverse 31 [l0, l1, l2, l3, l4, l5] [.int v] M Q = Q (some (.int v)) M) := ⟨fun _ _ _ _ _ _ _ _ _ => wp_in d_Mr_inverse_13 rfl rfl, fun _ _ _ _ _ _ _ _ _ _ => wp_getA d_Mr_inverse_14 fl_11_81 rfl, fun _ _ _ _ _ _ _ _ _ => wp_in d_Mr_inverse_17 rfl rfl, fun _ _ _ _ _ _ _ _ _ => wp_in d_Mr_inverse_18 rfl rfl, fun _ _ _ _ _ _ _ _ _ _ => wp_getA d_Mr_inverse_19 fl_11_94 rfl, fun _ _ _ _ _ _ _ _ _ _ _ => wp_callV d_Mr_inverse_22 ml_11_307 rfl rfl rfl, fun _ _ _ _ _ _ _ _ _ _ => wp_in d_Mr_inverse_25 rfl rfl, fun _ _ _ _ _ _ _ _ _ => wp_in d_Mr_inverse_26 rfl rfl, fun _ _ _ _ _ _ _ _ _ _ => wp_if_ge d_Mr_inverse_27 rfl, fun _ _ _ _ _ _ _ _ _ => wp_in d_Mr_inverse_30 rfl rfl, fun _ _ _ _ _ _ _ _ _ => wp_retI d_Mr_inverse_31 rfl⟩
theorem B_Mr_inverse_32 : (∀ (l0 l1 l2 l3 l4 l5 : Value) (st : List Value) (M : Mm) (Q : Option Value → Mm → Prop), wp F_Mr_inverse 32 [l0, l1, l2, l3, l4, l5] st M Q = wp F_Mr_inverse 33 [l0, l1, l2, l3, l4, l5] (.int 0 :: st) M Q) ∧
  (∀ (l0 l1 l2 l3 l4 l5 : Value) (x : Int32) (st : List Value) (M : Mm) (Q : Option Value → Mm → Prop), wp F_Mr_inverse 33 [l0, l1, l2, l3, l4, l5] (.int x :: st) M Q = wp F_Mr_inverse 34 [l0, l1, clr l2, .int x, l4, l5] st M Q) := ⟨fun _ _ _ _ _ _ _ _ _ => wp_iconst d_Mr_inverse_32 (by decide), fun _ _ _ _ _ _ _ _ _ _ => wp_in d_Mr_inverse_33 rfl rfl⟩
theorem B_Mr_inverse_34 : (∀ (l0 l1 l2 l4 l5 : Value) (x : Int32) (st : List Value) (M : Mm) (Q : Option Value → Mm → Prop), wp F_Mr_inverse 34 [l0, l1, l2, .int x, l4, l5] st M Q = wp F_Mr_inverse 35 [l0, l1, l2, .int x, l4, l5] (.int x :: st) M Q) ∧
  (∀ (l0 l1 l2 l3 l4 l5 : Value) (st : List Value) (M : Mm) (Q : Option Value → Mm → Prop), wp F_Mr_inverse 35 [l0, l1, l2, l3, l4, l5] st M Q = wp F_Mr_inverse 38 [l0, l1, l2, l3, l4, l5] (.int 400 :: st) M Q) ∧
  (∀ (l0 l1 l2 l3 l4 l5 : Value) (x y : Int32) (st : List Value) (M : Mm) (Q : Option Value → Mm → Prop), wp F_Mr_inverse 38 [l0, l1, l2, l3, l4, l5] (.int y :: .int x :: st) M Q = if y ≤ x then wp F_Mr_inverse 128 [l0, l1, l2, l3, l4, l5] st M Q else wp F_Mr_inverse 41 [l0, l1, l2, l3, l4, l5] st M Q) ∧
  (∀ (l1 l2 l3 l4 l5 : Value) (x : Nat) (st : List Value) (M : Mm) (Q : Option Value → Mm → Prop), wp F_Mr_inverse 41 [.ref x, l1, l2, l3, l4, l5] st M Q = wp F_Mr_inverse 42 [.ref x, l1, l2, l3, l4, l5] (.ref x :: st) M Q) ∧
  (∀ (l0 l1 l2 l3 l4 l5 : Value) (a : Nat) (st : List Value) (M : Mm) (Q : Option Value → Mm → Prop), wp F_Mr_inverse 42 [l0, l1, l2, l3, l4, l5] (.ref a :: st) M Q = (sh M a = some (.inl 11) ∧ wp F_Mr_inverse 45 [l0, l1, l2, l3, l4, l5] (va_rf (gR M a 12) :: st) M Q)) ∧
  (∀ (l0 l1 l2 l4 l5 : Value) (x : Int32) (st : List Value) (M : Mm) (Q : Option Value → Mm → Prop), wp F_Mr_inverse 45 [l0, l1, l2, .int x, l4, l5] st M Q = wp F_Mr_inverse 46 [l0, l1, l2, .int x, l4, l5] (.int x :: st) M Q) ∧
  (∀ (l1 l2 l3 l4 l5 : Value) (x : Nat) (st : List Value) (M : Mm) (Q : Option Value → Mm → Prop), wp F_Mr_inverse 46 [.ref x, l1, l2, l3, l4, l5] st M Q = wp F_Mr_inverse 47 [.ref x, l1, l2, l3, l4, l5] (.ref x :: st) M Q) ∧
  (∀ (l0 l1 l2 l3 l4 l5 : Value) (a : Nat) (st : List Value) (M : Mm) (Q : Option Value → Mm → Prop), wp F_Mr_inverse 47 [l0, l1, l2, l3, l4, l5] (.ref a :: st) M Q = (sh M a = some (.inl 11) ∧ wp F_Mr_inverse 50 [l0, l1, l2, l3, l4, l5] (va_rf (gR M a 17) :: st) M Q)) ∧
  (∀ (l0 l1 l2 l3 l4 l5 : Value) (b : Nat) (p0 : Int32) (p1 : Nat) (M : Mm) (Q : Option Value → Mm → Prop), wp F_Mr_inverse 50 [l0, l1, l2, l3, l4, l5] [.ref p1, .int p0, .ref b] M Q = (sh M b = some (.inl 1) ∧ wp F_Elements_spell 0 [.ref b, .int p0, .ref p1, jk, jk, jk, jk, jk] [] M (fun r M1 => wp F_Mr_inverse 53 [l0, l1, l2, l3, l4, l5] (r.toList ++ []) M1 Q))) ∧
  (∀ (l0 l1 l2 l3 l4 l5 : Value) (x : Int32) (st : List Value) (M : Mm) (Q : Option Value → Mm → Prop), wp F_Mr_inverse 53 [l0, l1, l2, l3, l4, l5] (.int x :: st) M Q = wp F_Mr_inverse 55 [l0, l1, l2, clr l3, .int x, l5] st M Q) ∧
  (∀ (l0 l1 l2 l3 l5 : Value) (x : Int32) (st : List Value) (M : Mm) (Q : Option Value → Mm → Prop), wp F_Mr_inverse 55 [l0, l1, l2, l3, .int x, l5] st M Q = wp F_Mr_inverse 57 [l0, l1, l2, l3, .int x, l5] (.int x :: st) M Q) ∧
  (∀ (l0 l1 l2 l3 l4 l5 : Value) (x : Int32) (st : List Value) (M : Mm) (Q : Option Value → Mm → Prop), wp F_Mr_inverse 57 [l0, l1, l2, l3, l4, l5] (.int x :: st) M Q = if 0 ≤ x then wp F_Mr_inverse 74 [l0, l1, l2, l3, l4, l5] st M Q else wp F_Mr_inverse 60 [l0, l1, l2, l3, l4, l5] st M Q) ∧
  (∀ (l0 l1 l2 l3 l5 : Value) (x : Int32) (st : List Value) (M : Mm) (Q : Option Value → Mm → Prop), wp F_Mr_inverse 60 [l0, l1, l2, l3, .int x, l5] st M Q = wp F_Mr_inverse 62 [l0, l1, l2, l3, .int x, l5] (.int x :: st) M Q) ∧
  (∀ (l0 l1 l2 l3 l4 l5 : Value) (st : List Value) (M : Mm) (Q : Option Value → Mm → Prop), wp F_Mr_inverse 62 [l0, l1, l2, l3, l4, l5] st M Q = wp F_Mr_inverse 64 [l0, l1, l2, l3, l4, l5] (.int (-2) :: st) M Q) ∧
  (∀ (l0 l1 l2 l3 l4 l5 : Value) (x y : Int32) (st : List Value) (M : Mm) (Q : Option Value → Mm → Prop), wp F_Mr_inverse 64 [l0, l1, l2, l3, l4, l5] (.int y :: .int x :: st) M Q = if x = y then wp F_Mr_inverse 67 [l0, l1, l2, l3, l4, l5] st M Q else wp F_Mr_inverse 71 [l0, l1, l2, l3, l4, l5] st M Q) ∧
  (∀ (l0 l1 l2 l3 l4 l5 : Value) (st : List Value) (M : Mm) (Q : Option Value → Mm → Prop), wp F_Mr_inverse 67 [l0, l1, l2, l3, l4, l5] st M Q = wp F_Mr_inverse 68 [l0, l1, l2, l3, l4, l5] (.int (-1) :: st) M Q) ∧
  (∀ (l0 l1 l2 l3 l4 l5 : Value) (st : List Value) (M : Mm) (Q : Option Value → Mm → Prop), wp F_Mr_inverse 68 [l0, l1, l2, l3, l4, l5] st M Q = wp F_Mr_inverse 73 [l0, l1, l2, l3, l4, l5] st M Q) := ⟨fun _ _ _ _ _ _ _ _ _ => wp_in d_Mr_inverse_34 rfl rfl, fun _ _ _ _ _ _ _ _ _ => wp_sipush d_Mr_inverse_35 (by decide), fun _ _ _ _ _ _ _ _ _ _ _ => wp_icmp_ge d_Mr_inverse_38 rfl, fun _ _ _ _ _ _ _ _ _ => wp_in d_Mr_inverse_41 rfl rfl, fun _ _ _ _ _ _ _ _ _ _ => wp_getA d_Mr_inverse_42 fl_11_81 rfl, fun _ _ _ _ _ _ _ _ _ => wp_in d_Mr_inverse_45 rfl rfl, fun _ _ _ _ _ _ _ _ _ => wp_in d_Mr_inverse_46 rfl rfl, fun _ _ _ _ _ _ _ _ _ _ => wp_getA d_Mr_inverse_47 fl_11_98 rfl, fun _ _ _ _ _ _ _ _ _ _ _ => wp_callV d_Mr_inverse_50 ml_11_307 rfl rfl rfl, fun _ _ _ _ _ _ _ _ _ _ => wp_in d_Mr_inverse_53 rfl rfl, fun _ _ _ _ _ _ _ _ _ => wp_in d_Mr_inverse_55 rfl rfl, fun _ _ _ _ _ _ _ _ _ _ => wp_if_ge d_Mr_inverse_57 rfl, fun _ _ _ _ _ _ _ _ _ => wp_in d_Mr_inverse_60 rfl rfl, fun _ _ _ _ _ _ _ _ _ => wp_bipush d_Mr_inverse_62 (by decide), fun _ _ _ _ _ _ _ _ _ _ _ => wp_icmp_ne d_Mr_inverse_64 rfl, fun _ _ _ _ _ _ _ _ _ => wp_iconst d_Mr_inverse_67 (by decide), fun _ _ _ _ _ _ _ _ _ => wp_goto d_Mr_inverse_68 rfl⟩
theorem B_Mr_inverse_71 : (∀ (l0 l1 l2 l3 l4 l5 : Value) (st : List Value) (M : Mm) (Q : Option Value → Mm → Prop), wp F_Mr_inverse 71 [l0, l1, l2, l3, l4, l5] st M Q = wp F_Mr_inverse 73 [l0, l1, l2, l3, l4, l5] (.int (-4) :: st) M Q) := fun _ _ _ _ _ _ _ _ _ => wp_bipush d_Mr_inverse_71 (by decide)
theorem B_Mr_inverse_73 : (∀ (l0 l1 l2 l3 l4 l5 : Value) (v : Int32) (M : Mm) (Q : Option Value → Mm → Prop), wp F_Mr_inverse 73 [l0, l1, l2, l3, l4, l5] [.int v] M Q = Q (some (.int v)) M) := fun _ _ _ _ _ _ _ _ _ => wp_retI d_Mr_inverse_73 rfl
theorem B_Mr_inverse_74 : (∀ (l1 l2 l3 l4 l5 : Value) (x : Nat) (st : List Value) (M : Mm) (Q : Option Value → Mm → Prop), wp F_Mr_inverse 74 [.ref x, l1, l2, l3, l4, l5] st M Q = wp F_Mr_inverse 75 [.ref x, l1, l2, l3, l4, l5] (.ref x :: st) M Q) ∧
  (∀ (l1 l2 l3 l4 l5 : Value) (x : Nat) (st : List Value) (M : Mm) (Q : Option Value → Mm → Prop), wp F_Mr_inverse 75 [.ref x, l1, l2, l3, l4, l5] st M Q = wp F_Mr_inverse 76 [.ref x, l1, l2, l3, l4, l5] (.ref x :: st) M Q) ∧
  (∀ (l0 l1 l2 l3 l4 l5 : Value) (a : Nat) (st : List Value) (M : Mm) (Q : Option Value → Mm → Prop), wp F_Mr_inverse 76 [l0, l1, l2, l3, l4, l5] (.ref a :: st) M Q = (sh M a = some (.inl 11) ∧ wp F_Mr_inverse 79 [l0, l1, l2, l3, l4, l5] (va_rf (gR M a 16) :: st) M Q)) ∧
  (∀ (l1 l2 l3 l4 l5 : Value) (x : Nat) (st : List Value) (M : Mm) (Q : Option Value → Mm → Prop), wp F_Mr_inverse 79 [.ref x, l1, l2, l3, l4, l5] st M Q = wp F_Mr_inverse 80 [.ref x, l1, l2, l3, l4, l5] (.ref x :: st) M Q) ∧
  (∀ (l0 l1 l2 l3 l4 l5 : Value) (a : Nat) (st : List Value) (M : Mm) (Q : Option Value → Mm → Prop), wp F_Mr_inverse 80 [l0, l1, l2, l3, l4, l5] (.ref a :: st) M Q = (sh M a = some (.inl 11) ∧ wp F_Mr_inverse 83 [l0, l1, l2, l3, l4, l5] (va_rf (gR M a 17) :: st) M Q)) ∧
  (∀ (l0 l1 l2 l3 l4 l5 : Value) (b : Nat) (p0 : Nat) (p1 : Nat) (M : Mm) (Q : Option Value → Mm → Prop), wp F_Mr_inverse 83 [l0, l1, l2, l3, l4, l5] [.ref p1, .ref p0, .ref b] M Q = (sh M b = some (.inl 11) ∧ wp F_Mr_multiply 0 [.ref b, .ref p0, .ref p1] [] M (fun r M1 => wp F_Mr_inverse 86 [l0, l1, l2, l3, l4, l5] (r.toList ++ []) M1 Q))) ∧
  (∀ (l0 l1 l2 l3 l4 l5 : Value) (x : Int32) (st : List Value) (M : Mm) (Q : Option Value → Mm → Prop), wp F_Mr_inverse 86 [l0, l1, l2, l3, l4, l5] (.int x :: st) M Q = wp F_Mr_inverse 88 [l0, l1, l2, l3, clr l4, .int x] st M Q) ∧
  (∀ (l0 l1 l2 l3 l4 : Value) (x : Int32) (st : List Value) (M : Mm) (Q : Option Value → Mm → Prop), wp F_Mr_inverse 88 [l0, l1, l2, l3, l4, .int x] st M Q = wp F_Mr_inverse 90 [l0, l1, l2, l3, l4, .int x] (.int x :: st) M Q) ∧
  (∀ (l0 l1 l2 l3 l4 l5 : Value) (x : Int32) (st : List Value) (M : Mm) (Q : Option Value → Mm → Prop), wp F_Mr_inverse 90 [l0, l1, l2, l3, l4, l5] (.int x :: st) M Q = if x = 0 then wp F_Mr_inverse 93 [l0, l1, l2, l3, l4, l5] st M Q else wp F_Mr_inverse 107 [l0, l1, l2, l3, l4, l5] st M Q) ∧
  (∀ (l1 l2 l3 l4 l5 : Value) (x : Nat) (st : List Value) (M : Mm) (Q : Option Value → Mm → Prop), wp F_Mr_inverse 93 [.ref x, l1, l2, l3, l4, l5] st M Q = wp F_Mr_inverse 94 [.ref x, l1, l2, l3, l4, l5] (.ref x :: st) M Q) ∧
  (∀ (l1 l2 l3 l4 l5 : Value) (x : Nat) (st : List Value) (M : Mm) (Q : Option Value → Mm → Prop), wp F_Mr_inverse 94 [.ref x, l1, l2, l3, l4, l5] st M Q = wp F_Mr_inverse 95 [.ref x, l1, l2, l3, l4, l5] (.ref x :: st) M Q) ∧
  (∀ (l0 l1 l2 l3 l4 l5 : Value) (a : Nat) (st : List Value) (M : Mm) (Q : Option Value → Mm → Prop), wp F_Mr_inverse 95 [l0, l1, l2, l3, l4, l5] (.ref a :: st) M Q = (sh M a = some (.inl 11) ∧ wp F_Mr_inverse 98 [l0, l1, l2, l3, l4, l5] (va_rf (gR M a 17) :: st) M Q)) ∧
  (∀ (l1 l2 l3 l4 l5 : Value) (x : Nat) (st : List Value) (M : Mm) (Q : Option Value → Mm → Prop), wp F_Mr_inverse 98 [.ref x, l1, l2, l3, l4, l5] st M Q = wp F_Mr_inverse 99 [.ref x, l1, l2, l3, l4, l5] (.ref x :: st) M Q) ∧
  (∀ (l0 l1 l2 l3 l4 l5 : Value) (a : Nat) (st : List Value) (M : Mm) (Q : Option Value → Mm → Prop), wp F_Mr_inverse 99 [l0, l1, l2, l3, l4, l5] (.ref a :: st) M Q = (sh M a = some (.inl 11) ∧ wp F_Mr_inverse 102 [l0, l1, l2, l3, l4, l5] (va_rf (gR M a 16) :: st) M Q)) ∧
  (∀ (l0 l1 l2 l3 l4 l5 : Value) (b : Nat) (p0 : Nat) (p1 : Nat) (M : Mm) (Q : Option Value → Mm → Prop), wp F_Mr_inverse 102 [l0, l1, l2, l3, l4, l5] [.ref p1, .ref p0, .ref b] M Q = (sh M b = some (.inl 11) ∧ wp F_Mr_multiply 0 [.ref b, .ref p0, .ref p1] [] M (fun r M1 => wp F_Mr_inverse 105 [l0, l1, l2, l3, l4, l5] (r.toList ++ []) M1 Q))) ∧
  (∀ (l0 l1 l2 l3 l4 l5 : Value) (x : Int32) (st : List Value) (M : Mm) (Q : Option Value → Mm → Prop), wp F_Mr_inverse 105 [l0, l1, l2, l3, l4, l5] (.int x :: st) M Q = wp F_Mr_inverse 107 [l0, l1, l2, l3, clr l4, .int x] st M Q) := ⟨fun _ _ _ _ _ _ _ _ _ => wp_in d_Mr_inverse_74 rfl rfl, fun _ _ _ _ _ _ _ _ _ => wp_in d_Mr_inverse_75 rfl rfl, fun _ _ _ _ _ _ _ _ _ _ => wp_getA d_Mr_inverse_76 fl_11_94 rfl, fun _ _ _ _ _ _ _ _ _ => wp_in d_Mr_inverse_79 rfl rfl, fun _ _ _ _ _ _ _ _ _ _ => wp_getA d_Mr_inverse_80 fl_11_98 rfl, fun _ _ _ _ _ _ _ _ _ _ _ => wp_callV d_Mr_inverse_83 ml_11_314 rfl rfl rfl, fun _ _ _ _ _ _ _ _ _ _ => wp_in d_Mr_inverse_86 rfl rfl, fun _ _ _ _ _ _ _ _ _ => wp_in d_Mr_inverse_88 rfl rfl, fun _ _ _ _ _ _ _ _ _ _ => wp_if_ne d_Mr_inverse_90 rfl, fun _ _ _ _ _ _ _ _ _ => wp_in d_Mr_inverse_93 rfl rfl, fun _ _ _ _ _ _ _ _ _ => wp_in d_Mr_inverse_94 rfl rfl, fun _ _ _ _ _ _ _ _ _ _ => wp_getA d_Mr_inverse_95 fl_11_98 rfl, fun _ _ _ _ _ _ _ _ _ => wp_in d_Mr_inverse_98 rfl rfl, fun _ _ _ _ _ _ _ _ _ _ => wp_getA d_Mr_inverse_99 fl_11_94 rfl, fun _ _ _ _ _ _ _ _ _ _ _ => wp_callV d_Mr_inverse_102 ml_11_314 rfl rfl rfl, fun _ _ _ _ _ _ _ _ _ _ => wp_in d_Mr_inverse_105 rfl rfl⟩
theorem B_Mr_inverse_107 : (∀ (l0 l1 l2 l3 l4 : Value) (x : Int32) (st : List Value) (M : Mm) (Q : Option Value → Mm → Prop), wp F_Mr_inverse 107 [l0, l1, l2, l3, l4, .int x] st M Q = wp F_Mr_inverse 109 [l0, l1, l2, l3, l4, .int x] (.int x :: st) M Q) ∧
  (∀ (l0 l1 l2 l3 l4 l5 : Value) (x : Int32) (st : List Value) (M : Mm) (Q : Option Value → Mm → Prop), wp F_Mr_inverse 109 [l0, l1, l2, l3, l4, l5] (.int x :: st) M Q = if 0 ≤ x then wp F_Mr_inverse 115 [l0, l1, l2, l3, l4, l5] st M Q else wp F_Mr_inverse 112 [l0, l1, l2, l3, l4, l5] st M Q) ∧
  (∀ (l0 l1 l2 l3 l4 : Value) (x : Int32) (st : List Value) (M : Mm) (Q : Option Value → Mm → Prop), wp F_Mr_inverse 112 [l0, l1, l2, l3, l4, .int x] st M Q = wp F_Mr_inverse 114 [l0, l1, l2, l3, l4, .int x] (.int x :: st) M Q) ∧
  (∀ (l0 l1 l2 l3 l4 l5 : Value) (v : Int32) (M : Mm) (Q : Option Value → Mm → Prop), wp F_Mr_inverse 114 [l0, l1, l2, l3, l4, l5] [.int v] M Q = Q (some (.int v)) M) := ⟨fun _ _ _ _ _ _ _ _ _ => wp_in d_Mr_inverse_107 rfl rfl, fun _ _ _ _ _ _ _ _ _ _ => wp_if_ge d_Mr_inverse_109 rfl, fun _ _ _ _ _ _ _ _ _ => wp_in d_Mr_inverse_112 rfl rfl, fun _ _ _ _ _ _ _ _ _ => wp_retI d_Mr_inverse_114 rfl⟩
theorem B_Mr_inverse_115 : (∀ (l0 l1 l2 l3 l4 : Value) (x : Int32) (st : List Value) (M : Mm) (Q : Option Value → Mm → Prop), wp F_Mr_inverse 115 [l0, l1, l2, l3, l4, .int x] st M Q = wp F_Mr_inverse 117 [l0, l1, l2, l3, l4, .int x] (.int x :: st) M Q) ∧
  (∀ (l0 l1 l2 l3 l4 l5 : Value) (x : Int32) (st : List Value) (M : Mm) (Q : Option Value → Mm → Prop), wp F_Mr_inverse 117 [l0, l1, l2, l3, l4, l5] (.int x :: st) M Q = if x = 0 then wp F_Mr_inverse 120 [l0, l1, l2, l3, l4, l5] st M Q else wp F_Mr_inverse 122 [l0, l1, l2, l3, l4, l5] st M Q) ∧
  (∀ (l0 l1 l2 l4 l5 : Value) (x : Int32) (st : List Value) (M : Mm) (Q : Option Value → Mm → Prop), wp F_Mr_inverse 120 [l0, l1, l2, .int x, l4, l5] st M Q = wp F_Mr_inverse 121 [l0, l1, l2, .int x, l4, l5] (.int x :: st) M Q) ∧
  (∀ (l0 l1 l2 l3 l4 l5 : Value) (v : Int32) (M : Mm) (Q : Option Value → Mm → Prop), wp F_Mr_inverse 121 [l0, l1, l2, l3, l4, l5] [.int v] M Q = Q (some (.int v)) M) := ⟨fun _ _ _ _ _ _ _ _ _ => wp_in d_Mr_inverse_115 rfl rfl, fun _ _ _ _ _ _ _ _ _ _ => wp_if_ne d_Mr_inverse_117 rfl, fun _ _ _ _ _ _ _ _ _ => wp_in d_Mr_inverse_120 rfl rfl, fun _ _ _ _ _ _ _ _ _ => wp_retI d_Mr_inverse_121 rfl⟩
theorem B_Mr_inverse_122 : (∀ (l0 l1 l2 l4 l5 : Value) (x : Int32) (st : List Value) (M : Mm) (Q : Option Value → Mm → Prop), wp F_Mr_inverse 122 [l0, l1, l2, .int x, l4, l5] st M Q = wp F_Mr_inverse 125 [l0, l1, clr l2, .int (x + 1), l4, l5] st M Q) := fun _ _ _ _ _ _ _ _ _ => wp_iinc d_Mr_inverse_122 (by decide) rfl rfl
theorem B_Mr_inverse_128 : (∀ (l0 l1 l2 l3 l4 l5 : Value) (st : List Value) (M : Mm) (Q : Option Value → Mm → Prop), wp F_Mr_inverse 128 [l0, l1, l2, l3, l4, l5] st M Q = wp F_Mr_inverse 129 [l0, l1, l2, l3, l4, l5] (.int (-1) :: st) M Q) ∧
  (∀ (l0 l1 l2 l3 l4 l5 : Value) (v : Int32) (M : Mm) (Q : Option Value → Mm → Prop), wp F_Mr_inverse 129 [l0, l1, l2, l3, l4, l5] [.int v] M Q = Q (some (.int v)) M) := ⟨fun _ _ _ _ _ _ _ _ _ => wp_iconst d_Mr_inverse_128 (by decide), fun _ _ _ _ _ _ _ _ _ => wp_retI d_Mr_inverse_129 rfl⟩
theorem G_Mr_inverse_125 (l0 l1 l2 l3 l4 l5 : Value) (st : List Value) (M : Mm) (Q : Option Value → Mm → Prop) : wp F_Mr_inverse 125 [l0, l1, l2, l3, l4, l5] st M Q = wp F_Mr_inverse 34 [l0, l1, l2, l3, l4, l5] st M Q := wp_goto d_Mr_inverse_125 rfl
theorem d_Mr_commutes_0 : decode (fnB F_Mr_commutes) 0 = .ok (.aload_n 0, 1) := by decide +kernel
theorem d_Mr_commutes_1 : decode (fnB F_Mr_commutes) 1 = .ok (.getfield 65, 3) := by decide +kernel
theorem d_Mr_commutes_4 : decode (fnB F_Mr_commutes) 4 = .ok (.invokevirtual 204, 3) := by decide +kernel
theorem d_Mr_commutes_7 : decode (fnB F_Mr_commutes) 7 = .ok (.ifCond .ne 6, 3) := by decide +kernel
theorem d_Mr_commutes_10 : decode (fnB F_Mr_commutes) 10 = .ok (.bipush (-3), 2) := by decide +kernel
theorem d_Mr_commutes_12 : decode (fnB F_Mr_commutes) 12 = .ok (.ireturn, 1) := by decide +kernel
theorem d_Mr_commutes_13 : decode (fnB F_Mr_commutes) 13 = .ok (.iconst 0, 1) := by decide +kernel
theorem d_Mr_commutes_14 : decode (fnB F_Mr_commutes) 14 = .ok (.istore_n 1, 1) := by decide +kernel
theorem d_Mr_commutes_15 : decode (fnB F_Mr_commutes) 15 = .ok (.iload_n 1, 1) := by decide +kernel
theorem d_Mr_commutes_16 : decode (fnB F_Mr_commutes) 16 = .ok (.aload_n 0, 1) := by decide +kernel
theorem d_Mr_commutes_17 : decode (fnB F_Mr_commutes) 17 = .ok (.getfield 33, 3) := by decide +kernel
theorem d_Mr_commutes_20 : decode (fnB F_Mr_commutes) 20 = .ok (.getfield 207, 3) := by decide +kernel
theorem d_Mr_commutes_23 : decode (fnB F_Mr_commutes) 23 = .ok (.if_icmp .ge 41, 3) := by decide +kernel
theorem d_Mr_commutes_26 : decode (fnB F_Mr_commutes) 26 = .ok (.iload_n 1, 1) := by decide +kernel
theorem d_Mr_commutes_27 : decode (fnB F_Mr_commutes) 27 = .ok (.iconst 1, 1) := by decide +kernel
theorem d_Mr_commutes_28 : decode (fnB F_Mr_commutes) 28 = .ok (.iadd, 1) := by decide +kernel
theorem d_Mr_commutes_29 : decode (fnB F_Mr_commutes) 29 = .ok (.istore_n 2, 1) := by decide +kernel
theorem d_Mr_commutes_30 : decode (fnB F_Mr_commutes) 30 = .ok (.iload_n 2, 1) := by decide +kernel
theorem d_Mr_commutes_31 : decode (fnB F_Mr_commutes) 31 = .ok (.aload_n 0, 1) := by decide +kernel
theorem d_Mr_commutes_32 : decode (fnB F_Mr_commutes) 32 = .ok (.getfield 33, 3) := by decide +kernel
theorem d_Mr_commutes_35 : decode (fnB F_Mr_commutes) 35 = .ok (.getfield 207, 3) := by decide +kernel
theorem d_Mr_commutes_38 : decode (fnB F_Mr_commutes) 38 = .ok (.if_icmp .ge 20, 3) := by decide +kernel
theorem d_Mr_commutes_41 : decode (fnB F_Mr_commutes) 41 = .ok (.aload_n 0, 1) := by decide +kernel
theorem d_Mr_commutes_42 : decode (fnB F_Mr_commutes) 42 = .ok (.iload_n 1, 1) := by decide +kernel
theorem d_Mr_commutes_43 : decode (fnB F_Mr_commutes) 43 = .ok (.iload_n 2, 1) := by decide +kernel
theorem d_Mr_commutes_44 : decode (fnB F_Mr_commutes) 44 = .ok (.invokevirtual 321, 3) := by decide +kernel
theorem d_Mr_commutes_47 : decode (fnB F_Mr_commutes) 47 = .ok (.ifCond .ne 5, 3) := by decide +kernel
theorem d_Mr_commutes_50 : decode (fnB F_Mr_commutes) 50 = .ok (.iconst 0, 1) := by decide +kernel
theorem d_Mr_commutes_51 : decode (fnB F_Mr_commutes) 51 = .ok (.ireturn, 1) := by decide +kernel
theorem d_Mr_commutes_52 : decode (fnB F_Mr_commutes) 52 = .ok (.iinc 2 1, 3) := by decide +kernel
theorem d_Mr_commutes_55 : decode (fnB F_Mr_commutes) 55 = .ok (.goto (-25), 3) := by decide +kernel
theorem d_Mr_commutes_58 : decode (fnB F_Mr_commutes) 58 = .ok (.iinc 1 1, 3) := by decide +kernel
theorem d_Mr_commutes_61 : decode (fnB F_Mr_commutes) 61 = .ok (.goto (-46), 3) := by decide +kernel
theorem d_Mr_commutes_64 : decode (fnB F_Mr_commutes) 64 = .ok (.iconst 1, 1) := by decide +kernel
theorem d_Mr_commutes_65 : decode (fnB F_Mr_commutes) 65 = .ok (.ireturn, 1) := by decide +kernel
theorem B_Mr_commutes_0 : (∀ (l1 l2 : Value) (x : Nat) (st : List Value) (M : Mm) (Q : Option Value → Mm → Prop), wp F_Mr_commutes 0 [.ref x, l1, l2] st M Q = wp F_Mr_commutes 1 [.ref x, l1, l2] (.ref x :: st) M Q) ∧
  (∀ (l0 l1 l2 : Value) (a : Nat) (st : List Value) (M : Mm) (Q : Option Value → Mm → Prop), wp F_Mr_commutes 1 [l0, l1, l2] (.ref a :: st) M Q = (sh M a = some (.inl 11) ∧ wp F_Mr_commutes 4 [l0, l1, l2] (va_rf (gR M a 10) :: st) M Q)) ∧
  (∀ (l0 l1 l2 : Value) (b : Nat) (M : Mm) (Q : Option Value → Mm → Prop), wp F_Mr_commutes 4 [l0, l1, l2] [.ref b] M Q = (sh M b = some (.inl 0) ∧ wp F_Completion_isDone 0 [.ref b] [] M (fun r M1 => wp F_Mr_commutes 7 [l0, l1, l2] (r.toList ++ []) M1 Q))) ∧
  (∀ (l0 l1 l2 : Value) (x : Int32) (st : List Value) (M : Mm) (Q : Option Value → Mm → Prop), wp F_Mr_commutes 7 [l0, l1, l2] (.int x :: st) M Q = if x = 0 then wp F_Mr_commutes 10 [l0, l1, l2] st M Q else wp F_Mr_commutes 13 [l0, l1, l2] st M Q) ∧
  (∀ (l0 l1 l2 : Value) (st : List Value) (M : Mm) (Q : Option Value → Mm → Prop), wp F_Mr_commutes 10 [l0, l1, l2] st M Q = wp F_Mr_commutes 12 [l0, l1, l2] (.int (-3) :: st) M Q) ∧
  (∀ (l0 l1 l2 : Value) (v : Int32) (M : Mm) (Q : Option Value → Mm → Prop), wp F_Mr_commutes 12 [l0, l1, l2] [.int v] M Q = Q (some (.int v)) M) := ⟨fun _ _ _ _ _ _ => wp_in d_Mr_commutes_0 rfl rfl, fun _ _ _ _ _ _ _ => wp_getA d_Mr_commutes_1 fl_11_65 rfl, fun _ _ _ _ _ _ => wp_callV d_Mr_commutes_4 ml_11_204 rfl rfl rfl, fun _ _ _ _ _ _ _ => wp_if_ne d_Mr_commutes_7 rfl, fun _ _ _ _ _ _ => wp_bipush d_Mr_commutes_10 (by decide), fun _ _ _ _ _ _ => wp_retI d_Mr_commutes_12 rfl⟩
theorem B_Mr_commutes_13 : (∀ (l0 l1 l2 : Value) (st : List Value) (M : Mm) (Q : Option Value → Mm → Prop), wp F_Mr_commutes 13 [l0, l1, l2] st M Q = wp F_Mr_commutes 14 [l0, l1, l2] (.int 0 :: st) M Q) ∧
  (∀ (l0 l1 l2 : Value) (x : Int32) (st : List Value) (M : Mm) (Q : Option Value → Mm → Prop), wp F_Mr_commutes 14 [l0, l1, l2] (.int x :: st) M Q = wp F_Mr_commutes 15 [clr l0, .int x, l2] st M Q) := ⟨fun _ _ _ _ _ _ => wp_iconst d_Mr_commutes_13 (by decide), fun _ _ _ _ _ _ _ => wp_in d_Mr_commutes_14 rfl rfl⟩
theorem B_Mr_commutes_15 : (∀ (l0 l2 : Value) (x : Int32) (st : List Value) (M : Mm) (Q : Option Value → Mm → Prop), wp F_Mr_commutes 15 [l0, .int x, l2] st M Q = wp F_Mr_commutes 16 [l0, .int x, l2] (.int x :: st) M Q) ∧
  (∀ (l1 l2 : Value) (x : Nat) (st : List Value) (M : Mm) (Q : Option Value → Mm → Prop), wp F_Mr_commutes 16 [.ref x, l1, l2] st M Q = wp F_Mr_commutes 17 [.ref x, l1, l2] (.ref x :: st) M Q) ∧
  (∀ (l0 l1 l2 : Value) (a : Nat) (st : List Value) (M : Mm) (Q : Option Value → Mm → Prop), wp F_Mr_commutes 17 [l0, l1, l2] (.ref a :: st) M Q = (sh M a = some (.inl 11) ∧ wp F_Mr_commutes 20 [l0, l1, l2] (va_rf (gR M a 6) :: st) M Q)) ∧
  (∀ (l0 l1 l2 : Value) (a : Nat) (st : List Value) (M : Mm) (Q : Option Value → Mm → Prop), wp F_Mr_commutes 20 [l0, l1, l2] (.ref a :: st) M Q = (sh M a = some (.inl 9) ∧ wp F_Mr_commutes 23 [l0, l1, l2] (.int (gI M a 2) :: st) M Q)) ∧
  (∀ (l0 l1 l2 : Value) (x y : Int32) (st : List Value) (M : Mm) (Q : Option Value → Mm → Prop), wp F_Mr_commutes 23 [l0, l1, l2] (.int y :: .int x :: st) M Q = if y ≤ x then wp F_Mr_commutes 64 [l0, l1, l2] st M Q else wp F_Mr_commutes 26 [l0, l1, l2] st M Q) ∧
  (∀ (l0 l2 : Value) (x : Int32) (st : List Value) (M : Mm) (Q : Option Value → Mm → Prop), wp F_Mr_commutes 26 [l0, .int x, l2] st M Q = wp F_Mr_commutes 27 [l0, .int x, l2] (.int x :: st) M Q) ∧
  (∀ (l0 l1 l2 : Value) (st : List Value) (M : Mm) (Q : Option Value → Mm → Prop), wp F_Mr_commutes 27 [l0, l1, l2] st M Q = wp F_Mr_commutes 28 [l0, l1, l2] (.int 1 :: st) M Q) ∧
  (∀ (l0 l1 l2 : Value) (x y : Int32) (st : List Value) (M : Mm) (Q : Option Value → Mm → Prop), wp F_Mr_commutes 28 [l0, l1, l2] (.int y :: .int x :: st) M Q = wp F_Mr_commutes 29 [l0, l1, l2] (.int (x + y) :: st) M Q) ∧
  (∀ (l0 l1 l2 : Value) (x : Int32) (st : List Value) (M : Mm) (Q : Option Value → Mm → Prop), wp F_Mr_commutes 29 [l0, l1, l2] (.int x :: st) M Q = wp F_Mr_commutes 30 [l0, clr l1, .int x] st M Q) := ⟨fun _ _ _ _ _ _ => wp_in d_Mr_commutes_15 rfl rfl, fun _ _ _ _ _ _ => wp_in d_Mr_commutes_16 rfl rfl, fun _ _ _ _ _ _ _ => wp_getA d_Mr_commutes_17 fl_11_33 rfl, fun _ _ _ _ _ _ _ => wp_getI d_Mr_commutes_20 fl_11_207 rfl, fun _ _ _ _ _ _ _ _ => wp_icmp_ge d_Mr_commutes_23 rfl, fun _ _ _ _ _ _ => wp_in d_Mr_commutes_26 rfl rfl, fun _ _ _ _ _ _ => wp_iconst d_Mr_commutes_27 (by decide), fun _ _ _ _ _ _ _ _ => wp_in d_Mr_commutes_28 rfl rfl, fun _ _ _ _ _ _ _ => wp_in d_Mr_commutes_29 rfl rfl⟩
theorem B_Mr_commutes_30 : (∀ (l0 l1 : Value) (x : Int32) (st : List Value) (M : Mm) (Q : Option Value → Mm → Prop), wp F_Mr_commutes 30 [l0, l1, .int x] st M Q = wp F_Mr_commutes 31 [l0, l1, .int x] (.int x :: st) M Q) ∧
  (∀ (l1 l2 : Value) (x : Nat) (st : List Value) (M : Mm) (Q : Option Value → Mm → Prop), wp F_Mr_commutes 31 [.ref x, l1, l2] st M Q = wp F_Mr_commutes 32 [.ref x, l1, l2] (.ref x :: st) M Q) ∧
  (∀ (l0 l1 l2 : Value) (a : Nat) (st : List Value) (M : Mm) (Q : Option Value → Mm → Prop), wp F_Mr_commutes 32 [l0, l1, l2] (.ref a :: st) M Q = (sh M a = some (.inl 11) ∧ wp F_Mr_commutes 35 [l0, l1, l2] (va_rf (gR M a 6) :: st) M Q)) ∧
  (∀ (l0 l1 l2 : Value) (a : Nat) (st : List Value) (M : Mm) (Q : Option Value → Mm → Prop), wp F_Mr_commutes 35 [l0, l1, l2] (.ref a :: st) M Q = (sh M a = some (.inl 9) ∧ wp F_Mr_commutes 38 [l0, l1, l2] (.int (gI M a 2) :: st) M Q)) ∧
  (∀ (l0 l1 l2 : Value) (x y : Int32) (st : List Value) (M : Mm) (Q : Option Value → Mm → Prop), wp F_Mr_commutes 38 [l0, l1, l2] (.int y :: .int x :: st) M Q = if y ≤ x then wp F_Mr_commutes 58 [l0, l1, l2] st M Q else wp F_Mr_commutes 41 [l0, l1, l2] st M Q) ∧
  (∀ (l1 l2 : Value) (x : Nat) (st : List Value) (M : Mm) (Q : Option Value → Mm → Prop), wp F_Mr_commutes 41 [.ref x, l1, l2] st M Q = wp F_Mr_commutes 42 [.ref x, l1, l2] (.ref x :: st) M Q) ∧
  (∀ (l0 l2 : Value) (x : Int32) (st : List Value) (M : Mm) (Q : Option Value → Mm → Prop), wp F_Mr_commutes 42 [l0, .int x, l2] st M Q = wp F_Mr_commutes 43 [l0, .int x, l2] (.int x :: st) M Q) ∧
  (∀ (l0 l1 : Value) (x : Int32) (st : List Value) (M : Mm) (Q : Option Value → Mm → Prop), wp F_Mr_commutes 43 [l0, l1, .int x] st M Q = wp F_Mr_commutes 44 [l0, l1, .int x] (.int x :: st) M Q) ∧
  (∀ (l0 l1 l2 : Value) (b : Nat) (p0 : Int32) (p1 : Int32) (M : Mm) (Q : Option Value → Mm → Prop), wp F_Mr_commutes 44 [l0, l1, l2] [.int p1, .int p0, .ref b] M Q = (sh M b = some (.inl 11) ∧ wp F_Mr_lettersCommute 0 [.ref b, .int p0, .int p1] [] M (fun r M1 => wp F_Mr_commutes 47 [l0, l1, l2] (r.toList ++ []) M1 Q))) ∧
  (∀ (l0 l1 l2 : Value) (x : Int32) (st : List Value) (M : Mm) (Q : Option Value → Mm → Prop), wp F_Mr_commutes 47 [l0, l1, l2] (.int x :: st) M Q = if x = 0 then wp F_Mr_commutes 50 [l0, l1, l2] st M Q else wp F_Mr_commutes 52 [l0, l1, l2] st M Q) ∧
  (∀ (l0 l1 l2 : Value) (st : List Value) (M : Mm) (Q : Option Value → Mm → Prop), wp F_Mr_commutes 50 [l0, l1, l2] st M Q = wp F_Mr_commutes 51 [l0, l1, l2] (.int 0 :: st) M Q) ∧
  (∀ (l0 l1 l2 : Value) (v : Int32) (M : Mm) (Q : Option Value → Mm → Prop), wp F_Mr_commutes 51 [l0, l1, l2] [.int v] M Q = Q (some (.int v)) M) := ⟨fun _ _ _ _ _ _ => wp_in d_Mr_commutes_30 rfl rfl, fun _ _ _ _ _ _ => wp_in d_Mr_commutes_31 rfl rfl, fun _ _ _ _ _ _ _ => wp_getA d_Mr_commutes_32 fl_11_33 rfl, fun _ _ _ _ _ _ _ => wp_getI d_Mr_commutes_35 fl_11_207 rfl, fun _ _ _ _ _ _ _ _ => wp_icmp_ge d_Mr_commutes_38 rfl, fun _ _ _ _ _ _ => wp_in d_Mr_commutes_41 rfl rfl, fun _ _ _ _ _ _ => wp_in d_Mr_commutes_42 rfl rfl, fun _ _ _ _ _ _ => wp_in d_Mr_commutes_43 rfl rfl, fun _ _ _ _ _ _ _ _ => wp_callV d_Mr_commutes_44 ml_11_321 rfl rfl rfl, fun _ _ _ _ _ _ _ => wp_if_ne d_Mr_commutes_47 rfl, fun _ _ _ _ _ _ => wp_iconst d_Mr_commutes_50 (by decide), fun _ _ _ _ _ _ => wp_retI d_Mr_commutes_51 rfl⟩
theorem B_Mr_commutes_52 : (∀ (l0 l1 : Value) (x : Int32) (st : List Value) (M : Mm) (Q : Option Value → Mm → Prop), wp F_Mr_commutes 52 [l0, l1, .int x] st M Q = wp F_Mr_commutes 55 [l0, clr l1, .int (x + 1)] st M Q) := fun _ _ _ _ _ _ => wp_iinc d_Mr_commutes_52 (by decide) rfl rfl
theorem B_Mr_commutes_58 : (∀ (l0 l2 : Value) (x : Int32) (st : List Value) (M : Mm) (Q : Option Value → Mm → Prop), wp F_Mr_commutes 58 [l0, .int x, l2] st M Q = wp F_Mr_commutes 61 [clr l0, .int (x + 1), l2] st M Q) := fun _ _ _ _ _ _ => wp_iinc d_Mr_commutes_58 (by decide) rfl rfl
theorem B_Mr_commutes_64 : (∀ (l0 l1 l2 : Value) (st : List Value) (M : Mm) (Q : Option Value → Mm → Prop), wp F_Mr_commutes 64 [l0, l1, l2] st M Q = wp F_Mr_commutes 65 [l0, l1, l2] (.int 1 :: st) M Q) ∧
  (∀ (l0 l1 l2 : Value) (v : Int32) (M : Mm) (Q : Option Value → Mm → Prop), wp F_Mr_commutes 65 [l0, l1, l2] [.int v] M Q = Q (some (.int v)) M) := ⟨fun _ _ _ _ _ _ => wp_iconst d_Mr_commutes_64 (by decide), fun _ _ _ _ _ _ => wp_retI d_Mr_commutes_65 rfl⟩
theorem G_Mr_commutes_55 (l0 l1 l2 : Value) (st : List Value) (M : Mm) (Q : Option Value → Mm → Prop) : wp F_Mr_commutes 55 [l0, l1, l2] st M Q = wp F_Mr_commutes 30 [l0, l1, l2] st M Q := wp_goto d_Mr_commutes_55 rfl
theorem G_Mr_commutes_61 (l0 l1 l2 : Value) (st : List Value) (M : Mm) (Q : Option Value → Mm → Prop) : wp F_Mr_commutes 61 [l0, l1, l2] st M Q = wp F_Mr_commutes 15 [l0, l1, l2] st M Q := wp_goto d_Mr_commutes_61 rfl
theorem d_Mr_lettersCommute_0 : decode (fnB F_Mr_lettersCommute) 0 = .ok (.aload_n 0, 1) := by decide +kernel
theorem d_Mr_lettersCommute_1 : decode (fnB F_Mr_lettersCommute) 1 = .ok (.getfield 94, 3) := by decide +kernel
theorem d_Mr_lettersCommute_4 : decode (fnB F_Mr_lettersCommute) 4 = .ok (.invokevirtual 161, 3) := by decide +kernel
theorem d_Mr_lettersCommute_7 : decode (fnB F_Mr_lettersCommute) 7 = .ok (.aload_n 0, 1) := by decide +kernel
theorem d_Mr_lettersCommute_8 : decode (fnB F_Mr_lettersCommute) 8 = .ok (.getfield 94, 3) := by decide +kernel
theorem d_Mr_lettersCommute_11 : decode (fnB F_Mr_lettersCommute) 11 = .ok (.iload_n 1, 1) := by decide +kernel
theorem d_Mr_lettersCommute_12 : decode (fnB F_Mr_lettersCommute) 12 = .ok (.invokevirtual 325, 3) := by decide +kernel
theorem d_Mr_lettersCommute_15 : decode (fnB F_Mr_lettersCommute) 15 = .ok (.aload_n 0, 1) := by decide +kernel
theorem d_Mr_lettersCommute_16 : decode (fnB F_Mr_lettersCommute) 16 = .ok (.getfield 94, 3) := by decide +kernel
theorem d_Mr_lettersCommute_19 : decode (fnB F_Mr_lettersCommute) 19 = .ok (.iload_n 2, 1) := by decide +kernel
theorem d_Mr_lettersCommute_20 : decode (fnB F_Mr_lettersCommute) 20 = .ok (.invokevirtual 325, 3) := by decide +kernel
theorem d_Mr_lettersCommute_23 : decode (fnB F_Mr_lettersCommute) 23 = .ok (.aload_n 0, 1) := by decide +kernel
theorem d_Mr_lettersCommute_24 : decode (fnB F_Mr_lettersCommute) 24 = .ok (.getfield 98, 3) := by decide +kernel
theorem d_Mr_lettersCommute_27 : decode (fnB F_Mr_lettersCommute) 27 = .ok (.invokevirtual 161, 3) := by decide +kernel
theorem d_Mr_lettersCommute_30 : decode (fnB F_Mr_lettersCommute) 30 = .ok (.aload_n 0, 1) := by decide +kernel
theorem d_Mr_lettersCommute_31 : decode (fnB F_Mr_lettersCommute) 31 = .ok (.getfield 98, 3) := by decide +kernel
theorem d_Mr_lettersCommute_34 : decode (fnB F_Mr_lettersCommute) 34 = .ok (.iload_n 2, 1) := by decide +kernel
theorem d_Mr_lettersCommute_35 : decode (fnB F_Mr_lettersCommute) 35 = .ok (.invokevirtual 325, 3) := by decide +kernel
theorem d_Mr_lettersCommute_38 : decode (fnB F_Mr_lettersCommute) 38 = .ok (.aload_n 0, 1) := by decide +kernel
theorem d_Mr_lettersCommute_39 : decode (fnB F_Mr_lettersCommute) 39 = .ok (.getfield 98, 3) := by decide +kernel
theorem d_Mr_lettersCommute_42 : decode (fnB F_Mr_lettersCommute) 42 = .ok (.iload_n 1, 1) := by decide +kernel
theorem d_Mr_lettersCommute_43 : decode (fnB F_Mr_lettersCommute) 43 = .ok (.invokevirtual 325, 3) := by decide +kernel
theorem d_Mr_lettersCommute_46 : decode (fnB F_Mr_lettersCommute) 46 = .ok (.aload_n 0, 1) := by decide +kernel
theorem d_Mr_lettersCommute_47 : decode (fnB F_Mr_lettersCommute) 47 = .ok (.getfield 56, 3) := by decide +kernel
theorem d_Mr_lettersCommute_50 : decode (fnB F_Mr_lettersCommute) 50 = .ok (.aload_n 0, 1) := by decide +kernel
theorem d_Mr_lettersCommute_51 : decode (fnB F_Mr_lettersCommute) 51 = .ok (.getfield 94, 3) := by decide +kernel
theorem d_Mr_lettersCommute_54 : decode (fnB F_Mr_lettersCommute) 54 = .ok (.aload_n 0, 1) := by decide +kernel
theorem d_Mr_lettersCommute_55 : decode (fnB F_Mr_lettersCommute) 55 = .ok (.getfield 94, 3) := by decide +kernel
theorem d_Mr_lettersCommute_58 : decode (fnB F_Mr_lettersCommute) 58 = .ok (.invokevirtual 270, 3) := by decide +kernel
theorem d_Mr_lettersCommute_61 : decode (fnB F_Mr_lettersCommute) 61 = .ok (.ifCond .eq 39, 3) := by decide +kernel
theorem d_Mr_lettersCommute_64 : decode (fnB F_Mr_lettersCommute) 64 = .ok (.aload_n 0, 1) := by decide +kernel
theorem d_Mr_lettersCommute_65 : decode (fnB F_Mr_lettersCommute) 65 = .ok (.getfield 56, 3) := by decide +kernel
theorem d_Mr_lettersCommute_68 : decode (fnB F_Mr_lettersCommute) 68 = .ok (.aload_n 0, 1) := by decide +kernel
theorem d_Mr_lettersCommute_69 : decode (fnB F_Mr_lettersCommute) 69 = .ok (.getfield 98, 3) := by decide +kernel
theorem d_Mr_lettersCommute_72 : decode (fnB F_Mr_lettersCommute) 72 = .ok (.aload_n 0, 1) := by decide +kernel
theorem d_Mr_lettersCommute_73 : decode (fnB F_Mr_lettersCommute) 73 = .ok (.getfield 98, 3) := by decide +kernel
theorem d_Mr_lettersCommute_76 : decode (fnB F_Mr_lettersCommute) 76 = .ok (.invokevirtual 270, 3) := by decide +kernel
theorem d_Mr_lettersCommute_79 : decode (fnB F_Mr_lettersCommute) 79 = .ok (.ifCond .eq 21, 3) := by decide +kernel
theorem d_Mr_lettersCommute_82 : decode (fnB F_Mr_lettersCommute) 82 = .ok (.aload_n 0, 1) := by decide +kernel
theorem d_Mr_lettersCommute_83 : decode (fnB F_Mr_lettersCommute) 83 = .ok (.getfield 94, 3) := by decide +kernel
theorem d_Mr_lettersCommute_86 : decode (fnB F_Mr_lettersCommute) 86 = .ok (.aload_n 0, 1) := by decide +kernel
theorem d_Mr_lettersCommute_87 : decode (fnB F_Mr_lettersCommute) 87 = .ok (.getfield 98, 3) := by decide +kernel
theorem d_Mr_lettersCommute_90 : decode (fnB F_Mr_lettersCommute) 90 = .ok (.invokevirtual 287, 3) := by decide +kernel
theorem d_Mr_lettersCommute_93 : decode (fnB F_Mr_lettersCommute) 93 = .ok (.ifCond .ne 7, 3) := by decide +kernel
theorem d_Mr_lettersCommute_96 : decode (fnB F_Mr_lettersCommute) 96 = .ok (.iconst 1, 1) := by decide +kernel
theorem d_Mr_lettersCommute_97 : decode (fnB F_Mr_lettersCommute) 97 = .ok (.goto 4, 3) := by decide +kernel
theorem d_Mr_lettersCommute_100 : decode (fnB F_Mr_lettersCommute) 100 = .ok (.iconst 0, 1) := by decide +kernel
theorem d_Mr_lettersCommute_101 : decode (fnB F_Mr_lettersCommute) 101 = .ok (.ireturn, 1) := by decide +kernel
theorem B_Mr_lettersCommute_0 : (∀ (l1 l2 : Value) (x : Nat) (st : List Value) (M : Mm) (Q : Option Value → Mm → Prop), wp F_Mr_lettersCommute 0 [.ref x, l1, l2] st M Q = wp F_Mr_lettersCommute 1 [.ref x, l1, l2] (.ref x :: st) M Q) ∧
  (∀ (l0 l1 l2 : Value) (a : Nat) (st : List Value) (M : Mm) (Q : Option Value → Mm → Prop), wp F_Mr_lettersCommute 1 [l0, l1, l2] (.ref a :: st) M Q = (sh M a = some (.inl 11) ∧ wp F_Mr_lettersCommute 4 [l0, l1, l2] (va_rf (gR M a 16) :: st) M Q)) ∧
  (∀ (l0 l1 l2 : Value) (b : Nat) (M : Mm) (Q : Option Value → Mm → Prop), wp F_Mr_lettersCommute 4 [l0, l1, l2] [.ref b] M Q = (sh M b = some (.inl 10) ∧ wp F_Word_clear 0 [.ref b] [] M (fun r M1 => wp F_Mr_lettersCommute 7 [l0, l1, l2] (r.toList ++ []) M1 Q))) ∧
  (∀ (l1 l2 : Value) (x : Nat) (st : List Value) (M : Mm) (Q : Option Value → Mm → Prop), wp F_Mr_lettersCommute 7 [.ref x, l1, l2] st M Q = wp F_Mr_lettersCommute 8 [.ref x, l1, l2] (.ref x :: st) M Q) ∧
  (∀ (l0 l1 l2 : Value) (a : Nat) (st : List Value) (M : Mm) (Q : Option Value → Mm → Prop), wp F_Mr_lettersCommute 8 [l0, l1, l2] (.ref a :: st) M Q = (sh M a = some (.inl 11) ∧ wp F_Mr_lettersCommute 11 [l0, l1, l2] (va_rf (gR M a 16) :: st) M Q)) ∧
  (∀ (l0 l2 : Value) (x : Int32) (st : List Value) (M : Mm) (Q : Option Value → Mm → Prop), wp F_Mr_lettersCommute 11 [l0, .int x, l2] st M Q = wp F_Mr_lettersCommute 12 [l0, .int x, l2] (.int x :: st) M Q) ∧
  (∀ (l0 l1 l2 : Value) (b : Nat) (p0 : Int32) (M : Mm) (Q : Option Value → Mm → Prop), wp F_Mr_lettersCommute 12 [l0, l1, l2] [.int p0, .ref b] M Q = (sh M b = some (.inl 10) ∧ wp F_Word_add 0 [.ref b, .int p0] [] M (fun r M1 => wp F_Mr_lettersCommute 15 [l0, l1, l2] (r.toList ++ []) M1 Q))) ∧
  (∀ (l1 l2 : Value) (x : Nat) (st : List Value) (M : Mm) (Q : Option Value → Mm → Prop), wp F_Mr_lettersCommute 15 [.ref x, l1, l2] st M Q = wp F_Mr_lettersCommute 16 [.ref x, l1, l2] (.ref x :: st) M Q) ∧
  (∀ (l0 l1 l2 : Value) (a : Nat) (st : List Value) (M : Mm) (Q : Option Value → Mm → Prop), wp F_Mr_lettersCommute 16 [l0, l1, l2] (.ref a :: st) M Q = (sh M a = some (.inl 11) ∧ wp F_Mr_lettersCommute 19 [l0, l1, l2] (va_rf (gR M a 16) :: st) M Q)) ∧
  (∀ (l0 l1 : Value) (x : Int32) (st : List Value) (M : Mm) (Q : Option Value → Mm → Prop), wp F_Mr_lettersCommute 19 [l0, l1, .int x] st M Q = wp F_Mr_lettersCommute 20 [l0, l1, .int x] (.int x :: st) M Q) ∧
  (∀ (l0 l1 l2 : Value) (b : Nat) (p0 : Int32) (M : Mm) (Q : Option Value → Mm → Prop), wp F_Mr_lettersCommute 20 [l0, l1, l2] [.int p0, .ref b] M Q = (sh M b = some (.inl 10) ∧ wp F_Word_add 0 [.ref b, .int p0] [] M (fun r M1 => wp F_Mr_lettersCommute 23 [l0, l1, l2] (r.toList ++ []) M1 Q))) ∧
  (∀ (l1 l2 : Value) (x : Nat) (st : List Value) (M : Mm) (Q : Option Value → Mm → Prop), wp F_Mr_lettersCommute 23 [.ref x, l1, l2] st M Q = wp F_Mr_lettersCommute 24 [.ref x, l1, l2] (.ref x :: st) M Q) ∧
  (∀ (l0 l1 l2 : Value) (a : Nat) (st : List Value) (M : Mm) (Q : Option Value → Mm → Prop), wp F_Mr_lettersCommute 24 [l0, l1, l2] (.ref a :: st) M Q = (sh M a = some (.inl 11) ∧ wp F_Mr_lettersCommute 27 [l0, l1, l2] (va_rf (gR M a 17) :: st) M Q)) ∧
  (∀ (l0 l1 l2 : Value) (b : Nat) (M : Mm) (Q : Option Value → Mm → Prop), wp F_Mr_lettersCommute 27 [l0, l1, l2] [.ref b] M Q = (sh M b = some (.inl 10) ∧ wp F_Word_clear 0 [.ref b] [] M (fun r M1 => wp F_Mr_lettersCommute 30 [l0, l1, l2] (r.toList ++ []) M1 Q))) ∧
  (∀ (l1 l2 : Value) (x : Nat) (st : List Value) (M : Mm) (Q : Option Value → Mm → Prop), wp F_Mr_lettersCommute 30 [.ref x, l1, l2] st M Q = wp F_Mr_lettersCommute 31 [.ref x, l1, l2] (.ref x :: st) M Q) ∧
  (∀ (l0 l1 l2 : Value) (a : Nat) (st : List Value) (M : Mm) (Q : Option Value → Mm → Prop), wp F_Mr_lettersCommute 31 [l0, l1, l2] (.ref a :: st) M Q = (sh M a = some (.inl 11) ∧ wp F_Mr_lettersCommute 34 [l0, l1, l2] (va_rf (gR M a 17) :: st) M Q)) ∧
  (∀ (l0 l1 : Value) (x : Int32) (st : List Value) (M : Mm) (Q : Option Value → Mm → Prop), wp F_Mr_lettersCommute 34 [l0, l1, .int x] st M Q = wp F_Mr_lettersCommute 35 [l0, l1, .int x] (.int x :: st) M Q) ∧
  (∀ (l0 l1 l2 : Value) (b : Nat) (p0 : Int32) (M : Mm) (Q : Option Value → Mm → Prop), wp F_Mr_lettersCommute 35 [l0, l1, l2] [.int p0, .ref b] M Q = (sh M b = some (.inl 10) ∧ wp F_Word_add 0 [.ref b, .int p0] [] M (fun r M1 => wp F_Mr_lettersCommute 38 [l0, l1, l2] (r.toList ++ []) M1 Q))) ∧
  (∀ (l1 l2 : Value) (x : Nat) (st : List Value) (M : Mm) (Q : Option Value → Mm → Prop), wp F_Mr_lettersCommute 38 [.ref x, l1, l2] st M Q = wp F_Mr_lettersCommute 39 [.ref x, l1, l2] (.ref x :: st) M Q) ∧
  (∀ (l0 l1 l2 : Value) (a : Nat) (st : List Value) (M : Mm) (Q : Option Value → Mm → Prop), wp F_Mr_lettersCommute 39 [l0, l1, l2] (.ref a :: st) M Q = (sh M a = some (.inl 11) ∧ wp F_Mr_lettersCommute 42 [l0, l1, l2] (va_rf (gR M a 17) :: st) M Q)) ∧
  (∀ (l0 l2 : Value) (x : Int32) (st : List Value) (M : Mm) (Q : Option Value → Mm → Prop), wp F_Mr_lettersCommute 42 [l0, .int x, l2] st M Q = wp F_Mr_lettersCommute 43 [l0, .int x, l2] (.int x :: st) M Q) ∧
  (∀ (l0 l1 l2 : Value) (b : Nat) (p0 : Int32) (M : Mm) (Q : Option Value → Mm → Prop), wp F_Mr_lettersCommute 43 [l0, l1, l2] [.int p0, .ref b] M Q = (sh M b = some (.inl 10) ∧ wp F_Word_add 0 [.ref b, .int p0] [] M (fun r M1 => wp F_Mr_lettersCommute 46 [l0, l1, l2] (r.toList ++ []) M1 Q))) ∧
  (∀ (l1 l2 : Value) (x : Nat) (st : List Value) (M : Mm) (Q : Option Value → Mm → Prop), wp F_Mr_lettersCommute 46 [.ref x, l1, l2] st M Q = wp F_Mr_lettersCommute 47 [.ref x, l1, l2] (.ref x :: st) M Q) ∧
  (∀ (l0 l1 l2 : Value) (a : Nat) (st : List Value) (M : Mm) (Q : Option Value → Mm → Prop), wp F_Mr_lettersCommute 47 [l0, l1, l2] (.ref a :: st) M Q = (sh M a = some (.inl 11) ∧ wp F_Mr_lettersCommute 50 [l0, l1, l2] (va_rf (gR M a 9) :: st) M Q)) ∧
  (∀ (l1 l2 : Value) (x : Nat) (st : List Value) (M : Mm) (Q : Option Value → Mm → Prop), wp F_Mr_lettersCommute 50 [.ref x, l1, l2] st M Q = wp F_Mr_lettersCommute 51 [.ref x, l1, l2] (.ref x :: st) M Q) ∧
  (∀ (l0 l1 l2 : Value) (a : Nat) (st : List Value) (M : Mm) (Q : Option Value → Mm → Prop), wp F_Mr_lettersCommute 51 [l0, l1, l2] (.ref a :: st) M Q = (sh M a = some (.inl 11) ∧ wp F_Mr_lettersCommute 54 [l0, l1, l2] (va_rf (gR M a 16) :: st) M Q)) ∧
  (∀ (l1 l2 : Value) (x : Nat) (st : List Value) (M : Mm) (Q : Option Value → Mm → Prop), wp F_Mr_lettersCommute 54 [.ref x, l1, l2] st M Q = wp F_Mr_lettersCommute 55 [.ref x, l1, l2] (.ref x :: st) M Q) ∧
  (∀ (l0 l1 l2 : Value) (a : Nat) (st : List Value) (M : Mm) (Q : Option Value → Mm → Prop), wp F_Mr_lettersCommute 55 [l0, l1, l2] (.ref a :: st) M Q = (sh M a = some (.inl 11) ∧ wp F_Mr_lettersCommute 58 [l0, l1, l2] (va_rf (gR M a 16) :: st) M Q)) ∧
  (∀ (l0 l1 l2 : Value) (b : Nat) (p0 : Nat) (p1 : Nat) (M : Mm) (Q : Option Value → Mm → Prop), wp F_Mr_lettersCommute 58 [l0, l1, l2] [.ref p1, .ref p0, .ref b] M Q = (sh M b = some (.inl 6) ∧ wp F_Reducer_toForm 0 [.ref b, .ref p0, .ref p1, jk, jk, jk, jk, jk, jk] [] M (fun r M1 => wp F_Mr_lettersCommute 61 [l0, l1, l2] (r.toList ++ []) M1 Q))) ∧
  (∀ (l0 l1 l2 : Value) (x : Int32) (st : List Value) (M : Mm) (Q : Option Value → Mm → Prop), wp F_Mr_lettersCommute 61 [l0, l1, l2] (.int x :: st) M Q = if x = 0 then wp F_Mr_lettersCommute 100 [l0, l1, l2] st M Q else wp F_Mr_lettersCommute 64 [l0, l1, l2] st M Q) ∧
  (∀ (l1 l2 : Value) (x : Nat) (st : List Value) (M : Mm) (Q : Option Value → Mm → Prop), wp F_Mr_lettersCommute 64 [.ref x, l1, l2] st M Q = wp F_Mr_lettersCommute 65 [.ref x, l1, l2] (.ref x :: st) M Q) ∧
  (∀ (l0 l1 l2 : Value) (a : Nat) (st : List Value) (M : Mm) (Q : Option Value → Mm → Prop), wp F_Mr_lettersCommute 65 [l0, l1, l2] (.ref a :: st) M Q = (sh M a = some (.inl 11) ∧ wp F_Mr_lettersCommute 68 [l0, l1, l2] (va_rf (gR M a 9) :: st) M Q)) ∧
  (∀ (l1 l2 : Value) (x : Nat) (st : List Value) (M : Mm) (Q : Option Value → Mm → Prop), wp F_Mr_lettersCommute 68 [.ref x, l1, l2] st M Q = wp F_Mr_lettersCommute 69 [.ref x, l1, l2] (.ref x :: st) M Q) ∧
  (∀ (l0 l1 l2 : Value) (a : Nat) (st : List Value) (M : Mm) (Q : Option Value → Mm → Prop), wp F_Mr_lettersCommute 69 [l0, l1, l2] (.ref a :: st) M Q = (sh M a = some (.inl 11) ∧ wp F_Mr_lettersCommute 72 [l0, l1, l2] (va_rf (gR M a 17) :: st) M Q)) ∧
  (∀ (l1 l2 : Value) (x : Nat) (st : List Value) (M : Mm) (Q : Option Value → Mm → Prop), wp F_Mr_lettersCommute 72 [.ref x, l1, l2] st M Q = wp F_Mr_lettersCommute 73 [.ref x, l1, l2] (.ref x :: st) M Q) ∧
  (∀ (l0 l1 l2 : Value) (a : Nat) (st : List Value) (M : Mm) (Q : Option Value → Mm → Prop), wp F_Mr_lettersCommute 73 [l0, l1, l2] (.ref a :: st) M Q = (sh M a = some (.inl 11) ∧ wp F_Mr_lettersCommute 76 [l0, l1, l2] (va_rf (gR M a 17) :: st) M Q)) ∧
  (∀ (l0 l1 l2 : Value) (b : Nat) (p0 : Nat) (p1 : Nat) (M : Mm) (Q : Option Value → Mm → Prop), wp F_Mr_lettersCommute 76 [l0, l1, l2] [.ref p1, .ref p0, .ref b] M Q = (sh M b = some (.inl 6) ∧ wp F_Reducer_toForm 0 [.ref b, .ref p0, .ref p1, jk, jk, jk, jk, jk, jk] [] M (fun r M1 => wp F_Mr_lettersCommute 79 [l0, l1, l2] (r.toList ++ []) M1 Q))) ∧
  (∀ (l0 l1 l2 : Value) (x : Int32) (st : List Value) (M : Mm) (Q : Option Value → Mm → Prop), wp F_Mr_lettersCommute 79 [l0, l1, l2] (.int x :: st) M Q = if x = 0 then wp F_Mr_lettersCommute 100 [l0, l1, l2] st M Q else wp F_Mr_lettersCommute 82 [l0, l1, l2] st M Q) ∧
  (∀ (l1 l2 : Value) (x : Nat) (st : List Value) (M : Mm) (Q : Option Value → Mm → Prop), wp F_Mr_lettersCommute 82 [.ref x, l1, l2] st M Q = wp F_Mr_lettersCommute 83 [.ref x, l1, l2] (.ref x :: st) M Q) ∧
  (∀ (l0 l1 l2 : Value) (a : Nat) (st : List Value) (M : Mm) (Q : Option Value → Mm → Prop), wp F_Mr_lettersCommute 83 [l0, l1, l2] (.ref a :: st) M Q = (sh M a = some (.inl 11) ∧ wp F_Mr_lettersCommute 86 [l0, l1, l2] (va_rf (gR M a 16) :: st) M Q)) := ⟨fun _ _ _ _ _ _ => wp_in d_Mr_lettersCommute_0 rfl rfl, fun _ _ _ _ _ _ _ => wp_getA d_Mr_lettersCommute_1 fl_11_94 rfl, fun _ _ _ _ _ _ => wp_callV d_Mr_lettersCommute_4 ml_11_161 rfl rfl rfl, fun _ _ _ _ _ _ => wp_in d_Mr_lettersCommute_7 rfl rfl, fun _ _ _ _ _ _ _ => wp_getA d_Mr_lettersCommute_8 fl_11_94 rfl, fun _ _ _ _ _ _ => wp_in d_Mr_lettersCommute_11 rfl rfl, fun _ _ _ _ _ _ _ => wp_callV d_Mr_lettersCommute_12 ml_11_325 rfl rfl rfl, fun _ _ _ _ _ _ => wp_in d_Mr_lettersCommute_15 rfl rfl, fun _ _ _ _ _ _ _ => wp_getA d_Mr_lettersCommute_16 fl_11_94 rfl, fun _ _ _ _ _ _ => wp_in d_Mr_lettersCommute_19 rfl rfl, fun _ _ _ _ _ _ _ => wp_callV d_Mr_lettersCommute_20 ml_11_325 rfl rfl rfl, fun _ _ _ _ _ _ => wp_in d_Mr_lettersCommute_23 rfl rfl, fun _ _ _ _ _ _ _ => wp_getA d_Mr_lettersCommute_24 fl_11_98 rfl, fun _ _ _ _ _ _ => wp_callV d_Mr_lettersCommute_27 ml_11_161 rfl rfl rfl, fun _ _ _ _ _ _ => wp_in d_Mr_lettersCommute_30 rfl rfl, fun _ _ _ _ _ _ _ => wp_getA d_Mr_lettersCommute_31 fl_11_98 rfl, fun _ _ _ _ _ _ => wp_in d_Mr_lettersCommute_34 rfl rfl, fun _ _ _ _ _ _ _ => wp_callV d_Mr_lettersCommute_35 ml_11_325 rfl rfl rfl, fun _ _ _ _ _ _ => wp_in d_Mr_lettersCommute_38 rfl rfl, fun _ _ _ _ _ _ _ => wp_getA d_Mr_lettersCommute_39 fl_11_98 rfl, fun _ _ _ _ _ _ => wp_in d_Mr_lettersCommute_42 rfl rfl, fun _ _ _ _ _ _ _ => wp_callV d_Mr_lettersCommute_43 ml_11_325 rfl rfl rfl, fun _ _ _ _ _ _ => wp_in d_Mr_lettersCommute_46 rfl rfl, fun _ _ _ _ _ _ _ => wp_getA d_Mr_lettersCommute_47 fl_11_56 rfl, fun _ _ _ _ _ _ => wp_in d_Mr_lettersCommute_50 rfl rfl, fun _ _ _ _ _ _ _ => wp_getA d_Mr_lettersCommute_51 fl_11_94 rfl, fun _ _ _ _ _ _ => wp_in d_Mr_lettersCommute_54 rfl rfl, fun _ _ _ _ _ _ _ => wp_getA d_Mr_lettersCommute_55 fl_11_94 rfl, fun _ _ _ _ _ _ _ _ => wp_callV d_Mr_lettersCommute_58 ml_11_270 rfl rfl rfl, fun _ _ _ _ _ _ _ => wp_if_eq d_Mr_lettersCommute_61 rfl, fun _ _ _ _ _ _ => wp_in d_Mr_lettersCommute_64 rfl rfl, fun _ _ _ _ _ _ _ => wp_getA d_Mr_lettersCommute_65 fl_11_56 rfl, fun _ _ _ _ _ _ => wp_in d_Mr_lettersCommute_68 rfl rfl, fun _ _ _ _ _ _ _ => wp_getA d_Mr_lettersCommute_69 fl_11_98 rfl, fun _ _ _ _ _ _ => wp_in d_Mr_lettersCommute_72 rfl rfl, fun _ _ _ _ _ _ _ => wp_getA d_Mr_lettersCommute_73 fl_11_98 rfl, fun _ _ _ _ _ _ _ _ => wp_callV d_Mr_lettersCommute_76 ml_11_270 rfl rfl rfl, fun _ _ _ _ _ _ _ => wp_if_eq d_Mr_lettersCommute_79 rfl, fun _ _ _ _ _ _ => wp_in d_Mr_lettersCommute_82 rfl rfl, fun _ _ _ _ _ _ _ => wp_getA d_Mr_lettersCommute_83 fl_11_94 rfl⟩
theorem B_Mr_lettersCommute_0_1 : (∀ (l1 l2 : Value) (x : Nat) (st : List Value) (M : Mm) (Q : Option Value → Mm → Prop), wp F_Mr_lettersCommute 86 [.ref x, l1, l2] st M Q = wp F_Mr_lettersCommute 87 [.ref x, l1, l2] (.ref x :: st) M Q) ∧
  (∀ (l0 l1 l2 : Value) (a : Nat) (st : List Value) (M : Mm) (Q : Option Value → Mm → Prop), wp F_Mr_lettersCommute 87 [l0, l1, l2] (.ref a :: st) M Q = (sh M a = some (.inl 11) ∧ wp F_Mr_lettersCommute 90 [l0, l1, l2] (va_rf (gR M a 17) :: st) M Q)) ∧
  (∀ (l0 l1 l2 : Value) (b : Nat) (p0 : Nat) (M : Mm) (Q : Option Value → Mm → Prop), wp F_Mr_lettersCommute 90 [l0, l1, l2] [.ref p0, .ref b] M Q = (sh M b = some (.inl 10) ∧ wp F_Word_against 0 [.ref b, .ref p0, jk] [] M (fun r M1 => wp F_Mr_lettersCommute 93 [l0, l1, l2] (r.toList ++ []) M1 Q))) ∧
  (∀ (l0 l1 l2 : Value) (x : Int32) (st : List Value) (M : Mm) (Q : Option Value → Mm → Prop), wp F_Mr_lettersCommute 93 [l0, l1, l2] (.int x :: st) M Q = if x = 0 then wp F_Mr_lettersCommute 96 [l0, l1, l2] st M Q else wp F_Mr_lettersCommute 100 [l0, l1, l2] st M Q) ∧
  (∀ (l0 l1 l2 : Value) (st : List Value) (M : Mm) (Q : Option Value → Mm → Prop), wp F_Mr_lettersCommute 96 [l0, l1, l2] st M Q = wp F_Mr_lettersCommute 97 [l0, l1, l2] (.int 1 :: st) M Q) ∧
  (∀ (l0 l1 l2 : Value) (st : List Value) (M : Mm) (Q : Option Value → Mm → Prop), wp F_Mr_lettersCommute 97 [l0, l1, l2] st M Q = wp F_Mr_lettersCommute 101 [l0, l1, l2] st M Q) := ⟨fun _ _ _ _ _ _ => wp_in d_Mr_lettersCommute_86 rfl rfl, fun _ _ _ _ _ _ _ => wp_getA d_Mr_lettersCommute_87 fl_11_98 rfl, fun _ _ _ _ _ _ _ => wp_callV d_Mr_lettersCommute_90 ml_11_287 rfl rfl rfl, fun _ _ _ _ _ _ _ => wp_if_ne d_Mr_lettersCommute_93 rfl, fun _ _ _ _ _ _ => wp_iconst d_Mr_lettersCommute_96 (by decide), fun _ _ _ _ _ _ => wp_goto d_Mr_lettersCommute_97 rfl⟩
theorem B_Mr_lettersCommute_100 : (∀ (l0 l1 l2 : Value) (st : List Value) (M : Mm) (Q : Option Value → Mm → Prop), wp F_Mr_lettersCommute 100 [l0, l1, l2] st M Q = wp F_Mr_lettersCommute 101 [l0, l1, l2] (.int 0 :: st) M Q) := fun _ _ _ _ _ _ => wp_iconst d_Mr_lettersCommute_100 (by decide)
theorem B_Mr_lettersCommute_101 : (∀ (l0 l1 l2 : Value) (v : Int32) (M : Mm) (Q : Option Value → Mm → Prop), wp F_Mr_lettersCommute 101 [l0, l1, l2] [.int v] M Q = ((v = 0 ∨ v = 1) ∧ Q (some (.int v)) M)) := fun _ _ _ _ _ _ => wp_retZ d_Mr_lettersCommute_101 rfl
theorem d_Mr_multiply_0 : decode (fnB F_Mr_multiply) 0 = .ok (.aload_n 1, 1) := by decide +kernel
theorem d_Mr_multiply_1 : decode (fnB F_Mr_multiply) 1 = .ok (.getfield 140, 3) := by decide +kernel
theorem d_Mr_multiply_4 : decode (fnB F_Mr_multiply) 4 = .ok (.aload_n 2, 1) := by decide +kernel
theorem d_Mr_multiply_5 : decode (fnB F_Mr_multiply) 5 = .ok (.getfield 140, 3) := by decide +kernel
theorem d_Mr_multiply_8 : decode (fnB F_Mr_multiply) 8 = .ok (.iadd, 1) := by decide +kernel
theorem d_Mr_multiply_9 : decode (fnB F_Mr_multiply) 9 = .ok (.bipush 80, 2) := by decide +kernel
theorem d_Mr_multiply_11 : decode (fnB F_Mr_multiply) 11 = .ok (.if_icmp .le 6, 3) := by decide +kernel
theorem d_Mr_multiply_14 : decode (fnB F_Mr_multiply) 14 = .ok (.bipush (-4), 2) := by decide +kernel
theorem d_Mr_multiply_16 : decode (fnB F_Mr_multiply) 16 = .ok (.ireturn, 1) := by decide +kernel
theorem d_Mr_multiply_17 : decode (fnB F_Mr_multiply) 17 = .ok (.aload_n 0, 1) := by decide +kernel
theorem d_Mr_multiply_18 : decode (fnB F_Mr_multiply) 18 = .ok (.getfield 101, 3) := by decide +kernel
theorem d_Mr_multiply_21 : decode (fnB F_Mr_multiply) 21 = .ok (.aload_n 1, 1) := by decide +kernel
theorem d_Mr_multiply_22 : decode (fnB F_Mr_multiply) 22 = .ok (.invokevirtual 136, 3) := by decide +kernel
theorem d_Mr_multiply_25 : decode (fnB F_Mr_multiply) 25 = .ok (.aload_n 0, 1) := by decide +kernel
theorem d_Mr_multiply_26 : decode (fnB F_Mr_multiply) 26 = .ok (.getfield 101, 3) := by decide +kernel
theorem d_Mr_multiply_29 : decode (fnB F_Mr_multiply) 29 = .ok (.aload_n 2, 1) := by decide +kernel
theorem d_Mr_multiply_30 : decode (fnB F_Mr_multiply) 30 = .ok (.iconst 0, 1) := by decide +kernel
theorem d_Mr_multiply_31 : decode (fnB F_Mr_multiply) 31 = .ok (.aload_n 2, 1) := by decide +kernel
theorem d_Mr_multiply_32 : decode (fnB F_Mr_multiply) 32 = .ok (.getfield 140, 3) := by decide +kernel
theorem d_Mr_multiply_35 : decode (fnB F_Mr_multiply) 35 = .ok (.invokevirtual 266, 3) := by decide +kernel
theorem d_Mr_multiply_38 : decode (fnB F_Mr_multiply) 38 = .ok (.aload_n 0, 1) := by decide +kernel
theorem d_Mr_multiply_39 : decode (fnB F_Mr_multiply) 39 = .ok (.aload_n 0, 1) := by decide +kernel
theorem d_Mr_multiply_40 : decode (fnB F_Mr_multiply) 40 = .ok (.getfield 101, 3) := by decide +kernel
theorem d_Mr_multiply_43 : decode (fnB F_Mr_multiply) 43 = .ok (.invokevirtual 311, 3) := by decide +kernel
theorem d_Mr_multiply_46 : decode (fnB F_Mr_multiply) 46 = .ok (.ireturn, 1) := by decide +kernel
theorem B_Mr_multiply_0 : (∀ (l0 l2 : Value) (x : Nat) (st : List Value) (M : Mm) (Q : Option Value → Mm → Prop), wp F_Mr_multiply 0 [l0, .ref x, l2] st M Q = wp F_Mr_multiply 1 [l0, .ref x, l2] (.ref x :: st) M Q) ∧
  (∀ (l0 l2 : Value) (st : List Value) (M : Mm) (Q : Option Value → Mm → Prop), wp F_Mr_multiply 0 [l0, .null, l2] st M Q = wp F_Mr_multiply 1 [l0, .null, l2] (.null :: st) M Q) ∧
  (∀ (l0 l1 l2 : Value) (a : Nat) (st : List Value) (M : Mm) (Q : Option Value → Mm → Prop), wp F_Mr_multiply 1 [l0, l1, l2] (.ref a :: st) M Q = (sh M a = some (.inl 10) ∧ wp F_Mr_multiply 4 [l0, l1, l2] (.int (gI M a 1) :: st) M Q)) ∧
  (∀ (l0 l1 : Value) (x : Nat) (st : List Value) (M : Mm) (Q : Option Value → Mm → Prop), wp F_Mr_multiply 4 [l0, l1, .ref x] st M Q = wp F_Mr_multiply 5 [l0, l1, .ref x] (.ref x :: st) M Q) ∧
  (∀ (l0 l1 : Value) (st : List Value) (M : Mm) (Q : Option Value → Mm → Prop), wp F_Mr_multiply 4 [l0, l1, .null] st M Q = wp F_Mr_multiply 5 [l0, l1, .null] (.null :: st) M Q) ∧
  (∀ (l0 l1 l2 : Value) (a : Nat) (st : List Value) (M : Mm) (Q : Option Value → Mm → Prop), wp F_Mr_multiply 5 [l0, l1, l2] (.ref a :: st) M Q = (sh M a = some (.inl 10) ∧ wp F_Mr_multiply 8 [l0, l1, l2] (.int (gI M a 1) :: st) M Q)) ∧
  (∀ (l0 l1 l2 : Value) (x y : Int32) (st : List Value) (M : Mm) (Q : Option Value → Mm → Prop), wp F_Mr_multiply 8 [l0, l1, l2] (.int y :: .int x :: st) M Q = wp F_Mr_multiply 9 [l0, l1, l2] (.int (x + y) :: st) M Q) ∧
  (∀ (l0 l1 l2 : Value) (st : List Value) (M : Mm) (Q : Option Value → Mm → Prop), wp F_Mr_multiply 9 [l0, l1, l2] st M Q = wp F_Mr_multiply 11 [l0, l1, l2] (.int 80 :: st) M Q) ∧
  (∀ (l0 l1 l2 : Value) (x y : Int32) (st : List Value) (M : Mm) (Q : Option Value → Mm → Prop), wp F_Mr_multiply 11 [l0, l1, l2] (.int y :: .int x :: st) M Q = if x ≤ y then wp F_Mr_multiply 17 [l0, l1, l2] st M Q else wp F_Mr_multiply 14 [l0, l1, l2] st M Q) ∧
  (∀ (l0 l1 l2 : Value) (st : List Value) (M : Mm) (Q : Option Value → Mm → Prop), wp F_Mr_multiply 14 [l0, l1, l2] st M Q = wp F_Mr_multiply 16 [l0, l1, l2] (.int (-4) :: st) M Q) ∧
  (∀ (l0 l1 l2 : Value) (v : Int32) (M : Mm) (Q : Option Value → Mm → Prop), wp F_Mr_multiply 16 [l0, l1, l2] [.int v] M Q = Q (some (.int v)) M) := ⟨fun _ _ _ _ _ _ => wp_in d_Mr_multiply_0 rfl rfl, fun _ _ _ _ _ => wp_in d_Mr_multiply_0 rfl rfl, fun _ _ _ _ _ _ _ => wp_getI d_Mr_multiply_1 fl_11_140 rfl, fun _ _ _ _ _ _ => wp_in d_Mr_multiply_4 rfl rfl, fun _ _ _ _ _ => wp_in d_Mr_multiply_4 rfl rfl, fun _ _ _ _ _ _ _ => wp_getI d_Mr_multiply_5 fl_11_140 rfl, fun _ _ _ _ _ _ _ _ => wp_in d_Mr_multiply_8 rfl rfl, fun _ _ _ _ _ _ => wp_bipush d_Mr_multiply_9 (by decide), fun _ _ _ _ _ _ _ _ => wp_icmp_le d_Mr_multiply_11 rfl, fun _ _ _ _ _ _ => wp_bipush d_Mr_multiply_14 (by decide), fun _ _ _ _ _ _ => wp_retI d_Mr_multiply_16 rfl⟩
theorem B_Mr_multiply_17 : (∀ (l1 l2 : Value) (x : Nat) (st : List Value) (M : Mm) (Q : Option Value → Mm → Prop), wp F_Mr_multiply 17 [.ref x, l1, l2] st M Q = wp F_Mr_multiply 18 [.ref x, l1, l2] (.ref x :: st) M Q) ∧
  (∀ (l0 l1 l2 : Value) (a : Nat) (st : List Value) (M : Mm) (Q : Option Value → Mm → Prop), wp F_Mr_multiply 18 [l0, l1, l2] (.ref a :: st) M Q = (sh M a = some (.inl 11) ∧ wp F_Mr_multiply 21 [l0, l1, l2] (va_rf (gR M a 18) :: st) M Q)) ∧
  (∀ (l0 l2 : Value) (x : Nat) (st : List Value) (M : Mm) (Q : Option Value → Mm → Prop), wp F_Mr_multiply 21 [l0, .ref x, l2] st M Q = wp F_Mr_multiply 22 [l0, .ref x, l2] (.ref x :: st) M Q) ∧
  (∀ (l0 l2 : Value) (st : List Value) (M : Mm) (Q : Option Value → Mm → Prop), wp F_Mr_multiply 21 [l0, .null, l2] st M Q = wp F_Mr_multiply 22 [l0, .null, l2] (.null :: st) M Q) ∧
  (∀ (l0 l1 l2 : Value) (b : Nat) (p0 : Nat) (M : Mm) (Q : Option Value → Mm → Prop), wp F_Mr_multiply 22 [l0, l1, l2] [.ref p0, .ref b] M Q = (sh M b = some (.inl 10) ∧ wp F_Word_become 0 [.ref b, .ref p0, jk, jk] [] M (fun r M1 => wp F_Mr_multiply 25 [l0, l1, l2] (r.toList ++ []) M1 Q))) ∧
  (∀ (l1 l2 : Value) (x : Nat) (st : List Value) (M : Mm) (Q : Option Value → Mm → Prop), wp F_Mr_multiply 25 [.ref x, l1, l2] st M Q = wp F_Mr_multiply 26 [.ref x, l1, l2] (.ref x :: st) M Q) ∧
  (∀ (l0 l1 l2 : Value) (a : Nat) (st : List Value) (M : Mm) (Q : Option Value → Mm → Prop), wp F_Mr_multiply 26 [l0, l1, l2] (.ref a :: st) M Q = (sh M a = some (.inl 11) ∧ wp F_Mr_multiply 29 [l0, l1, l2] (va_rf (gR M a 18) :: st) M Q)) ∧
  (∀ (l0 l1 : Value) (x : Nat) (st : List Value) (M : Mm) (Q : Option Value → Mm → Prop), wp F_Mr_multiply 29 [l0, l1, .ref x] st M Q = wp F_Mr_multiply 30 [l0, l1, .ref x] (.ref x :: st) M Q) ∧
  (∀ (l0 l1 : Value) (st : List Value) (M : Mm) (Q : Option Value → Mm → Prop), wp F_Mr_multiply 29 [l0, l1, .null] st M Q = wp F_Mr_multiply 30 [l0, l1, .null] (.null :: st) M Q) ∧
  (∀ (l0 l1 l2 : Value) (st : List Value) (M : Mm) (Q : Option Value → Mm → Prop), wp F_Mr_multiply 30 [l0, l1, l2] st M Q = wp F_Mr_multiply 31 [l0, l1, l2] (.int 0 :: st) M Q) ∧
  (∀ (l0 l1 : Value) (x : Nat) (st : List Value) (M : Mm) (Q : Option Value → Mm → Prop), wp F_Mr_multiply 31 [l0, l1, .ref x] st M Q = wp F_Mr_multiply 32 [l0, l1, .ref x] (.ref x :: st) M Q) ∧
  (∀ (l0 l1 : Value) (st : List Value) (M : Mm) (Q : Option Value → Mm → Prop), wp F_Mr_multiply 31 [l0, l1, .null] st M Q = wp F_Mr_multiply 32 [l0, l1, .null] (.null :: st) M Q) ∧
  (∀ (l0 l1 l2 : Value) (a : Nat) (st : List Value) (M : Mm) (Q : Option Value → Mm → Prop), wp F_Mr_multiply 32 [l0, l1, l2] (.ref a :: st) M Q = (sh M a = some (.inl 10) ∧ wp F_Mr_multiply 35 [l0, l1, l2] (.int (gI M a 1) :: st) M Q)) ∧
  (∀ (l0 l1 l2 : Value) (b : Nat) (p0 : Nat) (p1 : Int32) (p2 : Int32) (M : Mm) (Q : Option Value → Mm → Prop), wp F_Mr_multiply 35 [l0, l1, l2] [.int p2, .int p1, .ref p0, .ref b] M Q = (sh M b = some (.inl 10) ∧ wp F_Word_append 0 [.ref b, .ref p0, .int p1, .int p2, jk] [] M (fun r M1 => wp F_Mr_multiply 38 [l0, l1, l2] (r.toList ++ []) M1 Q))) ∧
  (∀ (l1 l2 : Value) (x : Nat) (st : List Value) (M : Mm) (Q : Option Value → Mm → Prop), wp F_Mr_multiply 38 [.ref x, l1, l2] st M Q = wp F_Mr_multiply 39 [.ref x, l1, l2] (.ref x :: st) M Q) ∧
  (∀ (l1 l2 : Value) (x : Nat) (st : List Value) (M : Mm) (Q : Option Value → Mm → Prop), wp F_Mr_multiply 39 [.ref x, l1, l2] st M Q = wp F_Mr_multiply 40 [.ref x, l1, l2] (.ref x :: st) M Q) ∧
  (∀ (l0 l1 l2 : Value) (a : Nat) (st : List Value) (M : Mm) (Q : Option Value → Mm → Prop), wp F_Mr_multiply 40 [l0, l1, l2] (.ref a :: st) M Q = (sh M a = some (.inl 11) ∧ wp F_Mr_multiply 43 [l0, l1, l2] (va_rf (gR M a 18) :: st) M Q)) ∧
  (∀ (l0 l1 l2 : Value) (b : Nat) (p0 : Nat) (M : Mm) (Q : Option Value → Mm → Prop), wp F_Mr_multiply 43 [l0, l1, l2] [.ref p0, .ref b] M Q = (sh M b = some (.inl 11) ∧ wp F_Mr_formNumber 0 [.ref b, .ref p0, jk, jk] [] M (fun r M1 => wp F_Mr_multiply 46 [l0, l1, l2] (r.toList ++ []) M1 Q))) ∧
  (∀ (l0 l1 l2 : Value) (v : Int32) (M : Mm) (Q : Option Value → Mm → Prop), wp F_Mr_multiply 46 [l0, l1, l2] [.int v] M Q = Q (some (.int v)) M) := ⟨fun _ _ _ _ _ _ => wp_in d_Mr_multiply_17 rfl rfl, fun _ _ _ _ _ _ _ => wp_getA d_Mr_multiply_18 fl_11_101 rfl, fun _ _ _ _ _ _ => wp_in d_Mr_multiply_21 rfl rfl, fun _ _ _ _ _ => wp_in d_Mr_multiply_21 rfl rfl, fun _ _ _ _ _ _ _ => wp_callV d_Mr_multiply_22 ml_11_136 rfl rfl rfl, fun _ _ _ _ _ _ => wp_in d_Mr_multiply_25 rfl rfl, fun _ _ _ _ _ _ _ => wp_getA d_Mr_multiply_26 fl_11_101 rfl, fun _ _ _ _ _ _ => wp_in d_Mr_multiply_29 rfl rfl, fun _ _ _ _ _ => wp_in d_Mr_multiply_29 rfl rfl, fun _ _ _ _ _ _ => wp_iconst d_Mr_multiply_30 (by decide), fun _ _ _ _ _ _ => wp_in d_Mr_multiply_31 rfl rfl, fun _ _ _ _ _ => wp_in d_Mr_multiply_31 rfl rfl, fun _ _ _ _ _ _ _ => wp_getI d_Mr_multiply_32 fl_11_140 rfl, fun _ _ _ _ _ _ _ _ _ => wp_callV d_Mr_multiply_35 ml_11_266 rfl rfl rfl, fun _ _ _ _ _ _ => wp_in d_Mr_multiply_38 rfl rfl, fun _ _ _ _ _ _ => wp_in d_Mr_multiply_39 rfl rfl, fun _ _ _ _ _ _ _ => wp_getA d_Mr_multiply_40 fl_11_101 rfl, fun _ _ _ _ _ _ _ => wp_callV d_Mr_multiply_43 ml_11_311 rfl rfl rfl, fun _ _ _ _ _ _ => wp_retI d_Mr_multiply_46 rfl⟩
theorem d_Mr_formNumber_0 : decode (fnB F_Mr_formNumber) 0 = .ok (.aload_n 0, 1) := by decide +kernel
theorem d_Mr_formNumber_1 : decode (fnB F_Mr_formNumber) 1 = .ok (.getfield 56, 3) := by decide +kernel
theorem d_Mr_formNumber_4 : decode (fnB F_Mr_formNumber) 4 = .ok (.aload_n 1, 1) := by decide +kernel
theorem d_Mr_formNumber_5 : decode (fnB F_Mr_formNumber) 5 = .ok (.aload_n 0, 1) := by decide +kernel
theorem d_Mr_formNumber_6 : decode (fnB F_Mr_formNumber) 6 = .ok (.getfield 101, 3) := by decide +kernel
theorem d_Mr_formNumber_9 : decode (fnB F_Mr_formNumber) 9 = .ok (.invokevirtual 270, 3) := by decide +kernel
theorem d_Mr_formNumber_12 : decode (fnB F_Mr_formNumber) 12 = .ok (.ifCond .ne 6, 3) := by decide +kernel
theorem d_Mr_formNumber_15 : decode (fnB F_Mr_formNumber) 15 = .ok (.bipush (-4), 2) := by decide +kernel
theorem d_Mr_formNumber_17 : decode (fnB F_Mr_formNumber) 17 = .ok (.ireturn, 1) := by decide +kernel
theorem d_Mr_formNumber_18 : decode (fnB F_Mr_formNumber) 18 = .ok (.aload_n 0, 1) := by decide +kernel
theorem d_Mr_formNumber_19 : decode (fnB F_Mr_formNumber) 19 = .ok (.getfield 81, 3) := by decide +kernel
theorem d_Mr_formNumber_22 : decode (fnB F_Mr_formNumber) 22 = .ok (.aload_n 0, 1) := by decide +kernel
theorem d_Mr_formNumber_23 : decode (fnB F_Mr_formNumber) 23 = .ok (.getfield 101, 3) := by decide +kernel
theorem d_Mr_formNumber_26 : decode (fnB F_Mr_formNumber) 26 = .ok (.invokevirtual 328, 3) := by decide +kernel
theorem d_Mr_formNumber_29 : decode (fnB F_Mr_formNumber) 29 = .ok (.lstore_n 2, 1) := by decide +kernel
theorem d_Mr_formNumber_30 : decode (fnB F_Mr_formNumber) 30 = .ok (.lload_n 2, 1) := by decide +kernel
theorem d_Mr_formNumber_31 : decode (fnB F_Mr_formNumber) 31 = .ok (.ldc2_w 332, 3) := by decide +kernel
theorem d_Mr_formNumber_34 : decode (fnB F_Mr_formNumber) 34 = .ok (.lcmp, 1) := by decide +kernel
theorem d_Mr_formNumber_35 : decode (fnB F_Mr_formNumber) 35 = .ok (.ifCond .le 8, 3) := by decide +kernel
theorem d_Mr_formNumber_38 : decode (fnB F_Mr_formNumber) 38 = .ok (.bipush (-4), 2) := by decide +kernel
theorem d_Mr_formNumber_40 : decode (fnB F_Mr_formNumber) 40 = .ok (.goto 5, 3) := by decide +kernel
theorem d_Mr_formNumber_43 : decode (fnB F_Mr_formNumber) 43 = .ok (.lload_n 2, 1) := by decide +kernel
theorem d_Mr_formNumber_44 : decode (fnB F_Mr_formNumber) 44 = .ok (.l2i, 1) := by decide +kernel
theorem d_Mr_formNumber_45 : decode (fnB F_Mr_formNumber) 45 = .ok (.ireturn, 1) := by decide +kernel
theorem B_Mr_formNumber_0 : (∀ (l1 l2 l3 : Value) (x : Nat) (st : List Value) (M : Mm) (Q : Option Value → Mm → Prop), wp F_Mr_formNumber 0 [.ref x, l1, l2, l3] st M Q = wp F_Mr_formNumber 1 [.ref x, l1, l2, l3] (.ref x :: st) M Q) ∧
  (∀ (l0 l1 l2 l3 : Value) (a : Nat) (st : List Value) (M : Mm) (Q : Option Value → Mm → Prop), wp F_Mr_formNumber 1 [l0, l1, l2, l3] (.ref a :: st) M Q = (sh M a = some (.inl 11) ∧ wp F_Mr_formNumber 4 [l0, l1, l2, l3] (va_rf (gR M a 9) :: st) M Q)) ∧
  (∀ (l0 l2 l3 : Value) (x : Nat) (st : List Value) (M : Mm) (Q : Option Value → Mm → Prop), wp F_Mr_formNumber 4 [l0, .ref x, l2, l3] st M Q = wp F_Mr_formNumber 5 [l0, .ref x, l2, l3] (.ref x :: st) M Q) ∧
  (∀ (l0 l2 l3 : Value) (st : List Value) (M : Mm) (Q : Option Value → Mm → Prop), wp F_Mr_formNumber 4 [l0, .null, l2, l3] st M Q = wp F_Mr_formNumber 5 [l0, .null, l2, l3] (.null :: st) M Q) ∧
  (∀ (l1 l2 l3 : Value) (x : Nat) (st : List Value) (M : Mm) (Q : Option Value → Mm → Prop), wp F_Mr_formNumber 5 [.ref x, l1, l2, l3] st M Q = wp F_Mr_formNumber 6 [.ref x, l1, l2, l3] (.ref x :: st) M Q) ∧
  (∀ (l0 l1 l2 l3 : Value) (a : Nat) (st : List Value) (M : Mm) (Q : Option Value → Mm → Prop), wp F_Mr_formNumber 6 [l0, l1, l2, l3] (.ref a :: st) M Q = (sh M a = some (.inl 11) ∧ wp F_Mr_formNumber 9 [l0, l1, l2, l3] (va_rf (gR M a 18) :: st) M Q)) ∧
  (∀ (l0 l1 l2 l3 : Value) (b : Nat) (p0 : Nat) (p1 : Nat) (M : Mm) (Q : Option Value → Mm → Prop), wp F_Mr_formNumber 9 [l0, l1, l2, l3] [.ref p1, .ref p0, .ref b] M Q = (sh M b = some (.inl 6) ∧ wp F_Reducer_toForm 0 [.ref b, .ref p0, .ref p1, jk, jk, jk, jk, jk, jk] [] M (fun r M1 => wp F_Mr_formNumber 12 [l0, l1, l2, l3] (r.toList ++ []) M1 Q))) ∧
  (∀ (l0 l1 l2 l3 : Value) (x : Int32) (st : List Value) (M : Mm) (Q : Option Value → Mm → Prop), wp F_Mr_formNumber 12 [l0, l1, l2, l3] (.int x :: st) M Q = if x = 0 then wp F_Mr_formNumber 15 [l0, l1, l2, l3] st M Q else wp F_Mr_formNumber 18 [l0, l1, l2, l3] st M Q) ∧
  (∀ (l0 l1 l2 l3 : Value) (st : List Value) (M : Mm) (Q : Option Value → Mm → Prop), wp F_Mr_formNumber 15 [l0, l1, l2, l3] st M Q = wp F_Mr_formNumber 17 [l0, l1, l2, l3] (.int (-4) :: st) M Q) ∧
  (∀ (l0 l1 l2 l3 : Value) (v : Int32) (M : Mm) (Q : Option Value → Mm → Prop), wp F_Mr_formNumber 17 [l0, l1, l2, l3] [.int v] M Q = Q (some (.int v)) M) := ⟨fun _ _ _ _ _ _ _ => wp_in d_Mr_formNumber_0 rfl rfl, fun _ _ _ _ _ _ _ _ => wp_getA d_Mr_formNumber_1 fl_11_56 rfl, fun _ _ _ _ _ _ _ => wp_in d_Mr_formNumber_4 rfl rfl, fun _ _ _ _ _ _ => wp_in d_Mr_formNumber_4 rfl rfl, fun _ _ _ _ _ _ _ => wp_in d_Mr_formNumber_5 rfl rfl, fun _ _ _ _ _ _ _ _ => wp_getA d_Mr_formNumber_6 fl_11_101 rfl, fun _ _ _ _ _ _ _ _ _ => wp_callV d_Mr_formNumber_9 ml_11_270 rfl rfl rfl, fun _ _ _ _ _ _ _ _ => wp_if_ne d_Mr_formNumber_12 rfl, fun _ _ _ _ _ _ _ => wp_bipush d_Mr_formNumber_15 (by decide), fun _ _ _ _ _ _ _ => wp_retI d_Mr_formNumber_17 rfl⟩
theorem B_Mr_formNumber_18 : (∀ (l1 l2 l3 : Value) (x : Nat) (st : List Value) (M : Mm) (Q : Option Value → Mm → Prop), wp F_Mr_formNumber 18 [.ref x, l1, l2, l3] st M Q = wp F_Mr_formNumber 19 [.ref x, l1, l2, l3] (.ref x :: st) M Q) ∧
  (∀ (l0 l1 l2 l3 : Value) (a : Nat) (st : List Value) (M : Mm) (Q : Option Value → Mm → Prop), wp F_Mr_formNumber 19 [l0, l1, l2, l3] (.ref a :: st) M Q = (sh M a = some (.inl 11) ∧ wp F_Mr_formNumber 22 [l0, l1, l2, l3] (va_rf (gR M a 12) :: st) M Q)) ∧
  (∀ (l1 l2 l3 : Value) (x : Nat) (st : List Value) (M : Mm) (Q : Option Value → Mm → Prop), wp F_Mr_formNumber 22 [.ref x, l1, l2, l3] st M Q = wp F_Mr_formNumber 23 [.ref x, l1, l2, l3] (.ref x :: st) M Q) ∧
  (∀ (l0 l1 l2 l3 : Value) (a : Nat) (st : List Value) (M : Mm) (Q : Option Value → Mm → Prop), wp F_Mr_formNumber 23 [l0, l1, l2, l3] (.ref a :: st) M Q = (sh M a = some (.inl 11) ∧ wp F_Mr_formNumber 26 [l0, l1, l2, l3] (va_rf (gR M a 18) :: st) M Q)) ∧
  (∀ (l0 l1 l2 l3 : Value) (b : Nat) (p0 : Nat) (M : Mm) (Q : Option Value → Mm → Prop), wp F_Mr_formNumber 26 [l0, l1, l2, l3] [.ref p0, .ref b] M Q = (sh M b = some (.inl 1) ∧ wp F_Elements_rank 0 [.ref b, .ref p0, jk, jk, jk, jk, jk, jk] [] M (fun r M1 => wp F_Mr_formNumber 29 [l0, l1, l2, l3] (r.toList ++ []) M1 Q))) ∧
  (∀ (l0 l1 l2 l3 : Value) (x : Int64) (st : List Value) (M : Mm) (Q : Option Value → Mm → Prop), wp F_Mr_formNumber 29 [l0, l1, l2, l3] (.long x :: st) M Q = wp F_Mr_formNumber 30 [l0, clr l1, .long x, jk] st M Q) ∧
  (∀ (l0 l1 l3 : Value) (x : Int64) (st : List Value) (M : Mm) (Q : Option Value → Mm → Prop), wp F_Mr_formNumber 30 [l0, l1, .long x, l3] st M Q = wp F_Mr_formNumber 31 [l0, l1, .long x, l3] (.long x :: st) M Q) ∧
  (∀ (l0 l1 l2 l3 : Value) (st : List Value) (M : Mm) (Q : Option Value → Mm → Prop), wp F_Mr_formNumber 31 [l0, l1, l2, l3] st M Q = wp F_Mr_formNumber 34 [l0, l1, l2, l3] (.long 2147483647 :: st) M Q) ∧
  (∀ (l0 l1 l2 l3 : Value) (x y : Int64) (st : List Value) (M : Mm) (Q : Option Value → Mm → Prop), wp F_Mr_formNumber 34 [l0, l1, l2, l3] (.long y :: .long x :: st) M Q = wp F_Mr_formNumber 35 [l0, l1, l2, l3] (.int (lg_cmp x y) :: st) M Q) ∧
  (∀ (l0 l1 l2 l3 : Value) (x : Int32) (st : List Value) (M : Mm) (Q : Option Value → Mm → Prop), wp F_Mr_formNumber 35 [l0, l1, l2, l3] (.int x :: st) M Q = if x ≤ 0 then wp F_Mr_formNumber 43 [l0, l1, l2, l3] st M Q else wp F_Mr_formNumber 38 [l0, l1, l2, l3] st M Q) ∧
  (∀ (l0 l1 l2 l3 : Value) (st : List Value) (M : Mm) (Q : Option Value → Mm → Prop), wp F_Mr_formNumber 38 [l0, l1, l2, l3] st M Q = wp F_Mr_formNumber 40 [l0, l1, l2, l3] (.int (-4) :: st) M Q) ∧
  (∀ (l0 l1 l2 l3 : Value) (st : List Value) (M : Mm) (Q : Option Value → Mm → Prop), wp F_Mr_formNumber 40 [l0, l1, l2, l3] st M Q = wp F_Mr_formNumber 45 [l0, l1, l2, l3] st M Q) := ⟨fun _ _ _ _ _ _ _ => wp_in d_Mr_formNumber_18 rfl rfl, fun _ _ _ _ _ _ _ _ => wp_getA d_Mr_formNumber_19 fl_11_81 rfl, fun _ _ _ _ _ _ _ => wp_in d_Mr_formNumber_22 rfl rfl, fun _ _ _ _ _ _ _ _ => wp_getA d_Mr_formNumber_23 fl_11_101 rfl, fun _ _ _ _ _ _ _ _ => wp_callV d_Mr_formNumber_26 ml_11_328 rfl rfl rfl, fun _ _ _ _ _ _ _ _ => wp_in d_Mr_formNumber_29 rfl rfl, fun _ _ _ _ _ _ _ => wp_in d_Mr_formNumber_30 rfl rfl, fun _ _ _ _ _ _ _ => wp_ldc2 d_Mr_formNumber_31 ll_11_332, fun _ _ _ _ _ _ _ _ _ => wp_in d_Mr_formNumber_34 rfl rfl, fun _ _ _ _ _ _ _ _ => wp_if_le d_Mr_formNumber_35 rfl, fun _ _ _ _ _ _ _ => wp_bipush d_Mr_formNumber_38 (by decide), fun _ _ _ _ _ _ _ => wp_goto d_Mr_formNumber_40 rfl⟩
theorem B_Mr_formNumber_43 : (∀ (l0 l1 l3 : Value) (x : Int64) (st : List Value) (M : Mm) (Q : Option Value → Mm → Prop), wp F_Mr_formNumber 43 [l0, l1, .long x, l3] st M Q = wp F_Mr_formNumber 44 [l0, l1, .long x, l3] (.long x :: st) M Q) ∧
  (∀ (l0 l1 l2 l3 : Value) (x : Int64) (st : List Value) (M : Mm) (Q : Option Value → Mm → Prop), wp F_Mr_formNumber 44 [l0, l1, l2, l3] (.long x :: st) M Q = wp F_Mr_formNumber 45 [l0, l1, l2, l3] (.int x.toInt32 :: st) M Q) := ⟨fun _ _ _ _ _ _ _ => wp_in d_Mr_formNumber_43 rfl rfl, fun _ _ _ _ _ _ _ _ => wp_in d_Mr_formNumber_44 rfl rfl⟩
theorem B_Mr_formNumber_45 : (∀ (l0 l1 l2 l3 : Value) (v : Int32) (M : Mm) (Q : Option Value → Mm → Prop), wp F_Mr_formNumber 45 [l0, l1, l2, l3] [.int v] M Q = Q (some (.int v)) M) := fun _ _ _ _ _ _ _ => wp_retI d_Mr_formNumber_45 rfl
theorem d_Mr_earlierPower_0 : decode (fnB F_Mr_earlierPower) 0 = .ok (.iconst 0, 1) := by decide +kernel
theorem d_Mr_earlierPower_1 : decode (fnB F_Mr_earlierPower) 1 = .ok (.istore_n 2, 1) := by decide +kernel
theorem d_Mr_earlierPower_2 : decode (fnB F_Mr_earlierPower) 2 = .ok (.iload_n 2, 1) := by decide +kernel
theorem d_Mr_earlierPower_3 : decode (fnB F_Mr_earlierPower) 3 = .ok (.iload_n 1, 1) := by decide +kernel
theorem d_Mr_earlierPower_4 : decode (fnB F_Mr_earlierPower) 4 = .ok (.if_icmp .ge 26, 3) := by decide +kernel
theorem d_Mr_earlierPower_7 : decode (fnB F_Mr_earlierPower) 7 = .ok (.aload_n 0, 1) := by decide +kernel
theorem d_Mr_earlierPower_8 : decode (fnB F_Mr_earlierPower) 8 = .ok (.getfield 104, 3) := by decide +kernel
theorem d_Mr_earlierPower_11 : decode (fnB F_Mr_earlierPower) 11 = .ok (.iload_n 2, 1) := by decide +kernel
theorem d_Mr_earlierPower_12 : decode (fnB F_Mr_earlierPower) 12 = .ok (.iaload, 1) := by decide +kernel
theorem d_Mr_earlierPower_13 : decode (fnB F_Mr_earlierPower) 13 = .ok (.aload_n 0, 1) := by decide +kernel
theorem d_Mr_earlierPower_14 : decode (fnB F_Mr_earlierPower) 14 = .ok (.getfield 104, 3) := by decide +kernel
theorem d_Mr_earlierPower_17 : decode (fnB F_Mr_earlierPower) 17 = .ok (.iload_n 1, 1) := by decide +kernel
theorem d_Mr_earlierPower_18 : decode (fnB F_Mr_earlierPower) 18 = .ok (.iaload, 1) := by decide +kernel
theorem d_Mr_earlierPower_19 : decode (fnB F_Mr_earlierPower) 19 = .ok (.if_icmp .ne 5, 3) := by decide +kernel
theorem d_Mr_earlierPower_22 : decode (fnB F_Mr_earlierPower) 22 = .ok (.iload_n 2, 1) := by decide +kernel
theorem d_Mr_earlierPower_23 : decode (fnB F_Mr_earlierPower) 23 = .ok (.ireturn, 1) := by decide +kernel
theorem d_Mr_earlierPower_24 : decode (fnB F_Mr_earlierPower) 24 = .ok (.iinc 2 1, 3) := by decide +kernel
theorem d_Mr_earlierPower_27 : decode (fnB F_Mr_earlierPower) 27 = .ok (.goto (-25), 3) := by decide +kernel
theorem d_Mr_earlierPower_30 : decode (fnB F_Mr_earlierPower) 30 = .ok (.iconst (-1), 1) := by decide +kernel
theorem d_Mr_earlierPower_31 : decode (fnB F_Mr_earlierPower) 31 = .ok (.ireturn, 1) := by decide +kernel
theorem B_Mr_earlierPower_0 : (∀ (l0 l1 l2 : Value) (st : List Value) (M : Mm) (Q : Option Value → Mm → Prop), wp F_Mr_earlierPower 0 [l0, l1, l2] st M Q = wp F_Mr_earlierPower 1 [l0, l1, l2] (.int 0 :: st) M Q) ∧
  (∀ (l0 l1 l2 : Value) (x : Int32) (st : List Value) (M : Mm) (Q : Option Value → Mm → Prop), wp F_Mr_earlierPower 1 [l0, l1, l2] (.int x :: st) M Q = wp F_Mr_earlierPower 2 [l0, clr l1, .int x] st M Q) := ⟨fun _ _ _ _ _ _ => wp_iconst d_Mr_earlierPower_0 (by decide), fun _ _ _ _ _ _ _ => wp_in d_Mr_earlierPower_1 rfl rfl⟩
theorem B_Mr_earlierPower_2 : (∀ (l0 l1 : Value) (x : Int32) (st : List Value) (M : Mm) (Q : Option Value → Mm → Prop), wp F_Mr_earlierPower 2 [l0, l1, .int x] st M Q = wp F_Mr_earlierPower 3 [l0, l1, .int x] (.int x :: st) M Q) ∧
  (∀ (l0 l2 : Value) (x : Int32) (st : List Value) (M : Mm) (Q : Option Value → Mm → Prop), wp F_Mr_earlierPower 3 [l0, .int x, l2] st M Q = wp F_Mr_earlierPower 4 [l0, .int x, l2] (.int x :: st) M Q) ∧
  (∀ (l0 l1 l2 : Value) (x y : Int32) (st : List Value) (M : Mm) (Q : Option Value → Mm → Prop), wp F_Mr_earlierPower 4 [l0, l1, l2] (.int y :: .int x :: st) M Q = if y ≤ x then wp F_Mr_earlierPower 30 [l0, l1, l2] st M Q else wp F_Mr_earlierPower 7 [l0, l1, l2] st M Q) ∧
  (∀ (l1 l2 : Value) (x : Nat) (st : List Value) (M : Mm) (Q : Option Value → Mm → Prop), wp F_Mr_earlierPower 7 [.ref x, l1, l2] st M Q = wp F_Mr_earlierPower 8 [.ref x, l1, l2] (.ref x :: st) M Q) ∧
  (∀ (l0 l1 l2 : Value) (a : Nat) (st : List Value) (M : Mm) (Q : Option Value → Mm → Prop), wp F_Mr_earlierPower 8 [l0, l1, l2] (.ref a :: st) M Q = (sh M a = some (.inl 11) ∧ wp F_Mr_earlierPower 11 [l0, l1, l2] (va_rf (gR M a 19) :: st) M Q)) ∧
  (∀ (l0 l1 : Value) (x : Int32) (st : List Value) (M : Mm) (Q : Option Value → Mm → Prop), wp F_Mr_earlierPower 11 [l0, l1, .int x] st M Q = wp F_Mr_earlierPower 12 [l0, l1, .int x] (.int x :: st) M Q) ∧
  (∀ (l0 l1 l2 : Value) (a : Nat) (j : Int32) (st : List Value) (M : Mm) (Q : Option Value → Mm → Prop), wp F_Mr_earlierPower 12 [l0, l1, l2] (.int j :: .ref a :: st) M Q = (ixI M a j ∧ wp F_Mr_earlierPower 13 [l0, l1, l2] (.int (gI M a (cl j)) :: st) M Q)) ∧
  (∀ (l1 l2 : Value) (x : Nat) (st : List Value) (M : Mm) (Q : Option Value → Mm → Prop), wp F_Mr_earlierPower 13 [.ref x, l1, l2] st M Q = wp F_Mr_earlierPower 14 [.ref x, l1, l2] (.ref x :: st) M Q) ∧
  (∀ (l0 l1 l2 : Value) (a : Nat) (st : List Value) (M : Mm) (Q : Option Value → Mm → Prop), wp F_Mr_earlierPower 14 [l0, l1, l2] (.ref a :: st) M Q = (sh M a = some (.inl 11) ∧ wp F_Mr_earlierPower 17 [l0, l1, l2] (va_rf (gR M a 19) :: st) M Q)) ∧
  (∀ (l0 l2 : Value) (x : Int32) (st : List Value) (M : Mm) (Q : Option Value → Mm → Prop), wp F_Mr_earlierPower 17 [l0, .int x, l2] st M Q = wp F_Mr_earlierPower 18 [l0, .int x, l2] (.int x :: st) M Q) ∧
  (∀ (l0 l1 l2 : Value) (a : Nat) (j : Int32) (st : List Value) (M : Mm) (Q : Option Value → Mm → Prop), wp F_Mr_earlierPower 18 [l0, l1, l2] (.int j :: .ref a :: st) M Q = (ixI M a j ∧ wp F_Mr_earlierPower 19 [l0, l1, l2] (.int (gI M a (cl j)) :: st) M Q)) ∧
  (∀ (l0 l1 l2 : Value) (x y : Int32) (st : List Value) (M : Mm) (Q : Option Value → Mm → Prop), wp F_Mr_earlierPower 19 [l0, l1, l2] (.int y :: .int x :: st) M Q = if x = y then wp F_Mr_earlierPower 22 [l0, l1, l2] st M Q else wp F_Mr_earlierPower 24 [l0, l1, l2] st M Q) ∧
  (∀ (l0 l1 : Value) (x : Int32) (st : List Value) (M : Mm) (Q : Option Value → Mm → Prop), wp F_Mr_earlierPower 22 [l0, l1, .int x] st M Q = wp F_Mr_earlierPower 23 [l0, l1, .int x] (.int x :: st) M Q) ∧
  (∀ (l0 l1 l2 : Value) (v : Int32) (M : Mm) (Q : Option Value → Mm → Prop), wp F_Mr_earlierPower 23 [l0, l1, l2] [.int v] M Q = Q (some (.int v)) M) := ⟨fun _ _ _ _ _ _ => wp_in d_Mr_earlierPower_2 rfl rfl, fun _ _ _ _ _ _ => wp_in d_Mr_earlierPower_3 rfl rfl, fun _ _ _ _ _ _ _ _ => wp_icmp_ge d_Mr_earlierPower_4 rfl, fun _ _ _ _ _ _ => wp_in d_Mr_earlierPower_7 rfl rfl, fun _ _ _ _ _ _ _ => wp_getA d_Mr_earlierPower_8 fl_11_104 rfl, fun _ _ _ _ _ _ => wp_in d_Mr_earlierPower_11 rfl rfl, fun _ _ _ _ _ _ _ _ => wp_iald d_Mr_earlierPower_12, fun _ _ _ _ _ _ => wp_in d_Mr_earlierPower_13 rfl rfl, fun _ _ _ _ _ _ _ => wp_getA d_Mr_earlierPower_14 fl_11_104 rfl, fun _ _ _ _ _ _ => wp_in d_Mr_earlierPower_17 rfl rfl, fun _ _ _ _ _ _ _ _ => wp_iald d_Mr_earlierPower_18, fun _ _ _ _ _ _ _ _ => wp_icmp_ne d_Mr_earlierPower_19 rfl, fun _ _ _ _ _ _ => wp_in d_Mr_earlierPower_22 rfl rfl, fun _ _ _ _ _ _ => wp_retI d_Mr_earlierPower_23 rfl⟩
theorem B_Mr_earlierPower_24 : (∀ (l0 l1 : Value) (x : Int32) (st : List Value) (M : Mm) (Q : Option Value → Mm → Prop), wp F_Mr_earlierPower 24 [l0, l1, .int x] st M Q = wp F_Mr_earlierPower 27 [l0, clr l1, .int (x + 1)] st M Q) := fun _ _ _ _ _ _ => wp_iinc d_Mr_earlierPower_24 (by decide) rfl rfl
theorem B_Mr_earlierPower_30 : (∀ (l0 l1 l2 : Value) (st : List Value) (M : Mm) (Q : Option Value → Mm → Prop), wp F_Mr_earlierPower 30 [l0, l1, l2] st M Q = wp F_Mr_earlierPower 31 [l0, l1, l2] (.int (-1) :: st) M Q) ∧
  (∀ (l0 l1 l2 : Value) (v : Int32) (M : Mm) (Q : Option Value → Mm → Prop), wp F_Mr_earlierPower 31 [l0, l1, l2] [.int v] M Q = Q (some (.int v)) M) := ⟨fun _ _ _ _ _ _ => wp_iconst d_Mr_earlierPower_30 (by decide), fun _ _ _ _ _ _ => wp_retI d_Mr_earlierPower_31 rfl⟩
theorem G_Mr_earlierPower_27 (l0 l1 l2 : Value) (st : List Value) (M : Mm) (Q : Option Value → Mm → Prop) : wp F_Mr_earlierPower 27 [l0, l1, l2] st M Q = wp F_Mr_earlierPower 2 [l0, l1, l2] st M Q := wp_goto d_Mr_earlierPower_27 rfl
theorem d_Mr_isSlot_0 : decode (fnB F_Mr_isSlot) 0 = .ok (.iload_n 0, 1) := by decide +kernel
theorem d_Mr_isSlot_1 : decode (fnB F_Mr_isSlot) 1 = .ok (.ifCond .lt 13, 3) := by decide +kernel
theorem d_Mr_isSlot_4 : decode (fnB F_Mr_isSlot) 4 = .ok (.iload_n 0, 1) := by decide +kernel
theorem d_Mr_isSlot_5 : decode (fnB F_Mr_isSlot) 5 = .ok (.bipush 8, 2) := by decide +kernel
theorem d_Mr_isSlot_7 : decode (fnB F_Mr_isSlot) 7 = .ok (.if_icmp .ge 7, 3) := by decide +kernel
theorem d_Mr_isSlot_10 : decode (fnB F_Mr_isSlot) 10 = .ok (.iconst 1, 1) := by decide +kernel
theorem d_Mr_isSlot_11 : decode (fnB F_Mr_isSlot) 11 = .ok (.goto 4, 3) := by decide +kernel
theorem d_Mr_isSlot_14 : decode (fnB F_Mr_isSlot) 14 = .ok (.iconst 0, 1) := by decide +kernel
theorem d_Mr_isSlot_15 : decode (fnB F_Mr_isSlot) 15 = .ok (.ireturn, 1) := by decide +kernel
theorem B_Mr_isSlot_0 : (∀ (x : Int32) (st : List Value) (M : Mm) (Q : Option Value → Mm → Prop), wp F_Mr_isSlot 0 [.int x] st M Q = wp F_Mr_isSlot 1 [.int x] (.int x :: st) M Q) ∧
  (∀ (l0 : Value) (x : Int32) (st : List Value) (M : Mm) (Q : Option Value → Mm → Prop), wp F_Mr_isSlot 1 [l0] (.int x :: st) M Q = if x < 0 then wp F_Mr_isSlot 14 [l0] st M Q else wp F_Mr_isSlot 4 [l0] st M Q) ∧
  (∀ (x : Int32) (st : List Value) (M : Mm) (Q : Option Value → Mm → Prop), wp F_Mr_isSlot 4 [.int x] st M Q = wp F_Mr_isSlot 5 [.int x] (.int x :: st) M Q) ∧
  (∀ (l0 : Value) (st : List Value) (M : Mm) (Q : Option Value → Mm → Prop), wp F_Mr_isSlot 5 [l0] st M Q = wp F_Mr_isSlot 7 [l0] (.int 8 :: st) M Q) ∧
  (∀ (l0 : Value) (x y : Int32) (st : List Value) (M : Mm) (Q : Option Value → Mm → Prop), wp F_Mr_isSlot 7 [l0] (.int y :: .int x :: st) M Q = if y ≤ x then wp F_Mr_isSlot 14 [l0] st M Q else wp F_Mr_isSlot 10 [l0] st M Q) ∧
  (∀ (l0 : Value) (st : List Value) (M : Mm) (Q : Option Value → Mm → Prop), wp F_Mr_isSlot 10 [l0] st M Q = wp F_Mr_isSlot 11 [l0] (.int 1 :: st) M Q) ∧
  (∀ (l0 : Value) (st : List Value) (M : Mm) (Q : Option Value → Mm → Prop), wp F_Mr_isSlot 11 [l0] st M Q = wp F_Mr_isSlot 15 [l0] st M Q) := ⟨fun _ _ _ _ => wp_in d_Mr_isSlot_0 rfl rfl, fun _ _ _ _ _ => wp_if_lt d_Mr_isSlot_1 rfl, fun _ _ _ _ => wp_in d_Mr_isSlot_4 rfl rfl, fun _ _ _ _ => wp_bipush d_Mr_isSlot_5 (by decide), fun _ _ _ _ _ _ => wp_icmp_ge d_Mr_isSlot_7 rfl, fun _ _ _ _ => wp_iconst d_Mr_isSlot_10 (by decide), fun _ _ _ _ => wp_goto d_Mr_isSlot_11 rfl⟩
theorem B_Mr_isSlot_14 : (∀ (l0 : Value) (st : List Value) (M : Mm) (Q : Option Value → Mm → Prop), wp F_Mr_isSlot 14 [l0] st M Q = wp F_Mr_isSlot 15 [l0] (.int 0 :: st) M Q) := fun _ _ _ _ => wp_iconst d_Mr_isSlot_14 (by decide)
theorem B_Mr_isSlot_15 : (∀ (l0 : Value) (v : Int32) (M : Mm) (Q : Option Value → Mm → Prop), wp F_Mr_isSlot 15 [l0] [.int v] M Q = ((v = 0 ∨ v = 1) ∧ Q (some (.int v)) M)) := fun _ _ _ _ => wp_retZ d_Mr_isSlot_15 rfl
theorem d_Mr_isSide_0 : decode (fnB F_Mr_isSide) 0 = .ok (.iload_n 0, 1) := by decide +kernel
theorem d_Mr_isSide_1 : decode (fnB F_Mr_isSide) 1 = .ok (.ifCond .eq 8, 3) := by decide +kernel
theorem d_Mr_isSide_4 : decode (fnB F_Mr_isSide) 4 = .ok (.iload_n 0, 1) := by decide +kernel
theorem d_Mr_isSide_5 : decode (fnB F_Mr_isSide) 5 = .ok (.iconst 1, 1) := by decide +kernel
theorem d_Mr_isSide_6 : decode (fnB F_Mr_isSide) 6 = .ok (.if_icmp .ne 7, 3) := by decide +kernel
theorem d_Mr_isSide_9 : decode (fnB F_Mr_isSide) 9 = .ok (.iconst 1, 1) := by decide +kernel
theorem d_Mr_isSide_10 : decode (fnB F_Mr_isSide) 10 = .ok (.goto 4, 3) := by decide +kernel
theorem d_Mr_isSide_13 : decode (fnB F_Mr_isSide) 13 = .ok (.iconst 0, 1) := by decide +kernel
theorem d_Mr_isSide_14 : decode (fnB F_Mr_isSide) 14 = .ok (.ireturn, 1) := by decide +kernel
theorem B_Mr_isSide_0 : (∀ (x : Int32) (st : List Value) (M : Mm) (Q : Option Value → Mm → Prop), wp F_Mr_isSide 0 [.int x] st M Q = wp F_Mr_isSide 1 [.int x] (.int x :: st) M Q) ∧
  (∀ (l0 : Value) (x : Int32) (st : List Value) (M : Mm) (Q : Option Value → Mm → Prop), wp F_Mr_isSide 1 [l0] (.int x :: st) M Q = if x = 0 then wp F_Mr_isSide 9 [l0] st M Q else wp F_Mr_isSide 4 [l0] st M Q) ∧
  (∀ (x : Int32) (st : List Value) (M : Mm) (Q : Option Value → Mm → Prop), wp F_Mr_isSide 4 [.int x] st M Q = wp F_Mr_isSide 5 [.int x] (.int x :: st) M Q) ∧
  (∀ (l0 : Value) (st : List Value) (M : Mm) (Q : Option Value → Mm → Prop), wp F_Mr_isSide 5 [l0] st M Q = wp F_Mr_isSide 6 [l0] (.int 1 :: st) M Q) ∧
  (∀ (l0 : Value) (x y : Int32) (st : List Value) (M : Mm) (Q : Option Value → Mm → Prop), wp F_Mr_isSide 6 [l0] (.int y :: .int x :: st) M Q = if x = y then wp F_Mr_isSide 9 [l0] st M Q else wp F_Mr_isSide 13 [l0] st M Q) := ⟨fun _ _ _ _ => wp_in d_Mr_isSide_0 rfl rfl, fun _ _ _ _ _ => wp_if_eq d_Mr_isSide_1 rfl, fun _ _ _ _ => wp_in d_Mr_isSide_4 rfl rfl, fun _ _ _ _ => wp_iconst d_Mr_isSide_5 (by decide), fun _ _ _ _ _ _ => wp_icmp_ne d_Mr_isSide_6 rfl⟩
theorem B_Mr_isSide_9 : (∀ (l0 : Value) (st : List Value) (M : Mm) (Q : Option Value → Mm → Prop), wp F_Mr_isSide 9 [l0] st M Q = wp F_Mr_isSide 10 [l0] (.int 1 :: st) M Q) ∧
  (∀ (l0 : Value) (st : List Value) (M : Mm) (Q : Option Value → Mm → Prop), wp F_Mr_isSide 10 [l0] st M Q = wp F_Mr_isSide 14 [l0] st M Q) := ⟨fun _ _ _ _ => wp_iconst d_Mr_isSide_9 (by decide), fun _ _ _ _ => wp_goto d_Mr_isSide_10 rfl⟩
theorem B_Mr_isSide_13 : (∀ (l0 : Value) (st : List Value) (M : Mm) (Q : Option Value → Mm → Prop), wp F_Mr_isSide 13 [l0] st M Q = wp F_Mr_isSide 14 [l0] (.int 0 :: st) M Q) := fun _ _ _ _ => wp_iconst d_Mr_isSide_13 (by decide)
theorem B_Mr_isSide_14 : (∀ (l0 : Value) (v : Int32) (M : Mm) (Q : Option Value → Mm → Prop), wp F_Mr_isSide 14 [l0] [.int v] M Q = ((v = 0 ∨ v = 1) ∧ Q (some (.int v)) M)) := fun _ _ _ _ => wp_retZ d_Mr_isSide_14 rfl
