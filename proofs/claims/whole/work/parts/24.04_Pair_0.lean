theorem d_Pair_init_0 : decode (fnB F_Pair_init) 0 = .ok (.aload_n 0, 1) := by decide +kernel
theorem d_Pair_init_1 : decode (fnB F_Pair_init) 1 = .ok (.invokespecial 3, 3) := by decide +kernel
theorem d_Pair_init_4 : decode (fnB F_Pair_init) 4 = .ok (.aload_n 0, 1) := by decide +kernel
theorem d_Pair_init_5 : decode (fnB F_Pair_init) 5 = .ok (.new 9, 3) := by decide +kernel
theorem d_Pair_init_8 : decode (fnB F_Pair_init) 8 = .ok (.dup, 1) := by decide +kernel
theorem d_Pair_init_9 : decode (fnB F_Pair_init) 9 = .ok (.bipush 120, 2) := by decide +kernel
theorem d_Pair_init_11 : decode (fnB F_Pair_init) 11 = .ok (.invokespecial 11, 3) := by decide +kernel
theorem d_Pair_init_14 : decode (fnB F_Pair_init) 14 = .ok (.putfield 14, 3) := by decide +kernel
theorem d_Pair_init_17 : decode (fnB F_Pair_init) 17 = .ok (.aload_n 0, 1) := by decide +kernel
theorem d_Pair_init_18 : decode (fnB F_Pair_init) 18 = .ok (.new 9, 3) := by decide +kernel
theorem d_Pair_init_21 : decode (fnB F_Pair_init) 21 = .ok (.dup, 1) := by decide +kernel
theorem d_Pair_init_22 : decode (fnB F_Pair_init) 22 = .ok (.bipush 120, 2) := by decide +kernel
theorem d_Pair_init_24 : decode (fnB F_Pair_init) 24 = .ok (.invokespecial 11, 3) := by decide +kernel
theorem d_Pair_init_27 : decode (fnB F_Pair_init) 27 = .ok (.putfield 20, 3) := by decide +kernel
theorem d_Pair_init_30 : decode (fnB F_Pair_init) 30 = .ok (.return_, 1) := by decide +kernel
theorem B_Pair_init_0 : (∀ (x : Nat) (st : List Value) (M : Mm) (Q : Option Value → Mm → Prop), wp F_Pair_init 0 [.ref x] st M Q = wp F_Pair_init 1 [.ref x] (.ref x :: st) M Q) ∧
  (∀ (l0 : Value) (a : Nat) (M : Mm) (Q : Option Value → Mm → Prop), wp F_Pair_init 1 [l0] [.ref a] M Q = wp F_Pair_init 4 [l0] [] M Q) ∧
  (∀ (x : Nat) (st : List Value) (M : Mm) (Q : Option Value → Mm → Prop), wp F_Pair_init 4 [.ref x] st M Q = wp F_Pair_init 5 [.ref x] (.ref x :: st) M Q) ∧
  (∀ (l0 : Value) (st : List Value) (M : Mm) (Q : Option Value → Mm → Prop), wp F_Pair_init 5 [l0] st M Q = wp F_Pair_init 8 [l0] (.ref (nxt M) :: st) (nw M (.inl 10) 2) Q) ∧
  (∀ (l0 : Value) (x : Nat) (st : List Value) (M : Mm) (Q : Option Value → Mm → Prop), wp F_Pair_init 8 [l0] (.ref x :: st) M Q = wp F_Pair_init 9 [l0] (.ref x :: .ref x :: st) M Q) ∧
  (∀ (l0 : Value) (st : List Value) (M : Mm) (Q : Option Value → Mm → Prop), wp F_Pair_init 9 [l0] st M Q = wp F_Pair_init 11 [l0] (.int 120 :: st) M Q) ∧
  (∀ (l0 : Value) (b : Nat) (p0 : Int32) (r0 r1 : Value) (M : Mm) (Q : Option Value → Mm → Prop), wp F_Pair_init 11 [l0] [.int p0, .ref b, r0, r1] M Q = wp F_Word_init 0 [.ref b, .int p0] [] M (fun r M1 => wp F_Pair_init 14 [l0] (r.toList ++ [r0, r1]) M1 Q)) ∧
  (∀ (l0 : Value) (a x : Nat) (st : List Value) (M : Mm) (Q : Option Value → Mm → Prop), wp F_Pair_init 14 [l0] (.ref x :: .ref a :: st) M Q = (sh M a = some (.inl 4) ∧ wp F_Pair_init 17 [l0] st (sR M a 0 (some x)) Q)) ∧
  (∀ (x : Nat) (st : List Value) (M : Mm) (Q : Option Value → Mm → Prop), wp F_Pair_init 17 [.ref x] st M Q = wp F_Pair_init 18 [.ref x] (.ref x :: st) M Q) ∧
  (∀ (l0 : Value) (st : List Value) (M : Mm) (Q : Option Value → Mm → Prop), wp F_Pair_init 18 [l0] st M Q = wp F_Pair_init 21 [l0] (.ref (nxt M) :: st) (nw M (.inl 10) 2) Q) ∧
  (∀ (l0 : Value) (x : Nat) (st : List Value) (M : Mm) (Q : Option Value → Mm → Prop), wp F_Pair_init 21 [l0] (.ref x :: st) M Q = wp F_Pair_init 22 [l0] (.ref x :: .ref x :: st) M Q) ∧
  (∀ (l0 : Value) (st : List Value) (M : Mm) (Q : Option Value → Mm → Prop), wp F_Pair_init 22 [l0] st M Q = wp F_Pair_init 24 [l0] (.int 120 :: st) M Q) ∧
  (∀ (l0 : Value) (b : Nat) (p0 : Int32) (r0 r1 : Value) (M : Mm) (Q : Option Value → Mm → Prop), wp F_Pair_init 24 [l0] [.int p0, .ref b, r0, r1] M Q = wp F_Word_init 0 [.ref b, .int p0] [] M (fun r M1 => wp F_Pair_init 27 [l0] (r.toList ++ [r0, r1]) M1 Q)) ∧
  (∀ (l0 : Value) (a x : Nat) (st : List Value) (M : Mm) (Q : Option Value → Mm → Prop), wp F_Pair_init 27 [l0] (.ref x :: .ref a :: st) M Q = (sh M a = some (.inl 4) ∧ wp F_Pair_init 30 [l0] st (sR M a 1 (some x)) Q)) ∧
  (∀ (l0 : Value) (M : Mm) (Q : Option Value → Mm → Prop), wp F_Pair_init 30 [l0] [] M Q = Q none M) := ⟨fun _ _ _ _ => wp_in d_Pair_init_0 rfl rfl, fun _ _ _ _ => wp_obj d_Pair_init_1 ml_4_3 (Nat.le_of_ble_eq_true rfl), fun _ _ _ _ => wp_in d_Pair_init_4 rfl rfl, fun _ _ _ _ => wp_new d_Pair_init_5 nl_4_9, fun _ _ _ _ _ => wp_in d_Pair_init_8 rfl rfl, fun _ _ _ _ => wp_bipush d_Pair_init_9 (by decide), fun _ _ _ _ _ _ _ => wp_callI d_Pair_init_11 (Or.inl ml_4_11) rfl rfl rfl, fun _ _ _ _ _ _ => wp_putRO d_Pair_init_14 fl_4_14 rfl rfl, fun _ _ _ _ => wp_in d_Pair_init_17 rfl rfl, fun _ _ _ _ => wp_new d_Pair_init_18 nl_4_9, fun _ _ _ _ _ => wp_in d_Pair_init_21 rfl rfl, fun _ _ _ _ => wp_bipush d_Pair_init_22 (by decide), fun _ _ _ _ _ _ _ => wp_callI d_Pair_init_24 (Or.inl ml_4_11) rfl rfl rfl, fun _ _ _ _ _ _ => wp_putRO d_Pair_init_27 fl_4_20 rfl rfl, fun _ _ _ => wp_retV d_Pair_init_30 rfl⟩
