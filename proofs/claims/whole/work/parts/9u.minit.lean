/-! the reference is made -/
theorem R_Md_init_0 : (∀ (l1 : Value) (x : Nat) (st : List Value) (M : Mm) (Q : Option Value → Mm → Prop), wp F_Md_init 0 [.ref x, l1] st M Q = wp F_Md_init 1 [.ref x, l1] (.ref x :: st) M Q) := B_Md_init_0.1
theorem R_Md_init_1 : (∀ (l0 l1 : Value) (a : Nat) (M : Mm) (Q : Option Value → Mm → Prop), wp F_Md_init 1 [l0, l1] [.ref a] M Q = wp F_Md_init 4 [l0, l1] [] M Q) := B_Md_init_0.2.1
theorem R_Md_init_4 : (∀ (l1 : Value) (x : Nat) (st : List Value) (M : Mm) (Q : Option Value → Mm → Prop), wp F_Md_init 4 [.ref x, l1] st M Q = wp F_Md_init 5 [.ref x, l1] (.ref x :: st) M Q) := B_Md_init_0.2.2.1
theorem R_Md_init_5 : (∀ (l0 l1 : Value) (st : List Value) (M : Mm) (Q : Option Value → Mm → Prop), wp F_Md_init 5 [l0, l1] st M Q = wp F_Md_init 8 [l0, l1] (.int 600 :: st) M Q) := B_Md_init_0.2.2.2.1
theorem R_Md_init_8 : (∀ (l0 l1 : Value) (n : Int32) (st : List Value) (M : Mm) (Q : Option Value → Mm → Prop), wp F_Md_init 8 [l0, l1] (.int n :: st) M Q = ((¬ n < 0 ∧ cl n ≤ 16777216) ∧ wp F_Md_init 10 [l0, l1] (.ref (nxt M) :: st) (nw M (.inr (0, cl n)) (cl n)) Q)) := B_Md_init_0.2.2.2.2.1
theorem R_Md_init_10 : (∀ (l0 l1 : Value) (a x : Nat) (st : List Value) (M : Mm) (Q : Option Value → Mm → Prop), wp F_Md_init 10 [l0, l1] (.ref x :: .ref a :: st) M Q = (sh M a = some (.inl 12) ∧ wp F_Md_init 13 [l0, l1] st (sR M a 1 (some x)) Q)) := B_Md_init_0.2.2.2.2.2.1
theorem R_Md_init_13 : (∀ (l1 : Value) (x : Nat) (st : List Value) (M : Mm) (Q : Option Value → Mm → Prop), wp F_Md_init 13 [.ref x, l1] st M Q = wp F_Md_init 14 [.ref x, l1] (.ref x :: st) M Q) := B_Md_init_0.2.2.2.2.2.2.1
theorem R_Md_init_14 : (∀ (l0 l1 : Value) (st : List Value) (M : Mm) (Q : Option Value → Mm → Prop), wp F_Md_init 14 [l0, l1] st M Q = wp F_Md_init 16 [l0, l1] (.int 26 :: st) M Q) := B_Md_init_0.2.2.2.2.2.2.2.1
theorem R_Md_init_16 : (∀ (l0 l1 : Value) (n : Int32) (st : List Value) (M : Mm) (Q : Option Value → Mm → Prop), wp F_Md_init 16 [l0, l1] (.int n :: st) M Q = ((¬ n < 0 ∧ cl n ≤ 16777216) ∧ wp F_Md_init 18 [l0, l1] (.ref (nxt M) :: st) (nw M (.inr (0, cl n)) (cl n)) Q)) := B_Md_init_0.2.2.2.2.2.2.2.2.1
theorem R_Md_init_18 : (∀ (l0 l1 : Value) (a x : Nat) (st : List Value) (M : Mm) (Q : Option Value → Mm → Prop), wp F_Md_init 18 [l0, l1] (.ref x :: .ref a :: st) M Q = (sh M a = some (.inl 12) ∧ wp F_Md_init 21 [l0, l1] st (sR M a 8 (some x)) Q)) := B_Md_init_0.2.2.2.2.2.2.2.2.2.1
theorem R_Md_init_21 : (∀ (l1 : Value) (x : Nat) (st : List Value) (M : Mm) (Q : Option Value → Mm → Prop), wp F_Md_init 21 [.ref x, l1] st M Q = wp F_Md_init 22 [.ref x, l1] (.ref x :: st) M Q) := B_Md_init_0.2.2.2.2.2.2.2.2.2.2.1
theorem R_Md_init_22 : (∀ (l0 l1 : Value) (st : List Value) (M : Mm) (Q : Option Value → Mm → Prop), wp F_Md_init 22 [l0, l1] st M Q = wp F_Md_init 24 [l0, l1] (.int 26 :: st) M Q) := B_Md_init_0.2.2.2.2.2.2.2.2.2.2.2.1
theorem R_Md_init_24 : (∀ (l0 l1 : Value) (n : Int32) (st : List Value) (M : Mm) (Q : Option Value → Mm → Prop), wp F_Md_init 24 [l0, l1] (.int n :: st) M Q = ((¬ n < 0 ∧ cl n ≤ 16777216) ∧ wp F_Md_init 26 [l0, l1] (.ref (nxt M) :: st) (nw M (.inr (0, cl n)) (cl n)) Q)) := B_Md_init_0.2.2.2.2.2.2.2.2.2.2.2.2.1
theorem R_Md_init_26 : (∀ (l0 l1 : Value) (a x : Nat) (st : List Value) (M : Mm) (Q : Option Value → Mm → Prop), wp F_Md_init 26 [l0, l1] (.ref x :: .ref a :: st) M Q = (sh M a = some (.inl 12) ∧ wp F_Md_init 29 [l0, l1] st (sR M a 9 (some x)) Q)) := B_Md_init_0.2.2.2.2.2.2.2.2.2.2.2.2.2.1
theorem R_Md_init_29 : (∀ (l1 : Value) (x : Nat) (st : List Value) (M : Mm) (Q : Option Value → Mm → Prop), wp F_Md_init 29 [.ref x, l1] st M Q = wp F_Md_init 30 [.ref x, l1] (.ref x :: st) M Q) := B_Md_init_0.2.2.2.2.2.2.2.2.2.2.2.2.2.2.1
theorem R_Md_init_30 : (∀ (l0 l1 : Value) (st : List Value) (M : Mm) (Q : Option Value → Mm → Prop), wp F_Md_init 30 [l0, l1] st M Q = wp F_Md_init 33 [l0, l1] (.int 1920 :: st) M Q) := B_Md_init_0.2.2.2.2.2.2.2.2.2.2.2.2.2.2.2.1
theorem R_Md_init_33 : (∀ (l0 l1 : Value) (n : Int32) (st : List Value) (M : Mm) (Q : Option Value → Mm → Prop), wp F_Md_init 33 [l0, l1] (.int n :: st) M Q = ((¬ n < 0 ∧ cl n ≤ 16777216) ∧ wp F_Md_init 35 [l0, l1] (.ref (nxt M) :: st) (nw M (.inr (0, cl n)) (cl n)) Q)) := B_Md_init_0.2.2.2.2.2.2.2.2.2.2.2.2.2.2.2.2.1
theorem R_Md_init_35 : (∀ (l0 l1 : Value) (a x : Nat) (st : List Value) (M : Mm) (Q : Option Value → Mm → Prop), wp F_Md_init 35 [l0, l1] (.ref x :: .ref a :: st) M Q = (sh M a = some (.inl 12) ∧ wp F_Md_init 38 [l0, l1] st (sR M a 12 (some x)) Q)) := B_Md_init_0.2.2.2.2.2.2.2.2.2.2.2.2.2.2.2.2.2.1
theorem R_Md_init_38 : (∀ (l1 : Value) (x : Nat) (st : List Value) (M : Mm) (Q : Option Value → Mm → Prop), wp F_Md_init 38 [.ref x, l1] st M Q = wp F_Md_init 39 [.ref x, l1] (.ref x :: st) M Q) := B_Md_init_0.2.2.2.2.2.2.2.2.2.2.2.2.2.2.2.2.2.2.1
theorem R_Md_init_39 : (∀ (l0 l1 : Value) (st : List Value) (M : Mm) (Q : Option Value → Mm → Prop), wp F_Md_init 39 [l0, l1] st M Q = wp F_Md_init 41 [l0, l1] (.int 80 :: st) M Q) := B_Md_init_0.2.2.2.2.2.2.2.2.2.2.2.2.2.2.2.2.2.2.2.1
theorem R_Md_init_41 : (∀ (l0 l1 : Value) (n : Int32) (st : List Value) (M : Mm) (Q : Option Value → Mm → Prop), wp F_Md_init 41 [l0, l1] (.int n :: st) M Q = ((¬ n < 0 ∧ cl n ≤ 16777216) ∧ wp F_Md_init 43 [l0, l1] (.ref (nxt M) :: st) (nw M (.inr (0, cl n)) (cl n)) Q)) := B_Md_init_0.2.2.2.2.2.2.2.2.2.2.2.2.2.2.2.2.2.2.2.2.1
theorem R_Md_init_43 : (∀ (l0 l1 : Value) (a x : Nat) (st : List Value) (M : Mm) (Q : Option Value → Mm → Prop), wp F_Md_init 43 [l0, l1] (.ref x :: .ref a :: st) M Q = (sh M a = some (.inl 12) ∧ wp F_Md_init 46 [l0, l1] st (sR M a 13 (some x)) Q)) := B_Md_init_0.2.2.2.2.2.2.2.2.2.2.2.2.2.2.2.2.2.2.2.2.2.1
theorem R_Md_init_46 : (∀ (l1 : Value) (x : Nat) (st : List Value) (M : Mm) (Q : Option Value → Mm → Prop), wp F_Md_init 46 [.ref x, l1] st M Q = wp F_Md_init 47 [.ref x, l1] (.ref x :: st) M Q) := B_Md_init_0.2.2.2.2.2.2.2.2.2.2.2.2.2.2.2.2.2.2.2.2.2.2.1
theorem R_Md_init_47 : (∀ (l0 l1 : Value) (st : List Value) (M : Mm) (Q : Option Value → Mm → Prop), wp F_Md_init 47 [l0, l1] st M Q = wp F_Md_init 49 [l0, l1] (.int 80 :: st) M Q) := B_Md_init_0.2.2.2.2.2.2.2.2.2.2.2.2.2.2.2.2.2.2.2.2.2.2.2.1
theorem R_Md_init_49 : (∀ (l0 l1 : Value) (n : Int32) (st : List Value) (M : Mm) (Q : Option Value → Mm → Prop), wp F_Md_init 49 [l0, l1] (.int n :: st) M Q = ((¬ n < 0 ∧ cl n ≤ 16777216) ∧ wp F_Md_init 51 [l0, l1] (.ref (nxt M) :: st) (nw M (.inr (0, cl n)) (cl n)) Q)) := B_Md_init_0.2.2.2.2.2.2.2.2.2.2.2.2.2.2.2.2.2.2.2.2.2.2.2.2.1
theorem R_Md_init_51 : (∀ (l0 l1 : Value) (a x : Nat) (st : List Value) (M : Mm) (Q : Option Value → Mm → Prop), wp F_Md_init 51 [l0, l1] (.ref x :: .ref a :: st) M Q = (sh M a = some (.inl 12) ∧ wp F_Md_init 54 [l0, l1] st (sR M a 15 (some x)) Q)) := B_Md_init_0.2.2.2.2.2.2.2.2.2.2.2.2.2.2.2.2.2.2.2.2.2.2.2.2.2.1
theorem R_Md_init_54 : (∀ (l1 : Value) (x : Nat) (st : List Value) (M : Mm) (Q : Option Value → Mm → Prop), wp F_Md_init 54 [.ref x, l1] st M Q = wp F_Md_init 55 [.ref x, l1] (.ref x :: st) M Q) := B_Md_init_0.2.2.2.2.2.2.2.2.2.2.2.2.2.2.2.2.2.2.2.2.2.2.2.2.2.2.1
theorem R_Md_init_55 : (∀ (l0 l1 : Value) (st : List Value) (M : Mm) (Q : Option Value → Mm → Prop), wp F_Md_init 55 [l0, l1] st M Q = wp F_Md_init 58 [l0, l1] (.int 12000 :: st) M Q) := B_Md_init_0.2.2.2.2.2.2.2.2.2.2.2.2.2.2.2.2.2.2.2.2.2.2.2.2.2.2.2.1
theorem R_Md_init_58 : (∀ (l0 l1 : Value) (n : Int32) (st : List Value) (M : Mm) (Q : Option Value → Mm → Prop), wp F_Md_init 58 [l0, l1] (.int n :: st) M Q = ((¬ n < 0 ∧ cl n ≤ 16777216) ∧ wp F_Md_init 60 [l0, l1] (.ref (nxt M) :: st) (nw M (.inr (0, cl n)) (cl n)) Q)) := B_Md_init_0.2.2.2.2.2.2.2.2.2.2.2.2.2.2.2.2.2.2.2.2.2.2.2.2.2.2.2.2.1
theorem R_Md_init_60 : (∀ (l0 l1 : Value) (a x : Nat) (st : List Value) (M : Mm) (Q : Option Value → Mm → Prop), wp F_Md_init 60 [l0, l1] (.ref x :: .ref a :: st) M Q = (sh M a = some (.inl 12) ∧ wp F_Md_init 63 [l0, l1] st (sR M a 16 (some x)) Q)) := B_Md_init_0.2.2.2.2.2.2.2.2.2.2.2.2.2.2.2.2.2.2.2.2.2.2.2.2.2.2.2.2.2.1
theorem R_Md_init_63 : (∀ (l1 : Value) (x : Nat) (st : List Value) (M : Mm) (Q : Option Value → Mm → Prop), wp F_Md_init 63 [.ref x, l1] st M Q = wp F_Md_init 64 [.ref x, l1] (.ref x :: st) M Q) := B_Md_init_0.2.2.2.2.2.2.2.2.2.2.2.2.2.2.2.2.2.2.2.2.2.2.2.2.2.2.2.2.2.2.1
theorem R_Md_init_64 : (∀ (l0 l1 : Value) (st : List Value) (M : Mm) (Q : Option Value → Mm → Prop), wp F_Md_init 64 [l0, l1] st M Q = wp F_Md_init 67 [l0, l1] (.int 200 :: st) M Q) := B_Md_init_0.2.2.2.2.2.2.2.2.2.2.2.2.2.2.2.2.2.2.2.2.2.2.2.2.2.2.2.2.2.2.2.1
theorem R_Md_init_67 : (∀ (l0 l1 : Value) (n : Int32) (st : List Value) (M : Mm) (Q : Option Value → Mm → Prop), wp F_Md_init 67 [l0, l1] (.int n :: st) M Q = ((¬ n < 0 ∧ cl n ≤ 16777216) ∧ wp F_Md_init 69 [l0, l1] (.ref (nxt M) :: st) (nw M (.inr (0, cl n)) (cl n)) Q)) := B_Md_init_0.2.2.2.2.2.2.2.2.2.2.2.2.2.2.2.2.2.2.2.2.2.2.2.2.2.2.2.2.2.2.2.2.1
theorem R_Md_init_69 : (∀ (l0 l1 : Value) (a x : Nat) (st : List Value) (M : Mm) (Q : Option Value → Mm → Prop), wp F_Md_init 69 [l0, l1] (.ref x :: .ref a :: st) M Q = (sh M a = some (.inl 12) ∧ wp F_Md_init 72 [l0, l1] st (sR M a 17 (some x)) Q)) := B_Md_init_0.2.2.2.2.2.2.2.2.2.2.2.2.2.2.2.2.2.2.2.2.2.2.2.2.2.2.2.2.2.2.2.2.2.1
theorem R_Md_init_72 : (∀ (l1 : Value) (x : Nat) (st : List Value) (M : Mm) (Q : Option Value → Mm → Prop), wp F_Md_init 72 [.ref x, l1] st M Q = wp F_Md_init 73 [.ref x, l1] (.ref x :: st) M Q) := B_Md_init_0.2.2.2.2.2.2.2.2.2.2.2.2.2.2.2.2.2.2.2.2.2.2.2.2.2.2.2.2.2.2.2.2.2.2.1
theorem R_Md_init_73 : (∀ (l0 l1 : Value) (st : List Value) (M : Mm) (Q : Option Value → Mm → Prop), wp F_Md_init 73 [l0, l1] st M Q = wp F_Md_init 76 [l0, l1] (.int 12000 :: st) M Q) := B_Md_init_0.2.2.2.2.2.2.2.2.2.2.2.2.2.2.2.2.2.2.2.2.2.2.2.2.2.2.2.2.2.2.2.2.2.2.2.1
theorem R_Md_init_76 : (∀ (l0 l1 : Value) (n : Int32) (st : List Value) (M : Mm) (Q : Option Value → Mm → Prop), wp F_Md_init 76 [l0, l1] (.int n :: st) M Q = ((¬ n < 0 ∧ cl n ≤ 16777216) ∧ wp F_Md_init 78 [l0, l1] (.ref (nxt M) :: st) (nw M (.inr (0, cl n)) (cl n)) Q)) := B_Md_init_0.2.2.2.2.2.2.2.2.2.2.2.2.2.2.2.2.2.2.2.2.2.2.2.2.2.2.2.2.2.2.2.2.2.2.2.2.1
theorem R_Md_init_78 : (∀ (l0 l1 : Value) (a x : Nat) (st : List Value) (M : Mm) (Q : Option Value → Mm → Prop), wp F_Md_init 78 [l0, l1] (.ref x :: .ref a :: st) M Q = (sh M a = some (.inl 12) ∧ wp F_Md_init 81 [l0, l1] st (sR M a 18 (some x)) Q)) := B_Md_init_0.2.2.2.2.2.2.2.2.2.2.2.2.2.2.2.2.2.2.2.2.2.2.2.2.2.2.2.2.2.2.2.2.2.2.2.2.2.1
theorem R_Md_init_81 : (∀ (l1 : Value) (x : Nat) (st : List Value) (M : Mm) (Q : Option Value → Mm → Prop), wp F_Md_init 81 [.ref x, l1] st M Q = wp F_Md_init 82 [.ref x, l1] (.ref x :: st) M Q) := B_Md_init_0.2.2.2.2.2.2.2.2.2.2.2.2.2.2.2.2.2.2.2.2.2.2.2.2.2.2.2.2.2.2.2.2.2.2.2.2.2.2.1
theorem R_Md_init_82 : (∀ (l0 l1 : Value) (st : List Value) (M : Mm) (Q : Option Value → Mm → Prop), wp F_Md_init 82 [l0, l1] st M Q = wp F_Md_init 85 [l0, l1] (.int 200 :: st) M Q) := B_Md_init_0.2.2.2.2.2.2.2.2.2.2.2.2.2.2.2.2.2.2.2.2.2.2.2.2.2.2.2.2.2.2.2.2.2.2.2.2.2.2.2
theorem R_Md_init_85 : (∀ (l0 l1 : Value) (n : Int32) (st : List Value) (M : Mm) (Q : Option Value → Mm → Prop), wp F_Md_init 85 [l0, l1] (.int n :: st) M Q = ((¬ n < 0 ∧ cl n ≤ 16777216) ∧ wp F_Md_init 87 [l0, l1] (.ref (nxt M) :: st) (nw M (.inr (0, cl n)) (cl n)) Q)) := B_Md_init_0_1.1
theorem R_Md_init_87 : (∀ (l0 l1 : Value) (a x : Nat) (st : List Value) (M : Mm) (Q : Option Value → Mm → Prop), wp F_Md_init 87 [l0, l1] (.ref x :: .ref a :: st) M Q = (sh M a = some (.inl 12) ∧ wp F_Md_init 90 [l0, l1] st (sR M a 19 (some x)) Q)) := B_Md_init_0_1.2.1
theorem R_Md_init_90 : (∀ (l1 : Value) (x : Nat) (st : List Value) (M : Mm) (Q : Option Value → Mm → Prop), wp F_Md_init 90 [.ref x, l1] st M Q = wp F_Md_init 91 [.ref x, l1] (.ref x :: st) M Q) := B_Md_init_0_1.2.2.1
theorem R_Md_init_91 : (∀ (l0 l1 : Value) (st : List Value) (M : Mm) (Q : Option Value → Mm → Prop), wp F_Md_init 91 [l0, l1] st M Q = wp F_Md_init 94 [l0, l1] (.int 200 :: st) M Q) := B_Md_init_0_1.2.2.2.1
theorem R_Md_init_94 : (∀ (l0 l1 : Value) (n : Int32) (st : List Value) (M : Mm) (Q : Option Value → Mm → Prop), wp F_Md_init 94 [l0, l1] (.int n :: st) M Q = ((¬ n < 0 ∧ cl n ≤ 16777216) ∧ wp F_Md_init 96 [l0, l1] (.ref (nxt M) :: st) (nw M (.inr (3, cl n)) (cl n)) Q)) := B_Md_init_0_1.2.2.2.2.1
theorem R_Md_init_96 : (∀ (l0 l1 : Value) (a x : Nat) (st : List Value) (M : Mm) (Q : Option Value → Mm → Prop), wp F_Md_init 96 [l0, l1] (.ref x :: .ref a :: st) M Q = (sh M a = some (.inl 12) ∧ wp F_Md_init 99 [l0, l1] st (sR M a 20 (some x)) Q)) := B_Md_init_0_1.2.2.2.2.2.1
theorem R_Md_init_99 : (∀ (l1 : Value) (x : Nat) (st : List Value) (M : Mm) (Q : Option Value → Mm → Prop), wp F_Md_init 99 [.ref x, l1] st M Q = wp F_Md_init 100 [.ref x, l1] (.ref x :: st) M Q) := B_Md_init_0_1.2.2.2.2.2.2.1
theorem R_Md_init_100 : (∀ (l0 l1 : Value) (st : List Value) (M : Mm) (Q : Option Value → Mm → Prop), wp F_Md_init 100 [l0, l1] st M Q = wp F_Md_init 102 [l0, l1] (.int 240000 :: st) M Q) := B_Md_init_0_1.2.2.2.2.2.2.2.1
theorem R_Md_init_102 : (∀ (l0 l1 : Value) (n : Int32) (st : List Value) (M : Mm) (Q : Option Value → Mm → Prop), wp F_Md_init 102 [l0, l1] (.int n :: st) M Q = ((¬ n < 0 ∧ cl n ≤ 16777216) ∧ wp F_Md_init 104 [l0, l1] (.ref (nxt M) :: st) (nw M (.inr (0, cl n)) (cl n)) Q)) := B_Md_init_0_1.2.2.2.2.2.2.2.2.1
theorem R_Md_init_104 : (∀ (l0 l1 : Value) (a x : Nat) (st : List Value) (M : Mm) (Q : Option Value → Mm → Prop), wp F_Md_init 104 [l0, l1] (.ref x :: .ref a :: st) M Q = (sh M a = some (.inl 12) ∧ wp F_Md_init 107 [l0, l1] st (sR M a 22 (some x)) Q)) := B_Md_init_0_1.2.2.2.2.2.2.2.2.2.1
theorem R_Md_init_107 : (∀ (l1 : Value) (x : Nat) (st : List Value) (M : Mm) (Q : Option Value → Mm → Prop), wp F_Md_init 107 [.ref x, l1] st M Q = wp F_Md_init 108 [.ref x, l1] (.ref x :: st) M Q) := B_Md_init_0_1.2.2.2.2.2.2.2.2.2.2.1
theorem R_Md_init_108 : (∀ (l0 l1 : Value) (st : List Value) (M : Mm) (Q : Option Value → Mm → Prop), wp F_Md_init 108 [l0, l1] st M Q = wp F_Md_init 111 [l0, l1] (.int 2000 :: st) M Q) := B_Md_init_0_1.2.2.2.2.2.2.2.2.2.2.2.1
theorem R_Md_init_111 : (∀ (l0 l1 : Value) (n : Int32) (st : List Value) (M : Mm) (Q : Option Value → Mm → Prop), wp F_Md_init 111 [l0, l1] (.int n :: st) M Q = ((¬ n < 0 ∧ cl n ≤ 16777216) ∧ wp F_Md_init 113 [l0, l1] (.ref (nxt M) :: st) (nw M (.inr (0, cl n)) (cl n)) Q)) := B_Md_init_0_1.2.2.2.2.2.2.2.2.2.2.2.2.1
theorem R_Md_init_113 : (∀ (l0 l1 : Value) (a x : Nat) (st : List Value) (M : Mm) (Q : Option Value → Mm → Prop), wp F_Md_init 113 [l0, l1] (.ref x :: .ref a :: st) M Q = (sh M a = some (.inl 12) ∧ wp F_Md_init 116 [l0, l1] st (sR M a 23 (some x)) Q)) := B_Md_init_0_1.2.2.2.2.2.2.2.2.2.2.2.2.2.1
theorem R_Md_init_116 : (∀ (l1 : Value) (x : Nat) (st : List Value) (M : Mm) (Q : Option Value → Mm → Prop), wp F_Md_init 116 [.ref x, l1] st M Q = wp F_Md_init 117 [.ref x, l1] (.ref x :: st) M Q) := B_Md_init_0_1.2.2.2.2.2.2.2.2.2.2.2.2.2.2.1
theorem R_Md_init_117 : (∀ (l0 l1 : Value) (st : List Value) (M : Mm) (Q : Option Value → Mm → Prop), wp F_Md_init 117 [l0, l1] st M Q = wp F_Md_init 120 [l0, l1] (.int 130 :: st) M Q) := B_Md_init_0_1.2.2.2.2.2.2.2.2.2.2.2.2.2.2.2.1
theorem R_Md_init_120 : (∀ (l0 l1 : Value) (n : Int32) (st : List Value) (M : Mm) (Q : Option Value → Mm → Prop), wp F_Md_init 120 [l0, l1] (.int n :: st) M Q = ((¬ n < 0 ∧ cl n ≤ 16777216) ∧ wp F_Md_init 122 [l0, l1] (.ref (nxt M) :: st) (nw M (.inr (0, cl n)) (cl n)) Q)) := B_Md_init_0_1.2.2.2.2.2.2.2.2.2.2.2.2.2.2.2.2.1
theorem R_Md_init_122 : (∀ (l0 l1 : Value) (a x : Nat) (st : List Value) (M : Mm) (Q : Option Value → Mm → Prop), wp F_Md_init 122 [l0, l1] (.ref x :: .ref a :: st) M Q = (sh M a = some (.inl 12) ∧ wp F_Md_init 125 [l0, l1] st (sR M a 29 (some x)) Q)) := B_Md_init_0_1.2.2.2.2.2.2.2.2.2.2.2.2.2.2.2.2.2.1
theorem R_Md_init_125 : (∀ (l1 : Value) (x : Nat) (st : List Value) (M : Mm) (Q : Option Value → Mm → Prop), wp F_Md_init 125 [.ref x, l1] st M Q = wp F_Md_init 126 [.ref x, l1] (.ref x :: st) M Q) := B_Md_init_0_1.2.2.2.2.2.2.2.2.2.2.2.2.2.2.2.2.2.2.1
theorem R_Md_init_126 : (∀ (l0 l1 : Value) (st : List Value) (M : Mm) (Q : Option Value → Mm → Prop), wp F_Md_init 126 [l0, l1] st M Q = wp F_Md_init 129 [l0, l1] (.int 130 :: st) M Q) := B_Md_init_0_1.2.2.2.2.2.2.2.2.2.2.2.2.2.2.2.2.2.2.2.1
theorem R_Md_init_129 : (∀ (l0 l1 : Value) (n : Int32) (st : List Value) (M : Mm) (Q : Option Value → Mm → Prop), wp F_Md_init 129 [l0, l1] (.int n :: st) M Q = ((¬ n < 0 ∧ cl n ≤ 16777216) ∧ wp F_Md_init 131 [l0, l1] (.ref (nxt M) :: st) (nw M (.inr (0, cl n)) (cl n)) Q)) := B_Md_init_0_1.2.2.2.2.2.2.2.2.2.2.2.2.2.2.2.2.2.2.2.2.1
theorem R_Md_init_131 : (∀ (l0 l1 : Value) (a x : Nat) (st : List Value) (M : Mm) (Q : Option Value → Mm → Prop), wp F_Md_init 131 [l0, l1] (.ref x :: .ref a :: st) M Q = (sh M a = some (.inl 12) ∧ wp F_Md_init 134 [l0, l1] st (sR M a 30 (some x)) Q)) := B_Md_init_0_1.2.2.2.2.2.2.2.2.2.2.2.2.2.2.2.2.2.2.2.2.2.1
theorem R_Md_init_134 : (∀ (l1 : Value) (x : Nat) (st : List Value) (M : Mm) (Q : Option Value → Mm → Prop), wp F_Md_init 134 [.ref x, l1] st M Q = wp F_Md_init 135 [.ref x, l1] (.ref x :: st) M Q) := B_Md_init_0_1.2.2.2.2.2.2.2.2.2.2.2.2.2.2.2.2.2.2.2.2.2.2.1
theorem R_Md_init_135 : (∀ (l0 l1 : Value) (st : List Value) (M : Mm) (Q : Option Value → Mm → Prop), wp F_Md_init 135 [l0, l1] st M Q = wp F_Md_init 138 [l0, l1] (.int 300 :: st) M Q) := B_Md_init_0_1.2.2.2.2.2.2.2.2.2.2.2.2.2.2.2.2.2.2.2.2.2.2.2.1
theorem R_Md_init_138 : (∀ (l0 l1 : Value) (n : Int32) (st : List Value) (M : Mm) (Q : Option Value → Mm → Prop), wp F_Md_init 138 [l0, l1] (.int n :: st) M Q = ((¬ n < 0 ∧ cl n ≤ 16777216) ∧ wp F_Md_init 140 [l0, l1] (.ref (nxt M) :: st) (nw M (.inr (0, cl n)) (cl n)) Q)) := B_Md_init_0_1.2.2.2.2.2.2.2.2.2.2.2.2.2.2.2.2.2.2.2.2.2.2.2.2.1
theorem R_Md_init_140 : (∀ (l0 l1 : Value) (a x : Nat) (st : List Value) (M : Mm) (Q : Option Value → Mm → Prop), wp F_Md_init 140 [l0, l1] (.ref x :: .ref a :: st) M Q = (sh M a = some (.inl 12) ∧ wp F_Md_init 143 [l0, l1] st (sR M a 32 (some x)) Q)) := B_Md_init_0_1.2.2.2.2.2.2.2.2.2.2.2.2.2.2.2.2.2.2.2.2.2.2.2.2.2.1
theorem R_Md_init_143 : (∀ (l1 : Value) (x : Nat) (st : List Value) (M : Mm) (Q : Option Value → Mm → Prop), wp F_Md_init 143 [.ref x, l1] st M Q = wp F_Md_init 144 [.ref x, l1] (.ref x :: st) M Q) := B_Md_init_0_1.2.2.2.2.2.2.2.2.2.2.2.2.2.2.2.2.2.2.2.2.2.2.2.2.2.2.1
theorem R_Md_init_144 : (∀ (l0 l1 : Value) (st : List Value) (M : Mm) (Q : Option Value → Mm → Prop), wp F_Md_init 144 [l0, l1] st M Q = wp F_Md_init 147 [l0, l1] (.int 300 :: st) M Q) := B_Md_init_0_1.2.2.2.2.2.2.2.2.2.2.2.2.2.2.2.2.2.2.2.2.2.2.2.2.2.2.2.1
theorem R_Md_init_147 : (∀ (l0 l1 : Value) (n : Int32) (st : List Value) (M : Mm) (Q : Option Value → Mm → Prop), wp F_Md_init 147 [l0, l1] (.int n :: st) M Q = ((¬ n < 0 ∧ cl n ≤ 16777216) ∧ wp F_Md_init 149 [l0, l1] (.ref (nxt M) :: st) (nw M (.inr (0, cl n)) (cl n)) Q)) := B_Md_init_0_1.2.2.2.2.2.2.2.2.2.2.2.2.2.2.2.2.2.2.2.2.2.2.2.2.2.2.2.2.1
theorem R_Md_init_149 : (∀ (l0 l1 : Value) (a x : Nat) (st : List Value) (M : Mm) (Q : Option Value → Mm → Prop), wp F_Md_init 149 [l0, l1] (.ref x :: .ref a :: st) M Q = (sh M a = some (.inl 12) ∧ wp F_Md_init 152 [l0, l1] st (sR M a 33 (some x)) Q)) := B_Md_init_0_1.2.2.2.2.2.2.2.2.2.2.2.2.2.2.2.2.2.2.2.2.2.2.2.2.2.2.2.2.2.1
theorem R_Md_init_152 : (∀ (l1 : Value) (x : Nat) (st : List Value) (M : Mm) (Q : Option Value → Mm → Prop), wp F_Md_init 152 [.ref x, l1] st M Q = wp F_Md_init 153 [.ref x, l1] (.ref x :: st) M Q) := B_Md_init_0_1.2.2.2.2.2.2.2.2.2.2.2.2.2.2.2.2.2.2.2.2.2.2.2.2.2.2.2.2.2.2.1
theorem R_Md_init_153 : (∀ (l0 l1 : Value) (st : List Value) (M : Mm) (Q : Option Value → Mm → Prop), wp F_Md_init 153 [l0, l1] st M Q = wp F_Md_init 156 [l0, l1] (.int 300 :: st) M Q) := B_Md_init_0_1.2.2.2.2.2.2.2.2.2.2.2.2.2.2.2.2.2.2.2.2.2.2.2.2.2.2.2.2.2.2.2.1
theorem R_Md_init_156 : (∀ (l0 l1 : Value) (n : Int32) (st : List Value) (M : Mm) (Q : Option Value → Mm → Prop), wp F_Md_init 156 [l0, l1] (.int n :: st) M Q = ((¬ n < 0 ∧ cl n ≤ 16777216) ∧ wp F_Md_init 158 [l0, l1] (.ref (nxt M) :: st) (nw M (.inr (0, cl n)) (cl n)) Q)) := B_Md_init_0_1.2.2.2.2.2.2.2.2.2.2.2.2.2.2.2.2.2.2.2.2.2.2.2.2.2.2.2.2.2.2.2.2.1
theorem R_Md_init_158 : (∀ (l0 l1 : Value) (a x : Nat) (st : List Value) (M : Mm) (Q : Option Value → Mm → Prop), wp F_Md_init 158 [l0, l1] (.ref x :: .ref a :: st) M Q = (sh M a = some (.inl 12) ∧ wp F_Md_init 161 [l0, l1] st (sR M a 34 (some x)) Q)) := B_Md_init_0_1.2.2.2.2.2.2.2.2.2.2.2.2.2.2.2.2.2.2.2.2.2.2.2.2.2.2.2.2.2.2.2.2.2.1
theorem R_Md_init_161 : (∀ (l1 : Value) (x : Nat) (st : List Value) (M : Mm) (Q : Option Value → Mm → Prop), wp F_Md_init 161 [.ref x, l1] st M Q = wp F_Md_init 162 [.ref x, l1] (.ref x :: st) M Q) := B_Md_init_0_1.2.2.2.2.2.2.2.2.2.2.2.2.2.2.2.2.2.2.2.2.2.2.2.2.2.2.2.2.2.2.2.2.2.2.1
theorem R_Md_init_162 : (∀ (l0 l1 : Value) (st : List Value) (M : Mm) (Q : Option Value → Mm → Prop), wp F_Md_init 162 [l0, l1] st M Q = wp F_Md_init 165 [l0, l1] (.int 300 :: st) M Q) := B_Md_init_0_1.2.2.2.2.2.2.2.2.2.2.2.2.2.2.2.2.2.2.2.2.2.2.2.2.2.2.2.2.2.2.2.2.2.2.2.1
theorem R_Md_init_165 : (∀ (l0 l1 : Value) (n : Int32) (st : List Value) (M : Mm) (Q : Option Value → Mm → Prop), wp F_Md_init 165 [l0, l1] (.int n :: st) M Q = ((¬ n < 0 ∧ cl n ≤ 16777216) ∧ wp F_Md_init 167 [l0, l1] (.ref (nxt M) :: st) (nw M (.inr (0, cl n)) (cl n)) Q)) := B_Md_init_0_1.2.2.2.2.2.2.2.2.2.2.2.2.2.2.2.2.2.2.2.2.2.2.2.2.2.2.2.2.2.2.2.2.2.2.2.2.1
theorem R_Md_init_167 : (∀ (l0 l1 : Value) (a x : Nat) (st : List Value) (M : Mm) (Q : Option Value → Mm → Prop), wp F_Md_init 167 [l0, l1] (.ref x :: .ref a :: st) M Q = (sh M a = some (.inl 12) ∧ wp F_Md_init 170 [l0, l1] st (sR M a 35 (some x)) Q)) := B_Md_init_0_1.2.2.2.2.2.2.2.2.2.2.2.2.2.2.2.2.2.2.2.2.2.2.2.2.2.2.2.2.2.2.2.2.2.2.2.2.2.1
theorem R_Md_init_170 : (∀ (l1 : Value) (x : Nat) (st : List Value) (M : Mm) (Q : Option Value → Mm → Prop), wp F_Md_init 170 [.ref x, l1] st M Q = wp F_Md_init 171 [.ref x, l1] (.ref x :: st) M Q) := B_Md_init_0_1.2.2.2.2.2.2.2.2.2.2.2.2.2.2.2.2.2.2.2.2.2.2.2.2.2.2.2.2.2.2.2.2.2.2.2.2.2.2.1
theorem R_Md_init_171 : (∀ (l0 l1 : Value) (st : List Value) (M : Mm) (Q : Option Value → Mm → Prop), wp F_Md_init 171 [l0, l1] st M Q = wp F_Md_init 172 [l0, l1] (.int (-1) :: st) M Q) := B_Md_init_0_1.2.2.2.2.2.2.2.2.2.2.2.2.2.2.2.2.2.2.2.2.2.2.2.2.2.2.2.2.2.2.2.2.2.2.2.2.2.2.2
theorem R_Md_init_172 : (∀ (l0 l1 : Value) (a : Nat) (x : Int32) (st : List Value) (M : Mm) (Q : Option Value → Mm → Prop), wp F_Md_init 172 [l0, l1] (.int x :: .ref a :: st) M Q = (sh M a = some (.inl 12) ∧ wp F_Md_init 175 [l0, l1] st (sI M a 39 x) Q)) := B_Md_init_0_2.1
theorem R_Md_init_175 : (∀ (l1 : Value) (x : Nat) (st : List Value) (M : Mm) (Q : Option Value → Mm → Prop), wp F_Md_init 175 [.ref x, l1] st M Q = wp F_Md_init 176 [.ref x, l1] (.ref x :: st) M Q) := B_Md_init_0_2.2.1
theorem R_Md_init_176 : (∀ (l0 l1 : Value) (st : List Value) (M : Mm) (Q : Option Value → Mm → Prop), wp F_Md_init 176 [l0, l1] st M Q = wp F_Md_init 179 [l0, l1] (.int 640 :: st) M Q) := B_Md_init_0_2.2.2.1
theorem R_Md_init_179 : (∀ (l0 l1 : Value) (n : Int32) (st : List Value) (M : Mm) (Q : Option Value → Mm → Prop), wp F_Md_init 179 [l0, l1] (.int n :: st) M Q = ((¬ n < 0 ∧ cl n ≤ 16777216) ∧ wp F_Md_init 181 [l0, l1] (.ref (nxt M) :: st) (nw M (.inr (0, cl n)) (cl n)) Q)) := B_Md_init_0_2.2.2.2.1
theorem R_Md_init_181 : (∀ (l0 l1 : Value) (a x : Nat) (st : List Value) (M : Mm) (Q : Option Value → Mm → Prop), wp F_Md_init 181 [l0, l1] (.ref x :: .ref a :: st) M Q = (sh M a = some (.inl 12) ∧ wp F_Md_init 184 [l0, l1] st (sR M a 42 (some x)) Q)) := B_Md_init_0_2.2.2.2.2.1
theorem R_Md_init_184 : (∀ (l1 : Value) (x : Nat) (st : List Value) (M : Mm) (Q : Option Value → Mm → Prop), wp F_Md_init 184 [.ref x, l1] st M Q = wp F_Md_init 185 [.ref x, l1] (.ref x :: st) M Q) := B_Md_init_0_2.2.2.2.2.2.1
theorem R_Md_init_185 : (∀ (l0 l1 : Value) (st : List Value) (M : Mm) (Q : Option Value → Mm → Prop), wp F_Md_init 185 [l0, l1] st M Q = wp F_Md_init 187 [l0, l1] (.int 8 :: st) M Q) := B_Md_init_0_2.2.2.2.2.2.2.1
theorem R_Md_init_187 : (∀ (l0 l1 : Value) (n : Int32) (st : List Value) (M : Mm) (Q : Option Value → Mm → Prop), wp F_Md_init 187 [l0, l1] (.int n :: st) M Q = ((¬ n < 0 ∧ cl n ≤ 16777216) ∧ wp F_Md_init 189 [l0, l1] (.ref (nxt M) :: st) (nw M (.inr (0, cl n)) (cl n)) Q)) := B_Md_init_0_2.2.2.2.2.2.2.2.1
theorem R_Md_init_189 : (∀ (l0 l1 : Value) (a x : Nat) (st : List Value) (M : Mm) (Q : Option Value → Mm → Prop), wp F_Md_init 189 [l0, l1] (.ref x :: .ref a :: st) M Q = (sh M a = some (.inl 12) ∧ wp F_Md_init 192 [l0, l1] st (sR M a 43 (some x)) Q)) := B_Md_init_0_2.2.2.2.2.2.2.2.2.1
theorem R_Md_init_192 : (∀ (l1 : Value) (x : Nat) (st : List Value) (M : Mm) (Q : Option Value → Mm → Prop), wp F_Md_init 192 [.ref x, l1] st M Q = wp F_Md_init 193 [.ref x, l1] (.ref x :: st) M Q) := B_Md_init_0_2.2.2.2.2.2.2.2.2.2.1
theorem R_Md_init_193 : (∀ (l0 l1 : Value) (st : List Value) (M : Mm) (Q : Option Value → Mm → Prop), wp F_Md_init 193 [l0, l1] st M Q = wp F_Md_init 195 [l0, l1] (.int 96008 :: st) M Q) := B_Md_init_0_2.2.2.2.2.2.2.2.2.2.2.1
theorem R_Md_init_195 : (∀ (l0 l1 : Value) (n : Int32) (st : List Value) (M : Mm) (Q : Option Value → Mm → Prop), wp F_Md_init 195 [l0, l1] (.int n :: st) M Q = ((¬ n < 0 ∧ cl n ≤ 16777216) ∧ wp F_Md_init 197 [l0, l1] (.ref (nxt M) :: st) (nw M (.inr (0, cl n)) (cl n)) Q)) := B_Md_init_0_2.2.2.2.2.2.2.2.2.2.2.2.1
theorem R_Md_init_197 : (∀ (l0 l1 : Value) (a x : Nat) (st : List Value) (M : Mm) (Q : Option Value → Mm → Prop), wp F_Md_init 197 [l0, l1] (.ref x :: .ref a :: st) M Q = (sh M a = some (.inl 12) ∧ wp F_Md_init 200 [l0, l1] st (sR M a 44 (some x)) Q)) := B_Md_init_0_2.2.2.2.2.2.2.2.2.2.2.2.2.1
theorem R_Md_init_200 : (∀ (l1 : Value) (x : Nat) (st : List Value) (M : Mm) (Q : Option Value → Mm → Prop), wp F_Md_init 200 [.ref x, l1] st M Q = wp F_Md_init 201 [.ref x, l1] (.ref x :: st) M Q) := B_Md_init_0_2.2.2.2.2.2.2.2.2.2.2.2.2.2.1
theorem R_Md_init_201 : (∀ (l0 l1 : Value) (st : List Value) (M : Mm) (Q : Option Value → Mm → Prop), wp F_Md_init 201 [l0, l1] st M Q = wp F_Md_init 204 [l0, l1] (.int 12001 :: st) M Q) := B_Md_init_0_2.2.2.2.2.2.2.2.2.2.2.2.2.2.2.1
theorem R_Md_init_204 : (∀ (l0 l1 : Value) (n : Int32) (st : List Value) (M : Mm) (Q : Option Value → Mm → Prop), wp F_Md_init 204 [l0, l1] (.int n :: st) M Q = ((¬ n < 0 ∧ cl n ≤ 16777216) ∧ wp F_Md_init 206 [l0, l1] (.ref (nxt M) :: st) (nw M (.inr (0, cl n)) (cl n)) Q)) := B_Md_init_0_2.2.2.2.2.2.2.2.2.2.2.2.2.2.2.2.1
theorem R_Md_init_206 : (∀ (l0 l1 : Value) (a x : Nat) (st : List Value) (M : Mm) (Q : Option Value → Mm → Prop), wp F_Md_init 206 [l0, l1] (.ref x :: .ref a :: st) M Q = (sh M a = some (.inl 12) ∧ wp F_Md_init 209 [l0, l1] st (sR M a 45 (some x)) Q)) := B_Md_init_0_2.2.2.2.2.2.2.2.2.2.2.2.2.2.2.2.2.1
theorem R_Md_init_209 : (∀ (l1 : Value) (x : Nat) (st : List Value) (M : Mm) (Q : Option Value → Mm → Prop), wp F_Md_init 209 [.ref x, l1] st M Q = wp F_Md_init 210 [.ref x, l1] (.ref x :: st) M Q) := B_Md_init_0_2.2.2.2.2.2.2.2.2.2.2.2.2.2.2.2.2.2.1
theorem R_Md_init_210 : (∀ (l0 l1 : Value) (st : List Value) (M : Mm) (Q : Option Value → Mm → Prop), wp F_Md_init 210 [l0, l1] st M Q = wp F_Md_init 213 [l0, l1] (.int 12001 :: st) M Q) := B_Md_init_0_2.2.2.2.2.2.2.2.2.2.2.2.2.2.2.2.2.2.2.1
theorem R_Md_init_213 : (∀ (l0 l1 : Value) (n : Int32) (st : List Value) (M : Mm) (Q : Option Value → Mm → Prop), wp F_Md_init 213 [l0, l1] (.int n :: st) M Q = ((¬ n < 0 ∧ cl n ≤ 16777216) ∧ wp F_Md_init 215 [l0, l1] (.ref (nxt M) :: st) (nw M (.inr (0, cl n)) (cl n)) Q)) := B_Md_init_0_2.2.2.2.2.2.2.2.2.2.2.2.2.2.2.2.2.2.2.2.1
theorem R_Md_init_215 : (∀ (l0 l1 : Value) (a x : Nat) (st : List Value) (M : Mm) (Q : Option Value → Mm → Prop), wp F_Md_init 215 [l0, l1] (.ref x :: .ref a :: st) M Q = (sh M a = some (.inl 12) ∧ wp F_Md_init 218 [l0, l1] st (sR M a 46 (some x)) Q)) := B_Md_init_0_2.2.2.2.2.2.2.2.2.2.2.2.2.2.2.2.2.2.2.2.2.1
theorem R_Md_init_218 : (∀ (l1 : Value) (x : Nat) (st : List Value) (M : Mm) (Q : Option Value → Mm → Prop), wp F_Md_init 218 [.ref x, l1] st M Q = wp F_Md_init 219 [.ref x, l1] (.ref x :: st) M Q) := B_Md_init_0_2.2.2.2.2.2.2.2.2.2.2.2.2.2.2.2.2.2.2.2.2.2.1
theorem R_Md_init_219 : (∀ (l0 l1 : Value) (st : List Value) (M : Mm) (Q : Option Value → Mm → Prop), wp F_Md_init 219 [l0, l1] st M Q = wp F_Md_init 222 [l0, l1] (.int 12001 :: st) M Q) := B_Md_init_0_2.2.2.2.2.2.2.2.2.2.2.2.2.2.2.2.2.2.2.2.2.2.2.1
theorem R_Md_init_222 : (∀ (l0 l1 : Value) (n : Int32) (st : List Value) (M : Mm) (Q : Option Value → Mm → Prop), wp F_Md_init 222 [l0, l1] (.int n :: st) M Q = ((¬ n < 0 ∧ cl n ≤ 16777216) ∧ wp F_Md_init 224 [l0, l1] (.ref (nxt M) :: st) (nw M (.inr (3, cl n)) (cl n)) Q)) := B_Md_init_0_2.2.2.2.2.2.2.2.2.2.2.2.2.2.2.2.2.2.2.2.2.2.2.2.1
theorem R_Md_init_224 : (∀ (l0 l1 : Value) (a x : Nat) (st : List Value) (M : Mm) (Q : Option Value → Mm → Prop), wp F_Md_init 224 [l0, l1] (.ref x :: .ref a :: st) M Q = (sh M a = some (.inl 12) ∧ wp F_Md_init 227 [l0, l1] st (sR M a 47 (some x)) Q)) := B_Md_init_0_2.2.2.2.2.2.2.2.2.2.2.2.2.2.2.2.2.2.2.2.2.2.2.2.2.1
theorem R_Md_init_227 : (∀ (l1 : Value) (x : Nat) (st : List Value) (M : Mm) (Q : Option Value → Mm → Prop), wp F_Md_init 227 [.ref x, l1] st M Q = wp F_Md_init 228 [.ref x, l1] (.ref x :: st) M Q) := B_Md_init_0_2.2.2.2.2.2.2.2.2.2.2.2.2.2.2.2.2.2.2.2.2.2.2.2.2.2.1
theorem R_Md_init_228 : (∀ (l0 l1 : Value) (st : List Value) (M : Mm) (Q : Option Value → Mm → Prop), wp F_Md_init 228 [l0, l1] st M Q = wp F_Md_init 231 [l0, l1] (.int 12001 :: st) M Q) := B_Md_init_0_2.2.2.2.2.2.2.2.2.2.2.2.2.2.2.2.2.2.2.2.2.2.2.2.2.2.2.1
theorem R_Md_init_231 : (∀ (l0 l1 : Value) (n : Int32) (st : List Value) (M : Mm) (Q : Option Value → Mm → Prop), wp F_Md_init 231 [l0, l1] (.int n :: st) M Q = ((¬ n < 0 ∧ cl n ≤ 16777216) ∧ wp F_Md_init 233 [l0, l1] (.ref (nxt M) :: st) (nw M (.inr (0, cl n)) (cl n)) Q)) := B_Md_init_0_2.2.2.2.2.2.2.2.2.2.2.2.2.2.2.2.2.2.2.2.2.2.2.2.2.2.2.2.1
theorem R_Md_init_233 : (∀ (l0 l1 : Value) (a x : Nat) (st : List Value) (M : Mm) (Q : Option Value → Mm → Prop), wp F_Md_init 233 [l0, l1] (.ref x :: .ref a :: st) M Q = (sh M a = some (.inl 12) ∧ wp F_Md_init 236 [l0, l1] st (sR M a 48 (some x)) Q)) := B_Md_init_0_2.2.2.2.2.2.2.2.2.2.2.2.2.2.2.2.2.2.2.2.2.2.2.2.2.2.2.2.2.1
theorem R_Md_init_236 : (∀ (l1 : Value) (x : Nat) (st : List Value) (M : Mm) (Q : Option Value → Mm → Prop), wp F_Md_init 236 [.ref x, l1] st M Q = wp F_Md_init 237 [.ref x, l1] (.ref x :: st) M Q) := B_Md_init_0_2.2.2.2.2.2.2.2.2.2.2.2.2.2.2.2.2.2.2.2.2.2.2.2.2.2.2.2.2.2.1
theorem R_Md_init_237 : (∀ (l0 l1 : Value) (st : List Value) (M : Mm) (Q : Option Value → Mm → Prop), wp F_Md_init 237 [l0, l1] st M Q = wp F_Md_init 239 [l0, l1] (.int 972081 :: st) M Q) := B_Md_init_0_2.2.2.2.2.2.2.2.2.2.2.2.2.2.2.2.2.2.2.2.2.2.2.2.2.2.2.2.2.2.2.1
theorem R_Md_init_239 : (∀ (l0 l1 : Value) (n : Int32) (st : List Value) (M : Mm) (Q : Option Value → Mm → Prop), wp F_Md_init 239 [l0, l1] (.int n :: st) M Q = ((¬ n < 0 ∧ cl n ≤ 16777216) ∧ wp F_Md_init 241 [l0, l1] (.ref (nxt M) :: st) (nw M (.inr (1, cl n)) (cl n)) Q)) := B_Md_init_0_2.2.2.2.2.2.2.2.2.2.2.2.2.2.2.2.2.2.2.2.2.2.2.2.2.2.2.2.2.2.2.2.1
theorem R_Md_init_241 : (∀ (l0 l1 : Value) (a x : Nat) (st : List Value) (M : Mm) (Q : Option Value → Mm → Prop), wp F_Md_init 241 [l0, l1] (.ref x :: .ref a :: st) M Q = (sh M a = some (.inl 12) ∧ wp F_Md_init 244 [l0, l1] st (sR M a 49 (some x)) Q)) := B_Md_init_0_2.2.2.2.2.2.2.2.2.2.2.2.2.2.2.2.2.2.2.2.2.2.2.2.2.2.2.2.2.2.2.2.2.1
theorem R_Md_init_244 : (∀ (l1 : Value) (x : Nat) (st : List Value) (M : Mm) (Q : Option Value → Mm → Prop), wp F_Md_init 244 [.ref x, l1] st M Q = wp F_Md_init 245 [.ref x, l1] (.ref x :: st) M Q) := B_Md_init_0_2.2.2.2.2.2.2.2.2.2.2.2.2.2.2.2.2.2.2.2.2.2.2.2.2.2.2.2.2.2.2.2.2.2.1
theorem R_Md_init_245 : (∀ (l0 l1 : Value) (st : List Value) (M : Mm) (Q : Option Value → Mm → Prop), wp F_Md_init 245 [l0, l1] st M Q = wp F_Md_init 248 [l0, l1] (.int 12001 :: st) M Q) := B_Md_init_0_2.2.2.2.2.2.2.2.2.2.2.2.2.2.2.2.2.2.2.2.2.2.2.2.2.2.2.2.2.2.2.2.2.2.2.1
theorem R_Md_init_248 : (∀ (l0 l1 : Value) (n : Int32) (st : List Value) (M : Mm) (Q : Option Value → Mm → Prop), wp F_Md_init 248 [l0, l1] (.int n :: st) M Q = ((¬ n < 0 ∧ cl n ≤ 16777216) ∧ wp F_Md_init 250 [l0, l1] (.ref (nxt M) :: st) (nw M (.inr (1, cl n)) (cl n)) Q)) := B_Md_init_0_2.2.2.2.2.2.2.2.2.2.2.2.2.2.2.2.2.2.2.2.2.2.2.2.2.2.2.2.2.2.2.2.2.2.2.2.1
theorem R_Md_init_250 : (∀ (l0 l1 : Value) (a x : Nat) (st : List Value) (M : Mm) (Q : Option Value → Mm → Prop), wp F_Md_init 250 [l0, l1] (.ref x :: .ref a :: st) M Q = (sh M a = some (.inl 12) ∧ wp F_Md_init 253 [l0, l1] st (sR M a 50 (some x)) Q)) := B_Md_init_0_2.2.2.2.2.2.2.2.2.2.2.2.2.2.2.2.2.2.2.2.2.2.2.2.2.2.2.2.2.2.2.2.2.2.2.2.2.1
theorem R_Md_init_253 : (∀ (l1 : Value) (x : Nat) (st : List Value) (M : Mm) (Q : Option Value → Mm → Prop), wp F_Md_init 253 [.ref x, l1] st M Q = wp F_Md_init 254 [.ref x, l1] (.ref x :: st) M Q) := B_Md_init_0_2.2.2.2.2.2.2.2.2.2.2.2.2.2.2.2.2.2.2.2.2.2.2.2.2.2.2.2.2.2.2.2.2.2.2.2.2.2.1
theorem R_Md_init_254 : (∀ (l0 l1 : Value) (st : List Value) (M : Mm) (Q : Option Value → Mm → Prop), wp F_Md_init 254 [l0, l1] st M Q = wp F_Md_init 257 [l0, l1] (.int 201 :: st) M Q) := B_Md_init_0_2.2.2.2.2.2.2.2.2.2.2.2.2.2.2.2.2.2.2.2.2.2.2.2.2.2.2.2.2.2.2.2.2.2.2.2.2.2.2.1
theorem R_Md_init_257 : (∀ (l0 l1 : Value) (n : Int32) (st : List Value) (M : Mm) (Q : Option Value → Mm → Prop), wp F_Md_init 257 [l0, l1] (.int n :: st) M Q = ((¬ n < 0 ∧ cl n ≤ 16777216) ∧ wp F_Md_init 259 [l0, l1] (.ref (nxt M) :: st) (nw M (.inr (0, cl n)) (cl n)) Q)) := B_Md_init_0_2.2.2.2.2.2.2.2.2.2.2.2.2.2.2.2.2.2.2.2.2.2.2.2.2.2.2.2.2.2.2.2.2.2.2.2.2.2.2.2
theorem R_Md_init_259 : (∀ (l0 l1 : Value) (a x : Nat) (st : List Value) (M : Mm) (Q : Option Value → Mm → Prop), wp F_Md_init 259 [l0, l1] (.ref x :: .ref a :: st) M Q = (sh M a = some (.inl 12) ∧ wp F_Md_init 262 [l0, l1] st (sR M a 55 (some x)) Q)) := B_Md_init_0_3.1
theorem R_Md_init_262 : (∀ (l0 l1 : Value) (st : List Value) (M : Mm) (Q : Option Value → Mm → Prop), wp F_Md_init 262 [l0, l1] st M Q = wp F_Md_init 263 [l0, l1] (.int 0 :: st) M Q) := B_Md_init_0_3.2.1
theorem R_Md_init_263 : (∀ (l0 l1 : Value) (x : Int32) (st : List Value) (M : Mm) (Q : Option Value → Mm → Prop), wp F_Md_init 263 [l0, l1] (.int x :: st) M Q = wp F_Md_init 264 [clr l0, .int x] st M Q) := B_Md_init_0_3.2.2
def IniV (M0 : Mm) (m p s : Nat) (v : Int32) (M : Mm) : Prop := sh M m = some (.inl 12) ∧ nxt M = m + 1 + p ∧ slo M = slo M0 + s ∧ (∀ i, i < p → gR M m (mdT i).1 = some (m + 1 + i) ∧ sh M (m + 1 + i) = some (.inr ((mdT i).2.1, (mdT i).2.2))) ∧ (∀ b j, m ≤ b → b < m + 1 + p → ¬ (b = m ∧ j = 39) → gI M b j = 0) ∧ gI M m 39 = v ∧ ∀ b, b < m → sh M b = sh M0 b ∧ (∀ j, gI M b j = gI M0 b j) ∧ (∀ j, gJ M b j = gJ M0 b j) ∧ ∀ j, gR M b j = gR M0 b j
theorem mdT_inj : ∀ i, i < 29 → ∀ j, j < 29 → i ≠ j → (mdT i).1 ≠ (mdT j).1 := by decide
section MC
variable {M M0 : Mm} {m : Nat} {Q : Option Value → Mm → Prop}
theorem IniV.step {p s f t n : Nat} {v : Int32} (h : IniV M0 m p s v M) (hp : p < 29) (e : mdT p = (f, t, n)) : IniV M0 m (p + 1) (s + n) v (sR (nw M (.inr (t, n)) n) m f (some (nxt M))) := by
  obtain ⟨h1, h2, h3, h4, h5, h6, h7⟩ := h
  refine ⟨?_, ?_, ?_, fun i hi => ?_, fun b j b1 b2 b3 => ?_, ?_, fun b hb => ?_⟩
  · rw [sh_sR, sh_nw, if_neg (by omega)]; exact h1
  · rw [nxt_sR, nxt_nw, h2]; omega
  · rw [slo_sR, slo_nw, h3]; omega
  · by_cases q : i = p
    · subst q
      rw [e]
      exact ⟨by rw [gR_sR, if_pos ⟨rfl, rfl⟩, h2], by rw [sh_sR, sh_nw, if_pos (by omega)]⟩
    · have hne := mdT_inj i (by omega) p hp q
      rw [e] at hne
      obtain ⟨g1, g2⟩ := h4 i (by omega)
      exact ⟨by rw [gR_sR, if_neg (fun z => hne z.2), gR_nw, if_neg (by omega)]; exact g1, by rw [sh_sR, sh_nw, if_neg (by omega)]; exact g2⟩
  · rw [gI_sR, gI_nw]
    split
    · rfl
    · exact h5 b j b1 (by omega) b3
  · rw [gI_sR, gI_nw, if_neg (by omega)]; exact h6
  · obtain ⟨g1, g2, g3, g4⟩ := h7 b hb
    exact ⟨by rw [sh_sR, sh_nw, if_neg (by omega)]; exact g1, fun j => by rw [gI_sR, gI_nw, if_neg (by omega)]; exact g2 j, fun j => by rw [gJ_sR, gJ_nw, if_neg (by omega)]; exact g3 j, fun j => by rw [gR_sR, if_neg (fun z => by omega), gR_nw, if_neg (by omega)]; exact g4 j⟩
theorem I_Md_0 {s : Nat} {v : Int32} (h : IniV M0 m 0 s v M) (k : ∀ M', IniV M0 m 1 (s + 600) v M' → wp F_Md_init 13 [.ref m, jk] [] M' Q) : wp F_Md_init 4 [.ref m, jk] [] M Q := by
  rw [R_Md_init_4, R_Md_init_5, R_Md_init_8, R_Md_init_10]
  have e : cl (600 : Int32) = 600 := by decide
  rw [e]
  refine ⟨⟨by decide, by decide⟩, ?_, k _ (h.step (p := 0) (by omega) rfl)⟩
  rw [sh_nw, if_neg (by have := h.2.1; omega)]
  exact h.1
theorem I_Md_1 {s : Nat} {v : Int32} (h : IniV M0 m 1 s v M) (k : ∀ M', IniV M0 m 2 (s + 26) v M' → wp F_Md_init 21 [.ref m, jk] [] M' Q) : wp F_Md_init 13 [.ref m, jk] [] M Q := by
  rw [R_Md_init_13, R_Md_init_14, R_Md_init_16, R_Md_init_18]
  have e : cl (26 : Int32) = 26 := by decide
  rw [e]
  refine ⟨⟨by decide, by decide⟩, ?_, k _ (h.step (p := 1) (by omega) rfl)⟩
  rw [sh_nw, if_neg (by have := h.2.1; omega)]
  exact h.1
theorem I_Md_2 {s : Nat} {v : Int32} (h : IniV M0 m 2 s v M) (k : ∀ M', IniV M0 m 3 (s + 26) v M' → wp F_Md_init 29 [.ref m, jk] [] M' Q) : wp F_Md_init 21 [.ref m, jk] [] M Q := by
  rw [R_Md_init_21, R_Md_init_22, R_Md_init_24, R_Md_init_26]
  have e : cl (26 : Int32) = 26 := by decide
  rw [e]
  refine ⟨⟨by decide, by decide⟩, ?_, k _ (h.step (p := 2) (by omega) rfl)⟩
  rw [sh_nw, if_neg (by have := h.2.1; omega)]
  exact h.1
theorem I_Md_3 {s : Nat} {v : Int32} (h : IniV M0 m 3 s v M) (k : ∀ M', IniV M0 m 4 (s + 1920) v M' → wp F_Md_init 38 [.ref m, jk] [] M' Q) : wp F_Md_init 29 [.ref m, jk] [] M Q := by
  rw [R_Md_init_29, R_Md_init_30, R_Md_init_33, R_Md_init_35]
  have e : cl (1920 : Int32) = 1920 := by decide
  rw [e]
  refine ⟨⟨by decide, by decide⟩, ?_, k _ (h.step (p := 3) (by omega) rfl)⟩
  rw [sh_nw, if_neg (by have := h.2.1; omega)]
  exact h.1
theorem I_Md_4 {s : Nat} {v : Int32} (h : IniV M0 m 4 s v M) (k : ∀ M', IniV M0 m 5 (s + 80) v M' → wp F_Md_init 46 [.ref m, jk] [] M' Q) : wp F_Md_init 38 [.ref m, jk] [] M Q := by
  rw [R_Md_init_38, R_Md_init_39, R_Md_init_41, R_Md_init_43]
  have e : cl (80 : Int32) = 80 := by decide
  rw [e]
  refine ⟨⟨by decide, by decide⟩, ?_, k _ (h.step (p := 4) (by omega) rfl)⟩
  rw [sh_nw, if_neg (by have := h.2.1; omega)]
  exact h.1
theorem I_Md_5 {s : Nat} {v : Int32} (h : IniV M0 m 5 s v M) (k : ∀ M', IniV M0 m 6 (s + 80) v M' → wp F_Md_init 54 [.ref m, jk] [] M' Q) : wp F_Md_init 46 [.ref m, jk] [] M Q := by
  rw [R_Md_init_46, R_Md_init_47, R_Md_init_49, R_Md_init_51]
  have e : cl (80 : Int32) = 80 := by decide
  rw [e]
  refine ⟨⟨by decide, by decide⟩, ?_, k _ (h.step (p := 5) (by omega) rfl)⟩
  rw [sh_nw, if_neg (by have := h.2.1; omega)]
  exact h.1
theorem I_Md_6 {s : Nat} {v : Int32} (h : IniV M0 m 6 s v M) (k : ∀ M', IniV M0 m 7 (s + 12000) v M' → wp F_Md_init 63 [.ref m, jk] [] M' Q) : wp F_Md_init 54 [.ref m, jk] [] M Q := by
  rw [R_Md_init_54, R_Md_init_55, R_Md_init_58, R_Md_init_60]
  have e : cl (12000 : Int32) = 12000 := by decide
  rw [e]
  refine ⟨⟨by decide, by decide⟩, ?_, k _ (h.step (p := 6) (by omega) rfl)⟩
  rw [sh_nw, if_neg (by have := h.2.1; omega)]
  exact h.1
theorem I_Md_7 {s : Nat} {v : Int32} (h : IniV M0 m 7 s v M) (k : ∀ M', IniV M0 m 8 (s + 200) v M' → wp F_Md_init 72 [.ref m, jk] [] M' Q) : wp F_Md_init 63 [.ref m, jk] [] M Q := by
  rw [R_Md_init_63, R_Md_init_64, R_Md_init_67, R_Md_init_69]
  have e : cl (200 : Int32) = 200 := by decide
  rw [e]
  refine ⟨⟨by decide, by decide⟩, ?_, k _ (h.step (p := 7) (by omega) rfl)⟩
  rw [sh_nw, if_neg (by have := h.2.1; omega)]
  exact h.1
theorem I_Md_8 {s : Nat} {v : Int32} (h : IniV M0 m 8 s v M) (k : ∀ M', IniV M0 m 9 (s + 12000) v M' → wp F_Md_init 81 [.ref m, jk] [] M' Q) : wp F_Md_init 72 [.ref m, jk] [] M Q := by
  rw [R_Md_init_72, R_Md_init_73, R_Md_init_76, R_Md_init_78]
  have e : cl (12000 : Int32) = 12000 := by decide
  rw [e]
  refine ⟨⟨by decide, by decide⟩, ?_, k _ (h.step (p := 8) (by omega) rfl)⟩
  rw [sh_nw, if_neg (by have := h.2.1; omega)]
  exact h.1
theorem I_Md_9 {s : Nat} {v : Int32} (h : IniV M0 m 9 s v M) (k : ∀ M', IniV M0 m 10 (s + 200) v M' → wp F_Md_init 90 [.ref m, jk] [] M' Q) : wp F_Md_init 81 [.ref m, jk] [] M Q := by
  rw [R_Md_init_81, R_Md_init_82, R_Md_init_85, R_Md_init_87]
  have e : cl (200 : Int32) = 200 := by decide
  rw [e]
  refine ⟨⟨by decide, by decide⟩, ?_, k _ (h.step (p := 9) (by omega) rfl)⟩
  rw [sh_nw, if_neg (by have := h.2.1; omega)]
  exact h.1
theorem I_Md_10 {s : Nat} {v : Int32} (h : IniV M0 m 10 s v M) (k : ∀ M', IniV M0 m 11 (s + 200) v M' → wp F_Md_init 99 [.ref m, jk] [] M' Q) : wp F_Md_init 90 [.ref m, jk] [] M Q := by
  rw [R_Md_init_90, R_Md_init_91, R_Md_init_94, R_Md_init_96]
  have e : cl (200 : Int32) = 200 := by decide
  rw [e]
  refine ⟨⟨by decide, by decide⟩, ?_, k _ (h.step (p := 10) (by omega) rfl)⟩
  rw [sh_nw, if_neg (by have := h.2.1; omega)]
  exact h.1
theorem I_Md_11 {s : Nat} {v : Int32} (h : IniV M0 m 11 s v M) (k : ∀ M', IniV M0 m 12 (s + 240000) v M' → wp F_Md_init 107 [.ref m, jk] [] M' Q) : wp F_Md_init 99 [.ref m, jk] [] M Q := by
  rw [R_Md_init_99, R_Md_init_100, R_Md_init_102, R_Md_init_104]
  have e : cl (240000 : Int32) = 240000 := by decide
  rw [e]
  refine ⟨⟨by decide, by decide⟩, ?_, k _ (h.step (p := 11) (by omega) rfl)⟩
  rw [sh_nw, if_neg (by have := h.2.1; omega)]
  exact h.1
theorem I_Md_12 {s : Nat} {v : Int32} (h : IniV M0 m 12 s v M) (k : ∀ M', IniV M0 m 13 (s + 2000) v M' → wp F_Md_init 116 [.ref m, jk] [] M' Q) : wp F_Md_init 107 [.ref m, jk] [] M Q := by
  rw [R_Md_init_107, R_Md_init_108, R_Md_init_111, R_Md_init_113]
  have e : cl (2000 : Int32) = 2000 := by decide
  rw [e]
  refine ⟨⟨by decide, by decide⟩, ?_, k _ (h.step (p := 12) (by omega) rfl)⟩
  rw [sh_nw, if_neg (by have := h.2.1; omega)]
  exact h.1
theorem I_Md_13 {s : Nat} {v : Int32} (h : IniV M0 m 13 s v M) (k : ∀ M', IniV M0 m 14 (s + 130) v M' → wp F_Md_init 125 [.ref m, jk] [] M' Q) : wp F_Md_init 116 [.ref m, jk] [] M Q := by
  rw [R_Md_init_116, R_Md_init_117, R_Md_init_120, R_Md_init_122]
  have e : cl (130 : Int32) = 130 := by decide
  rw [e]
  refine ⟨⟨by decide, by decide⟩, ?_, k _ (h.step (p := 13) (by omega) rfl)⟩
  rw [sh_nw, if_neg (by have := h.2.1; omega)]
  exact h.1
theorem I_Md_14 {s : Nat} {v : Int32} (h : IniV M0 m 14 s v M) (k : ∀ M', IniV M0 m 15 (s + 130) v M' → wp F_Md_init 134 [.ref m, jk] [] M' Q) : wp F_Md_init 125 [.ref m, jk] [] M Q := by
  rw [R_Md_init_125, R_Md_init_126, R_Md_init_129, R_Md_init_131]
  have e : cl (130 : Int32) = 130 := by decide
  rw [e]
  refine ⟨⟨by decide, by decide⟩, ?_, k _ (h.step (p := 14) (by omega) rfl)⟩
  rw [sh_nw, if_neg (by have := h.2.1; omega)]
  exact h.1
theorem I_Md_15 {s : Nat} {v : Int32} (h : IniV M0 m 15 s v M) (k : ∀ M', IniV M0 m 16 (s + 300) v M' → wp F_Md_init 143 [.ref m, jk] [] M' Q) : wp F_Md_init 134 [.ref m, jk] [] M Q := by
  rw [R_Md_init_134, R_Md_init_135, R_Md_init_138, R_Md_init_140]
  have e : cl (300 : Int32) = 300 := by decide
  rw [e]
  refine ⟨⟨by decide, by decide⟩, ?_, k _ (h.step (p := 15) (by omega) rfl)⟩
  rw [sh_nw, if_neg (by have := h.2.1; omega)]
  exact h.1
theorem I_Md_16 {s : Nat} {v : Int32} (h : IniV M0 m 16 s v M) (k : ∀ M', IniV M0 m 17 (s + 300) v M' → wp F_Md_init 152 [.ref m, jk] [] M' Q) : wp F_Md_init 143 [.ref m, jk] [] M Q := by
  rw [R_Md_init_143, R_Md_init_144, R_Md_init_147, R_Md_init_149]
  have e : cl (300 : Int32) = 300 := by decide
  rw [e]
  refine ⟨⟨by decide, by decide⟩, ?_, k _ (h.step (p := 16) (by omega) rfl)⟩
  rw [sh_nw, if_neg (by have := h.2.1; omega)]
  exact h.1
theorem I_Md_17 {s : Nat} {v : Int32} (h : IniV M0 m 17 s v M) (k : ∀ M', IniV M0 m 18 (s + 300) v M' → wp F_Md_init 161 [.ref m, jk] [] M' Q) : wp F_Md_init 152 [.ref m, jk] [] M Q := by
  rw [R_Md_init_152, R_Md_init_153, R_Md_init_156, R_Md_init_158]
  have e : cl (300 : Int32) = 300 := by decide
  rw [e]
  refine ⟨⟨by decide, by decide⟩, ?_, k _ (h.step (p := 17) (by omega) rfl)⟩
  rw [sh_nw, if_neg (by have := h.2.1; omega)]
  exact h.1
theorem I_Md_18 {s : Nat} {v : Int32} (h : IniV M0 m 18 s v M) (k : ∀ M', IniV M0 m 19 (s + 300) v M' → wp F_Md_init 170 [.ref m, jk] [] M' Q) : wp F_Md_init 161 [.ref m, jk] [] M Q := by
  rw [R_Md_init_161, R_Md_init_162, R_Md_init_165, R_Md_init_167]
  have e : cl (300 : Int32) = 300 := by decide
  rw [e]
  refine ⟨⟨by decide, by decide⟩, ?_, k _ (h.step (p := 18) (by omega) rfl)⟩
  rw [sh_nw, if_neg (by have := h.2.1; omega)]
  exact h.1
theorem I_Md_19 {s : Nat} {v : Int32} (h : IniV M0 m 19 s v M) (k : ∀ M', IniV M0 m 20 (s + 640) v M' → wp F_Md_init 184 [.ref m, jk] [] M' Q) : wp F_Md_init 175 [.ref m, jk] [] M Q := by
  rw [R_Md_init_175, R_Md_init_176, R_Md_init_179, R_Md_init_181]
  have e : cl (640 : Int32) = 640 := by decide
  rw [e]
  refine ⟨⟨by decide, by decide⟩, ?_, k _ (h.step (p := 19) (by omega) rfl)⟩
  rw [sh_nw, if_neg (by have := h.2.1; omega)]
  exact h.1
theorem I_Md_20 {s : Nat} {v : Int32} (h : IniV M0 m 20 s v M) (k : ∀ M', IniV M0 m 21 (s + 8) v M' → wp F_Md_init 192 [.ref m, jk] [] M' Q) : wp F_Md_init 184 [.ref m, jk] [] M Q := by
  rw [R_Md_init_184, R_Md_init_185, R_Md_init_187, R_Md_init_189]
  have e : cl (8 : Int32) = 8 := by decide
  rw [e]
  refine ⟨⟨by decide, by decide⟩, ?_, k _ (h.step (p := 20) (by omega) rfl)⟩
  rw [sh_nw, if_neg (by have := h.2.1; omega)]
  exact h.1
theorem I_Md_21 {s : Nat} {v : Int32} (h : IniV M0 m 21 s v M) (k : ∀ M', IniV M0 m 22 (s + 96008) v M' → wp F_Md_init 200 [.ref m, jk] [] M' Q) : wp F_Md_init 192 [.ref m, jk] [] M Q := by
  rw [R_Md_init_192, R_Md_init_193, R_Md_init_195, R_Md_init_197]
  have e : cl (96008 : Int32) = 96008 := by decide
  rw [e]
  refine ⟨⟨by decide, by decide⟩, ?_, k _ (h.step (p := 21) (by omega) rfl)⟩
  rw [sh_nw, if_neg (by have := h.2.1; omega)]
  exact h.1
theorem I_Md_22 {s : Nat} {v : Int32} (h : IniV M0 m 22 s v M) (k : ∀ M', IniV M0 m 23 (s + 12001) v M' → wp F_Md_init 209 [.ref m, jk] [] M' Q) : wp F_Md_init 200 [.ref m, jk] [] M Q := by
  rw [R_Md_init_200, R_Md_init_201, R_Md_init_204, R_Md_init_206]
  have e : cl (12001 : Int32) = 12001 := by decide
  rw [e]
  refine ⟨⟨by decide, by decide⟩, ?_, k _ (h.step (p := 22) (by omega) rfl)⟩
  rw [sh_nw, if_neg (by have := h.2.1; omega)]
  exact h.1
theorem I_Md_23 {s : Nat} {v : Int32} (h : IniV M0 m 23 s v M) (k : ∀ M', IniV M0 m 24 (s + 12001) v M' → wp F_Md_init 218 [.ref m, jk] [] M' Q) : wp F_Md_init 209 [.ref m, jk] [] M Q := by
  rw [R_Md_init_209, R_Md_init_210, R_Md_init_213, R_Md_init_215]
  have e : cl (12001 : Int32) = 12001 := by decide
  rw [e]
  refine ⟨⟨by decide, by decide⟩, ?_, k _ (h.step (p := 23) (by omega) rfl)⟩
  rw [sh_nw, if_neg (by have := h.2.1; omega)]
  exact h.1
theorem I_Md_24 {s : Nat} {v : Int32} (h : IniV M0 m 24 s v M) (k : ∀ M', IniV M0 m 25 (s + 12001) v M' → wp F_Md_init 227 [.ref m, jk] [] M' Q) : wp F_Md_init 218 [.ref m, jk] [] M Q := by
  rw [R_Md_init_218, R_Md_init_219, R_Md_init_222, R_Md_init_224]
  have e : cl (12001 : Int32) = 12001 := by decide
  rw [e]
  refine ⟨⟨by decide, by decide⟩, ?_, k _ (h.step (p := 24) (by omega) rfl)⟩
  rw [sh_nw, if_neg (by have := h.2.1; omega)]
  exact h.1
theorem I_Md_25 {s : Nat} {v : Int32} (h : IniV M0 m 25 s v M) (k : ∀ M', IniV M0 m 26 (s + 12001) v M' → wp F_Md_init 236 [.ref m, jk] [] M' Q) : wp F_Md_init 227 [.ref m, jk] [] M Q := by
  rw [R_Md_init_227, R_Md_init_228, R_Md_init_231, R_Md_init_233]
  have e : cl (12001 : Int32) = 12001 := by decide
  rw [e]
  refine ⟨⟨by decide, by decide⟩, ?_, k _ (h.step (p := 25) (by omega) rfl)⟩
  rw [sh_nw, if_neg (by have := h.2.1; omega)]
  exact h.1
theorem I_Md_26 {s : Nat} {v : Int32} (h : IniV M0 m 26 s v M) (k : ∀ M', IniV M0 m 27 (s + 972081) v M' → wp F_Md_init 244 [.ref m, jk] [] M' Q) : wp F_Md_init 236 [.ref m, jk] [] M Q := by
  rw [R_Md_init_236, R_Md_init_237, R_Md_init_239, R_Md_init_241]
  have e : cl (972081 : Int32) = 972081 := by decide
  rw [e]
  refine ⟨⟨by decide, by decide⟩, ?_, k _ (h.step (p := 26) (by omega) rfl)⟩
  rw [sh_nw, if_neg (by have := h.2.1; omega)]
  exact h.1
theorem I_Md_27 {s : Nat} {v : Int32} (h : IniV M0 m 27 s v M) (k : ∀ M', IniV M0 m 28 (s + 12001) v M' → wp F_Md_init 253 [.ref m, jk] [] M' Q) : wp F_Md_init 244 [.ref m, jk] [] M Q := by
  rw [R_Md_init_244, R_Md_init_245, R_Md_init_248, R_Md_init_250]
  have e : cl (12001 : Int32) = 12001 := by decide
  rw [e]
  refine ⟨⟨by decide, by decide⟩, ?_, k _ (h.step (p := 27) (by omega) rfl)⟩
  rw [sh_nw, if_neg (by have := h.2.1; omega)]
  exact h.1
theorem I_Md_28 {s : Nat} {v : Int32} (h : IniV M0 m 28 s v M) (k : ∀ M', IniV M0 m 29 (s + 201) v M' → wp F_Md_init 262 [.ref m, jk] [] M' Q) : wp F_Md_init 253 [.ref m, jk] [] M Q := by
  rw [R_Md_init_253, R_Md_init_254, R_Md_init_257, R_Md_init_259]
  have e : cl (201 : Int32) = 201 := by decide
  rw [e]
  refine ⟨⟨by decide, by decide⟩, ?_, k _ (h.step (p := 28) (by omega) rfl)⟩
  rw [sh_nw, if_neg (by have := h.2.1; omega)]
  exact h.1
theorem I_Md_x {s : Nat} {v : Int32} (h : IniV M0 m 19 s v M) (k : ∀ M', IniV M0 m 19 s (-1) M' → wp F_Md_init 175 [.ref m, jk] [] M' Q) : wp F_Md_init 170 [.ref m, jk] [] M Q := by
  rw [R_Md_init_170, R_Md_init_171, R_Md_init_172]
  obtain ⟨h1, h2, h3, h4, h5, h6, h7⟩ := h
  refine ⟨h1, k _ ⟨h1, h2, h3, h4, fun b j b1 b2 b3 => by rw [gI_sI, if_neg b3]; exact h5 b j b1 b2 b3, by rw [gI_sI, if_pos ⟨rfl, rfl⟩], fun b hb => ?_⟩⟩
  obtain ⟨g1, g2, g3, g4⟩ := h7 b hb
  exact ⟨g1, fun j => by rw [gI_sI, if_neg (fun z => by omega)]; exact g2 j, g3, g4⟩
def sg0 : Sg := (([], 0, fun _ => none), (0, [], []), (0, 0, false, none), (fun _ => [], []))
theorem k_Md_init (h1 : sh M m = some (.inl 12)) (hn : nxt M = m + 1) (hz : ∀ j, gI M m j = 0) (hQ : ∀ M', MdV M' m sg0 → nxt M' = m + 30 → slo M' = slo M + 1399735 → (∀ b, b < m → sh M' b = sh M b ∧ (∀ j, gI M' b j = gI M b j) ∧ (∀ j, gJ M' b j = gJ M b j) ∧ ∀ j, gR M' b j = gR M b j) → Q none M') : wp F_Md_init 0 [.ref m, jk] [] M Q := by
  rw [R_Md_init_0, R_Md_init_1]
  have h0 : IniV M m 0 0 0 M := ⟨h1, hn, rfl, fun i hi => by omega, fun b j b1 b2 _ => by rw [show b = m by omega]; exact hz j, hz 39, fun b hb => ⟨rfl, fun _ => rfl, fun _ => rfl, fun _ => rfl⟩⟩
  refine I_Md_0 h0 ?_
  intro M1 g1
  refine I_Md_1 g1 ?_
  intro M2 g2
  refine I_Md_2 g2 ?_
  intro M3 g3
  refine I_Md_3 g3 ?_
  intro M4 g4
  refine I_Md_4 g4 ?_
  intro M5 g5
  refine I_Md_5 g5 ?_
  intro M6 g6
  refine I_Md_6 g6 ?_
  intro M7 g7
  refine I_Md_7 g7 ?_
  intro M8 g8
  refine I_Md_8 g8 ?_
  intro M9 g9
  refine I_Md_9 g9 ?_
  intro M10 g10
  refine I_Md_10 g10 ?_
  intro M11 g11
  refine I_Md_11 g11 ?_
  intro M12 g12
  refine I_Md_12 g12 ?_
  intro M13 g13
  refine I_Md_13 g13 ?_
  intro M14 g14
  refine I_Md_14 g14 ?_
  intro M15 g15
  refine I_Md_15 g15 ?_
  intro M16 g16
  refine I_Md_16 g16 ?_
  intro M17 g17
  refine I_Md_17 g17 ?_
  intro M18 g18
  refine I_Md_18 g18 ?_
  intro M19 g19
  refine I_Md_x g19 ?_
  intro Mx hx
  refine I_Md_19 hx ?_
  intro M20 g20
  refine I_Md_20 g20 ?_
  intro M21 g21
  refine I_Md_21 g21 ?_
  intro M22 g22
  refine I_Md_22 g22 ?_
  intro M23 g23
  refine I_Md_23 g23 ?_
  intro M24 g24
  refine I_Md_24 g24 ?_
  intro M25 g25
  refine I_Md_25 g25 ?_
  intro M26 g26
  refine I_Md_26 g26 ?_
  intro M27 g27
  refine I_Md_27 g27 ?_
  intro M28 g28
  refine I_Md_28 g28 ?_
  intro M29 g29
  obtain ⟨i1, i2, i3, i4, i5, i6, i7⟩ := g29
  have S : MdS M29 m := ⟨i1, i4⟩
  have c26 : (26 : Int32) = nI 26 := rfl
  have loop : ∀ d i M', i + d = 26 → FrS (fun b => b = m + 3) M29 M' → (∀ j, j < i → gI M' (m + 3) j = -1) → wp F_Md_init 264 [.ref m, .int (nI i)] [] M' Q := by
    intro d
    induction d with
    | zero =>
      intro i M' hi F' V'
      have e1 : nI 26 ≤ nI i := nI_le (by omega) (by omega)
      simp only [B_Md_init_264, B_Md_init_283, c26, e1, if_true]
      have z : ∀ b j, m ≤ b → b < m + 30 → b ≠ m + 3 → ¬ (b = m ∧ j = 39) → gI M' b j = 0 := fun b j b1 b2 b3 b4 => (F'.gI b3 _).trans (i5 b j b1 (by omega) b4)
      refine hQ M' ⟨S.fr F', ⟨z _ _ (by omega) (by omega) (by omega) (by omega), AR.nil⟩, ⟨z _ _ (by omega) (by omega) (by omega) (by omega), z _ _ (by omega) (by omega) (by omega) (by omega), fun j hj => V' j (by omega)⟩, ⟨z _ _ (by omega) (by omega) (by omega) (by omega), Nat.zero_le _, fun i hi => absurd hi (Nat.not_lt_zero i)⟩, ⟨0, z _ _ (by omega) (by omega) (by omega) (by omega), by omega, z _ _ (by omega) (by omega) (by omega) (by omega), Nat.zero_le _, fun k hk => absurd hk (Nat.not_lt_zero k)⟩, ⟨z _ _ (by omega) (by omega) (by omega) (by omega), z _ _ (by omega) (by omega) (by omega) (by omega), z _ _ (by omega) (by omega) (by omega) (by omega)⟩, (F'.gI (by omega) _).trans i6, fun i hi => ⟨z _ _ (by omega) (by omega) (by omega) (by omega), AR.nil⟩, ⟨z _ _ (by omega) (by omega) (by omega) (by omega), fun j hj => absurd hj (Nat.not_lt_zero j)⟩, ⟨false, z _ _ (by omega) (by omega) (by omega) (by omega), fun q => by cases q⟩⟩ (by rw [F'.nxt, i2]) (by rw [F'.slo, i3]) (fun b hb => ?_)
      obtain ⟨y1, y2, y3, y4⟩ := i7 b hb
      exact ⟨(F'.sh _).trans y1, fun j => (F'.gI (by omega) _).trans (y2 j), fun j => (F'.gJ _ _).trans (y3 j), fun j => (F'.gR _ _).trans (y4 j)⟩
    | succ d ih =>
      intro i M' hi F' V'
      have S' := S.fr F'
      have e1 : ¬ nI 26 ≤ nI i := nI_ge (by omega) (by omega)
      have xw : ixW M' (m + 3) (nI i) := ixW_of S'.number0.2 (by omega) (by omega)
      simp only [B_Md_init_264, SS, c26, e1, if_false, S'.1, S'.number0.1, xw, cl_nI (show i < 2147483648 by omega), true_and, nI_i1]
      rw [G_Md_init_280]
      refine ih (i + 1) _ (by omega) (F'.trans (FrS.sI rfl)) (fun j hj => ?_)
      rw [gI_sI]
      by_cases q : j = i
      · rw [if_pos ⟨rfl, q⟩]
      · rw [if_neg (fun y => q y.2)]; exact V' j (by omega)
  rw [R_Md_init_262, R_Md_init_263]
  simp only [SS]
  exact loop 26 0 M29 (by omega) FrS.rfl (fun j hj => by omega)
end MC
