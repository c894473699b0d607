theorem omin_lt {a b : Option Nat} {m : Nat} (ha : ∀ i, a = some i → i < m) (hb : ∀ i, b = some i → i < m) : ∀ i, omin a b = some i → i < m := by
  intro i hi
  cases a with
  | none => exact hb i hi
  | some x =>
    cases b with
    | none => exact ha i hi
    | some y =>
      cases hi
      have := ha x rfl
      have := hb y rfl
      omega
/-- the linking's rows in the store -/
def LkM (M1 : Mm) (A B C D N q : Nat) (full : Nat → Nat → Option Nat) (fl od : Nat → Nat) (en : Nat → Option Nat) : Prop := (∀ n e, n < N → e < 8 → gI M1 A (8 * n + e) = oI (full n e)) ∧ (∀ j, j < q → gI M1 B (od j) = nI (fl (od j))) ∧ (∀ j, j < q → gI M1 C j = nI (od j)) ∧ (∀ n, n < N → gI M1 D n = oI (en n)) ∧ (∀ n i, n < N → en n = some i → i < 2147483648) ∧ ∀ n e m, n < N → full n e = some m → m < 2147483648
theorem k_link {M : Mm} {mc A B C D cap N k : Nat} {rs : List Ru} {str : Nat → List Nat} {nx : Nat → Nat → Option Nat} {Q : Option Value → Mm → Prop} (h : MCS M mc A B C D cap) (hN : N ≤ cap) (g5 : gI M mc 5 = nI N) (g6 : gI M mc 6 = nI k) (hk : k ≤ 8) (T : TrR rs k N str nx) (hA : ∀ n e, n < N → e < 8 → gI M A (8 * n + e) = oI (nx n e)) (hD : ∀ n, n < N → gI M D n = oI (exAt rs (str n))) (hrs : rs.length ≤ 200)
    (hQ : ∀ M', FrS (fun b => b = A ∨ b = B ∨ b = C ∨ b = D) M M' → (∀ n e, n < N → e < k → ∃ m, m < N ∧ gI M' A (8 * n + e) = nI m ∧ str m = lsuf rs (str n ++ [e])) → (∀ n, n < N → gI M' D n = oI (endAt rs (str n))) → Q none M') : wp F_Machine_link 0 [.ref mc, jk, jk, jk, jk, jk, jk] [] M Q := by
  have hcap := h.2.2.2.2.2.2.1
  obtain ⟨n1, n2, n3, n4⟩ := h.ne
  obtain ⟨dAB, dAC, dAD, dBC, dBD, dCD⟩ := h.2.2.2.2.1
  have hN1 := T.1.1
  have nmc : ¬ (mc = A ∨ mc = B ∨ mc = C ∨ mc = D) := by intro q; omega
  have inner : ∀ d c, c + d = k → ∀ (hd q : Nat) (full : Nat → Nat → Option Nat) (fl od : Nat → Nat) (en : Nat → Option Nat) (M1 : Mm) (z5 z6 : Value), hd < q → LkI rs k N str nx full fl od en hd q c → LkM M1 A B C D N q full fl od en → FrS (fun b => b = A ∨ b = B ∨ b = C ∨ b = D) M M1 →
      (∀ (q : Nat) (full : Nat → Nat → Option Nat) (fl od : Nat → Nat) (en : Nat → Option Nat) (M1 : Mm) (z3 z4 z5 z6 : Value), hd < q → LkI rs k N str nx full fl od en hd q k → LkM M1 A B C D N q full fl od en → FrS (fun b => b = A ∨ b = B ∨ b = C ∨ b = D) M M1 → wp F_Machine_link 169 [.ref mc, .int (nI q), .int (nI hd), z3, z4, z5, z6] [] M1 Q) →
      wp F_Machine_link 41 [.ref mc, .int (nI q), .int (nI hd), .int (nI (od hd)), .int (nI c), z5, z6] [] M1 Q := by
    intro d
    induction d with
    | zero =>
      intro c hc hd q full fl od en M1 z5 z6 hq I R f kk
      have h1 := h.fr f (f.gI nmc 0)
      have e6 : gI M1 mc 6 = nI k := (f.gI nmc 6).trans g6
      have e1 : nI k ≤ nI c := nI_le (by omega) (by omega)
      simp only [B_Machine_link_41, h1.1, e6, e1, if_true, true_and]
      rw [show c = k by omega] at I
      exact kk q full fl od en M1 _ _ _ _ hq I R f
    | succ d ih =>
      intro c hc hd q full fl od en M1 z5 z6 hq I R f kk
      have h1 := h.fr f (f.gI nmc 0)
      obtain ⟨R1, R2, R3, R4, R5, R6⟩ := R
      have e6 : gI M1 mc 6 = nI k := (f.gI nmc 6).trans g6
      have e1 : ¬ nI k ≤ nI c := nI_ge (by omega) (by omega)
      have k8 : (8 : Int32) = nI 8 := rfl
      have odN : od hd < N := I.2.1.1 hd hq
      have flN : fl (od hd) < N := (I.2.2.2.2.2.2.2.2.1 hd hq).1
      have qN : q ≤ N := I.1.2.1
      obtain ⟨sN, sN1, sN2, sN3, sN4, sN5⟩ := I.shorter T hq (show c < k by omega)
      have i1 : ixI M1 A (nI (od hd * 8 + c)) := ixI_of h1.2.2.2.1.1 (by omega) (by omega)
      have i2 : ixW M1 A (nI (od hd * 8 + c)) := ixW_of h1.2.2.2.1.1 (by omega) (by omega)
      have i3 : ixI M1 B (nI (od hd)) := ixI_of h1.2.2.2.1.2.1 (by omega) (by omega)
      have cA : cl (nI (od hd * 8 + c)) = od hd * 8 + c := cl_nI (by omega)
      have hraw : full (od hd) c = nx (od hd) c := I.2.2.2.2.2.2.2.1 (od hd) c odN (fun j hj e => by have := I.2.1.2 j hd (by omega) hq e; omega) (fun y => by omega)
      have hlt : ∀ a, full (od hd) c = some a → a < 2147483648 := fun a ha => R6 _ _ _ odN ha
      -- to the place where 'shorter' is known
      have mid : (wp F_Machine_link 70 [.ref mc, .int (nI q), .int (nI hd), .int (nI (od hd)), .int (nI c), z5, z6] [.int (nI sN)] M1 Q) → wp F_Machine_link 41 [.ref mc, .int (nI q), .int (nI hd), .int (nI (od hd)), .int (nI c), z5, z6] [] M1 Q := by
        intro hm
        have q0 := nI_eq (show od hd < 2 ^ 31 by omega) (show 0 < 2 ^ 31 by omega)
        rw [nI_0] at q0
        simp only [B_Machine_link_41, SS, h1.1, e6, e1, if_false, true_and, k8, pk_mul, nI_add, q0]
        by_cases z : od hd = 0
        · rw [if_pos z]
          rw [sN2 z, nI_0] at hm
          exact hm
        · rw [if_neg z]
          simp only [B_Machine_link_58, SS, h1.1, h1.2.1.2.1, true_and, i3, cl_nI (show od hd < 2147483648 by omega), R2 hd hq]
          rw [k_after h1 (by omega), R1 _ c flN (by omega), sN3 z]
          simp only [SS, List.cons_append, List.nil_append, oI]
          exact hm
      refine mid ?_
      simp only [B_Machine_link_70, SS, h1.1, true_and]
      rw [k_after h1 (by omega), R1 _ c odN (by omega)]
      simp only [SS, List.cons_append, List.nil_append, B_Machine_link_70, oI_ge hlt]
      cases hnx : nx (od hd) c with
      | none =>
        rw [hraw, hnx]
        simp only [ne_eq, not_true_eq_false, if_false, h1.1, h1.2.1.1, SS, true_and, k8, pk_mul, nI_add, i2, cA, B_Machine_link_70, B_Machine_link_163, nI_i1]
        rw [G_Machine_link_166]
        refine ih (c + 1) (by omega) hd q (upd2 full (od hd) c (some sN)) fl od en _ _ _ hq (I.stay T hq hnx sN1 sN4) ⟨fun n e hn he => ?_, fun j hj => ?_, fun j hj => ?_, fun n hn => ?_, R5, fun n e m hn he => ?_⟩ (f.trans (FrS.sI (Or.inl rfl))) kk
        · rw [gI_sI]
          unfold upd2
          by_cases y : n = od hd ∧ e = c
          · rw [if_pos ⟨rfl, by rw [y.1, y.2]; omega⟩, if_pos y]; rfl
          · rw [if_neg (fun u => y (by omega)), if_neg y]; exact R1 n e hn he
        · rw [gI_sI, if_neg (fun u => dAB u.1.symm)]; exact R2 j hj
        · rw [gI_sI, if_neg (fun u => dAC u.1.symm)]; exact R3 j hj
        · rw [gI_sI, if_neg (fun u => dAD u.1.symm)]; exact R4 n hn
        · unfold upd2 at he
          split at he
          · cases he; omega
          · exact R6 n e m hn he
      | some m =>
        obtain ⟨I2, qN2, hfm, mN⟩ := I.child T hq hnx sN1 sN4 sN5
        rw [hfm]
        have e5 : gI M1 mc 5 = nI N := (f.gI nmc 5).trans g5
        have oS : oI (some m) = nI m := rfl
        have p1 : ¬ nI N ≤ nI m := nI_ge (by omega) (by omega)
        have p2 : ¬ nI N ≤ nI q := nI_ge (by omega) (by omega)
        have hf2 : FrS (fun b => b = A ∨ b = B ∨ b = C ∨ b = D) M (sI M1 B m (nI sN)) := f.trans (FrS.sI (Or.inr (Or.inl rfl)))
        have h2 := h.fr hf2 (hf2.gI nmc 0)
        have i4 : ixW M1 B (nI m) := ixW_of h1.2.2.2.1.2.1 (by omega) (by omega)
        have cm : cl (nI m) = m := cl_nI (by omega)
        have i5 : ixI (sI M1 B m (nI sN)) D (nI m) := ixI_of h1.2.2.2.1.2.2.2 (by omega) (by omega)
        have i7 : ixW (sI M1 B m (nI sN)) D (nI m) := ixW_of h1.2.2.2.1.2.2.2 (by omega) (by omega)
        have dDB : ¬ D = B := fun u => dBD u.symm
        simp only [ne_eq, reduceCtorEq, not_false_eq_true, if_true, B_Machine_link_103, SS, oS, h1.1, h1.2.1.2.1, h1.2.1.2.2.2, e5, p1, p2, true_and, i4, cm, i5, dDB, false_and, if_false, R4 m mN]
        rw [k_ruleAt h2 (by omega)]
        simp only [SS, List.cons_append, List.nil_append, B_Machine_link_103, dDB, false_and, if_false, R4 sN sN1]
        rw [k_leastRule (fun i hi => R5 m i mN hi) (fun i hi => R5 sN i sN1 hi)]
        have i8 : ixW (sI (sI M1 B m (nI sN)) D m (oI (omin (en m) (en sN)))) C (nI q) := ixW_of h1.2.2.2.1.2.2.1 (by omega) (by omega)
        simp only [SS, List.cons_append, List.nil_append, B_Machine_link_103, h1.1, h1.2.1.2.2.1, true_and, i7, cm, i8, cl_nI (show q < 2147483648 by omega), nI_i1, B_Machine_link_163]
        rw [G_Machine_link_166]
        have odO : ∀ j, j < q → upd1 od q m j = od j := fun j hj => by unfold upd1; rw [if_neg (by omega)]
        have odQ : upd1 od q m q = m := by unfold upd1; rw [if_pos rfl]
        have hodh : od hd = upd1 od q m hd := (odO hd hq).symm
        have fresh : ∀ j, j < q → od j ≠ m := fun j hj e => by
          have := I2.2.1.2 j q (by omega) (by omega) (by rw [odO j hj, odQ]; exact e)
          omega
        have key := ih (c + 1) (by omega) hd (q + 1) full (upd1 fl m sN) (upd1 od q m) (upd1 en m (omin (en m) (en sN))) (sI (sI (sI M1 B m (nI sN)) D m (oI (omin (en m) (en sN)))) C q (nI m)) (.int (nI sN)) (.int (nI m)) (by omega) I2 ⟨fun n e hn he => ?_, fun j hj => ?_, fun j hj => ?_, fun n hn => ?_, fun n i hn hi => ?_, R6⟩ (((f.trans (FrS.sI (Or.inr (Or.inl rfl)))).trans (FrS.sI (Or.inr (Or.inr (Or.inr rfl))))).trans (FrS.sI (Or.inr (Or.inr (Or.inl rfl))))) kk
        · rw [← hodh] at key
          exact key
        · rw [gI_sI, if_neg (fun u => dAC u.1), gI_sI, if_neg (fun u => dAD u.1), gI_sI, if_neg (fun u => dAB u.1)]; exact R1 n e hn he
        · rw [gI_sI, if_neg (fun u => dBC u.1), gI_sI, if_neg (fun u => dBD u.1), gI_sI]
          by_cases y : j = q
          · rw [y, odQ, if_pos ⟨rfl, rfl⟩]; unfold upd1; rw [if_pos rfl]
          · rw [odO j (by omega), if_neg (fun u => fresh j (by omega) u.2)]
            unfold upd1
            rw [if_neg (fresh j (by omega))]
            exact R2 j (by omega)
        · rw [gI_sI]
          by_cases y : j = q
          · rw [if_pos ⟨rfl, y⟩, y, odQ]
          · rw [if_neg (fun u => y u.2), gI_sI, if_neg (fun u => dCD u.1), gI_sI, if_neg (fun u => dBC u.1.symm), odO j (by omega)]
            exact R3 j (by omega)
        · rw [gI_sI, if_neg (fun u => dCD u.1.symm), gI_sI]
          unfold upd1
          by_cases y : n = m
          · rw [if_pos ⟨rfl, y⟩, if_pos y]
          · rw [if_neg (fun u => y u.2), if_neg y, gI_sI, if_neg (fun u => dBD u.1.symm)]
            exact R4 n hn
        · unfold upd1 at hi
          split at hi
          · exact omin_lt (fun i hi => R5 m i mN hi) (fun i hi => R5 sN i sN1 hi) i hi
          · exact R5 n i hn hi
  have outer : ∀ d hd, hd + d = N → ∀ (q : Nat) (full : Nat → Nat → Option Nat) (fl od : Nat → Nat) (en : Nat → Option Nat) (M1 : Mm) (z3 z4 z5 z6 : Value), LkI rs k N str nx full fl od en hd q 0 → LkM M1 A B C D N q full fl od en → FrS (fun b => b = A ∨ b = B ∨ b = C ∨ b = D) M M1 → wp F_Machine_link 18 [.ref mc, .int (nI q), .int (nI hd), z3, z4, z5, z6] [] M1 Q := by
    intro d
    induction d with
    | zero =>
      intro hd hde q full fl od en M1 z3 z4 z5 z6 I R f
      have h1 := h.fr f (f.gI nmc 0)
      have e5 : gI M1 mc 5 = nI N := (f.gI nmc 5).trans g5
      have e1 : nI N ≤ nI hd := nI_le (by omega) (by omega)
      have hqq : hd = q := by have := I.1.2.1; have := I.1.2.2.2; omega
      rw [hqq] at I
      obtain ⟨x1, x2⟩ := I.fin T
      simp only [B_Machine_link_18, B_Machine_link_175, h1.1, e5, e1, if_true, true_and]
      exact hQ M1 f (fun n e hn he => by obtain ⟨m, y1, y2, y3⟩ := x1 n e hn he; exact ⟨m, y1, by rw [R.1 n e hn (by omega), y2]; rfl, y3⟩) (fun n hn => by rw [R.2.2.2.1 n hn, x2 n hn])
    | succ d ih =>
      intro hd hde q full fl od en M1 z3 z4 z5 z6 I R f
      have h1 := h.fr f (f.gI nmc 0)
      have e5 : gI M1 mc 5 = nI N := (f.gI nmc 5).trans g5
      have e1 : ¬ nI N ≤ nI hd := nI_ge (by omega) (by omega)
      have qN : q ≤ N := I.1.2.1
      have e2 := nI_leI (show q < 2 ^ 31 by omega) (show hd < 2 ^ 31 by omega)
      by_cases hqq : q ≤ hd
      · have hq2 : hd = q := by have := I.1.2.2.2; omega
        rw [hq2] at I
        obtain ⟨x1, x2⟩ := I.fin T
        simp only [B_Machine_link_18, B_Machine_link_175, h1.1, e5, e1, if_false, true_and, e2, hqq, if_true]
        exact hQ M1 f (fun n e hn he => by obtain ⟨m, y1, y2, y3⟩ := x1 n e hn he; exact ⟨m, y1, by rw [R.1 n e hn (by omega), y2]; rfl, y3⟩) (fun n hn => by rw [R.2.2.2.1 n hn, x2 n hn])
      · have i1 : ixI M1 C (nI hd) := ixI_of h1.2.2.2.1.2.2.1 (by omega) (by omega)
        simp only [B_Machine_link_18, SS, h1.1, h1.2.1.2.2.1, e5, e1, if_false, true_and, e2, hqq, i1, cl_nI (show hd < 2147483648 by omega), R.2.2.1 hd (by omega), ← nI_0]
        refine inner k 0 (by omega) hd q full fl od en M1 _ _ (by omega) I R f ?_
        intro q' full' fl' od' en' M2 y3 y4 y5 y6 hq' I' R' f'
        simp only [B_Machine_link_169, nI_i1]
        rw [G_Machine_link_172]
        exact ih (hd + 1) (by omega) q' full' fl' od' en' M2 _ _ _ _ (I'.next T hq') R' f'
  have j1 : ixW M B (nI 0) := ixW_of h.2.2.2.1.2.1 (by omega) (by omega)
  have j2 : ixW (sI M B 0 (nI 0)) C (nI 0) := ixW_of h.2.2.2.1.2.2.1 (by omega) (by omega)
  have k1 : (1 : Int32) = nI 1 := rfl
  simp only [B_Machine_link_0, SS, h.1, h.2.1.2.1, h.2.1.2.2.1, true_and, ← nI_0, j1, cl_nI (show 0 < 2147483648 by omega), j2, k1]
  have en0 : endAt rs [] = none := endAt_nil (fun u hu hl => (T.2.2.2 u hu hl).1)
  have ex0 : exAt rs [] = none := by
    unfold exAt
    rw [List.findIdx?_eq_none_iff]
    intro u hu
    cases hl : u.2.2 with
    | false => rfl
    | true =>
      rw [Bool.true_and, beq_eq_false_iff_ne]
      exact (T.2.2.2 u hu hl).1
  refine outer N 0 (by omega) 1 nx (fun _ => 0) (fun _ => 0) (fun n => exAt rs (str n)) _ _ _ _ _ ⟨⟨by omega, hN1, rfl, by omega⟩, ⟨fun j hj => hN1, fun i j hi hj _ => by omega⟩, fun i j _ _ => Nat.le_refl _, fun _ j _ => Nat.le_succ _, fun j e hj => by omega, fun j e m hj _ => by omega, fun i i1 i2 => by omega, fun n e _ _ _ => rfl, fun j hj => ⟨hN1, ?_⟩, fun j hj => ?_, fun n hn _ => rfl⟩ ⟨fun n e hn he => ?_, fun j hj => ?_, fun j hj => ?_, fun n hn => ?_, fun n i hn hi => ?_, fun n e m hn he => ?_⟩ ((FrS.sI (Or.inr (Or.inl rfl))).trans (FrS.sI (Or.inr (Or.inr (Or.inl rfl)))))
  · show str 0 = lsuf rs (str 0).tail
    rw [T.1.2.1]; rfl
  · show exAt rs (str 0) = endAt rs (str 0)
    rw [T.1.2.1, en0, ex0]
  · rw [gI_sI, if_neg (fun u => dAC u.1), gI_sI, if_neg (fun u => dAB u.1)]; exact hA n e hn he
  · rw [gI_sI, if_neg (fun u => dBC u.1), gI_sI, if_pos ⟨rfl, rfl⟩]
  · rw [gI_sI, if_pos ⟨rfl, by omega⟩]
  · rw [gI_sI, if_neg (fun u => dCD u.1.symm), gI_sI, if_neg (fun u => dBD u.1.symm)]; exact hD n hn
  · obtain ⟨hi2, -⟩ := List.findIdx?_eq_some_iff_getElem.mp hi
    omega
  · have := (T.1.2.2.1 n e m hn he).1
    omega
