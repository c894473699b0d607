/-- what insert leaves -/
def Ins (M M' : Mm) (mc A D w N N' n' : Nat) (str str' : Nat → List Nat) (nx' : Nat → Nat → Option Nat) (en : Nat → Option Nat) (l : List Nat) (r : Nat) : Prop :=
  FrS (fun b => b = mc ∨ b = A ∨ b = D) M M' ∧ (∀ k, k ≠ 5 → gI M' mc k = gI M mc k) ∧ gI M' mc 5 = nI N' ∧ Trie N' str' nx' ∧ TrM M' A N' nx' w ∧ N ≤ N' ∧ N' ≤ N + l.length ∧ n' < N' ∧ str' n' = l ∧ (∀ n, n < w → gI M' D n = oI (upd1 en n' (omin (en n') (some r)) n)) ∧
  (∀ n, n < N → str' n = str n) ∧ (∀ n, N ≤ n → n < N' → ∃ i, i ≤ l.length ∧ str' n = l.take i) ∧ ∀ i, i ≤ l.length → ∃ n, n < N' ∧ str' n = l.take i
theorem k_insert {M : Mm} {mc A B C D cap w N v r : Nat} {str : Nat → List Nat} {nx : Nat → Nat → Option Nat} {en : Nat → Option Nat} {l : List Nat} {Q : Option Value → Mm → Prop} (h : MCS M mc A B C D cap) (hw : w ≤ cap) (sv : WS M v 60) (vv : WV M v l) (hl : l.length ≤ 60) (h8 : ∀ c ∈ l, c < 8) (hT : Trie N str nx) (hM : TrM M A N nx w) (hN : gI M mc 5 = nI N) (hNw : N + l.length ≤ w) (he : ∀ n, n < w → gI M D n = oI (en n)) (hen : ∀ n i, en n = some i → i < 2147483648) (hr : r < 2147483648)
    (hv : ¬ (v = mc ∨ v = A ∨ v = D) ∧ ¬ (v + 1 = mc ∨ v + 1 = A ∨ v + 1 = D))
    (hQ : ∀ N' n' str' nx' M', Ins M M' mc A D w N N' n' str str' nx' en l r → Q none M') : wp F_Machine_insert 0 [.ref mc, .ref v, .int (nI r), jk, jk, jk] [] M Q := by
  have hcap := h.2.2.2.2.2.2.1
  obtain ⟨n1, n2, n3, n4⟩ := h.ne
  have hAD : A ≠ D := h.2.2.2.2.1.2.2.1
  have loop : ∀ d j, j + d = l.length → ∀ (Nj cur : Nat) (sj : Nat → List Nat) (nj : Nat → Nat → Option Nat) (M1 : Mm) (z : Value), FrS (fun b => b = mc ∨ b = A) M M1 → (∀ k, k ≠ 5 → gI M1 mc k = gI M mc k) → gI M1 mc 5 = nI Nj → Trie Nj sj nj → TrM M1 A Nj nj w → N ≤ Nj → Nj ≤ N + j → cur < Nj → sj cur = l.take j → (∀ n, n < N → sj n = str n) → (∀ n, N ≤ n → n < Nj → ∃ i, i ≤ j ∧ sj n = l.take i) → (∀ i, i ≤ j → ∃ n, n < Nj ∧ sj n = l.take i) → wp F_Machine_insert 5 [.ref mc, .ref v, .int (nI r), .int (nI cur), .int (nI j), z] [] M1 Q := by
    intro d
    induction d with
    | zero =>
      intro j hj Nj cur sj nj M1 z f k5 g5 T1 T2 b1 b2 b3 b4 b5 b6 b7
      have h1 := h.fr f (k5 0 (by omega))
      have v1 := vv.fr f (fun q => hv.1 (q.elim Or.inl (fun z => Or.inr (Or.inl z)))) (fun q => hv.2 (q.elim Or.inl (fun z => Or.inr (Or.inl z))))
      have s1 := sv.fr f
      have e1 : nI l.length ≤ nI j := nI_le (by omega) (by omega)
      have gD : gI M1 D cur = oI (en cur) := by
        rw [f.gI (fun q => q.elim n4 (fun z => hAD z.symm))]
        exact he cur (by omega)
      have i1 : ixI M1 D (nI cur) := ixI_of h1.2.2.2.1.2.2.2 (by omega) (by omega)
      have i2 : ixW M1 D (nI cur) := ixW_of h1.2.2.2.1.2.2.2 (by omega) (by omega)
      have er : nI r = oI (some r) := rfl
      have p1 : ¬ nI cap ≤ nI cur := nI_ge (by omega) (by omega)
      simp only [B_Machine_insert_5, B_Machine_insert_88, SS, h1.1, h1.2.1.2.2.2, h1.2.2.2.1.2.2.2, s1.1, v1.1, e1, p1, if_true, if_false, true_and, i1, cl_nI (show cur < 2147483648 by omega), gD]
      rw [er, k_leastRule (fun i hi => hen _ _ hi) (fun i hi => by cases hi; exact hr)]
      simp only [SS, List.cons_append, List.nil_append, B_Machine_insert_88, B_Machine_insert_113, i2, true_and, cl_nI (show cur < 2147483648 by omega)]
      have hlj : l.take j = l := List.take_of_length_le (by omega)
      refine hQ Nj cur sj nj _ ⟨(f.weaken (fun b q => q.elim Or.inl (fun z => Or.inr (Or.inl z)))).trans (FrS.sI (Or.inr (Or.inr rfl))), fun k hk => ?_, ?_, T1, ⟨fun n c hn hc => ?_, T2.2⟩, b1, by omega, b3, by rw [b4, hlj], fun n hn => ?_, b5, fun n x y => ?_, fun i hi => b7 i (by omega)⟩
      · rw [gI_sI, if_neg (fun q => n4 q.1.symm)]; exact k5 k hk
      · rw [gI_sI, if_neg (fun q => n4 q.1.symm)]; exact g5
      · rw [gI_sI, if_neg (fun q => hAD q.1)]; exact T2.1 n c hn hc
      · rw [gI_sI]
        unfold upd1
        by_cases q : n = cur
        · rw [if_pos ⟨rfl, q⟩, if_pos q]
        · rw [if_neg (fun z => q z.2), if_neg q, f.gI (fun q => q.elim n4 (fun z => hAD z.symm))]
          exact he n hn
      · obtain ⟨i, hi, e⟩ := b6 n x y
        exact ⟨i, by omega, e⟩
    | succ d ih =>
      intro j hj Nj cur sj nj M1 z f k5 g5 T1 T2 b1 b2 b3 b4 b5 b6 b7
      have h1 := h.fr f (k5 0 (by omega))
      have v1 := vv.fr f (fun q => hv.1 (q.elim Or.inl (fun z => Or.inr (Or.inl z)))) (fun q => hv.2 (q.elim Or.inl (fun z => Or.inr (Or.inl z))))
      have s1 := sv.fr f
      have e1 : ¬ nI l.length ≤ nI j := nI_ge (by omega) (by omega)
      have c8 : l.getD j 0 < 8 := by
        rw [List.getD_eq_getElem?_getD, List.getElem?_eq_getElem (show j < l.length by omega)]
        exact h8 _ (List.getElem_mem _)
      generalize hc : l.getD j 0 = c at c8
      have i0 : ixB M1 (v + 1) (nI j) := ixB_of s1.2.2 (by omega) (by omega)
      have i1 : ixI M1 A (nI (cur * 8 + c)) := ixI_of h1.2.2.2.1.1 (by omega) (by omega)
      have i2 : ixW M1 A (nI (cur * 8 + c)) := ixW_of h1.2.2.2.1.1 (by omega) (by omega)
      have k8 : (8 : Int32) = nI 8 := rfl
      have gA : gI M1 A (cur * 8 + c) = oI (nj cur c) := by rw [Nat.mul_comm]; exact T2.1 cur c (by omega) c8
      have hlt : ∀ a, nj cur c = some a → a < 2147483648 := fun a ha => by have := (T1.2.2.1 cur c a b3 ha).1; omega
      have hst : l.take (j + 1) = l.take j ++ [c] := by rw [take_succ_getD 0 (by omega), hc]
      have p1 : ¬ nI (8 * cap) ≤ nI (cur * 8 + c) := nI_ge (by omega) (by omega)
      -- the step behind: the node behind is read again
      have go : ∀ (M2 : Mm), MCS M2 mc A B C D cap → WS M2 v 60 → WV M2 v l → wp F_Machine_insert 5 [.ref mc, .ref v, .int (nI r), .int (gI M2 A (8 * cur + c)), .int (nI (j + 1)), .int (nI (cur * 8 + c))] [] M2 Q → wp F_Machine_insert 69 [.ref mc, .ref v, .int (nI r), .int (nI cur), .int (nI j), .int (nI (cur * 8 + c))] [] M2 Q := by
        intro M2 h2 s2 v2 hg
        have j0 : ixB M2 (v + 1) (nI j) := ixB_of s2.2.2 (by omega) (by omega)
        simp only [B_Machine_insert_69, SS, h2.1, s2.1, s2.2.1, true_and, j0, cl_nI (show j < 2147483648 by omega), v2.2.1 j (by omega), hc]
        rw [k_after h2 (by omega)]
        simp only [SS, List.cons_append, List.nil_append, B_Machine_insert_69, nI_i1]
        rw [G_Machine_insert_85]
        exact hg
      simp only [B_Machine_insert_5, SS, h1.1, h1.2.1.1, h1.2.2.2.1.1, s1.1, s1.2.1, v1.1, e1, p1, if_false, true_and, i0, cl_nI (show j < 2147483648 by omega), v1.2.1 j (by omega), hc, k8, pk_mul, nI_add, i1, cl_nI (show cur * 8 + c < 2147483648 by omega), gA, oI_ge hlt]
      cases hnx : nj cur c with
      | some m =>
        obtain ⟨m1, m2⟩ := T1.2.2.1 cur c m b3 hnx
        rw [hnx] at gA
        have gA : gI M1 A (8 * cur + c) = nI m := by rw [Nat.mul_comm]; exact gA
        simp only [ne_eq, reduceCtorEq, not_false_eq_true, if_true]
        refine go M1 h1 s1 v1 ?_
        rw [gA]
        exact ih (j + 1) (by omega) Nj m sj nj M1 _ f k5 g5 T1 T2 b1 (by omega) m1 (by rw [m2, b4, hst]) b5 (fun n x y => by obtain ⟨i, hi, e⟩ := b6 n x y; exact ⟨i, by omega, e⟩) (fun i hi => by
          by_cases q : i = j + 1
          · exact ⟨m, m1, by rw [m2, b4, q, hst]⟩
          · exact b7 i (by omega))
      | none =>
        simp only [ne_eq, not_true_eq_false, if_false, SS, h1.1, h1.2.1.1, i2, true_and, cl_nI (show cur * 8 + c < 2147483648 by omega), g5, B_Machine_insert_5, nI_i1]
        have nmA : ¬ mc = A := fun q => n1 q.symm
        simp only [nmA, false_and, if_false, g5, nI_i1]
        have f2 : FrS (fun b => b = mc ∨ b = A) M (sI (sI M1 A (cur * 8 + c) (nI Nj)) mc 5 (nI (Nj + 1))) := (f.trans (FrS.sI (Or.inr rfl))).trans (FrS.sI (Or.inl rfl))
        have h2 := h.fr f2 (by rw [gI_sI, if_neg (by omega), gI_sI, if_neg (fun q => nmA q.1)]; exact k5 0 (by omega))
        have v2 := vv.fr f2 (fun q => hv.1 (q.elim Or.inl (fun z => Or.inr (Or.inl z)))) (fun q => hv.2 (q.elim Or.inl (fun z => Or.inr (Or.inl z))))
        have s2 := sv.fr f2
        refine go _ h2 s2 v2 ?_
        rw [gI_sI (M := sI M1 A (cur * 8 + c) (nI Nj)), if_neg (fun q => n1 q.1), gI_sI, if_pos ⟨rfl, by omega⟩]
        have T3 := T1.add b3 hnx (fun c => T2.2.1 Nj c (Nat.le_refl _))
        have sN : upd1 sj Nj (sj cur ++ [c]) Nj = sj cur ++ [c] := by unfold upd1; rw [if_pos rfl]
        have sO : ∀ n, n < Nj → upd1 sj Nj (sj cur ++ [c]) n = sj n := fun n hn => by unfold upd1; rw [if_neg (by omega)]
        refine ih (j + 1) (by omega) (Nj + 1) Nj (upd1 sj Nj (sj cur ++ [c])) (upd2 nj cur c (some Nj)) _ _ f2 (fun k hk => ?_) ?_ T3 ⟨fun n e hn he2 => ?_, fun n e hn => ?_, fun n e he2 => ?_⟩ (by omega) (by omega) (by omega) (by rw [sN, b4, hst]) (fun n hn => by rw [sO n (by omega)]; exact b5 n hn) (fun n x y => ?_) (fun i hi => ?_)
        · rw [gI_sI, if_neg (fun q => hk q.2), gI_sI, if_neg (fun q => nmA q.1)]; exact k5 k hk
        · rw [gI_sI, if_pos ⟨rfl, rfl⟩]
        · rw [gI_sI, if_neg (fun q => n1 q.1), gI_sI]
          unfold upd2
          by_cases q : n = cur ∧ e = c
          · rw [if_pos ⟨rfl, by rw [q.1, q.2]; omega⟩, if_pos q]; rfl
          · rw [if_neg (fun z => q (by omega)), if_neg q]; exact T2.1 n e hn he2
        · unfold upd2
          rw [if_neg (fun q => by omega)]
          exact T2.2.1 n e (by omega)
        · unfold upd2
          rw [if_neg (fun q => by omega)]
          exact T2.2.2 n e he2
        · by_cases q : n = Nj
          · exact ⟨j + 1, by omega, by rw [q, sN, b4, hst]⟩
          · obtain ⟨i, hi, e⟩ := b6 n x (by omega)
            exact ⟨i, by omega, by rw [sO n (by omega)]; exact e⟩
        · by_cases q : i = j + 1
          · exact ⟨Nj, by omega, by rw [sN, b4, q, hst]⟩
          · obtain ⟨n, hn, e⟩ := b7 i (by omega)
            exact ⟨n, by omega, by rw [sO n hn]; exact e⟩
  simp only [B_Machine_insert_0, SS, ← nI_0]
  exact loop l.length 0 (by omega) N 0 str nx M _ FrS.rfl (fun _ _ => rfl) hN hT hM (Nat.le_refl _) (by omega) hT.1 (by rw [hT.2.1, List.take_zero]) (fun _ _ => rfl) (fun n x y => by omega) (fun i hi => ⟨0, hT.1, by rw [hT.2.1, show i = 0 by omega, List.take_zero]⟩)
