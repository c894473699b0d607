/-! the reference's calls: a word's number, products -/
abbrev pdZ (m b : Nat) : Prop := b = m ∨ b = m + 14 ∨ b = m + 15 ∨ b = m + 18 ∨ b = m + 19 ∨ (m + 22 ≤ b ∧ b ≤ m + 28)
theorem pdY {M M' : Mm} {m : Nat} (h : FrZ (pdZ m) M M') : Yfr M M' m := h.weaken (fun b q => by unfold pdZ at q; omega)
theorem cnP {M M' : Mm} {m : Nat} (h : FrZ (cnZ m) M M') : FrZ (pdZ m) M M' := h.weaken (fun b q => by unfold cnZ at q; unfold pdZ; omega)
section MC
variable {M : Mm} {m : Nat} {σ : Sg} {Q : Option Value → Mm → Prop}
theorem rkL_lt {rs : List Ru} {k : Nat} : True := trivial
set_option maxHeartbeats 2000000 in
theorem k_numberOf {l : List Nat} (h : MdV M m σ) (hI : SgI σ) (hr : sRow σ = []) (hs : sSt σ = false) (hA : AR M (m + 14) 0 l) (hl : l.length ≤ 80) (hlk : ∀ c ∈ l, c < sK σ) (hQ : ∀ M', MdV M' m σ → FrZ (pdZ m) M M' → Q (some (.int (nbI (nbW (sRs σ) (sK σ) l)))) M') : wp F_Md_numberOf 0 [.ref m, .int (nI l.length), jk, jk, jk, jk, jk, jk] [] M Q := by
  simp only [B_Md_numberOf_0, h.1.1, true_and]
  refine k_counted h hI hr hs ?_
  intro M1 V1 C1 F1
  obtain ⟨⟨N, str, n1, n2, n3, n4, n5⟩, -, -⟩ := C1
  have S1 := V1.1
  have hk8 := hI.2.2.1.2.1
  have hw := hI.2.2.1
  have A1 : AR M1 (m + 14) 0 l := hA.eq (fun j => (F1.2.2.2.2 _ (by unfold cnZ; omega)).1 j)
  have c12 : (12001 : Int32) = nI 12001 := rfl
  have c8 : (8 : Int32) = nI 8 := rfl
  have hC : CAP = 1000000000000001 := rfl
  have l0 : (0 : Int64) = lN 0 := by decide
  have lB : (2147483647 : Int64) = lN 2147483647 := by decide
  simp only [SS, Option.toList_none, List.nil_append, B_Md_numberOf_0, S1.1, S1.one.1, true_and]
  refine k_mShrink S1 V1.2.2.2.1 hw (Or.inl rfl) A1 (by omega) hlk ?_ ?_
  · intro hf M2 N2
    simp only [SS, List.cons_append, List.nil_append, B_Md_numberOf_0, if_true]
    have := hQ M2 (V1.scr (N2.scr (Or.inl rfl))) ((cnP F1).trans (N2.1.z.weaken (fun b q => by unfold skS at q; unfold pdZ; omega)))
    unfold nbW at this
    rw [hf] at this
    exact this
  · intro w tr hf hwl hwk M2 N2 A2 g31 tr2
    have V2 := V1.scr (N2.scr (Or.inl rfl))
    have S2 := V2.1
    have FF : FrZ (pdZ m) M M2 := (cnP F1).trans (N2.1.z.weaken (fun b q => by unfold skS at q; unfold pdZ; omega))
    have hirr := form_irr hw (show l.length ≤ 120 by omega) hf hwk
    have hq := hQ M2 V2 FF
    unfold nbW at hq
    rw [hf] at hq
    simp only at hq
    have n4' : ∀ n e, n < N → e < sK σ → ∃ q, q < N ∧ gI M2 (m + 22) (8 * n + e) = nI q ∧ str q = lsuf (sRs σ) (str n ++ [e]) := fun n e hn he => by
      obtain ⟨q, q1, q2, q3⟩ := n4 n e hn he
      exact ⟨q, q1, (N2.1.gI (by unfold skS; omega) _).trans q2, q3⟩
    have n5' : ∀ r n, r ≤ 80 → n < N → gJ M2 (m + 27) (12001 * r + n) = lN (cp (wy (sRs σ) (sK σ) r (str n))) := fun r n h1 h2 => (N2.1.gJ _ _).trans (n5 r n h1 h2)
    simp only [SS, List.cons_append, List.nil_append, B_Md_numberOf_0, nI_ne1 (show w.length < 2147483648 by omega), if_false, B_Md_numberOf_22, ← nI_0, l0]
    -- the end
    have fin : ∀ (l5 l6 l7 : Value), wp F_Md_numberOf 148 [.ref m, .int (nI l.length), .int (nI w.length), .long (lN (cp (rkT (sRs σ) (sK σ) w).sum)), jk, l5, l6, l7] [] M2 Q := by
      intro l5 l6 l7
      have cpl := cp_le (rkT (sRs σ) (sK σ) w).sum
      have hcp : (cp (rkT (sRs σ) (sK σ) w).sum ≤ 2147483647) = ((rkT (sRs σ) (sK σ) w).sum ≤ 2147483647) := by unfold cp; exact propext (by omega)
      simp only [B_Md_numberOf_148, lB, lcLe (show cp (rkT (sRs σ) (sK σ) w).sum < 9223372036854775808 by omega) (show 2147483647 < 9223372036854775808 by omega), hcp]
      unfold nmb at hq
      by_cases z : (rkT (sRs σ) (sK σ) w).sum ≤ 2147483647
      · rw [if_pos z] at hq
        rw [if_pos z]
        simp only [B_Md_numberOf_161, B_Md_numberOf_163]
        rw [show cp (rkT (sRs σ) (sK σ) w).sum = (rkT (sRs σ) (sK σ) w).sum by unfold cp; omega, lN_i]
        exact hq
      · rw [if_neg z] at hq
        rw [if_neg z]
        simp only [B_Md_numberOf_148, B_Md_numberOf_163]
        exact hq
    -- the letters
    have letters : ∀ (d p q S : Nat) (l7 : Value), p + d = w.length → q < N → (rkT (sRs σ) (sK σ) w).sum = S + (rkL (sRs σ) (sK σ) (str q) (w.drop p)).sum → wp F_Md_numberOf 61 [.ref m, .int (nI l.length), .int (nI w.length), .long (lN (cp S)), jk, .int (nI q), .int (nI p), l7] [] M2 Q := by
      intro d
      induction d with
      | zero =>
        intro p q S l7 hp hq' hT
        have e1 : nI w.length ≤ nI p := nI_le (by omega) (by omega)
        simp only [B_Md_numberOf_61, e1, if_true]
        rw [List.drop_eq_nil_of_le (by omega)] at hT
        simp only [rkL, List.sum_nil, Nat.add_zero] at hT
        rw [← hT]
        exact fin _ _ _
      | succ d ih =>
        intro p q S l7 hp hq' hT
        have e1 : ¬ nI w.length ≤ nI p := nI_ge (by omega) (by omega)
        simp only [B_Md_numberOf_61, SS, e1, if_false, ← nI_0]
        have hck : w.getD p 0 < sK σ := by
          rw [List.getD_eq_getElem?_getD, List.getElem?_eq_getElem (show p < w.length by omega)]
          exact hwk _ (List.getElem_mem _)
        have gw : gI M2 (m + 14) p = nI (w.getD p 0) := by
          have := A2 p (by omega)
          rwa [Nat.zero_add] at this
        rw [drop_getD (show p < w.length by omega)] at hT
        have htl : (w.drop (p + 1)).length = d := by rw [List.length_drop]; omega
        generalize hcc : w.getD p 0 = c at hck gw hT
        rw [rkL, htl, List.sum_append] at hT
        have x1 : ixI M2 (m + 14) (nI p) := ixI_of S2.one.2 (by omega) (by omega)
        have clp := cl_nI (show p < 2147483648 by omega)
        have en : nI w.length - nI p - 1 = nI d := by
          rw [pk_sub (show p ≤ w.length by omega), show w.length - p = d + 1 by omega]; exact nI_pred d
        have inner : ∀ n e S', e + n = c → S' = S + ((List.range e).map (fun d' => wy (sRs σ) (sK σ) d (lsuf (sRs σ) (str q ++ [d'])))).sum → wp F_Md_numberOf 70 [.ref m, .int (nI l.length), .int (nI w.length), .long (lN (cp S')), jk, .int (nI q), .int (nI p), .int (nI e)] [] M2 Q := by
          intro n
          induction n with
          | zero =>
            intro e S' he hS'
            have e2 : nI c ≤ nI e := nI_le (by omega) (by omega)
            obtain ⟨t, t1, t2, t3⟩ := n4' q c hq' hck
            have x2 : ixI M2 (m + 22) (nI (8 * q + c)) := ixI_of S2.go.2 (by omega) (by omega)
            simp only [B_Md_numberOf_70, B_Md_numberOf_122, SS, S2.1, S2.one.1, S2.go.1, x1, clp, gw, e2, if_true, true_and, c8, pk_mul, nI_add, x2, cl_nI (show 8 * q + c < 2147483648 by omega), t2, nI_i1]
            rw [G_Md_numberOf_145]
            refine ih (p + 1) t S' _ (by omega) t1 ?_
            rw [hT, hS', show e = c by omega, t3, Nat.add_assoc]
          | succ n ihn =>
            intro e S' he hS'
            have e2 : ¬ nI c ≤ nI e := nI_ge (by omega) (by omega)
            obtain ⟨t, t1, t2, t3⟩ := n4' q e hq' (by omega)
            have x2 : ixI M2 (m + 22) (nI (8 * q + e)) := ixI_of S2.go.2 (by omega) (by omega)
            have x3 : ixJ M2 (m + 27) (nI (12001 * d + t)) := ixJ_of S2.ways.2 (by omega) (by omega)
            have W := n5' d t (by omega) t1
            rw [t3] at W
            have cp1 := cp_le S'
            have cp2 := cp_le (wy (sRs σ) (sK σ) d (lsuf (sRs σ) (str q ++ [e])))
            simp only [B_Md_numberOf_70, SS, S2.1, S2.one.1, S2.go.1, S2.ways.1, x1, clp, gw, e2, if_false, true_and, c12, c8, pk_mul, nI_add, en, x2, cl_nI (show 8 * q + e < 2147483648 by omega), t2, x3, cl_nI (show 12001 * d + t < 2147483648 by omega), W]
            rw [k_mSum (by omega), cp_add, cp_add']
            simp only [SS, List.cons_append, List.nil_append, B_Md_numberOf_70, nI_i1]
            rw [G_Md_numberOf_119]
            refine ihn (e + 1) _ (by omega) ?_
            rw [List.range_succ, List.map_append, List.sum_append, hS']
            simp only [List.map_cons, List.map_nil, List.sum_cons, List.sum_nil, Nat.add_zero]
            omega
        exact inner c 0 S (by omega) (by simp)
    have sums : ∀ (d r S : Nat), r + d = w.length → S = ((List.range r).map (fun a => wy (sRs σ) (sK σ) a [])).sum → wp F_Md_numberOf 27 [.ref m, .int (nI l.length), .int (nI w.length), .long (lN (cp S)), jk, .int (nI r), jk, jk] [] M2 Q := by
      intro d
      induction d with
      | zero =>
        intro r S hr' hS'
        have e1 : nI w.length ≤ nI r := nI_le (by omega) (by omega)
        simp only [B_Md_numberOf_27, B_Md_numberOf_55, SS, e1, if_true, ← nI_0]
        refine letters w.length 0 0 S _ (by omega) (by omega) ?_
        rw [List.drop_zero, n3, hS', show r = w.length by omega, rkT, List.sum_append]
      | succ d ih =>
        intro r S hr' hS'
        have e1 : ¬ nI w.length ≤ nI r := nI_ge (by omega) (by omega)
        have x3 : ixJ M2 (m + 27) (nI (12001 * r)) := ixJ_of S2.ways.2 (by omega) (by omega)
        have W : gJ M2 (m + 27) (12001 * r) = lN (cp (wy (sRs σ) (sK σ) r [])) := by
          have := n5' r 0 (by omega) (by omega)
          rw [n3] at this
          exact this
        have cp1 := cp_le S
        have cp2 := cp_le (wy (sRs σ) (sK σ) r [])
        simp only [B_Md_numberOf_27, SS, S2.1, S2.ways.1, e1, if_false, true_and, c12, pk_mul, x3, cl_nI (show 12001 * r < 2147483648 by omega), W]
        rw [k_mSum (by omega), cp_add, cp_add']
        simp only [SS, List.cons_append, List.nil_append, B_Md_numberOf_27, nI_i1]
        rw [G_Md_numberOf_52]
        refine ih (r + 1) _ (by omega) ?_
        rw [List.range_succ, List.map_append, List.sum_append, hS']
        simp only [List.map_cons, List.map_nil, List.sum_cons, List.sum_nil, Nat.add_zero]
    have := sums w.length 0 0 (by omega) (by simp)
    rw [show cp 0 = 0 by unfold cp; omega] at this
    exact this
theorem m_number {v : Int32} (h : MdV M m σ) (hI : SgI σ) (hQ : ∀ M', MdV M' m σ → Yfr M M' m → Q (some (.int (nuG σ v))) M') : wp F_Md_number 0 [.ref m, .int v] [] M Q := by
  have s : Scr M (sI M m 0 0) m := scr_0 (Or.inl rfl)
  have h' := h.scr s
  have sy := s.y
  simp only [B_Md_number_0, h.1.1, true_and]
  generalize sI M m 0 0 = M0 at h' sy
  rw [k_mSlot]
  rcases oix_cases (n := 8) (by omega) v with ⟨j, hj, rfl, e⟩ | ⟨e, -⟩
  · simp only [nuG, e] at hQ
    simp only [SS, List.cons_append, List.nil_append, e, Option.isSome_some, bI, if_true, i10, if_false, B_Md_number_0, B_Md_number_15, h'.1.1, true_and]
    rw [k_mDone h']
    simp only [SS, List.cons_append, List.nil_append, B_Md_number_15, bI_ne]
    cases hd : sDn σ with
    | false =>
      rw [hd] at hQ
      simp only [if_true, if_false, B_Md_number_15, B_Md_number_37, Bool.false_eq_true] at hQ ⊢
      exact hQ M0 h' sy
    | true =>
      rw [hd] at hQ
      obtain ⟨d1, d2⟩ := dn_of hd
      have z0 : (0 : Int32) = nI ([] : List Nat).length := rfl
      obtain ⟨l80, lk⟩ := hI.2.1 j hj
      simp only [Bool.true_eq_false, if_true, if_false, B_Md_number_27, h'.1.1, true_and, z0] at hQ ⊢
      refine k_takeOne h'.1 h'.2.2.2.2.2.2.2.1 hj l80 AR.nil (by simp; omega) ?_
      intro M1 F1 A1
      simp only [List.nil_append] at A1
      have V1 : MdV M1 m σ := h'.scr (scr_of F1 (fun b q => Or.inr (Or.inr (Or.inr (Or.inl q)))) (fun j _ => F1.gI (by omega) j))
      simp only [List.length_nil, Nat.zero_add, SS, List.cons_append, List.nil_append, B_Md_number_27, V1.1.1, true_and]
      refine k_numberOf V1 hI d1 d2 A1 l80 lk ?_
      intro M2 V2 F2
      simp only [SS, List.cons_append, List.nil_append, B_Md_number_27, B_Md_number_37]
      exact hQ M2 V2 ((sy.trans (F1.z.weaken (T := fun b => m ≤ b ∧ b < m + 30) (fun b q => by omega))).trans (pdY F2))
  · simp only [nuG, e] at hQ
    simp only [SS, List.cons_append, List.nil_append, e, Option.isSome_none, bI, Bool.false_eq_true, if_false, if_true, B_Md_number_0]
    exact hQ M0 h' sy
theorem m_element {i v : Int32} (h : MdV M m σ) (hI : SgI σ) (hQ : ∀ M', MdV M' m (elG σ i v).2 → Yfr M M' m → Q (some (.int (elG σ i v).1)) M') : wp F_Md_element 0 [.ref m, .int i, .int v, jk] [] M Q := by
  have s : Scr M (sI M m 0 0) m := scr_0 (Or.inl rfl)
  have h' := h.scr s
  have sy := s.y
  simp only [B_Md_element_0, h.1.1, true_and]
  generalize sI M m 0 0 = M0 at h' sy
  unfold elG at hQ
  by_cases z : i < 0
  · simp only [if_pos z] at hQ
    simp only [z, if_true, B_Md_element_16]
    exact hQ M0 h' sy
  · simp only [if_neg z] at hQ
    simp only [z, if_false, B_Md_element_0]
    rw [k_mSlot]
    rcases oix_cases (n := 8) (by omega) v with ⟨j, hj, rfl, e⟩ | ⟨e, -⟩
    · simp only [e] at hQ
      simp only [SS, List.cons_append, List.nil_append, e, Option.isSome_some, bI, if_true, i10, if_false, B_Md_element_0, B_Md_element_19, h'.1.1, true_and]
      rw [k_mDone h']
      simp only [SS, List.cons_append, List.nil_append, B_Md_element_19, bI_ne]
      cases hd : sDn σ with
      | false =>
        rw [hd] at hQ
        simp only [if_true, if_false, B_Md_element_19, Bool.false_eq_true] at hQ ⊢
        exact hQ M0 h' sy
      | true =>
        rw [hd] at hQ
        obtain ⟨d1, d2⟩ := dn_of hd
        simp only [Bool.true_eq_false, if_true, if_false, B_Md_element_29, h'.1.1, true_and] at hQ ⊢
        refine k_isElement h' hI d1 d2 ?_
        intro M1 V1 F1
        simp only [SS, List.cons_append, List.nil_append, B_Md_element_29, bI_ne]
        cases hx : eltI (sRs σ) (sK σ) i with
        | none =>
          rw [hx] at hQ
          simp only [Option.isSome_none, if_true, if_false, B_Md_element_29] at hQ ⊢
          exact hQ M1 V1 (sy.trans (cnY F1))
        | some o =>
          have hne : eltI (sRs σ) (sK σ) i ≠ none := by rw [hx]; simp
          unfold eltI at hne hx
          rw [if_neg z] at hne hx
          obtain ⟨n, hn, rfl⟩ : ∃ n, n < 2147483648 ∧ i = nI n := by
            rcases pk_ix i (n := 2147483647) (by omega) with y | y | ⟨j, hj, rfl⟩
            · exact absurd y z
            · refine ⟨2147483647, by omega, ?_⟩
              have h1 := Int32.le_iff_toInt_le.mp y
              rw [nI_toInt (by omega)] at h1
              apply Int32.toInt_inj.mp
              rw [nI_toInt (by omega)]
              have := Int32.toInt_lt i
              omega
            · exact ⟨j, by omega, rfl⟩
          rw [cl_nI hn] at hne hx
          have hx' : eltI (sRs σ) (sK σ) (nI n) = some o := by unfold eltI; rw [if_neg z, cl_nI hn]; exact hx
          rw [hx'] at hQ
          have z0 : (0 : Int32) = nI 0 := rfl
          simp only [Option.isSome_some, Bool.true_eq_false, if_true, if_false, B_Md_element_40, V1.1.1, V1.1.one.1, SS, true_and] at hQ ⊢
          rw [z0]
          refine k_layElement V1 hI d1 d2 hn hne (Or.inl rfl) ?_ ?_
          · intro ho M2 V2 F2
            rw [hx] at ho
            cases ho
            simp only [SS, List.cons_append, List.nil_append, B_Md_element_40, if_true] at hQ ⊢
            exact hQ M2 V2 ((sy.trans (cnY F1)).trans (cnY F2))
          · intro w ho hwl hwk M2 M3 V2 F2 F3 A3
            rw [hx] at ho
            cases ho
            have V3 : MdV M3 m σ := V2.scr (scr_of F3 (fun b q => Or.inr (Or.inr (Or.inr (Or.inl q)))) (fun j _ => F3.gI (by omega) j))
            simp only [SS, List.cons_append, List.nil_append, B_Md_element_40, nI_ne1 (show w.length < 2147483648 by omega), if_true, if_false, B_Md_element_59, V3.1.1, true_and] at hQ ⊢
            refine k_toSlot V3.1 V3.2.2.2.2.2.2.2.1 hj (by omega) A3 (fun i hi => (hI.2.1 i hi).1) ?_
            intro M4 F4 s4
            have V4 := V3.slot F4 s4
            simp only [SS, Option.toList_none, List.nil_append, B_Md_element_59]
            exact hQ M4 V4 ((((sy.trans (cnY F1)).trans (cnY F2)).trans (F3.z.weaken (T := fun b => m ≤ b ∧ b < m + 30) (fun b q => by omega))).trans (F4.z.weaken (T := fun b => m ≤ b ∧ b < m + 30) (fun b q => by omega)))
    · simp only [e] at hQ
      simp only [SS, List.cons_append, List.nil_append, e, Option.isSome_none, bI, Bool.false_eq_true, if_false, if_true, B_Md_element_0, B_Md_element_16]
      exact hQ M0 h' sy
end MC
