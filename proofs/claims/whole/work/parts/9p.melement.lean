/-! the reference's calls: how many, the size, ELEMENTS -/
theorem cnY {M M' : Mm} {m : Nat} (h : FrZ (cnZ m) M M') : Yfr M M' m := h.weaken (fun b q => by unfold cnZ at q; omega)
section MC
variable {M : Mm} {m : Nat} {σ : Sg} {Q : Option Value → Mm → Prop}
theorem dn_of {σ : Sg} (h : sDn σ = true) : sRow σ = [] ∧ sSt σ = false := by
  unfold sDn at h
  simp only [Bool.and_eq_true, Bool.not_eq_true', List.isEmpty_iff] at h
  exact ⟨h.2, h.1⟩
theorem k_mDone (h : MdV M m σ) : wp F_Md_isComplete 0 [.ref m] [] M Q = Q (some (.int (bI (sDn σ)))) M := by
  obtain ⟨a1, a2, a3, a6, ⟨f, a7⟩, a8, -⟩ := h
  exact k_mComplete a1 a7 a8
theorem m_many {v : Int32} (h : MdV M m σ) (hI : SgI σ) (hQ : ∀ M', MdV M' m σ → Yfr M M' m → Q (some (.long (mnG σ v))) M') : wp F_Md_many 0 [.ref m, .int v, jk, jk] [] M Q := by
  have s : Scr M (sI M m 0 0) m := scr_0 (Or.inl rfl)
  have h' := h.scr s
  have sy := s.y
  simp only [B_Md_many_0, h.1.1, true_and]
  generalize sI M m 0 0 = M0 at h' sy
  rw [k_in, in_oix (n := 81) (by omega) (by rfl)]
  rcases oix_cases (n := 81) (by omega) v with ⟨r, hr, rfl, e⟩ | ⟨e, -⟩
  · simp only [mnG, e] at hQ
    simp only [SS, List.cons_append, List.nil_append, e, Option.isSome_some, bI, if_true, i10, if_false, B_Md_many_0, B_Md_many_21, h'.1.1, true_and]
    rw [k_mDone h']
    simp only [SS, List.cons_append, List.nil_append, B_Md_many_21, bI_ne]
    cases hd : sDn σ with
    | false =>
      rw [hd] at hQ
      simp only [if_true, if_false, B_Md_many_21, Bool.false_eq_true] at hQ ⊢
      exact hQ M0 h' sy
    | true =>
      rw [hd] at hQ
      obtain ⟨d1, d2⟩ := dn_of hd
      simp only [Bool.true_eq_false, if_true, if_false, B_Md_many_32, h'.1.1, true_and] at hQ ⊢
      refine k_counted h' hI d1 d2 ?_
      intro M1 V1 C1 F1
      obtain ⟨⟨N, str, n1, n2, n3, n4, n5⟩, -, -⟩ := C1
      have S1 := V1.1
      have x1 : ixJ M1 (m + 27) (nI (12001 * r)) := ixJ_of S1.ways.2 (by omega) (by omega)
      have w1 : gJ M1 (m + 27) (12001 * r) = lN (cp (wy (sRs σ) (sK σ) r [])) := by
        have := n5 r 0 (by omega) (by omega)
        rw [n3] at this
        exact this
      have c12 : (12001 : Int32) = nI 12001 := rfl
      have cpl := cp_le (wy (sRs σ) (sK σ) r [])
      have hC : CAP = 1000000000000001 := rfl
      simp only [SS, Option.toList_none, List.nil_append, B_Md_many_32, S1.1, S1.ways.1, c12, pk_mul, x1, cl_nI (show 12001 * r < 2147483648 by omega), w1, lM0, lcLe (show cp (wy (sRs σ) (sK σ) r []) < 9223372036854775808 by omega) (show 1000000000000000 < 9223372036854775808 by omega), true_and]
      have := hQ M1 V1 (sy.trans (cnY F1))
      by_cases q : 1000000000000000 < cp (wy (sRs σ) (sK σ) r [])
      · rw [if_pos q] at this
        rw [if_neg (by omega)]
        simp only [B_Md_many_32, B_Md_many_62]
        exact this
      · rw [if_neg q] at this
        rw [if_pos (by omega)]
        simp only [B_Md_many_61, B_Md_many_62]
        exact this
  · simp only [mnG, e] at hQ
    simp only [SS, List.cons_append, List.nil_append, e, Option.isSome_none, bI, Bool.false_eq_true, if_false, if_true, B_Md_many_0]
    exact hQ M0 h' sy
theorem m_size (h : MdV M m σ) (hI : SgI σ) (hQ : ∀ M', MdV M' m σ → Yfr M M' m → Q (some (.long (szG σ))) M') : wp F_Md_size 0 [.ref m] [] M Q := by
  have s : Scr M (sI M m 0 0) m := scr_0 (Or.inl rfl)
  have h' := h.scr s
  have sy := s.y
  simp only [B_Md_size_0, h.1.1, true_and]
  generalize sI M m 0 0 = M0 at h' sy
  simp only [h'.1.1, true_and]
  rw [k_mDone h']
  simp only [SS, List.cons_append, List.nil_append, B_Md_size_0, bI_ne]
  unfold szG at hQ
  cases hd : sDn σ with
  | false =>
    rw [hd] at hQ
    simp only [if_true, if_false, B_Md_size_0, Bool.false_eq_true] at hQ ⊢
    exact hQ M0 h' sy
  | true =>
    rw [hd] at hQ
    obtain ⟨d1, d2⟩ := dn_of hd
    simp only [Bool.true_eq_false, if_true, if_false, B_Md_size_16, h'.1.1, true_and] at hQ ⊢
    refine k_counted h' hI d1 d2 ?_
    intro M1 V1 C1 F1
    obtain ⟨-, c2, c3⟩ := C1
    have S1 := V1.1
    have := hQ M1 V1 (sy.trans (cnY F1))
    unfold totJ at this
    simp only [SS, Option.toList_none, List.nil_append, B_Md_size_16, S1.1, c2, true_and]
    cases ht : tot (sRs σ) (sK σ) with
    | none =>
      rw [ht] at this
      simp only [Option.isNone_none, bI_t, i10, if_false, B_Md_size_16, B_Md_size_54]
      exact this
    | some v =>
      rw [ht] at this
      have c3 := c3 v ht
      have cpl := cp_le v
      have hC : CAP = 1000000000000001 := rfl
      simp only [Option.isNone_some, bI_f, if_true, B_Md_size_33, S1.1, c3, lM0, lcLe (show cp v < 9223372036854775808 by omega) (show 1000000000000000 < 9223372036854775808 by omega), true_and]
      simp only at this
      by_cases q : 1000000000000000 < v
      · rw [if_pos q] at this
        rw [if_neg (by unfold cp; omega)]
        simp only [B_Md_size_33, B_Md_size_54]
        exact this
      · rw [if_neg q] at this
        rw [if_pos (by unfold cp; omega)]
        simp only [B_Md_size_50, B_Md_size_54, S1.1, c3, true_and]
        rw [show cp v = v by unfold cp; omega]
        exact this
theorem k_isElement {v : Int32} (h : MdV M m σ) (hI : SgI σ) (hr : sRow σ = []) (hs : sSt σ = false) (hQ : ∀ M', MdV M' m σ → FrZ (cnZ m) M M' → Q (some (.int (bI (eltI (sRs σ) (sK σ) v).isSome))) M') : wp F_Md_isElement 0 [.ref m, .int v] [] M Q := by
  simp only [B_Md_isElement_0, h.1.1, true_and]
  refine k_counted h hI hr hs ?_
  intro M1 V1 C1 F1
  obtain ⟨-, c2, c3⟩ := C1
  have S1 := V1.1
  have q := hQ M1 V1 F1
  unfold eltI at q
  simp only [SS, Option.toList_none, List.nil_append, B_Md_isElement_0]
  by_cases z : v < 0
  · rw [if_pos z] at q
    rw [if_pos z]
    simp only [B_Md_isElement_29, B_Md_isElement_30, true_or, true_and]
    exact q
  · rw [if_neg z] at q
    rw [if_neg z]
    simp only [B_Md_isElement_0, S1.1, c2, true_and]
    obtain ⟨i, hi, rfl⟩ : ∃ i, i < 2147483648 ∧ v = nI i := by
      rcases pk_ix v (n := 2147483647) (by omega) with y | y | ⟨j, hj, rfl⟩
      · exact absurd y z
      · refine ⟨2147483647, by omega, ?_⟩
        have h1 := Int32.le_iff_toInt_le.mp y
        rw [nI_toInt (by omega)] at h1
        apply Int32.toInt_inj.mp
        rw [nI_toInt (by omega)]
        have := Int32.toInt_lt v
        omega
      · exact ⟨j, by omega, rfl⟩
    rw [cl_nI hi] at q
    cases ht : tot (sRs σ) (sK σ) with
    | none =>
      have : elt (sRs σ) (sK σ) i ≠ none := fun e => by
        obtain ⟨t, h1, -⟩ := elt_none.mp e
        rw [ht] at h1; cases h1
      rw [Option.isSome_iff_ne_none.mpr this] at q
      simp only [Option.isNone_none, bI_t, i10, not_false_eq_true, ne_eq, if_true, if_false, B_Md_isElement_25, B_Md_isElement_30, or_true, true_and]
      exact q
    | some t =>
      have c3 := c3 t ht
      have cpl := cp_le t
      have hC : CAP = 1000000000000001 := rfl
      have e7 : (nI i).toInt64 = lN i := nI_l (by omega)
      have hcp : (cp t ≤ i) = (t ≤ i) := by unfold cp; exact propext (by omega)
      simp only [Option.isNone_some, bI_f, not_true_eq_false, ne_eq, if_true, if_false, B_Md_isElement_0, S1.1, c3, e7, lcGe (show i < 9223372036854775808 by omega) (show cp t < 9223372036854775808 by omega), hcp, true_and]
      by_cases y : t ≤ i
      · have : elt (sRs σ) (sK σ) i = none := elt_none.mpr ⟨t, ht, y⟩
        rw [this] at q
        rw [if_pos y]
        simp only [B_Md_isElement_29, B_Md_isElement_30, true_or, true_and]
        exact q
      · have : elt (sRs σ) (sK σ) i ≠ none := fun e => by
          obtain ⟨t', h1, h2⟩ := elt_none.mp e
          rw [ht] at h1; cases h1; omega
        rw [Option.isSome_iff_ne_none.mpr this] at q
        rw [if_neg y]
        simp only [B_Md_isElement_25, B_Md_isElement_30, or_true, true_and]
        exact q
set_option maxHeartbeats 2000000 in
theorem k_layElement {i dst : Nat} (h : MdV M m σ) (hI : SgI σ) (hr : sRow σ = []) (hs : sSt σ = false) (hi : i < 2147483648) (he : elt (sRs σ) (sK σ) i ≠ none) (hd : dst = m + 14 ∨ dst = m + 15)
    (hQ0 : elt (sRs σ) (sK σ) i = some none → ∀ M', MdV M' m σ → FrZ (cnZ m) M M' → Q (some (.int (-1))) M')
    (hQ1 : ∀ w, elt (sRs σ) (sK σ) i = some (some w) → w.length ≤ 80 → (∀ c ∈ w, c < sK σ) → ∀ M1 M', MdV M1 m σ → FrZ (cnZ m) M M1 → FrS (fun b => b = dst) M1 M' → AR M' dst 0 w → Q (some (.int (nI w.length))) M') : wp F_Md_layElement 0 [.ref m, .int (nI i), .ref dst, .int (nI 0), jk, jk, jk, jk, jk, jk] [] M Q := by
  simp only [B_Md_layElement_0, h.1.1, true_and]
  refine k_counted h hI hr hs ?_
  intro M1 V1 C1 F1
  obtain ⟨⟨N, str, n1, n2, n3, n4, n5⟩, -, -⟩ := C1
  have S1 := V1.1
  have hk8 := hI.2.2.1.2.1
  have c12 : (12001 : Int32) = nI 12001 := rfl
  have c80 : (80 : Int32) = nI 80 := rfl
  have c8 : (8 : Int32) = nI 8 := rfl
  have hC : CAP = 1000000000000001 := rfl
  have e7 : (nI i).toInt64 = lN i := nI_l (by omega)
  have hne : elS (sRs σ) (sK σ) 81 0 i ≠ none := fun e => he (by unfold elt; rw [e])
  have sdst : sh M1 dst = some (.inr (0, 130)) := by
    rcases hd with rfl | rfl
    · exact S1.one.2
    · exact S1.other.2
  have spell : ∀ (d p q s' : Nat) (pre : List Nat) (a : Nat) (n : Nat) (w : List Nat) (M2 : Mm) (l9 : Value), p + d = n → n ≤ 80 → q < N → a < wy (sRs σ) (sK σ) d (str q) → a < 2147483648 → pre.length = p → w = pre ++ spw (sRs σ) (sK σ) d (str q) a → elt (sRs σ) (sK σ) i = some (some w) → w.length ≤ 80 → (∀ c ∈ w, c < sK σ) → FrS (fun b => b = dst) M1 M2 → AR M2 dst 0 pre → wp F_Md_layElement 72 [.ref m, .int (nI i), .ref dst, .int (nI 0), .long (lN a), jk, .int (nI n), .int (nI q), .int (nI p), l9] [] M2 Q := by
    intro d
    induction d with
    | zero =>
      intro p q s' pre a n w M2 l9 hp hn hq ha ha2 hpl hw hel hwl hwk F2 A2
      have e1 : nI n ≤ nI p := nI_le (by omega) (by omega)
      simp only [B_Md_layElement_72, B_Md_layElement_188, e1, if_true]
      have hwp : w = pre := by rw [hw]; simp [spw]
      have := hQ1 w hel hwl hwk M1 M2 V1 F1 F2 (by rw [hwp]; exact A2)
      rw [show n = w.length by rw [hwp]; omega]
      exact this
    | succ d ih =>
      intro p q s' pre a n w M2 l9 hp hn hq ha ha2 hpl hw hel hwl hwk F2 A2
      have e1 : ¬ nI n ≤ nI p := nI_ge (by omega) (by omega)
      obtain ⟨p1, p2, p3⟩ := pick_lt ha
      have hk1 : 1 ≤ sK σ := by omega
      generalize hpk : pickL (sRs σ) (sK σ) d (str q) (sK σ - 1) 0 a = pk at p1 p2 p3
      have S2 := S1.fr F2
      have nd : ¬ m + 27 = dst := by omega
      have nd2 : ¬ m + 22 = dst := by omega
      have rd : ∀ c, c < sK σ → ∃ t, t < N ∧ gI M2 (m + 22) (8 * q + c) = nI t ∧ str t = lsuf (sRs σ) (str q ++ [c]) ∧ gJ M2 (m + 27) (12001 * d + t) = lN (cp (wy (sRs σ) (sK σ) d (lsuf (sRs σ) (str q ++ [c])))) := by
        intro c hc
        obtain ⟨t, t1, t2, t3⟩ := n4 q c hq hc
        refine ⟨t, t1, (F2.gI nd2 _).trans t2, t3, (F2.gJ _ _).trans ?_⟩
        rw [← t3]; exact n5 d t (by omega) t1
      simp only [B_Md_layElement_72, SS, e1, if_false, ← nI_0]
      have pick : ∀ nn c' a', c' + nn = sK σ - 1 → a' ≤ a → pickL (sRs σ) (sK σ) d (str q) nn c' a' = pk → wp F_Md_layElement 82 [.ref m, .int (nI i), .ref dst, .int (nI 0), .long (lN a'), jk, .int (nI n), .int (nI q), .int (nI p), .int (nI c')] [] M2 Q := by
        intro nn
        induction nn with
        | zero =>
          intro c' a' hc ha' hpk'
          have hpk' : (c', a') = pk := hpk'
          subst hpk'
          obtain ⟨t, t1, t2, t3, t4⟩ := rd c' (by omega)
          have x1 : ixI M2 (m + 22) (nI (8 * q + c')) := ixI_of S2.go.2 (by omega) (by omega)
          have x2 : ixJ M2 (m + 27) (nI (12001 * d + t)) := ixJ_of S2.ways.2 (by omega) (by omega)
          have en : nI n - nI p - 1 = nI d := by
            rw [pk_sub (show p ≤ n by omega), show n - p = d + 1 by omega]; exact nI_pred d
          have cpl := cp_le (wy (sRs σ) (sK σ) d (lsuf (sRs σ) (str q ++ [c'])))
          have hlt : a' < cp (wy (sRs σ) (sK σ) d (lsuf (sRs σ) (str q ++ [c']))) := (cp_lt (by omega)).mpr p2
          have x3 : ixW M2 dst (nI p) := ixW_of ((F2.sh _).trans sdst) (by omega) (by omega)
          have x4 : ∀ v, ixI (sI M2 dst p v) (m + 22) (nI (8 * q + c')) := fun v => ixI_of S2.go.2 (by omega) (by omega)
          simp only [B_Md_layElement_82, SS, S2.1, S2.ways.1, S2.go.1, c12, c8, pk_mul, nI_add, en, x1, cl_nI (show 8 * q + c' < 2147483648 by omega), t2, x2, cl_nI (show 12001 * d + t < 2147483648 by omega), t4, lcL (show a' < 9223372036854775808 by omega) (show cp (wy (sRs σ) (sK σ) d (lsuf (sRs σ) (str q ++ [c']))) < 9223372036854775808 by omega), hlt, if_true, true_and, B_Md_layElement_159, Nat.zero_add, x3, x4, cl_nI (show p < 2147483648 by omega), nd2, false_and, if_false, nI_i1]
          rw [G_Md_layElement_185]
          refine ih (p + 1) t 0 (pre ++ [c']) a' n w _ _ (by omega) hn t1 (by rw [t3]; exact p2) (by omega) (by simp; omega) ?_ hel hwl hwk (F2.trans (FrS.sI rfl)) ?_
          · rw [hw, spw, hpk, t3, List.append_assoc]; rfl
          · refine AR.app (fun j hj => ?_) ?_
            · rw [gI_sI, if_neg (fun z => by omega)]; exact A2 j hj
            · rw [gI_sI, if_pos ⟨rfl, by omega⟩]
        | succ nn ihp =>
          intro c' a' hc ha' hpk'
          obtain ⟨t, t1, t2, t3, t4⟩ := rd c' (by omega)
          have x1 : ixI M2 (m + 22) (nI (8 * q + c')) := ixI_of S2.go.2 (by omega) (by omega)
          have x2 : ixJ M2 (m + 27) (nI (12001 * d + t)) := ixJ_of S2.ways.2 (by omega) (by omega)
          have en : nI n - nI p - 1 = nI d := by
            rw [pk_sub (show p ≤ n by omega), show n - p = d + 1 by omega]; exact nI_pred d
          have cpl := cp_le (wy (sRs σ) (sK σ) d (lsuf (sRs σ) (str q ++ [c'])))
          have hlt : (a' < cp (wy (sRs σ) (sK σ) d (lsuf (sRs σ) (str q ++ [c'])))) = (a' < wy (sRs σ) (sK σ) d (lsuf (sRs σ) (str q ++ [c']))) := propext (cp_lt (by omega))
          have x3 : ixW M2 dst (nI p) := ixW_of ((F2.sh _).trans sdst) (by omega) (by omega)
          have x4 : ∀ v, ixI (sI M2 dst p v) (m + 22) (nI (8 * q + c')) := fun v => ixI_of S2.go.2 (by omega) (by omega)
          simp only [B_Md_layElement_82, SS, S2.1, S2.ways.1, S2.go.1, c12, c8, pk_mul, nI_add, en, x1, cl_nI (show 8 * q + c' < 2147483648 by omega), t2, x2, cl_nI (show 12001 * d + t < 2147483648 by omega), t4, lcL (show a' < 9223372036854775808 by omega) (show cp (wy (sRs σ) (sK σ) d (lsuf (sRs σ) (str q ++ [c']))) < 9223372036854775808 by omega), hlt, true_and]
          unfold pickL at hpk'
          by_cases z : a' < wy (sRs σ) (sK σ) d (lsuf (sRs σ) (str q ++ [c']))
          · rw [if_pos z] at hpk'
            subst hpk'
            simp only [z, if_true, B_Md_layElement_159, SS, S2.1, S2.go.1, c8, pk_mul, nI_add, Nat.zero_add, x3, x4, cl_nI (show p < 2147483648 by omega), cl_nI (show 8 * q + c' < 2147483648 by omega), nd2, t2, false_and, if_false, true_and, nI_i1]
            rw [G_Md_layElement_185]
            refine ih (p + 1) t 0 (pre ++ [c']) a' n w _ _ (by omega) hn t1 (by rw [t3]; exact p2) (by omega) (by simp; omega) ?_ hel hwl hwk (F2.trans (FrS.sI rfl)) ?_
            · rw [hw, spw, hpk, t3, List.append_assoc]; rfl
            · refine AR.app (fun j hj => ?_) ?_
              · rw [gI_sI, if_neg (fun z => by omega)]; exact A2 j hj
              · rw [gI_sI, if_pos ⟨rfl, by omega⟩]
          · rw [if_neg z] at hpk'
            have hsb : lN a' - lN (cp (wy (sRs σ) (sK σ) d (lsuf (sRs σ) (str q ++ [c'])))) = lN (a' - wy (sRs σ) (sK σ) d (lsuf (sRs σ) (str q ++ [c']))) := by
              have hcw : cp (wy (sRs σ) (sK σ) d (lsuf (sRs σ) (str q ++ [c']))) = wy (sRs σ) (sK σ) d (lsuf (sRs σ) (str q ++ [c'])) := by unfold cp; omega
              rw [hcw]; exact lN_sub (by omega)
            simp only [z, if_false, B_Md_layElement_82, B_Md_layElement_82_1, SS, S2.1, S2.ways.1, S2.go.1, c12, c8, pk_mul, nI_add, en, x1, cl_nI (show 8 * q + c' < 2147483648 by omega), t2, x2, cl_nI (show 12001 * d + t < 2147483648 by omega), t4, hsb, true_and, nI_i1]
            rw [G_Md_layElement_156]
            exact ihp (c' + 1) _ (by omega) (by omega) hpk'
      exact pick (sK σ - 1) 0 a (by omega) (Nat.le_refl _) hpk
  have loop : ∀ fu n a, n + fu = 81 → a ≤ i → elS (sRs σ) (sK σ) 81 0 i = elS (sRs σ) (sK σ) fu n a → wp F_Md_layElement 11 [.ref m, .int (nI i), .ref dst, .int (nI 0), .long (lN a), jk, .int (nI n), jk, jk, jk] [] M1 Q := by
    intro fu
    induction fu with
    | zero =>
      intro n a hn ha he2
      have e2 : nI 80 < nI n := nI_lt (by omega) (by omega)
      have e3 : ¬ nI n ≤ nI 80 := nI_ge (by omega) (by omega)
      simp only [B_Md_layElement_11, B_Md_layElement_57, c80, e2, e3, if_true, if_false]
      refine hQ0 ?_ M1 V1 F1
      have he3 : elS (sRs σ) (sK σ) 0 n a = some none := by rw [elS]
      rw [he3] at he2
      have : elt (sRs σ) (sK σ) i = (match tot (sRs σ) (sK σ) with | some v => if v ≤ i then none else some none | none => some none) := by
        unfold elt
        rw [he2]
        cases tot (sRs σ) (sK σ) <;> rfl
      rw [this] at he ⊢
      cases ht : tot (sRs σ) (sK σ) with
      | none => rfl
      | some v =>
        rw [ht] at he
        simp only at he ⊢
        by_cases y : v ≤ i
        · rw [if_pos y] at he; exact absurd rfl he
        · rw [if_neg y]
    | succ fu ih =>
      intro n a hn ha he2
      have e2 : ¬ nI 80 < nI n := nI_nlt (by omega) (by omega)
      have e3 : nI n ≤ nI 80 := nI_le (by omega) (by omega)
      have x1 : ixJ M1 (m + 27) (nI (12001 * n)) := ixJ_of S1.ways.2 (by omega) (by omega)
      have w1 : gJ M1 (m + 27) (12001 * n) = lN (cp (wy (sRs σ) (sK σ) n [])) := by
        have := n5 n 0 (by omega) (by omega)
        rw [n3] at this
        exact this
      have cpl := cp_le (wy (sRs σ) (sK σ) n [])
      have he3 : elS (sRs σ) (sK σ) (fu + 1) n a = if wy (sRs σ) (sK σ) n [] = 0 then none else if a < wy (sRs σ) (sK σ) n [] then some (some (spw (sRs σ) (sK σ) n [] a)) else elS (sRs σ) (sK σ) fu (n + 1) (a - wy (sRs σ) (sK σ) n []) := by rw [elS]
      rw [he3] at he2
      have nz : ¬ wy (sRs σ) (sK σ) n [] = 0 := fun z => by rw [if_pos z] at he2; exact hne he2
      rw [if_neg nz] at he2
      have hlt : (a < cp (wy (sRs σ) (sK σ) n [])) = (a < wy (sRs σ) (sK σ) n []) := propext (cp_lt (by omega))
      simp only [B_Md_layElement_11, SS, c80, e2, if_false, S1.1, S1.ways.1, c12, pk_mul, x1, cl_nI (show 12001 * n < 2147483648 by omega), w1, lcL (show a < 9223372036854775808 by omega) (show cp (wy (sRs σ) (sK σ) n []) < 9223372036854775808 by omega), hlt, true_and]
      by_cases z : a < wy (sRs σ) (sK σ) n []
      · rw [if_pos z] at he2
        have hel : elt (sRs σ) (sK σ) i = some (some (spw (sRs σ) (sK σ) n [] a)) := by unfold elt; rw [he2]
        obtain ⟨k1, k2⟩ := spw_ok n [] a z
        simp only [z, if_true, B_Md_layElement_57, c80, e3, B_Md_layElement_66, SS, ← nI_0]
        exact spell n 0 0 0 [] a n (spw (sRs σ) (sK σ) n [] a) M1 _ (by omega) (by omega) (by omega) (by rw [n3]; exact z) (by omega) rfl (by rw [n3]; rfl) hel (by omega) k2 FrS.rfl AR.nil
      · rw [if_neg z] at he2
        have hsb : lN a - lN (cp (wy (sRs σ) (sK σ) n [])) = lN (a - wy (sRs σ) (sK σ) n []) := by
          have hcw : cp (wy (sRs σ) (sK σ) n []) = wy (sRs σ) (sK σ) n [] := by unfold cp; omega
          rw [hcw]; exact lN_sub (by omega)
        simp only [z, if_false, B_Md_layElement_11, SS, S1.1, S1.ways.1, c12, pk_mul, x1, cl_nI (show 12001 * n < 2147483648 by omega), w1, hsb, true_and, nI_i1]
        rw [G_Md_layElement_54]
        exact ih (n + 1) _ (by omega) (by omega) he2
  simp only [SS, Option.toList_none, List.nil_append, B_Md_layElement_0, e7, ← nI_0]
  exact loop 81 0 i (by omega) (Nat.le_refl _) rfl
end MC
