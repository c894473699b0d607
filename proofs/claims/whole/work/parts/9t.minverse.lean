/-! the reference's calls: inverses, whether letters commute -/
section MC
variable {M : Mm} {m : Nat} {σ : Sg} {Q : Option Value → Mm → Prop}
theorem m_inverse {i : Int32} (h : MdV M m σ) (hI : SgI σ) (hQ : ∀ M', MdV M' m σ → Yfr M M' m → Q (some (.int (ivG σ i))) M') : wp F_Md_inverse 0 [.ref m, .int i, jk, jk] [] M Q := by
  have s : Scr M (sI M m 0 0) m := scr_0 (Or.inl rfl)
  have h' := h.scr s
  have sy := s.y
  simp only [B_Md_inverse_0, h.1.1, true_and]
  generalize sI M m 0 0 = M0 at h' sy
  simp only [h'.1.1, true_and]
  rw [k_mDone h']
  simp only [SS, List.cons_append, List.nil_append, B_Md_inverse_0, bI_ne]
  unfold ivG at hQ
  cases hd : sDn σ with
  | false =>
    rw [hd] at hQ
    simp only [if_true, if_false, B_Md_inverse_0, Bool.false_eq_true] at hQ ⊢
    exact hQ M0 h' sy
  | true =>
    rw [hd] at hQ
    obtain ⟨d1, d2⟩ := dn_of hd
    have hw := hI.2.2.1
    simp only [Bool.true_eq_false, if_true, if_false, B_Md_inverse_15, h'.1.1, true_and] at hQ ⊢
    refine k_isElement h' hI d1 d2 ?_
    intro M1 V1 F1
    have y1 := sy.trans (cnY F1)
    simp only [SS, List.cons_append, List.nil_append, B_Md_inverse_15, bI_ne]
    cases hx : eltI (sRs σ) (sK σ) i with
    | none =>
      rw [hx] at hQ
      simp only [Option.isSome_none, if_true, if_false, B_Md_inverse_15] at hQ ⊢
      exact hQ M1 V1 y1
    | some o =>
      rw [hx] at hQ
      obtain ⟨a0, ha0, rfl, ea⟩ := eltI_some hx
      simp only [Option.isSome_some, Bool.true_eq_false, if_true, if_false, B_Md_inverse_26, SS, ← nI_0]
      have c400 : (400 : Int32) = nI 400 := rfl
      have four : ∀ M' (l2 : Value), MdV M' m σ → Yfr M M' m → (∀ M', MdV M' m σ → Yfr M M' m → Q (some (.int (-4))) M') → wp F_Md_inverse 61 [.ref m, .int (nI a0), l2, .int (-4)] [] M' Q := by
        intro M' l2 V' y' hq
        simp only [B_Md_inverse_61, B_Md_inverse_71, B_Md_inverse_79, B_Md_inverse_81, if_true, if_false, show ¬ (-4 : Int32) = 0 by decide, not_false_eq_true, ne_eq]
        exact hq M' V' y'
      have loop : ∀ (d j : Nat) (M' : Mm) (l3 : Value), j + d = 400 → MdV M' m σ → Yfr M M' m → (∀ a, o = some a → ivS (sRs σ) (sK σ) a 400 0 = ivS (sRs σ) (sK σ) a d j) → (o = none → j = 0) → wp F_Md_inverse 28 [.ref m, .int (nI a0), .int (nI j), l3] [] M' Q := by
        intro d
        induction d with
        | zero =>
          intro j M' l3 hj V' y' hiv hno
          have e1 : nI 400 ≤ nI j := nI_le (by omega) (by omega)
          simp only [B_Md_inverse_28, B_Md_inverse_88, c400, e1, if_true]
          have hq := hQ M' V' y'
          cases o with
          | none => have := hno rfl; omega
          | some a =>
            simp only at hq
            have h0 : ivS (sRs σ) (sK σ) a 0 j = -1 := by rw [ivS]
            rw [hiv a rfl, h0] at hq
            exact hq
        | succ d ih =>
          intro j M' l3 hj V' y' hiv hno
          have e1 : ¬ nI 400 ≤ nI j := nI_ge (by omega) (by omega)
          simp only [B_Md_inverse_28, SS, c400, e1, if_false, V'.1.1, true_and]
          refine k_isElement V' hI d1 d2 ?_
          intro M2 V2 F2
          have y2 := y'.trans (cnY F2)
          have ej : eltI (sRs σ) (sK σ) (nI j) = elt (sRs σ) (sK σ) j := by
            unfold eltI
            rw [if_neg (nI_pos (by omega)), cl_nI (by omega)]
          simp only [SS, List.cons_append, List.nil_append, B_Md_inverse_28, bI_ne, ej]
          cases hy : elt (sRs σ) (sK σ) j with
          | none =>
            simp only [Option.isSome_none, if_true, B_Md_inverse_88]
            have hq := hQ M2 V2 y2
            cases o with
            | none =>
              have := hno rfl
              rw [this, elt0 hw] at hy
              cases hy
            | some a =>
              simp only at hq
              have h0 : ivS (sRs σ) (sK σ) a (d + 1) j = -1 := by rw [ivS, hy]
              rw [hiv a rfl, h0] at hq
              exact hq
          | some o2 =>
            simp only [Option.isSome_some, Bool.true_eq_false, if_false, B_Md_inverse_28, V2.1.1, true_and]
            refine k_productOf V2 hI d1 d2 ha0 (by omega) ea hy ?_
            intro M3 V3 F3
            have y3 := y2.trans (pdY F3)
            simp only [SS, List.cons_append, List.nil_append, B_Md_inverse_28]
            have z4 : ¬ (-4 : Int32) = 0 := by decide
            cases o with
            | none =>
              simp only [prO, z4, if_false, if_true, not_false_eq_true, ne_eq]
              exact four M3 _ V3 y3 (fun M' V' y' => hQ M' V' y')
            | some a =>
              have hiv := hiv a rfl
              cases o2 with
              | none =>
                have h0 : ivS (sRs σ) (sK σ) a (d + 1) j = -4 := by rw [ivS, hy]
                simp only [prO, z4, if_false, if_true, not_false_eq_true, ne_eq]
                refine four M3 _ V3 y3 (fun M' V' y' => ?_)
                have hq := hQ M' V' y'
                simp only at hq
                rw [hiv, h0] at hq
                exact hq
              | some b =>
                have hak := elt_lk ea
                have hbk := elt_lk hy
                simp only [prO]
                obtain ⟨mm, hm⟩ : ∃ mm, mulW (sRs σ) (sK σ) a b = mm := ⟨_, rfl⟩
                cases mm with
                | none =>
                  have h0 : ivS (sRs σ) (sK σ) a (d + 1) j = -4 := by rw [ivS, hy]; simp only [hm]
                  simp only [hm, nbI, z4, if_false, if_true, not_false_eq_true, ne_eq]
                  refine four M3 _ V3 y3 (fun M' V' y' => ?_)
                  have hq := hQ M' V' y'
                  simp only at hq
                  rw [hiv, h0] at hq
                  exact hq
                | some p =>
                  obtain ⟨n, f⟩ := p
                  obtain ⟨n1, -, -, -⟩ := mul_elt hw hak hbk hm
                  have ne4 : ¬ nI n = -4 := fun z => by
                    have := nbI_ne (o := some (n, f)) (fun q hq => by cases hq; exact n1)
                    rw [show nbI (some (n, f)) = nI n from rfl] at this
                    have := this.mp z
                    cases this
                  have nz := bN n n1
                  simp only [hm, nbI, nz]
                  by_cases z : n = 0
                  · subst z
                    simp only [not_true_eq_false, ne_eq, if_true, if_false, B_Md_inverse_28, V3.1.1, true_and]
                    refine k_productOf V3 hI d1 d2 (show j < 2147483648 by omega) ha0 hy ea ?_
                    intro M4 V4 F4
                    have y4 := y3.trans (pdY F4)
                    simp only [SS, List.cons_append, List.nil_append, B_Md_inverse_28, prO]
                    cases hm2 : mulW (sRs σ) (sK σ) b a with
                    | none =>
                      have h0 : ivS (sRs σ) (sK σ) a (d + 1) j = -4 := by rw [ivS, hy]; simp only [hm, if_true, hm2]
                      refine four M4 _ V4 y4 (fun M' V' y' => ?_)
                      have hq := hQ M' V' y'
                      simp only at hq
                      rw [hiv, h0] at hq
                      exact hq
                    | some p2 =>
                      obtain ⟨n', f'⟩ := p2
                      obtain ⟨n1', -, -, -⟩ := mul_elt hw hbk hak hm2
                      have ne4' : ¬ nI n' = -4 := fun z => by
                        have := nbI_ne (o := some (n', f')) (fun q hq => by cases hq; exact n1')
                        rw [show nbI (some (n', f')) = nI n' from rfl] at this
                        have := this.mp z
                        cases this
                      have nz' := bN n' n1'
                      simp only [nbI, B_Md_inverse_61, ne4', if_false, nz']
                      by_cases z' : n' = 0
                      · have h0 : ivS (sRs σ) (sK σ) a (d + 1) j = nI j := by rw [ivS, hy]; simp only [hm, if_true, hm2, z']
                        simp only [z', not_true_eq_false, ne_eq, if_true, if_false, B_Md_inverse_71, nI_0, B_Md_inverse_81]
                        have hq := hQ M4 V4 y4
                        simp only at hq
                        rw [hiv, h0] at hq
                        exact hq
                      · have h0 : ivS (sRs σ) (sK σ) a (d + 1) j = ivS (sRs σ) (sK σ) a d (j + 1) := by rw [ivS, hy]; simp only [hm, if_true, hm2, z', if_false]
                        simp only [z', not_false_eq_true, ne_eq, if_true, if_false, B_Md_inverse_82, SS, nI_i1]
                        rw [G_Md_inverse_85]
                        exact ih (j + 1) M4 _ (by omega) V4 y4 (fun a' ha' => by cases ha'; rw [hiv, h0]) (fun q => by cases q)
                  · have h0 : ivS (sRs σ) (sK σ) a (d + 1) j = ivS (sRs σ) (sK σ) a d (j + 1) := by rw [ivS, hy]; simp only [hm, z, if_false]
                    simp only [z, not_false_eq_true, ne_eq, if_true, if_false, B_Md_inverse_61, ne4, nz, B_Md_inverse_82, SS, nI_i1]
                    rw [G_Md_inverse_85]
                    exact ih (j + 1) M3 _ (by omega) V3 y3 (fun a' ha' => by cases ha'; rw [hiv, h0]) (fun q => by cases q)
      exact loop 400 0 M1 _ (by omega) V1 y1 (fun a _ => rfl) (fun _ => rfl)
set_option maxHeartbeats 1000000 in
theorem m_commutes (h : MdV M m σ) (hI : SgI σ) (hQ : ∀ M', MdV M' m σ → Yfr M M' m → Q (some (.int (coG σ))) M') : wp F_Md_commutes 0 [.ref m, jk, jk, jk, jk] [] M Q := by
  have s : Scr M (sI M m 0 0) m := scr_0 (Or.inl rfl)
  have h' := h.scr s
  have sy := s.y
  simp only [B_Md_commutes_0, h.1.1, true_and]
  generalize sI M m 0 0 = M0 at h' sy
  simp only [h'.1.1, true_and]
  rw [k_mDone h']
  simp only [SS, List.cons_append, List.nil_append, B_Md_commutes_0, bI_ne]
  unfold coG at hQ
  cases hd : sDn σ with
  | false =>
    rw [hd] at hQ
    simp only [if_true, if_false, B_Md_commutes_0, Bool.false_eq_true] at hQ ⊢
    exact hQ M0 h' sy
  | true =>
    rw [hd] at hQ
    have hw := hI.2.2.1
    have hv := hI.2.2.2.1
    have hk8 := hw.2.1
    simp only [Bool.true_eq_false, if_true, if_false, B_Md_commutes_15, SS, ← nI_0] at hQ ⊢
    have j1 : (1 : Int32) = nI 1 := rfl
    have j2 : (2 : Int32) = nI 2 := rfl
    have outer : ∀ (d a : Nat) (M' : Mm) (l2 l3 l4 : Value), a + d = sK σ → MdV M' m σ → Yfr M M' m → cmA (sRs σ) (sK σ) (sK σ) 0 = cmA (sRs σ) (sK σ) d a → wp F_Md_commutes 17 [.ref m, .int (nI a), l2, l3, l4] [] M' Q := by
      intro d
      induction d with
      | zero =>
        intro a M' l2 l3 l4 ha V' y' hc
        have e1 : nI (sK σ) ≤ nI a := nI_le (by omega) (by omega)
        simp only [B_Md_commutes_17, B_Md_commutes_119, V'.1.1, V'.2.2.1.2.1, e1, if_true, true_and, or_true]
        have hq := hQ M' V' y'
        rw [hc, cmA] at hq
        exact hq
      | succ d ih =>
        intro a M' l2 l3 l4 ha V' y' hc
        have e1 : ¬ nI (sK σ) ≤ nI a := nI_ge (by omega) (by omega)
        simp only [B_Md_commutes_17, SS, V'.1.1, V'.2.2.1.2.1, e1, if_false, true_and, nI_i1]
        have inner : ∀ (d2 b : Nat) (M' : Mm) (l3 l4 : Value), b + d2 = sK σ → a + 1 ≤ b → MdV M' m σ → Yfr M M' m → cmB (sRs σ) a (sK σ - (a + 1)) (a + 1) = cmB (sRs σ) a d2 b → wp F_Md_commutes 29 [.ref m, .int (nI a), .int (nI b), l3, l4] [] M' Q := by
          intro d2
          induction d2 with
          | zero =>
            intro b M' l3 l4 hb hab V' y' hcb
            have e2 : nI (sK σ) ≤ nI b := nI_le (by omega) (by omega)
            simp only [B_Md_commutes_29, B_Md_commutes_113, SS, V'.1.1, V'.2.2.1.2.1, e2, if_true, true_and, nI_i1]
            rw [G_Md_commutes_116]
            refine ih (a + 1) M' _ _ _ (by omega) V' y' ?_
            have h0 : cmB (sRs σ) a 0 b = true := by rw [cmB]
            have h1 : cmA (sRs σ) (sK σ) (d + 1) a = cmA (sRs σ) (sK σ) d (a + 1) := by rw [cmA, hcb, h0, if_pos rfl]
            rw [hc, h1]
          | succ d2 ihb =>
            intro b M' l3 l4 hb hab V' y' hcb
            have e2 : ¬ nI (sK σ) ≤ nI b := nI_ge (by omega) (by omega)
            have S' := V'.1
            have x0 : ixW M' (m + 14) (nI 0) := ixW_of S'.one.2 (by omega) (by omega)
            have x1 : ∀ v, ixW (sI M' (m + 14) 0 v) (m + 14) (nI 1) := fun v => ixW_of S'.one.2 (by omega) (by omega)
            have c0 : cl (nI 0) = 0 := rfl
            have c1 : cl (nI 1) = 1 := rfl
            have hab2 : form (sRs σ) [a, b] ≠ none := form_two hw hv (by omega) (by omega)
            have hba2 : form (sRs σ) [b, a] ≠ none := form_two hw hv (by omega) (by omega)
            simp only [B_Md_commutes_29, SS, S'.1, V'.2.2.1.2.1, S'.one.1, e2, if_false, true_and, ← nI_0, j1, x0, x1, c0, c1]
            have F1 : FrS (fun b => b = m + 14) M' (sI (sI M' (m + 14) 0 (nI a)) (m + 14) 1 (nI b)) := (FrS.sI (S := fun b => b = m + 14) rfl).trans (FrS.sI rfl)
            have A1 : AR (sI (sI M' (m + 14) 0 (nI a)) (m + 14) 1 (nI b)) (m + 14) 0 [a, b] := fun q hq => by
              have : q = 0 ∨ q = 1 := by simp at hq; omega
              rcases this with rfl | rfl
              · rw [gI_sI, if_neg (fun z => by omega), gI_sI, if_pos ⟨rfl, rfl⟩]; rfl
              · rw [gI_sI, if_pos ⟨rfl, rfl⟩]; rfl
            have V1 := sFr V' F1 (Or.inl rfl)
            have y1 := y'.trans (F1.z.weaken (T := fun b => m ≤ b ∧ b < m + 30) (fun b q => by omega))
            have j2' : (2 : Int32) = nI ([a, b] : List Nat).length := rfl
            rw [j2']
            refine k_mShrink V1.1 V1.2.2.2.1 hw (Or.inl rfl) A1 (by simp) (fun c hc' => by simp at hc'; omega) (fun hn => absurd hn hab2) ?_
            intro u tr hfu hul huk M2 N2 A2 g31 tr2
            have V2 := V1.scr (N2.scr (Or.inl rfl))
            have y2 := y1.trans (N2.scr (Or.inl rfl)).y
            have S2 := V2.1
            have z0 : ixW M2 (m + 15) (nI 0) := ixW_of S2.other.2 (by omega) (by omega)
            have z1 : ∀ v, ixW (sI M2 (m + 15) 0 v) (m + 15) (nI 1) := fun v => ixW_of S2.other.2 (by omega) (by omega)
            simp only [SS, List.cons_append, List.nil_append, B_Md_commutes_29, S2.1, S2.other.1, true_and, ← nI_0, j1, z0, z1, c0, c1]
            have F3 : FrS (fun b => b = m + 15) M2 (sI (sI M2 (m + 15) 0 (nI b)) (m + 15) 1 (nI a)) := (FrS.sI (S := fun b => b = m + 15) rfl).trans (FrS.sI rfl)
            have B3 : AR (sI (sI M2 (m + 15) 0 (nI b)) (m + 15) 1 (nI a)) (m + 15) 0 [b, a] := fun q hq => by
              have : q = 0 ∨ q = 1 := by simp at hq; omega
              rcases this with rfl | rfl
              · rw [gI_sI, if_neg (fun z => by omega), gI_sI, if_pos ⟨rfl, rfl⟩]; rfl
              · rw [gI_sI, if_pos ⟨rfl, rfl⟩]; rfl
            have V3 := sFr V2 F3 (Or.inr (Or.inl rfl))
            have y3 := y2.trans (F3.z.weaken (T := fun b => m ≤ b ∧ b < m + 30) (fun b q => by omega))
            have A3 := A2.fr F3 (show ¬ m + 14 = m + 15 by omega)
            have j3' : (2 : Int32) = nI ([b, a] : List Nat).length := rfl
            rw [j3']
            refine k_mShrink V3.1 V3.2.2.2.1 hw (Or.inr rfl) B3 (by simp) (fun c hc' => by simp at hc'; omega) (fun hn => absurd hn hba2) ?_
            intro v tr' hfv hvl hvk M4 N4 B4 g31' tr4
            have V4 := V3.scr (N4.scr (Or.inr rfl))
            have y4 := y3.trans (N4.scr (Or.inr rfl)).y
            have S4 := V4.1
            have A4 := A3.fr N4.1 (show ¬ skS m (m + 15) (m + 14) by unfold skS; omega)
            have hul' : u.length ≤ 2 := hul
            have hvl' : v.length ≤ 2 := hvl
            simp only [SS, List.cons_append, List.nil_append, B_Md_commutes_29, B_Md_commutes_29_1, S4.1, S4.one.1, S4.other.1, true_and, ← nI_0]
            rw [k_mGreater S4.one.2 S4.other.2 A4 B4 (by omega) (by omega) (fun c hc' => by have := huk c hc'; omega) (fun c hc' => by have := hvk c hc'; omega) (by omega) (by omega)]
            simp only [SS, List.cons_append, List.nil_append, B_Md_commutes_29, B_Md_commutes_29_1]
            have hcm : cm2 (sRs σ) a b = decide (cmpW u v = 0) := by unfold cm2; rw [hfu, hfv]
            by_cases q : cmpW u v = 0
            · rw [if_pos q]
              simp only [B_Md_commutes_107, SS, nI_i1]
              rw [G_Md_commutes_110]
              refine ihb (b + 1) M4 _ _ (by omega) (by omega) V4 y4 ?_
              rw [hcb, cmB, hcm, decide_eq_true q, if_pos rfl]
            · rw [if_neg q]
              have h1 : cmB (sRs σ) a (d2 + 1) b = false := by rw [cmB, hcm, decide_eq_false q, if_neg (by decide)]
              have h2 : cmA (sRs σ) (sK σ) (d + 1) a = false := by rw [cmA, hcb, h1, if_neg (by decide)]
              have hq := hQ M4 V4 y4
              rw [hc, h2] at hq
              exact hq
        exact inner (sK σ - (a + 1)) (a + 1) M' _ _ (by omega) (by omega) V' y' rfl
    exact outer (sK σ) 0 M0 _ _ _ (by omega) h' sy rfl
end MC
