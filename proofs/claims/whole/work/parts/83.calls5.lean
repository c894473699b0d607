/-! the class's calls: ELEMENTS spelled, multiplied -/
theorem nI_m2 {n : Nat} (h : n ≤ 80) : ¬ nI n = -2 ∧ ¬ nI n = -4 ∧ ¬ nI n < 0 := by
  have key : ∀ n, n ≤ 80 → ¬ nI n = -2 ∧ ¬ nI n = -4 ∧ ¬ nI n < 0 := by decide
  exact key n h
theorem not_dn {σ : Sg} {st : Bool} {row : List Pr} (h : (!st && row.isEmpty) = false) (e1 : sSt σ = st) (e2 : sRow σ = row) : ¬ sDn σ = true := fun q => by
  unfold sDn at q
  rw [e1, e2, h] at q
  cases q
section CL
variable {M : Mm} {x s0 : Nat} {σ : Sg} {Q : Option Value → Mm → Prop}
theorem c_element {i v : Int32} (h : ClV M x s0 σ) (hI : SgI σ) (hQ : ∀ M', ClV M' x s0 (elG σ i v).2 → Xfr M M' x → Q (some (.int (elG σ i v).1)) M') : wp F_Mr_element 0 [.ref x, .int i, .int v, jk] [] M Q := by
  obtain ⟨⟨tp, lf, nm⟩, ⟨k, rs, row⟩, ⟨t, s, st, fo⟩, sl, td⟩ := σ
  obtain ⟨hB, hC⟩ := h
  have hB : Bas M x tp lf nm sl td := hB
  have hC : Cor M x s0 rs k row t s st fo := hC
  have hA : st = false → AC rs := hI.2.2.2.2.2.1
  obtain ⟨⟨m0, f0, f3, f4, f5, f6, f7, f8, f9, f10, f11, f12, f13, f14, f16, f17, -⟩, ⟨b2, b8, -⟩, ⟨w41, -⟩, hslS, -, hx⟩ := id hB.1
  by_cases hi : i < 0
  · simp only [elG, if_pos hi] at hQ
    simp only [B_Mr_element_0, B_Mr_element_11, hi, if_true]
    exact hQ M ⟨hB, hC⟩ Xfr.rfl
  · simp only [elG, if_neg hi] at hQ
    simp only [B_Mr_element_0, hi, if_false]
    rw [k_isSlot]
    rcases oix_cases (n := 8) (by omega) v with ⟨j, hj, rfl, e⟩ | ⟨e, -⟩
    · simp only [e] at hQ
      simp only [SS, List.cons_append, List.nil_append, e, Option.isSome_some, bI, if_true, i10, if_false, B_Mr_element_0, B_Mr_element_14, m0, f10, (c_isDone (Q := Q) hC).1, true_and]
      rw [(c_isDone hC).2]
      simp only [SS, List.cons_append, List.nil_append, B_Mr_element_14]
      cases hd : (!st && row.isEmpty) with
      | true =>
        obtain ⟨rfl, rfl⟩ := done_of hd
        rw [if_pos (show sDn ((tp, lf, nm), (k, rs, []), (t, s, false, fo), sl, td) = true from hd)] at hQ
        simp only [bI, if_true, i10, if_false, B_Mr_element_27, SS, m0, f12, f16, hC.e1, true_and]
        refine d_spell hC (hA rfl) w41 ⟨by omega, by omega⟩ ?_ ?_
        · intro o ho hoo M1 C1 U1
          have B1 := hB.u U1 (fun _ q => q.elim)
          rcases hoo with rfl | rfl
          · rw [show eltI (sRs ((tp, lf, nm), (k, rs, []), (t, s, false, fo), sl, td)) (sK ((tp, lf, nm), (k, rs, []), (t, s, false, fo), sl, td)) i = none from ho] at hQ
            have z : (-2 : Int32) < 0 := by decide
            simp only [SS, List.cons_append, List.nil_append, if_true, B_Mr_element_27, z, B_Mr_element_57]
            exact hQ M1 ⟨B1, C1⟩ (U1.xf (fun _ q => q.elim))
          · rw [show eltI (sRs ((tp, lf, nm), (k, rs, []), (t, s, false, fo), sl, td)) (sK ((tp, lf, nm), (k, rs, []), (t, s, false, fo), sl, td)) i = some none from ho] at hQ
            have z : (-4 : Int32) < 0 := by decide
            simp only [SS, List.cons_append, List.nil_append, reduceCtorEq, if_false, if_true, B_Mr_element_27, z, B_Mr_element_57]
            exact hQ M1 ⟨B1, C1⟩ (U1.xf (fun _ q => q.elim))
        · intro w hw hl hk M1 C1 U1 v1
          rw [show eltI (sRs ((tp, lf, nm), (k, rs, []), (t, s, false, fo), sl, td)) (sK ((tp, lf, nm), (k, rs, []), (t, s, false, fo), sl, td)) i = some (some w) from hw] at hQ
          have B1 := hB.u U1 (fun b q => by rcases q with q | q <;> exact ⟨by omega, by omega⟩)
          obtain ⟨⟨m0', -, -, -, f5', -, -, -, -, -, -, -, -, -, f16', -⟩, ⟨-, b8', -⟩, ⟨w41', -⟩, hslS', -, hx'⟩ := id B1.1
          obtain ⟨s1, s2⟩ := hslS' j hj
          have e1 : ixR M1 (x + 8) (nI j) := ixR_of b8' (by omega) hj (by omega)
          simp only [SS, List.cons_append, List.nil_append, B_Mr_element_27, (nI_m2 hl).2.2, if_false, m0', f5', f16', e1, cl_nI (show j < 2147483648 by omega), s1, s2.1, true_and]
          refine k_Word_become s2 w41' v1 (by omega) (by omega) (by omega) (by omega) (by omega) ?_
          intro M2 F2 v2
          simp only [SS, Option.toList_none, List.nil_append, B_Mr_element_27, B_Mr_element_57]
          refine hQ M2 ⟨B1.slot F2.x hj (fun b q => Or.inr (Or.inr q)) (fun _ q => q.elim) v2 hl, C1.own F2.z (fun b q => Or.inr (by rcases q with q | q <;> exact ⟨by omega, by omega⟩))⟩ ((U1.xf (fun b q => by rcases q with q | q <;> exact ⟨by omega, by omega⟩)).trans (F2.z.xf (fun b q => by rcases q with q | q <;> exact ⟨by omega, by omega⟩)))
      | false =>
        rw [if_neg (not_dn (σ := ((tp, lf, nm), (k, rs, row), (t, s, st, fo), sl, td)) hd rfl rfl)] at hQ
        simp only [bI, Bool.false_eq_true, if_true, if_false, B_Mr_element_14]
        exact hQ M ⟨hB, hC⟩ Xfr.rfl
    · simp only [e] at hQ
      simp only [SS, List.cons_append, List.nil_append, e, Option.isSome_none, bI, Bool.false_eq_true, if_false, if_true, B_Mr_element_0, B_Mr_element_11]
      exact hQ M ⟨hB, hC⟩ Xfr.rfl
/-- what a word and its trial leave -/
abbrev tW (x b : Nat) : Prop := x + 1041 ≤ b ∧ b < x + 1048
theorem c_product {i j : Int32} (h : ClV M x s0 σ) (hI : SgI σ) (hQ : ∀ M', ClV M' x s0 σ → Xfr M M' x → Q (some (.int (pdG σ i j))) M') : wp F_Mr_product 0 [.ref x, .int i, .int j, jk, jk] [] M Q := by
  obtain ⟨⟨tp, lf, nm⟩, ⟨k, rs, row⟩, ⟨t, s, st, fo⟩, sl, td⟩ := σ
  obtain ⟨hB, hC⟩ := h
  have hB : Bas M x tp lf nm sl td := hB
  have hC : Cor M x s0 rs k row t s st fo := hC
  have hA : st = false → AC rs := hI.2.2.2.2.2.1
  obtain ⟨⟨m0, f0, f3, f4, f5, f6, f7, f8, f9, f10, f11, f12, f13, f14, f16, f17, -⟩, ⟨b2, b8, -⟩, ⟨w41, -⟩, hslS, -, hx⟩ := id hB.1
  simp only [pdG] at hQ
  simp only [B_Mr_product_0, SS, m0, f10, (c_isDone (Q := Q) hC).1, true_and]
  rw [(c_isDone hC).2]
  simp only [SS, List.cons_append, List.nil_append, B_Mr_product_0]
  cases hd : (!st && row.isEmpty) with
  | false =>
    rw [if_neg (not_dn (σ := ((tp, lf, nm), (k, rs, row), (t, s, st, fo), sl, td)) hd rfl rfl)] at hQ
    simp only [bI, Bool.false_eq_true, if_true, if_false, B_Mr_product_0]
    exact hQ M ⟨hB, hC⟩ Xfr.rfl
  | true =>
    obtain ⟨rfl, rfl⟩ := done_of hd
    rw [if_pos (show sDn ((tp, lf, nm), (k, rs, []), (t, s, false, fo), sl, td) = true from hd)] at hQ
    have hQ : ∀ M', Cor M' x s0 rs k [] t s false fo → Ufr M M' x (tW x) → Q (some (.int (match eltI rs k i, eltI rs k j with
      | none, _ => -2
      | some _, none => -2
      | some none, some _ => -4
      | some (some _), some none => -4
      | some (some a), some (some b) => nbI (mulW rs k a b)))) M' := fun M' C' U' => hQ M' ⟨hB.u U' (fun b q => q), C'⟩ (U'.xf (fun b q => ⟨by omega, by omega⟩))
    simp only [bI, if_true, i10, if_false, B_Mr_product_13, SS, m0, f12, f16, hC.e1, true_and]
    have nn : ¬ (-4 : Int32) = -2 := by decide
    -- the second word, whatever came of the first
    have second : ∀ (M1 : Mm) (z : Int32) (l3 l4 : Value), Cor M1 x s0 rs k [] t s false fo → Ufr M M1 x (tW x) → clr l3 = l3 → ((z = -2 ∧ eltI rs k i = none) ∨ (z = -4 ∧ eltI rs k i = some none) ∨ ∃ a, z = nI a.length ∧ eltI rs k i = some (some a) ∧ a.length ≤ 80 ∧ (∀ c ∈ a, c < k) ∧ WV M1 (x + 1041) a) → wp F_Mr_product 26 [.ref x, .int i, .int j, .int z, l4] [] M1 Q := by
      intro M1 z l3 l4 C1 U1 hl3 hz
      have S1 := hB.1.fx U1 (fun _ q => q)
      obtain ⟨⟨m0', -, -, -, f5', -, -, -, -, -, -, f12', -, -, f16', f17', -⟩, -, ⟨w41', w43', -⟩, -, -, hx'⟩ := id S1
      simp only [B_Mr_product_13, SS, m0', f12', f17', C1.e1, true_and]
      refine d_spell C1 (hA rfl) w43' ⟨by omega, by omega⟩ ?_ ?_
      · intro o ho hoo M2 C2 U2
        have U12 : Ufr M M2 x (tW x) := U1.trans (U2.weaken (fun _ q => q.elim))
        have hQ := hQ M2 C2 U12
        rw [ho] at hQ
        rcases hoo with rfl | rfl
        · simp only [SS, List.cons_append, List.nil_append, if_true, B_Mr_product_13]
          rcases hz with ⟨rfl, ha⟩ | ⟨rfl, ha⟩ | ⟨a, rfl, ha, -⟩
          · rw [ha] at hQ
            simp only [if_true, B_Mr_product_53]; exact hQ
          · rw [ha] at hQ
            simp only [nn, if_false, if_true, B_Mr_product_53]; exact hQ
          · rw [ha] at hQ
            simp only [ite_self, if_true, B_Mr_product_53]; exact hQ
        · simp only [SS, List.cons_append, List.nil_append, reduceCtorEq, if_false, B_Mr_product_13]
          rcases hz with ⟨rfl, ha⟩ | ⟨rfl, ha⟩ | ⟨a, rfl, ha, hal, -⟩
          · rw [ha] at hQ
            simp only [if_true, B_Mr_product_53]; exact hQ
          · rw [ha] at hQ
            simp only [nn, if_false, if_true, B_Mr_product_56, B_Mr_product_69]; exact hQ
          · rw [ha] at hQ
            simp only [nn, (nI_m2 hal).1, (nI_m2 hal).2.1, if_false, if_true, B_Mr_product_56, B_Mr_product_69]; exact hQ
      · intro b hb hbl hbk M2 C2 U2 v2
        have U12 : Ufr M M2 x (tW x) := U1.trans (U2.weaken (fun b q => by rcases q with q | q <;> exact ⟨by omega, by omega⟩))
        have hQQ := hQ M2 C2 U12
        rw [hb] at hQQ
        simp only [SS, List.cons_append, List.nil_append, B_Mr_product_13]
        rcases hz with ⟨rfl, ha⟩ | ⟨rfl, ha⟩ | ⟨a, rfl, ha, hal, hak, va⟩
        · rw [ha] at hQQ
          simp only [if_true, B_Mr_product_53]; exact hQQ
        · rw [ha] at hQQ
          simp only [nn, (nI_m2 hbl).1, if_false, if_true, B_Mr_product_56, B_Mr_product_69]; exact hQQ
        · have S2 := hB.1.fx U12 (fun _ q => q)
          obtain ⟨⟨m0', -, -, -, f5', -, -, -, -, -, -, f12', -, -, f16', f17', -⟩, -, ⟨w41', w43', -⟩, -, -, hx2⟩ := id S2
          have nz : ∀ b, x + 1041 ≤ b → b < x + 1043 → ¬ (tS x b ∨ wS (x + 1043) b) := fun b h1 h2 q => by rcases q with (q | q) | q | q <;> omega
          have va2 := va.frx U2 (by omega) (nz _ (by omega) (by omega)) (nz _ (by omega) (by omega))
          simp only [(nI_m2 hbl).1, (nI_m2 hbl).2.1, (nI_m2 hal).1, (nI_m2 hal).2.1, if_false, B_Mr_product_56, B_Mr_product_72, SS, m0', f16', f17', true_and]
          refine d_multiply S2 C2 w41' w43' va2 v2 hal hbl hak hbk ⟨by omega, by omega⟩ ⟨by omega, by omega⟩ ?_
          intro M3 C3 U3 _
          have U13 : Ufr M M3 x (tW x) := U12.trans (U3.weaken (fun b q => by rcases q with q | q <;> exact ⟨by omega, by omega⟩))
          have hQ := hQ M3 C3 U13
          rw [ha, hb] at hQ
          simp only [SS, List.cons_append, List.nil_append, B_Mr_product_72]
          exact hQ
    refine d_spell hC (hA rfl) w41 ⟨by omega, by omega⟩ ?_ ?_
    · intro o ho hoo M1 C1 U1
      have U1' : Ufr M M1 x (tW x) := U1.weaken (fun _ q => q.elim)
      rcases hoo with rfl | rfl
      · simp only [SS, List.cons_append, List.nil_append, if_true, B_Mr_product_13]
        simpa only [B_Mr_product_13] using second M1 (-2) jk jk C1 U1' rfl (Or.inl ⟨rfl, ho⟩)
      · simp only [SS, List.cons_append, List.nil_append, reduceCtorEq, if_false, B_Mr_product_13]
        simpa only [B_Mr_product_13] using second M1 (-4) jk jk C1 U1' rfl (Or.inr (Or.inl ⟨rfl, ho⟩))
    · intro a ha hal hak M1 C1 U1 v1
      have U1' : Ufr M M1 x (tW x) := U1.weaken (fun b q => by rcases q with q | q <;> exact ⟨by omega, by omega⟩)
      simp only [SS, List.cons_append, List.nil_append, B_Mr_product_13]
      simpa only [B_Mr_product_13] using second M1 (nI a.length) jk jk C1 U1' rfl (Or.inr (Or.inr ⟨a, rfl, ha, hal, hak, v1⟩))
end CL
