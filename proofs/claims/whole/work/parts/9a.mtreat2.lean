/-! the reference treats one PAIR -/
theorem drp_w {k fr : Nat} : ∀ d i rs row, i + d ≤ fr → fr < rs.length → RWf rs k → RowK row k → RWf (drp fr d i rs row).1 k ∧ RowK (drp fr d i rs row).2.1 k ∧ (drp fr d i rs row).1.length = rs.length ∧ (drp fr d i rs row).1.getD fr dR = rs.getD fr dR := by
  intro d
  induction d with
  | zero => intro i rs row hi hl hw hr; exact ⟨hw, hr, rfl, rfl⟩
  | succ d ih =>
    intro i rs row hi hl hw hr
    have hw' := hw.drop (show i < rs.length by omega)
    have hg : (rs.set i ((rs.getD i dR).1, (rs.getD i dR).2.1, false)).getD fr dR = rs.getD fr dR := by
      rw [getD_set (by omega), if_neg (by omega)]
    have hll : (rs.set i ((rs.getD i dR).1, (rs.getD i dR).2.1, false)).length = rs.length := List.length_set
    obtain ⟨u1, u2, u3, u4⟩ := hw.ruk i
    unfold drp
    split
    · split
      · exact ⟨hw', hr, hll, hg⟩
      · rename_i q
        have := ih (i + 1) _ _ (by omega) (by rw [hll]; exact hl) hw' (hr.push q (p := ((rs.getD i dR).1, (rs.getD i dR).2.1)) ⟨by show (rs.getD i dR).1.length ≤ 120; omega, by show (rs.getD i dR).2.1.length ≤ 120; omega, u3, u4⟩)
        exact ⟨this.1, this.2.1, this.2.2.1.trans hll, this.2.2.2.trans hg⟩
    · exact ih (i + 1) rs row (by omega) hl hw hr
theorem rnw_w {k fr : Nat} : ∀ d i rs s, i + d ≤ fr → fr < rs.length → RWf rs k → RWf (rnw d i rs s).1 k ∧ (rnw d i rs s).1.length = rs.length ∧ (rnw d i rs s).1.getD fr dR = rs.getD fr dR := by
  intro d
  induction d with
  | zero => intro i rs s hi hl hw; exact ⟨hw, rfl, rfl⟩
  | succ d ih =>
    intro i rs s hi hl hw
    unfold rnw
    split
    · split
      · exact ⟨hw, rfl, rfl⟩
      · rename_i w tr hf
        obtain ⟨u1, u2, u3, u4⟩ := hw.ruk i
        have hw' := hw.setR (w := w) (show i < rs.length by omega) (form_len hw (by omega) hf) (form_k hw (by omega) u4 hf)
        have hg : (rs.set i ((rs.getD i dR).1, w, (rs.getD i dR).2.2)).getD fr dR = rs.getD fr dR := by
          rw [getD_set (by omega), if_neg (by omega)]
        have hll : (rs.set i ((rs.getD i dR).1, w, (rs.getD i dR).2.2)).length = rs.length := List.length_set
        have := ih (i + 1) _ (s + tr.length) (by omega) (by rw [hll]; exact hl) hw'
        exact ⟨this.1, this.2.1.trans hll, this.2.2.trans hg⟩
    · exact ih (i + 1) rs s (by omega) hl hw
section MC
variable {M : Mm} {m : Nat} {Q : Option Value → Mm → Prop}
theorem k_mLast {f t s k fr : Nat} {rs : List Ru} {row : List Pr} {l1 l2 l3 : Value} (h : MmV M m f rs row t s false) (hw : RWf rs k) (hr : RowK row k) (hfr : fr < rs.length) (hlv : (rs.getD fr dR).2.2 = true)
    (hQ : ∀ M', MmV M' m f rs (prs rs fr fr 0 row).1 t s (!(prs rs fr fr 0 row).2) → Tfr M M' m → Q none M') : wp F_Md_treat 229 [.ref m, l1, l2, l3, .int (nI fr), .int (nI 0)] [] M Q := by
  have h200 := hw.2.2
  have loop : ∀ d i row' st' M', i + d = fr → RowK row' k → MmV M' m f rs row' t s st' → Tfr M M' m → (st' = false → prs rs fr fr 0 row = prs rs fr d i row') → (st' = true → prs rs fr fr 0 row = (row', false)) → wp F_Md_treat 229 [.ref m, l1, l2, l3, .int (nI fr), .int (nI i)] [] M' Q := by
    intro d
    induction d with
    | zero =>
      intro i row' st' M' hi hr' V' F' h0 h1
      have e1 : ¬ nI fr < nI i := nI_nlt (by omega) (by omega)
      have V0 := V'
      obtain ⟨S', R', Ro', N'⟩ := V'
      simp only [B_Md_treat_229, e1, if_false, S'.1, N'.2.2, true_and]
      cases st' with
      | true =>
        simp only [bI, if_true, i10, if_false, B_Md_treat_289]
        rw [h1 rfl] at hQ; exact hQ M' V0 F'
      | false =>
        have h0 := h0 rfl
        have hif : i = fr := by omega
        subst hif
        have xb : ixB M' (m + 11) (nI i) := ixZ_of S'.isLive.2 (by omega) (by omega)
        have cli := cl_nI (show i < 2147483648 by omega)
        have g5 := (R'.2.2 i hfr).2.2.2.2
        rw [hlv] at g5
        have e3 : nI i ≤ nI i := nI_le (by omega) (by omega)
        have e4 : nI i < nI (i + 1) := nI_lt (by omega) (by omega)
        simp only [bI, Bool.false_eq_true, if_false, if_true, B_Md_treat_229, SS, S'.1, S'.isLive.1, xb, cli, g5, true_and, i10]
        refine k_mOvAll V0 hw hr' hfr hfr ?_
        intro M2 V2 T2
        simp only [SS, Option.toList_none, List.nil_append, B_Md_treat_229, B_Md_treat_283, e3, if_true, nI_i1]
        rw [G_Md_treat_286]
        simp only [B_Md_treat_229, B_Md_treat_289, e4, if_true]
        rw [h0] at hQ
        exact hQ M2 V2 (F'.trans T2)
    | succ d ih =>
      intro i row' st' M' hi hr' V' F' h0 h1
      have e1 : ¬ nI fr < nI i := nI_nlt (by omega) (by omega)
      have V0 := V'
      obtain ⟨S', R', Ro', N'⟩ := V'
      simp only [B_Md_treat_229, e1, if_false, S'.1, N'.2.2, true_and]
      cases st' with
      | true =>
        simp only [bI, if_true, i10, if_false, B_Md_treat_289]
        rw [h1 rfl] at hQ; exact hQ M' V0 F'
      | false =>
        have h0 := h0 rfl
        have xb : ixB M' (m + 11) (nI i) := ixZ_of S'.isLive.2 (by omega) (by omega)
        have cli := cl_nI (show i < 2147483648 by omega)
        have g5 := (R'.2.2 i (by omega)).2.2.2.2
        have e3 : ¬ nI fr ≤ nI i := nI_ge (by omega) (by omega)
        simp only [bI, Bool.false_eq_true, if_false, if_true, B_Md_treat_229, SS, S'.1, S'.isLive.1, xb, cli, g5, true_and]
        cases hli : (rs.getD i dR).2.2 with
        | false =>
          simp only [Bool.false_eq_true, if_false, if_true, B_Md_treat_283, SS, nI_i1]
          rw [G_Md_treat_286]
          refine ih (i + 1) row' false M' (by omega) hr' V0 F' (fun _ => ?_) (fun q => by cases q)
          rw [h0, prs, hli, if_neg (by decide)]
        | true =>
          simp only [if_true, i10, if_false, B_Md_treat_229, S'.1, true_and]
          refine k_mOvAll V0 hw hr' hfr (show i < rs.length by omega) ?_
          intro M2 V2 T2
          have r2 := ovs_k (hw.ruk fr) (hw.ruk i) hr'
          simp only [SS, Option.toList_none, List.nil_append, B_Md_treat_229, e3, if_false, V2.1.1, V2.2.2.2.2.2, true_and]
          cases ho : (ovs (rs.getD fr dR) (rs.getD i dR) row').2 with
          | false =>
            rw [ho] at V2
            simp only [Bool.not_false, bI, if_true, i10, if_false, B_Md_treat_283, SS, nI_i1]
            rw [G_Md_treat_286]
            refine ih (i + 1) _ true M2 (by omega) r2 V2 (F'.trans T2) (fun q => by cases q) (fun _ => ?_)
            rw [h0, prs, hli, if_pos rfl, ho, if_neg (by decide)]
          | true =>
            rw [ho] at V2
            simp only [Bool.not_true, bI, Bool.false_eq_true, if_true, if_false, B_Md_treat_229, V2.1.1, true_and]
            refine k_mOvAll V2 hw r2 (show i < rs.length by omega) hfr ?_
            intro M3 V3 T3
            simp only [SS, Option.toList_none, List.nil_append, B_Md_treat_229, B_Md_treat_283, nI_i1]
            rw [G_Md_treat_286]
            refine ih (i + 1) _ _ M3 (by omega) (ovs_k (hw.ruk i) (hw.ruk fr) r2) V3 ((F'.trans T2).trans T3) (fun q => ?_) (fun q => ?_)
            · rw [h0, prs, hli, if_pos rfl, ho, if_pos rfl, if_pos (by simpa using q)]
            · have q : (ovs (rs.getD i dR) (rs.getD fr dR) (ovs (rs.getD fr dR) (rs.getD i dR) row').1).2 = false := by simpa using q
              rw [h0, prs, hli, if_pos rfl, ho, if_pos rfl, q, if_neg (by decide)]
  exact loop fr 0 row false M (by omega) hr h Tfr.rfl (fun _ => rfl) (fun q => by cases q)
theorem k_mRule {f t s k : Nat} {rs : List Ru} {row : List Pr} {l r : List Nat} {l1 l2 : Value} {i3 : Int32} (h : MmV M m f (rs ++ [(l, r, true)]) row t s false) (hw : RWf (rs ++ [(l, r, true)]) k) (hr : RowK row k) (hno : ¬ (200 ≤ rs.length ∨ 60 < l.length))
    (hQ : ∀ M', MmV M' m f (trt1 rs l r row t s).1 (trt1 rs l r row t s).2.1 (trt1 rs l r row t s).2.2.1 (trt1 rs l r row t s).2.2.2.1 (trt1 rs l r row t s).2.2.2.2 → Tfr M M' m → Q none M') : wp F_Md_treat 199 [.ref m, l1, l2, .int i3, jk, jk] [] M Q := by
  have h200 := hw.2.2
  have hl1 : (rs ++ [(l, r, true)]).length = rs.length + 1 := by simp
  have e5 : nI (rs ++ [(l, r, true)]).length - 1 = nI rs.length := by rw [hl1]; exact nI_pred _
  have hlv : ((rs ++ [(l, r, true)]).getD rs.length dR).2.2 = true := by rw [getD_appR (by omega), if_neg (by omega)]
  rw [show trt1 rs l r row t s = _ from if_neg hno] at hQ
  simp only [B_Md_treat_199, SS, h.1.1, h.2.1.1, e5, true_and]
  refine k_mDrop h hw hr (show rs.length < (rs ++ [(l, r, true)]).length by omega) ?_
  intro M2 V2 T2
  obtain ⟨d1, d2, d3, d4⟩ := drp_w (k := k) (fr := rs.length) rs.length 0 (rs ++ [(l, r, true)]) row (by omega) (by omega) hw hr
  generalize hD : drp rs.length rs.length 0 (rs ++ [(l, r, true)]) row = D at hQ V2 d1 d2 d3 d4
  obtain ⟨D1, D2, D3⟩ := D
  have d3 : D1.length = (rs ++ [(l, r, true)]).length := d3
  simp only [SS, Option.toList_none, List.nil_append, B_Md_treat_199, V2.1.1, V2.2.2.2.2.2, true_and]
  have e0 : ¬ nI rs.length < nI 0 := nI_nlt (by omega) (by omega)
  have i0 : (0 : Int32) = nI 0 := rfl
  have out : ∀ M3 rs' row' t' s' (l5 : Value), MmV M3 m f rs' row' t' s' true → Q none M3 → wp F_Md_treat 226 [.ref m, l1, l2, .int i3, .int (nI rs.length), l5] [] M3 Q := by
    intro M3 rs' row' t' s' l5 V3 hq
    simp only [B_Md_treat_226, SS, i0, B_Md_treat_229, e0, if_false, V3.1.1, V3.2.2.2.2.2, true_and, bI, if_true, show ¬ (1 : Int32) = nI 0 by decide, B_Md_treat_289]
    exact hq
  cases D3 with
  | false =>
    simp only [Bool.not_false, bI, if_true, i10, if_false]
    exact out M2 _ _ _ _ _ V2 (hQ M2 V2 T2)
  | true =>
    simp only [Bool.not_true, bI, Bool.false_eq_true, if_true, if_false, B_Md_treat_199, V2.1.1, true_and]
    simp only [if_true, trt2] at hQ
    refine k_mShorten V2 d1 (by omega) ?_
    intro M3 V3 T3
    simp only [SS, Option.toList_none, List.nil_append, B_Md_treat_199]
    obtain ⟨n1, n2, n3⟩ := rnw_w (k := k) (fr := rs.length) rs.length 0 D1 s (by omega) (by omega) d1
    generalize hN : rnw rs.length 0 D1 s = N at hQ V3 n1 n2 n3
    obtain ⟨N1, N2, N3⟩ := N
    have n2 : N1.length = D1.length := n2
    cases N3 with
    | false =>
      simp only [Bool.false_eq_true, if_false] at hQ
      exact out M3 _ _ _ _ _ V3 (hQ M3 V3 (T2.trans T3))
    | true =>
      simp only [if_true, trt3] at hQ
      simp only [B_Md_treat_226, SS, i0]
      refine k_mLast V3 n1 d2 (by omega) (by rw [n3, d4]; exact hlv) ?_
      intro M4 V4 T4
      exact hQ M4 V4 ((T2.trans T3).trans T4)
end MC
