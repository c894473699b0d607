/-! the reference: one treating, completing -/
section MC
variable {M : Mm} {m : Nat} {σ : Sg} {Q : Option Value → Mm → Prop}
set_option maxHeartbeats 1000000 in
theorem k_mTreat {f t s k : Nat} {rs : List Ru} {row : List Pr} {u : Pr} (h : MmV M m f rs (u :: row) t s false) (hw : RWf rs k) (hr : RowK (u :: row) k)
    (hQ : ∀ f' M', MmV M' m f' (trt rs u row t s).1 (trt rs u row t s).2.1 (trt rs u row t s).2.2.1 (trt rs u row t s).2.2.2.1 (trt rs u row t s).2.2.2.2 → Tfr M M' m → Q none M') : wp F_Md_treat 0 [.ref m, jk, jk, jk, jk, jk] [] M Q := by
  have h200 := hw.2.2
  have hk8 := hw.2.1
  obtain ⟨S, R, ⟨r1, r2, r3, r4, r5⟩, U⟩ := h
  have hl : row.length + 1 ≤ 1000 := by simpa using r4
  obtain ⟨p1, p2, p3, p4⟩ := hr.2 u (by simp)
  have hr' : RowK row k := ⟨by omega, fun p hp => hr.2 p (by simp [hp])⟩
  have c1000 : ¬ (1000 : Int32) = 0 := by decide
  have c2 : (2 : Int32) = nI 2 := rfl
  have c240 : (240 : Int32) = nI 240 := rfl
  have c120 : (120 : Int32) = nI 120 := rfl
  have e5 : nI (u :: row).length - 1 = nI row.length := nI_pred _
  simp only [B_Md_treat_0, SS, S.1, r1, r3, U.1, true_and, nI_i1, rem1000 (show f + 1 < 2147483648 by omega), c1000, not_false_eq_true, e5, show ¬ (25 : Nat) = 24 by omega, show ¬ (26 : Nat) = 24 by omega, show ¬ (26 : Nat) = 25 by omega, and_false, if_false]
  have F0 : FrS (fun b => b = m) M (sI (sI (sI M m 24 (nI ((f + 1) % 1000))) m 25 (nI row.length)) m 26 (nI (t + 1))) := ((FrS.sI (S := fun b => b = m) rfl).trans (FrS.sI rfl)).trans (FrS.sI rfl)
  have gm0 : ∀ j, j ≠ 24 → j ≠ 25 → j ≠ 26 → gI (sI (sI (sI M m 24 (nI ((f + 1) % 1000))) m 25 (nI row.length)) m 26 (nI (t + 1))) m j = gI M m j := fun j h1 h2 h3 => by
    rw [gI_sI, if_neg (by omega), gI_sI, if_neg (by omega), gI_sI, if_neg (by omega)]
  have V0 : MmV (sI (sI (sI M m 24 (nI ((f + 1) % 1000))) m 25 (nI row.length)) m 26 (nI (t + 1))) m ((f + 1) % 1000) rs row (t + 1) s false := by
    refine ⟨S.fr F0, R.eq (gm0 _ (by omega) (by omega) (by omega)) (fun b h1 h2 j => F0.gI (by omega) j), ⟨by simp [SS], Nat.mod_lt _ (by omega), by simp [SS], by omega, fun i hi => ?_⟩, ⟨by simp [SS], (gm0 _ (by omega) (by omega) (by omega)).trans U.2.1, (gm0 _ (by omega) (by omega) (by omega)).trans U.2.2⟩⟩
    obtain ⟨q1, q2, q3, q4⟩ := r5 (i + 1) (by simp; omega)
    have em : (f + (i + 1)) % 1000 = ((f + 1) % 1000 + i) % 1000 := by omega
    rw [em] at q1 q2 q3 q4
    exact ⟨(F0.gI (by omega) _).trans q1, (F0.gI (by omega) _).trans q2, q3.fr F0 (by omega), q4.fr F0 (by omega)⟩
  obtain ⟨q1, q2, q3, q4⟩ := r5 0 (by simp)
  have ef : (f + 0) % 1000 = f := by omega
  rw [ef] at q1 q2 q3 q4
  have q1 := (F0.gI (show ¬ m + 13 = m by omega) _).trans q1
  have q2 := (F0.gI (show ¬ m + 13 = m by omega) _).trans q2
  have q3 := q3.fr F0 (show ¬ m + 12 = m by omega)
  have q4 := q4.fr F0 (show ¬ m + 12 = m by omega)
  have T0 : Tfr M (sI (sI (sI M m 24 (nI ((f + 1) % 1000))) m 25 (nI row.length)) m 26 (nI (t + 1))) m := tfr_of F0 (fun b q => Or.inl q) (fun j hj => gm0 j (fun e => hj (by unfold tF; omega)) (fun e => hj (by unfold tF; omega)) (fun e => hj (by unfold tF; omega)))
  generalize sI (sI (sI M m 24 (nI ((f + 1) % 1000))) m 25 (nI row.length)) m 26 (nI (t + 1)) = M0 at V0 T0 q1 q2 q3 q4
  have q1 : gI M0 (m + 13) (2 * f) = nI u.1.length := q1
  have q2 : gI M0 (m + 13) (2 * f + 1) = nI u.2.length := q2
  have q3 : AR M0 (m + 12) (240 * f) u.1 := q3
  have q4 : AR M0 (m + 12) (240 * f + 120) u.2 := q4
  have cl2 := cl_nI (show 2 * f < 2147483648 by omega)
  have cl3 := cl_nI (show 2 * f + 1 < 2147483648 by omega)
  have la : ∀ n i M1, i + n = u.1.length → FrS (fun b => b = m + 14) M0 M1 → AR M1 (m + 14) 0 (u.1.take i) → (∀ M2 (i2 : Int32), FrS (fun b => b = m + 14) M0 M2 → AR M2 (m + 14) 0 u.1 → wp F_Md_treat 77 [.ref m, .int (nI f), .int i2, jk, jk, jk] [] M2 Q) → wp F_Md_treat 41 [.ref m, .int (nI f), .int (nI i), jk, jk, jk] [] M1 Q := by
    intro n
    induction n with
    | zero =>
      intro i M1 hi F A K
      have S1 := V0.1.fr F
      have x1 : ixI M1 (m + 13) (nI (2 * f)) := ixI_of S1.pairSize.2 (by omega) (by omega)
      have e1 : nI u.1.length ≤ nI i := nI_le (by omega) (by omega)
      simp only [B_Md_treat_41, SS, S1.1, S1.pairSize.1, c2, pk_mul, x1, cl2, (F.gI (show ¬ m + 13 = m + 14 by omega) _).trans q1, e1, if_true, true_and]
      rw [List.take_of_length_le (by omega)] at A
      exact K M1 _ F A
    | succ n ih =>
      intro i M1 hi F A K
      have S1 := V0.1.fr F
      have x1 : ixI M1 (m + 13) (nI (2 * f)) := ixI_of S1.pairSize.2 (by omega) (by omega)
      have x2 : ixI M1 (m + 12) (nI (240 * f + i)) := ixI_of S1.pair.2 (by omega) (by omega)
      have x3 : ixW M1 (m + 14) (nI i) := ixW_of S1.one.2 (by omega) (by omega)
      have e1 : ¬ nI u.1.length ≤ nI i := nI_ge (by omega) (by omega)
      simp only [B_Md_treat_41, SS, S1.1, S1.pairSize.1, S1.pair.1, S1.one.1, c2, c240, pk_mul, nI_add, x1, x2, x3, cl2, cl_nI (show 240 * f + i < 2147483648 by omega), cl_nI (show i < 2147483648 by omega), (F.gI (show ¬ m + 13 = m + 14 by omega) _).trans q1, (F.gI (show ¬ m + 12 = m + 14 by omega) _).trans (q3 i (by omega)), e1, if_false, true_and, nI_i1]
      rw [G_Md_treat_74]
      refine ih (i + 1) _ (by omega) (F.trans (FrS.sI rfl)) ?_ K
      rw [take_succ_getD 0 (by omega)]
      have hln : (u.1.take i).length = i := by rw [List.length_take]; omega
      refine AR.app (fun q hq => ?_) ?_
      · rw [gI_sI, if_neg (fun z => by omega)]; exact A q hq
      · rw [gI_sI, if_pos ⟨rfl, by omega⟩]
  refine la u.1.length 0 M0 (by omega) FrS.rfl AR.nil ?_
  intro M1 i2 F1 A1
  have V1 : MmV M1 m ((f + 1) % 1000) rs row (t + 1) s false := V0.w (F1.weaken (fun b q => Or.inl q))
  have T1 : Tfr M M1 m := T0.trans (tfr_of F1 (fun b q => by unfold tC; omega) (fun j _ => F1.gI (by omega) j))
  have x1 : ixI M1 (m + 13) (nI (2 * f)) := ixI_of V1.1.pairSize.2 (by omega) (by omega)
  have q11 : gI M1 (m + 13) (2 * f) = nI u.1.length := (F1.gI (by omega) _).trans q1
  simp only [B_Md_treat_77, SS, V1.1.1, V1.1.one.1, V1.1.pairSize.1, c2, pk_mul, x1, cl2, q11, true_and]
  refine k_mForm V1 hw (Or.inl rfl) A1 (by omega) p3 ?_ ?_
  · intro hn M2 V2 N2
    simp only [trt, hn] at hQ
    simp only [SS, List.cons_append, List.nil_append, B_Md_treat_77, V2.1.1, V2.2.2.2.2.2, true_and, bI, if_true, i10, if_false]
    exact hQ _ M2 V2 (T1.trans (N2.t (Or.inl rfl)))
  · intro a t1 hfa hal hak M2 V2 N2 A2
    simp only [SS, List.cons_append, List.nil_append, B_Md_treat_77, V2.1.1, V2.2.2.2.2.2, true_and, bI, Bool.false_eq_true, if_true, if_false, B_Md_treat_102]
    have q22 : gI M2 (m + 13) (2 * f + 1) = nI u.2.length := (N2.1.gI (by unfold skS; omega) _).trans ((F1.gI (by omega) _).trans q2)
    have q42 : AR M2 (m + 12) (240 * f + 120) u.2 := (q4.fr F1 (by omega)).fr N2.1 (by unfold skS; omega)
    have T2 := T1.trans (N2.t (Or.inl rfl))
    have lb : ∀ n i M3, i + n = u.2.length → FrS (fun b => b = m + 15) M2 M3 → AR M3 (m + 15) 0 (u.2.take i) → (∀ M4 (i3 : Int32), FrS (fun b => b = m + 15) M2 M4 → AR M4 (m + 15) 0 u.2 → wp F_Md_treat 145 [.ref m, .int (nI f), .int (nI a.length), .int i3, jk, jk] [] M4 Q) → wp F_Md_treat 104 [.ref m, .int (nI f), .int (nI a.length), .int (nI i), jk, jk] [] M3 Q := by
      intro n
      induction n with
      | zero =>
        intro i M3 hi F A K
        have S1 := V2.1.fr F
        have x1 : ixI M3 (m + 13) (nI (2 * f + 1)) := ixI_of S1.pairSize.2 (by omega) (by omega)
        have e1 : nI u.2.length ≤ nI i := nI_le (by omega) (by omega)
        simp only [B_Md_treat_104, SS, S1.1, S1.pairSize.1, c2, pk_mul, nI_i1, x1, cl3, (F.gI (show ¬ m + 13 = m + 15 by omega) _).trans q22, e1, if_true, true_and]
        rw [List.take_of_length_le (by omega)] at A
        exact K M3 _ F A
      | succ n ih =>
        intro i M3 hi F A K
        have S1 := V2.1.fr F
        have x1 : ixI M3 (m + 13) (nI (2 * f + 1)) := ixI_of S1.pairSize.2 (by omega) (by omega)
        have x2 : ixI M3 (m + 12) (nI (240 * f + 120 + i)) := ixI_of S1.pair.2 (by omega) (by omega)
        have x3 : ixW M3 (m + 15) (nI i) := ixW_of S1.other.2 (by omega) (by omega)
        have e1 : ¬ nI u.2.length ≤ nI i := nI_ge (by omega) (by omega)
        simp only [B_Md_treat_104, SS, S1.1, S1.pairSize.1, S1.pair.1, S1.other.1, c2, c240, c120, pk_mul, nI_add, nI_i1, x1, x2, x3, cl3, cl_nI (show 240 * f + 120 + i < 2147483648 by omega), cl_nI (show i < 2147483648 by omega), (F.gI (show ¬ m + 13 = m + 15 by omega) _).trans q22, (F.gI (show ¬ m + 12 = m + 15 by omega) _).trans (q42 i (by omega)), e1, if_false, true_and]
        rw [G_Md_treat_142]
        refine ih (i + 1) _ (by omega) (F.trans (FrS.sI rfl)) ?_ K
        rw [take_succ_getD 0 (by omega)]
        have hln : (u.2.take i).length = i := by rw [List.length_take]; omega
        refine AR.app (fun q hq => ?_) ?_
        · rw [gI_sI, if_neg (fun z => by omega)]; exact A q hq
        · rw [gI_sI, if_pos ⟨rfl, by omega⟩]
    refine lb u.2.length 0 M2 (by omega) FrS.rfl AR.nil ?_
    intro M3 i3 F3 B3
    have V3 : MmV M3 m ((f + 1) % 1000) rs row (t + 1) (s + t1.length) false := V2.w (F3.weaken (fun b q => Or.inr q))
    have T3 : Tfr M M3 m := T2.trans (tfr_of F3 (fun b q => by unfold tC; omega) (fun j _ => F3.gI (by omega) j))
    have A3 : AR M3 (m + 14) 0 a := A2.fr F3 (by omega)
    have x1 : ixI M3 (m + 13) (nI (2 * f + 1)) := ixI_of V3.1.pairSize.2 (by omega) (by omega)
    have q23 : gI M3 (m + 13) (2 * f + 1) = nI u.2.length := (F3.gI (by omega) _).trans q22
    simp only [B_Md_treat_145, SS, V3.1.1, V3.1.other.1, V3.1.pairSize.1, c2, pk_mul, nI_i1, x1, cl3, q23, true_and]
    refine k_mForm V3 hw (Or.inr rfl) B3 (by omega) p4 ?_ ?_
    · intro hn M4 V4 N4
      simp only [trt, hfa, hn] at hQ
      simp only [SS, List.cons_append, List.nil_append, B_Md_treat_145, B_Md_treat_198, V4.1.1, V4.2.2.2.2.2, true_and, bI, if_true, i10, if_false]
      exact hQ _ M4 V4 (T3.trans (N4.t (Or.inr rfl)))
    · intro b t2 hfb hbl hbk M4 V4 N4 B4
      simp only [trt, hfa, hfb] at hQ
      have A4 : AR M4 (m + 14) 0 a := A3.fr N4.1 (by unfold skS; omega)
      have T4 := T3.trans (N4.t (Or.inr rfl))
      have S4 := V4.1
      have z0 : (0 : Int32) = nI 0 := rfl
      simp only [SS, List.cons_append, List.nil_append, B_Md_treat_145, V4.1.1, V4.2.2.2.2.2, true_and, bI, Bool.false_eq_true, if_true, if_false, S4.one.1, S4.other.1]
      rw [z0, k_mGreater S4.one.2 S4.other.2 A4 B4 (by omega) (by omega) (fun c hc => by have := hak c hc; omega) (fun c hc => by have := hbk c hc; omega) (by omega) (by omega)]
      simp only [SS, List.cons_append, List.nil_append, B_Md_treat_145]
      by_cases q0 : cmpW a b = 0
      · rw [if_pos q0] at hQ
        rw [if_pos q0]
        simp only [B_Md_treat_198]
        exact hQ _ M4 V4 T4
      · rw [if_neg q0] at hQ
        rw [if_neg q0]
        simp only [B_Md_treat_145, S4.1, true_and]
        have hQ' : ∀ f' M', MmV M' m f' (trt1 rs (if 0 < cmpW a b then a else b) (if 0 < cmpW a b then b else a) row (t + 1) (s + t1.length + t2.length)).1 (trt1 rs (if 0 < cmpW a b then a else b) (if 0 < cmpW a b then b else a) row (t + 1) (s + t1.length + t2.length)).2.1 (trt1 rs (if 0 < cmpW a b then a else b) (if 0 < cmpW a b then b else a) row (t + 1) (s + t1.length + t2.length)).2.2.1 (trt1 rs (if 0 < cmpW a b then a else b) (if 0 < cmpW a b then b else a) row (t + 1) (s + t1.length + t2.length)).2.2.2.1 (trt1 rs (if 0 < cmpW a b then a else b) (if 0 < cmpW a b then b else a) row (t + 1) (s + t1.length + t2.length)).2.2.2.2 → Tfr M M' m → Q none M' := by
          by_cases qp : 0 < cmpW a b
          · rw [if_pos qp] at hQ
            rw [if_pos qp, if_pos qp]; exact hQ
          · rw [if_neg qp] at hQ
            rw [if_neg qp, if_neg qp]; exact hQ
        have wf : ¬ (200 ≤ rs.length ∨ 60 < (if 0 < cmpW a b then a else b).length) → RWf (rs ++ [((if 0 < cmpW a b then a else b), (if 0 < cmpW a b then b else a), true)]) k := by
          intro hno
          by_cases qp : 0 < cmpW a b
          · rw [if_pos qp] at hno
            rw [if_pos qp, if_pos qp]
            exact hw.make (by omega) (by omega) (cmpW_ne qp) (cmpW_le qp) hak hbk
          · rw [if_neg qp] at hno
            rw [if_neg qp, if_neg qp]
            have e : cmpW a b = -1 := by
              rcases cmpW_cases a b with e | e | e
              · exact absurd e q0
              · exact absurd (by rw [e]; decide) qp
              · exact e
            exact hw.make (by omega) (by omega) (cmpW_ne' e) (cmpW_le (cmpW_flip e)) hbk hak
        refine k_mMade V4 hw A4 B4 (by omega) (by omega) hak hbk q0 ?_ ?_
        · intro hst M5 V5 T5
          simp only [SS, List.cons_append, List.nil_append, B_Md_treat_145, B_Md_treat_198, i10, if_true]
          refine hQ' ((f + 1) % 1000) M5 ?_ (T4.trans T5)
          rw [show trt1 rs (if 0 < cmpW a b then a else b) (if 0 < cmpW a b then b else a) row (t + 1) (s + t1.length + t2.length) = _ from if_pos hst]
          exact V5
        · intro hno M5 V5 T5
          simp only [SS, List.cons_append, List.nil_append, B_Md_treat_145, i10, if_false]
          refine k_mRule V5 (wf hno) hr' hno ?_
          intro M6 V6 T6
          exact hQ' _ M6 V6 ((T4.trans T5).trans T6)
/-- completing keeps what lies beside the RULES and the row -/
theorem MdV.cmp {f t s k : Nat} {rs : List Ru} {row : List Pr} {st : Bool} {M1 : Mm} (h : MdV M m σ) (hk : k = sK σ) (T : Tfr M M1 m) (V : MmV M1 m f rs row t s st) (hc : sRow σ = [] → rs = sRs σ ∧ row = [] ∧ st = sSt σ) : MdV M1 m (σ.1, (k, rs, row), (t, s, st, sFo σ), σ.2.2.2) := by
  obtain ⟨a1, a2, ⟨a3, a4, a5⟩, a6, a7, a8, a9, a10, a11, ⟨cd, a12, a13⟩⟩ := h
  have g : ∀ j, ¬ tF j → gI M1 m j = gI M m j := T.2
  have c : ∀ b, ¬ tC m b → ∀ j, gI M1 b j = gI M b j := fun b hb j => T.1.gI hb j
  have nF : ∀ j, j = 2 ∨ j = 7 ∨ j = 11 ∨ j = 36 ∨ 39 ≤ j → ¬ tF j := fun j hj q => by unfold tF at q; omega
  have nC : ∀ b, b = m + 1 ∨ b = m + 3 ∨ b = m + 16 ∨ b = m + 17 ∨ (m + 20 ≤ b ∧ b ≤ m + 28) → ¬ tC m b := fun b hb q => by unfold tC at q; omega
  subst hk
  refine ⟨V.1, a2.eq (g _ (nF _ (by omega))) (c _ (nC _ (by omega))), ⟨(g _ (nF _ (by omega))).trans a3, (g _ (nF _ (by omega))).trans a4, fun j hj => (c _ (nC _ (by omega)) _).trans (a5 j hj)⟩, V.2.1, ⟨f, V.2.2.1⟩, V.2.2.2, a9.eq (g _ (nF _ (by omega))) (g _ (nF _ (by omega))) (g _ (nF _ (by omega))), a10.eq (c _ (nC _ (by omega))) (c _ (nC _ (by omega))), a11.eq (g _ (nF _ (by omega))) (c _ (nC _ (by omega))) (c _ (nC _ (by omega))), ⟨cd, (g _ (nF _ (by omega))).trans a12, fun hcd => ?_⟩⟩
  obtain ⟨b1, b2, b3⟩ := a13 hcd
  obtain ⟨e1, e2, e3⟩ := hc b1
  refine ⟨e2, e3.trans b2, ?_⟩
  show CnV M1 m rs (sK σ)
  rw [e1]
  exact b3.eq (g _ (nF _ (by omega))) (fun j => T.1.gJ _ j) (c _ (nC _ (by omega))) (fun j => T.1.gJ _ j)
theorem cpl_nil {n : Nat} {rs : List Ru} {t s : Nat} {st : Bool} : cpl n rs [] t s st = (rs, [], t, s, st) := by
  cases n with
  | zero => rfl
  | succ n => unfold cpl; split <;> rfl
theorem in_one {v : Int32} {n : Nat} {lo h : Int64} (hn : n < 2147483648) (hl : lo.toInt = 1) (hh : h.toInt = (n : Int) - 1) : decide (lo ≤ v.toInt64 ∧ v.toInt64 ≤ h) = (match oix n v with | some (_ + 1) => true | _ => false) := by
  have ev : v.toInt64.toInt = v.toInt := Int32.toInt_toInt64 v
  rcases oix_cases (n := n) hn v with ⟨j, hj, rfl, e⟩ | ⟨e, -⟩
  · rw [nI_toInt (show j < 2 ^ 31 by omega)] at ev
    rw [e]
    cases j with
    | zero =>
      refine decide_eq_false (fun z => ?_)
      have z1 := Int64.le_iff_toInt_le.mp z.1
      omega
    | succ j => exact decide_eq_true ⟨Int64.le_iff_toInt_le.mpr (by omega), Int64.le_iff_toInt_le.mpr (by omega)⟩
  · rw [e]
    refine decide_eq_false (fun z => ?_)
    have z1 := Int64.le_iff_toInt_le.mp z.1
    have z2 := Int64.le_iff_toInt_le.mp z.2
    unfold oix at e
    rw [if_pos ⟨by omega, by omega⟩] at e
    cases e
theorem m_complete {v : Int32} (h : MdV M m σ) (hI : SgI σ) (hQ : ∀ M', MdV M' m (cpG σ v).2 → Yfr M M' m → Q (some (.int (cpG σ v).1)) M') : wp F_Md_complete 0 [.ref m, .int v, jk] [] M Q := by
  have s : Scr M (sI M m 0 0) m := scr_0 (Or.inl rfl)
  have h' := h.scr s
  have sy := s.y
  simp only [B_Md_complete_0, h.1.1, true_and]
  generalize sI M m 0 0 = M0 at h' sy
  rw [k_in, in_one (n := 501) (by omega) (by rfl) (by rfl)]
  have no : (match oix 501 v with | some (_ + 1) => true | _ => false) = false → cpG σ v = (-2, σ) → wp F_Md_complete 17 [.ref m, .int v, jk] [] M0 Q := by
    intro _ e
    rw [e] at hQ
    simp only [B_Md_complete_0]
    exact hQ M0 h' sy
  rcases oix_cases (n := 501) (by omega) v with ⟨j, hj, rfl, e⟩ | ⟨e, -⟩
  case inr =>
    simp only [SS, List.cons_append, List.nil_append, e, bI, Bool.false_eq_true, if_false, B_Md_complete_0, if_true]
    simp only [cpG, e] at hQ
    exact hQ M0 h' sy
  cases j with
  | zero =>
    simp only [SS, List.cons_append, List.nil_append, e, bI, Bool.false_eq_true, if_false, B_Md_complete_0, if_true]
    simp only [cpG, e] at hQ
    exact hQ M0 h' sy
  | succ n =>
    simp only [cpG, e] at hQ
    simp only [SS, List.cons_append, List.nil_append, e, bI, if_true, i10, if_false, B_Md_complete_0, B_Md_complete_20]
    have V0 : ∃ f, MmV M0 m f (sRs σ) (sRow σ) (sT σ) (sS σ) (sSt σ) := by
      obtain ⟨a1, a2, a3, a6, ⟨f, a7⟩, a8, -⟩ := h'
      exact ⟨f, a1, a6, a7, a8⟩
    obtain ⟨f, V0⟩ := V0
    have K0 : TrK (sRs σ, sRow σ, sT σ, sS σ, sSt σ) (sK σ) := ⟨hI.2.2.1, hI.2.2.2.1, hI.2.2.2.2.1, hI.2.2.2.2.2.1⟩
    have hc : ∀ R, cpl (n + 1) (sRs σ) (sRow σ) (sT σ) (sS σ) (sSt σ) = R → sRow σ = [] → R.1 = sRs σ ∧ R.2.1 = [] ∧ R.2.2.2.2 = sSt σ := by
      intro R hR hrow
      rw [hrow, cpl_nil] at hR
      subst hR
      exact ⟨rfl, rfl, rfl⟩
    generalize hR : cpl (n + 1) (sRs σ) (sRow σ) (sT σ) (sS σ) (sSt σ) = R at hQ hc
    have hc := hc R rfl
    have fin : ∀ f' M' (l2 : Value), MmV M' m f' R.1 R.2.1 R.2.2.1 R.2.2.2.1 R.2.2.2.2 → Tfr M0 M' m → wp F_Md_complete 51 [.ref m, .int (nI (n + 1)), l2] [] M' Q := by
      intro f' M' l2 V' T'
      have hq := hQ M' (h'.cmp rfl T' V' hc) (sy.trans (T'.1.z.weaken (T := fun b => m ≤ b ∧ b < m + 30) (fun b q => by unfold tC at q; omega)))
      have hl := V'.2.2.1.2.2.2.1
      simp only [B_Md_complete_51, V'.1.1, V'.2.2.2.2.2, true_and]
      obtain ⟨R1, R2, R3, R4, R5⟩ := R
      cases R5 with
      | true =>
        simp only [bI, if_true, i10, if_false, B_Md_complete_51, B_Md_complete_74]
        exact hq
      | false =>
        simp only [bI, Bool.false_eq_true, if_true, if_false, B_Md_complete_62, V'.1.1, V'.2.2.1.2.2.1, true_and]
        cases R2 with
        | nil =>
          simp only [List.length_nil, show nI 0 = 0 from rfl, if_true, B_Md_complete_62, B_Md_complete_74]
          exact hq
        | cons u r =>
          have e3 : ¬ nI (u :: r).length = 0 := by
            rw [show (0 : Int32) = nI 0 from rfl, nI_eq (show (u :: r).length < 2 ^ 31 by simp at hl ⊢; omega) (by omega)]
            simp
          simp only [e3, if_false, B_Md_complete_73, B_Md_complete_74]
          exact hq
    have loop : ∀ d i f' rs' row' t' s' st' M', i + d = n + 1 → TrK (rs', row', t', s', st') (sK σ) → MmV M' m f' rs' row' t' s' st' → Tfr M0 M' m → R = cpl d rs' row' t' s' st' → wp F_Md_complete 22 [.ref m, .int (nI (n + 1)), .int (nI i)] [] M' Q := by
      intro d
      induction d with
      | zero =>
        intro i f' rs' row' t' s' st' M' hi K' V' T' he
        have e1 : nI (n + 1) ≤ nI i := nI_le (by omega) (by omega)
        simp only [B_Md_complete_22, e1, if_true]
        refine fin f' M' _ ?_ T'
        rw [he]
        exact V'
      | succ d ih =>
        intro i f' rs' row' t' s' st' M' hi K' V' T' he
        have e1 : ¬ nI (n + 1) ≤ nI i := nI_ge (by omega) (by omega)
        have hl := V'.2.2.1.2.2.2.1
        simp only [B_Md_complete_22, e1, if_false, V'.1.1, V'.2.2.1.2.2.1, V'.2.2.2.2.2, true_and]
        have e2 : nI row'.length ≤ 0 ↔ row'.length ≤ 0 := by
          rw [show (0 : Int32) = nI 0 from rfl, nI_leI (by omega) (by omega)]
        by_cases z : row'.length ≤ 0
        · rw [if_pos (e2.mpr z)]
          refine fin f' M' _ ?_ T'
          have : row' = [] := List.length_eq_zero_iff.mp (by omega)
          rw [he, this, cpl_nil]
          rw [this] at V'
          exact V'
        · rw [if_neg (fun q => z (e2.mp q))]
          cases st' with
          | true =>
            simp only [B_Md_complete_22, V'.1.1, V'.2.2.2.2.2, true_and, bI, if_true, i10, if_false]
            refine fin f' M' _ ?_ T'
            rw [he]
            exact V'
          | false =>
            cases row' with
            | nil => simp at z
            | cons u r =>
              simp only [B_Md_complete_22, V'.1.1, V'.2.2.2.2.2, true_and, bI, Bool.false_eq_true, if_true, if_false]
              refine k_mTreat V' K'.1 K'.2.2.1 ?_
              intro f2 M2 V2 T2
              simp only [SS, Option.toList_none, List.nil_append, B_Md_complete_22, nI_i1]
              rw [G_Md_complete_48]
              refine ih (i + 1) f2 _ _ _ _ _ M2 (by omega) ?_ V2 (T'.trans T2) ?_
              · exact trt_ok K'.1 K'.2.1 K'.2.2.1 (K'.2.2.2 rfl)
              · rw [he]; rfl
    exact loop (n + 1) 0 f _ _ _ _ _ M0 (by omega) K0 V0 Tfr.rfl hR.symm
end MC
