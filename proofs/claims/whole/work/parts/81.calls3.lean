/-! the class's calls: REDUCING -/
theorem FrS.cp {S : Nat → Prop} {M : Mm} {a b sp dp n : Nat} (h : S b) : FrS S M (cpI M a b sp dp n) := ⟨_, Eq.refl _, fun q k hq => by
  have : ¬ (q = b ∧ dp ≤ k ∧ k < dp + n) := fun z => hq (z.1 ▸ h)
  show (if q = b ∧ dp ≤ k ∧ k < dp + n then _ else _) = _
  rw [if_neg this]; exact Eq.refl _⟩
theorem Bas.told {M M1 : Mm} {x lf : Nat} {tp : List Nat} {nm : Nm} {sl : Nat → List Nat} {td td' : List (Nat × Nat)} (h : Bas M x tp lf nm sl td) (hf : FrS (fun b => b = x ∨ b = x + 1039 ∨ b = x + 1040) M M1) (h1 : gI M1 x 1 = gI M x 1) (h2 : gI M1 x 2 = gI M x 2) (h15 : gI M1 x 15 = nI td'.length) (hl : td'.length ≤ 300) (ht : TRv M1 (x + 1039) (x + 1040) td') : Bas M1 x tp lf nm sl td' := by
  obtain ⟨a1, a2, ⟨a3, a4⟩, a5, a6, a7, a8, a9⟩ := h
  exact ⟨a1.fx hf.x (fun _ q => q.elim), a2.fr hf (by omega), ⟨h1.trans a3, h2.trans a4⟩, fun j hj => (hf.gI (by omega) j).trans (a5 j hj), fun i hi => ⟨(a6 i hi).1.fr hf (by omega) (by omega), (a6 i hi).2⟩, h15, hl, ht⟩
theorem Cor.rd {M : Mm} {x s0 k t s : Nat} {rs : List Ru} {row : List Pr} {st : Bool} {fo : Option (Nat × Nat × Nat)} (h : Cor M x s0 rs k row t s st fo) : RDS M (x + 1018) (x + 9) (x + 1013) := by
  obtain ⟨f, kn, cr, tk, c1, -⟩ := h
  obtain ⟨A, B, C, D, cap, -, -, hD, -⟩ := c1.1
  exact hD
theorem Bas.u {M M1 : Mm} {x lf : Nat} {tp : List Nat} {nm : Nm} {sl : Nat → List Nat} {td : List (Nat × Nat)} {P : Nat → Prop} (h : Bas M x tp lf nm sl td) (hU : Ufr M M1 x P) (hp : ∀ b, P b → x + 1041 ≤ b ∧ b < x + 1048) : Bas M1 x tp lf nm sl td := h.fx hU (fun b q => q.imp id (hp b)) (fun _ q => q)
theorem getD_take {α : Type} {l : List α} {d : α} {n j : Nat} (h : j < n) : (l.take n).getD j d = l.getD j d := by
  rw [List.getD_eq_getElem?_getD, List.getD_eq_getElem?_getD, List.getElem?_take]
  simp [h]
section CL
variable {M : Mm} {x s0 : Nat} {σ : Sg} {Q : Option Value → Mm → Prop}
theorem c_reduce {v : Int32} (h : ClV M x s0 σ) (hI : SgI σ) (hQ : ∀ M', ClV M' x s0 (rcG σ v).2 → Xfr M M' x → Q (some (.int (rcG σ v).1)) M') : wp F_Mr_reduce 0 [.ref x, .int v] [] M Q := by
  obtain ⟨⟨tp, lf, nm⟩, ⟨k, rs, row⟩, ⟨t, s, st, fo⟩, sl, td⟩ := σ
  obtain ⟨hB, hC⟩ := h
  have hB : Bas M x tp lf nm sl td := hB
  have hC : Cor M x s0 rs k row t s st fo := hC
  have hslI : ∀ i, i < 8 → (sl i).length ≤ 80 ∧ ∀ c ∈ sl i, c < k := hI.2.1
  have hsl := hB.2.2.2.2.1
  obtain ⟨⟨m0, f0, f3, f4, f5, f6, f7, f8, f9, -⟩, ⟨b2, b8, -⟩, -, hslS, -, hx⟩ := hB.1
  simp only [B_Mr_reduce_0]
  rw [k_isSlot]
  rcases oix_cases (n := 8) (by omega) v with ⟨j, hj, rfl, e⟩ | ⟨e, -⟩
  · simp only [rcG, e, sSl, sRs] at hQ
    obtain ⟨s1, s2⟩ := hslS j hj
    have e1 : ixR M (x + 8) (nI j) := ixR_of b8 (by omega) hj (by omega)
    simp only [SS, List.cons_append, List.nil_append, e, Option.isSome_some, bI, if_true, i10, if_false, B_Mr_reduce_0, B_Mr_reduce_10, m0, f5, f9, e1, cl_nI (show j < 2147483648 by omega), s1, hC.rd.1, true_and]
    refine k_Tf hC s2 s2 (hsl j hj).1 (by have := hslI j hj; omega) (hsl j hj).2 (hslI j hj).2 (by omega) (by omega) (hsl j hj).2 (by omega) ⟨by omega, by omega⟩ ?_ ?_
    · intro hn M1 C1 U1
      rw [hn] at hQ
      simp only [SS, List.cons_append, List.nil_append, B_Mr_reduce_10, if_true]
      exact hQ M1 ⟨hB.u U1 (fun _ q => q.elim), C1⟩ (U1.xf (fun _ q => q.elim))
    · intro w tr hs hwl hwk M1 C1 U1 v1 st1 tr1
      rw [hs] at hQ
      have hB1 : Bas M1 x tp lf nm (upd1 sl j w) td := hB.slot U1 hj (fun b q => q.imp id Or.inr) (fun _ q => q) v1 (by have := (hslI j hj).1; omega)
      have R1 := C1.rd
      obtain ⟨⟨m0', -, -, -, f5', -, -, -, f9', -, -, -, f13', f14', -⟩, ⟨-, -, b39', b40', -⟩, -⟩ := hB1.1
      obtain ⟨-, ⟨-, -, -, -, -, r5, r6⟩, -, -, -, r22, r23⟩ := R1
      have htl : tr.length ≤ 1000 := by
        obtain ⟨f, kn, cr, tk, c1, -⟩ := hC
        exact form_steps c1.1.lo.2.1 (by have := (hslI j hj).1; omega) hs
      have c300 : (300 : Int32) = nI 300 := rfl
      have z0 : cl (0 : Int32) = 0 := rfl
      have zn : cl (nI (min tr.length 300)) = min tr.length 300 := cl_nI (by omega)
      have n1 : ¬ x + 1018 = x := by omega
      have n2 : ¬ x = x + 1039 := by omega
      have n3 : ¬ x + 1018 = x + 1039 := by omega
      have n4 : ¬ x + 1018 = x + 1040 := by omega
      have cp1 : ∀ N : Mm, sh N (x + 1022) = some (.inr (0, 300)) → sh N (x + 1039) = some (.inr (0, 300)) → cpOk N (x + 1022) (x + 1039) 0 0 (nI (min tr.length 300)) := fun N h1 h2 => ⟨300, 300, h1, h2, by decide, by decide, nI_pos (by omega), by rw [zn]; show 0 + _ ≤ _; omega, by rw [zn]; show 0 + _ ≤ _; omega⟩
      have cp2 : ∀ N : Mm, sh N (x + 1023) = some (.inr (0, 300)) → sh N (x + 1040) = some (.inr (0, 300)) → cpOk N (x + 1023) (x + 1040) 0 0 (nI (min tr.length 300)) := fun N h1 h2 => ⟨300, 300, h1, h2, by decide, by decide, nI_pos (by omega), by rw [zn]; show 0 + _ ≤ _; omega, by rw [zn]; show 0 + _ ≤ _; omega⟩
      simp only [SS, List.cons_append, List.nil_append, B_Mr_reduce_10, i10, if_false, B_Mr_reduce_35, m0', f9', C1.rd.1, st1, c300, min_nI (show tr.length < 2147483648 by omega) (show 300 < 2147483648 by omega), true_and, r5, r6, f13', f14', and_self, if_true, z0, zn, sh_cp, gR_cp, gI_cp, n1, n2, n3, n4, false_and]
      rw [eq_true (cp1 (sI M1 x 15 (nI (min tr.length 300))) r22 b39'), eq_true (cp2 (cpI (sI M1 x 15 (nI (min tr.length 300))) (x + 1022) (x + 1039) 0 0 (min tr.length 300)) r23 b40')]
      simp only [true_and]
      have F : FrS (fun b => b = x ∨ b = x + 1039 ∨ b = x + 1040) M1 (cpI (cpI (sI M1 x 15 (nI (min tr.length 300))) (x + 1022) (x + 1039) 0 0 (min tr.length 300)) (x + 1023) (x + 1040) 0 0 (min tr.length 300)) := ((FrS.sI (Or.inl rfl)).trans (FrS.cp (Or.inr (Or.inl rfl)))).trans (FrS.cp (Or.inr (Or.inr rfl)))
      have n5 : ¬ x = x + 1040 := by omega
      refine hQ _ ⟨hB1.told (td' := tr.take 300) F ?_ ?_ ?_ (by simp; omega) ?_, C1.own F.z (fun b q => ?_)⟩ ((U1.xf (fun b q => ?_)).trans (F.z.xf (fun b q => ?_)))
      · simp [gI_cp, SS, n2, n5]
      · simp [gI_cp, SS, n2, n5]
      · simp [gI_cp, SS, n2, n5, Nat.min_comm]
      · intro i h1 h2
        rw [List.length_take] at h1
        have q1 : ¬ x + 1039 = x + 1040 := by omega
        have q2 : ¬ x + 1022 = x := by omega
        have q3 : ¬ x + 1023 = x + 1039 := by omega
        have q4 : ¬ x + 1023 = x := by omega
        have q5 : i < min tr.length 300 := by omega
        have tt := tr1 i (by omega) h2
        rw [getD_take h2]
        simp [gI_cp, SS, q1, q2, q3, q4, q5, tt]
      · rcases q with q | q | q
        · exact Or.inl (by omega)
        · exact Or.inr ⟨by omega, by omega⟩
        · exact Or.inr ⟨by omega, by omega⟩
      · rcases q with q | q <;> exact ⟨by omega, by omega⟩
      · rcases q with q | q | q <;> exact ⟨by omega, by omega⟩
  · simp only [rcG, e] at hQ
    simp only [SS, List.cons_append, List.nil_append, e, Option.isSome_none, bI, Bool.false_eq_true, if_false, if_true, B_Mr_reduce_0]
    exact hQ M ⟨hB, hC⟩ Xfr.rfl
/-- the numbers of the Completion out of all -/
theorem c_isDone {s0 k t s : Nat} {rs : List Ru} {row : List Pr} {st : Bool} {fo : Option (Nat × Nat × Nat)} (hC : Cor M x s0 rs k row t s st fo) : sh M (x + 1024) = some (.inl 0) ∧ wp F_Completion_isDone 0 [.ref (x + 1024)] [] M Q = Q (some (.int (bI (!st && row.isEmpty)))) M := by
  obtain ⟨f, kn, cr, tk, c1, c2, -⟩ := hC
  exact ⟨c1.2.2.2.1, k_isDone c1 c2⟩
theorem c_same {a b : Int32} (h : ClV M x s0 σ) (hI : SgI σ) (hQ : ∀ M', ClV M' x s0 σ → Xfr M M' x → Q (some (.int (smG σ a b))) M') : wp F_Mr_same 0 [.ref x, .int a, .int b] [] M Q := by
  obtain ⟨⟨tp, lf, nm⟩, ⟨k, rs, row⟩, ⟨t, s, st, fo⟩, sl, td⟩ := σ
  obtain ⟨hB, hC⟩ := h
  have hB : Bas M x tp lf nm sl td := hB
  have hC : Cor M x s0 rs k row t s st fo := hC
  have hslI : ∀ i, i < 8 → (sl i).length ≤ 80 ∧ ∀ c ∈ sl i, c < k := hI.2.1
  have hwf : RWf rs k := hI.2.2.1
  have hsl := hB.2.2.2.2.1
  obtain ⟨⟨m0, f0, f3, f4, f5, f6, f7, f8, f9, f10, f11, f12, f13, f14, f16, f17, -⟩, ⟨b2, b8, -⟩, ⟨w41, w43, -⟩, hslS, -, hx⟩ := hB.1
  simp only [B_Mr_same_0]
  rw [k_isSlot]
  rcases oix_cases (n := 8) (by omega) a with ⟨p, hp, rfl, e⟩ | ⟨e, -⟩
  · simp only [SS, List.cons_append, List.nil_append, e, Option.isSome_some, bI, if_true, i10, if_false, B_Mr_same_0]
    rw [k_isSlot]
    rcases oix_cases (n := 8) (by omega) b with ⟨q, hq, rfl, eq⟩ | ⟨eq, -⟩
    · simp only [smG, e, eq, sSl, sRs] at hQ
      obtain ⟨sp1, sp2⟩ := hslS p hp
      have ixp : ∀ N, sh N (x + 8) = some (.inr (10, 8)) → ∀ i, i < 8 → ixR N (x + 8) (nI i) := fun N hN i hi => ixR_of hN (by omega) hi (by omega)
      have lp := hslI p hp
      have lq := hslI q hq
      simp only [SS, List.cons_append, List.nil_append, eq, Option.isSome_some, bI, if_true, i10, if_false, B_Mr_same_0, B_Mr_same_17, m0, f5, f9, f16, ixp M b8 p hp, cl_nI (show p < 2147483648 by omega), sp1, hC.rd.1, true_and]
      refine k_Tf hC sp2 w41 (hsl p hp).1 (by omega) lp.1 lp.2 (by omega) (by omega) (by omega) (by omega) ⟨by omega, by omega⟩ ?_ ?_
      · intro hn M1 C1 U1
        rw [hn] at hQ
        simp only [SS, List.cons_append, List.nil_append, B_Mr_same_17, if_true, B_Mr_same_57]
        exact hQ M1 ⟨hB.u U1 (fun _ q => q.elim), C1⟩ (U1.xf (fun _ q => q.elim))
      · intro wa ta hsa hla hka M1 C1 U1 v1 _ _
        rw [hsa] at hQ
        dsimp only at hQ
        have hB1 := hB.u U1 (fun b q => by rcases q with q | q <;> exact ⟨by omega, by omega⟩)
        obtain ⟨⟨m0', -, -, -, f5', -, -, -, f9', -, -, -, -, -, -, f17', -⟩, ⟨-, b8', -⟩, ⟨w41', w43', -⟩, hslS', -, hx'⟩ := hB1.1
        obtain ⟨sq1, sq2⟩ := hslS' q hq
        simp only [SS, List.cons_append, List.nil_append, B_Mr_same_17, i10, if_false, m0', f5', f9', f17', ixp M1 b8' q hq, cl_nI (show q < 2147483648 by omega), sq1, C1.rd.1, true_and]
        refine k_Tf C1 sq2 w43' (hB1.2.2.2.2.1 q hq).1 (by omega) lq.1 lq.2 (by omega) (by omega) (by omega) (by omega) ⟨by omega, by omega⟩ ?_ ?_
        · intro hn M2 C2 U2
          rw [hn] at hQ
          simp only [SS, List.cons_append, List.nil_append, B_Mr_same_17, if_true, B_Mr_same_57]
          exact hQ M2 ⟨hB1.u U2 (fun _ q => q.elim), C2⟩ ((U1.xf (fun b q => by rcases q with q | q <;> exact ⟨by omega, by omega⟩)).trans (U2.xf (fun _ q => q.elim)))
        · intro wb tb hsb hlb hkb M2 C2 U2 v2 _ _
          rw [hsb] at hQ
          dsimp only at hQ
          have hB2 := hB1.u U2 (fun b q => by rcases q with q | q <;> exact ⟨by omega, by omega⟩)
          have XX := (U1.xf (fun b q => by rcases q with q | q <;> exact ⟨by omega, by omega⟩)).trans (U2.xf (fun b q => by rcases q with q | q <;> exact ⟨by omega, by omega⟩))
          obtain ⟨⟨m0'', -, -, -, -, -, -, -, -, f10'', -, -, -, -, f16'', f17'', -⟩, -, ⟨w41'', w43'', -⟩, -, -, -⟩ := hB2.1
          have nz : ∀ b, x + 1041 ≤ b → b < x + 1043 → ¬ (tS x b ∨ wS (x + 1043) b) := fun b h1 h2 q => by rcases q with (q | q) | q | q <;> omega
          have v12 := v1.frx U2 (by omega) (nz _ (by omega) (by omega)) (nz _ (by omega) (by omega))
          simp only [SS, List.cons_append, List.nil_append, B_Mr_same_17, i10, if_false, B_Mr_same_60, m0'', f16'', f17'', w41''.1, true_and]
          rw [k_Word_against w41'' w43'' v12 v2 (by omega) (by omega) (by omega) (by omega)]
          simp only [SS, List.cons_append, List.nil_append, B_Mr_same_60]
          by_cases z : cmpW wa wb = 0
          · rw [if_pos z] at hQ
            rw [if_pos z]
            exact hQ M2 ⟨hB2, C2⟩ XX
          · rw [if_neg z] at hQ
            rw [if_neg z]
            simp only [B_Mr_same_76, SS, m0'', f10'', (c_isDone (Q := Q) C2).1, true_and]
            rw [(c_isDone C2).2]
            simp only [SS, List.cons_append, List.nil_append, B_Mr_same_76]
            have hQ := hQ M2 ⟨hB2, C2⟩ XX
            cases hd : (!st && row.isEmpty) with
            | true =>
              rw [if_pos (show sDn ((tp, lf, nm), (k, rs, row), (t, s, st, fo), sl, td) = true from hd)] at hQ
              simp only [bI, if_true, i10, if_false, B_Mr_same_76, B_Mr_same_91]
              exact hQ
            | false =>
              rw [if_neg (show ¬ sDn ((tp, lf, nm), (k, rs, row), (t, s, st, fo), sl, td) = true from fun q => by rw [show sDn ((tp, lf, nm), (k, rs, row), (t, s, st, fo), sl, td) = false from hd] at q; cases q)] at hQ
              simp only [bI, Bool.false_eq_true, if_true, if_false, B_Mr_same_76, B_Mr_same_90, B_Mr_same_91]
              exact hQ
    · simp only [smG, e, eq] at hQ
      simp only [SS, List.cons_append, List.nil_append, eq, Option.isSome_none, bI, Bool.false_eq_true, if_false, if_true, B_Mr_same_0, B_Mr_same_14]
      exact hQ M ⟨hB, hC⟩ Xfr.rfl
  · simp only [smG, e] at hQ
    simp only [SS, List.cons_append, List.nil_append, e, Option.isSome_none, bI, Bool.false_eq_true, if_false, if_true, B_Mr_same_0, B_Mr_same_14]
    exact hQ M ⟨hB, hC⟩ Xfr.rfl
end CL
