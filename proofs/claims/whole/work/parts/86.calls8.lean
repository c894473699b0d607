/-! the class's calls: completing, a word's text -/
theorem Cor.cs {M : Mm} {x s0 k t s : Nat} {rs : List Ru} {row : List Pr} {st : Bool} {fo : Option (Nat × Nat × Nat)} (hC : Cor M x s0 rs k row t s st fo) : sh M (x + 1024) = some (.inl 0) ∧ gI M (x + 1024) 7 = bI st ∧ sh M (x + 1029) = some (.inl 2) := by
  obtain ⟨f, kn, cr, tk, c1, c2, c3, -⟩ := hC
  exact ⟨c1.2.2.2.1, c2.2.2, c3.1.1⟩
/-- what stands beside the completing -/
def Aux (M : Mm) (x s0 : Nat) : Prop := FNS M x ∧ (∃ W I Qa P wl ql, ElS M x W I Qa P wl ql) ∧ Rom M x s0
theorem Aux.cfr {M M' : Mm} {x s0 : Nat} (h : Aux M x s0) (c : Cfr M M' x) (hx : x + 1094 ≤ nxt M) : Aux M' x s0 := by
  obtain ⟨a1, ⟨W, I, Qa, P, wl, ql, e1⟩, a3⟩ := h
  have e1' := e1.frx c.1 (by omega) (fun y => by rcases y with y | y <;> omega) c.2.2.2
  exact ⟨a1.frx c.1 hx (fun b h1 h2 q => by rcases q with q | q <;> omega), ⟨W, I, Qa, P, wl, ql, e1'⟩, a3.pg (c.2.g (e1'.wl.1.trans e1.wl.1.symm) (e1'.wl.2.trans e1.wl.2.symm))⟩
theorem Aux.z {M M' : Mm} {S : Nat → Prop} {x s0 : Nat} (h : Aux M x s0) (hf : FrZ S M M') (hs : ¬ S (x + 1013)) (hx : x + 1094 ≤ nxt M) : Aux M' x s0 := by
  obtain ⟨a1, ⟨W, I, Qa, P, wl, ql, e1⟩, a3⟩ := h
  exact ⟨a1.frx hf.x hx (fun _ _ _ q => q), ⟨W, I, Qa, P, wl, ql, e1.frZ hf⟩, a3.pg (Pg.z hf hs)⟩
theorem Cor.aux {M : Mm} {x s0 k t s : Nat} {rs : List Ru} {row : List Pr} {st : Bool} {fo : Option (Nat × Nat × Nat)} (hC : Cor M x s0 rs k row t s st fo) : Aux M x s0 := by
  obtain ⟨f, kn, cr, tk, c1, c2, c3, c4, c5, c6⟩ := hC
  obtain ⟨W, I, Qa, P, wl, ql, e1, -⟩ := c4
  exact ⟨c3.1, ⟨W, I, Qa, P, wl, ql, e1⟩, c6⟩
theorem Cfr.u {M M' : Mm} {x : Nat} {P : Nat → Prop} (c : Cfr M M' x) : Ufr M M' x P := c.1.weaken (fun b _ q => Or.inl (zS_tS q)) (fun b _ q => zT_tS q)
section CL
variable {M : Mm} {x s0 : Nat} {σ : Sg} {Q : Option Value → Mm → Prop}
theorem c_complete {v : Int32} (h : ClV M x s0 σ) (hI : SgI σ) (hQ : ∀ M', ClV M' x s0 (cpG σ v).2 → Xfr M M' x → Q (some (.int (cpG σ v).1)) M') : wp F_Mr_complete 0 [.ref x, .int v, jk] [] M Q := by
  obtain ⟨⟨tp, lf, nm⟩, ⟨k, rs, row⟩, ⟨t, s, st, fo⟩, sl, td⟩ := σ
  obtain ⟨hB, hC⟩ := h
  have hB : Bas M x tp lf nm sl td := hB
  have hC : Cor M x s0 rs k row t s st fo := hC
  have hT : TrK (rs, row, t, s, st) k := ⟨hI.2.2.1, hI.2.2.2.1, hI.2.2.2.2.1, hI.2.2.2.2.2.1⟩
  rcases oix_cases (n := 501) (by omega) v with ⟨j, hj, rfl, e⟩ | ⟨e, hv⟩
  · cases j with
    | zero =>
      have q : nI 0 < (1 : Int32) := by decide
      simp only [cpG, e] at hQ
      simp only [B_Mr_complete_0, B_Mr_complete_12, q, if_true]
      exact hQ M ⟨hB, hC⟩ Xfr.rfl
    | succ m =>
      have q1 : ¬ nI (m + 1) < (1 : Int32) := nI_nlt (b := 1) (by omega) (by omega)
      have q2 : nI (m + 1) ≤ (500 : Int32) := nI_le (b := 500) (by omega) (by omega)
      simp only [cpG, e] at hQ
      have hQ : ∀ R : Cst, cpl (m + 1) rs row t s st = R → ∀ M', Cor M' x s0 R.1 k R.2.1 R.2.2.1 R.2.2.2.1 R.2.2.2.2 fo → Ufr M M' x (fun _ => False) → Q (some (.int (cpA R))) M' := by
        intro R hR M' C' U'
        subst hR
        exact hQ M' ⟨hB.u U' (fun _ q => q.elim), C'⟩ (U'.xf (fun _ q => q.elim))
      simp only [B_Mr_complete_0, q1, q2, if_true, if_false, B_Mr_complete_15]
      -- the end
      have fin : ∀ rs' row' t' s' st' (M1 : Mm) (l2 : Value), cpl (m + 1) rs row t s st = (rs', row', t', s', st') → Cor M1 x s0 rs' k row' t' s' st' fo → Ufr M M1 x (fun _ => False) → wp F_Mr_complete 52 [.ref x, .int (nI (m + 1)), l2] [] M1 Q := by
        intro rs' row' t' s' st' M1 l2 hR C1 U1
        have S1 := hB.1.fx U1 (fun _ q => q)
        have hQ := hQ _ hR M1 C1 U1
        simp only [cpA] at hQ
        simp only [B_Mr_complete_52, SS, S1.1.1, S1.1.2.2.2.2.2.2.2.2.2.1, C1.cs.1, C1.cs.2.1, true_and]
        cases st' with
        | true =>
          simp only [bI, if_true, i10, if_false] at hQ ⊢
          exact hQ
        | false =>
          simp only [bI, Bool.false_eq_true, if_true, if_false, B_Mr_complete_64, SS, S1.1.1, S1.1.2.2.2.2.2.2.2.2.2.1, C1.cs.1, true_and] at hQ ⊢
          rw [(c_isDone C1).2]
          simp only [SS, List.cons_append, List.nil_append, B_Mr_complete_64]
          cases row' with
          | nil =>
            simp only [List.isEmpty_nil, Bool.not_false, Bool.and_self, bI, if_true, i10, if_false, B_Mr_complete_64, B_Mr_complete_79] at hQ ⊢
            exact hQ
          | cons u r =>
            simp only [List.isEmpty_cons, Bool.not_false, Bool.and_false, bI, Bool.false_eq_true, if_true, if_false, B_Mr_complete_78, B_Mr_complete_79] at hQ ⊢
            exact hQ
      have loop : ∀ d i rs' row' t' s' st' (M1 : Mm), i + d = m + 1 → TrK (rs', row', t', s', st') k → Cor M1 x s0 rs' k row' t' s' st' fo → Ufr M M1 x (fun _ => False) → cpl (m + 1) rs row t s st = cpl d rs' row' t' s' st' → wp F_Mr_complete 17 [.ref x, .int (nI (m + 1)), .int (nI i)] [] M1 Q := by
        intro d
        induction d with
        | zero =>
          intro i rs' row' t' s' st' M1 hi hT' C1 U1 hR
          have g : nI (m + 1) ≤ nI i := nI_le (by omega) (by omega)
          simp only [B_Mr_complete_17, g, if_true]
          exact fin rs' row' t' s' st' M1 _ hR C1 U1
        | succ d ih =>
          intro i rs' row' t' s' st' M1 hi hT' C1 U1 hR
          have S1 := hB.1.fx U1 (fun _ q => q)
          have hx1 := S1.2.2.2.2.2
          have g : ¬ nI (m + 1) ≤ nI i := nI_ge (by omega) (by omega)
          obtain ⟨cs1, cs2, cs3⟩ := C1.cs
          simp only [B_Mr_complete_17, g, if_false, SS, S1.1.1, S1.1.2.2.2.2.2.2.2.2.2.1, cs1, true_and]
          obtain ⟨f, kn, cr, tk, c1, c2, c3, c4, c5, c6⟩ := id C1
          rw [k_canTreat c1 c2]
          simp only [SS, List.cons_append, List.nil_append, B_Mr_complete_17]
          cases st' with
          | true =>
            simp only [Bool.not_true, Bool.false_and, bI, Bool.false_eq_true, if_false, if_true]
            exact fin rs' row' t' s' true M1 _ (by rw [hR]; rfl) C1 U1
          | false =>
            cases row' with
            | nil =>
              simp only [List.isEmpty_nil, Bool.not_true, Bool.and_false, bI, Bool.false_eq_true, if_false, if_true]
              exact fin rs' [] t' s' false M1 _ (by rw [hR]; rfl) C1 U1
            | cons u r =>
              obtain ⟨T1, T2, T3, T4⟩ := hT'
              have pu := T3.2 u (by simp)
              simp only [List.isEmpty_cons, Bool.not_false, Bool.and_self, bI, if_true, i10, if_false, B_Mr_complete_17, SS, S1.1.1, S1.1.2.2.2.2.2.2.2.2.2.1, cs1, true_and]
              have cr0 : cr = 0 ∧ tk = false := by
                refine ⟨Nat.eq_zero_of_not_pos (fun q => ?_), Bool.eq_false_iff.mpr (fun q => ?_)⟩
                · have := (c5 (Or.inl q)).1; cases this
                · have := (c5 (Or.inr q)).1; cases this
              obtain ⟨rfl, rfl⟩ := cr0
              refine k_treat c1 c2 pu.2.2.1 pu.2.2.2 ?_
              intro M2 d1 d2 d3
              have A2 := C1.aux.cfr d3 hx1
              have U2 : Ufr M1 M2 x (fun _ => False) := d3.u
              have U12 := U1.trans U2
              have S2 := hB.1.fx U12 (fun _ q => q)
              have nz : ∀ b, x + 1029 ≤ b → b < x + 1094 → ¬ zS M1 x b := fun b h1 h2 q => by rcases q with q | q <;> omega
              have fd2 : FND M2 x fo := c3.2.1.eq (fun j => (d3.1.2.2.2.1 _ (by omega) (nz _ (by omega) (by omega))).1 j)
              simp only [SS, Option.toList_none, List.nil_append, B_Mr_complete_17, S2.1.1, S2.1.2.2.2.2.2.2.2.2.2.2.1, A2.1.1, true_and]
              refine k_forget (rs' := (trt rs' u r t' s').1) (kn := false) d1 A2.1 fd2 ?_
              intro M3 e1 e2 e3 e4
              have hx2 := S2.2.2.2.2.2
              simp only [SS, Option.toList_none, List.nil_append, B_Mr_complete_17, nI_i1]
              rw [G_Mr_complete_49]
              have A3 := A2.z e3.z (by omega) hx2
              have cn3 : CNV M3 x (trt rs' u r t' s').2.2.1 (trt rs' u r t' s').2.2.2.1 (trt rs' u r t' s').2.2.2.2 := d2.x e3.x hx2 (by omega)
              have el3 : ElV M3 x (trt rs' u r t' s').1 k 0 false := by
                obtain ⟨W, I, Qa, P, wl, ql, g1, g2, g3, g4, -⟩ := c4
                have g1' := (g1.frx d3.1 (by omega) (fun y => by rcases y with y | y <;> omega) d3.2.2.2).frZ e3.z
                have gg : ∀ j, gI M3 (x + 1034) j = gI M1 (x + 1034) j := fun j => (e3.gI (by omega) j).trans ((d3.1.2.2.2.1 _ (by omega) (nz _ (by omega) (by omega))).1 j)
                exact ⟨W, I, Qa, P, wl, ql, g1', (gg _).trans g2, g3, (gg _).trans g4, fun y => y.elim (fun y => absurd y (by omega)) (fun y => by cases y), fun y => absurd y (by omega), fun y => by cases y⟩
              have C3 : Cor M3 x s0 (trt rs' u r t' s').1 k (trt rs' u r t' s').2.1 (trt rs' u r t' s').2.2.1 (trt rs' u r t' s').2.2.2.1 (trt rs' u r t' s').2.2.2.2 fo := ⟨_, false, 0, false, e1, cn3, e2, el3, fun y => y.elim (fun y => absurd y (by omega)) (fun y => by cases y), A3.2.2⟩
              refine ih (i + 1) _ _ _ _ _ M3 (by omega) (trt_ok T1 T2 T3 (T4 rfl)) C3 (U12.trans (e3.x.weaken (fun b _ q => Or.inl (Or.inl ⟨by omega, by omega⟩)) (fun _ _ q => q.elim))) ?_
              rw [hR]
              rfl
      exact loop (m + 1) 0 rs row t s st M (by omega) hT hC Ufr.rfl rfl
  · simp only [cpG, e] at hQ
    rcases hv with hv | ⟨hv, hv2⟩
    · have q : v < (1 : Int32) := lt_neg (a := 1) hv (by omega)
      simp only [B_Mr_complete_0, B_Mr_complete_12, q, if_true]
      exact hQ M ⟨hB, hC⟩ Xfr.rfl
    · have q1 : ¬ v < (1 : Int32) := nlt_big (a := 1) hv2 (by omega) (by omega)
      have q2 : ¬ v ≤ (500 : Int32) := nle_big (a := 500) hv2 (by omega) (by omega)
      simp only [B_Mr_complete_0, B_Mr_complete_12, q1, q2, if_false]
      exact hQ M ⟨hB, hC⟩ Xfr.rfl
end CL
/-- the tape was read -/
theorem Bas.txt {M M1 : Mm} {x lf lf' : Nat} {tp : List Nat} {nm : Nm} {sl : Nat → List Nat} {td : List (Nat × Nat)} (h : Bas M x tp lf nm sl td) (hf : FrS (fun b => b = x ∨ prZ x b) M M1) (g1 : gI M1 x 1 = 0) (g2 : gI M1 x 2 = nI lf') (g3 : gI M1 x 15 = gI M x 15) : Bas M1 x [] lf' nm sl td := by
  obtain ⟨a1, a2, ⟨a3, a4⟩, a5, a6, a7, a8, a9⟩ := h
  exact ⟨a1.fx hf.x (fun _ q => q.elim), ⟨(hf.sh _).trans a2.1, fun j hj => by simp at hj, fun c hc => by simp at hc, by simp⟩, ⟨g1, g2⟩, fun j hj => (hf.gI (by omega) j).trans (a5 j hj), fun i hi => ⟨(a6 i hi).1.fr hf (by omega) (by omega), (a6 i hi).2⟩, g3.trans a7, a8, a9.fr hf (by omega) (by omega)⟩
section CL
variable {M : Mm} {x s0 : Nat} {σ : Sg} {Q : Option Value → Mm → Prop}
theorem k_tellFault {n p : Nat} (hS : MrS M x) (h8 : gI M (x + 3) 8 = nI n) (h9 : gI M (x + 3) 9 = nI p) : wp F_Mr_tellFault 0 [.ref x] [] M Q = Q (some (.int (-1000 - nI p))) (sI M x 2 (nI n)) := by
  have n1 : ¬ x + 3 = x := by omega
  simp only [B_Mr_tellFault_0, SS, hS.1.1, hS.1.2.2.2.1, hS.2.2.2.2.1.1, h8, h9, n1, false_and, if_false, true_and]
theorem c_word {v : Int32} (h : ClV M x s0 σ) (hI : SgI σ) (hQ : ∀ M', ClV M' x s0 (wdG σ v).2 → Xfr M M' x → Q (some (.int (wdG σ v).1)) M') : wp F_Mr_word 0 [.ref x, .int v, jk] [] M Q := by
  obtain ⟨⟨tp, lf, nm⟩, ⟨k, rs, row⟩, ⟨t, s, st, fo⟩, sl, td⟩ := σ
  obtain ⟨hB, hC⟩ := h
  have hB : Bas M x tp lf nm sl td := hB
  have hC : Cor M x s0 rs k row t s st fo := hC
  have hnm : ∀ j a, nm j = some a → a < k := hI.1
  have hk8 : k ≤ 8 := hI.2.2.1.2.1
  simp only [B_Mr_word_0]
  rw [k_isSlot]
  rcases oix_cases (n := 8) (by omega) v with ⟨j, hj, rfl, e⟩ | ⟨e, -⟩
  · simp only [wdG, e, sNm, sTp] at hQ
    have F0 : FrS (fun b => b = x ∨ prZ x b) M (sI M x 1 0) := FrS.sI (Or.inl rfl)
    have S0 := hB.1.fx F0.x (fun _ q => q.elim)
    have hT0 : TPV (sI M x 1 0) x tp := hB.2.1.fr F0 (by omega)
    have hN0 : NmV (sI M x 1 0) (x + 2) nm := fun j hj => (F0.gI (by omega) j).trans (hB.2.2.2.1 j hj)
    obtain ⟨⟨m0, f0, f3, f4, f5, -⟩, ⟨b2, b8, -⟩, -, hslS, hPR, hx⟩ := id hB.1
    simp only [SS, List.cons_append, List.nil_append, e, Option.isSome_some, bI, if_true, i10, if_false, B_Mr_word_0, B_Mr_word_10, m0, f0, f3, f4, hPR.1, hB.2.2.1.1, true_and]
    refine k_takeSlotWord S0.2.2.2.2.1 hT0 b2 hN0 hnm hk8 ?_ ?_
    · intro n p hw M1 F1 g8 g9
      rw [hw] at hQ
      have F01 : FrS (fun b => b = x ∨ prZ x b) M M1 := F0.trans (F1.weaken (fun b q => Or.inr q))
      have S1 := hB.1.fx F01.x (fun _ q => q.elim)
      simp only [SS, List.cons_append, List.nil_append, B_Mr_word_10, if_true, S1.1.1, true_and]
      rw [k_tellFault S1 g8 g9]
      simp only [SS, List.cons_append, List.nil_append, B_Mr_word_10]
      have F2 : FrS (fun b => b = x ∨ prZ x b) M (sI M1 x 2 (nI n)) := F01.trans (FrS.sI (Or.inl rfl))
      refine hQ _ ⟨hB.txt F2 ?_ ?_ ?_, hC.own F2.z (fun b q => Or.inl (by rcases q with q | q <;> omega))⟩ (F2.z.xf (fun b q => by rcases q with q | q <;> exact ⟨by omega, by omega⟩))
      · simp only [SS, show ¬ (1 : Nat) = 2 by omega, and_false, if_false]
        exact (F1.gI (by omega) 1).trans (by simp [SS])
      · simp [SS]
      · simp only [SS, show ¬ (15 : Nat) = 2 by omega, and_false, if_false]
        exact (F1.gI (by omega) 15).trans (by simp [SS])
    · intro w hw M1 F1 vf
      rw [hw] at hQ
      obtain ⟨wl, wk⟩ := wrun_ok hnm _ _ _ (by simp) (fun c hc => by simp at hc) hw
      have F01 : FrS (fun b => b = x ∨ prZ x b) M M1 := F0.trans (F1.weaken (fun b q => Or.inr q))
      have B1 : Bas M1 x [] lf nm sl td := hB.txt F01 ((F1.gI (by omega) 1).trans (by simp [SS])) ((F1.gI (by omega) 2).trans (by simp [SS, hB.2.2.1.2])) ((F1.gI (by omega) 15).trans (by simp [SS]))
      have C1 : Cor M1 x s0 rs k row t s st fo := hC.own F01.z (fun b q => Or.inl (by rcases q with q | q <;> omega))
      obtain ⟨⟨m0, f0, f3, f4, f5, -⟩, ⟨b2, b8, -⟩, -, hslS, hPR, hx⟩ := id B1.1
      obtain ⟨s1, s2⟩ := hslS j hj
      have e1 : ∀ N, sh N (x + 8) = some (.inr (10, 8)) → ixR N (x + 8) (nI j) := fun N hN => ixR_of hN (by omega) hj (by omega)
      simp only [SS, List.cons_append, List.nil_append, B_Mr_word_10, i10, if_false, B_Mr_word_44, m0, f4, f5, e1 M1 b8, cl_nI (show j < 2147483648 by omega), s1, s2.1, hPR.1, hPR.2.1.2.1, true_and]
      refine k_Word_become s2 hPR.2.2.2.1 vf (by omega) (by omega) (by omega) (by omega) (by omega) ?_
      intro M2 F2 v2
      have B2 : Bas M2 x [] lf nm (upd1 sl j w) td := B1.slot F2.x hj (fun b q => Or.inr (Or.inr q)) (fun _ q => q.elim) v2 wl
      obtain ⟨⟨m0, f0, f3, f4, f5, -⟩, ⟨b2, b8, -⟩, -, hslS, -⟩ := id B2.1
      obtain ⟨s1, s2⟩ := hslS j hj
      simp only [SS, Option.toList_none, List.nil_append, B_Mr_word_44, m0, f5, e1 M2 b8, cl_nI (show j < 2147483648 by omega), s1, s2.1, v2.1, true_and]
      exact hQ M2 ⟨B2, C1.own F2.z (fun b q => Or.inr (by rcases q with q | q <;> exact ⟨by omega, by omega⟩))⟩ ((F01.z.xf (fun b q => by rcases q with q | q <;> exact ⟨by omega, by omega⟩)).trans (F2.z.xf (fun b q => by rcases q with q | q <;> exact ⟨by omega, by omega⟩)))
  · simp only [wdG, e] at hQ
    simp only [SS, List.cons_append, List.nil_append, e, Option.isSome_none, bI, Bool.false_eq_true, if_false, if_true, B_Mr_word_0]
    exact hQ M ⟨hB, hC⟩ Xfr.rfl
end CL
