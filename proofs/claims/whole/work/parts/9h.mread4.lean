/-! the reference begins a system -/
def PrM (M : Mm) (m : Nat) (ws : List (List Nat)) (k : Nat) : Prop := ∀ q, q < k → gI M (m + 13) q = nI (ws.getD q []).length ∧ AR M (m + 12) (120 * q) (ws.getD q [])
section MC
variable {M : Mm} {m : Nat} {σ : Sg} {Q : Option Value → Mm → Prop} {tp : List Nat}
theorem k_readEqs_bad {i n p : Nat} (h : TX M m tp i n p) (n1 : 1 ≤ n) (n3 : n ≤ 3) (hQ : ∀ M', TX M' m tp i n p → Scr M M' m → Q none M') : wp F_Md_readEquations 0 [.ref m, jk, jk] [] M Q := by
  obtain ⟨p1, p2⟩ := nI_npos n1 n3
  have F0 : FrS (fun b => b = m) M (sI M m 14 0) := FrS.sI rfl
  have T0 : TX (sI M m 14 0) m tp i n p := h.num F0 (fun j hj => by rw [gI_sI, if_neg (by omega)])
  simp only [B_Md_readEquations_0, SS, h.1.1, true_and, B_Md_readEquations_5, B_Md_readEquations_203, h.2.2.2.2.1, show ¬ (5 : Nat) = 14 by omega, and_false, p2, not_false_eq_true, ne_eq, if_true, if_false]
  exact hQ _ T0 (scr_0 (by unfold scF; omega))
theorem k_pairs {ws : List (List Nat)} {e : Nat} (hS : MdS M m) (hws : ws.length = 2 * e) (h40 : e ≤ 40) (h24 : ∀ q, (ws.getD q []).length ≤ 24) (hE : EqM M m ws) (h14 : gI M m 14 = nI e)
    (hQ : ∀ M' (l1 l2 l3 : Value), FrS (fun b => b = m + 12 ∨ b = m + 13) M M' → PrM M' m ws (2 * e) → wp F_Md_read 230 [.ref m, l1, l2, l3] [] M' Q) {l2 l3 : Value} : wp F_Md_read 131 [.ref m, .int (nI 0), l2, l3] [] M Q := by
  have c2 : (2 : Int32) = nI 2 := rfl
  have c24 : (24 : Int32) = nI 24 := rfl
  have c120 : (120 : Int32) = nI 120 := rfl
  have one : ∀ i h M', i < e → h < 2 → FrS (fun b => b = m + 12 ∨ b = m + 13) M M' → PrM M' m ws (2 * i + h) → (∀ M2 (l3 : Value), FrS (fun b => b = m + 12 ∨ b = m + 13) M M2 → PrM M2 m ws (2 * i + h + 1) → wp F_Md_read 141 [.ref m, .int (nI i), .int (nI (h + 1)), l3] [] M2 Q) → ∀ l3 : Value, wp F_Md_read 141 [.ref m, .int (nI i), .int (nI h), l3] [] M' Q := by
    intro i h M' hi hh F' P' K l3
    have e1 : ¬ nI 2 ≤ nI h := nI_ge (by omega) (by omega)
    have S' := hS.fr F'
    have hl := h24 (2 * i + h)
    have clq := cl_nI (show 2 * i + h < 2147483648 by omega)
    have x1 : ixI M' (m + 5) (nI (2 * i + h)) := ixI_of S'.equationSize.2 (by omega) (by omega)
    have x2 : ixW M' (m + 13) (nI (2 * i + h)) := ixW_of S'.pairSize.2 (by omega) (by omega)
    have ge : gI M' (m + 5) (2 * i + h) = nI (ws.getD (2 * i + h) []).length := (F'.gI (by omega) _).trans (hE _ (by omega)).1
    simp only [B_Md_read_141, SS, c2, e1, if_false, S'.1, S'.pairSize.1, S'.equationSize.1, pk_mul, nI_add, x1, x2, clq, ge, true_and]
    have F2 : FrS (fun b => b = m + 13) M' (sI M' (m + 13) (2 * i + h) (nI (ws.getD (2 * i + h) []).length)) := FrS.sI rfl
    have g2 : gI (sI M' (m + 13) (2 * i + h) (nI (ws.getD (2 * i + h) []).length)) (m + 13) (2 * i + h) = nI (ws.getD (2 * i + h) []).length := by simp [SS]
    have P2 : PrM (sI M' (m + 13) (2 * i + h) (nI (ws.getD (2 * i + h) []).length)) m ws (2 * i + h) := fun q hq => ⟨by rw [gI_sI, if_neg (fun z => by omega)]; exact (P' q hq).1, (P' q hq).2.fr F2 (by omega)⟩
    have FF := F'.trans (F2.weaken (fun b q => Or.inr q))
    generalize sI M' (m + 13) (2 * i + h) (nI (ws.getD (2 * i + h) []).length) = M2 at g2 P2 FF
    have loop : ∀ d j M3, j + d = (ws.getD (2 * i + h) []).length → FrS (fun b => b = m + 12) M2 M3 → AR M3 (m + 12) (120 * (2 * i + h)) ((ws.getD (2 * i + h) []).take j) → (∀ q, q < 120 * (2 * i + h) → gI M3 (m + 12) q = gI M2 (m + 12) q) → wp F_Md_read 168 [.ref m, .int (nI i), .int (nI h), .int (nI j)] [] M3 Q := by
      intro d
      induction d with
      | zero =>
        intro j M3 hj F3 A3 O3
        have S3 := (hS.fr FF).fr F3
        have e2 : nI (ws.getD (2 * i + h) []).length ≤ nI j := nI_le (by omega) (by omega)
        have x1 : ixI M3 (m + 5) (nI (2 * i + h)) := ixI_of S3.equationSize.2 (by omega) (by omega)
        have ge : gI M3 (m + 5) (2 * i + h) = nI (ws.getD (2 * i + h) []).length := (F3.gI (by omega) _).trans ((FF.gI (by omega) _).trans (hE _ (by omega)).1)
        simp only [B_Md_read_168, B_Md_read_218, SS, S3.1, S3.equationSize.1, c2, pk_mul, nI_add, x1, clq, ge, e2, if_true, true_and, nI_i1]
        rw [G_Md_read_221]
        rw [List.take_of_length_le (by omega)] at A3
        refine K M3 _ (FF.trans (F3.weaken (fun b q => Or.inl q))) (fun q hq => ?_)
        by_cases z : q < 2 * i + h
        · have := h24 q
          exact ⟨(F3.gI (by omega) _).trans (P2 q z).1, fun p hp => (O3 _ (by omega)).trans ((P2 q z).2 p hp)⟩
        · rw [show q = 2 * i + h by omega]
          exact ⟨(F3.gI (by omega) _).trans g2, A3⟩
      | succ d ih =>
        intro j M3 hj F3 A3 O3
        have S3 := (hS.fr FF).fr F3
        have e2 : ¬ nI (ws.getD (2 * i + h) []).length ≤ nI j := nI_ge (by omega) (by omega)
        have x1 : ixI M3 (m + 5) (nI (2 * i + h)) := ixI_of S3.equationSize.2 (by omega) (by omega)
        have ge : gI M3 (m + 5) (2 * i + h) = nI (ws.getD (2 * i + h) []).length := (F3.gI (by omega) _).trans ((FF.gI (by omega) _).trans (hE _ (by omega)).1)
        have x3 : ixI M3 (m + 4) (nI (24 * (2 * i + h) + j)) := ixI_of S3.equation.2 (by omega) (by omega)
        have x4 : ixW M3 (m + 12) (nI (120 * (2 * i + h) + j)) := ixW_of S3.pair.2 (by omega) (by omega)
        have ga : gI M3 (m + 4) (24 * (2 * i + h) + j) = nI ((ws.getD (2 * i + h) []).getD j 0) := (F3.gI (by omega) _).trans ((FF.gI (by omega) _).trans ((hE _ (by omega)).2 j (by omega)))
        simp only [B_Md_read_168, SS, S3.1, S3.equationSize.1, S3.pair.1, S3.equation.1, c2, c24, c120, pk_mul, nI_add, x1, x3, x4, clq, cl_nI (show 24 * (2 * i + h) + j < 2147483648 by omega), cl_nI (show 120 * (2 * i + h) + j < 2147483648 by omega), ge, ga, e2, if_false, true_and, nI_i1]
        rw [G_Md_read_215]
        refine ih (j + 1) _ (by omega) (F3.trans (FrS.sI rfl)) ?_ (fun q hq => ?_)
        · rw [take_succ_getD 0 (by omega)]
          have hln : ((ws.getD (2 * i + h) []).take j).length = j := by rw [List.length_take]; omega
          refine AR.app (fun q hq => ?_) ?_
          · rw [gI_sI, if_neg (fun z => by omega)]; exact A3 q hq
          · rw [gI_sI, if_pos ⟨rfl, by omega⟩]
        · rw [gI_sI, if_neg (fun z => by omega)]; exact O3 q hq
    exact loop (ws.getD (2 * i + h) []).length 0 M2 (by omega) FrS.rfl AR.nil (fun _ _ => rfl)
  have outer : ∀ d i M' (l2 l3 : Value), i + d = e → FrS (fun b => b = m + 12 ∨ b = m + 13) M M' → PrM M' m ws (2 * i) → wp F_Md_read 131 [.ref m, .int (nI i), l2, l3] [] M' Q := by
    intro d
    induction d with
    | zero =>
      intro i M' l2 l3 hi F' P'
      have e1 : nI e ≤ nI i := nI_le (by omega) (by omega)
      simp only [B_Md_read_131, (hS.fr F').1, (F'.gI (show ¬ (m = m + 12 ∨ m = m + 13) by omega) 14).trans h14, e1, if_true, true_and]
      rw [show 2 * i = 2 * e by omega] at P'
      exact hQ M' _ _ _ F' P'
    | succ d ih =>
      intro i M' l2 l3 hi F' P'
      have e1 : ¬ nI e ≤ nI i := nI_ge (by omega) (by omega)
      simp only [B_Md_read_131, SS, (hS.fr F').1, (F'.gI (show ¬ (m = m + 12 ∨ m = m + 13) by omega) 14).trans h14, e1, if_false, true_and]
      refine one i 0 M' (by omega) (by omega) F' P' ?_ _
      intro M2 l3' F2 P2
      refine one i 1 M2 (by omega) (by omega) F2 P2 ?_ _
      intro M3 l3'' F3 P3
      have e2 : nI 2 ≤ nI (1 + 1) := nI_le (by omega) (by omega)
      simp only [B_Md_read_141, B_Md_read_224, SS, c2, e2, if_true, nI_i1]
      rw [G_Md_read_227]
      exact ih (i + 1) M3 _ _ (by omega) F3 P3
  exact outer e 0 M _ _ (by omega) FrS.rfl (fun q hq => by omega)
set_option maxHeartbeats 1000000 in
theorem m_read (h : MdV M m σ) (hI : SgI σ) (hQ : ∀ M', MdV M' m (rdG σ).2 → Yfr M M' m → Q (some (.int (rdG σ).1)) M') : wp F_Md_read 0 [.ref m, jk, jk, jk] [] M Q := by
  have s : Scr M (sI M m 0 0) m := scr_0 (Or.inl rfl)
  have h' := h.scr s
  have sy := s.y
  have hl := hI.2.2.2.2.2.2.2.1
  have hc := hI.2.2.2.2.2.2.2.2.1
  simp only [B_Md_read_0, h.1.1, true_and]
  generalize sI M m 0 0 = M0 at h' sy
  unfold rdG at hQ
  simp only [h'.1.1, true_and]
  refine k_begin h' ?_
  intro M1 V1 T1 Y1
  have y1 := sy.trans Y1
  have fault : ∀ n p i M2, prun pst0 0 (sTp σ) = .inl (n, p) → 1 ≤ n → n ≤ 3 → TX M2 m (sTp σ) i n p → Scr M1 M2 m → wp F_Md_read 17 [.ref m, jk, jk, jk] [] M2 Q := by
    intro n p i M2 hw n1 n3 T2 F2
    obtain ⟨p1, p2⟩ := nI_npos n1 n3
    simp only [B_Md_read_0, T2.1.1, T2.2.2.2.2.1, p1, if_false, true_and]
    have V2 := V1.scr F2
    refine k_faulty V2 T2 ?_
    intro M3 V3 Y3
    simp only [SS, List.cons_append, List.nil_append, B_Md_read_0]
    rw [hw] at hQ
    exact hQ M3 V3 ((y1.trans F2.y).trans Y3)
  simp only [SS, Option.toList_none, List.nil_append, B_Md_read_0, T1.1.1, true_and]
  refine k_readLetters T1 hl hc ?_ ?_
  · intro n p i' M2 hw n1 n3 T2 F2
    simp only [SS, Option.toList_none, List.nil_append, B_Md_read_0, T2.1.1, true_and]
    refine k_readEqs_bad T2 n1 n3 ?_
    intro M3 T3 F3
    have := fault n p i' M3 hw n1 n3 T3 (F2.trans F3)
    simp only [B_Md_read_0] at this
    simp only [SS, Option.toList_none, List.nil_append, B_Md_read_0]
    exact this
  · intro nm lc i' M2 hp hi' T2 N2 g10 hlc hnm F2
    simp only [SS, Option.toList_none, List.nil_append, B_Md_read_0, T2.1.1, true_and]
    refine k_readEqs T2 hl hc hi' hp N2 (fun j a q => by have := hnm j a q; omega) ?_ ?_
    · intro n p i3 M3 hw n1 n3 T3 F3
      have := fault n p i3 M3 hw n1 n3 T3 (F2.trans F3)
      simp only [B_Md_read_0] at this
      simp only [SS, Option.toList_none, List.nil_append, B_Md_read_0]
      exact this
    · intro ws i3 M3 hw hev h80 h24 E3 g14 T3 F3
      rw [hw] at hQ
      have hQ : ∀ M', MdV M' m (([], sLf σ, nm), (lc, [], prw ws (ws.length / 2)), (0, 0, false, none), (fun _ => [], [])) → Yfr M M' m → Q (some (.int (nI (ws.length / 2)))) M' := hQ
      obtain ⟨e, he⟩ : ∃ e, ws.length = 2 * e := ⟨ws.length / 2, by omega⟩
      have hd : ws.length / 2 = e := by omega
      rw [hd] at hQ g14
      have h24' : ∀ q, (ws.getD q []).length ≤ 24 := fun q => by
        by_cases z : q < ws.length
        · rw [List.getD_eq_getElem?_getD, List.getElem?_eq_getElem z]
          exact h24 _ (List.getElem_mem z)
        · rw [List.getD_eq_getElem?_getD, List.getElem?_eq_none (by omega)]
          simp
      have s3 := F2.trans F3.scr
      have V3 := V1.scr s3
      have y3 := y1.trans s3.y
      have S3 := T3.1
      have N3 : NmV M3 (m + 2) nm := fun j hj => (F3.1.gI (by omega) j).trans (N2 j hj)
      have g103 : gI M3 m 10 = nI lc := (F3.2 _ (by omega) (by omega) (by omega) (by omega)).trans g10
      simp only [SS, Option.toList_none, List.nil_append, B_Md_read_0, T3.1.1, T3.2.2.2.2.1, nI_0, show (0 : Int32) ≤ 0 by decide, if_true, true_and, B_Md_read_29, g103]
      have F4 : FrS (fun b => b = m) M3 (sI M3 m 11 (nI lc)) := FrS.sI rfl
      have g4 : ∀ j, j ≠ 11 → gI (sI M3 m 11 (nI lc)) m j = gI M3 m j := fun j hj => by rw [gI_sI, if_neg (fun z => hj z.2)]
      have g411 : gI (sI M3 m 11 (nI lc)) m 11 = nI lc := by simp [SS]
      generalize sI M3 m 11 (nI lc) = M4 at F4 g4 g411
      have c26 : (26 : Int32) = nI 26 := rfl
      have c8 : (8 : Int32) = nI 8 := rfl
      -- what follows the numbers
      have rest : ∀ M5 (l1 : Value), FrS (fun b => b = m + 3) M4 M5 → NmV M5 (m + 3) nm → wp F_Md_read 63 [.ref m, l1, jk, jk] [] M5 Q := by
        intro M5 l1 F5 N5
        have S5 := (S3.fr F4).fr F5
        simp only [B_Md_read_63, SS, S5.1, true_and, true_or]
        have hM6 : ∃ M6, M6 = sI (sI (sI (sI (sI (sI (sI (sI (sI M5 m 21 0) m 24 0) m 25 0) m 26 0) m 27 0) m 28 0) m 52 0) m 36 0) m 39 (-1) := ⟨_, rfl⟩
        obtain ⟨M6, hM6⟩ := hM6
        rw [← hM6]
        have F6 : FrS (fun b => b = m) M5 M6 := by
          rw [hM6]
          exact ((((((((FrS.sI (S := fun b => b = m) rfl).trans (FrS.sI rfl)).trans (FrS.sI rfl)).trans (FrS.sI rfl)).trans (FrS.sI rfl)).trans (FrS.sI rfl)).trans (FrS.sI rfl)).trans (FrS.sI rfl)).trans (FrS.sI rfl)
        have z6 : gI M6 m 21 = 0 ∧ gI M6 m 24 = 0 ∧ gI M6 m 26 = 0 ∧ gI M6 m 27 = 0 ∧ gI M6 m 28 = 0 ∧ gI M6 m 52 = 0 ∧ gI M6 m 36 = 0 ∧ gI M6 m 39 = -1 := by
          rw [hM6]
          simp [SS]
        have o6 : ∀ j, j ≠ 21 → j ≠ 24 → j ≠ 25 → j ≠ 26 → j ≠ 27 → j ≠ 28 → j ≠ 52 → j ≠ 36 → j ≠ 39 → gI M6 m j = gI M5 m j := by
          intro j a1 a2 a3 a4 a5 a6 a7 a8 a9
          rw [hM6]
          simp [SS, a1, a2, a3, a4, a5, a6, a7, a8, a9]
        have loop : ∀ d i M7, i + d = 8 → FrS (fun b => b = m + 21) M6 M7 → (∀ j, j < i → gI M7 (m + 21) j = 0) → wp F_Md_read 110 [.ref m, .int (nI i), jk, jk] [] M7 Q := by
          intro d
          induction d with
          | succ d ih =>
            intro i M7 hi F7 hz
            have S7 := (S5.fr F6).fr F7
            have e1 : ¬ nI 8 ≤ nI i := nI_ge (by omega) (by omega)
            have xw : ixW M7 (m + 21) (nI i) := ixW_of S7.slotSize.2 (by omega) (by omega)
            simp only [B_Md_read_110, SS, c8, e1, if_false, S7.1, S7.slotSize.1, xw, cl_nI (show i < 2147483648 by omega), true_and, nI_i1]
            rw [G_Md_read_126]
            refine ih (i + 1) _ (by omega) (F7.trans (FrS.sI rfl)) (fun j hj => ?_)
            rw [gI_sI]
            by_cases z : j = i
            · rw [if_pos ⟨rfl, z⟩]
            · rw [if_neg (fun q => z q.2)]; exact hz j (by omega)
          | zero =>
            intro i M7 hi F7 hz
            have S7 := (S5.fr F6).fr F7
            have e1 : nI 8 ≤ nI i := nI_le (by omega) (by omega)
            simp only [B_Md_read_110, B_Md_read_129, SS, c8, e1, if_true]
            have F47 : FrS (fun b => b = m ∨ b = m + 3 ∨ b = m + 21) M3 M7 := (((F4.weaken (fun b q => Or.inl q)).trans (F5.weaken (fun b q => Or.inr (Or.inl q)))).trans (F6.weaken (fun b q => Or.inl q))).trans (F7.weaken (fun b q => Or.inr (Or.inr q)))
            have gm7 : ∀ j, j ≠ 11 → j ≠ 21 → j ≠ 24 → j ≠ 25 → j ≠ 26 → j ≠ 27 → j ≠ 28 → j ≠ 52 → j ≠ 36 → j ≠ 39 → gI M7 m j = gI M3 m j := fun j a0 a1 a2 a3 a4 a5 a6 a7 a8 a9 => (F7.gI (by omega) j).trans ((o6 j a1 a2 a3 a4 a5 a6 a7 a8 a9).trans ((F5.gI (by omega) j).trans (g4 j a0)))
            have E7 : EqM M7 m ws := fun q hq => ⟨(F47.gI (by omega) _).trans (E3 q hq).1, (E3 q hq).2.fr F47 (by omega)⟩
            have g147 : gI M7 m 14 = nI e := (gm7 14 (by omega) (by omega) (by omega) (by omega) (by omega) (by omega) (by omega) (by omega) (by omega) (by omega)).trans g14
            refine k_pairs S7 he (by omega) h24' E7 g147 ?_
            intro M8 l1' l2' l3' F8 P8
            have S8 := S7.fr F8
            have g148 : gI M8 m 14 = nI e := (F8.gI (by omega) _).trans g147
            simp only [B_Md_read_230, SS, S8.1, g148, true_and, show ¬ (14 : Nat) = 25 by omega, and_false, if_false]
            have F9 : FrS (fun b => b = m) M8 (sI M8 m 25 (nI e)) := FrS.sI rfl
            have g9 : ∀ j, j ≠ 25 → gI (sI M8 m 25 (nI e)) m j = gI M8 m j := fun j hj => by rw [gI_sI, if_neg (fun z => hj z.2)]
            have g925 : gI (sI M8 m 25 (nI e)) m 25 = nI e := by simp [SS]
            generalize sI M8 m 25 (nI e) = M9 at F9 g9 g925
            have F79 : FrS (fun b => b = m ∨ b = m + 12 ∨ b = m + 13) M7 M9 := (F8.weaken (fun b q => Or.inr q)).trans (F9.weaken (fun b q => Or.inl q))
            have F39 : FrS (fun b => b = m ∨ b = m + 3 ∨ b = m + 12 ∨ b = m + 13 ∨ b = m + 21) M3 M9 := (F47.weaken (fun b q => by omega)).trans (F79.weaken (fun b q => by omega))
            have k7 : ∀ j, j ≠ 25 → gI M9 m j = gI M7 m j := fun j hj => (g9 j hj).trans (F8.gI (by omega) j)
            have k6 : ∀ j, j ≠ 25 → gI M9 m j = gI M6 m j := fun j hj => (k7 j hj).trans (F7.gI (by omega) j)
            obtain ⟨z21, z24, z26, z27, z28, z52, z36, z39⟩ := z6
            have hrl : (prw ws e).length = e := by simp [prw]
            refine hQ M9 ⟨S3.fr F39, ⟨?_, AR.nil⟩, ⟨?_, ?_, ?_⟩, ⟨?_, Nat.zero_le _, fun i hi => absurd hi (Nat.not_lt_zero i)⟩, ⟨0, ⟨?_, by omega, ?_, by rw [show sRow (([], sLf σ, nm), (lc, [], prw ws e), (0, 0, false, none), (fun _ => [], [])) = prw ws e from rfl, hrl]; omega, fun k hk => ?_⟩⟩, ⟨?_, ?_, ?_⟩, ?_, fun i hi => ⟨?_, AR.nil⟩, ⟨?_, fun j hj => absurd hj (Nat.not_lt_zero j)⟩, ⟨false, ?_, fun q => by cases q⟩⟩ (y3.trans (F39.z.weaken (T := fun b => m ≤ b ∧ b < m + 30) (fun b q => by omega)))
            · have : gI M3 m 2 = nI 0 := V3.2.1.1
              exact ((k7 2 (by omega)).trans (gm7 2 (by omega) (by omega) (by omega) (by omega) (by omega) (by omega) (by omega) (by omega) (by omega) (by omega))).trans this
            · have : gI M3 m 7 = nI (sLf σ) := V3.2.2.1.1
              exact ((k7 7 (by omega)).trans (gm7 7 (by omega) (by omega) (by omega) (by omega) (by omega) (by omega) (by omega) (by omega) (by omega) (by omega))).trans this
            · exact (k6 11 (by omega)).trans ((o6 11 (by omega) (by omega) (by omega) (by omega) (by omega) (by omega) (by omega) (by omega) (by omega)).trans ((F5.gI (by omega) _).trans g411))
            · exact fun j hj => (F79.gI (by omega) j).trans ((F7.gI (by omega) j).trans ((F6.gI (by omega) j).trans (N5 j hj)))
            · exact (k6 21 (by omega)).trans z21
            · exact (k6 24 (by omega)).trans z24
            · show gI M9 m 25 = nI (prw ws e).length
              rw [hrl]; exact g925
            · have hk : k < (prw ws e).length := hk
              rw [hrl] at hk
              show gI M9 (m + 13) (2 * ((0 + k) % 1000)) = nI ((prw ws e).getD k dP).1.length ∧ gI M9 (m + 13) (2 * ((0 + k) % 1000) + 1) = nI ((prw ws e).getD k dP).2.length ∧ AR M9 (m + 12) (240 * ((0 + k) % 1000)) ((prw ws e).getD k dP).1 ∧ AR M9 (m + 12) (240 * ((0 + k) % 1000) + 120) ((prw ws e).getD k dP).2
              have hg : (prw ws e).getD k dP = (ws.getD (2 * k) [], ws.getD (2 * k + 1) []) := by
                unfold prw
                rw [List.getD_eq_getElem?_getD, List.getElem?_map, List.getElem?_range hk]
                rfl
              rw [hg, show (0 + k) % 1000 = k by omega]
              obtain ⟨u1, u2⟩ := P8 (2 * k) (by omega)
              obtain ⟨v1, v2⟩ := P8 (2 * k + 1) (by omega)
              rw [show 120 * (2 * k) = 240 * k by omega] at u2
              rw [show 120 * (2 * k + 1) = 240 * k + 120 by omega] at v2
              exact ⟨(F9.gI (by omega) _).trans u1, (F9.gI (by omega) _).trans v1, u2.fr F9 (by omega), v2.fr F9 (by omega)⟩
            · exact (k6 26 (by omega)).trans z26
            · exact (k6 27 (by omega)).trans z27
            · exact (k6 28 (by omega)).trans z28
            · exact (k6 39 (by omega)).trans z39
            · exact (F79.gI (by omega) _).trans (hz i (by omega))
            · exact (k6 36 (by omega)).trans z36
            · exact (k6 52 (by omega)).trans z52
        exact loop 8 0 M6 (by omega) FrS.rfl (fun j hj => by omega)
      have loop : ∀ d i M5, i + d = 26 → FrS (fun b => b = m + 3) M4 M5 → (∀ j, j < i → gI M5 (m + 3) j = oI (nm j)) → wp F_Md_read 39 [.ref m, .int (nI i), jk, jk] [] M5 Q := by
        intro d
        induction d with
        | zero =>
          intro i M5 hi F5 hz
          have e1 : nI 26 ≤ nI i := nI_le (by omega) (by omega)
          simp only [B_Md_read_39, c26, e1, if_true]
          exact rest M5 _ F5 (fun j hj => hz j (by omega))
        | succ d ih =>
          intro i M5 hi F5 hz
          have S5 := (S3.fr F4).fr F5
          have e1 : ¬ nI 26 ≤ nI i := nI_ge (by omega) (by omega)
          have xw : ixW M5 (m + 3) (nI i) := ixW_of S5.number0.2 (by omega) (by omega)
          have xi : ixI M5 (m + 2) (nI i) := ixI_of S5.newNumber.2 (by omega) (by omega)
          have gn : gI M5 (m + 2) i = oI (nm i) := (F5.gI (by omega) _).trans ((F4.gI (by omega) _).trans (N3 i (by omega)))
          simp only [B_Md_read_39, SS, c26, e1, if_false, S5.1, S5.number0.1, S5.newNumber.1, xw, xi, cl_nI (show i < 2147483648 by omega), gn, true_and, nI_i1]
          rw [G_Md_read_60]
          refine ih (i + 1) _ (by omega) (F5.trans (FrS.sI rfl)) (fun j hj => ?_)
          rw [gI_sI]
          by_cases z : j = i
          · rw [if_pos ⟨rfl, z⟩, z]
          · rw [if_neg (fun q => z q.2)]; exact hz j (by omega)
      exact loop 26 0 M4 (by omega) FrS.rfl (fun j hj => by omega)
end MC
