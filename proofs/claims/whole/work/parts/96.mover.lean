/-! the reference: overlaps, PAIRS behind the row -/
def OvN (M M' : Mm) (m : Nat) : Prop := FrS (fun b => b = m ∨ b = m + 14 ∨ b = m + 15) M M' ∧ ∀ j, j ≠ 37 → j ≠ 38 → gI M' m j = gI M m j
theorem OvN.scr {M M1 : Mm} {m : Nat} (h : OvN M M1 m) : Scr M M1 m := scr_of h.1 (fun b q => by unfold scC; omega) (fun j hj => h.2 j (fun e => hj (by unfold scF; omega)) (fun e => hj (by unfold scF; omega)))
theorem OvN.rfl {M : Mm} {m : Nat} : OvN M M m := ⟨FrS.rfl, fun _ _ _ => Eq.refl _⟩
theorem RuM.ov {M M1 : Mm} {m : Nat} {rs : List Ru} (h : RuM M m rs) (s : OvN M M1 m) : RuM M1 m rs := h.eq (s.2 _ (by omega) (by omega)) (fun b h1 h2 j => s.1.gI (by omega) j)
section MC
variable {M : Mm} {m : Nat} {Q : Option Value → Mm → Prop}
set_option maxHeartbeats 2000000 in
theorem k_mOverlaps {rs : List Ru} {k a b n : Nat} (hS : MdS M m) (hR : RuM M m rs) (hw : RWf rs k) (ha : a < rs.length) (hb : b < rs.length) (hn : n ≤ (rs.getD a dR).1.length) (hn2 : n ≤ (rs.getD b dR).1.length)
    (hQ0 : mat (rs.getD a dR).1 ((rs.getD a dR).1.length - n) (rs.getD b dR).1 n = false → Q (some (.int 0)) M)
    (hQ1 : mat (rs.getD a dR).1 ((rs.getD a dR).1.length - n) (rs.getD b dR).1 n = true → ∀ M', OvN M M' m → AR M' (m + 14) 0 (spl (rs.getD a dR) (rs.getD b dR) n).1 → AR M' (m + 15) 0 (spl (rs.getD a dR) (rs.getD b dR) n).2 → gI M' m 37 = nI (spl (rs.getD a dR) (rs.getD b dR) n).1.length → gI M' m 38 = nI (spl (rs.getD a dR) (rs.getD b dR) n).2.length → Q (some (.int 1)) M') : wp F_Md_overlaps 0 [.ref m, .int (nI a), .int (nI b), .int (nI n), jk] [] M Q := by
  have h200 := hR.2.1
  have hk8 := hw.2.1
  obtain ⟨ua1, ua2, ua3, ua4⟩ := hw.ruk a
  obtain ⟨ub1, ub2, ub3, ub4⟩ := hw.ruk b
  have gA := hR.2.2 a ha
  have gB := hR.2.2 b hb
  have cla := cl_nI (show a < 2147483648 by omega)
  have clb := cl_nI (show b < 2147483648 by omega)
  have c60 : (60 : Int32) = nI 60 := rfl
  generalize rs.getD a dR = u at *
  generalize rs.getD b dR = v at *
  have ixl : ∀ N, sh N (m + 8) = some (.inr (0, 200)) → ∀ i, i < 200 → ixI N (m + 8) (nI i) := fun N hN i hi => ixI_of hN hi (by omega)
  have ixr : ∀ N, sh N (m + 10) = some (.inr (0, 200)) → ∀ i, i < 200 → ixI N (m + 10) (nI i) := fun N hN i hi => ixI_of hN hi (by omega)
  -- all is laid, once they agree
  have lay : ∀ (l4 : Value), (∀ M', OvN M M' m → AR M' (m + 14) 0 (spl u v n).1 → AR M' (m + 15) 0 (spl u v n).2 → gI M' m 37 = nI (spl u v n).1.length → gI M' m 38 = nI (spl u v n).2.length → Q (some (.int 1)) M') → wp F_Md_overlaps 53 [.ref m, .int (nI a), .int (nI b), .int (nI n), l4] [] M Q := by
    intro l4 K
    have gv : ∀ N, OvN M N m → gI N (m + 8) a = nI u.1.length ∧ gI N (m + 8) b = nI v.1.length ∧ gI N (m + 10) a = nI u.2.1.length ∧ gI N (m + 10) b = nI v.2.1.length ∧ AR N (m + 7) (60 * a) u.1 ∧ AR N (m + 7) (60 * b) v.1 ∧ AR N (m + 9) (60 * a) u.2.1 ∧ AR N (m + 9) (60 * b) v.2.1 := fun N s => by
      have g : ∀ c, m + 7 ≤ c → c ≤ m + 11 → ∀ j, gI N c j = gI M c j := fun c h1 h2 j => s.1.gI (by omega) j
      exact ⟨(g _ (by omega) (by omega) _).trans gA.1, (g _ (by omega) (by omega) _).trans gB.1, (g _ (by omega) (by omega) _).trans gA.2.2.1, (g _ (by omega) (by omega) _).trans gB.2.2.1, gA.2.1.eq (g _ (by omega) (by omega)), gB.2.1.eq (g _ (by omega) (by omega)), gA.2.2.2.1.eq (g _ (by omega) (by omega)), gB.2.2.2.1.eq (g _ (by omega) (by omega))⟩
    simp only [B_Md_overlaps_53, SS, hS.1, hS.rightSize.1, hS.leftSize.1, ixl M hS.leftSize.2 b (by omega), ixr M hS.rightSize.2 a (by omega), cla, clb, gA.2.2.1, gB.1, true_and, nI_add, pk_sub (show n ≤ u.2.1.length + v.1.length by omega)]
    have s0 : OvN M (sI M m 37 (nI (u.2.1.length + v.1.length - n))) m := ⟨FrS.sI (Or.inl rfl), fun j h1 h2 => by rw [gI_sI, if_neg (fun q => h1 q.2)]⟩
    have g370 : gI (sI M m 37 (nI (u.2.1.length + v.1.length - n))) m 37 = nI (u.2.1.length + v.1.length - n) := by simp [SS]
    generalize sI M m 37 (nI (u.2.1.length + v.1.length - n)) = M0 at s0 g370
    -- (1)
    have l1 : ∀ d i M1, i + d = u.2.1.length → FrS (fun b => b = m + 14) M0 M1 → AR M1 (m + 14) 0 (u.2.1.take i) → (∀ M2 (l4 : Value), FrS (fun b => b = m + 14) M0 M2 → AR M2 (m + 14) 0 u.2.1 → wp F_Md_overlaps 111 [.ref m, .int (nI a), .int (nI b), .int (nI n), l4] [] M2 Q) → wp F_Md_overlaps 75 [.ref m, .int (nI a), .int (nI b), .int (nI n), .int (nI i)] [] M1 Q := by
      intro d
      induction d with
      | zero =>
        intro i M1 hi F A KK
        have sN : OvN M M1 m := ⟨s0.1.trans (F.weaken (fun _ q => Or.inr (Or.inl q))), fun j h1 h2 => (F.gI (by omega) j).trans (s0.2 j h1 h2)⟩
        have S1 := hS.fr sN.1
        have g := gv M1 sN
        have e1 : nI u.2.1.length ≤ nI i := nI_le (by omega) (by omega)
        simp only [B_Md_overlaps_75, SS, S1.1, S1.rightSize.1, ixr M1 S1.rightSize.2 a (by omega), cla, g.2.2.1, e1, if_true, true_and]
        rw [List.take_of_length_le (by omega)] at A
        exact KK M1 _ F A
      | succ d ih =>
        intro i M1 hi F A KK
        have sN : OvN M M1 m := ⟨s0.1.trans (F.weaken (fun _ q => Or.inr (Or.inl q))), fun j h1 h2 => (F.gI (by omega) j).trans (s0.2 j h1 h2)⟩
        have S1 := hS.fr sN.1
        have g := gv M1 sN
        have e1 : ¬ nI u.2.1.length ≤ nI i := nI_ge (by omega) (by omega)
        have x1 : ixI M1 (m + 9) (nI (60 * a + i)) := ixI_of S1.right.2 (by omega) (by omega)
        have x2 : ixW M1 (m + 14) (nI i) := ixW_of S1.one.2 (by omega) (by omega)
        simp only [B_Md_overlaps_75, SS, S1.1, S1.rightSize.1, S1.one.1, S1.right.1, ixr M1 S1.rightSize.2 a (by omega), cla, g.2.2.1, e1, if_false, true_and, c60, pk_mul, nI_add, x1, x2, cl_nI (show 60 * a + i < 2147483648 by omega), cl_nI (show i < 2147483648 by omega), g.2.2.2.2.2.2.1 i (by omega), nI_i1]
        rw [G_Md_overlaps_108]
        refine ih (i + 1) _ (by omega) (F.trans (FrS.sI rfl)) ?_ KK
        rw [take_succ_getD 0 (by omega)]
        have hlen : (u.2.1.take i).length = i := by simp; omega
        refine AR.app (fun q hq => ?_) ?_
        · rw [gI_sI, if_neg (fun z => by omega)]; exact A q hq
        · rw [gI_sI, if_pos ⟨rfl, by omega⟩]
    refine l1 u.2.1.length 0 M0 (by omega) FrS.rfl AR.nil ?_
    intro M2 l4' F2 A2
    simp only [B_Md_overlaps_111, SS]
    -- (2)
    have l2 : ∀ d i M3, i + d = v.1.length → n ≤ i → FrS (fun b => b = m + 14) M0 M3 → AR M3 (m + 14) 0 (u.2.1 ++ (v.1.drop n).take (i - n)) → (∀ M4 (l4 : Value), FrS (fun b => b = m + 14) M0 M4 → AR M4 (m + 14) 0 (u.2.1 ++ v.1.drop n) → wp F_Md_overlaps 159 [.ref m, .int (nI a), .int (nI b), .int (nI n), l4] [] M4 Q) → wp F_Md_overlaps 114 [.ref m, .int (nI a), .int (nI b), .int (nI n), .int (nI i)] [] M3 Q := by
      intro d
      induction d with
      | zero =>
        intro i M3 hi hni F A KK
        have sN : OvN M M3 m := ⟨s0.1.trans (F.weaken (fun _ q => Or.inr (Or.inl q))), fun j h1 h2 => (F.gI (by omega) j).trans (s0.2 j h1 h2)⟩
        have S1 := hS.fr sN.1
        have g := gv M3 sN
        have e1 : nI v.1.length ≤ nI i := nI_le (by omega) (by omega)
        simp only [B_Md_overlaps_114, SS, S1.1, S1.leftSize.1, ixl M3 S1.leftSize.2 b (by omega), clb, g.2.1, e1, if_true, true_and]
        rw [List.take_of_length_le (by simp; omega)] at A
        exact KK M3 _ F A
      | succ d ih =>
        intro i M3 hi hni F A KK
        have sN : OvN M M3 m := ⟨s0.1.trans (F.weaken (fun _ q => Or.inr (Or.inl q))), fun j h1 h2 => (F.gI (by omega) j).trans (s0.2 j h1 h2)⟩
        have S1 := hS.fr sN.1
        have g := gv M3 sN
        have e1 : ¬ nI v.1.length ≤ nI i := nI_ge (by omega) (by omega)
        have x1 : ixI M3 (m + 7) (nI (60 * b + i)) := ixI_of S1.left.2 (by omega) (by omega)
        have x2 : ixW M3 (m + 14) (nI (u.2.1.length + i - n)) := ixW_of S1.one.2 (by omega) (by omega)
        simp only [B_Md_overlaps_114, SS, S1.1, S1.leftSize.1, S1.rightSize.1, S1.one.1, S1.left.1, ixl M3 S1.leftSize.2 b (by omega), ixr M3 S1.rightSize.2 a (by omega), cla, clb, g.2.1, g.2.2.1, e1, if_false, true_and, c60, pk_mul, nI_add, pk_sub (show n ≤ u.2.1.length + i by omega), x1, x2, cl_nI (show 60 * b + i < 2147483648 by omega), cl_nI (show u.2.1.length + i - n < 2147483648 by omega), g.2.2.2.2.2.1 i (by omega), nI_i1]
        rw [G_Md_overlaps_156]
        refine ih (i + 1) _ (by omega) (by omega) (F.trans (FrS.sI rfl)) ?_ KK
        rw [take_snoc hni (by omega), ← List.append_assoc]
        have hlen : (u.2.1 ++ (v.1.drop n).take (i - n)).length = u.2.1.length + i - n := by simp; omega
        refine AR.app (fun q hq => ?_) ?_
        · rw [gI_sI, if_neg (fun z => by omega)]; exact A q hq
        · rw [gI_sI, if_pos ⟨rfl, by omega⟩]
    refine l2 (v.1.length - n) n M2 (by omega) (Nat.le_refl _) F2 (by rw [Nat.sub_self]; simpa using A2) ?_
    intro M4 l4'' F4 A4
    have sN4 : OvN M M4 m := ⟨s0.1.trans (F4.weaken (fun _ q => Or.inr (Or.inl q))), fun j h1 h2 => (F4.gI (by omega) j).trans (s0.2 j h1 h2)⟩
    have S4 := hS.fr sN4.1
    have g4 := gv M4 sN4
    have g374 : gI M4 m 37 = nI (u.2.1.length + v.1.length - n) := (F4.gI (by omega) _).trans g370
    simp only [B_Md_overlaps_159, SS, S4.1, S4.rightSize.1, S4.leftSize.1, ixl M4 S4.leftSize.2 a (by omega), ixr M4 S4.rightSize.2 b (by omega), cla, clb, g4.1, g4.2.2.2.1, true_and, nI_add, pk_sub hn]
    have F5 : FrS (fun b => b = m) M4 (sI M4 m 38 (nI (u.1.length - n + v.2.1.length))) := FrS.sI rfl
    have s5 : OvN M (sI M4 m 38 (nI (u.1.length - n + v.2.1.length))) m := ⟨sN4.1.trans (F5.weaken (fun _ q => Or.inl q)), fun j h1 h2 => by rw [gI_sI, if_neg (fun q => h2 q.2)]; exact sN4.2 j h1 h2⟩
    have g375 : gI (sI M4 m 38 (nI (u.1.length - n + v.2.1.length))) m 37 = nI (u.2.1.length + v.1.length - n) := by rw [gI_sI, if_neg (by omega)]; exact g374
    have g385 : gI (sI M4 m 38 (nI (u.1.length - n + v.2.1.length))) m 38 = nI (u.1.length - n + v.2.1.length) := by simp [SS]
    have A5 : AR (sI M4 m 38 (nI (u.1.length - n + v.2.1.length))) (m + 14) 0 (u.2.1 ++ v.1.drop n) := A4.fr F5 (by omega)
    generalize sI M4 m 38 (nI (u.1.length - n + v.2.1.length)) = M5 at s5 g375 g385 A5
    -- (3)
    have l3 : ∀ d i M6, i + d = u.1.length - n → FrS (fun b => b = m + 15) M5 M6 → AR M6 (m + 15) 0 (u.1.take i) → (∀ M7 (l4 : Value), FrS (fun b => b = m + 15) M5 M7 → AR M7 (m + 15) 0 (u.1.take (u.1.length - n)) → wp F_Md_overlaps 219 [.ref m, .int (nI a), .int (nI b), .int (nI n), l4] [] M7 Q) → wp F_Md_overlaps 181 [.ref m, .int (nI a), .int (nI b), .int (nI n), .int (nI i)] [] M6 Q := by
      intro d
      induction d with
      | zero =>
        intro i M6 hi F A KK
        have sN : OvN M M6 m := ⟨s5.1.trans (F.weaken (fun _ q => Or.inr (Or.inr q))), fun j h1 h2 => (F.gI (by omega) j).trans (s5.2 j h1 h2)⟩
        have S1 := hS.fr sN.1
        have g := gv M6 sN
        have e1 : nI (u.1.length - n) ≤ nI i := nI_le (by omega) (by omega)
        simp only [B_Md_overlaps_181, SS, S1.1, S1.leftSize.1, ixl M6 S1.leftSize.2 a (by omega), cla, g.1, pk_sub hn, e1, if_true, true_and]
        rw [show i = u.1.length - n by omega] at A
        exact KK M6 _ F A
      | succ d ih =>
        intro i M6 hi F A KK
        have sN : OvN M M6 m := ⟨s5.1.trans (F.weaken (fun _ q => Or.inr (Or.inr q))), fun j h1 h2 => (F.gI (by omega) j).trans (s5.2 j h1 h2)⟩
        have S1 := hS.fr sN.1
        have g := gv M6 sN
        have e1 : ¬ nI (u.1.length - n) ≤ nI i := nI_ge (by omega) (by omega)
        have x1 : ixI M6 (m + 7) (nI (60 * a + i)) := ixI_of S1.left.2 (by omega) (by omega)
        have x2 : ixW M6 (m + 15) (nI i) := ixW_of S1.other.2 (by omega) (by omega)
        simp only [B_Md_overlaps_181, SS, S1.1, S1.leftSize.1, S1.other.1, S1.left.1, ixl M6 S1.leftSize.2 a (by omega), cla, g.1, pk_sub hn, e1, if_false, true_and, c60, pk_mul, nI_add, x1, x2, cl_nI (show 60 * a + i < 2147483648 by omega), cl_nI (show i < 2147483648 by omega), g.2.2.2.2.1 i (by omega), nI_i1]
        rw [G_Md_overlaps_216]
        refine ih (i + 1) _ (by omega) (F.trans (FrS.sI rfl)) ?_ KK
        rw [take_succ_getD 0 (by omega)]
        have hlen : (u.1.take i).length = i := by simp; omega
        refine AR.app (fun q hq => ?_) ?_
        · rw [gI_sI, if_neg (fun z => by omega)]; exact A q hq
        · rw [gI_sI, if_pos ⟨rfl, by omega⟩]
    refine l3 (u.1.length - n) 0 M5 (by omega) FrS.rfl AR.nil ?_
    intro M7 l4 F7 A7
    simp only [B_Md_overlaps_219, SS]
    -- (4)
    have l4 : ∀ d i M8, i + d = v.2.1.length → FrS (fun b => b = m + 15) M5 M8 → AR M8 (m + 15) 0 (u.1.take (u.1.length - n) ++ v.2.1.take i) → wp F_Md_overlaps 222 [.ref m, .int (nI a), .int (nI b), .int (nI n), .int (nI i)] [] M8 Q := by
      intro d
      induction d with
      | zero =>
        intro i M8 hi F A
        have sN : OvN M M8 m := ⟨s5.1.trans (F.weaken (fun _ q => Or.inr (Or.inr q))), fun j h1 h2 => (F.gI (by omega) j).trans (s5.2 j h1 h2)⟩
        have S1 := hS.fr sN.1
        have g := gv M8 sN
        have e1 : nI v.2.1.length ≤ nI i := nI_le (by omega) (by omega)
        simp only [B_Md_overlaps_222, B_Md_overlaps_267, SS, S1.1, S1.rightSize.1, ixr M8 S1.rightSize.2 b (by omega), clb, g.2.2.2.1, e1, if_true, true_and, or_true]
        rw [List.take_of_length_le (l := v.2.1) (by omega)] at A
        refine K M8 sN (A5.fr F (by omega)) A ?_ ?_
        · rw [F.gI (by omega), g375]; congr 1; simp [spl]; omega
        · rw [F.gI (by omega), g385]; congr 1; simp [spl]
      | succ d ih =>
        intro i M8 hi F A
        have sN : OvN M M8 m := ⟨s5.1.trans (F.weaken (fun _ q => Or.inr (Or.inr q))), fun j h1 h2 => (F.gI (by omega) j).trans (s5.2 j h1 h2)⟩
        have S1 := hS.fr sN.1
        have g := gv M8 sN
        have e1 : ¬ nI v.2.1.length ≤ nI i := nI_ge (by omega) (by omega)
        have x1 : ixI M8 (m + 9) (nI (60 * b + i)) := ixI_of S1.right.2 (by omega) (by omega)
        have x2 : ixW M8 (m + 15) (nI (u.1.length - n + i)) := ixW_of S1.other.2 (by omega) (by omega)
        simp only [B_Md_overlaps_222, SS, S1.1, S1.leftSize.1, S1.rightSize.1, S1.other.1, S1.right.1, ixl M8 S1.leftSize.2 a (by omega), ixr M8 S1.rightSize.2 b (by omega), cla, clb, g.1, g.2.2.2.1, e1, if_false, true_and, c60, pk_mul, nI_add, pk_sub hn, x1, x2, cl_nI (show 60 * b + i < 2147483648 by omega), cl_nI (show u.1.length - n + i < 2147483648 by omega), g.2.2.2.2.2.2.2 i (by omega), nI_i1]
        rw [G_Md_overlaps_264]
        refine ih (i + 1) _ (by omega) (F.trans (FrS.sI rfl)) ?_
        rw [take_succ_getD 0 (by omega), ← List.append_assoc]
        have hlen : (u.1.take (u.1.length - n) ++ v.2.1.take i).length = u.1.length - n + i := by simp; omega
        refine AR.app (fun q hq => ?_) ?_
        · rw [gI_sI, if_neg (fun z => by omega)]; exact A q hq
        · rw [gI_sI, if_pos ⟨rfl, by omega⟩]
    exact l4 v.2.1.length 0 M7 (by omega) F7 (by simpa using A7)
  -- they are compared
  have cmp : ∀ d i, i + d = n → (∀ (l4 : Value), decide ((u.1.drop (u.1.length - n + i)).take (n - i) = (v.1.drop i).take (n - i)) = true → wp F_Md_overlaps 53 [.ref m, .int (nI a), .int (nI b), .int (nI n), l4] [] M Q) → (decide ((u.1.drop (u.1.length - n + i)).take (n - i) = (v.1.drop i).take (n - i)) = false → Q (some (.int 0)) M) → wp F_Md_overlaps 3 [.ref m, .int (nI a), .int (nI b), .int (nI n), .int (nI i)] [] M Q := by
    intro d
    induction d with
    | zero =>
      intro i hi K1 K0
      have e1 : nI n ≤ nI i := nI_le (by omega) (by omega)
      simp only [B_Md_overlaps_3, e1, if_true]
      exact K1 _ (by rw [show n - i = 0 by omega]; simp)
    | succ d ih =>
      intro i hi K1 K0
      have e1 : ¬ nI n ≤ nI i := nI_ge (by omega) (by omega)
      have x1 : ixI M (m + 7) (nI (60 * a + u.1.length - n + i)) := ixI_of hS.left.2 (by omega) (by omega)
      have x2 : ixI M (m + 7) (nI (60 * b + i)) := ixI_of hS.left.2 (by omega) (by omega)
      have y1 := gA.2.1 (u.1.length - n + i) (by omega)
      rw [show 60 * a + (u.1.length - n + i) = 60 * a + u.1.length - n + i by omega] at y1
      have y2 := gB.2.1 i (by omega)
      have l1 := getD_lt (fun c hc => by have := ua3 c hc; omega) (show u.1.length - n + i < u.1.length by omega)
      have l2 := getD_lt (fun c hc => by have := ub3 c hc; omega) (show i < v.1.length by omega)
      have e5 : n - i = (n - (i + 1)) + 1 := by omega
      rw [e5] at K1 K0
      simp only [take_cons_eq (show u.1.length - n + i < u.1.length by omega) (show i < v.1.length by omega)] at K1 K0
      simp only [B_Md_overlaps_3, SS, hS.1, hS.left.1, hS.leftSize.1, ixl M hS.leftSize.2 a (by omega), cla, gA.1, e1, if_false, true_and, c60, pk_mul, nI_add, pk_sub (show n ≤ 60 * a + u.1.length by omega), x1, x2, cl_nI (show 60 * a + u.1.length - n + i < 2147483648 by omega), cl_nI (show 60 * b + i < 2147483648 by omega), y1, y2, nI_eq (show u.1.getD (u.1.length - n + i) 0 < 2 ^ 31 by omega) (show v.1.getD i 0 < 2 ^ 31 by omega)]
      by_cases q : u.1.getD (u.1.length - n + i) 0 = v.1.getD i 0
      · rw [if_pos q]
        simp only [q, true_and] at K1 K0
        simp only [B_Md_overlaps_47, nI_i1, SS]
        rw [G_Md_overlaps_50]
        exact ih (i + 1) (by omega) K1 K0
      · rw [if_neg q]
        simp only [B_Md_overlaps_3, true_or, true_and]
        exact K0 (decide_eq_false (fun z => q z.1))
  simp only [B_Md_overlaps_0, SS]
  refine cmp n 0 (by omega) (fun l4 hc => lay l4 (hQ1 ?_)) (fun hc => hQ0 ?_)
  · unfold mat; simpa using hc
  · unfold mat; simpa using hc
theorem k_waits {f : Nat} {row : List Pr} {w1 w2 : List Nat} (hS : MdS M m) (hRo : RoM M m f row) (h1 : AR M (m + 14) 0 w1) (h2 : AR M (m + 15) 0 w2) (l1 : w1.length ≤ 120) (l2 : w2.length ≤ 120) (hrow : ∀ p ∈ row, p.1.length ≤ 120 ∧ p.2.length ≤ 120)
    (hQ0 : row.length = 1000 → Q none (sI M m 28 1)) (hQ1 : row.length < 1000 → ∀ M', FrS (fun b => b = m ∨ b = m + 12 ∨ b = m + 13) M M' → (∀ j, j ≠ 25 → gI M' m j = gI M m j) → RoM M' m f (row ++ [(w1, w2)]) → Q none M') : wp F_Md_waits 0 [.ref m, .int (nI w1.length), .int (nI w2.length), jk, jk] [] M Q := by
  obtain ⟨r1, r2, r3, r4, r5⟩ := hRo
  have c1000 : (1000 : Int32) = nI 1000 := rfl
  simp only [B_Md_waits_0, hS.1, r3, true_and, c1000, nI_eq (show row.length < 2 ^ 31 by omega) (show 1000 < 2 ^ 31 by omega), or_true]
  by_cases q : row.length = 1000
  · rw [if_pos q]; exact hQ0 q
  · rw [if_neg q]
    have hm := Nat.mod_lt (f + row.length) (show 1000 > 0 by omega)
    have z1000 : ¬ nI 1000 = 0 := by decide
    have rem : nI (f + row.length) - nI (f + row.length) / nI 1000 * nI 1000 = nI ((f + row.length) % 1000) := rem1000 (by omega)
    generalize hp : (f + row.length) % 1000 = p at hm rem
    have c2 : (2 : Int32) = nI 2 := rfl
    have c240 : (240 : Int32) = nI 240 := rfl
    have c120 : (120 : Int32) = nI 120 := rfl
    have x1 : ixW M (m + 13) (nI (2 * p)) := ixW_of hS.pairSize.2 (by omega) (by omega)
    have x2 : ∀ v, ixW (sI M (m + 13) (2 * p) v) (m + 13) (nI (2 * p + 1)) := fun v => ixW_of hS.pairSize.2 (by omega) (by omega)
    simp only [B_Md_waits_16, SS, hS.1, hS.pairSize.1, r1, r3, true_and, nI_add, c1000, z1000, not_false_eq_true, rem, c2, pk_mul, nI_i1, x1, x2, cl_nI (show 2 * p < 2147483648 by omega), cl_nI (show 2 * p + 1 < 2147483648 by omega)]
    have F0 : FrS (fun b => b = m + 13) M (sI (sI M (m + 13) (2 * p) (nI w1.length)) (m + 13) (2 * p + 1) (nI w2.length)) := (FrS.sI (S := fun b => b = m + 13) rfl).trans (FrS.sI rfl)
    have g0 : gI (sI (sI M (m + 13) (2 * p) (nI w1.length)) (m + 13) (2 * p + 1) (nI w2.length)) (m + 13) (2 * p) = nI w1.length := by
      rw [gI_sI, if_neg (fun z => by omega), gI_sI, if_pos ⟨rfl, rfl⟩]
    have g1 : gI (sI (sI M (m + 13) (2 * p) (nI w1.length)) (m + 13) (2 * p + 1) (nI w2.length)) (m + 13) (2 * p + 1) = nI w2.length := by
      rw [gI_sI, if_pos ⟨rfl, rfl⟩]
    have gO : ∀ j, j ≠ 2 * p → j ≠ 2 * p + 1 → gI (sI (sI M (m + 13) (2 * p) (nI w1.length)) (m + 13) (2 * p + 1) (nI w2.length)) (m + 13) j = gI M (m + 13) j := fun j h1 h2 => by
      rw [gI_sI, if_neg (fun z => h2 z.2), gI_sI, if_neg (fun z => h1 z.2)]
    generalize sI (sI M (m + 13) (2 * p) (nI w1.length)) (m + 13) (2 * p + 1) (nI w2.length) = M0 at F0 g0 g1 gO
    have S0 := hS.fr F0
    -- the one
    have la : ∀ d i M1, i + d = w1.length → FrS (fun b => b = m + 12) M0 M1 → AR M1 (m + 12) (240 * p) (w1.take i) → (∀ j, j < 240 * p ∨ 240 * p + 240 ≤ j → gI M1 (m + 12) j = gI M (m + 12) j) → (∀ M2 (l4 : Value), FrS (fun b => b = m + 12) M0 M2 → AR M2 (m + 12) (240 * p) w1 → (∀ j, j < 240 * p ∨ 240 * p + 240 ≤ j → gI M2 (m + 12) j = gI M (m + 12) j) → wp F_Md_waits 85 [.ref m, .int (nI w1.length), .int (nI w2.length), .int (nI p), l4] [] M2 Q) → wp F_Md_waits 53 [.ref m, .int (nI w1.length), .int (nI w2.length), .int (nI p), .int (nI i)] [] M1 Q := by
      intro d
      induction d with
      | zero =>
        intro i M1 hi F A O K
        have e1 : nI w1.length ≤ nI i := nI_le (by omega) (by omega)
        simp only [B_Md_waits_53, e1, if_true]
        rw [List.take_of_length_le (by omega)] at A
        exact K M1 _ F A O
      | succ d ih =>
        intro i M1 hi F A O K
        have S1 := S0.fr F
        have e1 : ¬ nI w1.length ≤ nI i := nI_ge (by omega) (by omega)
        have x1 : ixI M1 (m + 14) (nI i) := ixI_of S1.one.2 (by omega) (by omega)
        have x2 : ixW M1 (m + 12) (nI (240 * p + i)) := ixW_of S1.pair.2 (by omega) (by omega)
        have ga : gI M1 (m + 14) i = nI (w1.getD i 0) := by
          have := h1 i (by omega)
          rw [Nat.zero_add] at this
          exact (F.gI (by omega) _).trans ((F0.gI (by omega) _).trans this)
        simp only [B_Md_waits_53, SS, S1.1, S1.one.1, S1.pair.1, e1, if_false, x1, x2, true_and, c240, pk_mul, nI_add, cl_nI (show i < 2147483648 by omega), cl_nI (show 240 * p + i < 2147483648 by omega), ga, nI_i1]
        rw [G_Md_waits_82]
        refine ih (i + 1) _ (by omega) (F.trans (FrS.sI rfl)) ?_ (fun j hj => ?_) K
        · rw [take_succ_getD 0 (by omega)]
          have hlen : (w1.take i).length = i := by simp; omega
          refine AR.app (fun q hq => ?_) ?_
          · rw [gI_sI, if_neg (fun z => by omega)]; exact A q hq
          · rw [gI_sI, if_pos ⟨rfl, by omega⟩]
        · rw [gI_sI, if_neg (fun z => by omega)]; exact O j hj
    refine la w1.length 0 M0 (by omega) FrS.rfl AR.nil (fun j _ => F0.gI (by omega) j) ?_
    intro M2 l4 F2 A2 O2
    simp only [B_Md_waits_85, SS]
    have lb : ∀ d i M3, i + d = w2.length → FrS (fun b => b = m + 12) M0 M3 → AR M3 (m + 12) (240 * p) w1 → AR M3 (m + 12) (240 * p + 120) (w2.take i) → (∀ j, j < 240 * p ∨ 240 * p + 240 ≤ j → gI M3 (m + 12) j = gI M (m + 12) j) → wp F_Md_waits 88 [.ref m, .int (nI w1.length), .int (nI w2.length), .int (nI p), .int (nI i)] [] M3 Q := by
      intro d
      induction d with
      | zero =>
        intro i M3 hi F A B O
        have e1 : nI w2.length ≤ nI i := nI_le (by omega) (by omega)
        have S3 := S0.fr F
        have g25 : gI M3 m 25 = nI row.length := (F.gI (by omega) _).trans ((F0.gI (by omega) _).trans r3)
        simp only [B_Md_waits_88, B_Md_waits_123, e1, if_true, SS, S3.1, g25, true_and, nI_i1]
        rw [List.take_of_length_le (by omega)] at B
        have FF : FrS (fun b => b = m ∨ b = m + 12 ∨ b = m + 13) M (sI M3 m 25 (nI (row.length + 1))) := ((F0.weaken (fun _ q => Or.inr (Or.inr q))).trans (F.weaken (fun _ q => Or.inr (Or.inl q)))).trans (FrS.sI (Or.inl rfl))
        have gm : ∀ j, j ≠ 25 → gI (sI M3 m 25 (nI (row.length + 1))) m j = gI M m j := fun j hj => by
          rw [gI_sI, if_neg (fun z => hj z.2)]
          exact (F.gI (by omega) _).trans (F0.gI (by omega) _)
        have n1 : ¬ m + 12 = m := by omega
        have n2 : ¬ m + 13 = m := by omega
        refine hQ1 (by omega) _ FF gm ⟨(gm _ (by omega)).trans r1, r2, by simp [SS], by simp; omega, fun k hk => ?_⟩
        simp only [List.length_append, List.length_cons, List.length_nil] at hk
        have c13 : ∀ j, gI (sI M3 m 25 (nI (row.length + 1))) (m + 13) j = gI M0 (m + 13) j := fun j => by rw [gI_sI, if_neg (fun z => n2 z.1)]; exact F.gI (by omega) _
        have c12 : ∀ j, gI (sI M3 m 25 (nI (row.length + 1))) (m + 12) j = gI M3 (m + 12) j := fun j => by rw [gI_sI, if_neg (fun z => n1 z.1)]
        by_cases e : k < row.length
        · have e5 : (row ++ [(w1, w2)]).getD k dP = row.getD k dP := by rw [List.getD_eq_getElem?_getD, List.getElem?_append_left e, ← List.getD_eq_getElem?_getD]
          rw [e5]
          obtain ⟨s1, s2, s3, s4⟩ := r5 k e
          have hne : (f + k) % 1000 ≠ p := by rw [← hp]; exact mod_ne e (by omega)
          have hkl := Nat.mod_lt (f + k) (show 1000 > 0 by omega)
          have hpr := hrow (row.getD k dP) (by rw [List.getD_eq_getElem?_getD, List.getElem?_eq_getElem e]; exact List.getElem_mem e)
          refine ⟨?_, ?_, fun j hj => ?_, fun j hj => ?_⟩
          · rw [c13, gO _ (by omega) (by omega)]; exact s1
          · rw [c13, gO _ (by omega) (by omega)]; exact s2
          · rw [c12, O _ (by omega)]; exact s3 j hj
          · rw [c12, O _ (by omega)]; exact s4 j hj
        · have e4 : k = row.length := by omega
          subst e4
          have e5 : (row ++ [(w1, w2)]).getD row.length dP = (w1, w2) := by simp
          rw [e5, hp]
          exact ⟨(c13 _).trans g0, (c13 _).trans g1, fun j hj => (c12 _).trans (A j hj), fun j hj => (c12 _).trans (B j hj)⟩
      | succ d ih =>
        intro i M3 hi F A B O
        have S1 := S0.fr F
        have e1 : ¬ nI w2.length ≤ nI i := nI_ge (by omega) (by omega)
        have x1 : ixI M3 (m + 15) (nI i) := ixI_of S1.other.2 (by omega) (by omega)
        have x2 : ixW M3 (m + 12) (nI (240 * p + 120 + i)) := ixW_of S1.pair.2 (by omega) (by omega)
        have ga : gI M3 (m + 15) i = nI (w2.getD i 0) := by
          have := h2 i (by omega)
          rw [Nat.zero_add] at this
          exact (F.gI (by omega) _).trans ((F0.gI (by omega) _).trans this)
        simp only [B_Md_waits_88, SS, S1.1, S1.other.1, S1.pair.1, e1, if_false, x1, x2, true_and, c240, c120, pk_mul, nI_add, cl_nI (show i < 2147483648 by omega), cl_nI (show 240 * p + 120 + i < 2147483648 by omega), ga, nI_i1]
        rw [G_Md_waits_120]
        refine ih (i + 1) _ (by omega) (F.trans (FrS.sI rfl)) (fun j hj => ?_) ?_ (fun j hj => ?_)
        · rw [gI_sI, if_neg (fun z => by omega)]; exact A j hj
        · rw [take_succ_getD 0 (by omega)]
          have hlen : (w2.take i).length = i := by simp; omega
          refine AR.app (fun q hq => ?_) ?_
          · rw [gI_sI, if_neg (fun z => by omega)]; exact B q hq
          · rw [gI_sI, if_pos ⟨rfl, by omega⟩]
        · rw [gI_sI, if_neg (fun z => by omega)]; exact O j hj
    exact lb w2.length 0 M2 (by omega) F2 A2 AR.nil O2
end MC
