/-- a word ends -/
theorem k_endWord {M : Mm} {x : Nat} {nm : Nm} {lc pt : Nat} {ws : List (List Nat)} {cur : List Nat} {Q : Option Value → Mm → Prop} (hS : PRS M x) (hV : PRV M x (nm, lc, ws, cur, pt)) (hw : ws.length < 80)
    (hQ : ∀ M', FrS (prZ x) M M' → NmV M' (x + 4) nm → gI M' (x + 3) 5 = nI (ws.length + 1) → gI M' (x + 3) 6 = nI 0 → (∀ j, j ≠ 5 → j ≠ 6 → gI M' (x + 3) j = gI M (x + 3) j) → WV M' (x + 5) (ws.flatten ++ cur) → (∀ j, j < ws.length + 1 → gI M' (x + 7) j = nI (((ws ++ [cur]).take (j + 1)).flatten.length)) → Q none M') : wp F_Presentation_endWord 0 [.ref (x + 3)] [] M Q := by
  obtain ⟨v1, v2, v3, v4, v5, v6, v7, v8⟩ := hV
  simp only at v1 v2 v3 v4 v5 v6 v7 v8
  have e1 : ¬ nI 80 ≤ nI ws.length := nI_ge (by omega) (by omega)
  have e2 : ixW M (x + 7) (nI ws.length) := ixW_of hS.2.2.2.2 (by omega) (by omega)
  have e3 : cl (nI ws.length) = ws.length := cl_nI (by omega)
  have n1 : ¬ x + 3 = x + 7 := by omega
  have z0 : (0 : Int32) = nI 0 := rfl
  simp only [B_Presentation_endWord_0, B_Presentation_endWord_38, SS, hS.1, hS.2.1.2.1, hS.2.1.2.2, hS.2.2.2.2, hS.2.2.2.1.1, v4, v7.1, e1, e2, e3, if_false, true_and, n1, false_and, nI_i1]
  refine hQ _ (((FrS.sI (S := prZ x) ⟨by omega, by omega⟩).trans (FrS.sI ⟨by omega, by omega⟩)).trans (FrS.sI ⟨by omega, by omega⟩)) (fun j hj => ?_) ?_ ?_ (fun j h5 h6 => ?_) ?_ (fun j hj => ?_)
  · rw [gI_sI, if_neg (by omega), gI_sI, if_neg (by omega), gI_sI, if_neg (by omega)]; exact v1 j hj
  · rw [gI_sI, if_neg (by omega), gI_sI, if_pos ⟨rfl, rfl⟩]
  · rw [gI_sI, if_pos ⟨rfl, rfl⟩, z0]
  · rw [gI_sI, if_neg (by omega), gI_sI, if_neg (by omega), gI_sI, if_neg (by omega)]
  · have fz : FrS (fun b => b = x + 3 ∨ b = x + 7) M (sI (sI (sI M (x + 7) ws.length (nI (ws.flatten ++ cur).length)) (x + 3) 5 (nI (ws.length + 1))) (x + 3) 6 0) := ((FrS.sI (S := fun b => b = x + 3 ∨ b = x + 7) (Or.inr rfl)).trans (FrS.sI (Or.inl rfl))).trans (FrS.sI (Or.inl rfl))
    exact v7.fr fz (by omega) (by omega)
  · rw [gI_sI, if_neg (by omega), gI_sI, if_neg (by omega), gI_sI]
    by_cases q : j = ws.length
    · subst q
      rw [if_pos ⟨rfl, rfl⟩, List.take_of_length_le (by simp)]
      simp
    · rw [if_neg (fun z => q z.2), v8 j (by omega), List.take_append_of_le_length (by omega)]
theorem k_takeLetter {M : Mm} {x i c : Nat} {s : Pst} {Q : Option Value → Mm → Prop} (hS : PRS M x) (hV : PRV M x s) (hI : PI s i) (hp : s.2.2.2.2 = 0) (hc : c < 256)
    (hQ0 : ∀ n, pstep s c = .inl n → Q (some (.int (nI n))) M) (hQ1 : ∀ s', pstep s c = .inr s' → ∀ M', FrS (prZ x) M M' → PRV M' x s' → FpE M M' x → Q (some (.int 0)) M') : wp F_Presentation_takeLetter 0 [.ref (x + 3), .int (bC c)] [] M Q := by
  obtain ⟨nm, lc, ws, cur, pt⟩ := s
  cases hp
  have hV0 := hV
  obtain ⟨v1, v2, v3, v4, v5, v6, v7, v8⟩ := hV
  obtain ⟨i1, i2, -⟩ := hI
  simp only at v1 v2 v3 v4 v5 v6 v7 v8 i1 i2
  obtain ⟨-, -, t3, -, -, t6⟩ := bC_tab c hc
  have c1 : (nI lc ≤ 0) = (lc = 0) := by
    have := nI_leI (a := lc) (b := 0) (by omega) (by omega)
    rw [nI_0] at this
    exact propext (this.trans (by omega))
  have tail : ¬ (c = 59 ∧ 0 < lc) → wp F_Presentation_takeLetter 20 [.ref (x + 3), .int (bC c)] [] M Q := by
    intro hn
    simp only [B_Presentation_takeLetter_20]
    rw [k_isLetter hc]
    simp only [SS, List.cons_append, List.nil_append, B_Presentation_takeLetter_20, bI_ne]
    cases hl : isLt c with
    | false =>
      simp only [if_true]
      exact hQ0 1 (by rw [pstep, if_neg hn, if_pos hl])
    | true =>
      have hc2 : c - 97 < 26 := by simp only [isLt, decide_eq_true_eq] at hl; omega
      have e1 : ixI M (x + 4) (nI (c - 97)) := ixI_of hS.2.2.1 hc2 (by omega)
      have e2 : cl (nI (c - 97)) = c - 97 := cl_nI (by omega)
      have e3 : (oI (nm (c - 97)) = -1) = (nm (c - 97) = none) := by
        cases hn : nm (c - 97) with
        | none => simp [oI]
        | some a =>
          have : a < 8 := by have := i2 _ _ hn; omega
          have h2 : ∀ a, a < 8 → ¬ nI a = -1 := by decide
          simp [oI, h2 a this]
      simp only [Bool.true_eq_false, if_false, B_Presentation_takeLetter_29, hS.1, hS.2.1.1, SS, t6 hl, e1, e2, v1 _ hc2, e3, true_and]
      cases hnm : nm (c - 97) with
      | some a =>
        simp only [reduceCtorEq, if_false]
        exact hQ0 2 (by rw [pstep, if_neg hn, if_neg (by rw [hl]; simp), if_pos (by rw [hnm]; rfl)])
      | none =>
        have k8 : (8 : Int32) = nI 8 := rfl
        have c2 := nI_ltI (show lc < 2 ^ 31 by omega) (show 8 < 2 ^ 31 by omega)
        simp only [if_true, B_Presentation_takeLetter_44, hS.1, v2, k8, c2, true_and]
        by_cases h8 : lc < 8
        · have e4 : ixW M (x + 4) (nI (c - 97)) := ixW_of hS.2.2.1 hc2 (by omega)
          have n1 : ¬ x + 3 = x + 4 := by omega
          simp only [h8, if_true, B_Presentation_takeLetter_55, hS.1, hS.2.1.1, SS, t6 hl, e4, e2, v2, n1, false_and, if_false, nI_i1, true_and]
          refine hQ1 _ (by rw [pstep, if_neg hn, if_neg (by rw [hl]; simp), if_neg (by rw [hnm]; simp), if_neg (by omega)]) _ ((FrS.sI (S := prZ x) ⟨by omega, by omega⟩).trans (FrS.sI ⟨by omega, by omega⟩)) ⟨fun j hj => ?_, ?_, ?_, ?_, ?_, ?_, ?_, ?_⟩ ⟨?_, ?_⟩
          · rw [gI_sI, if_neg (by omega), gI_sI]
            simp only [upd1]
            by_cases q : j = c - 97
            · rw [if_pos (by simp [q]), if_pos q]; rfl
            · rw [if_neg (fun z => q (by simpa using z)), if_neg q]; exact v1 j hj
          · rw [gI_sI, if_pos ⟨rfl, rfl⟩]
          · rw [gI_sI, if_neg (by omega), gI_sI, if_neg (by omega)]; exact v3
          · rw [gI_sI, if_neg (by omega), gI_sI, if_neg (by omega)]; exact v4
          · rw [gI_sI, if_neg (by omega), gI_sI, if_neg (by omega)]; exact v5
          · rw [gI_sI, if_neg (by omega), gI_sI, if_neg (by omega)]; exact v6
          · exact v7.fr ((FrS.sI (S := fun b => b = x + 3 ∨ b = x + 4) (Or.inr rfl)).trans (FrS.sI (Or.inl rfl))) (by omega) (by omega)
          · intro j hj
            rw [gI_sI, if_neg (by omega), gI_sI, if_neg (by omega)]; exact v8 j hj
          · rw [gI_sI, if_neg (by omega), gI_sI, if_neg (by omega)]
          · rw [gI_sI, if_neg (by omega), gI_sI, if_neg (by omega)]
        · simp only [h8, if_false]
          exact hQ0 3 (by rw [pstep, if_neg hn, if_neg (by rw [hl]; simp), if_neg (by rw [hnm]; simp), if_pos (by omega)])
  simp only [B_Presentation_takeLetter_0, t3, hS.1, v2, c1, true_and]
  by_cases h59 : c = 59
  · by_cases h0 : lc = 0
    · simp only [h59, h0, if_true]
      have := tail (fun q => by omega)
      rw [h59] at this
      exact this
    · simp only [h59, h0, if_true, if_false, hS.1, true_and]
      refine hQ1 _ (by rw [pstep, if_pos ⟨h59, by omega⟩]) _ (FrS.sI (S := prZ x) ⟨by omega, by omega⟩) ⟨fun j hj => ?_, ?_, ?_, ?_, ?_, ?_, ?_, ?_⟩ ⟨?_, ?_⟩
      · rw [gI_sI, if_neg (by omega)]; exact v1 j hj
      · rw [gI_sI, if_neg (by omega)]; exact v2
      · rw [gI_sI, if_neg (by omega)]; exact v3
      · rw [gI_sI, if_neg (by omega)]; exact v4
      · rw [gI_sI, if_neg (by omega)]; exact v5
      · rw [gI_sI, if_pos ⟨rfl, rfl⟩]; rfl
      · exact v7.fr (FrS.sI (S := fun b => b = x + 3) rfl) (by omega) (by omega)
      · intro j hj
        rw [gI_sI, if_neg (by omega)]; exact v8 j hj
      · rw [gI_sI, if_neg (by omega)]
      · rw [gI_sI, if_neg (by omega)]
  · simp only [h59, if_false]
    exact tail (fun q => h59 q.1)
theorem k_takeInWord {M : Mm} {x i c : Nat} {s : Pst} {Q : Option Value → Mm → Prop} (hS : PRS M x) (hV : PRV M x s) (hI : PI s i) (hi : i < 600) (hp : s.2.2.2.2 ≠ 0) (hc : c < 256)
    (hQ0 : ∀ n, pstep s c = .inl n → Q (some (.int (nI n))) M) (hQ1 : ∀ s', pstep s c = .inr s' → ∀ M', FrS (prZ x) M M' → PRV M' x s' → FpE M M' x → Q (some (.int 0)) M') : wp F_Presentation_takeInWord 0 [.ref (x + 3), .int (bC c)] [] M Q := by
  obtain ⟨nm, lc, ws, cur, pt⟩ := s
  cases pt with
  | zero => exact absurd rfl hp
  | succ pt =>
    have hV0 := hV
    obtain ⟨v1, v2, v3, v4, v5, v6, v7, v8⟩ := hV
    obtain ⟨i1, i2, i3, i4, i5, i6, i7, i8, i9, i10'⟩ := hI
    simp only at v1 v2 v3 v4 v5 v6 v7 v8 i1 i2 i3 i4 i5 i6 i7 i8 i9 i10'
    obtain ⟨-, -, t3, t4, -, t6⟩ := bC_tab c hc
    simp only [B_Presentation_takeInWord_0]
    rw [k_isLetter hc]
    simp only [SS, List.cons_append, List.nil_append, B_Presentation_takeInWord_0, bI_ne]
    cases hl : isLt c with
    | true =>
      have hc2 : c - 97 < 26 := by simp only [isLt, decide_eq_true_eq] at hl; omega
      have e1 : ixI M (x + 4) (nI (c - 97)) := ixI_of hS.2.2.1 hc2 (by omega)
      have e2 : cl (nI (c - 97)) = c - 97 := cl_nI (by omega)
      have k24 : (24 : Int32) = nI 24 := rfl
      simp only [B_Presentation_takeInWord_0, Bool.true_eq_false, if_false, hS.1, hS.2.1.1, SS, t6 hl, e1, e2, v1 _ hc2, k24, true_and]
      refine k_takeWordLetter (cur := cur) hS v5 v7 (by omega) (by simp) (by omega) (fun a ha => by have := i2 _ _ ha; omega) ?_ ?_
      · intro n hn
        simp only [SS, List.cons_append, List.nil_append, B_Presentation_takeInWord_0]
        exact hQ0 n (by rw [pstep, if_pos hl, hn])
      · intro a ha hw M1 f1 w1 g6 g
        simp only [SS, List.cons_append, List.nil_append, B_Presentation_takeInWord_0]
        refine hQ1 _ (by rw [pstep, if_pos hl, hw]) M1 (f1.weaken (fun b q => ⟨by omega, by omega⟩)) ⟨fun j hj => (f1.gI (by omega) j).trans (v1 j hj), (g 1 (by omega)).trans v2, (g 2 (by omega)).trans v3, (g 5 (by omega)).trans v4, ?_, (g 7 (by omega)).trans v6, ?_, fun j hj => (f1.gI (by omega) j).trans (v8 j hj)⟩ ⟨g 8 (by omega), g 9 (by omega)⟩
        · rw [g6]; simp
        · rw [← List.append_assoc]; exact w1
    | false =>
      have k1 : (1 : Int32) = nI 1 := rfl
      have k2 : (2 : Int32) = nI 2 := rfl
      have q1 := nI_eq (a := pt + 1) (b := 1) (by omega) (by omega)
      have q2 := nI_eq (a := pt + 1) (b := 2) (by omega) (by omega)
      have e1 : (nI (pt + 1) = 1) = (pt = 0) := by rw [k1]; exact propext (q1.trans (by omega))
      have e2 : (nI (pt + 1) = 2) = (pt = 1) := by rw [k2]; exact propext (q2.trans (by omega))
      simp only [if_true, B_Presentation_takeInWord_23, hS.1, v6, e1, t4, true_and]
      have tail : ¬ (pt = 0 ∧ c = 61) → wp F_Presentation_takeInWord 59 [.ref (x + 3), .int (bC c)] [] M Q := by
        intro hn
        simp only [B_Presentation_takeInWord_59, hS.1, v6, e2, t3, true_and]
        by_cases hb : pt = 1 ∧ c = 59
        · obtain ⟨rfl, rfl⟩ := hb
          have := i5 rfl
          simp only [if_true, hS.1, true_and]
          refine k_endWord hS hV0 (by omega) ?_
          intro M1 f1 n1 g5 g6 g w1 u1
          have hS1 := hS.fr f1
          simp only [Option.toList_none, List.nil_append, B_Presentation_takeInWord_59, hS1.1, SS, g 2 (by omega) (by omega), v3, nI_i1, true_and]
          have hl2 : (ws ++ [cur]).length = ws.length + 1 := by simp
          refine hQ1 (nm, lc, ws ++ [cur], [], 1) (by rw [pstep, if_neg (by rw [hl]; simp), if_neg hn, if_pos ⟨rfl, rfl⟩]) _ (f1.trans ((FrS.sI ⟨by omega, by omega⟩).trans (FrS.sI ⟨by omega, by omega⟩))) ⟨fun j hj => ?_, ?_, ?_, ?_, ?_, ?_, ?_, ?_⟩ ⟨?_, ?_⟩
          · rw [gI_sI, if_neg (by omega), gI_sI, if_neg (by omega)]; exact n1 j hj
          · rw [gI_sI, if_neg (by omega), gI_sI, if_neg (by omega)]; exact (g 1 (by omega) (by omega)).trans v2
          · rw [gI_sI, if_neg (by omega), gI_sI, if_pos ⟨rfl, rfl⟩]; show nI (ws.length / 2 + 1) = nI ((ws ++ [cur]).length / 2); rw [hl2]; congr 1; omega
          · rw [gI_sI, if_neg (by omega), gI_sI, if_neg (by omega)]; show _ = nI (ws ++ [cur]).length; rw [hl2]; exact g5
          · rw [gI_sI, if_neg (by omega), gI_sI, if_neg (by omega)]; exact g6
          · rw [gI_sI, if_pos ⟨rfl, rfl⟩]; rfl
          · have : (ws ++ [cur]).flatten ++ [] = ws.flatten ++ cur := by simp
            show WV _ (x + 5) ((ws ++ [cur]).flatten ++ [])
            rw [this]
            exact w1.fr ((FrS.sI (S := fun b => b = x + 3) rfl).trans (FrS.sI rfl)) (by omega) (by omega)
          · intro j hj
            rw [gI_sI, if_neg (by omega), gI_sI, if_neg (by omega)]
            exact u1 j (by rw [← hl2]; exact hj)
          · rw [gI_sI, if_neg (by omega), gI_sI, if_neg (by omega)]; exact g 8 (by omega) (by omega)
          · rw [gI_sI, if_neg (by omega), gI_sI, if_neg (by omega)]; exact g 9 (by omega) (by omega)
        · have : wp F_Presentation_takeInWord 94 [.ref (x + 3), .int (bC c)] [] M Q := by
            simp only [B_Presentation_takeInWord_94]
            exact hQ0 1 (by rw [pstep, if_neg (by rw [hl]; simp), if_neg hn, if_neg hb])
          by_cases hb1 : pt = 1
          · have hb2 : ¬ c = 59 := fun q => hb ⟨hb1, q⟩
            simp only [hb1, hb2, if_true, if_false]
            exact this
          · simp only [hb1, if_false]
            exact this
      by_cases hb : pt = 0 ∧ c = 61
      · obtain ⟨rfl, rfl⟩ := hb
        have := i4 rfl
        have k40 : (40 : Int32) = nI 40 := rfl
        have c2 := nI_ltI (show ws.length / 2 < 2 ^ 31 by omega) (show 40 < 2 ^ 31 by omega)
        simp only [if_true, hS.1, v3, k40, c2, true_and]
        by_cases h40 : ws.length / 2 < 40
        · simp only [h40, if_true, B_Presentation_takeInWord_48, hS.1, true_and]
          refine k_endWord hS hV0 (by omega) ?_
          intro M1 f1 n1 g5 g6 g w1 u1
          have hS1 := hS.fr f1
          simp only [Option.toList_none, List.nil_append, B_Presentation_takeInWord_48, hS1.1, SS, true_and]
          have hl2 : (ws ++ [cur]).length = ws.length + 1 := by simp
          refine hQ1 (nm, lc, ws ++ [cur], [], 2) (by rw [pstep, if_neg (by rw [hl]; simp), if_pos ⟨rfl, rfl⟩, if_neg (by omega)]) _ (f1.trans (FrS.sI ⟨by omega, by omega⟩)) ⟨fun j hj => ?_, ?_, ?_, ?_, ?_, ?_, ?_, ?_⟩ ⟨?_, ?_⟩
          · rw [gI_sI, if_neg (by omega)]; exact n1 j hj
          · rw [gI_sI, if_neg (by omega)]; exact (g 1 (by omega) (by omega)).trans v2
          · rw [gI_sI, if_neg (by omega)]; show _ = nI ((ws ++ [cur]).length / 2); rw [hl2, g 2 (by omega) (by omega), v3]; congr 1; omega
          · rw [gI_sI, if_neg (by omega)]; show _ = nI (ws ++ [cur]).length; rw [hl2]; exact g5
          · rw [gI_sI, if_neg (by omega)]; exact g6
          · rw [gI_sI, if_pos ⟨rfl, rfl⟩]; rfl
          · have : (ws ++ [cur]).flatten ++ [] = ws.flatten ++ cur := by simp
            show WV _ (x + 5) ((ws ++ [cur]).flatten ++ [])
            rw [this]
            exact w1.fr (FrS.sI (S := fun b => b = x + 3) rfl) (by omega) (by omega)
          · intro j hj
            rw [gI_sI, if_neg (by omega)]
            exact u1 j (by rw [← hl2]; exact hj)
          · rw [gI_sI, if_neg (by omega)]; exact g 8 (by omega) (by omega)
          · rw [gI_sI, if_neg (by omega)]; exact g 9 (by omega) (by omega)
        · simp only [h40, if_false]
          exact hQ0 3 (by rw [pstep, if_neg (by rw [hl]; simp), if_pos ⟨rfl, rfl⟩, if_pos (by omega)])
      · have := tail hb
        by_cases hb1 : pt = 0
        · have hb2 : ¬ c = 61 := fun q => hb ⟨hb1, q⟩
          simp only [hb1, hb2, if_true, if_false]
          exact this
        · simp only [hb1, if_false]
          exact this
