theorem k_takeSlotWord {M : Mm} {x k : Nat} {tp : List Nat} {nm : Nm} {Q : Option Value → Mm → Prop} (hS : PRS M x) (hT : TPV M x tp) (h2 : sh M (x + 2) = some (.inr (0, 26))) (hN : NmV M (x + 2) nm) (hk : ∀ j a, nm j = some a → a < k) (hk8 : k ≤ 8)
    (hQ0 : ∀ n p, wrun nm [] 0 tp = .inl (n, p) → ∀ M', FrS (prZ x) M M' → gI M' (x + 3) 8 = nI n → gI M' (x + 3) 9 = nI p → Q (some (.int 0)) M') (hQ1 : ∀ w, wrun nm [] 0 tp = .inr w → ∀ M', FrS (prZ x) M M' → WV M' (x + 5) w → Q (some (.int 1)) M') : wp F_Presentation_takeSlotWord 0 [.ref (x + 3), .ref (x + 1), .int (nI tp.length), .ref (x + 2), jk] [] M Q := by
  have hl := hT.2.2.2
  have zn : ¬ prZ x (x + 1) := fun q => by omega
  have bad : ∀ n p i M', wrun nm [] 0 tp = .inl (n, p) → 1 ≤ n → n ≤ 3 → i ≤ 600 → FrS (prZ x) M M' → gI M' (x + 3) 8 = nI n → gI M' (x + 3) 9 = nI p → wp F_Presentation_takeSlotWord 7 [.ref (x + 3), .ref (x + 1), .int (nI tp.length), .ref (x + 2), .int (nI i)] [] M' Q := by
    intro n p i M' hr n1 n3 hi ff g8 g9
    have s1 : sh M' (x + 3) = some (.inl 5) := (ff.sh _).trans hS.1
    have s2 : sh M' (x + 1) = some (.inr (2, 600)) := (ff.sh _).trans hT.1
    have e0 : ¬ nI n = 0 := nI_ne0 (by omega) (by omega)
    have fin : wp F_Presentation_takeSlotWord 82 [.ref (x + 3), .ref (x + 1), .int (nI tp.length), .ref (x + 2), .int (nI i)] [] M' Q := by
      simp only [B_Presentation_takeSlotWord_82, B_Presentation_takeSlotWord_93, B_Presentation_takeSlotWord_94, s1, g8, e0, if_false, true_or, true_and]
      exact hQ0 n p hr M' ff g8 g9
    simp only [B_Presentation_takeSlotWord_7, s1, s2, SS, g8, e0, if_false, true_and]
    split
    · exact fin
    · split
      · exact fin
      · exact fin
  have loop : ∀ m i cur M', i + m = tp.length → cur.length ≤ i → FrS (prZ x) M M' → WV M' (x + 5) cur → gI M' (x + 3) 6 = nI cur.length → gI M' (x + 3) 8 = 0 → wrun nm [] 0 tp = wrun nm cur i (tp.drop i) → wp F_Presentation_takeSlotWord 7 [.ref (x + 3), .ref (x + 1), .int (nI tp.length), .ref (x + 2), .int (nI i)] [] M' Q := by
    intro m
    induction m with
    | zero =>
      intro i cur M' hi hcl ff hV g6 g8 hr
      have s1 : sh M' (x + 3) = some (.inl 5) := (ff.sh _).trans hS.1
      have e1 : nI tp.length ≤ nI i := nI_le (by omega) (by omega)
      rw [List.drop_eq_nil_of_le (by omega)] at hr
      simp only [B_Presentation_takeSlotWord_7, B_Presentation_takeSlotWord_82, B_Presentation_takeSlotWord_94, s1, e1, if_true, g8, or_true, true_and]
      exact hQ1 cur hr M' ff hV
    | succ m ih =>
      intro i cur M' hi hcl ff hV g6 g8 hr
      have hS' := hS.fr ff
      have hT' := hT.fr ff zn
      have hil : i < tp.length := by omega
      have e1 : ¬ nI tp.length ≤ nI i := nI_ge (by omega) (by omega)
      have e2 : ¬ nI 600 ≤ nI i := nI_ge (by omega) (by omega)
      have e3 : ∀ N : Mm, sh N (x + 1) = some (.inr (2, 600)) → ixB N (x + 1) (nI i) := fun N hN => ixB_of hN (by omega) (by omega)
      have e4 : cl (nI i) = i := cl_nI (by omega)
      have hc := hT.lt hil
      rw [drop_getD hil] at hr
      simp only [B_Presentation_takeSlotWord_7, e1, e2, e3 M' hT'.1, e4, if_false, hT'.1, SS, hS'.1, g8, if_true, hT'.2.1 i hil, true_and]
      rw [k_isPassedOver hc]
      generalize hcc : tp.getD i 0 = c at *
      simp only [List.cons_append, List.nil_append, Option.toList_some, B_Presentation_takeSlotWord_7, bI_ne]
      cases hsp : isSp c with
      | true =>
        simp only [Bool.true_eq_false, if_false, B_Presentation_takeSlotWord_76, SS, nI_i1]
        rw [G_Presentation_takeSlotWord_79]
        rw [wrun, if_pos hsp] at hr
        exact ih (i + 1) cur M' (by omega) (by omega) ff hV g6 g8 hr
      | false =>
        rw [wrun, if_neg (by rw [hsp]; simp)] at hr
        have f1 : FrS (prZ x) M (sI M' (x + 3) 9 (nI i)) := ff.trans (FrS.sI ⟨by omega, by omega⟩)
        have g91 : gI (sI M' (x + 3) 9 (nI i)) (x + 3) 9 = nI i := by rw [gI_sI, if_pos ⟨rfl, rfl⟩]
        have g61 : gI (sI M' (x + 3) 9 (nI i)) (x + 3) 6 = nI cur.length := by rw [gI_sI, if_neg (by omega)]; exact g6
        have hV1 := hV.fr (FrS.sI (S := fun b => b = x + 3) (M := M') (a := x + 3) (j := 9) (x := nI i) rfl) (by omega) (by omega)
        have gt : gI (sI M' (x + 3) 9 (nI i)) (x + 1) i = bC c := by
          rw [gI_sI, if_neg (by omega), hT'.2.1 i hil, hcc]
        have hS1 := hS.fr f1
        have sx1 : sh (sI M' (x + 3) 9 (nI i)) (x + 1) = some (.inr (2, 600)) := hT'.1
        simp only [if_true, B_Presentation_takeSlotWord_7, hS'.1, true_and]
        generalize sI M' (x + 3) 9 (nI i) = M2 at *
        have after : ∀ r M3, FrS (prZ x) M2 M3 → gI M3 (x + 3) 9 = nI i → ((∃ n, r = nI n ∧ 1 ≤ n ∧ n ≤ 3 ∧ wrun nm [] 0 tp = .inl (n, i)) ∨ (∃ cur', r = 0 ∧ cur'.length ≤ i + 1 ∧ wrun nm [] 0 tp = wrun nm cur' (i + 1) (tp.drop (i + 1)) ∧ WV M3 (x + 5) cur' ∧ gI M3 (x + 3) 6 = nI cur'.length)) → wp F_Presentation_takeSlotWord 73 [.ref (x + 3), .ref (x + 1), .int (nI tp.length), .ref (x + 2), .int (nI i)] [.int r, .ref (x + 3)] M3 Q := by
          intro r M3 f3 g9 hcase
          have f3' := f1.trans f3
          have s1 : sh M3 (x + 3) = some (.inl 5) := (f3'.sh _).trans hS.1
          have f4 : FrS (prZ x) M (sI M3 (x + 3) 8 r) := f3'.trans (FrS.sI ⟨by omega, by omega⟩)
          simp only [B_Presentation_takeSlotWord_73, B_Presentation_takeSlotWord_76, SS, s1, nI_i1, true_and]
          rw [G_Presentation_takeSlotWord_79]
          rcases hcase with ⟨n, rfl, n1, n3, hp⟩ | ⟨cur', rfl, hcl', hp, hv, h6⟩
          · refine bad n i (i + 1) _ hp n1 n3 (by omega) f4 ?_ ?_
            · rw [gI_sI, if_pos ⟨rfl, rfl⟩]
            · rw [gI_sI, if_neg (by omega)]; exact g9
          · refine ih (i + 1) cur' _ (by omega) hcl' f4 (hv.fr (FrS.sI (S := fun b => b = x + 3) rfl) (by omega) (by omega)) ?_ ?_ hp
            · rw [gI_sI, if_neg (by omega)]; exact h6
            · rw [gI_sI, if_pos ⟨rfl, rfl⟩]
        simp only [e3 M2 sx1, e4, gt, true_and]
        rw [k_isLetter hc]
        simp only [List.cons_append, List.nil_append, Option.toList_some, B_Presentation_takeSlotWord_7, bI_ne]
        cases hlt : isLt c with
        | false =>
          rw [if_neg (by rw [hlt]; simp)] at hr
          simp only [if_true, B_Presentation_takeSlotWord_72]
          exact after 1 M2 FrS.rfl g91 (Or.inl ⟨1, rfl, by omega, by omega, hr⟩)
        | true =>
          rw [if_pos hlt] at hr
          have hc2 : c - 97 < 26 := by simp only [isLt, decide_eq_true_eq] at hlt; omega
          have sx2 : sh M2 (x + 2) = some (.inr (0, 26)) := (f1.sh _).trans h2
          have e5 : ixI M2 (x + 2) (nI (c - 97)) := ixI_of sx2 hc2 (by omega)
          have e6 : cl (nI (c - 97)) = c - 97 := cl_nI (by omega)
          have gn : gI M2 (x + 2) (c - 97) = oI (nm (c - 97)) := (f1.gI (fun q => by omega) _).trans (hN _ hc2)
          obtain ⟨-, -, -, -, -, t6⟩ := bC_tab c hc
          have k80 : (80 : Int32) = nI 80 := rfl
          simp only [Bool.true_eq_false, if_false, B_Presentation_takeSlotWord_7, e3 M2 sx1, e4, gt, t6 hlt, e5, e6, gn, hS1.1, k80, true_and]
          refine k_takeWordLetter (cur := cur) hS1 g61 hV1 (by omega) (by omega) (by omega) (fun a ha => by have := hk _ _ ha; omega) ?_ ?_
          · intro n hn
            rw [hn] at hr
            simp only [SS, List.cons_append, List.nil_append, B_Presentation_takeSlotWord_7]
            exact after (nI n) M2 FrS.rfl g91 (Or.inl ⟨n, rfl, (wlet_inl hn).1, (wlet_inl hn).2, hr⟩)
          · intro a ha hw M3 f3 w3 g63 g3
            rw [hw] at hr
            simp only [SS, List.cons_append, List.nil_append, B_Presentation_takeSlotWord_7]
            exact after 0 M3 (f3.weaken (fun b q => ⟨by omega, by omega⟩)) ((g3 9 (by omega)).trans g91) (Or.inr ⟨cur ++ [a], rfl, by simp; omega, hr, w3, by rw [g63]; simp⟩)
  have z0 : (0 : Int32) = nI 0 := rfl
  simp only [B_Presentation_takeSlotWord_0, hS.1, true_and]
  refine k_Pclear hS ?_
  intro M1 f1 p1
  simp only [Option.toList_none, List.nil_append, B_Presentation_takeSlotWord_0, SS]
  rw [z0]
  exact loop tp.length 0 [] M1 (by omega) (by simp) f1 p1.2 (p1.1 6 (by omega)) (p1.1 8 (by omega)) (by rw [List.drop_zero])
theorem flat_cut : ∀ (ws : List (List Nat)) (cur : List Nat) (j : Nat), j < ws.length → ((ws.flatten ++ cur).drop ((ws.take j).flatten.length)).take ((ws.take (j + 1)).flatten.length - (ws.take j).flatten.length) = ws.getD j [] := by
  intro ws
  induction ws with
  | nil => intro cur j hj; simp at hj
  | cons w ws ih =>
    intro cur j hj
    cases j with
    | zero => simp
    | succ j =>
      have := ih cur j (by simpa using hj)
      simp only [List.take_succ_cons, List.flatten_cons, List.length_append, List.append_assoc]
      rw [List.drop_append, List.drop_eq_nil_of_le (by omega), List.nil_append, Nat.add_sub_cancel_left, Nat.add_sub_add_left]
      simpa using this
theorem flat_le {ws : List (List Nat)} {j : Nat} : (ws.take j).flatten.length ≤ (ws.take (j + 1)).flatten.length ∧ (ws.take (j + 1)).flatten.length ≤ ws.flatten.length := by
  constructor
  · rw [List.take_add_one, List.flatten_append, List.length_append]; omega
  · have := congrArg (fun l => l.flatten.length) (List.take_append_drop (j + 1) ws)
    simp only [List.flatten_append, List.length_append] at this
    omega
theorem k_copyWord {M : Mm} {x v rv j : Nat} {s : Pst} {Q : Option Value → Mm → Prop} (hS : PRS M x) (hV : PRV M x s) (hs : s.2.2.2.1 = []) (h600 : s.2.2.1.flatten.length ≤ 600) (hj : j < s.2.2.1.length) (h80 : s.2.2.1.length ≤ 80) (sv : WS M v rv) (hv : x + 8 ≤ v) (hr : (s.2.2.1.getD j []).length ≤ rv) (b : rv < 2147483648)
    (hQ : ∀ M', FrS (wS v) M M' → WV M' v (s.2.2.1.getD j []) → Q none M') : wp F_Presentation_copyWord 0 [.ref (x + 3), .int (nI j), .ref v] [] M Q := by
  obtain ⟨nm, lc, ws, cur, pt⟩ := s
  obtain ⟨v1, v2, v3, v4, v5, v6, v7, v8⟩ := hV
  simp only at v1 v2 v3 v4 v5 v6 v7 v8 hs h600 hj h80 hr hQ
  subst hs
  simp only [B_Presentation_copyWord_0, sv.1, true_and]
  refine k_Word_clear sv ?_
  intro M1 f1 w1
  have hS1 := hS.fr f1
  have g : ∀ b q, x + 3 ≤ b → b < x + 8 → gI M1 b q = gI M b q := fun b q h1 h2 => f1.gI (fun z => by rcases z with z | z <;> omega) q
  have g5 := (g (x + 3) 5 (by omega) (by omega)).trans v4
  have v7' : WV M1 (x + 5) ws.flatten := by
    have := v7.fr f1 (fun z => by rcases z with z | z <;> omega) (fun z => by rcases z with z | z <;> omega)
    rw [List.append_nil] at this
    exact this
  have e1 : ¬ nI j < 0 := nI_pos (by omega)
  have e2 : ¬ nI ws.length ≤ nI j := nI_ge hj (by omega)
  have e3 : ixI M1 (x + 7) (nI j) := ixI_of hS1.2.2.2.2 (by omega) (by omega)
  have e4 : cl (nI j) = j := cl_nI (by omega)
  have e5 : gI M1 (x + 7) j = nI (ws.take (j + 1)).flatten.length := (g _ _ (by omega) (by omega)).trans (v8 j hj)
  obtain ⟨l1, l2⟩ := flat_le (ws := ws) (j := j)
  have cut := flat_cut ws [] j hj
  rw [List.append_nil] at cut
  have app : ∀ M2, M2 = M1 → wp F_Word_append 0 [.ref v, .ref (x + 5), .int (nI (ws.take j).flatten.length), .int (nI (ws.take (j + 1)).flatten.length), jk] [] M2 (fun r M3 => wp F_Presentation_copyWord 46 [.ref (x + 3), .int (nI j), .ref v] (r.toList ++ []) M3 Q) := by
    rintro M2 rfl
    refine k_Word_append (sv.fr f1) hS1.2.2.2.1 w1 v7' (by omega) l1 l2 h600 ?_ b (by omega) ?_
    · rw [← cut, List.length_take, List.length_drop] at hr
      simp only [List.length_nil]
      omega
    · intro M3 f3 w3
      rw [cut, List.nil_append] at w3
      simp only [Option.toList_none, List.nil_append, B_Presentation_copyWord_46]
      exact hQ M3 (f1.trans f3) w3
  cases j with
  | zero =>
    have z0 : nI 0 = 0 := nI_0
    simp only [List.take_zero, List.flatten_nil, List.length_nil] at app
    simp only [Option.toList_none, List.nil_append, B_Presentation_copyWord_0, B_Presentation_copyWord_37, SS, e1, e2, e3, e4, e5, g5, hS1.1, hS1.2.1.2.1, hS1.2.1.2.2, (sv.fr f1).1, z0, if_true, if_false, true_and]
    rw [z0] at app e1 e2 e3 e4
    simp only [e1, e2, e3, e4, e5, if_true, if_false, B_Presentation_copyWord_0, B_Presentation_copyWord_37, SS, g5, hS1.1, hS1.2.1.2.1, hS1.2.1.2.2, (sv.fr f1).1, true_and]
    exact app M1 rfl
  | succ j =>
    have e6 : ¬ nI (j + 1) = 0 := nI_ne0 (by omega) (by omega)
    have e7 : nI (j + 1) - 1 = nI j := nI_pred j
    have e8 : ixI M1 (x + 7) (nI j) := ixI_of hS1.2.2.2.2 (by omega) (by omega)
    have e9 : cl (nI j) = j := cl_nI (by omega)
    have e10 : gI M1 (x + 7) j = nI (ws.take (j + 1)).flatten.length := (g _ _ (by omega) (by omega)).trans (v8 j (by omega))
    simp only [Option.toList_none, List.nil_append, B_Presentation_copyWord_0, B_Presentation_copyWord_29, B_Presentation_copyWord_37, SS, e1, e2, e3, e4, e5, e6, e7, e8, e9, e10, g5, hS1.1, hS1.2.1.2.1, hS1.2.1.2.2, (sv.fr f1).1, if_false, true_and]
    exact app M1 rfl
