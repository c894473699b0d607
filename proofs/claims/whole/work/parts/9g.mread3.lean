/-! the reference reads equations -/
def EqM (M : Mm) (m : Nat) (ws : List (List Nat)) : Prop := ∀ q, q < ws.length → gI M (m + 5) q = nI (ws.getD q []).length ∧ AR M (m + 4) (24 * q) (ws.getD q [])
def EqN (M M1 : Mm) (m : Nat) : Prop := FrS (fun b => b = m ∨ b = m + 4 ∨ b = m + 5) M M1 ∧ ∀ j, j ≠ 3 → j ≠ 5 → j ≠ 6 → j ≠ 14 → gI M1 m j = gI M m j
theorem EqN.rfl {M : Mm} {m : Nat} : EqN M M m := ⟨FrS.rfl, fun _ _ _ _ _ => Eq.refl _⟩
theorem EqN.trans {M M1 M2 : Mm} {m : Nat} (h : EqN M M1 m) (h2 : EqN M1 M2 m) : EqN M M2 m := ⟨h.1.trans h2.1, fun j a b c d => (h2.2 j a b c d).trans (h.2 j a b c d)⟩
theorem EqN.scr {M M1 : Mm} {m : Nat} (h : EqN M M1 m) : Scr M M1 m := scr_of h.1 (fun b q => by unfold scC; omega) (fun j hj => h.2 j (fun e => hj (by unfold scF; omega)) (fun e => hj (by unfold scF; omega)) (fun e => hj (by unfold scF; omega)) (fun e => hj (by unfold scF; omega)))
theorem RdN.eq {S : Nat → Prop} {M M1 : Mm} {m : Nat} (h : RdN S M M1 m) (hs : ∀ b, S b → b = m + 4 ∨ b = m + 5) : EqN M M1 m := ⟨h.1.weaken (fun b q => q.elim Or.inl (fun q => Or.inr (hs b q))), fun j a b c _ => h.2 j a b c⟩
theorem getD_appW {ws : List (List Nat)} {u : List Nat} {j : Nat} (h : j < ws.length + 1) : (ws ++ [u]).getD j [] = if j < ws.length then ws.getD j [] else u := by
  rw [List.getD_eq_getElem?_getD]
  by_cases q : j < ws.length
  · rw [if_pos q, List.getElem?_append_left q, ← List.getD_eq_getElem?_getD]
  · rw [if_neg q, show j = ws.length by omega, List.getElem?_append_right (by omega)]
    simp
theorem EqM.app {M M1 : Mm} {m : Nat} {ws : List (List Nat)} {w : List Nat} (h : EqM M m ws) (h24 : ∀ w ∈ ws, w.length ≤ 24) (h5 : gI M1 (m + 5) ws.length = nI w.length) (hA : AR M1 (m + 4) (24 * ws.length) w) (o5 : ∀ q, q < ws.length → gI M1 (m + 5) q = gI M (m + 5) q) (o4 : ∀ q, q < 24 * ws.length → gI M1 (m + 4) q = gI M (m + 4) q) : EqM M1 m (ws ++ [w]) := by
  intro q hq
  rw [List.length_append, List.length_singleton] at hq
  rw [getD_appW hq]
  by_cases z : q < ws.length
  · rw [if_pos z]
    have hw : (ws.getD q []).length ≤ 24 := by
      rw [List.getD_eq_getElem?_getD, List.getElem?_eq_getElem z]
      exact h24 _ (List.getElem_mem z)
    exact ⟨(o5 q z).trans (h q z).1, fun j hj => (o4 _ (by omega)).trans ((h q z).2 j hj)⟩
  · rw [if_neg z, show q = ws.length by omega]
    exact ⟨h5, hA⟩
section MC
variable {M : Mm} {m : Nat} {σ : Sg} {Q : Option Value → Mm → Prop} {tp : List Nat}
theorem prun_w {nm : Nm} {lc pt : Nat} {ws : List (List Nat)} (cur : List Nat) (i c : Nat) (t : List Nat) (hs : isSp c = false) (hlt : isLt c = true) : prun (nm, lc, ws, cur, pt + 1) i (c :: t) = match wlet (nm (c - 97)) 24 cur with | .inl n => .inl (n, i) | .inr cur' => prun (nm, lc, ws, cur', pt + 1) (i + 1) t := by
  rw [prun, if_neg (by rw [hs]; decide), pstep, if_pos hlt]
  cases wlet (nm (c - 97)) 24 cur <;> rfl
set_option maxHeartbeats 1000000 in
theorem k_readEqs {nm : Nm} {lc i0 : Nat} (h : TX M m tp i0 0 0) (hl : tp.length ≤ 600) (hc : ∀ c ∈ tp, c < 256) (hi0 : i0 ≤ tp.length) (hp : prun pst0 0 tp = prun (nm, lc, [], [], 1) i0 (tp.drop i0)) (hnm : NmV M (m + 2) nm) (nmb : ∀ j a, nm j = some a → a < 256)
    (hQ0 : ∀ n p i' M', prun pst0 0 tp = .inl (n, p) → 1 ≤ n → n ≤ 3 → TX M' m tp i' n p → Scr M M' m → Q none M')
    (hQ1 : ∀ ws i' M', prun pst0 0 tp = .inr (nm, lc, ws, [], 1) → ws.length % 2 = 0 → ws.length ≤ 80 → (∀ w ∈ ws, w.length ≤ 24) → EqM M' m ws → gI M' m 14 = nI (ws.length / 2) → TX M' m tp i' 0 0 → EqN M M' m → Q none M') : wp F_Md_readEquations 0 [.ref m, jk, jk] [] M Q := by
  have i1 : (1 : Int32) = nI 1 := rfl
  have j3 : (3 : Int32) = nI 3 := rfl
  have c2 : (2 : Int32) = nI 2 := rfl
  have c24 : (24 : Int32) = nI 24 := rfl
  have c40 : (40 : Int32) = nI 40 := rfl
  have c48 : (48 : Int32) = nI 48 := rfl
  have c59 : (59 : Int32) = nI 59 := rfl
  have c61 : (61 : Int32) = nI 61 := rfl
  have bad5 : ∀ n p i M' (l1 l2 : Value), prun pst0 0 tp = .inl (n, p) → 1 ≤ n → n ≤ 3 → TX M' m tp i n p → EqN M M' m → wp F_Md_readEquations 200 [.ref m, l1, l2] [] M' Q := by
    intro n p i M' l1 l2 hp n1 n3 T' F'
    obtain ⟨p1, p2⟩ := nI_npos n1 n3
    rw [G_Md_readEquations_200]
    simp only [B_Md_readEquations_5, B_Md_readEquations_203, T'.1.1, T'.2.2.2.2.1, p2, not_false_eq_true, ne_eq, if_true, if_false, true_and]
    exact hQ0 n p i M' hp n1 n3 T' F'.scr
  have bad102 : ∀ n p i M' (l1 l2 : Value), prun pst0 0 tp = .inl (n, p) → 1 ≤ n → n ≤ 3 → TX M' m tp i n p → EqN M M' m → wp F_Md_readEquations 102 [.ref m, l1, l2] [] M' Q := by
    intro n p i M' l1 l2 hp n1 n3 T' F'
    obtain ⟨p1, p2⟩ := nI_npos n1 n3
    obtain ⟨T2, R2⟩ := T'.at_ (S := fun _ => False) (j := i + 1)
    simp only [B_Md_readEquations_102, SS, T'.1.1, T'.2.2.2.1, T'.2.2.2.2.1, show ¬ (5 : Nat) = 3 by omega, and_false, p2, not_false_eq_true, ne_eq, if_true, if_false, true_and, nI_i1]
    exact bad5 n p (i + 1) _ _ _ hp n1 n3 T2 (F'.trans (R2.eq (fun b q => q.elim)))
  have bad190 : ∀ n p i M' (l1 l2 : Value), prun pst0 0 tp = .inl (n, p) → 1 ≤ n → n ≤ 3 → TX M' m tp i n p → EqN M M' m → wp F_Md_readEquations 190 [.ref m, l1, l2] [] M' Q := by
    intro n p i M' l1 l2 hp n1 n3 T' F'
    obtain ⟨T2, R2⟩ := T'.at_ (S := fun _ => False) (j := i + 1)
    simp only [B_Md_readEquations_190, SS, T'.1.1, T'.2.2.2.1, true_and, nI_i1]
    exact bad5 n p (i + 1) _ _ _ hp n1 n3 T2 (F'.trans (R2.eq (fun b q => q.elim)))
  have loop : ∀ d i ws M' (l1 l2 : Value), i + d = tp.length → prun pst0 0 tp = prun (nm, lc, ws, [], 1) i (tp.drop i) → ws.length % 2 = 0 → ws.length ≤ 80 → (∀ w ∈ ws, w.length ≤ 24) → EqM M' m ws → gI M' m 14 = nI (ws.length / 2) → TX M' m tp i 0 0 → EqN M M' m → wp F_Md_readEquations 5 [.ref m, l1, l2] [] M' Q := by
    intro d
    induction d using Nat.strongRecOn with
    | ind d ih =>
      intro i ws M' l1 l2 hi he hev h80 h24 E' g14 T' F'
      simp only [B_Md_readEquations_5, T'.1.1, T'.2.2.2.2.1, nI_0, not_true_eq_false, ne_eq, if_true, if_false, true_and]
      refine k_here (Y := prun (nm, lc, ws, [], 1)) (S := fun _ => False) (fun i c t hs => by rw [prun, if_pos hs]) hl hc d i M' hi T' ?_
      intro i2 M2 g1 g2 g3 g4 g5 T2 F2
      have he2 := he.trans g5
      have s2 := F'.trans (F2.eq (fun b q => q.elim))
      have E2 : EqM M2 m ws := fun q hq => ⟨(F2.cell (by omega) _).trans (E' q hq).1, (E' q hq).2.eq (fun j => F2.cell (by omega) j)⟩
      have g142 : gI M2 m 14 = nI (ws.length / 2) := (F2.2 _ (by omega) (by omega) (by omega)).trans g14
      simp only [SS, List.cons_append, List.nil_append, B_Md_readEquations_5, hvI_end hc]
      by_cases q : tp.length ≤ i2
      · rw [if_pos q]
        simp only [B_Md_readEquations_203]
        rw [List.drop_eq_nil_of_le q, prun] at he2
        exact hQ1 ws i2 M2 he2 hev h80 h24 E2 g142 T2 s2
      rw [if_neg q]
      -- the word before the '='
      obtain ⟨e, he40⟩ : ∃ e, ws.length = 2 * e := ⟨ws.length / 2, by omega⟩
      have hdiv : ws.length / 2 = e := by omega
      rw [hdiv] at g142
      have at37 : ∀ l1v, l1v ≤ 39 → (e = 40 ∨ l1v = e) → wp F_Md_readEquations 37 [.ref m, l1, l2] [.int (nI l1v)] M2 Q := by
        intro l1v h39 hor
        have S2 := T2.1
        simp only [B_Md_readEquations_37, SS, S2.1, S2.newNumber.1, S2.equation.1, true_and, c24, c48, pk_mul]
        refine k_readWord (X := fun cur i t => prun (nm, lc, ws, cur, 1) i t) (err := Sum.inl) (nm := nm) (tp := tp) (nd := 1920) (i0 := i2) (fun cur i c t hs => by show prun _ _ _ = _; rw [prun, if_pos hs]) (fun cur i c t hs hlt => prun_w cur i c t hs hlt) hl hc T2 (fun j hj => (s2.1.gI (by omega) j).trans (hnm j hj)) S2.newNumber.2 S2.equation.2 (by omega) (by omega) (by omega) (by omega) (by omega) (by omega) (by omega) nmb ?_ ?_
        · intro n p i' M3 v hw n1 n3 p6 i6 T3 F3 O3
          obtain ⟨p1, p2⟩ := nI_npos n1 n3
          simp only [SS, List.cons_append, List.nil_append, B_Md_readEquations_37, B_Md_readEquations_81, T3.1.1, T3.2.2.2.2.1, p2, not_false_eq_true, ne_eq, if_true, if_false, true_and]
          exact bad102 n p i' M3 _ _ (he2.trans hw) n1 n3 T3 (s2.trans (F3.eq (fun b q => Or.inl q)))
        · intro cur i3 M3 hw hcl hi23 hi3 hns hnil T3 F3 A3 O3
          have s3 := s2.trans (F3.eq (fun b q => Or.inl q))
          have he3 := he2.trans hw
          have g143 : gI M3 m 14 = nI e := (F3.2 _ (by omega) (by omega) (by omega)).trans g142
          simp only [SS, List.cons_append, List.nil_append, B_Md_readEquations_37, T3.1.1, T3.2.2.2.2.1, nI_0, not_true_eq_false, ne_eq, if_true, if_false, true_and]
          rw [k_here0 T3 hl hc hi3 (fun q => (hns q).1)]
          simp only [SS, List.cons_append, List.nil_append, B_Md_readEquations_37, c61, hvI_eq hc i3 61 (by omega)]
          have toBad : prun pst0 0 tp = .inl (1, i3) → wp F_Md_bad 0 [.ref m, .int 1] [] M3 (fun r M1 => wp F_Md_readEquations 102 [.ref m, .int (nI l1v), .int (nI cur.length)] (r.toList ++ []) M1 Q) := by
            intro hb
            rw [i1]
            refine k_bad (S := fun _ => False) T3 ?_
            intro M4 T4 F4
            simp only [SS, Option.toList_none, List.nil_append, B_Md_readEquations_37]
            exact bad102 1 i3 i3 M4 _ _ hb (by omega) (by omega) T4 (s3.trans (F4.eq (fun b q => q.elim)))
          by_cases q3 : i3 < tp.length
          case neg =>
            rw [if_neg (fun z => q3 z.1)]
            refine ⟨T3.1.1, toBad ?_⟩
            rw [List.drop_eq_nil_of_le (by omega)] at he3
            have hne : cur ≠ [] := fun z => by
              have := hnil z i2 (by omega) (by omega)
              rw [g4 (by omega)] at this
              cases this
            rw [he3]
            show prun (nm, lc, ws, cur, 1) i3 [] = _
            rw [prun, if_neg (fun z => hne z.2)]
          obtain ⟨n1', n2'⟩ := hns q3
          have he3 : prun pst0 0 tp = prun (nm, lc, ws, cur, 0 + 1) i3 (tp.drop i3) := he3
          rw [drop_getD q3, prun, if_neg (by rw [n1']; decide), pstep, if_neg (by rw [n2']; decide)] at he3
          by_cases q4 : tp.getD i3 0 = 61
          case neg =>
            rw [if_neg (fun z => q4 z.2)]
            refine ⟨T3.1.1, toBad ?_⟩
            rw [he3, if_neg (fun z => q4 z.2), if_neg (fun z => by omega)]
          rw [if_pos (show 0 = 0 ∧ tp.getD i3 0 = 61 from ⟨rfl, q4⟩)] at he3
          have q5 : i3 < tp.length ∧ tp.getD i3 0 = 61 := ⟨q3, q4⟩
          rw [if_pos q5]
          simp only [B_Md_readEquations_81, T3.1.1, T3.2.2.2.2.1, nI_0, not_true_eq_false, ne_eq, if_true, if_false, true_and, g143, c40, nI_eq (show e < 2 ^ 31 by omega) (show 40 < 2 ^ 31 by omega)]
          by_cases z : e = 40
          · simp only [z, not_true_eq_false, ne_eq, if_true, if_false, B_Md_readEquations_81, T3.1.1, true_and, j3]
            rw [if_pos (by omega)] at he3
            refine k_bad (S := fun _ => False) T3 ?_
            intro M4 T4 F4
            simp only [SS, Option.toList_none, List.nil_append, B_Md_readEquations_81]
            exact bad102 3 i3 i3 M4 _ _ he3 (by omega) (by omega) T4 (s3.trans (F4.eq (fun b q => q.elim)))
          rw [if_neg (by omega)] at he3
          have hle : l1v = e := hor.resolve_left z
          subst hle
          simp only [z, not_false_eq_true, ne_eq, if_true, if_false]
          obtain ⟨T4, R4⟩ := T3.at_ (S := fun _ => False) (j := i3 + 1)
          have s4 := s3.trans (R4.eq (fun b q => q.elim))
          have A4 : AR (sI M3 m 3 (nI (i3 + 1))) (m + 4) (48 * l1v) cur := A3.eq (fun j => R4.cell (by omega) j)
          have O4 : ∀ j, j < 48 * l1v ∨ 48 * l1v + 24 ≤ j → gI (sI M3 m 3 (nI (i3 + 1))) (m + 4) j = gI M2 (m + 4) j := fun j hj => (R4.cell (by omega) j).trans (O3 j hj)
          have O45 : ∀ j, gI (sI M3 m 3 (nI (i3 + 1))) (m + 5) j = gI M2 (m + 5) j := fun j => (R4.cell (by omega) j).trans (F3.1.gI (by omega) j)
          have g144 : gI (sI M3 m 3 (nI (i3 + 1))) m 14 = nI l1v := (R4.2 _ (by omega) (by omega) (by omega)).trans g143
          have xw3 : ixW (sI M3 m 3 (nI (i3 + 1))) (m + 5) (nI (2 * l1v)) := ixW_of T4.1.equationSize.2 (by omega) (by omega)
          have S3 := T3.1
          simp only [B_Md_readEquations_102, SS, S3.1, T3.2.2.2.1, T3.2.2.2.2.1, show ¬ (5 : Nat) = 3 by omega, and_false, nI_0, not_true_eq_false, ne_eq, if_true, if_false, true_and, S3.equationSize.1, S3.newNumber.1, S3.equation.1, c2, c24, c48, pk_mul, nI_add, nI_i1, xw3, cl_nI (show 2 * l1v < 2147483648 by omega)]
          generalize sI M3 m 3 (nI (i3 + 1)) = M4 at T4 s4 A4 O4 O45 g144
          have S4 := T4.1
          have n5 : ¬ m = m + 5 := by omega
          have F5 : FrS (fun b => b = m + 5) M4 (sI M4 (m + 5) (2 * l1v) (nI cur.length)) := FrS.sI rfl
          have T5 : TX (sI M4 (m + 5) (2 * l1v) (nI cur.length)) m tp (i3 + 1) 0 0 := T4.fr F5 (by omega) (by omega)
          have s5 : EqN M (sI M4 (m + 5) (2 * l1v) (nI cur.length)) m := s4.trans ⟨F5.weaken (fun b q => Or.inr (Or.inr q)), fun j _ _ _ _ => F5.gI (by omega) j⟩
          have E5 : EqM (sI M4 (m + 5) (2 * l1v) (nI cur.length)) m (ws ++ [cur]) := by
            refine E2.app h24 (by rw [he40, gI_sI, if_pos ⟨rfl, rfl⟩]) (fun j hj => ?_) (fun j hj => ?_) (fun j hj => ?_)
            · rw [F5.gI (by omega), he40, show 24 * (2 * l1v) + j = 48 * l1v + j by omega]; exact A4 j hj
            · rw [gI_sI, if_neg (fun z => by omega)]; exact O45 j
            · rw [F5.gI (by omega)]; exact O4 j (by omega)
          have g145 : gI (sI M4 (m + 5) (2 * l1v) (nI cur.length)) m 14 = nI l1v := (F5.gI (by omega) _).trans g144
          generalize sI M4 (m + 5) (2 * l1v) (nI cur.length) = M5 at T5 s5 E5 g145
          have S5 := T5.1
          refine k_readWord (X := fun cur2 i t => prun (nm, lc, ws ++ [cur], cur2, 2) i t) (err := Sum.inl) (nm := nm) (tp := tp) (nd := 1920) (i0 := i3 + 1) (fun cur i c t hs => by show prun _ _ _ = _; rw [prun, if_pos hs]) (fun cur i c t hs hlt => prun_w cur i c t hs hlt) hl hc T5 (fun j hj => (s5.1.gI (by omega) j).trans (hnm j hj)) S5.newNumber.2 S5.equation.2 (by omega) (by omega) (by omega) (by omega) (by omega) (by omega) (by omega) nmb ?_ ?_
          · intro n p i' M6 v hw n1 n3 p6 i6 T6 F6 O6
            obtain ⟨p1, p2⟩ := nI_npos n1 n3
            have S6 := T6.1
            have xw : ixW M6 (m + 5) (nI (2 * l1v + 1)) := ixW_of S6.equationSize.2 (by omega) (by omega)
            have g146 : gI M6 m 14 = nI l1v := (F6.2 _ (by omega) (by omega) (by omega)).trans g145
            have F7 : FrS (fun b => b = m ∨ b = m + 5) M6 (sI (sI M6 (m + 5) (2 * l1v + 1) v) m 14 (nI (l1v + 1))) := (FrS.sI (Or.inr rfl)).trans (FrS.sI (Or.inl rfl))
            have gm7 : ∀ j, j ≠ 14 → gI (sI (sI M6 (m + 5) (2 * l1v + 1) v) m 14 (nI (l1v + 1))) m j = gI M6 m j := fun j hj => by
              rw [gI_sI, if_neg (by omega), gI_sI, if_neg (by omega)]
            have T7 : TX (sI (sI M6 (m + 5) (2 * l1v + 1) v) m 14 (nI (l1v + 1))) m tp i' n p := ⟨S6.fr F7, T6.2.1.fr F7 (by omega), (gm7 _ (by omega)).trans T6.2.2.1, (gm7 _ (by omega)).trans T6.2.2.2.1, (gm7 _ (by omega)).trans T6.2.2.2.2.1, (gm7 _ (by omega)).trans T6.2.2.2.2.2⟩
            simp only [SS, List.cons_append, List.nil_append, B_Md_readEquations_102, B_Md_readEquations_102_1, xw, cl_nI (show 2 * l1v + 1 < 2147483648 by omega), S6.1, n5, false_and, and_false, show ¬ (5 : Nat) = 14 by omega, g146, T6.2.2.2.2.1, p2, not_false_eq_true, ne_eq, if_true, if_false, true_and, nI_i1]
            exact bad190 n p i' _ _ _ (he3.trans hw) n1 n3 T7 ((s5.trans (F6.eq (fun b q => Or.inl q))).trans ⟨F7.weaken (fun b q => by omega), fun j _ _ _ h14 => gm7 j h14⟩)
          · intro cur2 i4 M6 hw hcl2 hi34 hi4 hns2 hnil2 T6 F6 A6 O6
            have S6 := T6.1
            have xw : ixW M6 (m + 5) (nI (2 * l1v + 1)) := ixW_of S6.equationSize.2 (by omega) (by omega)
            have g146 : gI M6 m 14 = nI l1v := (F6.2 _ (by omega) (by omega) (by omega)).trans g145
            have F7 : FrS (fun b => b = m ∨ b = m + 5) M6 (sI (sI M6 (m + 5) (2 * l1v + 1) (nI cur2.length)) m 14 (nI (l1v + 1))) := (FrS.sI (Or.inr rfl)).trans (FrS.sI (Or.inl rfl))
            have gm7 : ∀ j, j ≠ 14 → gI (sI (sI M6 (m + 5) (2 * l1v + 1) (nI cur2.length)) m 14 (nI (l1v + 1))) m j = gI M6 m j := fun j hj => by
              rw [gI_sI, if_neg (by omega), gI_sI, if_neg (by omega)]
            have T7 : TX (sI (sI M6 (m + 5) (2 * l1v + 1) (nI cur2.length)) m 14 (nI (l1v + 1))) m tp i4 0 0 := ⟨S6.fr F7, T6.2.1.fr F7 (by omega), (gm7 _ (by omega)).trans T6.2.2.1, (gm7 _ (by omega)).trans T6.2.2.2.1, (gm7 _ (by omega)).trans T6.2.2.2.2.1, (gm7 _ (by omega)).trans T6.2.2.2.2.2⟩
            have s7 : EqN M (sI (sI M6 (m + 5) (2 * l1v + 1) (nI cur2.length)) m 14 (nI (l1v + 1))) m := (s5.trans (F6.eq (fun b q => Or.inl q))).trans ⟨F7.weaken (fun b q => by omega), fun j _ _ _ h14 => gm7 j h14⟩
            have hw1 : (ws ++ [cur]).length = 2 * l1v + 1 := by simp [he40]
            have E7 : EqM (sI (sI M6 (m + 5) (2 * l1v + 1) (nI cur2.length)) m 14 (nI (l1v + 1))) m (ws ++ [cur] ++ [cur2]) := by
              refine E5.app (fun w hw => ?_) (by rw [hw1, gI_sI, if_neg (by omega), gI_sI, if_pos ⟨rfl, rfl⟩]) (fun j hj => ?_) (fun j hj => ?_) (fun j hj => ?_)
              · rcases List.mem_append.mp hw with hw | hw
                · exact h24 w hw
                · rw [List.mem_singleton.mp hw]; exact hcl
              · rw [F7.gI (by omega), hw1, show 24 * (2 * l1v + 1) + j = 48 * l1v + 24 + j by omega]; exact A6 j hj
              · rw [gI_sI, if_neg (fun z => by omega), gI_sI, if_neg (fun z => by omega)]; exact F6.1.gI (by omega) j
              · rw [F7.gI (by omega)]; exact O6 j (by omega)
            have g147 : gI (sI (sI M6 (m + 5) (2 * l1v + 1) (nI cur2.length)) m 14 (nI (l1v + 1))) m 14 = nI (l1v + 1) := by simp [SS]
            simp only [SS, List.cons_append, List.nil_append, B_Md_readEquations_102, B_Md_readEquations_102_1, xw, cl_nI (show 2 * l1v + 1 < 2147483648 by omega), S6.1, n5, false_and, and_false, show ¬ (5 : Nat) = 14 by omega, g146, T6.2.2.2.2.1, nI_0, not_true_eq_false, ne_eq, if_true, if_false, true_and, nI_i1]
            generalize sI (sI M6 (m + 5) (2 * l1v + 1) (nI cur2.length)) m 14 (nI (l1v + 1)) = M7 at T7 s7 E7 g147
            have he4 : prun pst0 0 tp = prun (nm, lc, ws ++ [cur], cur2, 1 + 1) i4 (tp.drop i4) := he3.trans hw
            rw [k_here0 T7 hl hc hi4 (fun q => (hns2 q).1)]
            simp only [SS, List.cons_append, List.nil_append, B_Md_readEquations_102_1, c59, hvI_eq hc i4 59 (by omega)]
            have toBad : prun pst0 0 tp = .inl (1, i4) → wp F_Md_bad 0 [.ref m, .int 1] [] M7 (fun r M1 => wp F_Md_readEquations 190 [.ref m, .int (nI l1v), .int (nI cur.length)] (r.toList ++ []) M1 Q) := by
              intro hb
              rw [i1]
              refine k_bad (S := fun _ => False) T7 ?_
              intro M8 T8 F8
              simp only [SS, Option.toList_none, List.nil_append, B_Md_readEquations_102_1]
              exact bad190 1 i4 i4 M8 _ _ hb (by omega) (by omega) T8 (s7.trans (F8.eq (fun b q => q.elim)))
            by_cases q6 : i4 < tp.length
            case neg =>
              rw [if_neg (fun z => q6 z.1)]
              refine ⟨T7.1.1, toBad ?_⟩
              rw [he4, List.drop_eq_nil_of_le (by omega), prun]
              rfl
            obtain ⟨n1'', n2''⟩ := hns2 q6
            rw [drop_getD q6, prun, if_neg (by rw [n1'']; decide), pstep, if_neg (by rw [n2'']; decide), if_neg (by omega)] at he4
            by_cases q7 : tp.getD i4 0 = 59
            case neg =>
              rw [if_neg (fun z => q7 z.2)]
              refine ⟨T7.1.1, toBad ?_⟩
              rw [he4, if_neg (fun z => q7 z.2)]
            rw [if_pos (show 1 = 1 ∧ tp.getD i4 0 = 59 from ⟨rfl, q7⟩)] at he4
            have q8 : i4 < tp.length ∧ tp.getD i4 0 = 59 := ⟨q6, q7⟩
            rw [if_pos q8]
            obtain ⟨T8, R8⟩ := T7.at_ (S := fun _ => False) (j := i4 + 1)
            simp only [B_Md_readEquations_190, SS, T7.1.1, T7.2.2.2.1, true_and, nI_i1]
            rw [G_Md_readEquations_200]
            have hln : (ws ++ [cur] ++ [cur2]).length = 2 * l1v + 2 := by simp [he40]
            refine ih (tp.length - (i4 + 1)) (by omega) (i4 + 1) (ws ++ [cur] ++ [cur2]) _ _ _ (by omega) he4 (by omega) (by omega) (fun w hw => ?_) (fun q hq => ⟨(R8.cell (by omega) _).trans (E7 q hq).1, (E7 q hq).2.eq (fun j => R8.cell (by omega) j)⟩) ?_ T8 (s7.trans (R8.eq (fun b q => q.elim)))
            · rcases List.mem_append.mp hw with hw | hw
              · rcases List.mem_append.mp hw with hw | hw
                · exact h24 w hw
                · rw [List.mem_singleton.mp hw]; exact hcl
              · rw [List.mem_singleton.mp hw]; exact hcl2
            · rw [hln, show (2 * l1v + 2) / 2 = l1v + 1 by omega]
              exact (R8.2 _ (by omega) (by omega) (by omega)).trans g147
      simp only [B_Md_readEquations_5, T2.1.1, g142, true_and, c40, nI_eq (show e < 2 ^ 31 by omega) (show 40 < 2 ^ 31 by omega)]
      by_cases z : e = 40
      · simp only [z, not_true_eq_false, ne_eq, if_true, if_false, B_Md_readEquations_5, ← nI_0]
        exact at37 0 (by omega) (Or.inl z)
      · simp only [z, not_false_eq_true, ne_eq, if_true, if_false, B_Md_readEquations_33, T2.1.1, g142, true_and]
        exact at37 e (by omega) (Or.inr rfl)
  have F0 : FrS (fun b => b = m) M (sI M m 14 0) := FrS.sI rfl
  have T0 : TX (sI M m 14 0) m tp i0 0 0 := h.num F0 (fun j hj => by rw [gI_sI, if_neg (by omega)])
  simp only [B_Md_readEquations_0, SS, h.1.1, true_and]
  exact loop (tp.length - i0) i0 [] _ _ _ (by omega) hp rfl (by simp) (fun w hw => by simp at hw) (fun q hq => by simp at hq) (by simp [SS, nI_0]) T0 ⟨F0.weaken (fun b q => Or.inl q), fun j _ _ _ h14 => by rw [gI_sI, if_neg (by omega)]⟩
end MC
