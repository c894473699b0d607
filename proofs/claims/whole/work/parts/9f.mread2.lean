/-! the reference reads a system -/
section MC
variable {M : Mm} {m : Nat} {σ : Sg} {Q : Option Value → Mm → Prop} {tp : List Nat} {S : Nat → Prop}
theorem TX.fr {M M1 : Mm} {i n p : Nat} (h : TX M m tp i n p) (hf : FrS S M M1) (h0 : ¬ S m) (h1 : ¬ S (m + 1)) : TX M1 m tp i n p := ⟨h.1.fr hf, h.2.1.fr hf h1, (hf.gI h0 _).trans h.2.2.1, (hf.gI h0 _).trans h.2.2.2.1, (hf.gI h0 _).trans h.2.2.2.2.1, (hf.gI h0 _).trans h.2.2.2.2.2⟩
theorem TX.num {M M1 : Mm} {i n p : Nat} (h : TX M m tp i n p) (hf : FrS (fun b => b = m) M M1) (hg : ∀ j, (3 ≤ j ∧ j ≤ 6) → gI M1 m j = gI M m j) : TX M1 m tp i n p := ⟨h.1.fr hf, h.2.1.fr hf (by omega), (hg _ (by omega)).trans h.2.2.1, (hg _ (by omega)).trans h.2.2.2.1, (hg _ (by omega)).trans h.2.2.2.2.1, (hg _ (by omega)).trans h.2.2.2.2.2⟩
theorem RdN.cell {M M1 : Mm} (h : RdN (fun _ => False) M M1 m) {b : Nat} (hb : b ≠ m) (j : Nat) : gI M1 b j = gI M b j := h.1.gI (fun q => q.elim hb id) j
theorem hvI_eq {tp : List Nat} (hc : ∀ c ∈ tp, c < 256) (i k : Nat) (hk : k < 256) : (hvI tp i = nI k) = (i < tp.length ∧ tp.getD i 0 = k) := by
  unfold hvI
  by_cases q : i < tp.length
  · rw [if_pos q]
    have := getD_lt256 hc i
    exact propext ⟨fun z => ⟨q, (nI_eq (by omega) (by omega)).mp z⟩, fun z => by rw [z.2]⟩
  · rw [if_neg q]
    exact propext ⟨fun z => absurd z.symm (nI_ne1 (by omega)), fun z => absurd z.1 q⟩
set_option maxHeartbeats 1000000 in
theorem k_readLetters (h : TX M m tp 0 0 0) (hl : tp.length ≤ 600) (hc : ∀ c ∈ tp, c < 256)
    (hQ0 : ∀ n p i' M', prun pst0 0 tp = .inl (n, p) → 1 ≤ n → n ≤ 3 → TX M' m tp i' n p → Scr M M' m → Q none M')
    (hQ1 : ∀ nm lc i' M', prun pst0 0 tp = prun (nm, lc, [], [], 1) i' (tp.drop i') → i' ≤ tp.length → TX M' m tp i' 0 0 → NmV M' (m + 2) nm → gI M' m 10 = nI lc → lc ≤ 8 → (∀ j a, nm j = some a → a < lc) → Scr M M' m → Q none M') : wp F_Md_readLetters 0 [.ref m, jk] [] M Q := by
  have i1 : (1 : Int32) = nI 1 := rfl
  have i2 : (2 : Int32) = nI 2 := rfl
  have i3 : (3 : Int32) = nI 3 := rfl
  have c8 : (8 : Int32) = nI 8 := rfl
  have c26 : (26 : Int32) = nI 26 := rfl
  have c59 : (59 : Int32) = nI 59 := rfl
  have c97 : (97 : Int32) = nI 97 := rfl
  have bad : ∀ n p i M' (l1 : Value), prun pst0 0 tp = .inl (n, p) → 1 ≤ n → n ≤ 3 → TX M' m tp i n p → Scr M M' m → wp F_Md_readLetters 147 [.ref m, l1] [] M' Q := by
    intro n p i M' l1 hp n1 n3 T' F'
    simp only [B_Md_readLetters_147, T'.1.1, T'.2.2.2.1, true_and, nI_i1]
    obtain ⟨T2, R2⟩ := T'.at_ (S := fun _ => False) (j := i + 1)
    exact hQ0 n p (i + 1) _ hp n1 n3 T2 (F'.trans (R2.scr (fun b q => q.elim)))
  have bad26 : ∀ n p i M' (l1 : Value), prun pst0 0 tp = .inl (n, p) → 1 ≤ n → n ≤ 3 → TX M' m tp i n p → Scr M M' m → wp F_Md_readLetters 116 [.ref m, l1] [] M' Q := by
    intro n p i M' l1 hp n1 n3 T' F'
    obtain ⟨p1, p2⟩ := nI_npos n1 n3
    rw [G_Md_readLetters_116]
    simp only [B_Md_readLetters_26, B_Md_readLetters_119, T'.1.1, T'.2.2.2.2.1, p2, not_false_eq_true, ne_eq, if_true, if_false, true_and]
    exact bad n p i M' l1 hp n1 n3 T' F'
  have loop : ∀ d i nm lc M' (l1 : Value), i + d = tp.length → prun pst0 0 tp = prun (nm, lc, [], [], 0) i (tp.drop i) → lc ≤ 8 → (∀ j a, nm j = some a → a < lc) → TX M' m tp i 0 0 → NmV M' (m + 2) nm → gI M' m 10 = nI lc → Scr M M' m → wp F_Md_readLetters 26 [.ref m, l1] [] M' Q := by
    intro d
    induction d using Nat.strongRecOn with
    | ind d ih =>
      intro i nm lc M' l1 hi he hlc hnm T' N' g10 F'
      simp only [B_Md_readLetters_26, T'.1.1, T'.2.2.2.2.1, nI_0, not_true_eq_false, ne_eq, if_true, if_false, true_and]
      refine k_here (Y := prun (nm, lc, [], [], 0)) (S := fun _ => False) (fun i c t hs => by rw [prun, if_pos hs]) hl hc d i M' hi T' ?_
      intro i' M2 g1 g2 g3 g4 g5 T2 F2
      have he2 := he.trans g5
      have s2 := F'.trans (F2.scr (fun b q => q.elim))
      have N2 : NmV M2 (m + 2) nm := fun j hj => (F2.cell (by omega) j).trans (N' j hj)
      have g102 : gI M2 m 10 = nI lc := (F2.2 _ (by omega) (by omega) (by omega)).trans g10
      simp only [SS, List.cons_append, List.nil_append, B_Md_readLetters_26]
      rw [k_isLt hc]
      simp only [SS, List.cons_append, List.nil_append, B_Md_readLetters_26, bI_ne]
      cases hlt : (decide (i' < tp.length) && isLt (tp.getD i' 0)) with
      | false =>
        simp only [if_true, B_Md_readLetters_119, T2.1.1, T2.2.2.2.2.1, nI_0, not_true_eq_false, ne_eq, if_false, true_and]
        rw [k_here0 T2 hl hc g2 g4]
        simp only [SS, List.cons_append, List.nil_append, B_Md_readLetters_119, c59, hvI_eq hc i' 59 (by omega)]
        have toBad : prun pst0 0 tp = .inl (1, i') → wp F_Md_readLetters 142 [.ref m, l1] [] M2 Q := by
          intro hp
          simp only [B_Md_readLetters_142, T2.1.1, true_and, i1]
          refine k_bad (S := fun _ => False) T2 ?_
          intro M3 T3 F3
          simp only [SS, Option.toList_none, List.nil_append, B_Md_readLetters_142]
          exact bad 1 i' i' M3 _ hp (by omega) (by omega) T3 (s2.trans (F3.scr (fun b q => q.elim)))
        by_cases q : i' < tp.length
        · rw [decide_eq_true q, Bool.true_and] at hlt
          rw [drop_getD q, prun, if_neg (by rw [g4 q]; decide)] at he2
          by_cases q2 : tp.getD i' 0 = 59
          · have q3 : i' < tp.length ∧ tp.getD i' 0 = 59 := ⟨q, q2⟩
            rw [if_pos q3]
            simp only [B_Md_readLetters_119, T2.1.1, g102, true_and]
            by_cases z : lc = 0
            · subst z
              simp only [nI_0, not_true_eq_false, ne_eq, if_false, if_true]
              refine toBad ?_
              rw [he2, pstep, if_neg (by omega), if_pos hlt]
            · have nz : ¬ nI lc = 0 := fun y => z ((nI_eq (show lc < 2 ^ 31 by omega) (show 0 < 2 ^ 31 by omega)).mp y)
              simp only [nz, not_false_eq_true, ne_eq, if_true, if_false, B_Md_readLetters_147, T2.1.1, T2.2.2.2.1, true_and, nI_i1]
              obtain ⟨T3, R3⟩ := T2.at_ (S := fun _ => False) (j := i' + 1)
              refine hQ1 nm lc (i' + 1) _ ?_ (by omega) T3 (fun j hj => (R3.cell (by omega) j).trans (N2 j hj)) ((R3.2 _ (by omega) (by omega) (by omega)).trans g102) hlc hnm (s2.trans (R3.scr (fun b q => q.elim)))
              rw [he2, pstep, if_pos ⟨q2, by omega⟩]
          · rw [if_neg (fun z => q2 z.2)]
            refine toBad ?_
            rw [he2, pstep, if_neg (fun z => q2 z.1), if_pos hlt]
        · rw [if_neg (fun z => q z.1)]
          refine toBad ?_
          rw [he2, List.drop_eq_nil_of_le (by omega), prun]
          rfl
      | true =>
        have hlt2 : i' < tp.length ∧ isLt (tp.getD i' 0) = true := by simpa using hlt
        obtain ⟨y1, y2⟩ := hlt2
        have y3 := y2
        unfold isLt at y3
        have y3 := of_decide_eq_true y3
        have g4' := g4 y1
        simp only [Bool.true_eq_false, if_false, B_Md_readLetters_26, T2.1.1, true_and]
        rw [k_here0 T2 hl hc g2 g4]
        have hv : hvI tp i' = nI (tp.getD i' 0) := if_pos y1
        have S2 := T2.1
        have xn : ixI M2 (m + 2) (nI (tp.getD i' 0 - 97)) := ixI_of S2.newNumber.2 (by omega) (by omega)
        have xw : ixW M2 (m + 2) (nI (tp.getD i' 0 - 97)) := ixW_of S2.newNumber.2 (by omega) (by omega)
        have clc := cl_nI (show tp.getD i' 0 - 97 < 2147483648 by omega)
        have gn := N2 (tp.getD i' 0 - 97) (by omega)
        simp only [SS, List.cons_append, List.nil_append, B_Md_readLetters_26, hv, c97, pk_sub (show 97 ≤ tp.getD i' 0 by omega), S2.1, S2.newNumber.1, xn, clc, gn, true_and]
        rw [drop_getD y1, prun, if_neg (by rw [g4']; decide), pstep, if_neg (by omega), if_neg (by rw [y2]; decide)] at he2
        cases hno : nm (tp.getD i' 0 - 97) with
        | some a =>
          have ab := hnm _ _ hno
          rw [hno] at he2
          simp only [Option.isSome_some, if_true] at he2
          simp only [oI, nI_ne1 (show a < 2147483648 by omega), if_false, B_Md_readLetters_26, S2.1, true_and, i2]
          refine k_bad (S := fun _ => False) T2 ?_
          intro M3 T3 F3
          simp only [SS, Option.toList_none, List.nil_append, B_Md_readLetters_26]
          exact bad26 2 i' i' M3 _ he2 (by omega) (by omega) T3 (s2.trans (F3.scr (fun b q => q.elim)))
        | none =>
          rw [hno] at he2
          simp only [Option.isSome_none, Bool.false_eq_true, if_false] at he2
          simp only [oI, if_true, B_Md_readLetters_69, S2.1, g102, true_and, c8, nI_eq (show lc < 2 ^ 31 by omega) (show 8 < 2 ^ 31 by omega)]
          by_cases z : lc = 8
          · rw [if_pos (show 8 ≤ lc by omega)] at he2
            simp only [z, not_true_eq_false, ne_eq, if_true, if_false, B_Md_readLetters_69, S2.1, true_and, i3]
            refine k_bad (S := fun _ => False) T2 ?_
            intro M3 T3 F3
            simp only [SS, Option.toList_none, List.nil_append, B_Md_readLetters_69]
            exact bad26 3 i' i' M3 _ he2 (by omega) (by omega) T3 (s2.trans (F3.scr (fun b q => q.elim)))
          · rw [if_neg (show ¬ 8 ≤ lc by omega)] at he2
            have n2 : ¬ m = m + 2 := by omega
            simp only [z, not_false_eq_true, ne_eq, if_true, if_false, B_Md_readLetters_86, SS, S2.1, S2.newNumber.1, xw, clc, g102, T2.2.2.2.1, n2, false_and, true_and, show ¬ (3 : Nat) = 10 by omega, and_false, nI_i1]
            rw [G_Md_readLetters_116]
            have F3 : FrS (fun b => b = m + 2) M2 (sI M2 (m + 2) (tp.getD i' 0 - 97) (nI lc)) := FrS.sI rfl
            have T3 : TX (sI M2 (m + 2) (tp.getD i' 0 - 97) (nI lc)) m tp i' 0 0 := T2.fr F3 (by omega) (by omega)
            have N3 : NmV (sI M2 (m + 2) (tp.getD i' 0 - 97) (nI lc)) (m + 2) (upd1 nm (tp.getD i' 0 - 97) (some lc)) := fun j hj => by
              rw [gI_sI]
              by_cases e : j = tp.getD i' 0 - 97
              · rw [if_pos ⟨rfl, e⟩, e]
                simp [upd1, oI]
              · rw [if_neg (fun z => e z.2)]
                simp only [upd1, if_neg e]
                exact N2 j hj
            have s3 := s2.trans (scr_of F3 (fun b q => Or.inr (Or.inl q)) (fun j _ => F3.gI (by omega) j))
            generalize sI M2 (m + 2) (tp.getD i' 0 - 97) (nI lc) = M3 at T3 N3 s3
            have F4 : FrS (fun b => b = m) M3 (sI M3 m 10 (nI (lc + 1))) := FrS.sI rfl
            have T4 : TX (sI M3 m 10 (nI (lc + 1))) m tp i' 0 0 := T3.num F4 (fun j hj => by rw [gI_sI, if_neg (by omega)])
            have s4 := s3.trans (scr_0 (M := M3) (m := m) (v := nI (lc + 1)) (j := 10) (by unfold scF; omega))
            have g104 : gI (sI M3 m 10 (nI (lc + 1))) m 10 = nI (lc + 1) := by simp [SS]
            have N4 : NmV (sI M3 m 10 (nI (lc + 1))) (m + 2) (upd1 nm (tp.getD i' 0 - 97) (some lc)) := fun j hj => (F4.gI (by omega) j).trans (N3 j hj)
            generalize sI M3 m 10 (nI (lc + 1)) = M4 at T4 s4 g104 N4
            obtain ⟨T5, R5⟩ := T4.at_ (S := fun _ => False) (j := i' + 1)
            refine ih (tp.length - (i' + 1)) (by omega) (i' + 1) _ (lc + 1) _ _ (by omega) he2 (by omega) (fun j a q => ?_) T5 (fun j hj => (R5.cell (by omega) j).trans (N4 j hj)) ((R5.2 _ (by omega) (by omega) (by omega)).trans g104) (s4.trans (R5.scr (fun b q => q.elim)))
            simp only [upd1] at q
            split at q
            · have := Option.some.inj q; omega
            · have := hnm j a q; omega
  have F0 : FrS (fun b => b = m) M (sI M m 10 0) := FrS.sI rfl
  have T0 : TX (sI M m 10 0) m tp 0 0 0 := h.num F0 (fun j hj => by rw [gI_sI, if_neg (by omega)])
  have s0 : Scr M (sI M m 10 0) m := scr_0 (by unfold scF; omega)
  have g0 : gI (sI M m 10 0) m 10 = nI 0 := by simp [SS, nI_0]
  simp only [B_Md_readLetters_0, SS, h.1.1, true_and]
  generalize sI M m 10 0 = M0 at T0 s0 g0
  have init : ∀ d i M', i + d = 26 → FrS (fun b => b = m + 2) M0 M' → (∀ j, j < i → gI M' (m + 2) j = -1) → wp F_Md_readLetters 7 [.ref m, .int (nI i)] [] M' Q := by
    intro d
    induction d with
    | zero =>
      intro i M' hi F' hj
      have e1 : nI 26 ≤ nI i := nI_le (by omega) (by omega)
      simp only [B_Md_readLetters_7, c26, e1, if_true]
      exact loop tp.length 0 (fun _ => none) 0 M' _ (by omega) rfl (by omega) (fun j a q => by cases q) (T0.fr F' (by omega) (by omega)) (fun j hj' => hj j (by omega)) ((F'.gI (by omega) _).trans g0) (s0.trans (scr_of F' (fun b q => Or.inr (Or.inl q)) (fun j _ => F'.gI (by omega) j)))
    | succ d ih =>
      intro i M' hi F' hj
      have e1 : ¬ nI 26 ≤ nI i := nI_ge (by omega) (by omega)
      have S' := T0.1.fr F'
      have xw : ixW M' (m + 2) (nI i) := ixW_of S'.newNumber.2 (by omega) (by omega)
      simp only [B_Md_readLetters_7, SS, c26, e1, if_false, S'.1, S'.newNumber.1, xw, cl_nI (show i < 2147483648 by omega), true_and, nI_i1]
      rw [G_Md_readLetters_23]
      refine ih (i + 1) _ (by omega) (F'.trans (FrS.sI rfl)) (fun j hj' => ?_)
      rw [gI_sI]
      by_cases e : j = i
      · rw [if_pos ⟨rfl, e⟩]
      · rw [if_neg (fun z => e z.2)]; exact hj j (by omega)
  exact init 26 0 M0 (by omega) FrS.rfl (fun j hj => by omega)
end MC
