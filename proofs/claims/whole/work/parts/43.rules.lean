theorem i10 : ¬ (1 : Int32) = 0 := by decide
/-! all RULES: the cell z, its row z + 1, RULE i at z + 2 + 5 i -/
abbrev dR : Ru := ([], [], false)
def RUS (M : Mm) (z : Nat) : Prop := sh M z = some (.inl 9) ∧ gR M z 0 = some (z + 1) ∧ sh M (z + 1) = some (.inr (11, 200)) ∧ ∀ i, i < 200 → gR M (z + 1) i = some (z + 2 + 5 * i) ∧ RS M (z + 2 + 5 * i)
def RUV (M : Mm) (z : Nat) (rs : List Ru) : Prop := gI M z 1 = nI rs.length ∧ rs.length ≤ 200 ∧ ∀ i, i < rs.length → RV M (z + 2 + 5 * i) (rs.getD i dR)
abbrev ruS (z : Nat) : Nat → Prop := fun b => z ≤ b ∧ b < z + 1002
theorem RUS.fr {M M1 : Mm} {S : Nat → Prop} {z : Nat} (h : RUS M z) (hf : FrS S M M1) : RUS M1 z := ⟨(hf.sh _).trans h.1, (hf.gR _ _).trans h.2.1, (hf.sh _).trans h.2.2.1, fun i hi => ⟨(hf.gR _ _).trans (h.2.2.2 i hi).1, (h.2.2.2 i hi).2.fr hf⟩⟩
theorem RUV.fr {M M1 : Mm} {S : Nat → Prop} {z : Nat} {rs : List Ru} (h : RUV M z rs) (hf : FrS S M M1) (hs : ∀ b, ruS z b → ¬ S b) : RUV M1 z rs := ⟨(hf.gI (hs _ ⟨by omega, by omega⟩) _).trans h.1, h.2.1, fun i hi => (h.2.2 i hi).fr hf (fun b b1 b2 => hs b ⟨by omega, by have := h.2.1; omega⟩)⟩
def hasR (rs : List Ru) (i : Int32) : Bool := decide (0 ≤ i.toInt ∧ i.toInt < rs.length)
theorem hasR_in {rs : List Ru} {j : Nat} (hj : j < rs.length) (h : rs.length ≤ 200) : hasR rs (nI j) = true := by
  unfold hasR
  rw [nI_toInt (show j < 2 ^ 31 by omega)]
  exact decide_eq_true ⟨by omega, by omega⟩
theorem hasR_neg {rs : List Ru} {i : Int32} (h : i < 0) : hasR rs i = false := by
  have := Int32.lt_iff_toInt_lt.mp h
  have e : (0 : Int32).toInt = 0 := rfl
  exact decide_eq_false (fun q => by omega)
theorem hasR_big {rs : List Ru} {i : Int32} (h : nI rs.length ≤ i) (h2 : rs.length ≤ 200) : hasR rs i = false := by
  have := Int32.le_iff_toInt_le.mp h
  rw [nI_toInt (show rs.length < 2 ^ 31 by omega)] at this
  exact decide_eq_false (fun q => by omega)
theorem big_pos {n : Nat} {i : Int32} (h : nI n ≤ i) (hn : n < 2147483648) : ¬ i < 0 := by
  intro q
  have := Int32.lt_iff_toInt_lt.mp q
  have h2 := Int32.le_iff_toInt_le.mp h
  rw [nI_toInt (show n < 2 ^ 31 by omega)] at h2
  have e : (0 : Int32).toInt = 0 := rfl
  omega
theorem k_has {M : Mm} {z : Nat} {rs : List Ru} {i : Int32} {Q : Option Value → Mm → Prop} (h : RUS M z) (v : RUV M z rs) : wp F_Rules_has 0 [.ref z, .int i] [] M Q = Q (some (.int (bI (hasR rs i)))) M := by
  have hl := v.2.1
  rcases pk_ix i (n := rs.length) (by omega) with hi | hi | ⟨j, hj, rfl⟩
  · simp only [B_Rules_has_0, B_Rules_has_16, B_Rules_has_17, hi, if_true, hasR_neg hi, bI, Bool.false_eq_true, if_false, true_or, true_and]
  · simp only [B_Rules_has_0, B_Rules_has_16, B_Rules_has_17, h.1, v.1, hi, big_pos hi (by omega), if_true, if_false, hasR_big hi hl, bI, Bool.false_eq_true, true_or, true_and]
  · have e1 : ¬ nI j < 0 := nI_pos (by omega)
    have e2 : ¬ nI rs.length ≤ nI j := nI_ge hj (by omega)
    simp only [B_Rules_has_0, B_Rules_has_17, h.1, v.1, e1, e2, if_false, hasR_in hj hl, bI, if_true, or_true, true_and]
theorem k_isLive {M : Mm} {z i : Nat} {rs : List Ru} {Q : Option Value → Mm → Prop} (h : RUS M z) (v : RUV M z rs) (hi : i < rs.length) : wp F_Rules_isLive 0 [.ref z, .int (nI i)] [] M Q = Q (some (.int (bI (rs.getD i dR).2.2))) M := by
  have hl := v.2.1
  obtain ⟨s1, s2⟩ := h.2.2.2 i (by omega)
  have e1 : ixR M (z + 1) (nI i) := ixR_of h.2.2.1 (by omega) (by omega) (by omega)
  simp only [B_Rules_isLive_0, h.1, true_and]
  rw [k_has h v, hasR_in hi hl]
  simp only [SS, List.cons_append, List.nil_append, bI, if_true, B_Rules_isLive_0, B_Rules_isLive_24, B_Rules_isLive_25, h.1, h.2.1, e1, cl_nI (show i < 2147483648 by omega), s1, s2.1, (v.2.2 i hi).2.2.1, true_and, true_or, or_true]
  cases (rs.getD i dR).2.2 <;> simp
def liveN (rs : List Ru) : Nat := (rs.filter (fun u => u.2.2)).length
theorem take_succ_getD {α : Type} {l : List α} {i : Nat} (d : α) (h : i < l.length) : l.take (i + 1) = l.take i ++ [l.getD i d] := by
  rw [List.take_succ, List.getElem?_eq_getElem h, List.getD_eq_getElem?_getD, List.getElem?_eq_getElem h]
  rfl
theorem k_liveOnes {M : Mm} {z : Nat} {rs : List Ru} {Q : Option Value → Mm → Prop} (h : RUS M z) (v : RUV M z rs) : wp F_Rules_liveOnes 0 [.ref z, jk, jk] [] M Q = Q (some (.int (nI (liveN rs)))) M := by
  have hl := v.2.1
  have loop : ∀ k i, i + k = rs.length → wp F_Rules_liveOnes 4 [.ref z, .int (nI (liveN (rs.take i))), .int (nI i)] [] M Q = Q (some (.int (nI (liveN rs)))) M := by
    intro k
    induction k with
    | zero =>
      intro i hi
      have e1 : nI rs.length ≤ nI i := nI_le (by omega) (by omega)
      simp only [B_Rules_liveOnes_4, B_Rules_liveOnes_38, h.1, v.1, e1, if_true, true_and, List.take_of_length_le (show rs.length ≤ i by omega)]
    | succ k ih =>
      intro i hi
      obtain ⟨s1, s2⟩ := h.2.2.2 i (by omega)
      have e1 : ¬ nI rs.length ≤ nI i := nI_ge (by omega) (by omega)
      have e2 : ixR M (z + 1) (nI i) := ixR_of h.2.2.1 (by omega) (by omega) (by omega)
      have e3 : liveN (rs.take (i + 1)) = liveN (rs.take i) + (if (rs.getD i dR).2.2 = true then 1 else 0) := by
        rw [take_succ_getD dR (by omega)]
        simp only [liveN, List.filter_append, List.length_append, List.filter_cons, List.filter_nil]
        split <;> rfl
      have := ih (i + 1) (by omega)
      rw [e3] at this
      simp only [B_Rules_liveOnes_4, B_Rules_liveOnes_29, B_Rules_liveOnes_30, SS, h.1, h.2.1, v.1, e1, e2, if_false, true_and, cl_nI (show i < 2147483648 by omega), s1, s2.1, (v.2.2 i (by omega)).2.2.1, nI_i1]
      cases hb : (rs.getD i dR).2.2 with
      | true =>
        rw [hb] at this
        simp only [bI, if_true, i10, if_false, nI_i1] at this ⊢
        rw [G_Rules_liveOnes_35]
        exact this
      | false =>
        rw [hb] at this
        simp only [bI, Bool.false_eq_true, if_false, if_true, Nat.add_zero, Int32.add_zero] at this ⊢
        rw [G_Rules_liveOnes_35]
        exact this
  simp only [B_Rules_liveOnes_0, SS]
  have := loop rs.length 0 (by omega)
  simpa [liveN, nI_0] using this
def lettersN (rs : List Ru) : Nat := (rs.map (fun u => if u.2.2 then u.1.length else 0)).sum
theorem k_lettersOfLefts {M : Mm} {z : Nat} {rs : List Ru} {Q : Option Value → Mm → Prop} (h : RUS M z) (v : RUV M z rs) : wp F_Rules_lettersOfLefts 0 [.ref z, jk, jk] [] M Q = Q (some (.int (nI (lettersN rs)))) M := by
  have hl := v.2.1
  have loop : ∀ k i, i + k = rs.length → wp F_Rules_lettersOfLefts 4 [.ref z, .int (nI (lettersN (rs.take i))), .int (nI i)] [] M Q = Q (some (.int (nI (lettersN rs)))) M := by
    intro k
    induction k with
    | zero =>
      intro i hi
      have e1 : nI rs.length ≤ nI i := nI_le (by omega) (by omega)
      simp only [B_Rules_lettersOfLefts_4, B_Rules_lettersOfLefts_49, h.1, v.1, e1, if_true, true_and, List.take_of_length_le (show rs.length ≤ i by omega)]
    | succ k ih =>
      intro i hi
      obtain ⟨s1, s2⟩ := h.2.2.2 i (by omega)
      have vi := v.2.2 i (by omega)
      have e1 : ¬ nI rs.length ≤ nI i := nI_ge (by omega) (by omega)
      have e2 : ixR M (z + 1) (nI i) := ixR_of h.2.2.1 (by omega) (by omega) (by omega)
      have e3 : lettersN (rs.take (i + 1)) = lettersN (rs.take i) + (if (rs.getD i dR).2.2 = true then (rs.getD i dR).1.length else 0) := by
        rw [take_succ_getD dR (by omega)]
        simp [lettersN]
      have := ih (i + 1) (by omega)
      rw [e3] at this
      simp only [B_Rules_lettersOfLefts_4, B_Rules_lettersOfLefts_40, B_Rules_lettersOfLefts_41, SS, h.1, h.2.1, v.1, e1, e2, if_false, true_and, cl_nI (show i < 2147483648 by omega), s1, s2.1, s2.2.1, s2.2.2.2.1.1, vi.2.2.1, vi.1.1, nI_i1]
      cases hb : (rs.getD i dR).2.2 with
      | true =>
        rw [hb] at this
        simp only [bI, if_true, i10, if_false, nI_add] at this ⊢
        rw [G_Rules_lettersOfLefts_46]
        exact this
      | false =>
        rw [hb] at this
        simp only [bI, Bool.false_eq_true, if_false, if_true, Nat.add_zero, Int32.add_zero] at this ⊢
        rw [G_Rules_lettersOfLefts_46]
        exact this
  simp only [B_Rules_lettersOfLefts_0, SS]
  have := loop rs.length 0 (by omega)
  simpa [lettersN, nI_0] using this
theorem k_Rules_begin {M : Mm} {z : Nat} {k : Int32} {Q : Option Value → Mm → Prop} (h : RUS M z) (hQ : ∀ M', FrS (ruS z) M M' → RUV M' z [] → gI M' z 2 = k → gI M' z 3 = 1 → Q none M') : wp F_Rules_begin 0 [.ref z, .int k] [] M Q := by
  simp only [B_Rules_begin_0, SS, h.1, true_and, true_or, or_true]
  have f : ∀ {j : Nat} {x : Int32} {N : Mm}, FrS (ruS z) N (sI N z j x) := FrS.sI ⟨by omega, by omega⟩
  refine hQ _ ((f.trans f).trans f) ⟨?_, by simp, fun i hi => by simp at hi⟩ ?_ ?_
  · simp [SS, nI_0]
  · simp [SS]
  · simp [SS]
theorem getD_set {rs : List Ru} {i j : Nat} {u : Ru} (hi : i < rs.length) : (rs.set i u).getD j dR = if j = i then u else rs.getD j dR := by
  rw [List.getD_eq_getElem?_getD, List.getElem?_set]
  by_cases e : i = j
  · subst e; simp [hi]
  · have e2 : ¬ j = i := fun q => e q.symm
    simp [e, e2]
theorem k_drop {M : Mm} {z i : Nat} {rs : List Ru} {Q : Option Value → Mm → Prop} (h : RUS M z) (v : RUV M z rs) (hi : i < rs.length) (hQ : ∀ M', FrS (fun b => b = z ∨ b = z + 2 + 5 * i) M M' → RUV M' z (rs.set i ((rs.getD i dR).1, (rs.getD i dR).2.1, false)) → gI M' z 2 = gI M z 2 → gI M' z 3 = 1 → Q none M') : wp F_Rules_drop 0 [.ref z, .int (nI i)] [] M Q := by
  have hl := v.2.1
  obtain ⟨s1, s2⟩ := h.2.2.2 i (by omega)
  have e1 : ixR M (z + 1) (nI i) := ixR_of h.2.2.1 (by omega) (by omega) (by omega)
  simp only [B_Rules_drop_0, h.1, true_and]
  rw [k_has h v, hasR_in hi hl]
  simp only [SS, List.cons_append, List.nil_append, bI, if_true, B_Rules_drop_0, B_Rules_drop_23, h.1, h.2.1, e1, cl_nI (show i < 2147483648 by omega), s1, s2.1, true_and, true_or, or_true, i10, if_false]
  have n1 : ¬ z = z + 2 + 5 * i := by omega
  have n2 : ¬ z + 2 + 5 * i = z := by omega
  have f1 : FrS (fun b => b = z ∨ b = z + 2 + 5 * i) M (sI M (z + 2 + 5 * i) 2 0) := FrS.sI (Or.inr rfl)
  have f2 : FrS (fun b => b = z ∨ b = z + 2 + 5 * i) M (sI (sI M (z + 2 + 5 * i) 2 0) z 3 1) := f1.trans (FrS.sI (Or.inl rfl))
  refine hQ _ f2 ⟨?_, by rw [List.length_set]; exact hl, fun j hj => ?_⟩ ?_ ?_
  · simp [SS, n1, v.1]
  · rw [List.length_set] at hj
    rw [getD_set hi]
    have vj := v.2.2 j hj
    by_cases e : j = i
    · subst e
      rw [if_pos rfl]
      refine ⟨vj.1.fr f2 (by omega) (by omega), vj.2.1.fr f2 (by omega) (by omega), ?_, vj.2.2.2⟩
      simp [SS, n2, bI]
    · rw [if_neg e]
      exact vj.fr f2 (fun b b1 b2 q => by omega)
  · simp [SS, n1]
  · simp [SS]
