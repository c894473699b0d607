theorem take_snoc {l : List Nat} {f i : Nat} (hf : f ≤ i) (hi : i < l.length) : (l.drop f).take (i + 1 - f) = (l.drop f).take (i - f) ++ [l.getD i 0] := by
  rw [show i + 1 - f = (i - f) + 1 by omega, List.take_succ, List.getElem?_drop, show f + (i - f) = i by omega, List.getElem?_eq_getElem hi, List.getD_eq_getElem?_getD, List.getElem?_eq_getElem hi]
  rfl
theorem wv_push {M : Mm} {w c : Nat} {l : List Nat} (hv : WV M w l) (hc : c < 128) : FrS (wS w) M (sI (sI M (w + 1) l.length (nI c)) w 1 (nI (l.length + 1))) ∧ WV (sI (sI M (w + 1) l.length (nI c)) w 1 (nI (l.length + 1))) w (l ++ [c]) := by
  have n2 : ¬ w + 1 = w := by omega
  refine ⟨(FrS.sI (S := wS w) (Or.inr rfl)).trans (FrS.sI (Or.inl rfl)), ?_, fun j hj => ?_, fun d hd => ?_⟩
  · simp only [SS, and_self, if_true, List.length_append, List.length_cons, List.length_nil]
  · simp only [List.length_append, List.length_cons, List.length_nil] at hj
    simp only [SS, n2, false_and, if_false, true_and]
    rw [getD_app hj]
    by_cases q : j < l.length
    · rw [if_neg (by omega), if_pos q]
      exact hv.2.1 j q
    · rw [if_pos (by omega), if_neg q]
  · rcases List.mem_append.mp hd with q | q
    · exact hv.2.2 d q
    · rw [List.mem_singleton.mp q]; exact hc
theorem k_Word_append {M : Mm} {w v rw rv f t : Nat} {a l : List Nat} {Q : Option Value → Mm → Prop} (h : WS M w rw) (h2 : WS M v rv) (ha : WV M w a) (hl : WV M v l) (hne : v ≠ w) (hft : f ≤ t) (ht : t ≤ l.length) (hrv : l.length ≤ rv) (hr : a.length + (t - f) ≤ rw) (b1 : rw < 2147483648) (b2 : rv < 2147483648)
    (hQ : ∀ M', FrS (wS w) M M' → WV M' w (a ++ (l.drop f).take (t - f)) → Q none M') : wp F_Word_append 0 [.ref w, .ref v, .int (nI f), .int (nI t), jk] [] M Q := by
  obtain ⟨n1, n2⟩ := h.ne h2
  have loop : ∀ k i, i + k = t → f ≤ i → ∀ M', FrS (wS w) M M' → WV M' w (a ++ (l.drop f).take (i - f)) → wp F_Word_append 3 [.ref w, .ref v, .int (nI f), .int (nI t), .int (nI i)] [] M' Q := by
    intro k
    induction k with
    | zero =>
      intro i hi hfi M' hF hV
      have e1 : ¬ nI i < 0 := nI_pos (by omega)
      have e2 : nI t ≤ nI i := nI_le (by omega) (by omega)
      simp only [B_Word_append_3, B_Word_append_67, e1, e2, if_false, if_true]
      exact hQ M' hF (by rw [show t = i by omega]; exact hV)
    | succ k ih =>
      intro i hi hfi M' hF hV
      have hs := h.fr hF
      have hs2 := h2.fr hF
      have hl' := hl.fr hF (fun q => q.elim hne n1) (fun q => q.elim (fun z => n2 z.symm) (fun z => hne (by omega)))
      have hlen : (a ++ (l.drop f).take (i - f)).length = a.length + (i - f) := by simp; omega
      have e1 : ¬ nI i < 0 := nI_pos (by omega)
      have e2 : ¬ nI t ≤ nI i := nI_ge (by omega) (by omega)
      have e3 : ¬ nI l.length ≤ nI i := nI_ge (by omega) (by omega)
      have e4 : ¬ nI rw ≤ nI (a ++ (l.drop f).take (i - f)).length := nI_ge (by omega) (by omega)
      have e5 := byte_nI (getD_lt hl.2.2 (show i < l.length by omega))
      have e6 : ixB M' (v + 1) (nI i) := ixB_of hs2.2.2 (by omega) (by omega)
      have e7 : ∀ x K, bsW M' (w + 1) (nI (a ++ (l.drop f).take (i - f)).length) x K = K (sI M' (w + 1) (a ++ (l.drop f).take (i - f)).length (vp_nar .byte x)) := fun x K => bsW_b hs.2.2 (by omega) b1
      have e8 : cl (nI i) = i := cl_nI (by omega)
      have n3 : ¬ w = w + 1 := by omega
      simp only [B_Word_append_3, SS, hs.1, hs.2.1, hs.2.2, hs2.1, hs2.2.1, hl'.1, hl'.2.1 i (by omega), hV.1, e1, e2, e3, e4, e5.1, e6, e7, e8, n3, if_false, true_and, false_and, nI_i1]
      rw [G_Word_append_64]
      obtain ⟨p1, p2⟩ := wv_push hV (getD_lt hl.2.2 (show i < l.length by omega))
      refine ih (i + 1) (by omega) (by omega) _ (hF.trans p1) ?_
      rw [take_snoc hfi (by omega), ← List.append_assoc]
      exact p2
  simp only [B_Word_append_0, SS]
  refine loop (t - f) f (by omega) (Nat.le_refl _) M FrS.rfl ?_
  rw [Nat.sub_self]
  simpa using ha
/-- letter i of a word, -1 where there is none -/
def atW (l : List Nat) (i : Int32) : Int32 := if 0 ≤ i.toInt ∧ i.toInt < l.length then nI (l.getD i.toNatClampNeg 0) else -1
theorem atW_in {l : List Nat} {j : Nat} (hj : j < l.length) (hl : l.length < 2147483648) : atW l (nI j) = nI (l.getD j 0) := by
  unfold atW
  rw [nI_toInt (show j < 2 ^ 31 by omega), if_pos ⟨by omega, by omega⟩, nI_clamp (show j < 2 ^ 31 by omega)]
theorem atW_neg {l : List Nat} {i : Int32} (hi : i < 0) : atW l i = -1 := by
  unfold atW
  rw [if_neg]
  intro q
  have := Int32.lt_iff_toInt_lt.mp hi
  have e : (0 : Int32).toInt = 0 := rfl
  omega
theorem atW_big {l : List Nat} {i : Int32} (hi : nI l.length ≤ i) (hl : l.length < 2147483648) : atW l i = -1 := by
  unfold atW
  rw [if_neg]
  intro q
  have := Int32.le_iff_toInt_le.mp hi
  rw [nI_toInt (show l.length < 2 ^ 31 by omega)] at this
  omega
theorem k_Word_at {M : Mm} {w room : Nat} {l : List Nat} {i : Int32} {Q : Option Value → Mm → Prop} (h : WS M w room) (hv : WV M w l) (hl : l.length ≤ room) (hr : room < 2147483648) : wp F_Word_at 0 [.ref w, .int i] [] M Q = Q (some (.int (atW l i))) M := by
  rcases pk_ix i (n := l.length) (by omega) with hi | hi | ⟨j, hj, rfl⟩
  · simp only [B_Word_at_0, B_Word_at_21, B_Word_at_22, hi, if_true, atW_neg]
  · have e1 : ¬ i < 0 := by
      intro q
      have := Int32.lt_iff_toInt_lt.mp q
      have h2 := Int32.le_iff_toInt_le.mp hi
      rw [nI_toInt (show l.length < 2 ^ 31 by omega)] at h2
      have e : (0 : Int32).toInt = 0 := rfl
      omega
    simp only [B_Word_at_0, B_Word_at_21, B_Word_at_22, h.1, hv.1, hi, e1, if_true, if_false, true_and, atW_big hi (by omega)]
  · have e1 : ¬ nI j < 0 := nI_pos (by omega)
    have e2 : ¬ nI l.length ≤ nI j := nI_ge hj (by omega)
    have e3 : ixB M (w + 1) (nI j) := ixB_of h.2.2 (by omega) hr
    simp only [B_Word_at_0, B_Word_at_22, SS, h.1, h.2.1, hv.1, e1, e2, e3, if_false, true_and, cl_nI (show j < 2147483648 by omega), hv.2.1 j hj, atW_in hj (by omega)]
/-- which of two words is the greater -/
def lexc : List Nat → List Nat → Int32
  | a :: s, b :: t => if a = b then lexc s t else if b < a then 1 else -1
  | _, _ => 0
def cmpW (a b : List Nat) : Int32 := if a.length = b.length then lexc a b else if b.length < a.length then 1 else -1
theorem drop_getD {l : List Nat} {i : Nat} (h : i < l.length) : l.drop i = l.getD i 0 :: l.drop (i + 1) := by
  rw [List.drop_eq_getElem_cons h, List.getD_eq_getElem?_getD, List.getElem?_eq_getElem h]
  rfl
theorem k_Word_against {M : Mm} {w v rw rv : Nat} {a b : List Nat} {Q : Option Value → Mm → Prop} (h : WS M w rw) (h2 : WS M v rv) (ha : WV M w a) (hb : WV M v b) (hr : a.length ≤ rw) (hrv : b.length ≤ rv) (b1 : rw < 2147483648) (b2 : rv < 2147483648) :
    wp F_Word_against 0 [.ref w, .ref v, jk] [] M Q = Q (some (.int (cmpW a b))) M := by
  have loop : ∀ k i, i + k = a.length → a.length = b.length → wp F_Word_against 30 [.ref w, .ref v, .int (nI i)] [] M Q = Q (some (.int (lexc (a.drop i) (b.drop i)))) M := by
    intro k
    induction k with
    | zero =>
      intro i hi e
      have e1 : nI a.length ≤ nI i := nI_le (by omega) (by omega)
      have e2 : a.drop i = [] := List.drop_eq_nil_of_le (by omega)
      simp only [B_Word_against_30, B_Word_against_88, h.1, ha.1, e1, if_true, true_and, e2, lexc]
    | succ k ih =>
      intro i hi e
      have e1 : ¬ nI a.length ≤ nI i := nI_ge (by omega) (by omega)
      have e2 : ¬ nI b.length ≤ nI i := nI_ge (by omega) (by omega)
      have e3 : ixB M (w + 1) (nI i) := ixB_of h.2.2 (by omega) b1
      have e4 : ixB M (v + 1) (nI i) := ixB_of h2.2.2 (by omega) b2
      have g1 := getD_lt ha.2.2 (show i < a.length by omega)
      have g2 := getD_lt hb.2.2 (show i < b.length by omega)
      rw [drop_getD (show i < a.length by omega), drop_getD (show i < b.length by omega)]
      simp only [B_Word_against_30, B_Word_against_80, B_Word_against_81, B_Word_against_82, SS, h.1, h.2.1, h2.1, h2.2.1, ha.1, hb.1, e1, e2, e3, e4, if_false, true_and, cl_nI (show i < 2147483648 by omega), ha.2.1 i (by omega), hb.2.1 i (by omega), lexc, nI_i1, nI_eq (show a.getD i 0 < 2 ^ 31 by omega) (show b.getD i 0 < 2 ^ 31 by omega), nI_leI (show a.getD i 0 < 2 ^ 31 by omega) (show b.getD i 0 < 2 ^ 31 by omega)]
      by_cases q : a.getD i 0 = b.getD i 0
      · simp only [q, if_true]
        rw [G_Word_against_85]
        exact ih (i + 1) (by omega) e
      · simp only [q, if_false]
        by_cases z : a.getD i 0 ≤ b.getD i 0
        · rw [if_pos z, if_neg (by omega)]
        · rw [if_neg z, if_pos (by omega)]
  have q1 := nI_eq (show a.length < 2 ^ 31 by omega) (show b.length < 2 ^ 31 by omega)
  have q2 := nI_leI (show a.length < 2 ^ 31 by omega) (show b.length < 2 ^ 31 by omega)
  simp only [B_Word_against_0, B_Word_against_26, B_Word_against_27, B_Word_against_28, SS, h.1, h2.1, ha.1, hb.1, true_and, q1, q2]
  unfold cmpW
  by_cases e : a.length = b.length
  · rw [if_pos e, if_pos e]
    have := loop a.length 0 (by omega) e
    rw [nI_0] at this
    simpa using this
  · rw [if_neg e, if_neg e]
    by_cases z : a.length ≤ b.length
    · rw [if_pos z, if_neg (by omega)]
    · rw [if_neg z, if_pos (by omega)]
/-- whether b's first n letters stand in a from a place on -/
def mat (a : List Nat) (f : Nat) (b : List Nat) (n : Nat) : Bool := decide ((a.drop f).take n = b.take n)
def bI (b : Bool) : Int32 := if b then 1 else 0
theorem take_cons_eq {a b : List Nat} {i j n : Nat} (hi : i < a.length) (hj : j < b.length) : ((a.drop i).take (n + 1) = (b.drop j).take (n + 1)) ↔ (a.getD i 0 = b.getD j 0 ∧ (a.drop (i + 1)).take n = (b.drop (j + 1)).take n) := by
  rw [drop_getD hi, drop_getD hj, List.take_succ_cons, List.take_succ_cons, List.cons.injEq]
theorem k_Word_matches {M : Mm} {w v rw rv f n : Nat} {a b : List Nat} {Q : Option Value → Mm → Prop} (h : WS M w rw) (h2 : WS M v rv) (ha : WV M w a) (hb : WV M v b) (hr : a.length ≤ rw) (hrv : b.length ≤ rv) (b1 : rw < 1073741824) (b2 : rv < 1073741824) (hf : f + n ≤ a.length) (hn : n ≤ b.length) :
    wp F_Word_matches 0 [.ref w, .int (nI f), .ref v, .int (nI n), jk] [] M Q = Q (some (.int (bI (mat a f b n)))) M := by
  have loop : ∀ k i, i + k = n → wp F_Word_matches 27 [.ref w, .int (nI f), .ref v, .int (nI n), .int (nI i)] [] M Q = Q (some (.int (bI (decide ((a.drop (f + i)).take (n - i) = (b.drop i).take (n - i)))))) M := by
    intro k
    induction k with
    | zero =>
      intro i hi
      have e1 : nI n ≤ nI i := nI_le (by omega) (by omega)
      have e2 : n - i = 0 := by omega
      simp only [B_Word_matches_27, B_Word_matches_60, e1, if_true, e2, List.take_zero, decide_true, bI, true_and, or_true]
    | succ k ih =>
      intro i hi
      have e1 : ¬ nI n ≤ nI i := nI_ge (by omega) (by omega)
      have e3 : ixB M (w + 1) (nI (f + i)) := ixB_of h.2.2 (by omega) (by omega)
      have e4 : ixB M (v + 1) (nI i) := ixB_of h2.2.2 (by omega) (by omega)
      have g1 := getD_lt ha.2.2 (show f + i < a.length by omega)
      have g2 := getD_lt hb.2.2 (show i < b.length by omega)
      have e5 : n - i = (n - (i + 1)) + 1 := by omega
      rw [e5]
      simp only [take_cons_eq (show f + i < a.length by omega) (show i < b.length by omega)]
      simp only [B_Word_matches_27, B_Word_matches_54, SS, h.1, h.2.1, h2.1, h2.2.1, e1, if_false, true_and, nI_add, e3, e4, cl_nI (show i < 2147483648 by omega), cl_nI (show f + i < 2147483648 by omega), ha.2.1 (f + i) (by omega), hb.2.1 i (by omega), nI_i1, nI_eq (show a.getD (f + i) 0 < 2 ^ 31 by omega) (show b.getD i 0 < 2 ^ 31 by omega)]
      by_cases q : a.getD (f + i) 0 = b.getD i 0
      · simp only [q, if_true, true_and]
        rw [G_Word_matches_57]
        exact ih (i + 1) (by omega)
      · simp only [q, if_false, false_and, decide_false, bI, Bool.false_eq_true, if_false, true_or, true_and]
  have e1 : ¬ nI f < 0 := nI_pos (by omega)
  have e2 : ¬ nI a.length < nI (f + n) := nI_nlt (by omega) (by omega)
  have e3 : nI n ≤ nI b.length := nI_le hn (by omega)
  simp only [B_Word_matches_0, B_Word_matches_24, SS, h.1, h2.1, ha.1, hb.1, nI_add, e1, e2, e3, if_true, if_false, true_and]
  have := loop n 0 (by omega)
  rw [nI_0] at this
  simpa [mat] using this
def hol (a b : List Nat) : Bool := (List.range (a.length + 1 - b.length)).any (fun k => mat a k b b.length)
theorem any_from {p : Nat → Bool} {n i : Nat} (hi : i ≤ n) (hp : ∀ j, j < i → p j = false) : (List.range n).any p = (List.range (n - i)).any (fun k => p (i + k)) := by
  rw [Bool.eq_iff_iff]
  simp only [List.any_eq_true, List.mem_range]
  constructor
  · rintro ⟨j, hj, h⟩
    have : ¬ j < i := fun q => by rw [hp j q] at h; cases h
    exact ⟨j - i, by omega, by rw [show i + (j - i) = j by omega]; exact h⟩
  · rintro ⟨j, hj, h⟩
    exact ⟨i + j, by omega, h⟩
theorem k_Word_holds {M : Mm} {w v rw rv : Nat} {a b : List Nat} {Q : Option Value → Mm → Prop} (h : WS M w rw) (h2 : WS M v rv) (ha : WV M w a) (hb : WV M v b) (hr : a.length ≤ rw) (hrv : b.length ≤ rv) (b1 : rw < 1073741824) (b2 : rv < 1073741824) :
    wp F_Word_holds 0 [.ref w, .ref v, jk] [] M Q = Q (some (.int (bI (hol a b)))) M := by
  have loop : ∀ k i, i + k = a.length + 1 - b.length → (∀ j, j < i → mat a j b b.length = false) → wp F_Word_holds 2 [.ref w, .ref v, .int (nI i)] [] M Q = Q (some (.int (bI (hol a b)))) M := by
    intro k
    induction k with
    | zero =>
      intro i hi hp
      have e : hol a b = false := by
        unfold hol
        rw [any_from (i := i) (by omega) hp, show a.length + 1 - b.length - i = 0 by omega]
        rfl
      have e1 : nI a.length < nI (i + b.length) ∨ b.length = 0 := by
        by_cases z : b.length = 0
        · exact Or.inr z
        · exact Or.inl (nI_lt (by omega) (by omega))
      have e1 : nI a.length < nI (i + b.length) := nI_lt (by omega) (by omega)
      simp only [B_Word_holds_2, B_Word_holds_36, h.1, h2.1, ha.1, hb.1, nI_add, e1, if_true, true_and, e, bI, Bool.false_eq_true, if_false, true_or]
    | succ k ih =>
      intro i hi hp
      have e1 : ¬ nI a.length < nI (i + b.length) := nI_nlt (by omega) (by omega)
      simp only [B_Word_holds_2, SS, h.1, h2.1, ha.1, hb.1, nI_add, e1, if_false, true_and]
      rw [k_Word_matches h h2 ha hb hr hrv b1 b2 (by omega) (Nat.le_refl _)]
      simp only [SS, List.nil_append, List.cons_append, B_Word_holds_2, B_Word_holds_30, nI_i1]
      cases hm : mat a i b b.length with
      | true =>
        have e : hol a b = true := by
          unfold hol
          rw [List.any_eq_true]
          exact ⟨i, List.mem_range.mpr (by omega), hm⟩
        simp [bI, e]
      | false =>
        simp only [bI, Bool.false_eq_true, if_false, if_true] at ih ⊢
        rw [G_Word_holds_33]
        exact ih (i + 1) (by omega) (fun j hj => by
          by_cases q : j = i
          · rw [q]; exact hm
          · exact hp j (by omega))
  simp only [B_Word_holds_0, SS]
  by_cases z : b.length ≤ a.length
  · exact loop (a.length + 1 - b.length) 0 (by omega) (fun j hj => by omega)
  · exact loop 0 0 (by omega) (fun j hj => by omega)
