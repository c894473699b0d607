/-! REDUCING -/
def red (rs : List Ru) : Nat → List Nat → List Nat → List (Nat × Nat) → Option (Option (List Nat × List (Nat × Nat)))
  | _, d, [], tr => some (some (d, tr))
  | 0, _, _ :: _, _ => none
  | n + 1, d, c :: t, tr => match endAt rs (d ++ [c]) with
    | none => red rs n (d ++ [c]) t tr
    | some r => if 1000 ≤ tr.length then some none else red rs n ((d ++ [c]).take (d.length + 1 - (rs.getD r dR).1.length)) ((rs.getD r dR).2.1 ++ t) (tr ++ [(r, d.length + 1 - (rs.getD r dR).1.length)])
theorem red_ends {rs : List Ru} {k : Nat} (hw : RWf rs k) : ∀ (n : Nat) (d t : List Nat) (tr : List (Nat × Nat)), tr.length ≤ 1000 → t.length + 60 * (1000 - tr.length) ≤ n → ∃ x, red rs n d t tr = some x := by
  intro n
  induction n with
  | zero =>
    intro d t tr h1 h2
    cases t with
    | nil => exact ⟨_, rfl⟩
    | cons c t => simp at h2
  | succ n ih =>
    intro d t tr h1 h2
    cases t with
    | nil => exact ⟨_, rfl⟩
    | cons c t =>
      simp only [List.length_cons] at h2
      unfold red
      cases he : endAt rs (d ++ [c]) with
      | none => exact ih _ _ _ h1 (by omega)
      | some r =>
        dsimp only
        by_cases hl : 1000 ≤ tr.length
        · rw [if_pos hl]; exact ⟨_, rfl⟩
        · rw [if_neg hl]
          obtain ⟨q1, q2, q3⟩ := endAt_some he
          have hu := hw.1 _ (getD_mem q1)
          refine ih _ _ _ (by simp; omega) ?_
          simp only [List.length_append, List.length_cons, List.length_nil]
          omega
/-- the FORM and the STEPS; none: TOO LONG -/
def form (rs : List Ru) (w : List Nat) : Option (List Nat × List (Nat × Nat)) := (red rs 100000 [] w []).getD none
theorem form_red {rs : List Ru} {k : Nat} (hw : RWf rs k) {w : List Nat} (hl : w.length ≤ 120) : red rs 100000 [] w [] = some (form rs w) := by
  obtain ⟨x, hx⟩ := red_ends hw 100000 [] w [] (by simp) (by simp; omega)
  unfold form
  rw [hx]
  rfl
/-- numbers in a row of the store -/
def SG (M : Mm) (a : Nat) (l : List Nat) : Prop := ∀ j, j < l.length → gI M a j = nI (l.getD j 0)
theorem SG.fr {M M1 : Mm} {S : Nat → Prop} {a : Nat} {l : List Nat} (h : SG M a l) (hf : FrS S M M1) (ha : ¬ S a) : SG M1 a l := fun j hj => (hf.gI ha j).trans (h j hj)
theorem SG.push {M : Mm} {a c : Nat} {l : List Nat} (h : SG M a l) : SG (sI M a l.length (nI c)) a (l ++ [c]) := fun j hj => by
  simp only [List.length_append, List.length_cons, List.length_nil] at hj
  rw [gI_sI, getD_app hj]
  by_cases q : j < l.length
  · rw [if_neg (by omega), if_pos q]; exact h j q
  · rw [if_pos ⟨rfl, by omega⟩, if_neg q]
theorem SG.take {M : Mm} {a n : Nat} {l : List Nat} (h : SG M a l) : SG M a (l.take n) := fun j hj => by
  rw [List.length_take] at hj
  rw [h j (by omega)]
  congr 1
  rw [List.getD_eq_getElem?_getD, List.getD_eq_getElem?_getD, List.getElem?_take, if_pos (by omega)]
/-- the reducer's cell rd, its rows beside it -/
def RDS (M : Mm) (rd z mc : Nat) : Prop := sh M rd = some (.inl 6) ∧ (gR M rd 0 = some z ∧ gR M rd 1 = some mc ∧ gR M rd 2 = some (rd + 1) ∧ gR M rd 3 = some (rd + 2) ∧ gR M rd 4 = some (rd + 3) ∧ gR M rd 5 = some (rd + 4) ∧ gR M rd 6 = some (rd + 5)) ∧ sh M (rd + 1) = some (.inr (2, 120)) ∧ sh M (rd + 2) = some (.inr (2, 120)) ∧ sh M (rd + 3) = some (.inr (0, 121)) ∧ sh M (rd + 4) = some (.inr (0, 300)) ∧ sh M (rd + 5) = some (.inr (0, 300))
abbrev rdS (rd : Nat) : Nat → Prop := fun b => rd ≤ b ∧ b < rd + 6
theorem RDS.fr {M M1 : Mm} {S : Nat → Prop} {rd z mc : Nat} (h : RDS M rd z mc) (hf : FrS S M M1) : RDS M1 rd z mc := ⟨(hf.sh _).trans h.1, ⟨(hf.gR _ _).trans h.2.1.1, (hf.gR _ _).trans h.2.1.2.1, (hf.gR _ _).trans h.2.1.2.2.1, (hf.gR _ _).trans h.2.1.2.2.2.1, (hf.gR _ _).trans h.2.1.2.2.2.2.1, (hf.gR _ _).trans h.2.1.2.2.2.2.2.1, (hf.gR _ _).trans h.2.1.2.2.2.2.2.2⟩, (hf.sh _).trans h.2.2.1, (hf.sh _).trans h.2.2.2.1, (hf.sh _).trans h.2.2.2.2.1, (hf.sh _).trans h.2.2.2.2.2.1, (hf.sh _).trans h.2.2.2.2.2.2⟩
theorem sub1 (m : Nat) : nI m + -1 = nI m - 1 := by rw [Int32.sub_eq_add_neg]
theorem take_rev {r : List Nat} {m : Nat} (h : m < r.length) : (r.take (m + 1)).reverse = r.getD m 0 :: (r.take m).reverse := by
  rw [take_succ_getD 0 h, List.reverse_append]
  rfl
theorem k_putBack {M : Mm} {rd z mc v rv : Nat} {r t : List Nat} {Q : Option Value → Mm → Prop} (h : RDS M rd z mc) (sv : WS M v rv) (vv : WV M v r) (hrv : r.length ≤ rv) (b2 : rv < 2147483648) (ht : SG M (rd + 1) t.reverse) (hl : t.length + r.length ≤ 120) (hv : ¬ v = rd + 1 ∧ ¬ v + 1 = rd + 1)
    (hQ : ∀ M', FrS (fun b => b = rd + 1) M M' → SG M' (rd + 1) (r ++ t).reverse → Q (some (.int (nI (r ++ t).length))) M') : wp F_Reducer_putBack 0 [.ref rd, .ref v, .int (nI t.length), jk, jk] [] M Q := by
  have k120 : (120 : Int32) = nI 120 := rfl
  have loop : ∀ m, m ≤ r.length → ∀ M1, FrS (fun b => b = rd + 1) M M1 → SG M1 (rd + 1) (t.reverse ++ (r.drop m).reverse) → wp F_Reducer_putBack 10 [.ref rd, .ref v, .int (nI t.length), .int (nI (t.length + (r.length - m))), .int (nI m - 1)] [] M1 Q := by
    intro m
    induction m with
    | zero =>
      intro hm M1 f1 g1
      have e0 : nI 0 - 1 < 0 := by decide
      simp only [B_Reducer_putBack_10, B_Reducer_putBack_43, e0, if_true]
      rw [List.drop_zero, ← List.reverse_append] at g1
      have := hQ M1 f1 g1
      rw [List.length_append, Nat.add_comm] at this
      exact this
    | succ m ih =>
      intro hm M1 f1 g1
      have s1 := sv.fr f1
      have h1 := h.fr f1
      have v1 := vv.fr f1 hv.1 hv.2
      have e1 : ¬ nI m < 0 := nI_pos (by omega)
      have e2 : ¬ nI 120 ≤ nI (t.length + (r.length - (m + 1))) := nI_ge (by omega) (by omega)
      have i1 : ixB M1 (v + 1) (nI m) := ixB_of s1.2.2 (by omega) (by omega)
      have e3 : ∀ x K, bsW M1 (rd + 1) (nI (t.length + (r.length - (m + 1)))) x K = K (sI M1 (rd + 1) (t.length + (r.length - (m + 1))) (vp_nar .byte x)) := fun x K => bsW_b h1.2.2.1 (by omega) (by omega)
      have e5 := byte_nI (getD_lt vv.2.2 (show m < r.length by omega))
      rw [nI_pred]
      simp only [B_Reducer_putBack_10, SS, k120, e1, e2, if_false, h1.1, h1.2.1.2.2.1, s1.1, s1.2.1, true_and, i1, cl_nI (show m < 2147483648 by omega), v1.2.1 m (by omega), e3, e5.1, nI_i1, sub1]
      rw [G_Reducer_putBack_40]
      have hlen : (t.reverse ++ (r.drop (m + 1)).reverse).length = t.length + (r.length - (m + 1)) := by simp
      have g2 := g1.push (c := r.getD m 0)
      rw [hlen] at g2
      have := ih (by omega) (sI M1 (rd + 1) (t.length + (r.length - (m + 1))) (nI (r.getD m 0))) (f1.trans (FrS.sI rfl)) (by
        rw [drop_getD (show m < r.length by omega), List.reverse_cons, ← List.append_assoc]
        exact g2)
      rw [show t.length + (r.length - m) = t.length + (r.length - (m + 1)) + 1 by omega] at this
      exact this
  simp only [B_Reducer_putBack_0, SS, sv.1, vv.1, true_and]
  have := loop r.length (Nat.le_refl _) M FrS.rfl (by rw [List.drop_length]; simpa using ht)
  rw [Nat.sub_self, Nat.add_zero] at this
  exact this
/-- the first 300 STEPS in the store -/
def TRv (M : Mm) (a b : Nat) (tr : List (Nat × Nat)) : Prop := ∀ j, j < tr.length → j < 300 → gI M a j = nI (tr.getD j (0, 0)).1 ∧ gI M b j = nI (tr.getD j (0, 0)).2
theorem TRv.fr {M M1 : Mm} {S : Nat → Prop} {a b : Nat} {tr : List (Nat × Nat)} (h : TRv M a b tr) (hf : FrS S M M1) (ha : ¬ S a) (hb : ¬ S b) : TRv M1 a b tr := fun j h1 h2 => ⟨(hf.gI ha j).trans (h j h1 h2).1, (hf.gI hb j).trans (h j h1 h2).2⟩
theorem k_note {M : Mm} {rd z mc r p : Nat} {tr : List (Nat × Nat)} {Q : Option Value → Mm → Prop} (h : RDS M rd z mc) (hs : gI M rd 7 = nI tr.length) (hl : tr.length < 2147483647) (ht : TRv M (rd + 4) (rd + 5) tr)
    (hQ : ∀ M', FrS (fun b => b = rd ∨ b = rd + 4 ∨ b = rd + 5) M M' → gI M' rd 7 = nI (tr.length + 1) → TRv M' (rd + 4) (rd + 5) (tr ++ [(r, p)]) → Q none M') : wp F_Reducer_note 0 [.ref rd, .int (nI r), .int (nI p)] [] M Q := by
  have k300 : (300 : Int32) = nI 300 := rfl
  have c1 := nI_leI (show 300 < 2 ^ 31 by omega) (show tr.length < 2 ^ 31 by omega)
  have gd : ∀ j, j < tr.length → (tr ++ [(r, p)]).getD j (0, 0) = tr.getD j (0, 0) := fun j hj => by
    rw [List.getD_eq_getElem?_getD, List.getElem?_append_left hj, ← List.getD_eq_getElem?_getD]
  have gn : (tr ++ [(r, p)]).getD tr.length (0, 0) = (r, p) := by simp
  by_cases q : 300 ≤ tr.length
  · simp only [B_Reducer_note_0, B_Reducer_note_30, SS, h.1, hs, k300, c1, q, if_true, true_and, nI_i1]
    have f1 : FrS (fun b => b = rd ∨ b = rd + 4 ∨ b = rd + 5) M (sI M rd 7 (nI (tr.length + 1))) := FrS.sI (Or.inl rfl)
    refine hQ _ f1 (by simp [SS]) (fun j h1 h2 => ?_)
    simp only [List.length_append, List.length_cons, List.length_nil] at h1
    rw [gd j (by omega), gI_sI, if_neg (by omega), gI_sI, if_neg (by omega)]
    exact ht j (by omega) h2
  · have i1 : ixW M (rd + 4) (nI tr.length) := ixW_of h.2.2.2.2.2.1 (by omega) (by omega)
    have i2 : ixW (sI M (rd + 4) tr.length (nI r)) (rd + 5) (nI tr.length) := ixW_of h.2.2.2.2.2.2 (by omega) (by omega)
    have d1 : ¬ rd = rd + 4 := by omega
    have d2 : ¬ rd = rd + 5 := by omega
    simp only [B_Reducer_note_0, B_Reducer_note_30, SS, h.1, h.2.1.2.2.2.2.2.1, h.2.1.2.2.2.2.2.2, hs, k300, c1, q, if_false, true_and, i1, cl_nI (show tr.length < 2147483648 by omega), i2, d1, d2, false_and, nI_i1]
    have f1 : FrS (fun b => b = rd ∨ b = rd + 4 ∨ b = rd + 5) M (sI (sI (sI M (rd + 4) tr.length (nI r)) (rd + 5) tr.length (nI p)) rd 7 (nI (tr.length + 1))) := ((FrS.sI (Or.inr (Or.inl rfl))).trans (FrS.sI (Or.inr (Or.inr rfl)))).trans (FrS.sI (Or.inl rfl))
    refine hQ _ f1 (by simp [SS]) (fun j h1 h2 => ?_)
    simp only [List.length_append, List.length_cons, List.length_nil] at h1
    by_cases e : j = tr.length
    · subst e
      rw [gn]
      simp [SS]
    · rw [gd j (by omega), gI_sI, if_neg (by omega), gI_sI, if_neg (by omega), gI_sI, if_neg (by omega), gI_sI, if_neg (by omega), gI_sI, if_neg (by omega), gI_sI, if_neg (by omega)]
      exact ht j (by omega) h2
theorem k_write {M : Mm} {rd z mc v rv : Nat} {d : List Nat} {Q : Option Value → Mm → Prop} (h : RDS M rd z mc) (sv : WS M v rv) (hd : SG M (rd + 2) d) (hl : d.length ≤ 120) (hc : ∀ c ∈ d, c < 128) (hr : d.length ≤ rv) (b2 : rv < 2147483648) (hv : ¬ rd + 2 = v ∧ ¬ rd + 2 = v + 1)
    (hQ : ∀ M', FrS (wS v) M M' → WV M' v d → Q none M') : wp F_Reducer_write 0 [.ref rd, .int (nI d.length), .ref v, jk] [] M Q := by
  have loop : ∀ m i, i + m = d.length → ∀ M1, FrS (wS v) M M1 → WV M1 v (d.take i) → wp F_Reducer_write 6 [.ref rd, .int (nI d.length), .ref v, .int (nI i)] [] M1 Q := by
    intro m
    induction m with
    | zero =>
      intro i hi M1 f1 w1
      have e1 : nI d.length ≤ nI i := nI_le (by omega) (by omega)
      simp only [B_Reducer_write_6, B_Reducer_write_27, e1, if_true]
      rw [List.take_of_length_le (show d.length ≤ i by omega)] at w1
      exact hQ M1 f1 w1
    | succ m ih =>
      intro i hi M1 f1 w1
      have s1 := sv.fr f1
      have h1 := h.fr f1
      have e1 : ¬ nI d.length ≤ nI i := nI_ge (by omega) (by omega)
      have i1 : ixB M1 (rd + 2) (nI i) := ixB_of h1.2.2.2.1 (by omega) (by omega)
      have g1 : gI M1 (rd + 2) i = nI (d.getD i 0) := (hd.fr f1 (fun q => q.elim hv.1 hv.2)) i (by omega)
      have hlt : (d.take i).length = i := by rw [List.length_take]; omega
      simp only [B_Reducer_write_6, SS, e1, if_false, h1.1, h1.2.1.2.2.2.1, true_and, i1, cl_nI (show i < 2147483648 by omega), g1, s1.1]
      refine k_Word_add s1 w1 (getD_lt hc (show i < d.length by omega)) b2 (by omega) ?_
      intro M2 f2 w2
      simp only [Option.toList_none, List.nil_append, B_Reducer_write_6, nI_i1]
      rw [G_Reducer_write_24]
      refine ih (i + 1) (by omega) M2 (f1.trans f2) ?_
      rw [take_succ_getD 0 (by omega)]
      exact w2
  simp only [B_Reducer_write_0, sv.1, true_and]
  refine k_Word_clear sv ?_
  intro M1 f1 w1
  simp only [Option.toList_none, List.nil_append, B_Reducer_write_0, SS, ← nI_0]
  exact loop d.length 0 (by omega) M1 f1 (by rw [List.take_zero]; exact w1)
