/-! (b), and the treating -/
theorem k_takeForm {M : Mm} {x v u rv ru k f : Nat} {rs : List Ru} {row : List Pr} {l : List Nat} {Q : Option Value → Mm → Prop} (h : Cmp M x rs k f row) (sv : WS M v rv) (su : WS M u ru) (vv : WV M v l) (hl : l.length ≤ 120) (hlv : l.length ≤ rv) (hlk : ∀ c ∈ l, c < k) (b1 : rv < 2147483648) (b2 : ru < 2147483648) (hru : l.length ≤ ru) (hv : v + 1 < nxt M) (hu : u + 1 < nxt M)
    (hQ0 : form rs l = none → ∀ M', TfN M M' (x + 1018) (x + 9) (x + 1013) (x + 1094) rs k → Q (some (.int 0)) M') (hQ1 : ∀ w tr, form rs l = some (w, tr) → w.length ≤ l.length → (∀ c ∈ w, c < k) → ∀ M', TfY M M' (x + 1018) (x + 9) (x + 1013) (x + 1094) u rs k w tr → Q (some (.int 1)) (sI M' (x + 1024) 6 (gI M' (x + 1024) 6 + nI tr.length))) : wp F_Completion_takeForm 0 [.ref (x + 1024), .ref v, .ref u] [] M Q := by
  have hC := h.2.2.2
  have hrd : sh M (x + 1018) = some (.inl 6) := by
    obtain ⟨A, B, C, D, cap, a1, a2, a3, -⟩ := h.1
    exact a3.1
  simp only [B_Completion_takeForm_0, SS, hC.1, hC.2.1.2.2.1, hrd, true_and]
  refine k_toForm h.1 sv su vv hl hlv hlk b1 b2 hru hv hu ?_ ?_
  · intro hn M' t
    simp only [SS, List.cons_append, List.nil_append, B_Completion_takeForm_0, true_or, true_and, if_true]
    exact hQ0 hn M' t
  · intro w tr hs hw1 hw2 M' t
    have e3 := t.frx
    have hlo := h.1.lo.1
    have hC' := hC.frx e3 hlo (fun b _ _ q => by omega)
    have hrd' : sh M' (x + 1018) = some (.inl 6) := (e3.2.2.1 _ (by omega)).trans hrd
    simp only [SS, List.cons_append, List.nil_append, B_Completion_takeForm_0, B_Completion_takeForm_14, hC'.1, hC'.2.1.2.2.1, hrd', t.2.2.1, i10, or_true, true_and, if_false]
    exact hQ1 w tr hs hw1 hw2 M' t
def rnw : Nat → Nat → List Ru → Nat → List Ru × Nat × Bool
  | 0, _, rs, s => (rs, s, true)
  | m + 1, i, rs, s => if (rs.getD i dR).2.2 = true then (match form rs (rs.getD i dR).2.1 with
      | none => (rs, s, false)
      | some (w, tr) => rnw m (i + 1) (rs.set i ((rs.getD i dR).1, w, (rs.getD i dR).2.2)) (s + tr.length))
    else rnw m (i + 1) rs s
/-- the Completion's other numbers stay -/
def Kq (M M' : Mm) (x : Nat) : Prop := gI M' (x + 1024) 5 = gI M (x + 1024) 5 ∧ gI M' (x + 1024) 7 = gI M (x + 1024) 7
theorem k_renewRights {M : Mm} {x : Nat} {rs : List Ru} {k f fr s : Nat} {row : List Pr} {Q : Option Value → Mm → Prop} (h : Cmp M x rs k f row) (hfr : fr < rs.length) (hs : gI M (x + 1024) 6 = nI s)
    (hQ : ∀ M', Cmp M' x (rnw fr 0 rs s).1 k f row → Cfr M M' x → Kq M M' x → gI M' (x + 1024) 6 = nI (rnw fr 0 rs s).2.1 → (rnw fr 0 rs s).1.length = rs.length → Q (some (.int (bI (rnw fr 0 rs s).2.2))) M') : wp F_Completion_renewRights 0 [.ref (x + 1024), .int (nI fr), jk, jk] [] M Q := by
  have loop : ∀ m i rs' s' M' l3, i + m = fr → rs'.length = rs.length → Cmp M' x rs' k f row → Cfr M M' x → Kq M M' x → gI M' (x + 1024) 6 = nI s' → rnw fr 0 rs s = rnw m i rs' s' → wp F_Completion_renewRights 2 [.ref (x + 1024), .int (nI fr), .int (nI i), l3] [] M' Q := by
    intro m
    induction m with
    | zero =>
      intro i rs' s' M' l3 hi hfr' hC hF hK h6 he
      have hl := hC.1.lo.2.1.2.2
      have e1 : nI fr ≤ nI i := nI_le (by omega) (by omega)
      simp only [B_Completion_renewRights_2, B_Completion_renewRights_47, e1, if_true, or_true, true_and]
      have q := hQ M' (by rw [he]; exact hC) hF hK (by rw [he]; exact h6) (by rw [he]; exact hfr')
      rw [he] at q
      exact q
    | succ m ih =>
      intro i rs' s' M' l3 hi hfr' hC hF hK h6 he
      have hl := hC.1.lo.2.1.2.2
      have e1 : ¬ nI fr ≤ nI i := nI_ge (by omega) (by omega)
      have hi2 : i < rs'.length := by omega
      obtain ⟨r1, v1, g1, -⟩ := hC.ru hi2
      obtain ⟨hlo, hwf, h3, h4⟩ := hC.1.lo
      have e2 : ixR M' (x + 9 + 1) (nI i) := ixR_of h3.2.2.1 (by omega) (by omega) (by omega)
      have e3 : cl (nI i) = i := cl_nI (by omega)
      simp only [B_Completion_renewRights_2, e1, if_false, hC.2.2.2.1, hC.2.2.2.2.1, h3.1, h3.2.1, e2, e3, g1, SS, r1.1, v1.2.2.1, bI_ne, true_and]
      cases hlv : (rs'.getD i dR).2.2 with
      | false =>
        simp only [if_true, B_Completion_renewRights_41, SS, nI_i1]
        rw [G_Completion_renewRights_44]
        refine ih (i + 1) rs' s' M' _ (by omega) hfr' hC hF hK h6 ?_
        rw [he, rnw, hlv, if_neg (fun q => by simp at q)]
      | true =>
        simp only [Bool.true_eq_false, if_false, B_Completion_renewRights_2, SS, hC.2.2.2.1, r1.1, r1.2.2.1, true_and]
        have hlr := v1.2.2.2.2
        refine k_takeForm hC r1.2.2.2.2 r1.2.2.2.2 v1.2.1 (by omega) (by omega) (fun c hc => (hwf.1 _ (getD_mem hi2)).2.2.2.2 c hc) (by omega) (by omega) (by omega) (by omega) (by omega) ?_ ?_
        · intro hn M2 t
          obtain ⟨c1, c2, c3⟩ := hC.tfN t
          simp only [SS, List.cons_append, List.nil_append, B_Completion_renewRights_2, if_true, true_or, true_and]
          have : rnw fr 0 rs s = (rs', s', false) := by rw [he, rnw, hlv, if_pos rfl, hn]
          have q := hQ M2 (by rw [this]; exact c1) (hF.trans c2) ⟨(c3 _ _ (by omega) (by omega)).trans hK.1, (c3 _ _ (by omega) (by omega)).trans hK.2⟩ (by rw [this]; exact (c3 _ _ (by omega) (by omega)).trans h6) (by rw [this]; exact hfr')
          rw [this] at q
          exact q
        · intro w tr hs2 hw1 hw2 M2 t
          obtain ⟨c1, c2, c3⟩ := hC.tfR hi2 t hw1 hw2
          have f5 : FrS (fun b => x + 1024 ≤ b ∧ b < x + 1029) M2 (sI M2 (x + 1024) 6 (gI M2 (x + 1024) 6 + nI tr.length)) := FrS.sI ⟨by omega, by omega⟩
          obtain ⟨d1, d2⟩ := c1.own (f5.weaken (fun b q => ⟨q.1, by omega⟩))
          simp only [SS, List.cons_append, List.nil_append, B_Completion_renewRights_2, B_Completion_renewRights_41, i10, if_false, nI_i1]
          rw [G_Completion_renewRights_44]
          refine ih (i + 1) _ (s' + tr.length) _ _ (by omega) (by rw [List.length_set]; exact hfr') d1 ((hF.trans c2).trans (f5.cfr d2)) ⟨?_, ?_⟩ ?_ ?_
          · rw [gI_sI, if_neg (by omega)]; exact (c3 _ _ (by omega) (by omega)).trans hK.1
          · rw [gI_sI, if_neg (by omega)]; exact (c3 _ _ (by omega) (by omega)).trans hK.2
          · rw [gI_sI, if_pos ⟨rfl, rfl⟩, c3 _ _ (by omega) (by omega), h6, nI_add]
          · rw [he, rnw, hlv, if_pos rfl, hs2]
  have e0 : (0 : Int32) = nI 0 := rfl
  simp only [B_Completion_renewRights_0, SS]
  rw [e0]
  exact loop fr 0 rs s M jk (by omega) rfl h Cfr.rfl ⟨rfl, rfl⟩ hs rfl
/-- RULES, row, how many treated, STEPS, STUCK -/
abbrev Cst : Type := List Ru × List Pr × Nat × Nat × Bool
def trt3 (rs : List Ru) (fr : Nat) (row : List Pr) (t s : Nat) : Cst := (rs, (prs rs fr fr 0 row).1, t, s, !(prs rs fr fr 0 row).2)
def trt2 (rs : List Ru) (fr : Nat) (row : List Pr) (t s : Nat) : Cst :=
  if (rnw fr 0 rs s).2.2 = true then trt3 (rnw fr 0 rs s).1 fr row t (rnw fr 0 rs s).2.1 else ((rnw fr 0 rs s).1, row, t, (rnw fr 0 rs s).2.1, true)
def trt1 (rs : List Ru) (l r : List Nat) (row : List Pr) (t s : Nat) : Cst :=
  if 200 ≤ rs.length ∨ 60 < l.length then (rs, row, t, s, true)
  else if (drp rs.length rs.length 0 (rs ++ [(l, r, true)]) row).2.2 = true then trt2 (drp rs.length rs.length 0 (rs ++ [(l, r, true)]) row).1 rs.length (drp rs.length rs.length 0 (rs ++ [(l, r, true)]) row).2.1 t s
  else ((drp rs.length rs.length 0 (rs ++ [(l, r, true)]) row).1, (drp rs.length rs.length 0 (rs ++ [(l, r, true)]) row).2.1, t, s, true)
def trt (rs : List Ru) (u : Pr) (row : List Pr) (t s : Nat) : Cst := match form rs u.1 with
  | none => (rs, row, t + 1, s, true)
  | some (a, t1) => match form rs u.2 with
    | none => (rs, row, t + 1, s + t1.length, true)
    | some (b, t2) => if cmpW a b = 0 then (rs, row, t + 1, s + t1.length + t2.length, false)
      else if 0 < cmpW a b then trt1 rs a b row (t + 1) (s + t1.length + t2.length) else trt1 rs b a row (t + 1) (s + t1.length + t2.length)
def CNV (M : Mm) (x t s : Nat) (st : Bool) : Prop := gI M (x + 1024) 5 = nI t ∧ gI M (x + 1024) 6 = nI s ∧ gI M (x + 1024) 7 = bI st
theorem lexc_cases : ∀ a b : List Nat, lexc a b = 0 ∨ lexc a b = 1 ∨ lexc a b = -1
  | [], [] => by simp [lexc]
  | [], _ :: _ => by simp [lexc]
  | _ :: _, [] => by simp [lexc]
  | a :: s, b :: t => by
    have ih := lexc_cases s t
    unfold lexc
    split
    · exact ih
    · split
      · exact Or.inr (Or.inl rfl)
      · exact Or.inr (Or.inr rfl)
theorem cmpW_cases (a b : List Nat) : cmpW a b = 0 ∨ cmpW a b = 1 ∨ cmpW a b = -1 := by
  unfold cmpW
  split
  · exact lexc_cases a b
  · split
    · exact Or.inr (Or.inl rfl)
    · exact Or.inr (Or.inr rfl)
theorem drp_len (fr : Nat) : ∀ m i rs row, (drp fr m i rs row).1.length = rs.length := by
  intro m
  induction m with
  | zero => intro i rs row; rfl
  | succ m ih =>
    intro i rs row
    unfold drp
    split
    · split
      · simp
      · rw [ih]; simp
    · exact ih _ _ _
