/-! (c) of the treating -/
def spl (u v : Ru) (n : Nat) : Pr := (u.2.1 ++ v.1.drop n, u.1.take (u.1.length - n) ++ v.2.1)
def ovl (u v : Ru) : Nat → Nat → List Pr → List Pr × Bool
  | 0, _, row => (row, true)
  | m + 1, n, row => if mat u.1 (u.1.length - n) v.1 n = true then (if row.length = 1000 then (row, false) else ovl u v m (n + 1) (row ++ [spl u v n])) else ovl u v m (n + 1) row
def ovs (u v : Ru) (row : List Pr) : List Pr × Bool := ovl u v (min u.1.length v.1.length - 1) 1 row
def prs (rs : List Ru) (fr : Nat) : Nat → Nat → List Pr → List Pr × Bool
  | 0, _, row => ovs (rs.getD fr dR) (rs.getD fr dR) row
  | m + 1, i, row => if (rs.getD i dR).2.2 = true then
      (if (ovs (rs.getD fr dR) (rs.getD i dR) row).2 = true then
        (if (ovs (rs.getD i dR) (rs.getD fr dR) (ovs (rs.getD fr dR) (rs.getD i dR) row).1).2 = true then prs rs fr m (i + 1) (ovs (rs.getD i dR) (rs.getD fr dR) (ovs (rs.getD fr dR) (rs.getD i dR) row).1).1
        else ((ovs (rs.getD i dR) (rs.getD fr dR) (ovs (rs.getD fr dR) (rs.getD i dR) row).1).1, false))
      else ((ovs (rs.getD fr dR) (rs.getD i dR) row).1, false))
    else prs rs fr m (i + 1) row
theorem Cmp.ru {M : Mm} {x : Nat} {rs : List Ru} {k f : Nat} {row : List Pr} (h : Cmp M x rs k f row) {i : Nat} (hi : i < rs.length) : RS M (x + 9 + 2 + 5 * i) ∧ RV M (x + 9 + 2 + 5 * i) (rs.getD i dR) ∧ gR M (x + 9 + 1) i = some (x + 9 + 2 + 5 * i) ∧ i < 200 := by
  obtain ⟨-, -, h3, h4⟩ := h.1.lo
  have := h4.2.1
  exact ⟨(h3.2.2.2 i (by omega)).2, h4.2.2 i hi, (h3.2.2.2 i (by omega)).1, by omega⟩
theorem bI_t : bI true = 1 := rfl
theorem bI_f : bI false = 0 := rfl
theorem bI_ne (b : Bool) : (bI b = 0) = (b = false) := by cases b <;> simp [bI]
theorem bI_01 (b : Bool) : (bI b = 0 ∨ bI b = 1) = True := by cases b <;> simp [bI]
/-- what the row's ways leave as it was: the numbers of the Completion -/
def Kp (M M' : Mm) (x : Nat) : Prop := ∀ b j, x + 1013 ≤ b → b < x + 1094 → gI M' b j = gI M b j
theorem k_pairOv {M : Mm} {x : Nat} {rs : List Ru} {k f a b : Nat} {row : List Pr} {Q : Option Value → Mm → Prop} (h : Cmp M x rs k f row) (ha : a < rs.length) (hb : b < rs.length)
    (hQ : ∀ M', Cmp M' x rs k f (ovs (rs.getD a dR) (rs.getD b dR) row).1 → Cfr M M' x → Kp M M' x → Q (some (.int (bI (ovs (rs.getD a dR) (rs.getD b dR) row).2))) M') : wp F_Completion_pairOverlaps 0 [.ref (x + 1024), .ref (x + 9 + 2 + 5 * a), .ref (x + 9 + 2 + 5 * b), jk, jk, jk] [] M Q := by
  obtain ⟨r1, v1, -, -⟩ := h.ru ha
  obtain ⟨r2, v2, -, -⟩ := h.ru hb
  have wf := h.1.lo.2.1
  have hl := wf.2.2
  have w1 := wf.1 _ (getD_mem ha)
  have w2 := wf.1 _ (getD_mem hb)
  have p1 : 0 < (rs.getD a dR).1.length := List.length_pos_iff.mpr w1.1
  have p2 : 0 < (rs.getD b dR).1.length := List.length_pos_iff.mpr w2.1
  generalize hu : rs.getD a dR = u at *
  generalize hv : rs.getD b dR = v at *
  have loop : ∀ m n row' M' l5, n + m = min u.1.length v.1.length → 1 ≤ n → Cmp M' x rs k f row' → Cfr M M' x → Kp M M' x → ovs u v row = ovl u v m n row' → wp F_Completion_pairOverlaps 9 [.ref (x + 1024), .ref (x + 9 + 2 + 5 * a), .ref (x + 9 + 2 + 5 * b), .int (nI (min u.1.length v.1.length - 1)), .int (nI n), l5] [] M' Q := by
    intro m
    induction m with
    | zero =>
      intro n row' M' l5 hn n1 hC hF hK he
      have e1 : nI (min u.1.length v.1.length - 1) < nI n := nI_lt (by omega) (by omega)
      simp only [B_Completion_pairOverlaps_9, B_Completion_pairOverlaps_67, e1, if_true, or_true, true_and]
      have : (ovs u v row).1 = row' ∧ (ovs u v row).2 = true := by rw [he]; exact ⟨rfl, rfl⟩
      have q := hQ M' (by rw [this.1]; exact hC) hF hK
      rw [this.2] at q
      exact q
    | succ m ih =>
      intro n row' M' l5 hn n1 hC hF hK he
      have e1 : ¬ nI (min u.1.length v.1.length - 1) < nI n := nI_nlt (by omega) (by omega)
      obtain ⟨r1, v1, -, -⟩ := hC.ru ha
      obtain ⟨r2, v2, -, -⟩ := hC.ru hb
      rw [hu] at v1
      rw [hv] at v2
      simp only [B_Completion_pairOverlaps_9, e1, if_false, r1.1, true_and]
      rw [k_overlaps r1 r2 v1 v2 (by omega) (by omega)]
      simp only [SS, List.cons_append, List.nil_append, B_Completion_pairOverlaps_9, bI_ne]
      cases hm : mat u.1 (u.1.length - n) v.1 n with
      | false =>
        simp only [if_true, B_Completion_pairOverlaps_61, SS, nI_i1]
        rw [G_Completion_pairOverlaps_64]
        refine ih (n + 1) row' M' l5 (by omega) (by omega) hC hF hK ?_
        rw [he, ovl, hm, if_neg (by simp)]
      | true =>
        simp only [Bool.true_eq_false, if_false, B_Completion_pairOverlaps_28, SS, hC.2.2.2.1, hC.2.2.2.2.1, hC.2.1.1, true_and]
        refine k_behind hC.2.1 hC.2.2.1 hC.1.lo.1 ?_ ?_
        · intro hfull
          simp only [SS, List.cons_append, List.nil_append, B_Completion_pairOverlaps_28, true_or, true_and]
          have : ovs u v row = (row', false) := by rw [he, ovl, hm, if_pos rfl, if_pos hfull]
          have q := hQ M' (by rw [this]; exact hC) hF hK
          rw [this] at q
          exact q
        · intro hlt p d M1 hB
          have hB0 := hB
          obtain ⟨b1, b2, b3, b4, b5, b6, b7, b8, b9, b10, b11, b12, b13⟩ := hB
          have hE1 : RS M1 (x + 9 + 2 + 5 * a) ∧ RS M1 (x + 9 + 2 + 5 * b) ∧ RV M1 (x + 9 + 2 + 5 * a) u ∧ RV M1 (x + 9 + 2 + 5 * b) v := by
            have := hC.1.lo.1
            exact ⟨r1.frx b6 (by omega) (fun c _ _ q => by omega), r2.frx b6 (by omega) (fun c _ _ q => by omega), v1.frx b6 (by omega) (fun c _ _ q => by omega), v2.frx b6 (by omega) (fun c _ _ q => by omega)⟩
          simp only [SS, List.cons_append, List.nil_append, B_Completion_pairOverlaps_28, B_Completion_pairOverlaps_44, b11.1, b11.2.1, b11.2.2.1, hE1.1.1, true_and]
          refine k_spell hE1.1 hE1.2.1 hE1.2.2.1 hE1.2.2.2 b11.2.2.2.1 b11.2.2.2.2 (by omega) (by omega) (by omega) (fun c _ _ => ⟨fun q => by rcases q with q | q <;> omega, fun q => by rcases q with q | q <;> omega⟩) (fun c _ _ => ⟨fun q => by rcases q with q | q <;> omega, fun q => by rcases q with q | q <;> omega⟩) ?_
          intro M2 f2 wv1 wv2
          obtain ⟨c1, c2, c3⟩ := push_row (u := spl u v n) hC hB0 hlt f2 wv1 wv2 (by simp only [spl, List.length_append, List.length_drop]; omega) (by simp only [spl, List.length_append, List.length_take]; omega)
          simp only [Option.toList_none, List.nil_append, B_Completion_pairOverlaps_61, SS, nI_i1]
          rw [G_Completion_pairOverlaps_64]
          refine ih (n + 1) _ M2 _ (by omega) (by omega) c1 (hF.trans c2) (fun b j y1 y2 => (c3 b j y1 y2).trans (hK b j y1 y2)) ?_
          rw [he, ovl, hm, if_pos rfl, if_neg (by omega)]
  simp only [B_Completion_pairOverlaps_0, r1.1, true_and]
  rw [k_mostShared r1 r2 v1 v2]
  have e0 : nI (min u.1.length v.1.length) - 1 = nI (min u.1.length v.1.length - 1) := by
    have := nI_pred (min u.1.length v.1.length - 1)
    rw [show min u.1.length v.1.length - 1 + 1 = min u.1.length v.1.length by omega] at this
    exact this
  have e1 : (1 : Int32) = nI 1 := rfl
  simp only [SS, List.cons_append, List.nil_append, B_Completion_pairOverlaps_0, e0]
  rw [e1]
  exact loop (min u.1.length v.1.length - 1) 1 row M jk (by omega) (by omega) h Cfr.rfl (fun _ _ _ _ => rfl) rfl
theorem k_pairAll {M : Mm} {x : Nat} {rs : List Ru} {k f fr : Nat} {row : List Pr} {Q : Option Value → Mm → Prop} (h : Cmp M x rs k f row) (hfr : fr < rs.length)
    (hQ : ∀ M', Cmp M' x rs k f (prs rs fr fr 0 row).1 → Cfr M M' x → Kp M M' x → Q (some (.int (bI (prs rs fr fr 0 row).2))) M') : wp F_Completion_pairAll 0 [.ref (x + 1024), .int (nI fr), jk, jk, jk] [] M Q := by
  have hl := h.1.lo.2.1.2.2
  have loop : ∀ m i row' M' l4, i + m = fr → Cmp M' x rs k f row' → Cfr M M' x → Kp M M' x → prs rs fr fr 0 row = prs rs fr m i row' → wp F_Completion_pairAll 12 [.ref (x + 1024), .int (nI fr), .ref (x + 9 + 2 + 5 * fr), .int (nI i), l4] [] M' Q := by
    intro m
    induction m with
    | zero =>
      intro i row' M' l4 hi hC hF hK he
      have e1 : nI fr ≤ nI i := nI_le (by omega) (by omega)
      simp only [B_Completion_pairAll_12, B_Completion_pairAll_64, e1, if_true, hC.2.2.2.1, true_and]
      refine k_pairOv hC hfr hfr ?_
      intro M2 c1 c2 c3
      simp only [SS, List.cons_append, List.nil_append, B_Completion_pairAll_64, bI_01, true_and]
      have : prs rs fr fr 0 row = ovs (rs.getD fr dR) (rs.getD fr dR) row' := by rw [he]; rfl
      have q := hQ M2 (by rw [this]; exact c1) (hF.trans c2) (fun b j y1 y2 => (c3 b j y1 y2).trans (hK b j y1 y2))
      rw [this] at q
      exact q
    | succ m ih =>
      intro i row' M' l4 hi hC hF hK he
      have e1 : ¬ nI fr ≤ nI i := nI_ge (by omega) (by omega)
      have hi2 : i < rs.length := by omega
      obtain ⟨r1, v1, g1, -⟩ := hC.ru hi2
      obtain ⟨-, -, h3, h4⟩ := hC.1.lo
      have e2 : ixR M' (x + 9 + 1) (nI i) := ixR_of h3.2.2.1 (by omega) (by omega) (by omega)
      have e3 : cl (nI i) = i := cl_nI (by omega)
      simp only [B_Completion_pairAll_12, e1, if_false, hC.2.2.2.1, hC.2.2.2.2.1, h3.1, h3.2.1, e2, e3, g1, SS, r1.1, v1.2.2.1, bI_ne, true_and]
      cases hlv : (rs.getD i dR).2.2 with
      | false =>
        simp only [if_true, B_Completion_pairAll_58, SS, nI_i1]
        rw [G_Completion_pairAll_61]
        refine ih (i + 1) row' M' _ (by omega) hC hF hK ?_
        rw [he, prs, hlv, if_neg (by simp)]
      | true =>
        simp only [Bool.true_eq_false, if_false]
        refine k_pairOv hC hfr hi2 ?_
        intro M2 c1 c2 c3
        have F2 := hF.trans c2
        have K2 : Kp M M2 x := fun b j y1 y2 => (c3 b j y1 y2).trans (hK b j y1 y2)
        simp only [SS, List.cons_append, List.nil_append, B_Completion_pairAll_12, bI_ne]
        have hp : prs rs fr fr 0 row = _ := he.trans (by rw [prs, hlv, if_pos rfl])
        cases ho : (ovs (rs.getD fr dR) (rs.getD i dR) row').2 with
        | false =>
          rw [ho, if_neg (by simp)] at hp
          simp only [if_true, B_Completion_pairAll_56, true_or, true_and]
          have q := hQ M2 (by rw [hp]; exact c1) F2 K2
          rw [hp] at q
          exact q
        | true =>
          rw [ho, if_pos rfl] at hp
          simp only [Bool.true_eq_false, if_false, c1.2.2.2.1, true_and]
          refine k_pairOv c1 hi2 hfr ?_
          intro M3 c4 c5 c6
          have F3 := F2.trans c5
          have K3 : Kp M M3 x := fun b j y1 y2 => (c6 b j y1 y2).trans (K2 b j y1 y2)
          simp only [SS, List.cons_append, List.nil_append, B_Completion_pairAll_12, bI_ne]
          cases ho2 : (ovs (rs.getD i dR) (rs.getD fr dR) (ovs (rs.getD fr dR) (rs.getD i dR) row').1).2 with
          | false =>
            rw [ho2, if_neg (by simp)] at hp
            simp only [if_true, B_Completion_pairAll_56, true_or, true_and]
            have q := hQ M3 (by rw [hp]; exact c4) F3 K3
            rw [hp] at q
            exact q
          | true =>
            rw [ho2, if_pos rfl] at hp
            simp only [Bool.true_eq_false, if_false, B_Completion_pairAll_58, SS, nI_i1]
            rw [G_Completion_pairAll_61]
            exact ih (i + 1) _ M3 _ (by omega) c4 F3 K3 hp
  obtain ⟨-, -, h3, h4⟩ := h.1.lo
  obtain ⟨r1, v1, g1, -⟩ := h.ru hfr
  have e2 : ixR M (x + 9 + 1) (nI fr) := ixR_of h3.2.2.1 (by omega) (by omega) (by omega)
  have e3 : cl (nI fr) = fr := cl_nI (by omega)
  have e0 : (0 : Int32) = nI 0 := rfl
  simp only [B_Completion_pairAll_0, h.2.2.2.1, h.2.2.2.2.1, h3.1, h3.2.1, e2, e3, g1, SS, true_and]
  rw [e0]
  exact loop fr 0 row M jk (by omega) h Cfr.rfl (fun _ _ _ _ => rfl) rfl
