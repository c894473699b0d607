/-! the class's calls: what asks alone -/
theorem spw_ok {rs : List Ru} {k : Nat} : ∀ (m : Nat) (s : List Nat) (a : Nat), a < wy rs k m s → (spw rs k m s a).length = m ∧ ∀ c ∈ spw rs k m s a, c < k
  | 0, s, a, _ => ⟨rfl, fun c hc => by simp [spw] at hc⟩
  | m + 1, s, a, h => by
    obtain ⟨p1, p2, -⟩ := pick_lt h
    obtain ⟨i1, i2⟩ := spw_ok m _ _ p2
    refine ⟨by simp [spw, i1], fun c hc => ?_⟩
    rcases List.mem_cons.mp hc with e | e
    · rw [e]; exact p1
    · exact i2 c e
theorem elS_ok {rs : List Ru} {k : Nat} : ∀ (f n a : Nat) (w : List Nat), elS rs k f n a = some (some w) → w.length < n + f ∧ ∀ c ∈ w, c < k
  | 0, n, a, w, h => by simp [elS] at h
  | f + 1, n, a, w, h => by
    unfold elS at h
    split at h
    · cases h
    · split at h
      · rename_i q
        cases h
        obtain ⟨i1, i2⟩ := spw_ok n [] a q
        exact ⟨by omega, i2⟩
      · obtain ⟨i1, i2⟩ := elS_ok f (n + 1) _ w h
        exact ⟨by omega, i2⟩
theorem elt_ok {rs : List Ru} {k i : Nat} {w : List Nat} (h : elt rs k i = some (some w)) : w.length ≤ 80 ∧ ∀ c ∈ w, c < k := by
  unfold elt at h
  split at h
  · split at h
    · split at h <;> cases h
    · cases h
  · obtain ⟨i1, i2⟩ := elS_ok _ _ _ _ h
    exact ⟨by omega, i2⟩
theorem eltI_ok {rs : List Ru} {k : Nat} {i : Int32} {w : List Nat} (h : eltI rs k i = some (some w)) : w.length ≤ 80 ∧ ∀ c ∈ w, c < k := by
  unfold eltI at h
  split at h
  · cases h
  · exact elt_ok h
theorem elG_ok {σ : Sg} {i v : Int32} (h : SgI σ) : SgI (elG σ i v).2 := by
  unfold elG
  split
  · exact h
  · split
    · exact h
    · split
      · split
        · exact h
        · exact h
        · rename_i w hw
          exact h.set (eltI_ok hw).1 (eltI_ok hw).2
      · exact h
/-- the reference's cells -/
def md (x b : Nat) : Prop := x + 1064 ≤ b ∧ b < x + 1094
def Xfr (M M' : Mm) (x : Nat) : Prop := FrX (fun b => x ≤ b ∧ ¬ md x b) (fun b => x ≤ b ∧ ¬ md x b) M M'
def ClV (M : Mm) (x s0 : Nat) (σ : Sg) : Prop := Bas M x (sTp σ) (sLf σ) (sNm σ) (sSl σ) (sTd σ) ∧ Cor M x s0 (sRs σ) (sK σ) (sRow σ) (sT σ) (sS σ) (sSt σ) (sFo σ)
theorem Xfr.rfl {M : Mm} {x : Nat} : Xfr M M x := FrX.rfl
theorem Xfr.trans {M M1 M2 : Mm} {x : Nat} (h : Xfr M M1 x) (h2 : Xfr M1 M2 x) : Xfr M M2 x := FrX.trans h h2
theorem tS_x {x b : Nat} (h : tS x b) : x ≤ b ∧ ¬ md x b := by
  rcases h with q | q
  · exact ⟨by omega, fun z => by have := z.1; omega⟩
  · exact ⟨by omega, fun z => by have := z.2; omega⟩
theorem Ufr.xf {M M1 : Mm} {x : Nat} {P : Nat → Prop} (h : Ufr M M1 x P) (hp : ∀ b, P b → x ≤ b ∧ b < x + 1064) : Xfr M M1 x := FrX.weaken h (fun b _ q => q.elim tS_x (fun q => ⟨(hp b q).1, fun z => by have := z.1; have := (hp b q).2; omega⟩)) (fun b _ q => tS_x q)
theorem FrZ.xf {M M1 : Mm} {x : Nat} {S : Nat → Prop} (h : FrZ S M M1) (hp : ∀ b, S b → x ≤ b ∧ b < x + 1064) : Xfr M M1 x := Ufr.xf (P := S) h.u hp
theorem k_isSlot {M : Mm} {v : Int32} {Q : Option Value → Mm → Prop} : wp F_Mr_isSlot 0 [.int v] [] M Q = Q (some (.int (bI (oix 8 v).isSome))) M := by
  rcases oix_cases (n := 8) (by omega) v with ⟨j, hj, rfl, e⟩ | ⟨e, h | ⟨h1, h2⟩⟩
  · have e1 : ¬ nI j < 0 := nI_pos (by omega)
    have e2 : ¬ (8 : Int32) ≤ nI j := nI_ge (b := 8) hj (by omega)
    simp only [B_Mr_isSlot_0, B_Mr_isSlot_15, e, e1, e2, if_false, Option.isSome_some, bI, if_true, or_true, true_and]
  · simp only [B_Mr_isSlot_0, B_Mr_isSlot_14, B_Mr_isSlot_15, h, if_true, e, Option.isSome_none, bI, Bool.false_eq_true, if_false, true_or, true_and]
  · have h2 : (8 : Int32) ≤ v := h2
    simp only [B_Mr_isSlot_0, B_Mr_isSlot_14, B_Mr_isSlot_15, h1, h2, if_true, e, Option.isSome_none, bI, Bool.false_eq_true, if_false, true_or, true_and]
theorem k_isSide {M : Mm} {v : Int32} {Q : Option Value → Mm → Prop} : wp F_Mr_isSide 0 [.int v] [] M Q = Q (some (.int (bI (oix 2 v).isSome))) M := by
  by_cases h0 : v = 0
  · subst h0
    have e : oix 2 0 = some 0 := oix_in (n := 2) (j := 0) (by omega) (by omega)
    simp only [B_Mr_isSide_0, B_Mr_isSide_9, B_Mr_isSide_14, e, if_true, Option.isSome_some, bI, or_true, true_and]
  · by_cases h1 : v = 1
    · subst h1
      have e : oix 2 1 = some 1 := oix_in (n := 2) (j := 1) (by omega) (by omega)
      simp only [B_Mr_isSide_0, B_Mr_isSide_9, B_Mr_isSide_14, e, i10, if_false, if_true, Option.isSome_some, bI, or_true, true_and]
    · have e : oix 2 v = none := by
        rcases oix_cases (n := 2) (by omega) v with ⟨j, hj, e1, e⟩ | ⟨e, -⟩
        · rcases (show j = 0 ∨ j = 1 by omega) with z | z
          · subst z; exact absurd e1 h0
          · subst z; exact absurd e1 h1
        · exact e
      simp only [B_Mr_isSide_0, B_Mr_isSide_13, B_Mr_isSide_14, h0, h1, if_false, e, Option.isSome_none, bI, Bool.false_eq_true, true_or, true_and]
section CL
variable {M : Mm} {x s0 : Nat} {σ : Sg} {Q : Option Value → Mm → Prop}
theorem c_fault (h : ClV M x s0 σ) : wp F_Mr_fault 0 [.ref x] [] M Q = Q (some (.int (nI (sLf σ)))) M := by
  obtain ⟨⟨hS, hT, ⟨t1, t2⟩, -⟩, -⟩ := h
  simp only [B_Mr_fault_0, hS.1.1, t2, true_and]
theorem c_length {v : Int32} (h : ClV M x s0 σ) : wp F_Mr_length 0 [.ref x, .int v] [] M Q = Q (some (.int (lnG σ v))) M := by
  obtain ⟨⟨hS, -, -, -, hsl, -⟩, -⟩ := h
  obtain ⟨⟨m0, f0, f3, f4, f5, -⟩, ⟨b2, b8, -⟩, -, hslS, -⟩ := hS
  simp only [B_Mr_length_0]
  rw [k_isSlot]
  unfold lnG
  rcases oix_cases (n := 8) (by omega) v with ⟨j, hj, rfl, e⟩ | ⟨e, -⟩
  · obtain ⟨s1, s2⟩ := hslS j hj
    have e1 : ixR M (x + 8) (nI j) := ixR_of b8 (by omega) hj (by omega)
    simp only [SS, List.cons_append, List.nil_append, e, Option.isSome_some, bI, if_true, i10, if_false, B_Mr_length_0, B_Mr_length_21, m0, f5, e1, cl_nI (show j < 2147483648 by omega), s1, s2.1, (hsl j hj).1.1, true_and]
  · simp only [SS, List.cons_append, List.nil_append, e, Option.isSome_none, bI, Bool.false_eq_true, if_false, if_true, B_Mr_length_0, B_Mr_length_19, B_Mr_length_21]
theorem c_letter {v i : Int32} (h : ClV M x s0 σ) : wp F_Mr_letter 0 [.ref x, .int v, .int i] [] M Q = Q (some (.int (ltG σ v i))) M := by
  obtain ⟨⟨hS, -, -, -, hsl, -⟩, -⟩ := h
  obtain ⟨⟨m0, f0, f3, f4, f5, -⟩, ⟨b2, b8, -⟩, -, hslS, -⟩ := hS
  simp only [B_Mr_letter_0]
  rw [k_isSlot]
  unfold ltG
  rcases oix_cases (n := 8) (by omega) v with ⟨j, hj, rfl, e⟩ | ⟨e, -⟩
  · obtain ⟨s1, s2⟩ := hslS j hj
    have e1 : ixR M (x + 8) (nI j) := ixR_of b8 (by omega) hj (by omega)
    simp only [SS, List.cons_append, List.nil_append, e, Option.isSome_some, bI, if_true, i10, if_false, B_Mr_letter_0, m0, f5, e1, cl_nI (show j < 2147483648 by omega), s1, s2.1, true_and]
    rw [k_Word_at s2 (hsl j hj).1 (hsl j hj).2 (by omega)]
    simp only [SS, List.cons_append, List.nil_append, B_Mr_letter_0, B_Mr_letter_22]
  · simp only [SS, List.cons_append, List.nil_append, e, Option.isSome_none, bI, Bool.false_eq_true, if_false, if_true, B_Mr_letter_0, B_Mr_letter_20, B_Mr_letter_22]
theorem c_compare {a b : Int32} (h : ClV M x s0 σ) : wp F_Mr_compare 0 [.ref x, .int a, .int b] [] M Q = Q (some (.int (cmG σ a b))) M := by
  obtain ⟨⟨hS, -, -, -, hsl, -⟩, -⟩ := h
  obtain ⟨⟨m0, f0, f3, f4, f5, -⟩, ⟨b2, b8, -⟩, -, hslS, -⟩ := hS
  simp only [B_Mr_compare_0]
  rw [k_isSlot]
  unfold cmG
  rcases oix_cases (n := 8) (by omega) a with ⟨j, hj, rfl, e⟩ | ⟨e, -⟩
  · obtain ⟨s1, s2⟩ := hslS j hj
    have e1 : ixR M (x + 8) (nI j) := ixR_of b8 (by omega) hj (by omega)
    simp only [SS, List.cons_append, List.nil_append, e, Option.isSome_some, bI, if_true, i10, if_false, B_Mr_compare_0]
    rw [k_isSlot]
    rcases oix_cases (n := 8) (by omega) b with ⟨i, hi, rfl, e'⟩ | ⟨e', -⟩
    · obtain ⟨r1, r2⟩ := hslS i hi
      have e2 : ixR M (x + 8) (nI i) := ixR_of b8 (by omega) hi (by omega)
      simp only [SS, List.cons_append, List.nil_append, e', Option.isSome_some, bI, if_true, i10, if_false, B_Mr_compare_0, B_Mr_compare_17, m0, f5, e1, e2, cl_nI (show j < 2147483648 by omega), cl_nI (show i < 2147483648 by omega), s1, s2.1, r1, r2.1, true_and]
      rw [k_Word_against s2 r2 (hsl j hj).1 (hsl i hi).1 (hsl j hj).2 (hsl i hi).2 (by omega) (by omega)]
      simp only [SS, List.cons_append, List.nil_append, B_Mr_compare_17]
    · simp only [SS, List.cons_append, List.nil_append, e', Option.isSome_none, bI, Bool.false_eq_true, if_false, if_true, B_Mr_compare_0, B_Mr_compare_14]
  · simp only [SS, List.cons_append, List.nil_append, e, Option.isSome_none, bI, Bool.false_eq_true, if_false, if_true, B_Mr_compare_0, B_Mr_compare_14]
theorem c_step {i w : Int32} (h : ClV M x s0 σ) : wp F_Mr_step 0 [.ref x, .int i, .int w] [] M Q = Q (some (.int (spG σ i w))) M := by
  obtain ⟨⟨hS, -, -, -, -, h15, h300, hT⟩, -⟩ := h
  obtain ⟨⟨m0, f0, f3, f4, f5, f6, f7, f8, f9, f10, f11, f12, f13, f14, -⟩, ⟨b2, b8, b39, b40, -⟩, -⟩ := hS
  unfold spG
  rcases oix_cases (n := 2) (by omega) w with ⟨e0, he0, rfl, e⟩ | ⟨e, hw⟩
  · have w1 : ¬ nI e0 < 0 := nI_pos (by omega)
    have w2 : nI e0 ≤ (1 : Int32) := nI_le (b := 1) (by omega) (by omega)
    rcases oix_cases (n := (sTd σ).length) (by omega) i with ⟨j, hj, rfl, e'⟩ | ⟨e', hi | ⟨hi, hi2⟩⟩
    · have i1 : ¬ nI j < 0 := nI_pos (by omega)
      have i2 : nI j < nI (sTd σ).length := nI_lt hj (by omega)
      have x1 : ixI M (x + 1039) (nI j) := ixI_of b39 (by omega) (by omega)
      have x2 : ixI M (x + 1040) (nI j) := ixI_of b40 (by omega) (by omega)
      have tt := hT j hj (by omega)
      simp only [e, e', B_Mr_step_0, B_Mr_step_12, B_Mr_step_26, w1, w2, i1, i2, if_true, if_false, m0, h15, true_and, bN e0 (by omega)]
      by_cases z : e0 = 0
      · simp only [z, if_true, B_Mr_step_26, B_Mr_step_45, SS, m0, f13, x1, cl_nI (show j < 2147483648 by omega), tt.1, true_and]
      · simp only [z, if_false, B_Mr_step_39, B_Mr_step_45, SS, m0, f14, x2, cl_nI (show j < 2147483648 by omega), tt.2, true_and]
    · simp only [e, e', B_Mr_step_0, B_Mr_step_12, B_Mr_step_24, w1, w2, hi, if_true, if_false]
    · have i2 : ¬ i < nI (sTd σ).length := Int32.not_lt.mpr hi2
      simp only [e, e', B_Mr_step_0, B_Mr_step_12, B_Mr_step_24, w1, w2, hi, i2, if_true, if_false, m0, h15, true_and]
  · rcases hw with hw | ⟨hw, hw2⟩
    · simp only [e, B_Mr_step_0, B_Mr_step_9, hw, if_true]
    · have w2 : ¬ w ≤ (1 : Int32) := by
        intro q
        have a1 := Int32.le_iff_toInt_le.mp q
        have a2 := Int32.le_iff_toInt_le.mp hw2
        rw [nI_toInt (show 2 < 2 ^ 31 by omega)] at a2
        have : (1 : Int32).toInt = 1 := rfl
        omega
      simp only [e, B_Mr_step_0, B_Mr_step_9, hw, w2, if_false]
theorem c_rule {v w : Int32} (h : ClV M x s0 σ) : wp F_Mr_rule 0 [.ref x, .int v, .int w] [] M Q = Q (some (.int (ruG σ v w))) M := by
  obtain ⟨⟨hS, -⟩, f, kn, cr, tk, hC, -⟩ := h
  obtain ⟨⟨m0, f0, f3, f4, f5, f6, -⟩, -⟩ := hS
  obtain ⟨-, hwf, hR, hV⟩ := hC.1.lo
  have hl := hV.2.1
  simp only [B_Mr_rule_0, SS, m0, f6, hR.1, true_and]
  rw [k_has hR hV]
  unfold ruG
  rcases oix_cases (n := (sRs σ).length) (by omega) v with ⟨j, hj, rfl, e⟩ | ⟨e, hv⟩
  · obtain ⟨r1, r2, r3, r4⟩ := hC.ru hj
    have x1 : ixR M (x + 9 + 1) (nI j) := ixR_of hR.2.2.1 (by omega) r4 (by omega)
    rw [hasR_in hj hl]
    simp only [SS, List.cons_append, List.nil_append, bI, if_true, i10, if_false, B_Mr_rule_0, e]
    rcases oix_cases (n := 3) (by omega) w with ⟨i, hi, rfl, e'⟩ | ⟨e', hw⟩
    · rcases (show i = 0 ∨ i = 1 ∨ i = 2 by omega) with rfl | rfl | rfl
      · have z : nI 0 = 0 := rfl
        rw [z] at e'
        simp only [e', z, B_Mr_rule_14, B_Mr_rule_40, B_Mr_rule_59, B_Mr_rule_60, SS, m0, f6, hR.1, hR.2.1, x1, cl_nI (show j < 2147483648 by omega), r3, r1.1, r2.2.2.1, true_and]
        cases ((sRs σ).getD j dR).2.2 <;> simp [bI]
      · have z : nI 1 = 1 := rfl
        rw [z] at e'
        simp only [e', z, B_Mr_rule_14, B_Mr_rule_61, SS, m0, f6, hR.1, hR.2.1, x1, cl_nI (show j < 2147483648 by omega), r3, r1.1, r1.2.1, r1.2.2.2.1.1, r2.1.1, true_and]
      · have z : nI 2 = 2 := rfl
        rw [z] at e'
        simp only [e', z, B_Mr_rule_14, B_Mr_rule_77, SS, m0, f6, hR.1, hR.2.1, x1, cl_nI (show j < 2147483648 by omega), r3, r1.1, r1.2.2.1, r1.2.2.2.2.1, r2.2.1.1, true_and]
    · have hsw : w.toInt < 0 ∨ 2 < w.toInt := by
        rcases hw with hw | ⟨-, hw⟩
        · have := Int32.lt_iff_toInt_lt.mp hw
          have e : (0 : Int32).toInt = 0 := rfl
          exact Or.inl (by omega)
        · have a2 := Int32.le_iff_toInt_le.mp hw
          rw [nI_toInt (show 3 < 2 ^ 31 by omega)] at a2
          exact Or.inr (by omega)
      simp only [e', B_Mr_rule_14]
      rw [sw_Mr_rule_15 _ _ _ _ _ _ _ hsw]
      simp only [B_Mr_rule_93]
  · have : hasR (sRs σ) v = false := by
      rcases hv with hv | ⟨-, hv⟩
      · exact hasR_neg hv
      · exact hasR_big hv hl
    rw [this]
    simp only [SS, List.cons_append, List.nil_append, bI, Bool.false_eq_true, if_false, if_true, B_Mr_rule_0, e]
theorem c_ruleLetter {v s i : Int32} (h : ClV M x s0 σ) : wp F_Mr_ruleLetter 0 [.ref x, .int v, .int s, .int i, jk] [] M Q = Q (some (.int (rlG σ v s i))) M := by
  obtain ⟨⟨hS, -⟩, f, kn, cr, tk, hC, -⟩ := h
  obtain ⟨⟨m0, f0, f3, f4, f5, f6, -⟩, -⟩ := hS
  obtain ⟨-, hwf, hR, hV⟩ := hC.1.lo
  have hl := hV.2.1
  simp only [B_Mr_ruleLetter_0, SS, m0, f6, hR.1, true_and]
  rw [k_has hR hV]
  unfold rlG
  rcases oix_cases (n := (sRs σ).length) (by omega) v with ⟨j, hj, rfl, e⟩ | ⟨e, hv⟩
  · obtain ⟨r1, r2, r3, r4⟩ := hC.ru hj
    have x1 : ixR M (x + 9 + 1) (nI j) := ixR_of hR.2.2.1 (by omega) r4 (by omega)
    rw [hasR_in hj hl]
    simp only [SS, List.cons_append, List.nil_append, bI, if_true, i10, if_false, B_Mr_ruleLetter_0, e]
    rw [k_isSide]
    rcases oix_cases (n := 2) (by omega) s with ⟨w, hw, rfl, e'⟩ | ⟨e', hw⟩
    · rcases (show w = 0 ∨ w = 1 by omega) with rfl | rfl
      · have z : nI 0 = 0 := rfl
        rw [z] at e'
        simp only [e', z, Option.isSome_some, bI, if_true, i10, if_false, SS, List.cons_append, List.nil_append, B_Mr_ruleLetter_0, B_Mr_ruleLetter_21, m0, f6, hR.1, hR.2.1, x1, cl_nI (show j < 2147483648 by omega), r3, r1.1, r1.2.1, r1.2.2.2.1.1, true_and]
        rw [k_Word_at r1.2.2.2.1 r2.1 r2.2.2.2.1 (by omega)]
        simp only [SS, List.cons_append, List.nil_append, B_Mr_ruleLetter_21, B_Mr_ruleLetter_57]
      · have z : nI 1 = 1 := rfl
        rw [z] at e'
        simp only [e', z, Option.isSome_some, bI, if_true, i10, if_false, SS, List.cons_append, List.nil_append, B_Mr_ruleLetter_0, B_Mr_ruleLetter_21, B_Mr_ruleLetter_48, m0, f6, hR.1, hR.2.1, x1, cl_nI (show j < 2147483648 by omega), r3, r1.1, r1.2.2.1, r1.2.2.2.2.1, true_and]
        rw [k_Word_at r1.2.2.2.2 r2.2.1 r2.2.2.2.2 (by omega)]
        simp only [SS, List.cons_append, List.nil_append, B_Mr_ruleLetter_48, B_Mr_ruleLetter_57]
    · simp only [e', Option.isSome_none, bI, Bool.false_eq_true, if_false, if_true, SS, List.cons_append, List.nil_append, B_Mr_ruleLetter_0, B_Mr_ruleLetter_18]
  · have : hasR (sRs σ) v = false := by
      rcases hv with hv | ⟨-, hv⟩
      · exact hasR_neg hv
      · exact hasR_big hv hl
    rw [this]
    simp only [SS, List.cons_append, List.nil_append, bI, Bool.false_eq_true, if_false, if_true, B_Mr_ruleLetter_0, B_Mr_ruleLetter_18, e]
theorem c_waiting {v s i : Int32} (h : ClV M x s0 σ) (hQ : Q (some (.int (waG σ v s i))) M) : wp F_Mr_waiting 0 [.ref x, .int v, .int s, .int i, jk] [] M Q := by
  obtain ⟨⟨hS, -⟩, f, kn, cr, tk, hC, -⟩ := h
  obtain ⟨⟨m0, f0, f3, f4, f5, f6, f7, -⟩, -⟩ := hS
  obtain ⟨-, hRS, hRV, -⟩ := hC
  have hl := hRV.2.2.2.1
  simp only [B_Mr_waiting_0, SS, m0, f7, hRS.1, true_and]
  unfold waG at hQ
  refine k_Row_at hRS hRV ?_ ?_
  · intro hv
    have e : oix (sRow σ).length v = none := by
      rcases hv with hv | hv
      · exact oix_neg hv
      · exact oix_big hv (by omega)
    simp only [e] at hQ
    simp only [SS, List.cons_append, List.nil_append, B_Mr_waiting_0, B_Mr_waiting_22]
    exact hQ
  · intro j p hj hv hp pv
    subst hv
    have e : oix (sRow σ).length (nI j) = some j := oix_in hj (by omega)
    simp only [e] at hQ
    obtain ⟨hpS, -, -⟩ := hRS.2.2.2.2.1 _ _ (Nat.mod_lt _ (by omega)) hp
    simp only [SS, List.cons_append, List.nil_append, B_Mr_waiting_0]
    rw [k_isSide]
    rcases oix_cases (n := 2) (by omega) s with ⟨w, hw, rfl, e'⟩ | ⟨e', hw⟩
    · rcases (show w = 0 ∨ w = 1 by omega) with rfl | rfl
      · have z : nI 0 = 0 := rfl
        simp only [e'] at hQ
        simp only [e', z, Option.isSome_some, bI, if_true, i10, if_false, SS, List.cons_append, List.nil_append, B_Mr_waiting_0, B_Mr_waiting_25, hpS.1, hpS.2.1, hpS.2.2.2.1.1, true_and]
        rw [k_Word_at hpS.2.2.2.1 pv.1 pv.2.2.1 (by omega)]
        simp only [SS, List.cons_append, List.nil_append, B_Mr_waiting_25, B_Mr_waiting_50]
        exact hQ
      · have z : nI 1 = 1 := rfl
        simp only [e'] at hQ
        simp only [e', z, Option.isSome_some, bI, if_true, i10, if_false, SS, List.cons_append, List.nil_append, B_Mr_waiting_0, B_Mr_waiting_25, B_Mr_waiting_41, hpS.1, hpS.2.2.1, hpS.2.2.2.2.1, true_and]
        rw [k_Word_at hpS.2.2.2.2 pv.2.1 pv.2.2.2 (by omega)]
        simp only [SS, List.cons_append, List.nil_append, B_Mr_waiting_41, B_Mr_waiting_50]
        exact hQ
    · simp only [e'] at hQ
      simp only [e', Option.isSome_none, bI, Bool.false_eq_true, if_false, if_true, SS, List.cons_append, List.nil_append, B_Mr_waiting_0, B_Mr_waiting_22]
      exact hQ
theorem c_overlap {v : Int32} (h : ClV M x s0 σ) : wp F_Mr_overlap 0 [.ref x, .int v] [] M Q = Q (some (.int (ovG σ v))) M := by
  obtain ⟨⟨hS, -⟩, f, kn, cr, tk, hC, -, hF, -⟩ := h
  obtain ⟨⟨m0, f0, f3, f4, f5, f6, f7, f8, f9, f10, f11, -⟩, -⟩ := hS
  obtain ⟨g1, ⟨g2, g3⟩, -⟩ := hF
  unfold ovG
  rcases oix_cases (n := 3) (by omega) v with ⟨j, hj, rfl, e⟩ | ⟨e, hv⟩
  · have w1 : ¬ nI j < 0 := nI_pos (by omega)
    have w2 : nI j ≤ (2 : Int32) := nI_le (b := 2) (by omega) (by omega)
    simp only [e, B_Mr_overlap_0, B_Mr_overlap_12, w1, w2, if_true, if_false, SS, m0, f11, g1.1, g2, true_and]
    cases hq : sFo σ with
    | none => simp only [hq, Option.isSome_none, bI, Bool.false_eq_true, if_false, if_true, B_Mr_overlap_12]
    | some q =>
      obtain ⟨q1, q2, q3⟩ := g3 q hq
      simp only [hq, Option.isSome_some, bI, if_true, i10, if_false]
      rcases (show j = 0 ∨ j = 1 ∨ j = 2 by omega) with rfl | rfl | rfl
      · have z : nI 0 = 0 := rfl
        simp only [z, if_true, B_Mr_overlap_24, SS, m0, f11, g1.1, q1, true_and]
      · have z : nI 1 = 1 := rfl
        simp only [z, if_true, i10, if_false, B_Mr_overlap_24, B_Mr_overlap_36, B_Mr_overlap_58, SS, m0, f11, g1.1, q2, true_and, show ¬ (1 : Nat) = 0 by omega]
      · have z : nI 2 = 2 := rfl
        simp only [z, if_false, B_Mr_overlap_24, B_Mr_overlap_36, B_Mr_overlap_51, B_Mr_overlap_58, SS, m0, f11, g1.1, q3, true_and, show ¬ (2 : Nat) = 0 by omega, show ¬ (2 : Nat) = 1 by omega, show ¬ (2 : Int32) = 0 by decide, show ¬ (2 : Int32) = 1 by decide]
  · rcases hv with hw | ⟨hw, hw2⟩
    · simp only [e, B_Mr_overlap_0, B_Mr_overlap_9, hw, if_true]
    · have w2 : ¬ v ≤ (2 : Int32) := by
        intro q
        have a1 := Int32.le_iff_toInt_le.mp q
        have a2 := Int32.le_iff_toInt_le.mp hw2
        rw [nI_toInt (show 3 < 2 ^ 31 by omega)] at a2
        have : (2 : Int32).toInt = 2 := rfl
        omega
      simp only [e, B_Mr_overlap_0, B_Mr_overlap_9, hw, w2, if_false]
theorem c_count {v : Int32} (h : ClV M x s0 σ) : wp F_Mr_count 0 [.ref x, .int v] [] M Q = Q (some (.int (ctG σ v))) M := by
  obtain ⟨⟨hS, -⟩, f, kn, cr, tk, hC, hN, -⟩ := h
  obtain ⟨⟨m0, f0, f3, f4, f5, f6, f7, f8, f9, f10, -⟩, -⟩ := hS
  obtain ⟨-, hwf, hR, hV⟩ := hC.1.lo
  obtain ⟨A, B, C, D, cap, -, -, -, -, -, -, hk, -⟩ := hC.1
  unfold ctG
  rcases oix_cases (n := 8) (by omega) v with ⟨j, hj, rfl, e⟩ | ⟨e, hv⟩
  · rcases (show j = 0 ∨ j = 1 ∨ j = 2 ∨ j = 3 ∨ j = 4 ∨ j = 5 ∨ j = 6 ∨ j = 7 by omega) with rfl | rfl | rfl | rfl | rfl | rfl | rfl | rfl
    · have z : nI 0 = 0 := rfl
      simp only [e]
      simp only [z, B_Mr_count_0, B_Mr_count_48, SS, m0, f6, hR.1, hk, true_and]
    · have z : nI 1 = 1 := rfl
      simp only [e]
      simp only [z, B_Mr_count_0, B_Mr_count_56, SS, m0, f6, hR.1, hV.1, true_and]
    · have z : nI 2 = 2 := rfl
      simp only [e]
      simp only [z, B_Mr_count_0, B_Mr_count_64, SS, m0, f6, hR.1, true_and]
      rw [k_liveOnes hR hV]
      simp only [SS, List.cons_append, List.nil_append, B_Mr_count_64]
    · have z : nI 3 = 3 := rfl
      simp only [e]
      simp only [z, B_Mr_count_0, B_Mr_count_72, SS, m0, f7, hC.2.1.1, hC.2.2.1.2.2.1, true_and]
    · have z : nI 4 = 4 := rfl
      simp only [e]
      simp only [z, B_Mr_count_0, B_Mr_count_80, SS, m0, f10, hC.2.2.2.1, hN.1, true_and]
    · have z : nI 5 = 5 := rfl
      simp only [e]
      simp only [z, B_Mr_count_0, B_Mr_count_88, SS, m0, f10, hC.2.2.2.1, true_and]
      rw [k_isDone hC hN]
      simp only [SS, List.cons_append, List.nil_append, B_Mr_count_88, sDn]
      cases (!sSt σ && (sRow σ).isEmpty) <;> simp [bI, B_Mr_count_88, B_Mr_count_102, B_Mr_count_103]
    · have z : nI 6 = 6 := rfl
      simp only [e]
      simp only [z, B_Mr_count_0, B_Mr_count_104, SS, m0, f10, hC.2.2.2.1, hN.2.2, true_and]
      cases sSt σ <;> simp [bI, B_Mr_count_104, B_Mr_count_118, B_Mr_count_119]
    · have z : nI 7 = 7 := rfl
      simp only [e]
      simp only [z, B_Mr_count_0, B_Mr_count_120, SS, m0, f10, hC.2.2.2.1, hN.2.1, true_and]
  · have hsw : v.toInt < 0 ∨ 7 < v.toInt := by
      rcases hv with hw | ⟨-, hw⟩
      · have := Int32.lt_iff_toInt_lt.mp hw
        have e : (0 : Int32).toInt = 0 := rfl
        exact Or.inl (by omega)
      · have a2 := Int32.le_iff_toInt_le.mp hw
        rw [nI_toInt (show 8 < 2 ^ 31 by omega)] at a2
        exact Or.inr (by omega)
    simp only [e, B_Mr_count_0]
    rw [sw_Mr_count_1 _ _ _ _ _ _ hsw]
    simp only [B_Mr_count_128]
end CL
