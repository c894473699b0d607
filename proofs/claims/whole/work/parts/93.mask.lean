/-! the reference's state; its asking calls -/
def CnV (M : Mm) (m : Nat) (rs : List Ru) (k : Nat) : Prop := (∃ (N : Nat) (str : Nat → List Nat), 1 ≤ N ∧ N ≤ 12001 ∧ str 0 = [] ∧ (∀ n e, n < N → e < k → ∃ q, q < N ∧ gI M (m + 22) (8 * n + e) = nI q ∧ str q = lsuf rs (str n ++ [e])) ∧ ∀ r n, r ≤ 80 → n < N → gJ M (m + 27) (12001 * r + n) = lN (cp (wy rs k r (str n)))) ∧ gI M m 53 = bI (tot rs k).isNone ∧ ∀ v, tot rs k = some v → gJ M m 54 = lN (cp v)
def CdV (M : Mm) (m : Nat) (rs : List Ru) (k : Nat) (row : List Pr) (st : Bool) : Prop := ∃ cd, gI M m 52 = bI cd ∧ (cd = true → row = [] ∧ st = false ∧ CnV M m rs k)
def MdV (M : Mm) (m : Nat) (σ : Sg) : Prop := MdS M m ∧ TpM M m (sTp σ) ∧ (gI M m 7 = nI (sLf σ) ∧ gI M m 11 = nI (sK σ) ∧ NmV M (m + 3) (sNm σ)) ∧ RuM M m (sRs σ) ∧ (∃ f, RoM M m f (sRow σ)) ∧ NuM M m (sS σ) (sT σ) (sSt σ) ∧ OvM M m (sFo σ) ∧ SlM M m (sSl σ) ∧ TdM M m (sTd σ) ∧ CdV M m (sRs σ) (sK σ) (sRow σ) (sSt σ)
def scF (j : Nat) : Prop := j = 0 ∨ (3 ≤ j ∧ j ≤ 6) ∨ j = 10 ∨ j = 14 ∨ j = 31 ∨ j = 37 ∨ j = 38
def scC (m b : Nat) : Prop := b = m ∨ b = m + 2 ∨ (m + 4 ≤ b ∧ b ≤ m + 6) ∨ b = m + 14 ∨ b = m + 15 ∨ b = m + 18 ∨ b = m + 19 ∨ b = m + 29
/-- what of the state isn't touched -/
def Scr (M M1 : Mm) (m : Nat) : Prop := FrZ (scC m) M M1 ∧ (∀ j, ¬ scF j → gI M1 m j = gI M m j) ∧ ∀ j, gJ M1 m j = gJ M m j
def Yfr (M M' : Mm) (m : Nat) : Prop := FrZ (fun b => m ≤ b ∧ b < m + 30) M M'
theorem Scr.y {M M1 : Mm} {m : Nat} (h : Scr M M1 m) : Yfr M M1 m := h.1.weaken (fun b q => by unfold scC at q; omega)
theorem Scr.rfl {M : Mm} {m : Nat} : Scr M M m := ⟨FrZ.rfl, fun _ _ => Eq.refl _, fun _ => Eq.refl _⟩
theorem Scr.trans {M M1 M2 : Mm} {m : Nat} (h : Scr M M1 m) (h2 : Scr M1 M2 m) : Scr M M2 m := ⟨h.1.trans h2.1, fun j hj => (h2.2.1 j hj).trans (h.2.1 j hj), fun j => (h2.2.2 j).trans (h.2.2 j)⟩
theorem Yfr.trans {M M1 M2 : Mm} {m : Nat} (h : Yfr M M1 m) (h2 : Yfr M1 M2 m) : Yfr M M2 m := FrZ.trans h h2
theorem Yfr.rfl {M : Mm} {m : Nat} : Yfr M M m := FrZ.rfl
theorem scr_of {M M1 : Mm} {m : Nat} {S : Nat → Prop} (h : FrS S M M1) (hs : ∀ b, S b → scC m b) (hf : ∀ j, ¬ scF j → gI M1 m j = gI M m j) : Scr M M1 m := ⟨h.z.weaken hs, hf, fun j => h.gJ _ _⟩
theorem scr_0 {M : Mm} {m : Nat} {v : Int32} {j : Nat} (hj : scF j) : Scr M (sI M m j v) m := scr_of (FrS.sI (S := fun b => b = m) (Eq.refl _)) (fun b q => Or.inl q) (fun i hi => by rw [gI_sI, if_neg (fun (q : m = m ∧ i = j) => hi (q.2 ▸ hj))])
section EQ
variable {M M1 : Mm} {m : Nat}
theorem TpM.eq {tp : List Nat} (h : TpM M m tp) (e : gI M1 m 2 = gI M m 2) (e1 : ∀ j, gI M1 (m + 1) j = gI M (m + 1) j) : TpM M1 m tp := ⟨e.trans h.1, h.2.eq e1⟩
theorem RoM.eq {f : Nat} {row : List Pr} (h : RoM M m f row) (e24 : gI M1 m 24 = gI M m 24) (e25 : gI M1 m 25 = gI M m 25) (e1 : ∀ j, gI M1 (m + 12) j = gI M (m + 12) j) (e2 : ∀ j, gI M1 (m + 13) j = gI M (m + 13) j) : RoM M1 m f row := ⟨e24.trans h.1, h.2.1, e25.trans h.2.2.1, h.2.2.2.1, fun k hk => by
  obtain ⟨g1, g2, g3, g4⟩ := h.2.2.2.2 k hk
  exact ⟨(e2 _).trans g1, (e2 _).trans g2, g3.eq e1, g4.eq e1⟩⟩
theorem NuM.eq {s t : Nat} {st : Bool} (h : NuM M m s t st) (e26 : gI M1 m 26 = gI M m 26) (e27 : gI M1 m 27 = gI M m 27) (e28 : gI M1 m 28 = gI M m 28) : NuM M1 m s t st := ⟨e26.trans h.1, e27.trans h.2.1, e28.trans h.2.2⟩
theorem OvM.eq {fo : Option (Nat × Nat × Nat)} (h : OvM M m fo) (e1 : gI M1 m 39 = gI M m 39) (e2 : gI M1 m 40 = gI M m 40) (e3 : gI M1 m 41 = gI M m 41) : OvM M1 m fo := by
  cases fo with
  | none => exact e1.trans h
  | some q => exact ⟨e1.trans h.1, e2.trans h.2.1, e3.trans h.2.2⟩
theorem SlM.eq {sl : Nat → List Nat} (h : SlM M m sl) (e1 : ∀ j, gI M1 (m + 20) j = gI M (m + 20) j) (e2 : ∀ j, gI M1 (m + 21) j = gI M (m + 21) j) : SlM M1 m sl := fun i hi => ⟨(e2 _).trans (h i hi).1, (h i hi).2.eq e1⟩
theorem TdM.eq {td : List (Nat × Nat)} (h : TdM M m td) (e : gI M1 m 36 = gI M m 36) (e1 : ∀ j, gI M1 (m + 16) j = gI M (m + 16) j) (e2 : ∀ j, gI M1 (m + 17) j = gI M (m + 17) j) : TdM M1 m td := ⟨e.trans h.1, fun j h1 h2 => ⟨(e1 j).trans (h.2 j h1 h2).1, (e2 j).trans (h.2 j h1 h2).2⟩⟩
theorem CnV.eq {rs : List Ru} {k : Nat} (h : CnV M m rs k) (e : gI M1 m 53 = gI M m 53) (e1 : ∀ j, gJ M1 m j = gJ M m j) (e2 : ∀ j, gI M1 (m + 22) j = gI M (m + 22) j) (e3 : ∀ j, gJ M1 (m + 27) j = gJ M (m + 27) j) : CnV M1 m rs k := by
  obtain ⟨⟨N, str, a1, a2, a3, a4, a5⟩, a6, a7⟩ := h
  exact ⟨⟨N, str, a1, a2, a3, fun n e h1 h2 => by
    obtain ⟨q, q1, q2, q3⟩ := a4 n e h1 h2
    exact ⟨q, q1, (e2 _).trans q2, q3⟩, fun r n h1 h2 => (e3 _).trans (a5 r n h1 h2)⟩, e.trans a6, fun v hv => (e1 _).trans (a7 v hv)⟩
theorem CdV.eq {rs : List Ru} {k : Nat} {row : List Pr} {st : Bool} (h : CdV M m rs k row st) (e0 : gI M1 m 52 = gI M m 52) (e : gI M1 m 53 = gI M m 53) (e1 : ∀ j, gJ M1 m j = gJ M m j) (e2 : ∀ j, gI M1 (m + 22) j = gI M (m + 22) j) (e3 : ∀ j, gJ M1 (m + 27) j = gJ M (m + 27) j) : CdV M1 m rs k row st := by
  obtain ⟨cd, h1, h2⟩ := h
  exact ⟨cd, e0.trans h1, fun q => ⟨(h2 q).1, (h2 q).2.1, (h2 q).2.2.eq e e1 e2 e3⟩⟩
theorem Scr.cI (h : Scr M M1 m) {b : Nat} (hb : ¬ scC m b) (j : Nat) : gI M1 b j = gI M b j := (h.1.2.2.2.2 b hb).1 j
theorem Scr.cJ (h : Scr M M1 m) {b : Nat} (hb : ¬ scC m b) (j : Nat) : gJ M1 b j = gJ M b j := (h.1.2.2.2.2 b hb).2 j
theorem MdV.scr {σ : Sg} (h : MdV M m σ) (s : Scr M M1 m) : MdV M1 m σ := by
  obtain ⟨a1, a2, ⟨a3, a4, a5⟩, a6, ⟨f, a7⟩, a8, a9, a10, a11, a12⟩ := h
  have g : ∀ j, ¬ scF j → gI M1 m j = gI M m j := s.2.1
  have c : ∀ b, ¬ scC m b → ∀ j, gI M1 b j = gI M b j := fun b hb j => s.cI hb j
  have nF : ∀ j, j = 2 ∨ j = 7 ∨ j = 11 ∨ (20 ≤ j ∧ j ≤ 30) ∨ (32 ≤ j ∧ j ≤ 36) ∨ 39 ≤ j → ¬ scF j := fun j hj q => by unfold scF at q; omega
  have nC : ∀ b, b = m + 1 ∨ b = m + 3 ∨ (m + 7 ≤ b ∧ b ≤ m + 13) ∨ b = m + 16 ∨ b = m + 17 ∨ (m + 20 ≤ b ∧ b ≤ m + 28) → ¬ scC m b := fun b hb q => by unfold scC at q; omega
  exact ⟨a1.z s.1, a2.eq (g _ (nF _ (by omega))) (c _ (nC _ (by omega))), ⟨(g _ (nF _ (by omega))).trans a3, (g _ (nF _ (by omega))).trans a4, fun j hj => (c _ (nC _ (by omega)) _).trans (a5 j hj)⟩, a6.eq (g _ (nF _ (by omega))) (fun b h1 h2 => c b (nC _ (by omega))), ⟨f, a7.eq (g _ (nF _ (by omega))) (g _ (nF _ (by omega))) (c _ (nC _ (by omega))) (c _ (nC _ (by omega)))⟩, a8.eq (g _ (nF _ (by omega))) (g _ (nF _ (by omega))) (g _ (nF _ (by omega))), a9.eq (g _ (nF _ (by omega))) (g _ (nF _ (by omega))) (g _ (nF _ (by omega))), a10.eq (c _ (nC _ (by omega))) (c _ (nC _ (by omega))), a11.eq (g _ (nF _ (by omega))) (c _ (nC _ (by omega))) (c _ (nC _ (by omega))), a12.eq (g _ (nF _ (by omega))) (g _ (nF _ (by omega))) s.2.2 (c _ (nC _ (by omega))) (fun j => s.cJ (nC _ (by omega)) j)⟩
end EQ
theorem atW_oix {l : List Nat} {i : Int32} (hl : l.length < 2147483648) : atW l i = match oix l.length i with | none => -1 | some j => nI (l.getD j 0) := by
  rcases oix_cases hl i with ⟨j, hj, rfl, e⟩ | ⟨e, h | ⟨-, h⟩⟩
  · rw [e]; exact atW_in hj hl
  · rw [e]; exact atW_neg h
  · rw [e]; exact atW_big h hl
section MC
variable {M : Mm} {m : Nat} {σ : Sg} {Q : Option Value → Mm → Prop}
theorem m_fault (h : MdV M m σ) (hQ : ∀ M', MdV M' m σ → Yfr M M' m → Q (some (.int (nI (sLf σ)))) M') : wp F_Md_fault 0 [.ref m] [] M Q := by
  have s : Scr M (sI M m 0 0) m := scr_0 (Or.inl rfl)
  have h' := h.scr s
  simp only [B_Md_fault_0, SS, h.1.1, true_and, h'.2.2.1.1]
  exact hQ _ h' s.y
theorem m_length {v : Int32} (h : MdV M m σ) (hQ : ∀ M', MdV M' m σ → Yfr M M' m → Q (some (.int (lnG σ v))) M') : wp F_Md_length 0 [.ref m, .int v] [] M Q := by
  have s : Scr M (sI M m 0 0) m := scr_0 (Or.inl rfl)
  have h' := h.scr s
  have hQ := hQ _ h' s.y
  unfold lnG at hQ
  simp only [B_Md_length_0, h.1.1, true_and]
  generalize sI M m 0 0 = M0 at h' hQ
  rw [k_mSlot]
  rcases oix_cases (n := 8) (by omega) v with ⟨j, hj, rfl, e⟩ | ⟨e, -⟩
  · rw [e] at hQ
    have x1 : ixI M0 (m + 21) (nI j) := ixI_of h'.1.slotSize.2 hj (by omega)
    simp only [SS, List.cons_append, List.nil_append, e, Option.isSome_some, bI, if_true, i10, if_false, B_Md_length_0, B_Md_length_23, h'.1.1, h'.1.slotSize.1, x1, cl_nI (show j < 2147483648 by omega), (h'.2.2.2.2.2.2.2.1 j hj).1, true_and]
    exact hQ
  · rw [e] at hQ
    simp only [SS, List.cons_append, List.nil_append, e, Option.isSome_none, bI, Bool.false_eq_true, if_false, if_true, B_Md_length_0, B_Md_length_21, B_Md_length_23]
    exact hQ
theorem m_letter {v i : Int32} (h : MdV M m σ) (hI : SgI σ) (hQ : ∀ M', MdV M' m σ → Yfr M M' m → Q (some (.int (ltG σ v i))) M') : wp F_Md_letter 0 [.ref m, .int v, .int i] [] M Q := by
  have s : Scr M (sI M m 0 0) m := scr_0 (Or.inl rfl)
  have h' := h.scr s
  have hQ := hQ _ h' s.y
  unfold ltG at hQ
  simp only [B_Md_letter_0, h.1.1, true_and]
  generalize sI M m 0 0 = M0 at h' hQ
  rw [k_mSlot]
  rcases oix_cases (n := 8) (by omega) v with ⟨j, hj, rfl, e⟩ | ⟨e, -⟩
  · rw [e] at hQ
    try dsimp only at hQ
    have x1 : ixI M0 (m + 21) (nI j) := ixI_of h'.1.slotSize.2 hj (by omega)
    obtain ⟨g1, g2⟩ := h'.2.2.2.2.2.2.2.1 j hj
    have l80 := (hI.2.1 j hj).1
    simp only [SS, List.cons_append, List.nil_append, e, Option.isSome_some, bI, if_true, i10, if_false, B_Md_letter_0, B_Md_letter_17, h'.1.1, h'.1.slotSize.1, x1, cl_nI (show j < 2147483648 by omega), g1, true_and]
    rw [k_in, in_oix (n := (sSl σ j).length) (by omega) (pred_toInt (by omega))]
    rw [atW_oix (by omega)] at hQ
    simp only [SS, List.cons_append, List.nil_append, B_Md_letter_17]
    rcases oix_cases (n := (sSl σ j).length) (by omega) i with ⟨p, hp, rfl, e'⟩ | ⟨e', -⟩
    · rw [e'] at hQ
      have c80 : (80 : Int32) = nI 80 := rfl
      have x2 : ixI M0 (m + 20) (nI (80 * j + p)) := ixI_of h'.1.slots.2 (by omega) (by omega)
      simp only [e', Option.isSome_some, bI, if_true, i10, if_false, B_Md_letter_17, B_Md_letter_50, SS, h'.1.1, h'.1.slots.1, c80, pk_mul, nI_add, x2, cl_nI (show 80 * j + p < 2147483648 by omega), g2 p hp, true_and]
      exact hQ
    · rw [e'] at hQ
      simp only [e', Option.isSome_none, bI, Bool.false_eq_true, if_false, if_true, B_Md_letter_49, B_Md_letter_50]
      exact hQ
  · rw [e] at hQ
    simp only [SS, List.cons_append, List.nil_append, e, Option.isSome_none, bI, Bool.false_eq_true, if_false, if_true, B_Md_letter_0, B_Md_letter_50]
    exact hQ
theorem m_compare {a b : Int32} (h : MdV M m σ) (hI : SgI σ) (hQ : ∀ M', MdV M' m σ → Yfr M M' m → Q (some (.int (cmG σ a b))) M') : wp F_Md_compare 0 [.ref m, .int a, .int b] [] M Q := by
  have s : Scr M (sI M m 0 0) m := scr_0 (Or.inl rfl)
  have h' := h.scr s
  have hQ := hQ _ h' s.y
  have hk8 := hI.2.2.1.2.1
  unfold cmG at hQ
  simp only [B_Md_compare_0, h.1.1, true_and]
  generalize sI M m 0 0 = M0 at h' hQ
  rw [k_mSlot]
  rcases oix_cases (n := 8) (by omega) a with ⟨j, hj, rfl, e⟩ | ⟨e, -⟩
  · rw [e] at hQ
    try dsimp only at hQ
    simp only [SS, List.cons_append, List.nil_append, e, Option.isSome_some, bI, if_true, i10, if_false, B_Md_compare_0]
    rw [k_mSlot]
    rcases oix_cases (n := 8) (by omega) b with ⟨i, hi, rfl, e'⟩ | ⟨e', -⟩
    · rw [e'] at hQ
      try dsimp only at hQ
      have x1 : ixI M0 (m + 21) (nI j) := ixI_of h'.1.slotSize.2 hj (by omega)
      have x2 : ixI M0 (m + 21) (nI i) := ixI_of h'.1.slotSize.2 hi (by omega)
      obtain ⟨g1, g2⟩ := h'.2.2.2.2.2.2.2.1 j hj
      obtain ⟨g3, g4⟩ := h'.2.2.2.2.2.2.2.1 i hi
      have l1 := hI.2.1 j hj
      have l2 := hI.2.1 i hi
      have c80 : (80 : Int32) = nI 80 := rfl
      simp only [SS, List.cons_append, List.nil_append, e', Option.isSome_some, bI, if_true, i10, if_false, B_Md_compare_0, B_Md_compare_24, h'.1.1, h'.1.slotSize.1, h'.1.slots.1, x1, x2, cl_nI (show j < 2147483648 by omega), cl_nI (show i < 2147483648 by omega), g1, g3, true_and, c80, pk_mul]
      rw [k_mGreater h'.1.slots.2 h'.1.slots.2 g2 g4 (by omega) (by omega) (fun c hc => by have := l1.2 c hc; omega) (fun c hc => by have := l2.2 c hc; omega) (by omega) (by omega)]
      simp only [SS, List.cons_append, List.nil_append, B_Md_compare_55]
      exact hQ
    · rw [e'] at hQ
      simp only [SS, List.cons_append, List.nil_append, e', Option.isSome_none, bI, Bool.false_eq_true, if_false, if_true, B_Md_compare_0, B_Md_compare_19, B_Md_compare_55]
      exact hQ
  · rw [e] at hQ
    simp only [SS, List.cons_append, List.nil_append, e, Option.isSome_none, bI, Bool.false_eq_true, if_false, if_true, B_Md_compare_0, B_Md_compare_19, B_Md_compare_55]
    exact hQ
theorem m_step {i w : Int32} (h : MdV M m σ) (hI : SgI σ) (hQ : ∀ M', MdV M' m σ → Yfr M M' m → Q (some (.int (spG σ i w))) M') : wp F_Md_step 0 [.ref m, .int i, .int w] [] M Q := by
  have s : Scr M (sI M m 0 0) m := scr_0 (Or.inl rfl)
  have h' := h.scr s
  have hQ := hQ _ h' s.y
  have h300 := hI.2.2.2.2.2.2.2.2.2
  unfold spG at hQ
  simp only [B_Md_step_0, h.1.1, true_and]
  generalize sI M m 0 0 = M0 at h' hQ
  rw [k_in, in_oix (n := 2) (by omega) (by rfl)]
  simp only [SS, List.cons_append, List.nil_append, B_Md_step_0]
  rcases oix_cases (n := 2) (by omega) w with ⟨e0, he0, rfl, e⟩ | ⟨e, hw⟩
  · rw [e] at hQ
    try dsimp only at hQ
    obtain ⟨t1, t2⟩ := h'.2.2.2.2.2.2.2.2.1
    simp only [e, Option.isSome_some, bI, if_true, i10, if_false, B_Md_step_18, h'.1.1, t1, true_and]
    rw [k_in, in_oix (n := (sTd σ).length) (by omega) (pred_toInt (by omega))]
    simp only [SS, List.cons_append, List.nil_append, B_Md_step_18]
    rcases oix_cases (n := (sTd σ).length) (by omega) i with ⟨j, hj, rfl, e'⟩ | ⟨e', -⟩
    · rw [e'] at hQ
      try dsimp only at hQ
      have x1 : ixI M0 (m + 16) (nI j) := ixI_of h'.1.stepRule.2 (by omega) (by omega)
      have x2 : ixI M0 (m + 17) (nI j) := ixI_of h'.1.stepPlace.2 (by omega) (by omega)
      have tt := t2 j hj (by omega)
      simp only [e', Option.isSome_some, bI, if_true, i10, if_false, B_Md_step_38, bN e0 (by omega)]
      by_cases z : e0 = 0
      · rw [if_pos z] at hQ
        simp only [z, if_true, B_Md_step_38, B_Md_step_57, SS, h'.1.1, h'.1.stepRule.1, x1, cl_nI (show j < 2147483648 by omega), tt.1, true_and]
        exact hQ
      · rw [if_neg z] at hQ
        simp only [z, if_false, B_Md_step_51, B_Md_step_57, SS, h'.1.1, h'.1.stepPlace.1, x2, cl_nI (show j < 2147483648 by omega), tt.2, true_and]
        exact hQ
    · rw [e'] at hQ
      simp only [e', Option.isSome_none, bI, Bool.false_eq_true, if_false, if_true, B_Md_step_18, B_Md_step_57]
      exact hQ
  · rw [e] at hQ
    simp only [e, Option.isSome_none, bI, Bool.false_eq_true, if_false, if_true, B_Md_step_0]
    exact hQ
theorem m_overlap {v : Int32} (h : MdV M m σ) (hI : SgI σ) (hQ : ∀ M', MdV M' m σ → Yfr M M' m → Q (some (.int (ovG σ v))) M') : wp F_Md_overlap 0 [.ref m, .int v] [] M Q := by
  have s : Scr M (sI M m 0 0) m := scr_0 (Or.inl rfl)
  have h' := h.scr s
  have hQ := hQ _ h' s.y
  have hfo := hI.2.2.2.2.2.2.1
  unfold ovG at hQ
  simp only [B_Md_overlap_0, h.1.1, true_and]
  generalize sI M m 0 0 = M0 at h' hQ
  rw [k_in, in_oix (n := 3) (by omega) (by rfl)]
  simp only [SS, List.cons_append, List.nil_append, B_Md_overlap_0]
  rcases oix_cases (n := 3) (by omega) v with ⟨j, hj, rfl, e⟩ | ⟨e, hv⟩
  · rw [e] at hQ
    try dsimp only at hQ
    have ho := h'.2.2.2.2.2.2.1
    simp only [e, Option.isSome_some, bI, if_true, i10, if_false, B_Md_overlap_20, h'.1.1, true_and]
    cases hq : sFo σ with
    | none =>
      rw [hq] at ho hQ
      simp only [show gI M0 m 39 = -1 from ho, if_true, B_Md_overlap_20, B_Md_overlap_59]
      exact hQ
    | some q =>
      rw [hq] at ho hQ
      obtain ⟨o1, o2, o3⟩ : gI M0 m 39 = nI q.1 ∧ gI M0 m 40 = nI q.2.1 ∧ gI M0 m 41 = nI q.2.2 := ho
      have q200 := hfo q hq
      have ne1 : ¬ nI q.1 = -1 := by
        intro z
        have := congrArg Int32.toInt z
        rw [nI_toInt (show q.1 < 2 ^ 31 by omega)] at this
        have z : (-1 : Int32).toInt = -1 := rfl
        omega
      simp only [o1, ne1, if_false]
      try dsimp only at hQ
      rcases (show j = 0 ∨ j = 1 ∨ j = 2 by omega) with rfl | rfl | rfl
      · have z : nI 0 = 0 := rfl
        simp only [if_true] at hQ
        simp only [z, if_true, B_Md_overlap_32, B_Md_overlap_59, h'.1.1, o1, true_and]
        exact hQ
      · have z : nI 1 = 1 := rfl
        simp only [if_true, show ¬ (1 : Nat) = 0 by omega, if_false] at hQ
        simp only [z, if_true, i10, if_false, B_Md_overlap_32, B_Md_overlap_43, B_Md_overlap_59, h'.1.1, o2, true_and]
        exact hQ
      · have z : nI 2 = 2 := rfl
        simp only [show ¬ (2 : Nat) = 0 by omega, show ¬ (2 : Nat) = 1 by omega, if_false] at hQ
        simp only [z, if_false, B_Md_overlap_32, B_Md_overlap_43, B_Md_overlap_55, B_Md_overlap_59, h'.1.1, o3, true_and, show ¬ (2 : Int32) = 0 by decide, show ¬ (2 : Int32) = 1 by decide]
        exact hQ
  · rw [e] at hQ
    simp only [e, Option.isSome_none, bI, Bool.false_eq_true, if_false, if_true, B_Md_overlap_0]
    exact hQ
theorem k_mIsRule {rs : List Ru} {v : Int32} (hS : MdS M m) (hR : RuM M m rs) : wp F_Md_isRule 0 [.ref m, .int v] [] M Q = Q (some (.int (bI (oix rs.length v).isSome))) M := by
  have := hR.2.1
  simp only [B_Md_isRule_0, hS.1, hR.1, true_and]
  rw [k_in, in_oix (n := rs.length) (by omega) (pred_toInt (by omega))]
  simp only [SS, List.cons_append, List.nil_append, B_Md_isRule_0, bI_01, true_and]
theorem m_rule {v w : Int32} (h : MdV M m σ) (hQ : ∀ M', MdV M' m σ → Yfr M M' m → Q (some (.int (ruG σ v w))) M') : wp F_Md_rule 0 [.ref m, .int v, .int w] [] M Q := by
  have s : Scr M (sI M m 0 0) m := scr_0 (Or.inl rfl)
  have h' := h.scr s
  have hQ := hQ _ h' s.y
  unfold ruG at hQ
  simp only [B_Md_rule_0, SS, h.1.1, true_and]
  generalize sI M m 0 0 = M0 at h' hQ
  have hR := h'.2.2.2.1
  have h200 := hR.2.1
  rw [k_mIsRule h'.1 hR]
  simp only [SS, List.cons_append, List.nil_append, B_Md_rule_0]
  rcases oix_cases (n := (sRs σ).length) (by omega) v with ⟨j, hj, rfl, e⟩ | ⟨e, hv⟩
  · rw [e] at hQ
    try dsimp only at hQ
    obtain ⟨g1, g2, g3, g4, g5⟩ := hR.2.2 j hj
    have xb : ixB M0 (m + 11) (nI j) := ixZ_of h'.1.isLive.2 (by omega) (by omega)
    have xl : ixI M0 (m + 8) (nI j) := ixI_of h'.1.leftSize.2 (by omega) (by omega)
    have xr : ixI M0 (m + 10) (nI j) := ixI_of h'.1.rightSize.2 (by omega) (by omega)
    have clj := cl_nI (show j < 2147483648 by omega)
    simp only [e, Option.isSome_some, bI, if_true, i10, if_false, B_Md_rule_0]
    rw [k_in, in_oix (n := 3) (by omega) (by rfl)]
    simp only [SS, List.cons_append, List.nil_append, B_Md_rule_0]
    rcases oix_cases (n := 3) (by omega) w with ⟨i, hi, rfl, e'⟩ | ⟨e', hw⟩
    · rw [e'] at hQ
      simp only [e', Option.isSome_some, bI, if_true, i10, if_false, B_Md_rule_28]
      rcases (show i = 0 ∨ i = 1 ∨ i = 2 by omega) with rfl | rfl | rfl
      · have z : nI 0 = 0 := rfl
        try dsimp only at hQ
        simp only [z, if_true, B_Md_rule_28, SS, h'.1.1, h'.1.isLive.1, xb, clj, g5, true_and]
        revert hQ
        cases ((sRs σ).getD j dR).2.2 <;> intro hQ <;> simp only [bI, Bool.false_eq_true, if_false, if_true, i10, B_Md_rule_28, B_Md_rule_45, B_Md_rule_69] at hQ ⊢ <;> exact hQ
      · have z : nI 1 = 1 := rfl
        try dsimp only at hQ
        simp only [z, i10, if_true, if_false, B_Md_rule_28, B_Md_rule_49, B_Md_rule_69, SS, h'.1.1, h'.1.leftSize.1, xl, clj, g1, true_and]
        exact hQ
      · have z : nI 2 = 2 := rfl
        try dsimp only at hQ
        simp only [z, show ¬ (2 : Int32) = 0 by decide, show ¬ (2 : Int32) = 1 by decide, if_false, B_Md_rule_28, B_Md_rule_49, B_Md_rule_63, B_Md_rule_69, SS, h'.1.1, h'.1.rightSize.1, xr, clj, g3, true_and]
        exact hQ
    · rw [e'] at hQ
      simp only [e', Option.isSome_none, bI, Bool.false_eq_true, if_false, if_true, B_Md_rule_25]
      exact hQ
  · rw [e] at hQ
    simp only [e, Option.isSome_none, bI, Bool.false_eq_true, if_false, if_true, B_Md_rule_25]
    exact hQ
theorem m_ruleLetter {v s i : Int32} (h : MdV M m σ) (hI : SgI σ) (hQ : ∀ M', MdV M' m σ → Yfr M M' m → Q (some (.int (rlG σ v s i))) M') : wp F_Md_ruleLetter 0 [.ref m, .int v, .int s, .int i, jk] [] M Q := by
  have sc : Scr M (sI M m 0 0) m := scr_0 (Or.inl rfl)
  have h' := h.scr sc
  have hQ := hQ _ h' sc.y
  unfold rlG at hQ
  simp only [B_Md_ruleLetter_0, SS, h.1.1, true_and]
  generalize sI M m 0 0 = M0 at h' hQ
  have hR := h'.2.2.2.1
  have h200 := hR.2.1
  rw [k_mIsRule h'.1 hR]
  simp only [SS, List.cons_append, List.nil_append, B_Md_ruleLetter_0]
  rcases oix_cases (n := (sRs σ).length) (by omega) v with ⟨j, hj, rfl, e⟩ | ⟨e, hv⟩
  · rw [e] at hQ
    try dsimp only at hQ
    obtain ⟨g1, g2, g3, g4, g5⟩ := hR.2.2 j hj
    obtain ⟨u1, u2, -⟩ := hI.2.2.1.ruk j
    have xl : ixI M0 (m + 8) (nI j) := ixI_of h'.1.leftSize.2 (by omega) (by omega)
    have xr : ixI M0 (m + 10) (nI j) := ixI_of h'.1.rightSize.2 (by omega) (by omega)
    have clj := cl_nI (show j < 2147483648 by omega)
    have c60 : (60 : Int32) = nI 60 := rfl
    simp only [e, Option.isSome_some, bI, if_true, i10, if_false, B_Md_ruleLetter_0]
    rw [k_in, in_oix (n := 2) (by omega) (by rfl)]
    simp only [SS, List.cons_append, List.nil_append, B_Md_ruleLetter_0]
    rcases oix_cases (n := 2) (by omega) s with ⟨w, hw, rfl, e'⟩ | ⟨e', hw⟩
    · rw [e'] at hQ
      simp only [e', Option.isSome_some, bI, if_true, i10, if_false, B_Md_ruleLetter_26]
      rcases (show w = 0 ∨ w = 1 by omega) with rfl | rfl
      · have z : nI 0 = 0 := rfl
        have hQ : Q (some (.int (atW ((sRs σ).getD j dR).1 i))) M0 := hQ
        simp only [z, if_true, B_Md_ruleLetter_26, B_Md_ruleLetter_45, SS, h'.1.1, h'.1.leftSize.1, xl, clj, g1, true_and]
        rw [k_in, in_oix (n := ((sRs σ).getD j dR).1.length) (by omega) (pred_toInt (by omega))]
        rw [atW_oix (by omega)] at hQ
        simp only [SS, List.cons_append, List.nil_append, B_Md_ruleLetter_45]
        rcases oix_cases (n := ((sRs σ).getD j dR).1.length) (by omega) i with ⟨p, hp, rfl, e2⟩ | ⟨e2, -⟩
        · rw [e2] at hQ
          have x2 : ixI M0 (m + 7) (nI (60 * j + p)) := ixI_of h'.1.left.2 (by omega) (by omega)
          simp only [e2, Option.isSome_some, bI, if_true, i10, if_false, B_Md_ruleLetter_65, B_Md_ruleLetter_94, SS, h'.1.1, h'.1.left.1, c60, pk_mul, nI_add, x2, cl_nI (show 60 * j + p < 2147483648 by omega), g2 p hp, true_and]
          exact hQ
        · rw [e2] at hQ
          simp only [e2, Option.isSome_none, bI, Bool.false_eq_true, if_false, if_true, B_Md_ruleLetter_45, B_Md_ruleLetter_94]
          exact hQ
      · have z : nI 1 = 1 := rfl
        have hQ : Q (some (.int (atW ((sRs σ).getD j dR).2.1 i))) M0 := hQ
        simp only [z, i10, if_false, B_Md_ruleLetter_26, B_Md_ruleLetter_39, B_Md_ruleLetter_45, SS, h'.1.1, h'.1.rightSize.1, xr, clj, g3, true_and]
        rw [k_in, in_oix (n := ((sRs σ).getD j dR).2.1.length) (by omega) (pred_toInt (by omega))]
        rw [atW_oix (by omega)] at hQ
        simp only [SS, List.cons_append, List.nil_append, B_Md_ruleLetter_45]
        rcases oix_cases (n := ((sRs σ).getD j dR).2.1.length) (by omega) i with ⟨p, hp, rfl, e2⟩ | ⟨e2, -⟩
        · rw [e2] at hQ
          have x2 : ixI M0 (m + 9) (nI (60 * j + p)) := ixI_of h'.1.right.2 (by omega) (by omega)
          simp only [e2, Option.isSome_some, bI, if_true, i10, if_false, B_Md_ruleLetter_65, B_Md_ruleLetter_83, B_Md_ruleLetter_94, SS, h'.1.1, h'.1.right.1, c60, pk_mul, nI_add, x2, cl_nI (show 60 * j + p < 2147483648 by omega), g4 p hp, true_and]
          exact hQ
        · rw [e2] at hQ
          simp only [e2, Option.isSome_none, bI, Bool.false_eq_true, if_false, if_true, B_Md_ruleLetter_45, B_Md_ruleLetter_94]
          exact hQ
    · rw [e'] at hQ
      simp only [e', Option.isSome_none, bI, Bool.false_eq_true, if_false, if_true, B_Md_ruleLetter_23]
      exact hQ
  · rw [e] at hQ
    simp only [e, Option.isSome_none, bI, Bool.false_eq_true, if_false, if_true, B_Md_ruleLetter_23]
    exact hQ
theorem m_waiting {v s i : Int32} (h : MdV M m σ) (hI : SgI σ) (hQ : ∀ M', MdV M' m σ → Yfr M M' m → Q (some (.int (waG σ v s i))) M') : wp F_Md_waiting 0 [.ref m, .int v, .int s, .int i, jk] [] M Q := by
  have sc : Scr M (sI M m 0 0) m := scr_0 (Or.inl rfl)
  have h' := h.scr sc
  have hQ := hQ _ h' sc.y
  unfold waG at hQ
  simp only [B_Md_waiting_0, h.1.1, true_and]
  generalize sI M m 0 0 = M0 at h' hQ
  obtain ⟨f, hRo⟩ := h'.2.2.2.2.1
  have hf := hRo.2.1
  have hl := hRo.2.2.2.1
  simp only [h'.1.1, hRo.2.2.1, true_and]
  rw [k_in, in_oix (n := (sRow σ).length) (by omega) (pred_toInt (by omega))]
  simp only [SS, List.cons_append, List.nil_append, B_Md_waiting_0]
  rcases oix_cases (n := (sRow σ).length) (by omega) v with ⟨j, hj, rfl, e⟩ | ⟨e, hv⟩
  · rw [e] at hQ
    try dsimp only at hQ
    obtain ⟨g1, g2, g3, g4⟩ := hRo.2.2.2.2 j hj
    have pk := hI.2.2.2.2.1.2 ((sRow σ).getD j dP) (by rw [List.getD_eq_getElem?_getD, List.getElem?_eq_getElem hj]; exact List.getElem_mem hj)
    have hm := Nat.mod_lt (f + j) (show 1000 > 0 by omega)
    simp only [e, Option.isSome_some, bI, if_true, i10, if_false, B_Md_waiting_0]
    rw [k_in, in_oix (n := 2) (by omega) (by rfl)]
    simp only [SS, List.cons_append, List.nil_append, B_Md_waiting_0]
    rcases oix_cases (n := 2) (by omega) s with ⟨w, hw, rfl, e'⟩ | ⟨e', hw⟩
    · rw [e'] at hQ
      have c2 : (2 : Int32) = nI 2 := rfl
      have c120 : (120 : Int32) = nI 120 := rfl
      have c1000 : ¬ (1000 : Int32) = 0 := by decide
      have x1 : ixI M0 (m + 13) (nI (2 * ((f + j) % 1000) + w)) := ixI_of h'.1.pairSize.2 (by omega) (by omega)
      simp only [e', Option.isSome_some, bI, if_true, i10, if_false, B_Md_waiting_34, h'.1.1, hRo.1, true_and, nI_add, c1000, not_false_eq_true, rem1000 (show f + j < 2147483648 by omega), c2, pk_mul, SS, h'.1.pairSize.1, x1, cl_nI (show 2 * ((f + j) % 1000) + w < 2147483648 by omega)]
      rcases (show w = 0 ∨ w = 1 by omega) with rfl | rfl
      · have hQ : Q (some (.int (atW ((sRow σ).getD j dP).1 i))) M0 := hQ
        simp only [Nat.add_zero, g1]
        rw [k_in, in_oix (n := ((sRow σ).getD j dP).1.length) (by have := pk.1; omega) (pred_toInt (by have := pk.1; omega))]
        rw [atW_oix (by have := pk.1; omega)] at hQ
        simp only [SS, List.cons_append, List.nil_append, B_Md_waiting_34]
        rcases oix_cases (n := ((sRow σ).getD j dP).1.length) (by have := pk.1; omega) i with ⟨p, hp, rfl, e2⟩ | ⟨e2, -⟩
        · rw [e2] at hQ
          have p120 := pk.1
          have x2 : ixI M0 (m + 12) (nI (120 * (2 * ((f + j) % 1000)) + p)) := ixI_of h'.1.pair.2 (by omega) (by omega)
          have g3' := g3 p hp
          rw [show 240 * ((f + j) % 1000) + p = 120 * (2 * ((f + j) % 1000)) + p by omega] at g3'
          simp only [e2, Option.isSome_some, bI, if_true, i10, if_false, B_Md_waiting_34, B_Md_waiting_85, SS, h'.1.1, h'.1.pair.1, c120, pk_mul, nI_add, x2, cl_nI (show 120 * (2 * ((f + j) % 1000)) + p < 2147483648 by omega), g3', true_and]
          exact hQ
        · rw [e2] at hQ
          simp only [e2, Option.isSome_none, bI, Bool.false_eq_true, if_false, if_true, B_Md_waiting_84, B_Md_waiting_85]
          exact hQ
      · have hQ : Q (some (.int (atW ((sRow σ).getD j dP).2 i))) M0 := hQ
        simp only [g2]
        rw [k_in, in_oix (n := ((sRow σ).getD j dP).2.length) (by have := pk.2.1; omega) (pred_toInt (by have := pk.2.1; omega))]
        rw [atW_oix (by have := pk.2.1; omega)] at hQ
        simp only [SS, List.cons_append, List.nil_append, B_Md_waiting_34]
        rcases oix_cases (n := ((sRow σ).getD j dP).2.length) (by have := pk.2.1; omega) i with ⟨p, hp, rfl, e2⟩ | ⟨e2, -⟩
        · rw [e2] at hQ
          have p120 := pk.2.1
          have x2 : ixI M0 (m + 12) (nI (120 * (2 * ((f + j) % 1000) + 1) + p)) := ixI_of h'.1.pair.2 (by omega) (by omega)
          have g3' := g4 p hp
          rw [show 240 * ((f + j) % 1000) + 120 + p = 120 * (2 * ((f + j) % 1000) + 1) + p by omega] at g3'
          simp only [e2, Option.isSome_some, bI, if_true, i10, if_false, B_Md_waiting_34, B_Md_waiting_85, SS, h'.1.1, h'.1.pair.1, c120, pk_mul, nI_add, x2, cl_nI (show 120 * (2 * ((f + j) % 1000) + 1) + p < 2147483648 by omega), g3', true_and]
          exact hQ
        · rw [e2] at hQ
          simp only [e2, Option.isSome_none, bI, Bool.false_eq_true, if_false, if_true, B_Md_waiting_84, B_Md_waiting_85]
          exact hQ
    · rw [e'] at hQ
      simp only [e', Option.isSome_none, bI, Bool.false_eq_true, if_false, if_true, B_Md_waiting_31]
      exact hQ
  · rw [e] at hQ
    simp only [e, Option.isSome_none, bI, Bool.false_eq_true, if_false, if_true, B_Md_waiting_31]
    exact hQ
end MC
