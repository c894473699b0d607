theorem k_tryAll {M : Mm} {x : Nat} {rs : List Ru} {k f : Nat} {row : List Pr} {fo : Option (Nat × Nat × Nat)} {Q : Option Value → Mm → Prop} (h : Cmp M x rs k f row) (hS : FNS M x) (hV : FND M x fo)
    (hQ : ∀ M', Cmp M' x rs k f row → FNS M' x → FND M' x (fdN (opn rs) fo) → Gfr M M' x (fnZ x) → KnE M M' x → Q (some (.int (ansI (opn rs)))) M') : wp F_Finder_tryAll 0 [.ref (x + 1029), jk, jk, jk] [] M Q := by
  have hl := h.1.lo.2.1.2.2
  generalize ho : opn rs = o at hQ
  have loopJ : ∀ i, i < rs.length → (∀ M' l3, Cmp M' x rs k f row → FNS M' x → FND M' x fo → Gfr M M' x (fnZ x) → KnE M M' x → tryJ rs i rs.length 0 = none → wp F_Finder_tryAll 71 [.ref (x + 1029), .int (nI i), .int (nI rs.length), l3] [] M' Q) → (∀ r, tryJ rs i rs.length 0 = some r → o = some r) → ∀ m j M' l3, j + m = rs.length → Cmp M' x rs k f row → FNS M' x → FND M' x fo → Gfr M M' x (fnZ x) → KnE M M' x → tryJ rs i rs.length 0 = tryJ rs i m j → wp F_Finder_tryAll 15 [.ref (x + 1029), .int (nI i), .int (nI j), l3] [] M' Q := by
    intro i hi hnone hsome m
    induction m with
    | zero =>
      intro j M' l3 hj hC hS' hV' hF hK he
      obtain ⟨-, -, hRU, hRV⟩ := hC.1.lo
      have e1 : nI rs.length ≤ nI j := nI_le (by omega) (by omega)
      have := hnone M' l3 hC hS' hV' hF hK he
      rw [show rs.length = j by omega] at this
      simp only [B_Finder_tryAll_15, SS, hS'.1, hS'.2.1.1, hRU.1, hRV.1, e1, if_true, true_and]
      exact this
    | succ m ih =>
      intro j M' l3 hj hC hS' hV' hF hK he
      obtain ⟨-, -, hRU, hRV⟩ := hC.1.lo
      have e1 : ¬ nI rs.length ≤ nI j := nI_ge (by omega) (by omega)
      have hj2 : j < rs.length := by omega
      simp only [B_Finder_tryAll_15, SS, hS'.1, hS'.2.1.1, hRU.1, hRV.1, e1, if_false, true_and]
      have skip : try2 rs i j = none → ∀ l3, wp F_Finder_tryAll 65 [.ref (x + 1029), .int (nI i), .int (nI j), l3] [] M' Q := by
        intro hq l3
        simp only [B_Finder_tryAll_65, SS, nI_i1]
        rw [G_Finder_tryAll_68]
        refine ih (j + 1) M' _ (by omega) hC hS' hV' hF hK ?_
        rw [he, tryJ, hq]
      rw [k_isLive hRU hRV hi]
      simp only [SS, List.cons_append, List.nil_append, B_Finder_tryAll_15, bI_ne]
      cases hl1 : (rs.getD i dR).2.2 with
      | false =>
        simp only [if_true, B_Finder_tryAll_57, B_Finder_tryAll_58, SS]
        exact skip (by rw [try2, if_neg (fun q => by rw [hl1] at q; simp at q)]) _
      | true =>
        simp only [B_Finder_tryAll_15, Bool.true_eq_false, if_false, SS, hS'.1, hS'.2.1.1, hRU.1, true_and]
        rw [k_isLive hRU hRV hj2]
        simp only [SS, List.cons_append, List.nil_append, B_Finder_tryAll_15, bI_ne]
        cases hl2 : (rs.getD j dR).2.2 with
        | false =>
          simp only [if_true, B_Finder_tryAll_57, B_Finder_tryAll_58, SS]
          exact skip (by rw [try2, if_neg (fun q => by rw [hl2] at q; simp at q)]) _
        | true =>
          simp only [B_Finder_tryAll_15, Bool.true_eq_false, if_false, hS'.1, true_and]
          refine k_tryTwo hC hS' hV' hi hj2 ?_
          intro r hr M2 c1 c2 c3 c4 c5
          have ht : try2 rs i j = r := by rw [try2, if_pos ⟨hl1, hl2⟩, hr]
          simp only [SS, List.cons_append, List.nil_append, B_Finder_tryAll_15, B_Finder_tryAll_58]
          have F2 := hF.trans c4
          have K2 : KnE M M2 x := ⟨c5.1.trans hK.1, c5.2.trans hK.2⟩
          cases r with
          | none =>
            simp only [ansI, if_true, B_Finder_tryAll_65, SS, nI_i1]
            rw [G_Finder_tryAll_68]
            refine ih (j + 1) M2 _ (by omega) c1 c2 c3 F2 K2 ?_
            rw [he, tryJ, ht]
          | some r =>
            have hne : ¬ ansI (some r) = 0 := by cases r <;> simp [ansI]
            simp only [hne, if_false]
            have ho2 : o = some (r.map (fun n => (i, j, n))) := hsome _ (by rw [he, tryJ, ht]; cases r <;> rfl)
            subst ho2
            have e9 : ansI (some r) = ansI (some (r.map (fun n => (i, j, n)))) := by cases r <;> rfl
            rw [e9]
            exact hQ M2 c1 c2 c3 F2 K2
  have loopI : ∀ m i M' l2 l3, i + m = rs.length → Cmp M' x rs k f row → FNS M' x → FND M' x fo → Gfr M M' x (fnZ x) → KnE M M' x → o = tryI rs m i → wp F_Finder_tryAll 2 [.ref (x + 1029), .int (nI i), l2, l3] [] M' Q := by
    intro m
    induction m with
    | zero =>
      intro i M' l2 l3 hi hC hS' hV' hF hK he
      obtain ⟨-, -, hRU, hRV⟩ := hC.1.lo
      have e1 : nI rs.length ≤ nI i := nI_le (by omega) (by omega)
      simp only [B_Finder_tryAll_2, B_Finder_tryAll_77, SS, hS'.1, hS'.2.1.1, hRU.1, hRV.1, e1, if_true, true_and]
      have : o = none := he
      subst this
      exact hQ M' hC hS' hV' hF hK
    | succ m ih =>
      intro i M' l2 l3 hi hC hS' hV' hF hK he
      obtain ⟨-, -, hRU, hRV⟩ := hC.1.lo
      have e1 : ¬ nI rs.length ≤ nI i := nI_ge (by omega) (by omega)
      have e0 : (0 : Int32) = nI 0 := rfl
      simp only [B_Finder_tryAll_2, SS, hS'.1, hS'.2.1.1, hRU.1, hRV.1, e1, if_false, true_and]
      rw [e0]
      refine loopJ i (by omega) ?_ ?_ rs.length 0 M' l3 (by omega) hC hS' hV' hF hK rfl
      · intro M2 l3 C2 S2 V2 F2 K2 hn
        simp only [B_Finder_tryAll_71, SS, nI_i1]
        rw [G_Finder_tryAll_74]
        refine ih (i + 1) M2 _ _ (by omega) C2 S2 V2 F2 K2 ?_
        rw [he, tryI, hn]
      · intro r hr
        rw [he, tryI, hr]
  have e0 : (0 : Int32) = nI 0 := rfl
  simp only [B_Finder_tryAll_0, SS]
  rw [e0]
  exact loopI rs.length 0 M _ _ (by omega) h hS hV Gfr.rfl ⟨rfl, rfl⟩ ho.symm
/-- the Finder's state: what it found, whether it knows -/
def FnV (M : Mm) (x : Nat) (rs : List Ru) (fo : Option (Nat × Nat × Nat)) (kn : Bool) : Prop := FNS M x ∧ FND M x fo ∧ gI M (x + 1029) 4 = bI kn ∧ (kn = true → gI M (x + 1029) 5 = ansI (opn rs) ∧ fdN (opn rs) fo = fo)
theorem fdN_idem {α : Type} (o : Option (Option α)) (fo : Option α) : fdN o (fdN o fo) = fdN o fo := by
  rcases o with _ | _ | q <;> rfl
theorem k_find {M : Mm} {x : Nat} {rs : List Ru} {k f : Nat} {row : List Pr} {fo : Option (Nat × Nat × Nat)} {kn : Bool} {Q : Option Value → Mm → Prop} (h : Cmp M x rs k f row) (hV : FnV M x rs fo kn)
    (hQ : ∀ M', Cmp M' x rs k f row → FnV M' x rs (fdN (opn rs) fo) true → Gfr M M' x (fnZ x) → Q (some (.int (ansI (opn rs)))) M') : wp F_Finder_find 0 [.ref (x + 1029)] [] M Q := by
  obtain ⟨hS, hD, h4, h5⟩ := hV
  simp only [B_Finder_find_0, hS.1, h4, bI_ne, true_and]
  cases kn with
  | true =>
    obtain ⟨q1, q2⟩ := h5 rfl
    simp only [Bool.true_eq_false, if_false, B_Finder_find_20, hS.1, q1, true_and]
    refine hQ M h ⟨hS, by rw [q2]; exact hD, h4, fun _ => ⟨q1, by rw [q2]; exact q2⟩⟩ Gfr.rfl
  | false =>
    simp only [if_true, hS.1, true_and]
    refine k_tryAll h hS hD ?_
    intro M1 c1 c2 c3 c4 c5
    simp only [SS, List.cons_append, List.nil_append, B_Finder_find_0, B_Finder_find_20, c2.1, or_true, true_and]
    have f5 : FrS (fun b => b = x + 1029) M1 (sI (sI M1 (x + 1029) 5 (ansI (opn rs))) (x + 1029) 4 1) := (FrS.sI (S := fun b => b = x + 1029) rfl).trans (FrS.sI rfl)
    obtain ⟨C5, P5⟩ := c1.own (f5.weaken (fun b q => ⟨by omega, by omega⟩))
    have hlo := c1.1.lo.1
    have e : gI (sI (sI M1 (x + 1029) 5 (ansI (opn rs))) (x + 1029) 4 1) (x + 1029) 5 = ansI (opn rs) := by simp [gI_sI]
    have := hQ _ C5 ⟨c2.frx f5.x hlo (fun _ _ _ q => q), ⟨?_, fun q hq => ?_⟩, ?_, fun _ => ⟨e, fdN_idem _ _⟩⟩ (c4.trans (f5.g P5 (fun b q => ⟨by omega, by omega⟩)))
    · simpa using this
    · simp only [gI_sI]; simp [c3.1]
    · simp only [gI_sI]; simp [c3.2 q hq]
    · simp [gI_sI, bI]
theorem k_forget {M : Mm} {x : Nat} {rs rs' : List Ru} {k f : Nat} {row : List Pr} {fo : Option (Nat × Nat × Nat)} {kn : Bool} {Q : Option Value → Mm → Prop} (h : Cmp M x rs k f row) (hS : FNS M x) (hD : FND M x fo)
    (hQ : ∀ M', Cmp M' x rs k f row → FnV M' x rs' fo false → FrS (fun b => b = x + 1029) M M' → Pt M M' x → Q none M') : wp F_Finder_forgetAnswer 0 [.ref (x + 1029)] [] M Q := by
  simp only [B_Finder_forgetAnswer_0, hS.1, true_or, true_and]
  have f5 : FrS (fun b => b = x + 1029) M (sI M (x + 1029) 4 0) := FrS.sI rfl
  obtain ⟨C5, P5⟩ := h.own (f5.weaken (fun b q => ⟨by omega, by omega⟩))
  refine hQ _ C5 ⟨hS.frx f5.x h.1.lo.1 (fun _ _ _ q => q), ⟨?_, fun q hq => ?_⟩, ?_, fun q => by cases q⟩ f5 P5
  · simp only [gI_sI]; simp [hD.1]
  · simp only [gI_sI]; simp [hD.2 q hq]
  · simp [gI_sI, bI]
theorem k_Fbegin {M : Mm} {x : Nat} {rs rs' : List Ru} {k f : Nat} {row : List Pr} {Q : Option Value → Mm → Prop} (h : Cmp M x rs k f row) (hS : FNS M x)
    (hQ : ∀ M', Cmp M' x rs k f row → FnV M' x rs' none false → FrS (fun b => b = x + 1029) M M' → Pt M M' x → Q none M') : wp F_Finder_begin 0 [.ref (x + 1029)] [] M Q := by
  simp only [B_Finder_begin_0, hS.1, SS, true_or, true_and]
  have f5 : FrS (fun b => b = x + 1029) M (sI (sI M (x + 1029) 4 0) (x + 1029) 6 0) := (FrS.sI (S := fun b => b = x + 1029) rfl).trans (FrS.sI rfl)
  obtain ⟨C5, P5⟩ := h.own (f5.weaken (fun b q => ⟨by omega, by omega⟩))
  refine hQ _ C5 ⟨hS.frx f5.x h.1.lo.1 (fun _ _ _ q => q), ⟨?_, fun q hq => by cases hq⟩, ?_, fun q => by cases q⟩ f5 P5
  · simp [gI_sI, bI]
  · simp [gI_sI, bI]
