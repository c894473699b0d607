theorem pstep_inl {s : Pst} {c n : Nat} (h : pstep s c = .inl n) : 1 ≤ n ∧ n ≤ 3 := by
  obtain ⟨nm, lc, ws, cur, pt⟩ := s
  cases pt with
  | zero =>
    rw [pstep] at h
    split at h
    · cases h
    · split at h
      · cases h; omega
      · split at h
        · cases h; omega
        · split at h
          · cases h; omega
          · cases h
  | succ pt =>
    rw [pstep] at h
    split at h
    · cases hw : wlet (nm (c - 97)) 24 cur with
      | inr cur' => rw [hw] at h; cases h
      | inl m =>
        rw [hw] at h
        cases h
        cases ho : nm (c - 97) with
        | none => rw [ho] at hw; cases hw; omega
        | some a =>
          rw [ho] at hw
          simp only [wlet] at hw
          split at hw
          · cases hw; omega
          · cases hw
    · split at h
      · split at h
        · cases h; omega
        · cases h
      · split at h
        · cases h
        · cases h; omega
theorem wlet_inl {o : Option Nat} {most n : Nat} {cur : List Nat} (h : wlet o most cur = .inl n) : 1 ≤ n ∧ n ≤ 3 := by
  cases o with
  | none => cases h; omega
  | some a =>
    simp only [wlet] at h
    split at h
    · cases h; omega
    · cases h
theorem PRV.fp {M : Mm} {x j : Nat} {v : Int32} {s : Pst} (h : PRV M x s) (hj : 8 ≤ j) : PRV (sI M (x + 3) j v) x s := by
  obtain ⟨v1, v2, v3, v4, v5, v6, v7, v8⟩ := h
  refine ⟨fun i hi => ?_, ?_, ?_, ?_, ?_, ?_, v7.fr (FrS.sI (S := fun b => b = x + 3) rfl) (by omega) (by omega), fun i hi => ?_⟩
  · rw [gI_sI, if_neg (by omega)]; exact v1 i hi
  · rw [gI_sI, if_neg (by omega)]; exact v2
  · rw [gI_sI, if_neg (by omega)]; exact v3
  · rw [gI_sI, if_neg (by omega)]; exact v4
  · rw [gI_sI, if_neg (by omega)]; exact v5
  · rw [gI_sI, if_neg (by omega)]; exact v6
  · rw [gI_sI, if_neg (by omega)]; exact v8 i hi
/-- all is as at a reading's beginning, but the letters' numbers -/
def PRC (M : Mm) (x : Nat) : Prop := (∀ j, (j = 1 ∨ j = 2 ∨ (5 ≤ j ∧ j ≤ 9)) → gI M (x + 3) j = 0) ∧ WV M (x + 5) []
theorem k_Pclear {M : Mm} {x : Nat} {Q : Option Value → Mm → Prop} (hS : PRS M x) (hQ : ∀ M', FrS (prZ x) M M' → PRC M' x → Q none M') : wp F_Presentation_clear 0 [.ref (x + 3)] [] M Q := by
  simp only [B_Presentation_clear_0, hS.1, SS, hS.2.1.2.1, hS.2.2.2.1.1, true_and]
  refine k_Word_clear (room := 600) ?_ ?_
  · exact hS.2.2.2.1.fr ((FrS.sI (S := fun b => b = x + 3) rfl).trans (FrS.sI rfl))
  intro M1 f1 w1
  have g : ∀ j, gI M1 (x + 3) j = gI (sI (sI M (x + 3) 1 0) (x + 3) 2 0) (x + 3) j := fun j => f1.gI (fun q => by rcases q with q | q <;> omega) j
  have s1 : sh M1 (x + 3) = some (.inl 5) := (f1.sh _).trans hS.1
  simp only [Option.toList_none, List.nil_append, B_Presentation_clear_0, s1, SS, true_and]
  have fz : FrS (fun b => b = x + 3) M1 (sI (sI (sI (sI (sI M1 (x + 3) 5 0) (x + 3) 6 0) (x + 3) 7 0) (x + 3) 8 0) (x + 3) 9 0) := ((((FrS.sI (S := fun b => b = x + 3) rfl).trans (FrS.sI rfl)).trans (FrS.sI rfl)).trans (FrS.sI rfl)).trans (FrS.sI rfl)
  refine hQ _ ((((FrS.sI (S := prZ x) (a := x + 3) ⟨by omega, by omega⟩).trans (FrS.sI ⟨by omega, by omega⟩)).trans (f1.weaken (fun b q => by rcases q with q | q <;> exact ⟨by omega, by omega⟩))).trans (fz.weaken (fun b q => ⟨by omega, by omega⟩))) ⟨fun j hj => ?_, w1.fr fz (by omega) (by omega)⟩
  simp only [gI_sI, g, true_and]
  by_cases q9 : j = 9
  · simp [q9]
  by_cases q8 : j = 8
  · simp [q8]
  by_cases q7 : j = 7
  · simp [q7]
  by_cases q6 : j = 6
  · simp [q6]
  by_cases q5 : j = 5
  · simp [q5]
  by_cases q2 : j = 2
  · simp [q2]
  have q1 : j = 1 := by omega
  simp [q1]
def pst0 : Pst := (fun _ => none, 0, [], [], 0)
def TPV (M : Mm) (x : Nat) (tp : List Nat) : Prop := sh M (x + 1) = some (.inr (2, 600)) ∧ (∀ j, j < tp.length → gI M (x + 1) j = bC (tp.getD j 0)) ∧ (∀ c ∈ tp, c < 256) ∧ tp.length ≤ 600
theorem TPV.fr {M M1 : Mm} {S : Nat → Prop} {x : Nat} {tp : List Nat} (h : TPV M x tp) (hf : FrS S M M1) (hs : ¬ S (x + 1)) : TPV M1 x tp := ⟨(hf.sh _).trans h.1, fun j hj => (hf.gI hs j).trans (h.2.1 j hj), h.2.2⟩
theorem TPV.lt {M : Mm} {x : Nat} {tp : List Nat} (h : TPV M x tp) {i : Nat} (hi : i < tp.length) : tp.getD i 0 < 256 := by
  rw [List.getD_eq_getElem?_getD, List.getElem?_eq_getElem hi]
  exact h.2.2.1 _ (List.getElem_mem hi)
theorem k_takeSystem {M : Mm} {x : Nat} {tp : List Nat} {Q : Option Value → Mm → Prop} (hS : PRS M x) (hT : TPV M x tp)
    (hQ0 : ∀ n p, prun pst0 0 tp = .inl (n, p) → ∀ M', FrS (prZ x) M M' → gI M' (x + 3) 8 = nI n → gI M' (x + 3) 9 = nI p → Q (some (.int 0)) M') (hQ1 : ∀ s, prun pst0 0 tp = .inr s → ∀ M', FrS (prZ x) M M' → PRV M' x s → Q (some (.int 1)) M') : wp F_Presentation_takeSystem 0 [.ref (x + 3), .ref (x + 1), .int (nI tp.length), jk] [] M Q := by
  have hl := hT.2.2.2
  have zn : ¬ prZ x (x + 1) := fun q => by omega
  -- a fault has been found
  have bad : ∀ n p i M', prun pst0 0 tp = .inl (n, p) → 1 ≤ n → n ≤ 3 → i ≤ 600 → FrS (prZ x) M M' → gI M' (x + 3) 8 = nI n → gI M' (x + 3) 9 = nI p → wp F_Presentation_takeSystem 27 [.ref (x + 3), .ref (x + 1), .int (nI tp.length), .int (nI i)] [] M' Q := by
    intro n p i M' hr n1 n3 hi ff g8 g9
    have s1 : sh M' (x + 3) = some (.inl 5) := (ff.sh _).trans hS.1
    have s2 : sh M' (x + 1) = some (.inr (2, 600)) := (ff.sh _).trans hT.1
    have e0 : ¬ nI n = 0 := nI_ne0 (by omega) (by omega)
    have fin : wp F_Presentation_takeSystem 93 [.ref (x + 3), .ref (x + 1), .int (nI tp.length), .int (nI i)] [] M' Q := by
      simp only [B_Presentation_takeSystem_93, B_Presentation_takeSystem_125, B_Presentation_takeSystem_136, B_Presentation_takeSystem_137, s1, g8, e0, if_false, true_or, true_and]
      exact hQ0 n p hr M' ff g8 g9
    simp only [B_Presentation_takeSystem_27, s1, s2, SS, g8, e0, if_false, true_and]
    split
    · exact fin
    · split
      · exact fin
      · exact fin
  have loop : ∀ k i s M', i + k = tp.length → FrS (prZ x) M M' → PRV M' x s → PI s i → gI M' (x + 3) 8 = 0 → prun pst0 0 tp = prun s i (tp.drop i) → wp F_Presentation_takeSystem 27 [.ref (x + 3), .ref (x + 1), .int (nI tp.length), .int (nI i)] [] M' Q := by
    intro k
    induction k with
    | zero =>
      intro i s M' hi ff hV hI g8 hr
      have hS' := hS.fr ff
      have e1 : nI tp.length ≤ nI i := nI_le (by omega) (by omega)
      rw [List.drop_eq_nil_of_le (by omega)] at hr
      have hle := hI.2.2.2.2.2.1
      have hcl := hI.2.2.2.2.2.2.2.2.1
      have k1 : (1 : Int32) = nI 1 := rfl
      have q1 := nI_eq (a := s.2.2.2.2) (b := 1) (by omega) (by omega)
      have e2 : (nI s.2.2.2.2 = 1) = (s.2.2.2.2 = 1) := by rw [k1]; exact propext q1
      have e3 : (nI s.2.2.2.1.length ≤ 0) = (s.2.2.2.1 = []) := by
        have := nI_leI (a := s.2.2.2.1.length) (b := 0) (by omega) (by omega)
        rw [nI_0] at this
        exact propext (this.trans (by rw [Nat.le_zero, List.length_eq_zero_iff]))
      simp only [B_Presentation_takeSystem_27, B_Presentation_takeSystem_93, hS'.1, e1, if_true, g8, hV.2.2.2.2.2.1, hV.2.2.2.2.1, e2, e3, true_and]
      have hfin : ¬ (s.2.2.2.2 = 1 ∧ s.2.2.2.1 = []) → wp F_Presentation_takeSystem 115 [.ref (x + 3), .ref (x + 1), .int (nI tp.length), .int (nI i)] [] M' Q := by
        intro hn
        rw [prun, if_neg hn] at hr
        simp only [B_Presentation_takeSystem_115, B_Presentation_takeSystem_125, B_Presentation_takeSystem_136, B_Presentation_takeSystem_137, hS'.1, SS, and_self, if_true, i10, if_false, true_or, true_and]
        refine hQ0 1 i hr _ (ff.trans ((FrS.sI ⟨by omega, by omega⟩).trans (FrS.sI ⟨by omega, by omega⟩))) ?_ ?_
        · rw [gI_sI, if_pos ⟨rfl, rfl⟩]; rfl
        · rw [gI_sI, if_neg (by omega), gI_sI, if_pos ⟨rfl, rfl⟩, show tp.length = i by omega]
      by_cases h1 : s.2.2.2.2 = 1
      · by_cases h2 : s.2.2.2.1 = []
        · rw [prun, if_pos ⟨h1, h2⟩] at hr
          simp only [h1, h2, if_true, B_Presentation_takeSystem_125, B_Presentation_takeSystem_137, hS'.1, g8, or_true, true_and]
          exact hQ1 s hr M' ff hV
        · simp only [h1, h2, if_true, if_false]
          exact hfin (fun q => h2 q.2)
      · simp only [h1, if_false]
        exact hfin (fun q => h1 q.1)
    | succ k ih =>
      intro i s M' hi ff hV hI g8 hr
      have hS' := hS.fr ff
      have hT' := hT.fr ff zn
      have hil : i < tp.length := by omega
      have e1 : ¬ nI tp.length ≤ nI i := nI_ge (by omega) (by omega)
      have e2 : ¬ nI 600 ≤ nI i := nI_ge (by omega) (by omega)
      have e3 : ixB M' (x + 1) (nI i) := ixB_of hT'.1 (by omega) (by omega)
      have e4 : cl (nI i) = i := cl_nI (by omega)
      have hc := hT.lt hil
      rw [drop_getD hil] at hr
      simp only [B_Presentation_takeSystem_27, e1, e2, e3, e4, if_false, hT'.1, SS, hS'.1, g8, if_true, hT'.2.1 i hil, true_and]
      rw [k_isPassedOver hc]
      simp only [SS, List.cons_append, List.nil_append, B_Presentation_takeSystem_27, bI_ne]
      generalize hcc : tp.getD i 0 = c at *
      cases hsp : isSp c with
      | true =>
        simp only [Bool.true_eq_false, if_false, B_Presentation_takeSystem_87, SS, nI_i1]
        rw [G_Presentation_takeSystem_90]
        rw [prun, if_pos hsp] at hr
        exact ih (i + 1) s M' (by omega) ff hV hI.succ g8 hr
      | false =>
        rw [prun, if_neg (by rw [hsp]; simp)] at hr
        have e5 : ixB (sI M' (x + 3) 9 (nI i)) (x + 1) (nI i) := ixB_of hT'.1 (by omega) (by omega)
        have hV1 := hV.fp (j := 9) (v := nI i) (by omega)
        have f1 : FrS (prZ x) M (sI M' (x + 3) 9 (nI i)) := ff.trans (FrS.sI ⟨by omega, by omega⟩)
        have g81 : gI (sI M' (x + 3) 9 (nI i)) (x + 3) 8 = 0 := by rw [gI_sI, if_neg (by omega)]; exact g8
        have g91 : gI (sI M' (x + 3) 9 (nI i)) (x + 3) 9 = nI i := by rw [gI_sI, if_pos ⟨rfl, rfl⟩]
        have g7 := hV1.2.2.2.2.2.1
        have gt : gI (sI M' (x + 3) 9 (nI i)) (x + 1) i = bC c := by
          rw [gI_sI, if_neg (by omega), hT'.2.1 i hil, hcc]
        have hS1 := hS.fr f1
        simp only [if_true, B_Presentation_takeSystem_27, hS'.1, true_and]
        generalize sI M' (x + 3) 9 (nI i) = M2 at *
        have e6 : (nI s.2.2.2.2 = 0) = (s.2.2.2.2 = 0) := bN _ (by have := hI.2.2.2.2.2.1; omega)
        -- what comes after the step
        have after : ∀ r M3, FrS (prZ x) M2 M3 → FpE M2 M3 x → ((∃ n, r = nI n ∧ pstep s c = .inl n) ∨ (∃ s', r = 0 ∧ pstep s c = .inr s' ∧ PRV M3 x s')) → wp F_Presentation_takeSystem 84 [.ref (x + 3), .ref (x + 1), .int (nI tp.length), .int (nI i)] [.int r, .ref (x + 3)] M3 Q := by
          intro r M3 f3 fp hcase
          have f3' := f1.trans f3
          have s1 : sh M3 (x + 3) = some (.inl 5) := (f3'.sh _).trans hS.1
          have f4 : FrS (prZ x) M (sI M3 (x + 3) 8 r) := f3'.trans (FrS.sI ⟨by omega, by omega⟩)
          simp only [B_Presentation_takeSystem_84, B_Presentation_takeSystem_87, SS, s1, nI_i1, true_and]
          rw [G_Presentation_takeSystem_90]
          rcases hcase with ⟨n, rfl, hp⟩ | ⟨s', rfl, hp, hv⟩
          · rw [hp] at hr
            refine bad n i (i + 1) _ hr (pstep_inl hp).1 (pstep_inl hp).2 (by omega) f4 ?_ ?_
            · rw [gI_sI, if_pos ⟨rfl, rfl⟩]
            · rw [gI_sI, if_neg (by omega), fp.2]; exact g91
          · rw [hp] at hr
            refine ih (i + 1) s' _ (by omega) f4 (hv.fp (by omega)) (hI.step hp) ?_ hr
            rw [gI_sI, if_pos ⟨rfl, rfl⟩]
        have m1 : ¬ (7 : Nat) = 9 := by omega
        have m2 : ¬ x + 1 = x + 3 := by omega
        have m3 : gI M' (x + 1) i = bC c := by rw [hT'.2.1 i hil, hcc]
        simp only [m1, m2, m3, if_false, false_and, hV.2.2.2.2.2.1, e4, e5, e6, true_and]
        by_cases hz : s.2.2.2.2 = 0
        · simp only [hz, if_true]
          refine k_takeLetter hS1 hV1 hI hz hc ?_ ?_
          · intro n hn
            simp only [SS, List.cons_append, List.nil_append, B_Presentation_takeSystem_27]
            exact after (nI n) M2 FrS.rfl ⟨rfl, rfl⟩ (Or.inl ⟨n, rfl, hn⟩)
          · intro s' hs M3 f3 hv fp
            simp only [SS, List.cons_append, List.nil_append, B_Presentation_takeSystem_27]
            exact after 0 M3 f3 fp (Or.inr ⟨s', rfl, hs, hv⟩)
        · simp only [hz, if_false, B_Presentation_takeSystem_77, e5, e4, gt, hS1.1, true_and]
          refine k_takeInWord hS1 hV1 hI (by omega) hz hc ?_ ?_
          · intro n hn
            simp only [SS, List.cons_append, List.nil_append, B_Presentation_takeSystem_77]
            exact after (nI n) M2 FrS.rfl ⟨rfl, rfl⟩ (Or.inl ⟨n, rfl, hn⟩)
          · intro s' hs M3 f3 hv fp
            simp only [SS, List.cons_append, List.nil_append, B_Presentation_takeSystem_77]
            exact after 0 M3 f3 fp (Or.inr ⟨s', rfl, hs, hv⟩)
  -- the numbers are cleared
  have k26 : (26 : Int32) = nI 26 := rfl
  have z0 : (0 : Int32) = nI 0 := rfl
  have fill : ∀ k i M', i + k = 26 → FrS (prZ x) M M' → PRC M' x → (∀ j, j < i → gI M' (x + 4) j = -1) → wp F_Presentation_takeSystem 6 [.ref (x + 3), .ref (x + 1), .int (nI tp.length), .int (nI i)] [] M' Q := by
    intro k
    induction k with
    | zero =>
      intro i M' hi ff hP hn
      have e1 : nI 26 ≤ nI i := nI_le (by omega) (by omega)
      simp only [B_Presentation_takeSystem_6, B_Presentation_takeSystem_25, SS, k26, e1, if_true]
      rw [z0]
      have h0 : ∀ j, (j = 1 ∨ j = 2 ∨ (5 ≤ j ∧ j ≤ 9)) → gI M' (x + 3) j = nI 0 := fun j hj => hP.1 j hj
      refine loop tp.length 0 pst0 M' (by omega) ff ⟨fun j hj => hn j (by omega), h0 1 (by omega), h0 2 (by omega), h0 5 (by omega), h0 6 (by omega), h0 7 (by omega), hP.2, fun j hj => (by simp [pst0] at hj)⟩ ⟨by simp [pst0], fun j a q => (by cases q), fun _ => ⟨rfl, rfl⟩, fun q => (by cases q), fun q => (by cases q), by simp [pst0], by simp [pst0], fun w hw => by simp [pst0] at hw, by simp [pst0], fun c hc => by simp [pst0] at hc⟩ (h0 8 (by omega)) (by rw [List.drop_zero])
    | succ k ih =>
      intro i M' hi ff hP hn
      have hS' := hS.fr ff
      have e1 : ¬ nI 26 ≤ nI i := nI_ge (by omega) (by omega)
      have e2 : ixW M' (x + 4) (nI i) := ixW_of hS'.2.2.1 (by omega) (by omega)
      have e3 : cl (nI i) = i := cl_nI (by omega)
      simp only [B_Presentation_takeSystem_6, SS, k26, e1, e2, e3, if_false, hS'.1, hS'.2.1.1, nI_i1, true_and]
      rw [G_Presentation_takeSystem_22]
      refine ih (i + 1) _ (by omega) (ff.trans (FrS.sI ⟨by omega, by omega⟩)) ⟨fun j hj => ?_, hP.2.fr (FrS.sI (S := fun b => b = x + 4) rfl) (by omega) (by omega)⟩ (fun j hj => ?_)
      · rw [gI_sI, if_neg (by omega)]; exact hP.1 j hj
      · rw [gI_sI]
        by_cases q : j = i
        · rw [if_pos ⟨rfl, q⟩]
        · rw [if_neg (fun z => q z.2)]; exact hn j (by omega)
  simp only [B_Presentation_takeSystem_0, hS.1, true_and]
  refine k_Pclear hS ?_
  intro M1 f1 p1
  simp only [Option.toList_none, List.nil_append, B_Presentation_takeSystem_0, SS]
  rw [z0]
  exact fill 26 0 M1 (by omega) f1 p1 (fun j hj => by omega)
