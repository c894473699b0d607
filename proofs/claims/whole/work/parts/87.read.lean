/-! the class's calls: a system's text -/
theorem PRV.fr {M M1 : Mm} {S : Nat → Prop} {x : Nat} {s : Pst} (h : PRV M x s) (hf : FrS S M M1) (hs : ∀ b, prZ x b → ¬ S b) : PRV M1 x s := by
  obtain ⟨a1, a2, a3, a4, a5, a6, a7, a8⟩ := h
  have g : ∀ b j, prZ x b → gI M1 b j = gI M b j := fun b j hb => hf.gI (hs b hb) j
  exact ⟨fun j hj => (g _ _ ⟨by omega, by omega⟩).trans (a1 j hj), (g _ _ ⟨by omega, by omega⟩).trans a2, (g _ _ ⟨by omega, by omega⟩).trans a3, (g _ _ ⟨by omega, by omega⟩).trans a4, (g _ _ ⟨by omega, by omega⟩).trans a5, (g _ _ ⟨by omega, by omega⟩).trans a6, a7.fr hf (hs _ ⟨by omega, by omega⟩) (hs _ ⟨by omega, by omega⟩), fun j hj => (g _ _ ⟨by omega, by omega⟩).trans (a8 j hj)⟩
theorem PRV.frx {M M1 : Mm} {S T : Nat → Prop} {x : Nat} {s : Pst} (h : PRV M x s) (hf : FrX S T M M1) (hx : x + 1094 ≤ nxt M) (hs : ∀ b, prZ x b → ¬ S b) : PRV M1 x s := by
  obtain ⟨a1, a2, a3, a4, a5, a6, a7, a8⟩ := h
  have g : ∀ b j, prZ x b → gI M1 b j = gI M b j := fun b j hb => (hf.2.2.2.1 b (by have := hb.2; omega) (hs b hb)).1 j
  exact ⟨fun j hj => (g _ _ ⟨by omega, by omega⟩).trans (a1 j hj), (g _ _ ⟨by omega, by omega⟩).trans a2, (g _ _ ⟨by omega, by omega⟩).trans a3, (g _ _ ⟨by omega, by omega⟩).trans a4, (g _ _ ⟨by omega, by omega⟩).trans a5, (g _ _ ⟨by omega, by omega⟩).trans a6, a7.frx hf (by omega) (hs _ ⟨by omega, by omega⟩) (hs _ ⟨by omega, by omega⟩), fun j hj => (g _ _ ⟨by omega, by omega⟩).trans (a8 j hj)⟩
theorem Bas.nm {M M1 : Mm} {x lf : Nat} {tp : List Nat} {nm nm' : Nm} {sl : Nat → List Nat} {td : List (Nat × Nat)} (h : Bas M x tp lf nm sl td) (hf : FrS (fun b => b = x + 2) M M1) (hn : NmV M1 (x + 2) nm') : Bas M1 x tp lf nm' sl td := by
  obtain ⟨a1, a2, ⟨a3, a4⟩, a5, a6, a7, a8, a9⟩ := h
  exact ⟨a1.fx hf.x (fun _ q => q.elim), a2.fr hf (by omega), ⟨(hf.gI (by omega) _).trans a3, (hf.gI (by omega) _).trans a4⟩, hn, fun i hi => ⟨(a6 i hi).1.fr hf (by omega) (by omega), (a6 i hi).2⟩, (hf.gI (by omega) _).trans a7, a8, a9.fr hf (by omega) (by omega)⟩
theorem Bas.congr {M : Mm} {x lf : Nat} {tp : List Nat} {nm : Nm} {sl sl' : Nat → List Nat} {td : List (Nat × Nat)} (h : Bas M x tp lf nm sl td) (hs : ∀ i, i < 8 → sl i = sl' i) : Bas M x tp lf nm sl' td := by
  obtain ⟨a1, a2, a3, a5, a6, a7⟩ := h
  exact ⟨a1, a2, a3, a5, fun i hi => by rw [← hs i hi]; exact a6 i hi, a7⟩
theorem prw_succ (ws : List (List Nat)) (n : Nat) : prw ws (n + 1) = prw ws n ++ [(ws.getD (2 * n) [], ws.getD (2 * n + 1) [])] := by
  simp [prw, List.range_succ]
theorem prw_len (ws : List (List Nat)) (n : Nat) : (prw ws n).length = n := by simp [prw]
/-- the row of PAIRS is empty -/
theorem Cmp.rowC {M : Mm} {x k f : Nat} {rs : List Ru} {row : List Pr} (h : Cmp M x rs k f row) : Cmp (sI (sI M (x + 1011) 1 0) (x + 1011) 2 0) x rs k 0 [] ∧ Cfr M (sI (sI M (x + 1011) 1 0) (x + 1011) 2 0) x := by
  have F : FrS (fun b => b = x + 1011) M (sI (sI M (x + 1011) 1 0) (x + 1011) 2 0) := (FrS.sI (S := fun b => b = x + 1011) rfl).trans (FrS.sI rfl)
  obtain ⟨hE, hS, hV, hC⟩ := h
  have hlo := hE.lo.1
  refine ⟨⟨hE.fr F (fun b q z => by have := q.2; omega) (by omega) (fun b n q _ z => by rcases q with q | q <;> omega), hS.fr F, ⟨by simp [SS, nI_0], by omega, by simp [SS, nI_0], by simp, fun k hk => by simp at hk⟩, hC.frx F.x hlo (fun _ _ _ q => q)⟩, F.x.weaken (fun b _ q => Or.inl ⟨by omega, by omega⟩) (fun _ _ q => q.elim), Pt.same rfl rfl ?_ (rgN_fr F) (fun j => rfl)⟩
  unfold capM
  rw [F.gI (by omega)]
section CL
variable {M : Mm} {x s0 : Nat} {Q : Option Value → Mm → Prop}
theorem k_beginSystem {lf k t ss i : Nat} {nm : Nm} {sl : Nat → List Nat} {td : List (Nat × Nat)} {rs : List Ru} {row : List Pr} {st : Bool} {fo : Option (Nat × Nat × Nat)} {s : Pst} (hB : Bas M x [] lf nm sl td) (hC : Cor M x s0 rs k row t ss st fo) (hV : PRV M x s) (hPI : PI s i) (hi : i ≤ 600) (hp1 : s.2.2.2.2 = 1) (hp2 : s.2.2.2.1 = [])
    (hQ : ∀ M', Bas M' x [] lf s.1 (fun _ => []) [] → Cor M' x s0 [] s.2.1 (prw s.2.2.1 (s.2.2.1.length / 2)) 0 0 false none → Xfr M M' x → gI M' (x + 3) 2 = nI (s.2.2.1.length / 2) → Q none M') : wp F_Mr_beginSystem 0 [.ref x, jk, jk] [] M Q := by
  obtain ⟨P1, P2, P3, P4, P5, P6, P7, P8, P9, P10⟩ := hPI
  obtain ⟨ev, e80⟩ := P4 hp1
  have f600 : s.2.2.1.flatten.length ≤ 600 := by simp only [List.length_append] at P7; omega
  have hg : ∀ i, (s.2.2.1.getD i []).length ≤ 24 := fun i => by
    by_cases hi : i < s.2.2.1.length
    · have e : s.2.2.1.getD i [] = s.2.2.1[i] := by rw [List.getD_eq_getElem?_getD, List.getElem?_eq_getElem hi]; rfl
      rw [e]; exact (P8 _ (List.getElem_mem hi)).1
    · have e : s.2.2.1.getD i [] = [] := by rw [List.getD_eq_getElem?_getD, List.getElem?_eq_none (by omega)]; rfl
      rw [e]; simp
  obtain ⟨⟨m0, f0, f3, f4, f5, -⟩, ⟨b2, b8, -⟩, -, hslS, hPR, hx⟩ := id hB.1
  have z0 : cl (0 : Int32) = 0 := rfl
  have z26 : cl (26 : Int32) = 26 := rfl
  have ck : cpOk M (x + 4) (x + 2) 0 0 26 := ⟨26, 26, hPR.2.2.1, b2, by decide, by decide, by decide, by decide, by decide⟩
  simp only [B_Mr_beginSystem_0, SS, m0, f3, f4, hPR.1, hPR.2.1.1, ck, z0, z26, true_and]
  have F1 : FrS (fun b => b = x + 2) M (cpI M (x + 4) (x + 2) 0 0 26) := FrS.cp rfl
  have B1 : Bas (cpI M (x + 4) (x + 2) 0 0 26) x [] lf s.1 sl td := hB.nm F1 (fun j hj => by
    have : 0 ≤ j ∧ j < 0 + 26 := ⟨by omega, by omega⟩
    rw [gI_cp, if_pos ⟨rfl, this⟩]
    simp only [Nat.zero_add, Nat.sub_zero]
    exact hV.1 j hj)
  have V1 := hV.fr F1 (fun b q => by have := q.1; omega)
  generalize cpI M (x + 4) (x + 2) 0 0 26 = M1 at F1 B1 V1
  -- the SLOTS
  have slots : ∀ d j (M2 : Mm) (sl' : Nat → List Nat), j + d = 8 → Bas M2 x [] lf s.1 sl' td → FrS (fun b => b = x + 2 ∨ (x + 1048 ≤ b ∧ b < x + 1064)) M M2 → PRV M2 x s → (∀ i, i < j → sl' i = []) → (∀ M3 (l1 : Value), Bas M3 x [] lf s.1 (fun _ => []) td → FrS (fun b => b = x + 2 ∨ (x + 1048 ≤ b ∧ b < x + 1064)) M M3 → PRV M3 x s → wp F_Mr_beginSystem 41 [.ref x, l1, jk] [] M3 Q) → wp F_Mr_beginSystem 20 [.ref x, .int (nI j), jk] [] M2 Q := by
    intro d
    induction d with
    | zero =>
      intro j M2 sl' hj B2 F2 V2 hs K
      have g : (8 : Int32) ≤ nI j := nI_le (a := 8) (by omega) (by omega)
      simp only [B_Mr_beginSystem_20, g, if_true]
      exact K M2 _ (B2.congr (fun i hi => hs i (by omega))) F2 V2
    | succ d ih =>
      intro j M2 sl' hj B2 F2 V2 hs K
      obtain ⟨⟨m0, f0, f3, f4, f5, -⟩, ⟨b2, b8, -⟩, -, hslS, hPR, hx⟩ := id B2.1
      obtain ⟨s1, s2⟩ := hslS j (by omega)
      have g : ¬ (8 : Int32) ≤ nI j := nI_ge (b := 8) (by omega) (by omega)
      have e1 : ixR M2 (x + 8) (nI j) := ixR_of b8 (by omega) (by omega) (by omega)
      simp only [B_Mr_beginSystem_20, g, if_false, SS, m0, f5, e1, cl_nI (show j < 2147483648 by omega), s1, s2.1, true_and]
      refine k_Word_clear s2 ?_
      intro M3 F3 v3
      simp only [SS, Option.toList_none, List.nil_append, B_Mr_beginSystem_20, nI_i1]
      rw [G_Mr_beginSystem_38]
      refine ih (j + 1) M3 (upd1 sl' j []) (by omega) (B2.slot F3.x (by omega) (fun b q => Or.inr (Or.inr q)) (fun _ q => q.elim) v3 (by simp)) (F2.trans (F3.weaken (fun b q => Or.inr (by rcases q with q | q <;> exact ⟨by omega, by omega⟩)))) (V2.fr F3 (fun b q z => by have := q.2; rcases z with z | z <;> omega)) (fun i hi => ?_) K
      by_cases e : i = j
      · simp [upd1, e]
      · simp only [upd1, if_neg e]; exact hs i (by omega)
  refine slots 8 0 M1 sl rfl B1 (F1.weaken (fun b q => Or.inl q)) V1 (fun i hi => by omega) ?_
  intro M3 l1 B3 F3 V3
  have C3 := hC.own F3.z (fun b q => by rcases q with q | q; · exact Or.inl (by omega)
                                        · exact Or.inr ⟨by omega, by omega⟩)
  have X3 : Xfr M M3 x := F3.z.xf (fun b q => by rcases q with q | q <;> exact ⟨by omega, by omega⟩)
  have A3 := C3.aux
  obtain ⟨f, kn, cr, tk, c1, c2, c3, c4, c5, c6⟩ := C3
  obtain ⟨hlo3, hwf3, hR3, hV3⟩ := c1.1.lo
  obtain ⟨⟨m0, f0, f3, f4, f5, f6, f7, -⟩, -, -, -, hPR, hx⟩ := id B3.1
  simp only [B_Mr_beginSystem_41, SS, m0, f4, f6, hPR.1, hR3.1, V3.2.1, true_and]
  refine k_Rules_begin hR3 ?_
  intro M4 F4 rv4 g42 g43
  obtain ⟨d1, d2⟩ := c1.ruleW (k' := s.2.1) F4 rv4 g42 g43 ⟨fun u hu => by simp at hu, P1, by simp⟩
  have A4 := A3.cfr d2 hlo3
  have U4 : Ufr M3 M4 x (fun _ => False) := d2.u
  have V4 := V3.fr F4 (fun b q z => by have := q.2; have := z.1; omega)
  have S4 := B3.1.fx U4 (fun _ q => q)
  obtain ⟨⟨m0, f0, f3, f4, f5, f6, f7, -⟩, -, -, -, hPR, hx4⟩ := id S4
  simp only [SS, Option.toList_none, List.nil_append, B_Mr_beginSystem_41, m0, f7, d1.2.1.1, true_and]
  rw [k_Row_clear d1.2.1]
  simp only [SS, Option.toList_none, List.nil_append, B_Mr_beginSystem_41]
  obtain ⟨e1, e2⟩ := d1.rowC
  have A5 := A4.cfr e2 hx4
  have V5 : PRV (sI (sI M4 (x + 1011) 1 0) (x + 1011) 2 0) x s := V4.fr (S := fun b => b = x + 1011) ((FrS.sI (S := fun b => b = x + 1011) rfl).trans (FrS.sI rfl)) (fun b q z => by have := q.2; omega)
  have U5 : Ufr M3 (sI (sI M4 (x + 1011) 1 0) (x + 1011) 2 0) x (fun _ => False) := U4.trans e2.u
  generalize sI (sI M4 (x + 1011) 1 0) (x + 1011) 2 0 = M5 at e1 A5 V5 U5
  -- the PAIRS
  have pairs : ∀ d j (M6 : Mm) (l2 : Value), j + d = s.2.2.1.length / 2 → Cmp M6 x [] s.2.1 0 (prw s.2.2.1 j) → Aux M6 x s0 → PRV M6 x s → Ufr M3 M6 x (fun _ => False) → (∀ M7 (l1 l2 : Value), Cmp M7 x [] s.2.1 0 (prw s.2.2.1 (s.2.2.1.length / 2)) → Aux M7 x s0 → PRV M7 x s → Ufr M3 M7 x (fun _ => False) → wp F_Mr_beginSystem 123 [.ref x, l1, l2] [] M7 Q) → wp F_Mr_beginSystem 64 [.ref x, .int (nI j), l2] [] M6 Q := by
    intro d
    induction d with
    | zero =>
      intro j M6 l2 hj hc6 A6 V6 U6 K
      have S6 := B3.1.fx U6 (fun _ q => q)
      have g : nI (s.2.2.1.length / 2) ≤ nI j := nI_le (by omega) (by omega)
      simp only [B_Mr_beginSystem_64, SS, S6.1.1, S6.1.2.2.2.1, S6.2.2.2.2.1.1, V6.2.2.1, g, if_true, true_and]
      have ej : j = s.2.2.1.length / 2 := by omega
      rw [ej] at hc6
      exact K M6 _ _ hc6 A6 V6 U6
    | succ d ih =>
      intro j M6 l2 hj hc6 A6 V6 U6 K
      have S6 := B3.1.fx U6 (fun _ q => q)
      have hx6 := S6.2.2.2.2.2
      have g : ¬ nI (s.2.2.1.length / 2) ≤ nI j := nI_ge (by omega) (by omega)
      simp only [B_Mr_beginSystem_64, SS, S6.1.1, S6.1.2.2.2.1, S6.1.2.2.2.2.2.2.1, S6.2.2.2.2.1.1, V6.2.2.1, g, if_false, hc6.2.1.1, true_and]
      refine k_behind hc6.2.1 hc6.2.2.1 hx6 (fun q => by rw [prw_len] at q; omega) ?_
      intro hlt p dd M7 hb
      have hb' := hb
      rw [prw_len] at hb'
      obtain ⟨h1, h2, h3, h4, h5, h6, h7, h8, h9, h10, h11, h12, h13⟩ := hb
      have S7 := S6.fx h6 (fun b q => Or.inl ⟨by omega, by omega⟩)
      have V7 := V6.frx h6 hx6 (fun b q z => by have := q.2; omega)
      simp only [SS, List.cons_append, List.nil_append, B_Mr_beginSystem_64, S7.1.1, S7.1.2.2.2.1, S7.2.2.2.2.1.1, h11.1, h11.2.1, true_and]
      have c2' : (2 : Int32) = nI 2 := rfl
      simp only [c2', pk_mul]
      refine k_copyWord S7.2.2.2.2.1 V7 hp2 f600 (by omega) e80 h11.2.2.2.1 (by omega) (by have := hg (2 * j); omega) (by omega) ?_
      intro M8 F8 v8
      have S8 := S7.fx F8.x (fun _ q => q.elim)
      have V8 := V7.fr F8 (fun b q z => by have := q.2; rcases z with z | z <;> omega)
      have e11 : PS M8 p := ⟨(F8.sh _).trans h11.1, (F8.gR _ _).trans h11.2.1, (F8.gR _ _).trans h11.2.2.1, h11.2.2.2.1.fr F8, h11.2.2.2.2.fr F8⟩
      simp only [SS, Option.toList_none, List.nil_append, B_Mr_beginSystem_64, S8.1.1, S8.1.2.2.2.1, S8.2.2.2.2.1.1, e11.1, e11.2.2.1, true_and, c2', pk_mul, nI_i1]
      refine k_copyWord S8.2.2.2.2.1 V8 hp2 f600 (by omega) e80 e11.2.2.2.2 (by omega) (by have := hg (2 * j + 1); omega) (by omega) ?_
      intro M9 F9 v9
      have F89 : FrS (fun b => wS (p + 1) b ∨ wS (p + 3) b) M7 M9 := (F8.weaken (fun _ q => Or.inl q)).trans (F9.weaken (fun _ q => Or.inr q))
      have V9 := V8.fr F9 (fun b q z => by have := q.2; rcases z with z | z <;> omega)
      have v89 := v8.fr F9 (fun z => by rcases z with z | z <;> omega) (fun z => by rcases z with z | z <;> omega)
      obtain ⟨r1, r2, -⟩ := push_row (u := (s.2.2.1.getD (2 * j) [], s.2.2.1.getD (2 * j + 1) [])) hc6 ⟨h1, h2, h3, h4, h5, h6, h7, h8, h9, h10, h11, h12, h13⟩ hlt F89 v89 v9 (by have := hg (2 * j); show (s.2.2.1.getD (2 * j) []).length ≤ 120; omega) (by have := hg (2 * j + 1); show (s.2.2.1.getD (2 * j + 1) []).length ≤ 120; omega)
      simp only [SS, Option.toList_none, List.nil_append, B_Mr_beginSystem_64, B_Mr_beginSystem_117, nI_i1]
      rw [G_Mr_beginSystem_120]
      rw [← prw_succ] at r1
      exact ih (j + 1) M9 _ (by omega) r1 (A6.cfr r2 hx6) V9 (U6.trans r2.u) K
  refine pairs (s.2.2.1.length / 2) 0 M5 jk (by omega) e1 A5 V5 U5 ?_
  intro M7 l1 l2 c7 A7 V7 U7
  have S7 := B3.1.fx U7 (fun _ q => q)
  have hx7 := S7.2.2.2.2.2
  obtain ⟨⟨m0, f0, f3, f4, f5, f6, f7, f8, f9, f10, f11, f12, -⟩, -⟩ := id S7
  simp only [B_Mr_beginSystem_123, SS, m0, f10, c7.2.2.2.1, true_and]
  refine k_Cbegin c7 ?_
  intro M8 c8 n8 F8 p8
  have A8 := A7.z F8.z (by omega) hx7
  have S8 := S7.fx F8.x (fun _ q => q.elim)
  have hx8 := S8.2.2.2.2.2
  obtain ⟨⟨m0, f0, f3, f4, f5, f6, f7, f8, f9, f10, f11, f12, -⟩, -⟩ := id S8
  simp only [SS, Option.toList_none, List.nil_append, B_Mr_beginSystem_123, m0, f11, A8.1.1, true_and]
  refine k_Fbegin (rs' := []) c8 A8.1 ?_
  intro M9 c9 fn9 F9 p9
  have A9 := A8.z F9.z (by omega) hx8
  have S9 := S8.fx F9.x (fun _ q => q.elim)
  have hx9 := S9.2.2.2.2.2
  have n9 := n8.x F9.x hx8 (by omega)
  obtain ⟨⟨m0, f0, f3, f4, f5, f6, f7, f8, f9, f10, f11, f12, -⟩, -⟩ := id S9
  obtain ⟨A91, ⟨W, I, Qa, P, wl, ql, el⟩, A93⟩ := A9
  simp only [SS, Option.toList_none, List.nil_append, B_Mr_beginSystem_123, m0, f12, el.1, true_and, B_Elements_begin_0, true_or, or_true]
  have F10 : FrS (fun b => b = x + 1034) M9 (sI (sI M9 (x + 1034) 3 0) (x + 1034) 4 0) := (FrS.sI (S := fun b => b = x + 1034) rfl).trans (FrS.sI rfl)
  have S10 := S9.fx F10.x (fun _ q => q.elim)
  have g3 : gI (sI (sI M9 (x + 1034) 3 0) (x + 1034) 4 0) (x + 1034) 3 = nI 0 := by simp [SS, nI_0]
  have g4 : gI (sI (sI M9 (x + 1034) 3 0) (x + 1034) 4 0) (x + 1034) 4 = bI false := by simp [SS, bI]
  generalize sI (sI M9 (x + 1034) 3 0) (x + 1034) 4 0 = M10 at F10 S10 g3 g4
  have F11 : FrS (fun b => b = x) M10 (sI M10 x 15 0) := FrS.sI rfl
  have U10 : Ufr M3 M10 x (fun _ => False) := ((U7.trans (F8.x.weaken (fun b _ q => Or.inl (Or.inl ⟨by omega, by omega⟩)) (fun _ _ q => q.elim))).trans (F9.x.weaken (fun b _ q => Or.inl (Or.inl ⟨by omega, by omega⟩)) (fun _ _ q => q.elim))).trans (F10.x.weaken (fun b _ q => Or.inl (Or.inl ⟨by omega, by omega⟩)) (fun _ _ q => q.elim))
  have B10 := B3.u U10 (fun _ q => q.elim)
  have V10 := ((V7.fr F8 (fun b q z => by have := q.2; omega)).fr F9 (fun b q z => by have := q.2; omega)).fr F10 (fun b q z => by have := q.2; omega)
  have C10 : Cor M10 x s0 [] s.2.1 (prw s.2.2.1 (s.2.2.1.length / 2)) 0 0 false none := by
    refine ⟨0, false, 0, false, c9.z F10.z (fun b q => Or.inr ⟨by omega, by omega⟩), n9.x F10.x hx9 (by omega), fn9.x F10.x hx9 (fun _ _ _ q => q) (by omega), ⟨W, I, Qa, P, wl, ql, el.frZ F10.z, g3, by omega, g4, fun y => y.elim (fun y => absurd y (by omega)) (fun y => by cases y), fun y => absurd y (by omega), fun y => by cases y⟩, fun y => y.elim (fun y => absurd y (by omega)) (fun y => by cases y), A93.pg (Pg.z F10.z (by omega))⟩
  refine hQ _ (B10.told (td' := []) (F11.weaken (fun b q => Or.inl q)) (by simp [SS]) (by simp [SS]) (by simp [SS, nI_0]) (by simp) (fun j h1 h2 => by simp at h1)) (C10.own F11.z (fun b q => Or.inl (by omega))) ((X3.trans (U10.xf (fun _ q => q.elim))).trans (F11.z.xf (fun b q => ⟨by omega, by omega⟩))) ?_
  simp only [SS, show ¬ x + 3 = x by omega, false_and, if_false]
  exact V10.2.2.1
theorem c_read {σ : Sg} (h : ClV M x s0 σ) (hI : SgI σ) (hQ : ∀ M', ClV M' x s0 (rdG σ).2 → Xfr M M' x → Q (some (.int (rdG σ).1)) M') : wp F_Mr_read 0 [.ref x, jk] [] M Q := by
  obtain ⟨⟨tp, lf, nm⟩, ⟨k, rs, row⟩, ⟨t, s, st, fo⟩, sl, td⟩ := σ
  obtain ⟨hB, hC⟩ := h
  have hB : Bas M x tp lf nm sl td := hB
  have hC : Cor M x s0 rs k row t s st fo := hC
  simp only [rdG, sTp] at hQ
  have F0 : FrS (fun b => b = x ∨ prZ x b) M (sI M x 1 0) := FrS.sI (Or.inl rfl)
  have S0 := hB.1.fx F0.x (fun _ q => q.elim)
  have hT0 : TPV (sI M x 1 0) x tp := hB.2.1.fr F0 (by omega)
  obtain ⟨⟨m0, f0, f3, f4, f5, -⟩, ⟨b2, b8, -⟩, -, hslS, hPR, hx⟩ := id hB.1
  simp only [B_Mr_read_0, SS, m0, f0, f4, hPR.1, hB.2.2.1.1, true_and]
  refine k_takeSystem S0.2.2.2.2.1 hT0 ?_ ?_
  · intro n p hw M1 F1 g8 g9
    rw [hw] at hQ
    have F01 : FrS (fun b => b = x ∨ prZ x b) M M1 := F0.trans (F1.weaken (fun b q => Or.inr q))
    have S1 := hB.1.fx F01.x (fun _ q => q.elim)
    simp only [SS, List.cons_append, List.nil_append, B_Mr_read_0, if_true, S1.1.1, true_and]
    rw [k_tellFault S1 g8 g9]
    simp only [SS, List.cons_append, List.nil_append, B_Mr_read_0]
    have F2 : FrS (fun b => b = x ∨ prZ x b) M (sI M1 x 2 (nI n)) := F01.trans (FrS.sI (Or.inl rfl))
    refine hQ _ ⟨hB.txt F2 ?_ ?_ ?_, hC.own F2.z (fun b q => Or.inl (by rcases q with q | q <;> omega))⟩ (F2.z.xf (fun b q => by rcases q with q | q <;> exact ⟨by omega, by omega⟩))
    · simp only [SS, show ¬ (1 : Nat) = 2 by omega, and_false, if_false]
      exact (F1.gI (by omega) 1).trans (by simp [SS])
    · simp [SS]
    · simp only [SS, show ¬ (15 : Nat) = 2 by omega, and_false, if_false]
      exact (F1.gI (by omega) 15).trans (by simp [SS])
  · intro u hw M1 F1 vf
    rw [hw] at hQ
    obtain ⟨hp, hp1, hp2⟩ := prun_PI _ _ _ (show PI pst0 0 from ⟨by simp [pst0], fun j a q => by simp [pst0] at q, fun _ => ⟨rfl, rfl⟩, fun q => by simp [pst0] at q, fun q => by simp [pst0] at q, by simp [pst0], by simp [pst0], fun w hw => by simp [pst0] at hw, by simp [pst0], fun c hc => by simp [pst0] at hc⟩) hw
    have F01 : FrS (fun b => b = x ∨ prZ x b) M M1 := F0.trans (F1.weaken (fun b q => Or.inr q))
    have B1 : Bas M1 x [] lf nm sl td := hB.txt F01 ((F1.gI (by omega) 1).trans (by simp [SS])) ((F1.gI (by omega) 2).trans (by simp [SS, hB.2.2.1.2])) ((F1.gI (by omega) 15).trans (by simp [SS]))
    have C1 : Cor M1 x s0 rs k row t s st fo := hC.own F01.z (fun b q => Or.inl (by rcases q with q | q <;> omega))
    simp only [SS, List.cons_append, List.nil_append, B_Mr_read_0, i10, if_false, B_Mr_read_30, B1.1.1.1, true_and]
    refine k_beginSystem B1 C1 vf hp (by have := hB.2.1.2.2.2; omega) hp1 hp2 ?_
    intro M2 B2 C2 X2 g2
    simp only [SS, Option.toList_none, List.nil_append, B_Mr_read_30, B2.1.1.1, B2.1.1.2.2.2.1, B2.1.2.2.2.2.1.1, g2, true_and]
    exact hQ M2 ⟨B2, C2⟩ ((F01.z.xf (fun b q => by rcases q with q | q <;> exact ⟨by omega, by omega⟩)).trans X2)
end CL
