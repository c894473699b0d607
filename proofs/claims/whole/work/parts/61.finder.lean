/-! the Finder -/
def fnZ (x b : Nat) : Prop := x + 1029 ≤ b ∧ b < x + 1034
def Gfr (M M' : Mm) (x : Nat) (P : Nat → Prop) : Prop := FrX (fun b => zS M x b ∨ P b) (zT x) M M' ∧ Pt M M' x ∧ (gI M (x + 9) 3 = 0 → FrS (fun b => rdS (x + 1018) b ∨ fnZ x b) M M') ∧ ∀ j, gI M' (x + 1024) j = gI M (x + 1024) j
theorem fnZ_out {x b : Nat} (h : b < x + 1018) : ¬ (rdS (x + 1018) b ∨ fnZ x b) := fun q => by
  rcases q with q | q
  · omega
  · have := q.1; omega
theorem Gfr.trans {M M1 M2 : Mm} {x : Nat} {P : Nat → Prop} (h : Gfr M M1 x P) (h2 : Gfr M1 M2 x P) : Gfr M M2 x P := ⟨h.1.trans' h2.1 (fun _ hb q => q.imp (fun q => zS_back h.1 hb q) id) (fun _ _ q => q), h.2.1.trans h2.2.1 h.1.1, fun h0 => (h.2.2.1 h0).trans (h2.2.2.1 (((h.2.2.1 h0).gI (fnZ_out (by omega)) 3).trans h0)), fun j => (h2.2.2.2 j).trans (h.2.2.2 j)⟩
theorem Gfr.rfl {M : Mm} {x : Nat} {P : Nat → Prop} : Gfr M M x P := ⟨FrX.rfl, Pt.rfl, fun _ => FrS.rfl, fun _ => Eq.refl _⟩
theorem TfN.g {M M' : Mm} {x k : Nat} {rs : List Ru} {P : Nat → Prop} (h : Cfr M M' x) (T : TfN M M' (x + 1018) (x + 9) (x + 1013) (x + 1094) rs k) (h3 : ∀ b j, x + 1024 ≤ b → b < x + 1094 → gI M' b j = gI M b j) : Gfr M M' x P := ⟨h.1.weaken (fun _ _ q => Or.inl q) (fun _ _ q => q), h.2, fun h0 => (T.2.2.2.2 h0).weaken (fun _ q => Or.inl q), fun j => h3 _ j (by omega) (by omega)⟩
theorem TfY.frs {M M' : Mm} {rd z mc lo u : Nat} {rs : List Ru} {k : Nat} {w : List Nat} {tr : List (Nat × Nat)} (h : TfY M M' rd z mc lo u rs k w tr) (h0 : gI M z 3 = 0) : FrS (fun b => rdS rd b ∨ wS u b) M M' := by
  obtain ⟨⟨M4, q1, q2⟩, -⟩ := h
  exact ((q1.2.2.2.2 h0).weaken (fun _ q => Or.inl q)).trans (q2.weaken (fun _ q => Or.inr q))
theorem FrS.g {M M' : Mm} {x : Nat} {S : Nat → Prop} (hf : FrS S M M') (hp : Pt M M' x) (hs : ∀ b, S b → fnZ x b) : Gfr M M' x (fnZ x) := ⟨hf.x.weaken (fun b _ q => Or.inr (hs b q)) (fun _ _ q => q.elim), hp, fun _ => hf.weaken (fun b q => Or.inr (hs b q)), fun j => hf.gI (fun q => by have := (hs _ q).1; omega) j⟩
def tryT (rs : List Ru) (u v : Ru) : Nat → Nat → Option (Option Nat)
  | 0, _ => none
  | m + 1, n => if mat u.1 (u.1.length - n) v.1 n = true then (match form rs (spl u v n).1 with
      | none => some none
      | some (a, _) => match form rs (spl u v n).2 with
        | none => some none
        | some (b, _) => if cmpW a b = 0 then tryT rs u v m (n + 1) else some (some n))
    else tryT rs u v m (n + 1)
def try2 (rs : List Ru) (i j : Nat) : Option (Option Nat) := if (rs.getD i dR).2.2 = true ∧ (rs.getD j dR).2.2 = true then tryT rs (rs.getD i dR) (rs.getD j dR) (min (rs.getD i dR).1.length (rs.getD j dR).1.length - 1) 1 else none
def tryJ (rs : List Ru) (i : Nat) : Nat → Nat → Option (Option (Nat × Nat × Nat))
  | 0, _ => none
  | m + 1, j => match try2 rs i j with
    | none => tryJ rs i m (j + 1)
    | some none => some none
    | some (some n) => some (some (i, j, n))
def tryI (rs : List Ru) : Nat → Nat → Option (Option (Nat × Nat × Nat))
  | 0, _ => none
  | m + 1, i => match tryJ rs i rs.length 0 with
    | none => tryI rs m (i + 1)
    | some r => some r
def opn (rs : List Ru) : Option (Option (Nat × Nat × Nat)) := tryI rs rs.length 0
def ansI {α : Type} : Option (Option α) → Int32
  | none => 0
  | some none => -4
  | some (some _) => 1
def fdN {α : Type} (o : Option (Option α)) (fo : Option α) : Option α := match o with
  | some (some q) => some q
  | _ => fo
def FNS (M : Mm) (x : Nat) : Prop := sh M (x + 1029) = some (.inl 2) ∧ (gR M (x + 1029) 0 = some (x + 9) ∧ gR M (x + 1029) 1 = some (x + 1018) ∧ gR M (x + 1029) 2 = some (x + 1030) ∧ gR M (x + 1029) 3 = some (x + 1032)) ∧ WS M (x + 1030) 120 ∧ WS M (x + 1032) 120
theorem FNS.frx {M M1 : Mm} {S T : Nat → Prop} {x : Nat} (h : FNS M x) (hf : FrX S T M M1) (hx : x + 1094 ≤ nxt M) (ht : ∀ b, x + 1029 ≤ b → b < x + 1034 → ¬ T b) : FNS M1 x := by
  have t2 : ∀ j, gR M1 (x + 1029) j = gR M (x + 1029) j := fun j => hf.2.2.2.2 _ (by omega) (ht _ (by omega) (by omega)) j
  exact ⟨(hf.2.2.1 _ (by omega)).trans h.1, ⟨(t2 _).trans h.2.1.1, (t2 _).trans h.2.1.2.1, (t2 _).trans h.2.1.2.2.1, (t2 _).trans h.2.1.2.2.2⟩, h.2.2.1.frx hf (by omega) (ht _ (by omega) (by omega)), h.2.2.2.frx hf (by omega) (ht _ (by omega) (by omega))⟩
/-- what it found -/
def FND (M : Mm) (x : Nat) (fo : Option (Nat × Nat × Nat)) : Prop := gI M (x + 1029) 6 = bI fo.isSome ∧ ∀ q, fo = some q → gI M (x + 1029) 7 = nI q.1 ∧ gI M (x + 1029) 8 = nI q.2.1 ∧ gI M (x + 1029) 9 = nI q.2.2
theorem FND.eq {M M1 : Mm} {x : Nat} {fo : Option (Nat × Nat × Nat)} (h : FND M x fo) (e : ∀ j, gI M1 (x + 1029) j = gI M (x + 1029) j) : FND M1 x fo := ⟨(e _).trans h.1, fun q hq => ⟨(e _).trans (h.2 q hq).1, (e _).trans (h.2 q hq).2.1, (e _).trans (h.2 q hq).2.2⟩⟩
/-- known and answer stay -/
def KnE (M M' : Mm) (x : Nat) : Prop := gI M' (x + 1029) 4 = gI M (x + 1029) 4 ∧ gI M' (x + 1029) 5 = gI M (x + 1029) 5
theorem k_tryTwo {M : Mm} {x : Nat} {rs : List Ru} {k f a b : Nat} {row : List Pr} {fo : Option (Nat × Nat × Nat)} {Q : Option Value → Mm → Prop} (h : Cmp M x rs k f row) (hS : FNS M x) (hV : FND M x fo) (ha : a < rs.length) (hb : b < rs.length)
    (hQ : ∀ o, o = tryT rs (rs.getD a dR) (rs.getD b dR) (min (rs.getD a dR).1.length (rs.getD b dR).1.length - 1) 1 → ∀ M', Cmp M' x rs k f row → FNS M' x → FND M' x (fdN (o.map (fun o => o.map (fun n => (a, b, n)))) fo) → Gfr M M' x (fnZ x) → KnE M M' x → Q (some (.int (ansI o))) M') : wp F_Finder_tryTwo 0 [.ref (x + 1029), .int (nI a), .int (nI b), jk, jk, jk, jk] [] M Q := by
  obtain ⟨r1, v1, g1, -⟩ := h.ru ha
  obtain ⟨r2, v2, g2, -⟩ := h.ru hb
  obtain ⟨hlo, wf, hRU, hRV⟩ := h.1.lo
  have hl := wf.2.2
  have w1 := wf.1 _ (getD_mem ha)
  have w2 := wf.1 _ (getD_mem hb)
  have p1 : 0 < (rs.getD a dR).1.length := List.length_pos_iff.mpr w1.1
  have p2 : 0 < (rs.getD b dR).1.length := List.length_pos_iff.mpr w2.1
  generalize hu : rs.getD a dR = u at *
  generalize hv : rs.getD b dR = v at *
  have hrd : sh M (x + 1018) = some (.inl 6) := by
    obtain ⟨A, B, C, D, cap, a1, a2, a3, -⟩ := h.1
    exact a3.1
  generalize ho : tryT rs u v (min u.1.length v.1.length - 1) 1 = o at hQ
  have loop : ∀ m n M', n + m = min u.1.length v.1.length → 1 ≤ n → Cmp M' x rs k f row → FNS M' x → FND M' x fo → Gfr M M' x (fnZ x) → KnE M M' x → o = tryT rs u v m n → wp F_Finder_tryTwo 32 [.ref (x + 1029), .int (nI a), .int (nI b), .ref (x + 9 + 2 + 5 * a), .ref (x + 9 + 2 + 5 * b), .int (nI (min u.1.length v.1.length - 1)), .int (nI n)] [] M' Q := by
    intro m
    induction m with
    | zero =>
      intro n M' hn n1 hC hS' hV' hF hK he
      have e1 : nI (min u.1.length v.1.length - 1) < nI n := nI_lt (by omega) (by omega)
      simp only [B_Finder_tryTwo_32, B_Finder_tryTwo_151, e1, if_true]
      have e2 : o = none := he
      subst e2
      exact hQ none rfl M' hC hS' hV' hF hK
    | succ m ih =>
      intro n M' hn n1 hC hS' hV' hF hK he
      have e1 : ¬ nI (min u.1.length v.1.length - 1) < nI n := nI_nlt (by omega) (by omega)
      obtain ⟨r1, v1, -, -⟩ := hC.ru ha
      obtain ⟨r2, v2, -, -⟩ := hC.ru hb
      rw [hu] at v1
      rw [hv] at v2
      have hlo' := hC.1.lo.1
      simp only [B_Finder_tryTwo_32, e1, if_false, r1.1, true_and]
      rw [k_overlaps r1 r2 v1 v2 (by omega) (by omega)]
      simp only [SS, List.cons_append, List.nil_append, B_Finder_tryTwo_32, bI_ne]
      cases hm : mat u.1 (u.1.length - n) v.1 n with
      | false =>
        simp only [if_true, B_Finder_tryTwo_145, SS, nI_i1]
        rw [G_Finder_tryTwo_148]
        refine ih (n + 1) M' (by omega) (by omega) hC hS' hV' hF hK ?_
        rw [he, tryT, hm, if_neg (by simp)]
      | true =>
        have he2 : o = _ := he.trans (by rw [tryT, hm, if_pos rfl])
        have ls1 : (spl u v n).1.length ≤ 119 := by simp only [spl, List.length_append, List.length_drop]; omega
        have ls2 : (spl u v n).2.length ≤ 119 := by simp only [spl, List.length_append, List.length_take]; omega
        have lk1 : ∀ c ∈ (spl u v n).1, c < k := fun c hc => by
          rcases List.mem_append.mp hc with q | q
          · exact w1.2.2.2.2 c q
          · exact w2.2.2.2.1 c (List.mem_of_mem_drop q)
        have lk2 : ∀ c ∈ (spl u v n).2, c < k := fun c hc => by
          rcases List.mem_append.mp hc with q | q
          · exact w1.2.2.2.1 c (List.mem_of_mem_take q)
          · exact w2.2.2.2.2 c q
        simp only [Bool.true_eq_false, if_false, B_Finder_tryTwo_53, SS, hS'.1, hS'.2.1.2.2.1, hS'.2.1.2.2.2, r1.1, true_and]
        refine k_spell r1 r2 v1 v2 hS'.2.2.1 hS'.2.2.2 (by omega) (by omega) (by omega) (fun c _ _ => ⟨fun q => by rcases q with q | q <;> omega, fun q => by rcases q with q | q <;> omega⟩) (fun c _ _ => ⟨fun q => by rcases q with q | q <;> omega, fun q => by rcases q with q | q <;> omega⟩) ?_
        intro M2 f2 wv1 wv2
        have f2' : FrS (fun b => x + 1030 ≤ b ∧ b < x + 1034) M' M2 := f2.weaken (fun b q => by rcases q with (q | q) | (q | q) <;> exact ⟨by omega, by omega⟩)
        obtain ⟨C2, P2⟩ := hC.own (f2'.weaken (fun b q => ⟨by omega, by omega⟩))
        have S2 := hS'.frx f2'.x hlo' (fun _ _ _ q => q)
        have F2 := hF.trans (f2'.g P2 (fun b q => ⟨by omega, by omega⟩))
        have E2 : ∀ j, gI M2 (x + 1029) j = gI M' (x + 1029) j := fun j => f2'.gI (fun q => by omega) j
        have nx2 := f2'.nxt
        have hrd2 : sh M2 (x + 1018) = some (.inl 6) := by
          obtain ⟨A, B, C, D, cap, a1, a2, a3, -⟩ := C2.1
          exact a3.1
        simp only [Option.toList_none, List.nil_append, B_Finder_tryTwo_53, SS, S2.1, S2.2.1.2.1, S2.2.1.2.2.1, hrd2, true_and]
        refine k_toForm C2.1 S2.2.2.1 S2.2.2.1 wv1 (Nat.le_trans ls1 (by omega)) (Nat.le_trans ls1 (by omega)) lk1 (by omega) (by omega) (Nat.le_trans ls1 (by omega)) (by omega) (by omega) ?_ ?_
        · intro hnone M3 T
          obtain ⟨c1, c2, c3⟩ := C2.tfN T
          have E3 : ∀ j, gI M3 (x + 1029) j = gI M' (x + 1029) j := fun j => (c3 _ _ (by omega) (by omega)).trans (E2 j)
          simp only [SS, List.cons_append, List.nil_append, B_Finder_tryTwo_53, B_Finder_tryTwo_105, if_true]
          have e5 : o = some none := by
            have : form rs (spl u v n).1 = none := hnone
            rw [he2, this]
          subst e5
          exact hQ _ rfl M3 c1 (S2.frx T.2.1 (by omega) (fun b _ _ q => by omega)) (hV'.eq E3) (F2.trans (T.g c2 c3)) ⟨(E3 4).trans hK.1, (E3 5).trans hK.2⟩
        intro wa tr1 hs1 ha1 ha2 M3 T
        obtain ⟨c1, c2, c3, c4⟩ := C2.tfY T S2.2.2.1 ⟨by omega, by omega⟩
        have F3 := F2.trans (P := fnZ x) ⟨c2.weaken (fun b _ q => q.imp id (fun q => by rcases q with q | q <;> exact ⟨by omega, by omega⟩)) (fun _ _ q => q), c3, fun h0 => (T.frs h0).weaken (fun b q => q.imp id (fun q => by rcases q with q | q <;> exact ⟨by omega, by omega⟩)), fun j => c4 _ j (by omega) (by omega) (fun q => by rcases q with q | q <;> omega)⟩
        have E3 : ∀ j, gI M3 (x + 1029) j = gI M' (x + 1029) j := fun j => (c4 _ _ (by omega) (by omega) (fun q => by rcases q with q | q <;> omega)).trans (E2 j)
        have S3 := S2.frx c2 (by omega) (fun b _ _ q => by rcases q with q | q <;> omega)
        have wb3 : WV M3 (x + 1032) (spl u v n).2 := ⟨(c4 _ _ (by omega) (by omega) (fun q => by rcases q with q | q <;> omega)).trans wv2.1, fun j hj => (c4 _ _ (by omega) (by omega) (fun q => by rcases q with q | q <;> omega)).trans (wv2.2.1 j hj), wv2.2.2⟩
        have wa3 : WV M3 (x + 1030) wa := T.2.1
        have hrd3 : sh M3 (x + 1018) = some (.inl 6) := by
          obtain ⟨A, B, C, D, cap, a1, a2, a3, -⟩ := c1.1
          exact a3.1
        have nx3 := c2.1
        simp only [SS, List.cons_append, List.nil_append, B_Finder_tryTwo_53, i10, if_false, S3.1, S3.2.1.2.1, S3.2.1.2.2.2, hrd3, true_and]
        refine k_toForm c1.1 S3.2.2.2 S3.2.2.2 wb3 (Nat.le_trans ls2 (by omega)) (Nat.le_trans ls2 (by omega)) lk2 (by omega) (by omega) (Nat.le_trans ls2 (by omega)) (by omega) (by omega) ?_ ?_
        · intro hnone M4 T2
          obtain ⟨c5, c6, c7⟩ := c1.tfN T2
          have E4 : ∀ j, gI M4 (x + 1029) j = gI M' (x + 1029) j := fun j => (c7 _ _ (by omega) (by omega)).trans (E3 j)
          simp only [SS, List.cons_append, List.nil_append, B_Finder_tryTwo_53, B_Finder_tryTwo_105, if_true]
          have e5 : o = some none := by
            have q1 : form rs (spl u v n).1 = some (wa, tr1) := hs1
            rw [he2, q1]
            simp only [hnone]
          subst e5
          exact hQ _ rfl M4 c5 (S3.frx T2.2.1 (by omega) (fun b _ _ q => by omega)) (hV'.eq E4) (F3.trans (T2.g c6 c7)) ⟨(E4 4).trans hK.1, (E4 5).trans hK.2⟩
        intro wb tr2 hs2 hb1 hb2 M4 T2
        obtain ⟨c5, c6, c7, c8⟩ := c1.tfY T2 S3.2.2.2 ⟨by omega, by omega⟩
        have F4 := F3.trans (P := fnZ x) ⟨c6.weaken (fun b _ q => q.imp id (fun q => by rcases q with q | q <;> exact ⟨by omega, by omega⟩)) (fun _ _ q => q), c7, fun h0 => (T2.frs h0).weaken (fun b q => q.imp id (fun q => by rcases q with q | q <;> exact ⟨by omega, by omega⟩)), fun j => c8 _ j (by omega) (by omega) (fun q => by rcases q with q | q <;> omega)⟩
        have E4 : ∀ j, gI M4 (x + 1029) j = gI M' (x + 1029) j := fun j => (c8 _ _ (by omega) (by omega) (fun q => by rcases q with q | q <;> omega)).trans (E3 j)
        have S4 := S3.frx c6 (by omega) (fun b _ _ q => by rcases q with q | q <;> omega)
        have wa4 : WV M4 (x + 1030) wa := ⟨(c8 _ _ (by omega) (by omega) (fun q => by rcases q with q | q <;> omega)).trans wa3.1, fun j hj => (c8 _ _ (by omega) (by omega) (fun q => by rcases q with q | q <;> omega)).trans (wa3.2.1 j hj), wa3.2.2⟩
        have wb4 : WV M4 (x + 1032) wb := T2.2.1
        have nx4 := c6.1
        have la : wa.length ≤ 119 := Nat.le_trans ha1 ls1
        have lb : wb.length ≤ 119 := Nat.le_trans hb1 ls2
        simp only [SS, List.cons_append, List.nil_append, B_Finder_tryTwo_53, B_Finder_tryTwo_108, i10, if_false, S4.1, S4.2.1.2.2.1, S4.2.1.2.2.2, S4.2.2.1.1, true_and]
        rw [k_Word_against S4.2.2.1 S4.2.2.2 wa4 wb4 (by omega) (by omega) (by omega) (by omega)]
        have he3 : o = if cmpW wa wb = 0 then tryT rs u v m (n + 1) else some (some n) := by
          have q1 : form rs (spl u v n).1 = some (wa, tr1) := hs1
          rw [he2, q1]
          simp only [hs2]
        by_cases hc : cmpW wa wb = 0
        · simp only [SS, List.cons_append, List.nil_append, B_Finder_tryTwo_108, B_Finder_tryTwo_145, hc, if_true, nI_i1]
          rw [G_Finder_tryTwo_148]
          rw [if_pos hc] at he3
          exact ih (n + 1) M4 (by omega) (by omega) c5 S4 (hV'.eq E4) F4 ⟨(E4 4).trans hK.1, (E4 5).trans hK.2⟩ he3
        · simp only [SS, List.cons_append, List.nil_append, B_Finder_tryTwo_108, hc, if_false, S4.1, or_true, true_and]
          rw [if_neg hc] at he3
          subst he3
          have f5 : FrS (fun b => b = x + 1029) M4 (sI (sI (sI (sI M4 (x + 1029) 6 1) (x + 1029) 7 (nI a)) (x + 1029) 8 (nI b)) (x + 1029) 9 (nI n)) := (((FrS.sI (S := fun b => b = x + 1029) rfl).trans (FrS.sI rfl)).trans (FrS.sI rfl)).trans (FrS.sI rfl)
          obtain ⟨C5, P5⟩ := c5.own (f5.weaken (fun b q => ⟨by omega, by omega⟩))
          refine hQ _ rfl _ C5 (S4.frx f5.x (by omega) (fun _ _ _ q => q)) ⟨?_, fun q hq => ?_⟩ (F4.trans (f5.g P5 (fun b q => ⟨by omega, by omega⟩))) ⟨?_, ?_⟩
          · simp only [gI_sI, fdN, Option.map_some]; simp [bI]
          · simp only [fdN, Option.map_some] at hq
            cases hq
            simp [gI_sI]
          · simp only [gI_sI]; simp [E4, hK.1]
          · simp only [gI_sI]; simp [E4, hK.2]
  have e0 : nI (min u.1.length v.1.length) - 1 = nI (min u.1.length v.1.length - 1) := by
    have := nI_pred (min u.1.length v.1.length - 1)
    rw [show min u.1.length v.1.length - 1 + 1 = min u.1.length v.1.length by omega] at this
    exact this
  have e1 : (1 : Int32) = nI 1 := rfl
  have e2 : ixR M (x + 9 + 1) (nI a) := ixR_of hRU.2.2.1 (by omega) (by omega) (by omega)
  have e3 : cl (nI a) = a := cl_nI (by omega)
  have e4 : ixR M (x + 9 + 1) (nI b) := ixR_of hRU.2.2.1 (by omega) (by omega) (by omega)
  have e5 : cl (nI b) = b := cl_nI (by omega)
  simp only [B_Finder_tryTwo_0, hS.1, hS.2.1.1, SS, hRU.1, hRU.2.1, e2, e3, e4, e5, g1, g2, r1.1, true_and]
  rw [k_mostShared r1 r2 v1 v2]
  simp only [SS, List.cons_append, List.nil_append, B_Finder_tryTwo_0, e0]
  rw [e1]
  exact loop (min u.1.length v.1.length - 1) 1 M (by omega) (by omega) h hS hV Gfr.rfl ⟨rfl, rfl⟩ ho.symm
