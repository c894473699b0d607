/-! the reference's tree: the LEFTS -/
theorem exAt_any {rs : List Ru} {s : List Nat} : (exAt rs s).isSome = rs.any (fun u => u.2.2 && u.1 == s) := by
  unfold exAt
  exact List.findIdx?_isSome
/-- the tree of the first i RULES -/
def TrI2 (M : Mm) (m : Nat) (rs : List Ru) (k i N : Nat) (str : Nat → List Nat) (nx : Nat → Nat → Option Nat) : Prop := Trie N str nx ∧ TrMm M m N nx k ∧ gI M m 51 = nI N ∧ N ≤ 1 + lettersN (rs.take i) ∧ (∀ n, n < N → pf (rs.take i) (str n) = true) ∧ (∀ s, pf (rs.take i) s = true → ∃ n, n < N ∧ str n = s) ∧ (∀ n, n < N → gI M (m + 25) n = bI (exAt (rs.take i) (str n)).isSome) ∧ ∀ n, n < N → gI M (m + 26) n = 0
/-- what lies beside the tree -/
def lyN (M M' : Mm) (m : Nat) : Prop := FrS (trC m) M M' ∧ ∀ j, j ≠ 51 → gI M' m j = gI M m j
theorem lyN.rfl {M : Mm} {m : Nat} : lyN M M m := ⟨FrS.rfl, fun _ _ => Eq.refl _⟩
theorem lyN.trans {M M1 M2 : Mm} {m : Nat} (h : lyN M M1 m) (h2 : lyN M1 M2 m) : lyN M M2 m := ⟨h.1.trans h2.1, fun j hj => (h2.2 j hj).trans (h.2 j hj)⟩
theorem RuM.ly {M M1 : Mm} {m : Nat} {rs : List Ru} (h : RuM M m rs) (s : lyN M M1 m) : RuM M1 m rs := h.eq (s.2 _ (by omega)) (fun b h1 h2 j => s.1.gI (by unfold trC; omega) j)
section MC
variable {M : Mm} {m : Nat} {Q : Option Value → Mm → Prop}
set_option maxHeartbeats 1000000 in
theorem k_mInsert {rs : List Ru} {k N r : Nat} {str : Nat → List Nat} {nx : Nat → Nat → Option Nat} {l5 l6 l7 : Value} (hS : MdS M m) (hR : RuM M m rs) (hw : RWf rs k) (h11 : gI M m 11 = nI k) (hr : r < rs.length) (hlv : (rs.getD r dR).2.2 = true) (hT : Trie N str nx) (hM : TrMm M m N nx k) (h51 : gI M m 51 = nI N) (hNw : N + (rs.getD r dR).1.length ≤ 12001) (hcm : ∀ n, n < N → gI M (m + 26) n = 0)
    (hQ : ∀ N' n' str' nx' M' (l4 l5 : Value), lyN M M' m → gI M' m 51 = nI N' → Trie N' str' nx' → TrMm M' m N' nx' k → N ≤ N' → N' ≤ N + (rs.getD r dR).1.length → n' < N' → str' n' = (rs.getD r dR).1 → (∀ n, n < N → gI M' (m + 25) n = gI M (m + 25) n) → (∀ n, N ≤ n → n < N' → gI M' (m + 25) n = 0) → (∀ n, n < N' → gI M' (m + 26) n = 0) → (∀ n, n < N → str' n = str n) → (∀ n, N ≤ n → n < N' → ∃ i, i ≤ (rs.getD r dR).1.length ∧ str' n = (rs.getD r dR).1.take i) → (∀ i, i ≤ (rs.getD r dR).1.length → ∃ n, n < N' ∧ str' n = (rs.getD r dR).1.take i) → wp F_Md_layTree 100 [.ref m, .int (nI 0), .int (nI r), .int (nI n'), l4, l5, l6, l7] [] M' Q) : wp F_Md_layTree 25 [.ref m, .int (nI 0), .int (nI r), .int (nI 0), .int (nI 0), l5, l6, l7] [] M Q := by
  have h200 := hw.2.2
  have hk8 := hw.2.1
  obtain ⟨u1, u2, u3, u4⟩ := hw.ruk r
  have c8 : (8 : Int32) = nI 8 := rfl
  have c60 : (60 : Int32) = nI 60 := rfl
  have clr := cl_nI (show r < 2147483648 by omega)
  generalize hl : (rs.getD r dR).1 = l at *
  have loop : ∀ d j, j + d = l.length → ∀ (Nj cur : Nat) (sj : Nat → List Nat) (nj : Nat → Nat → Option Nat) (M1 : Mm) (l5 : Value), lyN M M1 m → gI M1 m 51 = nI Nj → Trie Nj sj nj → TrMm M1 m Nj nj k → N ≤ Nj → Nj ≤ N + j → cur < Nj → sj cur = l.take j → (∀ n, n < N → gI M1 (m + 25) n = gI M (m + 25) n) → (∀ n, N ≤ n → n < Nj → gI M1 (m + 25) n = 0) → (∀ n, n < Nj → gI M1 (m + 26) n = 0) → (∀ n, n < N → sj n = str n) → (∀ n, N ≤ n → n < Nj → ∃ i, i ≤ j ∧ sj n = l.take i) → (∀ i, i ≤ j → ∃ n, n < Nj ∧ sj n = l.take i) → wp F_Md_layTree 25 [.ref m, .int (nI 0), .int (nI r), .int (nI cur), .int (nI j), l5, l6, l7] [] M1 Q := by
    intro d
    induction d with
    | zero =>
      intro j hj Nj cur sj nj M1 l5 f g51 T1 T2 b1 b2 b3 b4 b5 b6 b7 b8 b9 b10
      have S1 := hS.fr f.1
      obtain ⟨g1, -, -, -, -⟩ := (hR.ly f).2.2 r hr
      rw [hl] at g1
      have e1 : nI l.length ≤ nI j := nI_le (by omega) (by omega)
      have x1 : ixI M1 (m + 8) (nI r) := ixI_of S1.leftSize.2 (by omega) (by omega)
      simp only [B_Md_layTree_25, SS, S1.1, S1.leftSize.1, x1, clr, g1, e1, if_true, true_and]
      have hlj : l.take j = l := List.take_of_length_le (by omega)
      rw [hlj] at b4
      exact hQ Nj cur sj nj M1 _ _ f g51 T1 T2 b1 (by omega) b3 b4 b5 b6 b7 b8 (fun n x y => by obtain ⟨i, hi, e⟩ := b9 n x y; exact ⟨i, by omega, e⟩) (fun i hi => b10 i (by omega))
    | succ d ih =>
      intro j hj Nj cur sj nj M1 l5 f g51 T1 T2 b1 b2 b3 b4 b5 b6 b7 b8 b9 b10
      have S1 := hS.fr f.1
      obtain ⟨g1, g2, -, -, g5⟩ := (hR.ly f).2.2 r hr
      rw [hl] at g1 g2
      rw [hlv] at g5
      have e1 : ¬ nI l.length ≤ nI j := nI_ge (by omega) (by omega)
      have x1 : ixI M1 (m + 8) (nI r) := ixI_of S1.leftSize.2 (by omega) (by omega)
      have x2 : ixB M1 (m + 11) (nI r) := ixZ_of S1.isLive.2 (by omega) (by omega)
      have x3 : ixI M1 (m + 7) (nI (60 * r + j)) := ixI_of S1.left.2 (by omega) (by omega)
      have ck : l.getD j 0 < k := by
        rw [List.getD_eq_getElem?_getD, List.getElem?_eq_getElem (show j < l.length by omega)]
        exact u3 _ (List.getElem_mem _)
      have g2j := g2 j (by omega)
      generalize hc : l.getD j 0 = c at ck g2j
      have x4 : ixI M1 (m + 22) (nI (8 * cur + c)) := ixI_of S1.go.2 (by omega) (by omega)
      have clx := cl_nI (show 8 * cur + c < 2147483648 by omega)
      have gA := T2.1 cur c b3 ck
      have hst : l.take (j + 1) = l.take j ++ [c] := by rw [take_succ_getD 0 (by omega), hc]
      simp only [B_Md_layTree_25, SS, S1.1, S1.leftSize.1, S1.isLive.1, S1.left.1, S1.go.1, x1, x2, x3, x4, clr, clx, g1, g5, g2j, gA, e1, bI, if_true, i10, if_false, true_and, c8, c60, pk_mul, nI_add, cl_nI (show 60 * r + j < 2147483648 by omega)]
      cases hnx : nj cur c with
      | some mm =>
        obtain ⟨m1, m2⟩ := T1.2.2.1 cur c mm b3 hnx
        rw [hnx] at gA
        have gA : gI M1 (m + 22) (8 * cur + c) = nI mm := gA
        simp only [oI, nI_ne1 (show mm < 2147483648 by omega), if_true, if_false, not_false_eq_true, ne_eq, B_Md_layTree_86, SS, S1.1, S1.go.1, x4, clx, gA, true_and, nI_i1]
        rw [G_Md_layTree_97]
        exact ih (j + 1) (by omega) Nj mm sj nj M1 _ f g51 T1 T2 b1 (by omega) m1 (by rw [m2, b4, hst]) b5 b6 b7 b8 (fun n x y => by obtain ⟨i, hi, e⟩ := b9 n x y; exact ⟨i, by omega, e⟩) (fun i hi => by
          by_cases q : i = j + 1
          · exact ⟨mm, m1, by rw [m2, b4, q, hst]⟩
          · exact b10 i (by omega))
      | none =>
        simp only [oI, if_true, if_false, not_true_eq_false, ne_eq, B_Md_layTree_25, SS, S1.1, S1.go.1, true_and]
        refine k_node S1 ((f.2 _ (by omega)).trans h11) hk8 g51 (by omega) ?_
        intro M2 ⟨n1, n2, n3, n4, n5, n6, n7, n8, n9⟩
        have S2 := S1.fr n1
        have x5 : ixW M2 (m + 22) (nI (8 * cur + c)) := ixW_of S2.go.2 (by omega) (by omega)
        have x6 : ixI (sI M2 (m + 22) (8 * cur + c) (nI Nj)) (m + 22) (nI (8 * cur + c)) := ixI_of S2.go.2 (by omega) (by omega)
        simp only [SS, List.cons_append, List.nil_append, B_Md_layTree_25, B_Md_layTree_86, S2.1, S2.go.1, x5, x6, clx, true_and, and_self, if_true, nI_i1]
        rw [G_Md_layTree_97]
        have F3 : FrS (fun b => b = m + 22) M2 (sI M2 (m + 22) (8 * cur + c) (nI Nj)) := FrS.sI rfl
        have f3 : lyN M (sI M2 (m + 22) (8 * cur + c) (nI Nj)) m := (f.trans ⟨n1, n2⟩).trans ⟨F3.weaken (fun b q => Or.inr (Or.inl q)), fun j _ => F3.gI (by omega) j⟩
        have T3 := T1.add b3 hnx (fun c => T2.2.1 Nj c (Nat.le_refl _))
        have sN : upd1 sj Nj (sj cur ++ [c]) Nj = sj cur ++ [c] := by unfold upd1; rw [if_pos rfl]
        have sO : ∀ n, n < Nj → upd1 sj Nj (sj cur ++ [c]) n = sj n := fun n hn => by unfold upd1; rw [if_neg (by omega)]
        refine ih (j + 1) (by omega) (Nj + 1) Nj (upd1 sj Nj (sj cur ++ [c])) (upd2 nj cur c (some Nj)) _ _ f3 ((F3.gI (by omega) _).trans n3) T3 ⟨fun n e hn he2 => ?_, fun n e hn => ?_, fun n e he2 => ?_⟩ (by omega) (by omega) (by omega) (by rw [sN, b4, hst]) (fun n hn => ?_) (fun n x y => ?_) (fun n hn => ?_) (fun n hn => by rw [sO n (by omega)]; exact b8 n hn) (fun n x y => ?_) (fun i hi => ?_)
        · rw [gI_sI]
          unfold upd2
          by_cases q : n = cur ∧ e = c
          · rw [if_pos ⟨rfl, by rw [q.1, q.2]⟩, if_pos q]; rfl
          · rw [if_neg (fun z => q (by omega)), if_neg q]
            by_cases y : n = Nj
            · rw [y, n4 e he2, T2.2.1 Nj e (Nat.le_refl _)]; rfl
            · rw [n5 _ (by omega)]; exact T2.1 n e (by omega) he2
        · unfold upd2
          rw [if_neg (fun q => by omega)]
          exact T2.2.1 n e (by omega)
        · unfold upd2
          rw [if_neg (fun q => by omega)]
          exact T2.2.2 n e he2
        · exact (F3.gI (by omega) _).trans ((n8 n (by omega)).trans (b5 n hn))
        · by_cases q : n = Nj
          · rw [q]; exact (F3.gI (by omega) _).trans n6
          · exact (F3.gI (by omega) _).trans ((n8 n q).trans (b6 n x (by omega)))
        · by_cases q : n = Nj
          · rw [q]; exact (F3.gI (by omega) _).trans n7
          · exact (F3.gI (by omega) _).trans ((n9 n q).trans (b7 n (by omega)))
        · by_cases q : n = Nj
          · exact ⟨j + 1, by omega, by rw [q, sN, b4, hst]⟩
          · obtain ⟨i, hi, e⟩ := b9 n x (by omega)
            exact ⟨i, by omega, by rw [sO n (by omega)]; exact e⟩
        · by_cases q : i = j + 1
          · exact ⟨Nj, by omega, by rw [sN, b4, q, hst]⟩
          · obtain ⟨n, hn, e⟩ := b10 i (by omega)
            exact ⟨n, by omega, by rw [sO n hn]; exact e⟩
  exact loop l.length 0 (by omega) N 0 str nx M _ lyN.rfl h51 hT hM (Nat.le_refl _) (by omega) hT.1 (by rw [hT.2.1, List.take_zero]) (fun _ _ => rfl) (fun n x y => by omega) hcm (fun _ _ => rfl) (fun n x y => by omega) (fun i hi => ⟨0, hT.1, by rw [hT.2.1, show i = 0 by omega, List.take_zero]⟩)
theorem k_mEnd {i n : Nat} {b lv : Bool} {l4 l5 l6 l7 : Value} (hS : MdS M m) (hi : i < 200) (hn : n < 12001) (hb : gI M (m + 25) n = bI b) (hl : gI M (m + 11) i = bI lv) (hQ : wp F_Md_layTree 12 [.ref m, .int (nI 0), .int (nI (i + 1)), .int (nI n), l4, l5, l6, l7] [] (sI M (m + 25) n (bI (b || lv))) Q) : wp F_Md_layTree 100 [.ref m, .int (nI 0), .int (nI i), .int (nI n), l4, l5, l6, l7] [] M Q := by
  have x2 : ixB M (m + 11) (nI i) := ixZ_of hS.isLive.2 (by omega) (by omega)
  have x3 : ixB M (m + 25) (nI n) := ixZ_of hS.isEnd.2 (by omega) (by omega)
  have bs : ∀ v K, bsW M (m + 25) (nI n) v K = K (sI M (m + 25) n (vp_nar .boolean v)) := fun v K => bsW_z hS.isEnd.2 (by omega) (by omega)
  have z0 : vp_nar .boolean 0 = 0 := by decide
  have z1 : vp_nar .boolean 1 = 1 := by decide
  have cli := cl_nI (show i < 2147483648 by omega)
  have cln := cl_nI (show n < 2147483648 by omega)
  cases b with
  | true =>
    simp only [B_Md_layTree_100, B_Md_layTree_123, B_Md_layTree_128, SS, hS.1, hS.isEnd.1, x3, cln, hb, bI_t, if_true, i10, if_false, not_false_eq_true, ne_eq, true_and, bs, z1, nI_i1]
    rw [G_Md_layTree_132]
    exact hQ
  | false =>
    cases lv with
    | true =>
      simp only [B_Md_layTree_100, B_Md_layTree_123, B_Md_layTree_128, SS, hS.1, hS.isEnd.1, hS.isLive.1, x2, x3, cln, cli, hb, hl, bI_f, bI_t, if_true, i10, if_false, not_true_eq_false, ne_eq, true_and, bs, z1, nI_i1]
      rw [G_Md_layTree_132]
      exact hQ
    | false =>
      simp only [B_Md_layTree_100, B_Md_layTree_127, B_Md_layTree_128, SS, hS.1, hS.isEnd.1, hS.isLive.1, x2, x3, cln, cli, hb, hl, bI_f, if_true, if_false, not_true_eq_false, ne_eq, true_and, bs, z0, nI_i1]
      rw [G_Md_layTree_132]
      exact hQ
set_option maxHeartbeats 1000000 in
theorem k_mLefts {rs : List Ru} {k N0 : Nat} {str0 : Nat → List Nat} {nx0 : Nat → Nat → Option Nat} {l3 l4 l5 l6 l7 : Value} (hS : MdS M m) (hR : RuM M m rs) (hw : RWf rs k) (h11 : gI M m 11 = nI k) (h0 : TrI2 M m rs k 0 N0 str0 nx0)
    (hQ : ∀ N str nx M' (l2 l3 l4 l5 : Value), TrI2 M' m rs k rs.length N str nx → lyN M M' m → wp F_Md_layTree 135 [.ref m, .int (nI 0), l2, l3, l4, l5, l6, l7] [] M' Q) : wp F_Md_layTree 12 [.ref m, .int (nI 0), .int (nI 0), l3, l4, l5, l6, l7] [] M Q := by
  have h200 := hw.2.2
  have hk8 := hw.2.1
  have hlet : lettersN rs ≤ 12000 := by have := lettersN_le (rs := rs) (fun u hu => (hw.1 u hu).2.1); omega
  have loop : ∀ d i, i + d = rs.length → ∀ (N : Nat) (str : Nat → List Nat) (nx : Nat → Nat → Option Nat) (M2 : Mm) (l3 l4 l5 : Value), TrI2 M2 m rs k i N str nx → lyN M M2 m → wp F_Md_layTree 12 [.ref m, .int (nI 0), .int (nI i), l3, l4, l5, l6, l7] [] M2 Q := by
    intro d
    induction d with
    | zero =>
      intro i hi N str nx M2 l3 l4 l5 I f
      have S2 := hS.fr f.1
      have e1 : nI rs.length ≤ nI i := nI_le (by omega) (by omega)
      simp only [B_Md_layTree_12, S2.1, (hR.ly f).1, e1, if_true, true_and]
      rw [show i = rs.length by omega] at I
      exact hQ N str nx M2 _ _ _ _ I f
    | succ d ih =>
      intro i hi N str nx M2 l3 l4 l5 I f
      have S2 := hS.fr f.1
      have R2 := hR.ly f
      have e1 : ¬ nI rs.length ≤ nI i := nI_ge (by omega) (by omega)
      have hts : rs.take (i + 1) = rs.take i ++ [rs.getD i dR] := take_succ_getD dR (by omega)
      obtain ⟨g1, -, -, -, g5⟩ := R2.2.2 i (by omega)
      obtain ⟨j1, j2, j3, j4, j5, j6, j7, j8⟩ := I
      have hl1 : lettersN (rs.take (i + 1)) ≤ lettersN rs := lettersN_take (by omega)
      have cli := cl_nI (show i < 2147483648 by omega)
      have hN1 : N ≤ 12001 := by have := lettersN_take (rs := rs) (i := i) (by omega); omega
      simp only [B_Md_layTree_12, SS, S2.1, R2.1, e1, if_false, true_and, ← nI_0]
      have hu := hw.1 _ (getD_mem (show i < rs.length by omega))
      have hn0 := j1.1
      cases hlv : (rs.getD i dR).2.2 with
      | false =>
        have e2 : ¬ nI (rs.getD i dR).1.length ≤ nI 0 := nI_ge (by have := List.length_pos_iff.mpr hu.1; omega) (by omega)
        have x1 : ixI M2 (m + 8) (nI i) := ixI_of S2.leftSize.2 (by omega) (by omega)
        have x2 : ixB M2 (m + 11) (nI i) := ixZ_of S2.isLive.2 (by omega) (by omega)
        have g5' := g5
        rw [hlv] at g5
        have ge := j7 0 hn0
        simp only [B_Md_layTree_25, SS, S2.1, S2.leftSize.1, S2.isLive.1, x1, x2, cli, g1, g5, e2, bI_f, if_true, if_false, true_and]
        refine k_mEnd S2 (by omega) (by omega) ge g5 ?_
        have same : ∀ b j, gI (sI M2 (m + 25) 0 (bI ((exAt (rs.take i) (str 0)).isSome || false))) b j = gI M2 b j := fun b j => by
          rw [gI_sI]
          split
          · rename_i z; rw [z.1, z.2, Bool.or_false]; exact ge.symm
          · rfl
        have F3 : FrS (fun b => b = m + 25) M2 (sI M2 (m + 25) 0 (bI ((exAt (rs.take i) (str 0)).isSome || false))) := FrS.sI rfl
        refine ih (i + 1) (by omega) N str nx _ _ _ _ ⟨j1, ⟨fun n c hn hc => (same _ _).trans (j2.1 n c hn hc), j2.2⟩, (same _ _).trans j3, ?_, fun n hn => ?_, fun s hs => ?_, fun n hn => ?_, fun n hn => (same _ _).trans (j8 n hn)⟩ (f.trans ⟨F3.weaken (fun b q => by unfold trC; omega), fun j _ => same _ _⟩)
        · rw [hts, lettersN_snoc, hlv]; simpa using j4
        · rw [hts, pf_snoc, j5 n hn]; rfl
        · rw [hts, pf_snoc, hlv] at hs
          simp only [Bool.false_and, Bool.or_false] at hs
          exact j6 s hs
        · rw [same, j7 n hn, exAt_any, exAt_any, hts, List.any_append]
          simp only [List.any_cons, List.any_nil, hlv, Bool.false_and, Bool.or_false]
      | true =>
        rw [hts, lettersN_snoc, hlv, if_pos rfl] at hl1
        refine k_mInsert S2 R2 hw ((f.2 _ (by omega)).trans h11) (by omega) hlv j1 j2 j3 (by omega) j8 ?_
        intro N' n' str' nx' M3 l4' l5' y1 y2 y3 y4 y5 y6 y7 y8 y9 y10 y11 y12 y13 y14
        have S3 := S2.fr y1.1
        have g53 := ((R2.ly y1).2.2 i (by omega)).2.2.2.2
        rw [hlv] at g53
        have hex : ∀ n, n < N' → gI M3 (m + 25) n = bI (exAt (rs.take i) (str' n)).isSome := by
          intro n hn
          by_cases z : n < N
          · rw [y9 n z, j7 n z, y12 n z]
          · rw [y10 n (by omega) hn]
            have : exAt (rs.take i) (str' n) = none := by
              cases hx : exAt (rs.take i) (str' n) with
              | none => rfl
              | some a =>
                obtain ⟨n2, hn2, e2⟩ := j6 _ (exAt_pf hx)
                have := y3.2.2.2.2 n2 n (by omega) hn (by rw [y12 n2 hn2]; exact e2)
                omega
            rw [this]; rfl
        refine k_mEnd S3 (by omega) (by omega) (hex n' y7) g53 ?_
        rw [Bool.or_true]
        have F4 : FrS (fun b => b = m + 25) M3 (sI M3 (m + 25) n' (bI true)) := FrS.sI rfl
        refine ih (i + 1) (by omega) N' str' nx' _ _ _ _ ⟨y3, ⟨fun n c hn hc => (F4.gI (by omega) _).trans (y4.1 n c hn hc), y4.2⟩, (F4.gI (by omega) _).trans y2, ?_, fun n hn => ?_, fun s hs => ?_, fun n hn => ?_, fun n hn => (F4.gI (by omega) _).trans (y11 n hn)⟩ ((f.trans y1).trans ⟨F4.weaken (fun b q => by unfold trC; omega), fun j _ => F4.gI (by omega) _⟩)
        · rw [hts, lettersN_snoc, hlv, if_pos rfl]; omega
        · rw [hts, pf_snoc, hlv, Bool.or_eq_true]
          by_cases y : n < N
          · left; rw [y12 n y]; exact j5 n y
          · right
            obtain ⟨a, ha, e⟩ := y13 n (by omega) hn
            rw [e, Bool.true_and, List.isPrefixOf_iff_prefix]
            exact List.take_prefix _ _
        · rw [hts, pf_snoc, hlv, Bool.or_eq_true] at hs
          rcases hs with hs | hs
          · obtain ⟨n, hn, e⟩ := j6 s hs
            exact ⟨n, by omega, by rw [y12 n hn]; exact e⟩
          · rw [Bool.true_and, List.isPrefixOf_iff_prefix] at hs
            obtain ⟨n, hn, e⟩ := y14 s.length hs.length_le
            exact ⟨n, hn, by rw [e]; exact (List.prefix_iff_eq_take.mp hs).symm⟩
        · rw [exAt_any, hts, List.any_append, ← exAt_any]
          simp only [List.any_cons, List.any_nil, hlv, Bool.true_and, Bool.or_false]
          rw [gI_sI]
          by_cases z : n = n'
          · rw [if_pos ⟨rfl, z⟩, z, y8]
            simp
          · rw [if_neg (fun q => z q.2), hex n hn]
            have : ((rs.getD i dR).1 == str' n) = false := by
              rw [beq_eq_false_iff_ne]
              exact fun e => z (y3.2.2.2.2 n n' hn y7 (by rw [y8]; exact e.symm))
            rw [this, Bool.or_false]
  exact loop rs.length 0 (by omega) N0 str0 nx0 M _ _ _ h0 lyN.rfl
end MC
