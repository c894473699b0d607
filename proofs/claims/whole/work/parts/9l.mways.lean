/-! the reference's tree as a whole; ways -/
def TreeV (M : Mm) (m : Nat) (rs : List Ru) (k N : Nat) (str : Nat → List Nat) : Prop := (1 ≤ N ∧ N ≤ 12001 ∧ str 0 = [] ∧ gI M m 51 = nI N) ∧ ((∀ n, n < N → pf rs (str n) = true) ∧ (∀ s, pf rs s = true → ∃ n, n < N ∧ str n = s) ∧ ∀ n q, n < N → q < N → str n = str q → n = q) ∧ (∀ n e, n < N → e < k → ∃ q, q < N ∧ gI M (m + 22) (8 * n + e) = nI q ∧ str q = lsuf rs (str n ++ [e])) ∧ ∀ n, n < N → gI M (m + 25) n = bI (endAt rs (str n)).isSome
/-- a store in which the class's word of it is true -/
def fkM (M : Mm) (m N k : Nat) (rs : List Ru) (str : Nat → List Nat) : Mm := wI M (fun b j => if b = m then (if j = 5 then nI N else nI k) else if b = m + 1 then oI (endAt rs (str j)) else gI M b j)
theorem fkM_to {M : Mm} {m N k : Nat} {rs : List Ru} {str : Nat → List Nat} : toM (fkM M m N k rs str) (m + 22) = toM M (m + 22) := by
  funext n c
  unfold toM
  show cl (if m + 22 = m then _ else if m + 22 = m + 1 then _ else gI M (m + 22) (8 * n + c)) = _
  rw [if_neg (by omega), if_neg (by omega)]
theorem TreeV.aut {M : Mm} {m : Nat} {rs : List Ru} {k N : Nat} {str : Nat → List Nat} (h : TreeV M m rs k N str) : AutN (fkM M m N k rs str) m (m + 22) (m + 1) 12001 rs k N str := by
  obtain ⟨⟨a1, a2, a3, a4⟩, ⟨b1, b2, b3⟩, c1, c2⟩ := h
  refine ⟨a2, ?_, ?_, a1, a3, b1, b2, b3, fun n e hn he => ?_, fun n hn => ?_⟩
  · show (if m = m then (if 5 = 5 then nI N else nI k) else _) = nI N
    rw [if_pos rfl, if_pos rfl]
  · show (if m = m then (if 6 = 5 then nI N else nI k) else _) = nI k
    rw [if_pos rfl, if_neg (by omega)]
  · obtain ⟨q, q1, q2, q3⟩ := c1 n e hn he
    refine ⟨q, q1, ?_, q3⟩
    show (if m + 22 = m then _ else if m + 22 = m + 1 then _ else gI M (m + 22) (8 * n + e)) = nI q
    rw [if_neg (by omega), if_neg (by omega)]
    exact q2
  · show (if m + 1 = m then _ else if m + 1 = m + 1 then oI (endAt rs (str n)) else _) = _
    rw [if_neg (by omega), if_pos rfl]
section MC
variable {M : Mm} {m : Nat} {Q : Option Value → Mm → Prop} {rs : List Ru} {k N : Nat} {str : Nat → List Nat}
theorem TreeV.to (h : TreeV M m rs k N str) {n c : Nat} (hn : n < N) (hk : c < k) : toM M (m + 22) n c < N ∧ gI M (m + 22) (8 * n + c) = nI (toM M (m + 22) n c) ∧ str (toM M (m + 22) n c) = lsuf rs (str n ++ [c]) := by
  obtain ⟨q, h1, h2, h3⟩ := h.2.2.1 n c hn hk
  have : toM M (m + 22) n c = q := by unfold toM; rw [h2]; exact cl_nI (by have := h.1.2.1; omega)
  rw [this]
  exact ⟨h1, h2, h3⟩
theorem TreeV.eq {M1 : Mm} (h : TreeV M m rs k N str) (e51 : gI M1 m 51 = gI M m 51) (e22 : ∀ j, gI M1 (m + 22) j = gI M (m + 22) j) (e25 : ∀ j, gI M1 (m + 25) j = gI M (m + 25) j) : TreeV M1 m rs k N str := ⟨⟨h.1.1, h.1.2.1, h.1.2.2.1, e51.trans h.1.2.2.2⟩, h.2.1, fun n e hn he => by obtain ⟨q, q1, q2, q3⟩ := h.2.2.1 n e hn he; exact ⟨q, q1, (e22 _).trans q2, q3⟩, fun n hn => (e25 _).trans (h.2.2.2 n hn)⟩
theorem k_mSum {a b : Nat} (h : a + b < 9223372036854775808) : wp F_Md_sum 0 [.long (lN a), jk, .long (lN b), jk] [] M Q = Q (some (.long (lN (cp (a + b))))) M := by
  simp only [B_Md_sum_0, lN_add, lM0, lcLe h (show 1000000000000000 < 9223372036854775808 by omega)]
  unfold cp CAP
  by_cases q : a + b ≤ 1000000000000000
  · simp only [q, if_true, B_Md_sum_16, B_Md_sum_19, lN_add]; rw [show min (a + b) 1000000000000001 = a + b by omega]
  · simp only [q, if_false, B_Md_sum_19]; rw [show min (a + b) 1000000000000001 = 1000000000000001 by omega]; rfl
theorem k_layTree (hS : MdS M m) (hR : RuM M m rs) (hw : RWf rs k) (h11 : gI M m 11 = nI k)
    (hQ : ∀ N str M', TreeV M' m rs k N str → (∀ n, n < N → gI M' (m + 26) n = 0) → FrS (fun b => b = m ∨ (m + 22 ≤ b ∧ b ≤ m + 26)) M M' → (∀ j, j ≠ 51 → gI M' m j = gI M m j) → Q none M') : wp F_Md_layTree 0 [.ref m, jk, jk, jk, jk, jk, jk, jk] [] M Q := by
  have F0 : FrS (fun b => b = m) M (sI M m 51 0) := FrS.sI rfl
  have S0 := hS.fr F0
  have g0 : ∀ j, j ≠ 51 → gI (sI M m 51 0) m j = gI M m j := fun j hj => by rw [gI_sI, if_neg (fun z => hj z.2)]
  have g51 : gI (sI M m 51 0) m 51 = nI 0 := by simp [SS, nI_0]
  simp only [B_Md_layTree_0, SS, hS.1, true_and]
  generalize sI M m 51 0 = M0 at F0 S0 g0 g51
  refine k_node S0 ((g0 _ (by omega)).trans h11) hw.2.1 g51 (by omega) ?_
  intro M1 ⟨n1, n2, n3, n4, n5, n6, n7, n8, n9⟩
  have S1 := S0.fr n1
  have ly1 : lyN M M1 m := ⟨(F0.weaken (fun b q => Or.inl q)).trans n1, fun j hj => (n2 j hj).trans (g0 j hj)⟩
  simp only [SS, List.cons_append, List.nil_append, B_Md_layTree_0, ← nI_0]
  have hlet : lettersN rs ≤ 12000 := by have := lettersN_le (rs := rs) (fun u hu => (hw.1 u hu).2.1); have := hw.2.2; omega
  refine k_mLefts S1 (hR.ly ly1) hw ((ly1.2 _ (by omega)).trans h11) (N0 := 1) (str0 := fun _ => []) (nx0 := fun _ _ => none) ⟨⟨by omega, rfl, fun n c q _ hc => (by cases hc), fun n hn h0 => (by omega), fun n q hn hq _ => by omega⟩, ⟨fun n c hn hc => ?_, fun _ _ _ => rfl, fun _ _ _ => rfl⟩, n3, by omega, fun n hn => rfl, fun s hs => ⟨0, by omega, ?_⟩, fun n hn => ?_, fun n hn => ?_⟩ ?_
  · have := n4 c hc
    rw [show n = 0 by omega]
    exact this
  · by_cases e : s = []
    · exact e.symm
    · have := (pf_iff e).mp hs
      simp at this
  · rw [show n = 0 by omega]
    exact n6
  · rw [show n = 0 by omega]
    exact n7
  · intro N str nx M2 l2 l3 l4 l5 I ly2
    have ly := ly1.trans ly2
    have S2 := hS.fr ly.1
    rw [TrI2, List.take_length] at I
    obtain ⟨i1, i2, i3, i4, i5, i6, i7, i8⟩ := I
    have T : TrR rs k N str nx := ⟨i1, i5, i6, fun u hu hl => ⟨(hw.1 u hu).1, (hw.1 u hu).2.2.2.1⟩⟩
    refine k_mLink S2 ((ly.2 _ (by omega)).trans h11) hw.2.1 (by omega) T i2 i7 ?_
    intro M3 F3 x1 x2
    have fm : ∀ j, gI M3 m j = gI M2 m j := fun j => F3.gI (by unfold lkC; omega) j
    exact hQ N str M3 ⟨⟨i1.1, by omega, i1.2.1, (fm _).trans i3⟩, ⟨i5, i6, i1.2.2.2.2⟩, x1, x2⟩ (fun n hn => (F3.gI (by unfold lkC; omega) _).trans (i8 n hn)) ((ly.1.weaken (fun b q => by unfold trC at q; omega)).trans (F3.weaken (fun b q => by unfold lkC at q; omega))) (fun j hj => (fm j).trans (ly.2 j hj))
def WyM (M : Mm) (m : Nat) (rs : List Ru) (k N : Nat) (str : Nat → List Nat) (r : Nat) : Prop := ∀ a n, a < r → n < N → gJ M (m + 27) (12001 * a + n) = lN (cp (wy rs k a (str n)))
set_option maxHeartbeats 1000000 in
theorem k_mWays (hS : MdS M m) (hT : TreeV M m rs k N str) (hk : k ≤ 8) (h11 : gI M m 11 = nI k) (hQ : ∀ M', FrJ (fun b => b = m + 27) M M' → WyM M' m rs k N str 81 → Q none M') : wp F_Md_countWays 0 [.ref m, jk, jk, jk, jk, jk] [] M Q := by
  obtain ⟨⟨hN1, hN2, hs0, h51⟩, -, -, hE⟩ := id hT
  have c8 : (8 : Int32) = nI 8 := rfl
  have c80 : (80 : Int32) = nI 80 := rfl
  have c12 : (12001 : Int32) = nI 12001 := rfl
  have l0 : (0 : Int64) = lN 0 := by decide
  have l1 : (1 : Int64) = lN 1 := by decide
  have j1 : (1 : Int32) = nI 1 := rfl
  have fS : ∀ M', FrJ (fun b => b = m + 27) M M' → MdS M' m := fun M' F => ⟨(F.sh _).trans hS.1, fun i hi => ⟨(F.gR _ _).trans (hS.2 i hi).1, (F.sh _).trans (hS.2 i hi).2⟩⟩
  have outer : ∀ d r M' (l2 l3 l4 l5 : Value), r + d = 81 → 1 ≤ r → FrJ (fun b => b = m + 27) M M' → WyM M' m rs k N str r → wp F_Md_countWays 38 [.ref m, .int (nI r), l2, l3, l4, l5] [] M' Q := by
    intro d
    induction d with
    | zero =>
      intro r M' l2 l3 l4 l5 hr h1 F' W'
      have e1 : nI 80 < nI r := nI_lt (by omega) (by omega)
      simp only [B_Md_countWays_38, B_Md_countWays_138, c80, e1, if_true]
      rw [show r = 81 by omega] at W'
      exact hQ M' F' W'
    | succ d ih =>
      intro r M' l2 l3 l4 l5 hr h1 F' W'
      have e1 : ¬ nI 80 < nI r := nI_nlt (by omega) (by omega)
      simp only [B_Md_countWays_38, SS, c80, e1, if_false]
      obtain ⟨r', hr'⟩ : ∃ r', r = r' + 1 := ⟨r - 1, by omega⟩
      have nodes : ∀ d n M2 (l3 l4 l5 : Value), n + d = N → FrJ (fun b => b = m + 27) M M2 → WyM M2 m rs k N str r → (∀ q, q < n → gJ M2 (m + 27) (12001 * r + q) = lN (cp (wy rs k r (str q)))) → wp F_Md_countWays 46 [.ref m, .int (nI r), .int (nI n), l3, l4, l5] [] M2 Q := by
        intro d2
        induction d2 with
        | zero =>
          intro n M2 l3 l4 l5 hn F2 W2 V2
          have S2 := fS M2 F2
          have e2 : nI N ≤ nI n := nI_le (by omega) (by omega)
          simp only [B_Md_countWays_46, B_Md_countWays_132, SS, S2.1, (F2.gI _ _).trans h51, e2, if_true, true_and, nI_i1]
          rw [G_Md_countWays_135]
          refine ih (r + 1) M2 _ _ _ _ (by omega) (by omega) F2 (fun a q ha hq => ?_)
          by_cases z : a < r
          · exact W2 a q z hq
          · rw [show a = r by omega]; exact V2 q (by omega)
        | succ d2 ihn =>
          intro n M2 l3 l4 l5 hn F2 W2 V2
          have S2 := fS M2 F2
          have e2 : ¬ nI N ≤ nI n := nI_ge (by omega) (by omega)
          have hnN : n < N := by omega
          simp only [B_Md_countWays_46, SS, S2.1, (F2.gI _ _).trans h51, e2, if_false, true_and, ← nI_0, l0]
          have g11 : gI M2 m 11 = nI k := (F2.gI _ _).trans h11
          have gE : gI M2 (m + 25) n = bI (endAt rs (str n)).isSome := (F2.gI _ _).trans (hE n hnN)
          have xE : ixB M2 (m + 25) (nI n) := ixZ_of S2.isEnd.2 (by omega) (by omega)
          have cln := cl_nI (show n < 2147483648 by omega)
          have store : ∀ s (l5 : Value), s = cp (wy rs k r (str n)) → wp F_Md_countWays 113 [.ref m, .int (nI r), .int (nI n), .long (lN s), jk, l5] [] M2 Q := by
            intro s l5 hs
            have x1 : ixJ M2 (m + 27) (nI (12001 * r + n)) := ixJ_of S2.ways.2 (by omega) (by omega)
            simp only [B_Md_countWays_113, SS, S2.1, S2.ways.1, c12, pk_mul, nI_add, x1, cl_nI (show 12001 * r + n < 2147483648 by omega), true_and, nI_i1]
            rw [G_Md_countWays_129]
            refine ihn (n + 1) _ _ _ _ (by omega) (F2.trans (FrJ.sJ rfl)) (fun a q ha hq => ?_) (fun q hq => ?_)
            · rw [gJ_sJ, if_neg (fun z => by omega)]; exact W2 a q ha hq
            · rw [gJ_sJ]
              by_cases z : q = n
              · rw [if_pos ⟨rfl, by rw [z]⟩, z, hs]
              · rw [if_neg (fun y => z (by omega))]; exact V2 q (by omega)
          have letters : ∀ d c, c + d = k → (endAt rs (str n)).isSome = false → wp F_Md_countWays 59 [.ref m, .int (nI r), .int (nI n), .long (lN (cp (((List.range c).map (fun e => wy rs k r' (lsuf rs (str n ++ [e])))).sum))), jk, .int (nI c)] [] M2 Q := by
            intro d3
            induction d3 with
            | zero =>
              intro c hc hb
              have e3 : nI k ≤ nI c := nI_le (by omega) (by omega)
              simp only [B_Md_countWays_59, S2.1, g11, e3, if_true, true_and]
              refine store _ _ ?_
              rw [hr', wy, if_neg (by rw [hb]; decide), show c = k by omega]
            | succ d3 ihc =>
              intro c hc hb
              have e3 : ¬ nI k ≤ nI c := nI_ge (by omega) (by omega)
              obtain ⟨t1, t2, t3⟩ := hT.to hnN (show c < k by omega)
              have t2' : gI M2 (m + 22) (8 * n + c) = nI (toM M (m + 22) n c) := (F2.gI _ _).trans t2
              have x2 : ixI M2 (m + 22) (nI (8 * n + c)) := ixI_of S2.go.2 (by omega) (by omega)
              have x3 : ixJ M2 (m + 27) (nI (12001 * r' + toM M (m + 22) n c)) := ixJ_of S2.ways.2 (by omega) (by omega)
              have e6 : nI r - 1 = nI r' := by rw [hr']; exact nI_pred r'
              have W3 := W2 r' _ (by omega) t1
              rw [t3] at W3
              rw [hb] at gE
              simp only [B_Md_countWays_59, SS, S2.1, S2.isEnd.1, S2.ways.1, S2.go.1, g11, e3, if_false, if_true, xE, cln, gE, bI_f, not_true_eq_false, ne_eq, true_and, c12, c8, pk_mul, nI_add, x2, cl_nI (show 8 * n + c < 2147483648 by omega), t2', x3, cl_nI (show 12001 * r' + toM M (m + 22) n c < 2147483648 by omega), W3, e6]
              rw [k_mSum (by have := cp_le (((List.range c).map (fun e => wy rs k r' (lsuf rs (str n ++ [e])))).sum); have := cp_le (wy rs k r' (lsuf rs (str n ++ [c]))); have hC : CAP = 1000000000000001 := rfl; omega)]
              simp only [SS, List.cons_append, List.nil_append, B_Md_countWays_59, nI_i1]
              rw [G_Md_countWays_110]
              have := ihc (c + 1) (by omega) hb
              rw [List.range_succ, List.map_append, List.sum_append] at this
              simp only [List.map_cons, List.map_nil, List.sum_cons, List.sum_nil, Nat.add_zero] at this
              rw [cp_add, cp_add']
              exact this
          cases hb : (endAt rs (str n)).isSome with
          | false =>
            have := letters k 0 (by omega) hb
            simp only [List.range_zero, List.map_nil, List.sum_nil] at this
            rw [show cp 0 = 0 by unfold cp; omega] at this
            exact this
          | true =>
            rw [hb] at gE
            have e3 := nI_leI (show k < 2 ^ 31 by omega) (show 0 < 2 ^ 31 by omega)
            have st := store 0 (.int (nI 0)) (by rw [wy_bad hb]; rfl)
            simp only [B_Md_countWays_59, SS, S2.1, S2.isEnd.1, g11, e3, xE, cln, gE, bI_t, i10, not_false_eq_true, ne_eq, if_true, if_false, true_and, ite_self]
            exact st
      exact nodes N 0 M' _ _ _ (by omega) F' W' (fun q hq => by omega)
  have init : ∀ d n M', n + d = N → FrJ (fun b => b = m + 27) M M' → (∀ q, q < n → gJ M' (m + 27) q = lN (cp (wy rs k 0 (str q)))) → wp F_Md_countWays 2 [.ref m, .int (nI n), jk, jk, jk, jk] [] M' Q := by
    intro d
    induction d with
    | zero =>
      intro n M' hn F' V'
      have S' := fS M' F'
      have e2 : nI N ≤ nI n := nI_le (by omega) (by omega)
      simp only [B_Md_countWays_2, B_Md_countWays_36, SS, S'.1, (F'.gI _ _).trans h51, e2, if_true, true_and, j1]
      refine outer 80 1 M' _ _ _ _ (by omega) (by omega) F' (fun a q ha hq => ?_)
      rw [show a = 0 by omega, Nat.mul_zero, Nat.zero_add]
      exact V' q (by omega)
    | succ d ih =>
      intro n M' hn F' V'
      have S' := fS M' F'
      have e2 : ¬ nI N ≤ nI n := nI_ge (by omega) (by omega)
      have gE : gI M' (m + 25) n = bI (endAt rs (str n)).isSome := (F'.gI _ _).trans (hE n (by omega))
      have xE : ixB M' (m + 25) (nI n) := ixZ_of S'.isEnd.2 (by omega) (by omega)
      have x1 : ixJ M' (m + 27) (nI n) := ixJ_of S'.ways.2 (by omega) (by omega)
      have cln := cl_nI (show n < 2147483648 by omega)
      have go : wp F_Md_countWays 2 [.ref m, .int (nI (n + 1)), jk, jk, jk, jk] [] (sJ M' (m + 27) n (lN (cp (wy rs k 0 (str n))))) Q := by
        refine ih (n + 1) _ (by omega) (F'.trans (FrJ.sJ rfl)) (fun q hq => ?_)
        rw [gJ_sJ]
        by_cases z : q = n
        · rw [if_pos ⟨rfl, z⟩, z]
        · rw [if_neg (fun y => z y.2)]; exact V' q (by omega)
      cases hb : (endAt rs (str n)).isSome with
      | true =>
        rw [hb] at gE
        rw [wy_bad hb] at go
        simp only [B_Md_countWays_2, B_Md_countWays_29, SS, S'.1, S'.ways.1, S'.isEnd.1, (F'.gI _ _).trans h51, e2, if_false, xE, x1, cln, gE, bI_t, i10, true_and, nI_i1]
        rw [G_Md_countWays_33]
        exact go
      | false =>
        rw [hb] at gE
        have w1 : wy rs k 0 (str n) = 1 := by rw [wy, if_neg (by rw [hb]; decide)]
        rw [w1] at go
        simp only [B_Md_countWays_2, B_Md_countWays_28, B_Md_countWays_29, SS, S'.1, S'.ways.1, S'.isEnd.1, (F'.gI _ _).trans h51, e2, if_false, if_true, xE, x1, cln, gE, bI_f, true_and, nI_i1]
        rw [G_Md_countWays_33]
        exact go
  simp only [B_Md_countWays_0, SS]
  exact init N 0 M (by omega) FrJ.rfl (fun q hq => by omega)
end MC
