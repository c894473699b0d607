theorem getD_rev_last {c : Nat} {t : List Nat} : (c :: t).reverse.getD t.length 0 = c := by
  rw [List.reverse_cons, List.getD_eq_getElem?_getD, List.getElem?_append_right (by simp)]
  simp
theorem SG_rev_tail {M : Mm} {a c : Nat} {t : List Nat} (h : SG M a (c :: t).reverse) : SG M a t.reverse := by
  have := h.take (n := t.length)
  rw [List.reverse_cons, List.take_append_of_le_length (by simp), List.take_of_length_le (by simp)] at this
  exact this
theorem byte_id {c : Nat} (h : c < 128) : vp_nar .byte (nI c) = nI c := (byte_nI h).1
/-- the reading's state in the store -/
def Rdg (M1 : Mm) (rd N : Nat) (str : Nat → List Nat) (rs : List Ru) (d t : List Nat) (tr : List (Nat × Nat)) : Prop := SG M1 (rd + 1) t.reverse ∧ SG M1 (rd + 2) d ∧ (∀ j, j ≤ d.length → ∃ n, n < N ∧ gI M1 (rd + 3) j = nI n ∧ str n = lsuf rs (d.take j)) ∧ gI M1 rd 7 = nI tr.length ∧ TRv M1 (rd + 4) (rd + 5) tr
theorem Rdg.fr {M M1 : Mm} {S : Nat → Prop} {rd N : Nat} {str : Nat → List Nat} {rs : List Ru} {d t : List Nat} {tr : List (Nat × Nat)} (h : Rdg M rd N str rs d t tr) (hf : FrS S M M1) (hs : ∀ b, rdS rd b → ¬ S b) : Rdg M1 rd N str rs d t tr := ⟨h.1.fr hf (hs _ ⟨by omega, by omega⟩), h.2.1.fr hf (hs _ ⟨by omega, by omega⟩), fun j hj => by
  obtain ⟨n, h1, h2, h3⟩ := h.2.2.1 j hj
  exact ⟨n, h1, (hf.gI (hs _ ⟨by omega, by omega⟩) j).trans h2, h3⟩, (hf.gI (hs _ ⟨by omega, by omega⟩) 7).trans h.2.2.2.1, h.2.2.2.2.fr hf (hs _ ⟨by omega, by omega⟩) (hs _ ⟨by omega, by omega⟩)⟩
theorem k_reading {M : Mm} {rd z mc A B C D cap k N v u : Nat} {rs : List Ru} {str : Nat → List Nat} {Q : Option Value → Mm → Prop} {res : Option (List Nat × List (Nat × Nat))} (hM : MCS M mc A B C D cap) (hD : RDS M rd z mc) (hR : RUS M z) (hV : RUV M z rs) (hwf : RWf rs k) (hN : N ≤ cap)
    (hnx : ∀ n e, n < N → e < k → ∃ m, m < N ∧ gI M A (8 * n + e) = nI m ∧ str m = lsuf rs (str n ++ [e])) (hen : ∀ n, n < N → gI M D n = oI (endAt rs (str n)))
    (d1 : ¬ rdS rd mc ∧ ¬ rdS rd A ∧ ¬ rdS rd D) (d2 : ∀ b, ruS z b → ¬ rdS rd b)
    (hQ0 : res = none → ∀ M', FrS (rdS rd) M M' → Q (some (.int 0)) M') (hQ1 : ∀ w tr, res = some (w, tr) → w.length ≤ 120 → (∀ c ∈ w, c < k) → ∀ M' y1 y2 y3 y4 y5, FrS (rdS rd) M M' → SG M' (rd + 2) w → gI M' rd 7 = nI tr.length → TRv M' (rd + 4) (rd + 5) tr → wp F_Reducer_toForm 197 [.ref rd, .ref v, .ref u, .int (nI w.length), y1, y2, y3, y4, y5] [] M' Q) :
    ∀ (f i : Nat) (d t : List Nat) (tr : List (Nat × Nat)) (M1 : Mm) (y6 y7 y8 : Value), red rs f d t tr = some res → i + f ≤ 1000000 → d.length + t.length ≤ 120 → (∀ c ∈ d, c < k) → (∀ c ∈ t, c < k) → tr.length ≤ 1000 → FrS (rdS rd) M M1 → Rdg M1 rd N str rs d t tr → wp F_Reducer_toForm 36 [.ref rd, .ref v, .ref u, .int (nI d.length), .int (nI t.length), .int (nI i), y6, y7, y8] [] M1 Q := by
  obtain ⟨hwf1, hk8, hlen⟩ := hwf
  have hcap := hM.2.2.2.2.2.2.1
  have kT : (1000000 : Int32) = nI 1000000 := rfl
  have k1000 : (1000 : Int32) = nI 1000 := rfl
  intro f
  induction f with
  | zero =>
    intro i d t tr M1 y6 y7 y8 hr hi hl hc1 hc2 htr ff G
    cases t with
    | cons c t => cases hr
    | nil =>
      have hres : res = some (d, tr) := (Option.some.inj hr).symm
      have e2 : nI ([] : List Nat).length ≤ 0 := by decide
      have := hQ1 d tr hres (by simp at hl; omega) hc1 M1 (.int (nI 0)) (.int (nI i)) y6 y7 y8 ff G.2.1 G.2.2.2.1 G.2.2.2.2
      simp only [B_Reducer_toForm_36, kT, e2, if_true]
      split
      · exact this
      · exact this
  | succ f ih =>
    intro i d t tr M1 y6 y7 y8 hr hi hl hc1 hc2 htr ff G
    cases t with
    | nil =>
      have hres : res = some (d, tr) := (Option.some.inj hr).symm
      have e2 : nI ([] : List Nat).length ≤ 0 := by decide
      have := hQ1 d tr hres (by simp at hl; omega) hc1 M1 (.int (nI 0)) (.int (nI i)) y6 y7 y8 ff G.2.1 G.2.2.2.1 G.2.2.2.2
      simp only [B_Reducer_toForm_36, kT, e2, if_true]
      split
      · exact this
      · exact this
    | cons c t =>
      simp only [List.length_cons] at hl
      have hM1 : MCS M1 mc A B C D cap := hM.fr ff (ff.gI d1.1 0)
      have hD1 := hD.fr ff
      have hR1 := hR.fr ff
      have hV1 := hV.fr ff d2
      obtain ⟨G1, G2, G3, G4, G5⟩ := G
      have ck : c < k := hc2 c List.mem_cons_self
      obtain ⟨n, n1, n2, n3⟩ := G3 d.length (Nat.le_refl _)
      rw [List.take_length] at n3
      obtain ⟨m, m1, m2, m3⟩ := hnx n c n1 ck
      have m3' : str m = lsuf rs (d ++ [c]) := by rw [m3, n3, ← lsuf_snoc]
      have e1 : ¬ nI 1000000 ≤ nI i := nI_ge (by omega) (by omega)
      have e2 : ¬ nI (c :: t).length ≤ 0 := nI_nle (by simp) (by simp; omega)
      have k120 : (120 : Int32) = nI 120 := rfl
      have e4 : ¬ nI 120 ≤ nI d.length := nI_ge (by omega) (by omega)
      have e3 : nI (c :: t).length + -1 = nI t.length := pk_m1 _
      have i1 : ixB M1 (rd + 1) (nI t.length) := ixB_of hD1.2.2.1 (by omega) (by omega)
      have g1 : gI M1 (rd + 1) t.length = nI c := by rw [G1 t.length (by simp), getD_rev_last]
      have i2 : ixI M1 (rd + 3) (nI d.length) := ixI_of hD1.2.2.2.2.1 (by omega) (by omega)
      simp only [B_Reducer_toForm_36, SS, kT, k120, e1, e2, e3, e4, if_false, hD1.1, hD1.2.1.1, hD1.2.1.2.1, hD1.2.1.2.2.1, hD1.2.1.2.2.2.2.1, true_and, i1, cl_nI (show t.length < 2147483648 by omega), g1, i2, cl_nI (show d.length < 2147483648 by omega), n2, hM1.1]
      rw [k_after hM1 (by omega)]
      have gA : gI M1 A (8 * n + c) = nI m := (ff.gI d1.2.1 _).trans m2
      have b1 : ∀ x K, bsW M1 (rd + 2) (nI d.length) x K = K (sI M1 (rd + 2) d.length (vp_nar .byte x)) := fun x K => bsW_b hD1.2.2.2.1 (by omega) (by omega)
      have i3 : ixW (sI M1 (rd + 2) d.length (nI c)) (rd + 3) (nI (d.length + 1)) := ixW_of hD1.2.2.2.2.1 (by omega) (by omega)
      have f2 : FrS (rdS rd) M (sI (sI M1 (rd + 2) d.length (nI c)) (rd + 3) (d.length + 1) (nI m)) := (ff.trans (FrS.sI ⟨by omega, by omega⟩)).trans (FrS.sI ⟨by omega, by omega⟩)
      have gD : gI (sI (sI M1 (rd + 2) d.length (nI c)) (rd + 3) (d.length + 1) (nI m)) D m = oI (endAt rs (d ++ [c])) := by
        rw [f2.gI d1.2.2, hen m m1, m3', ← endAt_lsuf]
      have hlt : ∀ a, endAt rs (d ++ [c]) = some a → a < 2147483648 := fun a ha => by have := (endAt_some ha).1; omega
      simp only [SS, List.cons_append, List.nil_append, gA, B_Reducer_toForm_36, B_Reducer_toForm_36_1, hD1.1, hD1.2.1.2.1, hD1.2.1.2.2.2.1, hD1.2.1.2.2.2.2.1, true_and, b1, byte_id (show c < 128 by omega), nI_i1, i3, cl_nI (show d.length + 1 < 2147483648 by omega), hM1.1]
      rw [k_ruleAt (hM.fr f2 (f2.gI d1.1 0)) (by omega), gD]
      -- the state behind the letter
      have G' : Rdg (sI (sI M1 (rd + 2) d.length (nI c)) (rd + 3) (d.length + 1) (nI m)) rd N str rs (d ++ [c]) t tr := by
        refine ⟨?_, ?_, fun j hj => ?_, ?_, ?_⟩
        · intro j hj
          rw [gI_sI, if_neg (by omega), gI_sI, if_neg (by omega)]
          exact SG_rev_tail G1 j hj
        · intro j hj
          rw [gI_sI, if_neg (by omega)]
          exact G2.push j hj
        · simp only [List.length_append, List.length_cons, List.length_nil] at hj
          by_cases q : j = d.length + 1
          · refine ⟨m, m1, by rw [gI_sI, if_pos ⟨rfl, q⟩], ?_⟩
            rw [m3', List.take_of_length_le (by simp; omega)]
          · obtain ⟨n', q1, q2, q3⟩ := G3 j (by omega)
            refine ⟨n', q1, by rw [gI_sI, if_neg (fun y => q y.2), gI_sI, if_neg (by omega)]; exact q2, ?_⟩
            rw [q3, List.take_append_of_le_length (by omega)]
        · rw [gI_sI, if_neg (by omega), gI_sI, if_neg (by omega)]; exact G4
        · intro j h1 h2
          rw [gI_sI, if_neg (by omega), gI_sI, if_neg (by omega), gI_sI, if_neg (by omega), gI_sI, if_neg (by omega)]
          exact G5 j h1 h2
      generalize hM2 : sI (sI M1 (rd + 2) d.length (nI c)) (rd + 3) (d.length + 1) (nI m) = M2 at f2 G' ⊢
      have hM2' : MCS M2 mc A B C D cap := hM.fr f2 (f2.gI d1.1 0)
      have hD2 := hD.fr f2
      have hR2 := hR.fr f2
      have hV2 := hV.fr f2 d2
      simp only [SS, List.cons_append, List.nil_append, B_Reducer_toForm_36, B_Reducer_toForm_36_1, hD2.1, hD2.2.1.1, hR2.1, true_and]
      rw [k_has hR2 hV2]
      have hld : (d ++ [c]).length = d.length + 1 := by simp
      have hc1' : ∀ e ∈ d ++ [c], e < k := fun e he => (List.mem_append.mp he).elim (hc1 e) (fun q => by rw [List.mem_singleton.mp q]; exact ck)
      unfold red at hr
      cases he : endAt rs (d ++ [c]) with
      | none =>
        rw [he] at hr
        have hh : hasR rs (oI none) = false := hasR_neg (by decide)
        simp only [SS, List.cons_append, List.nil_append, hh, bI, Bool.false_eq_true, ne_eq, not_true_eq_false, if_false, if_true, B_Reducer_toForm_36, B_Reducer_toForm_36_1, B_Reducer_toForm_191, nI_i1]
        rw [G_Reducer_toForm_194]
        have := ih (i + 1) (d ++ [c]) t tr M2 (.int (nI c)) (.int (nI m)) (.int (oI none)) hr (by omega) (by rw [hld]; omega) hc1' (fun e he => hc2 e (List.mem_cons_of_mem _ he)) htr f2 G'
        rw [hld] at this
        exact this
      | some r =>
        rw [he] at hr
        dsimp only at hr
        obtain ⟨r1, r2, r3⟩ := endAt_some he
        obtain ⟨s1, s2⟩ := hR2.2.2.2 r (by omega)
        have vr := hV2.2.2 r r1
        have hu := hwf1 _ (getD_mem r1)
        have c1 := nI_ltI (show tr.length < 2 ^ 31 by omega) (show 1000 < 2 ^ 31 by omega)
        have hh : hasR rs (oI (some r)) = true := hasR_in r1 hlen
        simp only [SS, List.cons_append, List.nil_append, hh, bI, if_true, B_Reducer_toForm_36_1, i10, if_false, ne_eq, not_false_eq_true, B_Reducer_toForm_128, hD2.1, G'.2.2.2.1, true_and, k1000, c1]
        by_cases hstep : tr.length < 1000
        · rw [if_pos hstep]
          rw [if_neg (by omega)] at hr
          have hsl : (rs.getD r dR).1.length ≤ d.length + 1 := by have := r3.length_le; rw [hld] at this; exact this
          have hmn := min_nI (show (rs.getD r dR).1.length < 2147483648 by omega) (show d.length + 1 < 2147483648 by omega)
          rw [Nat.min_eq_left hsl] at hmn
          have i5 : ixR M2 (z + 1) (nI r) := ixR_of hR2.2.2.1 (by omega) (by omega) (by omega)
          simp only [B_Reducer_toForm_140, SS, oI, hD2.1, hD2.2.1.1, hR2.1, hR2.2.1, true_and, i5, cl_nI (show r < 2147483648 by omega), s1, s2.1, s2.2.1, s2.2.2.2.1.1, vr.1.1, hmn, pk_sub hsl]
          refine k_note hD2 G'.2.2.2.1 (by omega) G'.2.2.2.2 ?_
          intro M3 f3 n3a n3b
          have f3' : FrS (rdS rd) M M3 := f2.trans (f3.weaken (fun b q => by rcases q with rfl | rfl | rfl <;> exact ⟨by omega, by omega⟩))
          have hD3 := hD.fr f3'
          have hR3 := hR.fr f3'
          have hV3 := hV.fr f3' d2
          obtain ⟨s1', s2'⟩ := hR3.2.2.2 r (by omega)
          have vr3 := hV3.2.2 r r1
          have i6 : ixR M3 (z + 1) (nI r) := ixR_of hR3.2.2.1 (by omega) (by omega) (by omega)
          simp only [Option.toList_none, List.nil_append, B_Reducer_toForm_140, SS, hD3.1, hD3.2.1.1, hR3.1, hR3.2.1, true_and, i6, cl_nI (show r < 2147483648 by omega), s1', s2'.1, s2'.2.2.1]
          have g3r : SG M3 (rd + 1) t.reverse := G'.1.fr f3 (by omega)
          refine k_putBack (t := t) hD3 s2'.2.2.2.2 vr3.2.1 vr.2.2.2.2 (by omega) g3r (by have := hu.2.2.1; omega) ⟨fun e => d2 (z + 2 + 5 * r + 3) ⟨by omega, by omega⟩ ⟨by omega, by omega⟩, fun e => d2 (z + 2 + 5 * r + 3 + 1) ⟨by omega, by omega⟩ ⟨by omega, by omega⟩⟩ ?_
          intro M4 f4 g4
          have f4' : FrS (rdS rd) M M4 := f3'.trans (f4.weaken (fun b q => by subst q; exact ⟨by omega, by omega⟩))
          simp only [SS, List.cons_append, List.nil_append, B_Reducer_toForm_140, B_Reducer_toForm_191, nI_i1]
          rw [G_Reducer_toForm_194]
          have hld2 : ((d ++ [c]).take (d.length + 1 - (rs.getD r dR).1.length)).length = d.length + 1 - (rs.getD r dR).1.length := by rw [List.length_take, hld]; omega
          have f34 : FrS (fun b => b = rd ∨ b = rd + 4 ∨ b = rd + 5 ∨ b = rd + 1) M2 M4 := (f3.weaken (fun b q => by omega)).trans (f4.weaken (fun b q => by omega))
          have := ih (i + 1) ((d ++ [c]).take (d.length + 1 - (rs.getD r dR).1.length)) ((rs.getD r dR).2.1 ++ t) (tr ++ [(r, d.length + 1 - (rs.getD r dR).1.length)]) M4 (.int (nI c)) (.int (nI m)) (.int (nI r)) hr (by omega) (by
              rw [hld2, List.length_append]
              have := hu.2.2.1
              omega) (fun e he => hc1' e (List.mem_of_mem_take he)) (fun e he => (List.mem_append.mp he).elim (hu.2.2.2.2 e) (fun q => hc2 e (List.mem_cons_of_mem _ q))) (by simp; omega) f4' ⟨g4, (G'.2.1.take).fr f34 (by omega), fun j hj => ?_, ?_, ?_⟩
          · rw [hld2] at this
            exact this
          · rw [hld2] at hj
            obtain ⟨n', q1, q2, q3⟩ := G'.2.2.1 j (by rw [hld]; omega)
            refine ⟨n', q1, (f34.gI (by omega) j).trans q2, ?_⟩
            rw [q3, List.take_take, Nat.min_eq_left hj]
          · rw [f4.gI (by omega), n3a]; simp
          · exact n3b.fr f4 (by omega) (by omega)
        · rw [if_neg hstep]
          rw [if_pos (by omega)] at hr
          have hres : res = none := (Option.some.inj hr).symm
          simp only [true_or, true_and]
          exact hQ0 hres M2 f2
