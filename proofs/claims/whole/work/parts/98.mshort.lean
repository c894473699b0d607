/-! the reference's completing: normal forms, (b), (c) -/
def FmN (M M' : Mm) (m a : Nat) : Prop := FrS (skS m a) M M' ∧ ∀ j, j ≠ 31 → j ≠ 27 → j ≠ 28 → gI M' m j = gI M m j
theorem FmN.t {M M1 : Mm} {m a : Nat} (h : FmN M M1 m a) (ha : a = m + 14 ∨ a = m + 15) : Tfr M M1 m := tfr_of h.1 (fun b q => by unfold skS at q; unfold tC; omega) (fun j hj => h.2 j (fun e => hj (by unfold tF; omega)) (fun e => hj (by unfold tF; omega)) (fun e => hj (by unfold tF; omega)))
section MC
variable {M : Mm} {m : Nat} {Q : Option Value → Mm → Prop}
theorem k_mForm {f t s k a : Nat} {rs : List Ru} {row : List Pr} {l : List Nat} (h : MmV M m f rs row t s false) (hw : RWf rs k) (ha : a = m + 14 ∨ a = m + 15) (hv : AR M a 0 l) (hl : l.length ≤ 120) (hlk : ∀ c ∈ l, c < k)
    (hQ0 : form rs l = none → ∀ M', MmV M' m f rs row t s true → FmN M M' m a → Q (some (.int (-1))) M')
    (hQ1 : ∀ w tr, form rs l = some (w, tr) → w.length ≤ l.length → (∀ c ∈ w, c < k) → ∀ M', MmV M' m f rs row t (s + tr.length) false → FmN M M' m a → AR M' a 0 w → Q (some (.int (nI w.length))) M') : wp F_Md_form 0 [.ref m, .ref a, .int (nI l.length), jk] [] M Q := by
  simp only [B_Md_form_0, h.1.1, true_and]
  refine k_mShrink h.1 h.2.1 hw ha hv hl hlk ?_ ?_
  · intro hn M1 N1
    have V1 := h.shn N1 ha
    obtain ⟨S1, R1, Ro1, U1⟩ := V1
    simp only [SS, List.cons_append, List.nil_append, B_Md_form_0, B_Md_form_33, S1.1, if_true, true_and, or_true]
    have F4 : FrS (fun b => b = m) M1 (sI M1 m 28 1) := FrS.sI rfl
    have gm : ∀ j, j ≠ 28 → gI (sI M1 m 28 1) m j = gI M1 m j := fun j hj => by rw [gI_sI, if_neg (fun z => hj z.2)]
    refine hQ0 hn _ ⟨S1.fr F4, R1.eq (gm _ (by omega)) (fun b h1 h2 j => F4.gI (by omega) j), Ro1.eq (gm _ (by omega)) (gm _ (by omega)) (fun j => F4.gI (by omega) j) (fun j => F4.gI (by omega) j), ⟨(gm _ (by omega)).trans U1.1, (gm _ (by omega)).trans U1.2.1, by simp [SS, bI]⟩⟩ ⟨N1.1.trans (F4.weaken (fun b q => Or.inl q)), fun j h1 h2 h3 => (gm j h3).trans (N1.2 j h1)⟩
  · intro w tr hf hwl hwk M1 N1 A1 g31 tr1
    have V1 := h.shn N1 ha
    obtain ⟨S1, R1, Ro1, U1⟩ := V1
    simp only [SS, List.cons_append, List.nil_append, B_Md_form_0, nI_ne1 (show w.length < 2147483648 by omega), if_false, B_Md_form_20, B_Md_form_33, S1.1, true_and, g31, U1.2.1, nI_add]
    have F4 : FrS (fun b => b = m) M1 (sI M1 m 27 (nI (s + tr.length))) := FrS.sI rfl
    have gm : ∀ j, j ≠ 27 → gI (sI M1 m 27 (nI (s + tr.length))) m j = gI M1 m j := fun j hj => by rw [gI_sI, if_neg (fun z => hj z.2)]
    refine hQ1 w tr hf hwl hwk _ ⟨S1.fr F4, R1.eq (gm _ (by omega)) (fun b h1 h2 j => F4.gI (by omega) j), Ro1.eq (gm _ (by omega)) (gm _ (by omega)) (fun j => F4.gI (by omega) j) (fun j => F4.gI (by omega) j), ⟨(gm _ (by omega)).trans U1.1, by simp [SS], (gm _ (by omega)).trans U1.2.2⟩⟩ ⟨N1.1.trans (F4.weaken (fun b q => Or.inl q)), fun j h1 h2 h3 => (gm j h2).trans (N1.2 j h1)⟩ (A1.fr F4 (by omega))
theorem RuM.setR {M M1 : Mm} {rs : List Ru} {i : Nat} {w : List Nat} (h : RuM M m rs) (hi : i < rs.length) (h60 : ∀ j, (rs.getD j dR).2.1.length ≤ 60) (hf : FrS (fun b => b = m + 9 ∨ b = m + 10) M M1) (hw : AR M1 (m + 9) (60 * i) w) (h10 : gI M1 (m + 10) i = nI w.length) (h9 : ∀ p, p < 60 * i ∨ 60 * i + 60 ≤ p → gI M1 (m + 9) p = gI M (m + 9) p) (h11 : ∀ j, j ≠ i → gI M1 (m + 10) j = gI M (m + 10) j) : RuM M1 m (rs.set i ((rs.getD i dR).1, w, (rs.getD i dR).2.2)) := by
  refine ⟨by rw [List.length_set]; exact (hf.gI (by omega) _).trans h.1, by rw [List.length_set]; exact h.2.1, fun j hj => ?_⟩
  rw [List.length_set] at hj
  obtain ⟨g1, g2, g3, g4, g5⟩ := h.2.2 j hj
  have e7 : ∀ b, ¬ (b = m + 9 ∨ b = m + 10) → ∀ q, gI M1 b q = gI M b q := fun b h1 q => hf.gI h1 q
  rw [getD_set hi]
  by_cases e : j = i
  · subst e
    rw [if_pos rfl]
    exact ⟨(e7 _ (by omega) _).trans g1, g2.eq (e7 _ (by omega)), h10, hw, (e7 _ (by omega) _).trans g5⟩
  · rw [if_neg e]
    have := h60 j
    exact ⟨(e7 _ (by omega) _).trans g1, g2.eq (e7 _ (by omega)), (h11 j e).trans g3, fun q hq => (h9 _ (by omega)).trans (g4 q hq), (e7 _ (by omega) _).trans g5⟩
theorem RWf.setR {rs : List Ru} {k i : Nat} {w : List Nat} (h : RWf rs k) (hi : i < rs.length) (hl : w.length ≤ (rs.getD i dR).2.1.length) (hk : ∀ c ∈ w, c < k) : RWf (rs.set i ((rs.getD i dR).1, w, (rs.getD i dR).2.2)) k := by
  refine ⟨fun u hu => ?_, h.2.1, by rw [List.length_set]; exact h.2.2⟩
  rcases List.mem_or_eq_of_mem_set hu with hu | rfl
  · exact h.1 u hu
  · have := h.1 _ (getD_mem hi)
    exact ⟨this.1, this.2.1, Nat.le_trans hl this.2.2.1, this.2.2.2.1, hk⟩
set_option maxHeartbeats 1000000 in
theorem k_mShorten {f t s k fr : Nat} {rs : List Ru} {row : List Pr} (h : MmV M m f rs row t s false) (hw : RWf rs k) (hfr : fr < rs.length)
    (hQ : ∀ M', MmV M' m f (rnw fr 0 rs s).1 row t (rnw fr 0 rs s).2.1 (!(rnw fr 0 rs s).2.2) → Tfr M M' m → Q none M') : wp F_Md_shortenOlder 0 [.ref m, .int (nI fr), jk, jk, jk] [] M Q := by
  have h200 := hw.2.2
  have c60 : (60 : Int32) = nI 60 := rfl
  have loop : ∀ d i rs' s' st' M' (l3 l4 : Value), i + d = fr → rs'.length = rs.length → RWf rs' k → MmV M' m f rs' row t s' st' → Tfr M M' m → (st' = false → rnw fr 0 rs s = rnw d i rs' s') → (st' = true → rnw fr 0 rs s = (rs', s', false)) → wp F_Md_shortenOlder 2 [.ref m, .int (nI fr), .int (nI i), l3, l4] [] M' Q := by
    intro d
    induction d with
    | zero =>
      intro i rs' s' st' M' l3 l4 hi hlen hw' V' F' h0 h1
      have e1 : nI fr ≤ nI i := nI_le (by omega) (by omega)
      simp only [B_Md_shortenOlder_2, B_Md_shortenOlder_134, e1, if_true]
      cases st' with
      | false => rw [h0 rfl] at hQ; exact hQ M' V' F'
      | true => rw [h1 rfl] at hQ; exact hQ M' V' F'
    | succ d ih =>
      intro i rs' s' st' M' l3 l4 hi hlen hw' V' F' h0 h1
      have e1 : ¬ nI fr ≤ nI i := nI_ge (by omega) (by omega)
      have V0 := V'
      obtain ⟨S', R', Ro', N'⟩ := V'
      simp only [B_Md_shortenOlder_2, e1, if_false, S'.1, N'.2.2, true_and]
      cases st' with
      | true =>
        simp only [bI, if_true, i10, if_false, B_Md_shortenOlder_134]
        rw [h1 rfl] at hQ; exact hQ M' ⟨S', R', Ro', N'⟩ F'
      | false =>
        have h0 := h0 rfl
        obtain ⟨g1, g2, g3, g4, g5⟩ := R'.2.2 i (by omega)
        obtain ⟨u1, u2, u3, u4⟩ := hw'.ruk i
        have xb : ixB M' (m + 11) (nI i) := ixZ_of S'.isLive.2 (by omega) (by omega)
        have cli := cl_nI (show i < 2147483648 by omega)
        simp only [bI, Bool.false_eq_true, if_false, if_true, B_Md_shortenOlder_2, SS, S'.1, S'.isLive.1, xb, cli, g5, true_and]
        cases hlv : (rs'.getD i dR).2.2 with
        | false =>
          simp only [Bool.false_eq_true, if_false, if_true, B_Md_shortenOlder_128, SS, nI_i1]
          rw [G_Md_shortenOlder_131]
          refine ih (i + 1) rs' s' false M' _ _ (by omega) hlen hw' V0 F' (fun _ => ?_) (fun q => by cases q)
          rw [h0, rnw, hlv, if_neg (by decide)]
        | true =>
          simp only [if_true, i10, if_false, S'.1, true_and, B_Md_shortenOlder_2]
          have la : ∀ n q M1 (l4 : Value), q + n = (rs'.getD i dR).2.1.length → FrS (fun b => b = m + 14) M' M1 → AR M1 (m + 14) 0 ((rs'.getD i dR).2.1.take q) → (∀ M2 (l3 : Value), FrS (fun b => b = m + 14) M' M2 → AR M2 (m + 14) 0 (rs'.getD i dR).2.1 → wp F_Md_shortenOlder 58 [.ref m, .int (nI fr), .int (nI i), l3, l4] [] M2 Q) → wp F_Md_shortenOlder 25 [.ref m, .int (nI fr), .int (nI i), .int (nI q), l4] [] M1 Q := by
            intro n
            induction n with
            | zero =>
              intro q M1 l4 hq F A K
              have S1 := S'.fr F
              have x1 : ixI M1 (m + 10) (nI i) := ixI_of S1.rightSize.2 (by omega) (by omega)
              have e1 : nI (rs'.getD i dR).2.1.length ≤ nI q := nI_le (by omega) (by omega)
              simp only [B_Md_shortenOlder_25, SS, S1.1, S1.rightSize.1, x1, cli, (F.gI (show ¬ m + 10 = m + 14 by omega) _).trans g3, e1, if_true, true_and]
              rw [List.take_of_length_le (by omega)] at A
              exact K M1 _ F A
            | succ n ihn =>
              intro q M1 l4 hq F A K
              have S1 := S'.fr F
              have x1 : ixI M1 (m + 10) (nI i) := ixI_of S1.rightSize.2 (by omega) (by omega)
              have x2 : ixI M1 (m + 9) (nI (60 * i + q)) := ixI_of S1.right.2 (by omega) (by omega)
              have x3 : ixW M1 (m + 14) (nI q) := ixW_of S1.one.2 (by omega) (by omega)
              have e1 : ¬ nI (rs'.getD i dR).2.1.length ≤ nI q := nI_ge (by omega) (by omega)
              simp only [B_Md_shortenOlder_25, SS, S1.1, S1.rightSize.1, S1.right.1, S1.one.1, x1, x2, x3, cli, (F.gI (show ¬ m + 10 = m + 14 by omega) _).trans g3, e1, if_false, true_and, c60, pk_mul, nI_add, cl_nI (show 60 * i + q < 2147483648 by omega), cl_nI (show q < 2147483648 by omega), (F.gI (show ¬ m + 9 = m + 14 by omega) _).trans (g4 q (by omega)), nI_i1]
              rw [G_Md_shortenOlder_55]
              refine ihn (q + 1) _ l4 (by omega) (F.trans (FrS.sI rfl)) ?_ K
              rw [take_succ_getD 0 (by omega)]
              have hln : ((rs'.getD i dR).2.1.take q).length = q := by rw [List.length_take]; omega
              refine AR.app (fun q hq => ?_) ?_
              · rw [gI_sI, if_neg (fun z => by omega)]; exact A q hq
              · rw [gI_sI, if_pos ⟨rfl, by omega⟩]
          refine la (rs'.getD i dR).2.1.length 0 M' _ (by omega) FrS.rfl AR.nil ?_
          intro M2 l3' F2 A2
          have V2 : MmV M2 m f rs' row t s' false := V0.w (F2.weaken (fun _ q => Or.inl q))
          have T2 : Tfr M M2 m := F'.trans (tfr_of F2 (fun b q => by unfold tC; omega) (fun j _ => F2.gI (by omega) j))
          have x1 : ixI M2 (m + 10) (nI i) := ixI_of V2.1.rightSize.2 (by omega) (by omega)
          have g32 : gI M2 (m + 10) i = nI (rs'.getD i dR).2.1.length := (F2.gI (by omega) _).trans g3
          simp only [B_Md_shortenOlder_58, SS, V2.1.1, V2.1.one.1, V2.1.rightSize.1, x1, cli, g32, true_and]
          refine k_mForm V2 hw' (Or.inl rfl) A2 (by omega) u4 ?_ ?_
          · intro hn M3 V3 N3
            have x1 : ixI M3 (m + 10) (nI i) := ixI_of V3.1.rightSize.2 (by omega) (by omega)
            have x2 : ixW M3 (m + 10) (nI i) := ixW_of V3.1.rightSize.2 (by omega) (by omega)
            have g33 : gI M3 (m + 10) i = nI (rs'.getD i dR).2.1.length := (N3.1.gI (by unfold skS; omega) _).trans g32
            have e5 : (-1 : Int32) ≤ 0 := by decide
            simp only [SS, List.cons_append, List.nil_append, B_Md_shortenOlder_58, B_Md_shortenOlder_76, e5, B_Md_shortenOlder_107, B_Md_shortenOlder_127, B_Md_shortenOlder_128, if_true, V3.1.1, V3.1.rightSize.1, x1, x2, cli, g33, nI_i1, true_and]
            rw [G_Md_shortenOlder_131]
            have F4 : FrS (fun b => b = m + 10) M3 (sI M3 (m + 10) i (nI (rs'.getD i dR).2.1.length)) := FrS.sI rfl
            have same : ∀ b j, gI (sI M3 (m + 10) i (nI (rs'.getD i dR).2.1.length)) b j = gI M3 b j := fun b j => by
              rw [gI_sI]
              split
              · rename_i z; rw [z.1, z.2]; exact g33.symm
              · rfl
            refine ih (i + 1) rs' s' true _ _ _ (by omega) hlen hw' ⟨V3.1.fr F4, V3.2.1.eq (same _ _) (fun b _ _ j => same b j), V3.2.2.1.eq (same _ _) (same _ _) (same _) (same _), V3.2.2.2.eq (same _ _) (same _ _) (same _ _)⟩ ((T2.trans (N3.t (Or.inl rfl))).trans (tfr_of F4 (fun b q => by unfold tC; omega) (fun j _ => same _ _))) (fun q => by cases q) (fun _ => ?_)
            rw [h0, rnw, hlv, if_pos rfl, hn]
          · intro w tr hf hwl hwk M3 V3 N3 A3
            have lb : ∀ n q M1, q + n = w.length → FrS (fun b => b = m + 9) M3 M1 → AR M1 (m + 9) (60 * i) (w.take q) → (∀ p, p < 60 * i ∨ 60 * i + 60 ≤ p → gI M1 (m + 9) p = gI M3 (m + 9) p) → (∀ M4 (l4 : Value), FrS (fun b => b = m + 9) M3 M4 → AR M4 (m + 9) (60 * i) w → (∀ p, p < 60 * i ∨ 60 * i + 60 ≤ p → gI M4 (m + 9) p = gI M3 (m + 9) p) → wp F_Md_shortenOlder 107 [.ref m, .int (nI fr), .int (nI i), .int (nI w.length), l4] [] M4 Q) → wp F_Md_shortenOlder 76 [.ref m, .int (nI fr), .int (nI i), .int (nI w.length), .int (nI q)] [] M1 Q := by
              intro n
              induction n with
              | zero =>
                intro q M1 hq F A O K
                have e1 : nI w.length ≤ nI q := nI_le (by omega) (by omega)
                simp only [B_Md_shortenOlder_76, e1, if_true]
                rw [List.take_of_length_le (by omega)] at A
                exact K M1 _ F A O
              | succ n ihn =>
                intro q M1 hq F A O K
                have S1 := V3.1.fr F
                have x2 : ixW M1 (m + 9) (nI (60 * i + q)) := ixW_of S1.right.2 (by omega) (by omega)
                have x3 : ixI M1 (m + 14) (nI q) := ixI_of S1.one.2 (by omega) (by omega)
                have e1 : ¬ nI w.length ≤ nI q := nI_ge (by omega) (by omega)
                have a3 := A3 q (by omega)
                rw [Nat.zero_add] at a3
                simp only [B_Md_shortenOlder_76, SS, S1.1, S1.right.1, S1.one.1, x2, x3, e1, if_false, true_and, c60, pk_mul, nI_add, cl_nI (show 60 * i + q < 2147483648 by omega), cl_nI (show q < 2147483648 by omega), (F.gI (show ¬ m + 14 = m + 9 by omega) _).trans a3, nI_i1]
                rw [G_Md_shortenOlder_104]
                refine ihn (q + 1) _ (by omega) (F.trans (FrS.sI rfl)) ?_ (fun p hp => ?_) K
                · rw [take_succ_getD 0 (by omega)]
                  have hln : (w.take q).length = q := by rw [List.length_take]; omega
                  refine AR.app (fun q hq => ?_) ?_
                  · rw [gI_sI, if_neg (fun z => by omega)]; exact A q hq
                  · rw [gI_sI, if_pos ⟨rfl, by omega⟩]
                · rw [gI_sI, if_neg (fun z => by omega)]; exact O p hp
            simp only [SS, List.cons_append, List.nil_append, B_Md_shortenOlder_58]
            refine lb w.length 0 M3 (by omega) FrS.rfl AR.nil (fun _ _ => rfl) ?_
            intro M4 l4' F4 A4 O4
            have S4 := V3.1.fr F4
            have x1 : ixW M4 (m + 10) (nI i) := ixW_of S4.rightSize.2 (by omega) (by omega)
            simp only [B_Md_shortenOlder_107, B_Md_shortenOlder_126, B_Md_shortenOlder_127, B_Md_shortenOlder_128, SS, S4.1, S4.rightSize.1, nI_ne1 (show w.length < 2147483648 by omega), x1, cli, if_false, true_and, nI_i1]
            rw [G_Md_shortenOlder_131]
            have F5 : FrS (fun b => b = m + 9 ∨ b = m + 10) M3 (sI M4 (m + 10) i (nI w.length)) := (F4.weaken (fun b q => Or.inl q)).trans (FrS.sI (Or.inr rfl))
            have R5 : RuM (sI M4 (m + 10) i (nI w.length)) m (rs'.set i ((rs'.getD i dR).1, w, (rs'.getD i dR).2.2)) := by
              refine V3.2.1.setR (by omega) (fun j => (hw'.ruk j).2.1) F5 (A4.eq (fun j => by rw [gI_sI, if_neg (by omega)])) (by simp [SS]) (fun p hp => ?_) (fun j hj => ?_)
              · rw [gI_sI, if_neg (by omega)]; exact O4 p hp
              · rw [gI_sI, if_neg (fun z => hj z.2)]; exact F4.gI (by omega) j
            refine ih (i + 1) (rs'.set i ((rs'.getD i dR).1, w, (rs'.getD i dR).2.2)) (s' + tr.length) false _ _ _ (by omega) (by rw [List.length_set]; exact hlen) (hw'.setR (by omega) hwl hwk) ⟨V3.1.fr F5, R5, V3.2.2.1.eq (F5.gI (by omega) _) (F5.gI (by omega) _) (fun j => F5.gI (by omega) j) (fun j => F5.gI (by omega) j), V3.2.2.2.eq (F5.gI (by omega) _) (F5.gI (by omega) _) (F5.gI (by omega) _)⟩ ((T2.trans (N3.t (Or.inl rfl))).trans (tfr_of F5 (fun b q => by unfold tC; omega) (fun j _ => F5.gI (by omega) j))) (fun _ => ?_) (fun q => by cases q)
            rw [h0, rnw, if_pos hlv, hf]
  simp only [B_Md_shortenOlder_0, SS]
  exact loop fr 0 rs s false M jk jk (by omega) rfl hw h Tfr.rfl (fun _ => rfl) (fun q => by cases q)
theorem k_mOvAll {f t s k a b : Nat} {rs : List Ru} {row : List Pr} (h : MmV M m f rs row t s false) (hw : RWf rs k) (hr : RowK row k) (ha : a < rs.length) (hb : b < rs.length)
    (hQ : ∀ M', MmV M' m f rs (ovs (rs.getD a dR) (rs.getD b dR) row).1 t s (!(ovs (rs.getD a dR) (rs.getD b dR) row).2) → Tfr M M' m → Q none M') : wp F_Md_overlapAll 0 [.ref m, .int (nI a), .int (nI b), jk, jk] [] M Q := by
  have h200 := hw.2.2
  have ua := hw.ruk a
  have ub := hw.ruk b
  obtain ⟨a1, a2, a3, a4⟩ := ua
  obtain ⟨b1, b2, b3, b4⟩ := ub
  have ga := (h.2.1.2.2 a ha).1
  have gb := (h.2.1.2.2 b hb).1
  have cla := cl_nI (show a < 2147483648 by omega)
  have clb := cl_nI (show b < 2147483648 by omega)
  have loop : ∀ d n row' st' M', n + d = max (min (rs.getD a dR).1.length (rs.getD b dR).1.length) n → 1 ≤ n → n ≤ 100 → RowK row' k → MmV M' m f rs row' t s st' → Tfr M M' m → (st' = false → ovs (rs.getD a dR) (rs.getD b dR) row = ovl (rs.getD a dR) (rs.getD b dR) d n row') → (st' = true → ovs (rs.getD a dR) (rs.getD b dR) row = (row', false)) → wp F_Md_overlapAll 34 [.ref m, .int (nI a), .int (nI b), .int (nI (min (rs.getD a dR).1.length (rs.getD b dR).1.length)), .int (nI n)] [] M' Q := by
    intro d
    induction d with
    | zero =>
      intro n row' st' M' hn hn1 hn2 hr' V' F' h0 h1
      have e1 : nI (min (rs.getD a dR).1.length (rs.getD b dR).1.length) ≤ nI n := nI_le (by omega) (by omega)
      simp only [B_Md_overlapAll_34, B_Md_overlapAll_76, e1, if_true]
      cases st' with
      | false => rw [h0 rfl] at hQ; exact hQ M' V' F'
      | true => rw [h1 rfl] at hQ; exact hQ M' V' F'
    | succ d ih =>
      intro n row' st' M' hn hn1 hn2 hr' V' F' h0 h1
      have e1 : ¬ nI (min (rs.getD a dR).1.length (rs.getD b dR).1.length) ≤ nI n := nI_ge (by omega) (by omega)
      have V0 := V'
      obtain ⟨S', R', Ro', N'⟩ := V'
      simp only [B_Md_overlapAll_34, e1, if_false, S'.1, N'.2.2, true_and]
      cases st' with
      | true =>
        simp only [bI, if_true, i10, if_false, B_Md_overlapAll_76]
        rw [h1 rfl] at hQ; exact hQ M' V0 F'
      | false =>
        have h0 := h0 rfl
        simp only [bI, Bool.false_eq_true, if_false, if_true, B_Md_overlapAll_34, SS, S'.1, true_and]
        refine k_mOverlaps S' R' hw ha hb (by omega) (by omega) ?_ ?_
        · intro hm
          simp only [SS, List.cons_append, List.nil_append, B_Md_overlapAll_34, B_Md_overlapAll_70, if_true, nI_i1]
          rw [G_Md_overlapAll_73]
          refine ih (n + 1) row' false M' (by omega) (by omega) (by omega) hr' V0 F' (fun _ => ?_) (fun q => by cases q)
          rw [h0, ovl, hm, if_neg (by decide)]
        · intro hm M2 N2 A2 B2 g37 g38
          have V2 := V0.ov N2
          obtain ⟨S2, R2, Ro2, U2⟩ := V2
          obtain ⟨p1, p2, p3, p4⟩ := spl_k (n := n) (hw.ruk a) (hw.ruk b)
          simp only [SS, List.cons_append, List.nil_append, B_Md_overlapAll_34, i10, if_false, S2.1, g37, g38, true_and]
          refine k_waits S2 Ro2 A2 B2 p1 p2 (fun p hp => ⟨(hr'.2 p hp).1, (hr'.2 p hp).2.1⟩) ?_ ?_
          · intro hfull
            simp only [SS, Option.toList_none, List.nil_append, B_Md_overlapAll_34, B_Md_overlapAll_70, nI_i1]
            rw [G_Md_overlapAll_73]
            have F4 : FrS (fun b => b = m) M2 (sI M2 m 28 1) := FrS.sI rfl
            have gm : ∀ j, j ≠ 28 → gI (sI M2 m 28 1) m j = gI M2 m j := fun j hj => by rw [gI_sI, if_neg (fun z => hj z.2)]
            refine ih (n + 1) row' true (sI M2 m 28 1) (by omega) (by omega) (by omega) hr' ⟨S2.fr F4, R2.eq (gm _ (by omega)) (fun b h1 h2 j => F4.gI (by omega) j), Ro2.eq (gm _ (by omega)) (gm _ (by omega)) (fun j => F4.gI (by omega) j) (fun j => F4.gI (by omega) j), ⟨(gm _ (by omega)).trans U2.1, (gm _ (by omega)).trans U2.2.1, by simp [SS, bI]⟩⟩ ((F'.trans N2.t).trans (tfr_of F4 (fun b q => Or.inl q) (fun j hj => gm j (fun e => hj (by unfold tF; omega))))) (fun q => by cases q) (fun _ => ?_)
            rw [h0, ovl, hm, if_pos rfl, if_pos hfull]
          · intro hlt M4 F4 gm Ro4
            simp only [SS, Option.toList_none, List.nil_append, B_Md_overlapAll_34, B_Md_overlapAll_70, nI_i1]
            rw [G_Md_overlapAll_73]
            refine ih (n + 1) (row' ++ [spl (rs.getD a dR) (rs.getD b dR) n]) false M4 (by omega) (by omega) (by omega) (hr'.push (by omega) ⟨p1, p2, p3, p4⟩) ⟨S2.fr F4, R2.eq (gm _ (by omega)) (fun b h1 h2 j => F4.gI (by omega) j), Ro4, U2.eq (gm _ (by omega)) (gm _ (by omega)) (gm _ (by omega))⟩ ((F'.trans N2.t).trans (tfr_of F4 (fun b q => by unfold tC; omega) (fun j hj => gm j (fun e => hj (by unfold tF; omega))))) (fun _ => ?_) (fun q => by cases q)
            rw [h0, ovl, hm, if_pos rfl, if_neg (by omega)]
  have x1 : ixI M (m + 8) (nI a) := ixI_of h.1.leftSize.2 (by omega) (by omega)
  have x2 : ixI M (m + 8) (nI b) := ixI_of h.1.leftSize.2 (by omega) (by omega)
  have i1 : (1 : Int32) = nI 1 := rfl
  have go := loop (min (rs.getD a dR).1.length (rs.getD b dR).1.length - 1) 1 row false M (by omega) (by omega) (by omega) hr h Tfr.rfl (fun _ => rfl) (fun q => by cases q)
  simp only [B_Md_overlapAll_0, SS, h.1.1, h.1.leftSize.1, x1, x2, cla, clb, ga, gb, true_and, nI_leI (show (rs.getD b dR).1.length < 2 ^ 31 by omega) (show (rs.getD a dR).1.length < 2 ^ 31 by omega)]
  by_cases q : (rs.getD b dR).1.length ≤ (rs.getD a dR).1.length
  · rw [if_pos q]
    rw [Nat.min_eq_right q] at go
    simp only [B_Md_overlapAll_24, B_Md_overlapAll_30, SS, h.1.1, h.1.leftSize.1, x1, x2, cla, clb, ga, gb, true_and]
    exact go
  · rw [if_neg q]
    rw [Nat.min_eq_left (by omega)] at go
    simp only [B_Md_overlapAll_0, B_Md_overlapAll_30, SS, h.1.1, h.1.leftSize.1, x1, x2, cla, clb, ga, gb, true_and]
    exact go
end MC
