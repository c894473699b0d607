/-! the reference's calls: REDUCING a SLOT, two SLOTS; overlaps -/
theorem ShN.scr {M M1 : Mm} {m a : Nat} (h : ShN M M1 m a) (ha : a = m + 14 ∨ a = m + 15) : Scr M M1 m := scr_of h.1 (fun b q => by unfold scC; omega) (fun j hj => h.2 j (fun e => hj (by unfold scF; omega)))
theorem nI_ne1 {n : Nat} (h : n < 2147483648) : ¬ nI n = -1 := by
  intro z
  have := congrArg Int32.toInt z
  rw [nI_toInt (show n < 2 ^ 31 by omega)] at this
  have z : (-1 : Int32).toInt = -1 := rfl
  omega
section MC
variable {M : Mm} {m : Nat} {σ : Sg} {Q : Option Value → Mm → Prop}
theorem m_reduce {v : Int32} (h : MdV M m σ) (hI : SgI σ) (hQ : ∀ M', MdV M' m (rcG σ v).2 → Yfr M M' m → Q (some (.int (rcG σ v).1)) M') : wp F_Md_reduce 0 [.ref m, .int v, jk, jk] [] M Q := by
  have s : Scr M (sI M m 0 0) m := scr_0 (Or.inl rfl)
  have h' := h.scr s
  have sy := s.y
  simp only [B_Md_reduce_0, h.1.1, true_and]
  generalize sI M m 0 0 = M0 at h' sy
  rw [k_mSlot]
  rcases oix_cases (n := 8) (by omega) v with ⟨j, hj, rfl, e⟩ | ⟨e, -⟩
  · simp only [rcG, e] at hQ
    have hs := h'.2.2.2.2.2.2.2.1
    obtain ⟨l80, lk⟩ := hI.2.1 j hj
    have z0 : (0 : Int32) = nI ([] : List Nat).length := rfl
    simp only [SS, List.cons_append, List.nil_append, e, Option.isSome_some, bI, if_true, i10, if_false, B_Md_reduce_0, B_Md_reduce_15, h'.1.1, h'.1.one.1, true_and, z0]
    refine k_takeOne h'.1 hs hj l80 AR.nil (by simp; omega) ?_
    intro M1 F1 A1
    have S1 := h'.1.fr F1
    simp only [List.nil_append] at A1
    have V1 : MdV M1 m σ := h'.scr (scr_of F1 (fun b q => Or.inr (Or.inr (Or.inr (Or.inl q)))) (fun j _ => F1.gI (by omega) j))
    have y1 := sy.trans (F1.z.weaken (T := fun b => m ≤ b ∧ b < m + 30) (fun b q => by omega))
    simp only [List.length_nil, Nat.zero_add, SS, List.cons_append, List.nil_append, B_Md_reduce_15, S1.1, true_and]
    refine k_mShrink S1 V1.2.2.2.1 hI.2.2.1 (Or.inl rfl) A1 (by omega) lk ?_ ?_
    · intro hn M2 N2
      rw [hn] at hQ
      simp only [SS, List.cons_append, List.nil_append, B_Md_reduce_15, if_true]
      exact hQ M2 (V1.scr (N2.scr (Or.inl rfl))) (y1.trans (N2.scr (Or.inl rfl)).y)
    · intro w tr hf hwl hwk M2 N2 A2 g31 tr2
      rw [hf] at hQ
      have V2 := V1.scr (N2.scr (Or.inl rfl))
      have S2 := V2.1
      have htl := form_steps hI.2.2.1 (show (sSl σ j).length ≤ 120 by omega) hf
      simp only [SS, List.cons_append, List.nil_append, B_Md_reduce_15, nI_ne1 (show w.length < 2147483648 by omega), if_false, B_Md_reduce_38, S2.1, true_and]
      refine k_toSlot S2 V2.2.2.2.2.2.2.2.1 hj (by omega) A2 (fun i hi => (hI.2.1 i hi).1) ?_
      intro M3 F3 s3
      have V3 := V2.slot F3 s3
      have S3 := V3.1
      have g313 : gI M3 m 31 = nI tr.length := (F3.gI (by omega) _).trans g31
      have tr3 : TRv M3 (m + 18) (m + 19) tr := tr2.fr F3 (by omega) (by omega)
      have y3 := (y1.trans (N2.scr (Or.inl rfl)).y).trans (F3.z.weaken (T := fun b => m ≤ b ∧ b < m + 30) (fun b q => by omega))
      have c300 : (300 : Int32) = nI 300 := rfl
      -- the trace is told
      have fin : ∀ q, q = min tr.length 300 → wp F_Md_reduce 65 [.ref m, .int (nI j), .int (nI w.length), jk] [.int (nI q), .ref m] M3 Q := by
        intro q hq
        simp only [B_Md_reduce_65, SS, S3.1, true_and]
        have F4 : FrS (fun b => b = m) M3 (sI M3 m 36 (nI q)) := FrS.sI rfl
        have loop : ∀ d i M5, i + d = q → FrS (fun b => b = m ∨ b = m + 16 ∨ b = m + 17) M3 M5 → (∀ j, j ≠ 36 → gI M5 m j = gI M3 m j) → gI M5 m 36 = nI q → (∀ p, p < i → gI M5 (m + 16) p = nI (tr.getD p (0, 0)).1 ∧ gI M5 (m + 17) p = nI (tr.getD p (0, 0)).2) → wp F_Md_reduce 70 [.ref m, .int (nI j), .int (nI w.length), .int (nI i)] [] M5 Q := by
          intro d
          induction d with
          | zero =>
            intro i M5 hi F5 hg5 g36 ht5
            have S5 := S3.fr F5
            have e1 : nI q ≤ nI i := nI_le (by omega) (by omega)
            simp only [B_Md_reduce_70, B_Md_reduce_108, S5.1, g36, e1, if_true, true_and, (hg5 31 (by omega)).trans g313]
            refine hQ M5 (V3.told (td := tr.take 300) F5 hg5 ⟨by rw [g36, hq]; simp [Nat.min_comm], fun p h1 h2 => ?_⟩) (y3.trans (F5.z.weaken (fun b q => by omega)))
            rw [List.length_take] at h1
            rw [getD_take h2]
            exact ht5 p (by omega)
          | succ d ih =>
            intro i M5 hi F5 hg5 g36 ht5
            have S5 := S3.fr F5
            have e1 : ¬ nI q ≤ nI i := nI_ge (by omega) (by omega)
            have x1 : ixI M5 (m + 18) (nI i) := ixI_of S5.newRule.2 (by omega) (by omega)
            have x2 : ixW M5 (m + 16) (nI i) := ixW_of S5.stepRule.2 (by omega) (by omega)
            have tt := tr3 i (by omega) (by omega)
            have t1 : gI M5 (m + 18) i = nI (tr.getD i (0, 0)).1 := (F5.gI (by omega) _).trans tt.1
            have t2 : gI M5 (m + 19) i = nI (tr.getD i (0, 0)).2 := (F5.gI (by omega) _).trans tt.2
            have x3 : ∀ v, ixI (sI M5 (m + 16) i v) (m + 19) (nI i) := fun v => ixI_of S5.newPlace.2 (by omega) (by omega)
            have x4 : ∀ v, ixW (sI M5 (m + 16) i v) (m + 17) (nI i) := fun v => ixW_of S5.stepPlace.2 (by omega) (by omega)
            have n1 : ¬ m + 19 = m + 16 := by omega
            simp only [B_Md_reduce_70, SS, S5.1, S5.stepRule.1, S5.newRule.1, S5.stepPlace.1, S5.newPlace.1, g36, e1, if_false, x1, x2, x3, x4, cl_nI (show i < 2147483648 by omega), t1, t2, n1, false_and, true_and, nI_i1]
            rw [G_Md_reduce_105]
            have n2 : ¬ m = m + 16 := by omega
            have n3 : ¬ m = m + 17 := by omega
            have n4 : ¬ m + 16 = m + 17 := by omega
            have n5 : ¬ m + 17 = m + 16 := by omega
            refine ih (i + 1) _ (by omega) (F5.trans ((FrS.sI (Or.inr (Or.inl rfl))).trans (FrS.sI (Or.inr (Or.inr rfl))))) (fun j hj => by simp only [SS, n2, n3, false_and, if_false]; exact hg5 j hj) (by simp only [SS, n2, n3, false_and, if_false]; exact g36) (fun p hp => ?_)
            by_cases z : p = i
            · subst z
              simp [SS, n4]
            · have := ht5 p (by omega)
              simp [SS, n4, n5, z, this]
        exact loop q 0 _ (by omega) (F4.weaken (fun b q => Or.inl q)) (fun j hj => by rw [gI_sI, if_neg (fun z => hj z.2)]) (by simp [SS]) (fun p hp => by omega)
      simp only [SS, Option.toList_none, List.nil_append, B_Md_reduce_38, S3.1, g313, true_and, c300, nI_leI (show 300 < 2 ^ 31 by omega) (show tr.length < 2 ^ 31 by omega)]
      by_cases q : 300 ≤ tr.length
      · rw [if_pos q]
        simp only [B_Md_reduce_62, c300]
        exact fin 300 (by omega)
      · rw [if_neg q]
        exact fin tr.length (by omega)
  · simp only [rcG, e] at hQ
    simp only [SS, List.cons_append, List.nil_append, e, Option.isSome_none, bI, Bool.false_eq_true, if_false, if_true, B_Md_reduce_0]
    exact hQ M0 h' sy
theorem m_same {a b : Int32} (h : MdV M m σ) (hI : SgI σ) (hQ : ∀ M', MdV M' m σ → Yfr M M' m → Q (some (.int (smG σ a b))) M') : wp F_Md_same 0 [.ref m, .int a, .int b, jk, jk] [] M Q := by
  have s : Scr M (sI M m 0 0) m := scr_0 (Or.inl rfl)
  have h' := h.scr s
  have sy := s.y
  have hk8 := hI.2.2.1.2.1
  simp only [B_Md_same_0, h.1.1, true_and]
  generalize sI M m 0 0 = M0 at h' sy
  rw [k_mSlot]
  rcases oix_cases (n := 8) (by omega) a with ⟨p, hp, rfl, e⟩ | ⟨e, -⟩
  · simp only [SS, List.cons_append, List.nil_append, e, Option.isSome_some, bI, if_true, i10, if_false, B_Md_same_0]
    rw [k_mSlot]
    rcases oix_cases (n := 8) (by omega) b with ⟨q, hq, rfl, eq⟩ | ⟨eq, -⟩
    · simp only [smG, e, eq] at hQ
      have hs := h'.2.2.2.2.2.2.2.1
      obtain ⟨lp, kp⟩ := hI.2.1 p hp
      obtain ⟨lq, kq⟩ := hI.2.1 q hq
      have clq := cl_nI (show q < 2147483648 by omega)
      have c80 : (80 : Int32) = nI 80 := rfl
      have z0 : (0 : Int32) = nI ([] : List Nat).length := rfl
      simp only [SS, List.cons_append, List.nil_append, eq, Option.isSome_some, bI, if_true, i10, if_false, B_Md_same_0, B_Md_same_22, h'.1.1, h'.1.one.1, true_and, z0]
      refine k_takeOne h'.1 hs hp lp AR.nil (by simp; omega) ?_
      intro M1 F1 A1
      have S1 := h'.1.fr F1
      simp only [List.nil_append] at A1
      have V1 : MdV M1 m σ := h'.scr (scr_of F1 (fun b q => Or.inr (Or.inr (Or.inr (Or.inl q)))) (fun j _ => F1.gI (by omega) j))
      have y1 := sy.trans (F1.z.weaken (T := fun b => m ≤ b ∧ b < m + 30) (fun b q => by omega))
      simp only [List.length_nil, Nat.zero_add, SS, List.cons_append, List.nil_append, B_Md_same_22, S1.1, true_and]
      -- the second word is laid beside, whatever came of the first
      have copy : ∀ (N0 : Mm) (v : Int32), MdV N0 m σ → (∀ N (l4 : Value), FrS (fun b => b = m + 15) N0 N → AR N (m + 15) 0 (sSl σ q) → wp F_Md_same 76 [.ref m, .int (nI p), .int (nI q), .int v, l4] [] N Q) → wp F_Md_same 40 [.ref m, .int (nI p), .int (nI q), .int v, .int (nI 0)] [] N0 Q := by
        intro N0 v V0 K
        have hs0 := V0.2.2.2.2.2.2.2.1
        have loop : ∀ d i N, i + d = (sSl σ q).length → FrS (fun b => b = m + 15) N0 N → AR N (m + 15) 0 ((sSl σ q).take i) → wp F_Md_same 40 [.ref m, .int (nI p), .int (nI q), .int v, .int (nI i)] [] N Q := by
          intro d
          induction d with
          | zero =>
            intro i N hi F hA'
            have hS' := V0.1.fr F
            have hs' := hs0.eq (M1 := N) (fun q => F.gI (by omega) q) (fun q => F.gI (by omega) q)
            have x1 : ixI N (m + 21) (nI q) := ixI_of hS'.slotSize.2 hq (by omega)
            have e1 : nI (sSl σ q).length ≤ nI i := nI_le (by omega) (by omega)
            simp only [B_Md_same_40, SS, hS'.1, hS'.slotSize.1, x1, clq, (hs' q hq).1, e1, if_true, true_and]
            rw [List.take_of_length_le (by omega)] at hA'
            exact K N _ F hA'
          | succ d ih =>
            intro i N hi F hA'
            have hS' := V0.1.fr F
            have hs' := hs0.eq (M1 := N) (fun q => F.gI (by omega) q) (fun q => F.gI (by omega) q)
            have x1 : ixI N (m + 21) (nI q) := ixI_of hS'.slotSize.2 hq (by omega)
            have x2 : ixI N (m + 20) (nI (80 * q + i)) := ixI_of hS'.slots.2 (by omega) (by omega)
            have x3 : ixW N (m + 15) (nI i) := ixW_of hS'.other.2 (by omega) (by omega)
            have e1 : ¬ nI (sSl σ q).length ≤ nI i := nI_ge (by omega) (by omega)
            simp only [B_Md_same_40, SS, hS'.1, hS'.slotSize.1, hS'.slots.1, hS'.other.1, x1, x2, x3, clq, (hs' q hq).1, e1, if_false, true_and, nI_add, c80, pk_mul, cl_nI (show 80 * q + i < 2147483648 by omega), cl_nI (show i < 2147483648 by omega), (hs' q hq).2 i (by omega), nI_i1]
            rw [G_Md_same_73]
            refine ih (i + 1) _ (by omega) (F.trans (FrS.sI rfl)) ?_
            rw [take_succ_getD 0 (by omega)]
            have hlen : ((sSl σ q).take i).length = i := by simp; omega
            refine AR.app (fun q hq => ?_) ?_
            · rw [gI_sI, if_neg (fun z => by omega)]; exact hA' q hq
            · rw [gI_sI, if_pos ⟨rfl, by omega⟩]
        exact loop (sSl σ q).length 0 N0 (by omega) FrS.rfl AR.nil
      refine k_mShrink S1 V1.2.2.2.1 hI.2.2.1 (Or.inl rfl) A1 (by omega) kp ?_ ?_
      · intro hn M2 N2
        rw [hn] at hQ
        have V2 := V1.scr (N2.scr (Or.inl rfl))
        simp only [SS, List.cons_append, List.nil_append, B_Md_same_22]
        refine copy M2 (-1) V2 ?_
        intro M3 l4 F3 A3
        have V3 : MdV M3 m σ := V2.scr (scr_of F3 (fun b q => by unfold scC; omega) (fun j _ => F3.gI (by omega) j))
        simp only [B_Md_same_76, if_true, B_Md_same_99, SS]
        exact hQ M3 V3 ((y1.trans (N2.scr (Or.inl rfl)).y).trans (F3.z.weaken (fun b q => by omega)))
      · intro wa ta hfa hla hka M2 N2 A2 _ _
        rw [hfa] at hQ
        dsimp only at hQ
        have V2 := V1.scr (N2.scr (Or.inl rfl))
        simp only [SS, List.cons_append, List.nil_append, B_Md_same_22]
        refine copy M2 (nI wa.length) V2 ?_
        intro M3 l4 F3 A3
        have V3 : MdV M3 m σ := V2.scr (scr_of F3 (fun b q => by unfold scC; omega) (fun j _ => F3.gI (by omega) j))
        have A23 : AR M3 (m + 14) 0 wa := A2.fr F3 (by omega)
        have y3 := (y1.trans (N2.scr (Or.inl rfl)).y).trans (F3.z.weaken (T := fun b => m ≤ b ∧ b < m + 30) (fun b q => by omega))
        have S3 := V3.1
        have x1 : ixI M3 (m + 21) (nI q) := ixI_of S3.slotSize.2 hq (by omega)
        simp only [B_Md_same_76, nI_ne1 (show wa.length < 2147483648 by omega), if_false, B_Md_same_85, SS, S3.1, S3.other.1, S3.slotSize.1, x1, clq, (V3.2.2.2.2.2.2.2.1 q hq).1, true_and]
        refine k_mShrink S3 V3.2.2.2.1 hI.2.2.1 (Or.inr rfl) A3 (by omega) kq ?_ ?_
        · intro hn M4 N4
          rw [hn] at hQ
          simp only [SS, List.cons_append, List.nil_append, B_Md_same_99, if_true]
          exact hQ M4 (V3.scr (N4.scr (Or.inr rfl))) (y3.trans (N4.scr (Or.inr rfl)).y)
        · intro wb tb hfb hlb hkb M4 N4 A4 _ _
          rw [hfb] at hQ
          dsimp only at hQ
          have V4 := V3.scr (N4.scr (Or.inr rfl))
          have S4 := V4.1
          have A24 : AR M4 (m + 14) 0 wa := A23.fr N4.1 (by omega)
          have hQ := hQ M4 V4 (y3.trans (N4.scr (Or.inr rfl)).y)
          have z00 : (0 : Int32) = nI 0 := rfl
          simp only [SS, List.cons_append, List.nil_append, B_Md_same_99, nI_ne1 (show wb.length < 2147483648 by omega), if_false, B_Md_same_110, S4.1, S4.one.1, S4.other.1, true_and]
          rw [show (Value.int 0) = .int (nI 0) from rfl]
          rw [k_mGreater S4.one.2 S4.other.2 A24 A4 (by omega) (by omega) (fun c hc => by have := hka c hc; omega) (fun c hc => by have := hkb c hc; omega) (by omega) (by omega)]
          simp only [SS, List.cons_append, List.nil_append, B_Md_same_110]
          by_cases z : cmpW wa wb = 0
          · rw [if_pos z] at hQ
            rw [if_pos z]
            simp only [B_Md_same_110, B_Md_same_145]
            exact hQ
          · rw [if_neg z] at hQ
            rw [if_neg z]
            obtain ⟨f, hRo⟩ := V4.2.2.2.2.1
            simp only [B_Md_same_133, S4.1, true_and]
            rw [k_mComplete S4 hRo V4.2.2.2.2.2.1]
            simp only [SS, List.cons_append, List.nil_append, B_Md_same_133]
            unfold sDn at hQ
            revert hQ
            cases (!sSt σ && (sRow σ).isEmpty) <;> intro hQ <;> simp only [bI, Bool.false_eq_true, if_false, if_true, i10, B_Md_same_133, B_Md_same_144, B_Md_same_145] at hQ ⊢ <;> exact hQ
    · simp only [smG, e, eq] at hQ
      simp only [SS, List.cons_append, List.nil_append, eq, Option.isSome_none, bI, Bool.false_eq_true, if_false, if_true, B_Md_same_0, B_Md_same_19]
      exact hQ M0 h' sy
  · simp only [smG, e] at hQ
    simp only [SS, List.cons_append, List.nil_append, e, Option.isSome_none, bI, Bool.false_eq_true, if_false, if_true, B_Md_same_0, B_Md_same_19]
    exact hQ M0 h' sy
end MC
