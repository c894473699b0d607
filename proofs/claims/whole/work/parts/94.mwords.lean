/-! the reference's calls: counts, the tape, words -/
section MC
variable {M : Mm} {m : Nat} {σ : Sg} {Q : Option Value → Mm → Prop}
theorem k_mComplete {f s t : Nat} {row : List Pr} {st : Bool} (hS : MdS M m) (hRo : RoM M m f row) (hN : NuM M m s t st) : wp F_Md_isComplete 0 [.ref m] [] M Q = Q (some (.int (bI (!st && row.isEmpty)))) M := by
  have hl := hRo.2.2.2.1
  simp only [B_Md_isComplete_0, hS.1, hRo.2.2.1, hN.2.2, bN row.length (by omega), bI_ne, true_and]
  cases st <;> cases row <;> simp [B_Md_isComplete_0, B_Md_isComplete_18, B_Md_isComplete_19, bI]
theorem k_mLive {rs : List Ru} (hS : MdS M m) (hR : RuM M m rs) : wp F_Md_live 0 [.ref m, jk, jk] [] M Q = Q (some (.int (nI (liveN rs)))) M := by
  have hl := hR.2.1
  have loop : ∀ k i, i + k = rs.length → wp F_Md_live 4 [.ref m, .int (nI (liveN (rs.take i))), .int (nI i)] [] M Q = Q (some (.int (nI (liveN rs)))) M := by
    intro k
    induction k with
    | zero =>
      intro i hi
      have e1 : nI rs.length ≤ nI i := nI_le (by omega) (by omega)
      simp only [B_Md_live_4, B_Md_live_35, hS.1, hR.1, e1, if_true, true_and, List.take_of_length_le (show rs.length ≤ i by omega)]
    | succ k ih =>
      intro i hi
      obtain ⟨-, -, -, -, g5⟩ := hR.2.2 i (by omega)
      have e1 : ¬ nI rs.length ≤ nI i := nI_ge (by omega) (by omega)
      have e2 : ixB M (m + 11) (nI i) := ixZ_of hS.isLive.2 (by omega) (by omega)
      have e3 : liveN (rs.take (i + 1)) = liveN (rs.take i) + (if (rs.getD i dR).2.2 = true then 1 else 0) := by
        rw [take_succ_getD dR (by omega)]
        simp only [liveN, List.filter_append, List.length_append, List.filter_cons, List.filter_nil]
        split <;> rfl
      have := ih (i + 1) (by omega)
      rw [e3] at this
      simp only [B_Md_live_4, SS, hS.1, hS.isLive.1, hR.1, e1, e2, if_false, true_and, cl_nI (show i < 2147483648 by omega), g5]
      cases hb : (rs.getD i dR).2.2 with
      | true =>
        rw [hb] at this
        simp only [if_true] at this
        simp only [bI, if_true, i10, if_false, B_Md_live_4, B_Md_live_27, nI_i1, SS]
        rw [G_Md_live_32]
        exact this
      | false =>
        rw [hb] at this
        simp only [Bool.false_eq_true, if_false, Nat.add_zero] at this
        simp only [bI, Bool.false_eq_true, if_false, if_true, Int32.add_zero, B_Md_live_26, B_Md_live_27, nI_i1, SS]
        rw [G_Md_live_32]
        exact this
  simp only [B_Md_live_0, SS]
  have := loop rs.length 0 (by omega)
  simpa [liveN, nI_0] using this
theorem m_count {v : Int32} (h : MdV M m σ) (hQ : ∀ M', MdV M' m σ → Yfr M M' m → Q (some (.int (ctG σ v))) M') : wp F_Md_count 0 [.ref m, .int v] [] M Q := by
  have s : Scr M (sI M m 0 0) m := scr_0 (Or.inl rfl)
  have h' := h.scr s
  have hQ := hQ _ h' s.y
  unfold ctG at hQ
  simp only [B_Md_count_0, h.1.1, true_and]
  generalize sI M m 0 0 = M0 at h' hQ
  obtain ⟨a1, a2, ⟨a3, a4, a5⟩, a6, ⟨f, a7⟩, a8, -⟩ := h'
  rcases oix_cases (n := 8) (by omega) v with ⟨j, hj, rfl, e⟩ | ⟨e, hv⟩
  · rw [e] at hQ
    rcases (show j = 0 ∨ j = 1 ∨ j = 2 ∨ j = 3 ∨ j = 4 ∨ j = 5 ∨ j = 6 ∨ j = 7 by omega) with rfl | rfl | rfl | rfl | rfl | rfl | rfl | rfl
    · have z : nI 0 = 0 := rfl
      simp only [z, B_Md_count_0, B_Md_count_52, a1.1, a4, true_and]
      exact hQ
    · have z : nI 1 = 1 := rfl
      simp only [z, B_Md_count_0, B_Md_count_57, a1.1, a6.1, true_and]
      exact hQ
    · have z : nI 2 = 2 := rfl
      simp only [z, B_Md_count_0, B_Md_count_62, a1.1, true_and]
      rw [k_mLive a1 a6]
      simp only [SS, List.cons_append, List.nil_append, B_Md_count_62]
      exact hQ
    · have z : nI 3 = 3 := rfl
      simp only [z, B_Md_count_0, B_Md_count_67, a1.1, a7.2.2.1, true_and]
      exact hQ
    · have z : nI 4 = 4 := rfl
      simp only [z, B_Md_count_0, B_Md_count_72, a1.1, a8.1, true_and]
      exact hQ
    · have z : nI 5 = 5 := rfl
      simp only [z, B_Md_count_0, B_Md_count_77, a1.1, true_and]
      rw [k_mComplete a1 a7 a8]
      simp only [SS, List.cons_append, List.nil_append, B_Md_count_77]
      have hQ : Q (some (.int (bI (!sSt σ && (sRow σ).isEmpty)))) M0 := hQ
      revert hQ
      cases (!sSt σ && (sRow σ).isEmpty) <;> intro hQ <;> simp only [bI, Bool.false_eq_true, if_false, if_true, i10, B_Md_count_77, B_Md_count_88, B_Md_count_89] at hQ ⊢ <;> exact hQ
    · have z : nI 6 = 6 := rfl
      simp only [z, B_Md_count_0, B_Md_count_90, a1.1, a8.2.2, true_and]
      have hQ : Q (some (.int (bI (sSt σ)))) M0 := hQ
      revert hQ
      cases sSt σ <;> intro hQ <;> simp only [bI, Bool.false_eq_true, if_false, if_true, i10, B_Md_count_90, B_Md_count_101, B_Md_count_102] at hQ ⊢ <;> exact hQ
    · have z : nI 7 = 7 := rfl
      simp only [z, B_Md_count_0, B_Md_count_103, a1.1, a8.2.1, true_and]
      exact hQ
  · rw [e] at hQ
    have hsw : v.toInt < 0 ∨ 7 < v.toInt := by
      rcases hv with hw | ⟨-, hw⟩
      · have := Int32.lt_iff_toInt_lt.mp hw
        have e : (0 : Int32).toInt = 0 := rfl
        exact Or.inl (by omega)
      · have a2 := Int32.le_iff_toInt_le.mp hw
        rw [nI_toInt (show 8 < 2 ^ 31 by omega)] at a2
        exact Or.inr (by omega)
    rw [sw_Md_count_6 _ _ _ _ _ _ hsw]
    simp only [B_Md_count_108]
    exact hQ
theorem MdV.tape {tp : List Nat} {M1 : Mm} (h : MdV M m σ) (hf : FrS (fun b => b = m ∨ b = m + 1) M M1) (hg : ∀ j, j ≠ 2 → gI M1 m j = gI M m j) (ht : TpM M1 m tp) : MdV M1 m ((tp, sLf σ, sNm σ), σ.2) := by
  obtain ⟨a1, a2, ⟨a3, a4, a5⟩, a6, ⟨f, a7⟩, a8, a9, a10, a11, a12⟩ := h
  have c : ∀ b, b ≠ m → b ≠ m + 1 → ∀ j, gI M1 b j = gI M b j := fun b h1 h2 j => hf.gI (by omega) j
  exact ⟨a1.fr hf, ht, ⟨(hg _ (by omega)).trans a3, (hg _ (by omega)).trans a4, fun j hj => (c _ (by omega) (by omega) _).trans (a5 j hj)⟩, a6.eq (hg _ (by omega)) (fun b h1 h2 => c b (by omega) (by omega)), ⟨f, a7.eq (hg _ (by omega)) (hg _ (by omega)) (c _ (by omega) (by omega)) (c _ (by omega) (by omega))⟩, a8.eq (hg _ (by omega)) (hg _ (by omega)) (hg _ (by omega)), a9.eq (hg _ (by omega)) (hg _ (by omega)) (hg _ (by omega)), a10.eq (c _ (by omega) (by omega)) (c _ (by omega) (by omega)), a11.eq (hg _ (by omega)) (c _ (by omega) (by omega)) (c _ (by omega) (by omega)), a12.eq (hg _ (by omega)) (hg _ (by omega)) (fun j => hf.gJ _ _) (c _ (by omega) (by omega)) (fun j => hf.gJ _ _)⟩
theorem MdV.slot {j : Nat} {w : List Nat} {M1 : Mm} (h : MdV M m σ) (hf : FrS (fun b => b = m + 20 ∨ b = m + 21) M M1) (hs : SlM M1 m (upd1 (sSl σ) j w)) : MdV M1 m (sSet σ j w) := by
  obtain ⟨a1, a2, ⟨a3, a4, a5⟩, a6, ⟨f, a7⟩, a8, a9, a10, a11, a12⟩ := h
  have c : ∀ b, b ≠ m + 20 → b ≠ m + 21 → ∀ j, gI M1 b j = gI M b j := fun b h1 h2 j => hf.gI (by omega) j
  exact ⟨a1.fr hf, a2.eq (c _ (by omega) (by omega) _) (c _ (by omega) (by omega)), ⟨(c _ (by omega) (by omega) _).trans a3, (c _ (by omega) (by omega) _).trans a4, fun j hj => (c _ (by omega) (by omega) _).trans (a5 j hj)⟩, a6.eq (c _ (by omega) (by omega) _) (fun b h1 h2 => c b (by omega) (by omega)), ⟨f, a7.eq (c _ (by omega) (by omega) _) (c _ (by omega) (by omega) _) (c _ (by omega) (by omega)) (c _ (by omega) (by omega))⟩, a8.eq (c _ (by omega) (by omega) _) (c _ (by omega) (by omega) _) (c _ (by omega) (by omega) _), a9.eq (c _ (by omega) (by omega) _) (c _ (by omega) (by omega) _) (c _ (by omega) (by omega) _), hs, a11.eq (c _ (by omega) (by omega) _) (c _ (by omega) (by omega)) (c _ (by omega) (by omega)), a12.eq (c _ (by omega) (by omega) _) (c _ (by omega) (by omega) _) (fun j => hf.gJ _ _) (c _ (by omega) (by omega)) (fun j => hf.gJ _ _)⟩
theorem MdV.told {td : List (Nat × Nat)} {M1 : Mm} (h : MdV M m σ) (hf : FrS (fun b => b = m ∨ b = m + 16 ∨ b = m + 17) M M1) (hg : ∀ j, j ≠ 36 → gI M1 m j = gI M m j) (ht : TdM M1 m td) : MdV M1 m (σ.1, σ.2.1, σ.2.2.1, (sSl σ, td)) := by
  obtain ⟨a1, a2, ⟨a3, a4, a5⟩, a6, ⟨f, a7⟩, a8, a9, a10, a11, a12⟩ := h
  have c : ∀ b, b ≠ m → b ≠ m + 16 → b ≠ m + 17 → ∀ j, gI M1 b j = gI M b j := fun b h1 h2 h3 j => hf.gI (by omega) j
  exact ⟨a1.fr hf, a2.eq (hg _ (by omega)) (c _ (by omega) (by omega) (by omega)), ⟨(hg _ (by omega)).trans a3, (hg _ (by omega)).trans a4, fun j hj => (c _ (by omega) (by omega) (by omega) _).trans (a5 j hj)⟩, a6.eq (hg _ (by omega)) (fun b h1 h2 => c b (by omega) (by omega) (by omega)), ⟨f, a7.eq (hg _ (by omega)) (hg _ (by omega)) (c _ (by omega) (by omega) (by omega)) (c _ (by omega) (by omega) (by omega))⟩, a8.eq (hg _ (by omega)) (hg _ (by omega)) (hg _ (by omega)), a9.eq (hg _ (by omega)) (hg _ (by omega)) (hg _ (by omega)), a10.eq (c _ (by omega) (by omega) (by omega)) (c _ (by omega) (by omega) (by omega)), ht, a12.eq (hg _ (by omega)) (hg _ (by omega)) (fun j => hf.gJ _ _) (c _ (by omega) (by omega) (by omega)) (fun j => hf.gJ _ _)⟩
theorem m_feed {w : Int64} {n : Int32} (h : MdV M m σ) (hI : SgI σ) (hQ : ∀ M', MdV M' m (fdG σ w n).2 → Yfr M M' m → Q (some (.int (fdG σ w n).1)) M') : wp F_Md_feed 0 [.ref m, .long w, jk, .int n, jk] [] M Q := by
  have s : Scr M (sI M m 0 0) m := scr_0 (Or.inl rfl)
  have h' := h.scr s
  have sy := s.y
  have hl := hI.2.2.2.2.2.2.2.1
  simp only [B_Md_feed_0, h.1.1, true_and]
  generalize sI M m 0 0 = M0 at h' sy
  rw [k_in]
  have e1 : decide ((1 : Int64) ≤ n.toInt64 ∧ n.toInt64 ≤ 8) = (match oix 9 n with | some (_ + 1) => true | _ => false) := by
    have ev : n.toInt64.toInt = n.toInt := Int32.toInt_toInt64 n
    have z1 : (1 : Int64).toInt = 1 := rfl
    have z8 : (8 : Int64).toInt = 8 := rfl
    by_cases q : 1 ≤ n.toInt ∧ n.toInt ≤ 8
    · rw [decide_eq_true (show (1 : Int64) ≤ n.toInt64 ∧ n.toInt64 ≤ 8 from ⟨Int64.le_iff_toInt_le.mpr (by omega), Int64.le_iff_toInt_le.mpr (by omega)⟩)]
      unfold oix
      rw [if_pos ⟨by omega, by omega⟩]
      have : cl n = (cl n - 1) + 1 := by
        have : cl n = n.toInt.toNat := rfl
        omega
      rw [this]
    · rw [decide_eq_false (fun z => q ⟨by have := Int64.le_iff_toInt_le.mp z.1; omega, by have := Int64.le_iff_toInt_le.mp z.2; omega⟩)]
      unfold oix
      by_cases y : 0 ≤ n.toInt ∧ n.toInt < (9 : Nat)
      · rw [if_pos y]
        have : cl n = 0 := by
          have : cl n = n.toInt.toNat := rfl
          omega
        rw [this]
      · rw [if_neg y]
  rw [e1]
  simp only [SS, List.cons_append, List.nil_append, B_Md_feed_0]
  rcases oix_cases (n := 9) (by omega) n with ⟨j, hj, rfl, e⟩ | ⟨e, hn⟩
  · cases j with
    | zero =>
      simp only [fdG, e] at hQ
      simp only [e, bI, Bool.false_eq_true, if_false, if_true]
      exact hQ M0 h' sy
    | succ i0 =>
      obtain ⟨t1, t2⟩ := h'.2.1
      simp only [fdG, e] at hQ
      have c600 : (600 : Int32) = nI 600 := rfl
      simp only [e, bI, if_true, i10, if_false, B_Md_feed_20, h'.1.1, t1, true_and, nI_add, c600, nI_leI (show (sTp σ).length + (i0 + 1) < 2 ^ 31 by omega) (show 600 < 2 ^ 31 by omega)]
      by_cases q3 : (sTp σ).length + (i0 + 1) ≤ 600
      · rw [if_neg (by omega)] at hQ
        rw [if_pos q3]
        have loop : ∀ i tp' M', FrS (fun b => b = m ∨ b = m + 1) M0 M' → (∀ j, j ≠ 2 → gI M' m j = gI M0 m j) → TpM M' m tp' → tp'.length + i ≤ 600 → i ≤ 8 → tp' ++ byts w i = sTp σ ++ byts w (i0 + 1) → wp F_Md_feed 40 [.ref m, .long w, jk, .int (nI (i0 + 1)), .int (nI i - 1)] [] M' Q := by
          intro i
          induction i with
          | zero =>
            intro tp' M' hF hg hT hlen hi ht
            have z : nI 0 - 1 < (0 : Int32) := by decide
            have hS' := h'.1.fr hF
            simp only [B_Md_feed_40, B_Md_feed_82, z, if_true, hS'.1, hT.1, true_and]
            have e2 : tp' = sTp σ ++ byts w (i0 + 1) := by rw [← ht]; simp [byts]
            subst e2
            simp only [List.length_append, byts_len]
            exact hQ M' (h'.tape hF hg hT) (sy.trans (hF.z.weaken (fun b q => by omega)))
          | succ i ih =>
            intro tp' M' hF hg hT hlen hi ht
            have hS' := h'.1.fr hF
            have z : ¬ nI i < (0 : Int32) := nI_pos (by omega)
            have c8 : (8 : Int32) = nI 8 := rfl
            have x1 : ixW M' (m + 1) (nI tp'.length) := ixW_of hS'.tape.2 (by omega) (by omega)
            have n1 : ¬ m = m + 1 := by omega
            have n2 : ¬ m + 1 = m := by omega
            rw [nI_pred]
            simp only [B_Md_feed_40, z, if_false, SS, hS'.1, hS'.tape.1, hT.1, true_and, c8, pk_mul, byt_m (show i < 8 by omega), x1, cl_nI (show tp'.length < 2147483648 by omega), n1, false_and, nI_i1, sub1]
            rw [G_Md_feed_79]
            refine ih (tp' ++ [byt w i]) _ (hF.trans ((FrS.sI (Or.inr rfl)).trans (FrS.sI (Or.inl rfl)))) (fun j hj => ?_) ⟨by simp [SS], fun j hj => ?_⟩ (by simp; omega) (by omega) ?_
            · simp only [SS, n1, false_and, if_false, hj, and_false]
              exact hg j hj
            · simp only [List.length_append, List.length_cons, List.length_nil] at hj
              rw [getD_app hj]
              simp only [SS, n2, false_and, if_false, true_and, Nat.zero_add]
              by_cases q : j < tp'.length
              · rw [if_neg (by omega), if_pos q]
                have := hT.2 j q
                rw [Nat.zero_add] at this
                exact this
              · rw [if_pos (by omega), if_neg q]
            · rw [← ht]
              simp [byts]
        simp only [B_Md_feed_35, SS]
        exact loop (i0 + 1) (sTp σ) M0 FrS.rfl (fun _ _ => rfl) h'.2.1 q3 (by omega) rfl
      · rw [if_pos (by omega)] at hQ
        rw [if_neg q3]
        exact hQ M0 h' sy
  · simp only [fdG, e] at hQ
    simp only [e, bI, Bool.false_eq_true, if_false, if_true]
    exact hQ M0 h' sy
theorem k_takeOne {j : Nat} {sl : Nat → List Nat} {pre : List Nat} (hS : MdS M m) (hs : SlM M m sl) (hj : j < 8) (h80 : (sl j).length ≤ 80) (hA : AR M (m + 14) 0 pre) (hl : pre.length + (sl j).length ≤ 130)
    (hQ : ∀ M', FrS (fun b => b = m + 14) M M' → AR M' (m + 14) 0 (pre ++ sl j) → Q (some (.int (nI (pre.length + (sl j).length)))) M') : wp F_Md_takeOne 0 [.ref m, .int (nI j), .int (nI pre.length), jk] [] M Q := by
  have clj := cl_nI (show j < 2147483648 by omega)
  have loop : ∀ d i M', i + d = (sl j).length → FrS (fun b => b = m + 14) M M' → AR M' (m + 14) 0 (pre ++ (sl j).take i) → wp F_Md_takeOne 2 [.ref m, .int (nI j), .int (nI pre.length), .int (nI i)] [] M' Q := by
    intro d
    induction d with
    | zero =>
      intro i M' hi F hA'
      have hS' := hS.fr F
      have hs' := hs.eq (M1 := M') (fun q => F.gI (by omega) q) (fun q => F.gI (by omega) q)
      have x1 : ixI M' (m + 21) (nI j) := ixI_of hS'.slotSize.2 hj (by omega)
      have e1 : nI (sl j).length ≤ nI i := nI_le (by omega) (by omega)
      simp only [B_Md_takeOne_2, B_Md_takeOne_37, SS, hS'.1, hS'.slotSize.1, x1, clj, (hs' j hj).1, e1, if_true, true_and, nI_add]
      rw [List.take_of_length_le (by omega)] at hA'
      exact hQ M' F hA'
    | succ d ih =>
      intro i M' hi F hA'
      have hS' := hS.fr F
      have hs' := hs.eq (M1 := M') (fun q => F.gI (by omega) q) (fun q => F.gI (by omega) q)
      have x1 : ixI M' (m + 21) (nI j) := ixI_of hS'.slotSize.2 hj (by omega)
      have x2 : ixI M' (m + 20) (nI (80 * j + i)) := ixI_of hS'.slots.2 (by omega) (by omega)
      have x3 : ixW M' (m + 14) (nI (pre.length + i)) := ixW_of hS'.one.2 (by omega) (by omega)
      have e1 : ¬ nI (sl j).length ≤ nI i := nI_ge (by omega) (by omega)
      have c80 : (80 : Int32) = nI 80 := rfl
      simp only [B_Md_takeOne_2, SS, hS'.1, hS'.slotSize.1, hS'.slots.1, hS'.one.1, x1, x2, x3, clj, (hs' j hj).1, e1, if_false, true_and, nI_add, c80, pk_mul, cl_nI (show 80 * j + i < 2147483648 by omega), cl_nI (show pre.length + i < 2147483648 by omega), (hs' j hj).2 i (by omega), nI_i1]
      rw [G_Md_takeOne_34]
      refine ih (i + 1) _ (by omega) (F.trans (FrS.sI rfl)) ?_
      rw [take_succ_getD 0 (by omega), ← List.append_assoc]
      have hlen : (pre ++ (sl j).take i).length = pre.length + i := by simp; omega
      refine AR.app (fun q hq => ?_) ?_
      · rw [gI_sI, if_neg (fun z => by omega)]; exact hA' q hq
      · rw [gI_sI, if_pos ⟨rfl, by omega⟩]
  simp only [B_Md_takeOne_0, SS]
  exact loop (sl j).length 0 M (by omega) FrS.rfl (by simpa using hA)
theorem k_toSlot {j : Nat} {sl : Nat → List Nat} {w : List Nat} (hS : MdS M m) (hs : SlM M m sl) (hj : j < 8) (h80 : w.length ≤ 80) (hA : AR M (m + 14) 0 w) (hsl : ∀ i, i < 8 → (sl i).length ≤ 80)
    (hQ : ∀ M', FrS (fun b => b = m + 20 ∨ b = m + 21) M M' → SlM M' m (upd1 sl j w) → Q none M') : wp F_Md_toSlot 0 [.ref m, .int (nI j), .int (nI w.length), jk] [] M Q := by
  have clj := cl_nI (show j < 2147483648 by omega)
  have c80 : (80 : Int32) = nI 80 := rfl
  have loop : ∀ d i M', i + d = w.length → FrS (fun b => b = m + 20) M M' → AR M' (m + 20) (80 * j) (w.take i) → (∀ q, q < 80 * j ∨ 80 * j + 80 ≤ q → gI M' (m + 20) q = gI M (m + 20) q) → wp F_Md_toSlot 2 [.ref m, .int (nI j), .int (nI w.length), .int (nI i)] [] M' Q := by
    intro d
    induction d with
    | zero =>
      intro i M' hi F hA' ho
      have hS' := hS.fr F
      have x1 : ixW M' (m + 21) (nI j) := ixW_of hS'.slotSize.2 hj (by omega)
      have e1 : nI w.length ≤ nI i := nI_le (by omega) (by omega)
      simp only [B_Md_toSlot_2, B_Md_toSlot_30, SS, hS'.1, hS'.slotSize.1, x1, clj, e1, if_true, true_and]
      rw [List.take_of_length_le (by omega)] at hA'
      refine hQ _ ((F.weaken (fun _ q => Or.inl q)).trans (FrS.sI (Or.inr rfl))) (fun i hi => ?_)
      have n1 : ¬ m + 20 = m + 21 := by omega
      have hsi := hsl i hi
      by_cases e : i = j
      · subst e
        simp only [upd1, if_true]
        exact ⟨by simp [SS], fun q hq => by simp only [SS, n1, false_and, if_false]; exact hA' q hq⟩
      · simp only [upd1, if_neg e]
        refine ⟨?_, fun q hq => ?_⟩
        · rw [gI_sI, if_neg (fun z => e z.2), F.gI (by omega)]; exact (hs i hi).1
        · rw [gI_sI, if_neg (fun z => n1 z.1), ho _ (by omega)]; exact (hs i hi).2 q hq
    | succ d ih =>
      intro i M' hi F hA' ho
      have hS' := hS.fr F
      have x2 : ixI M' (m + 14) (nI i) := ixI_of hS'.one.2 (by omega) (by omega)
      have x3 : ixW M' (m + 20) (nI (80 * j + i)) := ixW_of hS'.slots.2 (by omega) (by omega)
      have e1 : ¬ nI w.length ≤ nI i := nI_ge (by omega) (by omega)
      have ga : gI M' (m + 14) i = nI (w.getD i 0) := by
        have := hA i (by omega)
        rw [Nat.zero_add] at this
        rw [F.gI (by omega)]; exact this
      simp only [B_Md_toSlot_2, SS, hS'.1, hS'.slots.1, hS'.one.1, x2, x3, e1, if_false, true_and, nI_add, c80, pk_mul, cl_nI (show 80 * j + i < 2147483648 by omega), cl_nI (show i < 2147483648 by omega), ga, nI_i1]
      rw [G_Md_toSlot_27]
      refine ih (i + 1) _ (by omega) (F.trans (FrS.sI rfl)) ?_ (fun q hq => ?_)
      · rw [take_succ_getD 0 (by omega)]
        have hlen : (w.take i).length = i := by simp; omega
        refine AR.app (fun q hq => ?_) ?_
        · rw [gI_sI, if_neg (fun z => by omega)]; exact hA' q hq
        · rw [gI_sI, if_pos ⟨rfl, by omega⟩]
      · rw [gI_sI, if_neg (fun z => by omega)]; exact ho q hq
  simp only [B_Md_toSlot_0, SS]
  exact loop w.length 0 M (by omega) FrS.rfl (by simpa using AR.nil) (fun _ _ => rfl)
theorem m_join {v a b : Int32} (h : MdV M m σ) (hI : SgI σ) (hQ : ∀ M', MdV M' m (jnG σ v a b).2 → Yfr M M' m → Q (some (.int (jnG σ v a b).1)) M') : wp F_Md_join 0 [.ref m, .int v, .int a, .int b, jk] [] M Q := by
  have s : Scr M (sI M m 0 0) m := scr_0 (Or.inl rfl)
  have h' := h.scr s
  have sy := s.y
  simp only [B_Md_join_0, h.1.1, true_and]
  generalize sI M m 0 0 = M0 at h' sy
  rw [k_mSlot]
  rcases oix_cases (n := 8) (by omega) v with ⟨j, hj, rfl, e⟩ | ⟨e, -⟩
  · simp only [SS, List.cons_append, List.nil_append, e, Option.isSome_some, bI, if_true, i10, if_false, B_Md_join_0]
    rw [k_mSlot]
    rcases oix_cases (n := 8) (by omega) a with ⟨p, hp, rfl, ep⟩ | ⟨ep, -⟩
    · simp only [SS, List.cons_append, List.nil_append, ep, Option.isSome_some, bI, if_true, i10, if_false, B_Md_join_0]
      rw [k_mSlot]
      rcases oix_cases (n := 8) (by omega) b with ⟨q, hq, rfl, eq⟩ | ⟨eq, -⟩
      · simp only [jnG, e, ep, eq] at hQ
        have hs := h'.2.2.2.2.2.2.2.1
        have x1 : ixI M0 (m + 21) (nI p) := ixI_of h'.1.slotSize.2 hp (by omega)
        have x2 : ixI M0 (m + 21) (nI q) := ixI_of h'.1.slotSize.2 hq (by omega)
        have lp := (hI.2.1 p hp).1
        have lq := (hI.2.1 q hq).1
        have c80 : (80 : Int32) = nI 80 := rfl
        simp only [SS, List.cons_append, List.nil_append, eq, Option.isSome_some, bI, if_true, i10, if_false, B_Md_join_0, B_Md_join_29, h'.1.1, h'.1.slotSize.1, x1, x2, cl_nI (show p < 2147483648 by omega), cl_nI (show q < 2147483648 by omega), (hs p hp).1, (hs q hq).1, true_and, nI_add, c80, nI_leI (show (sSl σ p).length + (sSl σ q).length < 2 ^ 31 by omega) (show 80 < 2 ^ 31 by omega)]
        by_cases hle : (sSl σ p).length + (sSl σ q).length ≤ 80
        · rw [if_neg (by omega)] at hQ
          rw [if_pos hle]
          have z0 : (0 : Int32) = nI ([] : List Nat).length := rfl
          simp only [B_Md_join_50, h'.1.1, true_and, z0]
          refine k_takeOne h'.1 hs hp lp AR.nil (by simp; omega) ?_
          intro M1 F1 A1
          have S1 := h'.1.fr F1
          have hs1 := hs.eq (M1 := M1) (fun q => F1.gI (by omega) q) (fun q => F1.gI (by omega) q)
          simp only [List.nil_append] at A1
          simp only [List.length_nil, Nat.zero_add, SS, List.cons_append, List.nil_append, B_Md_join_50, S1.1, true_and]
          refine k_takeOne S1 hs1 hq lq A1 (by omega) ?_
          intro M2 F2 A2
          have S2 := S1.fr F2
          have hs2 := hs1.eq (M1 := M2) (fun q => F2.gI (by omega) q) (fun q => F2.gI (by omega) q)
          simp only [SS, List.cons_append, List.nil_append, B_Md_join_50, S2.1, true_and]
          rw [show nI ((sSl σ p).length + (sSl σ q).length) = nI (sSl σ p ++ sSl σ q).length by rw [List.length_append]]
          refine k_toSlot S2 hs2 hj (by simp; omega) A2 (fun i hi => (hI.2.1 i hi).1) ?_
          intro M3 F3 s3
          have V2 : MdV M2 m σ := h'.scr (scr_of (F1.trans F2) (fun b q => Or.inr (Or.inr (Or.inr (Or.inl q)))) (fun j _ => (F1.trans F2).gI (by omega) j))
          simp only [SS, Option.toList_none, List.nil_append, B_Md_join_50, List.length_append]
          exact hQ M3 (V2.slot F3 s3) (sy.trans (((F1.trans F2).z.weaken (fun b q => by omega)).trans (F3.z.weaken (fun b q => by omega))))
        · rw [if_pos (by omega)] at hQ
          rw [if_neg hle]
          exact hQ M0 h' sy
      · simp only [jnG, e, ep, eq] at hQ
        simp only [SS, List.cons_append, List.nil_append, eq, Option.isSome_none, bI, Bool.false_eq_true, if_false, if_true, B_Md_join_0, B_Md_join_26]
        exact hQ M0 h' sy
    · simp only [jnG, e, ep] at hQ
      simp only [SS, List.cons_append, List.nil_append, ep, Option.isSome_none, bI, Bool.false_eq_true, if_false, if_true, B_Md_join_0, B_Md_join_26]
      exact hQ M0 h' sy
  · simp only [jnG, e] at hQ
    simp only [SS, List.cons_append, List.nil_append, e, Option.isSome_none, bI, Bool.false_eq_true, if_false, if_true, B_Md_join_0, B_Md_join_26]
    exact hQ M0 h' sy
end MC
