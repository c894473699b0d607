/-! the reference's completing: a new rule, one treating -/
theorem getD_appR {rs : List Ru} {u : Ru} {j : Nat} (h : j < rs.length + 1) : (rs ++ [u]).getD j dR = if j < rs.length then rs.getD j dR else u := by
  rw [List.getD_eq_getElem?_getD]
  by_cases q : j < rs.length
  · rw [if_pos q, List.getElem?_append_left q, ← List.getD_eq_getElem?_getD]
  · rw [if_neg q, show j = rs.length by omega, List.getElem?_append_right (by omega)]
    simp
section MC
variable {M : Mm} {m : Nat} {Q : Option Value → Mm → Prop}
theorem RuM.push {M M1 : Mm} {rs : List Ru} {l r : List Nat} (h : RuM M m rs) (hl : rs.length < 200) (h60 : ∀ j, (rs.getD j dR).1.length ≤ 60 ∧ (rs.getD j dR).2.1.length ≤ 60) (e21 : gI M1 m 21 = nI (rs.length + 1)) (e8 : gI M1 (m + 8) rs.length = nI l.length) (A7 : AR M1 (m + 7) (60 * rs.length) l) (e10 : gI M1 (m + 10) rs.length = nI r.length) (A9 : AR M1 (m + 9) (60 * rs.length) r) (e11 : gI M1 (m + 11) rs.length = bI true)
    (o7 : ∀ p, p < 60 * rs.length → gI M1 (m + 7) p = gI M (m + 7) p) (o9 : ∀ p, p < 60 * rs.length → gI M1 (m + 9) p = gI M (m + 9) p) (o8 : ∀ b j, b = m + 8 ∨ b = m + 10 ∨ b = m + 11 → j ≠ rs.length → gI M1 b j = gI M b j) : RuM M1 m (rs ++ [(l, r, true)]) := by
  refine ⟨by rw [e21]; simp, by simp; omega, fun j hj => ?_⟩
  rw [List.length_append, List.length_singleton] at hj
  rw [getD_appR hj]
  by_cases q : j < rs.length
  · rw [if_pos q]
    obtain ⟨g1, g2, g3, g4, g5⟩ := h.2.2 j q
    obtain ⟨h1, h2⟩ := h60 j
    exact ⟨(o8 _ _ (Or.inl rfl) (by omega)).trans g1, fun p hp => (o7 _ (by omega)).trans (g2 p hp), (o8 _ _ (Or.inr (Or.inl rfl)) (by omega)).trans g3, fun p hp => (o9 _ (by omega)).trans (g4 p hp), (o8 _ _ (Or.inr (Or.inr rfl)) (by omega)).trans g5⟩
  · rw [if_neg q, show j = rs.length by omega]
    exact ⟨e8, A7, e10, A9, e11⟩
set_option maxHeartbeats 1000000 in
theorem k_made {f t s k p q n1 n2 : Nat} {rs : List Ru} {row : List Pr} {l r : List Nat} {c : Bool} (h : MmV M m f rs row t s false) (hw : RWf rs k) (hc : (c = true ∧ p = m + 14 ∧ q = m + 15 ∧ n1 = l.length ∧ n2 = r.length) ∨ (c = false ∧ p = m + 15 ∧ q = m + 14 ∧ n1 = r.length ∧ n2 = l.length)) (A : AR M p 0 l) (B : AR M q 0 r) (hlr : r.length ≤ l.length) (l120 : l.length ≤ 120)
    (hQ0 : (200 ≤ rs.length ∨ 60 < l.length) → ∀ M', MmV M' m f rs row t s true → Tfr M M' m → Q (some (.int 0)) M')
    (hQ1 : ¬ (200 ≤ rs.length ∨ 60 < l.length) → ∀ M', MmV M' m f (rs ++ [(l, r, true)]) row t s false → Tfr M M' m → Q (some (.int 1)) M') : wp F_Md_isMade 33 [.ref m, .int (nI n1), .int (nI n2), .int (bI c), jk, jk, jk] [.int (nI l.length)] M Q := by
  have h200 := hw.2.2
  have c60 : (60 : Int32) = nI 60 := rfl
  have c200 : (200 : Int32) = nI 200 := rfl
  obtain ⟨S, R, Ro, U⟩ := h
  have stuck : (200 ≤ rs.length ∨ 60 < l.length) → wp F_Md_isMade 52 [.ref m, .int (nI n1), .int (nI n2), .int (bI c), .int (nI l.length), jk, jk] [] M Q := by
    intro hst
    simp only [B_Md_isMade_52, S.1, true_and, true_or, or_true]
    have F4 : FrS (fun b => b = m) M (sI M m 28 1) := FrS.sI rfl
    have gm : ∀ j, j ≠ 28 → gI (sI M m 28 1) m j = gI M m j := fun j hj => by rw [gI_sI, if_neg (fun z => hj z.2)]
    exact hQ0 hst _ ⟨S.fr F4, R.eq (gm _ (by omega)) (fun b h1 h2 j => F4.gI (by omega) j), Ro.eq (gm _ (by omega)) (gm _ (by omega)) (fun j => F4.gI (by omega) j) (fun j => F4.gI (by omega) j), ⟨(gm _ (by omega)).trans U.1, (gm _ (by omega)).trans U.2.1, by simp [SS, bI]⟩⟩ (tfr_of F4 (fun b q => Or.inl q) (fun j hj => gm j (fun e => hj (by unfold tF; omega))))
  simp only [B_Md_isMade_33, SS, S.1, R.1, c200, true_and, c60, nI_eq (show rs.length < 2 ^ 31 by omega) (show 200 < 2 ^ 31 by omega)]
  by_cases z1 : rs.length = 200
  · rw [if_pos z1]; exact stuck (Or.inl (by omega))
  rw [if_neg z1]
  simp only [B_Md_isMade_33, c60, nI_leI (show l.length < 2 ^ 31 by omega) (show 60 < 2 ^ 31 by omega)]
  by_cases z2 : l.length ≤ 60
  case neg => rw [if_neg z2]; exact stuck (Or.inr (by omega))
  rw [if_pos z2]
  have hno : ¬ (200 ≤ rs.length ∨ 60 < l.length) := by omega
  have hQ1 := hQ1 hno
  have cln := cl_nI (show rs.length < 2147483648 by omega)
  have n1' : ¬ m + 11 = m := by omega
  have bs : ∀ v K, bsW (sI M m 21 (nI (rs.length + 1))) (m + 11) (nI rs.length) v K = K (sI (sI M m 21 (nI (rs.length + 1))) (m + 11) rs.length (vp_nar .boolean v)) := fun v K => bsW_z S.isLive.2 (by omega) (by omega)
  have z0 : vp_nar .boolean 1 = 1 := by decide
  have x8 : ∀ v, ixW (sI (sI M m 21 (nI (rs.length + 1))) (m + 11) rs.length v) (m + 8) (nI rs.length) := fun v => ixW_of S.leftSize.2 (by omega) (by omega)
  have x10 : ∀ v w, ixW (sI (sI (sI M m 21 (nI (rs.length + 1))) (m + 11) rs.length v) (m + 8) rs.length w) (m + 10) (nI rs.length) := fun v w => ixW_of S.rightSize.2 (by omega) (by omega)
  have F0 : FrS (fun b => b = m ∨ b = m + 8 ∨ b = m + 10 ∨ b = m + 11) M (sI (sI (sI (sI M m 21 (nI (rs.length + 1))) (m + 11) rs.length 1) (m + 8) rs.length (nI l.length)) (m + 10) rs.length (nI r.length)) := (((FrS.sI (Or.inl rfl)).trans (FrS.sI (Or.inr (Or.inr (Or.inr rfl))))).trans (FrS.sI (Or.inr (Or.inl rfl)))).trans (FrS.sI (Or.inr (Or.inr (Or.inl rfl))))
  have gm0 : ∀ j, j ≠ 21 → gI (sI (sI (sI (sI M m 21 (nI (rs.length + 1))) (m + 11) rs.length 1) (m + 8) rs.length (nI l.length)) (m + 10) rs.length (nI r.length)) m j = gI M m j := fun j hj => by
    rw [gI_sI, if_neg (by omega), gI_sI, if_neg (by omega), gI_sI, if_neg (by omega), gI_sI, if_neg (by omega)]
  have e21 : gI (sI (sI (sI (sI M m 21 (nI (rs.length + 1))) (m + 11) rs.length 1) (m + 8) rs.length (nI l.length)) (m + 10) rs.length (nI r.length)) m 21 = nI (rs.length + 1) := by
    rw [gI_sI, if_neg (by omega), gI_sI, if_neg (by omega), gI_sI, if_neg (by omega), gI_sI, if_pos ⟨rfl, rfl⟩]
  have e11 : gI (sI (sI (sI (sI M m 21 (nI (rs.length + 1))) (m + 11) rs.length 1) (m + 8) rs.length (nI l.length)) (m + 10) rs.length (nI r.length)) (m + 11) rs.length = bI true := by
    rw [gI_sI, if_neg (by omega), gI_sI, if_neg (by omega), gI_sI, if_pos ⟨rfl, rfl⟩]; rfl
  have e8 : gI (sI (sI (sI (sI M m 21 (nI (rs.length + 1))) (m + 11) rs.length 1) (m + 8) rs.length (nI l.length)) (m + 10) rs.length (nI r.length)) (m + 8) rs.length = nI l.length := by
    rw [gI_sI, if_neg (by omega), gI_sI, if_pos ⟨rfl, rfl⟩]
  have e10 : gI (sI (sI (sI (sI M m 21 (nI (rs.length + 1))) (m + 11) rs.length 1) (m + 8) rs.length (nI l.length)) (m + 10) rs.length (nI r.length)) (m + 10) rs.length = nI r.length := by
    rw [gI_sI, if_pos ⟨rfl, rfl⟩]
  have o8 : ∀ b j, b = m + 8 ∨ b = m + 10 ∨ b = m + 11 → j ≠ rs.length → gI (sI (sI (sI (sI M m 21 (nI (rs.length + 1))) (m + 11) rs.length 1) (m + 8) rs.length (nI l.length)) (m + 10) rs.length (nI r.length)) b j = gI M b j := fun b j hb hj => by
    rw [gI_sI, if_neg (by omega), gI_sI, if_neg (by omega), gI_sI, if_neg (by omega), gI_sI, if_neg (by omega)]
  have key : ∀ M0, FrS (fun b => b = m ∨ b = m + 8 ∨ b = m + 10 ∨ b = m + 11) M M0 → (∀ j, j ≠ 21 → gI M0 m j = gI M m j) → gI M0 m 21 = nI (rs.length + 1) → gI M0 (m + 11) rs.length = bI true → gI M0 (m + 8) rs.length = nI l.length → gI M0 (m + 10) rs.length = nI r.length → (∀ b j, b = m + 8 ∨ b = m + 10 ∨ b = m + 11 → j ≠ rs.length → gI M0 b j = gI M b j) → wp F_Md_isMade 111 [.ref m, .int (nI n1), .int (nI n2), .int (bI c), .int (nI l.length), .int (nI rs.length), .int (nI 0)] [] M0 Q := by
    intro M0 F0 gm0 e21 e11 e8 e10 o8
    have S0 := S.fr F0
    have A0 : AR M0 p 0 l := A.fr F0 (by omega)
    have B0 : AR M0 q 0 r := B.fr F0 (by omega)
    have la : ∀ n i M1, i + n = l.length → FrS (fun b => b = m + 7) M0 M1 → AR M1 (m + 7) (60 * rs.length) (l.take i) → (∀ z, z < 60 * rs.length → gI M1 (m + 7) z = gI M0 (m + 7) z) → (∀ M2 (l6 : Value), FrS (fun b => b = m + 7) M0 M2 → AR M2 (m + 7) (60 * rs.length) l → (∀ z, z < 60 * rs.length → gI M2 (m + 7) z = gI M0 (m + 7) z) → wp F_Md_isMade 158 [.ref m, .int (nI n1), .int (nI n2), .int (bI c), .int (nI l.length), .int (nI rs.length), l6] [] M2 Q) → wp F_Md_isMade 111 [.ref m, .int (nI n1), .int (nI n2), .int (bI c), .int (nI l.length), .int (nI rs.length), .int (nI i)] [] M1 Q := by
      intro n
      induction n with
      | zero =>
        intro i M1 hi F A' O K
        have e1 : nI l.length ≤ nI i := nI_le (by omega) (by omega)
        simp only [B_Md_isMade_111, e1, if_true]
        rw [List.take_of_length_le (by omega)] at A'
        exact K M1 _ F A' O
      | succ n ih =>
        intro i M1 hi F A' O K
        have S1 := S0.fr F
        have e1 : ¬ nI l.length ≤ nI i := nI_ge (by omega) (by omega)
        have x1 : ixI M1 (m + 14) (nI i) := ixI_of S1.one.2 (by omega) (by omega)
        have x2 : ixI M1 (m + 15) (nI i) := ixI_of S1.other.2 (by omega) (by omega)
        have x3 : ixW M1 (m + 7) (nI (60 * rs.length + i)) := ixW_of S1.left.2 (by omega) (by omega)
        have a1 : gI M1 p i = nI (l.getD i 0) := by
          have := A0 i (by omega)
          rw [Nat.zero_add] at this
          exact (F.gI (by omega) _).trans this
        have fin : wp F_Md_isMade 111 [.ref m, .int (nI n1), .int (nI n2), .int (bI c), .int (nI l.length), .int (nI rs.length), .int (nI (i + 1))] [] (sI M1 (m + 7) (60 * rs.length + i) (nI (l.getD i 0))) Q := by
          refine ih (i + 1) _ (by omega) (F.trans (FrS.sI rfl)) ?_ (fun z hz => ?_) K
          · rw [take_succ_getD 0 (by omega)]
            have hln : (l.take i).length = i := by rw [List.length_take]; omega
            refine AR.app (fun q hq => ?_) ?_
            · rw [gI_sI, if_neg (fun z => by omega)]; exact A' q hq
            · rw [gI_sI, if_pos ⟨rfl, by omega⟩]
          · rw [gI_sI, if_neg (fun y => by omega)]; exact O z hz
        rcases hc with ⟨rfl, rfl, rfl, rfl, rfl⟩ | ⟨rfl, rfl, rfl, rfl, rfl⟩
        · simp only [B_Md_isMade_111, B_Md_isMade_151, SS, S1.1, S1.left.1, S1.one.1, x1, x3, e1, bI, if_true, i10, if_false, true_and, c60, pk_mul, nI_add, cl_nI (show 60 * rs.length + i < 2147483648 by omega), cl_nI (show i < 2147483648 by omega), a1, nI_i1]
          rw [G_Md_isMade_155]
          exact fin
        · simp only [B_Md_isMade_111, B_Md_isMade_144, B_Md_isMade_151, SS, S1.1, S1.left.1, S1.other.1, x2, x3, e1, bI, Bool.false_eq_true, if_true, if_false, true_and, c60, pk_mul, nI_add, cl_nI (show 60 * rs.length + i < 2147483648 by omega), cl_nI (show i < 2147483648 by omega), a1, nI_i1]
          rw [G_Md_isMade_155]
          exact fin
    refine la l.length 0 M0 (by omega) FrS.rfl AR.nil (fun _ _ => rfl) ?_
    intro M2 l6 F2 A2 O2
    have lb : ∀ n i M1, i + n = r.length → FrS (fun b => b = m + 9) M2 M1 → AR M1 (m + 9) (60 * rs.length) (r.take i) → (∀ z, z < 60 * rs.length → gI M1 (m + 9) z = gI M2 (m + 9) z) → (∀ M3 (l6 : Value), FrS (fun b => b = m + 9) M2 M3 → AR M3 (m + 9) (60 * rs.length) r → (∀ z, z < 60 * rs.length → gI M3 (m + 9) z = gI M2 (m + 9) z) → wp F_Md_isMade 213 [.ref m, .int (nI n1), .int (nI n2), .int (bI c), .int (nI l.length), .int (nI rs.length), l6] [] M3 Q) → wp F_Md_isMade 161 [.ref m, .int (nI n1), .int (nI n2), .int (bI c), .int (nI l.length), .int (nI rs.length), .int (nI i)] [] M1 Q := by
      intro n
      induction n with
      | zero =>
        intro i M1 hi F A' O K
        have S1 := (S0.fr F2).fr F
        have e1 : nI r.length ≤ nI i := nI_le (by omega) (by omega)
        have x4 : ixI M1 (m + 10) (nI rs.length) := ixI_of S1.rightSize.2 (by omega) (by omega)
        have g10 : gI M1 (m + 10) rs.length = nI r.length := (F.gI (by omega) _).trans ((F2.gI (by omega) _).trans e10)
        simp only [B_Md_isMade_161, S1.1, S1.rightSize.1, SS, x4, cln, g10, e1, if_true, true_and]
        rw [List.take_of_length_le (by omega)] at A'
        exact K M1 _ F A' O
      | succ n ih =>
        intro i M1 hi F A' O K
        have S1 := (S0.fr F2).fr F
        have e1 : ¬ nI r.length ≤ nI i := nI_ge (by omega) (by omega)
        have x4 : ixI M1 (m + 10) (nI rs.length) := ixI_of S1.rightSize.2 (by omega) (by omega)
        have g10 : gI M1 (m + 10) rs.length = nI r.length := (F.gI (by omega) _).trans ((F2.gI (by omega) _).trans e10)
        have x1 : ixI M1 (m + 14) (nI i) := ixI_of S1.one.2 (by omega) (by omega)
        have x2 : ixI M1 (m + 15) (nI i) := ixI_of S1.other.2 (by omega) (by omega)
        have x3 : ixW M1 (m + 9) (nI (60 * rs.length + i)) := ixW_of S1.right.2 (by omega) (by omega)
        have a1 : gI M1 q i = nI (r.getD i 0) := by
          have := B0 i (by omega)
          rw [Nat.zero_add] at this
          exact (F.gI (by omega) _).trans ((F2.gI (by omega) _).trans this)
        have fin : wp F_Md_isMade 161 [.ref m, .int (nI n1), .int (nI n2), .int (bI c), .int (nI l.length), .int (nI rs.length), .int (nI (i + 1))] [] (sI M1 (m + 9) (60 * rs.length + i) (nI (r.getD i 0))) Q := by
          refine ih (i + 1) _ (by omega) (F.trans (FrS.sI rfl)) ?_ (fun z hz => ?_) K
          · rw [take_succ_getD 0 (by omega)]
            have hln : (r.take i).length = i := by rw [List.length_take]; omega
            refine AR.app (fun q hq => ?_) ?_
            · rw [gI_sI, if_neg (fun z => by omega)]; exact A' q hq
            · rw [gI_sI, if_pos ⟨rfl, by omega⟩]
          · rw [gI_sI, if_neg (fun y => by omega)]; exact O z hz
        rcases hc with ⟨rfl, rfl, rfl, rfl, rfl⟩ | ⟨rfl, rfl, rfl, rfl, rfl⟩
        · simp only [B_Md_isMade_161, B_Md_isMade_206, SS, S1.1, S1.right.1, S1.rightSize.1, S1.other.1, x2, x3, x4, cln, g10, e1, bI, if_true, i10, if_false, true_and, c60, pk_mul, nI_add, cl_nI (show 60 * rs.length + i < 2147483648 by omega), cl_nI (show i < 2147483648 by omega), a1, nI_i1]
          rw [G_Md_isMade_210]
          exact fin
        · simp only [B_Md_isMade_161, B_Md_isMade_199, B_Md_isMade_206, SS, S1.1, S1.right.1, S1.rightSize.1, S1.one.1, x1, x3, x4, cln, g10, e1, bI, Bool.false_eq_true, if_true, if_false, true_and, c60, pk_mul, nI_add, cl_nI (show 60 * rs.length + i < 2147483648 by omega), cl_nI (show i < 2147483648 by omega), a1, nI_i1]
          rw [G_Md_isMade_210]
          exact fin
    simp only [B_Md_isMade_158, SS]
    refine lb r.length 0 M2 (by omega) FrS.rfl AR.nil (fun _ _ => rfl) ?_
    intro M3 l6' F3 A3 O3
    simp only [B_Md_isMade_213, or_true, true_and]
    have F03 : FrS (fun b => b = m + 7 ∨ b = m + 9) M0 M3 := (F2.weaken (fun b q => Or.inl q)).trans (F3.weaken (fun b q => Or.inr q))
    have FA : FrS (fun b => b = m ∨ (m + 7 ≤ b ∧ b ≤ m + 11)) M M3 := (F0.weaken (fun b q => by omega)).trans (F03.weaken (fun b q => by omega))
    have gm : ∀ j, j ≠ 21 → gI M3 m j = gI M m j := fun j hj => (F03.gI (by omega) j).trans (gm0 j hj)
    have R3 : RuM M3 m (rs ++ [(l, r, true)]) := by
      refine R.push (by omega) (fun j => ⟨(hw.ruk j).1, (hw.ruk j).2.1⟩) ((F03.gI (by omega) _).trans e21) ((F03.gI (by omega) _).trans e8) (A2.fr F3 (by omega)) ((F03.gI (by omega) _).trans e10) A3 ((F03.gI (by omega) _).trans e11) (fun z hz => ?_) (fun z hz => ?_) (fun b j hb hj => (F03.gI (by omega) _).trans (o8 b j hb hj))
      · exact (F3.gI (by omega) _).trans ((O2 z hz).trans (F0.gI (by omega) _))
      · exact (O3 z hz).trans ((F2.gI (by omega) _).trans (F0.gI (by omega) _))
    exact hQ1 M3 ⟨S.fr FA, R3, Ro.eq (gm _ (by omega)) (gm _ (by omega)) (fun j => FA.gI (by omega) j) (fun j => FA.gI (by omega) j), U.eq (gm _ (by omega)) (gm _ (by omega)) (gm _ (by omega))⟩ (tfr_of FA (fun b q => by unfold tC; omega) (fun j hj => gm j (fun e => hj (by unfold tF; omega))))
  have key := key _ F0 gm0 e21 e11 e8 e10 o8
  rcases hc with ⟨rfl, rfl, rfl, rfl, rfl⟩ | ⟨rfl, rfl, rfl, rfl, rfl⟩
  · simp only [B_Md_isMade_59, B_Md_isMade_107, SS, S.1, S.isLive.1, S.leftSize.1, S.rightSize.1, R.1, bs, z0, x8, x10, cln, bI, if_true, i10, if_false, true_and, nI_i1]
    exact key
  · simp only [B_Md_isMade_59, B_Md_isMade_106, B_Md_isMade_107, SS, S.1, S.isLive.1, S.leftSize.1, S.rightSize.1, R.1, bs, z0, x8, x10, cln, bI, Bool.false_eq_true, if_true, i10, if_false, true_and, nI_i1]
    exact key
theorem cmpW_le {a b : List Nat} (h : 0 < cmpW a b) : b.length ≤ a.length := by
  unfold cmpW at h
  split at h
  · omega
  · split at h
    · omega
    · exact absurd h (by decide)
theorem k_mMade {f t s k : Nat} {rs : List Ru} {row : List Pr} {a b : List Nat} (h : MmV M m f rs row t s false) (hw : RWf rs k) (A : AR M (m + 14) 0 a) (B : AR M (m + 15) 0 b) (la : a.length ≤ 120) (lb : b.length ≤ 120) (ka : ∀ c ∈ a, c < k) (kb : ∀ c ∈ b, c < k) (hne : cmpW a b ≠ 0)
    (hQ0 : (200 ≤ rs.length ∨ 60 < (if 0 < cmpW a b then a else b).length) → ∀ M', MmV M' m f rs row t s true → Tfr M M' m → Q (some (.int 0)) M')
    (hQ1 : ¬ (200 ≤ rs.length ∨ 60 < (if 0 < cmpW a b then a else b).length) → ∀ M', MmV M' m f (rs ++ [((if 0 < cmpW a b then a else b), (if 0 < cmpW a b then b else a), true)]) row t s false → Tfr M M' m → Q (some (.int 1)) M') : wp F_Md_isMade 0 [.ref m, .int (nI a.length), .int (nI b.length), jk, jk, jk, jk] [] M Q := by
  have hk8 := hw.2.1
  have z0 : (0 : Int32) = nI 0 := rfl
  have S := h.1
  simp only [B_Md_isMade_0, SS, S.1, S.one.1, S.other.1, true_and, z0]
  rw [k_mGreater S.one.2 S.other.2 A B (by omega) (by omega) (fun c hc => by have := ka c hc; omega) (fun c hc => by have := kb c hc; omega) (by omega) (by omega)]
  simp only [SS, List.cons_append, List.nil_append, B_Md_isMade_0]
  rcases cmpW_cases a b with e | e | e
  · exact absurd e hne
  · have hp : 0 < cmpW a b := by rw [e]; decide
    rw [if_pos hp] at hQ0 hQ1
    rw [if_pos hp] at hQ1
    simp only [e, show ¬ (1 : Int32) ≤ 0 by decide, if_false, B_Md_isMade_0, B_Md_isMade_23, SS, i10]
    exact k_made (c := true) h hw (Or.inl ⟨rfl, rfl, rfl, rfl, rfl⟩) A B (cmpW_le hp) la hQ0 hQ1
  · have hp : ¬ 0 < cmpW a b := by rw [e]; decide
    rw [if_neg hp] at hQ0 hQ1
    rw [if_neg hp] at hQ1
    simp only [e, show (-1 : Int32) ≤ 0 by decide, if_true, B_Md_isMade_22, B_Md_isMade_23, SS, B_Md_isMade_32]
    exact k_made (c := false) h hw (Or.inr ⟨rfl, rfl, rfl, rfl, rfl⟩) B A (cmpW_le (cmpW_flip e)) lb hQ0 hQ1
end MC
