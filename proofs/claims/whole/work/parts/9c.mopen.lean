/-! the reference looks for an OPEN overlap -/
section MC
variable {M : Mm} {m : Nat} {σ : Sg} {Q : Option Value → Mm → Prop}
theorem MdV.found {M1 : Mm} {q : Nat × Nat × Nat} (h : MdV M m σ) (hf : FrS (fun b => b = m) M M1) (hg : ∀ j, j ≠ 39 → j ≠ 40 → j ≠ 41 → gI M1 m j = gI M m j) (ht : OvM M1 m (some q)) : MdV M1 m (σ.1, σ.2.1, (sT σ, sS σ, sSt σ, some q), σ.2.2.2) := by
  obtain ⟨a1, a2, ⟨a3, a4, a5⟩, a6, ⟨f, a7⟩, a8, a9, a10, a11, a12⟩ := h
  have c : ∀ b, b ≠ m → ∀ j, gI M1 b j = gI M b j := fun b h1 j => hf.gI h1 j
  have g : ∀ j, j ≤ 38 ∨ 42 ≤ j → gI M1 m j = gI M m j := fun j hj => hg j (by omega) (by omega) (by omega)
  refine ⟨a1.fr hf, a2.eq (g _ (by omega)) (c _ (by omega)), ⟨(g _ (by omega)).trans a3, (g _ (by omega)).trans a4, fun j hj => (c _ (by omega) _).trans (a5 j hj)⟩, a6.eq (g _ (by omega)) (fun b h1 h2 => c b (by omega)), ⟨f, a7.eq (g _ (by omega)) (g _ (by omega)) (c _ (by omega)) (c _ (by omega))⟩, a8.eq (g _ (by omega)) (g _ (by omega)) (g _ (by omega)), ht, a10.eq (c _ (by omega)) (c _ (by omega)), a11.eq (g _ (by omega)) (c _ (by omega)) (c _ (by omega)), ?_⟩
  obtain ⟨cd, b1, b2⟩ := a12
  refine ⟨cd, (g _ (by omega)).trans b1, fun hcd => ?_⟩
  obtain ⟨b3, b4, b5⟩ := b2 hcd
  exact ⟨b3, b4, b5.eq (g _ (by omega)) (fun j => hf.gJ _ j) (c _ (by omega)) (fun j => hf.gJ _ j)⟩
theorem k_mTry {rs : List Ru} {k i j : Nat} (hS : MdS M m) (hR : RuM M m rs) (hw : RWf rs k) (hi : i < rs.length) (hj : j < rs.length)
    (K0 : tryT rs (rs.getD i dR) (rs.getD j dR) (min (rs.getD i dR).1.length (rs.getD j dR).1.length - 1) 1 = none → ∀ M' (l4 l5 l6 l7 : Value), Scr M M' m → wp F_Md_open 193 [.ref m, .int (nI i), .int (nI j), .int (nI (min (rs.getD i dR).1.length (rs.getD j dR).1.length)), l4, l5, l6, l7] [] M' Q)
    (K1 : tryT rs (rs.getD i dR) (rs.getD j dR) (min (rs.getD i dR).1.length (rs.getD j dR).1.length - 1) 1 = some none → ∀ M', Scr M M' m → Q (some (.int (-4))) M')
    (K2 : ∀ n, tryT rs (rs.getD i dR) (rs.getD j dR) (min (rs.getD i dR).1.length (rs.getD j dR).1.length - 1) 1 = some (some n) → ∀ M', Scr M M' m → Q (some (.int 1)) (sI (sI (sI M' m 39 (nI i)) m 40 (nI j)) m 41 (nI n))) {l5 l6 l7 : Value} : wp F_Md_open 81 [.ref m, .int (nI i), .int (nI j), .int (nI (min (rs.getD i dR).1.length (rs.getD j dR).1.length)), .int (nI 1), l5, l6, l7] [] M Q := by
  have h200 := hw.2.2
  have hk8 := hw.2.1
  obtain ⟨a1, a2, a3, a4⟩ := hw.ruk i
  obtain ⟨b1, b2, b3, b4⟩ := hw.ruk j
  generalize hR0 : tryT rs (rs.getD i dR) (rs.getD j dR) (min (rs.getD i dR).1.length (rs.getD j dR).1.length - 1) 1 = R at K0 K1 K2
  have loop : ∀ d n M' (l5 l6 l7 : Value), n + d = max (min (rs.getD i dR).1.length (rs.getD j dR).1.length) n → 1 ≤ n → n ≤ 100 → Scr M M' m → RuM M' m rs → R = tryT rs (rs.getD i dR) (rs.getD j dR) d n → wp F_Md_open 81 [.ref m, .int (nI i), .int (nI j), .int (nI (min (rs.getD i dR).1.length (rs.getD j dR).1.length)), .int (nI n), l5, l6, l7] [] M' Q := by
    intro d
    induction d with
    | zero =>
      intro n M' l5 l6 l7 hn hn1 hn2 F' R' he
      have e1 : nI (min (rs.getD i dR).1.length (rs.getD j dR).1.length) ≤ nI n := nI_le (by omega) (by omega)
      simp only [B_Md_open_81, e1, if_true]
      exact K0 he M' _ _ _ _ F'
    | succ d ih =>
      intro n M' l5 l6 l7 hn hn1 hn2 F' R' he
      have e1 : ¬ nI (min (rs.getD i dR).1.length (rs.getD j dR).1.length) ≤ nI n := nI_ge (by omega) (by omega)
      have S' := hS.z F'.1
      simp only [B_Md_open_81, e1, if_false, S'.1, true_and]
      refine k_mOverlaps S' R' hw hi hj (by omega) (by omega) ?_ ?_
      · intro hm
        simp only [SS, List.cons_append, List.nil_append, B_Md_open_81, B_Md_open_187, if_true, nI_i1]
        rw [G_Md_open_190]
        refine ih (n + 1) M' _ _ _ (by omega) (by omega) (by omega) F' R' ?_
        rw [he, tryT, hm, if_neg (by decide)]
      · intro hm M2 N2 A2 B2 g37 g38
        have S2 := S'.fr N2.1
        have R2 := R'.ov N2
        have F2 := F'.trans N2.scr
        obtain ⟨p1, p2, p3, p4⟩ := spl_k (n := n) (hw.ruk i) (hw.ruk j)
        simp only [SS, List.cons_append, List.nil_append, B_Md_open_81, i10, if_false, S2.1, S2.one.1, g37, g38, true_and]
        refine k_mShrink S2 R2 hw (Or.inl rfl) A2 p1 p3 ?_ ?_
        · intro hf M3 N3
          have c1 : ¬ ((-1 : Int32) ≠ -1) := by decide
          simp only [SS, List.cons_append, List.nil_append, B_Md_open_81, B_Md_open_138, if_true, or_true, true_and]
          exact K1 (by rw [he, tryT, hm, if_pos rfl, hf]) M3 (F2.trans (N3.scr (Or.inl rfl)))
        · intro a t1 hfa hal hak M3 N3 A3 g31 tr3
          have S3 := S2.fr N3.1
          have R3 := R2.sh N3 (Or.inl rfl)
          have F3 := F2.trans (N3.scr (Or.inl rfl))
          have B3 : AR M3 (m + 15) 0 (spl (rs.getD i dR) (rs.getD j dR) n).2 := B2.fr N3.1 (by unfold skS; omega)
          simp only [SS, List.cons_append, List.nil_append, B_Md_open_81, nI_ne1 (show a.length < 2147483648 by omega), if_false, B_Md_open_128, S3.1, S3.other.1, true_and]
          refine k_mShrink S3 R3 hw (Or.inr rfl) B3 p2 p4 ?_ ?_
          · intro hf M4 N4
            simp only [SS, List.cons_append, List.nil_append, B_Md_open_128, B_Md_open_138, if_true, or_true, true_and]
            exact K1 (by rw [he, tryT, hm, if_pos rfl, hfa]; simp only [hf]) M4 (F3.trans (N4.scr (Or.inr rfl)))
          · intro b t2 hfb hbl hbk M4 N4 B4 g31' tr4
            have S4 := S3.fr N4.1
            have R4 := R3.sh N4 (Or.inr rfl)
            have F4 := F3.trans (N4.scr (Or.inr rfl))
            have A4 : AR M4 (m + 14) 0 a := A3.fr N4.1 (by unfold skS; omega)
            have z0 : (0 : Int32) = nI 0 := rfl
            simp only [SS, List.cons_append, List.nil_append, B_Md_open_128, B_Md_open_138, nI_ne1 (show b.length < 2147483648 by omega), if_false, B_Md_open_149, S4.1, S4.one.1, S4.other.1, true_and]
            rw [z0, k_mGreater S4.one.2 S4.other.2 A4 B4 (by omega) (by omega) (fun c hc => by have := hak c hc; omega) (fun c hc => by have := hbk c hc; omega) (by omega) (by omega)]
            simp only [SS, List.cons_append, List.nil_append, B_Md_open_149]
            by_cases q0 : cmpW a b = 0
            · rw [if_pos q0]
              simp only [B_Md_open_187, SS, nI_i1]
              rw [G_Md_open_190]
              refine ih (n + 1) M4 _ _ _ (by omega) (by omega) (by omega) F4 R4 ?_
              rw [he, tryT, hm, if_pos rfl, hfa]
              simp only [hfb]
              rw [if_pos q0]
            · rw [if_neg q0]
              simp only [B_Md_open_149, SS, S4.1, true_and, or_true]
              refine K2 n ?_ M4 F4
              rw [he, tryT, hm, if_pos rfl, hfa]
              simp only [hfb]
              rw [if_neg q0]
  exact loop _ 1 M _ _ _ (by omega) (by omega) (by omega) Scr.rfl hR hR0.symm
theorem m_open (h : MdV M m σ) (hI : SgI σ) (hQ : ∀ M', MdV M' m (opG σ).2 → Yfr M M' m → Q (some (.int (opG σ).1)) M') : wp F_Md_open 0 [.ref m, jk, jk, jk, jk, jk, jk, jk] [] M Q := by
  have s : Scr M (sI M m 0 0) m := scr_0 (Or.inl rfl)
  have h' := h.scr s
  have sy := s.y
  simp only [B_Md_open_0, SS, h.1.1, true_and]
  generalize sI M m 0 0 = M0 at h' sy
  have hw := hI.2.2.1
  have h200 := hw.2.2
  unfold opG at hQ
  have fin0 : ∀ M', opn (sRs σ) = none → Scr M0 M' m → Q (some (.int 0)) M' := by
    intro M' e F'
    rw [e] at hQ
    exact hQ M' (h'.scr F') (sy.trans F'.y)
  have fin1 : ∀ M', opn (sRs σ) = some none → Scr M0 M' m → Q (some (.int (-4))) M' := by
    intro M' e F'
    rw [e] at hQ
    exact hQ M' (h'.scr F') (sy.trans F'.y)
  have fin2 : ∀ M' i j n, opn (sRs σ) = some (some (i, j, n)) → Scr M0 M' m → Q (some (.int 1)) (sI (sI (sI M' m 39 (nI i)) m 40 (nI j)) m 41 (nI n)) := by
    intro M' i j n e F'
    rw [e] at hQ
    have F3 : FrS (fun b => b = m) M' (sI (sI (sI M' m 39 (nI i)) m 40 (nI j)) m 41 (nI n)) := ((FrS.sI (S := fun b => b = m) rfl).trans (FrS.sI rfl)).trans (FrS.sI rfl)
    refine hQ _ ((h'.scr F').found F3 (fun j h1 h2 h3 => ?_) ⟨?_, ?_, ?_⟩) ((sy.trans F'.y).trans (F3.z.weaken (T := fun b => m ≤ b ∧ b < m + 30) (fun b q => by omega)))
    · rw [gI_sI, if_neg (by omega), gI_sI, if_neg (by omega), gI_sI, if_neg (by omega)]
    · rw [gI_sI, if_neg (by omega), gI_sI, if_neg (by omega), gI_sI, if_pos ⟨rfl, rfl⟩]
    · rw [gI_sI, if_neg (by omega), gI_sI, if_pos ⟨rfl, rfl⟩]
    · rw [gI_sI, if_pos ⟨rfl, rfl⟩]
  have loopI : ∀ d i M' (l2 l3 l4 l5 l6 l7 : Value), i + d = (sRs σ).length → Scr M0 M' m → opn (sRs σ) = tryI (sRs σ) d i → wp F_Md_open 7 [.ref m, .int (nI i), l2, l3, l4, l5, l6, l7] [] M' Q := by
    intro d
    induction d with
    | zero =>
      intro i M' l2 l3 l4 l5 l6 l7 hi F' he
      have V' := h'.scr F'
      have e1 : nI (sRs σ).length ≤ nI i := nI_le (by omega) (by omega)
      simp only [B_Md_open_7, V'.1.1, V'.2.2.2.1.1, e1, if_true, true_and, B_Md_open_205]
      exact fin0 M' he F'
    | succ d ih =>
      intro i M' l2 l3 l4 l5 l6 l7 hi F' he
      have V' := h'.scr F'
      have e1 : ¬ nI (sRs σ).length ≤ nI i := nI_ge (by omega) (by omega)
      simp only [B_Md_open_7, SS, V'.1.1, V'.2.2.2.1.1, e1, if_false, true_and]
      have loopJ : ∀ d j M' (l3 l4 l5 l6 l7 : Value), j + d = (sRs σ).length → Scr M0 M' m → tryJ (sRs σ) i (sRs σ).length 0 = tryJ (sRs σ) i d j → wp F_Md_open 17 [.ref m, .int (nI i), .int (nI j), l3, l4, l5, l6, l7] [] M' Q := by
        intro d'
        induction d' with
        | zero =>
          intro j M' l3 l4 l5 l6 l7 hj F' hej
          have V' := h'.scr F'
          have e1 : nI (sRs σ).length ≤ nI j := nI_le (by omega) (by omega)
          simp only [B_Md_open_17, SS, V'.1.1, V'.2.2.2.1.1, e1, if_true, true_and, B_Md_open_199, nI_i1]
          rw [G_Md_open_202]
          refine ih (i + 1) M' _ _ _ _ _ _ (by omega) F' ?_
          rw [he, tryI, hej]
          rfl
        | succ d' ihj =>
          intro j M' l3 l4 l5 l6 l7 hj F' hej
          have V' := h'.scr F'
          have S' := V'.1
          have R' := V'.2.2.2.1
          have e1 : ¬ nI (sRs σ).length ≤ nI j := nI_ge (by omega) (by omega)
          have xi : ixB M' (m + 11) (nI i) := ixZ_of S'.isLive.2 (by omega) (by omega)
          have xj : ixB M' (m + 11) (nI j) := ixZ_of S'.isLive.2 (by omega) (by omega)
          have yi : ixI M' (m + 8) (nI i) := ixI_of S'.leftSize.2 (by omega) (by omega)
          have yj : ixI M' (m + 8) (nI j) := ixI_of S'.leftSize.2 (by omega) (by omega)
          have cli := cl_nI (show i < 2147483648 by omega)
          have clj := cl_nI (show j < 2147483648 by omega)
          obtain ⟨gi1, -, -, -, gi5⟩ := R'.2.2 i (by omega)
          obtain ⟨gj1, -, -, -, gj5⟩ := R'.2.2 j (by omega)
          obtain ⟨a1, a2, a3, a4⟩ := hw.ruk i
          obtain ⟨b1, b2, b3, b4⟩ := hw.ruk j
          have i1 : (1 : Int32) = nI 1 := rfl
          have next : try2 (sRs σ) i j = none → ∀ M' (l3 l4 l5 l6 l7 : Value), Scr M0 M' m → wp F_Md_open 193 [.ref m, .int (nI i), .int (nI j), l3, l4, l5, l6, l7] [] M' Q := by
            intro e2 M' l3 l4 l5 l6 l7 F'
            simp only [B_Md_open_193, SS, nI_i1]
            rw [G_Md_open_196]
            refine ihj (j + 1) M' _ _ _ _ _ (by omega) F' ?_
            rw [hej, tryJ, e2]
          have dead : ¬ ((((sRs σ).getD i dR).2.2 = true) ∧ ((sRs σ).getD j dR).2.2 = true) → wp F_Md_open 43 [.ref m, .int (nI i), .int (nI j), l3, l4, l5, l6, l7] [] M' Q := by
            intro hd
            have e0 : (0 : Int32) ≤ 1 := by decide
            simp only [B_Md_open_43, B_Md_open_77, SS, B_Md_open_81, e0, if_true]
            refine next ?_ M' _ _ _ _ _ F'
            unfold try2
            rw [if_neg hd]
          simp only [B_Md_open_17, SS, S'.1, R'.1, S'.isLive.1, e1, if_false, xi, xj, cli, clj, gi5, gj5, true_and, bI_ne]
          cases hli : ((sRs σ).getD i dR).2.2 with
          | false =>
            simp only [if_true]
            exact dead (fun q => by rw [hli] at q; cases q.1)
          | true =>
            simp only [Bool.true_eq_false, if_false]
            cases hlj : ((sRs σ).getD j dR).2.2 with
            | false =>
              simp only [if_true]
              exact dead (fun q => by rw [hlj] at q; cases q.2)
            | true =>
              simp only [Bool.true_eq_false, if_false]
              have et : try2 (sRs σ) i j = tryT (sRs σ) ((sRs σ).getD i dR) ((sRs σ).getD j dR) (min ((sRs σ).getD i dR).1.length ((sRs σ).getD j dR).1.length - 1) 1 := by
                unfold try2
                rw [if_pos ⟨hli, hlj⟩]
              have go := k_mTry (M := M') (Q := Q) (l5 := l5) (l6 := l6) (l7 := l7) S' R' hw (show i < (sRs σ).length by omega) (show j < (sRs σ).length by omega)
                (fun q M2 l4 l5 l6 l7 F2 => next (by rw [et]; exact q) M2 _ _ _ _ _ (F'.trans F2))
                (fun q M2 F2 => fin1 M2 (by rw [he, tryI, hej, tryJ, et, q]) (F'.trans F2))
                (fun n q M2 F2 => fin2 M2 i j n (by rw [he, tryI, hej, tryJ, et, q]) (F'.trans F2))
              simp only [B_Md_open_47, S'.1, S'.leftSize.1, SS, yi, yj, cli, clj, gi1, gj1, true_and, nI_leI (show ((sRs σ).getD j dR).1.length < 2 ^ 31 by omega) (show ((sRs σ).getD i dR).1.length < 2 ^ 31 by omega)]
              by_cases q : ((sRs σ).getD j dR).1.length ≤ ((sRs σ).getD i dR).1.length
              · rw [if_pos q]
                rw [Nat.min_eq_right q] at go
                simp only [B_Md_open_71, B_Md_open_77, SS, S'.1, S'.leftSize.1, yj, clj, gj1, true_and]
                exact go
              · rw [if_neg q]
                rw [Nat.min_eq_left (by omega)] at go
                simp only [B_Md_open_47, B_Md_open_77, SS, S'.1, S'.leftSize.1, yi, cli, gi1, true_and]
                exact go
      exact loopJ (sRs σ).length 0 M' _ _ _ _ _ (by omega) F' rfl
  exact loopI (sRs σ).length 0 M0 _ _ _ _ _ _ (by omega) Scr.rfl rfl
end MC
