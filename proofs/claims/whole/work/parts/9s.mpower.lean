/-! the reference's calls: powers, inverses, whether letters commute -/
section MC
variable {M : Mm} {m : Nat} {σ : Sg} {Q : Option Value → Mm → Prop}
theorem elt0 {rs : List Ru} {k : Nat} (hw : RWf rs k) : elt rs k 0 = some (some []) := by
  have := elS_rk (rs := rs) (k := k) (w := []) (endAt_nil (fun u hu _ => (hw.1 u hu).1)) (by simp)
  unfold elt
  simp only [rkT, rkL, List.length_nil, List.range_zero, List.map_nil, List.append_nil, List.sum_nil] at this
  rw [this]
theorem mul_elt {rs : List Ru} {k n : Nat} {a b f : List Nat} (hw : RWf rs k) (ha : ∀ c ∈ a, c < k) (hb : ∀ c ∈ b, c < k) (h : mulW rs k a b = some (n, f)) : n < 2147483648 ∧ elt rs k n = some (some f) ∧ f.length ≤ 80 ∧ ∀ c ∈ f, c < k := by
  unfold mulW at h
  split at h
  · cases h
  · exact nb_elt hw (by simp; omega) (fun c hc => by rcases List.mem_append.mp hc with z | z; exact ha c z; exact hb c z) h
theorem elt_lk {rs : List Ru} {k n : Nat} {f : List Nat} (h : elt rs k n = some (some f)) : ∀ c ∈ f, c < k := by
  unfold elt at h
  have key : elS rs k 81 0 n = some (some f) := by
    cases hx : elS rs k 81 0 n with
    | none => rw [hx] at h; cases h
    | some o =>
      cases o with
      | none =>
        rw [hx] at h
        simp only at h
        cases ht : tot rs k with
        | none => rw [ht] at h; cases h
        | some v => rw [ht] at h; simp only at h; split at h <;> cases h
      | some w => rw [hx] at h; exact h
  have gen : ∀ fu n a, elS rs k fu n a = some (some f) → ∀ c ∈ f, c < k := by
    intro fu
    induction fu with
    | zero => intro n a h; rw [elS] at h; cases h
    | succ fu ih =>
      intro n a h
      rw [elS] at h
      split at h
      · cases h
      · split at h
        · rename_i z
          have := (spw_ok n [] a z).2
          cases h
          exact this
        · exact ih _ _ h
  exact gen 81 0 n key
theorem nbI_ne {o : Option (Nat × List Nat)} (h : ∀ q, o = some q → q.1 < 2147483648) : (nbI o = -4) = (o = none) := by
  cases o with
  | none => exact propext ⟨fun _ => rfl, fun _ => rfl⟩
  | some q =>
    have := h q rfl
    refine propext ⟨fun z => ?_, fun z => by cases z⟩
    have z : nI q.1 = -4 := z
    have := congrArg Int32.toInt z
    rw [nI_toInt (show q.1 < 2 ^ 31 by omega)] at this
    have y : (-4 : Int32).toInt = -4 := rfl
    omega
set_option maxHeartbeats 1000000 in
theorem m_power {i w : Int32} (h : MdV M m σ) (hI : SgI σ) (hQ : ∀ M', MdV M' m σ → Yfr M M' m → Q (some (.int (poG σ i w))) M') : wp F_Md_power 0 [.ref m, .int i, .int w, jk, jk] [] M Q := by
  have s : Scr M (sI M m 0 0) m := scr_0 (Or.inl rfl)
  have h' := h.scr s
  have sy := s.y
  simp only [B_Md_power_0, h.1.1, true_and]
  generalize sI M m 0 0 = M0 at h' sy
  simp only [h'.1.1, true_and]
  rw [k_mDone h']
  simp only [SS, List.cons_append, List.nil_append, B_Md_power_0, bI_ne]
  unfold poG at hQ
  cases hd : sDn σ with
  | false =>
    rw [hd] at hQ
    simp only [if_true, if_false, B_Md_power_0, Bool.false_eq_true] at hQ ⊢
    exact hQ M0 h' sy
  | true =>
    rw [hd] at hQ
    obtain ⟨d1, d2⟩ := dn_of hd
    have hw := hI.2.2.1
    simp only [Bool.true_eq_false, if_true, if_false, B_Md_power_15, h'.1.1, true_and] at hQ ⊢
    refine k_isElement h' hI d1 d2 ?_
    intro M1 V1 F1
    have y1 := sy.trans (cnY F1)
    simp only [SS, List.cons_append, List.nil_append, B_Md_power_15, bI_ne]
    cases hx : eltI (sRs σ) (sK σ) i with
    | none =>
      rw [hx] at hQ
      simp only [Option.isSome_none, if_true, B_Md_power_33] at hQ ⊢
      exact hQ M1 V1 y1
    | some o =>
      rw [hx] at hQ
      simp only [Option.isSome_some, Bool.true_eq_false, if_false, B_Md_power_15]
      rw [k_in, in_oix (n := 2) (by omega) (by rfl)]
      rcases oix_cases (n := 2) (by omega) w with ⟨e, he, rfl, ee⟩ | ⟨ee, -⟩
      case inr =>
        simp only [ee] at hQ
        simp only [SS, List.cons_append, List.nil_append, ee, Option.isSome_none, bI, Bool.false_eq_true, if_false, if_true, B_Md_power_15, B_Md_power_33]
        exact hQ M1 V1 y1
      simp only [ee] at hQ
      obtain ⟨a0, ha0, rfl, ea⟩ := eltI_some hx
      have S1 := V1.1
      have c00 : cl 0 = 0 := rfl
      have x0 : ixW M1 (m + 29) 0 := by
        have := ixW_of (M := M1) (j := 0) S1.powers.2 (by omega) (by omega)
        rw [nI_0] at this; exact this
      have j1 : (1 : Int32) = nI 1 := rfl
      have c200 : (200 : Int32) = nI 200 := rfl
      simp only [SS, List.cons_append, List.nil_append, ee, Option.isSome_some, bI, if_true, i10, if_false, B_Md_power_15, B_Md_power_36, S1.1, S1.powers.1, x0, c00, true_and, j1]
      have F2 : FrS (fun b => b = m + 29) M1 (sI M1 (m + 29) 0 0) := FrS.sI rfl
      have V2 := sFr V1 F2 (Or.inr (Or.inr rfl))
      have P2 : ∀ q, q < ([0] : List Nat).length → gI (sI M1 (m + 29) 0 0) (m + 29) q = nI (([0] : List Nat).getD q 0) := fun q hq => by
        have : q = 0 := by simpa using hq
        subst this
        rw [gI_sI, if_pos ⟨rfl, rfl⟩]; rfl
      have y2 := y1.trans (F2.z.weaken (T := fun b => m ≤ b ∧ b < m + 30) (fun b q => by omega))
      generalize sI M1 (m + 29) 0 0 = M2 at V2 P2 y2
      have loop : ∀ (d : Nat) (ps : List Nat) (a : List Nat) (M' : Mm) (l4 : Value), ps.length + d = 201 → 1 ≤ ps.length → (∀ q ∈ ps, q < 2147483648) → elt (sRs σ) (sK σ) (ps.getD (ps.length - 1) 0) = some (some a) → (∀ q, q < ps.length → gI M' (m + 29) q = nI (ps.getD q 0)) → MdV M' m σ → Yfr M M' m → (∀ b, o = some b → pwS (sRs σ) (sK σ) b 200 [0] [] = pwS (sRs σ) (sK σ) b d ps a) → (o = none → 1 ≤ d) → wp F_Md_power 45 [.ref m, .int (nI a0), .int (nI e), .int (nI ps.length), l4] [] M' Q := by
        intro d
        induction d with
        | zero =>
          intro ps a M' l4 hp h1 hps hel P' V' y' hpw hno
          have e1 : nI 200 < nI ps.length := nI_lt (by omega) (by omega)
          simp only [B_Md_power_45, B_Md_power_136, c200, e1, if_true]
          have hq := hQ M' V' y'
          cases o with
          | none => have := hno rfl; omega
          | some b =>
            have h0 : pwS (sRs σ) (sK σ) b 0 ps a = some none := by rw [pwS]
            simp only at hq
            rw [hpw b rfl, h0] at hq
            exact hq
        | succ d ih =>
          intro ps a M' l4 hp h1 hps hel P' V' y' hpw hno
          have e1 : ¬ nI 200 < nI ps.length := nI_nlt (by omega) (by omega)
          have S' := V'.1
          have em : nI ps.length - 1 = nI (ps.length - 1) := by
            have := nI_pred (ps.length - 1)
            rw [show ps.length - 1 + 1 = ps.length by omega] at this
            exact this
          have x1 : ixI M' (m + 29) (nI (ps.length - 1)) := ixI_of S'.powers.2 (by omega) (by omega)
          have lst : ps.getD (ps.length - 1) 0 < 2147483648 := by
            rw [List.getD_eq_getElem?_getD, List.getElem?_eq_getElem (show ps.length - 1 < ps.length by omega)]
            exact hps _ (List.getElem_mem _)
          simp only [B_Md_power_45, SS, c200, e1, if_false, S'.1, S'.powers.1, em, x1, cl_nI (show ps.length - 1 < 2147483648 by omega), P' (ps.length - 1) (by omega), true_and]
          refine k_productOf V' hI d1 d2 lst ha0 hel ea ?_
          intro M3 V3 F3
          have S3 := V3.1
          have x2 : ixW M3 (m + 29) (nI ps.length) := ixW_of S3.powers.2 (by omega) (by omega)
          have x3 : ∀ v, ixI (sI M3 (m + 29) ps.length v) (m + 29) (nI ps.length) := fun v => ixI_of S3.powers.2 (by omega) (by omega)
          have clp := cl_nI (show ps.length < 2147483648 by omega)
          have F4 : ∀ v, FrS (fun b => b = m + 29) M3 (sI M3 (m + 29) ps.length v) := fun v => FrS.sI rfl
          have y4 : ∀ v, Yfr M (sI M3 (m + 29) ps.length v) m := fun v => (y'.trans (pdY F3)).trans ((F4 v).z.weaken (T := fun b => m ≤ b ∧ b < m + 30) (fun b q => by omega))
          have P3 : ∀ q, q < ps.length → gI M3 (m + 29) q = nI (ps.getD q 0) := fun q hq => ((F3.2.2.2.2 _ (by unfold pdZ; omega)).1 q).trans (P' q hq)
          have four : ∀ v : Int32, v = -4 → (∀ M', MdV M' m σ → Yfr M M' m → Q (some (.int (-4))) M') → wp F_Md_power 70 [.ref m, .int (nI a0), .int (nI e), .int (nI ps.length), l4] [.int v, .int (nI ps.length), .ref (m + 29)] M3 Q := by
            intro v hv hq
            subst hv
            simp only [B_Md_power_45, SS, S3.1, S3.powers.1, x2, x3, clp, and_self, if_true, true_and]
            exact hq _ (sFr V3 (F4 _) (Or.inr (Or.inr rfl))) (y4 _)
          simp only [SS, List.cons_append, List.nil_append]
          cases o with
          | none => exact four _ rfl (fun M' V' y' => hQ M' V' y')
          | some b =>
            have hpw := hpw b rfl
            have hbk := elt_lk ea
            have hak := elt_lk hel
            show wp F_Md_power 70 [.ref m, .int (nI a0), .int (nI e), .int (nI ps.length), l4] [.int (nbI (mulW (sRs σ) (sK σ) a b)), .int (nI ps.length), .ref (m + 29)] M3 Q
            have hR : pwS (sRs σ) (sK σ) b (d + 1) ps a = (match mulW (sRs σ) (sK σ) a b with
                | none => none
                | some (n, f) => match ps.findIdx? (fun q => q == n) with
                  | some e => some (some (e, ps.length - e))
                  | none => pwS (sRs σ) (sK σ) b d (ps ++ [n]) f) := by
              rw [pwS]
              cases mulW (sRs σ) (sK σ) a b with
              | none => rfl
              | some p =>
                obtain ⟨n, f⟩ := p
                simp only
                cases ps.findIdx? (fun q => q == n) <;> rfl
            rw [hR] at hpw
            cases hm : mulW (sRs σ) (sK σ) a b with
            | none =>
              refine four _ rfl (fun M' V' y' => ?_)
              have hq := hQ M' V' y'
              rw [hm] at hpw
              simp only at hq hpw
              rw [hpw] at hq
              exact hq
            | some p =>
              obtain ⟨n, f⟩ := p
              obtain ⟨n1, n2, n3, n4⟩ := mul_elt hw hak hbk hm
              rw [hm] at hpw
              simp only at hpw
              have ne4 : ¬ nI n = -4 := fun z => by
                have := nbI_ne (o := some (n, f)) (fun q hq => by cases hq; exact n1)
                rw [show nbI (some (n, f)) = nI n from rfl] at this
                have := this.mp z
                cases this
              simp only [nbI, B_Md_power_45, B_Md_power_85, SS, S3.1, S3.powers.1, x2, x3, clp, and_self, if_true, if_false, true_and, ne4, not_false_eq_true, ne_eq, ← nI_0]
              have V4 := sFr V3 (F4 (nI n)) (Or.inr (Or.inr rfl))
              have y4' := y4 (nI n)
              have P4 : ∀ q, q < ps.length → gI (sI M3 (m + 29) ps.length (nI n)) (m + 29) q = nI (ps.getD q 0) := fun q hq => by rw [gI_sI, if_neg (fun z => by omega)]; exact P3 q hq
              have P4n : gI (sI M3 (m + 29) ps.length (nI n)) (m + 29) ps.length = nI n := by rw [gI_sI, if_pos ⟨rfl, rfl⟩]
              generalize sI M3 (m + 29) ps.length (nI n) = M4 at V4 y4' P4 P4n
              have S4 := V4.1
              have find : ∀ dd q, q + dd = ps.length → (∀ j, j < q → ps.getD j 0 ≠ n) → wp F_Md_power 88 [.ref m, .int (nI a0), .int (nI e), .int (nI ps.length), .int (nI q)] [] M4 Q := by
                intro dd
                induction dd with
                | zero =>
                  intro q hq hno'
                  have e2 : nI ps.length ≤ nI q := nI_le (by omega) (by omega)
                  have hln : (ps ++ [n]).length = ps.length + 1 := by simp
                  simp only [B_Md_power_88, B_Md_power_130, SS, e2, if_true, nI_i1]
                  rw [G_Md_power_133, ← hln]
                  have hfi : ps.findIdx? (fun q => q == n) = none := by
                    rw [List.findIdx?_eq_none_iff]
                    intro x hx'
                    obtain ⟨j, hj, e⟩ := List.getElem_of_mem hx'
                    have := hno' j (by omega)
                    rw [List.getD_eq_getElem?_getD, List.getElem?_eq_getElem hj, Option.getD_some, e] at this
                    simpa using this
                  rw [hfi] at hpw
                  refine ih (ps ++ [n]) f M4 _ (by omega) (by omega) (fun x hx' => ?_) ?_ (fun j hj => ?_) V4 y4' (fun b' hb' => ?_) (fun q => by cases q)
                  · rcases List.mem_append.mp hx' with z | z
                    · exact hps x z
                    · rw [List.mem_singleton.mp z]; exact n1
                  · rw [hln, Nat.add_sub_cancel, getD_app (by omega), if_neg (by omega)]; exact n2
                  · rw [getD_app (by omega)]
                    by_cases z : j < ps.length
                    · rw [if_pos z]; exact P4 j z
                    · rw [if_neg z, show j = ps.length by omega]; exact P4n
                  · cases hb'; exact hpw
                | succ dd ihd =>
                  intro q hq hno'
                  have e2 : ¬ nI ps.length ≤ nI q := nI_ge (by omega) (by omega)
                  have x5 : ixI M4 (m + 29) (nI q) := ixI_of S4.powers.2 (by omega) (by omega)
                  have x6 : ixI M4 (m + 29) (nI ps.length) := ixI_of S4.powers.2 (by omega) (by omega)
                  have gq : ps.getD q 0 < 2147483648 := by
                    rw [List.getD_eq_getElem?_getD, List.getElem?_eq_getElem (show q < ps.length by omega)]
                    exact hps _ (List.getElem_mem _)
                  simp only [B_Md_power_88, SS, e2, if_false, S4.1, S4.powers.1, x5, x6, clp, cl_nI (show q < 2147483648 by omega), P4 q (by omega), P4n, true_and, nI_eq (show ps.getD q 0 < 2 ^ 31 by omega) (show n < 2 ^ 31 by omega)]
                  by_cases z : ps.getD q 0 = n
                  · simp only [z, not_true_eq_false, ne_eq, if_true, if_false]
                    have hfi : ps.findIdx? (fun q => q == n) = some q := by
                      rw [List.findIdx?_eq_some_iff_getElem]
                      refine ⟨by omega, ?_, fun j hj => ?_⟩
                      · rw [List.getD_eq_getElem?_getD, List.getElem?_eq_getElem (show q < ps.length by omega)] at z
                        simpa using z
                      · have := hno' j hj
                        rw [List.getD_eq_getElem?_getD, List.getElem?_eq_getElem (show j < ps.length by omega)] at this
                        simpa using this
                    rw [hfi] at hpw
                    have hq' := hQ M4 V4 y4'
                    simp only at hq' hpw
                    rw [hpw] at hq'
                    simp only at hq'
                    have e9 := bN e (by omega)
                    simp only [B_Md_power_88, e9]
                    by_cases y : e = 0
                    · simp only [y, not_true_eq_false, ne_eq, if_true, if_false, B_Md_power_88, B_Md_power_123]
                      rw [if_pos y] at hq'
                      exact hq'
                    · simp only [y, not_false_eq_true, ne_eq, if_true, if_false, B_Md_power_119, B_Md_power_123, pk_sub (show q ≤ ps.length by omega)]
                      rw [if_neg y] at hq'
                      exact hq'
                  · simp only [z, not_false_eq_true, ne_eq, if_true, if_false, B_Md_power_124, SS, nI_i1]
                    rw [G_Md_power_127]
                    refine ihd (q + 1) (by omega) (fun j hj => ?_)
                    by_cases y : j = q
                    · rw [y]; exact z
                    · exact hno' j (by omega)
              exact find ps.length 0 (by omega) (fun j hj => by omega)
      have := loop 200 [0] [] M2 jk rfl (by simp) (fun q hq => by rw [List.mem_singleton.mp hq]; omega) (elt0 hw) P2 V2 y2 (fun b _ => rfl) (fun _ => by omega)
      exact this
end MC
