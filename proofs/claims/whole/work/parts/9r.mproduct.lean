/-! the reference's calls: products, powers -/
def prO (rs : List Ru) (k : Nat) (o1 o2 : Option (List Nat)) : Int32 := match o1, o2 with
  | none, _ => -4
  | some _, none => -4
  | some u, some v => nbI (mulW rs k u v)
theorem i32_nat {v : Int32} (z : ¬ v < 0) : ∃ n, n < 2147483648 ∧ v = nI n := by
  rcases pk_ix v (n := 2147483647) (by omega) with y | y | ⟨j, hj, rfl⟩
  · exact absurd y z
  · refine ⟨2147483647, by omega, ?_⟩
    have h1 := Int32.le_iff_toInt_le.mp y
    rw [nI_toInt (by omega)] at h1
    apply Int32.toInt_inj.mp
    rw [nI_toInt (by omega)]
    have := Int32.toInt_lt v
    omega
  · exact ⟨j, by omega, rfl⟩
theorem eltI_some {rs : List Ru} {k : Nat} {v : Int32} {o : Option (List Nat)} (h : eltI rs k v = some o) : ∃ n, n < 2147483648 ∧ v = nI n ∧ elt rs k n = some o := by
  unfold eltI at h
  by_cases z : v < 0
  · rw [if_pos z] at h; cases h
  · rw [if_neg z] at h
    obtain ⟨n, hn, rfl⟩ := i32_nat z
    rw [cl_nI hn] at h
    exact ⟨n, hn, rfl, h⟩
section MC
variable {M : Mm} {m : Nat} {σ : Sg} {Q : Option Value → Mm → Prop}
theorem sFr {M1 M2 : Mm} {dst : Nat} (V : MdV M1 m σ) (F : FrS (fun b => b = dst) M1 M2) (hd : dst = m + 14 ∨ dst = m + 15 ∨ dst = m + 29) : MdV M2 m σ := V.scr (scr_of F (fun b q => by unfold scC; omega) (fun j _ => F.gI (by omega) j))
theorem k_productOf {a b : Nat} {o1 o2 : Option (List Nat)} (h : MdV M m σ) (hI : SgI σ) (hr : sRow σ = []) (hs : sSt σ = false) (ha : a < 2147483648) (hb : b < 2147483648) (h1 : elt (sRs σ) (sK σ) a = some o1) (h2 : elt (sRs σ) (sK σ) b = some o2) (hQ : ∀ M', MdV M' m σ → FrZ (pdZ m) M M' → Q (some (.int (prO (sRs σ) (sK σ) o1 o2))) M') : wp F_Md_productOf 0 [.ref m, .int (nI a), .int (nI b), jk, jk, jk] [] M Q := by
  have z0 : (0 : Int32) = nI 0 := rfl
  have c80 : (80 : Int32) = nI 80 := rfl
  simp only [B_Md_productOf_0, SS, h.1.1, h.1.one.1, true_and]
  rw [z0]
  refine k_layElement h hI hr hs ha (by rw [h1]; simp) (Or.inl rfl) ?_ ?_
  · intro ho M1 V1 F1
    rw [h1] at ho
    cases ho
    simp only [SS, List.cons_append, List.nil_append, B_Md_productOf_0, if_true]
    exact hQ M1 V1 (cnP F1)
  · intro u ho hul huk M1 M2 V1 F1 F2 A2
    rw [h1] at ho
    cases ho
    have V2 := sFr V1 F2 (Or.inl rfl)
    have P2 : FrZ (pdZ m) M M2 := (cnP F1).trans (F2.z.weaken (fun b q => Or.inr (Or.inl q)))
    simp only [SS, List.cons_append, List.nil_append, B_Md_productOf_0, nI_ne1 (show u.length < 2147483648 by omega), if_false, B_Md_productOf_19, V2.1.1, V2.1.other.1, true_and]
    rw [z0]
    refine k_layElement V2 hI hr hs hb (by rw [h2]; simp) (Or.inr rfl) ?_ ?_
    · intro ho M3 V3 F3
      rw [h2] at ho
      cases ho
      simp only [SS, List.cons_append, List.nil_append, B_Md_productOf_19, B_Md_productOf_46, if_true]
      exact hQ M3 V3 (P2.trans (cnP F3))
    · intro v ho hvl hvk M3 M4 V3 F3 F4 B4
      rw [h2] at ho
      cases ho
      have V4 := sFr V3 F4 (Or.inr (Or.inl rfl))
      have P4 : FrZ (pdZ m) M M4 := (P2.trans (cnP F3)).trans (F4.z.weaken (fun b q => Or.inr (Or.inr (Or.inl q))))
      have A4 : AR M4 (m + 14) 0 u := (A2.eq (fun j => (F3.2.2.2.2 _ (by unfold cnZ; omega)).1 j)).fr F4 (by omega)
      have S4 := V4.1
      simp only [SS, List.cons_append, List.nil_append, B_Md_productOf_19, nI_ne1 (show v.length < 2147483648 by omega), if_false, nI_add, c80, nI_leI (show u.length + v.length < 2 ^ 31 by omega) (show 80 < 2 ^ 31 by omega)]
      by_cases q : u.length + v.length ≤ 80
      · rw [if_pos q]
        have hQ : ∀ M', MdV M' m σ → FrZ (pdZ m) M M' → Q (some (.int (nbI (nbW (sRs σ) (sK σ) (u ++ v))))) M' := by
          have := hQ
          unfold prO mulW at this
          simp only [if_neg (show ¬ 80 < u.length + v.length by omega)] at this
          exact this
        simp only [B_Md_productOf_49, SS, ← nI_0]
        have loop : ∀ d i M5, i + d = v.length → FrS (fun b => b = m + 14) M4 M5 → AR M5 (m + 14) 0 (u ++ v.take i) → wp F_Md_productOf 52 [.ref m, .int (nI a), .int (nI b), .int (nI u.length), .int (nI v.length), .int (nI i)] [] M5 Q := by
          intro d
          induction d with
          | zero =>
            intro i M5 hi F5 A5
            have e1 : nI v.length ≤ nI i := nI_le (by omega) (by omega)
            have V5 := sFr V4 F5 (Or.inl rfl)
            rw [List.take_of_length_le (by omega)] at A5
            have hln : u.length + v.length = (u ++ v).length := by simp
            simp only [B_Md_productOf_52, B_Md_productOf_81, e1, if_true, V5.1.1, nI_add, true_and, hln]
            refine k_numberOf V5 hI hr hs A5 (by omega) (fun c hc => ?_) ?_
            · rcases List.mem_append.mp hc with z | z
              · exact huk c z
              · exact hvk c z
            intro M6 V6 F6
            simp only [SS, List.cons_append, List.nil_append, B_Md_productOf_81]
            exact hQ M6 V6 ((P4.trans (F5.z.weaken (fun b q => Or.inr (Or.inl q)))).trans F6)
          | succ d ih =>
            intro i M5 hi F5 A5
            have e1 : ¬ nI v.length ≤ nI i := nI_ge (by omega) (by omega)
            have S5 := S4.fr F5
            have x1 : ixW M5 (m + 14) (nI (u.length + i)) := ixW_of S5.one.2 (by omega) (by omega)
            have x2 : ixI M5 (m + 15) (nI i) := ixI_of S5.other.2 (by omega) (by omega)
            have gv : gI M5 (m + 15) i = nI (v.getD i 0) := by
              have := B4 i (by omega)
              rw [Nat.zero_add] at this
              exact (F5.gI (by omega) _).trans this
            simp only [B_Md_productOf_52, SS, e1, if_false, S5.1, S5.one.1, S5.other.1, nI_add, x1, x2, cl_nI (show u.length + i < 2147483648 by omega), cl_nI (show i < 2147483648 by omega), gv, true_and, nI_i1]
            rw [G_Md_productOf_78]
            refine ih (i + 1) _ (by omega) (F5.trans (FrS.sI rfl)) ?_
            rw [take_succ_getD 0 (by omega), ← List.append_assoc]
            have hln : (u ++ v.take i).length = u.length + i := by rw [List.length_append, List.length_take]; omega
            refine AR.app (fun q hq => ?_) ?_
            · rw [gI_sI, if_neg (fun z => by omega)]; exact A5 q hq
            · rw [gI_sI, if_pos ⟨rfl, by omega⟩]
        exact loop v.length 0 M4 (by omega) FrS.rfl (by simpa using A4)
      · rw [if_neg q]
        have hq := hQ M4 V4 P4
        unfold prO mulW at hq
        simp only [if_pos (show 80 < u.length + v.length by omega)] at hq
        simp only [B_Md_productOf_46]
        exact hq
theorem m_product {i j : Int32} (h : MdV M m σ) (hI : SgI σ) (hQ : ∀ M', MdV M' m σ → Yfr M M' m → Q (some (.int (pdG σ i j))) M') : wp F_Md_product 0 [.ref m, .int i, .int j] [] M Q := by
  have s : Scr M (sI M m 0 0) m := scr_0 (Or.inl rfl)
  have h' := h.scr s
  have sy := s.y
  simp only [B_Md_product_0, h.1.1, true_and]
  generalize sI M m 0 0 = M0 at h' sy
  simp only [h'.1.1, true_and]
  rw [k_mDone h']
  simp only [SS, List.cons_append, List.nil_append, B_Md_product_0, bI_ne]
  unfold pdG at hQ
  cases hd : sDn σ with
  | false =>
    rw [hd] at hQ
    simp only [if_true, if_false, B_Md_product_0, Bool.false_eq_true] at hQ ⊢
    exact hQ M0 h' sy
  | true =>
    rw [hd] at hQ
    obtain ⟨d1, d2⟩ := dn_of hd
    simp only [Bool.true_eq_false, if_true, if_false, B_Md_product_15, h'.1.1, true_and] at hQ ⊢
    refine k_isElement h' hI d1 d2 ?_
    intro M1 V1 F1
    simp only [SS, List.cons_append, List.nil_append, B_Md_product_15, bI_ne]
    cases hx : eltI (sRs σ) (sK σ) i with
    | none =>
      rw [hx] at hQ
      simp only [Option.isSome_none, if_true, B_Md_product_31, B_Md_product_42] at hQ ⊢
      exact hQ M1 V1 (sy.trans (cnY F1))
    | some o1 =>
      rw [hx] at hQ
      simp only [Option.isSome_some, Bool.true_eq_false, if_false, B_Md_product_15, V1.1.1, true_and]
      refine k_isElement V1 hI d1 d2 ?_
      intro M2 V2 F2
      simp only [SS, List.cons_append, List.nil_append, B_Md_product_15, bI_ne]
      cases hy : eltI (sRs σ) (sK σ) j with
      | none =>
        rw [hy] at hQ
        simp only [Option.isSome_none, if_true, if_false, B_Md_product_31, B_Md_product_42]
        have := hQ M2 V2 ((sy.trans (cnY F1)).trans (cnY F2))
        cases o1 <;> exact this
      | some o2 =>
        rw [hy] at hQ
        obtain ⟨a, ha, rfl, ea⟩ := eltI_some hx
        obtain ⟨b, hb, rfl, eb⟩ := eltI_some hy
        simp only [Option.isSome_some, Bool.true_eq_false, if_true, if_false, B_Md_product_36, V2.1.1, true_and]
        refine k_productOf V2 hI d1 d2 ha hb ea eb ?_
        intro M3 V3 F3
        simp only [SS, List.cons_append, List.nil_append, B_Md_product_36, B_Md_product_42]
        have := hQ M3 V3 (((sy.trans (cnY F1)).trans (cnY F2)).trans (pdY F3))
        cases o1 with
        | none => exact this
        | some u =>
          cases o2 with
          | none => exact this
          | some v => exact this
theorem nb_elt {rs : List Ru} {k n : Nat} {l f : List Nat} (hw : RWf rs k) (hl : l.length ≤ 80) (hlk : ∀ c ∈ l, c < k) (h : nbW rs k l = some (n, f)) : n < 2147483648 ∧ elt rs k n = some (some f) ∧ f.length ≤ 80 ∧ ∀ c ∈ f, c < k := by
  unfold nbW at h
  cases hf : form rs l with
  | none => rw [hf] at h; cases h
  | some p =>
    obtain ⟨f', tr⟩ := p
    rw [hf] at h
    simp only at h
    unfold nmb at h
    have hk := form_k hw (show l.length ≤ 120 by omega) hlk hf
    have hle := form_len hw (show l.length ≤ 120 by omega) hf
    have hirr := form_irr hw (show l.length ≤ 120 by omega) hf hk
    by_cases z : (rkT rs k f').sum ≤ 2147483647
    · rw [if_pos z] at h
      simp only [Option.some.injEq, Prod.mk.injEq] at h
      obtain ⟨h1, h2⟩ := h
      subst h2
      refine ⟨by omega, ?_, by omega, hk⟩
      unfold elt
      rw [← h1, elS_rk hirr (by omega)]
    · rw [if_neg z] at h; cases h
theorem elt_zero {rs : List Ru} {k : Nat} : elt rs k 0 = some (some []) ∨ wy rs k 0 [] = 0 := by
  by_cases z : wy rs k 0 [] = 0
  · exact Or.inr z
  · refine Or.inl ?_
    have := elS_rk (rs := rs) (k := k) (w := []) (by unfold irr; unfold wy at z; split at z <;> simp_all) (by simp)
    unfold elt
    simp only [rkT, rkL, List.length_nil, List.range_zero, List.map_nil, List.append_nil, List.sum_nil] at this
    rw [this]
end MC
