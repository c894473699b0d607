theorem nd_okU {rs : List Ru} {str : Nat → List Nat} {N : Nat} : (okU rs str N).Nodup ∧ ∀ t, t ∈ okU rs str N ↔ RnM N rs str t := by
  refine ⟨List.Pairwise.filter _ List.nodup_range, fun t => ?_⟩
  unfold okU RnM
  rw [List.mem_filter, List.mem_range]
theorem edg_len {k : Nat} : ∀ U : List Nat, (edg k U).length = U.length * k := by
  intro U
  induction U with
  | nil => simp [edg]
  | cons a U ih => unfold edg at *; rw [List.flatMap_cons, List.length_append, ih]; simp [Nat.succ_mul]; omega
/-- the counting's state in the store -/
def KnV (M : Mm) (I Qa P N : Nat) (R : Nat → Prop) (come val : Nat → Nat) (q : List Nat) : Prop := (∀ t, R t → gI M I t = nI (come t)) ∧ (∀ t, R t → gJ M P t = lN (cp (val t))) ∧ ∀ j, j < q.length → gI M Qa j = nI (q.getD j 0)
theorem getD_of {q : List Nat} {j t : Nat} (h : q[j]? = some t) : q.getD j 0 = t := by rw [List.getD_eq_getElem?_getD, h]; rfl
theorem k_countPaths {M : Mm} {x A B C D cap k N W I Qa P wl ql : Nat} {rs : List Ru} {str : Nat → List Nat} {Q : Option Value → Mm → Prop} (hE : ElS M x W I Qa P wl ql) (hM : Mch M x A B C D cap rs k N str) (hw : RWf rs k) (hac : AC rs) (hN : N ≤ ql) (h0 : ∀ t, t < N → gI M I t = 0) (hp0 : ∀ t, t < N → gJ M P t = 0)
    (hQ : ∀ M', FrZ (qZ I Qa P) M M' → Q (some (.long (totJ rs k))) M') : wp F_Elements_countPaths 0 [.ref (x + 1034), jk, jk, jk, jk, jk, jk, jk, jk] [] M Q := by
  have hcap := hM.1.2.2.2.2.2.2.1
  have hNc := hM.2.1
  have hN1 := hM.2.2.2.2.1
  have hk8 := hw.2.1
  have hrs := hw.2.2
  have hql := hE.2.2.2.2.2.2.2.2
  have dIQ := hE.2.2.2.1.2
  have hG := hM.2.gr hcap hw
  have hreach : ∀ t, RnM N rs str t → ∃ a, pth k (toM M A) (RnM N rs str) 0 a t := fun t ht => hM.2.reach hcap hw hac ht
  have hin : ∀ t, RnM N rs str t → t ≠ 0 → ∃ m l, RnM N rs str m ∧ l < k ∧ toM M A m l = t := fun t ht hne => by
    obtain ⟨a, ha⟩ := hreach t ht
    exact pth_last a 0 ha hne
  have hwy0 : ∀ m, wyG k (toM M A) (okM rs str) m 0 = wy rs k m [] := fun m => by
    have := hM.2.wy hcap m 0 hN1
    rw [hM.2.2.2.2.2.1] at this
    exact this
  obtain ⟨ndU, memU⟩ := nd_okU (rs := rs) (str := str) (N := N)
  have hUl : (okU rs str N).length ≤ N := by
    have := nodup_le ndU (m := List.range N) (fun t ht => List.mem_range.mpr ((memU t).mp ht).1)
    rwa [List.length_range] at this
  have hCAP : CAP = 1000000000000001 := rfl
  have z0 : (0 : Int32) = nI 0 := rfl
  have l0 : (0 : Int64) = lN 0 := by decide
  have l1 : (1 : Int64) = lN 1 := by decide
  -- the end
  have fin : ∀ rem come val q U n tot M' l5 l6 l7 l8, KN k (toM M A) (okM rs str) (RnM N rs str) rem come val q U q.length n k tot → q.length ≤ N → FrZ (qZ I Qa P) M M' → wp F_Elements_countPaths 200 [.ref (x + 1034), .int (nI (okU rs str N).length), .int (nI q.length), .long (lN (cp tot)), jk, l5, l6, l7, l8] [] M' Q := by
    intro rem come val q U n tot M' l5 l6 l7 l8 K hqN ff
    have c1 := nI_leI (show (okU rs str N).length < 2 ^ 31 by omega) (show q.length < 2 ^ 31 by omega)
    simp only [B_Elements_countPaths_200, c1]
    by_cases hle : (okU rs str N).length ≤ q.length
    · have hall : ∀ t, RnM N rs str t → t ∈ q := fun t ht => by
        cases Classical.em (t ∈ q) with
        | inl y => exact y
        | inr y =>
          have h1 : (t :: q).Nodup := List.nodup_cons.mpr ⟨y, K.1.1⟩
          have := nodup_le h1 (m := okU rs str N) (fun u hu => (memU u).mpr (by
            rcases List.mem_cons.mp hu with z | z
            · rw [z]; exact ht
            · exact K.1.2.1 u z))
          simp at this
          omega
      obtain ⟨f1, f2⟩ := K.fin hG hall
      rw [hwy0] at f1
      have ht := tot_some f1
      have h2 : tot = lenS rs k q.length := by
        rw [f2]
        unfold lenS
        exact sum_congr (fun a _ => hwy0 a)
      have c2 := lcLe (a := cp tot) (b := 1000000000000000) (by have := cp_le tot; omega) (by omega)
      simp only [hle, if_true, B_Elements_countPaths_209, lM0, c2]
      have hcp : (cp tot ≤ 1000000000000000) ↔ ¬ 1000000000000000 < tot := by unfold cp; omega
      have := hQ M' ff
      by_cases hm : 1000000000000000 < tot
      · have hm2 : ¬ cp tot ≤ 1000000000000000 := by rw [hcp]; omega
        have e : totJ rs k = -4 := by unfold totJ; rw [ht, ← h2]; simp only; rw [if_pos hm]
        simp only [hm2, if_false, B_Elements_countPaths_224]
        rw [e] at this
        exact this
      · have hm2 : cp tot ≤ 1000000000000000 := by rw [hcp]; exact hm
        have e : totJ rs k = lN (cp tot) := by
          unfold totJ
          rw [ht, ← h2]
          simp only
          rw [if_neg hm, show cp tot = tot by unfold cp; omega]
        simp only [hm2, if_true, B_Elements_countPaths_223, B_Elements_countPaths_224]
        rw [e] at this
        exact this
    · have hne : ∃ t, RnM N rs str t ∧ t ∉ q := by
        cases Classical.em (∃ t, RnM N rs str t ∧ t ∉ q) with
        | inl y => exact y
        | inr y =>
          exfalso
          apply hle
          refine nodup_le ndU (fun u hu => ?_)
          cases Classical.em (u ∈ q) with
          | inl w => exact w
          | inr w => exact absurd ⟨u, (memU u).mp hu, w⟩ y
      obtain ⟨t, ht, htq⟩ := hne
      have hend := K.endless hG hreach ht htq
      have htn := tot_none (rs := rs) (k := k) (fun m => by have := hend m; rw [hwy0] at this; exact this)
      simp only [hle, if_false]
      have e : totJ rs k = -5 := by unfold totJ; rw [htn]
      have := hQ M' ff
      rw [e] at this
      exact this
  have inner : ∀ d l rem come val q U h n tot M' l8, l + d = k → KN k (toM M A) (okM rs str) (RnM N rs str) rem come val q U (h + 1) n l tot → rem.length ≤ 96008 → q.length ≤ N → RnM N rs str n → FrZ (qZ I Qa P) M M' → KnV M' I Qa P N (RnM N rs str) come val q →
      (∀ rem come val q U M' l8, KN k (toM M A) (okM rs str) (RnM N rs str) rem come val q U (h + 1) n k tot → rem.length ≤ 96008 → q.length ≤ N → FrZ (qZ I Qa P) M M' → KnV M' I Qa P N (RnM N rs str) come val q → wp F_Elements_countPaths 194 [.ref (x + 1034), .int (nI (okU rs str N).length), .int (nI q.length), .long (lN (cp tot)), jk, .int (nI h), .int (nI n), .int (nI k), l8] [] M' Q) →
      wp F_Elements_countPaths 80 [.ref (x + 1034), .int (nI (okU rs str N).length), .int (nI q.length), .long (lN (cp tot)), jk, .int (nI h), .int (nI n), .int (nI l), l8] [] M' Q := by
    intro d
    induction d with
    | zero =>
      intro l rem come val q U h n tot M' l8 hl K hrem hqN hRn ff hv next
      obtain ⟨hM', gA⟩ := hM.frZ hE ff
      have hE' := hE.frZ ff
      have e1 : nI k ≤ nI l := nI_le (by omega) (by omega)
      have hlk : l = k := by omega
      subst hlk
      simp only [B_Elements_countPaths_80, SS, hE'.1, hE'.2.1.2.1, hM'.1.1, hM'.2.2.2.1, e1, if_true, true_and]
      exact next rem come val q U M' l8 K hrem hqN ff hv
    | succ d ih =>
      intro l rem come val q U h n tot M' l8 hl K hrem hqN hRn ff hv next
      obtain ⟨hM', gA⟩ := hM.frZ hE ff
      have hE' := hE.frZ ff
      have hlk : l < k := by omega
      have e1 : ¬ nI k ≤ nI l := nI_ge (by omega) (by omega)
      obtain ⟨t1, t2, t3⟩ := hM.2.to hcap hRn.1 hlk
      have hbe : ∀ i, endAt rs (str (toM M A n l)) = some i → i < 2147483648 := fun i hi => by have := (endAt_some hi).1; omega
      simp only [B_Elements_countPaths_80, SS, hE'.1, hE'.2.1.2.1, hM'.1.1, hM'.2.2.2.1, e1, if_false, true_and]
      rw [k_after hM'.1 (by have := hRn.1; omega), gA, t2]
      simp only [SS, List.cons_append, List.nil_append, B_Elements_countPaths_80, hE'.1, hE'.2.1.2.1, hM'.1.1, true_and]
      rw [k_isReducible hM'.1 (show toM M A n l < cap by omega) (hM'.2.2.2.2.2.2.2.2.2.2 _ t1) hbe]
      simp only [SS, List.cons_append, List.nil_append, B_Elements_countPaths_80, bI_ne]
      have hrl : (rem.erase (n, l)).length ≤ 96008 := Nat.le_trans (List.length_erase_le) hrem
      cases hb : (endAt rs (str (toM M A n l))).isSome with
      | true =>
        have hok : okM rs str (toM M A n l) = false := by unfold okM; rw [Option.isNone_eq_false_iff]; exact hb
        simp only [Bool.true_eq_false, if_false, B_Elements_countPaths_188, SS, nI_i1]
        rw [G_Elements_countPaths_191]
        exact ih (l + 1) _ come val q U h n tot M' _ (by omega) (K.skip hG hlk hok) hrl hqN hRn ff hv next
      | false =>
        have hok : okM rs str (toM M A n l) = true := by
          unfold okM
          cases he : endAt rs (str (toM M A n l)) with
          | none => rfl
          | some r => rw [he] at hb; cases hb
        obtain ⟨c1, c2, c3, c4, K2⟩ := K.edge hG hlk hok
        have hcb : come (toM M A n l) ≤ 96008 := by
          have := K.2.2.2.1 _ c2
          rw [this]
          exact Nat.le_trans List.countP_le_length hrem
        generalize hto : toM M A n l = to at *
        have i1 : ∀ N2 : Mm, sh N2 P = some (.inr (1, ql)) → ixJ N2 P (nI to) := fun N2 h2 => ixJ_of h2 (by omega) (by omega)
        have i2 : ixJ M' P (nI n) := ixJ_of hE'.2.2.1.2.2.2 (by have := hRn.1; omega) (by omega)
        have i3 : ∀ N2 : Mm, sh N2 I = some (.inr (0, ql)) → ixI N2 I (nI to) := fun N2 h2 => ixI_of h2 (by omega) (by omega)
        have i4 : ∀ N2 : Mm, sh N2 I = some (.inr (0, ql)) → ixW N2 I (nI to) := fun N2 h2 => ixW_of h2 (by omega) (by omega)
        have e5 : cl (nI to) = to := cl_nI (by omega)
        have e6 : cl (nI n) = n := cl_nI (by have := hRn.1; omega)
        have e7 : lN (cp (val to)) + lN (cp (val n)) = lN (cp (val to) + cp (val n)) := lN_add _ _
        have e8 : nI (come to) - 1 = nI (come to - 1) := by
          have := nI_pred (come to - 1)
          rw [show come to - 1 + 1 = come to by omega] at this
          exact this
        have e9 : (nI (come to - 1) = 0) = (come to = 1) := by
          rw [bN _ (by omega)]
          exact propext ⟨fun y => by omega, fun y => by omega⟩
        simp only [if_true, B_Elements_countPaths_120, SS, hE'.1, hE'.2.1.2.2.2.2.2, i1 M' hE'.2.2.1.2.2.2, i2, e5, e6, hv.2.1 to c2, hv.2.1 n hRn, e7, true_and]
        rw [k_capped (by have := cp_le (val to); have := cp_le (val n); omega)]
        have hcpv : cp (cp (val to) + cp (val n)) = cp (val to + val n) := by rw [cp_add, cp_add']
        have f1 : FrZ (qZ I Qa P) M' (sJ M' P to (lN (cp (val to + val n)))) := FrZ.sJ (Or.inr (Or.inr rfl))
        have f2 : FrZ (qZ I Qa P) M' (sI (sJ M' P to (lN (cp (val to + val n)))) I to (nI (come to - 1))) := f1.trans (FrZ.sI (Or.inl rfl))
        have sI1 : sh (sJ M' P to (lN (cp (val to + val n)))) I = some (.inr (0, ql)) := hE'.2.2.1.2.1
        have sI2 : sh (sI (sJ M' P to (lN (cp (val to + val n)))) I to (nI (come to - 1))) I = some (.inr (0, ql)) := hE'.2.2.1.2.1
        simp only [SS, List.cons_append, List.nil_append, B_Elements_countPaths_120, hcpv, i1 M' hE'.2.2.1.2.2.2, hE'.1, hE'.2.1.2.2.2.1, i3 _ sI1, i4 _ sI1, i3 _ sI2, e5, hv.1 to c2, e8, and_self, if_true, e9, true_and]
        have hv2 : KnV (sI (sJ M' P to (lN (cp (val to + val n)))) I to (nI (come to - 1))) I Qa P N (RnM N rs str) (upd1 come to (come to - 1)) (upd1 val to (val to + val n)) q := by
          refine ⟨fun t ht => ?_, fun t ht => ?_, fun j hj => ?_⟩
          · rw [gI_sI, gI_sJ]
            unfold upd1
            by_cases y : t = to
            · rw [if_pos ⟨rfl, y⟩, if_pos y]
            · rw [if_neg (fun w => y w.2), if_neg y]; exact hv.1 t ht
          · rw [gJ_sI, gJ_sJ]
            unfold upd1
            by_cases y : t = to
            · rw [if_pos ⟨rfl, y⟩, if_pos y]
            · rw [if_neg (fun w => y w.2), if_neg y]; exact hv.2.1 t ht
          · rw [gI_sI, if_neg (fun w => dIQ w.1.symm), gI_sJ]; exact hv.2.2 j hj
        by_cases hc1 : come to = 1
        · rw [if_pos hc1] at K2
          have hqN2 : (q ++ [to]).length ≤ N := by
            have := nodup_le K2.1.1 (m := List.range N) (fun u hu => List.mem_range.mpr (K2.1.2.1 u hu).1)
            rwa [List.length_range] at this
          simp only [List.length_append, List.length_cons, List.length_nil] at hqN2
          have i5 : ixW (sI (sJ M' P to (lN (cp (val to + val n)))) I to (nI (come to - 1))) Qa (nI q.length) := ixW_of hE'.2.2.1.2.2.1 (by omega) (by omega)
          have e10 : cl (nI q.length) = q.length := cl_nI (by omega)
          have hxI : ¬ x + 1013 = I := by have := hE'.2.2.2.2.1.2.1.1; unfold eA at this; omega
          have e11 : ¬ nI N ≤ nI q.length := nI_ge (by omega) (by omega)
          simp only [hc1, if_true, B_Elements_countPaths_120, B_Elements_countPaths_188, SS, hE'.1, hE'.2.1.2.1, hM'.1.1, hM'.2.2.1, hxI, false_and, e11, if_false, hE'.2.1.2.2.2.2.1, nI_i1, e10, true_and]
          rw [hc1] at i5 hv2 f2 K2
          refine ⟨i5, ?_⟩
          rw [G_Elements_countPaths_191]
          have hv3 : KnV (sI (sI (sJ M' P to (lN (cp (val to + val n)))) I to (nI (1 - 1))) Qa q.length (nI to)) I Qa P N (RnM N rs str) (upd1 come to (1 - 1)) (upd1 val to (val to + val n)) (q ++ [to]) := by
            refine ⟨fun t ht => ?_, fun t ht => ?_, fun j hj => ?_⟩
            · rw [gI_sI, if_neg (fun w => dIQ w.1)]; exact hv2.1 t ht
            · rw [gJ_sI]; exact hv2.2.1 t ht
            · rw [gI_sI, getD_app (by simpa using hj)]
              by_cases y : j < q.length
              · rw [if_pos y, if_neg (fun w => by omega)]; exact hv2.2.2 j y
              · simp only [List.length_append, List.length_cons, List.length_nil] at hj
                rw [if_neg y, if_pos ⟨rfl, by omega⟩]
          have := ih (l + 1) _ _ _ (q ++ [to]) U h n tot (sI (sI (sJ M' P to (lN (cp (val to + val n)))) I to (nI (1 - 1))) Qa q.length (nI to)) (.int (nI to)) (by omega) K2 hrl (by simp; omega) hRn (ff.trans (f2.trans (FrZ.sI (Or.inr (Or.inl rfl))))) hv3 next
          rw [List.length_append] at this
          exact this
        · rw [if_neg hc1] at K2
          simp only [hc1, if_false, B_Elements_countPaths_188, SS, nI_i1]
          rw [G_Elements_countPaths_191]
          exact ih (l + 1) _ _ _ q U h n tot _ (.int (nI to)) (by omega) K2 hrl hqN hRn (ff.trans f2) hv2 next
  have outer : ∀ d h rem come val q U n tot M' l6 l7 l8, h + d = N → KN k (toM M A) (okM rs str) (RnM N rs str) rem come val q U h n k tot → rem.length ≤ 96008 → q.length ≤ N → FrZ (qZ I Qa P) M M' → KnV M' I Qa P N (RnM N rs str) come val q → wp F_Elements_countPaths 37 [.ref (x + 1034), .int (nI (okU rs str N).length), .int (nI q.length), .long (lN (cp tot)), jk, .int (nI h), l6, l7, l8] [] M' Q := by
    intro d
    induction d with
    | zero =>
      intro h rem come val q U n tot M' l6 l7 l8 hh K hrem hqN ff hv
      obtain ⟨hM', gA⟩ := hM.frZ hE ff
      have hE' := hE.frZ ff
      have e1 : nI N ≤ nI h := nI_le (by omega) (by omega)
      have hhq : h = q.length := by have := K.1.2.2.1; omega
      rw [hhq] at K
      simp only [B_Elements_countPaths_37, SS, hE'.1, hE'.2.1.2.1, hM'.1.1, hM'.2.2.1, e1, if_true, true_and]
      exact fin rem come val q U n tot M' _ _ _ _ K hqN ff
    | succ d ih =>
      intro h rem come val q U n tot M' l6 l7 l8 hh K hrem hqN ff hv
      obtain ⟨hM', gA⟩ := hM.frZ hE ff
      have hE' := hE.frZ ff
      have e1 : ¬ nI N ≤ nI h := nI_ge (by omega) (by omega)
      by_cases hq : h < q.length
      · have e2 : ¬ nI q.length ≤ nI h := nI_ge (by omega) (by omega)
        obtain ⟨m, hm⟩ : ∃ m, q[h]? = some m := ⟨q[h], List.getElem?_eq_getElem hq⟩
        obtain ⟨K2, hRm⟩ := K.next hm
        have hmN := hRm.1
        have i1 : ixI M' Qa (nI h) := ixI_of hE'.2.2.1.2.2.1 (by omega) (by omega)
        have e3 : cl (nI h) = h := cl_nI (by omega)
        have e4 : gI M' Qa h = nI m := by rw [hv.2.2 h hq, getD_of hm]
        have i2 : ixJ M' P (nI m) := ixJ_of hE'.2.2.1.2.2.2 (by omega) (by omega)
        have e5 : cl (nI m) = m := cl_nI (by omega)
        simp only [B_Elements_countPaths_37, SS, hE'.1, hE'.2.1.2.1, hE'.2.1.2.2.2.2.1, hE'.2.1.2.2.2.2.2, hM'.1.1, hM'.2.2.1, e1, e2, if_false, i1, e3, e4, i2, e5, hv.2.1 m hRm, lN_add, true_and]
        rw [k_capped (by have := cp_le tot; have := cp_le (val m); omega)]
        have hcpv : cp (cp tot + cp (val m)) = cp (tot + val m) := by rw [cp_add, cp_add']
        simp only [SS, List.cons_append, List.nil_append, B_Elements_countPaths_37, hcpv]
        rw [z0]
        refine inner k 0 rem come val q (U.erase m) h m (tot + val m) M' _ (by omega) K2 hrem hqN hRm ff hv ?_
        intro rem2 come2 val2 q2 U2 M2 l8 K3 hrem2 hqN2 ff2 hv2
        simp only [B_Elements_countPaths_194, SS, nI_i1]
        rw [G_Elements_countPaths_197]
        exact ih (h + 1) rem2 come2 val2 q2 U2 m (tot + val m) M2 _ _ _ (by omega) K3 hrem2 hqN2 ff2 hv2
      · have e2 : nI q.length ≤ nI h := nI_le (by omega) (by omega)
        have hhq : h = q.length := by have := K.1.2.2.1; omega
        rw [hhq] at K
        simp only [B_Elements_countPaths_37, SS, hE'.1, hE'.2.1.2.1, hM'.1.1, hM'.2.2.1, e1, e2, if_true, if_false, true_and]
        exact fin rem come val q U n tot M' _ _ _ _ K hqN ff
  simp only [B_Elements_countPaths_0, hE.1, true_and]
  refine k_countIncoming hE hM hw hN h0 ?_
  intro M1 ff1 gi1 gj1 hc1
  have hE1 := hE.frZ ff1
  have hedl : (edg k (okU rs str N)).length ≤ 96008 := by
    rw [edg_len]
    have : (okU rs str N).length * k ≤ 12001 * 8 := Nat.mul_le_mul (by omega) hk8
    omega
  have K0 := KN.start hG (U := okU rs str N) ⟨ndU, memU⟩ (come := fun t => (edg k (okU rs str N)).countP (fun e => toM M A e.1 e.2 == t)) hin (fun t ht => rfl) 0
  have c0b : (edg k (okU rs str N)).countP (fun e => toM M A e.1 e.2 == 0) ≤ 96008 := Nat.le_trans List.countP_le_length hedl
  have i1 : ixI M1 I 0 := by
    have := ixI_of (M := M1) (j := 0) hE1.2.2.1.2.1 (by omega) (by omega)
    rw [nI_0] at this; exact this
  have c00 : cl 0 = 0 := rfl
  have e0 := bN ((edg k (okU rs str N)).countP (fun e => toM M A e.1 e.2 == 0)) (by omega)
  simp only [SS, List.cons_append, List.nil_append, B_Elements_countPaths_0, hE1.1, hE1.2.1.2.2.2.1, i1, c00, hc1 0 hN1, e0, true_and]
  by_cases hz : (edg k (okU rs str N)).countP (fun e => toM M A e.1 e.2 == 0) = 0
  · rw [if_pos hz] at K0
    have i2 : ixJ M1 P 0 := by
      have := ixJ_of (M := M1) (j := 0) hE1.2.2.1.2.2.2 (by omega) (by omega)
      rw [nI_0] at this; exact this
    have i3 : ixW (sJ M1 P 0 1) Qa 0 := by
      have := ixW_of (M := sJ M1 P 0 1) (j := 0) hE1.2.2.1.2.2.1 (by omega) (by omega)
      rw [nI_0] at this; exact this
    simp only [hz, if_true, B_Elements_countPaths_0, B_Elements_countPaths_32, SS, hE1.1, hE1.2.1.2.2.2.2.2, hE1.2.1.2.2.2.2.1, i2, i3, c00, true_and]
    have k1 : (1 : Int32) = nI 1 := rfl
    have ff2 : FrZ (qZ I Qa P) M (sI (sJ M1 P 0 1) Qa 0 0) := ff1.trans ((FrZ.sJ (Or.inr (Or.inr rfl))).trans (FrZ.sI (Or.inr (Or.inl rfl))))
    have hv0 : KnV (sI (sJ M1 P 0 1) Qa 0 0) I Qa P N (RnM N rs str) (fun t => (edg k (okU rs str N)).countP (fun e => toM M A e.1 e.2 == t)) (upd1 (fun _ => 0) 0 1) [0] := by
      refine ⟨fun t ht => ?_, fun t ht => ?_, fun j hj => ?_⟩
      · rw [gI_sI, if_neg (fun w => dIQ w.1), gI_sJ]; exact hc1 t ht.1
      · rw [gJ_sI, gJ_sJ]
        unfold upd1
        by_cases y : t = 0
        · rw [if_pos ⟨rfl, y⟩, if_pos y]; decide
        · rw [if_neg (fun w => y w.2), if_neg y, gj1, hp0 t ht.1]; show (0 : Int64) = lN (cp 0); decide
      · have : j = 0 := by simpa using hj
        subst this
        rw [gI_sI, if_pos ⟨rfl, rfl⟩]; rfl
    have := outer N 0 _ _ _ [0] _ 0 0 _ jk jk jk (by omega) K0 hedl (by simp; omega) ff2 hv0
    exact this
  · rw [if_neg hz] at K0
    simp only [hz, if_false, B_Elements_countPaths_32, SS]
    have hE1' := hE1
    obtain ⟨hM1, gA1⟩ := hM.frZ hE ff1
    have e1 : ¬ nI N ≤ 0 := nI_nle (by omega) (by omega)
    have e2 : (0 : Int32) ≤ 0 := by decide
    simp only [B_Elements_countPaths_37, SS, hE1.1, hE1.2.1.2.1, hM1.1.1, hM1.2.2.1, e1, e2, if_true, if_false, true_and]
    have := fin _ _ _ [] _ 0 0 M1 (.int 0) jk jk jk K0 (by simp) ff1
    exact this
